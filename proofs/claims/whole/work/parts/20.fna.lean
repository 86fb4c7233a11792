/-! printed: the functions of the methods, and that the small machine does them -/
def tx_add (t : Nat) (a1 : Int32) (M : mm_M) : Option (Unit × mm_M) :=
  if (M.1 t 2) < (160 : Int32) then
    if ak_inb (M.1 t 2) 160 = true then
    some ((), (ak_up (ak_up M.1 (t + 1) ((M.1 t 2).toNatClampNeg) a1) t 2 (((ak_up M.1 (t + 1) ((M.1 t 2).toNatClampNeg) a1) t 2) + (1 : Int32)), M.2)) else none
  else
    some ((), M)
set_option maxRecDepth 20000 in
set_option maxHeartbeats 4000000 in
theorem c_10 {Z : ak_Z} {d : Nat} (t : Nat) (a1 : Int32) (M : mm_M) (ht : mm_is10 t = true) {y : Unit × mm_M} (hf : tx_add t a1 M = some y) {Q : Option Value → ak_H → Prop} (hq : Q none (mm_H y.2)) : Ev Z (d + 0) 10 0 [some (.ref t), some (.int a1)] [] (mm_H M) Q := by
  rw [tx_add] at hf
  refine e_aload_n hm_10 rfl rfl ?_
  refine e_getI hm_10 rfl (mm_cl10 ht) rfl ?_
  refine e_aload_n hm_10 rfl rfl ?_
  refine e_getR hm_10 rfl (mm_cl10 ht) rfl (mm_rf10_0 ht) ?_
  refine e_alen (t := 0) (n := 160) (v := (160 : Int32)) hm_10 rfl (mm_ar10_0 ht) (by decide) (by decide) ?_
  by_cases hc1 : (M.1 t 2) < (160 : Int32)
  · rw [if_pos hc1] at hf
    refine e_ic_f hm_10 rfl (cf_ge hc1) ?_
    refine e_aload_n hm_10 rfl rfl ?_
    refine e_getR hm_10 rfl (mm_cl10 ht) rfl (mm_rf10_0 ht) ?_
    refine e_aload_n hm_10 rfl rfl ?_
    refine e_getI hm_10 rfl (mm_cl10 ht) rfl ?_
    refine e_iload_n hm_10 rfl rfl ?_
    obtain ⟨hi2, hf⟩ := mm_ite hf
    refine e_iast hm_10 rfl (mm_ar10_0 ht) hi2 ?_
    refine e_aload_n hm_10 rfl rfl ?_
    refine e_dupa hm_10 rfl ?_
    refine e_getI hm_10 rfl (mm_cl10 ht) rfl ?_
    refine e_iconst hm_10 rfl kc_iconst_1 ?_
    refine e_iadd hm_10 rfl ?_
    refine e_putI hm_10 rfl (mm_cl10 ht) rfl ?_
    obtain rfl := Option.some.inj hf
    exact e_vret hm_10 rfl rfl hq
  · rw [if_neg hc1] at hf
    refine e_ic_t (t := 32) hm_10 rfl (ct_ge hc1) rfl ?_
    obtain rfl := Option.some.inj hf
    exact e_vret hm_10 rfl rfl hq
def tx_endPart (t : Nat) (M : mm_M) : Option (Unit × mm_M) :=
  if (M.1 t 3) < (3 : Int32) then
    if ak_inb (M.1 t 3) 3 = true then
    some ((), (ak_up (ak_up M.1 (t + 2) ((M.1 t 3).toNatClampNeg) (M.1 t 2)) t 3 (((ak_up M.1 (t + 2) ((M.1 t 3).toNatClampNeg) (M.1 t 2)) t 3) + (1 : Int32)), M.2)) else none
  else
    some ((), M)
set_option maxRecDepth 20000 in
set_option maxHeartbeats 4000000 in
theorem c_11 {Z : ak_Z} {d : Nat} (t : Nat) (M : mm_M) (ht : mm_is10 t = true) {y : Unit × mm_M} (hf : tx_endPart t M = some y) {Q : Option Value → ak_H → Prop} (hq : Q none (mm_H y.2)) : Ev Z (d + 0) 11 0 [some (.ref t)] [] (mm_H M) Q := by
  rw [tx_endPart] at hf
  refine e_aload_n hm_11 rfl rfl ?_
  refine e_getI hm_11 rfl (mm_cl10 ht) rfl ?_
  refine e_iconst hm_11 rfl kc_iconst_3 ?_
  by_cases hc1 : (M.1 t 3) < (3 : Int32)
  · rw [if_pos hc1] at hf
    refine e_ic_f hm_11 rfl (cf_ge hc1) ?_
    refine e_aload_n hm_11 rfl rfl ?_
    refine e_getR hm_11 rfl (mm_cl10 ht) rfl (mm_rf10_1 ht) ?_
    refine e_aload_n hm_11 rfl rfl ?_
    refine e_getI hm_11 rfl (mm_cl10 ht) rfl ?_
    refine e_aload_n hm_11 rfl rfl ?_
    refine e_getI hm_11 rfl (mm_cl10 ht) rfl ?_
    obtain ⟨hi2, hf⟩ := mm_ite hf
    refine e_iast hm_11 rfl (mm_ar10_1 ht) hi2 ?_
    refine e_aload_n hm_11 rfl rfl ?_
    refine e_dupa hm_11 rfl ?_
    refine e_getI hm_11 rfl (mm_cl10 ht) rfl ?_
    refine e_iconst hm_11 rfl kc_iconst_1 ?_
    refine e_iadd hm_11 rfl ?_
    refine e_putI hm_11 rfl (mm_cl10 ht) rfl ?_
    obtain rfl := Option.some.inj hf
    exact e_vret hm_11 rfl rfl hq
  · rw [if_neg hc1] at hf
    refine e_ic_t (t := 31) hm_11 rfl (ct_ge hc1) rfl ?_
    obtain rfl := Option.some.inj hf
    exact e_vret hm_11 rfl rfl hq
def sh_isOne (t : Nat) (a1 : Int32) (M : mm_M) : Option (Int32 × mm_M) :=
  if a1 < (0 : Int32) then
    some ((0 : Int32), M)
  else
    if a1 < (M.1 t 4) then
      some ((1 : Int32), M)
    else
      some ((0 : Int32), M)
set_option maxRecDepth 20000 in
set_option maxHeartbeats 4000000 in
theorem c_16 {Z : ak_Z} {d : Nat} (t : Nat) (a1 : Int32) (M : mm_M) (ht : mm_is8 t = true) {y : Int32 × mm_M} (hf : sh_isOne t a1 M = some y) {Q : Option Value → ak_H → Prop} (hq : Q (some (.int y.1)) (mm_H y.2)) : Ev Z (d + 0) 16 0 [some (.ref t), some (.int a1)] [] (mm_H M) Q := by
  rw [sh_isOne] at hf
  refine e_iload_n hm_16 rfl rfl ?_
  by_cases hc1 : a1 < (0 : Int32)
  · rw [if_pos hc1] at hf
    refine e_if_t (t := 16) hm_16 rfl (ct_lt hc1) rfl ?_
    refine e_iconst hm_16 rfl kc_iconst_0 ?_
    obtain rfl := Option.some.inj hf
    exact e_zret hm_16 rfl rfl (by decide) hq
  · rw [if_neg hc1] at hf
    refine e_if_f hm_16 rfl (cf_lt hc1) ?_
    refine e_iload_n hm_16 rfl rfl ?_
    refine e_aload_n hm_16 rfl rfl ?_
    refine e_getI hm_16 rfl (mm_cl8 ht) rfl ?_
    by_cases hc2 : a1 < (M.1 t 4)
    · rw [if_pos hc2] at hf
      refine e_ic_f hm_16 rfl (cf_ge hc2) ?_
      refine e_iconst hm_16 rfl kc_iconst_1 ?_
      refine e_goto (t := 17) hm_16 rfl rfl ?_
      obtain rfl := Option.some.inj hf
      exact e_zret hm_16 rfl rfl (by decide) hq
    · rw [if_neg hc2] at hf
      refine e_ic_t (t := 16) hm_16 rfl (ct_ge hc2) rfl ?_
      refine e_iconst hm_16 rfl kc_iconst_0 ?_
      obtain rfl := Option.some.inj hf
      exact e_zret hm_16 rfl rfl (by decide) hq
def sh_has (t : Nat) (a1 : Int32) (a2 : Int32) (M : mm_M) : Option (Int32 × mm_M) :=
  if a1 < (0 : Int32) then
    if a1 < (3 : Int32) then
      some ((0 : Int32), M)
    else
      if (6 : Int32) < a1 then
        some ((0 : Int32), M)
      else
        (sh_isOne t a2 M).bind fun y4 =>
        if y4.1 = (0 : Int32) then
          some ((0 : Int32), y4.2)
        else
          some ((1 : Int32), y4.2)
  else
    if (2 : Int32) < a1 then
      if a1 < (3 : Int32) then
        some ((0 : Int32), M)
      else
        if (6 : Int32) < a1 then
          some ((0 : Int32), M)
        else
          (sh_isOne t a2 M).bind fun y9 =>
          if y9.1 = (0 : Int32) then
            some ((0 : Int32), y9.2)
          else
            some ((1 : Int32), y9.2)
    else
      some ((1 : Int32), M)
set_option maxRecDepth 20000 in
set_option maxHeartbeats 4000000 in
theorem c_15 {Z : ak_Z} {d : Nat} (t : Nat) (a1 : Int32) (a2 : Int32) (M : mm_M) (ht : mm_is8 t = true) {y : Int32 × mm_M} (hf : sh_has t a1 a2 M = some y) {Q : Option Value → ak_H → Prop} (hq : Q (some (.int y.1)) (mm_H y.2)) : Ev Z (d + 1) 15 0 [some (.ref t), some (.int a1), some (.int a2)] [] (mm_H M) Q := by
  rw [sh_has] at hf
  refine e_iload_n hm_15 rfl rfl ?_
  by_cases hc1 : a1 < (0 : Int32)
  · rw [if_pos hc1] at hf
    refine e_if_t (t := 9) hm_15 rfl (ct_lt hc1) rfl ?_
    refine e_iload_n hm_15 rfl rfl ?_
    refine e_iconst hm_15 rfl kc_iconst_3 ?_
    by_cases hc2 : a1 < (3 : Int32)
    · rw [if_pos hc2] at hf
      refine e_ic_t (t := 32) hm_15 rfl (ct_lt hc2) rfl ?_
      refine e_iconst hm_15 rfl kc_iconst_0 ?_
      obtain rfl := Option.some.inj hf
      exact e_zret hm_15 rfl rfl (by decide) hq
    · rw [if_neg hc2] at hf
      refine e_ic_f hm_15 rfl (cf_lt hc2) ?_
      refine e_iload_n hm_15 rfl rfl ?_
      refine e_bipush hm_15 rfl kc_bipush_6 ?_
      by_cases hc3 : (6 : Int32) < a1
      · rw [if_pos hc3] at hf
        refine e_ic_t (t := 32) hm_15 rfl (ct_gt hc3) rfl ?_
        refine e_iconst hm_15 rfl kc_iconst_0 ?_
        obtain rfl := Option.some.inj hf
        exact e_zret hm_15 rfl rfl (by decide) hq
      · rw [if_neg hc3] at hf
        refine e_ic_f hm_15 rfl (cf_gt hc3) ?_
        refine e_aload_n hm_15 rfl rfl ?_
        refine e_iload_n hm_15 rfl rfl ?_
        obtain ⟨y4, hky4, hf⟩ := mm_bd hf
        refine e_virt hm_15 rfl rfl rfl (mm_cl8 ht) (Nat.le_of_ble_eq_true rfl) hm_16 rfl rfl (c_16 t a2 M ht hky4 ?_)
        show Ev Z _ 15 25 [some (.ref t), some (.int a1), some (.int a2)] [.int y4.1] (mm_H y4.2) Q
        by_cases hc5 : y4.1 = (0 : Int32)
        · rw [if_pos hc5] at hf
          refine e_if_t (t := 32) hm_15 rfl (ct_eq hc5) rfl ?_
          refine e_iconst hm_15 rfl kc_iconst_0 ?_
          obtain rfl := Option.some.inj hf
          exact e_zret hm_15 rfl rfl (by decide) hq
        · rw [if_neg hc5] at hf
          refine e_if_f hm_15 rfl (cf_eq hc5) ?_
          refine e_iconst hm_15 rfl kc_iconst_1 ?_
          refine e_goto (t := 33) hm_15 rfl rfl ?_
          obtain rfl := Option.some.inj hf
          exact e_zret hm_15 rfl rfl (by decide) hq
  · rw [if_neg hc1] at hf
    refine e_if_f hm_15 rfl (cf_lt hc1) ?_
    refine e_iload_n hm_15 rfl rfl ?_
    refine e_iconst hm_15 rfl kc_iconst_2 ?_
    by_cases hc6 : (2 : Int32) < a1
    · rw [if_pos hc6] at hf
      refine e_ic_f hm_15 rfl (cf_le hc6) ?_
      refine e_iload_n hm_15 rfl rfl ?_
      refine e_iconst hm_15 rfl kc_iconst_3 ?_
      by_cases hc7 : a1 < (3 : Int32)
      · rw [if_pos hc7] at hf
        refine e_ic_t (t := 32) hm_15 rfl (ct_lt hc7) rfl ?_
        refine e_iconst hm_15 rfl kc_iconst_0 ?_
        obtain rfl := Option.some.inj hf
        exact e_zret hm_15 rfl rfl (by decide) hq
      · rw [if_neg hc7] at hf
        refine e_ic_f hm_15 rfl (cf_lt hc7) ?_
        refine e_iload_n hm_15 rfl rfl ?_
        refine e_bipush hm_15 rfl kc_bipush_6 ?_
        by_cases hc8 : (6 : Int32) < a1
        · rw [if_pos hc8] at hf
          refine e_ic_t (t := 32) hm_15 rfl (ct_gt hc8) rfl ?_
          refine e_iconst hm_15 rfl kc_iconst_0 ?_
          obtain rfl := Option.some.inj hf
          exact e_zret hm_15 rfl rfl (by decide) hq
        · rw [if_neg hc8] at hf
          refine e_ic_f hm_15 rfl (cf_gt hc8) ?_
          refine e_aload_n hm_15 rfl rfl ?_
          refine e_iload_n hm_15 rfl rfl ?_
          obtain ⟨y9, hky9, hf⟩ := mm_bd hf
          refine e_virt hm_15 rfl rfl rfl (mm_cl8 ht) (Nat.le_of_ble_eq_true rfl) hm_16 rfl rfl (c_16 t a2 M ht hky9 ?_)
          show Ev Z _ 15 25 [some (.ref t), some (.int a1), some (.int a2)] [.int y9.1] (mm_H y9.2) Q
          by_cases hc10 : y9.1 = (0 : Int32)
          · rw [if_pos hc10] at hf
            refine e_if_t (t := 32) hm_15 rfl (ct_eq hc10) rfl ?_
            refine e_iconst hm_15 rfl kc_iconst_0 ?_
            obtain rfl := Option.some.inj hf
            exact e_zret hm_15 rfl rfl (by decide) hq
          · rw [if_neg hc10] at hf
            refine e_if_f hm_15 rfl (cf_eq hc10) ?_
            refine e_iconst hm_15 rfl kc_iconst_1 ?_
            refine e_goto (t := 33) hm_15 rfl rfl ?_
            obtain rfl := Option.some.inj hf
            exact e_zret hm_15 rfl rfl (by decide) hq
    · rw [if_neg hc6] at hf
      refine e_ic_t (t := 28) hm_15 rfl (ct_le hc6) rfl ?_
      refine e_iconst hm_15 rfl kc_iconst_1 ?_
      refine e_goto (t := 33) hm_15 rfl rfl ?_
      obtain rfl := Option.some.inj hf
      exact e_zret hm_15 rfl rfl (by decide) hq
def sh_fits (t : Nat) (a1 : Int32) (a2 : Int32) (M : mm_M) : Option (Int32 × mm_M) :=
  if a1 < (0 : Int32) then
    some ((0 : Int32), M)
  else
    if a1 < (7 : Int32) then
      if a1 < (7 : Int32) then
        if ak_inb a1 7 = true then
        if a2 < (ak_from.getD a1.toNatClampNeg 0) then
          some ((0 : Int32), M)
        else
          if ak_inb a1 7 = true then
          if (ak_to.getD a1.toNatClampNeg 0) < a2 then
            some ((0 : Int32), M)
          else
            some ((1 : Int32), M) else none else none
      else
        some ((0 : Int32), M)
    else
      some ((0 : Int32), M)
set_option maxRecDepth 20000 in
set_option maxHeartbeats 4000000 in
theorem c_17 {Z : ak_Z} {d : Nat} (t : Nat) (a1 : Int32) (a2 : Int32) (M : mm_M) (ht : mm_is8 t = true) {y : Int32 × mm_M} (hf : sh_fits t a1 a2 M = some y) {Q : Option Value → ak_H → Prop} (hq : Q (some (.int y.1)) (mm_H y.2)) : Ev Z (d + 0) 17 0 [some (.ref t), some (.int a1), some (.int a2)] [] (mm_H M) Q := by
  rw [sh_fits] at hf
  refine e_iload_n hm_17 rfl rfl ?_
  by_cases hc1 : a1 < (0 : Int32)
  · rw [if_pos hc1] at hf
    refine e_if_t (t := 42) hm_17 rfl (ct_lt hc1) rfl ?_
    refine e_iconst hm_17 rfl kc_iconst_0 ?_
    obtain rfl := Option.some.inj hf
    exact e_zret hm_17 rfl rfl (by decide) hq
  · rw [if_neg hc1] at hf
    refine e_if_f hm_17 rfl (cf_lt hc1) ?_
    refine e_iload_n hm_17 rfl rfl ?_
    refine e_gets (r := 2000000) hm_17 rfl (by decide) ?_
    refine e_slen (v := (7 : Int32)) hm_17 rfl rfl rfl (by decide) ?_
    by_cases hc2 : a1 < (7 : Int32)
    · rw [if_pos hc2] at hf
      refine e_ic_f hm_17 rfl (cf_ge hc2) ?_
      refine e_iload_n hm_17 rfl rfl ?_
      refine e_gets (r := 2000001) hm_17 rfl (by decide) ?_
      refine e_slen (v := (7 : Int32)) hm_17 rfl rfl rfl (by decide) ?_
      by_cases hc3 : a1 < (7 : Int32)
      · rw [if_pos hc3] at hf
        refine e_ic_f hm_17 rfl (cf_ge hc3) ?_
        refine e_iload_n hm_17 rfl rfl ?_
        refine e_gets (r := 2000000) hm_17 rfl (by decide) ?_
        refine e_iload_n hm_17 rfl rfl ?_
        obtain ⟨hi4, hf⟩ := mm_ite hf
        refine e_siald hm_17 rfl rfl rfl hi4 ?_
        by_cases hc5 : a2 < (ak_from.getD a1.toNatClampNeg 0)
        · rw [if_pos hc5] at hf
          refine e_ic_t (t := 42) hm_17 rfl (ct_lt hc5) rfl ?_
          refine e_iconst hm_17 rfl kc_iconst_0 ?_
          obtain rfl := Option.some.inj hf
          exact e_zret hm_17 rfl rfl (by decide) hq
        · rw [if_neg hc5] at hf
          refine e_ic_f hm_17 rfl (cf_lt hc5) ?_
          refine e_iload_n hm_17 rfl rfl ?_
          refine e_gets (r := 2000001) hm_17 rfl (by decide) ?_
          refine e_iload_n hm_17 rfl rfl ?_
          obtain ⟨hi6, hf⟩ := mm_ite hf
          refine e_siald hm_17 rfl rfl rfl hi6 ?_
          by_cases hc7 : (ak_to.getD a1.toNatClampNeg 0) < a2
          · rw [if_pos hc7] at hf
            refine e_ic_t (t := 42) hm_17 rfl (ct_gt hc7) rfl ?_
            refine e_iconst hm_17 rfl kc_iconst_0 ?_
            obtain rfl := Option.some.inj hf
            exact e_zret hm_17 rfl rfl (by decide) hq
          · rw [if_neg hc7] at hf
            refine e_ic_f hm_17 rfl (cf_gt hc7) ?_
            refine e_iconst hm_17 rfl kc_iconst_1 ?_
            refine e_goto (t := 43) hm_17 rfl rfl ?_
            obtain rfl := Option.some.inj hf
            exact e_zret hm_17 rfl rfl (by decide) hq
      · rw [if_neg hc3] at hf
        refine e_ic_t (t := 42) hm_17 rfl (ct_ge hc3) rfl ?_
        refine e_iconst hm_17 rfl kc_iconst_0 ?_
        obtain rfl := Option.some.inj hf
        exact e_zret hm_17 rfl rfl (by decide) hq
    · rw [if_neg hc2] at hf
      refine e_ic_t (t := 42) hm_17 rfl (ct_ge hc2) rfl ?_
      refine e_iconst hm_17 rfl kc_iconst_0 ?_
      obtain rfl := Option.some.inj hf
      exact e_zret hm_17 rfl rfl (by decide) hq
def sh_rowOf (t : Nat) (a1 : Int32) (M : mm_M) : Option (Nat × mm_M) :=
  if a1 = (3 : Int32) then
    some ((t + 2), M)
  else if a1 = (4 : Int32) then
      some ((t + 3), M)
    else if a1 = (5 : Int32) then
        some ((t + 4), M)
      else some ((t + 5), M)
set_option maxRecDepth 20000 in
set_option maxHeartbeats 4000000 in
theorem c_19 {Z : ak_Z} {d : Nat} (t : Nat) (a1 : Int32) (M : mm_M) (ht : mm_is8 t = true) {y : Nat × mm_M} (hf : sh_rowOf t a1 M = some y) {Q : Option Value → ak_H → Prop} (hq : Q (some (.ref y.1)) (mm_H y.2)) : Ev Z (d + 0) 19 0 [some (.ref t), some (.int a1)] [] (mm_H M) Q := by
  rw [sh_rowOf] at hf
  refine e_iload_n hm_19 rfl rfl ?_
  by_cases hc1 : a1 = (3 : Int32)
  · rw [if_pos hc1] at hf
    refine e_tsw (t := 28) hm_19 rfl (by rw [hc1]; rfl) ?_
    refine e_aload_n hm_19 rfl rfl ?_
    refine e_getR hm_19 rfl (mm_cl8 ht) rfl (mm_rf8_6 ht) ?_
    obtain rfl := Option.some.inj hf
    exact e_aret2 hm_19 rfl rfl hq
  · rw [if_neg hc1] at hf
    by_cases hc2 : a1 = (4 : Int32)
    · rw [if_pos hc2] at hf
      refine e_tsw (t := 33) hm_19 rfl (by rw [hc2]; rfl) ?_
      refine e_aload_n hm_19 rfl rfl ?_
      refine e_getR hm_19 rfl (mm_cl8 ht) rfl (mm_rf8_7 ht) ?_
      obtain rfl := Option.some.inj hf
      exact e_aret2 hm_19 rfl rfl hq
    · rw [if_neg hc2] at hf
      by_cases hc3 : a1 = (5 : Int32)
      · rw [if_pos hc3] at hf
        refine e_tsw (t := 38) hm_19 rfl (by rw [hc3]; rfl) ?_
        refine e_aload_n hm_19 rfl rfl ?_
        refine e_getR hm_19 rfl (mm_cl8 ht) rfl (mm_rf8_8 ht) ?_
        obtain rfl := Option.some.inj hf
        exact e_aret2 hm_19 rfl rfl hq
      · rw [if_neg hc3] at hf
        have khc1 := i32_ne hc1
        have khc2 := i32_ne hc2
        have khc3 := i32_ne hc3
        rw [show ((3 : Int32) : Int32).toInt = 3 from rfl] at khc1
        rw [show ((4 : Int32) : Int32).toInt = 4 from rfl] at khc2
        rw [show ((5 : Int32) : Int32).toInt = 5 from rfl] at khc3
        refine e_tsw (t := 43) hm_19 rfl (tsw_out (by omega) rfl) ?_
        refine e_aload_n hm_19 rfl rfl ?_
        refine e_getR hm_19 rfl (mm_cl8 ht) rfl (mm_rf8_9 ht) ?_
        obtain rfl := Option.some.inj hf
        exact e_aret2 hm_19 rfl rfl hq
def sh_number (t : Nat) (a1 : Int32) (a2 : Int32) (M : mm_M) : Option (Int32 × mm_M) :=
  if a1 = (0 : Int32) then
    some (M.1 t 0, M)
  else if a1 = (1 : Int32) then
      some (M.1 t 1, M)
    else if a1 = (2 : Int32) then
        some (M.1 t 2, M)
      else (sh_isOne t a2 M).bind fun y4 =>
        if y4.1 = (0 : Int32) then
          some ((-1 : Int32), y4.2)
        else
          (sh_rowOf t a1 y4.2).bind fun y6 =>
          (mm_ia y6.1).bind fun n7 => if ak_inb a2 n7 = true then
          some (y6.2.1 y6.1 a2.toNatClampNeg, y6.2) else none
set_option maxRecDepth 20000 in
set_option maxHeartbeats 4000000 in
theorem c_18 {Z : ak_Z} {d : Nat} (t : Nat) (a1 : Int32) (a2 : Int32) (M : mm_M) (ht : mm_is8 t = true) {y : Int32 × mm_M} (hf : sh_number t a1 a2 M = some y) {Q : Option Value → ak_H → Prop} (hq : Q (some (.int y.1)) (mm_H y.2)) : Ev Z (d + 1) 18 0 [some (.ref t), some (.int a1), some (.int a2)] [] (mm_H M) Q := by
  rw [sh_number] at hf
  refine e_iload_n hm_18 rfl rfl ?_
  by_cases hc1 : a1 = (0 : Int32)
  · rw [if_pos hc1] at hf
    refine e_tsw (t := 28) hm_18 rfl (by rw [hc1]; rfl) ?_
    refine e_aload_n hm_18 rfl rfl ?_
    refine e_getI hm_18 rfl (mm_cl8 ht) rfl ?_
    obtain rfl := Option.some.inj hf
    exact e_iret hm_18 rfl rfl hq
  · rw [if_neg hc1] at hf
    by_cases hc2 : a1 = (1 : Int32)
    · rw [if_pos hc2] at hf
      refine e_tsw (t := 33) hm_18 rfl (by rw [hc2]; rfl) ?_
      refine e_aload_n hm_18 rfl rfl ?_
      refine e_getI hm_18 rfl (mm_cl8 ht) rfl ?_
      obtain rfl := Option.some.inj hf
      exact e_iret hm_18 rfl rfl hq
    · rw [if_neg hc2] at hf
      by_cases hc3 : a1 = (2 : Int32)
      · rw [if_pos hc3] at hf
        refine e_tsw (t := 38) hm_18 rfl (by rw [hc3]; rfl) ?_
        refine e_aload_n hm_18 rfl rfl ?_
        refine e_getI hm_18 rfl (mm_cl8 ht) rfl ?_
        obtain rfl := Option.some.inj hf
        exact e_iret hm_18 rfl rfl hq
      · rw [if_neg hc3] at hf
        have khc1 := i32_ne hc1
        have khc2 := i32_ne hc2
        have khc3 := i32_ne hc3
        rw [show ((0 : Int32) : Int32).toInt = 0 from rfl] at khc1
        rw [show ((1 : Int32) : Int32).toInt = 1 from rfl] at khc2
        rw [show ((2 : Int32) : Int32).toInt = 2 from rfl] at khc3
        refine e_tsw (t := 43) hm_18 rfl (tsw_out (by omega) rfl) ?_
        refine e_aload_n hm_18 rfl rfl ?_
        refine e_iload_n hm_18 rfl rfl ?_
        obtain ⟨y4, hky4, hf⟩ := mm_bd hf
        refine e_virt hm_18 rfl rfl rfl (mm_cl8 ht) (Nat.le_of_ble_eq_true rfl) hm_16 rfl rfl (c_16 t a2 M ht hky4 ?_)
        show Ev Z _ 18 48 [some (.ref t), some (.int a1), some (.int a2)] [.int y4.1] (mm_H y4.2) Q
        by_cases hc5 : y4.1 = (0 : Int32)
        · rw [if_pos hc5] at hf
          refine e_if_t (t := 61) hm_18 rfl (ct_eq hc5) rfl ?_
          refine e_iconst hm_18 rfl kc_iconst_m1 ?_
          obtain rfl := Option.some.inj hf
          exact e_iret hm_18 rfl rfl hq
        · rw [if_neg hc5] at hf
          refine e_if_f hm_18 rfl (cf_eq hc5) ?_
          refine e_aload_n hm_18 rfl rfl ?_
          refine e_iload_n hm_18 rfl rfl ?_
          obtain ⟨y6, hky6, hf⟩ := mm_bd hf
          refine e_virt hm_18 rfl rfl rfl (mm_cl8 ht) (Nat.le_of_ble_eq_true rfl) hm_19 rfl rfl (c_19 t a1 y4.2 ht hky6 ?_)
          show Ev Z _ 18 56 [some (.ref t), some (.int a1), some (.int a2)] [.ref y6.1] (mm_H y6.2) Q
          refine e_iload_n hm_18 rfl rfl ?_
          obtain ⟨n7, hkn7, hf⟩ := mm_bd hf
          obtain ⟨hi8, hf⟩ := mm_ite hf
          refine e_iald hm_18 rfl (mm_ia_at hkn7) hi8 ?_
          refine e_goto (t := 62) hm_18 rfl rfl ?_
          obtain rfl := Option.some.inj hf
          exact e_iret hm_18 rfl rfl hq
def sh_put (t : Nat) (a1 : Int32) (a2 : Int32) (a3 : Int32) (M : mm_M) : Option (Unit × mm_M) :=
  if a1 = (0 : Int32) then
    some ((), (ak_up M.1 t 0 a3, M.2))
  else
    if a1 = (1 : Int32) then
      some ((), (ak_up M.1 t 1 a3, M.2))
    else
      if a1 = (2 : Int32) then
        some ((), (ak_up M.1 t 2 a3, M.2))
      else
        (sh_isOne t a2 M).bind fun y4 =>
        if y4.1 = (0 : Int32) then
          some ((), y4.2)
        else
          (sh_rowOf t a1 y4.2).bind fun y6 =>
          (mm_ia y6.1).bind fun n8 => if ak_inb a2 n8 = true then
          some ((), (ak_up y6.2.1 y6.1 a2.toNatClampNeg a3, y6.2.2)) else none
set_option maxRecDepth 20000 in
set_option maxHeartbeats 4000000 in
theorem c_20 {Z : ak_Z} {d : Nat} (t : Nat) (a1 : Int32) (a2 : Int32) (a3 : Int32) (M : mm_M) (ht : mm_is8 t = true) {y : Unit × mm_M} (hf : sh_put t a1 a2 a3 M = some y) {Q : Option Value → ak_H → Prop} (hq : Q none (mm_H y.2)) : Ev Z (d + 1) 20 0 [some (.ref t), some (.int a1), some (.int a2), some (.int a3)] [] (mm_H M) Q := by
  rw [sh_put] at hf
  refine e_iload_n hm_20 rfl rfl ?_
  by_cases hc1 : a1 = (0 : Int32)
  · rw [if_pos hc1] at hf
    refine e_if_f hm_20 rfl (cf_ne hc1) ?_
    refine e_aload_n hm_20 rfl rfl ?_
    refine e_iload_n hm_20 rfl rfl ?_
    refine e_putI hm_20 rfl (mm_cl8 ht) rfl ?_
    refine e_goto (t := 54) hm_20 rfl rfl ?_
    obtain rfl := Option.some.inj hf
    exact e_vret hm_20 rfl rfl hq
  · rw [if_neg hc1] at hf
    refine e_if_t (t := 12) hm_20 rfl (ct_ne hc1) rfl ?_
    refine e_iload_n hm_20 rfl rfl ?_
    refine e_iconst hm_20 rfl kc_iconst_1 ?_
    by_cases hc2 : a1 = (1 : Int32)
    · rw [if_pos hc2] at hf
      refine e_ic_f hm_20 rfl (cf_ne hc2) ?_
      refine e_aload_n hm_20 rfl rfl ?_
      refine e_iload_n hm_20 rfl rfl ?_
      refine e_putI hm_20 rfl (mm_cl8 ht) rfl ?_
      refine e_goto (t := 54) hm_20 rfl rfl ?_
      obtain rfl := Option.some.inj hf
      exact e_vret hm_20 rfl rfl hq
    · rw [if_neg hc2] at hf
      refine e_ic_t (t := 25) hm_20 rfl (ct_ne hc2) rfl ?_
      refine e_iload_n hm_20 rfl rfl ?_
      refine e_iconst hm_20 rfl kc_iconst_2 ?_
      by_cases hc3 : a1 = (2 : Int32)
      · rw [if_pos hc3] at hf
        refine e_ic_f hm_20 rfl (cf_ne hc3) ?_
        refine e_aload_n hm_20 rfl rfl ?_
        refine e_iload_n hm_20 rfl rfl ?_
        refine e_putI hm_20 rfl (mm_cl8 ht) rfl ?_
        refine e_goto (t := 54) hm_20 rfl rfl ?_
        obtain rfl := Option.some.inj hf
        exact e_vret hm_20 rfl rfl hq
      · rw [if_neg hc3] at hf
        refine e_ic_t (t := 38) hm_20 rfl (ct_ne hc3) rfl ?_
        refine e_aload_n hm_20 rfl rfl ?_
        refine e_iload_n hm_20 rfl rfl ?_
        obtain ⟨y4, hky4, hf⟩ := mm_bd hf
        refine e_virt hm_20 rfl rfl rfl (mm_cl8 ht) (Nat.le_of_ble_eq_true rfl) hm_16 rfl rfl (c_16 t a2 M ht hky4 ?_)
        show Ev Z _ 20 43 [some (.ref t), some (.int a1), some (.int a2), some (.int a3)] [.int y4.1] (mm_H y4.2) Q
        by_cases hc5 : y4.1 = (0 : Int32)
        · rw [if_pos hc5] at hf
          refine e_if_t (t := 54) hm_20 rfl (ct_eq hc5) rfl ?_
          obtain rfl := Option.some.inj hf
          exact e_vret hm_20 rfl rfl hq
        · rw [if_neg hc5] at hf
          refine e_if_f hm_20 rfl (cf_eq hc5) ?_
          refine e_aload_n hm_20 rfl rfl ?_
          refine e_iload_n hm_20 rfl rfl ?_
          obtain ⟨y6, hky6, hf⟩ := mm_bd hf
          refine e_virt hm_20 rfl rfl rfl (mm_cl8 ht) (Nat.le_of_ble_eq_true rfl) hm_19 rfl rfl (c_19 t a1 y4.2 ht hky6 ?_)
          show Ev Z _ 20 51 [some (.ref t), some (.int a1), some (.int a2), some (.int a3)] [.ref y6.1] (mm_H y6.2) Q
          refine e_iload_n hm_20 rfl rfl ?_
          refine e_iload_n hm_20 rfl rfl ?_
          obtain ⟨n8, hkn8, hf⟩ := mm_bd hf
          obtain ⟨hi7, hf⟩ := mm_ite hf
          refine e_iast hm_20 rfl (mm_ia_at hkn8) hi7 ?_
          obtain rfl := Option.some.inj hf
          exact e_vret hm_20 rfl rfl hq
def nb_set (a1 : Int32) (a2 : Int32) (a3 : Int32) (M : mm_M) : Option (Int32 × mm_M) :=
  (sh_has 1 a1 a2 M).bind fun y1 =>
  if y1.1 = (0 : Int32) then
    some ((-2 : Int32), y1.2)
  else
    (sh_fits 1 a1 a3 y1.2).bind fun y3 =>
    if y3.1 = (0 : Int32) then
      some ((-2 : Int32), y3.2)
    else
      (sh_number 1 a1 a2 y3.2).bind fun y5 =>
      (sh_put 1 a1 a2 a3 y5.2).bind fun y6 =>
      some (y5.1, y6.2)
set_option maxRecDepth 20000 in
set_option maxHeartbeats 4000000 in
theorem c_14 {Z : ak_Z} {d : Nat} (a1 : Int32) (a2 : Int32) (a3 : Int32) (M : mm_M) {y : Int32 × mm_M} (hf : nb_set a1 a2 a3 M = some y) {Q : Option Value → ak_H → Prop} (hq : Q (some (.int y.1)) (mm_H y.2)) : Ev Z (d + 2) 14 0 [some (.ref 0), some (.int a1), some (.int a2), some (.int a3), none] [] (mm_H M) Q := by
  rw [nb_set] at hf
  refine e_aload_n hm_14 rfl rfl ?_
  refine e_getR hm_14 rfl rfl rfl rfl ?_
  refine e_iload_n hm_14 rfl rfl ?_
  refine e_iload_n hm_14 rfl rfl ?_
  obtain ⟨y1, hky1, hf⟩ := mm_bd hf
  refine e_virt hm_14 rfl rfl rfl rfl (Nat.le_of_ble_eq_true rfl) hm_15 rfl rfl (c_15 1 a1 a2 M rfl hky1 ?_)
  show Ev Z _ 14 9 [some (.ref 0), some (.int a1), some (.int a2), some (.int a3), none] [.int y1.1] (mm_H y1.2) Q
  by_cases hc2 : y1.1 = (0 : Int32)
  · rw [if_pos hc2] at hf
    refine e_if_t (t := 24) hm_14 rfl (ct_eq hc2) rfl ?_
    refine e_bipush hm_14 rfl kc_bipush_m2 ?_
    obtain rfl := Option.some.inj hf
    exact e_iret hm_14 rfl rfl hq
  · rw [if_neg hc2] at hf
    refine e_if_f hm_14 rfl (cf_eq hc2) ?_
    refine e_aload_n hm_14 rfl rfl ?_
    refine e_getR hm_14 rfl rfl rfl rfl ?_
    refine e_iload_n hm_14 rfl rfl ?_
    refine e_iload_n hm_14 rfl rfl ?_
    obtain ⟨y3, hky3, hf⟩ := mm_bd hf
    refine e_virt hm_14 rfl rfl rfl rfl (Nat.le_of_ble_eq_true rfl) hm_17 rfl rfl (c_17 1 a1 a3 y1.2 rfl hky3 ?_)
    show Ev Z _ 14 21 [some (.ref 0), some (.int a1), some (.int a2), some (.int a3), none] [.int y3.1] (mm_H y3.2) Q
    by_cases hc4 : y3.1 = (0 : Int32)
    · rw [if_pos hc4] at hf
      refine e_if_f hm_14 rfl (cf_ne hc4) ?_
      refine e_bipush hm_14 rfl kc_bipush_m2 ?_
      obtain rfl := Option.some.inj hf
      exact e_iret hm_14 rfl rfl hq
    · rw [if_neg hc4] at hf
      refine e_if_t (t := 27) hm_14 rfl (ct_ne hc4) rfl ?_
      refine e_aload_n hm_14 rfl rfl ?_
      refine e_getR hm_14 rfl rfl rfl rfl ?_
      refine e_iload_n hm_14 rfl rfl ?_
      refine e_iload_n hm_14 rfl rfl ?_
      obtain ⟨y5, hky5, hf⟩ := mm_bd hf
      refine e_virt hm_14 rfl rfl rfl rfl (Nat.le_of_ble_eq_true rfl) hm_18 rfl rfl (c_18 1 a1 a2 y3.2 rfl hky5 ?_)
      show Ev Z _ 14 36 [some (.ref 0), some (.int a1), some (.int a2), some (.int a3), none] [.int y5.1] (mm_H y5.2) Q
      refine e_istore (L2 := [some (.ref 0), some (.int a1), some (.int a2), some (.int a3), some (.int y5.1)]) hm_14 rfl rfl ?_
      refine e_aload_n hm_14 rfl rfl ?_
      refine e_getR hm_14 rfl rfl rfl rfl ?_
      refine e_iload_n hm_14 rfl rfl ?_
      refine e_iload_n hm_14 rfl rfl ?_
      refine e_iload_n hm_14 rfl rfl ?_
      obtain ⟨y6, hky6, hf⟩ := mm_bd hf
      refine e_virt hm_14 rfl rfl rfl rfl (Nat.le_of_ble_eq_true rfl) hm_20 rfl rfl (c_20 1 a1 a2 a3 y5.2 rfl hky6 ?_)
      show Ev Z _ 14 48 [some (.ref 0), some (.int a1), some (.int a2), some (.int a3), some (.int y5.1)] [] (mm_H y6.2) Q
      refine e_iload hm_14 rfl rfl ?_
      obtain rfl := Option.some.inj hf
      exact e_iret hm_14 rfl rfl hq
def sh_setApart (t : Nat) (a1 : Int32) (a2 : Int32) (a3 : Int32) (M : mm_M) : Option (Unit × mm_M) :=
  (sh_isOne t a1 M).bind fun y1 =>
  if y1.1 = (0 : Int32) then
    some ((), y1.2)
  else
    (sh_isOne t a2 y1.2).bind fun y3 =>
    if y3.1 = (0 : Int32) then
      some ((), y3.2)
    else
      if a3 = (0 : Int32) then
        if ak_inb a1 4 = true then
        if ak_inb a1 4 = true then
        if a3 = (0 : Int32) then
          if ak_inb a2 4 = true then
          if ak_inb a2 4 = true then
          some ((), (ak_up (ak_up y3.2.1 (t + 7) a1.toNatClampNeg ((y3.2.1 (t + 7) a1.toNatClampNeg) &&& (((1 : Int32) <<< (a2 &&& 31)) ^^^ (-1 : Int32)))) (t + 7) a2.toNatClampNeg (((ak_up y3.2.1 (t + 7) a1.toNatClampNeg ((y3.2.1 (t + 7) a1.toNatClampNeg) &&& (((1 : Int32) <<< (a2 &&& 31)) ^^^ (-1 : Int32)))) (t + 7) a2.toNatClampNeg) &&& (((1 : Int32) <<< (a1 &&& 31)) ^^^ (-1 : Int32))), y3.2.2)) else none else none
        else
          if ak_inb a2 4 = true then
          if ak_inb a2 4 = true then
          some ((), (ak_up (ak_up y3.2.1 (t + 7) a1.toNatClampNeg ((y3.2.1 (t + 7) a1.toNatClampNeg) &&& (((1 : Int32) <<< (a2 &&& 31)) ^^^ (-1 : Int32)))) (t + 7) a2.toNatClampNeg (((ak_up y3.2.1 (t + 7) a1.toNatClampNeg ((y3.2.1 (t + 7) a1.toNatClampNeg) &&& (((1 : Int32) <<< (a2 &&& 31)) ^^^ (-1 : Int32)))) (t + 7) a2.toNatClampNeg) ||| ((1 : Int32) <<< (a1 &&& 31))), y3.2.2)) else none else none else none else none
      else
        if ak_inb a1 4 = true then
        if ak_inb a1 4 = true then
        if a3 = (0 : Int32) then
          if ak_inb a2 4 = true then
          if ak_inb a2 4 = true then
          some ((), (ak_up (ak_up y3.2.1 (t + 7) a1.toNatClampNeg ((y3.2.1 (t + 7) a1.toNatClampNeg) ||| ((1 : Int32) <<< (a2 &&& 31)))) (t + 7) a2.toNatClampNeg (((ak_up y3.2.1 (t + 7) a1.toNatClampNeg ((y3.2.1 (t + 7) a1.toNatClampNeg) ||| ((1 : Int32) <<< (a2 &&& 31)))) (t + 7) a2.toNatClampNeg) &&& (((1 : Int32) <<< (a1 &&& 31)) ^^^ (-1 : Int32))), y3.2.2)) else none else none
        else
          if ak_inb a2 4 = true then
          if ak_inb a2 4 = true then
          some ((), (ak_up (ak_up y3.2.1 (t + 7) a1.toNatClampNeg ((y3.2.1 (t + 7) a1.toNatClampNeg) ||| ((1 : Int32) <<< (a2 &&& 31)))) (t + 7) a2.toNatClampNeg (((ak_up y3.2.1 (t + 7) a1.toNatClampNeg ((y3.2.1 (t + 7) a1.toNatClampNeg) ||| ((1 : Int32) <<< (a2 &&& 31)))) (t + 7) a2.toNatClampNeg) ||| ((1 : Int32) <<< (a1 &&& 31))), y3.2.2)) else none else none else none else none
set_option maxRecDepth 20000 in
set_option maxHeartbeats 4000000 in
theorem c_23 {Z : ak_Z} {d : Nat} (t : Nat) (a1 : Int32) (a2 : Int32) (a3 : Int32) (M : mm_M) (ht : mm_is8 t = true) {y : Unit × mm_M} (hf : sh_setApart t a1 a2 a3 M = some y) {Q : Option Value → ak_H → Prop} (hq : Q none (mm_H y.2)) : Ev Z (d + 1) 23 0 [some (.ref t), some (.int a1), some (.int a2), some (.int a3)] [] (mm_H M) Q := by
  rw [sh_setApart] at hf
  refine e_aload_n hm_23 rfl rfl ?_
  refine e_iload_n hm_23 rfl rfl ?_
  obtain ⟨y1, hky1, hf⟩ := mm_bd hf
  refine e_virt hm_23 rfl rfl rfl (mm_cl8 ht) (Nat.le_of_ble_eq_true rfl) hm_16 rfl rfl (c_16 t a1 M ht hky1 ?_)
  show Ev Z _ 23 5 [some (.ref t), some (.int a1), some (.int a2), some (.int a3)] [.int y1.1] (mm_H y1.2) Q
  by_cases hc2 : y1.1 = (0 : Int32)
  · rw [if_pos hc2] at hf
    refine e_if_t (t := 16) hm_23 rfl (ct_eq hc2) rfl ?_
    obtain rfl := Option.some.inj hf
    exact e_vret hm_23 rfl rfl hq
  · rw [if_neg hc2] at hf
    refine e_if_f hm_23 rfl (cf_eq hc2) ?_
    refine e_aload_n hm_23 rfl rfl ?_
    refine e_iload_n hm_23 rfl rfl ?_
    obtain ⟨y3, hky3, hf⟩ := mm_bd hf
    refine e_virt hm_23 rfl rfl rfl (mm_cl8 ht) (Nat.le_of_ble_eq_true rfl) hm_16 rfl rfl (c_16 t a2 y1.2 ht hky3 ?_)
    show Ev Z _ 23 13 [some (.ref t), some (.int a1), some (.int a2), some (.int a3)] [.int y3.1] (mm_H y3.2) Q
    by_cases hc4 : y3.1 = (0 : Int32)
    · rw [if_pos hc4] at hf
      refine e_if_f hm_23 rfl (cf_ne hc4) ?_
      obtain rfl := Option.some.inj hf
      exact e_vret hm_23 rfl rfl hq
    · rw [if_neg hc4] at hf
      refine e_if_t (t := 17) hm_23 rfl (ct_ne hc4) rfl ?_
      refine e_aload_n hm_23 rfl rfl ?_
      refine e_getR hm_23 rfl (mm_cl8 ht) rfl (mm_rf8_11 ht) ?_
      refine e_iload_n hm_23 rfl rfl ?_
      refine e_iload_n hm_23 rfl rfl ?_
      by_cases hc5 : a3 = (0 : Int32)
      · rw [if_pos hc5] at hf
        refine e_if_t (t := 39) hm_23 rfl (ct_eq hc5) rfl ?_
        refine e_aload_n hm_23 rfl rfl ?_
        refine e_getR hm_23 rfl (mm_cl8 ht) rfl (mm_rf8_11 ht) ?_
        refine e_iload_n hm_23 rfl rfl ?_
        obtain ⟨hi6, hf⟩ := mm_ite hf
        refine e_iald hm_23 rfl (mm_ar8_11 ht) hi6 ?_
        refine e_iconst hm_23 rfl kc_iconst_1 ?_
        refine e_iload_n hm_23 rfl rfl ?_
        refine e_ishl hm_23 rfl ?_
        refine e_iconst hm_23 rfl kc_iconst_m1 ?_
        refine e_ixor hm_23 rfl ?_
        refine e_iand hm_23 rfl ?_
        obtain ⟨hi7, hf⟩ := mm_ite hf
        refine e_iast hm_23 rfl (mm_ar8_11 ht) hi7 ?_
        refine e_aload_n hm_23 rfl rfl ?_
        refine e_getR hm_23 rfl (mm_cl8 ht) rfl (mm_rf8_11 ht) ?_
        refine e_iload_n hm_23 rfl rfl ?_
        refine e_iload_n hm_23 rfl rfl ?_
        by_cases hc8 : a3 = (0 : Int32)
        · rw [if_pos hc8] at hf
          refine e_if_t (t := 74) hm_23 rfl (ct_eq hc8) rfl ?_
          refine e_aload_n hm_23 rfl rfl ?_
          refine e_getR hm_23 rfl (mm_cl8 ht) rfl (mm_rf8_11 ht) ?_
          refine e_iload_n hm_23 rfl rfl ?_
          obtain ⟨hi9, hf⟩ := mm_ite hf
          refine e_iald hm_23 rfl (mm_ar8_11 ht) hi9 ?_
          refine e_iconst hm_23 rfl kc_iconst_1 ?_
          refine e_iload_n hm_23 rfl rfl ?_
          refine e_ishl hm_23 rfl ?_
          refine e_iconst hm_23 rfl kc_iconst_m1 ?_
          refine e_ixor hm_23 rfl ?_
          refine e_iand hm_23 rfl ?_
          obtain ⟨hi10, hf⟩ := mm_ite hf
          refine e_iast hm_23 rfl (mm_ar8_11 ht) hi10 ?_
          obtain rfl := Option.some.inj hf
          exact e_vret hm_23 rfl rfl hq
        · rw [if_neg hc8] at hf
          refine e_if_f hm_23 rfl (cf_eq hc8) ?_
          refine e_aload_n hm_23 rfl rfl ?_
          refine e_getR hm_23 rfl (mm_cl8 ht) rfl (mm_rf8_11 ht) ?_
          refine e_iload_n hm_23 rfl rfl ?_
          obtain ⟨hi11, hf⟩ := mm_ite hf
          refine e_iald hm_23 rfl (mm_ar8_11 ht) hi11 ?_
          refine e_iconst hm_23 rfl kc_iconst_1 ?_
          refine e_iload_n hm_23 rfl rfl ?_
          refine e_ishl hm_23 rfl ?_
          refine e_ior hm_23 rfl ?_
          refine e_goto (t := 86) hm_23 rfl rfl ?_
          obtain ⟨hi12, hf⟩ := mm_ite hf
          refine e_iast hm_23 rfl (mm_ar8_11 ht) hi12 ?_
          obtain rfl := Option.some.inj hf
          exact e_vret hm_23 rfl rfl hq
      · rw [if_neg hc5] at hf
        refine e_if_f hm_23 rfl (cf_eq hc5) ?_
        refine e_aload_n hm_23 rfl rfl ?_
        refine e_getR hm_23 rfl (mm_cl8 ht) rfl (mm_rf8_11 ht) ?_
        refine e_iload_n hm_23 rfl rfl ?_
        obtain ⟨hi13, hf⟩ := mm_ite hf
        refine e_iald hm_23 rfl (mm_ar8_11 ht) hi13 ?_
        refine e_iconst hm_23 rfl kc_iconst_1 ?_
        refine e_iload_n hm_23 rfl rfl ?_
        refine e_ishl hm_23 rfl ?_
        refine e_ior hm_23 rfl ?_
        refine e_goto (t := 51) hm_23 rfl rfl ?_
        obtain ⟨hi14, hf⟩ := mm_ite hf
        refine e_iast hm_23 rfl (mm_ar8_11 ht) hi14 ?_
        refine e_aload_n hm_23 rfl rfl ?_
        refine e_getR hm_23 rfl (mm_cl8 ht) rfl (mm_rf8_11 ht) ?_
        refine e_iload_n hm_23 rfl rfl ?_
        refine e_iload_n hm_23 rfl rfl ?_
        by_cases hc15 : a3 = (0 : Int32)
        · rw [if_pos hc15] at hf
          refine e_if_t (t := 74) hm_23 rfl (ct_eq hc15) rfl ?_
          refine e_aload_n hm_23 rfl rfl ?_
          refine e_getR hm_23 rfl (mm_cl8 ht) rfl (mm_rf8_11 ht) ?_
          refine e_iload_n hm_23 rfl rfl ?_
          obtain ⟨hi16, hf⟩ := mm_ite hf
          refine e_iald hm_23 rfl (mm_ar8_11 ht) hi16 ?_
          refine e_iconst hm_23 rfl kc_iconst_1 ?_
          refine e_iload_n hm_23 rfl rfl ?_
          refine e_ishl hm_23 rfl ?_
          refine e_iconst hm_23 rfl kc_iconst_m1 ?_
          refine e_ixor hm_23 rfl ?_
          refine e_iand hm_23 rfl ?_
          obtain ⟨hi17, hf⟩ := mm_ite hf
          refine e_iast hm_23 rfl (mm_ar8_11 ht) hi17 ?_
          obtain rfl := Option.some.inj hf
          exact e_vret hm_23 rfl rfl hq
        · rw [if_neg hc15] at hf
          refine e_if_f hm_23 rfl (cf_eq hc15) ?_
          refine e_aload_n hm_23 rfl rfl ?_
          refine e_getR hm_23 rfl (mm_cl8 ht) rfl (mm_rf8_11 ht) ?_
          refine e_iload_n hm_23 rfl rfl ?_
          obtain ⟨hi18, hf⟩ := mm_ite hf
          refine e_iald hm_23 rfl (mm_ar8_11 ht) hi18 ?_
          refine e_iconst hm_23 rfl kc_iconst_1 ?_
          refine e_iload_n hm_23 rfl rfl ?_
          refine e_ishl hm_23 rfl ?_
          refine e_ior hm_23 rfl ?_
          refine e_goto (t := 86) hm_23 rfl rfl ?_
          obtain ⟨hi19, hf⟩ := mm_ite hf
          refine e_iast hm_23 rfl (mm_ar8_11 ht) hi19 ?_
          obtain rfl := Option.some.inj hf
          exact e_vret hm_23 rfl rfl hq
def sh_welcome_l78 : Nat → Nat → Int32 → Int32 → mm_M → Option (((Unit) × mm_M))
  | 0, _, _, _, _ => none
  | n + 1, x0, x4, x5, M =>
    if x5 < (M.1 x0 4) then
      (sh_setApart x0 x4 x5 (0 : Int32) M).bind fun y2 =>
      sh_welcome_l78 n x0 x4 (x5 + (1 : Int32)) y2.2
    else
      some ((), M)
set_option maxRecDepth 20000 in
set_option maxHeartbeats 4000000 in
theorem lc_22_78 {Z : ak_Z} {d : Nat} : ∀ (n : Nat) (x0 : Nat) (x4 : Int32) (x5 : Int32) (M : mm_M) (hx0 : mm_is8 x0 = true) {y : ((Unit) × mm_M)} (Q : Option Value → ak_H → Prop), sh_welcome_l78 n x0 x4 x5 M = some y → (Ev Z (d + 2) 22 102 [none, none, none, none, some (.int x4), none] [] (mm_H y.2) Q) → Ev Z (d + 2) 22 78 [some (.ref x0), none, none, none, some (.int x4), some (.int x5)] [] (mm_H M) Q := by
  intro n
  induction n with
  | zero => intro x0 x4 x5 M hx0 y Q hf; cases hf
  | succ n ih =>
    intro x0 x4 x5 M hx0 y Q hf hq
    rw [sh_welcome_l78] at hf
    refine e_iload hm_22 rfl rfl ?_
    refine e_aload_n hm_22 rfl rfl ?_
    refine e_getI hm_22 rfl (mm_cl8 hx0) rfl ?_
    by_cases hc1 : x5 < (M.1 x0 4)
    · rw [if_pos hc1] at hf
      refine e_ic_f hm_22 rfl (cf_ge hc1) ?_
      refine e_aload_n hm_22 rfl rfl ?_
      refine e_iload hm_22 rfl rfl ?_
      refine e_iload hm_22 rfl rfl ?_
      refine e_iconst hm_22 rfl kc_iconst_0 ?_
      obtain ⟨y2, hky2, hf⟩ := mm_bd hf
      refine e_virt hm_22 rfl rfl rfl (mm_cl8 hx0) (Nat.le_of_ble_eq_true rfl) hm_23 rfl rfl (c_23 x0 x4 x5 (0 : Int32) M hx0 hky2 ?_)
      show Ev Z _ 22 96 [some (.ref x0), none, none, none, some (.int x4), some (.int x5)] [] (mm_H y2.2) Q
      refine e_iinc (L2 := [some (.ref x0), none, none, none, some (.int x4), some (.int (x5 + (1 : Int32)))]) hm_22 rfl kc_iinc_1 rfl rfl ?_
      refine e_goto (t := 78) hm_22 rfl rfl ?_
      exact e_forget (L' := [some (.ref x0), none, none, none, some (.int x4), some (.int (x5 + (1 : Int32)))]) (lf_k (lf_k (lf_k (lf_k (lf_k (lf_k lf_0)))))) (ih x0 x4 (x5 + (1 : Int32)) y2.2 hx0 Q hf hq)
    · rw [if_neg hc1] at hf
      refine e_ic_t (t := 102) hm_22 rfl (ct_ge hc1) rfl ?_
      obtain rfl := Option.some.inj hf
      exact e_forget (L' := [none, none, none, none, some (.int x4), none]) (lf_d (lf_k (lf_k (lf_k (lf_k (lf_d lf_0)))))) hq
def sh_welcome (t : Nat) (a1 : Int32) (a2 : Int32) (a3 : Int32) (M : mm_M) : Option (Int32 × mm_M) :=
  if (M.1 t 4) < (4 : Int32) then
    if ak_inb (M.1 t 4) 4 = true then
    if ak_inb (M.1 t 4) 4 = true then
    if ak_inb (M.1 t 4) 4 = true then
    if ak_inb (M.1 t 4) 4 = true then
    if ak_inb (M.1 t 4) 4 = true then
    if ak_inb (M.1 t 4) 4 = true then
    (sh_welcome_l78 300 t (M.1 t 4) (0 : Int32) (ak_up (ak_up (ak_up (ak_up (ak_up (ak_up (ak_up M.1 t 4 ((M.1 t 4) + (1 : Int32))) (t + 1) ((M.1 t 4).toNatClampNeg) a1) (t + 2) ((M.1 t 4).toNatClampNeg) a2) (t + 3) ((M.1 t 4).toNatClampNeg) a3) (t + 4) ((M.1 t 4).toNatClampNeg) (0 : Int32)) (t + 5) ((M.1 t 4).toNatClampNeg) (0 : Int32)) (t + 6) ((M.1 t 4).toNatClampNeg) (-1 : Int32), M.2)).bind fun y8 =>
    some (M.1 t 4, y8.2) else none else none else none else none else none else none
  else
    some ((-4 : Int32), M)
set_option maxRecDepth 20000 in
set_option maxHeartbeats 4000000 in
theorem c_22 {Z : ak_Z} {d : Nat} (t : Nat) (a1 : Int32) (a2 : Int32) (a3 : Int32) (M : mm_M) (ht : mm_is8 t = true) {y : Int32 × mm_M} (hf : sh_welcome t a1 a2 a3 M = some y) {Q : Option Value → ak_H → Prop} (hq : Q (some (.int y.1)) (mm_H y.2)) : Ev Z (d + 2) 22 0 [some (.ref t), some (.int a1), some (.int a2), some (.int a3), none, none] [] (mm_H M) Q := by
  rw [sh_welcome] at hf
  refine e_aload_n hm_22 rfl rfl ?_
  refine e_getI hm_22 rfl (mm_cl8 ht) rfl ?_
  refine e_iconst hm_22 rfl kc_iconst_4 ?_
  by_cases hc1 : (M.1 t 4) < (4 : Int32)
  · rw [if_pos hc1] at hf
    refine e_ic_t (t := 11) hm_22 rfl (ct_lt hc1) rfl ?_
    refine e_aload_n hm_22 rfl rfl ?_
    refine e_getI hm_22 rfl (mm_cl8 ht) rfl ?_
    refine e_istore (L2 := [some (.ref t), some (.int a1), some (.int a2), some (.int a3), some (.int (M.1 t 4)), none]) hm_22 rfl rfl ?_
    refine e_aload_n hm_22 rfl rfl ?_
    refine e_dupa hm_22 rfl ?_
    refine e_getI hm_22 rfl (mm_cl8 ht) rfl ?_
    refine e_iconst hm_22 rfl kc_iconst_1 ?_
    refine e_iadd hm_22 rfl ?_
    refine e_putI hm_22 rfl (mm_cl8 ht) rfl ?_
    refine e_aload_n hm_22 rfl rfl ?_
    refine e_getR hm_22 rfl (mm_cl8 ht) rfl (mm_rf8_5 ht) ?_
    refine e_iload hm_22 rfl rfl ?_
    refine e_iload_n hm_22 rfl rfl ?_
    obtain ⟨hi2, hf⟩ := mm_ite hf
    refine e_iast hm_22 rfl (mm_ar8_5 ht) hi2 ?_
    refine e_aload_n hm_22 rfl rfl ?_
    refine e_getR hm_22 rfl (mm_cl8 ht) rfl (mm_rf8_6 ht) ?_
    refine e_iload hm_22 rfl rfl ?_
    refine e_iload_n hm_22 rfl rfl ?_
    obtain ⟨hi3, hf⟩ := mm_ite hf
    refine e_iast hm_22 rfl (mm_ar8_6 ht) hi3 ?_
    refine e_aload_n hm_22 rfl rfl ?_
    refine e_getR hm_22 rfl (mm_cl8 ht) rfl (mm_rf8_7 ht) ?_
    refine e_iload hm_22 rfl rfl ?_
    refine e_iload_n hm_22 rfl rfl ?_
    obtain ⟨hi4, hf⟩ := mm_ite hf
    refine e_iast hm_22 rfl (mm_ar8_7 ht) hi4 ?_
    refine e_aload_n hm_22 rfl rfl ?_
    refine e_getR hm_22 rfl (mm_cl8 ht) rfl (mm_rf8_8 ht) ?_
    refine e_iload hm_22 rfl rfl ?_
    refine e_iconst hm_22 rfl kc_iconst_0 ?_
    obtain ⟨hi5, hf⟩ := mm_ite hf
    refine e_iast hm_22 rfl (mm_ar8_8 ht) hi5 ?_
    refine e_aload_n hm_22 rfl rfl ?_
    refine e_getR hm_22 rfl (mm_cl8 ht) rfl (mm_rf8_9 ht) ?_
    refine e_iload hm_22 rfl rfl ?_
    refine e_iconst hm_22 rfl kc_iconst_0 ?_
    obtain ⟨hi6, hf⟩ := mm_ite hf
    refine e_iast hm_22 rfl (mm_ar8_9 ht) hi6 ?_
    refine e_aload_n hm_22 rfl rfl ?_
    refine e_getR hm_22 rfl (mm_cl8 ht) rfl (mm_rf8_10 ht) ?_
    refine e_iload hm_22 rfl rfl ?_
    refine e_iconst hm_22 rfl kc_iconst_m1 ?_
    obtain ⟨hi7, hf⟩ := mm_ite hf
    refine e_iast hm_22 rfl (mm_ar8_10 ht) hi7 ?_
    refine e_iconst hm_22 rfl kc_iconst_0 ?_
    refine e_istore (L2 := [some (.ref t), some (.int a1), some (.int a2), some (.int a3), some (.int (M.1 t 4)), some (.int (0 : Int32))]) hm_22 rfl rfl ?_
    obtain ⟨y8, hky8, hf⟩ := mm_bd hf
    refine e_forget (L' := [some (.ref t), none, none, none, some (.int (M.1 t 4)), some (.int (0 : Int32))]) (lf_k (lf_d (lf_d (lf_d (lf_k (lf_k lf_0)))))) (lc_22_78 (d := _) 300 t (M.1 t 4) (0 : Int32) (ak_up (ak_up (ak_up (ak_up (ak_up (ak_up (ak_up M.1 t 4 ((M.1 t 4) + (1 : Int32))) (t + 1) ((M.1 t 4).toNatClampNeg) a1) (t + 2) ((M.1 t 4).toNatClampNeg) a2) (t + 3) ((M.1 t 4).toNatClampNeg) a3) (t + 4) ((M.1 t 4).toNatClampNeg) (0 : Int32)) (t + 5) ((M.1 t 4).toNatClampNeg) (0 : Int32)) (t + 6) ((M.1 t 4).toNatClampNeg) (-1 : Int32), M.2) ht Q hky8 ?_)
    show Ev Z _ 22 102 [none, none, none, none, some (.int (M.1 t 4)), none] [] (mm_H y8.2) Q
    refine e_iload hm_22 rfl rfl ?_
    obtain rfl := Option.some.inj hf
    exact e_iret hm_22 rfl rfl hq
  · rw [if_neg hc1] at hf
    refine e_ic_f hm_22 rfl (cf_lt hc1) ?_
    refine e_bipush hm_22 rfl kc_bipush_m4 ?_
    obtain rfl := Option.some.inj hf
    exact e_iret hm_22 rfl rfl hq
def nb_clerk (a1 : Int32) (a2 : Int32) (a3 : Int32) (M : mm_M) : Option (Int32 × mm_M) :=
  if a1 < (0 : Int32) then
    some ((-2 : Int32), M)
  else
    if a1 < (6 : Int32) then
      if a2 < (0 : Int32) then
        some ((-2 : Int32), M)
      else
        if a2 < (10 : Int32) then
          if a3 < (1 : Int32) then
            some ((-2 : Int32), M)
          else
            if (4 : Int32) < a3 then
              some ((-2 : Int32), M)
            else
              (sh_welcome 1 a1 a2 a3 M).bind fun y7 =>
              some (y7.1, y7.2)
        else
          some ((-2 : Int32), M)
    else
      some ((-2 : Int32), M)
set_option maxRecDepth 20000 in
set_option maxHeartbeats 4000000 in
theorem c_21 {Z : ak_Z} {d : Nat} (a1 : Int32) (a2 : Int32) (a3 : Int32) (M : mm_M) {y : Int32 × mm_M} (hf : nb_clerk a1 a2 a3 M = some y) {Q : Option Value → ak_H → Prop} (hq : Q (some (.int y.1)) (mm_H y.2)) : Ev Z (d + 3) 21 0 [some (.ref 0), some (.int a1), some (.int a2), some (.int a3), none] [] (mm_H M) Q := by
  rw [nb_clerk] at hf
  refine e_iload_n hm_21 rfl rfl ?_
  by_cases hc1 : a1 < (0 : Int32)
  · rw [if_pos hc1] at hf
    refine e_if_t (t := 34) hm_21 rfl (ct_lt hc1) rfl ?_
    refine e_iconst hm_21 rfl kc_iconst_0 ?_
    refine e_istore (L2 := [some (.ref 0), some (.int a1), some (.int a2), some (.int a3), some (.int (0 : Int32))]) hm_21 rfl rfl ?_
    refine e_iload hm_21 rfl rfl ?_
    refine e_if_f hm_21 rfl (by decide) ?_
    refine e_bipush hm_21 rfl kc_bipush_m2 ?_
    obtain rfl := Option.some.inj hf
    exact e_iret hm_21 rfl rfl hq
  · rw [if_neg hc1] at hf
    refine e_if_f hm_21 rfl (cf_lt hc1) ?_
    refine e_iload_n hm_21 rfl rfl ?_
    refine e_bipush hm_21 rfl kc_bipush_6 ?_
    by_cases hc2 : a1 < (6 : Int32)
    · rw [if_pos hc2] at hf
      refine e_ic_f hm_21 rfl (cf_ge hc2) ?_
      refine e_iload_n hm_21 rfl rfl ?_
      by_cases hc3 : a2 < (0 : Int32)
      · rw [if_pos hc3] at hf
        refine e_if_t (t := 34) hm_21 rfl (ct_lt hc3) rfl ?_
        refine e_iconst hm_21 rfl kc_iconst_0 ?_
        refine e_istore (L2 := [some (.ref 0), some (.int a1), some (.int a2), some (.int a3), some (.int (0 : Int32))]) hm_21 rfl rfl ?_
        refine e_iload hm_21 rfl rfl ?_
        refine e_if_f hm_21 rfl (by decide) ?_
        refine e_bipush hm_21 rfl kc_bipush_m2 ?_
        obtain rfl := Option.some.inj hf
        exact e_iret hm_21 rfl rfl hq
      · rw [if_neg hc3] at hf
        refine e_if_f hm_21 rfl (cf_lt hc3) ?_
        refine e_iload_n hm_21 rfl rfl ?_
        refine e_bipush hm_21 rfl kc_bipush_10 ?_
        by_cases hc4 : a2 < (10 : Int32)
        · rw [if_pos hc4] at hf
          refine e_ic_f hm_21 rfl (cf_ge hc4) ?_
          refine e_iload_n hm_21 rfl rfl ?_
          refine e_iconst hm_21 rfl kc_iconst_1 ?_
          by_cases hc5 : a3 < (1 : Int32)
          · rw [if_pos hc5] at hf
            refine e_ic_t (t := 34) hm_21 rfl (ct_lt hc5) rfl ?_
            refine e_iconst hm_21 rfl kc_iconst_0 ?_
            refine e_istore (L2 := [some (.ref 0), some (.int a1), some (.int a2), some (.int a3), some (.int (0 : Int32))]) hm_21 rfl rfl ?_
            refine e_iload hm_21 rfl rfl ?_
            refine e_if_f hm_21 rfl (by decide) ?_
            refine e_bipush hm_21 rfl kc_bipush_m2 ?_
            obtain rfl := Option.some.inj hf
            exact e_iret hm_21 rfl rfl hq
          · rw [if_neg hc5] at hf
            refine e_ic_f hm_21 rfl (cf_lt hc5) ?_
            refine e_iload_n hm_21 rfl rfl ?_
            refine e_iconst hm_21 rfl kc_iconst_4 ?_
            by_cases hc6 : (4 : Int32) < a3
            · rw [if_pos hc6] at hf
              refine e_ic_t (t := 34) hm_21 rfl (ct_gt hc6) rfl ?_
              refine e_iconst hm_21 rfl kc_iconst_0 ?_
              refine e_istore (L2 := [some (.ref 0), some (.int a1), some (.int a2), some (.int a3), some (.int (0 : Int32))]) hm_21 rfl rfl ?_
              refine e_iload hm_21 rfl rfl ?_
              refine e_if_f hm_21 rfl (by decide) ?_
              refine e_bipush hm_21 rfl kc_bipush_m2 ?_
              obtain rfl := Option.some.inj hf
              exact e_iret hm_21 rfl rfl hq
            · rw [if_neg hc6] at hf
              refine e_ic_f hm_21 rfl (cf_gt hc6) ?_
              refine e_iconst hm_21 rfl kc_iconst_1 ?_
              refine e_goto (t := 35) hm_21 rfl rfl ?_
              refine e_istore (L2 := [some (.ref 0), some (.int a1), some (.int a2), some (.int a3), some (.int (1 : Int32))]) hm_21 rfl rfl ?_
              refine e_iload hm_21 rfl rfl ?_
              refine e_if_t (t := 45) hm_21 rfl (by decide) rfl ?_
              refine e_aload_n hm_21 rfl rfl ?_
              refine e_getR hm_21 rfl rfl rfl rfl ?_
              refine e_iload_n hm_21 rfl rfl ?_
              refine e_iload_n hm_21 rfl rfl ?_
              refine e_iload_n hm_21 rfl rfl ?_
              obtain ⟨y7, hky7, hf⟩ := mm_bd hf
              refine e_virt hm_21 rfl rfl rfl rfl (Nat.le_of_ble_eq_true rfl) hm_22 rfl rfl (c_22 1 a1 a2 a3 M rfl hky7 ?_)
              show Ev Z _ 21 55 [some (.ref 0), some (.int a1), some (.int a2), some (.int a3), some (.int (1 : Int32))] [.int y7.1] (mm_H y7.2) Q
              obtain rfl := Option.some.inj hf
              exact e_iret hm_21 rfl rfl hq
        · rw [if_neg hc4] at hf
          refine e_ic_t (t := 34) hm_21 rfl (ct_ge hc4) rfl ?_
          refine e_iconst hm_21 rfl kc_iconst_0 ?_
          refine e_istore (L2 := [some (.ref 0), some (.int a1), some (.int a2), some (.int a3), some (.int (0 : Int32))]) hm_21 rfl rfl ?_
          refine e_iload hm_21 rfl rfl ?_
          refine e_if_f hm_21 rfl (by decide) ?_
          refine e_bipush hm_21 rfl kc_bipush_m2 ?_
          obtain rfl := Option.some.inj hf
          exact e_iret hm_21 rfl rfl hq
    · rw [if_neg hc2] at hf
      refine e_ic_t (t := 34) hm_21 rfl (ct_ge hc2) rfl ?_
      refine e_iconst hm_21 rfl kc_iconst_0 ?_
      refine e_istore (L2 := [some (.ref 0), some (.int a1), some (.int a2), some (.int a3), some (.int (0 : Int32))]) hm_21 rfl rfl ?_
      refine e_iload hm_21 rfl rfl ?_
      refine e_if_f hm_21 rfl (by decide) ?_
      refine e_bipush hm_21 rfl kc_bipush_m2 ?_
      obtain rfl := Option.some.inj hf
      exact e_iret hm_21 rfl rfl hq
def nb_apart (a1 : Int32) (a2 : Int32) (a3 : Int32) (M : mm_M) : Option (Int32 × mm_M) :=
  (sh_isOne 1 a1 M).bind fun y1 =>
  if y1.1 = (0 : Int32) then
    some ((-2 : Int32), y1.2)
  else
    (sh_isOne 1 a2 y1.2).bind fun y3 =>
    if y3.1 = (0 : Int32) then
      some ((-2 : Int32), y3.2)
    else
      if a1 = a2 then
        some ((-2 : Int32), y3.2)
      else
        if a3 < (0 : Int32) then
          some ((-2 : Int32), y3.2)
        else
          if (1 : Int32) < a3 then
            some ((-2 : Int32), y3.2)
          else
            if ak_inb a1 4 = true then
            if a3 = (1 : Int32) then
              (sh_setApart 1 a1 a2 (1 : Int32) y3.2).bind fun y10 =>
              some (((y3.2.1 8 a1.toNatClampNeg) >>> (a2 &&& 31)) &&& (1 : Int32), y10.2)
            else
              (sh_setApart 1 a1 a2 (0 : Int32) y3.2).bind fun y11 =>
              some (((y3.2.1 8 a1.toNatClampNeg) >>> (a2 &&& 31)) &&& (1 : Int32), y11.2) else none
set_option maxRecDepth 20000 in
set_option maxHeartbeats 4000000 in
theorem c_24 {Z : ak_Z} {d : Nat} (a1 : Int32) (a2 : Int32) (a3 : Int32) (M : mm_M) {y : Int32 × mm_M} (hf : nb_apart a1 a2 a3 M = some y) {Q : Option Value → ak_H → Prop} (hq : Q (some (.int y.1)) (mm_H y.2)) : Ev Z (d + 2) 24 0 [some (.ref 0), some (.int a1), some (.int a2), some (.int a3), none] [] (mm_H M) Q := by
  rw [nb_apart] at hf
  refine e_aload_n hm_24 rfl rfl ?_
  refine e_getR hm_24 rfl rfl rfl rfl ?_
  refine e_iload_n hm_24 rfl rfl ?_
  obtain ⟨y1, hky1, hf⟩ := mm_bd hf
  refine e_virt hm_24 rfl rfl rfl rfl (Nat.le_of_ble_eq_true rfl) hm_16 rfl rfl (c_16 1 a1 M rfl hky1 ?_)
  show Ev Z _ 24 8 [some (.ref 0), some (.int a1), some (.int a2), some (.int a3), none] [.int y1.1] (mm_H y1.2) Q
  by_cases hc2 : y1.1 = (0 : Int32)
  · rw [if_pos hc2] at hf
    refine e_if_t (t := 36) hm_24 rfl (ct_eq hc2) rfl ?_
    refine e_bipush hm_24 rfl kc_bipush_m2 ?_
    obtain rfl := Option.some.inj hf
    exact e_iret hm_24 rfl rfl hq
  · rw [if_neg hc2] at hf
    refine e_if_f hm_24 rfl (cf_eq hc2) ?_
    refine e_aload_n hm_24 rfl rfl ?_
    refine e_getR hm_24 rfl rfl rfl rfl ?_
    refine e_iload_n hm_24 rfl rfl ?_
    obtain ⟨y3, hky3, hf⟩ := mm_bd hf
    refine e_virt hm_24 rfl rfl rfl rfl (Nat.le_of_ble_eq_true rfl) hm_16 rfl rfl (c_16 1 a2 y1.2 rfl hky3 ?_)
    show Ev Z _ 24 19 [some (.ref 0), some (.int a1), some (.int a2), some (.int a3), none] [.int y3.1] (mm_H y3.2) Q
    by_cases hc4 : y3.1 = (0 : Int32)
    · rw [if_pos hc4] at hf
      refine e_if_t (t := 36) hm_24 rfl (ct_eq hc4) rfl ?_
      refine e_bipush hm_24 rfl kc_bipush_m2 ?_
      obtain rfl := Option.some.inj hf
      exact e_iret hm_24 rfl rfl hq
    · rw [if_neg hc4] at hf
      refine e_if_f hm_24 rfl (cf_eq hc4) ?_
      refine e_iload_n hm_24 rfl rfl ?_
      refine e_iload_n hm_24 rfl rfl ?_
      by_cases hc5 : a1 = a2
      · rw [if_pos hc5] at hf
        refine e_ic_t (t := 36) hm_24 rfl (ct_eq hc5) rfl ?_
        refine e_bipush hm_24 rfl kc_bipush_m2 ?_
        obtain rfl := Option.some.inj hf
        exact e_iret hm_24 rfl rfl hq
      · rw [if_neg hc5] at hf
        refine e_ic_f hm_24 rfl (cf_eq hc5) ?_
        refine e_iload_n hm_24 rfl rfl ?_
        by_cases hc6 : a3 < (0 : Int32)
        · rw [if_pos hc6] at hf
          refine e_if_t (t := 36) hm_24 rfl (ct_lt hc6) rfl ?_
          refine e_bipush hm_24 rfl kc_bipush_m2 ?_
          obtain rfl := Option.some.inj hf
          exact e_iret hm_24 rfl rfl hq
        · rw [if_neg hc6] at hf
          refine e_if_f hm_24 rfl (cf_lt hc6) ?_
          refine e_iload_n hm_24 rfl rfl ?_
          refine e_iconst hm_24 rfl kc_iconst_1 ?_
          by_cases hc7 : (1 : Int32) < a3
          · rw [if_pos hc7] at hf
            refine e_ic_f hm_24 rfl (cf_le hc7) ?_
            refine e_bipush hm_24 rfl kc_bipush_m2 ?_
            obtain rfl := Option.some.inj hf
            exact e_iret hm_24 rfl rfl hq
          · rw [if_neg hc7] at hf
            refine e_ic_t (t := 39) hm_24 rfl (ct_le hc7) rfl ?_
            refine e_aload_n hm_24 rfl rfl ?_
            refine e_getR hm_24 rfl rfl rfl rfl ?_
            refine e_getR hm_24 rfl rfl rfl rfl ?_
            refine e_iload_n hm_24 rfl rfl ?_
            obtain ⟨hi8, hf⟩ := mm_ite hf
            refine e_iald hm_24 rfl rfl hi8 ?_
            refine e_iload_n hm_24 rfl rfl ?_
            refine e_ishr hm_24 rfl ?_
            refine e_iconst hm_24 rfl kc_iconst_1 ?_
            refine e_iand hm_24 rfl ?_
            refine e_istore (L2 := [some (.ref 0), some (.int a1), some (.int a2), some (.int a3), some (.int (((y3.2.1 8 a1.toNatClampNeg) >>> (a2 &&& 31)) &&& (1 : Int32)))]) hm_24 rfl rfl ?_
            refine e_aload_n hm_24 rfl rfl ?_
            refine e_getR hm_24 rfl rfl rfl rfl ?_
            refine e_iload_n hm_24 rfl rfl ?_
            refine e_iload_n hm_24 rfl rfl ?_
            refine e_iload_n hm_24 rfl rfl ?_
            refine e_iconst hm_24 rfl kc_iconst_1 ?_
            by_cases hc9 : a3 = (1 : Int32)
            · rw [if_pos hc9] at hf
              refine e_ic_f hm_24 rfl (cf_ne hc9) ?_
              refine e_iconst hm_24 rfl kc_iconst_1 ?_
              refine e_goto (t := 70) hm_24 rfl rfl ?_
              obtain ⟨y10, hky10, hf⟩ := mm_bd hf
              refine e_virt hm_24 rfl rfl rfl rfl (Nat.le_of_ble_eq_true rfl) hm_23 rfl rfl (c_23 1 a1 a2 (1 : Int32) y3.2 rfl hky10 ?_)
              show Ev Z _ 24 73 [some (.ref 0), some (.int a1), some (.int a2), some (.int a3), some (.int (((y3.2.1 8 a1.toNatClampNeg) >>> (a2 &&& 31)) &&& (1 : Int32)))] [] (mm_H y10.2) Q
              refine e_iload hm_24 rfl rfl ?_
              obtain rfl := Option.some.inj hf
              exact e_iret hm_24 rfl rfl hq
            · rw [if_neg hc9] at hf
              refine e_ic_t (t := 69) hm_24 rfl (ct_ne hc9) rfl ?_
              refine e_iconst hm_24 rfl kc_iconst_0 ?_
              obtain ⟨y11, hky11, hf⟩ := mm_bd hf
              refine e_virt hm_24 rfl rfl rfl rfl (Nat.le_of_ble_eq_true rfl) hm_23 rfl rfl (c_23 1 a1 a2 (0 : Int32) y3.2 rfl hky11 ?_)
              show Ev Z _ 24 73 [some (.ref 0), some (.int a1), some (.int a2), some (.int a3), some (.int (((y3.2.1 8 a1.toNatClampNeg) >>> (a2 &&& 31)) &&& (1 : Int32)))] [] (mm_H y11.2) Q
              refine e_iload hm_24 rfl rfl ?_
              obtain rfl := Option.some.inj hf
              exact e_iret hm_24 rfl rfl hq
def nb_isWeek (a1 : Int32) (M : mm_M) : Option (Int32 × mm_M) :=
  if a1 < (0 : Int32) then
    some ((0 : Int32), M)
  else
    if a1 < (8 : Int32) then
      some ((1 : Int32), M)
    else
      some ((0 : Int32), M)
set_option maxRecDepth 20000 in
set_option maxHeartbeats 4000000 in
theorem c_26 {Z : ak_Z} {d : Nat} (a1 : Int32) (M : mm_M) {y : Int32 × mm_M} (hf : nb_isWeek a1 M = some y) {Q : Option Value → ak_H → Prop} (hq : Q (some (.int y.1)) (mm_H y.2)) : Ev Z (d + 0) 26 0 [some (.int a1)] [] (mm_H M) Q := by
  rw [nb_isWeek] at hf
  refine e_iload_n hm_26 rfl rfl ?_
  by_cases hc1 : a1 < (0 : Int32)
  · rw [if_pos hc1] at hf
    refine e_if_t (t := 14) hm_26 rfl (ct_lt hc1) rfl ?_
    refine e_iconst hm_26 rfl kc_iconst_0 ?_
    obtain rfl := Option.some.inj hf
    exact e_zret hm_26 rfl rfl (by decide) hq
  · rw [if_neg hc1] at hf
    refine e_if_f hm_26 rfl (cf_lt hc1) ?_
    refine e_iload_n hm_26 rfl rfl ?_
    refine e_bipush hm_26 rfl kc_bipush_8 ?_
    by_cases hc2 : a1 < (8 : Int32)
    · rw [if_pos hc2] at hf
      refine e_ic_f hm_26 rfl (cf_ge hc2) ?_
      refine e_iconst hm_26 rfl kc_iconst_1 ?_
      refine e_goto (t := 15) hm_26 rfl rfl ?_
      obtain rfl := Option.some.inj hf
      exact e_zret hm_26 rfl rfl (by decide) hq
    · rw [if_neg hc2] at hf
      refine e_ic_t (t := 14) hm_26 rfl (ct_ge hc2) rfl ?_
      refine e_iconst hm_26 rfl kc_iconst_0 ?_
      obtain rfl := Option.some.inj hf
      exact e_zret hm_26 rfl rfl (by decide) hq
def sh_weeksFrom (t : Nat) (a1 : Int32) (a2 : Int32) (M : mm_M) : Option (Int32 × mm_M) :=
  (sh_isOne t a1 M).bind fun y1 =>
  if y1.1 = (0 : Int32) then
    some ((0 : Int32), y1.2)
  else
    (nb_isWeek a2 y1.2).bind fun y3 =>
    if y3.1 = (0 : Int32) then
      some ((0 : Int32), y3.2)
    else
      if ak_inb a1 4 = true then
      some (((((1 : Int32) <<< ((y3.2.1 (t + 3) a1.toNatClampNeg) &&& 31)) - (1 : Int32)) <<< (a2 &&& 31)) &&& (255 : Int32), y3.2) else none
set_option maxRecDepth 20000 in
set_option maxHeartbeats 4000000 in
theorem c_28 {Z : ak_Z} {d : Nat} (t : Nat) (a1 : Int32) (a2 : Int32) (M : mm_M) (ht : mm_is8 t = true) {y : Int32 × mm_M} (hf : sh_weeksFrom t a1 a2 M = some y) {Q : Option Value → ak_H → Prop} (hq : Q (some (.int y.1)) (mm_H y.2)) : Ev Z (d + 1) 28 0 [some (.ref t), some (.int a1), some (.int a2)] [] (mm_H M) Q := by
  rw [sh_weeksFrom] at hf
  refine e_aload_n hm_28 rfl rfl ?_
  refine e_iload_n hm_28 rfl rfl ?_
  obtain ⟨y1, hky1, hf⟩ := mm_bd hf
  refine e_virt hm_28 rfl rfl rfl (mm_cl8 ht) (Nat.le_of_ble_eq_true rfl) hm_16 rfl rfl (c_16 t a1 M ht hky1 ?_)
  show Ev Z _ 28 5 [some (.ref t), some (.int a1), some (.int a2)] [.int y1.1] (mm_H y1.2) Q
  by_cases hc2 : y1.1 = (0 : Int32)
  · rw [if_pos hc2] at hf
    refine e_if_t (t := 15) hm_28 rfl (ct_eq hc2) rfl ?_
    refine e_iconst hm_28 rfl kc_iconst_0 ?_
    obtain rfl := Option.some.inj hf
    exact e_iret hm_28 rfl rfl hq
  · rw [if_neg hc2] at hf
    refine e_if_f hm_28 rfl (cf_eq hc2) ?_
    refine e_iload_n hm_28 rfl rfl ?_
    obtain ⟨y3, hky3, hf⟩ := mm_bd hf
    refine e_stat hm_28 rfl (by decide) rfl rfl (Nat.le_of_ble_eq_true rfl) hm_26 rfl rfl (c_26 a2 y1.2 hky3 ?_)
    show Ev Z _ 28 12 [some (.ref t), some (.int a1), some (.int a2)] [.int y3.1] (mm_H y3.2) Q
    by_cases hc4 : y3.1 = (0 : Int32)
    · rw [if_pos hc4] at hf
      refine e_if_f hm_28 rfl (cf_ne hc4) ?_
      refine e_iconst hm_28 rfl kc_iconst_0 ?_
      obtain rfl := Option.some.inj hf
      exact e_iret hm_28 rfl rfl hq
    · rw [if_neg hc4] at hf
      refine e_if_t (t := 17) hm_28 rfl (ct_ne hc4) rfl ?_
      refine e_iconst hm_28 rfl kc_iconst_1 ?_
      refine e_aload_n hm_28 rfl rfl ?_
      refine e_getR hm_28 rfl (mm_cl8 ht) rfl (mm_rf8_7 ht) ?_
      refine e_iload_n hm_28 rfl rfl ?_
      obtain ⟨hi5, hf⟩ := mm_ite hf
      refine e_iald hm_28 rfl (mm_ar8_7 ht) hi5 ?_
      refine e_ishl hm_28 rfl ?_
      refine e_iconst hm_28 rfl kc_iconst_1 ?_
      refine e_isub hm_28 rfl ?_
      refine e_iload_n hm_28 rfl rfl ?_
      refine e_ishl hm_28 rfl ?_
      refine e_sipush hm_28 rfl kc_sipush_255 ?_
      refine e_iand hm_28 rfl ?_
      obtain rfl := Option.some.inj hf
      exact e_iret hm_28 rfl rfl hq
def ru_nameOne (a1 : Nat) (a2 : Int32) (M : mm_M) : Option (Unit × mm_M) :=
  if ak_inb (0 : Int32) 6 = true then
  if ak_inb (1 : Int32) 6 = true then
  if ak_inb a2 4 = true then
  if ak_inb (2 : Int32) 6 = true then
  if ak_inb a2 4 = true then
  if ak_inb (3 : Int32) 6 = true then
  if ak_inb a2 4 = true then
  if ak_inb (4 : Int32) 6 = true then
  if ak_inb (5 : Int32) 6 = true then
  some ((), (ak_up (ak_up (ak_up (ak_up (ak_up (ak_up M.1 35 ((0 : Int32).toNatClampNeg) (0 : Int32)) 35 ((1 : Int32).toNatClampNeg) (0 : Int32)) 35 ((2 : Int32).toNatClampNeg) ((ak_up (ak_up M.1 35 ((0 : Int32).toNatClampNeg) (0 : Int32)) 35 ((1 : Int32).toNatClampNeg) (0 : Int32)) (a1 + 2) a2.toNatClampNeg)) 35 ((3 : Int32).toNatClampNeg) ((ak_up (ak_up (ak_up M.1 35 ((0 : Int32).toNatClampNeg) (0 : Int32)) 35 ((1 : Int32).toNatClampNeg) (0 : Int32)) 35 ((2 : Int32).toNatClampNeg) ((ak_up (ak_up M.1 35 ((0 : Int32).toNatClampNeg) (0 : Int32)) 35 ((1 : Int32).toNatClampNeg) (0 : Int32)) (a1 + 2) a2.toNatClampNeg)) (a1 + 3) a2.toNatClampNeg)) 35 ((4 : Int32).toNatClampNeg) ((ak_up (ak_up (ak_up (ak_up M.1 35 ((0 : Int32).toNatClampNeg) (0 : Int32)) 35 ((1 : Int32).toNatClampNeg) (0 : Int32)) 35 ((2 : Int32).toNatClampNeg) ((ak_up (ak_up M.1 35 ((0 : Int32).toNatClampNeg) (0 : Int32)) 35 ((1 : Int32).toNatClampNeg) (0 : Int32)) (a1 + 2) a2.toNatClampNeg)) 35 ((3 : Int32).toNatClampNeg) ((ak_up (ak_up (ak_up M.1 35 ((0 : Int32).toNatClampNeg) (0 : Int32)) 35 ((1 : Int32).toNatClampNeg) (0 : Int32)) 35 ((2 : Int32).toNatClampNeg) ((ak_up (ak_up M.1 35 ((0 : Int32).toNatClampNeg) (0 : Int32)) 35 ((1 : Int32).toNatClampNeg) (0 : Int32)) (a1 + 2) a2.toNatClampNeg)) (a1 + 3) a2.toNatClampNeg)) (a1 + 5) a2.toNatClampNeg)) 35 ((5 : Int32).toNatClampNeg) (0 : Int32), M.2)) else none else none else none else none else none else none else none else none else none
set_option maxRecDepth 20000 in
set_option maxHeartbeats 4000000 in
theorem c_31 {Z : ak_Z} {d : Nat} (a1 : Nat) (a2 : Int32) (M : mm_M) (ha1 : mm_is8 a1 = true) {y : Unit × mm_M} (hf : ru_nameOne a1 a2 M = some y) {Q : Option Value → ak_H → Prop} (hq : Q none (mm_H y.2)) : Ev Z (d + 0) 31 0 [some (.ref 26), some (.ref a1), some (.int a2)] [] (mm_H M) Q := by
  rw [ru_nameOne] at hf
  refine e_aload_n hm_31 rfl rfl ?_
  refine e_getR hm_31 rfl rfl rfl rfl ?_
  refine e_iconst hm_31 rfl kc_iconst_0 ?_
  refine e_iconst hm_31 rfl kc_iconst_0 ?_
  obtain ⟨hi1, hf⟩ := mm_ite hf
  refine e_iast hm_31 rfl rfl hi1 ?_
  refine e_aload_n hm_31 rfl rfl ?_
  refine e_getR hm_31 rfl rfl rfl rfl ?_
  refine e_iconst hm_31 rfl kc_iconst_1 ?_
  refine e_iconst hm_31 rfl kc_iconst_0 ?_
  obtain ⟨hi2, hf⟩ := mm_ite hf
  refine e_iast hm_31 rfl rfl hi2 ?_
  refine e_aload_n hm_31 rfl rfl ?_
  refine e_getR hm_31 rfl rfl rfl rfl ?_
  refine e_iconst hm_31 rfl kc_iconst_2 ?_
  refine e_aload_n hm_31 rfl rfl ?_
  refine e_getR hm_31 rfl (mm_cl8 ha1) rfl (mm_rf8_6 ha1) ?_
  refine e_iload_n hm_31 rfl rfl ?_
  obtain ⟨hi3, hf⟩ := mm_ite hf
  refine e_iald hm_31 rfl (mm_ar8_6 ha1) hi3 ?_
  obtain ⟨hi4, hf⟩ := mm_ite hf
  refine e_iast hm_31 rfl rfl hi4 ?_
  refine e_aload_n hm_31 rfl rfl ?_
  refine e_getR hm_31 rfl rfl rfl rfl ?_
  refine e_iconst hm_31 rfl kc_iconst_3 ?_
  refine e_aload_n hm_31 rfl rfl ?_
  refine e_getR hm_31 rfl (mm_cl8 ha1) rfl (mm_rf8_7 ha1) ?_
  refine e_iload_n hm_31 rfl rfl ?_
  obtain ⟨hi5, hf⟩ := mm_ite hf
  refine e_iald hm_31 rfl (mm_ar8_7 ha1) hi5 ?_
  obtain ⟨hi6, hf⟩ := mm_ite hf
  refine e_iast hm_31 rfl rfl hi6 ?_
  refine e_aload_n hm_31 rfl rfl ?_
  refine e_getR hm_31 rfl rfl rfl rfl ?_
  refine e_iconst hm_31 rfl kc_iconst_4 ?_
  refine e_aload_n hm_31 rfl rfl ?_
  refine e_getR hm_31 rfl (mm_cl8 ha1) rfl (mm_rf8_9 ha1) ?_
  refine e_iload_n hm_31 rfl rfl ?_
  obtain ⟨hi7, hf⟩ := mm_ite hf
  refine e_iald hm_31 rfl (mm_ar8_9 ha1) hi7 ?_
  obtain ⟨hi8, hf⟩ := mm_ite hf
  refine e_iast hm_31 rfl rfl hi8 ?_
  refine e_aload_n hm_31 rfl rfl ?_
  refine e_getR hm_31 rfl rfl rfl rfl ?_
  refine e_iconst hm_31 rfl kc_iconst_5 ?_
  refine e_iconst hm_31 rfl kc_iconst_0 ?_
  obtain ⟨hi9, hf⟩ := mm_ite hf
  refine e_iast hm_31 rfl rfl hi9 ?_
  obtain rfl := Option.some.inj hf
  exact e_vret hm_31 rfl rfl hq
def sh_wishesFor (t : Nat) (a1 : Int32) (a2 : Int32) (M : mm_M) : Option (Int32 × mm_M) :=
  if ak_inb a1 4 = true then
  if (((M.1 (t + 4) a1.toNatClampNeg) >>> (a2 &&& 31)) &&& (1 : Int32)) = (0 : Int32) then
    some ((0 : Int32), M)
  else
    some ((1 : Int32), M) else none
set_option maxRecDepth 20000 in
set_option maxHeartbeats 4000000 in
theorem c_32 {Z : ak_Z} {d : Nat} (t : Nat) (a1 : Int32) (a2 : Int32) (M : mm_M) (ht : mm_is8 t = true) {y : Int32 × mm_M} (hf : sh_wishesFor t a1 a2 M = some y) {Q : Option Value → ak_H → Prop} (hq : Q (some (.int y.1)) (mm_H y.2)) : Ev Z (d + 0) 32 0 [some (.ref t), some (.int a1), some (.int a2)] [] (mm_H M) Q := by
  rw [sh_wishesFor] at hf
  refine e_aload_n hm_32 rfl rfl ?_
  refine e_getR hm_32 rfl (mm_cl8 ht) rfl (mm_rf8_8 ht) ?_
  refine e_iload_n hm_32 rfl rfl ?_
  obtain ⟨hi1, hf⟩ := mm_ite hf
  refine e_iald hm_32 rfl (mm_ar8_8 ht) hi1 ?_
  refine e_iload_n hm_32 rfl rfl ?_
  refine e_ishr hm_32 rfl ?_
  refine e_iconst hm_32 rfl kc_iconst_1 ?_
  refine e_iand hm_32 rfl ?_
  by_cases hc2 : (((M.1 (t + 4) a1.toNatClampNeg) >>> (a2 &&& 31)) &&& (1 : Int32)) = (0 : Int32)
  · rw [if_pos hc2] at hf
    refine e_if_t (t := 17) hm_32 rfl (ct_eq hc2) rfl ?_
    refine e_iconst hm_32 rfl kc_iconst_0 ?_
    obtain rfl := Option.some.inj hf
    exact e_zret hm_32 rfl rfl (by decide) hq
  · rw [if_neg hc2] at hf
    refine e_if_f hm_32 rfl (cf_eq hc2) ?_
    refine e_iconst hm_32 rfl kc_iconst_1 ?_
    refine e_goto (t := 18) hm_32 rfl rfl ?_
    obtain rfl := Option.some.inj hf
    exact e_zret hm_32 rfl rfl (by decide) hq
def sh_othersWishing_l5 : Nat → Nat → Int32 → Int32 → Int32 → Int32 → mm_M → Option (((Int32) × mm_M))
  | 0, _, _, _, _, _, _ => none
  | n + 1, x0, x1, x2, x3, x4, M =>
    if x4 < (M.1 x0 4) then
      if x4 = x1 then
        sh_othersWishing_l5 n x0 x1 x2 x3 (x4 + (1 : Int32)) M
      else
        if ak_inb x4 4 = true then
        sh_othersWishing_l5 n x0 x1 x2 (x3 + (((M.1 (x0 + 4) x4.toNatClampNeg) >>> (x2 &&& 31)) &&& (1 : Int32))) (x4 + (1 : Int32)) M else none
    else
      some (x3, M)
set_option maxRecDepth 20000 in
set_option maxHeartbeats 4000000 in
theorem lc_33_5 {Z : ak_Z} {d : Nat} : ∀ (n : Nat) (x0 : Nat) (x1 : Int32) (x2 : Int32) (x3 : Int32) (x4 : Int32) (M : mm_M) (hx0 : mm_is8 x0 = true) {y : ((Int32) × mm_M)} (Q : Option Value → ak_H → Prop), sh_othersWishing_l5 n x0 x1 x2 x3 x4 M = some y → (Ev Z (d + 0) 33 40 [none, none, none, some (.int y.1), none] [] (mm_H y.2) Q) → Ev Z (d + 0) 33 5 [some (.ref x0), some (.int x1), some (.int x2), some (.int x3), some (.int x4)] [] (mm_H M) Q := by
  intro n
  induction n with
  | zero => intro x0 x1 x2 x3 x4 M hx0 y Q hf; cases hf
  | succ n ih =>
    intro x0 x1 x2 x3 x4 M hx0 y Q hf hq
    rw [sh_othersWishing_l5] at hf
    refine e_iload hm_33 rfl rfl ?_
    refine e_aload_n hm_33 rfl rfl ?_
    refine e_getI hm_33 rfl (mm_cl8 hx0) rfl ?_
    by_cases hc1 : x4 < (M.1 x0 4)
    · rw [if_pos hc1] at hf
      refine e_ic_f hm_33 rfl (cf_ge hc1) ?_
      refine e_iload hm_33 rfl rfl ?_
      refine e_iload_n hm_33 rfl rfl ?_
      by_cases hc2 : x4 = x1
      · rw [if_pos hc2] at hf
        refine e_ic_t (t := 34) hm_33 rfl (ct_eq hc2) rfl ?_
        refine e_iinc (L2 := [some (.ref x0), some (.int x1), some (.int x2), some (.int x3), some (.int (x4 + (1 : Int32)))]) hm_33 rfl kc_iinc_1 rfl rfl ?_
        refine e_goto (t := 5) hm_33 rfl rfl ?_
        exact e_forget (L' := [some (.ref x0), some (.int x1), some (.int x2), some (.int x3), some (.int (x4 + (1 : Int32)))]) (lf_k (lf_k (lf_k (lf_k (lf_k lf_0))))) (ih x0 x1 x2 x3 (x4 + (1 : Int32)) M hx0 Q hf hq)
      · rw [if_neg hc2] at hf
        refine e_ic_f hm_33 rfl (cf_eq hc2) ?_
        refine e_iload_n hm_33 rfl rfl ?_
        refine e_aload_n hm_33 rfl rfl ?_
        refine e_getR hm_33 rfl (mm_cl8 hx0) rfl (mm_rf8_8 hx0) ?_
        refine e_iload hm_33 rfl rfl ?_
        obtain ⟨hi3, hf⟩ := mm_ite hf
        refine e_iald hm_33 rfl (mm_ar8_8 hx0) hi3 ?_
        refine e_iload_n hm_33 rfl rfl ?_
        refine e_ishr hm_33 rfl ?_
        refine e_iconst hm_33 rfl kc_iconst_1 ?_
        refine e_iand hm_33 rfl ?_
        refine e_iadd hm_33 rfl ?_
        refine e_istore_n (L2 := [some (.ref x0), some (.int x1), some (.int x2), some (.int (x3 + (((M.1 (x0 + 4) x4.toNatClampNeg) >>> (x2 &&& 31)) &&& (1 : Int32)))), some (.int x4)]) hm_33 rfl rfl ?_
        refine e_iinc (L2 := [some (.ref x0), some (.int x1), some (.int x2), some (.int (x3 + (((M.1 (x0 + 4) x4.toNatClampNeg) >>> (x2 &&& 31)) &&& (1 : Int32)))), some (.int (x4 + (1 : Int32)))]) hm_33 rfl kc_iinc_1 rfl rfl ?_
        refine e_goto (t := 5) hm_33 rfl rfl ?_
        exact e_forget (L' := [some (.ref x0), some (.int x1), some (.int x2), some (.int (x3 + (((M.1 (x0 + 4) x4.toNatClampNeg) >>> (x2 &&& 31)) &&& (1 : Int32)))), some (.int (x4 + (1 : Int32)))]) (lf_k (lf_k (lf_k (lf_k (lf_k lf_0))))) (ih x0 x1 x2 (x3 + (((M.1 (x0 + 4) x4.toNatClampNeg) >>> (x2 &&& 31)) &&& (1 : Int32))) (x4 + (1 : Int32)) M hx0 Q hf hq)
    · rw [if_neg hc1] at hf
      refine e_ic_t (t := 40) hm_33 rfl (ct_ge hc1) rfl ?_
      obtain rfl := Option.some.inj hf
      exact e_forget (L' := [none, none, none, some (.int x3), none]) (lf_d (lf_d (lf_d (lf_k (lf_d lf_0))))) hq
def sh_othersWishing (t : Nat) (a1 : Int32) (a2 : Int32) (M : mm_M) : Option (Int32 × mm_M) :=
  (sh_othersWishing_l5 300 t a1 a2 (0 : Int32) (0 : Int32) M).bind fun y1 =>
  some (y1.1, y1.2)
set_option maxRecDepth 20000 in
set_option maxHeartbeats 4000000 in
theorem c_33 {Z : ak_Z} {d : Nat} (t : Nat) (a1 : Int32) (a2 : Int32) (M : mm_M) (ht : mm_is8 t = true) {y : Int32 × mm_M} (hf : sh_othersWishing t a1 a2 M = some y) {Q : Option Value → ak_H → Prop} (hq : Q (some (.int y.1)) (mm_H y.2)) : Ev Z (d + 0) 33 0 [some (.ref t), some (.int a1), some (.int a2), none, none] [] (mm_H M) Q := by
  rw [sh_othersWishing] at hf
  refine e_iconst hm_33 rfl kc_iconst_0 ?_
  refine e_istore_n (L2 := [some (.ref t), some (.int a1), some (.int a2), some (.int (0 : Int32)), none]) hm_33 rfl rfl ?_
  refine e_iconst hm_33 rfl kc_iconst_0 ?_
  refine e_istore (L2 := [some (.ref t), some (.int a1), some (.int a2), some (.int (0 : Int32)), some (.int (0 : Int32))]) hm_33 rfl rfl ?_
  obtain ⟨y1, hky1, hf⟩ := mm_bd hf
  refine e_forget (L' := [some (.ref t), some (.int a1), some (.int a2), some (.int (0 : Int32)), some (.int (0 : Int32))]) (lf_k (lf_k (lf_k (lf_k (lf_k lf_0))))) (lc_33_5 (d := _) 300 t a1 a2 (0 : Int32) (0 : Int32) M ht Q hky1 ?_)
  show Ev Z _ 33 40 [none, none, none, some (.int y1.1), none] [] (mm_H y1.2) Q
  refine e_iload_n hm_33 rfl rfl ?_
  obtain rfl := Option.some.inj hf
  exact e_iret hm_33 rfl rfl hq
def ru_nameWeek (a1 : Nat) (a2 : Int32) (a3 : Int32) (M : mm_M) : Option (Unit × mm_M) :=
  (ru_nameOne a1 a2 M).bind fun y1 =>
  if ak_inb (0 : Int32) 6 = true then
  (sh_wishesFor a1 a2 a3 (ak_up y1.2.1 35 ((0 : Int32).toNatClampNeg) a3, y1.2.2)).bind fun y3 =>
  if y3.1 = (0 : Int32) then
    if ak_inb (1 : Int32) 6 = true then
    (sh_othersWishing a1 a2 a3 (ak_up y3.2.1 35 ((1 : Int32).toNatClampNeg) (0 : Int32), y3.2.2)).bind fun y6 =>
    if ak_inb (5 : Int32) 6 = true then
    some ((), (ak_up y6.2.1 35 ((5 : Int32).toNatClampNeg) y6.1, y6.2.2)) else none else none
  else
    if ak_inb (1 : Int32) 6 = true then
    (sh_othersWishing a1 a2 a3 (ak_up y3.2.1 35 ((1 : Int32).toNatClampNeg) (1 : Int32), y3.2.2)).bind fun y9 =>
    if ak_inb (5 : Int32) 6 = true then
    some ((), (ak_up y9.2.1 35 ((5 : Int32).toNatClampNeg) y9.1, y9.2.2)) else none else none else none
set_option maxRecDepth 20000 in
set_option maxHeartbeats 4000000 in
theorem c_30 {Z : ak_Z} {d : Nat} (a1 : Nat) (a2 : Int32) (a3 : Int32) (M : mm_M) (ha1 : mm_is8 a1 = true) {y : Unit × mm_M} (hf : ru_nameWeek a1 a2 a3 M = some y) {Q : Option Value → ak_H → Prop} (hq : Q none (mm_H y.2)) : Ev Z (d + 1) 30 0 [some (.ref 26), some (.ref a1), some (.int a2), some (.int a3)] [] (mm_H M) Q := by
  rw [ru_nameWeek] at hf
  refine e_aload_n hm_30 rfl rfl ?_
  refine e_aload_n hm_30 rfl rfl ?_
  refine e_iload_n hm_30 rfl rfl ?_
  obtain ⟨y1, hky1, hf⟩ := mm_bd hf
  refine e_virt hm_30 rfl rfl rfl rfl (Nat.le_of_ble_eq_true rfl) hm_31 rfl rfl (c_31 a1 a2 M ha1 hky1 ?_)
  show Ev Z _ 30 6 [some (.ref 26), some (.ref a1), some (.int a2), some (.int a3)] [] (mm_H y1.2) Q
  refine e_aload_n hm_30 rfl rfl ?_
  refine e_getR hm_30 rfl rfl rfl rfl ?_
  refine e_iconst hm_30 rfl kc_iconst_0 ?_
  refine e_iload_n hm_30 rfl rfl ?_
  obtain ⟨hi2, hf⟩ := mm_ite hf
  refine e_iast hm_30 rfl rfl hi2 ?_
  refine e_aload_n hm_30 rfl rfl ?_
  refine e_getR hm_30 rfl rfl rfl rfl ?_
  refine e_iconst hm_30 rfl kc_iconst_1 ?_
  refine e_aload_n hm_30 rfl rfl ?_
  refine e_iload_n hm_30 rfl rfl ?_
  refine e_iload_n hm_30 rfl rfl ?_
  obtain ⟨y3, hky3, hf⟩ := mm_bd hf
  refine e_virt hm_30 rfl rfl rfl (mm_cl8 ha1) (Nat.le_of_ble_eq_true rfl) hm_32 rfl rfl (c_32 a1 a2 a3 (ak_up y1.2.1 35 ((0 : Int32).toNatClampNeg) a3, y1.2.2) ha1 hky3 ?_)
  show Ev Z _ 30 24 [some (.ref 26), some (.ref a1), some (.int a2), some (.int a3)] [.int y3.1, .int (1 : Int32), .ref 35] (mm_H y3.2) Q
  by_cases hc4 : y3.1 = (0 : Int32)
  · rw [if_pos hc4] at hf
    refine e_if_t (t := 31) hm_30 rfl (ct_eq hc4) rfl ?_
    refine e_iconst hm_30 rfl kc_iconst_0 ?_
    obtain ⟨hi5, hf⟩ := mm_ite hf
    refine e_iast hm_30 rfl rfl hi5 ?_
    refine e_aload_n hm_30 rfl rfl ?_
    refine e_getR hm_30 rfl rfl rfl rfl ?_
    refine e_iconst hm_30 rfl kc_iconst_5 ?_
    refine e_aload_n hm_30 rfl rfl ?_
    refine e_iload_n hm_30 rfl rfl ?_
    refine e_iload_n hm_30 rfl rfl ?_
    obtain ⟨y6, hky6, hf⟩ := mm_bd hf
    refine e_virt hm_30 rfl rfl rfl (mm_cl8 ha1) (Nat.le_of_ble_eq_true rfl) hm_33 rfl rfl (c_33 a1 a2 a3 (ak_up y3.2.1 35 ((1 : Int32).toNatClampNeg) (0 : Int32), y3.2.2) ha1 hky6 ?_)
    show Ev Z _ 30 44 [some (.ref 26), some (.ref a1), some (.int a2), some (.int a3)] [.int y6.1, .int (5 : Int32), .ref 35] (mm_H y6.2) Q
    obtain ⟨hi7, hf⟩ := mm_ite hf
    refine e_iast hm_30 rfl rfl hi7 ?_
    obtain rfl := Option.some.inj hf
    exact e_vret hm_30 rfl rfl hq
  · rw [if_neg hc4] at hf
    refine e_if_f hm_30 rfl (cf_eq hc4) ?_
    refine e_iconst hm_30 rfl kc_iconst_1 ?_
    refine e_goto (t := 32) hm_30 rfl rfl ?_
    obtain ⟨hi8, hf⟩ := mm_ite hf
    refine e_iast hm_30 rfl rfl hi8 ?_
    refine e_aload_n hm_30 rfl rfl ?_
    refine e_getR hm_30 rfl rfl rfl rfl ?_
    refine e_iconst hm_30 rfl kc_iconst_5 ?_
    refine e_aload_n hm_30 rfl rfl ?_
    refine e_iload_n hm_30 rfl rfl ?_
    refine e_iload_n hm_30 rfl rfl ?_
    obtain ⟨y9, hky9, hf⟩ := mm_bd hf
    refine e_virt hm_30 rfl rfl rfl (mm_cl8 ha1) (Nat.le_of_ble_eq_true rfl) hm_33 rfl rfl (c_33 a1 a2 a3 (ak_up y3.2.1 35 ((1 : Int32).toNatClampNeg) (1 : Int32), y3.2.2) ha1 hky9 ?_)
    show Ev Z _ 30 44 [some (.ref 26), some (.ref a1), some (.int a2), some (.int a3)] [.int y9.1, .int (5 : Int32), .ref 35] (mm_H y9.2) Q
    obtain ⟨hi10, hf⟩ := mm_ite hf
    refine e_iast hm_30 rfl rfl hi10 ?_
    obtain rfl := Option.some.inj hf
    exact e_vret hm_30 rfl rfl hq
def ru_textAt (a1 : Int32) (M : mm_M) : Option (Nat × mm_M) :=
  if a1 < (0 : Int32) then
    if ak_inb (0 : Int32) 6 = true then
    some ((37 + 3 * (0 : Int32).toNatClampNeg), M) else none
  else
    if a1 < (6 : Int32) then
      if ak_inb a1 6 = true then
      some ((37 + 3 * a1.toNatClampNeg), M) else none
    else
      if ak_inb (0 : Int32) 6 = true then
      some ((37 + 3 * (0 : Int32).toNatClampNeg), M) else none
set_option maxRecDepth 20000 in
set_option maxHeartbeats 4000000 in
theorem c_34 {Z : ak_Z} {d : Nat} (a1 : Int32) (M : mm_M) {y : Nat × mm_M} (hf : ru_textAt a1 M = some y) {Q : Option Value → ak_H → Prop} (hq : Q (some (.ref y.1)) (mm_H y.2)) : Ev Z (d + 0) 34 0 [some (.ref 26), some (.int a1)] [] (mm_H M) Q := by
  rw [ru_textAt] at hf
  refine e_aload_n hm_34 rfl rfl ?_
  refine e_getR hm_34 rfl rfl rfl rfl ?_
  refine e_iload_n hm_34 rfl rfl ?_
  by_cases hc1 : a1 < (0 : Int32)
  · rw [if_pos hc1] at hf
    refine e_if_t (t := 18) hm_34 rfl (ct_lt hc1) rfl ?_
    refine e_iconst hm_34 rfl kc_iconst_0 ?_
    obtain ⟨hi2, hf⟩ := mm_ite hf
    refine e_aald hm_34 rfl rfl rfl hi2 (mm_el_tx hi2) ?_
    obtain rfl := Option.some.inj hf
    exact e_aret hm_34 rfl rfl hq
  · rw [if_neg hc1] at hf
    refine e_if_f hm_34 rfl (cf_lt hc1) ?_
    refine e_iload_n hm_34 rfl rfl ?_
    refine e_bipush hm_34 rfl kc_bipush_6 ?_
    by_cases hc3 : a1 < (6 : Int32)
    · rw [if_pos hc3] at hf
      refine e_ic_f hm_34 rfl (cf_ge hc3) ?_
      refine e_iload_n hm_34 rfl rfl ?_
      refine e_goto (t := 19) hm_34 rfl rfl ?_
      obtain ⟨hi4, hf⟩ := mm_ite hf
      refine e_aald hm_34 rfl rfl rfl hi4 (mm_el_tx hi4) ?_
      obtain rfl := Option.some.inj hf
      exact e_aret hm_34 rfl rfl hq
    · rw [if_neg hc3] at hf
      refine e_ic_t (t := 18) hm_34 rfl (ct_ge hc3) rfl ?_
      refine e_iconst hm_34 rfl kc_iconst_0 ?_
      obtain ⟨hi5, hf⟩ := mm_ite hf
      refine e_aald hm_34 rfl rfl rfl hi5 (mm_el_tx hi5) ?_
      obtain rfl := Option.some.inj hf
      exact e_aret hm_34 rfl rfl hq
def tx_operand (a1 : Int32) (a2 : Nat) (M : mm_M) : Option (Int32 × mm_M) :=
  if a1 < (0 : Int32) then
    (mm_ia a2).bind fun n2 =>
    if ((-1 : Int32) - a1) < (Int32.ofNat n2) then
      (mm_ia a2).bind fun n4 => if ak_inb ((-1 : Int32) - a1) n4 = true then
      some (M.1 a2 ((-1 : Int32) - a1).toNatClampNeg, M) else none
    else
      some ((0 : Int32), M)
  else
    some (a1, M)
set_option maxRecDepth 20000 in
set_option maxHeartbeats 4000000 in
theorem c_36 {Z : ak_Z} {d : Nat} (a1 : Int32) (a2 : Nat) (M : mm_M) {y : Int32 × mm_M} (hf : tx_operand a1 a2 M = some y) {Q : Option Value → ak_H → Prop} (hq : Q (some (.int y.1)) (mm_H y.2)) : Ev Z (d + 0) 36 0 [some (.int a1), some (.ref a2), none] [] (mm_H M) Q := by
  rw [tx_operand] at hf
  refine e_iload_n hm_36 rfl rfl ?_
  by_cases hc1 : a1 < (0 : Int32)
  · rw [if_pos hc1] at hf
    refine e_if_t (t := 6) hm_36 rfl (ct_lt hc1) rfl ?_
    refine e_iconst hm_36 rfl kc_iconst_m1 ?_
    refine e_iload_n hm_36 rfl rfl ?_
    refine e_isub hm_36 rfl ?_
    refine e_istore_n (L2 := [some (.int a1), some (.ref a2), some (.int ((-1 : Int32) - a1))]) hm_36 rfl rfl ?_
    refine e_iload_n hm_36 rfl rfl ?_
    refine e_aload_n hm_36 rfl rfl ?_
    obtain ⟨n2, hkn2, hf⟩ := mm_bd hf
    refine e_alen (t := 0) (n := n2) (v := Int32.ofNat n2) hm_36 rfl (mm_ia_at hkn2) (by decide) rfl ?_
    by_cases hc3 : ((-1 : Int32) - a1) < (Int32.ofNat n2)
    · rw [if_pos hc3] at hf
      refine e_ic_f hm_36 rfl (cf_ge hc3) ?_
      refine e_aload_n hm_36 rfl rfl ?_
      refine e_iload_n hm_36 rfl rfl ?_
      obtain ⟨n4, hkn4, hf⟩ := mm_bd hf
      obtain ⟨hi5, hf⟩ := mm_ite hf
      refine e_iald hm_36 rfl (mm_ia_at hkn4) hi5 ?_
      refine e_goto (t := 23) hm_36 rfl rfl ?_
      obtain rfl := Option.some.inj hf
      exact e_iret hm_36 rfl rfl hq
    · rw [if_neg hc3] at hf
      refine e_ic_t (t := 22) hm_36 rfl (ct_ge hc3) rfl ?_
      refine e_iconst hm_36 rfl kc_iconst_0 ?_
      obtain rfl := Option.some.inj hf
      exact e_iret hm_36 rfl rfl hq
  · rw [if_neg hc1] at hf
    refine e_if_f hm_36 rfl (cf_lt hc1) ?_
    refine e_iload_n hm_36 rfl rfl ?_
    obtain rfl := Option.some.inj hf
    exact e_iret hm_36 rfl rfl hq
def tx_turned (a1 : Int32) (a2 : Int32) (M : mm_M) : Option (Int32 × mm_M) :=
  if a1 = (-7 : Int32) then
    some (-a2, M)
  else
    if a2 = (0 : Int32) then
      some ((1 : Int32), M)
    else
      some ((0 : Int32), M)
set_option maxRecDepth 20000 in
set_option maxHeartbeats 4000000 in
theorem c_37 {Z : ak_Z} {d : Nat} (a1 : Int32) (a2 : Int32) (M : mm_M) {y : Int32 × mm_M} (hf : tx_turned a1 a2 M = some y) {Q : Option Value → ak_H → Prop} (hq : Q (some (.int y.1)) (mm_H y.2)) : Ev Z (d + 0) 37 0 [some (.int a1), some (.int a2)] [] (mm_H M) Q := by
  rw [tx_turned] at hf
  refine e_iload_n hm_37 rfl rfl ?_
  refine e_bipush hm_37 rfl kc_bipush_m7 ?_
  by_cases hc1 : a1 = (-7 : Int32)
  · rw [if_pos hc1] at hf
    refine e_ic_f hm_37 rfl (cf_ne hc1) ?_
    refine e_iload_n hm_37 rfl rfl ?_
    refine e_ineg hm_37 rfl ?_
    obtain rfl := Option.some.inj hf
    exact e_iret hm_37 rfl rfl hq
  · rw [if_neg hc1] at hf
    refine e_ic_t (t := 9) hm_37 rfl (ct_ne hc1) rfl ?_
    refine e_iload_n hm_37 rfl rfl ?_
    by_cases hc2 : a2 = (0 : Int32)
    · rw [if_pos hc2] at hf
      refine e_if_f hm_37 rfl (cf_ne hc2) ?_
      refine e_iconst hm_37 rfl kc_iconst_1 ?_
      refine e_goto (t := 18) hm_37 rfl rfl ?_
      obtain rfl := Option.some.inj hf
      exact e_iret hm_37 rfl rfl hq
    · rw [if_neg hc2] at hf
      refine e_if_t (t := 17) hm_37 rfl (ct_ne hc2) rfl ?_
      refine e_iconst hm_37 rfl kc_iconst_0 ?_
      obtain rfl := Option.some.inj hf
      exact e_iret hm_37 rfl rfl hq
def tx_joined (a1 : Int32) (a2 : Int32) (a3 : Int32) (M : mm_M) : Option (Int32 × mm_M) :=
  if a1 = (-14 : Int32) then
    if a2 = (0 : Int32) then
      some ((0 : Int32), M)
    else
      if a3 = (0 : Int32) then
        some ((0 : Int32), M)
      else
        some ((1 : Int32), M)
  else if a1 = (-13 : Int32) then
      if a2 = a3 then
        some ((1 : Int32), M)
      else
        some ((0 : Int32), M)
    else if a1 = (-12 : Int32) then
        if a2 < a3 then
          some ((1 : Int32), M)
        else
          some ((0 : Int32), M)
      else if a1 = (-11 : Int32) then
          some (a2 * a3, M)
        else if a1 = (-10 : Int32) then
            some (a2 - a3, M)
          else if a1 = (-9 : Int32) then
              some (a2 + a3, M)
            else if a2 = (0 : Int32) then
                if a3 = (0 : Int32) then
                  some ((0 : Int32), M)
                else
                  some ((1 : Int32), M)
              else
                some ((1 : Int32), M)
set_option maxRecDepth 20000 in
set_option maxHeartbeats 4000000 in
theorem c_38 {Z : ak_Z} {d : Nat} (a1 : Int32) (a2 : Int32) (a3 : Int32) (M : mm_M) {y : Int32 × mm_M} (hf : tx_joined a1 a2 a3 M = some y) {Q : Option Value → ak_H → Prop} (hq : Q (some (.int y.1)) (mm_H y.2)) : Ev Z (d + 0) 38 0 [some (.int a1), some (.int a2), some (.int a3)] [] (mm_H M) Q := by
  rw [tx_joined] at hf
  refine e_iload_n hm_38 rfl rfl ?_
  by_cases hc1 : a1 = (-14 : Int32)
  · rw [if_pos hc1] at hf
    refine e_tsw (t := 74) hm_38 rfl (by rw [hc1]; rfl) ?_
    refine e_iload_n hm_38 rfl rfl ?_
    by_cases hc2 : a2 = (0 : Int32)
    · rw [if_pos hc2] at hf
      refine e_if_t (t := 86) hm_38 rfl (ct_eq hc2) rfl ?_
      refine e_iconst hm_38 rfl kc_iconst_0 ?_
      obtain rfl := Option.some.inj hf
      exact e_iret hm_38 rfl rfl hq
    · rw [if_neg hc2] at hf
      refine e_if_f hm_38 rfl (cf_eq hc2) ?_
      refine e_iload_n hm_38 rfl rfl ?_
      by_cases hc3 : a3 = (0 : Int32)
      · rw [if_pos hc3] at hf
        refine e_if_t (t := 86) hm_38 rfl (ct_eq hc3) rfl ?_
        refine e_iconst hm_38 rfl kc_iconst_0 ?_
        obtain rfl := Option.some.inj hf
        exact e_iret hm_38 rfl rfl hq
      · rw [if_neg hc3] at hf
        refine e_if_f hm_38 rfl (cf_eq hc3) ?_
        refine e_iconst hm_38 rfl kc_iconst_1 ?_
        refine e_goto (t := 87) hm_38 rfl rfl ?_
        obtain rfl := Option.some.inj hf
        exact e_iret hm_38 rfl rfl hq
  · rw [if_neg hc1] at hf
    by_cases hc4 : a1 = (-13 : Int32)
    · rw [if_pos hc4] at hf
      refine e_tsw (t := 63) hm_38 rfl (by rw [hc4]; rfl) ?_
      refine e_iload_n hm_38 rfl rfl ?_
      refine e_iload_n hm_38 rfl rfl ?_
      by_cases hc5 : a2 = a3
      · rw [if_pos hc5] at hf
        refine e_ic_f hm_38 rfl (cf_ne hc5) ?_
        refine e_iconst hm_38 rfl kc_iconst_1 ?_
        refine e_goto (t := 73) hm_38 rfl rfl ?_
        obtain rfl := Option.some.inj hf
        exact e_iret hm_38 rfl rfl hq
      · rw [if_neg hc5] at hf
        refine e_ic_t (t := 72) hm_38 rfl (ct_ne hc5) rfl ?_
        refine e_iconst hm_38 rfl kc_iconst_0 ?_
        obtain rfl := Option.some.inj hf
        exact e_iret hm_38 rfl rfl hq
    · rw [if_neg hc4] at hf
      by_cases hc6 : a1 = (-12 : Int32)
      · rw [if_pos hc6] at hf
        refine e_tsw (t := 52) hm_38 rfl (by rw [hc6]; rfl) ?_
        refine e_iload_n hm_38 rfl rfl ?_
        refine e_iload_n hm_38 rfl rfl ?_
        by_cases hc7 : a2 < a3
        · rw [if_pos hc7] at hf
          refine e_ic_f hm_38 rfl (cf_ge hc7) ?_
          refine e_iconst hm_38 rfl kc_iconst_1 ?_
          refine e_goto (t := 62) hm_38 rfl rfl ?_
          obtain rfl := Option.some.inj hf
          exact e_iret hm_38 rfl rfl hq
        · rw [if_neg hc7] at hf
          refine e_ic_t (t := 61) hm_38 rfl (ct_ge hc7) rfl ?_
          refine e_iconst hm_38 rfl kc_iconst_0 ?_
          obtain rfl := Option.some.inj hf
          exact e_iret hm_38 rfl rfl hq
      · rw [if_neg hc6] at hf
        by_cases hc8 : a1 = (-11 : Int32)
        · rw [if_pos hc8] at hf
          refine e_tsw (t := 48) hm_38 rfl (by rw [hc8]; rfl) ?_
          refine e_iload_n hm_38 rfl rfl ?_
          refine e_iload_n hm_38 rfl rfl ?_
          refine e_imul hm_38 rfl ?_
          obtain rfl := Option.some.inj hf
          exact e_iret hm_38 rfl rfl hq
        · rw [if_neg hc8] at hf
          by_cases hc9 : a1 = (-10 : Int32)
          · rw [if_pos hc9] at hf
            refine e_tsw (t := 44) hm_38 rfl (by rw [hc9]; rfl) ?_
            refine e_iload_n hm_38 rfl rfl ?_
            refine e_iload_n hm_38 rfl rfl ?_
            refine e_isub hm_38 rfl ?_
            obtain rfl := Option.some.inj hf
            exact e_iret hm_38 rfl rfl hq
          · rw [if_neg hc9] at hf
            by_cases hc10 : a1 = (-9 : Int32)
            · rw [if_pos hc10] at hf
              refine e_tsw (t := 40) hm_38 rfl (by rw [hc10]; rfl) ?_
              refine e_iload_n hm_38 rfl rfl ?_
              refine e_iload_n hm_38 rfl rfl ?_
              refine e_iadd hm_38 rfl ?_
              obtain rfl := Option.some.inj hf
              exact e_iret hm_38 rfl rfl hq
            · rw [if_neg hc10] at hf
              have khc1 := i32_ne hc1
              have khc4 := i32_ne hc4
              have khc6 := i32_ne hc6
              have khc8 := i32_ne hc8
              have khc9 := i32_ne hc9
              have khc10 := i32_ne hc10
              rw [show ((-14 : Int32) : Int32).toInt = -14 from rfl] at khc1
              rw [show ((-13 : Int32) : Int32).toInt = -13 from rfl] at khc4
              rw [show ((-12 : Int32) : Int32).toInt = -12 from rfl] at khc6
              rw [show ((-11 : Int32) : Int32).toInt = -11 from rfl] at khc8
              rw [show ((-10 : Int32) : Int32).toInt = -10 from rfl] at khc9
              rw [show ((-9 : Int32) : Int32).toInt = -9 from rfl] at khc10
              refine e_tsw (t := 88) hm_38 rfl (tsw_out (by omega) rfl) ?_
              refine e_iload_n hm_38 rfl rfl ?_
              by_cases hc11 : a2 = (0 : Int32)
              · rw [if_pos hc11] at hf
                refine e_if_f hm_38 rfl (cf_ne hc11) ?_
                refine e_iload_n hm_38 rfl rfl ?_
                by_cases hc12 : a3 = (0 : Int32)
                · rw [if_pos hc12] at hf
                  refine e_if_t (t := 100) hm_38 rfl (ct_eq hc12) rfl ?_
                  refine e_iconst hm_38 rfl kc_iconst_0 ?_
                  obtain rfl := Option.some.inj hf
                  exact e_iret hm_38 rfl rfl hq
                · rw [if_neg hc12] at hf
                  refine e_if_f hm_38 rfl (cf_eq hc12) ?_
                  refine e_iconst hm_38 rfl kc_iconst_1 ?_
                  refine e_goto (t := 101) hm_38 rfl rfl ?_
                  obtain rfl := Option.some.inj hf
                  exact e_iret hm_38 rfl rfl hq
              · rw [if_neg hc11] at hf
                refine e_if_t (t := 96) hm_38 rfl (ct_ne hc11) rfl ?_
                refine e_iconst hm_38 rfl kc_iconst_1 ?_
                refine e_goto (t := 101) hm_38 rfl rfl ?_
                obtain rfl := Option.some.inj hf
                exact e_iret hm_38 rfl rfl hq
def tx_value_l51 : Nat → Nat → Nat → Nat → Int32 → Int32 → Int32 → mm_M → Option (((Int32) × mm_M))
  | 0, _, _, _, _, _, _, _ => none
  | n + 1, x0, x2, x3, x4, x5, x6, M =>
    if x6 < x5 then
      if ak_inb x6 160 = true then
      if (-7 : Int32) < (M.1 (x0 + 1) x6.toNatClampNeg) then
        (mm_ia x3).bind fun n4 =>
        if x4 < (Int32.ofNat n4) then
          (tx_operand (M.1 (x0 + 1) x6.toNatClampNeg) x2 M).bind fun y6 =>
          (mm_ia x3).bind fun n8 => if ak_inb x4 n8 = true then
          tx_value_l51 n x0 x2 x3 (x4 + (1 : Int32)) x5 (x6 + (1 : Int32)) (ak_up y6.2.1 x3 x4.toNatClampNeg y6.1, y6.2.2) else none
        else
          tx_value_l51 n x0 x2 x3 x4 x5 (x6 + (1 : Int32)) M
      else
        if (M.1 (x0 + 1) x6.toNatClampNeg) < (-8 : Int32) then
          if x4 < (2 : Int32) then
            tx_value_l51 n x0 x2 x3 x4 x5 (x6 + (1 : Int32)) M
          else
            (mm_ia x3).bind fun n11 => if ak_inb ((x4 + (-1 : Int32)) - (1 : Int32)) n11 = true then
            (mm_ia x3).bind fun n13 => if ak_inb (x4 + (-1 : Int32)) n13 = true then
            (tx_joined (M.1 (x0 + 1) x6.toNatClampNeg) (M.1 x3 ((x4 + (-1 : Int32)) - (1 : Int32)).toNatClampNeg) (M.1 x3 (x4 + (-1 : Int32)).toNatClampNeg) M).bind fun y15 =>
            (mm_ia x3).bind fun n17 => if ak_inb ((x4 + (-1 : Int32)) - (1 : Int32)) n17 = true then
            tx_value_l51 n x0 x2 x3 (x4 + (-1 : Int32)) x5 (x6 + (1 : Int32)) (ak_up y15.2.1 x3 (((x4 + (-1 : Int32)) - (1 : Int32)).toNatClampNeg) y15.1, y15.2.2) else none else none else none
        else
          if x4 < (1 : Int32) then
            tx_value_l51 n x0 x2 x3 x4 x5 (x6 + (1 : Int32)) M
          else
            (mm_ia x3).bind fun n19 => if ak_inb (x4 - (1 : Int32)) n19 = true then
            (tx_turned (M.1 (x0 + 1) x6.toNatClampNeg) (M.1 x3 (x4 - (1 : Int32)).toNatClampNeg) M).bind fun y21 =>
            (mm_ia x3).bind fun n23 => if ak_inb (x4 - (1 : Int32)) n23 = true then
            tx_value_l51 n x0 x2 x3 x4 x5 (x6 + (1 : Int32)) (ak_up y21.2.1 x3 ((x4 - (1 : Int32)).toNatClampNeg) y21.1, y21.2.2) else none else none else none
    else
      some (x4, M)
set_option maxRecDepth 20000 in
set_option maxHeartbeats 4000000 in
theorem lc_35_51 {Z : ak_Z} {d : Nat} : ∀ (n : Nat) (x0 : Nat) (x2 : Nat) (x3 : Nat) (x4 : Int32) (x5 : Int32) (x6 : Int32) (M : mm_M) (hx0 : mm_is10 x0 = true) {y : ((Int32) × mm_M)} (Q : Option Value → ak_H → Prop), tx_value_l51 n x0 x2 x3 x4 x5 x6 M = some y → (Ev Z (d + 1) 35 166 [none, none, none, some (.ref x3), some (.int y.1), none, none, none] [] (mm_H y.2) Q) → Ev Z (d + 1) 35 51 [some (.ref x0), none, some (.ref x2), some (.ref x3), some (.int x4), some (.int x5), some (.int x6), none] [] (mm_H M) Q := by
  intro n
  induction n with
  | zero => intro x0 x2 x3 x4 x5 x6 M hx0 y Q hf; cases hf
  | succ n ih =>
    intro x0 x2 x3 x4 x5 x6 M hx0 y Q hf hq
    rw [tx_value_l51] at hf
    refine e_iload hm_35 rfl rfl ?_
    refine e_iload hm_35 rfl rfl ?_
    by_cases hc1 : x6 < x5
    · rw [if_pos hc1] at hf
      refine e_ic_f hm_35 rfl (cf_ge hc1) ?_
      refine e_aload_n hm_35 rfl rfl ?_
      refine e_getR hm_35 rfl (mm_cl10 hx0) rfl (mm_rf10_0 hx0) ?_
      refine e_iload hm_35 rfl rfl ?_
      obtain ⟨hi2, hf⟩ := mm_ite hf
      refine e_iald hm_35 rfl (mm_ar10_0 hx0) hi2 ?_
      refine e_istore (L2 := [some (.ref x0), none, some (.ref x2), some (.ref x3), some (.int x4), some (.int x5), some (.int x6), some (.int (M.1 (x0 + 1) x6.toNatClampNeg))]) hm_35 rfl rfl ?_
      refine e_iload hm_35 rfl rfl ?_
      refine e_bipush hm_35 rfl kc_bipush_m7 ?_
      by_cases hc3 : (-7 : Int32) < (M.1 (x0 + 1) x6.toNatClampNeg)
      · rw [if_pos hc3] at hf
        refine e_ic_f hm_35 rfl (cf_le hc3) ?_
        refine e_iload hm_35 rfl rfl ?_
        refine e_aload_n hm_35 rfl rfl ?_
        obtain ⟨n4, hkn4, hf⟩ := mm_bd hf
        refine e_alen (t := 0) (n := n4) (v := Int32.ofNat n4) hm_35 rfl (mm_ia_at hkn4) (by decide) rfl ?_
        by_cases hc5 : x4 < (Int32.ofNat n4)
        · rw [if_pos hc5] at hf
          refine e_ic_f hm_35 rfl (cf_ge hc5) ?_
          refine e_aload_n hm_35 rfl rfl ?_
          refine e_iload hm_35 rfl rfl ?_
          refine e_iload hm_35 rfl rfl ?_
          refine e_aload_n hm_35 rfl rfl ?_
          obtain ⟨y6, hky6, hf⟩ := mm_bd hf
          refine e_stat hm_35 rfl (by decide) rfl rfl (Nat.le_of_ble_eq_true rfl) hm_36 rfl rfl (c_36 (M.1 (x0 + 1) x6.toNatClampNeg) x2 M hky6 ?_)
          show Ev Z _ 35 90 [some (.ref x0), none, some (.ref x2), some (.ref x3), some (.int x4), some (.int x5), some (.int x6), some (.int (M.1 (x0 + 1) x6.toNatClampNeg))] [.int y6.1, .int x4, .ref x3] (mm_H y6.2) Q
          obtain ⟨n8, hkn8, hf⟩ := mm_bd hf
          obtain ⟨hi7, hf⟩ := mm_ite hf
          refine e_iast hm_35 rfl (mm_ia_at hkn8) hi7 ?_
          refine e_iinc (L2 := [some (.ref x0), none, some (.ref x2), some (.ref x3), some (.int (x4 + (1 : Int32))), some (.int x5), some (.int x6), some (.int (M.1 (x0 + 1) x6.toNatClampNeg))]) hm_35 rfl kc_iinc_1 rfl rfl ?_
          refine e_goto (t := 160) hm_35 rfl rfl ?_
          refine e_iinc (L2 := [some (.ref x0), none, some (.ref x2), some (.ref x3), some (.int (x4 + (1 : Int32))), some (.int x5), some (.int (x6 + (1 : Int32))), some (.int (M.1 (x0 + 1) x6.toNatClampNeg))]) hm_35 rfl kc_iinc_1 rfl rfl ?_
          refine e_goto (t := 51) hm_35 rfl rfl ?_
          exact e_forget (L' := [some (.ref x0), none, some (.ref x2), some (.ref x3), some (.int (x4 + (1 : Int32))), some (.int x5), some (.int (x6 + (1 : Int32))), none]) (lf_k (lf_k (lf_k (lf_k (lf_k (lf_k (lf_k (lf_d lf_0)))))))) (ih x0 x2 x3 (x4 + (1 : Int32)) x5 (x6 + (1 : Int32)) (ak_up y6.2.1 x3 x4.toNatClampNeg y6.1, y6.2.2) hx0 Q hf hq)
        · rw [if_neg hc5] at hf
          refine e_ic_t (t := 160) hm_35 rfl (ct_ge hc5) rfl ?_
          refine e_iinc (L2 := [some (.ref x0), none, some (.ref x2), some (.ref x3), some (.int x4), some (.int x5), some (.int (x6 + (1 : Int32))), some (.int (M.1 (x0 + 1) x6.toNatClampNeg))]) hm_35 rfl kc_iinc_1 rfl rfl ?_
          refine e_goto (t := 51) hm_35 rfl rfl ?_
          exact e_forget (L' := [some (.ref x0), none, some (.ref x2), some (.ref x3), some (.int x4), some (.int x5), some (.int (x6 + (1 : Int32))), none]) (lf_k (lf_k (lf_k (lf_k (lf_k (lf_k (lf_k (lf_d lf_0)))))))) (ih x0 x2 x3 x4 x5 (x6 + (1 : Int32)) M hx0 Q hf hq)
      · rw [if_neg hc3] at hf
        refine e_ic_t (t := 97) hm_35 rfl (ct_le hc3) rfl ?_
        refine e_iload hm_35 rfl rfl ?_
        refine e_bipush hm_35 rfl kc_bipush_m8 ?_
        by_cases hc9 : (M.1 (x0 + 1) x6.toNatClampNeg) < (-8 : Int32)
        · rw [if_pos hc9] at hf
          refine e_ic_t (t := 130) hm_35 rfl (ct_lt hc9) rfl ?_
          refine e_iload hm_35 rfl rfl ?_
          refine e_iconst hm_35 rfl kc_iconst_2 ?_
          by_cases hc10 : x4 < (2 : Int32)
          · rw [if_pos hc10] at hf
            refine e_ic_t (t := 160) hm_35 rfl (ct_lt hc10) rfl ?_
            refine e_iinc (L2 := [some (.ref x0), none, some (.ref x2), some (.ref x3), some (.int x4), some (.int x5), some (.int (x6 + (1 : Int32))), some (.int (M.1 (x0 + 1) x6.toNatClampNeg))]) hm_35 rfl kc_iinc_1 rfl rfl ?_
            refine e_goto (t := 51) hm_35 rfl rfl ?_
            exact e_forget (L' := [some (.ref x0), none, some (.ref x2), some (.ref x3), some (.int x4), some (.int x5), some (.int (x6 + (1 : Int32))), none]) (lf_k (lf_k (lf_k (lf_k (lf_k (lf_k (lf_k (lf_d lf_0)))))))) (ih x0 x2 x3 x4 x5 (x6 + (1 : Int32)) M hx0 Q hf hq)
          · rw [if_neg hc10] at hf
            refine e_ic_f hm_35 rfl (cf_lt hc10) ?_
            refine e_iinc (L2 := [some (.ref x0), none, some (.ref x2), some (.ref x3), some (.int (x4 + (-1 : Int32))), some (.int x5), some (.int x6), some (.int (M.1 (x0 + 1) x6.toNatClampNeg))]) hm_35 rfl kc_iinc_m1 rfl rfl ?_
            refine e_aload_n hm_35 rfl rfl ?_
            refine e_iload hm_35 rfl rfl ?_
            refine e_iconst hm_35 rfl kc_iconst_1 ?_
            refine e_isub hm_35 rfl ?_
            refine e_iload hm_35 rfl rfl ?_
            refine e_aload_n hm_35 rfl rfl ?_
            refine e_iload hm_35 rfl rfl ?_
            refine e_iconst hm_35 rfl kc_iconst_1 ?_
            refine e_isub hm_35 rfl ?_
            obtain ⟨n11, hkn11, hf⟩ := mm_bd hf
            obtain ⟨hi12, hf⟩ := mm_ite hf
            refine e_iald hm_35 rfl (mm_ia_at hkn11) hi12 ?_
            refine e_aload_n hm_35 rfl rfl ?_
            refine e_iload hm_35 rfl rfl ?_
            obtain ⟨n13, hkn13, hf⟩ := mm_bd hf
            obtain ⟨hi14, hf⟩ := mm_ite hf
            refine e_iald hm_35 rfl (mm_ia_at hkn13) hi14 ?_
            obtain ⟨y15, hky15, hf⟩ := mm_bd hf
            refine e_stat hm_35 rfl (by decide) rfl rfl (Nat.le_of_ble_eq_true rfl) hm_38 rfl rfl (c_38 (M.1 (x0 + 1) x6.toNatClampNeg) (M.1 x3 ((x4 + (-1 : Int32)) - (1 : Int32)).toNatClampNeg) (M.1 x3 (x4 + (-1 : Int32)).toNatClampNeg) M hky15 ?_)
            show Ev Z _ 35 159 [some (.ref x0), none, some (.ref x2), some (.ref x3), some (.int (x4 + (-1 : Int32))), some (.int x5), some (.int x6), some (.int (M.1 (x0 + 1) x6.toNatClampNeg))] [.int y15.1, .int ((x4 + (-1 : Int32)) - (1 : Int32)), .ref x3] (mm_H y15.2) Q
            obtain ⟨n17, hkn17, hf⟩ := mm_bd hf
            obtain ⟨hi16, hf⟩ := mm_ite hf
            refine e_iast hm_35 rfl (mm_ia_at hkn17) hi16 ?_
            refine e_iinc (L2 := [some (.ref x0), none, some (.ref x2), some (.ref x3), some (.int (x4 + (-1 : Int32))), some (.int x5), some (.int (x6 + (1 : Int32))), some (.int (M.1 (x0 + 1) x6.toNatClampNeg))]) hm_35 rfl kc_iinc_1 rfl rfl ?_
            refine e_goto (t := 51) hm_35 rfl rfl ?_
            exact e_forget (L' := [some (.ref x0), none, some (.ref x2), some (.ref x3), some (.int (x4 + (-1 : Int32))), some (.int x5), some (.int (x6 + (1 : Int32))), none]) (lf_k (lf_k (lf_k (lf_k (lf_k (lf_k (lf_k (lf_d lf_0)))))))) (ih x0 x2 x3 (x4 + (-1 : Int32)) x5 (x6 + (1 : Int32)) (ak_up y15.2.1 x3 (((x4 + (-1 : Int32)) - (1 : Int32)).toNatClampNeg) y15.1, y15.2.2) hx0 Q hf hq)
        · rw [if_neg hc9] at hf
          refine e_ic_f hm_35 rfl (cf_lt hc9) ?_
          refine e_iload hm_35 rfl rfl ?_
          refine e_iconst hm_35 rfl kc_iconst_1 ?_
          by_cases hc18 : x4 < (1 : Int32)
          · rw [if_pos hc18] at hf
            refine e_ic_t (t := 160) hm_35 rfl (ct_lt hc18) rfl ?_
            refine e_iinc (L2 := [some (.ref x0), none, some (.ref x2), some (.ref x3), some (.int x4), some (.int x5), some (.int (x6 + (1 : Int32))), some (.int (M.1 (x0 + 1) x6.toNatClampNeg))]) hm_35 rfl kc_iinc_1 rfl rfl ?_
            refine e_goto (t := 51) hm_35 rfl rfl ?_
            exact e_forget (L' := [some (.ref x0), none, some (.ref x2), some (.ref x3), some (.int x4), some (.int x5), some (.int (x6 + (1 : Int32))), none]) (lf_k (lf_k (lf_k (lf_k (lf_k (lf_k (lf_k (lf_d lf_0)))))))) (ih x0 x2 x3 x4 x5 (x6 + (1 : Int32)) M hx0 Q hf hq)
          · rw [if_neg hc18] at hf
            refine e_ic_f hm_35 rfl (cf_lt hc18) ?_
            refine e_aload_n hm_35 rfl rfl ?_
            refine e_iload hm_35 rfl rfl ?_
            refine e_iconst hm_35 rfl kc_iconst_1 ?_
            refine e_isub hm_35 rfl ?_
            refine e_iload hm_35 rfl rfl ?_
            refine e_aload_n hm_35 rfl rfl ?_
            refine e_iload hm_35 rfl rfl ?_
            refine e_iconst hm_35 rfl kc_iconst_1 ?_
            refine e_isub hm_35 rfl ?_
            obtain ⟨n19, hkn19, hf⟩ := mm_bd hf
            obtain ⟨hi20, hf⟩ := mm_ite hf
            refine e_iald hm_35 rfl (mm_ia_at hkn19) hi20 ?_
            obtain ⟨y21, hky21, hf⟩ := mm_bd hf
            refine e_stat hm_35 rfl (by decide) rfl rfl (Nat.le_of_ble_eq_true rfl) hm_37 rfl rfl (c_37 (M.1 (x0 + 1) x6.toNatClampNeg) (M.1 x3 (x4 - (1 : Int32)).toNatClampNeg) M hky21 ?_)
            show Ev Z _ 35 126 [some (.ref x0), none, some (.ref x2), some (.ref x3), some (.int x4), some (.int x5), some (.int x6), some (.int (M.1 (x0 + 1) x6.toNatClampNeg))] [.int y21.1, .int (x4 - (1 : Int32)), .ref x3] (mm_H y21.2) Q
            obtain ⟨n23, hkn23, hf⟩ := mm_bd hf
            obtain ⟨hi22, hf⟩ := mm_ite hf
            refine e_iast hm_35 rfl (mm_ia_at hkn23) hi22 ?_
            refine e_goto (t := 160) hm_35 rfl rfl ?_
            refine e_iinc (L2 := [some (.ref x0), none, some (.ref x2), some (.ref x3), some (.int x4), some (.int x5), some (.int (x6 + (1 : Int32))), some (.int (M.1 (x0 + 1) x6.toNatClampNeg))]) hm_35 rfl kc_iinc_1 rfl rfl ?_
            refine e_goto (t := 51) hm_35 rfl rfl ?_
            exact e_forget (L' := [some (.ref x0), none, some (.ref x2), some (.ref x3), some (.int x4), some (.int x5), some (.int (x6 + (1 : Int32))), none]) (lf_k (lf_k (lf_k (lf_k (lf_k (lf_k (lf_k (lf_d lf_0)))))))) (ih x0 x2 x3 x4 x5 (x6 + (1 : Int32)) (ak_up y21.2.1 x3 ((x4 - (1 : Int32)).toNatClampNeg) y21.1, y21.2.2) hx0 Q hf hq)
    · rw [if_neg hc1] at hf
      refine e_ic_t (t := 166) hm_35 rfl (ct_ge hc1) rfl ?_
      obtain rfl := Option.some.inj hf
      exact e_forget (L' := [none, none, none, some (.ref x3), some (.int x4), none, none, none]) (lf_d (lf_k (lf_d (lf_k (lf_k (lf_d (lf_d (lf_k lf_0)))))))) hq
def tx_value (t : Nat) (a1 : Int32) (a2 : Nat) (a3 : Nat) (M : mm_M) : Option (Int32 × mm_M) :=
  if a1 < (0 : Int32) then
    some ((0 : Int32), M)
  else
    if a1 < (M.1 t 3) then
      if ak_inb a1 3 = true then
      if (0 : Int32) < a1 then
        if ak_inb (a1 - (1 : Int32)) 3 = true then
        (tx_value_l51 300 t a2 a3 (0 : Int32) (i_min (M.1 (t + 2) a1.toNatClampNeg) (160 : Int32)) (M.1 (t + 2) (a1 - (1 : Int32)).toNatClampNeg) M).bind fun y6 =>
        if (0 : Int32) < y6.1 then
          (mm_ia a3).bind fun n8 => if ak_inb (0 : Int32) n8 = true then
          some (y6.2.1 a3 (0 : Int32).toNatClampNeg, y6.2) else none
        else
          some ((0 : Int32), y6.2) else none
      else
        (tx_value_l51 300 t a2 a3 (0 : Int32) (i_min (M.1 (t + 2) a1.toNatClampNeg) (160 : Int32)) (0 : Int32) M).bind fun y10 =>
        if (0 : Int32) < y10.1 then
          (mm_ia a3).bind fun n12 => if ak_inb (0 : Int32) n12 = true then
          some (y10.2.1 a3 (0 : Int32).toNatClampNeg, y10.2) else none
        else
          some ((0 : Int32), y10.2) else none
    else
      some ((0 : Int32), M)
set_option maxRecDepth 20000 in
set_option maxHeartbeats 4000000 in
theorem c_35 {Z : ak_Z} {d : Nat} (t : Nat) (a1 : Int32) (a2 : Nat) (a3 : Nat) (M : mm_M) (ht : mm_is10 t = true) {y : Int32 × mm_M} (hf : tx_value t a1 a2 a3 M = some y) {Q : Option Value → ak_H → Prop} (hq : Q (some (.int y.1)) (mm_H y.2)) : Ev Z (d + 1) 35 0 [some (.ref t), some (.int a1), some (.ref a2), some (.ref a3), none, none, none, none] [] (mm_H M) Q := by
  rw [tx_value] at hf
  refine e_iload_n hm_35 rfl rfl ?_
  by_cases hc1 : a1 < (0 : Int32)
  · rw [if_pos hc1] at hf
    refine e_if_t (t := 12) hm_35 rfl (ct_lt hc1) rfl ?_
    refine e_iconst hm_35 rfl kc_iconst_0 ?_
    obtain rfl := Option.some.inj hf
    exact e_iret hm_35 rfl rfl hq
  · rw [if_neg hc1] at hf
    refine e_if_f hm_35 rfl (cf_lt hc1) ?_
    refine e_iload_n hm_35 rfl rfl ?_
    refine e_aload_n hm_35 rfl rfl ?_
    refine e_getI hm_35 rfl (mm_cl10 ht) rfl ?_
    by_cases hc2 : a1 < (M.1 t 3)
    · rw [if_pos hc2] at hf
      refine e_ic_t (t := 14) hm_35 rfl (ct_lt hc2) rfl ?_
      refine e_iconst hm_35 rfl kc_iconst_0 ?_
      refine e_istore (L2 := [some (.ref t), some (.int a1), some (.ref a2), some (.ref a3), some (.int (0 : Int32)), none, none, none]) hm_35 rfl rfl ?_
      refine e_aload_n hm_35 rfl rfl ?_
      refine e_getR hm_35 rfl (mm_cl10 ht) rfl (mm_rf10_1 ht) ?_
      refine e_iload_n hm_35 rfl rfl ?_
      obtain ⟨hi3, hf⟩ := mm_ite hf
      refine e_iald hm_35 rfl (mm_ar10_1 ht) hi3 ?_
      refine e_aload_n hm_35 rfl rfl ?_
      refine e_getR hm_35 rfl (mm_cl10 ht) rfl (mm_rf10_0 ht) ?_
      refine e_alen (t := 0) (n := 160) (v := (160 : Int32)) hm_35 rfl (mm_ar10_0 ht) (by decide) (by decide) ?_
      refine e_min hm_35 rfl (Nat.le_of_ble_eq_true rfl) ?_
      refine e_istore (L2 := [some (.ref t), some (.int a1), some (.ref a2), some (.ref a3), some (.int (0 : Int32)), some (.int (i_min (M.1 (t + 2) a1.toNatClampNeg) (160 : Int32))), none, none]) hm_35 rfl rfl ?_
      refine e_iload_n hm_35 rfl rfl ?_
      by_cases hc4 : (0 : Int32) < a1
      · rw [if_pos hc4] at hf
        refine e_if_f hm_35 rfl (cf_le hc4) ?_
        refine e_aload_n hm_35 rfl rfl ?_
        refine e_getR hm_35 rfl (mm_cl10 ht) rfl (mm_rf10_1 ht) ?_
        refine e_iload_n hm_35 rfl rfl ?_
        refine e_iconst hm_35 rfl kc_iconst_1 ?_
        refine e_isub hm_35 rfl ?_
        obtain ⟨hi5, hf⟩ := mm_ite hf
        refine e_iald hm_35 rfl (mm_ar10_1 ht) hi5 ?_
        refine e_goto (t := 49) hm_35 rfl rfl ?_
        refine e_istore (L2 := [some (.ref t), some (.int a1), some (.ref a2), some (.ref a3), some (.int (0 : Int32)), some (.int (i_min (M.1 (t + 2) a1.toNatClampNeg) (160 : Int32))), some (.int (M.1 (t + 2) (a1 - (1 : Int32)).toNatClampNeg)), none]) hm_35 rfl rfl ?_
        obtain ⟨y6, hky6, hf⟩ := mm_bd hf
        refine e_forget (L' := [some (.ref t), none, some (.ref a2), some (.ref a3), some (.int (0 : Int32)), some (.int (i_min (M.1 (t + 2) a1.toNatClampNeg) (160 : Int32))), some (.int (M.1 (t + 2) (a1 - (1 : Int32)).toNatClampNeg)), none]) (lf_k (lf_d (lf_k (lf_k (lf_k (lf_k (lf_k (lf_k lf_0)))))))) (lc_35_51 (d := _) 300 t a2 a3 (0 : Int32) (i_min (M.1 (t + 2) a1.toNatClampNeg) (160 : Int32)) (M.1 (t + 2) (a1 - (1 : Int32)).toNatClampNeg) M ht Q hky6 ?_)
        show Ev Z _ 35 166 [none, none, none, some (.ref a3), some (.int y6.1), none, none, none] [] (mm_H y6.2) Q
        refine e_iload hm_35 rfl rfl ?_
        by_cases hc7 : (0 : Int32) < y6.1
        · rw [if_pos hc7] at hf
          refine e_if_f hm_35 rfl (cf_le hc7) ?_
          refine e_aload_n hm_35 rfl rfl ?_
          refine e_iconst hm_35 rfl kc_iconst_0 ?_
          obtain ⟨n8, hkn8, hf⟩ := mm_bd hf
          obtain ⟨hi9, hf⟩ := mm_ite hf
          refine e_iald hm_35 rfl (mm_ia_at hkn8) hi9 ?_
          refine e_goto (t := 178) hm_35 rfl rfl ?_
          obtain rfl := Option.some.inj hf
          exact e_iret hm_35 rfl rfl hq
        · rw [if_neg hc7] at hf
          refine e_if_t (t := 177) hm_35 rfl (ct_le hc7) rfl ?_
          refine e_iconst hm_35 rfl kc_iconst_0 ?_
          obtain rfl := Option.some.inj hf
          exact e_iret hm_35 rfl rfl hq
      · rw [if_neg hc4] at hf
        refine e_if_t (t := 48) hm_35 rfl (ct_le hc4) rfl ?_
        refine e_iconst hm_35 rfl kc_iconst_0 ?_
        refine e_istore (L2 := [some (.ref t), some (.int a1), some (.ref a2), some (.ref a3), some (.int (0 : Int32)), some (.int (i_min (M.1 (t + 2) a1.toNatClampNeg) (160 : Int32))), some (.int (0 : Int32)), none]) hm_35 rfl rfl ?_
        obtain ⟨y10, hky10, hf⟩ := mm_bd hf
        refine e_forget (L' := [some (.ref t), none, some (.ref a2), some (.ref a3), some (.int (0 : Int32)), some (.int (i_min (M.1 (t + 2) a1.toNatClampNeg) (160 : Int32))), some (.int (0 : Int32)), none]) (lf_k (lf_d (lf_k (lf_k (lf_k (lf_k (lf_k (lf_k lf_0)))))))) (lc_35_51 (d := _) 300 t a2 a3 (0 : Int32) (i_min (M.1 (t + 2) a1.toNatClampNeg) (160 : Int32)) (0 : Int32) M ht Q hky10 ?_)
        show Ev Z _ 35 166 [none, none, none, some (.ref a3), some (.int y10.1), none, none, none] [] (mm_H y10.2) Q
        refine e_iload hm_35 rfl rfl ?_
        by_cases hc11 : (0 : Int32) < y10.1
        · rw [if_pos hc11] at hf
          refine e_if_f hm_35 rfl (cf_le hc11) ?_
          refine e_aload_n hm_35 rfl rfl ?_
          refine e_iconst hm_35 rfl kc_iconst_0 ?_
          obtain ⟨n12, hkn12, hf⟩ := mm_bd hf
          obtain ⟨hi13, hf⟩ := mm_ite hf
          refine e_iald hm_35 rfl (mm_ia_at hkn12) hi13 ?_
          refine e_goto (t := 178) hm_35 rfl rfl ?_
          obtain rfl := Option.some.inj hf
          exact e_iret hm_35 rfl rfl hq
        · rw [if_neg hc11] at hf
          refine e_if_t (t := 177) hm_35 rfl (ct_le hc11) rfl ?_
          refine e_iconst hm_35 rfl kc_iconst_0 ?_
          obtain rfl := Option.some.inj hf
          exact e_iret hm_35 rfl rfl hq
    · rw [if_neg hc2] at hf
      refine e_ic_f hm_35 rfl (cf_lt hc2) ?_
      refine e_iconst hm_35 rfl kc_iconst_0 ?_
      obtain rfl := Option.some.inj hf
      exact e_iret hm_35 rfl rfl hq
