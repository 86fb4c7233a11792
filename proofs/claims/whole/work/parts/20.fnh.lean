/-! printed: the functions of the methods, and that the small machine does them -/
def md_byteAt (a1 : Int32) (M : mm_M) : Option (Int32 × mm_M) :=
  if a1 < (M.1 73 19) then
    if ak_inb ((M.1 73 18) + a1) 960 = true then
    some (M.1 74 ((M.1 73 18) + a1).toNatClampNeg, M) else none
  else
    some ((-1 : Int32), M)
set_option maxRecDepth 20000 in
set_option maxHeartbeats 4000000 in
theorem c_178 {Z : ak_Z} {d : Nat} (a1 : Int32) (M : mm_M) {y : Int32 × mm_M} (hf : md_byteAt a1 M = some y) {Q : Option Value → ak_H → Prop} (hq : Q (some (.int y.1)) (mm_H y.2)) : Ev Z (d + 0) 178 0 [some (.ref 73), some (.int a1)] [] (mm_H M) Q := by
  rw [md_byteAt] at hf
  refine e_iload_n hm_178 rfl rfl ?_
  refine e_aload_n hm_178 rfl rfl ?_
  refine e_getI hm_178 rfl rfl rfl ?_
  by_cases hc1 : a1 < (M.1 73 19)
  · rw [if_pos hc1] at hf
    refine e_ic_f hm_178 rfl (cf_ge hc1) ?_
    refine e_aload_n hm_178 rfl rfl ?_
    refine e_getR hm_178 rfl rfl rfl rfl ?_
    refine e_aload_n hm_178 rfl rfl ?_
    refine e_getI hm_178 rfl rfl rfl ?_
    refine e_iload_n hm_178 rfl rfl ?_
    refine e_iadd hm_178 rfl ?_
    obtain ⟨hi2, hf⟩ := mm_ite hf
    refine e_iald hm_178 rfl rfl hi2 ?_
    refine e_goto (t := 23) hm_178 rfl rfl ?_
    cases hf
    exact e_iret hm_178 rfl rfl hq
  · rw [if_neg hc1] at hf
    refine e_ic_t (t := 22) hm_178 rfl (ct_ge hc1) rfl ?_
    refine e_iconst hm_178 rfl kc_iconst_m1 ?_
    cases hf
    exact e_iret hm_178 rfl rfl hq
def md_next_l0 : Nat → mm_M → Option (((Unit) × mm_M))
  | 0, _ => none
  | n + 1, M =>
    (md_byteAt (M.1 73 20) M).bind fun y1 =>
    if y1.1 = (32 : Int32) then
      md_next_l0 n (ak_up y1.2.1 73 20 ((y1.2.1 73 20) + (1 : Int32)), y1.2.2)
    else
      (md_byteAt (y1.2.1 73 20) y1.2).bind fun y3 =>
      if y3.1 = (10 : Int32) then
        md_next_l0 n (ak_up y3.2.1 73 20 ((y3.2.1 73 20) + (1 : Int32)), y3.2.2)
      else
        some ((), y3.2)
set_option maxRecDepth 20000 in
set_option maxHeartbeats 4000000 in
theorem lc_177_0 {Z : ak_Z} {d : Nat} : ∀ (n : Nat) (M : mm_M) {y : ((Unit) × mm_M)} (Q : Option Value → ak_H → Prop), md_next_l0 n M = some y → (Ev Z (d + 1) 177 39 [some (.ref 73), none, none] [] (mm_H y.2) Q) → Ev Z (d + 1) 177 0 [some (.ref 73), none, none] [] (mm_H M) Q := by
  intro n
  induction n with
  | zero => intro M y Q hf; cases hf
  | succ n ih =>
    intro M y Q hf hq
    rw [md_next_l0] at hf
    refine e_aload_n hm_177 rfl rfl ?_
    refine e_aload_n hm_177 rfl rfl ?_
    refine e_getI hm_177 rfl rfl rfl ?_
    obtain ⟨y1, hky1, hf⟩ := mm_bd hf
    refine e_virt hm_177 rfl rfl rfl rfl (Nat.le_of_ble_eq_true rfl) hm_178 rfl rfl (c_178 (M.1 73 20) M hky1 ?_)
    show Ev Z _ 177 8 [some (.ref 73), none, none] [.int y1.1] (mm_H y1.2) Q
    refine e_bipush hm_177 rfl kc_bipush_32 ?_
    by_cases hc2 : y1.1 = (32 : Int32)
    · rw [if_pos hc2] at hf
      refine e_ic_t (t := 26) hm_177 rfl (ct_eq hc2) rfl ?_
      refine e_aload_n hm_177 rfl rfl ?_
      refine e_dupa hm_177 rfl ?_
      refine e_getI hm_177 rfl rfl rfl ?_
      refine e_iconst hm_177 rfl kc_iconst_1 ?_
      refine e_iadd hm_177 rfl ?_
      refine e_putI hm_177 rfl rfl rfl ?_
      refine e_goto (t := 0) hm_177 rfl rfl ?_
      exact e_forget (L' := [some (.ref 73), none, none]) (lf_k (lf_k (lf_k lf_0))) (ih (ak_up y1.2.1 73 20 ((y1.2.1 73 20) + (1 : Int32)), y1.2.2) Q hf hq)
    · rw [if_neg hc2] at hf
      refine e_ic_f hm_177 rfl (cf_eq hc2) ?_
      refine e_aload_n hm_177 rfl rfl ?_
      refine e_aload_n hm_177 rfl rfl ?_
      refine e_getI hm_177 rfl rfl rfl ?_
      obtain ⟨y3, hky3, hf⟩ := mm_bd hf
      refine e_virt hm_177 rfl rfl rfl rfl (Nat.le_of_ble_eq_true rfl) hm_178 rfl rfl (c_178 (y1.2.1 73 20) y1.2 hky3 ?_)
      show Ev Z _ 177 21 [some (.ref 73), none, none] [.int y3.1] (mm_H y3.2) Q
      refine e_bipush hm_177 rfl kc_bipush_10 ?_
      by_cases hc4 : y3.1 = (10 : Int32)
      · rw [if_pos hc4] at hf
        refine e_ic_f hm_177 rfl (cf_ne hc4) ?_
        refine e_aload_n hm_177 rfl rfl ?_
        refine e_dupa hm_177 rfl ?_
        refine e_getI hm_177 rfl rfl rfl ?_
        refine e_iconst hm_177 rfl kc_iconst_1 ?_
        refine e_iadd hm_177 rfl ?_
        refine e_putI hm_177 rfl rfl rfl ?_
        refine e_goto (t := 0) hm_177 rfl rfl ?_
        exact e_forget (L' := [some (.ref 73), none, none]) (lf_k (lf_k (lf_k lf_0))) (ih (ak_up y3.2.1 73 20 ((y3.2.1 73 20) + (1 : Int32)), y3.2.2) Q hf hq)
      · rw [if_neg hc4] at hf
        refine e_ic_t (t := 39) hm_177 rfl (ct_ne hc4) rfl ?_
        cases hf
        exact e_forget (L' := [some (.ref 73), none, none]) (lf_k (lf_k (lf_k lf_0))) hq
def md_next_l160 : Nat → Int32 → mm_M → Option (((Int32) × mm_M))
  | 0, _, _ => none
  | n + 1, x2, M =>
    (md_byteAt (M.1 73 20) M).bind fun y1 =>
    (md_in y1.1.toInt64 (48 : Int64) (57 : Int64) y1.2).bind fun y2 =>
    if y2.1 = (0 : Int32) then
      some (x2, y2.2)
    else
      if x2 < (4 : Int32) then
        (md_byteAt (y2.2.1 73 20) y2.2).bind fun y5 =>
        md_next_l160 n (x2 + (1 : Int32)) (ak_up y5.2.1 73 20 ((y5.2.1 73 20) + (1 : Int32)), y5.2.2.1, (((10 : Int64) * y2.2.2.2) + y5.1.toInt64) - (48 : Int64))
      else
        md_next_l160 n (x2 + (1 : Int32)) (ak_up y2.2.1 73 20 ((y2.2.1 73 20) + (1 : Int32)), y2.2.2.1, y2.2.2.2)
set_option maxRecDepth 20000 in
set_option maxHeartbeats 4000000 in
theorem lc_177_160 {Z : ak_Z} {d : Nat} : ∀ (n : Nat) (x2 : Int32) (M : mm_M) {y : ((Int32) × mm_M)} (Q : Option Value → ak_H → Prop), md_next_l160 n x2 M = some y → (Ev Z (d + 1) 177 235 [some (.ref 73), none, some (.int y.1)] [] (mm_H y.2) Q) → Ev Z (d + 1) 177 160 [some (.ref 73), none, some (.int x2)] [] (mm_H M) Q := by
  intro n
  induction n with
  | zero => intro x2 M y Q hf; cases hf
  | succ n ih =>
    intro x2 M y Q hf hq
    rw [md_next_l160] at hf
    refine e_aload_n hm_177 rfl rfl ?_
    refine e_aload_n hm_177 rfl rfl ?_
    refine e_getI hm_177 rfl rfl rfl ?_
    obtain ⟨y1, hky1, hf⟩ := mm_bd hf
    refine e_virt hm_177 rfl rfl rfl rfl (Nat.le_of_ble_eq_true rfl) hm_178 rfl rfl (c_178 (M.1 73 20) M hky1 ?_)
    show Ev Z _ 177 168 [some (.ref 73), none, some (.int x2)] [.int y1.1] (mm_H y1.2) Q
    refine e_i2l hm_177 rfl ?_
    refine e_ldc2 hm_177 rfl kc_ldc2_48 ?_
    refine e_ldc2 hm_177 rfl kc_ldc2_57 ?_
    obtain ⟨y2, hky2, hf⟩ := mm_bd hf
    refine e_stat hm_177 rfl (by decide) rfl rfl (Nat.le_of_ble_eq_true rfl) hm_169 rfl rfl (c_169 y1.1.toInt64 (48 : Int64) (57 : Int64) y1.2 hky2 ?_)
    show Ev Z _ 177 178 [some (.ref 73), none, some (.int x2)] [.int y2.1] (mm_H y2.2) Q
    by_cases hc3 : y2.1 = (0 : Int32)
    · rw [if_pos hc3] at hf
      refine e_if_t (t := 235) hm_177 rfl (ct_eq hc3) rfl ?_
      cases hf
      exact e_forget (L' := [some (.ref 73), none, some (.int x2)]) (lf_k (lf_k (lf_k lf_0))) hq
    · rw [if_neg hc3] at hf
      refine e_if_f hm_177 rfl (cf_eq hc3) ?_
      refine e_aload_n hm_177 rfl rfl ?_
      refine e_iload_n hm_177 rfl rfl ?_
      refine e_iconst hm_177 rfl kc_iconst_4 ?_
      by_cases hc4 : x2 < (4 : Int32)
      · rw [if_pos hc4] at hf
        refine e_ic_f hm_177 rfl (cf_ge hc4) ?_
        refine e_ldc2 hm_177 rfl kc_ldc2_10 ?_
        refine e_aload_n hm_177 rfl rfl ?_
        refine e_getJ hm_177 rfl ?_
        refine e_lmul hm_177 rfl ?_
        refine e_aload_n hm_177 rfl rfl ?_
        refine e_aload_n hm_177 rfl rfl ?_
        refine e_getI hm_177 rfl rfl rfl ?_
        obtain ⟨y5, hky5, hf⟩ := mm_bd hf
        refine e_virt hm_177 rfl rfl rfl rfl (Nat.le_of_ble_eq_true rfl) hm_178 rfl rfl (c_178 (y2.2.1 73 20) y2.2 hky5 ?_)
        show Ev Z _ 177 203 [some (.ref 73), none, some (.int x2)] [.int y5.1, .long ((10 : Int64) * y2.2.2.2), .ref 73] (mm_H y5.2) Q
        refine e_i2l hm_177 rfl ?_
        refine e_ladd hm_177 rfl ?_
        refine e_ldc2 hm_177 rfl kc_ldc2_48 ?_
        refine e_lsub hm_177 rfl ?_
        refine e_goto (t := 216) hm_177 rfl rfl ?_
        refine e_putJ hm_177 rfl ?_
        refine e_iinc (L2 := [some (.ref 73), none, some (.int (x2 + (1 : Int32)))]) hm_177 rfl kc_iinc_1 rfl rfl ?_
        refine e_aload_n hm_177 rfl rfl ?_
        refine e_dupa hm_177 rfl ?_
        refine e_getI hm_177 rfl rfl rfl ?_
        refine e_iconst hm_177 rfl kc_iconst_1 ?_
        refine e_iadd hm_177 rfl ?_
        refine e_putI hm_177 rfl rfl rfl ?_
        refine e_goto (t := 160) hm_177 rfl rfl ?_
        exact e_forget (L' := [some (.ref 73), none, some (.int (x2 + (1 : Int32)))]) (lf_k (lf_k (lf_k lf_0))) (ih (x2 + (1 : Int32)) (ak_up y5.2.1 73 20 ((y5.2.1 73 20) + (1 : Int32)), y5.2.2.1, (((10 : Int64) * y2.2.2.2) + y5.1.toInt64) - (48 : Int64)) Q hf hq)
      · rw [if_neg hc4] at hf
        refine e_ic_t (t := 212) hm_177 rfl (ct_ge hc4) rfl ?_
        refine e_aload_n hm_177 rfl rfl ?_
        refine e_getJ hm_177 rfl ?_
        refine e_putJ hm_177 rfl ?_
        refine e_iinc (L2 := [some (.ref 73), none, some (.int (x2 + (1 : Int32)))]) hm_177 rfl kc_iinc_1 rfl rfl ?_
        refine e_aload_n hm_177 rfl rfl ?_
        refine e_dupa hm_177 rfl ?_
        refine e_getI hm_177 rfl rfl rfl ?_
        refine e_iconst hm_177 rfl kc_iconst_1 ?_
        refine e_iadd hm_177 rfl ?_
        refine e_putI hm_177 rfl rfl rfl ?_
        refine e_goto (t := 160) hm_177 rfl rfl ?_
        exact e_forget (L' := [some (.ref 73), none, some (.int (x2 + (1 : Int32)))]) (lf_k (lf_k (lf_k lf_0))) (ih (x2 + (1 : Int32)) (ak_up y2.2.1 73 20 ((y2.2.1 73 20) + (1 : Int32)), y2.2.2.1, y2.2.2.2) Q hf hq)
def md_next_l100 : Nat → mm_M → Option (((Unit) × mm_M))
  | 0, _ => none
  | n + 1, M =>
    (md_byteAt (M.1 73 20) M).bind fun y1 =>
    (md_in y1.1.toInt64 (97 : Int64) (122 : Int64) y1.2).bind fun y2 =>
    if y2.1 = (0 : Int32) then
      some ((), y2.2)
    else
      md_next_l100 n (ak_up y2.2.1 73 20 ((y2.2.1 73 20) + (1 : Int32)), y2.2.2)
set_option maxRecDepth 20000 in
set_option maxHeartbeats 4000000 in
theorem lc_177_100 {Z : ak_Z} {d : Nat} : ∀ (n : Nat) (M : mm_M) {y : ((Unit) × mm_M)} (Q : Option Value → ak_H → Prop), md_next_l100 n M = some y → (Ev Z (d + 1) 177 321 [none, none, none] [] (mm_H y.2) Q) → Ev Z (d + 1) 177 100 [some (.ref 73), none, none] [] (mm_H M) Q := by
  intro n
  induction n with
  | zero => intro M y Q hf; cases hf
  | succ n ih =>
    intro M y Q hf hq
    rw [md_next_l100] at hf
    refine e_aload_n hm_177 rfl rfl ?_
    refine e_aload_n hm_177 rfl rfl ?_
    refine e_getI hm_177 rfl rfl rfl ?_
    obtain ⟨y1, hky1, hf⟩ := mm_bd hf
    refine e_virt hm_177 rfl rfl rfl rfl (Nat.le_of_ble_eq_true rfl) hm_178 rfl rfl (c_178 (M.1 73 20) M hky1 ?_)
    show Ev Z _ 177 108 [some (.ref 73), none, none] [.int y1.1] (mm_H y1.2) Q
    refine e_i2l hm_177 rfl ?_
    refine e_ldc2 hm_177 rfl kc_ldc2_97 ?_
    refine e_ldc2 hm_177 rfl kc_ldc2_122 ?_
    obtain ⟨y2, hky2, hf⟩ := mm_bd hf
    refine e_stat hm_177 rfl (by decide) rfl rfl (Nat.le_of_ble_eq_true rfl) hm_169 rfl rfl (c_169 y1.1.toInt64 (97 : Int64) (122 : Int64) y1.2 hky2 ?_)
    show Ev Z _ 177 118 [some (.ref 73), none, none] [.int y2.1] (mm_H y2.2) Q
    by_cases hc3 : y2.1 = (0 : Int32)
    · rw [if_pos hc3] at hf
      refine e_if_t (t := 321) hm_177 rfl (ct_eq hc3) rfl ?_
      cases hf
      exact e_forget (L' := [none, none, none]) (lf_d (lf_k (lf_k lf_0))) hq
    · rw [if_neg hc3] at hf
      refine e_if_f hm_177 rfl (cf_eq hc3) ?_
      refine e_aload_n hm_177 rfl rfl ?_
      refine e_dupa hm_177 rfl ?_
      refine e_getI hm_177 rfl rfl rfl ?_
      refine e_iconst hm_177 rfl kc_iconst_1 ?_
      refine e_iadd hm_177 rfl ?_
      refine e_putI hm_177 rfl rfl rfl ?_
      refine e_goto (t := 100) hm_177 rfl rfl ?_
      exact e_forget (L' := [some (.ref 73), none, none]) (lf_k (lf_k (lf_k lf_0))) (ih (ak_up y2.2.1 73 20 ((y2.2.1 73 20) + (1 : Int32)), y2.2.2) Q hf hq)
def md_next (M : mm_M) : Option (Unit × mm_M) :=
  (md_next_l0 300 M).bind fun y1 =>
  (md_byteAt ((ak_up y1.2.1 73 22 (y1.2.1 73 20)) 73 20) (ak_up y1.2.1 73 22 (y1.2.1 73 20), y1.2.2)).bind fun y2 =>
  if y2.1 < (0 : Int32) then
    some ((), (ak_up (ak_up (ak_up y2.2.1 73 21 (4 : Int32)) 73 21 (0 : Int32)) 73 22 ((ak_up (ak_up y2.2.1 73 21 (4 : Int32)) 73 21 (0 : Int32)) 73 19), y2.2.2))
  else
    (md_in y2.1.toInt64 (97 : Int64) (122 : Int64) (ak_up y2.2.1 73 21 (4 : Int32), y2.2.2)).bind fun y4 =>
    if y4.1 = (0 : Int32) then
      (md_in y2.1.toInt64 (48 : Int64) (57 : Int64) y4.2).bind fun y6 =>
      if y6.1 = (0 : Int32) then
        if y2.1 = (40 : Int32) then
          some ((), (ak_up (ak_up y6.2.1 73 21 (3 : Int32)) 73 20 (((ak_up y6.2.1 73 21 (3 : Int32)) 73 20) + (1 : Int32)), y6.2.2.1, y2.1.toInt64))
        else
          if y2.1 = (41 : Int32) then
            some ((), (ak_up (ak_up y6.2.1 73 21 (3 : Int32)) 73 20 (((ak_up y6.2.1 73 21 (3 : Int32)) 73 20) + (1 : Int32)), y6.2.2.1, y2.1.toInt64))
          else
            if y2.1 = (59 : Int32) then
              some ((), (ak_up (ak_up y6.2.1 73 21 (3 : Int32)) 73 20 (((ak_up y6.2.1 73 21 (3 : Int32)) 73 20) + (1 : Int32)), y6.2.2.1, y2.1.toInt64))
            else
              if y2.1 = (43 : Int32) then
                some ((), (ak_up (ak_up y6.2.1 73 21 (3 : Int32)) 73 20 (((ak_up y6.2.1 73 21 (3 : Int32)) 73 20) + (1 : Int32)), y6.2.2.1, y2.1.toInt64))
              else
                if y2.1 = (45 : Int32) then
                  some ((), (ak_up (ak_up y6.2.1 73 21 (3 : Int32)) 73 20 (((ak_up y6.2.1 73 21 (3 : Int32)) 73 20) + (1 : Int32)), y6.2.2.1, y2.1.toInt64))
                else
                  if y2.1 = (42 : Int32) then
                    some ((), (ak_up (ak_up y6.2.1 73 21 (3 : Int32)) 73 20 (((ak_up y6.2.1 73 21 (3 : Int32)) 73 20) + (1 : Int32)), y6.2.2.1, y2.1.toInt64))
                  else
                    if y2.1 = (60 : Int32) then
                      some ((), (ak_up (ak_up y6.2.1 73 21 (3 : Int32)) 73 20 (((ak_up y6.2.1 73 21 (3 : Int32)) 73 20) + (1 : Int32)), y6.2.2.1, y2.1.toInt64))
                    else
                      if y2.1 = (61 : Int32) then
                        some ((), (ak_up (ak_up y6.2.1 73 21 (3 : Int32)) 73 20 (((ak_up y6.2.1 73 21 (3 : Int32)) 73 20) + (1 : Int32)), y6.2.2.1, y2.1.toInt64))
                      else
                        some ((), y6.2)
      else
        (md_next_l160 300 (0 : Int32) (ak_up y6.2.1 73 21 (2 : Int32), y6.2.2.1, (0 : Int64))).bind fun y16 =>
        if (4 : Int32) < y16.1 then
          some ((), (ak_up y16.2.1 73 21 (4 : Int32), y16.2.2))
        else
          some ((), (ak_up y16.2.1 73 21 (2 : Int32), y16.2.2))
    else
      (md_next_l100 300 (ak_up y4.2.1 73 21 (1 : Int32), y4.2.2)).bind fun y18 =>
      some ((), y18.2)
set_option maxRecDepth 20000 in
set_option maxHeartbeats 4000000 in
theorem c_177 {Z : ak_Z} {d : Nat} (M : mm_M) {y : Unit × mm_M} (hf : md_next M = some y) {Q : Option Value → ak_H → Prop} (hq : Q none (mm_H y.2)) : Ev Z (d + 1) 177 0 [some (.ref 73), none, none] [] (mm_H M) Q := by
  rw [md_next] at hf
  obtain ⟨y1, hky1, hf⟩ := mm_bd hf
  refine e_forget (L' := [some (.ref 73), none, none]) (lf_k (lf_k (lf_k lf_0))) (lc_177_0 (d := _) 300 M Q hky1 ?_)
  show Ev Z _ 177 39 [some (.ref 73), none, none] [] (mm_H y1.2) Q
  refine e_aload_n hm_177 rfl rfl ?_
  refine e_aload_n hm_177 rfl rfl ?_
  refine e_getI hm_177 rfl rfl rfl ?_
  refine e_putI hm_177 rfl rfl rfl ?_
  refine e_aload_n hm_177 rfl rfl ?_
  refine e_aload_n hm_177 rfl rfl ?_
  refine e_getI hm_177 rfl rfl rfl ?_
  obtain ⟨y2, hky2, hf⟩ := mm_bd hf
  refine e_virt hm_177 rfl rfl rfl rfl (Nat.le_of_ble_eq_true rfl) hm_178 rfl rfl (c_178 ((ak_up y1.2.1 73 22 (y1.2.1 73 20)) 73 20) (ak_up y1.2.1 73 22 (y1.2.1 73 20), y1.2.2) hky2 ?_)
  show Ev Z _ 177 55 [some (.ref 73), none, none] [.int y2.1] (mm_H y2.2) Q
  refine e_istore_n (L2 := [some (.ref 73), some (.int y2.1), none]) hm_177 rfl rfl ?_
  refine e_aload_n hm_177 rfl rfl ?_
  refine e_iconst hm_177 rfl kc_iconst_4 ?_
  refine e_putI hm_177 rfl rfl rfl ?_
  refine e_iload_n hm_177 rfl rfl ?_
  by_cases hc3 : y2.1 < (0 : Int32)
  · rw [if_pos hc3] at hf
    refine e_if_f hm_177 rfl (cf_ge hc3) ?_
    refine e_aload_n hm_177 rfl rfl ?_
    refine e_iconst hm_177 rfl kc_iconst_0 ?_
    refine e_putI hm_177 rfl rfl rfl ?_
    refine e_aload_n hm_177 rfl rfl ?_
    refine e_aload_n hm_177 rfl rfl ?_
    refine e_getI hm_177 rfl rfl rfl ?_
    refine e_putI hm_177 rfl rfl rfl ?_
    refine e_goto (t := 321) hm_177 rfl rfl ?_
    cases hf
    exact e_vret hm_177 rfl rfl hq
  · rw [if_neg hc3] at hf
    refine e_if_t (t := 81) hm_177 rfl (ct_ge hc3) rfl ?_
    refine e_iload_n hm_177 rfl rfl ?_
    refine e_i2l hm_177 rfl ?_
    refine e_ldc2 hm_177 rfl kc_ldc2_97 ?_
    refine e_ldc2 hm_177 rfl kc_ldc2_122 ?_
    obtain ⟨y4, hky4, hf⟩ := mm_bd hf
    refine e_stat hm_177 rfl (by decide) rfl rfl (Nat.le_of_ble_eq_true rfl) hm_169 rfl rfl (c_169 y2.1.toInt64 (97 : Int64) (122 : Int64) (ak_up y2.2.1 73 21 (4 : Int32), y2.2.2) hky4 ?_)
    show Ev Z _ 177 92 [some (.ref 73), some (.int y2.1), none] [.int y4.1] (mm_H y4.2) Q
    by_cases hc5 : y4.1 = (0 : Int32)
    · rw [if_pos hc5] at hf
      refine e_if_t (t := 134) hm_177 rfl (ct_eq hc5) rfl ?_
      refine e_iload_n hm_177 rfl rfl ?_
      refine e_i2l hm_177 rfl ?_
      refine e_ldc2 hm_177 rfl kc_ldc2_48 ?_
      refine e_ldc2 hm_177 rfl kc_ldc2_57 ?_
      obtain ⟨y6, hky6, hf⟩ := mm_bd hf
      refine e_stat hm_177 rfl (by decide) rfl rfl (Nat.le_of_ble_eq_true rfl) hm_169 rfl rfl (c_169 y2.1.toInt64 (48 : Int64) (57 : Int64) y4.2 hky6 ?_)
      show Ev Z _ 177 145 [some (.ref 73), some (.int y2.1), none] [.int y6.1] (mm_H y6.2) Q
      by_cases hc7 : y6.1 = (0 : Int32)
      · rw [if_pos hc7] at hf
        refine e_if_t (t := 252) hm_177 rfl (ct_eq hc7) rfl ?_
        refine e_iload_n hm_177 rfl rfl ?_
        refine e_bipush hm_177 rfl kc_bipush_40 ?_
        by_cases hc8 : y2.1 = (40 : Int32)
        · rw [if_pos hc8] at hf
          refine e_ic_t (t := 300) hm_177 rfl (ct_eq hc8) rfl ?_
          refine e_aload_n hm_177 rfl rfl ?_
          refine e_iconst hm_177 rfl kc_iconst_3 ?_
          refine e_putI hm_177 rfl rfl rfl ?_
          refine e_aload_n hm_177 rfl rfl ?_
          refine e_iload_n hm_177 rfl rfl ?_
          refine e_i2l hm_177 rfl ?_
          refine e_putJ hm_177 rfl ?_
          refine e_aload_n hm_177 rfl rfl ?_
          refine e_dupa hm_177 rfl ?_
          refine e_getI hm_177 rfl rfl rfl ?_
          refine e_iconst hm_177 rfl kc_iconst_1 ?_
          refine e_iadd hm_177 rfl ?_
          refine e_putI hm_177 rfl rfl rfl ?_
          cases hf
          exact e_vret hm_177 rfl rfl hq
        · rw [if_neg hc8] at hf
          refine e_ic_f hm_177 rfl (cf_eq hc8) ?_
          refine e_iload_n hm_177 rfl rfl ?_
          refine e_bipush hm_177 rfl kc_bipush_41 ?_
          by_cases hc9 : y2.1 = (41 : Int32)
          · rw [if_pos hc9] at hf
            refine e_ic_t (t := 300) hm_177 rfl (ct_eq hc9) rfl ?_
            refine e_aload_n hm_177 rfl rfl ?_
            refine e_iconst hm_177 rfl kc_iconst_3 ?_
            refine e_putI hm_177 rfl rfl rfl ?_
            refine e_aload_n hm_177 rfl rfl ?_
            refine e_iload_n hm_177 rfl rfl ?_
            refine e_i2l hm_177 rfl ?_
            refine e_putJ hm_177 rfl ?_
            refine e_aload_n hm_177 rfl rfl ?_
            refine e_dupa hm_177 rfl ?_
            refine e_getI hm_177 rfl rfl rfl ?_
            refine e_iconst hm_177 rfl kc_iconst_1 ?_
            refine e_iadd hm_177 rfl ?_
            refine e_putI hm_177 rfl rfl rfl ?_
            cases hf
            exact e_vret hm_177 rfl rfl hq
          · rw [if_neg hc9] at hf
            refine e_ic_f hm_177 rfl (cf_eq hc9) ?_
            refine e_iload_n hm_177 rfl rfl ?_
            refine e_bipush hm_177 rfl kc_bipush_59 ?_
            by_cases hc10 : y2.1 = (59 : Int32)
            · rw [if_pos hc10] at hf
              refine e_ic_t (t := 300) hm_177 rfl (ct_eq hc10) rfl ?_
              refine e_aload_n hm_177 rfl rfl ?_
              refine e_iconst hm_177 rfl kc_iconst_3 ?_
              refine e_putI hm_177 rfl rfl rfl ?_
              refine e_aload_n hm_177 rfl rfl ?_
              refine e_iload_n hm_177 rfl rfl ?_
              refine e_i2l hm_177 rfl ?_
              refine e_putJ hm_177 rfl ?_
              refine e_aload_n hm_177 rfl rfl ?_
              refine e_dupa hm_177 rfl ?_
              refine e_getI hm_177 rfl rfl rfl ?_
              refine e_iconst hm_177 rfl kc_iconst_1 ?_
              refine e_iadd hm_177 rfl ?_
              refine e_putI hm_177 rfl rfl rfl ?_
              cases hf
              exact e_vret hm_177 rfl rfl hq
            · rw [if_neg hc10] at hf
              refine e_ic_f hm_177 rfl (cf_eq hc10) ?_
              refine e_iload_n hm_177 rfl rfl ?_
              refine e_bipush hm_177 rfl kc_bipush_43 ?_
              by_cases hc11 : y2.1 = (43 : Int32)
              · rw [if_pos hc11] at hf
                refine e_ic_t (t := 300) hm_177 rfl (ct_eq hc11) rfl ?_
                refine e_aload_n hm_177 rfl rfl ?_
                refine e_iconst hm_177 rfl kc_iconst_3 ?_
                refine e_putI hm_177 rfl rfl rfl ?_
                refine e_aload_n hm_177 rfl rfl ?_
                refine e_iload_n hm_177 rfl rfl ?_
                refine e_i2l hm_177 rfl ?_
                refine e_putJ hm_177 rfl ?_
                refine e_aload_n hm_177 rfl rfl ?_
                refine e_dupa hm_177 rfl ?_
                refine e_getI hm_177 rfl rfl rfl ?_
                refine e_iconst hm_177 rfl kc_iconst_1 ?_
                refine e_iadd hm_177 rfl ?_
                refine e_putI hm_177 rfl rfl rfl ?_
                cases hf
                exact e_vret hm_177 rfl rfl hq
              · rw [if_neg hc11] at hf
                refine e_ic_f hm_177 rfl (cf_eq hc11) ?_
                refine e_iload_n hm_177 rfl rfl ?_
                refine e_bipush hm_177 rfl kc_bipush_45 ?_
                by_cases hc12 : y2.1 = (45 : Int32)
                · rw [if_pos hc12] at hf
                  refine e_ic_t (t := 300) hm_177 rfl (ct_eq hc12) rfl ?_
                  refine e_aload_n hm_177 rfl rfl ?_
                  refine e_iconst hm_177 rfl kc_iconst_3 ?_
                  refine e_putI hm_177 rfl rfl rfl ?_
                  refine e_aload_n hm_177 rfl rfl ?_
                  refine e_iload_n hm_177 rfl rfl ?_
                  refine e_i2l hm_177 rfl ?_
                  refine e_putJ hm_177 rfl ?_
                  refine e_aload_n hm_177 rfl rfl ?_
                  refine e_dupa hm_177 rfl ?_
                  refine e_getI hm_177 rfl rfl rfl ?_
                  refine e_iconst hm_177 rfl kc_iconst_1 ?_
                  refine e_iadd hm_177 rfl ?_
                  refine e_putI hm_177 rfl rfl rfl ?_
                  cases hf
                  exact e_vret hm_177 rfl rfl hq
                · rw [if_neg hc12] at hf
                  refine e_ic_f hm_177 rfl (cf_eq hc12) ?_
                  refine e_iload_n hm_177 rfl rfl ?_
                  refine e_bipush hm_177 rfl kc_bipush_42 ?_
                  by_cases hc13 : y2.1 = (42 : Int32)
                  · rw [if_pos hc13] at hf
                    refine e_ic_t (t := 300) hm_177 rfl (ct_eq hc13) rfl ?_
                    refine e_aload_n hm_177 rfl rfl ?_
                    refine e_iconst hm_177 rfl kc_iconst_3 ?_
                    refine e_putI hm_177 rfl rfl rfl ?_
                    refine e_aload_n hm_177 rfl rfl ?_
                    refine e_iload_n hm_177 rfl rfl ?_
                    refine e_i2l hm_177 rfl ?_
                    refine e_putJ hm_177 rfl ?_
                    refine e_aload_n hm_177 rfl rfl ?_
                    refine e_dupa hm_177 rfl ?_
                    refine e_getI hm_177 rfl rfl rfl ?_
                    refine e_iconst hm_177 rfl kc_iconst_1 ?_
                    refine e_iadd hm_177 rfl ?_
                    refine e_putI hm_177 rfl rfl rfl ?_
                    cases hf
                    exact e_vret hm_177 rfl rfl hq
                  · rw [if_neg hc13] at hf
                    refine e_ic_f hm_177 rfl (cf_eq hc13) ?_
                    refine e_iload_n hm_177 rfl rfl ?_
                    refine e_bipush hm_177 rfl kc_bipush_60 ?_
                    by_cases hc14 : y2.1 = (60 : Int32)
                    · rw [if_pos hc14] at hf
                      refine e_ic_t (t := 300) hm_177 rfl (ct_eq hc14) rfl ?_
                      refine e_aload_n hm_177 rfl rfl ?_
                      refine e_iconst hm_177 rfl kc_iconst_3 ?_
                      refine e_putI hm_177 rfl rfl rfl ?_
                      refine e_aload_n hm_177 rfl rfl ?_
                      refine e_iload_n hm_177 rfl rfl ?_
                      refine e_i2l hm_177 rfl ?_
                      refine e_putJ hm_177 rfl ?_
                      refine e_aload_n hm_177 rfl rfl ?_
                      refine e_dupa hm_177 rfl ?_
                      refine e_getI hm_177 rfl rfl rfl ?_
                      refine e_iconst hm_177 rfl kc_iconst_1 ?_
                      refine e_iadd hm_177 rfl ?_
                      refine e_putI hm_177 rfl rfl rfl ?_
                      cases hf
                      exact e_vret hm_177 rfl rfl hq
                    · rw [if_neg hc14] at hf
                      refine e_ic_f hm_177 rfl (cf_eq hc14) ?_
                      refine e_iload_n hm_177 rfl rfl ?_
                      refine e_bipush hm_177 rfl kc_bipush_61 ?_
                      by_cases hc15 : y2.1 = (61 : Int32)
                      · rw [if_pos hc15] at hf
                        refine e_ic_f hm_177 rfl (cf_ne hc15) ?_
                        refine e_aload_n hm_177 rfl rfl ?_
                        refine e_iconst hm_177 rfl kc_iconst_3 ?_
                        refine e_putI hm_177 rfl rfl rfl ?_
                        refine e_aload_n hm_177 rfl rfl ?_
                        refine e_iload_n hm_177 rfl rfl ?_
                        refine e_i2l hm_177 rfl ?_
                        refine e_putJ hm_177 rfl ?_
                        refine e_aload_n hm_177 rfl rfl ?_
                        refine e_dupa hm_177 rfl ?_
                        refine e_getI hm_177 rfl rfl rfl ?_
                        refine e_iconst hm_177 rfl kc_iconst_1 ?_
                        refine e_iadd hm_177 rfl ?_
                        refine e_putI hm_177 rfl rfl rfl ?_
                        cases hf
                        exact e_vret hm_177 rfl rfl hq
                      · rw [if_neg hc15] at hf
                        refine e_ic_t (t := 321) hm_177 rfl (ct_ne hc15) rfl ?_
                        cases hf
                        exact e_vret hm_177 rfl rfl hq
      · rw [if_neg hc7] at hf
        refine e_if_f hm_177 rfl (cf_eq hc7) ?_
        refine e_aload_n hm_177 rfl rfl ?_
        refine e_iconst hm_177 rfl kc_iconst_2 ?_
        refine e_putI hm_177 rfl rfl rfl ?_
        refine e_aload_n hm_177 rfl rfl ?_
        refine e_lconst hm_177 rfl rfl ?_
        refine e_putJ hm_177 rfl ?_
        refine e_iconst hm_177 rfl kc_iconst_0 ?_
        refine e_istore_n (L2 := [some (.ref 73), some (.int y2.1), some (.int (0 : Int32))]) hm_177 rfl rfl ?_
        obtain ⟨y16, hky16, hf⟩ := mm_bd hf
        refine e_forget (L' := [some (.ref 73), none, some (.int (0 : Int32))]) (lf_k (lf_d (lf_k lf_0))) (lc_177_160 (d := _) 300 (0 : Int32) (ak_up y6.2.1 73 21 (2 : Int32), y6.2.2.1, (0 : Int64)) Q hky16 ?_)
        show Ev Z _ 177 235 [some (.ref 73), none, some (.int y16.1)] [] (mm_H y16.2) Q
        refine e_aload_n hm_177 rfl rfl ?_
        refine e_iload_n hm_177 rfl rfl ?_
        refine e_iconst hm_177 rfl kc_iconst_4 ?_
        by_cases hc17 : (4 : Int32) < y16.1
        · rw [if_pos hc17] at hf
          refine e_ic_f hm_177 rfl (cf_le hc17) ?_
          refine e_iconst hm_177 rfl kc_iconst_4 ?_
          refine e_goto (t := 246) hm_177 rfl rfl ?_
          refine e_putI hm_177 rfl rfl rfl ?_
          refine e_goto (t := 321) hm_177 rfl rfl ?_
          cases hf
          exact e_vret hm_177 rfl rfl hq
        · rw [if_neg hc17] at hf
          refine e_ic_t (t := 245) hm_177 rfl (ct_le hc17) rfl ?_
          refine e_iconst hm_177 rfl kc_iconst_2 ?_
          refine e_putI hm_177 rfl rfl rfl ?_
          refine e_goto (t := 321) hm_177 rfl rfl ?_
          cases hf
          exact e_vret hm_177 rfl rfl hq
    · rw [if_neg hc5] at hf
      refine e_if_f hm_177 rfl (cf_eq hc5) ?_
      refine e_aload_n hm_177 rfl rfl ?_
      refine e_iconst hm_177 rfl kc_iconst_1 ?_
      refine e_putI hm_177 rfl rfl rfl ?_
      obtain ⟨y18, hky18, hf⟩ := mm_bd hf
      refine e_forget (L' := [some (.ref 73), none, none]) (lf_k (lf_d (lf_k lf_0))) (lc_177_100 (d := _) 300 (ak_up y4.2.1 73 21 (1 : Int32), y4.2.2) Q hky18 ?_)
      show Ev Z _ 177 321 [none, none, none] [] (mm_H y18.2) Q
      cases hf
      exact e_vret hm_177 rfl rfl hq
def md_isLetter (a1 : Int32) (a2 : Int32) (M : mm_M) : Option (Int32 × mm_M) :=
  if ((M.1 73 22) + a1) < (M.1 73 20) then
    (md_byteAt ((M.1 73 22) + a1) M).bind fun y2 =>
    if y2.1 = a2 then
      some ((1 : Int32), y2.2)
    else
      some ((0 : Int32), y2.2)
  else
    if a2 = (0 : Int32) then
      some ((1 : Int32), M)
    else
      some ((0 : Int32), M)
set_option maxRecDepth 20000 in
set_option maxHeartbeats 4000000 in
theorem c_180 {Z : ak_Z} {d : Nat} (a1 : Int32) (a2 : Int32) (M : mm_M) {y : Int32 × mm_M} (hf : md_isLetter a1 a2 M = some y) {Q : Option Value → ak_H → Prop} (hq : Q (some (.int y.1)) (mm_H y.2)) : Ev Z (d + 1) 180 0 [some (.ref 73), some (.int a1), some (.int a2)] [] (mm_H M) Q := by
  rw [md_isLetter] at hf
  refine e_aload_n hm_180 rfl rfl ?_
  refine e_getI hm_180 rfl rfl rfl ?_
  refine e_iload_n hm_180 rfl rfl ?_
  refine e_iadd hm_180 rfl ?_
  refine e_aload_n hm_180 rfl rfl ?_
  refine e_getI hm_180 rfl rfl rfl ?_
  by_cases hc1 : ((M.1 73 22) + a1) < (M.1 73 20)
  · rw [if_pos hc1] at hf
    refine e_ic_f hm_180 rfl (cf_ge hc1) ?_
    refine e_aload_n hm_180 rfl rfl ?_
    refine e_aload_n hm_180 rfl rfl ?_
    refine e_getI hm_180 rfl rfl rfl ?_
    refine e_iload_n hm_180 rfl rfl ?_
    refine e_iadd hm_180 rfl ?_
    obtain ⟨y2, hky2, hf⟩ := mm_bd hf
    refine e_virt hm_180 rfl rfl rfl rfl (Nat.le_of_ble_eq_true rfl) hm_178 rfl rfl (c_178 ((M.1 73 22) + a1) M hky2 ?_)
    show Ev Z _ 180 23 [some (.ref 73), some (.int a1), some (.int a2)] [.int y2.1] (mm_H y2.2) Q
    refine e_iload_n hm_180 rfl rfl ?_
    by_cases hc3 : y2.1 = a2
    · rw [if_pos hc3] at hf
      refine e_ic_f hm_180 rfl (cf_ne hc3) ?_
      refine e_iconst hm_180 rfl kc_iconst_1 ?_
      refine e_goto (t := 44) hm_180 rfl rfl ?_
      cases hf
      exact e_zret hm_180 rfl rfl (by decide) hq
    · rw [if_neg hc3] at hf
      refine e_ic_t (t := 31) hm_180 rfl (ct_ne hc3) rfl ?_
      refine e_iconst hm_180 rfl kc_iconst_0 ?_
      refine e_goto (t := 44) hm_180 rfl rfl ?_
      cases hf
      exact e_zret hm_180 rfl rfl (by decide) hq
  · rw [if_neg hc1] at hf
    refine e_ic_t (t := 35) hm_180 rfl (ct_ge hc1) rfl ?_
    refine e_iload_n hm_180 rfl rfl ?_
    by_cases hc4 : a2 = (0 : Int32)
    · rw [if_pos hc4] at hf
      refine e_if_f hm_180 rfl (cf_ne hc4) ?_
      refine e_iconst hm_180 rfl kc_iconst_1 ?_
      refine e_goto (t := 44) hm_180 rfl rfl ?_
      cases hf
      exact e_zret hm_180 rfl rfl (by decide) hq
    · rw [if_neg hc4] at hf
      refine e_if_t (t := 43) hm_180 rfl (ct_ne hc4) rfl ?_
      refine e_iconst hm_180 rfl kc_iconst_0 ?_
      cases hf
      exact e_zret hm_180 rfl rfl (by decide) hq
def md_isWord (a1 : Int32) (a2 : Int32) (a3 : Int32) (a4 : Int32) (a5 : Int32) (a6 : Int32) (a7 : Int32) (a8 : Int32) (M : mm_M) : Option (Int32 × mm_M) :=
  if (M.1 73 25) = (0 : Int32) then
    if (M.1 73 21) = (1 : Int32) then
      if ((M.1 73 22) + (8 : Int32)) < (M.1 73 20) then
        some ((0 : Int32), M)
      else
        (md_isLetter (0 : Int32) a1 M).bind fun y4 =>
        if y4.1 = (0 : Int32) then
          some ((0 : Int32), y4.2)
        else
          (md_isLetter (1 : Int32) a2 y4.2).bind fun y6 =>
          if y6.1 = (0 : Int32) then
            some ((0 : Int32), y6.2)
          else
            (md_isLetter (2 : Int32) a3 y6.2).bind fun y8 =>
            if y8.1 = (0 : Int32) then
              some ((0 : Int32), y8.2)
            else
              (md_isLetter (3 : Int32) a4 y8.2).bind fun y10 =>
              if y10.1 = (0 : Int32) then
                some ((0 : Int32), y10.2)
              else
                (md_isLetter (4 : Int32) a5 y10.2).bind fun y12 =>
                if y12.1 = (0 : Int32) then
                  some ((0 : Int32), y12.2)
                else
                  (md_isLetter (5 : Int32) a6 y12.2).bind fun y14 =>
                  if y14.1 = (0 : Int32) then
                    some ((0 : Int32), y14.2)
                  else
                    (md_isLetter (6 : Int32) a7 y14.2).bind fun y16 =>
                    if y16.1 = (0 : Int32) then
                      some ((0 : Int32), y16.2)
                    else
                      (md_isLetter (7 : Int32) a8 y16.2).bind fun y18 =>
                      if y18.1 = (0 : Int32) then
                        some ((0 : Int32), y18.2)
                      else
                        some ((1 : Int32), y18.2)
    else
      some ((0 : Int32), M)
  else
    some ((0 : Int32), M)
set_option maxRecDepth 20000 in
set_option maxHeartbeats 4000000 in
theorem c_179 {Z : ak_Z} {d : Nat} (a1 : Int32) (a2 : Int32) (a3 : Int32) (a4 : Int32) (a5 : Int32) (a6 : Int32) (a7 : Int32) (a8 : Int32) (M : mm_M) {y : Int32 × mm_M} (hf : md_isWord a1 a2 a3 a4 a5 a6 a7 a8 M = some y) {Q : Option Value → ak_H → Prop} (hq : Q (some (.int y.1)) (mm_H y.2)) : Ev Z (d + 2) 179 0 [some (.ref 73), some (.int a1), some (.int a2), some (.int a3), some (.int a4), some (.int a5), some (.int a6), some (.int a7), some (.int a8)] [] (mm_H M) Q := by
  rw [md_isWord] at hf
  refine e_aload_n hm_179 rfl rfl ?_
  refine e_getZ hm_179 rfl rfl rfl ?_
  by_cases hc1 : (M.1 73 25) = (0 : Int32)
  · rw [if_pos hc1] at hf
    refine e_if_f hm_179 rfl (cf_ne hc1) ?_
    refine e_aload_n hm_179 rfl rfl ?_
    refine e_getI hm_179 rfl rfl rfl ?_
    refine e_iconst hm_179 rfl kc_iconst_1 ?_
    by_cases hc2 : (M.1 73 21) = (1 : Int32)
    · rw [if_pos hc2] at hf
      refine e_ic_f hm_179 rfl (cf_ne hc2) ?_
      refine e_aload_n hm_179 rfl rfl ?_
      refine e_getI hm_179 rfl rfl rfl ?_
      refine e_aload_n hm_179 rfl rfl ?_
      refine e_getI hm_179 rfl rfl rfl ?_
      refine e_bipush hm_179 rfl kc_bipush_8 ?_
      refine e_iadd hm_179 rfl ?_
      by_cases hc3 : ((M.1 73 22) + (8 : Int32)) < (M.1 73 20)
      · rw [if_pos hc3] at hf
        refine e_ic_t (t := 112) hm_179 rfl (ct_gt hc3) rfl ?_
        refine e_iconst hm_179 rfl kc_iconst_0 ?_
        cases hf
        exact e_zret hm_179 rfl rfl (by decide) hq
      · rw [if_neg hc3] at hf
        refine e_ic_f hm_179 rfl (cf_gt hc3) ?_
        refine e_aload_n hm_179 rfl rfl ?_
        refine e_iconst hm_179 rfl kc_iconst_0 ?_
        refine e_iload_n hm_179 rfl rfl ?_
        obtain ⟨y4, hky4, hf⟩ := mm_bd hf
        refine e_virt hm_179 rfl rfl rfl rfl (Nat.le_of_ble_eq_true rfl) hm_180 rfl rfl (c_180 (0 : Int32) a1 M hky4 ?_)
        show Ev Z _ 179 35 [some (.ref 73), some (.int a1), some (.int a2), some (.int a3), some (.int a4), some (.int a5), some (.int a6), some (.int a7), some (.int a8)] [.int y4.1] (mm_H y4.2) Q
        by_cases hc5 : y4.1 = (0 : Int32)
        · rw [if_pos hc5] at hf
          refine e_if_t (t := 112) hm_179 rfl (ct_eq hc5) rfl ?_
          refine e_iconst hm_179 rfl kc_iconst_0 ?_
          cases hf
          exact e_zret hm_179 rfl rfl (by decide) hq
        · rw [if_neg hc5] at hf
          refine e_if_f hm_179 rfl (cf_eq hc5) ?_
          refine e_aload_n hm_179 rfl rfl ?_
          refine e_iconst hm_179 rfl kc_iconst_1 ?_
          refine e_iload_n hm_179 rfl rfl ?_
          obtain ⟨y6, hky6, hf⟩ := mm_bd hf
          refine e_virt hm_179 rfl rfl rfl rfl (Nat.le_of_ble_eq_true rfl) hm_180 rfl rfl (c_180 (1 : Int32) a2 y4.2 hky6 ?_)
          show Ev Z _ 179 44 [some (.ref 73), some (.int a1), some (.int a2), some (.int a3), some (.int a4), some (.int a5), some (.int a6), some (.int a7), some (.int a8)] [.int y6.1] (mm_H y6.2) Q
          by_cases hc7 : y6.1 = (0 : Int32)
          · rw [if_pos hc7] at hf
            refine e_if_t (t := 112) hm_179 rfl (ct_eq hc7) rfl ?_
            refine e_iconst hm_179 rfl kc_iconst_0 ?_
            cases hf
            exact e_zret hm_179 rfl rfl (by decide) hq
          · rw [if_neg hc7] at hf
            refine e_if_f hm_179 rfl (cf_eq hc7) ?_
            refine e_aload_n hm_179 rfl rfl ?_
            refine e_iconst hm_179 rfl kc_iconst_2 ?_
            refine e_iload_n hm_179 rfl rfl ?_
            obtain ⟨y8, hky8, hf⟩ := mm_bd hf
            refine e_virt hm_179 rfl rfl rfl rfl (Nat.le_of_ble_eq_true rfl) hm_180 rfl rfl (c_180 (2 : Int32) a3 y6.2 hky8 ?_)
            show Ev Z _ 179 53 [some (.ref 73), some (.int a1), some (.int a2), some (.int a3), some (.int a4), some (.int a5), some (.int a6), some (.int a7), some (.int a8)] [.int y8.1] (mm_H y8.2) Q
            by_cases hc9 : y8.1 = (0 : Int32)
            · rw [if_pos hc9] at hf
              refine e_if_t (t := 112) hm_179 rfl (ct_eq hc9) rfl ?_
              refine e_iconst hm_179 rfl kc_iconst_0 ?_
              cases hf
              exact e_zret hm_179 rfl rfl (by decide) hq
            · rw [if_neg hc9] at hf
              refine e_if_f hm_179 rfl (cf_eq hc9) ?_
              refine e_aload_n hm_179 rfl rfl ?_
              refine e_iconst hm_179 rfl kc_iconst_3 ?_
              refine e_iload hm_179 rfl rfl ?_
              obtain ⟨y10, hky10, hf⟩ := mm_bd hf
              refine e_virt hm_179 rfl rfl rfl rfl (Nat.le_of_ble_eq_true rfl) hm_180 rfl rfl (c_180 (3 : Int32) a4 y8.2 hky10 ?_)
              show Ev Z _ 179 63 [some (.ref 73), some (.int a1), some (.int a2), some (.int a3), some (.int a4), some (.int a5), some (.int a6), some (.int a7), some (.int a8)] [.int y10.1] (mm_H y10.2) Q
              by_cases hc11 : y10.1 = (0 : Int32)
              · rw [if_pos hc11] at hf
                refine e_if_t (t := 112) hm_179 rfl (ct_eq hc11) rfl ?_
                refine e_iconst hm_179 rfl kc_iconst_0 ?_
                cases hf
                exact e_zret hm_179 rfl rfl (by decide) hq
              · rw [if_neg hc11] at hf
                refine e_if_f hm_179 rfl (cf_eq hc11) ?_
                refine e_aload_n hm_179 rfl rfl ?_
                refine e_iconst hm_179 rfl kc_iconst_4 ?_
                refine e_iload hm_179 rfl rfl ?_
                obtain ⟨y12, hky12, hf⟩ := mm_bd hf
                refine e_virt hm_179 rfl rfl rfl rfl (Nat.le_of_ble_eq_true rfl) hm_180 rfl rfl (c_180 (4 : Int32) a5 y10.2 hky12 ?_)
                show Ev Z _ 179 73 [some (.ref 73), some (.int a1), some (.int a2), some (.int a3), some (.int a4), some (.int a5), some (.int a6), some (.int a7), some (.int a8)] [.int y12.1] (mm_H y12.2) Q
                by_cases hc13 : y12.1 = (0 : Int32)
                · rw [if_pos hc13] at hf
                  refine e_if_t (t := 112) hm_179 rfl (ct_eq hc13) rfl ?_
                  refine e_iconst hm_179 rfl kc_iconst_0 ?_
                  cases hf
                  exact e_zret hm_179 rfl rfl (by decide) hq
                · rw [if_neg hc13] at hf
                  refine e_if_f hm_179 rfl (cf_eq hc13) ?_
                  refine e_aload_n hm_179 rfl rfl ?_
                  refine e_iconst hm_179 rfl kc_iconst_5 ?_
                  refine e_iload hm_179 rfl rfl ?_
                  obtain ⟨y14, hky14, hf⟩ := mm_bd hf
                  refine e_virt hm_179 rfl rfl rfl rfl (Nat.le_of_ble_eq_true rfl) hm_180 rfl rfl (c_180 (5 : Int32) a6 y12.2 hky14 ?_)
                  show Ev Z _ 179 83 [some (.ref 73), some (.int a1), some (.int a2), some (.int a3), some (.int a4), some (.int a5), some (.int a6), some (.int a7), some (.int a8)] [.int y14.1] (mm_H y14.2) Q
                  by_cases hc15 : y14.1 = (0 : Int32)
                  · rw [if_pos hc15] at hf
                    refine e_if_t (t := 112) hm_179 rfl (ct_eq hc15) rfl ?_
                    refine e_iconst hm_179 rfl kc_iconst_0 ?_
                    cases hf
                    exact e_zret hm_179 rfl rfl (by decide) hq
                  · rw [if_neg hc15] at hf
                    refine e_if_f hm_179 rfl (cf_eq hc15) ?_
                    refine e_aload_n hm_179 rfl rfl ?_
                    refine e_bipush hm_179 rfl kc_bipush_6 ?_
                    refine e_iload hm_179 rfl rfl ?_
                    obtain ⟨y16, hky16, hf⟩ := mm_bd hf
                    refine e_virt hm_179 rfl rfl rfl rfl (Nat.le_of_ble_eq_true rfl) hm_180 rfl rfl (c_180 (6 : Int32) a7 y14.2 hky16 ?_)
                    show Ev Z _ 179 94 [some (.ref 73), some (.int a1), some (.int a2), some (.int a3), some (.int a4), some (.int a5), some (.int a6), some (.int a7), some (.int a8)] [.int y16.1] (mm_H y16.2) Q
                    by_cases hc17 : y16.1 = (0 : Int32)
                    · rw [if_pos hc17] at hf
                      refine e_if_t (t := 112) hm_179 rfl (ct_eq hc17) rfl ?_
                      refine e_iconst hm_179 rfl kc_iconst_0 ?_
                      cases hf
                      exact e_zret hm_179 rfl rfl (by decide) hq
                    · rw [if_neg hc17] at hf
                      refine e_if_f hm_179 rfl (cf_eq hc17) ?_
                      refine e_aload_n hm_179 rfl rfl ?_
                      refine e_bipush hm_179 rfl kc_bipush_7 ?_
                      refine e_iload hm_179 rfl rfl ?_
                      obtain ⟨y18, hky18, hf⟩ := mm_bd hf
                      refine e_virt hm_179 rfl rfl rfl rfl (Nat.le_of_ble_eq_true rfl) hm_180 rfl rfl (c_180 (7 : Int32) a8 y16.2 hky18 ?_)
                      show Ev Z _ 179 105 [some (.ref 73), some (.int a1), some (.int a2), some (.int a3), some (.int a4), some (.int a5), some (.int a6), some (.int a7), some (.int a8)] [.int y18.1] (mm_H y18.2) Q
                      by_cases hc19 : y18.1 = (0 : Int32)
                      · rw [if_pos hc19] at hf
                        refine e_if_t (t := 112) hm_179 rfl (ct_eq hc19) rfl ?_
                        refine e_iconst hm_179 rfl kc_iconst_0 ?_
                        cases hf
                        exact e_zret hm_179 rfl rfl (by decide) hq
                      · rw [if_neg hc19] at hf
                        refine e_if_f hm_179 rfl (cf_eq hc19) ?_
                        refine e_iconst hm_179 rfl kc_iconst_1 ?_
                        refine e_goto (t := 113) hm_179 rfl rfl ?_
                        cases hf
                        exact e_zret hm_179 rfl rfl (by decide) hq
    · rw [if_neg hc2] at hf
      refine e_ic_t (t := 112) hm_179 rfl (ct_ne hc2) rfl ?_
      refine e_iconst hm_179 rfl kc_iconst_0 ?_
      cases hf
      exact e_zret hm_179 rfl rfl (by decide) hq
  · rw [if_neg hc1] at hf
    refine e_if_t (t := 112) hm_179 rfl (ct_ne hc1) rfl ?_
    refine e_iconst hm_179 rfl kc_iconst_0 ?_
    cases hf
    exact e_zret hm_179 rfl rfl (by decide) hq
def md_fail (M : mm_M) : Option (Unit × mm_M) :=
  if (M.1 73 25) = (0 : Int32) then
    some ((), (ak_up (ak_up M.1 73 25 (1 : Int32)) 73 26 ((ak_up M.1 73 25 (1 : Int32)) 73 22), M.2))
  else
    some ((), M)
set_option maxRecDepth 20000 in
set_option maxHeartbeats 4000000 in
theorem c_182 {Z : ak_Z} {d : Nat} (M : mm_M) {y : Unit × mm_M} (hf : md_fail M = some y) {Q : Option Value → ak_H → Prop} (hq : Q none (mm_H y.2)) : Ev Z (d + 0) 182 0 [some (.ref 73)] [] (mm_H M) Q := by
  rw [md_fail] at hf
  refine e_aload_n hm_182 rfl rfl ?_
  refine e_getZ hm_182 rfl rfl rfl ?_
  by_cases hc1 : (M.1 73 25) = (0 : Int32)
  · rw [if_pos hc1] at hf
    refine e_if_f hm_182 rfl (cf_ne hc1) ?_
    refine e_aload_n hm_182 rfl rfl ?_
    refine e_iconst hm_182 rfl kc_iconst_1 ?_
    refine e_putZ hm_182 rfl rfl rfl (by decide) ?_
    refine e_aload_n hm_182 rfl rfl ?_
    refine e_aload_n hm_182 rfl rfl ?_
    refine e_getI hm_182 rfl rfl rfl ?_
    refine e_putI hm_182 rfl rfl rfl ?_
    cases hf
    exact e_vret hm_182 rfl rfl hq
  · rw [if_neg hc1] at hf
    refine e_if_t (t := 20) hm_182 rfl (ct_ne hc1) rfl ?_
    cases hf
    exact e_vret hm_182 rfl rfl hq
def md_opens (M : mm_M) : Option (Int32 × mm_M) :=
  if (M.1 73 24) = (5 : Int32) then
    (md_fail M).bind fun y2 =>
    some ((0 : Int32), y2.2)
  else
    (md_next (ak_up M.1 73 24 ((M.1 73 24) + (1 : Int32)), M.2)).bind fun y3 =>
    some ((1 : Int32), y3.2)
set_option maxRecDepth 20000 in
set_option maxHeartbeats 4000000 in
theorem c_186 {Z : ak_Z} {d : Nat} (M : mm_M) {y : Int32 × mm_M} (hf : md_opens M = some y) {Q : Option Value → ak_H → Prop} (hq : Q (some (.int y.1)) (mm_H y.2)) : Ev Z (d + 2) 186 0 [some (.ref 73)] [] (mm_H M) Q := by
  rw [md_opens] at hf
  refine e_aload_n hm_186 rfl rfl ?_
  refine e_getI hm_186 rfl rfl rfl ?_
  refine e_iconst hm_186 rfl kc_iconst_5 ?_
  by_cases hc1 : (M.1 73 24) = (5 : Int32)
  · rw [if_pos hc1] at hf
    refine e_ic_f hm_186 rfl (cf_ne hc1) ?_
    refine e_aload_n hm_186 rfl rfl ?_
    obtain ⟨y2, hky2, hf⟩ := mm_bd hf
    refine e_virt hm_186 rfl rfl rfl rfl (Nat.le_of_ble_eq_true rfl) hm_182 rfl rfl (c_182 M hky2 ?_)
    show Ev Z _ 186 12 [some (.ref 73)] [] (mm_H y2.2) Q
    refine e_iconst hm_186 rfl kc_iconst_0 ?_
    cases hf
    exact e_zret hm_186 rfl rfl (by decide) hq
  · rw [if_neg hc1] at hf
    refine e_ic_t (t := 14) hm_186 rfl (ct_ne hc1) rfl ?_
    refine e_aload_n hm_186 rfl rfl ?_
    refine e_dupa hm_186 rfl ?_
    refine e_getI hm_186 rfl rfl rfl ?_
    refine e_iconst hm_186 rfl kc_iconst_1 ?_
    refine e_iadd hm_186 rfl ?_
    refine e_putI hm_186 rfl rfl rfl ?_
    refine e_aload_n hm_186 rfl rfl ?_
    obtain ⟨y3, hky3, hf⟩ := mm_bd hf
    refine e_virt hm_186 rfl rfl rfl rfl (Nat.le_of_ble_eq_true rfl) hm_177 rfl rfl (c_177 (ak_up M.1 73 24 ((M.1 73 24) + (1 : Int32)), M.2) hky3 ?_)
    show Ev Z _ 186 28 [some (.ref 73)] [] (mm_H y3.2) Q
    refine e_iconst hm_186 rfl kc_iconst_1 ?_
    cases hf
    exact e_zret hm_186 rfl rfl (by decide) hq
def md_isSign (a1 : Int32) (M : mm_M) : Option (Int32 × mm_M) :=
  if (M.1 73 25) = (0 : Int32) then
    if (M.1 73 21) = (3 : Int32) then
      if (lg_cmp M.2.2 a1.toInt64) = (0 : Int32) then
        some ((1 : Int32), M)
      else
        some ((0 : Int32), M)
    else
      some ((0 : Int32), M)
  else
    some ((0 : Int32), M)
set_option maxRecDepth 20000 in
set_option maxHeartbeats 4000000 in
theorem c_190 {Z : ak_Z} {d : Nat} (a1 : Int32) (M : mm_M) {y : Int32 × mm_M} (hf : md_isSign a1 M = some y) {Q : Option Value → ak_H → Prop} (hq : Q (some (.int y.1)) (mm_H y.2)) : Ev Z (d + 0) 190 0 [some (.ref 73), some (.int a1)] [] (mm_H M) Q := by
  rw [md_isSign] at hf
  refine e_aload_n hm_190 rfl rfl ?_
  refine e_getZ hm_190 rfl rfl rfl ?_
  by_cases hc1 : (M.1 73 25) = (0 : Int32)
  · rw [if_pos hc1] at hf
    refine e_if_f hm_190 rfl (cf_ne hc1) ?_
    refine e_aload_n hm_190 rfl rfl ?_
    refine e_getI hm_190 rfl rfl rfl ?_
    refine e_iconst hm_190 rfl kc_iconst_3 ?_
    by_cases hc2 : (M.1 73 21) = (3 : Int32)
    · rw [if_pos hc2] at hf
      refine e_ic_f hm_190 rfl (cf_ne hc2) ?_
      refine e_aload_n hm_190 rfl rfl ?_
      refine e_getJ hm_190 rfl ?_
      refine e_iload_n hm_190 rfl rfl ?_
      refine e_i2l hm_190 rfl ?_
      refine e_lcmp hm_190 rfl ?_
      by_cases hc3 : (lg_cmp M.2.2 a1.toInt64) = (0 : Int32)
      · rw [if_pos hc3] at hf
        refine e_if_f hm_190 rfl (cf_ne hc3) ?_
        refine e_iconst hm_190 rfl kc_iconst_1 ?_
        refine e_goto (t := 30) hm_190 rfl rfl ?_
        cases hf
        exact e_zret hm_190 rfl rfl (by decide) hq
      · rw [if_neg hc3] at hf
        refine e_if_t (t := 29) hm_190 rfl (ct_ne hc3) rfl ?_
        refine e_iconst hm_190 rfl kc_iconst_0 ?_
        cases hf
        exact e_zret hm_190 rfl rfl (by decide) hq
    · rw [if_neg hc2] at hf
      refine e_ic_t (t := 29) hm_190 rfl (ct_ne hc2) rfl ?_
      refine e_iconst hm_190 rfl kc_iconst_0 ?_
      cases hf
      exact e_zret hm_190 rfl rfl (by decide) hq
  · rw [if_neg hc1] at hf
    refine e_if_t (t := 29) hm_190 rfl (ct_ne hc1) rfl ?_
    refine e_iconst hm_190 rfl kc_iconst_0 ?_
    cases hf
    exact e_zret hm_190 rfl rfl (by decide) hq
def md_name (M : mm_M) : Option (Int32 × mm_M) :=
  (md_isWord (119 : Int32) (101 : Int32) (101 : Int32) (107 : Int32) (0 : Int32) (0 : Int32) (0 : Int32) (0 : Int32) M).bind fun y1 =>
  if y1.1 = (0 : Int32) then
    (md_isWord (119 : Int32) (105 : Int32) (115 : Int32) (104 : Int32) (101 : Int32) (100 : Int32) (0 : Int32) (0 : Int32) y1.2).bind fun y3 =>
    if y3.1 = (0 : Int32) then
      (md_isWord (110 : Int32) (117 : Int32) (109 : Int32) (98 : Int32) (101 : Int32) (114 : Int32) (0 : Int32) (0 : Int32) y3.2).bind fun y5 =>
      if y5.1 = (0 : Int32) then
        (md_isWord (108 : Int32) (101 : Int32) (110 : Int32) (103 : Int32) (116 : Int32) (104 : Int32) (0 : Int32) (0 : Int32) y5.2).bind fun y7 =>
        if y7.1 = (0 : Int32) then
          (md_isWord (112 : Int32) (111 : Int32) (105 : Int32) (110 : Int32) (116 : Int32) (115 : Int32) (0 : Int32) (0 : Int32) y7.2).bind fun y9 =>
          if y9.1 = (0 : Int32) then
            (md_isWord (97 : Int32) (119 : Int32) (97 : Int32) (121 : Int32) (0 : Int32) (0 : Int32) (0 : Int32) (0 : Int32) y9.2).bind fun y11 =>
            if y11.1 = (0 : Int32) then
              (md_fail y11.2).bind fun y13 =>
              some ((0 : Int32), y13.2)
            else
              some (y11.2.1 73 17, y11.2)
          else
            some (y9.2.1 73 16, y9.2)
        else
          some (y7.2.1 73 15, y7.2)
      else
        some (y5.2.1 73 14, y5.2)
    else
      some (y3.2.1 73 13, y3.2)
  else
    some (y1.2.1 73 12, y1.2)
set_option maxRecDepth 20000 in
set_option maxHeartbeats 4000000 in
theorem c_191 {Z : ak_Z} {d : Nat} (M : mm_M) {y : Int32 × mm_M} (hf : md_name M = some y) {Q : Option Value → ak_H → Prop} (hq : Q (some (.int y.1)) (mm_H y.2)) : Ev Z (d + 3) 191 0 [some (.ref 73)] [] (mm_H M) Q := by
  rw [md_name] at hf
  refine e_aload_n hm_191 rfl rfl ?_
  refine e_bipush hm_191 rfl kc_bipush_119 ?_
  refine e_bipush hm_191 rfl kc_bipush_101 ?_
  refine e_bipush hm_191 rfl kc_bipush_101 ?_
  refine e_bipush hm_191 rfl kc_bipush_107 ?_
  refine e_iconst hm_191 rfl kc_iconst_0 ?_
  refine e_iconst hm_191 rfl kc_iconst_0 ?_
  refine e_iconst hm_191 rfl kc_iconst_0 ?_
  refine e_iconst hm_191 rfl kc_iconst_0 ?_
  obtain ⟨y1, hky1, hf⟩ := mm_bd hf
  refine e_virt hm_191 rfl rfl rfl rfl (Nat.le_of_ble_eq_true rfl) hm_179 rfl rfl (c_179 (119 : Int32) (101 : Int32) (101 : Int32) (107 : Int32) (0 : Int32) (0 : Int32) (0 : Int32) (0 : Int32) M hky1 ?_)
  show Ev Z _ 191 16 [some (.ref 73)] [.int y1.1] (mm_H y1.2) Q
  by_cases hc2 : y1.1 = (0 : Int32)
  · rw [if_pos hc2] at hf
    refine e_if_t (t := 24) hm_191 rfl (ct_eq hc2) rfl ?_
    refine e_aload_n hm_191 rfl rfl ?_
    refine e_bipush hm_191 rfl kc_bipush_119 ?_
    refine e_bipush hm_191 rfl kc_bipush_105 ?_
    refine e_bipush hm_191 rfl kc_bipush_115 ?_
    refine e_bipush hm_191 rfl kc_bipush_104 ?_
    refine e_bipush hm_191 rfl kc_bipush_101 ?_
    refine e_bipush hm_191 rfl kc_bipush_100 ?_
    refine e_iconst hm_191 rfl kc_iconst_0 ?_
    refine e_iconst hm_191 rfl kc_iconst_0 ?_
    obtain ⟨y3, hky3, hf⟩ := mm_bd hf
    refine e_virt hm_191 rfl rfl rfl rfl (Nat.le_of_ble_eq_true rfl) hm_179 rfl rfl (c_179 (119 : Int32) (105 : Int32) (115 : Int32) (104 : Int32) (101 : Int32) (100 : Int32) (0 : Int32) (0 : Int32) y1.2 hky3 ?_)
    show Ev Z _ 191 42 [some (.ref 73)] [.int y3.1] (mm_H y3.2) Q
    by_cases hc4 : y3.1 = (0 : Int32)
    · rw [if_pos hc4] at hf
      refine e_if_t (t := 50) hm_191 rfl (ct_eq hc4) rfl ?_
      refine e_aload_n hm_191 rfl rfl ?_
      refine e_bipush hm_191 rfl kc_bipush_110 ?_
      refine e_bipush hm_191 rfl kc_bipush_117 ?_
      refine e_bipush hm_191 rfl kc_bipush_109 ?_
      refine e_bipush hm_191 rfl kc_bipush_98 ?_
      refine e_bipush hm_191 rfl kc_bipush_101 ?_
      refine e_bipush hm_191 rfl kc_bipush_114 ?_
      refine e_iconst hm_191 rfl kc_iconst_0 ?_
      refine e_iconst hm_191 rfl kc_iconst_0 ?_
      obtain ⟨y5, hky5, hf⟩ := mm_bd hf
      refine e_virt hm_191 rfl rfl rfl rfl (Nat.le_of_ble_eq_true rfl) hm_179 rfl rfl (c_179 (110 : Int32) (117 : Int32) (109 : Int32) (98 : Int32) (101 : Int32) (114 : Int32) (0 : Int32) (0 : Int32) y3.2 hky5 ?_)
      show Ev Z _ 191 68 [some (.ref 73)] [.int y5.1] (mm_H y5.2) Q
      by_cases hc6 : y5.1 = (0 : Int32)
      · rw [if_pos hc6] at hf
        refine e_if_t (t := 76) hm_191 rfl (ct_eq hc6) rfl ?_
        refine e_aload_n hm_191 rfl rfl ?_
        refine e_bipush hm_191 rfl kc_bipush_108 ?_
        refine e_bipush hm_191 rfl kc_bipush_101 ?_
        refine e_bipush hm_191 rfl kc_bipush_110 ?_
        refine e_bipush hm_191 rfl kc_bipush_103 ?_
        refine e_bipush hm_191 rfl kc_bipush_116 ?_
        refine e_bipush hm_191 rfl kc_bipush_104 ?_
        refine e_iconst hm_191 rfl kc_iconst_0 ?_
        refine e_iconst hm_191 rfl kc_iconst_0 ?_
        obtain ⟨y7, hky7, hf⟩ := mm_bd hf
        refine e_virt hm_191 rfl rfl rfl rfl (Nat.le_of_ble_eq_true rfl) hm_179 rfl rfl (c_179 (108 : Int32) (101 : Int32) (110 : Int32) (103 : Int32) (116 : Int32) (104 : Int32) (0 : Int32) (0 : Int32) y5.2 hky7 ?_)
        show Ev Z _ 191 94 [some (.ref 73)] [.int y7.1] (mm_H y7.2) Q
        by_cases hc8 : y7.1 = (0 : Int32)
        · rw [if_pos hc8] at hf
          refine e_if_t (t := 102) hm_191 rfl (ct_eq hc8) rfl ?_
          refine e_aload_n hm_191 rfl rfl ?_
          refine e_bipush hm_191 rfl kc_bipush_112 ?_
          refine e_bipush hm_191 rfl kc_bipush_111 ?_
          refine e_bipush hm_191 rfl kc_bipush_105 ?_
          refine e_bipush hm_191 rfl kc_bipush_110 ?_
          refine e_bipush hm_191 rfl kc_bipush_116 ?_
          refine e_bipush hm_191 rfl kc_bipush_115 ?_
          refine e_iconst hm_191 rfl kc_iconst_0 ?_
          refine e_iconst hm_191 rfl kc_iconst_0 ?_
          obtain ⟨y9, hky9, hf⟩ := mm_bd hf
          refine e_virt hm_191 rfl rfl rfl rfl (Nat.le_of_ble_eq_true rfl) hm_179 rfl rfl (c_179 (112 : Int32) (111 : Int32) (105 : Int32) (110 : Int32) (116 : Int32) (115 : Int32) (0 : Int32) (0 : Int32) y7.2 hky9 ?_)
          show Ev Z _ 191 120 [some (.ref 73)] [.int y9.1] (mm_H y9.2) Q
          by_cases hc10 : y9.1 = (0 : Int32)
          · rw [if_pos hc10] at hf
            refine e_if_t (t := 128) hm_191 rfl (ct_eq hc10) rfl ?_
            refine e_aload_n hm_191 rfl rfl ?_
            refine e_bipush hm_191 rfl kc_bipush_97 ?_
            refine e_bipush hm_191 rfl kc_bipush_119 ?_
            refine e_bipush hm_191 rfl kc_bipush_97 ?_
            refine e_bipush hm_191 rfl kc_bipush_121 ?_
            refine e_iconst hm_191 rfl kc_iconst_0 ?_
            refine e_iconst hm_191 rfl kc_iconst_0 ?_
            refine e_iconst hm_191 rfl kc_iconst_0 ?_
            refine e_iconst hm_191 rfl kc_iconst_0 ?_
            obtain ⟨y11, hky11, hf⟩ := mm_bd hf
            refine e_virt hm_191 rfl rfl rfl rfl (Nat.le_of_ble_eq_true rfl) hm_179 rfl rfl (c_179 (97 : Int32) (119 : Int32) (97 : Int32) (121 : Int32) (0 : Int32) (0 : Int32) (0 : Int32) (0 : Int32) y9.2 hky11 ?_)
            show Ev Z _ 191 144 [some (.ref 73)] [.int y11.1] (mm_H y11.2) Q
            by_cases hc12 : y11.1 = (0 : Int32)
            · rw [if_pos hc12] at hf
              refine e_if_t (t := 152) hm_191 rfl (ct_eq hc12) rfl ?_
              refine e_aload_n hm_191 rfl rfl ?_
              obtain ⟨y13, hky13, hf⟩ := mm_bd hf
              refine e_virt hm_191 rfl rfl rfl rfl (Nat.le_of_ble_eq_true rfl) hm_182 rfl rfl (c_182 y11.2 hky13 ?_)
              show Ev Z _ 191 156 [some (.ref 73)] [] (mm_H y13.2) Q
              refine e_iconst hm_191 rfl kc_iconst_0 ?_
              cases hf
              exact e_iret hm_191 rfl rfl hq
            · rw [if_neg hc12] at hf
              refine e_if_f hm_191 rfl (cf_eq hc12) ?_
              refine e_aload_n hm_191 rfl rfl ?_
              refine e_getI hm_191 rfl rfl rfl ?_
              cases hf
              exact e_iret hm_191 rfl rfl hq
          · rw [if_neg hc10] at hf
            refine e_if_f hm_191 rfl (cf_eq hc10) ?_
            refine e_aload_n hm_191 rfl rfl ?_
            refine e_getI hm_191 rfl rfl rfl ?_
            cases hf
            exact e_iret hm_191 rfl rfl hq
        · rw [if_neg hc8] at hf
          refine e_if_f hm_191 rfl (cf_eq hc8) ?_
          refine e_aload_n hm_191 rfl rfl ?_
          refine e_getI hm_191 rfl rfl rfl ?_
          cases hf
          exact e_iret hm_191 rfl rfl hq
      · rw [if_neg hc6] at hf
        refine e_if_f hm_191 rfl (cf_eq hc6) ?_
        refine e_aload_n hm_191 rfl rfl ?_
        refine e_getI hm_191 rfl rfl rfl ?_
        cases hf
        exact e_iret hm_191 rfl rfl hq
    · rw [if_neg hc4] at hf
      refine e_if_f hm_191 rfl (cf_eq hc4) ?_
      refine e_aload_n hm_191 rfl rfl ?_
      refine e_getI hm_191 rfl rfl rfl ?_
      cases hf
      exact e_iret hm_191 rfl rfl hq
  · rw [if_neg hc2] at hf
    refine e_if_f hm_191 rfl (cf_eq hc2) ?_
    refine e_aload_n hm_191 rfl rfl ?_
    refine e_getI hm_191 rfl rfl rfl ?_
    cases hf
    exact e_iret hm_191 rfl rfl hq
