/-! printed: the functions of the methods, and that the small machine does them -/
def pl_changeTwo_l25 : Nat → Int32 → Int32 → Int32 → Int32 → mm_M → Option (((Int32 × Int32) × mm_M))
  | 0, _, _, _, _, _ => none
  | n + 1, x1, x2, x3, x4, M =>
    if mm_is8 M.2.1 = true then
    if x4 < (M.1 M.2.1 4) then
      (pl_swap x3 x4 M).bind fun y3 =>
      (pl_all y3.2).bind fun y4 =>
      if x1 < y4.1 then
        (pl_holds y4.2).bind fun y6 =>
        if y6.1 = (0 : Int32) then
          (pl_swap x3 x4 y6.2).bind fun y8 =>
          pl_changeTwo_l25 n x1 x2 x3 (x4 + (1 : Int32)) y8.2
        else
          (pl_all y6.2).bind fun y9 =>
          (pl_swap x3 x4 y9.2).bind fun y10 =>
          pl_changeTwo_l25 n y9.1 (((10 : Int32) * x3) + x4) x3 (x4 + (1 : Int32)) y10.2
      else
        (pl_swap x3 x4 y4.2).bind fun y11 =>
        pl_changeTwo_l25 n x1 x2 x3 (x4 + (1 : Int32)) y11.2
    else
      some ((x1, x2), M) else none
set_option maxRecDepth 20000 in
set_option maxHeartbeats 4000000 in
theorem lc_128_25 {Z : ak_Z} {d : Nat} : ∀ (n : Nat) (x1 : Int32) (x2 : Int32) (x3 : Int32) (x4 : Int32) (M : mm_M) {y : ((Int32 × Int32) × mm_M)} (Q : Option Value → ak_H → Prop), pl_changeTwo_l25 n x1 x2 x3 x4 M = some y → (Ev Z (d + 4) 128 85 [some (.ref 55), some (.int y.1.1), some (.int y.1.2), some (.int x3), none] [] (mm_H y.2) Q) → Ev Z (d + 4) 128 25 [some (.ref 55), some (.int x1), some (.int x2), some (.int x3), some (.int x4)] [] (mm_H M) Q := by
  intro n
  induction n with
  | zero => intro x1 x2 x3 x4 M y Q hf; cases hf
  | succ n ih =>
    intro x1 x2 x3 x4 M y Q hf hq
    rw [pl_changeTwo_l25] at hf
    refine e_iload hm_128 rfl rfl ?_
    refine e_aload_n hm_128 rfl rfl ?_
    obtain ⟨hp1, hf⟩ := mm_ite hf
    refine e_getR hm_128 rfl rfl rfl rfl ?_
    refine e_getI hm_128 rfl (mm_cl8 hp1) rfl ?_
    by_cases hc2 : x4 < (M.1 M.2.1 4)
    · rw [if_pos hc2] at hf
      refine e_ic_f hm_128 rfl (cf_ge hc2) ?_
      refine e_aload_n hm_128 rfl rfl ?_
      refine e_iload_n hm_128 rfl rfl ?_
      refine e_iload hm_128 rfl rfl ?_
      obtain ⟨y3, hky3, hf⟩ := mm_bd hf
      refine e_virt hm_128 rfl rfl rfl rfl (Nat.le_of_ble_eq_true rfl) hm_129 rfl rfl (c_129 x3 x4 M hky3 ?_)
      show Ev Z _ 128 44 [some (.ref 55), some (.int x1), some (.int x2), some (.int x3), some (.int x4)] [] (mm_H y3.2) Q
      refine e_aload_n hm_128 rfl rfl ?_
      obtain ⟨y4, hky4, hf⟩ := mm_bd hf
      refine e_virt hm_128 rfl rfl rfl rfl (Nat.le_of_ble_eq_true rfl) hm_109 rfl rfl (c_109 y3.2 hky4 ?_)
      show Ev Z _ 128 48 [some (.ref 55), some (.int x1), some (.int x2), some (.int x3), some (.int x4)] [.int y4.1] (mm_H y4.2) Q
      refine e_iload_n hm_128 rfl rfl ?_
      by_cases hc5 : x1 < y4.1
      · rw [if_pos hc5] at hf
        refine e_ic_f hm_128 rfl (cf_le hc5) ?_
        refine e_aload_n hm_128 rfl rfl ?_
        obtain ⟨y6, hky6, hf⟩ := mm_bd hf
        refine e_virt hm_128 rfl rfl rfl rfl (Nat.le_of_ble_eq_true rfl) hm_107 rfl rfl (c_107 y4.2 hky6 ?_)
        show Ev Z _ 128 56 [some (.ref 55), some (.int x1), some (.int x2), some (.int x3), some (.int x4)] [.int y6.1] (mm_H y6.2) Q
        by_cases hc7 : y6.1 = (0 : Int32)
        · rw [if_pos hc7] at hf
          refine e_if_t (t := 72) hm_128 rfl (ct_eq hc7) rfl ?_
          refine e_aload_n hm_128 rfl rfl ?_
          refine e_iload_n hm_128 rfl rfl ?_
          refine e_iload hm_128 rfl rfl ?_
          obtain ⟨y8, hky8, hf⟩ := mm_bd hf
          refine e_virt hm_128 rfl rfl rfl rfl (Nat.le_of_ble_eq_true rfl) hm_129 rfl rfl (c_129 x3 x4 y6.2 hky8 ?_)
          show Ev Z _ 128 79 [some (.ref 55), some (.int x1), some (.int x2), some (.int x3), some (.int x4)] [] (mm_H y8.2) Q
          refine e_iinc (L2 := [some (.ref 55), some (.int x1), some (.int x2), some (.int x3), some (.int (x4 + (1 : Int32)))]) hm_128 rfl kc_iinc_1 rfl rfl ?_
          refine e_goto (t := 25) hm_128 rfl rfl ?_
          exact e_forget (L' := [some (.ref 55), some (.int x1), some (.int x2), some (.int x3), some (.int (x4 + (1 : Int32)))]) (lf_k (lf_k (lf_k (lf_k (lf_k lf_0))))) (ih x1 x2 x3 (x4 + (1 : Int32)) y8.2 Q hf hq)
        · rw [if_neg hc7] at hf
          refine e_if_f hm_128 rfl (cf_eq hc7) ?_
          refine e_aload_n hm_128 rfl rfl ?_
          obtain ⟨y9, hky9, hf⟩ := mm_bd hf
          refine e_virt hm_128 rfl rfl rfl rfl (Nat.le_of_ble_eq_true rfl) hm_109 rfl rfl (c_109 y6.2 hky9 ?_)
          show Ev Z _ 128 63 [some (.ref 55), some (.int x1), some (.int x2), some (.int x3), some (.int x4)] [.int y9.1] (mm_H y9.2) Q
          refine e_istore_n (L2 := [some (.ref 55), some (.int y9.1), some (.int x2), some (.int x3), some (.int x4)]) hm_128 rfl rfl ?_
          refine e_bipush hm_128 rfl kc_bipush_10 ?_
          refine e_iload_n hm_128 rfl rfl ?_
          refine e_imul hm_128 rfl ?_
          refine e_iload hm_128 rfl rfl ?_
          refine e_iadd hm_128 rfl ?_
          refine e_istore_n (L2 := [some (.ref 55), some (.int y9.1), some (.int (((10 : Int32) * x3) + x4)), some (.int x3), some (.int x4)]) hm_128 rfl rfl ?_
          refine e_aload_n hm_128 rfl rfl ?_
          refine e_iload_n hm_128 rfl rfl ?_
          refine e_iload hm_128 rfl rfl ?_
          obtain ⟨y10, hky10, hf⟩ := mm_bd hf
          refine e_virt hm_128 rfl rfl rfl rfl (Nat.le_of_ble_eq_true rfl) hm_129 rfl rfl (c_129 x3 x4 y9.2 hky10 ?_)
          show Ev Z _ 128 79 [some (.ref 55), some (.int y9.1), some (.int (((10 : Int32) * x3) + x4)), some (.int x3), some (.int x4)] [] (mm_H y10.2) Q
          refine e_iinc (L2 := [some (.ref 55), some (.int y9.1), some (.int (((10 : Int32) * x3) + x4)), some (.int x3), some (.int (x4 + (1 : Int32)))]) hm_128 rfl kc_iinc_1 rfl rfl ?_
          refine e_goto (t := 25) hm_128 rfl rfl ?_
          exact e_forget (L' := [some (.ref 55), some (.int y9.1), some (.int (((10 : Int32) * x3) + x4)), some (.int x3), some (.int (x4 + (1 : Int32)))]) (lf_k (lf_k (lf_k (lf_k (lf_k lf_0))))) (ih y9.1 (((10 : Int32) * x3) + x4) x3 (x4 + (1 : Int32)) y10.2 Q hf hq)
      · rw [if_neg hc5] at hf
        refine e_ic_t (t := 72) hm_128 rfl (ct_le hc5) rfl ?_
        refine e_aload_n hm_128 rfl rfl ?_
        refine e_iload_n hm_128 rfl rfl ?_
        refine e_iload hm_128 rfl rfl ?_
        obtain ⟨y11, hky11, hf⟩ := mm_bd hf
        refine e_virt hm_128 rfl rfl rfl rfl (Nat.le_of_ble_eq_true rfl) hm_129 rfl rfl (c_129 x3 x4 y4.2 hky11 ?_)
        show Ev Z _ 128 79 [some (.ref 55), some (.int x1), some (.int x2), some (.int x3), some (.int x4)] [] (mm_H y11.2) Q
        refine e_iinc (L2 := [some (.ref 55), some (.int x1), some (.int x2), some (.int x3), some (.int (x4 + (1 : Int32)))]) hm_128 rfl kc_iinc_1 rfl rfl ?_
        refine e_goto (t := 25) hm_128 rfl rfl ?_
        exact e_forget (L' := [some (.ref 55), some (.int x1), some (.int x2), some (.int x3), some (.int (x4 + (1 : Int32)))]) (lf_k (lf_k (lf_k (lf_k (lf_k lf_0))))) (ih x1 x2 x3 (x4 + (1 : Int32)) y11.2 Q hf hq)
    · rw [if_neg hc2] at hf
      refine e_ic_t (t := 85) hm_128 rfl (ct_ge hc2) rfl ?_
      obtain rfl := Option.some.inj hf
      exact e_forget (L' := [some (.ref 55), some (.int x1), some (.int x2), some (.int x3), none]) (lf_k (lf_k (lf_k (lf_k (lf_d lf_0))))) hq
def pl_changeTwo_l9 : Nat → Int32 → Int32 → Int32 → mm_M → Option (((Int32) × mm_M))
  | 0, _, _, _, _ => none
  | n + 1, x1, x2, x3, M =>
    if mm_is8 M.2.1 = true then
    if x3 < (M.1 M.2.1 4) then
      (pl_changeTwo_l25 300 x1 x2 x3 (x3 + (1 : Int32)) M).bind fun y3 =>
      pl_changeTwo_l9 n y3.1.1 y3.1.2 (x3 + (1 : Int32)) y3.2
    else
      some (x2, M) else none
set_option maxRecDepth 20000 in
set_option maxHeartbeats 4000000 in
theorem lc_128_9 {Z : ak_Z} {d : Nat} : ∀ (n : Nat) (x1 : Int32) (x2 : Int32) (x3 : Int32) (M : mm_M) {y : ((Int32) × mm_M)} (Q : Option Value → ak_H → Prop), pl_changeTwo_l9 n x1 x2 x3 M = some y → (Ev Z (d + 4) 128 91 [some (.ref 55), none, some (.int y.1), none, none] [] (mm_H y.2) Q) → Ev Z (d + 4) 128 9 [some (.ref 55), some (.int x1), some (.int x2), some (.int x3), none] [] (mm_H M) Q := by
  intro n
  induction n with
  | zero => intro x1 x2 x3 M y Q hf; cases hf
  | succ n ih =>
    intro x1 x2 x3 M y Q hf hq
    rw [pl_changeTwo_l9] at hf
    refine e_iload_n hm_128 rfl rfl ?_
    refine e_aload_n hm_128 rfl rfl ?_
    obtain ⟨hp1, hf⟩ := mm_ite hf
    refine e_getR hm_128 rfl rfl rfl rfl ?_
    refine e_getI hm_128 rfl (mm_cl8 hp1) rfl ?_
    by_cases hc2 : x3 < (M.1 M.2.1 4)
    · rw [if_pos hc2] at hf
      refine e_ic_f hm_128 rfl (cf_ge hc2) ?_
      refine e_iload_n hm_128 rfl rfl ?_
      refine e_iconst hm_128 rfl kc_iconst_1 ?_
      refine e_iadd hm_128 rfl ?_
      refine e_istore (L2 := [some (.ref 55), some (.int x1), some (.int x2), some (.int x3), some (.int (x3 + (1 : Int32)))]) hm_128 rfl rfl ?_
      obtain ⟨y3, hky3, hf⟩ := mm_bd hf
      refine e_forget (L' := [some (.ref 55), some (.int x1), some (.int x2), some (.int x3), some (.int (x3 + (1 : Int32)))]) (lf_k (lf_k (lf_k (lf_k (lf_k lf_0))))) (lc_128_25 (d := _) 300 x1 x2 x3 (x3 + (1 : Int32)) M Q hky3 ?_)
      show Ev Z _ 128 85 [some (.ref 55), some (.int y3.1.1), some (.int y3.1.2), some (.int x3), none] [] (mm_H y3.2) Q
      refine e_iinc (L2 := [some (.ref 55), some (.int y3.1.1), some (.int y3.1.2), some (.int (x3 + (1 : Int32))), none]) hm_128 rfl kc_iinc_1 rfl rfl ?_
      refine e_goto (t := 9) hm_128 rfl rfl ?_
      exact e_forget (L' := [some (.ref 55), some (.int y3.1.1), some (.int y3.1.2), some (.int (x3 + (1 : Int32))), none]) (lf_k (lf_k (lf_k (lf_k (lf_k lf_0))))) (ih y3.1.1 y3.1.2 (x3 + (1 : Int32)) y3.2 Q hf hq)
    · rw [if_neg hc2] at hf
      refine e_ic_t (t := 91) hm_128 rfl (ct_ge hc2) rfl ?_
      obtain rfl := Option.some.inj hf
      exact e_forget (L' := [some (.ref 55), none, some (.int x2), none, none]) (lf_k (lf_d (lf_k (lf_d (lf_k lf_0))))) hq
def pl_changeTwo (M : mm_M) : Option (Int32 × mm_M) :=
  (pl_all M).bind fun y1 =>
  (pl_changeTwo_l9 300 y1.1 (-1 : Int32) (0 : Int32) y1.2).bind fun y2 =>
  if y2.1 = (-1 : Int32) then
    some (y2.1, y2.2)
  else
    (pl_swap (y2.1 / (10 : Int32)) (y2.1 - y2.1 / (10 : Int32) * (10 : Int32)) y2.2).bind fun y4 =>
    some (y2.1, y4.2)
set_option maxRecDepth 20000 in
set_option maxHeartbeats 4000000 in
theorem c_128 {Z : ak_Z} {d : Nat} (M : mm_M) {y : Int32 × mm_M} (hf : pl_changeTwo M = some y) {Q : Option Value → ak_H → Prop} (hq : Q (some (.int y.1)) (mm_H y.2)) : Ev Z (d + 4) 128 0 [some (.ref 55), none, none, none, none] [] (mm_H M) Q := by
  rw [pl_changeTwo] at hf
  refine e_aload_n hm_128 rfl rfl ?_
  obtain ⟨y1, hky1, hf⟩ := mm_bd hf
  refine e_virt hm_128 rfl rfl rfl rfl (Nat.le_of_ble_eq_true rfl) hm_109 rfl rfl (c_109 M hky1 ?_)
  show Ev Z _ 128 4 [some (.ref 55), none, none, none, none] [.int y1.1] (mm_H y1.2) Q
  refine e_istore_n (L2 := [some (.ref 55), some (.int y1.1), none, none, none]) hm_128 rfl rfl ?_
  refine e_iconst hm_128 rfl kc_iconst_m1 ?_
  refine e_istore_n (L2 := [some (.ref 55), some (.int y1.1), some (.int (-1 : Int32)), none, none]) hm_128 rfl rfl ?_
  refine e_iconst hm_128 rfl kc_iconst_0 ?_
  refine e_istore_n (L2 := [some (.ref 55), some (.int y1.1), some (.int (-1 : Int32)), some (.int (0 : Int32)), none]) hm_128 rfl rfl ?_
  obtain ⟨y2, hky2, hf⟩ := mm_bd hf
  refine e_forget (L' := [some (.ref 55), some (.int y1.1), some (.int (-1 : Int32)), some (.int (0 : Int32)), none]) (lf_k (lf_k (lf_k (lf_k (lf_k lf_0))))) (lc_128_9 (d := _) 300 y1.1 (-1 : Int32) (0 : Int32) y1.2 Q hky2 ?_)
  show Ev Z _ 128 91 [some (.ref 55), none, some (.int y2.1), none, none] [] (mm_H y2.2) Q
  refine e_iload_n hm_128 rfl rfl ?_
  refine e_iconst hm_128 rfl kc_iconst_m1 ?_
  by_cases hc3 : y2.1 = (-1 : Int32)
  · rw [if_pos hc3] at hf
    refine e_ic_t (t := 108) hm_128 rfl (ct_eq hc3) rfl ?_
    refine e_iload_n hm_128 rfl rfl ?_
    obtain rfl := Option.some.inj hf
    exact e_iret hm_128 rfl rfl hq
  · rw [if_neg hc3] at hf
    refine e_ic_f hm_128 rfl (cf_eq hc3) ?_
    refine e_aload_n hm_128 rfl rfl ?_
    refine e_iload_n hm_128 rfl rfl ?_
    refine e_bipush hm_128 rfl kc_bipush_10 ?_
    refine e_idiv hm_128 rfl (by decide) ?_
    refine e_iload_n hm_128 rfl rfl ?_
    refine e_bipush hm_128 rfl kc_bipush_10 ?_
    refine e_irem hm_128 rfl (by decide) ?_
    obtain ⟨y4, hky4, hf⟩ := mm_bd hf
    refine e_virt hm_128 rfl rfl rfl rfl (Nat.le_of_ble_eq_true rfl) hm_129 rfl rfl (c_129 (y2.1 / (10 : Int32)) (y2.1 - y2.1 / (10 : Int32) * (10 : Int32)) y2.2 hky4 ?_)
    show Ev Z _ 128 108 [some (.ref 55), none, some (.int y2.1), none, none] [] (mm_H y4.2) Q
    refine e_iload_n hm_128 rfl rfl ?_
    obtain rfl := Option.some.inj hf
    exact e_iret hm_128 rfl rfl hq
def nb_change (a1 : Int32) (M : mm_M) : Option (Int32 × mm_M) :=
  if a1 < (0 : Int32) then
    some ((-100000 : Int32), M)
  else
    if (1 : Int32) < a1 then
      some ((-100000 : Int32), M)
    else
      (pl_look 1 M).bind fun y3 =>
      (pl_changeTwo y3.2).bind fun y4 =>
      if a1 = (0 : Int32) then
        some (y4.1, y4.2)
      else
        (pl_all y4.2).bind fun y6 =>
        some (y6.1, y6.2)
set_option maxRecDepth 20000 in
set_option maxHeartbeats 4000000 in
theorem c_127 {Z : ak_Z} {d : Nat} (a1 : Int32) (M : mm_M) {y : Int32 × mm_M} (hf : nb_change a1 M = some y) {Q : Option Value → ak_H → Prop} (hq : Q (some (.int y.1)) (mm_H y.2)) : Ev Z (d + 6) 127 0 [some (.ref 0), some (.int a1), none] [] (mm_H M) Q := by
  rw [nb_change] at hf
  refine e_iload_n hm_127 rfl rfl ?_
  by_cases hc1 : a1 < (0 : Int32)
  · rw [if_pos hc1] at hf
    refine e_if_t (t := 9) hm_127 rfl (ct_lt hc1) rfl ?_
    refine e_ldc hm_127 rfl kc_ldc_m100000 ?_
    obtain rfl := Option.some.inj hf
    exact e_iret hm_127 rfl rfl hq
  · rw [if_neg hc1] at hf
    refine e_if_f hm_127 rfl (cf_lt hc1) ?_
    refine e_iload_n hm_127 rfl rfl ?_
    refine e_iconst hm_127 rfl kc_iconst_1 ?_
    by_cases hc2 : (1 : Int32) < a1
    · rw [if_pos hc2] at hf
      refine e_ic_f hm_127 rfl (cf_le hc2) ?_
      refine e_ldc hm_127 rfl kc_ldc_m100000 ?_
      obtain rfl := Option.some.inj hf
      exact e_iret hm_127 rfl rfl hq
    · rw [if_neg hc2] at hf
      refine e_ic_t (t := 12) hm_127 rfl (ct_le hc2) rfl ?_
      refine e_aload_n hm_127 rfl rfl ?_
      refine e_getR hm_127 rfl rfl rfl rfl ?_
      refine e_aload_n hm_127 rfl rfl ?_
      refine e_getR hm_127 rfl rfl rfl rfl ?_
      obtain ⟨y3, hky3, hf⟩ := mm_bd hf
      refine e_virt hm_127 rfl rfl rfl rfl (Nat.le_of_ble_eq_true rfl) hm_99 rfl rfl (c_99 1 M rfl hky3 ?_)
      show Ev Z _ 127 23 [some (.ref 0), some (.int a1), none] [] (mm_H y3.2) Q
      refine e_aload_n hm_127 rfl rfl ?_
      refine e_getR hm_127 rfl rfl rfl rfl ?_
      obtain ⟨y4, hky4, hf⟩ := mm_bd hf
      refine e_virt hm_127 rfl rfl rfl rfl (Nat.le_of_ble_eq_true rfl) hm_128 rfl rfl (c_128 y3.2 hky4 ?_)
      show Ev Z _ 127 30 [some (.ref 0), some (.int a1), none] [.int y4.1] (mm_H y4.2) Q
      refine e_istore_n (L2 := [some (.ref 0), some (.int a1), some (.int y4.1)]) hm_127 rfl rfl ?_
      refine e_iload_n hm_127 rfl rfl ?_
      by_cases hc5 : a1 = (0 : Int32)
      · rw [if_pos hc5] at hf
        refine e_if_f hm_127 rfl (cf_ne hc5) ?_
        refine e_iload_n hm_127 rfl rfl ?_
        refine e_goto (t := 46) hm_127 rfl rfl ?_
        obtain rfl := Option.some.inj hf
        exact e_iret hm_127 rfl rfl hq
      · rw [if_neg hc5] at hf
        refine e_if_t (t := 39) hm_127 rfl (ct_ne hc5) rfl ?_
        refine e_aload_n hm_127 rfl rfl ?_
        refine e_getR hm_127 rfl rfl rfl rfl ?_
        obtain ⟨y6, hky6, hf⟩ := mm_bd hf
        refine e_virt hm_127 rfl rfl rfl rfl (Nat.le_of_ble_eq_true rfl) hm_109 rfl rfl (c_109 y4.2 hky6 ?_)
        show Ev Z _ 127 46 [some (.ref 0), some (.int a1), some (.int y4.1)] [.int y6.1] (mm_H y6.2) Q
        obtain rfl := Option.some.inj hf
        exact e_iret hm_127 rfl rfl hq
def pl_holdsWithout (a1 : Int32) (M : mm_M) : Option (Int32 × mm_M) :=
  if ak_inb a1 4 = true then
  if ak_inb a1 4 = true then
  (pl_holds (ak_up M.1 61 a1.toNatClampNeg (0 : Int32), M.2)).bind fun y3 =>
  if ak_inb a1 4 = true then
  if y3.1 = 0 ∨ y3.1 = 1 then some (y3.1, (ak_up y3.2.1 61 a1.toNatClampNeg (M.1 61 a1.toNatClampNeg), y3.2.2)) else none else none else none else none
set_option maxRecDepth 20000 in
set_option maxHeartbeats 4000000 in
theorem c_132 {Z : ak_Z} {d : Nat} (a1 : Int32) (M : mm_M) {y : Int32 × mm_M} (hf : pl_holdsWithout a1 M = some y) {Q : Option Value → ak_H → Prop} (hq : Q (some (.int y.1)) (mm_H y.2)) : Ev Z (d + 4) 132 0 [some (.ref 55), some (.int a1), none, none] [] (mm_H M) Q := by
  rw [pl_holdsWithout] at hf
  refine e_aload_n hm_132 rfl rfl ?_
  refine e_getR hm_132 rfl rfl rfl rfl ?_
  refine e_iload_n hm_132 rfl rfl ?_
  obtain ⟨hi1, hf⟩ := mm_ite hf
  refine e_iald hm_132 rfl rfl hi1 ?_
  refine e_istore_n (L2 := [some (.ref 55), some (.int a1), some (.int (M.1 61 a1.toNatClampNeg)), none]) hm_132 rfl rfl ?_
  refine e_aload_n hm_132 rfl rfl ?_
  refine e_getR hm_132 rfl rfl rfl rfl ?_
  refine e_iload_n hm_132 rfl rfl ?_
  refine e_iconst hm_132 rfl kc_iconst_0 ?_
  obtain ⟨hi2, hf⟩ := mm_ite hf
  refine e_iast hm_132 rfl rfl hi2 ?_
  refine e_aload_n hm_132 rfl rfl ?_
  obtain ⟨y3, hky3, hf⟩ := mm_bd hf
  refine e_virt hm_132 rfl rfl rfl rfl (Nat.le_of_ble_eq_true rfl) hm_107 rfl rfl (c_107 (ak_up M.1 61 a1.toNatClampNeg (0 : Int32), M.2) hky3 ?_)
  show Ev Z _ 132 18 [some (.ref 55), some (.int a1), some (.int (M.1 61 a1.toNatClampNeg)), none] [.int y3.1] (mm_H y3.2) Q
  refine e_istore_n (L2 := [some (.ref 55), some (.int a1), some (.int (M.1 61 a1.toNatClampNeg)), some (.int y3.1)]) hm_132 rfl rfl ?_
  refine e_aload_n hm_132 rfl rfl ?_
  refine e_getR hm_132 rfl rfl rfl rfl ?_
  refine e_iload_n hm_132 rfl rfl ?_
  refine e_iload_n hm_132 rfl rfl ?_
  obtain ⟨hi4, hf⟩ := mm_ite hf
  refine e_iast hm_132 rfl rfl hi4 ?_
  refine e_iload_n hm_132 rfl rfl ?_
  obtain ⟨hb5, hf⟩ := mm_ite hf
  obtain rfl := Option.some.inj hf
  exact e_zret hm_132 rfl rfl hb5 hq
def pl_barring_l40 : Nat → Int32 → Int32 → mm_M → Option ((Int32 × mm_M) ⊕ ((Unit) × mm_M))
  | 0, _, _, _ => none
  | n + 1, x1, x3, M =>
    if mm_is8 M.2.1 = true then
    if x3 < (M.1 M.2.1 4) then
      if x3 = x1 then
        pl_barring_l40 n x1 (x3 + (1 : Int32)) M
      else
        if ak_inb x3 4 = true then
        if (M.1 61 x3.toNatClampNeg) = (0 : Int32) then
          pl_barring_l40 n x1 (x3 + (1 : Int32)) M
        else
          (pl_holdsWithout x3 M).bind fun y6 =>
          if y6.1 = (0 : Int32) then
            pl_barring_l40 n x1 (x3 + (1 : Int32)) y6.2
          else
            some (.inl (x3, y6.2)) else none
    else
      some (.inr ((), M)) else none
set_option maxRecDepth 20000 in
set_option maxHeartbeats 4000000 in
theorem lc_131_40 {Z : ak_Z} {d : Nat} : ∀ (n : Nat) (x1 : Int32) (x3 : Int32) (M : mm_M) {y : (Int32 × mm_M) ⊕ ((Unit) × mm_M)} (Q : Option Value → ak_H → Prop), pl_barring_l40 n x1 x3 M = some y → (match y with | .inl yr => Q (some (.int yr.1)) (mm_H yr.2) | .inr yv => Ev Z (d + 5) 131 81 [none, none, none, none] [] (mm_H yv.2) Q) → Ev Z (d + 5) 131 40 [some (.ref 55), some (.int x1), none, some (.int x3)] [] (mm_H M) Q := by
  intro n
  induction n with
  | zero => intro x1 x3 M y Q hf; cases hf
  | succ n ih =>
    intro x1 x3 M y Q hf hq
    rw [pl_barring_l40] at hf
    refine e_iload_n hm_131 rfl rfl ?_
    refine e_aload_n hm_131 rfl rfl ?_
    obtain ⟨hp1, hf⟩ := mm_ite hf
    refine e_getR hm_131 rfl rfl rfl rfl ?_
    refine e_getI hm_131 rfl (mm_cl8 hp1) rfl ?_
    by_cases hc2 : x3 < (M.1 M.2.1 4)
    · rw [if_pos hc2] at hf
      refine e_ic_f hm_131 rfl (cf_ge hc2) ?_
      refine e_iload_n hm_131 rfl rfl ?_
      refine e_iload_n hm_131 rfl rfl ?_
      by_cases hc3 : x3 = x1
      · rw [if_pos hc3] at hf
        refine e_ic_t (t := 75) hm_131 rfl (ct_eq hc3) rfl ?_
        refine e_iinc (L2 := [some (.ref 55), some (.int x1), none, some (.int (x3 + (1 : Int32)))]) hm_131 rfl kc_iinc_1 rfl rfl ?_
        refine e_goto (t := 40) hm_131 rfl rfl ?_
        exact e_forget (L' := [some (.ref 55), some (.int x1), none, some (.int (x3 + (1 : Int32)))]) (lf_k (lf_k (lf_k (lf_k lf_0)))) (ih x1 (x3 + (1 : Int32)) M Q hf hq)
      · rw [if_neg hc3] at hf
        refine e_ic_f hm_131 rfl (cf_eq hc3) ?_
        refine e_aload_n hm_131 rfl rfl ?_
        refine e_getR hm_131 rfl rfl rfl rfl ?_
        refine e_iload_n hm_131 rfl rfl ?_
        obtain ⟨hi4, hf⟩ := mm_ite hf
        refine e_iald hm_131 rfl rfl hi4 ?_
        by_cases hc5 : (M.1 61 x3.toNatClampNeg) = (0 : Int32)
        · rw [if_pos hc5] at hf
          refine e_if_t (t := 75) hm_131 rfl (ct_eq hc5) rfl ?_
          refine e_iinc (L2 := [some (.ref 55), some (.int x1), none, some (.int (x3 + (1 : Int32)))]) hm_131 rfl kc_iinc_1 rfl rfl ?_
          refine e_goto (t := 40) hm_131 rfl rfl ?_
          exact e_forget (L' := [some (.ref 55), some (.int x1), none, some (.int (x3 + (1 : Int32)))]) (lf_k (lf_k (lf_k (lf_k lf_0)))) (ih x1 (x3 + (1 : Int32)) M Q hf hq)
        · rw [if_neg hc5] at hf
          refine e_if_f hm_131 rfl (cf_eq hc5) ?_
          refine e_aload_n hm_131 rfl rfl ?_
          refine e_iload_n hm_131 rfl rfl ?_
          obtain ⟨y6, hky6, hf⟩ := mm_bd hf
          refine e_virt hm_131 rfl rfl rfl rfl (Nat.le_of_ble_eq_true rfl) hm_132 rfl rfl (c_132 x3 M hky6 ?_)
          show Ev Z _ 131 70 [some (.ref 55), some (.int x1), none, some (.int x3)] [.int y6.1] (mm_H y6.2) Q
          by_cases hc7 : y6.1 = (0 : Int32)
          · rw [if_pos hc7] at hf
            refine e_if_t (t := 75) hm_131 rfl (ct_eq hc7) rfl ?_
            refine e_iinc (L2 := [some (.ref 55), some (.int x1), none, some (.int (x3 + (1 : Int32)))]) hm_131 rfl kc_iinc_1 rfl rfl ?_
            refine e_goto (t := 40) hm_131 rfl rfl ?_
            exact e_forget (L' := [some (.ref 55), some (.int x1), none, some (.int (x3 + (1 : Int32)))]) (lf_k (lf_k (lf_k (lf_k lf_0)))) (ih x1 (x3 + (1 : Int32)) y6.2 Q hf hq)
          · rw [if_neg hc7] at hf
            refine e_if_f hm_131 rfl (cf_eq hc7) ?_
            refine e_iload_n hm_131 rfl rfl ?_
            obtain rfl := Option.some.inj hf
            exact e_iret hm_131 rfl rfl hq
    · rw [if_neg hc2] at hf
      refine e_ic_t (t := 81) hm_131 rfl (ct_ge hc2) rfl ?_
      obtain rfl := Option.some.inj hf
      exact e_forget (L' := [none, none, none, none]) (lf_d (lf_d (lf_k (lf_d lf_0)))) hq
def pl_barring (a1 : Int32) (a2 : Int32) (M : mm_M) : Option (Int32 × mm_M) :=
  if mm_is8 M.2.1 = true then
  (sh_isOne M.2.1 a1 M).bind fun y2 =>
  if y2.1 = (0 : Int32) then
    some ((-1 : Int32), y2.2)
  else
    (nb_isWeek a2 y2.2).bind fun y4 =>
    if y4.1 = (0 : Int32) then
      some ((-1 : Int32), y4.2)
    else
      if ak_inb a1 4 = true then
      (pl_holds (ak_up y4.2.1 61 a1.toNatClampNeg (a2 + (1 : Int32)), y4.2.2)).bind fun y7 =>
      if y7.1 = (0 : Int32) then
        (pl_barring_l40 300 a1 (0 : Int32) y7.2).bind fun y9 => match y9 with
        | .inl y9r => some y9r
        | .inr y9v => some ((-1 : Int32), y9v.2)
      else
        some ((-1 : Int32), y7.2) else none else none
set_option maxRecDepth 20000 in
set_option maxHeartbeats 4000000 in
theorem c_131 {Z : ak_Z} {d : Nat} (a1 : Int32) (a2 : Int32) (M : mm_M) {y : Int32 × mm_M} (hf : pl_barring a1 a2 M = some y) {Q : Option Value → ak_H → Prop} (hq : Q (some (.int y.1)) (mm_H y.2)) : Ev Z (d + 5) 131 0 [some (.ref 55), some (.int a1), some (.int a2), none] [] (mm_H M) Q := by
  rw [pl_barring] at hf
  refine e_aload_n hm_131 rfl rfl ?_
  obtain ⟨hp1, hf⟩ := mm_ite hf
  refine e_getR hm_131 rfl rfl rfl rfl ?_
  refine e_iload_n hm_131 rfl rfl ?_
  obtain ⟨y2, hky2, hf⟩ := mm_bd hf
  refine e_virt hm_131 rfl rfl rfl (mm_cl8 hp1) (Nat.le_of_ble_eq_true rfl) hm_16 rfl rfl (c_16 M.2.1 a1 M hp1 hky2 ?_)
  show Ev Z _ 131 8 [some (.ref 55), some (.int a1), some (.int a2), none] [.int y2.1] (mm_H y2.2) Q
  by_cases hc3 : y2.1 = (0 : Int32)
  · rw [if_pos hc3] at hf
    refine e_if_t (t := 18) hm_131 rfl (ct_eq hc3) rfl ?_
    refine e_iconst hm_131 rfl kc_iconst_m1 ?_
    obtain rfl := Option.some.inj hf
    exact e_iret hm_131 rfl rfl hq
  · rw [if_neg hc3] at hf
    refine e_if_f hm_131 rfl (cf_eq hc3) ?_
    refine e_iload_n hm_131 rfl rfl ?_
    obtain ⟨y4, hky4, hf⟩ := mm_bd hf
    refine e_stat hm_131 rfl (by decide) rfl rfl (Nat.le_of_ble_eq_true rfl) hm_26 rfl rfl (c_26 a2 y2.2 hky4 ?_)
    show Ev Z _ 131 15 [some (.ref 55), some (.int a1), some (.int a2), none] [.int y4.1] (mm_H y4.2) Q
    by_cases hc5 : y4.1 = (0 : Int32)
    · rw [if_pos hc5] at hf
      refine e_if_f hm_131 rfl (cf_ne hc5) ?_
      refine e_iconst hm_131 rfl kc_iconst_m1 ?_
      obtain rfl := Option.some.inj hf
      exact e_iret hm_131 rfl rfl hq
    · rw [if_neg hc5] at hf
      refine e_if_t (t := 20) hm_131 rfl (ct_ne hc5) rfl ?_
      refine e_aload_n hm_131 rfl rfl ?_
      refine e_getR hm_131 rfl rfl rfl rfl ?_
      refine e_iload_n hm_131 rfl rfl ?_
      refine e_iload_n hm_131 rfl rfl ?_
      refine e_iconst hm_131 rfl kc_iconst_1 ?_
      refine e_iadd hm_131 rfl ?_
      obtain ⟨hi6, hf⟩ := mm_ite hf
      refine e_iast hm_131 rfl rfl hi6 ?_
      refine e_aload_n hm_131 rfl rfl ?_
      obtain ⟨y7, hky7, hf⟩ := mm_bd hf
      refine e_virt hm_131 rfl rfl rfl rfl (Nat.le_of_ble_eq_true rfl) hm_107 rfl rfl (c_107 (ak_up y4.2.1 61 a1.toNatClampNeg (a2 + (1 : Int32)), y4.2.2) hky7 ?_)
      show Ev Z _ 131 33 [some (.ref 55), some (.int a1), some (.int a2), none] [.int y7.1] (mm_H y7.2) Q
      by_cases hc8 : y7.1 = (0 : Int32)
      · rw [if_pos hc8] at hf
        refine e_if_t (t := 38) hm_131 rfl (ct_eq hc8) rfl ?_
        refine e_iconst hm_131 rfl kc_iconst_0 ?_
        refine e_istore_n (L2 := [some (.ref 55), some (.int a1), some (.int a2), some (.int (0 : Int32))]) hm_131 rfl rfl ?_
        obtain ⟨y9, hky9, hf⟩ := mm_bd hf
        refine e_forget (L' := [some (.ref 55), some (.int a1), none, some (.int (0 : Int32))]) (lf_k (lf_k (lf_d (lf_k lf_0)))) (lc_131_40 (d := _) 300 a1 (0 : Int32) y7.2 Q hky9 ?_)
        rcases y9 with y9r | y9v
        · obtain rfl := Option.some.inj hf
          exact hq
        · show Ev Z _ 131 81 [none, none, none, none] [] (mm_H y9v.2) Q
          refine e_iconst hm_131 rfl kc_iconst_m1 ?_
          obtain rfl := Option.some.inj hf
          exact e_iret hm_131 rfl rfl hq
      · rw [if_neg hc8] at hf
        refine e_if_f hm_131 rfl (cf_eq hc8) ?_
        refine e_iconst hm_131 rfl kc_iconst_m1 ?_
        obtain rfl := Option.some.inj hf
        exact e_iret hm_131 rfl rfl hq
def nb_bars (a1 : Int32) (a2 : Int32) (M : mm_M) : Option (Int32 × mm_M) :=
  (sh_isOne 1 a1 M).bind fun y1 =>
  if y1.1 = (0 : Int32) then
    some ((-2 : Int32), y1.2)
  else
    (nb_isWeek a2 y1.2).bind fun y3 =>
    if y3.1 = (0 : Int32) then
      some ((-2 : Int32), y3.2)
    else
      (pl_look 1 y3.2).bind fun y5 =>
      (pl_barring a1 a2 y5.2).bind fun y6 =>
      some (y6.1, y6.2)
set_option maxRecDepth 20000 in
set_option maxHeartbeats 4000000 in
theorem c_130 {Z : ak_Z} {d : Nat} (a1 : Int32) (a2 : Int32) (M : mm_M) {y : Int32 × mm_M} (hf : nb_bars a1 a2 M = some y) {Q : Option Value → ak_H → Prop} (hq : Q (some (.int y.1)) (mm_H y.2)) : Ev Z (d + 6) 130 0 [some (.ref 0), some (.int a1), some (.int a2)] [] (mm_H M) Q := by
  rw [nb_bars] at hf
  refine e_aload_n hm_130 rfl rfl ?_
  refine e_getR hm_130 rfl rfl rfl rfl ?_
  refine e_iload_n hm_130 rfl rfl ?_
  obtain ⟨y1, hky1, hf⟩ := mm_bd hf
  refine e_virt hm_130 rfl rfl rfl rfl (Nat.le_of_ble_eq_true rfl) hm_16 rfl rfl (c_16 1 a1 M rfl hky1 ?_)
  show Ev Z _ 130 8 [some (.ref 0), some (.int a1), some (.int a2)] [.int y1.1] (mm_H y1.2) Q
  by_cases hc2 : y1.1 = (0 : Int32)
  · rw [if_pos hc2] at hf
    refine e_if_t (t := 18) hm_130 rfl (ct_eq hc2) rfl ?_
    refine e_bipush hm_130 rfl kc_bipush_m2 ?_
    obtain rfl := Option.some.inj hf
    exact e_iret hm_130 rfl rfl hq
  · rw [if_neg hc2] at hf
    refine e_if_f hm_130 rfl (cf_eq hc2) ?_
    refine e_iload_n hm_130 rfl rfl ?_
    obtain ⟨y3, hky3, hf⟩ := mm_bd hf
    refine e_stat hm_130 rfl (by decide) rfl rfl (Nat.le_of_ble_eq_true rfl) hm_26 rfl rfl (c_26 a2 y1.2 hky3 ?_)
    show Ev Z _ 130 15 [some (.ref 0), some (.int a1), some (.int a2)] [.int y3.1] (mm_H y3.2) Q
    by_cases hc4 : y3.1 = (0 : Int32)
    · rw [if_pos hc4] at hf
      refine e_if_f hm_130 rfl (cf_ne hc4) ?_
      refine e_bipush hm_130 rfl kc_bipush_m2 ?_
      obtain rfl := Option.some.inj hf
      exact e_iret hm_130 rfl rfl hq
    · rw [if_neg hc4] at hf
      refine e_if_t (t := 21) hm_130 rfl (ct_ne hc4) rfl ?_
      refine e_aload_n hm_130 rfl rfl ?_
      refine e_getR hm_130 rfl rfl rfl rfl ?_
      refine e_aload_n hm_130 rfl rfl ?_
      refine e_getR hm_130 rfl rfl rfl rfl ?_
      obtain ⟨y5, hky5, hf⟩ := mm_bd hf
      refine e_virt hm_130 rfl rfl rfl rfl (Nat.le_of_ble_eq_true rfl) hm_99 rfl rfl (c_99 1 y3.2 rfl hky5 ?_)
      show Ev Z _ 130 32 [some (.ref 0), some (.int a1), some (.int a2)] [] (mm_H y5.2) Q
      refine e_aload_n hm_130 rfl rfl ?_
      refine e_getR hm_130 rfl rfl rfl rfl ?_
      refine e_iload_n hm_130 rfl rfl ?_
      refine e_iload_n hm_130 rfl rfl ?_
      obtain ⟨y6, hky6, hf⟩ := mm_bd hf
      refine e_virt hm_130 rfl rfl rfl rfl (Nat.le_of_ble_eq_true rfl) hm_131 rfl rfl (c_131 a1 a2 y5.2 hky6 ?_)
      show Ev Z _ 130 41 [some (.ref 0), some (.int a1), some (.int a2)] [.int y6.1] (mm_H y6.2) Q
      obtain rfl := Option.some.inj hf
      exact e_iret hm_130 rfl rfl hq
def pl_blockOf (a1 : Int32) (M : mm_M) : Option (Int32 × mm_M) :=
  if mm_is8 M.2.1 = true then
  (sh_isOne M.2.1 a1 M).bind fun y2 =>
  if y2.1 = (0 : Int32) then
    some ((-1 : Int32), y2.2)
  else
    if ak_inb a1 4 = true then
    some ((y2.2.1 61 a1.toNatClampNeg) - (1 : Int32), y2.2) else none else none
set_option maxRecDepth 20000 in
set_option maxHeartbeats 4000000 in
theorem c_134 {Z : ak_Z} {d : Nat} (a1 : Int32) (M : mm_M) {y : Int32 × mm_M} (hf : pl_blockOf a1 M = some y) {Q : Option Value → ak_H → Prop} (hq : Q (some (.int y.1)) (mm_H y.2)) : Ev Z (d + 1) 134 0 [some (.ref 55), some (.int a1)] [] (mm_H M) Q := by
  rw [pl_blockOf] at hf
  refine e_aload_n hm_134 rfl rfl ?_
  obtain ⟨hp1, hf⟩ := mm_ite hf
  refine e_getR hm_134 rfl rfl rfl rfl ?_
  refine e_iload_n hm_134 rfl rfl ?_
  obtain ⟨y2, hky2, hf⟩ := mm_bd hf
  refine e_virt hm_134 rfl rfl rfl (mm_cl8 hp1) (Nat.le_of_ble_eq_true rfl) hm_16 rfl rfl (c_16 M.2.1 a1 M hp1 hky2 ?_)
  show Ev Z _ 134 8 [some (.ref 55), some (.int a1)] [.int y2.1] (mm_H y2.2) Q
  by_cases hc3 : y2.1 = (0 : Int32)
  · rw [if_pos hc3] at hf
    refine e_if_t (t := 22) hm_134 rfl (ct_eq hc3) rfl ?_
    refine e_iconst hm_134 rfl kc_iconst_m1 ?_
    obtain rfl := Option.some.inj hf
    exact e_iret hm_134 rfl rfl hq
  · rw [if_neg hc3] at hf
    refine e_if_f hm_134 rfl (cf_eq hc3) ?_
    refine e_aload_n hm_134 rfl rfl ?_
    refine e_getR hm_134 rfl rfl rfl rfl ?_
    refine e_iload_n hm_134 rfl rfl ?_
    obtain ⟨hi4, hf⟩ := mm_ite hf
    refine e_iald hm_134 rfl rfl hi4 ?_
    refine e_iconst hm_134 rfl kc_iconst_1 ?_
    refine e_isub hm_134 rfl ?_
    refine e_goto (t := 23) hm_134 rfl rfl ?_
    obtain rfl := Option.some.inj hf
    exact e_iret hm_134 rfl rfl hq
def nb_settle_l20 : Nat → Int32 → mm_M → Option (((Unit) × mm_M))
  | 0, _, _ => none
  | n + 1, x1, M =>
    if x1 < (M.1 1 4) then
      (pl_blockOf x1 M).bind fun y2 =>
      if ak_inb x1 4 = true then
      nb_settle_l20 n (x1 + (1 : Int32)) (ak_up y2.2.1 7 x1.toNatClampNeg y2.1, y2.2.2) else none
    else
      some ((), M)
set_option maxRecDepth 20000 in
set_option maxHeartbeats 4000000 in
theorem lc_133_20 {Z : ak_Z} {d : Nat} : ∀ (n : Nat) (x1 : Int32) (M : mm_M) {y : ((Unit) × mm_M)} (Q : Option Value → ak_H → Prop), nb_settle_l20 n x1 M = some y → (Ev Z (d + 6) 133 54 [some (.ref 0), none] [] (mm_H y.2) Q) → Ev Z (d + 6) 133 20 [some (.ref 0), some (.int x1)] [] (mm_H M) Q := by
  intro n
  induction n with
  | zero => intro x1 M y Q hf; cases hf
  | succ n ih =>
    intro x1 M y Q hf hq
    rw [nb_settle_l20] at hf
    refine e_iload_n hm_133 rfl rfl ?_
    refine e_aload_n hm_133 rfl rfl ?_
    refine e_getR hm_133 rfl rfl rfl rfl ?_
    refine e_getI hm_133 rfl rfl rfl ?_
    by_cases hc1 : x1 < (M.1 1 4)
    · rw [if_pos hc1] at hf
      refine e_ic_f hm_133 rfl (cf_ge hc1) ?_
      refine e_aload_n hm_133 rfl rfl ?_
      refine e_getR hm_133 rfl rfl rfl rfl ?_
      refine e_getR hm_133 rfl rfl rfl rfl ?_
      refine e_iload_n hm_133 rfl rfl ?_
      refine e_aload_n hm_133 rfl rfl ?_
      refine e_getR hm_133 rfl rfl rfl rfl ?_
      refine e_iload_n hm_133 rfl rfl ?_
      obtain ⟨y2, hky2, hf⟩ := mm_bd hf
      refine e_virt hm_133 rfl rfl rfl rfl (Nat.le_of_ble_eq_true rfl) hm_134 rfl rfl (c_134 x1 M hky2 ?_)
      show Ev Z _ 133 47 [some (.ref 0), some (.int x1)] [.int y2.1, .int x1, .ref 7] (mm_H y2.2) Q
      obtain ⟨hi3, hf⟩ := mm_ite hf
      refine e_iast hm_133 rfl rfl hi3 ?_
      refine e_iinc (L2 := [some (.ref 0), some (.int (x1 + (1 : Int32)))]) hm_133 rfl kc_iinc_1 rfl rfl ?_
      refine e_goto (t := 20) hm_133 rfl rfl ?_
      exact e_forget (L' := [some (.ref 0), some (.int (x1 + (1 : Int32)))]) (lf_k (lf_k lf_0)) (ih (x1 + (1 : Int32)) (ak_up y2.2.1 7 x1.toNatClampNeg y2.1, y2.2.2) Q hf hq)
    · rw [if_neg hc1] at hf
      refine e_ic_t (t := 54) hm_133 rfl (ct_ge hc1) rfl ?_
      obtain rfl := Option.some.inj hf
      exact e_forget (L' := [some (.ref 0), none]) (lf_k (lf_d lf_0)) hq
def nb_settle (M : mm_M) : Option (Int32 × mm_M) :=
  (pl_look 1 M).bind fun y1 =>
  (pl_takeTurns y1.2).bind fun y2 =>
  (nb_settle_l20 300 (0 : Int32) y2.2).bind fun y3 =>
  (pl_all y3.2).bind fun y4 =>
  some (y4.1, y4.2)
set_option maxRecDepth 20000 in
set_option maxHeartbeats 4000000 in
theorem c_133 {Z : ak_Z} {d : Nat} (M : mm_M) {y : Int32 × mm_M} (hf : nb_settle M = some y) {Q : Option Value → ak_H → Prop} (hq : Q (some (.int y.1)) (mm_H y.2)) : Ev Z (d + 6) 133 0 [some (.ref 0), none] [] (mm_H M) Q := by
  rw [nb_settle] at hf
  refine e_aload_n hm_133 rfl rfl ?_
  refine e_getR hm_133 rfl rfl rfl rfl ?_
  refine e_aload_n hm_133 rfl rfl ?_
  refine e_getR hm_133 rfl rfl rfl rfl ?_
  obtain ⟨y1, hky1, hf⟩ := mm_bd hf
  refine e_virt hm_133 rfl rfl rfl rfl (Nat.le_of_ble_eq_true rfl) hm_99 rfl rfl (c_99 1 M rfl hky1 ?_)
  show Ev Z _ 133 11 [some (.ref 0), none] [] (mm_H y1.2) Q
  refine e_aload_n hm_133 rfl rfl ?_
  refine e_getR hm_133 rfl rfl rfl rfl ?_
  obtain ⟨y2, hky2, hf⟩ := mm_bd hf
  refine e_virt hm_133 rfl rfl rfl rfl (Nat.le_of_ble_eq_true rfl) hm_123 rfl rfl (c_123 y1.2 hky2 ?_)
  show Ev Z _ 133 18 [some (.ref 0), none] [] (mm_H y2.2) Q
  refine e_iconst hm_133 rfl kc_iconst_0 ?_
  refine e_istore_n (L2 := [some (.ref 0), some (.int (0 : Int32))]) hm_133 rfl rfl ?_
  obtain ⟨y3, hky3, hf⟩ := mm_bd hf
  refine e_forget (L' := [some (.ref 0), some (.int (0 : Int32))]) (lf_k (lf_k lf_0)) (lc_133_20 (d := _) 300 (0 : Int32) y2.2 Q hky3 ?_)
  show Ev Z _ 133 54 [some (.ref 0), none] [] (mm_H y3.2) Q
  refine e_aload_n hm_133 rfl rfl ?_
  refine e_getR hm_133 rfl rfl rfl rfl ?_
  obtain ⟨y4, hky4, hf⟩ := mm_bd hf
  refine e_virt hm_133 rfl rfl rfl rfl (Nat.le_of_ble_eq_true rfl) hm_109 rfl rfl (c_109 y3.2 hky4 ?_)
  show Ev Z _ 133 61 [some (.ref 0), none] [.int y4.1] (mm_H y4.2) Q
  obtain rfl := Option.some.inj hf
  exact e_iret hm_133 rfl rfl hq
def nb_isSheet (a1 : Int32) (M : mm_M) : Option (Int32 × mm_M) :=
  if a1 < (0 : Int32) then
    some ((0 : Int32), M)
  else
    if a1 < (4 : Int32) then
      some ((1 : Int32), M)
    else
      some ((0 : Int32), M)
set_option maxRecDepth 20000 in
set_option maxHeartbeats 4000000 in
theorem c_136 {Z : ak_Z} {d : Nat} (a1 : Int32) (M : mm_M) {y : Int32 × mm_M} (hf : nb_isSheet a1 M = some y) {Q : Option Value → ak_H → Prop} (hq : Q (some (.int y.1)) (mm_H y.2)) : Ev Z (d + 0) 136 0 [some (.int a1)] [] (mm_H M) Q := by
  rw [nb_isSheet] at hf
  refine e_iload_n hm_136 rfl rfl ?_
  by_cases hc1 : a1 < (0 : Int32)
  · rw [if_pos hc1] at hf
    refine e_if_t (t := 13) hm_136 rfl (ct_lt hc1) rfl ?_
    refine e_iconst hm_136 rfl kc_iconst_0 ?_
    obtain rfl := Option.some.inj hf
    exact e_zret hm_136 rfl rfl (by decide) hq
  · rw [if_neg hc1] at hf
    refine e_if_f hm_136 rfl (cf_lt hc1) ?_
    refine e_iload_n hm_136 rfl rfl ?_
    refine e_iconst hm_136 rfl kc_iconst_4 ?_
    by_cases hc2 : a1 < (4 : Int32)
    · rw [if_pos hc2] at hf
      refine e_ic_f hm_136 rfl (cf_ge hc2) ?_
      refine e_iconst hm_136 rfl kc_iconst_1 ?_
      refine e_goto (t := 14) hm_136 rfl rfl ?_
      obtain rfl := Option.some.inj hf
      exact e_zret hm_136 rfl rfl (by decide) hq
    · rw [if_neg hc2] at hf
      refine e_ic_t (t := 13) hm_136 rfl (ct_ge hc2) rfl ?_
      refine e_iconst hm_136 rfl kc_iconst_0 ?_
      obtain rfl := Option.some.inj hf
      exact e_zret hm_136 rfl rfl (by decide) hq
def st_isMissing (t : Nat) (M : mm_M) : Option (Int32 × mm_M) :=
  if (M.1 t 0) = (-1 : Int32) then
    some ((1 : Int32), M)
  else
    some ((0 : Int32), M)
set_option maxRecDepth 20000 in
set_option maxHeartbeats 4000000 in
theorem c_137 {Z : ak_Z} {d : Nat} (t : Nat) (M : mm_M) (ht : mm_is7 t = true) {y : Int32 × mm_M} (hf : st_isMissing t M = some y) {Q : Option Value → ak_H → Prop} (hq : Q (some (.int y.1)) (mm_H y.2)) : Ev Z (d + 0) 137 0 [some (.ref t)] [] (mm_H M) Q := by
  rw [st_isMissing] at hf
  refine e_aload_n hm_137 rfl rfl ?_
  refine e_getI hm_137 rfl (mm_cl7 ht) rfl ?_
  refine e_iconst hm_137 rfl kc_iconst_m1 ?_
  by_cases hc1 : (M.1 t 0) = (-1 : Int32)
  · rw [if_pos hc1] at hf
    refine e_ic_f hm_137 rfl (cf_ne hc1) ?_
    refine e_iconst hm_137 rfl kc_iconst_1 ?_
    refine e_goto (t := 13) hm_137 rfl rfl ?_
    obtain rfl := Option.some.inj hf
    exact e_zret hm_137 rfl rfl (by decide) hq
  · rw [if_neg hc1] at hf
    refine e_ic_t (t := 12) hm_137 rfl (ct_ne hc1) rfl ?_
    refine e_iconst hm_137 rfl kc_iconst_0 ?_
    obtain rfl := Option.some.inj hf
    exact e_zret hm_137 rfl rfl (by decide) hq
def sh_become_l42 : Nat → Nat → Nat → Int32 → mm_M → Option (((Unit) × mm_M))
  | 0, _, _, _, _ => none
  | n + 1, x0, x1, x2, M =>
    if x2 < (4 : Int32) then
      if ak_inb x2 4 = true then
      if ak_inb x2 4 = true then
      if ak_inb x2 4 = true then
      if ak_inb x2 4 = true then
      if ak_inb x2 4 = true then
      if ak_inb x2 4 = true then
      if ak_inb x2 4 = true then
      if ak_inb x2 4 = true then
      if ak_inb x2 4 = true then
      if ak_inb x2 4 = true then
      if ak_inb x2 4 = true then
      if ak_inb x2 4 = true then
      if ak_inb x2 4 = true then
      if ak_inb x2 4 = true then
      sh_become_l42 n x0 x1 (x2 + (1 : Int32)) (ak_up (ak_up (ak_up (ak_up (ak_up (ak_up (ak_up M.1 (x0 + 1) x2.toNatClampNeg (M.1 (x1 + 1) x2.toNatClampNeg)) (x0 + 2) x2.toNatClampNeg ((ak_up M.1 (x0 + 1) x2.toNatClampNeg (M.1 (x1 + 1) x2.toNatClampNeg)) (x1 + 2) x2.toNatClampNeg)) (x0 + 3) x2.toNatClampNeg ((ak_up (ak_up M.1 (x0 + 1) x2.toNatClampNeg (M.1 (x1 + 1) x2.toNatClampNeg)) (x0 + 2) x2.toNatClampNeg ((ak_up M.1 (x0 + 1) x2.toNatClampNeg (M.1 (x1 + 1) x2.toNatClampNeg)) (x1 + 2) x2.toNatClampNeg)) (x1 + 3) x2.toNatClampNeg)) (x0 + 4) x2.toNatClampNeg ((ak_up (ak_up (ak_up M.1 (x0 + 1) x2.toNatClampNeg (M.1 (x1 + 1) x2.toNatClampNeg)) (x0 + 2) x2.toNatClampNeg ((ak_up M.1 (x0 + 1) x2.toNatClampNeg (M.1 (x1 + 1) x2.toNatClampNeg)) (x1 + 2) x2.toNatClampNeg)) (x0 + 3) x2.toNatClampNeg ((ak_up (ak_up M.1 (x0 + 1) x2.toNatClampNeg (M.1 (x1 + 1) x2.toNatClampNeg)) (x0 + 2) x2.toNatClampNeg ((ak_up M.1 (x0 + 1) x2.toNatClampNeg (M.1 (x1 + 1) x2.toNatClampNeg)) (x1 + 2) x2.toNatClampNeg)) (x1 + 3) x2.toNatClampNeg)) (x1 + 4) x2.toNatClampNeg)) (x0 + 5) x2.toNatClampNeg ((ak_up (ak_up (ak_up (ak_up M.1 (x0 + 1) x2.toNatClampNeg (M.1 (x1 + 1) x2.toNatClampNeg)) (x0 + 2) x2.toNatClampNeg ((ak_up M.1 (x0 + 1) x2.toNatClampNeg (M.1 (x1 + 1) x2.toNatClampNeg)) (x1 + 2) x2.toNatClampNeg)) (x0 + 3) x2.toNatClampNeg ((ak_up (ak_up M.1 (x0 + 1) x2.toNatClampNeg (M.1 (x1 + 1) x2.toNatClampNeg)) (x0 + 2) x2.toNatClampNeg ((ak_up M.1 (x0 + 1) x2.toNatClampNeg (M.1 (x1 + 1) x2.toNatClampNeg)) (x1 + 2) x2.toNatClampNeg)) (x1 + 3) x2.toNatClampNeg)) (x0 + 4) x2.toNatClampNeg ((ak_up (ak_up (ak_up M.1 (x0 + 1) x2.toNatClampNeg (M.1 (x1 + 1) x2.toNatClampNeg)) (x0 + 2) x2.toNatClampNeg ((ak_up M.1 (x0 + 1) x2.toNatClampNeg (M.1 (x1 + 1) x2.toNatClampNeg)) (x1 + 2) x2.toNatClampNeg)) (x0 + 3) x2.toNatClampNeg ((ak_up (ak_up M.1 (x0 + 1) x2.toNatClampNeg (M.1 (x1 + 1) x2.toNatClampNeg)) (x0 + 2) x2.toNatClampNeg ((ak_up M.1 (x0 + 1) x2.toNatClampNeg (M.1 (x1 + 1) x2.toNatClampNeg)) (x1 + 2) x2.toNatClampNeg)) (x1 + 3) x2.toNatClampNeg)) (x1 + 4) x2.toNatClampNeg)) (x1 + 5) x2.toNatClampNeg)) (x0 + 6) x2.toNatClampNeg ((ak_up (ak_up (ak_up (ak_up (ak_up M.1 (x0 + 1) x2.toNatClampNeg (M.1 (x1 + 1) x2.toNatClampNeg)) (x0 + 2) x2.toNatClampNeg ((ak_up M.1 (x0 + 1) x2.toNatClampNeg (M.1 (x1 + 1) x2.toNatClampNeg)) (x1 + 2) x2.toNatClampNeg)) (x0 + 3) x2.toNatClampNeg ((ak_up (ak_up M.1 (x0 + 1) x2.toNatClampNeg (M.1 (x1 + 1) x2.toNatClampNeg)) (x0 + 2) x2.toNatClampNeg ((ak_up M.1 (x0 + 1) x2.toNatClampNeg (M.1 (x1 + 1) x2.toNatClampNeg)) (x1 + 2) x2.toNatClampNeg)) (x1 + 3) x2.toNatClampNeg)) (x0 + 4) x2.toNatClampNeg ((ak_up (ak_up (ak_up M.1 (x0 + 1) x2.toNatClampNeg (M.1 (x1 + 1) x2.toNatClampNeg)) (x0 + 2) x2.toNatClampNeg ((ak_up M.1 (x0 + 1) x2.toNatClampNeg (M.1 (x1 + 1) x2.toNatClampNeg)) (x1 + 2) x2.toNatClampNeg)) (x0 + 3) x2.toNatClampNeg ((ak_up (ak_up M.1 (x0 + 1) x2.toNatClampNeg (M.1 (x1 + 1) x2.toNatClampNeg)) (x0 + 2) x2.toNatClampNeg ((ak_up M.1 (x0 + 1) x2.toNatClampNeg (M.1 (x1 + 1) x2.toNatClampNeg)) (x1 + 2) x2.toNatClampNeg)) (x1 + 3) x2.toNatClampNeg)) (x1 + 4) x2.toNatClampNeg)) (x0 + 5) x2.toNatClampNeg ((ak_up (ak_up (ak_up (ak_up M.1 (x0 + 1) x2.toNatClampNeg (M.1 (x1 + 1) x2.toNatClampNeg)) (x0 + 2) x2.toNatClampNeg ((ak_up M.1 (x0 + 1) x2.toNatClampNeg (M.1 (x1 + 1) x2.toNatClampNeg)) (x1 + 2) x2.toNatClampNeg)) (x0 + 3) x2.toNatClampNeg ((ak_up (ak_up M.1 (x0 + 1) x2.toNatClampNeg (M.1 (x1 + 1) x2.toNatClampNeg)) (x0 + 2) x2.toNatClampNeg ((ak_up M.1 (x0 + 1) x2.toNatClampNeg (M.1 (x1 + 1) x2.toNatClampNeg)) (x1 + 2) x2.toNatClampNeg)) (x1 + 3) x2.toNatClampNeg)) (x0 + 4) x2.toNatClampNeg ((ak_up (ak_up (ak_up M.1 (x0 + 1) x2.toNatClampNeg (M.1 (x1 + 1) x2.toNatClampNeg)) (x0 + 2) x2.toNatClampNeg ((ak_up M.1 (x0 + 1) x2.toNatClampNeg (M.1 (x1 + 1) x2.toNatClampNeg)) (x1 + 2) x2.toNatClampNeg)) (x0 + 3) x2.toNatClampNeg ((ak_up (ak_up M.1 (x0 + 1) x2.toNatClampNeg (M.1 (x1 + 1) x2.toNatClampNeg)) (x0 + 2) x2.toNatClampNeg ((ak_up M.1 (x0 + 1) x2.toNatClampNeg (M.1 (x1 + 1) x2.toNatClampNeg)) (x1 + 2) x2.toNatClampNeg)) (x1 + 3) x2.toNatClampNeg)) (x1 + 4) x2.toNatClampNeg)) (x1 + 5) x2.toNatClampNeg)) (x1 + 6) x2.toNatClampNeg)) (x0 + 7) x2.toNatClampNeg ((ak_up (ak_up (ak_up (ak_up (ak_up (ak_up M.1 (x0 + 1) x2.toNatClampNeg (M.1 (x1 + 1) x2.toNatClampNeg)) (x0 + 2) x2.toNatClampNeg ((ak_up M.1 (x0 + 1) x2.toNatClampNeg (M.1 (x1 + 1) x2.toNatClampNeg)) (x1 + 2) x2.toNatClampNeg)) (x0 + 3) x2.toNatClampNeg ((ak_up (ak_up M.1 (x0 + 1) x2.toNatClampNeg (M.1 (x1 + 1) x2.toNatClampNeg)) (x0 + 2) x2.toNatClampNeg ((ak_up M.1 (x0 + 1) x2.toNatClampNeg (M.1 (x1 + 1) x2.toNatClampNeg)) (x1 + 2) x2.toNatClampNeg)) (x1 + 3) x2.toNatClampNeg)) (x0 + 4) x2.toNatClampNeg ((ak_up (ak_up (ak_up M.1 (x0 + 1) x2.toNatClampNeg (M.1 (x1 + 1) x2.toNatClampNeg)) (x0 + 2) x2.toNatClampNeg ((ak_up M.1 (x0 + 1) x2.toNatClampNeg (M.1 (x1 + 1) x2.toNatClampNeg)) (x1 + 2) x2.toNatClampNeg)) (x0 + 3) x2.toNatClampNeg ((ak_up (ak_up M.1 (x0 + 1) x2.toNatClampNeg (M.1 (x1 + 1) x2.toNatClampNeg)) (x0 + 2) x2.toNatClampNeg ((ak_up M.1 (x0 + 1) x2.toNatClampNeg (M.1 (x1 + 1) x2.toNatClampNeg)) (x1 + 2) x2.toNatClampNeg)) (x1 + 3) x2.toNatClampNeg)) (x1 + 4) x2.toNatClampNeg)) (x0 + 5) x2.toNatClampNeg ((ak_up (ak_up (ak_up (ak_up M.1 (x0 + 1) x2.toNatClampNeg (M.1 (x1 + 1) x2.toNatClampNeg)) (x0 + 2) x2.toNatClampNeg ((ak_up M.1 (x0 + 1) x2.toNatClampNeg (M.1 (x1 + 1) x2.toNatClampNeg)) (x1 + 2) x2.toNatClampNeg)) (x0 + 3) x2.toNatClampNeg ((ak_up (ak_up M.1 (x0 + 1) x2.toNatClampNeg (M.1 (x1 + 1) x2.toNatClampNeg)) (x0 + 2) x2.toNatClampNeg ((ak_up M.1 (x0 + 1) x2.toNatClampNeg (M.1 (x1 + 1) x2.toNatClampNeg)) (x1 + 2) x2.toNatClampNeg)) (x1 + 3) x2.toNatClampNeg)) (x0 + 4) x2.toNatClampNeg ((ak_up (ak_up (ak_up M.1 (x0 + 1) x2.toNatClampNeg (M.1 (x1 + 1) x2.toNatClampNeg)) (x0 + 2) x2.toNatClampNeg ((ak_up M.1 (x0 + 1) x2.toNatClampNeg (M.1 (x1 + 1) x2.toNatClampNeg)) (x1 + 2) x2.toNatClampNeg)) (x0 + 3) x2.toNatClampNeg ((ak_up (ak_up M.1 (x0 + 1) x2.toNatClampNeg (M.1 (x1 + 1) x2.toNatClampNeg)) (x0 + 2) x2.toNatClampNeg ((ak_up M.1 (x0 + 1) x2.toNatClampNeg (M.1 (x1 + 1) x2.toNatClampNeg)) (x1 + 2) x2.toNatClampNeg)) (x1 + 3) x2.toNatClampNeg)) (x1 + 4) x2.toNatClampNeg)) (x1 + 5) x2.toNatClampNeg)) (x0 + 6) x2.toNatClampNeg ((ak_up (ak_up (ak_up (ak_up (ak_up M.1 (x0 + 1) x2.toNatClampNeg (M.1 (x1 + 1) x2.toNatClampNeg)) (x0 + 2) x2.toNatClampNeg ((ak_up M.1 (x0 + 1) x2.toNatClampNeg (M.1 (x1 + 1) x2.toNatClampNeg)) (x1 + 2) x2.toNatClampNeg)) (x0 + 3) x2.toNatClampNeg ((ak_up (ak_up M.1 (x0 + 1) x2.toNatClampNeg (M.1 (x1 + 1) x2.toNatClampNeg)) (x0 + 2) x2.toNatClampNeg ((ak_up M.1 (x0 + 1) x2.toNatClampNeg (M.1 (x1 + 1) x2.toNatClampNeg)) (x1 + 2) x2.toNatClampNeg)) (x1 + 3) x2.toNatClampNeg)) (x0 + 4) x2.toNatClampNeg ((ak_up (ak_up (ak_up M.1 (x0 + 1) x2.toNatClampNeg (M.1 (x1 + 1) x2.toNatClampNeg)) (x0 + 2) x2.toNatClampNeg ((ak_up M.1 (x0 + 1) x2.toNatClampNeg (M.1 (x1 + 1) x2.toNatClampNeg)) (x1 + 2) x2.toNatClampNeg)) (x0 + 3) x2.toNatClampNeg ((ak_up (ak_up M.1 (x0 + 1) x2.toNatClampNeg (M.1 (x1 + 1) x2.toNatClampNeg)) (x0 + 2) x2.toNatClampNeg ((ak_up M.1 (x0 + 1) x2.toNatClampNeg (M.1 (x1 + 1) x2.toNatClampNeg)) (x1 + 2) x2.toNatClampNeg)) (x1 + 3) x2.toNatClampNeg)) (x1 + 4) x2.toNatClampNeg)) (x0 + 5) x2.toNatClampNeg ((ak_up (ak_up (ak_up (ak_up M.1 (x0 + 1) x2.toNatClampNeg (M.1 (x1 + 1) x2.toNatClampNeg)) (x0 + 2) x2.toNatClampNeg ((ak_up M.1 (x0 + 1) x2.toNatClampNeg (M.1 (x1 + 1) x2.toNatClampNeg)) (x1 + 2) x2.toNatClampNeg)) (x0 + 3) x2.toNatClampNeg ((ak_up (ak_up M.1 (x0 + 1) x2.toNatClampNeg (M.1 (x1 + 1) x2.toNatClampNeg)) (x0 + 2) x2.toNatClampNeg ((ak_up M.1 (x0 + 1) x2.toNatClampNeg (M.1 (x1 + 1) x2.toNatClampNeg)) (x1 + 2) x2.toNatClampNeg)) (x1 + 3) x2.toNatClampNeg)) (x0 + 4) x2.toNatClampNeg ((ak_up (ak_up (ak_up M.1 (x0 + 1) x2.toNatClampNeg (M.1 (x1 + 1) x2.toNatClampNeg)) (x0 + 2) x2.toNatClampNeg ((ak_up M.1 (x0 + 1) x2.toNatClampNeg (M.1 (x1 + 1) x2.toNatClampNeg)) (x1 + 2) x2.toNatClampNeg)) (x0 + 3) x2.toNatClampNeg ((ak_up (ak_up M.1 (x0 + 1) x2.toNatClampNeg (M.1 (x1 + 1) x2.toNatClampNeg)) (x0 + 2) x2.toNatClampNeg ((ak_up M.1 (x0 + 1) x2.toNatClampNeg (M.1 (x1 + 1) x2.toNatClampNeg)) (x1 + 2) x2.toNatClampNeg)) (x1 + 3) x2.toNatClampNeg)) (x1 + 4) x2.toNatClampNeg)) (x1 + 5) x2.toNatClampNeg)) (x1 + 6) x2.toNatClampNeg)) (x1 + 7) x2.toNatClampNeg), M.2) else none else none else none else none else none else none else none else none else none else none else none else none else none else none
    else
      some ((), M)
set_option maxRecDepth 20000 in
set_option maxHeartbeats 4000000 in
theorem lc_138_42 {Z : ak_Z} {d : Nat} : ∀ (n : Nat) (x0 : Nat) (x1 : Nat) (x2 : Int32) (M : mm_M) (hx0 : mm_is8 x0 = true) (hx1 : mm_is8 x1 = true) {y : ((Unit) × mm_M)} (Q : Option Value → ak_H → Prop), sh_become_l42 n x0 x1 x2 M = some y → (Ev Z (d + 0) 138 137 [none, none, none] [] (mm_H y.2) Q) → Ev Z (d + 0) 138 42 [some (.ref x0), some (.ref x1), some (.int x2)] [] (mm_H M) Q := by
  intro n
  induction n with
  | zero => intro x0 x1 x2 M hx0 hx1 y Q hf; cases hf
  | succ n ih =>
    intro x0 x1 x2 M hx0 hx1 y Q hf hq
    rw [sh_become_l42] at hf
    refine e_iload_n hm_138 rfl rfl ?_
    refine e_iconst hm_138 rfl kc_iconst_4 ?_
    by_cases hc1 : x2 < (4 : Int32)
    · rw [if_pos hc1] at hf
      refine e_ic_f hm_138 rfl (cf_ge hc1) ?_
      refine e_aload_n hm_138 rfl rfl ?_
      refine e_getR hm_138 rfl (mm_cl8 hx0) rfl (mm_rf8_5 hx0) ?_
      refine e_iload_n hm_138 rfl rfl ?_
      refine e_aload_n hm_138 rfl rfl ?_
      refine e_getR hm_138 rfl (mm_cl8 hx1) rfl (mm_rf8_5 hx1) ?_
      refine e_iload_n hm_138 rfl rfl ?_
      obtain ⟨hi2, hf⟩ := mm_ite hf
      refine e_iald hm_138 rfl (mm_ar8_5 hx1) hi2 ?_
      obtain ⟨hi3, hf⟩ := mm_ite hf
      refine e_iast hm_138 rfl (mm_ar8_5 hx0) hi3 ?_
      refine e_aload_n hm_138 rfl rfl ?_
      refine e_getR hm_138 rfl (mm_cl8 hx0) rfl (mm_rf8_6 hx0) ?_
      refine e_iload_n hm_138 rfl rfl ?_
      refine e_aload_n hm_138 rfl rfl ?_
      refine e_getR hm_138 rfl (mm_cl8 hx1) rfl (mm_rf8_6 hx1) ?_
      refine e_iload_n hm_138 rfl rfl ?_
      obtain ⟨hi4, hf⟩ := mm_ite hf
      refine e_iald hm_138 rfl (mm_ar8_6 hx1) hi4 ?_
      obtain ⟨hi5, hf⟩ := mm_ite hf
      refine e_iast hm_138 rfl (mm_ar8_6 hx0) hi5 ?_
      refine e_aload_n hm_138 rfl rfl ?_
      refine e_getR hm_138 rfl (mm_cl8 hx0) rfl (mm_rf8_7 hx0) ?_
      refine e_iload_n hm_138 rfl rfl ?_
      refine e_aload_n hm_138 rfl rfl ?_
      refine e_getR hm_138 rfl (mm_cl8 hx1) rfl (mm_rf8_7 hx1) ?_
      refine e_iload_n hm_138 rfl rfl ?_
      obtain ⟨hi6, hf⟩ := mm_ite hf
      refine e_iald hm_138 rfl (mm_ar8_7 hx1) hi6 ?_
      obtain ⟨hi7, hf⟩ := mm_ite hf
      refine e_iast hm_138 rfl (mm_ar8_7 hx0) hi7 ?_
      refine e_aload_n hm_138 rfl rfl ?_
      refine e_getR hm_138 rfl (mm_cl8 hx0) rfl (mm_rf8_8 hx0) ?_
      refine e_iload_n hm_138 rfl rfl ?_
      refine e_aload_n hm_138 rfl rfl ?_
      refine e_getR hm_138 rfl (mm_cl8 hx1) rfl (mm_rf8_8 hx1) ?_
      refine e_iload_n hm_138 rfl rfl ?_
      obtain ⟨hi8, hf⟩ := mm_ite hf
      refine e_iald hm_138 rfl (mm_ar8_8 hx1) hi8 ?_
      obtain ⟨hi9, hf⟩ := mm_ite hf
      refine e_iast hm_138 rfl (mm_ar8_8 hx0) hi9 ?_
      refine e_aload_n hm_138 rfl rfl ?_
      refine e_getR hm_138 rfl (mm_cl8 hx0) rfl (mm_rf8_9 hx0) ?_
      refine e_iload_n hm_138 rfl rfl ?_
      refine e_aload_n hm_138 rfl rfl ?_
      refine e_getR hm_138 rfl (mm_cl8 hx1) rfl (mm_rf8_9 hx1) ?_
      refine e_iload_n hm_138 rfl rfl ?_
      obtain ⟨hi10, hf⟩ := mm_ite hf
      refine e_iald hm_138 rfl (mm_ar8_9 hx1) hi10 ?_
      obtain ⟨hi11, hf⟩ := mm_ite hf
      refine e_iast hm_138 rfl (mm_ar8_9 hx0) hi11 ?_
      refine e_aload_n hm_138 rfl rfl ?_
      refine e_getR hm_138 rfl (mm_cl8 hx0) rfl (mm_rf8_10 hx0) ?_
      refine e_iload_n hm_138 rfl rfl ?_
      refine e_aload_n hm_138 rfl rfl ?_
      refine e_getR hm_138 rfl (mm_cl8 hx1) rfl (mm_rf8_10 hx1) ?_
      refine e_iload_n hm_138 rfl rfl ?_
      obtain ⟨hi12, hf⟩ := mm_ite hf
      refine e_iald hm_138 rfl (mm_ar8_10 hx1) hi12 ?_
      obtain ⟨hi13, hf⟩ := mm_ite hf
      refine e_iast hm_138 rfl (mm_ar8_10 hx0) hi13 ?_
      refine e_aload_n hm_138 rfl rfl ?_
      refine e_getR hm_138 rfl (mm_cl8 hx0) rfl (mm_rf8_11 hx0) ?_
      refine e_iload_n hm_138 rfl rfl ?_
      refine e_aload_n hm_138 rfl rfl ?_
      refine e_getR hm_138 rfl (mm_cl8 hx1) rfl (mm_rf8_11 hx1) ?_
      refine e_iload_n hm_138 rfl rfl ?_
      obtain ⟨hi14, hf⟩ := mm_ite hf
      refine e_iald hm_138 rfl (mm_ar8_11 hx1) hi14 ?_
      obtain ⟨hi15, hf⟩ := mm_ite hf
      refine e_iast hm_138 rfl (mm_ar8_11 hx0) hi15 ?_
      refine e_iinc (L2 := [some (.ref x0), some (.ref x1), some (.int (x2 + (1 : Int32)))]) hm_138 rfl kc_iinc_1 rfl rfl ?_
      refine e_goto (t := 42) hm_138 rfl rfl ?_
      exact e_forget (L' := [some (.ref x0), some (.ref x1), some (.int (x2 + (1 : Int32)))]) (lf_k (lf_k (lf_k lf_0))) (ih x0 x1 (x2 + (1 : Int32)) (ak_up (ak_up (ak_up (ak_up (ak_up (ak_up (ak_up M.1 (x0 + 1) x2.toNatClampNeg (M.1 (x1 + 1) x2.toNatClampNeg)) (x0 + 2) x2.toNatClampNeg ((ak_up M.1 (x0 + 1) x2.toNatClampNeg (M.1 (x1 + 1) x2.toNatClampNeg)) (x1 + 2) x2.toNatClampNeg)) (x0 + 3) x2.toNatClampNeg ((ak_up (ak_up M.1 (x0 + 1) x2.toNatClampNeg (M.1 (x1 + 1) x2.toNatClampNeg)) (x0 + 2) x2.toNatClampNeg ((ak_up M.1 (x0 + 1) x2.toNatClampNeg (M.1 (x1 + 1) x2.toNatClampNeg)) (x1 + 2) x2.toNatClampNeg)) (x1 + 3) x2.toNatClampNeg)) (x0 + 4) x2.toNatClampNeg ((ak_up (ak_up (ak_up M.1 (x0 + 1) x2.toNatClampNeg (M.1 (x1 + 1) x2.toNatClampNeg)) (x0 + 2) x2.toNatClampNeg ((ak_up M.1 (x0 + 1) x2.toNatClampNeg (M.1 (x1 + 1) x2.toNatClampNeg)) (x1 + 2) x2.toNatClampNeg)) (x0 + 3) x2.toNatClampNeg ((ak_up (ak_up M.1 (x0 + 1) x2.toNatClampNeg (M.1 (x1 + 1) x2.toNatClampNeg)) (x0 + 2) x2.toNatClampNeg ((ak_up M.1 (x0 + 1) x2.toNatClampNeg (M.1 (x1 + 1) x2.toNatClampNeg)) (x1 + 2) x2.toNatClampNeg)) (x1 + 3) x2.toNatClampNeg)) (x1 + 4) x2.toNatClampNeg)) (x0 + 5) x2.toNatClampNeg ((ak_up (ak_up (ak_up (ak_up M.1 (x0 + 1) x2.toNatClampNeg (M.1 (x1 + 1) x2.toNatClampNeg)) (x0 + 2) x2.toNatClampNeg ((ak_up M.1 (x0 + 1) x2.toNatClampNeg (M.1 (x1 + 1) x2.toNatClampNeg)) (x1 + 2) x2.toNatClampNeg)) (x0 + 3) x2.toNatClampNeg ((ak_up (ak_up M.1 (x0 + 1) x2.toNatClampNeg (M.1 (x1 + 1) x2.toNatClampNeg)) (x0 + 2) x2.toNatClampNeg ((ak_up M.1 (x0 + 1) x2.toNatClampNeg (M.1 (x1 + 1) x2.toNatClampNeg)) (x1 + 2) x2.toNatClampNeg)) (x1 + 3) x2.toNatClampNeg)) (x0 + 4) x2.toNatClampNeg ((ak_up (ak_up (ak_up M.1 (x0 + 1) x2.toNatClampNeg (M.1 (x1 + 1) x2.toNatClampNeg)) (x0 + 2) x2.toNatClampNeg ((ak_up M.1 (x0 + 1) x2.toNatClampNeg (M.1 (x1 + 1) x2.toNatClampNeg)) (x1 + 2) x2.toNatClampNeg)) (x0 + 3) x2.toNatClampNeg ((ak_up (ak_up M.1 (x0 + 1) x2.toNatClampNeg (M.1 (x1 + 1) x2.toNatClampNeg)) (x0 + 2) x2.toNatClampNeg ((ak_up M.1 (x0 + 1) x2.toNatClampNeg (M.1 (x1 + 1) x2.toNatClampNeg)) (x1 + 2) x2.toNatClampNeg)) (x1 + 3) x2.toNatClampNeg)) (x1 + 4) x2.toNatClampNeg)) (x1 + 5) x2.toNatClampNeg)) (x0 + 6) x2.toNatClampNeg ((ak_up (ak_up (ak_up (ak_up (ak_up M.1 (x0 + 1) x2.toNatClampNeg (M.1 (x1 + 1) x2.toNatClampNeg)) (x0 + 2) x2.toNatClampNeg ((ak_up M.1 (x0 + 1) x2.toNatClampNeg (M.1 (x1 + 1) x2.toNatClampNeg)) (x1 + 2) x2.toNatClampNeg)) (x0 + 3) x2.toNatClampNeg ((ak_up (ak_up M.1 (x0 + 1) x2.toNatClampNeg (M.1 (x1 + 1) x2.toNatClampNeg)) (x0 + 2) x2.toNatClampNeg ((ak_up M.1 (x0 + 1) x2.toNatClampNeg (M.1 (x1 + 1) x2.toNatClampNeg)) (x1 + 2) x2.toNatClampNeg)) (x1 + 3) x2.toNatClampNeg)) (x0 + 4) x2.toNatClampNeg ((ak_up (ak_up (ak_up M.1 (x0 + 1) x2.toNatClampNeg (M.1 (x1 + 1) x2.toNatClampNeg)) (x0 + 2) x2.toNatClampNeg ((ak_up M.1 (x0 + 1) x2.toNatClampNeg (M.1 (x1 + 1) x2.toNatClampNeg)) (x1 + 2) x2.toNatClampNeg)) (x0 + 3) x2.toNatClampNeg ((ak_up (ak_up M.1 (x0 + 1) x2.toNatClampNeg (M.1 (x1 + 1) x2.toNatClampNeg)) (x0 + 2) x2.toNatClampNeg ((ak_up M.1 (x0 + 1) x2.toNatClampNeg (M.1 (x1 + 1) x2.toNatClampNeg)) (x1 + 2) x2.toNatClampNeg)) (x1 + 3) x2.toNatClampNeg)) (x1 + 4) x2.toNatClampNeg)) (x0 + 5) x2.toNatClampNeg ((ak_up (ak_up (ak_up (ak_up M.1 (x0 + 1) x2.toNatClampNeg (M.1 (x1 + 1) x2.toNatClampNeg)) (x0 + 2) x2.toNatClampNeg ((ak_up M.1 (x0 + 1) x2.toNatClampNeg (M.1 (x1 + 1) x2.toNatClampNeg)) (x1 + 2) x2.toNatClampNeg)) (x0 + 3) x2.toNatClampNeg ((ak_up (ak_up M.1 (x0 + 1) x2.toNatClampNeg (M.1 (x1 + 1) x2.toNatClampNeg)) (x0 + 2) x2.toNatClampNeg ((ak_up M.1 (x0 + 1) x2.toNatClampNeg (M.1 (x1 + 1) x2.toNatClampNeg)) (x1 + 2) x2.toNatClampNeg)) (x1 + 3) x2.toNatClampNeg)) (x0 + 4) x2.toNatClampNeg ((ak_up (ak_up (ak_up M.1 (x0 + 1) x2.toNatClampNeg (M.1 (x1 + 1) x2.toNatClampNeg)) (x0 + 2) x2.toNatClampNeg ((ak_up M.1 (x0 + 1) x2.toNatClampNeg (M.1 (x1 + 1) x2.toNatClampNeg)) (x1 + 2) x2.toNatClampNeg)) (x0 + 3) x2.toNatClampNeg ((ak_up (ak_up M.1 (x0 + 1) x2.toNatClampNeg (M.1 (x1 + 1) x2.toNatClampNeg)) (x0 + 2) x2.toNatClampNeg ((ak_up M.1 (x0 + 1) x2.toNatClampNeg (M.1 (x1 + 1) x2.toNatClampNeg)) (x1 + 2) x2.toNatClampNeg)) (x1 + 3) x2.toNatClampNeg)) (x1 + 4) x2.toNatClampNeg)) (x1 + 5) x2.toNatClampNeg)) (x1 + 6) x2.toNatClampNeg)) (x0 + 7) x2.toNatClampNeg ((ak_up (ak_up (ak_up (ak_up (ak_up (ak_up M.1 (x0 + 1) x2.toNatClampNeg (M.1 (x1 + 1) x2.toNatClampNeg)) (x0 + 2) x2.toNatClampNeg ((ak_up M.1 (x0 + 1) x2.toNatClampNeg (M.1 (x1 + 1) x2.toNatClampNeg)) (x1 + 2) x2.toNatClampNeg)) (x0 + 3) x2.toNatClampNeg ((ak_up (ak_up M.1 (x0 + 1) x2.toNatClampNeg (M.1 (x1 + 1) x2.toNatClampNeg)) (x0 + 2) x2.toNatClampNeg ((ak_up M.1 (x0 + 1) x2.toNatClampNeg (M.1 (x1 + 1) x2.toNatClampNeg)) (x1 + 2) x2.toNatClampNeg)) (x1 + 3) x2.toNatClampNeg)) (x0 + 4) x2.toNatClampNeg ((ak_up (ak_up (ak_up M.1 (x0 + 1) x2.toNatClampNeg (M.1 (x1 + 1) x2.toNatClampNeg)) (x0 + 2) x2.toNatClampNeg ((ak_up M.1 (x0 + 1) x2.toNatClampNeg (M.1 (x1 + 1) x2.toNatClampNeg)) (x1 + 2) x2.toNatClampNeg)) (x0 + 3) x2.toNatClampNeg ((ak_up (ak_up M.1 (x0 + 1) x2.toNatClampNeg (M.1 (x1 + 1) x2.toNatClampNeg)) (x0 + 2) x2.toNatClampNeg ((ak_up M.1 (x0 + 1) x2.toNatClampNeg (M.1 (x1 + 1) x2.toNatClampNeg)) (x1 + 2) x2.toNatClampNeg)) (x1 + 3) x2.toNatClampNeg)) (x1 + 4) x2.toNatClampNeg)) (x0 + 5) x2.toNatClampNeg ((ak_up (ak_up (ak_up (ak_up M.1 (x0 + 1) x2.toNatClampNeg (M.1 (x1 + 1) x2.toNatClampNeg)) (x0 + 2) x2.toNatClampNeg ((ak_up M.1 (x0 + 1) x2.toNatClampNeg (M.1 (x1 + 1) x2.toNatClampNeg)) (x1 + 2) x2.toNatClampNeg)) (x0 + 3) x2.toNatClampNeg ((ak_up (ak_up M.1 (x0 + 1) x2.toNatClampNeg (M.1 (x1 + 1) x2.toNatClampNeg)) (x0 + 2) x2.toNatClampNeg ((ak_up M.1 (x0 + 1) x2.toNatClampNeg (M.1 (x1 + 1) x2.toNatClampNeg)) (x1 + 2) x2.toNatClampNeg)) (x1 + 3) x2.toNatClampNeg)) (x0 + 4) x2.toNatClampNeg ((ak_up (ak_up (ak_up M.1 (x0 + 1) x2.toNatClampNeg (M.1 (x1 + 1) x2.toNatClampNeg)) (x0 + 2) x2.toNatClampNeg ((ak_up M.1 (x0 + 1) x2.toNatClampNeg (M.1 (x1 + 1) x2.toNatClampNeg)) (x1 + 2) x2.toNatClampNeg)) (x0 + 3) x2.toNatClampNeg ((ak_up (ak_up M.1 (x0 + 1) x2.toNatClampNeg (M.1 (x1 + 1) x2.toNatClampNeg)) (x0 + 2) x2.toNatClampNeg ((ak_up M.1 (x0 + 1) x2.toNatClampNeg (M.1 (x1 + 1) x2.toNatClampNeg)) (x1 + 2) x2.toNatClampNeg)) (x1 + 3) x2.toNatClampNeg)) (x1 + 4) x2.toNatClampNeg)) (x1 + 5) x2.toNatClampNeg)) (x0 + 6) x2.toNatClampNeg ((ak_up (ak_up (ak_up (ak_up (ak_up M.1 (x0 + 1) x2.toNatClampNeg (M.1 (x1 + 1) x2.toNatClampNeg)) (x0 + 2) x2.toNatClampNeg ((ak_up M.1 (x0 + 1) x2.toNatClampNeg (M.1 (x1 + 1) x2.toNatClampNeg)) (x1 + 2) x2.toNatClampNeg)) (x0 + 3) x2.toNatClampNeg ((ak_up (ak_up M.1 (x0 + 1) x2.toNatClampNeg (M.1 (x1 + 1) x2.toNatClampNeg)) (x0 + 2) x2.toNatClampNeg ((ak_up M.1 (x0 + 1) x2.toNatClampNeg (M.1 (x1 + 1) x2.toNatClampNeg)) (x1 + 2) x2.toNatClampNeg)) (x1 + 3) x2.toNatClampNeg)) (x0 + 4) x2.toNatClampNeg ((ak_up (ak_up (ak_up M.1 (x0 + 1) x2.toNatClampNeg (M.1 (x1 + 1) x2.toNatClampNeg)) (x0 + 2) x2.toNatClampNeg ((ak_up M.1 (x0 + 1) x2.toNatClampNeg (M.1 (x1 + 1) x2.toNatClampNeg)) (x1 + 2) x2.toNatClampNeg)) (x0 + 3) x2.toNatClampNeg ((ak_up (ak_up M.1 (x0 + 1) x2.toNatClampNeg (M.1 (x1 + 1) x2.toNatClampNeg)) (x0 + 2) x2.toNatClampNeg ((ak_up M.1 (x0 + 1) x2.toNatClampNeg (M.1 (x1 + 1) x2.toNatClampNeg)) (x1 + 2) x2.toNatClampNeg)) (x1 + 3) x2.toNatClampNeg)) (x1 + 4) x2.toNatClampNeg)) (x0 + 5) x2.toNatClampNeg ((ak_up (ak_up (ak_up (ak_up M.1 (x0 + 1) x2.toNatClampNeg (M.1 (x1 + 1) x2.toNatClampNeg)) (x0 + 2) x2.toNatClampNeg ((ak_up M.1 (x0 + 1) x2.toNatClampNeg (M.1 (x1 + 1) x2.toNatClampNeg)) (x1 + 2) x2.toNatClampNeg)) (x0 + 3) x2.toNatClampNeg ((ak_up (ak_up M.1 (x0 + 1) x2.toNatClampNeg (M.1 (x1 + 1) x2.toNatClampNeg)) (x0 + 2) x2.toNatClampNeg ((ak_up M.1 (x0 + 1) x2.toNatClampNeg (M.1 (x1 + 1) x2.toNatClampNeg)) (x1 + 2) x2.toNatClampNeg)) (x1 + 3) x2.toNatClampNeg)) (x0 + 4) x2.toNatClampNeg ((ak_up (ak_up (ak_up M.1 (x0 + 1) x2.toNatClampNeg (M.1 (x1 + 1) x2.toNatClampNeg)) (x0 + 2) x2.toNatClampNeg ((ak_up M.1 (x0 + 1) x2.toNatClampNeg (M.1 (x1 + 1) x2.toNatClampNeg)) (x1 + 2) x2.toNatClampNeg)) (x0 + 3) x2.toNatClampNeg ((ak_up (ak_up M.1 (x0 + 1) x2.toNatClampNeg (M.1 (x1 + 1) x2.toNatClampNeg)) (x0 + 2) x2.toNatClampNeg ((ak_up M.1 (x0 + 1) x2.toNatClampNeg (M.1 (x1 + 1) x2.toNatClampNeg)) (x1 + 2) x2.toNatClampNeg)) (x1 + 3) x2.toNatClampNeg)) (x1 + 4) x2.toNatClampNeg)) (x1 + 5) x2.toNatClampNeg)) (x1 + 6) x2.toNatClampNeg)) (x1 + 7) x2.toNatClampNeg), M.2) hx0 hx1 Q hf hq)
    · rw [if_neg hc1] at hf
      refine e_ic_t (t := 137) hm_138 rfl (ct_ge hc1) rfl ?_
      obtain rfl := Option.some.inj hf
      exact e_forget (L' := [none, none, none]) (lf_d (lf_d (lf_d lf_0))) hq
def sh_become (t : Nat) (a1 : Nat) (M : mm_M) : Option (Unit × mm_M) :=
  (sh_become_l42 300 t a1 (0 : Int32) (ak_up (ak_up (ak_up (ak_up (ak_up M.1 t 0 (M.1 a1 0)) t 1 ((ak_up M.1 t 0 (M.1 a1 0)) a1 1)) t 2 ((ak_up (ak_up M.1 t 0 (M.1 a1 0)) t 1 ((ak_up M.1 t 0 (M.1 a1 0)) a1 1)) a1 2)) t 3 ((ak_up (ak_up (ak_up M.1 t 0 (M.1 a1 0)) t 1 ((ak_up M.1 t 0 (M.1 a1 0)) a1 1)) t 2 ((ak_up (ak_up M.1 t 0 (M.1 a1 0)) t 1 ((ak_up M.1 t 0 (M.1 a1 0)) a1 1)) a1 2)) a1 3)) t 4 ((ak_up (ak_up (ak_up (ak_up M.1 t 0 (M.1 a1 0)) t 1 ((ak_up M.1 t 0 (M.1 a1 0)) a1 1)) t 2 ((ak_up (ak_up M.1 t 0 (M.1 a1 0)) t 1 ((ak_up M.1 t 0 (M.1 a1 0)) a1 1)) a1 2)) t 3 ((ak_up (ak_up (ak_up M.1 t 0 (M.1 a1 0)) t 1 ((ak_up M.1 t 0 (M.1 a1 0)) a1 1)) t 2 ((ak_up (ak_up M.1 t 0 (M.1 a1 0)) t 1 ((ak_up M.1 t 0 (M.1 a1 0)) a1 1)) a1 2)) a1 3)) a1 4), M.2)).bind fun y1 =>
  some ((), y1.2)
set_option maxRecDepth 20000 in
set_option maxHeartbeats 4000000 in
theorem c_138 {Z : ak_Z} {d : Nat} (t : Nat) (a1 : Nat) (M : mm_M) (ht : mm_is8 t = true) (ha1 : mm_is8 a1 = true) {y : Unit × mm_M} (hf : sh_become t a1 M = some y) {Q : Option Value → ak_H → Prop} (hq : Q none (mm_H y.2)) : Ev Z (d + 0) 138 0 [some (.ref t), some (.ref a1), none] [] (mm_H M) Q := by
  rw [sh_become] at hf
  refine e_aload_n hm_138 rfl rfl ?_
  refine e_aload_n hm_138 rfl rfl ?_
  refine e_getI hm_138 rfl (mm_cl8 ha1) rfl ?_
  refine e_putI hm_138 rfl (mm_cl8 ht) rfl ?_
  refine e_aload_n hm_138 rfl rfl ?_
  refine e_aload_n hm_138 rfl rfl ?_
  refine e_getI hm_138 rfl (mm_cl8 ha1) rfl ?_
  refine e_putI hm_138 rfl (mm_cl8 ht) rfl ?_
  refine e_aload_n hm_138 rfl rfl ?_
  refine e_aload_n hm_138 rfl rfl ?_
  refine e_getI hm_138 rfl (mm_cl8 ha1) rfl ?_
  refine e_putI hm_138 rfl (mm_cl8 ht) rfl ?_
  refine e_aload_n hm_138 rfl rfl ?_
  refine e_aload_n hm_138 rfl rfl ?_
  refine e_getI hm_138 rfl (mm_cl8 ha1) rfl ?_
  refine e_putI hm_138 rfl (mm_cl8 ht) rfl ?_
  refine e_aload_n hm_138 rfl rfl ?_
  refine e_aload_n hm_138 rfl rfl ?_
  refine e_getI hm_138 rfl (mm_cl8 ha1) rfl ?_
  refine e_putI hm_138 rfl (mm_cl8 ht) rfl ?_
  refine e_iconst hm_138 rfl kc_iconst_0 ?_
  refine e_istore_n (L2 := [some (.ref t), some (.ref a1), some (.int (0 : Int32))]) hm_138 rfl rfl ?_
  obtain ⟨y1, hky1, hf⟩ := mm_bd hf
  refine e_forget (L' := [some (.ref t), some (.ref a1), some (.int (0 : Int32))]) (lf_k (lf_k (lf_k lf_0))) (lc_138_42 (d := _) 300 t a1 (0 : Int32) (ak_up (ak_up (ak_up (ak_up (ak_up M.1 t 0 (M.1 a1 0)) t 1 ((ak_up M.1 t 0 (M.1 a1 0)) a1 1)) t 2 ((ak_up (ak_up M.1 t 0 (M.1 a1 0)) t 1 ((ak_up M.1 t 0 (M.1 a1 0)) a1 1)) a1 2)) t 3 ((ak_up (ak_up (ak_up M.1 t 0 (M.1 a1 0)) t 1 ((ak_up M.1 t 0 (M.1 a1 0)) a1 1)) t 2 ((ak_up (ak_up M.1 t 0 (M.1 a1 0)) t 1 ((ak_up M.1 t 0 (M.1 a1 0)) a1 1)) a1 2)) a1 3)) t 4 ((ak_up (ak_up (ak_up (ak_up M.1 t 0 (M.1 a1 0)) t 1 ((ak_up M.1 t 0 (M.1 a1 0)) a1 1)) t 2 ((ak_up (ak_up M.1 t 0 (M.1 a1 0)) t 1 ((ak_up M.1 t 0 (M.1 a1 0)) a1 1)) a1 2)) t 3 ((ak_up (ak_up (ak_up M.1 t 0 (M.1 a1 0)) t 1 ((ak_up M.1 t 0 (M.1 a1 0)) a1 1)) t 2 ((ak_up (ak_up M.1 t 0 (M.1 a1 0)) t 1 ((ak_up M.1 t 0 (M.1 a1 0)) a1 1)) a1 2)) a1 3)) a1 4), M.2) ht ha1 Q hky1 ?_)
  show Ev Z _ 138 137 [none, none, none] [] (mm_H y1.2) Q
  obtain rfl := Option.some.inj hf
  exact e_vret hm_138 rfl rfl hq
def nb_firstOtherwise_l2 : Nat → Nat → Int32 → Int32 → mm_M → Option ((Int32 × mm_M) ⊕ ((Unit) × mm_M))
  | 0, _, _, _, _ => none
  | n + 1, x1, x2, x3, M =>
    if x3 < (8 : Int32) then
      (ru_glad 17 x2 x3 M).bind fun y2 =>
      if ak_inb x3 40 = true then
      if y2.1 = (y2.2.1 (x1 + 1) x3.toNatClampNeg) then
        nb_firstOtherwise_l2 n x1 x2 (x3 + (1 : Int32)) y2.2
      else
        some (.inl (x3, y2.2)) else none
    else
      some (.inr ((), M))
set_option maxRecDepth 20000 in
set_option maxHeartbeats 4000000 in
theorem lc_139_2 {Z : ak_Z} {d : Nat} : ∀ (n : Nat) (x1 : Nat) (x2 : Int32) (x3 : Int32) (M : mm_M) (hx1 : mm_is7 x1 = true) {y : (Int32 × mm_M) ⊕ ((Unit) × mm_M)} (Q : Option Value → ak_H → Prop), nb_firstOtherwise_l2 n x1 x2 x3 M = some y → (match y with | .inl yr => Q (some (.int yr.1)) (mm_H yr.2) | .inr yv => Ev Z (d + 4) 139 38 [none, none, none, none] [] (mm_H yv.2) Q) → Ev Z (d + 4) 139 2 [some (.ref 0), some (.ref x1), some (.int x2), some (.int x3)] [] (mm_H M) Q := by
  intro n
  induction n with
  | zero => intro x1 x2 x3 M hx1 y Q hf; cases hf
  | succ n ih =>
    intro x1 x2 x3 M hx1 y Q hf hq
    rw [nb_firstOtherwise_l2] at hf
    refine e_iload_n hm_139 rfl rfl ?_
    refine e_bipush hm_139 rfl kc_bipush_8 ?_
    by_cases hc1 : x3 < (8 : Int32)
    · rw [if_pos hc1] at hf
      refine e_ic_f hm_139 rfl (cf_ge hc1) ?_
      refine e_aload_n hm_139 rfl rfl ?_
      refine e_getR hm_139 rfl rfl rfl rfl ?_
      refine e_aload_n hm_139 rfl rfl ?_
      refine e_getR hm_139 rfl rfl rfl rfl ?_
      refine e_iload_n hm_139 rfl rfl ?_
      refine e_iload_n hm_139 rfl rfl ?_
      obtain ⟨y2, hky2, hf⟩ := mm_bd hf
      refine e_virt hm_139 rfl rfl rfl rfl (Nat.le_of_ble_eq_true rfl) hm_48 rfl rfl (c_48 17 x2 x3 M rfl hky2 ?_)
      show Ev Z _ 139 21 [some (.ref 0), some (.ref x1), some (.int x2), some (.int x3)] [.int y2.1] (mm_H y2.2) Q
      refine e_aload_n hm_139 rfl rfl ?_
      refine e_getR hm_139 rfl (mm_cl7 hx1) rfl (mm_rf7_2 hx1) ?_
      refine e_iload_n hm_139 rfl rfl ?_
      obtain ⟨hi3, hf⟩ := mm_ite hf
      refine e_iald hm_139 rfl (mm_ar7_2 hx1) hi3 ?_
      by_cases hc4 : y2.1 = (y2.2.1 (x1 + 1) x3.toNatClampNeg)
      · rw [if_pos hc4] at hf
        refine e_ic_t (t := 32) hm_139 rfl (ct_eq hc4) rfl ?_
        refine e_iinc (L2 := [some (.ref 0), some (.ref x1), some (.int x2), some (.int (x3 + (1 : Int32)))]) hm_139 rfl kc_iinc_1 rfl rfl ?_
        refine e_goto (t := 2) hm_139 rfl rfl ?_
        exact e_forget (L' := [some (.ref 0), some (.ref x1), some (.int x2), some (.int (x3 + (1 : Int32)))]) (lf_k (lf_k (lf_k (lf_k lf_0)))) (ih x1 x2 (x3 + (1 : Int32)) y2.2 hx1 Q hf hq)
      · rw [if_neg hc4] at hf
        refine e_ic_f hm_139 rfl (cf_eq hc4) ?_
        refine e_iload_n hm_139 rfl rfl ?_
        obtain rfl := Option.some.inj hf
        exact e_iret hm_139 rfl rfl hq
    · rw [if_neg hc1] at hf
      refine e_ic_t (t := 38) hm_139 rfl (ct_ge hc1) rfl ?_
      obtain rfl := Option.some.inj hf
      exact e_forget (L' := [none, none, none, none]) (lf_d (lf_d (lf_d (lf_d lf_0)))) hq
def nb_firstOtherwise (a1 : Nat) (a2 : Int32) (M : mm_M) : Option (Int32 × mm_M) :=
  (nb_firstOtherwise_l2 300 a1 a2 (0 : Int32) M).bind fun y1 => match y1 with
  | .inl y1r => some y1r
  | .inr y1v => some ((-1 : Int32), y1v.2)
set_option maxRecDepth 20000 in
set_option maxHeartbeats 4000000 in
theorem c_139 {Z : ak_Z} {d : Nat} (a1 : Nat) (a2 : Int32) (M : mm_M) (ha1 : mm_is7 a1 = true) {y : Int32 × mm_M} (hf : nb_firstOtherwise a1 a2 M = some y) {Q : Option Value → ak_H → Prop} (hq : Q (some (.int y.1)) (mm_H y.2)) : Ev Z (d + 4) 139 0 [some (.ref 0), some (.ref a1), some (.int a2), none] [] (mm_H M) Q := by
  rw [nb_firstOtherwise] at hf
  refine e_iconst hm_139 rfl kc_iconst_0 ?_
  refine e_istore_n (L2 := [some (.ref 0), some (.ref a1), some (.int a2), some (.int (0 : Int32))]) hm_139 rfl rfl ?_
  obtain ⟨y1, hky1, hf⟩ := mm_bd hf
  refine e_forget (L' := [some (.ref 0), some (.ref a1), some (.int a2), some (.int (0 : Int32))]) (lf_k (lf_k (lf_k (lf_k lf_0)))) (lc_139_2 (d := _) 300 a1 a2 (0 : Int32) M ha1 Q hky1 ?_)
  rcases y1 with y1r | y1v
  · obtain rfl := Option.some.inj hf
    exact hq
  · show Ev Z _ 139 38 [none, none, none, none] [] (mm_H y1v.2) Q
    refine e_iconst hm_139 rfl kc_iconst_m1 ?_
    obtain rfl := Option.some.inj hf
    exact e_iret hm_139 rfl rfl hq
def nb_kindsTold_l5 : Nat → Nat → Int32 → Int32 → Int32 → mm_M → Option (((Int32) × mm_M))
  | 0, _, _, _, _, _ => none
  | n + 1, x1, x2, x3, x4, M =>
    if x4 < (6 : Int32) then
      if ak_inb x2 4 = true then
      (nb_firstOtherwise x1 x2 (ak_up M.1 18 x2.toNatClampNeg x4, M.2)).bind fun y3 =>
      if y3.1 = (-1 : Int32) then
        nb_kindsTold_l5 n x1 x2 (x3 ||| ((1 : Int32) <<< (x4 &&& 31))) (x4 + (1 : Int32)) y3.2
      else
        nb_kindsTold_l5 n x1 x2 x3 (x4 + (1 : Int32)) y3.2 else none
    else
      some (x3, M)
set_option maxRecDepth 20000 in
set_option maxHeartbeats 4000000 in
theorem lc_140_5 {Z : ak_Z} {d : Nat} : ∀ (n : Nat) (x1 : Nat) (x2 : Int32) (x3 : Int32) (x4 : Int32) (M : mm_M) (hx1 : mm_is7 x1 = true) {y : ((Int32) × mm_M)} (Q : Option Value → ak_H → Prop), nb_kindsTold_l5 n x1 x2 x3 x4 M = some y → (Ev Z (d + 5) 140 46 [none, none, none, some (.int y.1), none] [] (mm_H y.2) Q) → Ev Z (d + 5) 140 5 [some (.ref 0), some (.ref x1), some (.int x2), some (.int x3), some (.int x4)] [] (mm_H M) Q := by
  intro n
  induction n with
  | zero => intro x1 x2 x3 x4 M hx1 y Q hf; cases hf
  | succ n ih =>
    intro x1 x2 x3 x4 M hx1 y Q hf hq
    rw [nb_kindsTold_l5] at hf
    refine e_iload hm_140 rfl rfl ?_
    refine e_bipush hm_140 rfl kc_bipush_6 ?_
    by_cases hc1 : x4 < (6 : Int32)
    · rw [if_pos hc1] at hf
      refine e_ic_f hm_140 rfl (cf_ge hc1) ?_
      refine e_aload_n hm_140 rfl rfl ?_
      refine e_getR hm_140 rfl rfl rfl rfl ?_
      refine e_getR hm_140 rfl rfl rfl rfl ?_
      refine e_iload_n hm_140 rfl rfl ?_
      refine e_iload hm_140 rfl rfl ?_
      obtain ⟨hi2, hf⟩ := mm_ite hf
      refine e_iast hm_140 rfl rfl hi2 ?_
      refine e_aload_n hm_140 rfl rfl ?_
      refine e_aload_n hm_140 rfl rfl ?_
      refine e_iload_n hm_140 rfl rfl ?_
      obtain ⟨y3, hky3, hf⟩ := mm_bd hf
      refine e_virt hm_140 rfl rfl rfl rfl (Nat.le_of_ble_eq_true rfl) hm_139 rfl rfl (c_139 x1 x2 (ak_up M.1 18 x2.toNatClampNeg x4, M.2) hx1 hky3 ?_)
      show Ev Z _ 140 29 [some (.ref 0), some (.ref x1), some (.int x2), some (.int x3), some (.int x4)] [.int y3.1] (mm_H y3.2) Q
      refine e_iconst hm_140 rfl kc_iconst_m1 ?_
      by_cases hc4 : y3.1 = (-1 : Int32)
      · rw [if_pos hc4] at hf
        refine e_ic_f hm_140 rfl (cf_ne hc4) ?_
        refine e_iload_n hm_140 rfl rfl ?_
        refine e_iconst hm_140 rfl kc_iconst_1 ?_
        refine e_iload hm_140 rfl rfl ?_
        refine e_ishl hm_140 rfl ?_
        refine e_ior hm_140 rfl ?_
        refine e_istore_n (L2 := [some (.ref 0), some (.ref x1), some (.int x2), some (.int (x3 ||| ((1 : Int32) <<< (x4 &&& 31)))), some (.int x4)]) hm_140 rfl rfl ?_
        refine e_iinc (L2 := [some (.ref 0), some (.ref x1), some (.int x2), some (.int (x3 ||| ((1 : Int32) <<< (x4 &&& 31)))), some (.int (x4 + (1 : Int32)))]) hm_140 rfl kc_iinc_1 rfl rfl ?_
        refine e_goto (t := 5) hm_140 rfl rfl ?_
        exact e_forget (L' := [some (.ref 0), some (.ref x1), some (.int x2), some (.int (x3 ||| ((1 : Int32) <<< (x4 &&& 31)))), some (.int (x4 + (1 : Int32)))]) (lf_k (lf_k (lf_k (lf_k (lf_k lf_0))))) (ih x1 x2 (x3 ||| ((1 : Int32) <<< (x4 &&& 31))) (x4 + (1 : Int32)) y3.2 hx1 Q hf hq)
      · rw [if_neg hc4] at hf
        refine e_ic_t (t := 40) hm_140 rfl (ct_ne hc4) rfl ?_
        refine e_iinc (L2 := [some (.ref 0), some (.ref x1), some (.int x2), some (.int x3), some (.int (x4 + (1 : Int32)))]) hm_140 rfl kc_iinc_1 rfl rfl ?_
        refine e_goto (t := 5) hm_140 rfl rfl ?_
        exact e_forget (L' := [some (.ref 0), some (.ref x1), some (.int x2), some (.int x3), some (.int (x4 + (1 : Int32)))]) (lf_k (lf_k (lf_k (lf_k (lf_k lf_0))))) (ih x1 x2 x3 (x4 + (1 : Int32)) y3.2 hx1 Q hf hq)
    · rw [if_neg hc1] at hf
      refine e_ic_t (t := 46) hm_140 rfl (ct_ge hc1) rfl ?_
      obtain rfl := Option.some.inj hf
      exact e_forget (L' := [none, none, none, some (.int x3), none]) (lf_d (lf_d (lf_d (lf_k (lf_d lf_0))))) hq
def nb_kindsTold (a1 : Nat) (a2 : Int32) (M : mm_M) : Option (Int32 × mm_M) :=
  (nb_kindsTold_l5 300 a1 a2 (0 : Int32) (0 : Int32) M).bind fun y1 =>
  some (y1.1, y1.2)
set_option maxRecDepth 20000 in
set_option maxHeartbeats 4000000 in
theorem c_140 {Z : ak_Z} {d : Nat} (a1 : Nat) (a2 : Int32) (M : mm_M) (ha1 : mm_is7 a1 = true) {y : Int32 × mm_M} (hf : nb_kindsTold a1 a2 M = some y) {Q : Option Value → ak_H → Prop} (hq : Q (some (.int y.1)) (mm_H y.2)) : Ev Z (d + 5) 140 0 [some (.ref 0), some (.ref a1), some (.int a2), none, none] [] (mm_H M) Q := by
  rw [nb_kindsTold] at hf
  refine e_iconst hm_140 rfl kc_iconst_0 ?_
  refine e_istore_n (L2 := [some (.ref 0), some (.ref a1), some (.int a2), some (.int (0 : Int32)), none]) hm_140 rfl rfl ?_
  refine e_iconst hm_140 rfl kc_iconst_0 ?_
  refine e_istore (L2 := [some (.ref 0), some (.ref a1), some (.int a2), some (.int (0 : Int32)), some (.int (0 : Int32))]) hm_140 rfl rfl ?_
  obtain ⟨y1, hky1, hf⟩ := mm_bd hf
  refine e_forget (L' := [some (.ref 0), some (.ref a1), some (.int a2), some (.int (0 : Int32)), some (.int (0 : Int32))]) (lf_k (lf_k (lf_k (lf_k (lf_k lf_0))))) (lc_140_5 (d := _) 300 a1 a2 (0 : Int32) (0 : Int32) M ha1 Q hky1 ?_)
  show Ev Z _ 140 46 [none, none, none, some (.int y1.1), none] [] (mm_H y1.2) Q
  refine e_iload_n hm_140 rfl rfl ?_
  obtain rfl := Option.some.inj hf
  exact e_iret hm_140 rfl rfl hq
def nb_numbersTold_l5 : Nat → Nat → Int32 → Int32 → Int32 → mm_M → Option (((Int32) × mm_M))
  | 0, _, _, _, _, _ => none
  | n + 1, x1, x2, x3, x4, M =>
    if x4 < (10 : Int32) then
      if ak_inb x2 4 = true then
      (nb_firstOtherwise x1 x2 (ak_up M.1 19 x2.toNatClampNeg x4, M.2)).bind fun y3 =>
      if y3.1 = (-1 : Int32) then
        nb_numbersTold_l5 n x1 x2 (x3 ||| ((1 : Int32) <<< (x4 &&& 31))) (x4 + (1 : Int32)) y3.2
      else
        nb_numbersTold_l5 n x1 x2 x3 (x4 + (1 : Int32)) y3.2 else none
    else
      some (x3, M)
set_option maxRecDepth 20000 in
set_option maxHeartbeats 4000000 in
theorem lc_141_5 {Z : ak_Z} {d : Nat} : ∀ (n : Nat) (x1 : Nat) (x2 : Int32) (x3 : Int32) (x4 : Int32) (M : mm_M) (hx1 : mm_is7 x1 = true) {y : ((Int32) × mm_M)} (Q : Option Value → ak_H → Prop), nb_numbersTold_l5 n x1 x2 x3 x4 M = some y → (Ev Z (d + 5) 141 46 [none, none, none, some (.int y.1), none] [] (mm_H y.2) Q) → Ev Z (d + 5) 141 5 [some (.ref 0), some (.ref x1), some (.int x2), some (.int x3), some (.int x4)] [] (mm_H M) Q := by
  intro n
  induction n with
  | zero => intro x1 x2 x3 x4 M hx1 y Q hf; cases hf
  | succ n ih =>
    intro x1 x2 x3 x4 M hx1 y Q hf hq
    rw [nb_numbersTold_l5] at hf
    refine e_iload hm_141 rfl rfl ?_
    refine e_bipush hm_141 rfl kc_bipush_10 ?_
    by_cases hc1 : x4 < (10 : Int32)
    · rw [if_pos hc1] at hf
      refine e_ic_f hm_141 rfl (cf_ge hc1) ?_
      refine e_aload_n hm_141 rfl rfl ?_
      refine e_getR hm_141 rfl rfl rfl rfl ?_
      refine e_getR hm_141 rfl rfl rfl rfl ?_
      refine e_iload_n hm_141 rfl rfl ?_
      refine e_iload hm_141 rfl rfl ?_
      obtain ⟨hi2, hf⟩ := mm_ite hf
      refine e_iast hm_141 rfl rfl hi2 ?_
      refine e_aload_n hm_141 rfl rfl ?_
      refine e_aload_n hm_141 rfl rfl ?_
      refine e_iload_n hm_141 rfl rfl ?_
      obtain ⟨y3, hky3, hf⟩ := mm_bd hf
      refine e_virt hm_141 rfl rfl rfl rfl (Nat.le_of_ble_eq_true rfl) hm_139 rfl rfl (c_139 x1 x2 (ak_up M.1 19 x2.toNatClampNeg x4, M.2) hx1 hky3 ?_)
      show Ev Z _ 141 29 [some (.ref 0), some (.ref x1), some (.int x2), some (.int x3), some (.int x4)] [.int y3.1] (mm_H y3.2) Q
      refine e_iconst hm_141 rfl kc_iconst_m1 ?_
      by_cases hc4 : y3.1 = (-1 : Int32)
      · rw [if_pos hc4] at hf
        refine e_ic_f hm_141 rfl (cf_ne hc4) ?_
        refine e_iload_n hm_141 rfl rfl ?_
        refine e_iconst hm_141 rfl kc_iconst_1 ?_
        refine e_iload hm_141 rfl rfl ?_
        refine e_ishl hm_141 rfl ?_
        refine e_ior hm_141 rfl ?_
        refine e_istore_n (L2 := [some (.ref 0), some (.ref x1), some (.int x2), some (.int (x3 ||| ((1 : Int32) <<< (x4 &&& 31)))), some (.int x4)]) hm_141 rfl rfl ?_
        refine e_iinc (L2 := [some (.ref 0), some (.ref x1), some (.int x2), some (.int (x3 ||| ((1 : Int32) <<< (x4 &&& 31)))), some (.int (x4 + (1 : Int32)))]) hm_141 rfl kc_iinc_1 rfl rfl ?_
        refine e_goto (t := 5) hm_141 rfl rfl ?_
        exact e_forget (L' := [some (.ref 0), some (.ref x1), some (.int x2), some (.int (x3 ||| ((1 : Int32) <<< (x4 &&& 31)))), some (.int (x4 + (1 : Int32)))]) (lf_k (lf_k (lf_k (lf_k (lf_k lf_0))))) (ih x1 x2 (x3 ||| ((1 : Int32) <<< (x4 &&& 31))) (x4 + (1 : Int32)) y3.2 hx1 Q hf hq)
      · rw [if_neg hc4] at hf
        refine e_ic_t (t := 40) hm_141 rfl (ct_ne hc4) rfl ?_
        refine e_iinc (L2 := [some (.ref 0), some (.ref x1), some (.int x2), some (.int x3), some (.int (x4 + (1 : Int32)))]) hm_141 rfl kc_iinc_1 rfl rfl ?_
        refine e_goto (t := 5) hm_141 rfl rfl ?_
        exact e_forget (L' := [some (.ref 0), some (.ref x1), some (.int x2), some (.int x3), some (.int (x4 + (1 : Int32)))]) (lf_k (lf_k (lf_k (lf_k (lf_k lf_0))))) (ih x1 x2 x3 (x4 + (1 : Int32)) y3.2 hx1 Q hf hq)
    · rw [if_neg hc1] at hf
      refine e_ic_t (t := 46) hm_141 rfl (ct_ge hc1) rfl ?_
      obtain rfl := Option.some.inj hf
      exact e_forget (L' := [none, none, none, some (.int x3), none]) (lf_d (lf_d (lf_d (lf_k (lf_d lf_0))))) hq
def nb_numbersTold (a1 : Nat) (a2 : Int32) (M : mm_M) : Option (Int32 × mm_M) :=
  (nb_numbersTold_l5 300 a1 a2 (0 : Int32) (0 : Int32) M).bind fun y1 =>
  some (y1.1, y1.2)
set_option maxRecDepth 20000 in
set_option maxHeartbeats 4000000 in
theorem c_141 {Z : ak_Z} {d : Nat} (a1 : Nat) (a2 : Int32) (M : mm_M) (ha1 : mm_is7 a1 = true) {y : Int32 × mm_M} (hf : nb_numbersTold a1 a2 M = some y) {Q : Option Value → ak_H → Prop} (hq : Q (some (.int y.1)) (mm_H y.2)) : Ev Z (d + 5) 141 0 [some (.ref 0), some (.ref a1), some (.int a2), none, none] [] (mm_H M) Q := by
  rw [nb_numbersTold] at hf
  refine e_iconst hm_141 rfl kc_iconst_0 ?_
  refine e_istore_n (L2 := [some (.ref 0), some (.ref a1), some (.int a2), some (.int (0 : Int32)), none]) hm_141 rfl rfl ?_
  refine e_iconst hm_141 rfl kc_iconst_0 ?_
  refine e_istore (L2 := [some (.ref 0), some (.ref a1), some (.int a2), some (.int (0 : Int32)), some (.int (0 : Int32))]) hm_141 rfl rfl ?_
  obtain ⟨y1, hky1, hf⟩ := mm_bd hf
  refine e_forget (L' := [some (.ref 0), some (.ref a1), some (.int a2), some (.int (0 : Int32)), some (.int (0 : Int32))]) (lf_k (lf_k (lf_k (lf_k (lf_k lf_0))))) (lc_141_5 (d := _) 300 a1 a2 (0 : Int32) (0 : Int32) M ha1 Q hky1 ?_)
  show Ev Z _ 141 46 [none, none, none, some (.int y1.1), none] [] (mm_H y1.2) Q
  refine e_iload_n hm_141 rfl rfl ?_
  obtain rfl := Option.some.inj hf
  exact e_iret hm_141 rfl rfl hq
def nb_isSoIfWished (a1 : Nat) (a2 : Int32) (a3 : Int32) (a4 : Int32) (M : mm_M) : Option (Int32 × mm_M) :=
  if a4 = (0 : Int32) then
    if ak_inb a2 4 = true then
    (ru_glad 17 a2 a3 (ak_up M.1 21 a2.toNatClampNeg (0 : Int32), M.2)).bind fun y3 =>
    if ak_inb a3 40 = true then
    if y3.1 = (y3.2.1 (a1 + 1) a3.toNatClampNeg) then
      some ((1 : Int32), y3.2)
    else
      some ((0 : Int32), y3.2) else none else none
  else
    if ak_inb a2 4 = true then
    (ru_glad 17 a2 a3 (ak_up M.1 21 a2.toNatClampNeg ((1 : Int32) <<< (a3 &&& 31)), M.2)).bind fun y7 =>
    if ak_inb a3 40 = true then
    if y7.1 = (y7.2.1 (a1 + 1) a3.toNatClampNeg) then
      some ((1 : Int32), y7.2)
    else
      some ((0 : Int32), y7.2) else none else none
set_option maxRecDepth 20000 in
set_option maxHeartbeats 4000000 in
theorem c_143 {Z : ak_Z} {d : Nat} (a1 : Nat) (a2 : Int32) (a3 : Int32) (a4 : Int32) (M : mm_M) (ha1 : mm_is7 a1 = true) {y : Int32 × mm_M} (hf : nb_isSoIfWished a1 a2 a3 a4 M = some y) {Q : Option Value → ak_H → Prop} (hq : Q (some (.int y.1)) (mm_H y.2)) : Ev Z (d + 4) 143 0 [some (.ref 0), some (.ref a1), some (.int a2), some (.int a3), some (.int a4)] [] (mm_H M) Q := by
  rw [nb_isSoIfWished] at hf
  refine e_aload_n hm_143 rfl rfl ?_
  refine e_getR hm_143 rfl rfl rfl rfl ?_
  refine e_getR hm_143 rfl rfl rfl rfl ?_
  refine e_iload_n hm_143 rfl rfl ?_
  refine e_iload hm_143 rfl rfl ?_
  by_cases hc1 : a4 = (0 : Int32)
  · rw [if_pos hc1] at hf
    refine e_if_t (t := 19) hm_143 rfl (ct_eq hc1) rfl ?_
    refine e_iconst hm_143 rfl kc_iconst_0 ?_
    obtain ⟨hi2, hf⟩ := mm_ite hf
    refine e_iast hm_143 rfl rfl hi2 ?_
    refine e_aload_n hm_143 rfl rfl ?_
    refine e_getR hm_143 rfl rfl rfl rfl ?_
    refine e_aload_n hm_143 rfl rfl ?_
    refine e_getR hm_143 rfl rfl rfl rfl ?_
    refine e_iload_n hm_143 rfl rfl ?_
    refine e_iload_n hm_143 rfl rfl ?_
    obtain ⟨y3, hky3, hf⟩ := mm_bd hf
    refine e_virt hm_143 rfl rfl rfl rfl (Nat.le_of_ble_eq_true rfl) hm_48 rfl rfl (c_48 17 a2 a3 (ak_up M.1 21 a2.toNatClampNeg (0 : Int32), M.2) rfl hky3 ?_)
    show Ev Z _ 143 34 [some (.ref 0), some (.ref a1), some (.int a2), some (.int a3), some (.int a4)] [.int y3.1] (mm_H y3.2) Q
    refine e_aload_n hm_143 rfl rfl ?_
    refine e_getR hm_143 rfl (mm_cl7 ha1) rfl (mm_rf7_2 ha1) ?_
    refine e_iload_n hm_143 rfl rfl ?_
    obtain ⟨hi4, hf⟩ := mm_ite hf
    refine e_iald hm_143 rfl (mm_ar7_2 ha1) hi4 ?_
    by_cases hc5 : y3.1 = (y3.2.1 (a1 + 1) a3.toNatClampNeg)
    · rw [if_pos hc5] at hf
      refine e_ic_f hm_143 rfl (cf_ne hc5) ?_
      refine e_iconst hm_143 rfl kc_iconst_1 ?_
      refine e_goto (t := 48) hm_143 rfl rfl ?_
      obtain rfl := Option.some.inj hf
      exact e_zret hm_143 rfl rfl (by decide) hq
    · rw [if_neg hc5] at hf
      refine e_ic_t (t := 47) hm_143 rfl (ct_ne hc5) rfl ?_
      refine e_iconst hm_143 rfl kc_iconst_0 ?_
      obtain rfl := Option.some.inj hf
      exact e_zret hm_143 rfl rfl (by decide) hq
  · rw [if_neg hc1] at hf
    refine e_if_f hm_143 rfl (cf_eq hc1) ?_
    refine e_iconst hm_143 rfl kc_iconst_1 ?_
    refine e_iload_n hm_143 rfl rfl ?_
    refine e_ishl hm_143 rfl ?_
    refine e_goto (t := 20) hm_143 rfl rfl ?_
    obtain ⟨hi6, hf⟩ := mm_ite hf
    refine e_iast hm_143 rfl rfl hi6 ?_
    refine e_aload_n hm_143 rfl rfl ?_
    refine e_getR hm_143 rfl rfl rfl rfl ?_
    refine e_aload_n hm_143 rfl rfl ?_
    refine e_getR hm_143 rfl rfl rfl rfl ?_
    refine e_iload_n hm_143 rfl rfl ?_
    refine e_iload_n hm_143 rfl rfl ?_
    obtain ⟨y7, hky7, hf⟩ := mm_bd hf
    refine e_virt hm_143 rfl rfl rfl rfl (Nat.le_of_ble_eq_true rfl) hm_48 rfl rfl (c_48 17 a2 a3 (ak_up M.1 21 a2.toNatClampNeg ((1 : Int32) <<< (a3 &&& 31)), M.2) rfl hky7 ?_)
    show Ev Z _ 143 34 [some (.ref 0), some (.ref a1), some (.int a2), some (.int a3), some (.int a4)] [.int y7.1] (mm_H y7.2) Q
    refine e_aload_n hm_143 rfl rfl ?_
    refine e_getR hm_143 rfl (mm_cl7 ha1) rfl (mm_rf7_2 ha1) ?_
    refine e_iload_n hm_143 rfl rfl ?_
    obtain ⟨hi8, hf⟩ := mm_ite hf
    refine e_iald hm_143 rfl (mm_ar7_2 ha1) hi8 ?_
    by_cases hc9 : y7.1 = (y7.2.1 (a1 + 1) a3.toNatClampNeg)
    · rw [if_pos hc9] at hf
      refine e_ic_f hm_143 rfl (cf_ne hc9) ?_
      refine e_iconst hm_143 rfl kc_iconst_1 ?_
      refine e_goto (t := 48) hm_143 rfl rfl ?_
      obtain rfl := Option.some.inj hf
      exact e_zret hm_143 rfl rfl (by decide) hq
    · rw [if_neg hc9] at hf
      refine e_ic_t (t := 47) hm_143 rfl (ct_ne hc9) rfl ?_
      refine e_iconst hm_143 rfl kc_iconst_0 ?_
      obtain rfl := Option.some.inj hf
      exact e_zret hm_143 rfl rfl (by decide) hq
def nb_wishesTold_l5 : Nat → Nat → Int32 → Int32 → Int32 → mm_M → Option (((Int32) × mm_M))
  | 0, _, _, _, _, _ => none
  | n + 1, x1, x2, x3, x4, M =>
    if x4 < (8 : Int32) then
      (nb_isSoIfWished x1 x2 x4 (0 : Int32) M).bind fun y2 =>
      if y2.1 = (0 : Int32) then
        (nb_isSoIfWished x1 x2 x4 (1 : Int32) y2.2).bind fun y4 =>
        if y4.1 = (0 : Int32) then
          nb_wishesTold_l5 n x1 x2 (x3 * (((0 : Int32) + (0 : Int32)) + (0 : Int32))) (x4 + (1 : Int32)) y4.2
        else
          nb_wishesTold_l5 n x1 x2 (x3 * (((0 : Int32) + (0 : Int32)) + (1 : Int32))) (x4 + (1 : Int32)) y4.2
      else
        (nb_isSoIfWished x1 x2 x4 (1 : Int32) y2.2).bind fun y6 =>
        if y6.1 = (0 : Int32) then
          nb_wishesTold_l5 n x1 x2 (x3 * (((0 : Int32) + (1 : Int32)) + (0 : Int32))) (x4 + (1 : Int32)) y6.2
        else
          nb_wishesTold_l5 n x1 x2 (x3 * (((0 : Int32) + (1 : Int32)) + (1 : Int32))) (x4 + (1 : Int32)) y6.2
    else
      some (x3, M)
set_option maxRecDepth 20000 in
set_option maxHeartbeats 4000000 in
theorem lc_142_5 {Z : ak_Z} {d : Nat} : ∀ (n : Nat) (x1 : Nat) (x2 : Int32) (x3 : Int32) (x4 : Int32) (M : mm_M) (hx1 : mm_is7 x1 = true) {y : ((Int32) × mm_M)} (Q : Option Value → ak_H → Prop), nb_wishesTold_l5 n x1 x2 x3 x4 M = some y → (Ev Z (d + 5) 142 70 [none, none, none, some (.int y.1), none, none] [] (mm_H y.2) Q) → Ev Z (d + 5) 142 5 [some (.ref 0), some (.ref x1), some (.int x2), some (.int x3), some (.int x4), none] [] (mm_H M) Q := by
  intro n
  induction n with
  | zero => intro x1 x2 x3 x4 M hx1 y Q hf; cases hf
  | succ n ih =>
    intro x1 x2 x3 x4 M hx1 y Q hf hq
    rw [nb_wishesTold_l5] at hf
    refine e_iload hm_142 rfl rfl ?_
    refine e_bipush hm_142 rfl kc_bipush_8 ?_
    by_cases hc1 : x4 < (8 : Int32)
    · rw [if_pos hc1] at hf
      refine e_ic_f hm_142 rfl (cf_ge hc1) ?_
      refine e_iconst hm_142 rfl kc_iconst_0 ?_
      refine e_istore (L2 := [some (.ref 0), some (.ref x1), some (.int x2), some (.int x3), some (.int x4), some (.int (0 : Int32))]) hm_142 rfl rfl ?_
      refine e_iload hm_142 rfl rfl ?_
      refine e_aload_n hm_142 rfl rfl ?_
      refine e_aload_n hm_142 rfl rfl ?_
      refine e_iload_n hm_142 rfl rfl ?_
      refine e_iload hm_142 rfl rfl ?_
      refine e_iconst hm_142 rfl kc_iconst_0 ?_
      obtain ⟨y2, hky2, hf⟩ := mm_bd hf
      refine e_virt hm_142 rfl rfl rfl rfl (Nat.le_of_ble_eq_true rfl) hm_143 rfl rfl (c_143 x1 x2 x4 (0 : Int32) M hx1 hky2 ?_)
      show Ev Z _ 142 26 [some (.ref 0), some (.ref x1), some (.int x2), some (.int x3), some (.int x4), some (.int (0 : Int32))] [.int y2.1, .int (0 : Int32)] (mm_H y2.2) Q
      by_cases hc3 : y2.1 = (0 : Int32)
      · rw [if_pos hc3] at hf
        refine e_if_t (t := 33) hm_142 rfl (ct_eq hc3) rfl ?_
        refine e_iconst hm_142 rfl kc_iconst_0 ?_
        refine e_iadd hm_142 rfl ?_
        refine e_istore (L2 := [some (.ref 0), some (.ref x1), some (.int x2), some (.int x3), some (.int x4), some (.int ((0 : Int32) + (0 : Int32)))]) hm_142 rfl rfl ?_
        refine e_iload hm_142 rfl rfl ?_
        refine e_aload_n hm_142 rfl rfl ?_
        refine e_aload_n hm_142 rfl rfl ?_
        refine e_iload_n hm_142 rfl rfl ?_
        refine e_iload hm_142 rfl rfl ?_
        refine e_iconst hm_142 rfl kc_iconst_1 ?_
        obtain ⟨y4, hky4, hf⟩ := mm_bd hf
        refine e_virt hm_142 rfl rfl rfl rfl (Nat.le_of_ble_eq_true rfl) hm_143 rfl rfl (c_143 x1 x2 x4 (1 : Int32) y2.2 hx1 hky4 ?_)
        show Ev Z _ 142 48 [some (.ref 0), some (.ref x1), some (.int x2), some (.int x3), some (.int x4), some (.int ((0 : Int32) + (0 : Int32)))] [.int y4.1, .int ((0 : Int32) + (0 : Int32))] (mm_H y4.2) Q
        by_cases hc5 : y4.1 = (0 : Int32)
        · rw [if_pos hc5] at hf
          refine e_if_t (t := 55) hm_142 rfl (ct_eq hc5) rfl ?_
          refine e_iconst hm_142 rfl kc_iconst_0 ?_
          refine e_iadd hm_142 rfl ?_
          refine e_istore (L2 := [some (.ref 0), some (.ref x1), some (.int x2), some (.int x3), some (.int x4), some (.int (((0 : Int32) + (0 : Int32)) + (0 : Int32)))]) hm_142 rfl rfl ?_
          refine e_iload_n hm_142 rfl rfl ?_
          refine e_iload hm_142 rfl rfl ?_
          refine e_imul hm_142 rfl ?_
          refine e_istore_n (L2 := [some (.ref 0), some (.ref x1), some (.int x2), some (.int (x3 * (((0 : Int32) + (0 : Int32)) + (0 : Int32)))), some (.int x4), some (.int (((0 : Int32) + (0 : Int32)) + (0 : Int32)))]) hm_142 rfl rfl ?_
          refine e_iinc (L2 := [some (.ref 0), some (.ref x1), some (.int x2), some (.int (x3 * (((0 : Int32) + (0 : Int32)) + (0 : Int32)))), some (.int (x4 + (1 : Int32))), some (.int (((0 : Int32) + (0 : Int32)) + (0 : Int32)))]) hm_142 rfl kc_iinc_1 rfl rfl ?_
          refine e_goto (t := 5) hm_142 rfl rfl ?_
          exact e_forget (L' := [some (.ref 0), some (.ref x1), some (.int x2), some (.int (x3 * (((0 : Int32) + (0 : Int32)) + (0 : Int32)))), some (.int (x4 + (1 : Int32))), none]) (lf_k (lf_k (lf_k (lf_k (lf_k (lf_d lf_0)))))) (ih x1 x2 (x3 * (((0 : Int32) + (0 : Int32)) + (0 : Int32))) (x4 + (1 : Int32)) y4.2 hx1 Q hf hq)
        · rw [if_neg hc5] at hf
          refine e_if_f hm_142 rfl (cf_eq hc5) ?_
          refine e_iconst hm_142 rfl kc_iconst_1 ?_
          refine e_goto (t := 56) hm_142 rfl rfl ?_
          refine e_iadd hm_142 rfl ?_
          refine e_istore (L2 := [some (.ref 0), some (.ref x1), some (.int x2), some (.int x3), some (.int x4), some (.int (((0 : Int32) + (0 : Int32)) + (1 : Int32)))]) hm_142 rfl rfl ?_
          refine e_iload_n hm_142 rfl rfl ?_
          refine e_iload hm_142 rfl rfl ?_
          refine e_imul hm_142 rfl ?_
          refine e_istore_n (L2 := [some (.ref 0), some (.ref x1), some (.int x2), some (.int (x3 * (((0 : Int32) + (0 : Int32)) + (1 : Int32)))), some (.int x4), some (.int (((0 : Int32) + (0 : Int32)) + (1 : Int32)))]) hm_142 rfl rfl ?_
          refine e_iinc (L2 := [some (.ref 0), some (.ref x1), some (.int x2), some (.int (x3 * (((0 : Int32) + (0 : Int32)) + (1 : Int32)))), some (.int (x4 + (1 : Int32))), some (.int (((0 : Int32) + (0 : Int32)) + (1 : Int32)))]) hm_142 rfl kc_iinc_1 rfl rfl ?_
          refine e_goto (t := 5) hm_142 rfl rfl ?_
          exact e_forget (L' := [some (.ref 0), some (.ref x1), some (.int x2), some (.int (x3 * (((0 : Int32) + (0 : Int32)) + (1 : Int32)))), some (.int (x4 + (1 : Int32))), none]) (lf_k (lf_k (lf_k (lf_k (lf_k (lf_d lf_0)))))) (ih x1 x2 (x3 * (((0 : Int32) + (0 : Int32)) + (1 : Int32))) (x4 + (1 : Int32)) y4.2 hx1 Q hf hq)
      · rw [if_neg hc3] at hf
        refine e_if_f hm_142 rfl (cf_eq hc3) ?_
        refine e_iconst hm_142 rfl kc_iconst_1 ?_
        refine e_goto (t := 34) hm_142 rfl rfl ?_
        refine e_iadd hm_142 rfl ?_
        refine e_istore (L2 := [some (.ref 0), some (.ref x1), some (.int x2), some (.int x3), some (.int x4), some (.int ((0 : Int32) + (1 : Int32)))]) hm_142 rfl rfl ?_
        refine e_iload hm_142 rfl rfl ?_
        refine e_aload_n hm_142 rfl rfl ?_
        refine e_aload_n hm_142 rfl rfl ?_
        refine e_iload_n hm_142 rfl rfl ?_
        refine e_iload hm_142 rfl rfl ?_
        refine e_iconst hm_142 rfl kc_iconst_1 ?_
        obtain ⟨y6, hky6, hf⟩ := mm_bd hf
        refine e_virt hm_142 rfl rfl rfl rfl (Nat.le_of_ble_eq_true rfl) hm_143 rfl rfl (c_143 x1 x2 x4 (1 : Int32) y2.2 hx1 hky6 ?_)
        show Ev Z _ 142 48 [some (.ref 0), some (.ref x1), some (.int x2), some (.int x3), some (.int x4), some (.int ((0 : Int32) + (1 : Int32)))] [.int y6.1, .int ((0 : Int32) + (1 : Int32))] (mm_H y6.2) Q
        by_cases hc7 : y6.1 = (0 : Int32)
        · rw [if_pos hc7] at hf
          refine e_if_t (t := 55) hm_142 rfl (ct_eq hc7) rfl ?_
          refine e_iconst hm_142 rfl kc_iconst_0 ?_
          refine e_iadd hm_142 rfl ?_
          refine e_istore (L2 := [some (.ref 0), some (.ref x1), some (.int x2), some (.int x3), some (.int x4), some (.int (((0 : Int32) + (1 : Int32)) + (0 : Int32)))]) hm_142 rfl rfl ?_
          refine e_iload_n hm_142 rfl rfl ?_
          refine e_iload hm_142 rfl rfl ?_
          refine e_imul hm_142 rfl ?_
          refine e_istore_n (L2 := [some (.ref 0), some (.ref x1), some (.int x2), some (.int (x3 * (((0 : Int32) + (1 : Int32)) + (0 : Int32)))), some (.int x4), some (.int (((0 : Int32) + (1 : Int32)) + (0 : Int32)))]) hm_142 rfl rfl ?_
          refine e_iinc (L2 := [some (.ref 0), some (.ref x1), some (.int x2), some (.int (x3 * (((0 : Int32) + (1 : Int32)) + (0 : Int32)))), some (.int (x4 + (1 : Int32))), some (.int (((0 : Int32) + (1 : Int32)) + (0 : Int32)))]) hm_142 rfl kc_iinc_1 rfl rfl ?_
          refine e_goto (t := 5) hm_142 rfl rfl ?_
          exact e_forget (L' := [some (.ref 0), some (.ref x1), some (.int x2), some (.int (x3 * (((0 : Int32) + (1 : Int32)) + (0 : Int32)))), some (.int (x4 + (1 : Int32))), none]) (lf_k (lf_k (lf_k (lf_k (lf_k (lf_d lf_0)))))) (ih x1 x2 (x3 * (((0 : Int32) + (1 : Int32)) + (0 : Int32))) (x4 + (1 : Int32)) y6.2 hx1 Q hf hq)
        · rw [if_neg hc7] at hf
          refine e_if_f hm_142 rfl (cf_eq hc7) ?_
          refine e_iconst hm_142 rfl kc_iconst_1 ?_
          refine e_goto (t := 56) hm_142 rfl rfl ?_
          refine e_iadd hm_142 rfl ?_
          refine e_istore (L2 := [some (.ref 0), some (.ref x1), some (.int x2), some (.int x3), some (.int x4), some (.int (((0 : Int32) + (1 : Int32)) + (1 : Int32)))]) hm_142 rfl rfl ?_
          refine e_iload_n hm_142 rfl rfl ?_
          refine e_iload hm_142 rfl rfl ?_
          refine e_imul hm_142 rfl ?_
          refine e_istore_n (L2 := [some (.ref 0), some (.ref x1), some (.int x2), some (.int (x3 * (((0 : Int32) + (1 : Int32)) + (1 : Int32)))), some (.int x4), some (.int (((0 : Int32) + (1 : Int32)) + (1 : Int32)))]) hm_142 rfl rfl ?_
          refine e_iinc (L2 := [some (.ref 0), some (.ref x1), some (.int x2), some (.int (x3 * (((0 : Int32) + (1 : Int32)) + (1 : Int32)))), some (.int (x4 + (1 : Int32))), some (.int (((0 : Int32) + (1 : Int32)) + (1 : Int32)))]) hm_142 rfl kc_iinc_1 rfl rfl ?_
          refine e_goto (t := 5) hm_142 rfl rfl ?_
          exact e_forget (L' := [some (.ref 0), some (.ref x1), some (.int x2), some (.int (x3 * (((0 : Int32) + (1 : Int32)) + (1 : Int32)))), some (.int (x4 + (1 : Int32))), none]) (lf_k (lf_k (lf_k (lf_k (lf_k (lf_d lf_0)))))) (ih x1 x2 (x3 * (((0 : Int32) + (1 : Int32)) + (1 : Int32))) (x4 + (1 : Int32)) y6.2 hx1 Q hf hq)
    · rw [if_neg hc1] at hf
      refine e_ic_t (t := 70) hm_142 rfl (ct_ge hc1) rfl ?_
      obtain rfl := Option.some.inj hf
      exact e_forget (L' := [none, none, none, some (.int x3), none, none]) (lf_d (lf_d (lf_d (lf_k (lf_d (lf_k lf_0)))))) hq
def nb_wishesTold (a1 : Nat) (a2 : Int32) (M : mm_M) : Option (Int32 × mm_M) :=
  (nb_wishesTold_l5 300 a1 a2 (1 : Int32) (0 : Int32) M).bind fun y1 =>
  some (y1.1, y1.2)
set_option maxRecDepth 20000 in
set_option maxHeartbeats 4000000 in
theorem c_142 {Z : ak_Z} {d : Nat} (a1 : Nat) (a2 : Int32) (M : mm_M) (ha1 : mm_is7 a1 = true) {y : Int32 × mm_M} (hf : nb_wishesTold a1 a2 M = some y) {Q : Option Value → ak_H → Prop} (hq : Q (some (.int y.1)) (mm_H y.2)) : Ev Z (d + 5) 142 0 [some (.ref 0), some (.ref a1), some (.int a2), none, none, none] [] (mm_H M) Q := by
  rw [nb_wishesTold] at hf
  refine e_iconst hm_142 rfl kc_iconst_1 ?_
  refine e_istore_n (L2 := [some (.ref 0), some (.ref a1), some (.int a2), some (.int (1 : Int32)), none, none]) hm_142 rfl rfl ?_
  refine e_iconst hm_142 rfl kc_iconst_0 ?_
  refine e_istore (L2 := [some (.ref 0), some (.ref a1), some (.int a2), some (.int (1 : Int32)), some (.int (0 : Int32)), none]) hm_142 rfl rfl ?_
  obtain ⟨y1, hky1, hf⟩ := mm_bd hf
  refine e_forget (L' := [some (.ref 0), some (.ref a1), some (.int a2), some (.int (1 : Int32)), some (.int (0 : Int32)), none]) (lf_k (lf_k (lf_k (lf_k (lf_k (lf_k lf_0)))))) (lc_142_5 (d := _) 300 a1 a2 (1 : Int32) (0 : Int32) M ha1 Q hky1 ?_)
  show Ev Z _ 142 70 [none, none, none, some (.int y1.1), none, none] [] (mm_H y1.2) Q
  refine e_iload_n hm_142 rfl rfl ?_
  obtain rfl := Option.some.inj hf
  exact e_iret hm_142 rfl rfl hq
def nb_leastWishesTold_l5 : Nat → Nat → Int32 → Int32 → Int32 → mm_M → Option ((Int32 × mm_M) ⊕ ((Int32) × mm_M))
  | 0, _, _, _, _, _ => none
  | n + 1, x1, x2, x3, x4, M =>
    if x4 < (8 : Int32) then
      (nb_isSoIfWished x1 x2 x4 (0 : Int32) M).bind fun y2 =>
      if y2.1 = (0 : Int32) then
        (nb_isSoIfWished x1 x2 x4 (1 : Int32) y2.2).bind fun y4 =>
        if y4.1 = (0 : Int32) then
          some (.inl ((-1 : Int32), y4.2))
        else
          nb_leastWishesTold_l5 n x1 x2 (x3 ||| ((1 : Int32) <<< (x4 &&& 31))) (x4 + (1 : Int32)) y4.2
      else
        nb_leastWishesTold_l5 n x1 x2 x3 (x4 + (1 : Int32)) y2.2
    else
      some (.inr (x3, M))
set_option maxRecDepth 20000 in
set_option maxHeartbeats 4000000 in
theorem lc_144_5 {Z : ak_Z} {d : Nat} : ∀ (n : Nat) (x1 : Nat) (x2 : Int32) (x3 : Int32) (x4 : Int32) (M : mm_M) (hx1 : mm_is7 x1 = true) {y : (Int32 × mm_M) ⊕ ((Int32) × mm_M)} (Q : Option Value → ak_H → Prop), nb_leastWishesTold_l5 n x1 x2 x3 x4 M = some y → (match y with | .inl yr => Q (some (.int yr.1)) (mm_H yr.2) | .inr yv => Ev Z (d + 5) 144 54 [none, none, none, some (.int yv.1), none] [] (mm_H yv.2) Q) → Ev Z (d + 5) 144 5 [some (.ref 0), some (.ref x1), some (.int x2), some (.int x3), some (.int x4)] [] (mm_H M) Q := by
  intro n
  induction n with
  | zero => intro x1 x2 x3 x4 M hx1 y Q hf; cases hf
  | succ n ih =>
    intro x1 x2 x3 x4 M hx1 y Q hf hq
    rw [nb_leastWishesTold_l5] at hf
    refine e_iload hm_144 rfl rfl ?_
    refine e_bipush hm_144 rfl kc_bipush_8 ?_
    by_cases hc1 : x4 < (8 : Int32)
    · rw [if_pos hc1] at hf
      refine e_ic_f hm_144 rfl (cf_ge hc1) ?_
      refine e_aload_n hm_144 rfl rfl ?_
      refine e_aload_n hm_144 rfl rfl ?_
      refine e_iload_n hm_144 rfl rfl ?_
      refine e_iload hm_144 rfl rfl ?_
      refine e_iconst hm_144 rfl kc_iconst_0 ?_
      obtain ⟨y2, hky2, hf⟩ := mm_bd hf
      refine e_virt hm_144 rfl rfl rfl rfl (Nat.le_of_ble_eq_true rfl) hm_143 rfl rfl (c_143 x1 x2 x4 (0 : Int32) M hx1 hky2 ?_)
      show Ev Z _ 144 21 [some (.ref 0), some (.ref x1), some (.int x2), some (.int x3), some (.int x4)] [.int y2.1] (mm_H y2.2) Q
      by_cases hc3 : y2.1 = (0 : Int32)
      · rw [if_pos hc3] at hf
        refine e_if_t (t := 27) hm_144 rfl (ct_eq hc3) rfl ?_
        refine e_aload_n hm_144 rfl rfl ?_
        refine e_aload_n hm_144 rfl rfl ?_
        refine e_iload_n hm_144 rfl rfl ?_
        refine e_iload hm_144 rfl rfl ?_
        refine e_iconst hm_144 rfl kc_iconst_1 ?_
        obtain ⟨y4, hky4, hf⟩ := mm_bd hf
        refine e_virt hm_144 rfl rfl rfl rfl (Nat.le_of_ble_eq_true rfl) hm_143 rfl rfl (c_143 x1 x2 x4 (1 : Int32) y2.2 hx1 hky4 ?_)
        show Ev Z _ 144 36 [some (.ref 0), some (.ref x1), some (.int x2), some (.int x3), some (.int x4)] [.int y4.1] (mm_H y4.2) Q
        by_cases hc5 : y4.1 = (0 : Int32)
        · rw [if_pos hc5] at hf
          refine e_if_f hm_144 rfl (cf_ne hc5) ?_
          refine e_iconst hm_144 rfl kc_iconst_m1 ?_
          obtain rfl := Option.some.inj hf
          exact e_iret hm_144 rfl rfl hq
        · rw [if_neg hc5] at hf
          refine e_if_t (t := 41) hm_144 rfl (ct_ne hc5) rfl ?_
          refine e_iload_n hm_144 rfl rfl ?_
          refine e_iconst hm_144 rfl kc_iconst_1 ?_
          refine e_iload hm_144 rfl rfl ?_
          refine e_ishl hm_144 rfl ?_
          refine e_ior hm_144 rfl ?_
          refine e_istore_n (L2 := [some (.ref 0), some (.ref x1), some (.int x2), some (.int (x3 ||| ((1 : Int32) <<< (x4 &&& 31)))), some (.int x4)]) hm_144 rfl rfl ?_
          refine e_iinc (L2 := [some (.ref 0), some (.ref x1), some (.int x2), some (.int (x3 ||| ((1 : Int32) <<< (x4 &&& 31)))), some (.int (x4 + (1 : Int32)))]) hm_144 rfl kc_iinc_1 rfl rfl ?_
          refine e_goto (t := 5) hm_144 rfl rfl ?_
          exact e_forget (L' := [some (.ref 0), some (.ref x1), some (.int x2), some (.int (x3 ||| ((1 : Int32) <<< (x4 &&& 31)))), some (.int (x4 + (1 : Int32)))]) (lf_k (lf_k (lf_k (lf_k (lf_k lf_0))))) (ih x1 x2 (x3 ||| ((1 : Int32) <<< (x4 &&& 31))) (x4 + (1 : Int32)) y4.2 hx1 Q hf hq)
      · rw [if_neg hc3] at hf
        refine e_if_f hm_144 rfl (cf_eq hc3) ?_
        refine e_goto (t := 48) hm_144 rfl rfl ?_
        refine e_iinc (L2 := [some (.ref 0), some (.ref x1), some (.int x2), some (.int x3), some (.int (x4 + (1 : Int32)))]) hm_144 rfl kc_iinc_1 rfl rfl ?_
        refine e_goto (t := 5) hm_144 rfl rfl ?_
        exact e_forget (L' := [some (.ref 0), some (.ref x1), some (.int x2), some (.int x3), some (.int (x4 + (1 : Int32)))]) (lf_k (lf_k (lf_k (lf_k (lf_k lf_0))))) (ih x1 x2 x3 (x4 + (1 : Int32)) y2.2 hx1 Q hf hq)
    · rw [if_neg hc1] at hf
      refine e_ic_t (t := 54) hm_144 rfl (ct_ge hc1) rfl ?_
      obtain rfl := Option.some.inj hf
      exact e_forget (L' := [none, none, none, some (.int x3), none]) (lf_d (lf_d (lf_d (lf_k (lf_d lf_0))))) hq
def nb_leastWishesTold (a1 : Nat) (a2 : Int32) (M : mm_M) : Option (Int32 × mm_M) :=
  (nb_leastWishesTold_l5 300 a1 a2 (0 : Int32) (0 : Int32) M).bind fun y1 => match y1 with
  | .inl y1r => some y1r
  | .inr y1v => some (y1v.1, y1v.2)
set_option maxRecDepth 20000 in
set_option maxHeartbeats 4000000 in
theorem c_144 {Z : ak_Z} {d : Nat} (a1 : Nat) (a2 : Int32) (M : mm_M) (ha1 : mm_is7 a1 = true) {y : Int32 × mm_M} (hf : nb_leastWishesTold a1 a2 M = some y) {Q : Option Value → ak_H → Prop} (hq : Q (some (.int y.1)) (mm_H y.2)) : Ev Z (d + 5) 144 0 [some (.ref 0), some (.ref a1), some (.int a2), none, none] [] (mm_H M) Q := by
  rw [nb_leastWishesTold] at hf
  refine e_iconst hm_144 rfl kc_iconst_0 ?_
  refine e_istore_n (L2 := [some (.ref 0), some (.ref a1), some (.int a2), some (.int (0 : Int32)), none]) hm_144 rfl rfl ?_
  refine e_iconst hm_144 rfl kc_iconst_0 ?_
  refine e_istore (L2 := [some (.ref 0), some (.ref a1), some (.int a2), some (.int (0 : Int32)), some (.int (0 : Int32))]) hm_144 rfl rfl ?_
  obtain ⟨y1, hky1, hf⟩ := mm_bd hf
  refine e_forget (L' := [some (.ref 0), some (.ref a1), some (.int a2), some (.int (0 : Int32)), some (.int (0 : Int32))]) (lf_k (lf_k (lf_k (lf_k (lf_k lf_0))))) (lc_144_5 (d := _) 300 a1 a2 (0 : Int32) (0 : Int32) M ha1 Q hky1 ?_)
  rcases y1 with y1r | y1v
  · obtain rfl := Option.some.inj hf
    exact hq
  · show Ev Z _ 144 54 [none, none, none, some (.int y1v.1), none] [] (mm_H y1v.2) Q
    refine e_iload_n hm_144 rfl rfl ?_
    obtain rfl := Option.some.inj hf
    exact e_iret hm_144 rfl rfl hq
def nb_textsTold_l5 : Nat → Nat → Int32 → Int32 → Int32 → mm_M → Option (((Int32) × mm_M))
  | 0, _, _, _, _, _ => none
  | n + 1, x1, x2, x3, x4, M =>
    if x4 < (M.1 26 0) then
      (nb_firstOtherwise x1 x2 (ak_up M.1 17 3 x4, M.2)).bind fun y2 =>
      if y2.1 = (-1 : Int32) then
        nb_textsTold_l5 n x1 x2 (x3 ||| ((1 : Int32) <<< (x4 &&& 31))) (x4 + (1 : Int32)) y2.2
      else
        nb_textsTold_l5 n x1 x2 x3 (x4 + (1 : Int32)) y2.2
    else
      some (x3, M)
set_option maxRecDepth 20000 in
set_option maxHeartbeats 4000000 in
theorem lc_145_5 {Z : ak_Z} {d : Nat} : ∀ (n : Nat) (x1 : Nat) (x2 : Int32) (x3 : Int32) (x4 : Int32) (M : mm_M) (hx1 : mm_is7 x1 = true) {y : ((Int32) × mm_M)} (Q : Option Value → ak_H → Prop), nb_textsTold_l5 n x1 x2 x3 x4 M = some y → (Ev Z (d + 5) 145 49 [none, none, none, some (.int y.1), none] [] (mm_H y.2) Q) → Ev Z (d + 5) 145 5 [some (.ref 0), some (.ref x1), some (.int x2), some (.int x3), some (.int x4)] [] (mm_H M) Q := by
  intro n
  induction n with
  | zero => intro x1 x2 x3 x4 M hx1 y Q hf; cases hf
  | succ n ih =>
    intro x1 x2 x3 x4 M hx1 y Q hf hq
    rw [nb_textsTold_l5] at hf
    refine e_iload hm_145 rfl rfl ?_
    refine e_aload_n hm_145 rfl rfl ?_
    refine e_getR hm_145 rfl rfl rfl rfl ?_
    refine e_getI hm_145 rfl rfl rfl ?_
    by_cases hc1 : x4 < (M.1 26 0)
    · rw [if_pos hc1] at hf
      refine e_ic_f hm_145 rfl (cf_ge hc1) ?_
      refine e_aload_n hm_145 rfl rfl ?_
      refine e_getR hm_145 rfl rfl rfl rfl ?_
      refine e_iload hm_145 rfl rfl ?_
      refine e_putI hm_145 rfl rfl rfl ?_
      refine e_aload_n hm_145 rfl rfl ?_
      refine e_aload_n hm_145 rfl rfl ?_
      refine e_iload_n hm_145 rfl rfl ?_
      obtain ⟨y2, hky2, hf⟩ := mm_bd hf
      refine e_virt hm_145 rfl rfl rfl rfl (Nat.le_of_ble_eq_true rfl) hm_139 rfl rfl (c_139 x1 x2 (ak_up M.1 17 3 x4, M.2) hx1 hky2 ?_)
      show Ev Z _ 145 32 [some (.ref 0), some (.ref x1), some (.int x2), some (.int x3), some (.int x4)] [.int y2.1] (mm_H y2.2) Q
      refine e_iconst hm_145 rfl kc_iconst_m1 ?_
      by_cases hc3 : y2.1 = (-1 : Int32)
      · rw [if_pos hc3] at hf
        refine e_ic_f hm_145 rfl (cf_ne hc3) ?_
        refine e_iload_n hm_145 rfl rfl ?_
        refine e_iconst hm_145 rfl kc_iconst_1 ?_
        refine e_iload hm_145 rfl rfl ?_
        refine e_ishl hm_145 rfl ?_
        refine e_ior hm_145 rfl ?_
        refine e_istore_n (L2 := [some (.ref 0), some (.ref x1), some (.int x2), some (.int (x3 ||| ((1 : Int32) <<< (x4 &&& 31)))), some (.int x4)]) hm_145 rfl rfl ?_
        refine e_iinc (L2 := [some (.ref 0), some (.ref x1), some (.int x2), some (.int (x3 ||| ((1 : Int32) <<< (x4 &&& 31)))), some (.int (x4 + (1 : Int32)))]) hm_145 rfl kc_iinc_1 rfl rfl ?_
        refine e_goto (t := 5) hm_145 rfl rfl ?_
        exact e_forget (L' := [some (.ref 0), some (.ref x1), some (.int x2), some (.int (x3 ||| ((1 : Int32) <<< (x4 &&& 31)))), some (.int (x4 + (1 : Int32)))]) (lf_k (lf_k (lf_k (lf_k (lf_k lf_0))))) (ih x1 x2 (x3 ||| ((1 : Int32) <<< (x4 &&& 31))) (x4 + (1 : Int32)) y2.2 hx1 Q hf hq)
      · rw [if_neg hc3] at hf
        refine e_ic_t (t := 43) hm_145 rfl (ct_ne hc3) rfl ?_
        refine e_iinc (L2 := [some (.ref 0), some (.ref x1), some (.int x2), some (.int x3), some (.int (x4 + (1 : Int32)))]) hm_145 rfl kc_iinc_1 rfl rfl ?_
        refine e_goto (t := 5) hm_145 rfl rfl ?_
        exact e_forget (L' := [some (.ref 0), some (.ref x1), some (.int x2), some (.int x3), some (.int (x4 + (1 : Int32)))]) (lf_k (lf_k (lf_k (lf_k (lf_k lf_0))))) (ih x1 x2 x3 (x4 + (1 : Int32)) y2.2 hx1 Q hf hq)
    · rw [if_neg hc1] at hf
      refine e_ic_t (t := 49) hm_145 rfl (ct_ge hc1) rfl ?_
      obtain rfl := Option.some.inj hf
      exact e_forget (L' := [none, none, none, some (.int x3), none]) (lf_d (lf_d (lf_d (lf_k (lf_d lf_0))))) hq
def nb_textsTold (a1 : Nat) (a2 : Int32) (M : mm_M) : Option (Int32 × mm_M) :=
  (nb_textsTold_l5 300 a1 a2 (0 : Int32) (0 : Int32) M).bind fun y1 =>
  some (y1.1, y1.2)
set_option maxRecDepth 20000 in
set_option maxHeartbeats 4000000 in
theorem c_145 {Z : ak_Z} {d : Nat} (a1 : Nat) (a2 : Int32) (M : mm_M) (ha1 : mm_is7 a1 = true) {y : Int32 × mm_M} (hf : nb_textsTold a1 a2 M = some y) {Q : Option Value → ak_H → Prop} (hq : Q (some (.int y.1)) (mm_H y.2)) : Ev Z (d + 5) 145 0 [some (.ref 0), some (.ref a1), some (.int a2), none, none] [] (mm_H M) Q := by
  rw [nb_textsTold] at hf
  refine e_iconst hm_145 rfl kc_iconst_0 ?_
  refine e_istore_n (L2 := [some (.ref 0), some (.ref a1), some (.int a2), some (.int (0 : Int32)), none]) hm_145 rfl rfl ?_
  refine e_iconst hm_145 rfl kc_iconst_0 ?_
  refine e_istore (L2 := [some (.ref 0), some (.ref a1), some (.int a2), some (.int (0 : Int32)), some (.int (0 : Int32))]) hm_145 rfl rfl ?_
  obtain ⟨y1, hky1, hf⟩ := mm_bd hf
  refine e_forget (L' := [some (.ref 0), some (.ref a1), some (.int a2), some (.int (0 : Int32)), some (.int (0 : Int32))]) (lf_k (lf_k (lf_k (lf_k (lf_k lf_0))))) (lc_145_5 (d := _) 300 a1 a2 (0 : Int32) (0 : Int32) M ha1 Q hky1 ?_)
  show Ev Z _ 145 49 [none, none, none, some (.int y1.1), none] [] (mm_H y1.2) Q
  refine e_iload_n hm_145 rfl rfl ?_
  obtain rfl := Option.some.inj hf
  exact e_iret hm_145 rfl rfl hq
