/-! printed: the functions of the methods, and that the small machine does them -/
def ji_bitCount (a1 : Int32) (M : mm_M) : Option (Int32 × mm_M) :=
  some ((((((((a1 - (((a1.toUInt32 >>> ((1 : Int32).toUInt32 &&& Int32.toUInt32 31)).toInt32) &&& (1431655765 : Int32))) &&& (858993459 : Int32)) + ((((a1 - (((a1.toUInt32 >>> ((1 : Int32).toUInt32 &&& Int32.toUInt32 31)).toInt32) &&& (1431655765 : Int32))).toUInt32 >>> ((2 : Int32).toUInt32 &&& Int32.toUInt32 31)).toInt32) &&& (858993459 : Int32))) + (((((a1 - (((a1.toUInt32 >>> ((1 : Int32).toUInt32 &&& Int32.toUInt32 31)).toInt32) &&& (1431655765 : Int32))) &&& (858993459 : Int32)) + ((((a1 - (((a1.toUInt32 >>> ((1 : Int32).toUInt32 &&& Int32.toUInt32 31)).toInt32) &&& (1431655765 : Int32))).toUInt32 >>> ((2 : Int32).toUInt32 &&& Int32.toUInt32 31)).toInt32) &&& (858993459 : Int32))).toUInt32 >>> ((4 : Int32).toUInt32 &&& Int32.toUInt32 31)).toInt32)) &&& (252645135 : Int32)) + (((((((a1 - (((a1.toUInt32 >>> ((1 : Int32).toUInt32 &&& Int32.toUInt32 31)).toInt32) &&& (1431655765 : Int32))) &&& (858993459 : Int32)) + ((((a1 - (((a1.toUInt32 >>> ((1 : Int32).toUInt32 &&& Int32.toUInt32 31)).toInt32) &&& (1431655765 : Int32))).toUInt32 >>> ((2 : Int32).toUInt32 &&& Int32.toUInt32 31)).toInt32) &&& (858993459 : Int32))) + (((((a1 - (((a1.toUInt32 >>> ((1 : Int32).toUInt32 &&& Int32.toUInt32 31)).toInt32) &&& (1431655765 : Int32))) &&& (858993459 : Int32)) + ((((a1 - (((a1.toUInt32 >>> ((1 : Int32).toUInt32 &&& Int32.toUInt32 31)).toInt32) &&& (1431655765 : Int32))).toUInt32 >>> ((2 : Int32).toUInt32 &&& Int32.toUInt32 31)).toInt32) &&& (858993459 : Int32))).toUInt32 >>> ((4 : Int32).toUInt32 &&& Int32.toUInt32 31)).toInt32)) &&& (252645135 : Int32)).toUInt32 >>> ((8 : Int32).toUInt32 &&& Int32.toUInt32 31)).toInt32)) + ((((((((a1 - (((a1.toUInt32 >>> ((1 : Int32).toUInt32 &&& Int32.toUInt32 31)).toInt32) &&& (1431655765 : Int32))) &&& (858993459 : Int32)) + ((((a1 - (((a1.toUInt32 >>> ((1 : Int32).toUInt32 &&& Int32.toUInt32 31)).toInt32) &&& (1431655765 : Int32))).toUInt32 >>> ((2 : Int32).toUInt32 &&& Int32.toUInt32 31)).toInt32) &&& (858993459 : Int32))) + (((((a1 - (((a1.toUInt32 >>> ((1 : Int32).toUInt32 &&& Int32.toUInt32 31)).toInt32) &&& (1431655765 : Int32))) &&& (858993459 : Int32)) + ((((a1 - (((a1.toUInt32 >>> ((1 : Int32).toUInt32 &&& Int32.toUInt32 31)).toInt32) &&& (1431655765 : Int32))).toUInt32 >>> ((2 : Int32).toUInt32 &&& Int32.toUInt32 31)).toInt32) &&& (858993459 : Int32))).toUInt32 >>> ((4 : Int32).toUInt32 &&& Int32.toUInt32 31)).toInt32)) &&& (252645135 : Int32)) + (((((((a1 - (((a1.toUInt32 >>> ((1 : Int32).toUInt32 &&& Int32.toUInt32 31)).toInt32) &&& (1431655765 : Int32))) &&& (858993459 : Int32)) + ((((a1 - (((a1.toUInt32 >>> ((1 : Int32).toUInt32 &&& Int32.toUInt32 31)).toInt32) &&& (1431655765 : Int32))).toUInt32 >>> ((2 : Int32).toUInt32 &&& Int32.toUInt32 31)).toInt32) &&& (858993459 : Int32))) + (((((a1 - (((a1.toUInt32 >>> ((1 : Int32).toUInt32 &&& Int32.toUInt32 31)).toInt32) &&& (1431655765 : Int32))) &&& (858993459 : Int32)) + ((((a1 - (((a1.toUInt32 >>> ((1 : Int32).toUInt32 &&& Int32.toUInt32 31)).toInt32) &&& (1431655765 : Int32))).toUInt32 >>> ((2 : Int32).toUInt32 &&& Int32.toUInt32 31)).toInt32) &&& (858993459 : Int32))).toUInt32 >>> ((4 : Int32).toUInt32 &&& Int32.toUInt32 31)).toInt32)) &&& (252645135 : Int32)).toUInt32 >>> ((8 : Int32).toUInt32 &&& Int32.toUInt32 31)).toInt32)).toUInt32 >>> ((16 : Int32).toUInt32 &&& Int32.toUInt32 31)).toInt32)) &&& (63 : Int32), M)
set_option maxRecDepth 20000 in
set_option maxHeartbeats 4000000 in
theorem c_101 {Z : ak_Z} {d : Nat} (a1 : Int32) (M : mm_M) {y : Int32 × mm_M} (hf : ji_bitCount a1 M = some y) {Q : Option Value → ak_H → Prop} (hq : Q (some (.int y.1)) (mm_H y.2)) : Ev Z (d + 0) 101 0 [some (.int a1)] [] (mm_H M) Q := by
  rw [ji_bitCount] at hf
  refine e_iload_n hm_101 rfl rfl ?_
  refine e_iload_n hm_101 rfl rfl ?_
  refine e_iconst hm_101 rfl kc_iconst_1 ?_
  refine e_iushr hm_101 rfl ?_
  refine e_ldc_w hm_101 rfl kc_ldc_1431655765 ?_
  refine e_iand hm_101 rfl ?_
  refine e_isub hm_101 rfl ?_
  refine e_istore_n (L2 := [some (.int (a1 - (((a1.toUInt32 >>> ((1 : Int32).toUInt32 &&& Int32.toUInt32 31)).toInt32) &&& (1431655765 : Int32))))]) hm_101 rfl rfl ?_
  refine e_iload_n hm_101 rfl rfl ?_
  refine e_ldc_w hm_101 rfl kc_ldc_858993459 ?_
  refine e_iand hm_101 rfl ?_
  refine e_iload_n hm_101 rfl rfl ?_
  refine e_iconst hm_101 rfl kc_iconst_2 ?_
  refine e_iushr hm_101 rfl ?_
  refine e_ldc_w hm_101 rfl kc_ldc_858993459 ?_
  refine e_iand hm_101 rfl ?_
  refine e_iadd hm_101 rfl ?_
  refine e_istore_n (L2 := [some (.int (((a1 - (((a1.toUInt32 >>> ((1 : Int32).toUInt32 &&& Int32.toUInt32 31)).toInt32) &&& (1431655765 : Int32))) &&& (858993459 : Int32)) + ((((a1 - (((a1.toUInt32 >>> ((1 : Int32).toUInt32 &&& Int32.toUInt32 31)).toInt32) &&& (1431655765 : Int32))).toUInt32 >>> ((2 : Int32).toUInt32 &&& Int32.toUInt32 31)).toInt32) &&& (858993459 : Int32))))]) hm_101 rfl rfl ?_
  refine e_iload_n hm_101 rfl rfl ?_
  refine e_iload_n hm_101 rfl rfl ?_
  refine e_iconst hm_101 rfl kc_iconst_4 ?_
  refine e_iushr hm_101 rfl ?_
  refine e_iadd hm_101 rfl ?_
  refine e_ldc_w hm_101 rfl kc_ldc_252645135 ?_
  refine e_iand hm_101 rfl ?_
  refine e_istore_n (L2 := [some (.int (((((a1 - (((a1.toUInt32 >>> ((1 : Int32).toUInt32 &&& Int32.toUInt32 31)).toInt32) &&& (1431655765 : Int32))) &&& (858993459 : Int32)) + ((((a1 - (((a1.toUInt32 >>> ((1 : Int32).toUInt32 &&& Int32.toUInt32 31)).toInt32) &&& (1431655765 : Int32))).toUInt32 >>> ((2 : Int32).toUInt32 &&& Int32.toUInt32 31)).toInt32) &&& (858993459 : Int32))) + (((((a1 - (((a1.toUInt32 >>> ((1 : Int32).toUInt32 &&& Int32.toUInt32 31)).toInt32) &&& (1431655765 : Int32))) &&& (858993459 : Int32)) + ((((a1 - (((a1.toUInt32 >>> ((1 : Int32).toUInt32 &&& Int32.toUInt32 31)).toInt32) &&& (1431655765 : Int32))).toUInt32 >>> ((2 : Int32).toUInt32 &&& Int32.toUInt32 31)).toInt32) &&& (858993459 : Int32))).toUInt32 >>> ((4 : Int32).toUInt32 &&& Int32.toUInt32 31)).toInt32)) &&& (252645135 : Int32)))]) hm_101 rfl rfl ?_
  refine e_iload_n hm_101 rfl rfl ?_
  refine e_iload_n hm_101 rfl rfl ?_
  refine e_bipush hm_101 rfl kc_bipush_8 ?_
  refine e_iushr hm_101 rfl ?_
  refine e_iadd hm_101 rfl ?_
  refine e_istore_n (L2 := [some (.int ((((((a1 - (((a1.toUInt32 >>> ((1 : Int32).toUInt32 &&& Int32.toUInt32 31)).toInt32) &&& (1431655765 : Int32))) &&& (858993459 : Int32)) + ((((a1 - (((a1.toUInt32 >>> ((1 : Int32).toUInt32 &&& Int32.toUInt32 31)).toInt32) &&& (1431655765 : Int32))).toUInt32 >>> ((2 : Int32).toUInt32 &&& Int32.toUInt32 31)).toInt32) &&& (858993459 : Int32))) + (((((a1 - (((a1.toUInt32 >>> ((1 : Int32).toUInt32 &&& Int32.toUInt32 31)).toInt32) &&& (1431655765 : Int32))) &&& (858993459 : Int32)) + ((((a1 - (((a1.toUInt32 >>> ((1 : Int32).toUInt32 &&& Int32.toUInt32 31)).toInt32) &&& (1431655765 : Int32))).toUInt32 >>> ((2 : Int32).toUInt32 &&& Int32.toUInt32 31)).toInt32) &&& (858993459 : Int32))).toUInt32 >>> ((4 : Int32).toUInt32 &&& Int32.toUInt32 31)).toInt32)) &&& (252645135 : Int32)) + (((((((a1 - (((a1.toUInt32 >>> ((1 : Int32).toUInt32 &&& Int32.toUInt32 31)).toInt32) &&& (1431655765 : Int32))) &&& (858993459 : Int32)) + ((((a1 - (((a1.toUInt32 >>> ((1 : Int32).toUInt32 &&& Int32.toUInt32 31)).toInt32) &&& (1431655765 : Int32))).toUInt32 >>> ((2 : Int32).toUInt32 &&& Int32.toUInt32 31)).toInt32) &&& (858993459 : Int32))) + (((((a1 - (((a1.toUInt32 >>> ((1 : Int32).toUInt32 &&& Int32.toUInt32 31)).toInt32) &&& (1431655765 : Int32))) &&& (858993459 : Int32)) + ((((a1 - (((a1.toUInt32 >>> ((1 : Int32).toUInt32 &&& Int32.toUInt32 31)).toInt32) &&& (1431655765 : Int32))).toUInt32 >>> ((2 : Int32).toUInt32 &&& Int32.toUInt32 31)).toInt32) &&& (858993459 : Int32))).toUInt32 >>> ((4 : Int32).toUInt32 &&& Int32.toUInt32 31)).toInt32)) &&& (252645135 : Int32)).toUInt32 >>> ((8 : Int32).toUInt32 &&& Int32.toUInt32 31)).toInt32)))]) hm_101 rfl rfl ?_
  refine e_iload_n hm_101 rfl rfl ?_
  refine e_iload_n hm_101 rfl rfl ?_
  refine e_bipush hm_101 rfl kc_bipush_16 ?_
  refine e_iushr hm_101 rfl ?_
  refine e_iadd hm_101 rfl ?_
  refine e_istore_n (L2 := [some (.int (((((((a1 - (((a1.toUInt32 >>> ((1 : Int32).toUInt32 &&& Int32.toUInt32 31)).toInt32) &&& (1431655765 : Int32))) &&& (858993459 : Int32)) + ((((a1 - (((a1.toUInt32 >>> ((1 : Int32).toUInt32 &&& Int32.toUInt32 31)).toInt32) &&& (1431655765 : Int32))).toUInt32 >>> ((2 : Int32).toUInt32 &&& Int32.toUInt32 31)).toInt32) &&& (858993459 : Int32))) + (((((a1 - (((a1.toUInt32 >>> ((1 : Int32).toUInt32 &&& Int32.toUInt32 31)).toInt32) &&& (1431655765 : Int32))) &&& (858993459 : Int32)) + ((((a1 - (((a1.toUInt32 >>> ((1 : Int32).toUInt32 &&& Int32.toUInt32 31)).toInt32) &&& (1431655765 : Int32))).toUInt32 >>> ((2 : Int32).toUInt32 &&& Int32.toUInt32 31)).toInt32) &&& (858993459 : Int32))).toUInt32 >>> ((4 : Int32).toUInt32 &&& Int32.toUInt32 31)).toInt32)) &&& (252645135 : Int32)) + (((((((a1 - (((a1.toUInt32 >>> ((1 : Int32).toUInt32 &&& Int32.toUInt32 31)).toInt32) &&& (1431655765 : Int32))) &&& (858993459 : Int32)) + ((((a1 - (((a1.toUInt32 >>> ((1 : Int32).toUInt32 &&& Int32.toUInt32 31)).toInt32) &&& (1431655765 : Int32))).toUInt32 >>> ((2 : Int32).toUInt32 &&& Int32.toUInt32 31)).toInt32) &&& (858993459 : Int32))) + (((((a1 - (((a1.toUInt32 >>> ((1 : Int32).toUInt32 &&& Int32.toUInt32 31)).toInt32) &&& (1431655765 : Int32))) &&& (858993459 : Int32)) + ((((a1 - (((a1.toUInt32 >>> ((1 : Int32).toUInt32 &&& Int32.toUInt32 31)).toInt32) &&& (1431655765 : Int32))).toUInt32 >>> ((2 : Int32).toUInt32 &&& Int32.toUInt32 31)).toInt32) &&& (858993459 : Int32))).toUInt32 >>> ((4 : Int32).toUInt32 &&& Int32.toUInt32 31)).toInt32)) &&& (252645135 : Int32)).toUInt32 >>> ((8 : Int32).toUInt32 &&& Int32.toUInt32 31)).toInt32)) + ((((((((a1 - (((a1.toUInt32 >>> ((1 : Int32).toUInt32 &&& Int32.toUInt32 31)).toInt32) &&& (1431655765 : Int32))) &&& (858993459 : Int32)) + ((((a1 - (((a1.toUInt32 >>> ((1 : Int32).toUInt32 &&& Int32.toUInt32 31)).toInt32) &&& (1431655765 : Int32))).toUInt32 >>> ((2 : Int32).toUInt32 &&& Int32.toUInt32 31)).toInt32) &&& (858993459 : Int32))) + (((((a1 - (((a1.toUInt32 >>> ((1 : Int32).toUInt32 &&& Int32.toUInt32 31)).toInt32) &&& (1431655765 : Int32))) &&& (858993459 : Int32)) + ((((a1 - (((a1.toUInt32 >>> ((1 : Int32).toUInt32 &&& Int32.toUInt32 31)).toInt32) &&& (1431655765 : Int32))).toUInt32 >>> ((2 : Int32).toUInt32 &&& Int32.toUInt32 31)).toInt32) &&& (858993459 : Int32))).toUInt32 >>> ((4 : Int32).toUInt32 &&& Int32.toUInt32 31)).toInt32)) &&& (252645135 : Int32)) + (((((((a1 - (((a1.toUInt32 >>> ((1 : Int32).toUInt32 &&& Int32.toUInt32 31)).toInt32) &&& (1431655765 : Int32))) &&& (858993459 : Int32)) + ((((a1 - (((a1.toUInt32 >>> ((1 : Int32).toUInt32 &&& Int32.toUInt32 31)).toInt32) &&& (1431655765 : Int32))).toUInt32 >>> ((2 : Int32).toUInt32 &&& Int32.toUInt32 31)).toInt32) &&& (858993459 : Int32))) + (((((a1 - (((a1.toUInt32 >>> ((1 : Int32).toUInt32 &&& Int32.toUInt32 31)).toInt32) &&& (1431655765 : Int32))) &&& (858993459 : Int32)) + ((((a1 - (((a1.toUInt32 >>> ((1 : Int32).toUInt32 &&& Int32.toUInt32 31)).toInt32) &&& (1431655765 : Int32))).toUInt32 >>> ((2 : Int32).toUInt32 &&& Int32.toUInt32 31)).toInt32) &&& (858993459 : Int32))).toUInt32 >>> ((4 : Int32).toUInt32 &&& Int32.toUInt32 31)).toInt32)) &&& (252645135 : Int32)).toUInt32 >>> ((8 : Int32).toUInt32 &&& Int32.toUInt32 31)).toInt32)).toUInt32 >>> ((16 : Int32).toUInt32 &&& Int32.toUInt32 31)).toInt32)))]) hm_101 rfl rfl ?_
  refine e_iload_n hm_101 rfl rfl ?_
  refine e_bipush hm_101 rfl kc_bipush_63 ?_
  refine e_iand hm_101 rfl ?_
  obtain rfl := Option.some.inj hf
  exact e_iret hm_101 rfl rfl hq
def sh_allows_l58 : Nat → Nat → Int32 → Int32 → mm_M → Option ((Int32 × mm_M) ⊕ ((Unit) × mm_M))
  | 0, _, _, _, _ => none
  | n + 1, x0, x1, x5, M =>
    if x5 < (M.1 x0 4) then
      if ((x1 >>> (x5 &&& 31)) &&& (1 : Int32)) = (0 : Int32) then
        sh_allows_l58 n x0 x1 (x5 + (1 : Int32)) M
      else
        if ak_inb x5 4 = true then
        if ((M.1 (x0 + 7) x5.toNatClampNeg) &&& x1) = (0 : Int32) then
          sh_allows_l58 n x0 x1 (x5 + (1 : Int32)) M
        else
          some (.inl ((0 : Int32), M)) else none
    else
      some (.inr ((), M))
set_option maxRecDepth 20000 in
set_option maxHeartbeats 4000000 in
theorem lc_100_58 {Z : ak_Z} {d : Nat} : ∀ (n : Nat) (x0 : Nat) (x1 : Int32) (x5 : Int32) (M : mm_M) (hx0 : mm_is8 x0 = true) {y : (Int32 × mm_M) ⊕ ((Unit) × mm_M)} (Q : Option Value → ak_H → Prop), sh_allows_l58 n x0 x1 x5 M = some y → (match y with | .inl yr => Q (some (.int yr.1)) (mm_H yr.2) | .inr yv => Ev Z (d + 1) 100 96 [none, none, none, none, none, none] [] (mm_H yv.2) Q) → Ev Z (d + 1) 100 58 [some (.ref x0), some (.int x1), none, none, none, some (.int x5)] [] (mm_H M) Q := by
  intro n
  induction n with
  | zero => intro x0 x1 x5 M hx0 y Q hf; cases hf
  | succ n ih =>
    intro x0 x1 x5 M hx0 y Q hf hq
    rw [sh_allows_l58] at hf
    refine e_iload hm_100 rfl rfl ?_
    refine e_aload_n hm_100 rfl rfl ?_
    refine e_getI hm_100 rfl (mm_cl8 hx0) rfl ?_
    by_cases hc1 : x5 < (M.1 x0 4)
    · rw [if_pos hc1] at hf
      refine e_ic_f hm_100 rfl (cf_ge hc1) ?_
      refine e_iload_n hm_100 rfl rfl ?_
      refine e_iload hm_100 rfl rfl ?_
      refine e_ishr hm_100 rfl ?_
      refine e_iconst hm_100 rfl kc_iconst_1 ?_
      refine e_iand hm_100 rfl ?_
      by_cases hc2 : ((x1 >>> (x5 &&& 31)) &&& (1 : Int32)) = (0 : Int32)
      · rw [if_pos hc2] at hf
        refine e_if_t (t := 90) hm_100 rfl (ct_eq hc2) rfl ?_
        refine e_iinc (L2 := [some (.ref x0), some (.int x1), none, none, none, some (.int (x5 + (1 : Int32)))]) hm_100 rfl kc_iinc_1 rfl rfl ?_
        refine e_goto (t := 58) hm_100 rfl rfl ?_
        exact e_forget (L' := [some (.ref x0), some (.int x1), none, none, none, some (.int (x5 + (1 : Int32)))]) (lf_k (lf_k (lf_k (lf_k (lf_k (lf_k lf_0)))))) (ih x0 x1 (x5 + (1 : Int32)) M hx0 Q hf hq)
      · rw [if_neg hc2] at hf
        refine e_if_f hm_100 rfl (cf_eq hc2) ?_
        refine e_aload_n hm_100 rfl rfl ?_
        refine e_getR hm_100 rfl (mm_cl8 hx0) rfl (mm_rf8_11 hx0) ?_
        refine e_iload hm_100 rfl rfl ?_
        obtain ⟨hi3, hf⟩ := mm_ite hf
        refine e_iald hm_100 rfl (mm_ar8_11 hx0) hi3 ?_
        refine e_iload_n hm_100 rfl rfl ?_
        refine e_iand hm_100 rfl ?_
        by_cases hc4 : ((M.1 (x0 + 7) x5.toNatClampNeg) &&& x1) = (0 : Int32)
        · rw [if_pos hc4] at hf
          refine e_if_t (t := 90) hm_100 rfl (ct_eq hc4) rfl ?_
          refine e_iinc (L2 := [some (.ref x0), some (.int x1), none, none, none, some (.int (x5 + (1 : Int32)))]) hm_100 rfl kc_iinc_1 rfl rfl ?_
          refine e_goto (t := 58) hm_100 rfl rfl ?_
          exact e_forget (L' := [some (.ref x0), some (.int x1), none, none, none, some (.int (x5 + (1 : Int32)))]) (lf_k (lf_k (lf_k (lf_k (lf_k (lf_k lf_0)))))) (ih x0 x1 (x5 + (1 : Int32)) M hx0 Q hf hq)
        · rw [if_neg hc4] at hf
          refine e_if_f hm_100 rfl (cf_eq hc4) ?_
          refine e_iconst hm_100 rfl kc_iconst_0 ?_
          obtain rfl := Option.some.inj hf
          exact e_zret hm_100 rfl rfl (by decide) hq
    · rw [if_neg hc1] at hf
      refine e_ic_t (t := 96) hm_100 rfl (ct_ge hc1) rfl ?_
      obtain rfl := Option.some.inj hf
      exact e_forget (L' := [none, none, none, none, none, none]) (lf_d (lf_d (lf_k (lf_k (lf_k (lf_d lf_0)))))) hq
def sh_allows (t : Nat) (a1 : Int32) (M : mm_M) : Option (Int32 × mm_M) :=
  (ji_bitCount ((((1 : Int32) <<< ((M.1 t 4) &&& 31)) - (1 : Int32)) &&& (a1 ^^^ (-1 : Int32))) M).bind fun y1 =>
  if y1.1 < (i_min (y1.2.1 t 1) (y1.2.1 t 4)) then
    some ((0 : Int32), y1.2)
  else
    if ((M.1 t 2) &&& (((1 : Int32) <<< ((M.1 t 4) &&& 31)) - (1 : Int32))) = (0 : Int32) then
      (sh_allows_l58 300 t a1 (0 : Int32) y1.2).bind fun y4 => match y4 with
      | .inl y4r => some y4r
      | .inr y4v => some ((1 : Int32), y4v.2)
    else
      if (((M.1 t 2) &&& (((1 : Int32) <<< ((M.1 t 4) &&& 31)) - (1 : Int32))) &&& ((((1 : Int32) <<< ((M.1 t 4) &&& 31)) - (1 : Int32)) &&& (a1 ^^^ (-1 : Int32)))) = (0 : Int32) then
        some ((0 : Int32), y1.2)
      else
        (sh_allows_l58 300 t a1 (0 : Int32) y1.2).bind fun y6 => match y6 with
        | .inl y6r => some y6r
        | .inr y6v => some ((1 : Int32), y6v.2)
set_option maxRecDepth 20000 in
set_option maxHeartbeats 4000000 in
theorem c_100 {Z : ak_Z} {d : Nat} (t : Nat) (a1 : Int32) (M : mm_M) (ht : mm_is8 t = true) {y : Int32 × mm_M} (hf : sh_allows t a1 M = some y) {Q : Option Value → ak_H → Prop} (hq : Q (some (.int y.1)) (mm_H y.2)) : Ev Z (d + 1) 100 0 [some (.ref t), some (.int a1), none, none, none, none] [] (mm_H M) Q := by
  rw [sh_allows] at hf
  refine e_iconst hm_100 rfl kc_iconst_1 ?_
  refine e_aload_n hm_100 rfl rfl ?_
  refine e_getI hm_100 rfl (mm_cl8 ht) rfl ?_
  refine e_ishl hm_100 rfl ?_
  refine e_iconst hm_100 rfl kc_iconst_1 ?_
  refine e_isub hm_100 rfl ?_
  refine e_istore_n (L2 := [some (.ref t), some (.int a1), some (.int (((1 : Int32) <<< ((M.1 t 4) &&& 31)) - (1 : Int32))), none, none, none]) hm_100 rfl rfl ?_
  refine e_iload_n hm_100 rfl rfl ?_
  refine e_iload_n hm_100 rfl rfl ?_
  refine e_iconst hm_100 rfl kc_iconst_m1 ?_
  refine e_ixor hm_100 rfl ?_
  refine e_iand hm_100 rfl ?_
  refine e_istore_n (L2 := [some (.ref t), some (.int a1), some (.int (((1 : Int32) <<< ((M.1 t 4) &&& 31)) - (1 : Int32))), some (.int ((((1 : Int32) <<< ((M.1 t 4) &&& 31)) - (1 : Int32)) &&& (a1 ^^^ (-1 : Int32)))), none, none]) hm_100 rfl rfl ?_
  refine e_aload_n hm_100 rfl rfl ?_
  refine e_getI hm_100 rfl (mm_cl8 ht) rfl ?_
  refine e_iload_n hm_100 rfl rfl ?_
  refine e_iand hm_100 rfl ?_
  refine e_istore (L2 := [some (.ref t), some (.int a1), some (.int (((1 : Int32) <<< ((M.1 t 4) &&& 31)) - (1 : Int32))), some (.int ((((1 : Int32) <<< ((M.1 t 4) &&& 31)) - (1 : Int32)) &&& (a1 ^^^ (-1 : Int32)))), some (.int ((M.1 t 2) &&& (((1 : Int32) <<< ((M.1 t 4) &&& 31)) - (1 : Int32)))), none]) hm_100 rfl rfl ?_
  refine e_iload_n hm_100 rfl rfl ?_
  obtain ⟨y1, hky1, hf⟩ := mm_bd hf
  refine e_stat hm_100 rfl (by decide) rfl rfl (Nat.le_of_ble_eq_true rfl) hm_101 rfl rfl (c_101 ((((1 : Int32) <<< ((M.1 t 4) &&& 31)) - (1 : Int32)) &&& (a1 ^^^ (-1 : Int32))) M hky1 ?_)
  show Ev Z _ 100 27 [some (.ref t), some (.int a1), some (.int (((1 : Int32) <<< ((M.1 t 4) &&& 31)) - (1 : Int32))), some (.int ((((1 : Int32) <<< ((M.1 t 4) &&& 31)) - (1 : Int32)) &&& (a1 ^^^ (-1 : Int32)))), some (.int ((M.1 t 2) &&& (((1 : Int32) <<< ((M.1 t 4) &&& 31)) - (1 : Int32)))), none] [.int y1.1] (mm_H y1.2) Q
  refine e_aload_n hm_100 rfl rfl ?_
  refine e_getI hm_100 rfl (mm_cl8 ht) rfl ?_
  refine e_aload_n hm_100 rfl rfl ?_
  refine e_getI hm_100 rfl (mm_cl8 ht) rfl ?_
  refine e_min hm_100 rfl (Nat.le_of_ble_eq_true rfl) ?_
  by_cases hc2 : y1.1 < (i_min (y1.2.1 t 1) (y1.2.1 t 4))
  · rw [if_pos hc2] at hf
    refine e_ic_t (t := 53) hm_100 rfl (ct_lt hc2) rfl ?_
    refine e_iconst hm_100 rfl kc_iconst_0 ?_
    obtain rfl := Option.some.inj hf
    exact e_zret hm_100 rfl rfl (by decide) hq
  · rw [if_neg hc2] at hf
    refine e_ic_f hm_100 rfl (cf_lt hc2) ?_
    refine e_iload hm_100 rfl rfl ?_
    by_cases hc3 : ((M.1 t 2) &&& (((1 : Int32) <<< ((M.1 t 4) &&& 31)) - (1 : Int32))) = (0 : Int32)
    · rw [if_pos hc3] at hf
      refine e_if_t (t := 55) hm_100 rfl (ct_eq hc3) rfl ?_
      refine e_iconst hm_100 rfl kc_iconst_0 ?_
      refine e_istore (L2 := [some (.ref t), some (.int a1), some (.int (((1 : Int32) <<< ((M.1 t 4) &&& 31)) - (1 : Int32))), some (.int ((((1 : Int32) <<< ((M.1 t 4) &&& 31)) - (1 : Int32)) &&& (a1 ^^^ (-1 : Int32)))), some (.int ((M.1 t 2) &&& (((1 : Int32) <<< ((M.1 t 4) &&& 31)) - (1 : Int32)))), some (.int (0 : Int32))]) hm_100 rfl rfl ?_
      obtain ⟨y4, hky4, hf⟩ := mm_bd hf
      refine e_forget (L' := [some (.ref t), some (.int a1), none, none, none, some (.int (0 : Int32))]) (lf_k (lf_k (lf_d (lf_d (lf_d (lf_k lf_0)))))) (lc_100_58 (d := _) 300 t a1 (0 : Int32) y1.2 ht Q hky4 ?_)
      rcases y4 with y4r | y4v
      · obtain rfl := Option.some.inj hf
        exact hq
      · show Ev Z _ 100 96 [none, none, none, none, none, none] [] (mm_H y4v.2) Q
        refine e_iconst hm_100 rfl kc_iconst_1 ?_
        obtain rfl := Option.some.inj hf
        exact e_zret hm_100 rfl rfl (by decide) hq
    · rw [if_neg hc3] at hf
      refine e_if_f hm_100 rfl (cf_eq hc3) ?_
      refine e_iload hm_100 rfl rfl ?_
      refine e_iload_n hm_100 rfl rfl ?_
      refine e_iand hm_100 rfl ?_
      by_cases hc5 : (((M.1 t 2) &&& (((1 : Int32) <<< ((M.1 t 4) &&& 31)) - (1 : Int32))) &&& ((((1 : Int32) <<< ((M.1 t 4) &&& 31)) - (1 : Int32)) &&& (a1 ^^^ (-1 : Int32)))) = (0 : Int32)
      · rw [if_pos hc5] at hf
        refine e_if_f hm_100 rfl (cf_ne hc5) ?_
        refine e_iconst hm_100 rfl kc_iconst_0 ?_
        obtain rfl := Option.some.inj hf
        exact e_zret hm_100 rfl rfl (by decide) hq
      · rw [if_neg hc5] at hf
        refine e_if_t (t := 55) hm_100 rfl (ct_ne hc5) rfl ?_
        refine e_iconst hm_100 rfl kc_iconst_0 ?_
        refine e_istore (L2 := [some (.ref t), some (.int a1), some (.int (((1 : Int32) <<< ((M.1 t 4) &&& 31)) - (1 : Int32))), some (.int ((((1 : Int32) <<< ((M.1 t 4) &&& 31)) - (1 : Int32)) &&& (a1 ^^^ (-1 : Int32)))), some (.int ((M.1 t 2) &&& (((1 : Int32) <<< ((M.1 t 4) &&& 31)) - (1 : Int32)))), some (.int (0 : Int32))]) hm_100 rfl rfl ?_
        obtain ⟨y6, hky6, hf⟩ := mm_bd hf
        refine e_forget (L' := [some (.ref t), some (.int a1), none, none, none, some (.int (0 : Int32))]) (lf_k (lf_k (lf_d (lf_d (lf_d (lf_k lf_0)))))) (lc_100_58 (d := _) 300 t a1 (0 : Int32) y1.2 ht Q hky6 ?_)
        rcases y6 with y6r | y6v
        · obtain rfl := Option.some.inj hf
          exact hq
        · show Ev Z _ 100 96 [none, none, none, none, none, none] [] (mm_H y6v.2) Q
          refine e_iconst hm_100 rfl kc_iconst_1 ?_
          obtain rfl := Option.some.inj hf
          exact e_zret hm_100 rfl rfl (by decide) hq
def pl_gladnessOf_l4 : Nat → Int32 → Int32 → Int32 → mm_M → Option (((Int32) × mm_M))
  | 0, _, _, _, _ => none
  | n + 1, x1, x2, x3, M =>
    if x3 < (8 : Int32) then
      if ((x1 >>> (x3 &&& 31)) &&& (1 : Int32)) = (0 : Int32) then
        pl_gladnessOf_l4 n x1 x2 (x3 + (1 : Int32)) M
      else
        if ak_inb x3 8 = true then
        pl_gladnessOf_l4 n x1 (x2 + (M.1 60 x3.toNatClampNeg)) (x3 + (1 : Int32)) M else none
    else
      some (x2, M)
set_option maxRecDepth 20000 in
set_option maxHeartbeats 4000000 in
theorem lc_103_4 {Z : ak_Z} {d : Nat} : ∀ (n : Nat) (x1 : Int32) (x2 : Int32) (x3 : Int32) (M : mm_M) {y : ((Int32) × mm_M)} (Q : Option Value → ak_H → Prop), pl_gladnessOf_l4 n x1 x2 x3 M = some y → (Ev Z (d + 0) 103 33 [none, none, some (.int y.1), none] [] (mm_H y.2) Q) → Ev Z (d + 0) 103 4 [some (.ref 55), some (.int x1), some (.int x2), some (.int x3)] [] (mm_H M) Q := by
  intro n
  induction n with
  | zero => intro x1 x2 x3 M y Q hf; cases hf
  | succ n ih =>
    intro x1 x2 x3 M y Q hf hq
    rw [pl_gladnessOf_l4] at hf
    refine e_iload_n hm_103 rfl rfl ?_
    refine e_bipush hm_103 rfl kc_bipush_8 ?_
    by_cases hc1 : x3 < (8 : Int32)
    · rw [if_pos hc1] at hf
      refine e_ic_f hm_103 rfl (cf_ge hc1) ?_
      refine e_iload_n hm_103 rfl rfl ?_
      refine e_iload_n hm_103 rfl rfl ?_
      refine e_ishr hm_103 rfl ?_
      refine e_iconst hm_103 rfl kc_iconst_1 ?_
      refine e_iand hm_103 rfl ?_
      by_cases hc2 : ((x1 >>> (x3 &&& 31)) &&& (1 : Int32)) = (0 : Int32)
      · rw [if_pos hc2] at hf
        refine e_if_t (t := 27) hm_103 rfl (ct_eq hc2) rfl ?_
        refine e_iinc (L2 := [some (.ref 55), some (.int x1), some (.int x2), some (.int (x3 + (1 : Int32)))]) hm_103 rfl kc_iinc_1 rfl rfl ?_
        refine e_goto (t := 4) hm_103 rfl rfl ?_
        exact e_forget (L' := [some (.ref 55), some (.int x1), some (.int x2), some (.int (x3 + (1 : Int32)))]) (lf_k (lf_k (lf_k (lf_k lf_0)))) (ih x1 x2 (x3 + (1 : Int32)) M Q hf hq)
      · rw [if_neg hc2] at hf
        refine e_if_f hm_103 rfl (cf_eq hc2) ?_
        refine e_iload_n hm_103 rfl rfl ?_
        refine e_aload_n hm_103 rfl rfl ?_
        refine e_getR hm_103 rfl rfl rfl rfl ?_
        refine e_iload_n hm_103 rfl rfl ?_
        obtain ⟨hi3, hf⟩ := mm_ite hf
        refine e_iald hm_103 rfl rfl hi3 ?_
        refine e_iadd hm_103 rfl ?_
        refine e_istore_n (L2 := [some (.ref 55), some (.int x1), some (.int (x2 + (M.1 60 x3.toNatClampNeg))), some (.int x3)]) hm_103 rfl rfl ?_
        refine e_iinc (L2 := [some (.ref 55), some (.int x1), some (.int (x2 + (M.1 60 x3.toNatClampNeg))), some (.int (x3 + (1 : Int32)))]) hm_103 rfl kc_iinc_1 rfl rfl ?_
        refine e_goto (t := 4) hm_103 rfl rfl ?_
        exact e_forget (L' := [some (.ref 55), some (.int x1), some (.int (x2 + (M.1 60 x3.toNatClampNeg))), some (.int (x3 + (1 : Int32)))]) (lf_k (lf_k (lf_k (lf_k lf_0)))) (ih x1 (x2 + (M.1 60 x3.toNatClampNeg)) (x3 + (1 : Int32)) M Q hf hq)
    · rw [if_neg hc1] at hf
      refine e_ic_t (t := 33) hm_103 rfl (ct_ge hc1) rfl ?_
      obtain rfl := Option.some.inj hf
      exact e_forget (L' := [none, none, some (.int x2), none]) (lf_d (lf_d (lf_k (lf_d lf_0)))) hq
def pl_gladnessOf (a1 : Int32) (M : mm_M) : Option (Int32 × mm_M) :=
  (pl_gladnessOf_l4 300 a1 (0 : Int32) (0 : Int32) M).bind fun y1 =>
  some (y1.1, y1.2)
set_option maxRecDepth 20000 in
set_option maxHeartbeats 4000000 in
theorem c_103 {Z : ak_Z} {d : Nat} (a1 : Int32) (M : mm_M) {y : Int32 × mm_M} (hf : pl_gladnessOf a1 M = some y) {Q : Option Value → ak_H → Prop} (hq : Q (some (.int y.1)) (mm_H y.2)) : Ev Z (d + 0) 103 0 [some (.ref 55), some (.int a1), none, none] [] (mm_H M) Q := by
  rw [pl_gladnessOf] at hf
  refine e_iconst hm_103 rfl kc_iconst_0 ?_
  refine e_istore_n (L2 := [some (.ref 55), some (.int a1), some (.int (0 : Int32)), none]) hm_103 rfl rfl ?_
  refine e_iconst hm_103 rfl kc_iconst_0 ?_
  refine e_istore_n (L2 := [some (.ref 55), some (.int a1), some (.int (0 : Int32)), some (.int (0 : Int32))]) hm_103 rfl rfl ?_
  obtain ⟨y1, hky1, hf⟩ := mm_bd hf
  refine e_forget (L' := [some (.ref 55), some (.int a1), some (.int (0 : Int32)), some (.int (0 : Int32))]) (lf_k (lf_k (lf_k (lf_k lf_0)))) (lc_103_4 (d := _) 300 a1 (0 : Int32) (0 : Int32) M Q hky1 ?_)
  show Ev Z _ 103 33 [none, none, some (.int y1.1), none] [] (mm_H y1.2) Q
  refine e_iload_n hm_103 rfl rfl ?_
  obtain rfl := Option.some.inj hf
  exact e_iret hm_103 rfl rfl hq
def pl_lookAtOne_l4 : Nat → Int32 → Int32 → Int32 → mm_M → Option (((Int32) × mm_M))
  | 0, _, _, _, _ => none
  | n + 1, x1, x2, x3, M =>
    if x3 < (8 : Int32) then
      if mm_is8 M.2.1 = true then
      (ru_glad M.2.1 x1 x3 M).bind fun y3 =>
      if ak_inb x3 8 = true then
      if mm_is8 y3.2.2.1 = true then
      (ru_wants y3.2.2.1 x1 x3 (ak_up y3.2.1 60 x3.toNatClampNeg y3.1, y3.2.2)).bind fun y6 =>
      if y6.1 = (0 : Int32) then
        pl_lookAtOne_l4 n x1 x2 (x3 + (1 : Int32)) y6.2
      else
        pl_lookAtOne_l4 n x1 (x2 ||| ((1 : Int32) <<< (x3 &&& 31))) (x3 + (1 : Int32)) y6.2 else none else none else none
    else
      some (x2, M)
set_option maxRecDepth 20000 in
set_option maxHeartbeats 4000000 in
theorem lc_102_4 {Z : ak_Z} {d : Nat} : ∀ (n : Nat) (x1 : Int32) (x2 : Int32) (x3 : Int32) (M : mm_M) {y : ((Int32) × mm_M)} (Q : Option Value → ak_H → Prop), pl_lookAtOne_l4 n x1 x2 x3 M = some y → (Ev Z (d + 4) 102 57 [some (.ref 55), some (.int x1), some (.int y.1), none, none] [] (mm_H y.2) Q) → Ev Z (d + 4) 102 4 [some (.ref 55), some (.int x1), some (.int x2), some (.int x3), none] [] (mm_H M) Q := by
  intro n
  induction n with
  | zero => intro x1 x2 x3 M y Q hf; cases hf
  | succ n ih =>
    intro x1 x2 x3 M y Q hf hq
    rw [pl_lookAtOne_l4] at hf
    refine e_iload_n hm_102 rfl rfl ?_
    refine e_bipush hm_102 rfl kc_bipush_8 ?_
    by_cases hc1 : x3 < (8 : Int32)
    · rw [if_pos hc1] at hf
      refine e_ic_f hm_102 rfl (cf_ge hc1) ?_
      refine e_aload_n hm_102 rfl rfl ?_
      refine e_getR hm_102 rfl rfl rfl rfl ?_
      refine e_iload_n hm_102 rfl rfl ?_
      refine e_aload_n hm_102 rfl rfl ?_
      refine e_getR hm_102 rfl rfl rfl rfl ?_
      refine e_aload_n hm_102 rfl rfl ?_
      obtain ⟨hp2, hf⟩ := mm_ite hf
      refine e_getR hm_102 rfl rfl rfl rfl ?_
      refine e_iload_n hm_102 rfl rfl ?_
      refine e_iload_n hm_102 rfl rfl ?_
      obtain ⟨y3, hky3, hf⟩ := mm_bd hf
      refine e_virt hm_102 rfl rfl rfl rfl (Nat.le_of_ble_eq_true rfl) hm_48 rfl rfl (c_48 M.2.1 x1 x3 M hp2 hky3 ?_)
      show Ev Z _ 102 28 [some (.ref 55), some (.int x1), some (.int x2), some (.int x3), none] [.int y3.1, .int x3, .ref 60] (mm_H y3.2) Q
      obtain ⟨hi4, hf⟩ := mm_ite hf
      refine e_iast hm_102 rfl rfl hi4 ?_
      refine e_aload_n hm_102 rfl rfl ?_
      refine e_getR hm_102 rfl rfl rfl rfl ?_
      refine e_aload_n hm_102 rfl rfl ?_
      obtain ⟨hp5, hf⟩ := mm_ite hf
      refine e_getR hm_102 rfl rfl rfl rfl ?_
      refine e_iload_n hm_102 rfl rfl ?_
      refine e_iload_n hm_102 rfl rfl ?_
      obtain ⟨y6, hky6, hf⟩ := mm_bd hf
      refine e_virt hm_102 rfl rfl rfl rfl (Nat.le_of_ble_eq_true rfl) hm_29 rfl rfl (c_29 y3.2.2.1 x1 x3 (ak_up y3.2.1 60 x3.toNatClampNeg y3.1, y3.2.2) hp5 hky6 ?_)
      show Ev Z _ 102 42 [some (.ref 55), some (.int x1), some (.int x2), some (.int x3), none] [.int y6.1] (mm_H y6.2) Q
      by_cases hc7 : y6.1 = (0 : Int32)
      · rw [if_pos hc7] at hf
        refine e_if_t (t := 51) hm_102 rfl (ct_eq hc7) rfl ?_
        refine e_iinc (L2 := [some (.ref 55), some (.int x1), some (.int x2), some (.int (x3 + (1 : Int32))), none]) hm_102 rfl kc_iinc_1 rfl rfl ?_
        refine e_goto (t := 4) hm_102 rfl rfl ?_
        exact e_forget (L' := [some (.ref 55), some (.int x1), some (.int x2), some (.int (x3 + (1 : Int32))), none]) (lf_k (lf_k (lf_k (lf_k (lf_k lf_0))))) (ih x1 x2 (x3 + (1 : Int32)) y6.2 Q hf hq)
      · rw [if_neg hc7] at hf
        refine e_if_f hm_102 rfl (cf_eq hc7) ?_
        refine e_iload_n hm_102 rfl rfl ?_
        refine e_iconst hm_102 rfl kc_iconst_1 ?_
        refine e_iload_n hm_102 rfl rfl ?_
        refine e_ishl hm_102 rfl ?_
        refine e_ior hm_102 rfl ?_
        refine e_istore_n (L2 := [some (.ref 55), some (.int x1), some (.int (x2 ||| ((1 : Int32) <<< (x3 &&& 31)))), some (.int x3), none]) hm_102 rfl rfl ?_
        refine e_iinc (L2 := [some (.ref 55), some (.int x1), some (.int (x2 ||| ((1 : Int32) <<< (x3 &&& 31)))), some (.int (x3 + (1 : Int32))), none]) hm_102 rfl kc_iinc_1 rfl rfl ?_
        refine e_goto (t := 4) hm_102 rfl rfl ?_
        exact e_forget (L' := [some (.ref 55), some (.int x1), some (.int (x2 ||| ((1 : Int32) <<< (x3 &&& 31)))), some (.int (x3 + (1 : Int32))), none]) (lf_k (lf_k (lf_k (lf_k (lf_k lf_0))))) (ih x1 (x2 ||| ((1 : Int32) <<< (x3 &&& 31))) (x3 + (1 : Int32)) y6.2 Q hf hq)
    · rw [if_neg hc1] at hf
      refine e_ic_t (t := 57) hm_102 rfl (ct_ge hc1) rfl ?_
      obtain rfl := Option.some.inj hf
      exact e_forget (L' := [some (.ref 55), some (.int x1), some (.int x2), none, none]) (lf_k (lf_k (lf_k (lf_d (lf_k lf_0))))) hq
def pl_lookAtOne_l59 : Nat → Int32 → Int32 → Int32 → mm_M → Option (((Unit) × mm_M))
  | 0, _, _, _, _ => none
  | n + 1, x1, x2, x3, M =>
    if x3 < (9 : Int32) then
      if mm_is8 M.2.1 = true then
      (sh_weeksFrom M.2.1 x1 (x3 - (1 : Int32)) M).bind fun y3 =>
      if ak_inb ((x1 * (9 : Int32)) + x3) 36 = true then
      if ak_inb ((x1 * (9 : Int32)) + x3) 36 = true then
      if (((ak_up y3.2.1 56 (((x1 * (9 : Int32)) + x3).toNatClampNeg) y3.1) 56 ((x1 * (9 : Int32)) + x3).toNatClampNeg) &&& (x2 ^^^ (-1 : Int32))) = (0 : Int32) then
        if ak_inb ((x1 * (9 : Int32)) + x3) 36 = true then
        if ak_inb ((x1 * (9 : Int32)) + x3) 36 = true then
        (pl_gladnessOf ((ak_up (ak_up y3.2.1 56 (((x1 * (9 : Int32)) + x3).toNatClampNeg) y3.1) 58 (((x1 * (9 : Int32)) + x3).toNatClampNeg) (1 : Int32)) 56 ((x1 * (9 : Int32)) + x3).toNatClampNeg) (ak_up (ak_up y3.2.1 56 (((x1 * (9 : Int32)) + x3).toNatClampNeg) y3.1) 58 (((x1 * (9 : Int32)) + x3).toNatClampNeg) (1 : Int32), y3.2.2)).bind fun y9 =>
        if ak_inb ((x1 * (9 : Int32)) + x3) 36 = true then
        pl_lookAtOne_l59 n x1 x2 (x3 + (1 : Int32)) (ak_up y9.2.1 57 (((x1 * (9 : Int32)) + x3).toNatClampNeg) y9.1, y9.2.2) else none else none else none
      else
        if ak_inb ((x1 * (9 : Int32)) + x3) 36 = true then
        if ak_inb ((x1 * (9 : Int32)) + x3) 36 = true then
        (pl_gladnessOf ((ak_up (ak_up y3.2.1 56 (((x1 * (9 : Int32)) + x3).toNatClampNeg) y3.1) 58 (((x1 * (9 : Int32)) + x3).toNatClampNeg) (0 : Int32)) 56 ((x1 * (9 : Int32)) + x3).toNatClampNeg) (ak_up (ak_up y3.2.1 56 (((x1 * (9 : Int32)) + x3).toNatClampNeg) y3.1) 58 (((x1 * (9 : Int32)) + x3).toNatClampNeg) (0 : Int32), y3.2.2)).bind fun y13 =>
        if ak_inb ((x1 * (9 : Int32)) + x3) 36 = true then
        pl_lookAtOne_l59 n x1 x2 (x3 + (1 : Int32)) (ak_up y13.2.1 57 (((x1 * (9 : Int32)) + x3).toNatClampNeg) y13.1, y13.2.2) else none else none else none else none else none else none
    else
      some ((), M)
set_option maxRecDepth 20000 in
set_option maxHeartbeats 4000000 in
theorem lc_102_59 {Z : ak_Z} {d : Nat} : ∀ (n : Nat) (x1 : Int32) (x2 : Int32) (x3 : Int32) (M : mm_M) {y : ((Unit) × mm_M)} (Q : Option Value → ak_H → Prop), pl_lookAtOne_l59 n x1 x2 x3 M = some y → (Ev Z (d + 4) 102 141 [none, none, none, none, none] [] (mm_H y.2) Q) → Ev Z (d + 4) 102 59 [some (.ref 55), some (.int x1), some (.int x2), some (.int x3), none] [] (mm_H M) Q := by
  intro n
  induction n with
  | zero => intro x1 x2 x3 M y Q hf; cases hf
  | succ n ih =>
    intro x1 x2 x3 M y Q hf hq
    rw [pl_lookAtOne_l59] at hf
    refine e_iload_n hm_102 rfl rfl ?_
    refine e_bipush hm_102 rfl kc_bipush_9 ?_
    by_cases hc1 : x3 < (9 : Int32)
    · rw [if_pos hc1] at hf
      refine e_ic_f hm_102 rfl (cf_ge hc1) ?_
      refine e_iload_n hm_102 rfl rfl ?_
      refine e_bipush hm_102 rfl kc_bipush_9 ?_
      refine e_imul hm_102 rfl ?_
      refine e_iload_n hm_102 rfl rfl ?_
      refine e_iadd hm_102 rfl ?_
      refine e_istore (L2 := [some (.ref 55), some (.int x1), some (.int x2), some (.int x3), some (.int ((x1 * (9 : Int32)) + x3))]) hm_102 rfl rfl ?_
      refine e_aload_n hm_102 rfl rfl ?_
      refine e_getR hm_102 rfl rfl rfl rfl ?_
      refine e_iload hm_102 rfl rfl ?_
      refine e_aload_n hm_102 rfl rfl ?_
      obtain ⟨hp2, hf⟩ := mm_ite hf
      refine e_getR hm_102 rfl rfl rfl rfl ?_
      refine e_iload_n hm_102 rfl rfl ?_
      refine e_iload_n hm_102 rfl rfl ?_
      refine e_iconst hm_102 rfl kc_iconst_1 ?_
      refine e_isub hm_102 rfl ?_
      obtain ⟨y3, hky3, hf⟩ := mm_bd hf
      refine e_virt hm_102 rfl rfl rfl (mm_cl8 hp2) (Nat.le_of_ble_eq_true rfl) hm_28 rfl rfl (c_28 M.2.1 x1 (x3 - (1 : Int32)) M hp2 hky3 ?_)
      show Ev Z _ 102 90 [some (.ref 55), some (.int x1), some (.int x2), some (.int x3), some (.int ((x1 * (9 : Int32)) + x3))] [.int y3.1, .int ((x1 * (9 : Int32)) + x3), .ref 56] (mm_H y3.2) Q
      obtain ⟨hi4, hf⟩ := mm_ite hf
      refine e_iast hm_102 rfl rfl hi4 ?_
      refine e_aload_n hm_102 rfl rfl ?_
      refine e_getR hm_102 rfl rfl rfl rfl ?_
      refine e_iload hm_102 rfl rfl ?_
      refine e_aload_n hm_102 rfl rfl ?_
      refine e_getR hm_102 rfl rfl rfl rfl ?_
      refine e_iload hm_102 rfl rfl ?_
      obtain ⟨hi5, hf⟩ := mm_ite hf
      refine e_iald hm_102 rfl rfl hi5 ?_
      refine e_iload_n hm_102 rfl rfl ?_
      refine e_iconst hm_102 rfl kc_iconst_m1 ?_
      refine e_ixor hm_102 rfl ?_
      refine e_iand hm_102 rfl ?_
      by_cases hc6 : (((ak_up y3.2.1 56 (((x1 * (9 : Int32)) + x3).toNatClampNeg) y3.1) 56 ((x1 * (9 : Int32)) + x3).toNatClampNeg) &&& (x2 ^^^ (-1 : Int32))) = (0 : Int32)
      · rw [if_pos hc6] at hf
        refine e_if_f hm_102 rfl (cf_ne hc6) ?_
        refine e_iconst hm_102 rfl kc_iconst_1 ?_
        refine e_goto (t := 116) hm_102 rfl rfl ?_
        obtain ⟨hi7, hf⟩ := mm_ite hf
        refine e_zast hm_102 rfl rfl hi7 (by decide) ?_
        refine e_aload_n hm_102 rfl rfl ?_
        refine e_getR hm_102 rfl rfl rfl rfl ?_
        refine e_iload hm_102 rfl rfl ?_
        refine e_aload_n hm_102 rfl rfl ?_
        refine e_aload_n hm_102 rfl rfl ?_
        refine e_getR hm_102 rfl rfl rfl rfl ?_
        refine e_iload hm_102 rfl rfl ?_
        obtain ⟨hi8, hf⟩ := mm_ite hf
        refine e_iald hm_102 rfl rfl hi8 ?_
        obtain ⟨y9, hky9, hf⟩ := mm_bd hf
        refine e_virt hm_102 rfl rfl rfl rfl (Nat.le_of_ble_eq_true rfl) hm_103 rfl rfl (c_103 ((ak_up (ak_up y3.2.1 56 (((x1 * (9 : Int32)) + x3).toNatClampNeg) y3.1) 58 (((x1 * (9 : Int32)) + x3).toNatClampNeg) (1 : Int32)) 56 ((x1 * (9 : Int32)) + x3).toNatClampNeg) (ak_up (ak_up y3.2.1 56 (((x1 * (9 : Int32)) + x3).toNatClampNeg) y3.1) 58 (((x1 * (9 : Int32)) + x3).toNatClampNeg) (1 : Int32), y3.2.2) hky9 ?_)
        show Ev Z _ 102 134 [some (.ref 55), some (.int x1), some (.int x2), some (.int x3), some (.int ((x1 * (9 : Int32)) + x3))] [.int y9.1, .int ((x1 * (9 : Int32)) + x3), .ref 57] (mm_H y9.2) Q
        obtain ⟨hi10, hf⟩ := mm_ite hf
        refine e_iast hm_102 rfl rfl hi10 ?_
        refine e_iinc (L2 := [some (.ref 55), some (.int x1), some (.int x2), some (.int (x3 + (1 : Int32))), some (.int ((x1 * (9 : Int32)) + x3))]) hm_102 rfl kc_iinc_1 rfl rfl ?_
        refine e_goto (t := 59) hm_102 rfl rfl ?_
        exact e_forget (L' := [some (.ref 55), some (.int x1), some (.int x2), some (.int (x3 + (1 : Int32))), none]) (lf_k (lf_k (lf_k (lf_k (lf_d lf_0))))) (ih x1 x2 (x3 + (1 : Int32)) (ak_up y9.2.1 57 (((x1 * (9 : Int32)) + x3).toNatClampNeg) y9.1, y9.2.2) Q hf hq)
      · rw [if_neg hc6] at hf
        refine e_if_t (t := 115) hm_102 rfl (ct_ne hc6) rfl ?_
        refine e_iconst hm_102 rfl kc_iconst_0 ?_
        obtain ⟨hi11, hf⟩ := mm_ite hf
        refine e_zast hm_102 rfl rfl hi11 (by decide) ?_
        refine e_aload_n hm_102 rfl rfl ?_
        refine e_getR hm_102 rfl rfl rfl rfl ?_
        refine e_iload hm_102 rfl rfl ?_
        refine e_aload_n hm_102 rfl rfl ?_
        refine e_aload_n hm_102 rfl rfl ?_
        refine e_getR hm_102 rfl rfl rfl rfl ?_
        refine e_iload hm_102 rfl rfl ?_
        obtain ⟨hi12, hf⟩ := mm_ite hf
        refine e_iald hm_102 rfl rfl hi12 ?_
        obtain ⟨y13, hky13, hf⟩ := mm_bd hf
        refine e_virt hm_102 rfl rfl rfl rfl (Nat.le_of_ble_eq_true rfl) hm_103 rfl rfl (c_103 ((ak_up (ak_up y3.2.1 56 (((x1 * (9 : Int32)) + x3).toNatClampNeg) y3.1) 58 (((x1 * (9 : Int32)) + x3).toNatClampNeg) (0 : Int32)) 56 ((x1 * (9 : Int32)) + x3).toNatClampNeg) (ak_up (ak_up y3.2.1 56 (((x1 * (9 : Int32)) + x3).toNatClampNeg) y3.1) 58 (((x1 * (9 : Int32)) + x3).toNatClampNeg) (0 : Int32), y3.2.2) hky13 ?_)
        show Ev Z _ 102 134 [some (.ref 55), some (.int x1), some (.int x2), some (.int x3), some (.int ((x1 * (9 : Int32)) + x3))] [.int y13.1, .int ((x1 * (9 : Int32)) + x3), .ref 57] (mm_H y13.2) Q
        obtain ⟨hi14, hf⟩ := mm_ite hf
        refine e_iast hm_102 rfl rfl hi14 ?_
        refine e_iinc (L2 := [some (.ref 55), some (.int x1), some (.int x2), some (.int (x3 + (1 : Int32))), some (.int ((x1 * (9 : Int32)) + x3))]) hm_102 rfl kc_iinc_1 rfl rfl ?_
        refine e_goto (t := 59) hm_102 rfl rfl ?_
        exact e_forget (L' := [some (.ref 55), some (.int x1), some (.int x2), some (.int (x3 + (1 : Int32))), none]) (lf_k (lf_k (lf_k (lf_k (lf_d lf_0))))) (ih x1 x2 (x3 + (1 : Int32)) (ak_up y13.2.1 57 (((x1 * (9 : Int32)) + x3).toNatClampNeg) y13.1, y13.2.2) Q hf hq)
    · rw [if_neg hc1] at hf
      refine e_ic_t (t := 141) hm_102 rfl (ct_ge hc1) rfl ?_
      obtain rfl := Option.some.inj hf
      exact e_forget (L' := [none, none, none, none, none]) (lf_d (lf_d (lf_d (lf_d (lf_k lf_0))))) hq
def pl_lookAtOne (a1 : Int32) (M : mm_M) : Option (Unit × mm_M) :=
  (pl_lookAtOne_l4 300 a1 (0 : Int32) (0 : Int32) M).bind fun y1 =>
  (pl_lookAtOne_l59 300 a1 y1.1 (0 : Int32) y1.2).bind fun y2 =>
  some ((), y2.2)
set_option maxRecDepth 20000 in
set_option maxHeartbeats 4000000 in
theorem c_102 {Z : ak_Z} {d : Nat} (a1 : Int32) (M : mm_M) {y : Unit × mm_M} (hf : pl_lookAtOne a1 M = some y) {Q : Option Value → ak_H → Prop} (hq : Q none (mm_H y.2)) : Ev Z (d + 4) 102 0 [some (.ref 55), some (.int a1), none, none, none] [] (mm_H M) Q := by
  rw [pl_lookAtOne] at hf
  refine e_iconst hm_102 rfl kc_iconst_0 ?_
  refine e_istore_n (L2 := [some (.ref 55), some (.int a1), some (.int (0 : Int32)), none, none]) hm_102 rfl rfl ?_
  refine e_iconst hm_102 rfl kc_iconst_0 ?_
  refine e_istore_n (L2 := [some (.ref 55), some (.int a1), some (.int (0 : Int32)), some (.int (0 : Int32)), none]) hm_102 rfl rfl ?_
  obtain ⟨y1, hky1, hf⟩ := mm_bd hf
  refine e_forget (L' := [some (.ref 55), some (.int a1), some (.int (0 : Int32)), some (.int (0 : Int32)), none]) (lf_k (lf_k (lf_k (lf_k (lf_k lf_0))))) (lc_102_4 (d := _) 300 a1 (0 : Int32) (0 : Int32) M Q hky1 ?_)
  show Ev Z _ 102 57 [some (.ref 55), some (.int a1), some (.int y1.1), none, none] [] (mm_H y1.2) Q
  refine e_iconst hm_102 rfl kc_iconst_0 ?_
  refine e_istore_n (L2 := [some (.ref 55), some (.int a1), some (.int y1.1), some (.int (0 : Int32)), none]) hm_102 rfl rfl ?_
  obtain ⟨y2, hky2, hf⟩ := mm_bd hf
  refine e_forget (L' := [some (.ref 55), some (.int a1), some (.int y1.1), some (.int (0 : Int32)), none]) (lf_k (lf_k (lf_k (lf_k (lf_k lf_0))))) (lc_102_59 (d := _) 300 a1 y1.1 (0 : Int32) y1.2 Q hky2 ?_)
  show Ev Z _ 102 141 [none, none, none, none, none] [] (mm_H y2.2) Q
  obtain rfl := Option.some.inj hf
  exact e_vret hm_102 rfl rfl hq
def pl_takeBooked_l2 : Nat → Int32 → mm_M → Option (((Unit) × mm_M))
  | 0, _, _ => none
  | n + 1, x1, M =>
    if mm_is8 M.2.1 = true then
    if x1 < (M.1 M.2.1 4) then
      if mm_is8 M.2.1 = true then
      if ak_inb x1 4 = true then
      (nb_isWeek (M.1 (M.2.1 + 6) x1.toNatClampNeg) M).bind fun y5 =>
      if y5.1 = (0 : Int32) then
        if ak_inb x1 4 = true then
        pl_takeBooked_l2 n (x1 + (1 : Int32)) (ak_up y5.2.1 61 x1.toNatClampNeg (0 : Int32), y5.2.2) else none
      else
        if mm_is8 y5.2.2.1 = true then
        if ak_inb x1 4 = true then
        if ak_inb x1 4 = true then
        pl_takeBooked_l2 n (x1 + (1 : Int32)) (ak_up y5.2.1 61 x1.toNatClampNeg ((y5.2.1 (y5.2.2.1 + 6) x1.toNatClampNeg) + (1 : Int32)), y5.2.2) else none else none else none else none else none
    else
      some ((), M) else none
set_option maxRecDepth 20000 in
set_option maxHeartbeats 4000000 in
theorem lc_104_2 {Z : ak_Z} {d : Nat} : ∀ (n : Nat) (x1 : Int32) (M : mm_M) {y : ((Unit) × mm_M)} (Q : Option Value → ak_H → Prop), pl_takeBooked_l2 n x1 M = some y → (Ev Z (d + 1) 104 55 [none, none] [] (mm_H y.2) Q) → Ev Z (d + 1) 104 2 [some (.ref 55), some (.int x1)] [] (mm_H M) Q := by
  intro n
  induction n with
  | zero => intro x1 M y Q hf; cases hf
  | succ n ih =>
    intro x1 M y Q hf hq
    rw [pl_takeBooked_l2] at hf
    refine e_iload_n hm_104 rfl rfl ?_
    refine e_aload_n hm_104 rfl rfl ?_
    obtain ⟨hp1, hf⟩ := mm_ite hf
    refine e_getR hm_104 rfl rfl rfl rfl ?_
    refine e_getI hm_104 rfl (mm_cl8 hp1) rfl ?_
    by_cases hc2 : x1 < (M.1 M.2.1 4)
    · rw [if_pos hc2] at hf
      refine e_ic_f hm_104 rfl (cf_ge hc2) ?_
      refine e_aload_n hm_104 rfl rfl ?_
      refine e_getR hm_104 rfl rfl rfl rfl ?_
      refine e_iload_n hm_104 rfl rfl ?_
      refine e_aload_n hm_104 rfl rfl ?_
      obtain ⟨hp3, hf⟩ := mm_ite hf
      refine e_getR hm_104 rfl rfl rfl rfl ?_
      refine e_getR hm_104 rfl (mm_cl8 hp3) rfl (mm_rf8_10 hp3) ?_
      refine e_iload_n hm_104 rfl rfl ?_
      obtain ⟨hi4, hf⟩ := mm_ite hf
      refine e_iald hm_104 rfl (mm_ar8_10 hp3) hi4 ?_
      obtain ⟨y5, hky5, hf⟩ := mm_bd hf
      refine e_stat hm_104 rfl (by decide) rfl rfl (Nat.le_of_ble_eq_true rfl) hm_26 rfl rfl (c_26 (M.1 (M.2.1 + 6) x1.toNatClampNeg) M hky5 ?_)
      show Ev Z _ 104 30 [some (.ref 55), some (.int x1)] [.int y5.1, .int x1, .ref 61] (mm_H y5.2) Q
      by_cases hc6 : y5.1 = (0 : Int32)
      · rw [if_pos hc6] at hf
        refine e_if_t (t := 47) hm_104 rfl (ct_eq hc6) rfl ?_
        refine e_iconst hm_104 rfl kc_iconst_0 ?_
        obtain ⟨hi7, hf⟩ := mm_ite hf
        refine e_iast hm_104 rfl rfl hi7 ?_
        refine e_iinc (L2 := [some (.ref 55), some (.int (x1 + (1 : Int32)))]) hm_104 rfl kc_iinc_1 rfl rfl ?_
        refine e_goto (t := 2) hm_104 rfl rfl ?_
        exact e_forget (L' := [some (.ref 55), some (.int (x1 + (1 : Int32)))]) (lf_k (lf_k lf_0)) (ih (x1 + (1 : Int32)) (ak_up y5.2.1 61 x1.toNatClampNeg (0 : Int32), y5.2.2) Q hf hq)
      · rw [if_neg hc6] at hf
        refine e_if_f hm_104 rfl (cf_eq hc6) ?_
        refine e_aload_n hm_104 rfl rfl ?_
        obtain ⟨hp8, hf⟩ := mm_ite hf
        refine e_getR hm_104 rfl rfl rfl rfl ?_
        refine e_getR hm_104 rfl (mm_cl8 hp8) rfl (mm_rf8_10 hp8) ?_
        refine e_iload_n hm_104 rfl rfl ?_
        obtain ⟨hi9, hf⟩ := mm_ite hf
        refine e_iald hm_104 rfl (mm_ar8_10 hp8) hi9 ?_
        refine e_iconst hm_104 rfl kc_iconst_1 ?_
        refine e_iadd hm_104 rfl ?_
        refine e_goto (t := 48) hm_104 rfl rfl ?_
        obtain ⟨hi10, hf⟩ := mm_ite hf
        refine e_iast hm_104 rfl rfl hi10 ?_
        refine e_iinc (L2 := [some (.ref 55), some (.int (x1 + (1 : Int32)))]) hm_104 rfl kc_iinc_1 rfl rfl ?_
        refine e_goto (t := 2) hm_104 rfl rfl ?_
        exact e_forget (L' := [some (.ref 55), some (.int (x1 + (1 : Int32)))]) (lf_k (lf_k lf_0)) (ih (x1 + (1 : Int32)) (ak_up y5.2.1 61 x1.toNatClampNeg ((y5.2.1 (y5.2.2.1 + 6) x1.toNatClampNeg) + (1 : Int32)), y5.2.2) Q hf hq)
    · rw [if_neg hc2] at hf
      refine e_ic_t (t := 55) hm_104 rfl (ct_ge hc2) rfl ?_
      obtain rfl := Option.some.inj hf
      exact e_forget (L' := [none, none]) (lf_d (lf_d lf_0)) hq
def pl_takeBooked (M : mm_M) : Option (Unit × mm_M) :=
  (pl_takeBooked_l2 300 (0 : Int32) M).bind fun y1 =>
  some ((), y1.2)
set_option maxRecDepth 20000 in
set_option maxHeartbeats 4000000 in
theorem c_104 {Z : ak_Z} {d : Nat} (M : mm_M) {y : Unit × mm_M} (hf : pl_takeBooked M = some y) {Q : Option Value → ak_H → Prop} (hq : Q none (mm_H y.2)) : Ev Z (d + 1) 104 0 [some (.ref 55), none] [] (mm_H M) Q := by
  rw [pl_takeBooked] at hf
  refine e_iconst hm_104 rfl kc_iconst_0 ?_
  refine e_istore_n (L2 := [some (.ref 55), some (.int (0 : Int32))]) hm_104 rfl rfl ?_
  obtain ⟨y1, hky1, hf⟩ := mm_bd hf
  refine e_forget (L' := [some (.ref 55), some (.int (0 : Int32))]) (lf_k (lf_k lf_0)) (lc_104_2 (d := _) 300 (0 : Int32) M Q hky1 ?_)
  show Ev Z _ 104 55 [none, none] [] (mm_H y1.2) Q
  obtain rfl := Option.some.inj hf
  exact e_vret hm_104 rfl rfl hq
def pl_look_l7 : Nat → Int32 → mm_M → Option (((Unit) × mm_M))
  | 0, _, _ => none
  | n + 1, x2, M =>
    if x2 < (16 : Int32) then
      if mm_is8 M.2.1 = true then
      (sh_allows M.2.1 x2 M).bind fun y3 =>
      if ak_inb x2 16 = true then if y3.1 = 0 ∨ y3.1 = 1 then
      pl_look_l7 n (x2 + (1 : Int32)) (ak_up y3.2.1 59 x2.toNatClampNeg y3.1, y3.2.2) else none else none else none
    else
      some ((), M)
set_option maxRecDepth 20000 in
set_option maxHeartbeats 4000000 in
theorem lc_99_7 {Z : ak_Z} {d : Nat} : ∀ (n : Nat) (x2 : Int32) (M : mm_M) {y : ((Unit) × mm_M)} (Q : Option Value → ak_H → Prop), pl_look_l7 n x2 M = some y → (Ev Z (d + 5) 99 36 [some (.ref 55), none, none] [] (mm_H y.2) Q) → Ev Z (d + 5) 99 7 [some (.ref 55), none, some (.int x2)] [] (mm_H M) Q := by
  intro n
  induction n with
  | zero => intro x2 M y Q hf; cases hf
  | succ n ih =>
    intro x2 M y Q hf hq
    rw [pl_look_l7] at hf
    refine e_iload_n hm_99 rfl rfl ?_
    refine e_aload_n hm_99 rfl rfl ?_
    refine e_getR hm_99 rfl rfl rfl rfl ?_
    refine e_alen (t := 1) (n := 16) (v := (16 : Int32)) hm_99 rfl rfl (by decide) (by decide) ?_
    by_cases hc1 : x2 < (16 : Int32)
    · rw [if_pos hc1] at hf
      refine e_ic_f hm_99 rfl (cf_ge hc1) ?_
      refine e_aload_n hm_99 rfl rfl ?_
      refine e_getR hm_99 rfl rfl rfl rfl ?_
      refine e_iload_n hm_99 rfl rfl ?_
      refine e_aload_n hm_99 rfl rfl ?_
      obtain ⟨hp2, hf⟩ := mm_ite hf
      refine e_getR hm_99 rfl rfl rfl rfl ?_
      refine e_iload_n hm_99 rfl rfl ?_
      obtain ⟨y3, hky3, hf⟩ := mm_bd hf
      refine e_virt hm_99 rfl rfl rfl (mm_cl8 hp2) (Nat.le_of_ble_eq_true rfl) hm_100 rfl rfl (c_100 M.2.1 x2 M hp2 hky3 ?_)
      show Ev Z _ 99 29 [some (.ref 55), none, some (.int x2)] [.int y3.1, .int x2, .ref 59] (mm_H y3.2) Q
      obtain ⟨hi4, hf⟩ := mm_ite hf
      obtain ⟨hb5, hf⟩ := mm_ite hf
      refine e_zast hm_99 rfl rfl hi4 hb5 ?_
      refine e_iinc (L2 := [some (.ref 55), none, some (.int (x2 + (1 : Int32)))]) hm_99 rfl kc_iinc_1 rfl rfl ?_
      refine e_goto (t := 7) hm_99 rfl rfl ?_
      exact e_forget (L' := [some (.ref 55), none, some (.int (x2 + (1 : Int32)))]) (lf_k (lf_k (lf_k lf_0))) (ih (x2 + (1 : Int32)) (ak_up y3.2.1 59 x2.toNatClampNeg y3.1, y3.2.2) Q hf hq)
    · rw [if_neg hc1] at hf
      refine e_ic_t (t := 36) hm_99 rfl (ct_ge hc1) rfl ?_
      obtain rfl := Option.some.inj hf
      exact e_forget (L' := [some (.ref 55), none, none]) (lf_k (lf_k (lf_d lf_0))) hq
def pl_look_l38 : Nat → Int32 → mm_M → Option (((Unit) × mm_M))
  | 0, _, _ => none
  | n + 1, x2, M =>
    if mm_is8 M.2.1 = true then
    if x2 < (M.1 M.2.1 4) then
      (pl_lookAtOne x2 M).bind fun y3 =>
      pl_look_l38 n (x2 + (1 : Int32)) y3.2
    else
      some ((), M) else none
set_option maxRecDepth 20000 in
set_option maxHeartbeats 4000000 in
theorem lc_99_38 {Z : ak_Z} {d : Nat} : ∀ (n : Nat) (x2 : Int32) (M : mm_M) {y : ((Unit) × mm_M)} (Q : Option Value → ak_H → Prop), pl_look_l38 n x2 M = some y → (Ev Z (d + 5) 99 60 [some (.ref 55), none, none] [] (mm_H y.2) Q) → Ev Z (d + 5) 99 38 [some (.ref 55), none, some (.int x2)] [] (mm_H M) Q := by
  intro n
  induction n with
  | zero => intro x2 M y Q hf; cases hf
  | succ n ih =>
    intro x2 M y Q hf hq
    rw [pl_look_l38] at hf
    refine e_iload_n hm_99 rfl rfl ?_
    refine e_aload_n hm_99 rfl rfl ?_
    obtain ⟨hp1, hf⟩ := mm_ite hf
    refine e_getR hm_99 rfl rfl rfl rfl ?_
    refine e_getI hm_99 rfl (mm_cl8 hp1) rfl ?_
    by_cases hc2 : x2 < (M.1 M.2.1 4)
    · rw [if_pos hc2] at hf
      refine e_ic_f hm_99 rfl (cf_ge hc2) ?_
      refine e_aload_n hm_99 rfl rfl ?_
      refine e_iload_n hm_99 rfl rfl ?_
      obtain ⟨y3, hky3, hf⟩ := mm_bd hf
      refine e_virt hm_99 rfl rfl rfl rfl (Nat.le_of_ble_eq_true rfl) hm_102 rfl rfl (c_102 x2 M hky3 ?_)
      show Ev Z _ 99 54 [some (.ref 55), none, some (.int x2)] [] (mm_H y3.2) Q
      refine e_iinc (L2 := [some (.ref 55), none, some (.int (x2 + (1 : Int32)))]) hm_99 rfl kc_iinc_1 rfl rfl ?_
      refine e_goto (t := 38) hm_99 rfl rfl ?_
      exact e_forget (L' := [some (.ref 55), none, some (.int (x2 + (1 : Int32)))]) (lf_k (lf_k (lf_k lf_0))) (ih (x2 + (1 : Int32)) y3.2 Q hf hq)
    · rw [if_neg hc2] at hf
      refine e_ic_t (t := 60) hm_99 rfl (ct_ge hc2) rfl ?_
      obtain rfl := Option.some.inj hf
      exact e_forget (L' := [some (.ref 55), none, none]) (lf_k (lf_k (lf_d lf_0))) hq
def pl_look (a1 : Nat) (M : mm_M) : Option (Unit × mm_M) :=
  (pl_look_l7 300 (0 : Int32) (M.1, a1, M.2.2)).bind fun y1 =>
  (pl_look_l38 300 (0 : Int32) y1.2).bind fun y2 =>
  (pl_takeBooked y2.2).bind fun y3 =>
  some ((), y3.2)
set_option maxRecDepth 20000 in
set_option maxHeartbeats 4000000 in
theorem c_99 {Z : ak_Z} {d : Nat} (a1 : Nat) (M : mm_M) (ha1 : mm_is8 a1 = true) {y : Unit × mm_M} (hf : pl_look a1 M = some y) {Q : Option Value → ak_H → Prop} (hq : Q none (mm_H y.2)) : Ev Z (d + 5) 99 0 [some (.ref 55), some (.ref a1), none] [] (mm_H M) Q := by
  rw [pl_look] at hf
  refine e_aload_n hm_99 rfl rfl ?_
  refine e_aload_n hm_99 rfl rfl ?_
  refine e_putS hm_99 rfl ?_
  refine e_iconst hm_99 rfl kc_iconst_0 ?_
  refine e_istore_n (L2 := [some (.ref 55), some (.ref a1), some (.int (0 : Int32))]) hm_99 rfl rfl ?_
  obtain ⟨y1, hky1, hf⟩ := mm_bd hf
  refine e_forget (L' := [some (.ref 55), none, some (.int (0 : Int32))]) (lf_k (lf_d (lf_k lf_0))) (lc_99_7 (d := _) 300 (0 : Int32) (M.1, a1, M.2.2) Q hky1 ?_)
  show Ev Z _ 99 36 [some (.ref 55), none, none] [] (mm_H y1.2) Q
  refine e_iconst hm_99 rfl kc_iconst_0 ?_
  refine e_istore_n (L2 := [some (.ref 55), none, some (.int (0 : Int32))]) hm_99 rfl rfl ?_
  obtain ⟨y2, hky2, hf⟩ := mm_bd hf
  refine e_forget (L' := [some (.ref 55), none, some (.int (0 : Int32))]) (lf_k (lf_k (lf_k lf_0))) (lc_99_38 (d := _) 300 (0 : Int32) y1.2 Q hky2 ?_)
  show Ev Z _ 99 60 [some (.ref 55), none, none] [] (mm_H y2.2) Q
  refine e_aload_n hm_99 rfl rfl ?_
  obtain ⟨y3, hky3, hf⟩ := mm_bd hf
  refine e_virt hm_99 rfl rfl rfl rfl (Nat.le_of_ble_eq_true rfl) hm_104 rfl rfl (c_104 y2.2 hky3 ?_)
  show Ev Z _ 99 64 [some (.ref 55), none, none] [] (mm_H y3.2) Q
  obtain rfl := Option.some.inj hf
  exact e_vret hm_99 rfl rfl hq
def pl_place (a1 : Int32) (M : mm_M) : Option (Int32 × mm_M) :=
  if ak_inb a1 4 = true then
  some ((a1 * (9 : Int32)) + (M.1 61 a1.toNatClampNeg), M) else none
set_option maxRecDepth 20000 in
set_option maxHeartbeats 4000000 in
theorem c_106 {Z : ak_Z} {d : Nat} (a1 : Int32) (M : mm_M) {y : Int32 × mm_M} (hf : pl_place a1 M = some y) {Q : Option Value → ak_H → Prop} (hq : Q (some (.int y.1)) (mm_H y.2)) : Ev Z (d + 0) 106 0 [some (.ref 55), some (.int a1)] [] (mm_H M) Q := by
  rw [pl_place] at hf
  refine e_iload_n hm_106 rfl rfl ?_
  refine e_bipush hm_106 rfl kc_bipush_9 ?_
  refine e_imul hm_106 rfl ?_
  refine e_aload_n hm_106 rfl rfl ?_
  refine e_getR hm_106 rfl rfl rfl rfl ?_
  refine e_iload_n hm_106 rfl rfl ?_
  obtain ⟨hi1, hf⟩ := mm_ite hf
  refine e_iald hm_106 rfl rfl hi1 ?_
  refine e_iadd hm_106 rfl ?_
  obtain rfl := Option.some.inj hf
  exact e_iret hm_106 rfl rfl hq
def pl_awayIn_l4 : Nat → Int32 → Int32 → Int32 → mm_M → Option (((Int32) × mm_M))
  | 0, _, _, _, _ => none
  | n + 1, x1, x2, x3, M =>
    if mm_is8 M.2.1 = true then
    if x3 < (M.1 M.2.1 4) then
      (pl_place x3 M).bind fun y3 =>
      if ak_inb y3.1 36 = true then
      pl_awayIn_l4 n x1 (x2 ||| ((((y3.2.1 56 y3.1.toNatClampNeg) >>> (x1 &&& 31)) &&& (1 : Int32)) <<< (x3 &&& 31))) (x3 + (1 : Int32)) y3.2 else none
    else
      some (x2, M) else none
set_option maxRecDepth 20000 in
set_option maxHeartbeats 4000000 in
theorem lc_105_4 {Z : ak_Z} {d : Nat} : ∀ (n : Nat) (x1 : Int32) (x2 : Int32) (x3 : Int32) (M : mm_M) {y : ((Int32) × mm_M)} (Q : Option Value → ak_H → Prop), pl_awayIn_l4 n x1 x2 x3 M = some y → (Ev Z (d + 1) 105 40 [none, none, some (.int y.1), none] [] (mm_H y.2) Q) → Ev Z (d + 1) 105 4 [some (.ref 55), some (.int x1), some (.int x2), some (.int x3)] [] (mm_H M) Q := by
  intro n
  induction n with
  | zero => intro x1 x2 x3 M y Q hf; cases hf
  | succ n ih =>
    intro x1 x2 x3 M y Q hf hq
    rw [pl_awayIn_l4] at hf
    refine e_iload_n hm_105 rfl rfl ?_
    refine e_aload_n hm_105 rfl rfl ?_
    obtain ⟨hp1, hf⟩ := mm_ite hf
    refine e_getR hm_105 rfl rfl rfl rfl ?_
    refine e_getI hm_105 rfl (mm_cl8 hp1) rfl ?_
    by_cases hc2 : x3 < (M.1 M.2.1 4)
    · rw [if_pos hc2] at hf
      refine e_ic_f hm_105 rfl (cf_ge hc2) ?_
      refine e_iload_n hm_105 rfl rfl ?_
      refine e_aload_n hm_105 rfl rfl ?_
      refine e_getR hm_105 rfl rfl rfl rfl ?_
      refine e_aload_n hm_105 rfl rfl ?_
      refine e_iload_n hm_105 rfl rfl ?_
      obtain ⟨y3, hky3, hf⟩ := mm_bd hf
      refine e_virt hm_105 rfl rfl rfl rfl (Nat.le_of_ble_eq_true rfl) hm_106 rfl rfl (c_106 x3 M hky3 ?_)
      show Ev Z _ 105 25 [some (.ref 55), some (.int x1), some (.int x2), some (.int x3)] [.int y3.1, .ref 56, .int x2] (mm_H y3.2) Q
      obtain ⟨hi4, hf⟩ := mm_ite hf
      refine e_iald hm_105 rfl rfl hi4 ?_
      refine e_iload_n hm_105 rfl rfl ?_
      refine e_ishr hm_105 rfl ?_
      refine e_iconst hm_105 rfl kc_iconst_1 ?_
      refine e_iand hm_105 rfl ?_
      refine e_iload_n hm_105 rfl rfl ?_
      refine e_ishl hm_105 rfl ?_
      refine e_ior hm_105 rfl ?_
      refine e_istore_n (L2 := [some (.ref 55), some (.int x1), some (.int (x2 ||| ((((y3.2.1 56 y3.1.toNatClampNeg) >>> (x1 &&& 31)) &&& (1 : Int32)) <<< (x3 &&& 31)))), some (.int x3)]) hm_105 rfl rfl ?_
      refine e_iinc (L2 := [some (.ref 55), some (.int x1), some (.int (x2 ||| ((((y3.2.1 56 y3.1.toNatClampNeg) >>> (x1 &&& 31)) &&& (1 : Int32)) <<< (x3 &&& 31)))), some (.int (x3 + (1 : Int32)))]) hm_105 rfl kc_iinc_1 rfl rfl ?_
      refine e_goto (t := 4) hm_105 rfl rfl ?_
      exact e_forget (L' := [some (.ref 55), some (.int x1), some (.int (x2 ||| ((((y3.2.1 56 y3.1.toNatClampNeg) >>> (x1 &&& 31)) &&& (1 : Int32)) <<< (x3 &&& 31)))), some (.int (x3 + (1 : Int32)))]) (lf_k (lf_k (lf_k (lf_k lf_0)))) (ih x1 (x2 ||| ((((y3.2.1 56 y3.1.toNatClampNeg) >>> (x1 &&& 31)) &&& (1 : Int32)) <<< (x3 &&& 31))) (x3 + (1 : Int32)) y3.2 Q hf hq)
    · rw [if_neg hc2] at hf
      refine e_ic_t (t := 40) hm_105 rfl (ct_ge hc2) rfl ?_
      obtain rfl := Option.some.inj hf
      exact e_forget (L' := [none, none, some (.int x2), none]) (lf_d (lf_d (lf_k (lf_d lf_0)))) hq
def pl_awayIn (a1 : Int32) (M : mm_M) : Option (Int32 × mm_M) :=
  (pl_awayIn_l4 300 a1 (0 : Int32) (0 : Int32) M).bind fun y1 =>
  some (y1.1, y1.2)
set_option maxRecDepth 20000 in
set_option maxHeartbeats 4000000 in
theorem c_105 {Z : ak_Z} {d : Nat} (a1 : Int32) (M : mm_M) {y : Int32 × mm_M} (hf : pl_awayIn a1 M = some y) {Q : Option Value → ak_H → Prop} (hq : Q (some (.int y.1)) (mm_H y.2)) : Ev Z (d + 1) 105 0 [some (.ref 55), some (.int a1), none, none] [] (mm_H M) Q := by
  rw [pl_awayIn] at hf
  refine e_iconst hm_105 rfl kc_iconst_0 ?_
  refine e_istore_n (L2 := [some (.ref 55), some (.int a1), some (.int (0 : Int32)), none]) hm_105 rfl rfl ?_
  refine e_iconst hm_105 rfl kc_iconst_0 ?_
  refine e_istore_n (L2 := [some (.ref 55), some (.int a1), some (.int (0 : Int32)), some (.int (0 : Int32))]) hm_105 rfl rfl ?_
  obtain ⟨y1, hky1, hf⟩ := mm_bd hf
  refine e_forget (L' := [some (.ref 55), some (.int a1), some (.int (0 : Int32)), some (.int (0 : Int32))]) (lf_k (lf_k (lf_k (lf_k lf_0)))) (lc_105_4 (d := _) 300 a1 (0 : Int32) (0 : Int32) M Q hky1 ?_)
  show Ev Z _ 105 40 [none, none, some (.int y1.1), none] [] (mm_H y1.2) Q
  refine e_iload_n hm_105 rfl rfl ?_
  obtain rfl := Option.some.inj hf
  exact e_iret hm_105 rfl rfl hq
def pl_firstWrongWeek_l2 : Nat → Int32 → mm_M → Option ((Int32 × mm_M) ⊕ ((Unit) × mm_M))
  | 0, _, _ => none
  | n + 1, x1, M =>
    if x1 < (8 : Int32) then
      (pl_awayIn x1 M).bind fun y2 =>
      if ak_inb y2.1 16 = true then
      if (y2.2.1 59 y2.1.toNatClampNeg) = (0 : Int32) then
        some (.inl (x1, y2.2))
      else
        pl_firstWrongWeek_l2 n (x1 + (1 : Int32)) y2.2 else none
    else
      some (.inr ((), M))
set_option maxRecDepth 20000 in
set_option maxHeartbeats 4000000 in
theorem lc_108_2 {Z : ak_Z} {d : Nat} : ∀ (n : Nat) (x1 : Int32) (M : mm_M) {y : (Int32 × mm_M) ⊕ ((Unit) × mm_M)} (Q : Option Value → ak_H → Prop), pl_firstWrongWeek_l2 n x1 M = some y → (match y with | .inl yr => Q (some (.int yr.1)) (mm_H yr.2) | .inr yv => Ev Z (d + 2) 108 29 [none, none] [] (mm_H yv.2) Q) → Ev Z (d + 2) 108 2 [some (.ref 55), some (.int x1)] [] (mm_H M) Q := by
  intro n
  induction n with
  | zero => intro x1 M y Q hf; cases hf
  | succ n ih =>
    intro x1 M y Q hf hq
    rw [pl_firstWrongWeek_l2] at hf
    refine e_iload_n hm_108 rfl rfl ?_
    refine e_bipush hm_108 rfl kc_bipush_8 ?_
    by_cases hc1 : x1 < (8 : Int32)
    · rw [if_pos hc1] at hf
      refine e_ic_f hm_108 rfl (cf_ge hc1) ?_
      refine e_aload_n hm_108 rfl rfl ?_
      refine e_getR hm_108 rfl rfl rfl rfl ?_
      refine e_aload_n hm_108 rfl rfl ?_
      refine e_iload_n hm_108 rfl rfl ?_
      obtain ⟨y2, hky2, hf⟩ := mm_bd hf
      refine e_virt hm_108 rfl rfl rfl rfl (Nat.le_of_ble_eq_true rfl) hm_105 rfl rfl (c_105 x1 M hky2 ?_)
      show Ev Z _ 108 17 [some (.ref 55), some (.int x1)] [.int y2.1, .ref 59] (mm_H y2.2) Q
      obtain ⟨hi3, hf⟩ := mm_ite hf
      refine e_zald hm_108 rfl rfl hi3 ?_
      by_cases hc4 : (y2.2.1 59 y2.1.toNatClampNeg) = (0 : Int32)
      · rw [if_pos hc4] at hf
        refine e_if_f hm_108 rfl (cf_ne hc4) ?_
        refine e_iload_n hm_108 rfl rfl ?_
        obtain rfl := Option.some.inj hf
        exact e_iret hm_108 rfl rfl hq
      · rw [if_neg hc4] at hf
        refine e_if_t (t := 23) hm_108 rfl (ct_ne hc4) rfl ?_
        refine e_iinc (L2 := [some (.ref 55), some (.int (x1 + (1 : Int32)))]) hm_108 rfl kc_iinc_1 rfl rfl ?_
        refine e_goto (t := 2) hm_108 rfl rfl ?_
        exact e_forget (L' := [some (.ref 55), some (.int (x1 + (1 : Int32)))]) (lf_k (lf_k lf_0)) (ih (x1 + (1 : Int32)) y2.2 Q hf hq)
    · rw [if_neg hc1] at hf
      refine e_ic_t (t := 29) hm_108 rfl (ct_ge hc1) rfl ?_
      obtain rfl := Option.some.inj hf
      exact e_forget (L' := [none, none]) (lf_d (lf_d lf_0)) hq
def pl_firstWrongWeek (M : mm_M) : Option (Int32 × mm_M) :=
  (pl_firstWrongWeek_l2 300 (0 : Int32) M).bind fun y1 => match y1 with
  | .inl y1r => some y1r
  | .inr y1v => some ((-1 : Int32), y1v.2)
set_option maxRecDepth 20000 in
set_option maxHeartbeats 4000000 in
theorem c_108 {Z : ak_Z} {d : Nat} (M : mm_M) {y : Int32 × mm_M} (hf : pl_firstWrongWeek M = some y) {Q : Option Value → ak_H → Prop} (hq : Q (some (.int y.1)) (mm_H y.2)) : Ev Z (d + 2) 108 0 [some (.ref 55), none] [] (mm_H M) Q := by
  rw [pl_firstWrongWeek] at hf
  refine e_iconst hm_108 rfl kc_iconst_0 ?_
  refine e_istore_n (L2 := [some (.ref 55), some (.int (0 : Int32))]) hm_108 rfl rfl ?_
  obtain ⟨y1, hky1, hf⟩ := mm_bd hf
  refine e_forget (L' := [some (.ref 55), some (.int (0 : Int32))]) (lf_k (lf_k lf_0)) (lc_108_2 (d := _) 300 (0 : Int32) M Q hky1 ?_)
  rcases y1 with y1r | y1v
  · obtain rfl := Option.some.inj hf
    exact hq
  · show Ev Z _ 108 29 [none, none] [] (mm_H y1v.2) Q
    refine e_iconst hm_108 rfl kc_iconst_m1 ?_
    obtain rfl := Option.some.inj hf
    exact e_iret hm_108 rfl rfl hq
def pl_holds_l2 : Nat → Int32 → mm_M → Option ((Int32 × mm_M) ⊕ ((Unit) × mm_M))
  | 0, _, _ => none
  | n + 1, x1, M =>
    if mm_is8 M.2.1 = true then
    if x1 < (M.1 M.2.1 4) then
      (pl_place x1 M).bind fun y3 =>
      if ak_inb y3.1 36 = true then
      if (y3.2.1 58 y3.1.toNatClampNeg) = (0 : Int32) then
        some (.inl ((0 : Int32), y3.2))
      else
        pl_holds_l2 n (x1 + (1 : Int32)) y3.2 else none
    else
      some (.inr ((), M)) else none
set_option maxRecDepth 20000 in
set_option maxHeartbeats 4000000 in
theorem lc_107_2 {Z : ak_Z} {d : Nat} : ∀ (n : Nat) (x1 : Int32) (M : mm_M) {y : (Int32 × mm_M) ⊕ ((Unit) × mm_M)} (Q : Option Value → ak_H → Prop), pl_holds_l2 n x1 M = some y → (match y with | .inl yr => Q (some (.int yr.1)) (mm_H yr.2) | .inr yv => Ev Z (d + 3) 107 34 [some (.ref 55), none] [] (mm_H yv.2) Q) → Ev Z (d + 3) 107 2 [some (.ref 55), some (.int x1)] [] (mm_H M) Q := by
  intro n
  induction n with
  | zero => intro x1 M y Q hf; cases hf
  | succ n ih =>
    intro x1 M y Q hf hq
    rw [pl_holds_l2] at hf
    refine e_iload_n hm_107 rfl rfl ?_
    refine e_aload_n hm_107 rfl rfl ?_
    obtain ⟨hp1, hf⟩ := mm_ite hf
    refine e_getR hm_107 rfl rfl rfl rfl ?_
    refine e_getI hm_107 rfl (mm_cl8 hp1) rfl ?_
    by_cases hc2 : x1 < (M.1 M.2.1 4)
    · rw [if_pos hc2] at hf
      refine e_ic_f hm_107 rfl (cf_ge hc2) ?_
      refine e_aload_n hm_107 rfl rfl ?_
      refine e_getR hm_107 rfl rfl rfl rfl ?_
      refine e_aload_n hm_107 rfl rfl ?_
      refine e_iload_n hm_107 rfl rfl ?_
      obtain ⟨y3, hky3, hf⟩ := mm_bd hf
      refine e_virt hm_107 rfl rfl rfl rfl (Nat.le_of_ble_eq_true rfl) hm_106 rfl rfl (c_106 x1 M hky3 ?_)
      show Ev Z _ 107 22 [some (.ref 55), some (.int x1)] [.int y3.1, .ref 58] (mm_H y3.2) Q
      obtain ⟨hi4, hf⟩ := mm_ite hf
      refine e_zald hm_107 rfl rfl hi4 ?_
      by_cases hc5 : (y3.2.1 58 y3.1.toNatClampNeg) = (0 : Int32)
      · rw [if_pos hc5] at hf
        refine e_if_f hm_107 rfl (cf_ne hc5) ?_
        refine e_iconst hm_107 rfl kc_iconst_0 ?_
        obtain rfl := Option.some.inj hf
        exact e_zret hm_107 rfl rfl (by decide) hq
      · rw [if_neg hc5] at hf
        refine e_if_t (t := 28) hm_107 rfl (ct_ne hc5) rfl ?_
        refine e_iinc (L2 := [some (.ref 55), some (.int (x1 + (1 : Int32)))]) hm_107 rfl kc_iinc_1 rfl rfl ?_
        refine e_goto (t := 2) hm_107 rfl rfl ?_
        exact e_forget (L' := [some (.ref 55), some (.int (x1 + (1 : Int32)))]) (lf_k (lf_k lf_0)) (ih (x1 + (1 : Int32)) y3.2 Q hf hq)
    · rw [if_neg hc2] at hf
      refine e_ic_t (t := 34) hm_107 rfl (ct_ge hc2) rfl ?_
      obtain rfl := Option.some.inj hf
      exact e_forget (L' := [some (.ref 55), none]) (lf_k (lf_d lf_0)) hq
def pl_holds (M : mm_M) : Option (Int32 × mm_M) :=
  (pl_holds_l2 300 (0 : Int32) M).bind fun y1 => match y1 with
  | .inl y1r => some y1r
  | .inr y1v => (pl_firstWrongWeek y1v.2).bind fun y2 =>
    if y2.1 = (-1 : Int32) then
      some ((1 : Int32), y2.2)
    else
      some ((0 : Int32), y2.2)
set_option maxRecDepth 20000 in
set_option maxHeartbeats 4000000 in
theorem c_107 {Z : ak_Z} {d : Nat} (M : mm_M) {y : Int32 × mm_M} (hf : pl_holds M = some y) {Q : Option Value → ak_H → Prop} (hq : Q (some (.int y.1)) (mm_H y.2)) : Ev Z (d + 3) 107 0 [some (.ref 55), none] [] (mm_H M) Q := by
  rw [pl_holds] at hf
  refine e_iconst hm_107 rfl kc_iconst_0 ?_
  refine e_istore_n (L2 := [some (.ref 55), some (.int (0 : Int32))]) hm_107 rfl rfl ?_
  obtain ⟨y1, hky1, hf⟩ := mm_bd hf
  refine e_forget (L' := [some (.ref 55), some (.int (0 : Int32))]) (lf_k (lf_k lf_0)) (lc_107_2 (d := _) 300 (0 : Int32) M Q hky1 ?_)
  rcases y1 with y1r | y1v
  · obtain rfl := Option.some.inj hf
    exact hq
  · show Ev Z _ 107 34 [some (.ref 55), none] [] (mm_H y1v.2) Q
    refine e_aload_n hm_107 rfl rfl ?_
    obtain ⟨y2, hky2, hf⟩ := mm_bd hf
    refine e_virt hm_107 rfl rfl rfl rfl (Nat.le_of_ble_eq_true rfl) hm_108 rfl rfl (c_108 y1v.2 hky2 ?_)
    show Ev Z _ 107 38 [some (.ref 55), none] [.int y2.1] (mm_H y2.2) Q
    refine e_iconst hm_107 rfl kc_iconst_m1 ?_
    by_cases hc3 : y2.1 = (-1 : Int32)
    · rw [if_pos hc3] at hf
      refine e_ic_f hm_107 rfl (cf_ne hc3) ?_
      refine e_iconst hm_107 rfl kc_iconst_1 ?_
      refine e_goto (t := 47) hm_107 rfl rfl ?_
      obtain rfl := Option.some.inj hf
      exact e_zret hm_107 rfl rfl (by decide) hq
    · rw [if_neg hc3] at hf
      refine e_ic_t (t := 46) hm_107 rfl (ct_ne hc3) rfl ?_
      refine e_iconst hm_107 rfl kc_iconst_0 ?_
      obtain rfl := Option.some.inj hf
      exact e_zret hm_107 rfl rfl (by decide) hq
def pl_all_l4 : Nat → Int32 → Int32 → mm_M → Option (((Int32) × mm_M))
  | 0, _, _, _ => none
  | n + 1, x1, x2, M =>
    if mm_is8 M.2.1 = true then
    if x2 < (M.1 M.2.1 4) then
      (pl_place x2 M).bind fun y3 =>
      if ak_inb y3.1 36 = true then
      pl_all_l4 n (x1 + (y3.2.1 57 y3.1.toNatClampNeg)) (x2 + (1 : Int32)) y3.2 else none
    else
      some (x1, M) else none
set_option maxRecDepth 20000 in
set_option maxHeartbeats 4000000 in
theorem lc_109_4 {Z : ak_Z} {d : Nat} : ∀ (n : Nat) (x1 : Int32) (x2 : Int32) (M : mm_M) {y : ((Int32) × mm_M)} (Q : Option Value → ak_H → Prop), pl_all_l4 n x1 x2 M = some y → (Ev Z (d + 1) 109 34 [none, some (.int y.1), none] [] (mm_H y.2) Q) → Ev Z (d + 1) 109 4 [some (.ref 55), some (.int x1), some (.int x2)] [] (mm_H M) Q := by
  intro n
  induction n with
  | zero => intro x1 x2 M y Q hf; cases hf
  | succ n ih =>
    intro x1 x2 M y Q hf hq
    rw [pl_all_l4] at hf
    refine e_iload_n hm_109 rfl rfl ?_
    refine e_aload_n hm_109 rfl rfl ?_
    obtain ⟨hp1, hf⟩ := mm_ite hf
    refine e_getR hm_109 rfl rfl rfl rfl ?_
    refine e_getI hm_109 rfl (mm_cl8 hp1) rfl ?_
    by_cases hc2 : x2 < (M.1 M.2.1 4)
    · rw [if_pos hc2] at hf
      refine e_ic_f hm_109 rfl (cf_ge hc2) ?_
      refine e_iload_n hm_109 rfl rfl ?_
      refine e_aload_n hm_109 rfl rfl ?_
      refine e_getR hm_109 rfl rfl rfl rfl ?_
      refine e_aload_n hm_109 rfl rfl ?_
      refine e_iload_n hm_109 rfl rfl ?_
      obtain ⟨y3, hky3, hf⟩ := mm_bd hf
      refine e_virt hm_109 rfl rfl rfl rfl (Nat.le_of_ble_eq_true rfl) hm_106 rfl rfl (c_106 x2 M hky3 ?_)
      show Ev Z _ 109 25 [some (.ref 55), some (.int x1), some (.int x2)] [.int y3.1, .ref 57, .int x1] (mm_H y3.2) Q
      obtain ⟨hi4, hf⟩ := mm_ite hf
      refine e_iald hm_109 rfl rfl hi4 ?_
      refine e_iadd hm_109 rfl ?_
      refine e_istore_n (L2 := [some (.ref 55), some (.int (x1 + (y3.2.1 57 y3.1.toNatClampNeg))), some (.int x2)]) hm_109 rfl rfl ?_
      refine e_iinc (L2 := [some (.ref 55), some (.int (x1 + (y3.2.1 57 y3.1.toNatClampNeg))), some (.int (x2 + (1 : Int32)))]) hm_109 rfl kc_iinc_1 rfl rfl ?_
      refine e_goto (t := 4) hm_109 rfl rfl ?_
      exact e_forget (L' := [some (.ref 55), some (.int (x1 + (y3.2.1 57 y3.1.toNatClampNeg))), some (.int (x2 + (1 : Int32)))]) (lf_k (lf_k (lf_k lf_0))) (ih (x1 + (y3.2.1 57 y3.1.toNatClampNeg)) (x2 + (1 : Int32)) y3.2 Q hf hq)
    · rw [if_neg hc2] at hf
      refine e_ic_t (t := 34) hm_109 rfl (ct_ge hc2) rfl ?_
      obtain rfl := Option.some.inj hf
      exact e_forget (L' := [none, some (.int x1), none]) (lf_d (lf_k (lf_d lf_0))) hq
def pl_all (M : mm_M) : Option (Int32 × mm_M) :=
  (pl_all_l4 300 (0 : Int32) (0 : Int32) M).bind fun y1 =>
  some (y1.1, y1.2)
set_option maxRecDepth 20000 in
set_option maxHeartbeats 4000000 in
theorem c_109 {Z : ak_Z} {d : Nat} (M : mm_M) {y : Int32 × mm_M} (hf : pl_all M = some y) {Q : Option Value → ak_H → Prop} (hq : Q (some (.int y.1)) (mm_H y.2)) : Ev Z (d + 1) 109 0 [some (.ref 55), none, none] [] (mm_H M) Q := by
  rw [pl_all] at hf
  refine e_iconst hm_109 rfl kc_iconst_0 ?_
  refine e_istore_n (L2 := [some (.ref 55), some (.int (0 : Int32)), none]) hm_109 rfl rfl ?_
  refine e_iconst hm_109 rfl kc_iconst_0 ?_
  refine e_istore_n (L2 := [some (.ref 55), some (.int (0 : Int32)), some (.int (0 : Int32))]) hm_109 rfl rfl ?_
  obtain ⟨y1, hky1, hf⟩ := mm_bd hf
  refine e_forget (L' := [some (.ref 55), some (.int (0 : Int32)), some (.int (0 : Int32))]) (lf_k (lf_k (lf_k lf_0))) (lc_109_4 (d := _) 300 (0 : Int32) (0 : Int32) M Q hky1 ?_)
  show Ev Z _ 109 34 [none, some (.int y1.1), none] [] (mm_H y1.2) Q
  refine e_iload_n hm_109 rfl rfl ?_
  obtain rfl := Option.some.inj hf
  exact e_iret hm_109 rfl rfl hq
def nb_plan (a1 : Int32) (M : mm_M) : Option (Int32 × mm_M) :=
  if a1 < (10 : Int32) then
    if a1 = (0 : Int32) then
      (pl_look 1 M).bind fun y3 =>
      if a1 = (0 : Int32) then
        (pl_holds y3.2).bind fun y5 =>
        if y5.1 = (0 : Int32) then
          some ((0 : Int32), y5.2)
        else
          some ((1 : Int32), y5.2)
      else
        if a1 = (1 : Int32) then
          (pl_all y3.2).bind fun y8 =>
          some (y8.1, y8.2)
        else
          (pl_firstWrongWeek y3.2).bind fun y9 =>
          some (y9.1, y9.2)
    else
      if a1 = (1 : Int32) then
        (pl_look 1 M).bind fun y11 =>
        if a1 = (0 : Int32) then
          (pl_holds y11.2).bind fun y13 =>
          if y13.1 = (0 : Int32) then
            some ((0 : Int32), y13.2)
          else
            some ((1 : Int32), y13.2)
        else
          if a1 = (1 : Int32) then
            (pl_all y11.2).bind fun y16 =>
            some (y16.1, y16.2)
          else
            (pl_firstWrongWeek y11.2).bind fun y17 =>
            some (y17.1, y17.2)
      else
        if a1 = (2 : Int32) then
          (pl_look 1 M).bind fun y19 =>
          if a1 = (0 : Int32) then
            (pl_holds y19.2).bind fun y21 =>
            if y21.1 = (0 : Int32) then
              some ((0 : Int32), y21.2)
            else
              some ((1 : Int32), y21.2)
          else
            if a1 = (1 : Int32) then
              (pl_all y19.2).bind fun y24 =>
              some (y24.1, y24.2)
            else
              (pl_firstWrongWeek y19.2).bind fun y25 =>
              some (y25.1, y25.2)
        else
          some ((-100000 : Int32), M)
  else
    (nb_isWeek (a1 - (10 : Int32)) M).bind fun y26 =>
    if y26.1 = (0 : Int32) then
      if a1 = (0 : Int32) then
        (pl_look 1 y26.2).bind fun y29 =>
        if a1 = (0 : Int32) then
          (pl_holds y29.2).bind fun y31 =>
          if y31.1 = (0 : Int32) then
            some ((0 : Int32), y31.2)
          else
            some ((1 : Int32), y31.2)
        else
          if a1 = (1 : Int32) then
            (pl_all y29.2).bind fun y34 =>
            some (y34.1, y34.2)
          else
            (pl_firstWrongWeek y29.2).bind fun y35 =>
            some (y35.1, y35.2)
      else
        if a1 = (1 : Int32) then
          (pl_look 1 y26.2).bind fun y37 =>
          if a1 = (0 : Int32) then
            (pl_holds y37.2).bind fun y39 =>
            if y39.1 = (0 : Int32) then
              some ((0 : Int32), y39.2)
            else
              some ((1 : Int32), y39.2)
          else
            if a1 = (1 : Int32) then
              (pl_all y37.2).bind fun y42 =>
              some (y42.1, y42.2)
            else
              (pl_firstWrongWeek y37.2).bind fun y43 =>
              some (y43.1, y43.2)
        else
          if a1 = (2 : Int32) then
            (pl_look 1 y26.2).bind fun y45 =>
            if a1 = (0 : Int32) then
              (pl_holds y45.2).bind fun y47 =>
              if y47.1 = (0 : Int32) then
                some ((0 : Int32), y47.2)
              else
                some ((1 : Int32), y47.2)
            else
              if a1 = (1 : Int32) then
                (pl_all y45.2).bind fun y50 =>
                some (y50.1, y50.2)
              else
                (pl_firstWrongWeek y45.2).bind fun y51 =>
                some (y51.1, y51.2)
          else
            some ((-100000 : Int32), y26.2)
    else
      if a1 = (0 : Int32) then
        (pl_look 1 y26.2).bind fun y53 =>
        (pl_awayIn (a1 - (10 : Int32)) y53.2).bind fun y54 =>
        some (y54.1, y54.2)
      else
        if a1 = (1 : Int32) then
          (pl_look 1 y26.2).bind fun y56 =>
          (pl_awayIn (a1 - (10 : Int32)) y56.2).bind fun y57 =>
          some (y57.1, y57.2)
        else
          if a1 = (2 : Int32) then
            (pl_look 1 y26.2).bind fun y59 =>
            (pl_awayIn (a1 - (10 : Int32)) y59.2).bind fun y60 =>
            some (y60.1, y60.2)
          else
            (pl_look 1 y26.2).bind fun y61 =>
            (pl_awayIn (a1 - (10 : Int32)) y61.2).bind fun y62 =>
            some (y62.1, y62.2)
set_option maxRecDepth 20000 in
set_option maxHeartbeats 4000000 in
theorem c_98 {Z : ak_Z} {d : Nat} (a1 : Int32) (M : mm_M) {y : Int32 × mm_M} (hf : nb_plan a1 M = some y) {Q : Option Value → ak_H → Prop} (hq : Q (some (.int y.1)) (mm_H y.2)) : Ev Z (d + 6) 98 0 [some (.ref 0), some (.int a1), none] [] (mm_H M) Q := by
  rw [nb_plan] at hf
  refine e_iload_n hm_98 rfl rfl ?_
  refine e_bipush hm_98 rfl kc_bipush_10 ?_
  by_cases hc1 : a1 < (10 : Int32)
  · rw [if_pos hc1] at hf
    refine e_ic_t (t := 20) hm_98 rfl (ct_lt hc1) rfl ?_
    refine e_iconst hm_98 rfl kc_iconst_0 ?_
    refine e_istore_n (L2 := [some (.ref 0), some (.int a1), some (.int (0 : Int32))]) hm_98 rfl rfl ?_
    refine e_iload_n hm_98 rfl rfl ?_
    by_cases hc2 : a1 = (0 : Int32)
    · rw [if_pos hc2] at hf
      refine e_if_t (t := 43) hm_98 rfl (ct_eq hc2) rfl ?_
      refine e_aload_n hm_98 rfl rfl ?_
      refine e_getR hm_98 rfl rfl rfl rfl ?_
      refine e_aload_n hm_98 rfl rfl ?_
      refine e_getR hm_98 rfl rfl rfl rfl ?_
      obtain ⟨y3, hky3, hf⟩ := mm_bd hf
      refine e_virt hm_98 rfl rfl rfl rfl (Nat.le_of_ble_eq_true rfl) hm_99 rfl rfl (c_99 1 M rfl hky3 ?_)
      show Ev Z _ 98 54 [some (.ref 0), some (.int a1), some (.int (0 : Int32))] [] (mm_H y3.2) Q
      refine e_iload_n hm_98 rfl rfl ?_
      refine e_if_t (t := 70) hm_98 rfl (by decide) rfl ?_
      refine e_iload_n hm_98 rfl rfl ?_
      by_cases hc4 : a1 = (0 : Int32)
      · rw [if_pos hc4] at hf
        refine e_if_f hm_98 rfl (cf_ne hc4) ?_
        refine e_aload_n hm_98 rfl rfl ?_
        refine e_getR hm_98 rfl rfl rfl rfl ?_
        obtain ⟨y5, hky5, hf⟩ := mm_bd hf
        refine e_virt hm_98 rfl rfl rfl rfl (Nat.le_of_ble_eq_true rfl) hm_107 rfl rfl (c_107 y3.2 hky5 ?_)
        show Ev Z _ 98 81 [some (.ref 0), some (.int a1), some (.int (0 : Int32))] [.int y5.1] (mm_H y5.2) Q
        by_cases hc6 : y5.1 = (0 : Int32)
        · rw [if_pos hc6] at hf
          refine e_if_t (t := 88) hm_98 rfl (ct_eq hc6) rfl ?_
          refine e_iconst hm_98 rfl kc_iconst_0 ?_
          obtain rfl := Option.some.inj hf
          exact e_iret hm_98 rfl rfl hq
        · rw [if_neg hc6] at hf
          refine e_if_f hm_98 rfl (cf_eq hc6) ?_
          refine e_iconst hm_98 rfl kc_iconst_1 ?_
          refine e_goto (t := 89) hm_98 rfl rfl ?_
          obtain rfl := Option.some.inj hf
          exact e_iret hm_98 rfl rfl hq
      · rw [if_neg hc4] at hf
        refine e_if_t (t := 90) hm_98 rfl (ct_ne hc4) rfl ?_
        refine e_iload_n hm_98 rfl rfl ?_
        refine e_iconst hm_98 rfl kc_iconst_1 ?_
        by_cases hc7 : a1 = (1 : Int32)
        · rw [if_pos hc7] at hf
          refine e_ic_f hm_98 rfl (cf_ne hc7) ?_
          refine e_aload_n hm_98 rfl rfl ?_
          refine e_getR hm_98 rfl rfl rfl rfl ?_
          obtain ⟨y8, hky8, hf⟩ := mm_bd hf
          refine e_virt hm_98 rfl rfl rfl rfl (Nat.le_of_ble_eq_true rfl) hm_109 rfl rfl (c_109 y3.2 hky8 ?_)
          show Ev Z _ 98 102 [some (.ref 0), some (.int a1), some (.int (0 : Int32))] [.int y8.1] (mm_H y8.2) Q
          refine e_goto (t := 112) hm_98 rfl rfl ?_
          obtain rfl := Option.some.inj hf
          exact e_iret hm_98 rfl rfl hq
        · rw [if_neg hc7] at hf
          refine e_ic_t (t := 105) hm_98 rfl (ct_ne hc7) rfl ?_
          refine e_aload_n hm_98 rfl rfl ?_
          refine e_getR hm_98 rfl rfl rfl rfl ?_
          obtain ⟨y9, hky9, hf⟩ := mm_bd hf
          refine e_virt hm_98 rfl rfl rfl rfl (Nat.le_of_ble_eq_true rfl) hm_108 rfl rfl (c_108 y3.2 hky9 ?_)
          show Ev Z _ 98 112 [some (.ref 0), some (.int a1), some (.int (0 : Int32))] [.int y9.1] (mm_H y9.2) Q
          obtain rfl := Option.some.inj hf
          exact e_iret hm_98 rfl rfl hq
    · rw [if_neg hc2] at hf
      refine e_if_f hm_98 rfl (cf_eq hc2) ?_
      refine e_iload_n hm_98 rfl rfl ?_
      refine e_iconst hm_98 rfl kc_iconst_1 ?_
      by_cases hc10 : a1 = (1 : Int32)
      · rw [if_pos hc10] at hf
        refine e_ic_t (t := 43) hm_98 rfl (ct_eq hc10) rfl ?_
        refine e_aload_n hm_98 rfl rfl ?_
        refine e_getR hm_98 rfl rfl rfl rfl ?_
        refine e_aload_n hm_98 rfl rfl ?_
        refine e_getR hm_98 rfl rfl rfl rfl ?_
        obtain ⟨y11, hky11, hf⟩ := mm_bd hf
        refine e_virt hm_98 rfl rfl rfl rfl (Nat.le_of_ble_eq_true rfl) hm_99 rfl rfl (c_99 1 M rfl hky11 ?_)
        show Ev Z _ 98 54 [some (.ref 0), some (.int a1), some (.int (0 : Int32))] [] (mm_H y11.2) Q
        refine e_iload_n hm_98 rfl rfl ?_
        refine e_if_t (t := 70) hm_98 rfl (by decide) rfl ?_
        refine e_iload_n hm_98 rfl rfl ?_
        by_cases hc12 : a1 = (0 : Int32)
        · rw [if_pos hc12] at hf
          refine e_if_f hm_98 rfl (cf_ne hc12) ?_
          refine e_aload_n hm_98 rfl rfl ?_
          refine e_getR hm_98 rfl rfl rfl rfl ?_
          obtain ⟨y13, hky13, hf⟩ := mm_bd hf
          refine e_virt hm_98 rfl rfl rfl rfl (Nat.le_of_ble_eq_true rfl) hm_107 rfl rfl (c_107 y11.2 hky13 ?_)
          show Ev Z _ 98 81 [some (.ref 0), some (.int a1), some (.int (0 : Int32))] [.int y13.1] (mm_H y13.2) Q
          by_cases hc14 : y13.1 = (0 : Int32)
          · rw [if_pos hc14] at hf
            refine e_if_t (t := 88) hm_98 rfl (ct_eq hc14) rfl ?_
            refine e_iconst hm_98 rfl kc_iconst_0 ?_
            obtain rfl := Option.some.inj hf
            exact e_iret hm_98 rfl rfl hq
          · rw [if_neg hc14] at hf
            refine e_if_f hm_98 rfl (cf_eq hc14) ?_
            refine e_iconst hm_98 rfl kc_iconst_1 ?_
            refine e_goto (t := 89) hm_98 rfl rfl ?_
            obtain rfl := Option.some.inj hf
            exact e_iret hm_98 rfl rfl hq
        · rw [if_neg hc12] at hf
          refine e_if_t (t := 90) hm_98 rfl (ct_ne hc12) rfl ?_
          refine e_iload_n hm_98 rfl rfl ?_
          refine e_iconst hm_98 rfl kc_iconst_1 ?_
          by_cases hc15 : a1 = (1 : Int32)
          · rw [if_pos hc15] at hf
            refine e_ic_f hm_98 rfl (cf_ne hc15) ?_
            refine e_aload_n hm_98 rfl rfl ?_
            refine e_getR hm_98 rfl rfl rfl rfl ?_
            obtain ⟨y16, hky16, hf⟩ := mm_bd hf
            refine e_virt hm_98 rfl rfl rfl rfl (Nat.le_of_ble_eq_true rfl) hm_109 rfl rfl (c_109 y11.2 hky16 ?_)
            show Ev Z _ 98 102 [some (.ref 0), some (.int a1), some (.int (0 : Int32))] [.int y16.1] (mm_H y16.2) Q
            refine e_goto (t := 112) hm_98 rfl rfl ?_
            obtain rfl := Option.some.inj hf
            exact e_iret hm_98 rfl rfl hq
          · rw [if_neg hc15] at hf
            refine e_ic_t (t := 105) hm_98 rfl (ct_ne hc15) rfl ?_
            refine e_aload_n hm_98 rfl rfl ?_
            refine e_getR hm_98 rfl rfl rfl rfl ?_
            obtain ⟨y17, hky17, hf⟩ := mm_bd hf
            refine e_virt hm_98 rfl rfl rfl rfl (Nat.le_of_ble_eq_true rfl) hm_108 rfl rfl (c_108 y11.2 hky17 ?_)
            show Ev Z _ 98 112 [some (.ref 0), some (.int a1), some (.int (0 : Int32))] [.int y17.1] (mm_H y17.2) Q
            obtain rfl := Option.some.inj hf
            exact e_iret hm_98 rfl rfl hq
      · rw [if_neg hc10] at hf
        refine e_ic_f hm_98 rfl (cf_eq hc10) ?_
        refine e_iload_n hm_98 rfl rfl ?_
        refine e_iconst hm_98 rfl kc_iconst_2 ?_
        by_cases hc18 : a1 = (2 : Int32)
        · rw [if_pos hc18] at hf
          refine e_ic_t (t := 43) hm_98 rfl (ct_eq hc18) rfl ?_
          refine e_aload_n hm_98 rfl rfl ?_
          refine e_getR hm_98 rfl rfl rfl rfl ?_
          refine e_aload_n hm_98 rfl rfl ?_
          refine e_getR hm_98 rfl rfl rfl rfl ?_
          obtain ⟨y19, hky19, hf⟩ := mm_bd hf
          refine e_virt hm_98 rfl rfl rfl rfl (Nat.le_of_ble_eq_true rfl) hm_99 rfl rfl (c_99 1 M rfl hky19 ?_)
          show Ev Z _ 98 54 [some (.ref 0), some (.int a1), some (.int (0 : Int32))] [] (mm_H y19.2) Q
          refine e_iload_n hm_98 rfl rfl ?_
          refine e_if_t (t := 70) hm_98 rfl (by decide) rfl ?_
          refine e_iload_n hm_98 rfl rfl ?_
          by_cases hc20 : a1 = (0 : Int32)
          · rw [if_pos hc20] at hf
            refine e_if_f hm_98 rfl (cf_ne hc20) ?_
            refine e_aload_n hm_98 rfl rfl ?_
            refine e_getR hm_98 rfl rfl rfl rfl ?_
            obtain ⟨y21, hky21, hf⟩ := mm_bd hf
            refine e_virt hm_98 rfl rfl rfl rfl (Nat.le_of_ble_eq_true rfl) hm_107 rfl rfl (c_107 y19.2 hky21 ?_)
            show Ev Z _ 98 81 [some (.ref 0), some (.int a1), some (.int (0 : Int32))] [.int y21.1] (mm_H y21.2) Q
            by_cases hc22 : y21.1 = (0 : Int32)
            · rw [if_pos hc22] at hf
              refine e_if_t (t := 88) hm_98 rfl (ct_eq hc22) rfl ?_
              refine e_iconst hm_98 rfl kc_iconst_0 ?_
              obtain rfl := Option.some.inj hf
              exact e_iret hm_98 rfl rfl hq
            · rw [if_neg hc22] at hf
              refine e_if_f hm_98 rfl (cf_eq hc22) ?_
              refine e_iconst hm_98 rfl kc_iconst_1 ?_
              refine e_goto (t := 89) hm_98 rfl rfl ?_
              obtain rfl := Option.some.inj hf
              exact e_iret hm_98 rfl rfl hq
          · rw [if_neg hc20] at hf
            refine e_if_t (t := 90) hm_98 rfl (ct_ne hc20) rfl ?_
            refine e_iload_n hm_98 rfl rfl ?_
            refine e_iconst hm_98 rfl kc_iconst_1 ?_
            by_cases hc23 : a1 = (1 : Int32)
            · rw [if_pos hc23] at hf
              refine e_ic_f hm_98 rfl (cf_ne hc23) ?_
              refine e_aload_n hm_98 rfl rfl ?_
              refine e_getR hm_98 rfl rfl rfl rfl ?_
              obtain ⟨y24, hky24, hf⟩ := mm_bd hf
              refine e_virt hm_98 rfl rfl rfl rfl (Nat.le_of_ble_eq_true rfl) hm_109 rfl rfl (c_109 y19.2 hky24 ?_)
              show Ev Z _ 98 102 [some (.ref 0), some (.int a1), some (.int (0 : Int32))] [.int y24.1] (mm_H y24.2) Q
              refine e_goto (t := 112) hm_98 rfl rfl ?_
              obtain rfl := Option.some.inj hf
              exact e_iret hm_98 rfl rfl hq
            · rw [if_neg hc23] at hf
              refine e_ic_t (t := 105) hm_98 rfl (ct_ne hc23) rfl ?_
              refine e_aload_n hm_98 rfl rfl ?_
              refine e_getR hm_98 rfl rfl rfl rfl ?_
              obtain ⟨y25, hky25, hf⟩ := mm_bd hf
              refine e_virt hm_98 rfl rfl rfl rfl (Nat.le_of_ble_eq_true rfl) hm_108 rfl rfl (c_108 y19.2 hky25 ?_)
              show Ev Z _ 98 112 [some (.ref 0), some (.int a1), some (.int (0 : Int32))] [.int y25.1] (mm_H y25.2) Q
              obtain rfl := Option.some.inj hf
              exact e_iret hm_98 rfl rfl hq
        · rw [if_neg hc18] at hf
          refine e_ic_f hm_98 rfl (cf_eq hc18) ?_
          refine e_iload_n hm_98 rfl rfl ?_
          refine e_if_f hm_98 rfl (by decide) ?_
          refine e_ldc hm_98 rfl kc_ldc_m100000 ?_
          obtain rfl := Option.some.inj hf
          exact e_iret hm_98 rfl rfl hq
  · rw [if_neg hc1] at hf
    refine e_ic_f hm_98 rfl (cf_lt hc1) ?_
    refine e_iload_n hm_98 rfl rfl ?_
    refine e_bipush hm_98 rfl kc_bipush_10 ?_
    refine e_isub hm_98 rfl ?_
    obtain ⟨y26, hky26, hf⟩ := mm_bd hf
    refine e_stat hm_98 rfl (by decide) rfl rfl (Nat.le_of_ble_eq_true rfl) hm_26 rfl rfl (c_26 (a1 - (10 : Int32)) M hky26 ?_)
    show Ev Z _ 98 13 [some (.ref 0), some (.int a1), none] [.int y26.1] (mm_H y26.2) Q
    by_cases hc27 : y26.1 = (0 : Int32)
    · rw [if_pos hc27] at hf
      refine e_if_t (t := 20) hm_98 rfl (ct_eq hc27) rfl ?_
      refine e_iconst hm_98 rfl kc_iconst_0 ?_
      refine e_istore_n (L2 := [some (.ref 0), some (.int a1), some (.int (0 : Int32))]) hm_98 rfl rfl ?_
      refine e_iload_n hm_98 rfl rfl ?_
      by_cases hc28 : a1 = (0 : Int32)
      · rw [if_pos hc28] at hf
        refine e_if_t (t := 43) hm_98 rfl (ct_eq hc28) rfl ?_
        refine e_aload_n hm_98 rfl rfl ?_
        refine e_getR hm_98 rfl rfl rfl rfl ?_
        refine e_aload_n hm_98 rfl rfl ?_
        refine e_getR hm_98 rfl rfl rfl rfl ?_
        obtain ⟨y29, hky29, hf⟩ := mm_bd hf
        refine e_virt hm_98 rfl rfl rfl rfl (Nat.le_of_ble_eq_true rfl) hm_99 rfl rfl (c_99 1 y26.2 rfl hky29 ?_)
        show Ev Z _ 98 54 [some (.ref 0), some (.int a1), some (.int (0 : Int32))] [] (mm_H y29.2) Q
        refine e_iload_n hm_98 rfl rfl ?_
        refine e_if_t (t := 70) hm_98 rfl (by decide) rfl ?_
        refine e_iload_n hm_98 rfl rfl ?_
        by_cases hc30 : a1 = (0 : Int32)
        · rw [if_pos hc30] at hf
          refine e_if_f hm_98 rfl (cf_ne hc30) ?_
          refine e_aload_n hm_98 rfl rfl ?_
          refine e_getR hm_98 rfl rfl rfl rfl ?_
          obtain ⟨y31, hky31, hf⟩ := mm_bd hf
          refine e_virt hm_98 rfl rfl rfl rfl (Nat.le_of_ble_eq_true rfl) hm_107 rfl rfl (c_107 y29.2 hky31 ?_)
          show Ev Z _ 98 81 [some (.ref 0), some (.int a1), some (.int (0 : Int32))] [.int y31.1] (mm_H y31.2) Q
          by_cases hc32 : y31.1 = (0 : Int32)
          · rw [if_pos hc32] at hf
            refine e_if_t (t := 88) hm_98 rfl (ct_eq hc32) rfl ?_
            refine e_iconst hm_98 rfl kc_iconst_0 ?_
            obtain rfl := Option.some.inj hf
            exact e_iret hm_98 rfl rfl hq
          · rw [if_neg hc32] at hf
            refine e_if_f hm_98 rfl (cf_eq hc32) ?_
            refine e_iconst hm_98 rfl kc_iconst_1 ?_
            refine e_goto (t := 89) hm_98 rfl rfl ?_
            obtain rfl := Option.some.inj hf
            exact e_iret hm_98 rfl rfl hq
        · rw [if_neg hc30] at hf
          refine e_if_t (t := 90) hm_98 rfl (ct_ne hc30) rfl ?_
          refine e_iload_n hm_98 rfl rfl ?_
          refine e_iconst hm_98 rfl kc_iconst_1 ?_
          by_cases hc33 : a1 = (1 : Int32)
          · rw [if_pos hc33] at hf
            refine e_ic_f hm_98 rfl (cf_ne hc33) ?_
            refine e_aload_n hm_98 rfl rfl ?_
            refine e_getR hm_98 rfl rfl rfl rfl ?_
            obtain ⟨y34, hky34, hf⟩ := mm_bd hf
            refine e_virt hm_98 rfl rfl rfl rfl (Nat.le_of_ble_eq_true rfl) hm_109 rfl rfl (c_109 y29.2 hky34 ?_)
            show Ev Z _ 98 102 [some (.ref 0), some (.int a1), some (.int (0 : Int32))] [.int y34.1] (mm_H y34.2) Q
            refine e_goto (t := 112) hm_98 rfl rfl ?_
            obtain rfl := Option.some.inj hf
            exact e_iret hm_98 rfl rfl hq
          · rw [if_neg hc33] at hf
            refine e_ic_t (t := 105) hm_98 rfl (ct_ne hc33) rfl ?_
            refine e_aload_n hm_98 rfl rfl ?_
            refine e_getR hm_98 rfl rfl rfl rfl ?_
            obtain ⟨y35, hky35, hf⟩ := mm_bd hf
            refine e_virt hm_98 rfl rfl rfl rfl (Nat.le_of_ble_eq_true rfl) hm_108 rfl rfl (c_108 y29.2 hky35 ?_)
            show Ev Z _ 98 112 [some (.ref 0), some (.int a1), some (.int (0 : Int32))] [.int y35.1] (mm_H y35.2) Q
            obtain rfl := Option.some.inj hf
            exact e_iret hm_98 rfl rfl hq
      · rw [if_neg hc28] at hf
        refine e_if_f hm_98 rfl (cf_eq hc28) ?_
        refine e_iload_n hm_98 rfl rfl ?_
        refine e_iconst hm_98 rfl kc_iconst_1 ?_
        by_cases hc36 : a1 = (1 : Int32)
        · rw [if_pos hc36] at hf
          refine e_ic_t (t := 43) hm_98 rfl (ct_eq hc36) rfl ?_
          refine e_aload_n hm_98 rfl rfl ?_
          refine e_getR hm_98 rfl rfl rfl rfl ?_
          refine e_aload_n hm_98 rfl rfl ?_
          refine e_getR hm_98 rfl rfl rfl rfl ?_
          obtain ⟨y37, hky37, hf⟩ := mm_bd hf
          refine e_virt hm_98 rfl rfl rfl rfl (Nat.le_of_ble_eq_true rfl) hm_99 rfl rfl (c_99 1 y26.2 rfl hky37 ?_)
          show Ev Z _ 98 54 [some (.ref 0), some (.int a1), some (.int (0 : Int32))] [] (mm_H y37.2) Q
          refine e_iload_n hm_98 rfl rfl ?_
          refine e_if_t (t := 70) hm_98 rfl (by decide) rfl ?_
          refine e_iload_n hm_98 rfl rfl ?_
          by_cases hc38 : a1 = (0 : Int32)
          · rw [if_pos hc38] at hf
            refine e_if_f hm_98 rfl (cf_ne hc38) ?_
            refine e_aload_n hm_98 rfl rfl ?_
            refine e_getR hm_98 rfl rfl rfl rfl ?_
            obtain ⟨y39, hky39, hf⟩ := mm_bd hf
            refine e_virt hm_98 rfl rfl rfl rfl (Nat.le_of_ble_eq_true rfl) hm_107 rfl rfl (c_107 y37.2 hky39 ?_)
            show Ev Z _ 98 81 [some (.ref 0), some (.int a1), some (.int (0 : Int32))] [.int y39.1] (mm_H y39.2) Q
            by_cases hc40 : y39.1 = (0 : Int32)
            · rw [if_pos hc40] at hf
              refine e_if_t (t := 88) hm_98 rfl (ct_eq hc40) rfl ?_
              refine e_iconst hm_98 rfl kc_iconst_0 ?_
              obtain rfl := Option.some.inj hf
              exact e_iret hm_98 rfl rfl hq
            · rw [if_neg hc40] at hf
              refine e_if_f hm_98 rfl (cf_eq hc40) ?_
              refine e_iconst hm_98 rfl kc_iconst_1 ?_
              refine e_goto (t := 89) hm_98 rfl rfl ?_
              obtain rfl := Option.some.inj hf
              exact e_iret hm_98 rfl rfl hq
          · rw [if_neg hc38] at hf
            refine e_if_t (t := 90) hm_98 rfl (ct_ne hc38) rfl ?_
            refine e_iload_n hm_98 rfl rfl ?_
            refine e_iconst hm_98 rfl kc_iconst_1 ?_
            by_cases hc41 : a1 = (1 : Int32)
            · rw [if_pos hc41] at hf
              refine e_ic_f hm_98 rfl (cf_ne hc41) ?_
              refine e_aload_n hm_98 rfl rfl ?_
              refine e_getR hm_98 rfl rfl rfl rfl ?_
              obtain ⟨y42, hky42, hf⟩ := mm_bd hf
              refine e_virt hm_98 rfl rfl rfl rfl (Nat.le_of_ble_eq_true rfl) hm_109 rfl rfl (c_109 y37.2 hky42 ?_)
              show Ev Z _ 98 102 [some (.ref 0), some (.int a1), some (.int (0 : Int32))] [.int y42.1] (mm_H y42.2) Q
              refine e_goto (t := 112) hm_98 rfl rfl ?_
              obtain rfl := Option.some.inj hf
              exact e_iret hm_98 rfl rfl hq
            · rw [if_neg hc41] at hf
              refine e_ic_t (t := 105) hm_98 rfl (ct_ne hc41) rfl ?_
              refine e_aload_n hm_98 rfl rfl ?_
              refine e_getR hm_98 rfl rfl rfl rfl ?_
              obtain ⟨y43, hky43, hf⟩ := mm_bd hf
              refine e_virt hm_98 rfl rfl rfl rfl (Nat.le_of_ble_eq_true rfl) hm_108 rfl rfl (c_108 y37.2 hky43 ?_)
              show Ev Z _ 98 112 [some (.ref 0), some (.int a1), some (.int (0 : Int32))] [.int y43.1] (mm_H y43.2) Q
              obtain rfl := Option.some.inj hf
              exact e_iret hm_98 rfl rfl hq
        · rw [if_neg hc36] at hf
          refine e_ic_f hm_98 rfl (cf_eq hc36) ?_
          refine e_iload_n hm_98 rfl rfl ?_
          refine e_iconst hm_98 rfl kc_iconst_2 ?_
          by_cases hc44 : a1 = (2 : Int32)
          · rw [if_pos hc44] at hf
            refine e_ic_t (t := 43) hm_98 rfl (ct_eq hc44) rfl ?_
            refine e_aload_n hm_98 rfl rfl ?_
            refine e_getR hm_98 rfl rfl rfl rfl ?_
            refine e_aload_n hm_98 rfl rfl ?_
            refine e_getR hm_98 rfl rfl rfl rfl ?_
            obtain ⟨y45, hky45, hf⟩ := mm_bd hf
            refine e_virt hm_98 rfl rfl rfl rfl (Nat.le_of_ble_eq_true rfl) hm_99 rfl rfl (c_99 1 y26.2 rfl hky45 ?_)
            show Ev Z _ 98 54 [some (.ref 0), some (.int a1), some (.int (0 : Int32))] [] (mm_H y45.2) Q
            refine e_iload_n hm_98 rfl rfl ?_
            refine e_if_t (t := 70) hm_98 rfl (by decide) rfl ?_
            refine e_iload_n hm_98 rfl rfl ?_
            by_cases hc46 : a1 = (0 : Int32)
            · rw [if_pos hc46] at hf
              refine e_if_f hm_98 rfl (cf_ne hc46) ?_
              refine e_aload_n hm_98 rfl rfl ?_
              refine e_getR hm_98 rfl rfl rfl rfl ?_
              obtain ⟨y47, hky47, hf⟩ := mm_bd hf
              refine e_virt hm_98 rfl rfl rfl rfl (Nat.le_of_ble_eq_true rfl) hm_107 rfl rfl (c_107 y45.2 hky47 ?_)
              show Ev Z _ 98 81 [some (.ref 0), some (.int a1), some (.int (0 : Int32))] [.int y47.1] (mm_H y47.2) Q
              by_cases hc48 : y47.1 = (0 : Int32)
              · rw [if_pos hc48] at hf
                refine e_if_t (t := 88) hm_98 rfl (ct_eq hc48) rfl ?_
                refine e_iconst hm_98 rfl kc_iconst_0 ?_
                obtain rfl := Option.some.inj hf
                exact e_iret hm_98 rfl rfl hq
              · rw [if_neg hc48] at hf
                refine e_if_f hm_98 rfl (cf_eq hc48) ?_
                refine e_iconst hm_98 rfl kc_iconst_1 ?_
                refine e_goto (t := 89) hm_98 rfl rfl ?_
                obtain rfl := Option.some.inj hf
                exact e_iret hm_98 rfl rfl hq
            · rw [if_neg hc46] at hf
              refine e_if_t (t := 90) hm_98 rfl (ct_ne hc46) rfl ?_
              refine e_iload_n hm_98 rfl rfl ?_
              refine e_iconst hm_98 rfl kc_iconst_1 ?_
              by_cases hc49 : a1 = (1 : Int32)
              · rw [if_pos hc49] at hf
                refine e_ic_f hm_98 rfl (cf_ne hc49) ?_
                refine e_aload_n hm_98 rfl rfl ?_
                refine e_getR hm_98 rfl rfl rfl rfl ?_
                obtain ⟨y50, hky50, hf⟩ := mm_bd hf
                refine e_virt hm_98 rfl rfl rfl rfl (Nat.le_of_ble_eq_true rfl) hm_109 rfl rfl (c_109 y45.2 hky50 ?_)
                show Ev Z _ 98 102 [some (.ref 0), some (.int a1), some (.int (0 : Int32))] [.int y50.1] (mm_H y50.2) Q
                refine e_goto (t := 112) hm_98 rfl rfl ?_
                obtain rfl := Option.some.inj hf
                exact e_iret hm_98 rfl rfl hq
              · rw [if_neg hc49] at hf
                refine e_ic_t (t := 105) hm_98 rfl (ct_ne hc49) rfl ?_
                refine e_aload_n hm_98 rfl rfl ?_
                refine e_getR hm_98 rfl rfl rfl rfl ?_
                obtain ⟨y51, hky51, hf⟩ := mm_bd hf
                refine e_virt hm_98 rfl rfl rfl rfl (Nat.le_of_ble_eq_true rfl) hm_108 rfl rfl (c_108 y45.2 hky51 ?_)
                show Ev Z _ 98 112 [some (.ref 0), some (.int a1), some (.int (0 : Int32))] [.int y51.1] (mm_H y51.2) Q
                obtain rfl := Option.some.inj hf
                exact e_iret hm_98 rfl rfl hq
          · rw [if_neg hc44] at hf
            refine e_ic_f hm_98 rfl (cf_eq hc44) ?_
            refine e_iload_n hm_98 rfl rfl ?_
            refine e_if_f hm_98 rfl (by decide) ?_
            refine e_ldc hm_98 rfl kc_ldc_m100000 ?_
            obtain rfl := Option.some.inj hf
            exact e_iret hm_98 rfl rfl hq
    · rw [if_neg hc27] at hf
      refine e_if_f hm_98 rfl (cf_eq hc27) ?_
      refine e_iconst hm_98 rfl kc_iconst_1 ?_
      refine e_goto (t := 21) hm_98 rfl rfl ?_
      refine e_istore_n (L2 := [some (.ref 0), some (.int a1), some (.int (1 : Int32))]) hm_98 rfl rfl ?_
      refine e_iload_n hm_98 rfl rfl ?_
      by_cases hc52 : a1 = (0 : Int32)
      · rw [if_pos hc52] at hf
        refine e_if_t (t := 43) hm_98 rfl (ct_eq hc52) rfl ?_
        refine e_aload_n hm_98 rfl rfl ?_
        refine e_getR hm_98 rfl rfl rfl rfl ?_
        refine e_aload_n hm_98 rfl rfl ?_
        refine e_getR hm_98 rfl rfl rfl rfl ?_
        obtain ⟨y53, hky53, hf⟩ := mm_bd hf
        refine e_virt hm_98 rfl rfl rfl rfl (Nat.le_of_ble_eq_true rfl) hm_99 rfl rfl (c_99 1 y26.2 rfl hky53 ?_)
        show Ev Z _ 98 54 [some (.ref 0), some (.int a1), some (.int (1 : Int32))] [] (mm_H y53.2) Q
        refine e_iload_n hm_98 rfl rfl ?_
        refine e_if_f hm_98 rfl (by decide) ?_
        refine e_aload_n hm_98 rfl rfl ?_
        refine e_getR hm_98 rfl rfl rfl rfl ?_
        refine e_iload_n hm_98 rfl rfl ?_
        refine e_bipush hm_98 rfl kc_bipush_10 ?_
        refine e_isub hm_98 rfl ?_
        obtain ⟨y54, hky54, hf⟩ := mm_bd hf
        refine e_virt hm_98 rfl rfl rfl rfl (Nat.le_of_ble_eq_true rfl) hm_105 rfl rfl (c_105 (a1 - (10 : Int32)) y53.2 hky54 ?_)
        show Ev Z _ 98 69 [some (.ref 0), some (.int a1), some (.int (1 : Int32))] [.int y54.1] (mm_H y54.2) Q
        obtain rfl := Option.some.inj hf
        exact e_iret hm_98 rfl rfl hq
      · rw [if_neg hc52] at hf
        refine e_if_f hm_98 rfl (cf_eq hc52) ?_
        refine e_iload_n hm_98 rfl rfl ?_
        refine e_iconst hm_98 rfl kc_iconst_1 ?_
        by_cases hc55 : a1 = (1 : Int32)
        · rw [if_pos hc55] at hf
          refine e_ic_t (t := 43) hm_98 rfl (ct_eq hc55) rfl ?_
          refine e_aload_n hm_98 rfl rfl ?_
          refine e_getR hm_98 rfl rfl rfl rfl ?_
          refine e_aload_n hm_98 rfl rfl ?_
          refine e_getR hm_98 rfl rfl rfl rfl ?_
          obtain ⟨y56, hky56, hf⟩ := mm_bd hf
          refine e_virt hm_98 rfl rfl rfl rfl (Nat.le_of_ble_eq_true rfl) hm_99 rfl rfl (c_99 1 y26.2 rfl hky56 ?_)
          show Ev Z _ 98 54 [some (.ref 0), some (.int a1), some (.int (1 : Int32))] [] (mm_H y56.2) Q
          refine e_iload_n hm_98 rfl rfl ?_
          refine e_if_f hm_98 rfl (by decide) ?_
          refine e_aload_n hm_98 rfl rfl ?_
          refine e_getR hm_98 rfl rfl rfl rfl ?_
          refine e_iload_n hm_98 rfl rfl ?_
          refine e_bipush hm_98 rfl kc_bipush_10 ?_
          refine e_isub hm_98 rfl ?_
          obtain ⟨y57, hky57, hf⟩ := mm_bd hf
          refine e_virt hm_98 rfl rfl rfl rfl (Nat.le_of_ble_eq_true rfl) hm_105 rfl rfl (c_105 (a1 - (10 : Int32)) y56.2 hky57 ?_)
          show Ev Z _ 98 69 [some (.ref 0), some (.int a1), some (.int (1 : Int32))] [.int y57.1] (mm_H y57.2) Q
          obtain rfl := Option.some.inj hf
          exact e_iret hm_98 rfl rfl hq
        · rw [if_neg hc55] at hf
          refine e_ic_f hm_98 rfl (cf_eq hc55) ?_
          refine e_iload_n hm_98 rfl rfl ?_
          refine e_iconst hm_98 rfl kc_iconst_2 ?_
          by_cases hc58 : a1 = (2 : Int32)
          · rw [if_pos hc58] at hf
            refine e_ic_t (t := 43) hm_98 rfl (ct_eq hc58) rfl ?_
            refine e_aload_n hm_98 rfl rfl ?_
            refine e_getR hm_98 rfl rfl rfl rfl ?_
            refine e_aload_n hm_98 rfl rfl ?_
            refine e_getR hm_98 rfl rfl rfl rfl ?_
            obtain ⟨y59, hky59, hf⟩ := mm_bd hf
            refine e_virt hm_98 rfl rfl rfl rfl (Nat.le_of_ble_eq_true rfl) hm_99 rfl rfl (c_99 1 y26.2 rfl hky59 ?_)
            show Ev Z _ 98 54 [some (.ref 0), some (.int a1), some (.int (1 : Int32))] [] (mm_H y59.2) Q
            refine e_iload_n hm_98 rfl rfl ?_
            refine e_if_f hm_98 rfl (by decide) ?_
            refine e_aload_n hm_98 rfl rfl ?_
            refine e_getR hm_98 rfl rfl rfl rfl ?_
            refine e_iload_n hm_98 rfl rfl ?_
            refine e_bipush hm_98 rfl kc_bipush_10 ?_
            refine e_isub hm_98 rfl ?_
            obtain ⟨y60, hky60, hf⟩ := mm_bd hf
            refine e_virt hm_98 rfl rfl rfl rfl (Nat.le_of_ble_eq_true rfl) hm_105 rfl rfl (c_105 (a1 - (10 : Int32)) y59.2 hky60 ?_)
            show Ev Z _ 98 69 [some (.ref 0), some (.int a1), some (.int (1 : Int32))] [.int y60.1] (mm_H y60.2) Q
            obtain rfl := Option.some.inj hf
            exact e_iret hm_98 rfl rfl hq
          · rw [if_neg hc58] at hf
            refine e_ic_f hm_98 rfl (cf_eq hc58) ?_
            refine e_iload_n hm_98 rfl rfl ?_
            refine e_if_t (t := 43) hm_98 rfl (by decide) rfl ?_
            refine e_aload_n hm_98 rfl rfl ?_
            refine e_getR hm_98 rfl rfl rfl rfl ?_
            refine e_aload_n hm_98 rfl rfl ?_
            refine e_getR hm_98 rfl rfl rfl rfl ?_
            obtain ⟨y61, hky61, hf⟩ := mm_bd hf
            refine e_virt hm_98 rfl rfl rfl rfl (Nat.le_of_ble_eq_true rfl) hm_99 rfl rfl (c_99 1 y26.2 rfl hky61 ?_)
            show Ev Z _ 98 54 [some (.ref 0), some (.int a1), some (.int (1 : Int32))] [] (mm_H y61.2) Q
            refine e_iload_n hm_98 rfl rfl ?_
            refine e_if_f hm_98 rfl (by decide) ?_
            refine e_aload_n hm_98 rfl rfl ?_
            refine e_getR hm_98 rfl rfl rfl rfl ?_
            refine e_iload_n hm_98 rfl rfl ?_
            refine e_bipush hm_98 rfl kc_bipush_10 ?_
            refine e_isub hm_98 rfl ?_
            obtain ⟨y62, hky62, hf⟩ := mm_bd hf
            refine e_virt hm_98 rfl rfl rfl rfl (Nat.le_of_ble_eq_true rfl) hm_105 rfl rfl (c_105 (a1 - (10 : Int32)) y61.2 hky62 ?_)
            show Ev Z _ 98 69 [some (.ref 0), some (.int a1), some (.int (1 : Int32))] [.int y62.1] (mm_H y62.2) Q
            obtain rfl := Option.some.inj hf
            exact e_iret hm_98 rfl rfl hq
def sh_pointsOfAll_l4 : Nat → Nat → Int32 → Int32 → mm_M → Option (((Int32) × mm_M))
  | 0, _, _, _, _ => none
  | n + 1, x0, x1, x2, M =>
    if x2 < (M.1 x0 4) then
      if ak_inb x2 4 = true then
      sh_pointsOfAll_l4 n x0 (x1 + (M.1 (x0 + 5) x2.toNatClampNeg)) (x2 + (1 : Int32)) M else none
    else
      some (x1, M)
set_option maxRecDepth 20000 in
set_option maxHeartbeats 4000000 in
theorem lc_111_4 {Z : ak_Z} {d : Nat} : ∀ (n : Nat) (x0 : Nat) (x1 : Int32) (x2 : Int32) (M : mm_M) (hx0 : mm_is8 x0 = true) {y : ((Int32) × mm_M)} (Q : Option Value → ak_H → Prop), sh_pointsOfAll_l4 n x0 x1 x2 M = some y → (Ev Z (d + 0) 111 27 [none, some (.int y.1), none] [] (mm_H y.2) Q) → Ev Z (d + 0) 111 4 [some (.ref x0), some (.int x1), some (.int x2)] [] (mm_H M) Q := by
  intro n
  induction n with
  | zero => intro x0 x1 x2 M hx0 y Q hf; cases hf
  | succ n ih =>
    intro x0 x1 x2 M hx0 y Q hf hq
    rw [sh_pointsOfAll_l4] at hf
    refine e_iload_n hm_111 rfl rfl ?_
    refine e_aload_n hm_111 rfl rfl ?_
    refine e_getI hm_111 rfl (mm_cl8 hx0) rfl ?_
    by_cases hc1 : x2 < (M.1 x0 4)
    · rw [if_pos hc1] at hf
      refine e_ic_f hm_111 rfl (cf_ge hc1) ?_
      refine e_iload_n hm_111 rfl rfl ?_
      refine e_aload_n hm_111 rfl rfl ?_
      refine e_getR hm_111 rfl (mm_cl8 hx0) rfl (mm_rf8_9 hx0) ?_
      refine e_iload_n hm_111 rfl rfl ?_
      obtain ⟨hi2, hf⟩ := mm_ite hf
      refine e_iald hm_111 rfl (mm_ar8_9 hx0) hi2 ?_
      refine e_iadd hm_111 rfl ?_
      refine e_istore_n (L2 := [some (.ref x0), some (.int (x1 + (M.1 (x0 + 5) x2.toNatClampNeg))), some (.int x2)]) hm_111 rfl rfl ?_
      refine e_iinc (L2 := [some (.ref x0), some (.int (x1 + (M.1 (x0 + 5) x2.toNatClampNeg))), some (.int (x2 + (1 : Int32)))]) hm_111 rfl kc_iinc_1 rfl rfl ?_
      refine e_goto (t := 4) hm_111 rfl rfl ?_
      exact e_forget (L' := [some (.ref x0), some (.int (x1 + (M.1 (x0 + 5) x2.toNatClampNeg))), some (.int (x2 + (1 : Int32)))]) (lf_k (lf_k (lf_k lf_0))) (ih x0 (x1 + (M.1 (x0 + 5) x2.toNatClampNeg)) (x2 + (1 : Int32)) M hx0 Q hf hq)
    · rw [if_neg hc1] at hf
      refine e_ic_t (t := 27) hm_111 rfl (ct_ge hc1) rfl ?_
      obtain rfl := Option.some.inj hf
      exact e_forget (L' := [none, some (.int x1), none]) (lf_d (lf_k (lf_d lf_0))) hq
def sh_pointsOfAll (t : Nat) (M : mm_M) : Option (Int32 × mm_M) :=
  (sh_pointsOfAll_l4 300 t (0 : Int32) (0 : Int32) M).bind fun y1 =>
  some (y1.1, y1.2)
set_option maxRecDepth 20000 in
set_option maxHeartbeats 4000000 in
theorem c_111 {Z : ak_Z} {d : Nat} (t : Nat) (M : mm_M) (ht : mm_is8 t = true) {y : Int32 × mm_M} (hf : sh_pointsOfAll t M = some y) {Q : Option Value → ak_H → Prop} (hq : Q (some (.int y.1)) (mm_H y.2)) : Ev Z (d + 0) 111 0 [some (.ref t), none, none] [] (mm_H M) Q := by
  rw [sh_pointsOfAll] at hf
  refine e_iconst hm_111 rfl kc_iconst_0 ?_
  refine e_istore_n (L2 := [some (.ref t), some (.int (0 : Int32)), none]) hm_111 rfl rfl ?_
  refine e_iconst hm_111 rfl kc_iconst_0 ?_
  refine e_istore_n (L2 := [some (.ref t), some (.int (0 : Int32)), some (.int (0 : Int32))]) hm_111 rfl rfl ?_
  obtain ⟨y1, hky1, hf⟩ := mm_bd hf
  refine e_forget (L' := [some (.ref t), some (.int (0 : Int32)), some (.int (0 : Int32))]) (lf_k (lf_k (lf_k lf_0))) (lc_111_4 (d := _) 300 t (0 : Int32) (0 : Int32) M ht Q hky1 ?_)
  show Ev Z _ 111 27 [none, some (.int y1.1), none] [] (mm_H y1.2) Q
  refine e_iload_n hm_111 rfl rfl ?_
  obtain rfl := Option.some.inj hf
  exact e_iret hm_111 rfl rfl hq
