/-! printed: the functions of the methods, and that the small machine does them -/
def nb_tells (a1 : Int32) (a2 : Int32) (a3 : Int32) (M : mm_M) : Option (Int32 × mm_M) :=
  (nb_isSheet a1 M).bind fun y1 =>
  if y1.1 = (0 : Int32) then
    some ((-2 : Int32), y1.2)
  else
    (sh_isOne 1 a2 y1.2).bind fun y3 =>
    if y3.1 = (0 : Int32) then
      some ((-2 : Int32), y3.2)
    else
      if a3 < (0 : Int32) then
        some ((-2 : Int32), y3.2)
      else
        if (5 : Int32) < a3 then
          some ((-2 : Int32), y3.2)
        else
          if ak_inb a1 4 = true then
          (st_isMissing (65 + 2 * a1.toNatClampNeg) y3.2).bind fun y8 =>
          if y8.1 = (0 : Int32) then
            if (y8.2.1 (65 + 2 * a1.toNatClampNeg) 1) = (8 : Int32) then
              (sh_become 17 1 y8.2).bind fun y11 =>
              if a3 = (0 : Int32) then
                (nb_firstOtherwise (65 + 2 * a1.toNatClampNeg) a2 y11.2).bind fun y13 =>
                some (y13.1, y13.2)
              else if a3 = (1 : Int32) then
                  (nb_kindsTold (65 + 2 * a1.toNatClampNeg) a2 y11.2).bind fun y15 =>
                  some (y15.1, y15.2)
                else if a3 = (2 : Int32) then
                    (nb_numbersTold (65 + 2 * a1.toNatClampNeg) a2 y11.2).bind fun y17 =>
                    some (y17.1, y17.2)
                  else if a3 = (3 : Int32) then
                      (nb_wishesTold (65 + 2 * a1.toNatClampNeg) a2 y11.2).bind fun y19 =>
                      some (y19.1, y19.2)
                    else if a3 = (4 : Int32) then
                        (nb_leastWishesTold (65 + 2 * a1.toNatClampNeg) a2 y11.2).bind fun y21 =>
                        some (y21.1, y21.2)
                      else (nb_textsTold (65 + 2 * a1.toNatClampNeg) a2 y11.2).bind fun y22 =>
                        some (y22.1, y22.2)
            else
              some ((-2 : Int32), y8.2)
          else
            some ((-11 : Int32), y8.2) else none
set_option maxRecDepth 20000 in
set_option maxHeartbeats 4000000 in
theorem c_135 {Z : ak_Z} {d : Nat} (a1 : Int32) (a2 : Int32) (a3 : Int32) (M : mm_M) {y : Int32 × mm_M} (hf : nb_tells a1 a2 a3 M = some y) {Q : Option Value → ak_H → Prop} (hq : Q (some (.int y.1)) (mm_H y.2)) : Ev Z (d + 6) 135 0 [some (.ref 0), some (.int a1), some (.int a2), some (.int a3), none] [] (mm_H M) Q := by
  rw [nb_tells] at hf
  refine e_iload_n hm_135 rfl rfl ?_
  obtain ⟨y1, hky1, hf⟩ := mm_bd hf
  refine e_stat hm_135 rfl (by decide) rfl rfl (Nat.le_of_ble_eq_true rfl) hm_136 rfl rfl (c_136 a1 M hky1 ?_)
  show Ev Z _ 135 4 [some (.ref 0), some (.int a1), some (.int a2), some (.int a3), none] [.int y1.1] (mm_H y1.2) Q
  by_cases hc2 : y1.1 = (0 : Int32)
  · rw [if_pos hc2] at hf
    refine e_if_t (t := 27) hm_135 rfl (ct_eq hc2) rfl ?_
    refine e_bipush hm_135 rfl kc_bipush_m2 ?_
    obtain rfl := Option.some.inj hf
    exact e_iret hm_135 rfl rfl hq
  · rw [if_neg hc2] at hf
    refine e_if_f hm_135 rfl (cf_eq hc2) ?_
    refine e_aload_n hm_135 rfl rfl ?_
    refine e_getR hm_135 rfl rfl rfl rfl ?_
    refine e_iload_n hm_135 rfl rfl ?_
    obtain ⟨y3, hky3, hf⟩ := mm_bd hf
    refine e_virt hm_135 rfl rfl rfl rfl (Nat.le_of_ble_eq_true rfl) hm_16 rfl rfl (c_16 1 a2 y1.2 rfl hky3 ?_)
    show Ev Z _ 135 15 [some (.ref 0), some (.int a1), some (.int a2), some (.int a3), none] [.int y3.1] (mm_H y3.2) Q
    by_cases hc4 : y3.1 = (0 : Int32)
    · rw [if_pos hc4] at hf
      refine e_if_t (t := 27) hm_135 rfl (ct_eq hc4) rfl ?_
      refine e_bipush hm_135 rfl kc_bipush_m2 ?_
      obtain rfl := Option.some.inj hf
      exact e_iret hm_135 rfl rfl hq
    · rw [if_neg hc4] at hf
      refine e_if_f hm_135 rfl (cf_eq hc4) ?_
      refine e_iload_n hm_135 rfl rfl ?_
      by_cases hc5 : a3 < (0 : Int32)
      · rw [if_pos hc5] at hf
        refine e_if_t (t := 27) hm_135 rfl (ct_lt hc5) rfl ?_
        refine e_bipush hm_135 rfl kc_bipush_m2 ?_
        obtain rfl := Option.some.inj hf
        exact e_iret hm_135 rfl rfl hq
      · rw [if_neg hc5] at hf
        refine e_if_f hm_135 rfl (cf_lt hc5) ?_
        refine e_iload_n hm_135 rfl rfl ?_
        refine e_iconst hm_135 rfl kc_iconst_5 ?_
        by_cases hc6 : (5 : Int32) < a3
        · rw [if_pos hc6] at hf
          refine e_ic_f hm_135 rfl (cf_le hc6) ?_
          refine e_bipush hm_135 rfl kc_bipush_m2 ?_
          obtain rfl := Option.some.inj hf
          exact e_iret hm_135 rfl rfl hq
        · rw [if_neg hc6] at hf
          refine e_ic_t (t := 30) hm_135 rfl (ct_le hc6) rfl ?_
          refine e_aload_n hm_135 rfl rfl ?_
          refine e_getR hm_135 rfl rfl rfl rfl ?_
          refine e_iload_n hm_135 rfl rfl ?_
          obtain ⟨hi7, hf⟩ := mm_ite hf
          refine e_aald hm_135 rfl rfl rfl hi7 (mm_el_sh hi7) ?_
          refine e_astore (L2 := [some (.ref 0), some (.int a1), some (.int a2), some (.int a3), some (.ref (65 + 2 * a1.toNatClampNeg))]) hm_135 rfl rfl ?_
          refine e_aload hm_135 rfl rfl ?_
          obtain ⟨y8, hky8, hf⟩ := mm_bd hf
          refine e_virt hm_135 rfl rfl rfl (mm_cl7 (mm_ei_sh hi7)) (Nat.le_of_ble_eq_true rfl) hm_137 rfl rfl (c_137 (65 + 2 * a1.toNatClampNeg) y3.2 (mm_ei_sh hi7) hky8 ?_)
          show Ev Z _ 135 43 [some (.ref 0), some (.int a1), some (.int a2), some (.int a3), some (.ref (65 + 2 * a1.toNatClampNeg))] [.int y8.1] (mm_H y8.2) Q
          by_cases hc9 : y8.1 = (0 : Int32)
          · rw [if_pos hc9] at hf
            refine e_if_t (t := 49) hm_135 rfl (ct_eq hc9) rfl ?_
            refine e_aload hm_135 rfl rfl ?_
            refine e_getI hm_135 rfl (mm_cl7 (mm_ei_sh hi7)) rfl ?_
            refine e_bipush hm_135 rfl kc_bipush_8 ?_
            by_cases hc10 : (y8.2.1 (65 + 2 * a1.toNatClampNeg) 1) = (8 : Int32)
            · rw [if_pos hc10] at hf
              refine e_ic_t (t := 62) hm_135 rfl (ct_eq hc10) rfl ?_
              refine e_aload_n hm_135 rfl rfl ?_
              refine e_getR hm_135 rfl rfl rfl rfl ?_
              refine e_aload_n hm_135 rfl rfl ?_
              refine e_getR hm_135 rfl rfl rfl rfl ?_
              obtain ⟨y11, hky11, hf⟩ := mm_bd hf
              refine e_virt hm_135 rfl rfl rfl rfl (Nat.le_of_ble_eq_true rfl) hm_138 rfl rfl (c_138 17 1 y8.2 rfl rfl hky11 ?_)
              show Ev Z _ 135 73 [some (.ref 0), some (.int a1), some (.int a2), some (.int a3), some (.ref (65 + 2 * a1.toNatClampNeg))] [] (mm_H y11.2) Q
              refine e_iload_n hm_135 rfl rfl ?_
              by_cases hc12 : a3 = (0 : Int32)
              · rw [if_pos hc12] at hf
                refine e_tsw (t := 108) hm_135 rfl (by rw [hc12]; rfl) ?_
                refine e_aload_n hm_135 rfl rfl ?_
                refine e_aload hm_135 rfl rfl ?_
                refine e_iload_n hm_135 rfl rfl ?_
                obtain ⟨y13, hky13, hf⟩ := mm_bd hf
                refine e_virt hm_135 rfl rfl rfl rfl (Nat.le_of_ble_eq_true rfl) hm_139 rfl rfl (c_139 (65 + 2 * a1.toNatClampNeg) a2 y11.2 (mm_ei_sh hi7) hky13 ?_)
                show Ev Z _ 135 115 [some (.ref 0), some (.int a1), some (.int a2), some (.int a3), some (.ref (65 + 2 * a1.toNatClampNeg))] [.int y13.1] (mm_H y13.2) Q
                obtain rfl := Option.some.inj hf
                exact e_iret hm_135 rfl rfl hq
              · rw [if_neg hc12] at hf
                by_cases hc14 : a3 = (1 : Int32)
                · rw [if_pos hc14] at hf
                  refine e_tsw (t := 116) hm_135 rfl (by rw [hc14]; rfl) ?_
                  refine e_aload_n hm_135 rfl rfl ?_
                  refine e_aload hm_135 rfl rfl ?_
                  refine e_iload_n hm_135 rfl rfl ?_
                  obtain ⟨y15, hky15, hf⟩ := mm_bd hf
                  refine e_virt hm_135 rfl rfl rfl rfl (Nat.le_of_ble_eq_true rfl) hm_140 rfl rfl (c_140 (65 + 2 * a1.toNatClampNeg) a2 y11.2 (mm_ei_sh hi7) hky15 ?_)
                  show Ev Z _ 135 123 [some (.ref 0), some (.int a1), some (.int a2), some (.int a3), some (.ref (65 + 2 * a1.toNatClampNeg))] [.int y15.1] (mm_H y15.2) Q
                  obtain rfl := Option.some.inj hf
                  exact e_iret hm_135 rfl rfl hq
                · rw [if_neg hc14] at hf
                  by_cases hc16 : a3 = (2 : Int32)
                  · rw [if_pos hc16] at hf
                    refine e_tsw (t := 124) hm_135 rfl (by rw [hc16]; rfl) ?_
                    refine e_aload_n hm_135 rfl rfl ?_
                    refine e_aload hm_135 rfl rfl ?_
                    refine e_iload_n hm_135 rfl rfl ?_
                    obtain ⟨y17, hky17, hf⟩ := mm_bd hf
                    refine e_virt hm_135 rfl rfl rfl rfl (Nat.le_of_ble_eq_true rfl) hm_141 rfl rfl (c_141 (65 + 2 * a1.toNatClampNeg) a2 y11.2 (mm_ei_sh hi7) hky17 ?_)
                    show Ev Z _ 135 131 [some (.ref 0), some (.int a1), some (.int a2), some (.int a3), some (.ref (65 + 2 * a1.toNatClampNeg))] [.int y17.1] (mm_H y17.2) Q
                    obtain rfl := Option.some.inj hf
                    exact e_iret hm_135 rfl rfl hq
                  · rw [if_neg hc16] at hf
                    by_cases hc18 : a3 = (3 : Int32)
                    · rw [if_pos hc18] at hf
                      refine e_tsw (t := 132) hm_135 rfl (by rw [hc18]; rfl) ?_
                      refine e_aload_n hm_135 rfl rfl ?_
                      refine e_aload hm_135 rfl rfl ?_
                      refine e_iload_n hm_135 rfl rfl ?_
                      obtain ⟨y19, hky19, hf⟩ := mm_bd hf
                      refine e_virt hm_135 rfl rfl rfl rfl (Nat.le_of_ble_eq_true rfl) hm_142 rfl rfl (c_142 (65 + 2 * a1.toNatClampNeg) a2 y11.2 (mm_ei_sh hi7) hky19 ?_)
                      show Ev Z _ 135 139 [some (.ref 0), some (.int a1), some (.int a2), some (.int a3), some (.ref (65 + 2 * a1.toNatClampNeg))] [.int y19.1] (mm_H y19.2) Q
                      obtain rfl := Option.some.inj hf
                      exact e_iret hm_135 rfl rfl hq
                    · rw [if_neg hc18] at hf
                      by_cases hc20 : a3 = (4 : Int32)
                      · rw [if_pos hc20] at hf
                        refine e_tsw (t := 140) hm_135 rfl (by rw [hc20]; rfl) ?_
                        refine e_aload_n hm_135 rfl rfl ?_
                        refine e_aload hm_135 rfl rfl ?_
                        refine e_iload_n hm_135 rfl rfl ?_
                        obtain ⟨y21, hky21, hf⟩ := mm_bd hf
                        refine e_virt hm_135 rfl rfl rfl rfl (Nat.le_of_ble_eq_true rfl) hm_144 rfl rfl (c_144 (65 + 2 * a1.toNatClampNeg) a2 y11.2 (mm_ei_sh hi7) hky21 ?_)
                        show Ev Z _ 135 147 [some (.ref 0), some (.int a1), some (.int a2), some (.int a3), some (.ref (65 + 2 * a1.toNatClampNeg))] [.int y21.1] (mm_H y21.2) Q
                        obtain rfl := Option.some.inj hf
                        exact e_iret hm_135 rfl rfl hq
                      · rw [if_neg hc20] at hf
                        have khc12 := i32_ne hc12
                        have khc14 := i32_ne hc14
                        have khc16 := i32_ne hc16
                        have khc18 := i32_ne hc18
                        have khc20 := i32_ne hc20
                        rw [show ((0 : Int32) : Int32).toInt = 0 from rfl] at khc12
                        rw [show ((1 : Int32) : Int32).toInt = 1 from rfl] at khc14
                        rw [show ((2 : Int32) : Int32).toInt = 2 from rfl] at khc16
                        rw [show ((3 : Int32) : Int32).toInt = 3 from rfl] at khc18
                        rw [show ((4 : Int32) : Int32).toInt = 4 from rfl] at khc20
                        refine e_tsw (t := 148) hm_135 rfl (tsw_out (by omega) rfl) ?_
                        refine e_aload_n hm_135 rfl rfl ?_
                        refine e_aload hm_135 rfl rfl ?_
                        refine e_iload_n hm_135 rfl rfl ?_
                        obtain ⟨y22, hky22, hf⟩ := mm_bd hf
                        refine e_virt hm_135 rfl rfl rfl rfl (Nat.le_of_ble_eq_true rfl) hm_145 rfl rfl (c_145 (65 + 2 * a1.toNatClampNeg) a2 y11.2 (mm_ei_sh hi7) hky22 ?_)
                        show Ev Z _ 135 155 [some (.ref 0), some (.int a1), some (.int a2), some (.int a3), some (.ref (65 + 2 * a1.toNatClampNeg))] [.int y22.1] (mm_H y22.2) Q
                        obtain rfl := Option.some.inj hf
                        exact e_iret hm_135 rfl rfl hq
            · rw [if_neg hc10] at hf
              refine e_ic_f hm_135 rfl (cf_eq hc10) ?_
              refine e_bipush hm_135 rfl kc_bipush_m2 ?_
              obtain rfl := Option.some.inj hf
              exact e_iret hm_135 rfl rfl hq
          · rw [if_neg hc9] at hf
            refine e_if_f hm_135 rfl (cf_eq hc9) ?_
            refine e_bipush hm_135 rfl kc_bipush_m11 ?_
            obtain rfl := Option.some.inj hf
            exact e_iret hm_135 rfl rfl hq
def st_lay_l21 : Nat → Nat → Int32 → mm_M → Option (((Unit) × mm_M))
  | 0, _, _, _ => none
  | n + 1, x0, x3, M =>
    if x3 < (40 : Int32) then
      if ak_inb x3 40 = true then
      st_lay_l21 n x0 (x3 + (1 : Int32)) (ak_up M.1 (x0 + 1) x3.toNatClampNeg (0 : Int32), M.2) else none
    else
      some ((), M)
set_option maxRecDepth 20000 in
set_option maxHeartbeats 4000000 in
theorem lc_147_21 {Z : ak_Z} {d : Nat} : ∀ (n : Nat) (x0 : Nat) (x3 : Int32) (M : mm_M) (hx0 : mm_is7 x0 = true) {y : ((Unit) × mm_M)} (Q : Option Value → ak_H → Prop), st_lay_l21 n x0 x3 M = some y → (Ev Z (d + 1) 147 40 [none, none, none, none] [] (mm_H y.2) Q) → Ev Z (d + 1) 147 21 [some (.ref x0), none, none, some (.int x3)] [] (mm_H M) Q := by
  intro n
  induction n with
  | zero => intro x0 x3 M hx0 y Q hf; cases hf
  | succ n ih =>
    intro x0 x3 M hx0 y Q hf hq
    rw [st_lay_l21] at hf
    refine e_iload_n hm_147 rfl rfl ?_
    refine e_bipush hm_147 rfl kc_bipush_40 ?_
    by_cases hc1 : x3 < (40 : Int32)
    · rw [if_pos hc1] at hf
      refine e_ic_f hm_147 rfl (cf_ge hc1) ?_
      refine e_aload_n hm_147 rfl rfl ?_
      refine e_getR hm_147 rfl (mm_cl7 hx0) rfl (mm_rf7_2 hx0) ?_
      refine e_iload_n hm_147 rfl rfl ?_
      refine e_iconst hm_147 rfl kc_iconst_0 ?_
      obtain ⟨hi2, hf⟩ := mm_ite hf
      refine e_iast hm_147 rfl (mm_ar7_2 hx0) hi2 ?_
      refine e_iinc (L2 := [some (.ref x0), none, none, some (.int (x3 + (1 : Int32)))]) hm_147 rfl kc_iinc_1 rfl rfl ?_
      refine e_goto (t := 21) hm_147 rfl rfl ?_
      exact e_forget (L' := [some (.ref x0), none, none, some (.int (x3 + (1 : Int32)))]) (lf_k (lf_k (lf_k (lf_k lf_0)))) (ih x0 (x3 + (1 : Int32)) (ak_up M.1 (x0 + 1) x3.toNatClampNeg (0 : Int32), M.2) hx0 Q hf hq)
    · rw [if_neg hc1] at hf
      refine e_ic_t (t := 40) hm_147 rfl (ct_ge hc1) rfl ?_
      obtain rfl := Option.some.inj hf
      exact e_forget (L' := [none, none, none, none]) (lf_d (lf_k (lf_k (lf_d lf_0)))) hq
def st_lay (t : Nat) (a1 : Int32) (a2 : Int32) (M : mm_M) : Option (Unit × mm_M) :=
  (st_lay_l21 300 t (0 : Int32) (ak_up (ak_up M.1 t 0 a1) t 1 (i_max (0 : Int32) (i_min a2 (40 : Int32))), M.2)).bind fun y1 =>
  some ((), y1.2)
set_option maxRecDepth 20000 in
set_option maxHeartbeats 4000000 in
theorem c_147 {Z : ak_Z} {d : Nat} (t : Nat) (a1 : Int32) (a2 : Int32) (M : mm_M) (ht : mm_is7 t = true) {y : Unit × mm_M} (hf : st_lay t a1 a2 M = some y) {Q : Option Value → ak_H → Prop} (hq : Q none (mm_H y.2)) : Ev Z (d + 1) 147 0 [some (.ref t), some (.int a1), some (.int a2), none] [] (mm_H M) Q := by
  rw [st_lay] at hf
  refine e_aload_n hm_147 rfl rfl ?_
  refine e_iload_n hm_147 rfl rfl ?_
  refine e_putI hm_147 rfl (mm_cl7 ht) rfl ?_
  refine e_aload_n hm_147 rfl rfl ?_
  refine e_iconst hm_147 rfl kc_iconst_0 ?_
  refine e_iload_n hm_147 rfl rfl ?_
  refine e_bipush hm_147 rfl kc_bipush_40 ?_
  refine e_min hm_147 rfl (Nat.le_of_ble_eq_true rfl) ?_
  refine e_max hm_147 rfl (Nat.le_of_ble_eq_true rfl) ?_
  refine e_putI hm_147 rfl (mm_cl7 ht) rfl ?_
  refine e_iconst hm_147 rfl kc_iconst_0 ?_
  refine e_istore_n (L2 := [some (.ref t), some (.int a1), some (.int a2), some (.int (0 : Int32))]) hm_147 rfl rfl ?_
  obtain ⟨y1, hky1, hf⟩ := mm_bd hf
  refine e_forget (L' := [some (.ref t), none, none, some (.int (0 : Int32))]) (lf_k (lf_d (lf_d (lf_k lf_0)))) (lc_147_21 (d := _) 300 t (0 : Int32) (ak_up (ak_up M.1 t 0 a1) t 1 (i_max (0 : Int32) (i_min a2 (40 : Int32))), M.2) ht Q hky1 ?_)
  show Ev Z _ 147 40 [none, none, none, none] [] (mm_H y1.2) Q
  obtain rfl := Option.some.inj hf
  exact e_vret hm_147 rfl rfl hq
def st_reaches (t : Nat) (a1 : Int32) (a2 : Int32) (M : mm_M) : Option (Int32 × mm_M) :=
  if a1 < (0 : Int32) then
    some ((0 : Int32), M)
  else
    if a2 < (0 : Int32) then
      some ((0 : Int32), M)
    else
      if (M.1 t 1) < a1 then
        some ((0 : Int32), M)
      else
        if ((M.1 t 1) - a1) < a2 then
          some ((0 : Int32), M)
        else
          some ((1 : Int32), M)
set_option maxRecDepth 20000 in
set_option maxHeartbeats 4000000 in
theorem c_149 {Z : ak_Z} {d : Nat} (t : Nat) (a1 : Int32) (a2 : Int32) (M : mm_M) (ht : mm_is7 t = true) {y : Int32 × mm_M} (hf : st_reaches t a1 a2 M = some y) {Q : Option Value → ak_H → Prop} (hq : Q (some (.int y.1)) (mm_H y.2)) : Ev Z (d + 0) 149 0 [some (.ref t), some (.int a1), some (.int a2)] [] (mm_H M) Q := by
  rw [st_reaches] at hf
  refine e_iload_n hm_149 rfl rfl ?_
  by_cases hc1 : a1 < (0 : Int32)
  · rw [if_pos hc1] at hf
    refine e_if_t (t := 30) hm_149 rfl (ct_lt hc1) rfl ?_
    refine e_iconst hm_149 rfl kc_iconst_0 ?_
    obtain rfl := Option.some.inj hf
    exact e_zret hm_149 rfl rfl (by decide) hq
  · rw [if_neg hc1] at hf
    refine e_if_f hm_149 rfl (cf_lt hc1) ?_
    refine e_iload_n hm_149 rfl rfl ?_
    by_cases hc2 : a2 < (0 : Int32)
    · rw [if_pos hc2] at hf
      refine e_if_t (t := 30) hm_149 rfl (ct_lt hc2) rfl ?_
      refine e_iconst hm_149 rfl kc_iconst_0 ?_
      obtain rfl := Option.some.inj hf
      exact e_zret hm_149 rfl rfl (by decide) hq
    · rw [if_neg hc2] at hf
      refine e_if_f hm_149 rfl (cf_lt hc2) ?_
      refine e_iload_n hm_149 rfl rfl ?_
      refine e_aload_n hm_149 rfl rfl ?_
      refine e_getI hm_149 rfl (mm_cl7 ht) rfl ?_
      by_cases hc3 : (M.1 t 1) < a1
      · rw [if_pos hc3] at hf
        refine e_ic_t (t := 30) hm_149 rfl (ct_gt hc3) rfl ?_
        refine e_iconst hm_149 rfl kc_iconst_0 ?_
        obtain rfl := Option.some.inj hf
        exact e_zret hm_149 rfl rfl (by decide) hq
      · rw [if_neg hc3] at hf
        refine e_ic_f hm_149 rfl (cf_gt hc3) ?_
        refine e_iload_n hm_149 rfl rfl ?_
        refine e_aload_n hm_149 rfl rfl ?_
        refine e_getI hm_149 rfl (mm_cl7 ht) rfl ?_
        refine e_iload_n hm_149 rfl rfl ?_
        refine e_isub hm_149 rfl ?_
        by_cases hc4 : ((M.1 t 1) - a1) < a2
        · rw [if_pos hc4] at hf
          refine e_ic_t (t := 30) hm_149 rfl (ct_gt hc4) rfl ?_
          refine e_iconst hm_149 rfl kc_iconst_0 ?_
          obtain rfl := Option.some.inj hf
          exact e_zret hm_149 rfl rfl (by decide) hq
        · rw [if_neg hc4] at hf
          refine e_ic_f hm_149 rfl (cf_gt hc4) ?_
          refine e_iconst hm_149 rfl kc_iconst_1 ?_
          refine e_goto (t := 31) hm_149 rfl rfl ?_
          obtain rfl := Option.some.inj hf
          exact e_zret hm_149 rfl rfl (by decide) hq
def st_put (t : Nat) (a1 : Int32) (a2 : Int32) (M : mm_M) : Option (Unit × mm_M) :=
  (st_reaches t a1 (1 : Int32) M).bind fun y1 =>
  if y1.1 = (0 : Int32) then
    some ((), y1.2)
  else
    if (y1.2.1 t 0) = (0 : Int32) then
      if ak_inb a1 40 = true then
      some ((), (ak_up y1.2.1 (t + 1) a1.toNatClampNeg a2.toInt8.toInt32, y1.2.2)) else none
    else
      if (y1.2.1 t 0) = (1 : Int32) then
        if ak_inb a1 40 = true then
        some ((), (ak_up y1.2.1 (t + 1) a1.toNatClampNeg a2.toInt16.toInt32, y1.2.2)) else none
      else
        if ak_inb a1 40 = true then
        some ((), (ak_up y1.2.1 (t + 1) a1.toNatClampNeg a2, y1.2.2)) else none
set_option maxRecDepth 20000 in
set_option maxHeartbeats 4000000 in
theorem c_148 {Z : ak_Z} {d : Nat} (t : Nat) (a1 : Int32) (a2 : Int32) (M : mm_M) (ht : mm_is7 t = true) {y : Unit × mm_M} (hf : st_put t a1 a2 M = some y) {Q : Option Value → ak_H → Prop} (hq : Q none (mm_H y.2)) : Ev Z (d + 1) 148 0 [some (.ref t), some (.int a1), some (.int a2)] [] (mm_H M) Q := by
  rw [st_put] at hf
  refine e_aload_n hm_148 rfl rfl ?_
  refine e_iload_n hm_148 rfl rfl ?_
  refine e_iconst hm_148 rfl kc_iconst_1 ?_
  obtain ⟨y1, hky1, hf⟩ := mm_bd hf
  refine e_virt hm_148 rfl rfl rfl (mm_cl7 ht) (Nat.le_of_ble_eq_true rfl) hm_149 rfl rfl (c_149 t a1 (1 : Int32) M ht hky1 ?_)
  show Ev Z _ 148 6 [some (.ref t), some (.int a1), some (.int a2)] [.int y1.1] (mm_H y1.2) Q
  by_cases hc2 : y1.1 = (0 : Int32)
  · rw [if_pos hc2] at hf
    refine e_if_f hm_148 rfl (cf_ne hc2) ?_
    obtain rfl := Option.some.inj hf
    exact e_vret hm_148 rfl rfl hq
  · rw [if_neg hc2] at hf
    refine e_if_t (t := 10) hm_148 rfl (ct_ne hc2) rfl ?_
    refine e_aload_n hm_148 rfl rfl ?_
    refine e_getI hm_148 rfl (mm_cl7 ht) rfl ?_
    by_cases hc3 : (y1.2.1 t 0) = (0 : Int32)
    · rw [if_pos hc3] at hf
      refine e_if_f hm_148 rfl (cf_ne hc3) ?_
      refine e_aload_n hm_148 rfl rfl ?_
      refine e_getR hm_148 rfl (mm_cl7 ht) rfl (mm_rf7_2 ht) ?_
      refine e_iload_n hm_148 rfl rfl ?_
      refine e_iload_n hm_148 rfl rfl ?_
      refine e_i2b hm_148 rfl ?_
      obtain ⟨hi4, hf⟩ := mm_ite hf
      refine e_iast hm_148 rfl (mm_ar7_2 ht) hi4 ?_
      refine e_goto (t := 48) hm_148 rfl rfl ?_
      obtain rfl := Option.some.inj hf
      exact e_vret hm_148 rfl rfl hq
    · rw [if_neg hc3] at hf
      refine e_if_t (t := 28) hm_148 rfl (ct_ne hc3) rfl ?_
      refine e_aload_n hm_148 rfl rfl ?_
      refine e_getR hm_148 rfl (mm_cl7 ht) rfl (mm_rf7_2 ht) ?_
      refine e_iload_n hm_148 rfl rfl ?_
      refine e_aload_n hm_148 rfl rfl ?_
      refine e_getI hm_148 rfl (mm_cl7 ht) rfl ?_
      refine e_iconst hm_148 rfl kc_iconst_1 ?_
      by_cases hc5 : (y1.2.1 t 0) = (1 : Int32)
      · rw [if_pos hc5] at hf
        refine e_ic_f hm_148 rfl (cf_ne hc5) ?_
        refine e_iload_n hm_148 rfl rfl ?_
        refine e_i2s hm_148 rfl ?_
        refine e_goto (t := 47) hm_148 rfl rfl ?_
        obtain ⟨hi6, hf⟩ := mm_ite hf
        refine e_iast hm_148 rfl (mm_ar7_2 ht) hi6 ?_
        obtain rfl := Option.some.inj hf
        exact e_vret hm_148 rfl rfl hq
      · rw [if_neg hc5] at hf
        refine e_ic_t (t := 46) hm_148 rfl (ct_ne hc5) rfl ?_
        refine e_iload_n hm_148 rfl rfl ?_
        obtain ⟨hi7, hf⟩ := mm_ite hf
        refine e_iast hm_148 rfl (mm_ar7_2 ht) hi7 ?_
        obtain rfl := Option.some.inj hf
        exact e_vret hm_148 rfl rfl hq
def nb_film_l38 : Nat → Int32 → Nat → Int32 → mm_M → Option (((Unit) × mm_M))
  | 0, _, _, _, _ => none
  | n + 1, x2, x3, x4, M =>
    if x4 < (8 : Int32) then
      (ru_glad 1 x2 x4 M).bind fun y2 =>
      (st_put x3 x4 y2.1 y2.2).bind fun y3 =>
      nb_film_l38 n x2 x3 (x4 + (1 : Int32)) y3.2
    else
      some ((), M)
set_option maxRecDepth 20000 in
set_option maxHeartbeats 4000000 in
theorem lc_146_38 {Z : ak_Z} {d : Nat} : ∀ (n : Nat) (x2 : Int32) (x3 : Nat) (x4 : Int32) (M : mm_M) (hx3 : mm_is7 x3 = true) {y : ((Unit) × mm_M)} (Q : Option Value → ak_H → Prop), nb_film_l38 n x2 x3 x4 M = some y → (Ev Z (d + 4) 146 71 [none, none, none, none, none] [] (mm_H y.2) Q) → Ev Z (d + 4) 146 38 [some (.ref 0), none, some (.int x2), some (.ref x3), some (.int x4)] [] (mm_H M) Q := by
  intro n
  induction n with
  | zero => intro x2 x3 x4 M hx3 y Q hf; cases hf
  | succ n ih =>
    intro x2 x3 x4 M hx3 y Q hf hq
    rw [nb_film_l38] at hf
    refine e_iload hm_146 rfl rfl ?_
    refine e_bipush hm_146 rfl kc_bipush_8 ?_
    by_cases hc1 : x4 < (8 : Int32)
    · rw [if_pos hc1] at hf
      refine e_ic_f hm_146 rfl (cf_ge hc1) ?_
      refine e_aload_n hm_146 rfl rfl ?_
      refine e_iload hm_146 rfl rfl ?_
      refine e_aload_n hm_146 rfl rfl ?_
      refine e_getR hm_146 rfl rfl rfl rfl ?_
      refine e_aload_n hm_146 rfl rfl ?_
      refine e_getR hm_146 rfl rfl rfl rfl ?_
      refine e_iload_n hm_146 rfl rfl ?_
      refine e_iload hm_146 rfl rfl ?_
      obtain ⟨y2, hky2, hf⟩ := mm_bd hf
      refine e_virt hm_146 rfl rfl rfl rfl (Nat.le_of_ble_eq_true rfl) hm_48 rfl rfl (c_48 1 x2 x4 M rfl hky2 ?_)
      show Ev Z _ 146 62 [some (.ref 0), none, some (.int x2), some (.ref x3), some (.int x4)] [.int y2.1, .int x4, .ref x3] (mm_H y2.2) Q
      obtain ⟨y3, hky3, hf⟩ := mm_bd hf
      refine e_virt hm_146 rfl rfl rfl (mm_cl7 hx3) (Nat.le_of_ble_eq_true rfl) hm_148 rfl rfl (c_148 x3 x4 y2.1 y2.2 hx3 hky3 ?_)
      show Ev Z _ 146 65 [some (.ref 0), none, some (.int x2), some (.ref x3), some (.int x4)] [] (mm_H y3.2) Q
      refine e_iinc (L2 := [some (.ref 0), none, some (.int x2), some (.ref x3), some (.int (x4 + (1 : Int32)))]) hm_146 rfl kc_iinc_1 rfl rfl ?_
      refine e_goto (t := 38) hm_146 rfl rfl ?_
      exact e_forget (L' := [some (.ref 0), none, some (.int x2), some (.ref x3), some (.int (x4 + (1 : Int32)))]) (lf_k (lf_k (lf_k (lf_k (lf_k lf_0))))) (ih x2 x3 (x4 + (1 : Int32)) y3.2 hx3 Q hf hq)
    · rw [if_neg hc1] at hf
      refine e_ic_t (t := 71) hm_146 rfl (ct_ge hc1) rfl ?_
      obtain rfl := Option.some.inj hf
      exact e_forget (L' := [none, none, none, none, none]) (lf_d (lf_k (lf_d (lf_d (lf_d lf_0))))) hq
def nb_film (a1 : Int32) (a2 : Int32) (M : mm_M) : Option (Int32 × mm_M) :=
  (nb_isSheet a1 M).bind fun y1 =>
  if y1.1 = (0 : Int32) then
    some ((-2 : Int32), y1.2)
  else
    (sh_isOne 1 a2 y1.2).bind fun y3 =>
    if y3.1 = (0 : Int32) then
      some ((-2 : Int32), y3.2)
    else
      if ak_inb a1 4 = true then
      (st_lay (65 + 2 * a1.toNatClampNeg) (1 : Int32) (8 : Int32) y3.2).bind fun y6 =>
      (nb_film_l38 300 a2 (65 + 2 * a1.toNatClampNeg) (0 : Int32) y6.2).bind fun y7 =>
      some ((8 : Int32), y7.2) else none
set_option maxRecDepth 20000 in
set_option maxHeartbeats 4000000 in
theorem c_146 {Z : ak_Z} {d : Nat} (a1 : Int32) (a2 : Int32) (M : mm_M) {y : Int32 × mm_M} (hf : nb_film a1 a2 M = some y) {Q : Option Value → ak_H → Prop} (hq : Q (some (.int y.1)) (mm_H y.2)) : Ev Z (d + 4) 146 0 [some (.ref 0), some (.int a1), some (.int a2), none, none] [] (mm_H M) Q := by
  rw [nb_film] at hf
  refine e_iload_n hm_146 rfl rfl ?_
  obtain ⟨y1, hky1, hf⟩ := mm_bd hf
  refine e_stat hm_146 rfl (by decide) rfl rfl (Nat.le_of_ble_eq_true rfl) hm_136 rfl rfl (c_136 a1 M hky1 ?_)
  show Ev Z _ 146 4 [some (.ref 0), some (.int a1), some (.int a2), none, none] [.int y1.1] (mm_H y1.2) Q
  by_cases hc2 : y1.1 = (0 : Int32)
  · rw [if_pos hc2] at hf
    refine e_if_t (t := 18) hm_146 rfl (ct_eq hc2) rfl ?_
    refine e_bipush hm_146 rfl kc_bipush_m2 ?_
    obtain rfl := Option.some.inj hf
    exact e_iret hm_146 rfl rfl hq
  · rw [if_neg hc2] at hf
    refine e_if_f hm_146 rfl (cf_eq hc2) ?_
    refine e_aload_n hm_146 rfl rfl ?_
    refine e_getR hm_146 rfl rfl rfl rfl ?_
    refine e_iload_n hm_146 rfl rfl ?_
    obtain ⟨y3, hky3, hf⟩ := mm_bd hf
    refine e_virt hm_146 rfl rfl rfl rfl (Nat.le_of_ble_eq_true rfl) hm_16 rfl rfl (c_16 1 a2 y1.2 rfl hky3 ?_)
    show Ev Z _ 146 15 [some (.ref 0), some (.int a1), some (.int a2), none, none] [.int y3.1] (mm_H y3.2) Q
    by_cases hc4 : y3.1 = (0 : Int32)
    · rw [if_pos hc4] at hf
      refine e_if_f hm_146 rfl (cf_ne hc4) ?_
      refine e_bipush hm_146 rfl kc_bipush_m2 ?_
      obtain rfl := Option.some.inj hf
      exact e_iret hm_146 rfl rfl hq
    · rw [if_neg hc4] at hf
      refine e_if_t (t := 21) hm_146 rfl (ct_ne hc4) rfl ?_
      refine e_aload_n hm_146 rfl rfl ?_
      refine e_getR hm_146 rfl rfl rfl rfl ?_
      refine e_iload_n hm_146 rfl rfl ?_
      obtain ⟨hi5, hf⟩ := mm_ite hf
      refine e_aald hm_146 rfl rfl rfl hi5 (mm_el_sh hi5) ?_
      refine e_astore_n (L2 := [some (.ref 0), some (.int a1), some (.int a2), some (.ref (65 + 2 * a1.toNatClampNeg)), none]) hm_146 rfl rfl ?_
      refine e_aload_n hm_146 rfl rfl ?_
      refine e_iconst hm_146 rfl kc_iconst_1 ?_
      refine e_bipush hm_146 rfl kc_bipush_8 ?_
      obtain ⟨y6, hky6, hf⟩ := mm_bd hf
      refine e_virt hm_146 rfl rfl rfl (mm_cl7 (mm_ei_sh hi5)) (Nat.le_of_ble_eq_true rfl) hm_147 rfl rfl (c_147 (65 + 2 * a1.toNatClampNeg) (1 : Int32) (8 : Int32) y3.2 (mm_ei_sh hi5) hky6 ?_)
      show Ev Z _ 146 35 [some (.ref 0), some (.int a1), some (.int a2), some (.ref (65 + 2 * a1.toNatClampNeg)), none] [] (mm_H y6.2) Q
      refine e_iconst hm_146 rfl kc_iconst_0 ?_
      refine e_istore (L2 := [some (.ref 0), some (.int a1), some (.int a2), some (.ref (65 + 2 * a1.toNatClampNeg)), some (.int (0 : Int32))]) hm_146 rfl rfl ?_
      obtain ⟨y7, hky7, hf⟩ := mm_bd hf
      refine e_forget (L' := [some (.ref 0), none, some (.int a2), some (.ref (65 + 2 * a1.toNatClampNeg)), some (.int (0 : Int32))]) (lf_k (lf_d (lf_k (lf_k (lf_k lf_0))))) (lc_146_38 (d := _) 300 a2 (65 + 2 * a1.toNatClampNeg) (0 : Int32) y6.2 (mm_ei_sh hi5) Q hky7 ?_)
      show Ev Z _ 146 71 [none, none, none, none, none] [] (mm_H y7.2) Q
      refine e_bipush hm_146 rfl kc_bipush_8 ?_
      obtain rfl := Option.some.inj hf
      exact e_iret hm_146 rfl rfl hq
def nb_drawWishes_l15 : Nat → Int32 → Int32 → mm_M → Option (((Unit) × mm_M))
  | 0, _, _, _ => none
  | n + 1, x2, x3, M =>
    if x3 < (M.1 17 4) then
      if ak_inb x3 4 = true then
      nb_drawWishes_l15 n ((x2 * (1103515245 : Int32)) + (12345 : Int32)) (x3 + (1 : Int32)) (ak_up M.1 21 x3.toNatClampNeg (((((x2 * (1103515245 : Int32)) + (12345 : Int32)).toUInt32 >>> ((9 : Int32).toUInt32 &&& Int32.toUInt32 31)).toInt32) - ((((x2 * (1103515245 : Int32)) + (12345 : Int32)).toUInt32 >>> ((9 : Int32).toUInt32 &&& Int32.toUInt32 31)).toInt32) / (256 : Int32) * (256 : Int32)), M.2) else none
    else
      some ((), M)
set_option maxRecDepth 20000 in
set_option maxHeartbeats 4000000 in
theorem lc_151_15 {Z : ak_Z} {d : Nat} : ∀ (n : Nat) (x2 : Int32) (x3 : Int32) (M : mm_M) {y : ((Unit) × mm_M)} (Q : Option Value → ak_H → Prop), nb_drawWishes_l15 n x2 x3 M = some y → (Ev Z (d + 1) 151 58 [none, none, none, none] [] (mm_H y.2) Q) → Ev Z (d + 1) 151 15 [some (.ref 0), none, some (.int x2), some (.int x3)] [] (mm_H M) Q := by
  intro n
  induction n with
  | zero => intro x2 x3 M y Q hf; cases hf
  | succ n ih =>
    intro x2 x3 M y Q hf hq
    rw [nb_drawWishes_l15] at hf
    refine e_iload_n hm_151 rfl rfl ?_
    refine e_aload_n hm_151 rfl rfl ?_
    refine e_getR hm_151 rfl rfl rfl rfl ?_
    refine e_getI hm_151 rfl rfl rfl ?_
    by_cases hc1 : x3 < (M.1 17 4)
    · rw [if_pos hc1] at hf
      refine e_ic_f hm_151 rfl (cf_ge hc1) ?_
      refine e_iload_n hm_151 rfl rfl ?_
      refine e_ldc hm_151 rfl kc_ldc_1103515245 ?_
      refine e_imul hm_151 rfl ?_
      refine e_sipush hm_151 rfl kc_sipush_12345 ?_
      refine e_iadd hm_151 rfl ?_
      refine e_istore_n (L2 := [some (.ref 0), none, some (.int ((x2 * (1103515245 : Int32)) + (12345 : Int32))), some (.int x3)]) hm_151 rfl rfl ?_
      refine e_aload_n hm_151 rfl rfl ?_
      refine e_getR hm_151 rfl rfl rfl rfl ?_
      refine e_getR hm_151 rfl rfl rfl rfl ?_
      refine e_iload_n hm_151 rfl rfl ?_
      refine e_iload_n hm_151 rfl rfl ?_
      refine e_bipush hm_151 rfl kc_bipush_9 ?_
      refine e_iushr hm_151 rfl ?_
      refine e_sipush hm_151 rfl kc_sipush_256 ?_
      refine e_irem hm_151 rfl (by decide) ?_
      obtain ⟨hi2, hf⟩ := mm_ite hf
      refine e_iast hm_151 rfl rfl hi2 ?_
      refine e_iinc (L2 := [some (.ref 0), none, some (.int ((x2 * (1103515245 : Int32)) + (12345 : Int32))), some (.int (x3 + (1 : Int32)))]) hm_151 rfl kc_iinc_1 rfl rfl ?_
      refine e_goto (t := 15) hm_151 rfl rfl ?_
      exact e_forget (L' := [some (.ref 0), none, some (.int ((x2 * (1103515245 : Int32)) + (12345 : Int32))), some (.int (x3 + (1 : Int32)))]) (lf_k (lf_k (lf_k (lf_k lf_0)))) (ih ((x2 * (1103515245 : Int32)) + (12345 : Int32)) (x3 + (1 : Int32)) (ak_up M.1 21 x3.toNatClampNeg (((((x2 * (1103515245 : Int32)) + (12345 : Int32)).toUInt32 >>> ((9 : Int32).toUInt32 &&& Int32.toUInt32 31)).toInt32) - ((((x2 * (1103515245 : Int32)) + (12345 : Int32)).toUInt32 >>> ((9 : Int32).toUInt32 &&& Int32.toUInt32 31)).toInt32) / (256 : Int32) * (256 : Int32)), M.2) Q hf hq)
    · rw [if_neg hc1] at hf
      refine e_ic_t (t := 58) hm_151 rfl (ct_ge hc1) rfl ?_
      obtain rfl := Option.some.inj hf
      exact e_forget (L' := [none, none, none, none]) (lf_d (lf_k (lf_d (lf_d lf_0)))) hq
def nb_drawWishes (a1 : Int32) (M : mm_M) : Option (Unit × mm_M) :=
  (sh_become 17 1 M).bind fun y1 =>
  (nb_drawWishes_l15 300 a1 (0 : Int32) y1.2).bind fun y2 =>
  some ((), y2.2)
set_option maxRecDepth 20000 in
set_option maxHeartbeats 4000000 in
theorem c_151 {Z : ak_Z} {d : Nat} (a1 : Int32) (M : mm_M) {y : Unit × mm_M} (hf : nb_drawWishes a1 M = some y) {Q : Option Value → ak_H → Prop} (hq : Q none (mm_H y.2)) : Ev Z (d + 1) 151 0 [some (.ref 0), some (.int a1), none, none] [] (mm_H M) Q := by
  rw [nb_drawWishes] at hf
  refine e_aload_n hm_151 rfl rfl ?_
  refine e_getR hm_151 rfl rfl rfl rfl ?_
  refine e_aload_n hm_151 rfl rfl ?_
  refine e_getR hm_151 rfl rfl rfl rfl ?_
  obtain ⟨y1, hky1, hf⟩ := mm_bd hf
  refine e_virt hm_151 rfl rfl rfl rfl (Nat.le_of_ble_eq_true rfl) hm_138 rfl rfl (c_138 17 1 M rfl rfl hky1 ?_)
  show Ev Z _ 151 11 [some (.ref 0), some (.int a1), none, none] [] (mm_H y1.2) Q
  refine e_iload_n hm_151 rfl rfl ?_
  refine e_istore_n (L2 := [some (.ref 0), some (.int a1), some (.int a1), none]) hm_151 rfl rfl ?_
  refine e_iconst hm_151 rfl kc_iconst_0 ?_
  refine e_istore_n (L2 := [some (.ref 0), some (.int a1), some (.int a1), some (.int (0 : Int32))]) hm_151 rfl rfl ?_
  obtain ⟨y2, hky2, hf⟩ := mm_bd hf
  refine e_forget (L' := [some (.ref 0), none, some (.int a1), some (.int (0 : Int32))]) (lf_k (lf_d (lf_k (lf_k lf_0)))) (lc_151_15 (d := _) 300 a1 (0 : Int32) y1.2 Q hky2 ?_)
  show Ev Z _ 151 58 [none, none, none, none] [] (mm_H y2.2) Q
  obtain rfl := Option.some.inj hf
  exact e_vret hm_151 rfl rfl hq
def nb_drawn (a1 : Int32) (M : mm_M) : Option (Int32 × mm_M) :=
  (nb_drawWishes a1 M).bind fun y1 =>
  (pl_look 17 y1.2).bind fun y2 =>
  (pl_takeTurns y2.2).bind fun y3 =>
  (pl_all y3.2).bind fun y4 =>
  some (y4.1, y4.2)
set_option maxRecDepth 20000 in
set_option maxHeartbeats 4000000 in
theorem c_150 {Z : ak_Z} {d : Nat} (a1 : Int32) (M : mm_M) {y : Int32 × mm_M} (hf : nb_drawn a1 M = some y) {Q : Option Value → ak_H → Prop} (hq : Q (some (.int y.1)) (mm_H y.2)) : Ev Z (d + 6) 150 0 [some (.ref 0), some (.int a1)] [] (mm_H M) Q := by
  rw [nb_drawn] at hf
  refine e_aload_n hm_150 rfl rfl ?_
  refine e_iload_n hm_150 rfl rfl ?_
  obtain ⟨y1, hky1, hf⟩ := mm_bd hf
  refine e_virt hm_150 rfl rfl rfl rfl (Nat.le_of_ble_eq_true rfl) hm_151 rfl rfl (c_151 a1 M hky1 ?_)
  show Ev Z _ 150 5 [some (.ref 0), some (.int a1)] [] (mm_H y1.2) Q
  refine e_aload_n hm_150 rfl rfl ?_
  refine e_getR hm_150 rfl rfl rfl rfl ?_
  refine e_aload_n hm_150 rfl rfl ?_
  refine e_getR hm_150 rfl rfl rfl rfl ?_
  obtain ⟨y2, hky2, hf⟩ := mm_bd hf
  refine e_virt hm_150 rfl rfl rfl rfl (Nat.le_of_ble_eq_true rfl) hm_99 rfl rfl (c_99 17 y1.2 rfl hky2 ?_)
  show Ev Z _ 150 16 [some (.ref 0), some (.int a1)] [] (mm_H y2.2) Q
  refine e_aload_n hm_150 rfl rfl ?_
  refine e_getR hm_150 rfl rfl rfl rfl ?_
  obtain ⟨y3, hky3, hf⟩ := mm_bd hf
  refine e_virt hm_150 rfl rfl rfl rfl (Nat.le_of_ble_eq_true rfl) hm_123 rfl rfl (c_123 y2.2 hky3 ?_)
  show Ev Z _ 150 23 [some (.ref 0), some (.int a1)] [] (mm_H y3.2) Q
  refine e_aload_n hm_150 rfl rfl ?_
  refine e_getR hm_150 rfl rfl rfl rfl ?_
  obtain ⟨y4, hky4, hf⟩ := mm_bd hf
  refine e_virt hm_150 rfl rfl rfl rfl (Nat.le_of_ble_eq_true rfl) hm_109 rfl rfl (c_109 y3.2 hky4 ?_)
  show Ev Z _ 150 30 [some (.ref 0), some (.int a1)] [.int y4.1] (mm_H y4.2) Q
  obtain rfl := Option.some.inj hf
  exact e_iret hm_150 rfl rfl hq
def nb_commonDivisor_l7 : Nat → Int32 → Int32 → Int32 → mm_M → Option (((Int32) × mm_M))
  | 0, _, _, _, _ => none
  | n + 1, x2, x3, x4, M =>
    if x4 < (100 : Int32) then
      if x3 = (0 : Int32) then
        some (x2, M)
      else
        if ¬ x3 = 0 then
        nb_commonDivisor_l7 n x3 (x2 - x2 / x3 * x3) (x4 + (1 : Int32)) M else none
    else
      some (x2, M)
set_option maxRecDepth 20000 in
set_option maxHeartbeats 4000000 in
theorem lc_153_7 {Z : ak_Z} {d : Nat} : ∀ (n : Nat) (x2 : Int32) (x3 : Int32) (x4 : Int32) (M : mm_M) {y : ((Int32) × mm_M)} (Q : Option Value → ak_H → Prop), nb_commonDivisor_l7 n x2 x3 x4 M = some y → (Ev Z (d + 0) 153 34 [none, none, some (.int y.1), none, none, none] [] (mm_H y.2) Q) → Ev Z (d + 0) 153 7 [none, none, some (.int x2), some (.int x3), some (.int x4), none] [] (mm_H M) Q := by
  intro n
  induction n with
  | zero => intro x2 x3 x4 M y Q hf; cases hf
  | succ n ih =>
    intro x2 x3 x4 M y Q hf hq
    rw [nb_commonDivisor_l7] at hf
    refine e_iload hm_153 rfl rfl ?_
    refine e_bipush hm_153 rfl kc_bipush_100 ?_
    by_cases hc1 : x4 < (100 : Int32)
    · rw [if_pos hc1] at hf
      refine e_ic_f hm_153 rfl (cf_ge hc1) ?_
      refine e_iload_n hm_153 rfl rfl ?_
      by_cases hc2 : x3 = (0 : Int32)
      · rw [if_pos hc2] at hf
        refine e_if_t (t := 34) hm_153 rfl (ct_eq hc2) rfl ?_
        obtain rfl := Option.some.inj hf
        exact e_forget (L' := [none, none, some (.int x2), none, none, none]) (lf_k (lf_k (lf_k (lf_d (lf_d (lf_k lf_0)))))) hq
      · rw [if_neg hc2] at hf
        refine e_if_f hm_153 rfl (cf_eq hc2) ?_
        refine e_iload_n hm_153 rfl rfl ?_
        refine e_iload_n hm_153 rfl rfl ?_
        obtain ⟨hg3, hf⟩ := mm_ite hf
        refine e_irem hm_153 rfl hg3 ?_
        refine e_istore (L2 := [none, none, some (.int x2), some (.int x3), some (.int x4), some (.int (x2 - x2 / x3 * x3))]) hm_153 rfl rfl ?_
        refine e_iload_n hm_153 rfl rfl ?_
        refine e_istore_n (L2 := [none, none, some (.int x3), some (.int x3), some (.int x4), some (.int (x2 - x2 / x3 * x3))]) hm_153 rfl rfl ?_
        refine e_iload hm_153 rfl rfl ?_
        refine e_istore_n (L2 := [none, none, some (.int x3), some (.int (x2 - x2 / x3 * x3)), some (.int x4), some (.int (x2 - x2 / x3 * x3))]) hm_153 rfl rfl ?_
        refine e_iinc (L2 := [none, none, some (.int x3), some (.int (x2 - x2 / x3 * x3)), some (.int (x4 + (1 : Int32))), some (.int (x2 - x2 / x3 * x3))]) hm_153 rfl kc_iinc_1 rfl rfl ?_
        refine e_goto (t := 7) hm_153 rfl rfl ?_
        exact e_forget (L' := [none, none, some (.int x3), some (.int (x2 - x2 / x3 * x3)), some (.int (x4 + (1 : Int32))), none]) (lf_k (lf_k (lf_k (lf_k (lf_k (lf_d lf_0)))))) (ih x3 (x2 - x2 / x3 * x3) (x4 + (1 : Int32)) M Q hf hq)
    · rw [if_neg hc1] at hf
      refine e_ic_t (t := 34) hm_153 rfl (ct_ge hc1) rfl ?_
      obtain rfl := Option.some.inj hf
      exact e_forget (L' := [none, none, some (.int x2), none, none, none]) (lf_k (lf_k (lf_k (lf_d (lf_d (lf_k lf_0)))))) hq
def nb_commonDivisor (a1 : Int32) (a2 : Int32) (M : mm_M) : Option (Int32 × mm_M) :=
  (nb_commonDivisor_l7 300 a1 a2 (0 : Int32) M).bind fun y1 =>
  some (y1.1, y1.2)
set_option maxRecDepth 20000 in
set_option maxHeartbeats 4000000 in
theorem c_153 {Z : ak_Z} {d : Nat} (a1 : Int32) (a2 : Int32) (M : mm_M) {y : Int32 × mm_M} (hf : nb_commonDivisor a1 a2 M = some y) {Q : Option Value → ak_H → Prop} (hq : Q (some (.int y.1)) (mm_H y.2)) : Ev Z (d + 0) 153 0 [some (.int a1), some (.int a2), none, none, none, none] [] (mm_H M) Q := by
  rw [nb_commonDivisor] at hf
  refine e_iload_n hm_153 rfl rfl ?_
  refine e_istore_n (L2 := [some (.int a1), some (.int a2), some (.int a1), none, none, none]) hm_153 rfl rfl ?_
  refine e_iload_n hm_153 rfl rfl ?_
  refine e_istore_n (L2 := [some (.int a1), some (.int a2), some (.int a1), some (.int a2), none, none]) hm_153 rfl rfl ?_
  refine e_iconst hm_153 rfl kc_iconst_0 ?_
  refine e_istore (L2 := [some (.int a1), some (.int a2), some (.int a1), some (.int a2), some (.int (0 : Int32)), none]) hm_153 rfl rfl ?_
  obtain ⟨y1, hky1, hf⟩ := mm_bd hf
  refine e_forget (L' := [none, none, some (.int a1), some (.int a2), some (.int (0 : Int32)), none]) (lf_d (lf_d (lf_k (lf_k (lf_k (lf_k lf_0)))))) (lc_153_7 (d := _) 300 a1 a2 (0 : Int32) M Q hky1 ?_)
  show Ev Z _ 153 34 [none, none, some (.int y1.1), none, none, none] [] (mm_H y1.2) Q
  refine e_iload_n hm_153 rfl rfl ?_
  obtain rfl := Option.some.inj hf
  exact e_iret hm_153 rfl rfl hq
def nb_chance_l30 : Nat → Int32 → Int32 → Int32 → Int32 → Int32 → mm_M → Option (((Int32) × mm_M))
  | 0, _, _, _, _, _, _ => none
  | n + 1, x1, x2, x3, x4, x5, M =>
    if x5 < x2 then
      (nb_drawWishes (x1 + x5) M).bind fun y2 =>
      (pl_look 17 y2.2).bind fun y3 =>
      (pl_takeTurns y3.2).bind fun y4 =>
      (pl_withNone y4.2).bind fun y5 =>
      if y5.1 = (0 : Int32) then
        nb_chance_l30 n x1 x2 x3 (x4 + (1 : Int32)) (x5 + (1 : Int32)) y5.2
      else
        nb_chance_l30 n x1 x2 x3 x4 (x5 + (1 : Int32)) y5.2
    else
      some (x4, M)
set_option maxRecDepth 20000 in
set_option maxHeartbeats 4000000 in
theorem lc_152_30 {Z : ak_Z} {d : Nat} : ∀ (n : Nat) (x1 : Int32) (x2 : Int32) (x3 : Int32) (x4 : Int32) (x5 : Int32) (M : mm_M) {y : ((Int32) × mm_M)} (Q : Option Value → ak_H → Prop), nb_chance_l30 n x1 x2 x3 x4 x5 M = some y → (Ev Z (d + 6) 152 81 [none, none, some (.int x2), some (.int x3), some (.int y.1), none, none] [] (mm_H y.2) Q) → Ev Z (d + 6) 152 30 [some (.ref 0), some (.int x1), some (.int x2), some (.int x3), some (.int x4), some (.int x5), none] [] (mm_H M) Q := by
  intro n
  induction n with
  | zero => intro x1 x2 x3 x4 x5 M y Q hf; cases hf
  | succ n ih =>
    intro x1 x2 x3 x4 x5 M y Q hf hq
    rw [nb_chance_l30] at hf
    refine e_iload hm_152 rfl rfl ?_
    refine e_iload_n hm_152 rfl rfl ?_
    by_cases hc1 : x5 < x2
    · rw [if_pos hc1] at hf
      refine e_ic_f hm_152 rfl (cf_ge hc1) ?_
      refine e_aload_n hm_152 rfl rfl ?_
      refine e_iload_n hm_152 rfl rfl ?_
      refine e_iload hm_152 rfl rfl ?_
      refine e_iadd hm_152 rfl ?_
      obtain ⟨y2, hky2, hf⟩ := mm_bd hf
      refine e_virt hm_152 rfl rfl rfl rfl (Nat.le_of_ble_eq_true rfl) hm_151 rfl rfl (c_151 (x1 + x5) M hky2 ?_)
      show Ev Z _ 152 44 [some (.ref 0), some (.int x1), some (.int x2), some (.int x3), some (.int x4), some (.int x5), none] [] (mm_H y2.2) Q
      refine e_aload_n hm_152 rfl rfl ?_
      refine e_getR hm_152 rfl rfl rfl rfl ?_
      refine e_aload_n hm_152 rfl rfl ?_
      refine e_getR hm_152 rfl rfl rfl rfl ?_
      obtain ⟨y3, hky3, hf⟩ := mm_bd hf
      refine e_virt hm_152 rfl rfl rfl rfl (Nat.le_of_ble_eq_true rfl) hm_99 rfl rfl (c_99 17 y2.2 rfl hky3 ?_)
      show Ev Z _ 152 55 [some (.ref 0), some (.int x1), some (.int x2), some (.int x3), some (.int x4), some (.int x5), none] [] (mm_H y3.2) Q
      refine e_aload_n hm_152 rfl rfl ?_
      refine e_getR hm_152 rfl rfl rfl rfl ?_
      obtain ⟨y4, hky4, hf⟩ := mm_bd hf
      refine e_virt hm_152 rfl rfl rfl rfl (Nat.le_of_ble_eq_true rfl) hm_123 rfl rfl (c_123 y3.2 hky4 ?_)
      show Ev Z _ 152 62 [some (.ref 0), some (.int x1), some (.int x2), some (.int x3), some (.int x4), some (.int x5), none] [] (mm_H y4.2) Q
      refine e_aload_n hm_152 rfl rfl ?_
      refine e_getR hm_152 rfl rfl rfl rfl ?_
      obtain ⟨y5, hky5, hf⟩ := mm_bd hf
      refine e_virt hm_152 rfl rfl rfl rfl (Nat.le_of_ble_eq_true rfl) hm_126 rfl rfl (c_126 y4.2 hky5 ?_)
      show Ev Z _ 152 69 [some (.ref 0), some (.int x1), some (.int x2), some (.int x3), some (.int x4), some (.int x5), none] [.int y5.1] (mm_H y5.2) Q
      by_cases hc6 : y5.1 = (0 : Int32)
      · rw [if_pos hc6] at hf
        refine e_if_f hm_152 rfl (cf_ne hc6) ?_
        refine e_iinc (L2 := [some (.ref 0), some (.int x1), some (.int x2), some (.int x3), some (.int (x4 + (1 : Int32))), some (.int x5), none]) hm_152 rfl kc_iinc_1 rfl rfl ?_
        refine e_iinc (L2 := [some (.ref 0), some (.int x1), some (.int x2), some (.int x3), some (.int (x4 + (1 : Int32))), some (.int (x5 + (1 : Int32))), none]) hm_152 rfl kc_iinc_1 rfl rfl ?_
        refine e_goto (t := 30) hm_152 rfl rfl ?_
        exact e_forget (L' := [some (.ref 0), some (.int x1), some (.int x2), some (.int x3), some (.int (x4 + (1 : Int32))), some (.int (x5 + (1 : Int32))), none]) (lf_k (lf_k (lf_k (lf_k (lf_k (lf_k (lf_k lf_0))))))) (ih x1 x2 x3 (x4 + (1 : Int32)) (x5 + (1 : Int32)) y5.2 Q hf hq)
      · rw [if_neg hc6] at hf
        refine e_if_t (t := 75) hm_152 rfl (ct_ne hc6) rfl ?_
        refine e_iinc (L2 := [some (.ref 0), some (.int x1), some (.int x2), some (.int x3), some (.int x4), some (.int (x5 + (1 : Int32))), none]) hm_152 rfl kc_iinc_1 rfl rfl ?_
        refine e_goto (t := 30) hm_152 rfl rfl ?_
        exact e_forget (L' := [some (.ref 0), some (.int x1), some (.int x2), some (.int x3), some (.int x4), some (.int (x5 + (1 : Int32))), none]) (lf_k (lf_k (lf_k (lf_k (lf_k (lf_k (lf_k lf_0))))))) (ih x1 x2 x3 x4 (x5 + (1 : Int32)) y5.2 Q hf hq)
    · rw [if_neg hc1] at hf
      refine e_ic_t (t := 81) hm_152 rfl (ct_ge hc1) rfl ?_
      obtain rfl := Option.some.inj hf
      exact e_forget (L' := [none, none, some (.int x2), some (.int x3), some (.int x4), none, none]) (lf_d (lf_d (lf_k (lf_k (lf_k (lf_d (lf_k lf_0))))))) hq
def nb_chance (a1 : Int32) (a2 : Int32) (a3 : Int32) (M : mm_M) : Option (Int64 × mm_M) :=
  if a2 < (1 : Int32) then
    some ((-4611686018427387904 : Int64), M)
  else
    if (20 : Int32) < a2 then
      some ((-4611686018427387904 : Int64), M)
    else
      if a3 < (0 : Int32) then
        some ((-4611686018427387904 : Int64), M)
      else
        if (1 : Int32) < a3 then
          some ((-4611686018427387904 : Int64), M)
        else
          (nb_chance_l30 300 a1 a2 a3 (0 : Int32) (0 : Int32) M).bind fun y5 =>
          (nb_commonDivisor a2 y5.1 y5.2).bind fun y6 =>
          if a3 = (0 : Int32) then
            if (0 : Int32) < y6.1 then
              if ¬ y6.1 = 0 then
              some ((y5.1 / y6.1).toInt64, y6.2) else none
            else
              some ((-4611686018427387904 : Int64), y6.2)
          else
            if (0 : Int32) < y6.1 then
              if ¬ y6.1 = 0 then
              some ((a2 / y6.1).toInt64, y6.2) else none
            else
              some ((-4611686018427387904 : Int64), y6.2)
set_option maxRecDepth 20000 in
set_option maxHeartbeats 4000000 in
theorem c_152 {Z : ak_Z} {d : Nat} (a1 : Int32) (a2 : Int32) (a3 : Int32) (M : mm_M) {y : Int64 × mm_M} (hf : nb_chance a1 a2 a3 M = some y) {Q : Option Value → ak_H → Prop} (hq : Q (some (.long y.1)) (mm_H y.2)) : Ev Z (d + 6) 152 0 [some (.ref 0), some (.int a1), some (.int a2), some (.int a3), none, none, none] [] (mm_H M) Q := by
  rw [nb_chance] at hf
  refine e_iload_n hm_152 rfl rfl ?_
  refine e_iconst hm_152 rfl kc_iconst_1 ?_
  by_cases hc1 : a2 < (1 : Int32)
  · rw [if_pos hc1] at hf
    refine e_ic_t (t := 20) hm_152 rfl (ct_lt hc1) rfl ?_
    refine e_ldc2 hm_152 rfl kc_ldc2_m4611686018427387904 ?_
    obtain rfl := Option.some.inj hf
    exact e_lret hm_152 rfl rfl hq
  · rw [if_neg hc1] at hf
    refine e_ic_f hm_152 rfl (cf_lt hc1) ?_
    refine e_iload_n hm_152 rfl rfl ?_
    refine e_bipush hm_152 rfl kc_bipush_20 ?_
    by_cases hc2 : (20 : Int32) < a2
    · rw [if_pos hc2] at hf
      refine e_ic_t (t := 20) hm_152 rfl (ct_gt hc2) rfl ?_
      refine e_ldc2 hm_152 rfl kc_ldc2_m4611686018427387904 ?_
      obtain rfl := Option.some.inj hf
      exact e_lret hm_152 rfl rfl hq
    · rw [if_neg hc2] at hf
      refine e_ic_f hm_152 rfl (cf_gt hc2) ?_
      refine e_iload_n hm_152 rfl rfl ?_
      by_cases hc3 : a3 < (0 : Int32)
      · rw [if_pos hc3] at hf
        refine e_if_t (t := 20) hm_152 rfl (ct_lt hc3) rfl ?_
        refine e_ldc2 hm_152 rfl kc_ldc2_m4611686018427387904 ?_
        obtain rfl := Option.some.inj hf
        exact e_lret hm_152 rfl rfl hq
      · rw [if_neg hc3] at hf
        refine e_if_f hm_152 rfl (cf_lt hc3) ?_
        refine e_iload_n hm_152 rfl rfl ?_
        refine e_iconst hm_152 rfl kc_iconst_1 ?_
        by_cases hc4 : (1 : Int32) < a3
        · rw [if_pos hc4] at hf
          refine e_ic_f hm_152 rfl (cf_le hc4) ?_
          refine e_ldc2 hm_152 rfl kc_ldc2_m4611686018427387904 ?_
          obtain rfl := Option.some.inj hf
          exact e_lret hm_152 rfl rfl hq
        · rw [if_neg hc4] at hf
          refine e_ic_t (t := 24) hm_152 rfl (ct_le hc4) rfl ?_
          refine e_iconst hm_152 rfl kc_iconst_0 ?_
          refine e_istore (L2 := [some (.ref 0), some (.int a1), some (.int a2), some (.int a3), some (.int (0 : Int32)), none, none]) hm_152 rfl rfl ?_
          refine e_iconst hm_152 rfl kc_iconst_0 ?_
          refine e_istore (L2 := [some (.ref 0), some (.int a1), some (.int a2), some (.int a3), some (.int (0 : Int32)), some (.int (0 : Int32)), none]) hm_152 rfl rfl ?_
          obtain ⟨y5, hky5, hf⟩ := mm_bd hf
          refine e_forget (L' := [some (.ref 0), some (.int a1), some (.int a2), some (.int a3), some (.int (0 : Int32)), some (.int (0 : Int32)), none]) (lf_k (lf_k (lf_k (lf_k (lf_k (lf_k (lf_k lf_0))))))) (lc_152_30 (d := _) 300 a1 a2 a3 (0 : Int32) (0 : Int32) M Q hky5 ?_)
          show Ev Z _ 152 81 [none, none, some (.int a2), some (.int a3), some (.int y5.1), none, none] [] (mm_H y5.2) Q
          refine e_iload_n hm_152 rfl rfl ?_
          refine e_iload hm_152 rfl rfl ?_
          obtain ⟨y6, hky6, hf⟩ := mm_bd hf
          refine e_stat hm_152 rfl (by decide) rfl rfl (Nat.le_of_ble_eq_true rfl) hm_153 rfl rfl (c_153 a2 y5.1 y5.2 hky6 ?_)
          show Ev Z _ 152 87 [none, none, some (.int a2), some (.int a3), some (.int y5.1), none, none] [.int y6.1] (mm_H y6.2) Q
          refine e_istore (L2 := [none, none, some (.int a2), some (.int a3), some (.int y5.1), some (.int y6.1), none]) hm_152 rfl rfl ?_
          refine e_iload_n hm_152 rfl rfl ?_
          by_cases hc7 : a3 = (0 : Int32)
          · rw [if_pos hc7] at hf
            refine e_if_f hm_152 rfl (cf_ne hc7) ?_
            refine e_iload hm_152 rfl rfl ?_
            refine e_goto (t := 99) hm_152 rfl rfl ?_
            refine e_istore (L2 := [none, none, some (.int a2), some (.int a3), some (.int y5.1), some (.int y6.1), some (.int y5.1)]) hm_152 rfl rfl ?_
            refine e_iload hm_152 rfl rfl ?_
            by_cases hc8 : (0 : Int32) < y6.1
            · rw [if_pos hc8] at hf
              refine e_if_f hm_152 rfl (cf_le hc8) ?_
              refine e_iload hm_152 rfl rfl ?_
              refine e_iload hm_152 rfl rfl ?_
              obtain ⟨hg9, hf⟩ := mm_ite hf
              refine e_idiv hm_152 rfl hg9 ?_
              refine e_i2l hm_152 rfl ?_
              refine e_goto (t := 118) hm_152 rfl rfl ?_
              obtain rfl := Option.some.inj hf
              exact e_lret hm_152 rfl rfl hq
            · rw [if_neg hc8] at hf
              refine e_if_t (t := 115) hm_152 rfl (ct_le hc8) rfl ?_
              refine e_ldc2 hm_152 rfl kc_ldc2_m4611686018427387904 ?_
              obtain rfl := Option.some.inj hf
              exact e_lret hm_152 rfl rfl hq
          · rw [if_neg hc7] at hf
            refine e_if_t (t := 98) hm_152 rfl (ct_ne hc7) rfl ?_
            refine e_iload_n hm_152 rfl rfl ?_
            refine e_istore (L2 := [none, none, some (.int a2), some (.int a3), some (.int y5.1), some (.int y6.1), some (.int a2)]) hm_152 rfl rfl ?_
            refine e_iload hm_152 rfl rfl ?_
            by_cases hc10 : (0 : Int32) < y6.1
            · rw [if_pos hc10] at hf
              refine e_if_f hm_152 rfl (cf_le hc10) ?_
              refine e_iload hm_152 rfl rfl ?_
              refine e_iload hm_152 rfl rfl ?_
              obtain ⟨hg11, hf⟩ := mm_ite hf
              refine e_idiv hm_152 rfl hg11 ?_
              refine e_i2l hm_152 rfl ?_
              refine e_goto (t := 118) hm_152 rfl rfl ?_
              obtain rfl := Option.some.inj hf
              exact e_lret hm_152 rfl rfl hq
            · rw [if_neg hc10] at hf
              refine e_if_t (t := 115) hm_152 rfl (ct_le hc10) rfl ?_
              refine e_ldc2 hm_152 rfl kc_ldc2_m4611686018427387904 ?_
              obtain rfl := Option.some.inj hf
              exact e_lret hm_152 rfl rfl hq
def nb_image (M : mm_M) : Option (Int32 × mm_M) :=
  (sh_become 9 1 M).bind fun y1 =>
  some ((ak_up y1.2.1 0 3 (1 : Int32)) 1 4, (ak_up y1.2.1 0 3 (1 : Int32), y1.2.2))
set_option maxRecDepth 20000 in
set_option maxHeartbeats 4000000 in
theorem c_154 {Z : ak_Z} {d : Nat} (M : mm_M) {y : Int32 × mm_M} (hf : nb_image M = some y) {Q : Option Value → ak_H → Prop} (hq : Q (some (.int y.1)) (mm_H y.2)) : Ev Z (d + 1) 154 0 [some (.ref 0)] [] (mm_H M) Q := by
  rw [nb_image] at hf
  refine e_aload_n hm_154 rfl rfl ?_
  refine e_getR hm_154 rfl rfl rfl rfl ?_
  refine e_aload_n hm_154 rfl rfl ?_
  refine e_getR hm_154 rfl rfl rfl rfl ?_
  obtain ⟨y1, hky1, hf⟩ := mm_bd hf
  refine e_virt hm_154 rfl rfl rfl rfl (Nat.le_of_ble_eq_true rfl) hm_138 rfl rfl (c_138 9 1 M rfl rfl hky1 ?_)
  show Ev Z _ 154 11 [some (.ref 0)] [] (mm_H y1.2) Q
  refine e_aload_n hm_154 rfl rfl ?_
  refine e_iconst hm_154 rfl kc_iconst_1 ?_
  refine e_putZ hm_154 rfl rfl rfl (by decide) ?_
  refine e_aload_n hm_154 rfl rfl ?_
  refine e_getR hm_154 rfl rfl rfl rfl ?_
  refine e_getI hm_154 rfl rfl rfl ?_
  obtain rfl := Option.some.inj hf
  exact e_iret hm_154 rfl rfl hq
def nb_back (M : mm_M) : Option (Int32 × mm_M) :=
  if (M.1 0 3) = (0 : Int32) then
    some ((-3 : Int32), M)
  else
    (sh_become 1 9 M).bind fun y2 =>
    some (y2.2.1 1 4, y2.2)
set_option maxRecDepth 20000 in
set_option maxHeartbeats 4000000 in
theorem c_155 {Z : ak_Z} {d : Nat} (M : mm_M) {y : Int32 × mm_M} (hf : nb_back M = some y) {Q : Option Value → ak_H → Prop} (hq : Q (some (.int y.1)) (mm_H y.2)) : Ev Z (d + 1) 155 0 [some (.ref 0)] [] (mm_H M) Q := by
  rw [nb_back] at hf
  refine e_aload_n hm_155 rfl rfl ?_
  refine e_getZ hm_155 rfl rfl rfl ?_
  by_cases hc1 : (M.1 0 3) = (0 : Int32)
  · rw [if_pos hc1] at hf
    refine e_if_f hm_155 rfl (cf_ne hc1) ?_
    refine e_bipush hm_155 rfl kc_bipush_m3 ?_
    obtain rfl := Option.some.inj hf
    exact e_iret hm_155 rfl rfl hq
  · rw [if_neg hc1] at hf
    refine e_if_t (t := 10) hm_155 rfl (ct_ne hc1) rfl ?_
    refine e_aload_n hm_155 rfl rfl ?_
    refine e_getR hm_155 rfl rfl rfl rfl ?_
    refine e_aload_n hm_155 rfl rfl ?_
    refine e_getR hm_155 rfl rfl rfl rfl ?_
    obtain ⟨y2, hky2, hf⟩ := mm_bd hf
    refine e_virt hm_155 rfl rfl rfl rfl (Nat.le_of_ble_eq_true rfl) hm_138 rfl rfl (c_138 1 9 M rfl rfl hky2 ?_)
    show Ev Z _ 155 21 [some (.ref 0)] [] (mm_H y2.2) Q
    refine e_aload_n hm_155 rfl rfl ?_
    refine e_getR hm_155 rfl rfl rfl rfl ?_
    refine e_getI hm_155 rfl rfl rfl ?_
    obtain rfl := Option.some.inj hf
    exact e_iret hm_155 rfl rfl hq
def sh_booked_l4 : Nat → Nat → Int32 → Int32 → mm_M → Option (((Int32) × mm_M))
  | 0, _, _, _, _ => none
  | n + 1, x0, x1, x2, M =>
    if x2 < (M.1 x0 4) then
      if ak_inb x2 4 = true then
      if (M.1 (x0 + 6) x2.toNatClampNeg) = (-1 : Int32) then
        sh_booked_l4 n x0 (x1 + (0 : Int32)) (x2 + (1 : Int32)) M
      else
        sh_booked_l4 n x0 (x1 + (1 : Int32)) (x2 + (1 : Int32)) M else none
    else
      some (x1, M)
set_option maxRecDepth 20000 in
set_option maxHeartbeats 4000000 in
theorem lc_157_4 {Z : ak_Z} {d : Nat} : ∀ (n : Nat) (x0 : Nat) (x1 : Int32) (x2 : Int32) (M : mm_M) (hx0 : mm_is8 x0 = true) {y : ((Int32) × mm_M)} (Q : Option Value → ak_H → Prop), sh_booked_l4 n x0 x1 x2 M = some y → (Ev Z (d + 0) 157 36 [none, some (.int y.1), none] [] (mm_H y.2) Q) → Ev Z (d + 0) 157 4 [some (.ref x0), some (.int x1), some (.int x2)] [] (mm_H M) Q := by
  intro n
  induction n with
  | zero => intro x0 x1 x2 M hx0 y Q hf; cases hf
  | succ n ih =>
    intro x0 x1 x2 M hx0 y Q hf hq
    rw [sh_booked_l4] at hf
    refine e_iload_n hm_157 rfl rfl ?_
    refine e_aload_n hm_157 rfl rfl ?_
    refine e_getI hm_157 rfl (mm_cl8 hx0) rfl ?_
    by_cases hc1 : x2 < (M.1 x0 4)
    · rw [if_pos hc1] at hf
      refine e_ic_f hm_157 rfl (cf_ge hc1) ?_
      refine e_iload_n hm_157 rfl rfl ?_
      refine e_aload_n hm_157 rfl rfl ?_
      refine e_getR hm_157 rfl (mm_cl8 hx0) rfl (mm_rf8_10 hx0) ?_
      refine e_iload_n hm_157 rfl rfl ?_
      obtain ⟨hi2, hf⟩ := mm_ite hf
      refine e_iald hm_157 rfl (mm_ar8_10 hx0) hi2 ?_
      refine e_iconst hm_157 rfl kc_iconst_m1 ?_
      by_cases hc3 : (M.1 (x0 + 6) x2.toNatClampNeg) = (-1 : Int32)
      · rw [if_pos hc3] at hf
        refine e_ic_t (t := 27) hm_157 rfl (ct_eq hc3) rfl ?_
        refine e_iconst hm_157 rfl kc_iconst_0 ?_
        refine e_iadd hm_157 rfl ?_
        refine e_istore_n (L2 := [some (.ref x0), some (.int (x1 + (0 : Int32))), some (.int x2)]) hm_157 rfl rfl ?_
        refine e_iinc (L2 := [some (.ref x0), some (.int (x1 + (0 : Int32))), some (.int (x2 + (1 : Int32)))]) hm_157 rfl kc_iinc_1 rfl rfl ?_
        refine e_goto (t := 4) hm_157 rfl rfl ?_
        exact e_forget (L' := [some (.ref x0), some (.int (x1 + (0 : Int32))), some (.int (x2 + (1 : Int32)))]) (lf_k (lf_k (lf_k lf_0))) (ih x0 (x1 + (0 : Int32)) (x2 + (1 : Int32)) M hx0 Q hf hq)
      · rw [if_neg hc3] at hf
        refine e_ic_f hm_157 rfl (cf_eq hc3) ?_
        refine e_iconst hm_157 rfl kc_iconst_1 ?_
        refine e_goto (t := 28) hm_157 rfl rfl ?_
        refine e_iadd hm_157 rfl ?_
        refine e_istore_n (L2 := [some (.ref x0), some (.int (x1 + (1 : Int32))), some (.int x2)]) hm_157 rfl rfl ?_
        refine e_iinc (L2 := [some (.ref x0), some (.int (x1 + (1 : Int32))), some (.int (x2 + (1 : Int32)))]) hm_157 rfl kc_iinc_1 rfl rfl ?_
        refine e_goto (t := 4) hm_157 rfl rfl ?_
        exact e_forget (L' := [some (.ref x0), some (.int (x1 + (1 : Int32))), some (.int (x2 + (1 : Int32)))]) (lf_k (lf_k (lf_k lf_0))) (ih x0 (x1 + (1 : Int32)) (x2 + (1 : Int32)) M hx0 Q hf hq)
    · rw [if_neg hc1] at hf
      refine e_ic_t (t := 36) hm_157 rfl (ct_ge hc1) rfl ?_
      obtain rfl := Option.some.inj hf
      exact e_forget (L' := [none, some (.int x1), none]) (lf_d (lf_k (lf_d lf_0))) hq
def sh_booked (t : Nat) (M : mm_M) : Option (Int32 × mm_M) :=
  (sh_booked_l4 300 t (0 : Int32) (0 : Int32) M).bind fun y1 =>
  some (y1.1, y1.2)
set_option maxRecDepth 20000 in
set_option maxHeartbeats 4000000 in
theorem c_157 {Z : ak_Z} {d : Nat} (t : Nat) (M : mm_M) (ht : mm_is8 t = true) {y : Int32 × mm_M} (hf : sh_booked t M = some y) {Q : Option Value → ak_H → Prop} (hq : Q (some (.int y.1)) (mm_H y.2)) : Ev Z (d + 0) 157 0 [some (.ref t), none, none] [] (mm_H M) Q := by
  rw [sh_booked] at hf
  refine e_iconst hm_157 rfl kc_iconst_0 ?_
  refine e_istore_n (L2 := [some (.ref t), some (.int (0 : Int32)), none]) hm_157 rfl rfl ?_
  refine e_iconst hm_157 rfl kc_iconst_0 ?_
  refine e_istore_n (L2 := [some (.ref t), some (.int (0 : Int32)), some (.int (0 : Int32))]) hm_157 rfl rfl ?_
  obtain ⟨y1, hky1, hf⟩ := mm_bd hf
  refine e_forget (L' := [some (.ref t), some (.int (0 : Int32)), some (.int (0 : Int32))]) (lf_k (lf_k (lf_k lf_0))) (lc_157_4 (d := _) 300 t (0 : Int32) (0 : Int32) M ht Q hky1 ?_)
  show Ev Z _ 157 36 [none, some (.int y1.1), none] [] (mm_H y1.2) Q
  refine e_iload_n hm_157 rfl rfl ?_
  obtain rfl := Option.some.inj hf
  exact e_iret hm_157 rfl rfl hq
def sh_twosApart_l4 : Nat → Nat → Int32 → Int32 → mm_M → Option (((Int32) × mm_M))
  | 0, _, _, _, _ => none
  | n + 1, x0, x1, x2, M =>
    if x2 < (M.1 x0 4) then
      if ak_inb x2 4 = true then
      (ji_bitCount (M.1 (x0 + 7) x2.toNatClampNeg) M).bind fun y3 =>
      sh_twosApart_l4 n x0 (x1 + y3.1) (x2 + (1 : Int32)) y3.2 else none
    else
      some (x1, M)
set_option maxRecDepth 20000 in
set_option maxHeartbeats 4000000 in
theorem lc_158_4 {Z : ak_Z} {d : Nat} : ∀ (n : Nat) (x0 : Nat) (x1 : Int32) (x2 : Int32) (M : mm_M) (hx0 : mm_is8 x0 = true) {y : ((Int32) × mm_M)} (Q : Option Value → ak_H → Prop), sh_twosApart_l4 n x0 x1 x2 M = some y → (Ev Z (d + 1) 158 30 [none, some (.int y.1), none] [] (mm_H y.2) Q) → Ev Z (d + 1) 158 4 [some (.ref x0), some (.int x1), some (.int x2)] [] (mm_H M) Q := by
  intro n
  induction n with
  | zero => intro x0 x1 x2 M hx0 y Q hf; cases hf
  | succ n ih =>
    intro x0 x1 x2 M hx0 y Q hf hq
    rw [sh_twosApart_l4] at hf
    refine e_iload_n hm_158 rfl rfl ?_
    refine e_aload_n hm_158 rfl rfl ?_
    refine e_getI hm_158 rfl (mm_cl8 hx0) rfl ?_
    by_cases hc1 : x2 < (M.1 x0 4)
    · rw [if_pos hc1] at hf
      refine e_ic_f hm_158 rfl (cf_ge hc1) ?_
      refine e_iload_n hm_158 rfl rfl ?_
      refine e_aload_n hm_158 rfl rfl ?_
      refine e_getR hm_158 rfl (mm_cl8 hx0) rfl (mm_rf8_11 hx0) ?_
      refine e_iload_n hm_158 rfl rfl ?_
      obtain ⟨hi2, hf⟩ := mm_ite hf
      refine e_iald hm_158 rfl (mm_ar8_11 hx0) hi2 ?_
      obtain ⟨y3, hky3, hf⟩ := mm_bd hf
      refine e_stat hm_158 rfl (by decide) rfl rfl (Nat.le_of_ble_eq_true rfl) hm_101 rfl rfl (c_101 (M.1 (x0 + 7) x2.toNatClampNeg) M hky3 ?_)
      show Ev Z _ 158 22 [some (.ref x0), some (.int x1), some (.int x2)] [.int y3.1, .int x1] (mm_H y3.2) Q
      refine e_iadd hm_158 rfl ?_
      refine e_istore_n (L2 := [some (.ref x0), some (.int (x1 + y3.1)), some (.int x2)]) hm_158 rfl rfl ?_
      refine e_iinc (L2 := [some (.ref x0), some (.int (x1 + y3.1)), some (.int (x2 + (1 : Int32)))]) hm_158 rfl kc_iinc_1 rfl rfl ?_
      refine e_goto (t := 4) hm_158 rfl rfl ?_
      exact e_forget (L' := [some (.ref x0), some (.int (x1 + y3.1)), some (.int (x2 + (1 : Int32)))]) (lf_k (lf_k (lf_k lf_0))) (ih x0 (x1 + y3.1) (x2 + (1 : Int32)) y3.2 hx0 Q hf hq)
    · rw [if_neg hc1] at hf
      refine e_ic_t (t := 30) hm_158 rfl (ct_ge hc1) rfl ?_
      obtain rfl := Option.some.inj hf
      exact e_forget (L' := [none, some (.int x1), none]) (lf_d (lf_k (lf_d lf_0))) hq
def sh_twosApart (t : Nat) (M : mm_M) : Option (Int32 × mm_M) :=
  (sh_twosApart_l4 300 t (0 : Int32) (0 : Int32) M).bind fun y1 =>
  some (y1.1 / (2 : Int32), y1.2)
set_option maxRecDepth 20000 in
set_option maxHeartbeats 4000000 in
theorem c_158 {Z : ak_Z} {d : Nat} (t : Nat) (M : mm_M) (ht : mm_is8 t = true) {y : Int32 × mm_M} (hf : sh_twosApart t M = some y) {Q : Option Value → ak_H → Prop} (hq : Q (some (.int y.1)) (mm_H y.2)) : Ev Z (d + 1) 158 0 [some (.ref t), none, none] [] (mm_H M) Q := by
  rw [sh_twosApart] at hf
  refine e_iconst hm_158 rfl kc_iconst_0 ?_
  refine e_istore_n (L2 := [some (.ref t), some (.int (0 : Int32)), none]) hm_158 rfl rfl ?_
  refine e_iconst hm_158 rfl kc_iconst_0 ?_
  refine e_istore_n (L2 := [some (.ref t), some (.int (0 : Int32)), some (.int (0 : Int32))]) hm_158 rfl rfl ?_
  obtain ⟨y1, hky1, hf⟩ := mm_bd hf
  refine e_forget (L' := [some (.ref t), some (.int (0 : Int32)), some (.int (0 : Int32))]) (lf_k (lf_k (lf_k lf_0))) (lc_158_4 (d := _) 300 t (0 : Int32) (0 : Int32) M ht Q hky1 ?_)
  show Ev Z _ 158 30 [none, some (.int y1.1), none] [] (mm_H y1.2) Q
  refine e_iload_n hm_158 rfl rfl ?_
  refine e_iconst hm_158 rfl kc_iconst_2 ?_
  refine e_idiv hm_158 rfl (by decide) ?_
  obtain rfl := Option.some.inj hf
  exact e_iret hm_158 rfl rfl hq
def nb_count (a1 : Int32) (M : mm_M) : Option (Int32 × mm_M) :=
  if a1 = (0 : Int32) then
    some (M.1 1 4, M)
  else if a1 = (1 : Int32) then
      (sh_booked 1 M).bind fun y3 =>
      some (y3.1, y3.2)
    else if a1 = (2 : Int32) then
        (sh_twosApart 1 M).bind fun y5 =>
        some (y5.1, y5.2)
      else if a1 = (3 : Int32) then
          (sh_pointsOfAll 1 M).bind fun y7 =>
          some (y7.1, y7.2)
        else if a1 = (4 : Int32) then
            some (M.1 26 0, M)
          else if a1 = (5 : Int32) then
              some (M.1 0 5, M)
            else if a1 = (6 : Int32) then
                some (M.1 1 3, M)
              else some ((-2 : Int32), M)
set_option maxRecDepth 20000 in
set_option maxHeartbeats 4000000 in
theorem c_156 {Z : ak_Z} {d : Nat} (a1 : Int32) (M : mm_M) {y : Int32 × mm_M} (hf : nb_count a1 M = some y) {Q : Option Value → ak_H → Prop} (hq : Q (some (.int y.1)) (mm_H y.2)) : Ev Z (d + 2) 156 0 [some (.ref 0), some (.int a1)] [] (mm_H M) Q := by
  rw [nb_count] at hf
  refine e_iload_n hm_156 rfl rfl ?_
  by_cases hc1 : a1 = (0 : Int32)
  · rw [if_pos hc1] at hf
    refine e_tsw (t := 44) hm_156 rfl (by rw [hc1]; rfl) ?_
    refine e_aload_n hm_156 rfl rfl ?_
    refine e_getR hm_156 rfl rfl rfl rfl ?_
    refine e_getI hm_156 rfl rfl rfl ?_
    obtain rfl := Option.some.inj hf
    exact e_iret hm_156 rfl rfl hq
  · rw [if_neg hc1] at hf
    by_cases hc2 : a1 = (1 : Int32)
    · rw [if_pos hc2] at hf
      refine e_tsw (t := 52) hm_156 rfl (by rw [hc2]; rfl) ?_
      refine e_aload_n hm_156 rfl rfl ?_
      refine e_getR hm_156 rfl rfl rfl rfl ?_
      obtain ⟨y3, hky3, hf⟩ := mm_bd hf
      refine e_virt hm_156 rfl rfl rfl rfl (Nat.le_of_ble_eq_true rfl) hm_157 rfl rfl (c_157 1 M rfl hky3 ?_)
      show Ev Z _ 156 59 [some (.ref 0), some (.int a1)] [.int y3.1] (mm_H y3.2) Q
      obtain rfl := Option.some.inj hf
      exact e_iret hm_156 rfl rfl hq
    · rw [if_neg hc2] at hf
      by_cases hc4 : a1 = (2 : Int32)
      · rw [if_pos hc4] at hf
        refine e_tsw (t := 60) hm_156 rfl (by rw [hc4]; rfl) ?_
        refine e_aload_n hm_156 rfl rfl ?_
        refine e_getR hm_156 rfl rfl rfl rfl ?_
        obtain ⟨y5, hky5, hf⟩ := mm_bd hf
        refine e_virt hm_156 rfl rfl rfl rfl (Nat.le_of_ble_eq_true rfl) hm_158 rfl rfl (c_158 1 M rfl hky5 ?_)
        show Ev Z _ 156 67 [some (.ref 0), some (.int a1)] [.int y5.1] (mm_H y5.2) Q
        obtain rfl := Option.some.inj hf
        exact e_iret hm_156 rfl rfl hq
      · rw [if_neg hc4] at hf
        by_cases hc6 : a1 = (3 : Int32)
        · rw [if_pos hc6] at hf
          refine e_tsw (t := 68) hm_156 rfl (by rw [hc6]; rfl) ?_
          refine e_aload_n hm_156 rfl rfl ?_
          refine e_getR hm_156 rfl rfl rfl rfl ?_
          obtain ⟨y7, hky7, hf⟩ := mm_bd hf
          refine e_virt hm_156 rfl rfl rfl rfl (Nat.le_of_ble_eq_true rfl) hm_111 rfl rfl (c_111 1 M rfl hky7 ?_)
          show Ev Z _ 156 75 [some (.ref 0), some (.int a1)] [.int y7.1] (mm_H y7.2) Q
          obtain rfl := Option.some.inj hf
          exact e_iret hm_156 rfl rfl hq
        · rw [if_neg hc6] at hf
          by_cases hc8 : a1 = (4 : Int32)
          · rw [if_pos hc8] at hf
            refine e_tsw (t := 76) hm_156 rfl (by rw [hc8]; rfl) ?_
            refine e_aload_n hm_156 rfl rfl ?_
            refine e_getR hm_156 rfl rfl rfl rfl ?_
            refine e_getI hm_156 rfl rfl rfl ?_
            obtain rfl := Option.some.inj hf
            exact e_iret hm_156 rfl rfl hq
          · rw [if_neg hc8] at hf
            by_cases hc9 : a1 = (5 : Int32)
            · rw [if_pos hc9] at hf
              refine e_tsw (t := 84) hm_156 rfl (by rw [hc9]; rfl) ?_
              refine e_aload_n hm_156 rfl rfl ?_
              refine e_getI hm_156 rfl rfl rfl ?_
              obtain rfl := Option.some.inj hf
              exact e_iret hm_156 rfl rfl hq
            · rw [if_neg hc9] at hf
              by_cases hc10 : a1 = (6 : Int32)
              · rw [if_pos hc10] at hf
                refine e_tsw (t := 89) hm_156 rfl (by rw [hc10]; rfl) ?_
                refine e_aload_n hm_156 rfl rfl ?_
                refine e_getR hm_156 rfl rfl rfl rfl ?_
                refine e_getI hm_156 rfl rfl rfl ?_
                obtain rfl := Option.some.inj hf
                exact e_iret hm_156 rfl rfl hq
              · rw [if_neg hc10] at hf
                have khc1 := i32_ne hc1
                have khc2 := i32_ne hc2
                have khc4 := i32_ne hc4
                have khc6 := i32_ne hc6
                have khc8 := i32_ne hc8
                have khc9 := i32_ne hc9
                have khc10 := i32_ne hc10
                rw [show ((0 : Int32) : Int32).toInt = 0 from rfl] at khc1
                rw [show ((1 : Int32) : Int32).toInt = 1 from rfl] at khc2
                rw [show ((2 : Int32) : Int32).toInt = 2 from rfl] at khc4
                rw [show ((3 : Int32) : Int32).toInt = 3 from rfl] at khc6
                rw [show ((4 : Int32) : Int32).toInt = 4 from rfl] at khc8
                rw [show ((5 : Int32) : Int32).toInt = 5 from rfl] at khc9
                rw [show ((6 : Int32) : Int32).toInt = 6 from rfl] at khc10
                refine e_tsw (t := 97) hm_156 rfl (tsw_out (by omega) rfl) ?_
                refine e_bipush hm_156 rfl kc_bipush_m2 ?_
                obtain rfl := Option.some.inj hf
                exact e_iret hm_156 rfl rfl hq
def st_isSort (a1 : Int32) (M : mm_M) : Option (Int32 × mm_M) :=
  if a1 < (0 : Int32) then
    some ((0 : Int32), M)
  else
    if (2 : Int32) < a1 then
      some ((0 : Int32), M)
    else
      some ((1 : Int32), M)
set_option maxRecDepth 20000 in
set_option maxHeartbeats 4000000 in
theorem c_160 {Z : ak_Z} {d : Nat} (a1 : Int32) (M : mm_M) {y : Int32 × mm_M} (hf : st_isSort a1 M = some y) {Q : Option Value → ak_H → Prop} (hq : Q (some (.int y.1)) (mm_H y.2)) : Ev Z (d + 0) 160 0 [some (.int a1)] [] (mm_H M) Q := by
  rw [st_isSort] at hf
  refine e_iload_n hm_160 rfl rfl ?_
  by_cases hc1 : a1 < (0 : Int32)
  · rw [if_pos hc1] at hf
    refine e_if_t (t := 13) hm_160 rfl (ct_lt hc1) rfl ?_
    refine e_iconst hm_160 rfl kc_iconst_0 ?_
    obtain rfl := Option.some.inj hf
    exact e_zret hm_160 rfl rfl (by decide) hq
  · rw [if_neg hc1] at hf
    refine e_if_f hm_160 rfl (cf_lt hc1) ?_
    refine e_iload_n hm_160 rfl rfl ?_
    refine e_iconst hm_160 rfl kc_iconst_2 ?_
    by_cases hc2 : (2 : Int32) < a1
    · rw [if_pos hc2] at hf
      refine e_ic_t (t := 13) hm_160 rfl (ct_gt hc2) rfl ?_
      refine e_iconst hm_160 rfl kc_iconst_0 ?_
      obtain rfl := Option.some.inj hf
      exact e_zret hm_160 rfl rfl (by decide) hq
    · rw [if_neg hc2] at hf
      refine e_ic_f hm_160 rfl (cf_gt hc2) ?_
      refine e_iconst hm_160 rfl kc_iconst_1 ?_
      refine e_goto (t := 14) hm_160 rfl rfl ?_
      obtain rfl := Option.some.inj hf
      exact e_zret hm_160 rfl rfl (by decide) hq
def nb_sheet (a1 : Int32) (a2 : Int32) (a3 : Int32) (M : mm_M) : Option (Int32 × mm_M) :=
  (nb_isSheet a1 M).bind fun y1 =>
  if y1.1 = (0 : Int32) then
    some ((-2 : Int32), y1.2)
  else
    if a2 = (-1 : Int32) then
      if a2 = (-1 : Int32) then
        if ak_inb a1 4 = true then
        (st_lay (65 + 2 * a1.toNatClampNeg) (-1 : Int32) (0 : Int32) y1.2).bind fun y6 =>
        some ((1 : Int32), y6.2) else none
      else
        if (40 : Int32) < a3 then
          some ((-2 : Int32), y1.2)
        else
          if a3 < (0 : Int32) then
            some ((-14 : Int32), y1.2)
          else
            if ak_inb a1 4 = true then
            (st_lay (65 + 2 * a1.toNatClampNeg) a2 a3 y1.2).bind fun y10 =>
            some ((1 : Int32), y10.2) else none
    else
      (st_isSort a2 y1.2).bind fun y11 =>
      if y11.1 = (0 : Int32) then
        some ((-2 : Int32), y11.2)
      else
        if a2 = (-1 : Int32) then
          if ak_inb a1 4 = true then
          (st_lay (65 + 2 * a1.toNatClampNeg) (-1 : Int32) (0 : Int32) y11.2).bind fun y15 =>
          some ((1 : Int32), y15.2) else none
        else
          if (40 : Int32) < a3 then
            some ((-2 : Int32), y11.2)
          else
            if a3 < (0 : Int32) then
              some ((-14 : Int32), y11.2)
            else
              if ak_inb a1 4 = true then
              (st_lay (65 + 2 * a1.toNatClampNeg) a2 a3 y11.2).bind fun y19 =>
              some ((1 : Int32), y19.2) else none
set_option maxRecDepth 20000 in
set_option maxHeartbeats 4000000 in
theorem c_159 {Z : ak_Z} {d : Nat} (a1 : Int32) (a2 : Int32) (a3 : Int32) (M : mm_M) {y : Int32 × mm_M} (hf : nb_sheet a1 a2 a3 M = some y) {Q : Option Value → ak_H → Prop} (hq : Q (some (.int y.1)) (mm_H y.2)) : Ev Z (d + 2) 159 0 [some (.ref 0), some (.int a1), some (.int a2), some (.int a3)] [] (mm_H M) Q := by
  rw [nb_sheet] at hf
  refine e_iload_n hm_159 rfl rfl ?_
  obtain ⟨y1, hky1, hf⟩ := mm_bd hf
  refine e_stat hm_159 rfl (by decide) rfl rfl (Nat.le_of_ble_eq_true rfl) hm_136 rfl rfl (c_136 a1 M hky1 ?_)
  show Ev Z _ 159 4 [some (.ref 0), some (.int a1), some (.int a2), some (.int a3)] [.int y1.1] (mm_H y1.2) Q
  by_cases hc2 : y1.1 = (0 : Int32)
  · rw [if_pos hc2] at hf
    refine e_if_t (t := 19) hm_159 rfl (ct_eq hc2) rfl ?_
    refine e_bipush hm_159 rfl kc_bipush_m2 ?_
    obtain rfl := Option.some.inj hf
    exact e_iret hm_159 rfl rfl hq
  · rw [if_neg hc2] at hf
    refine e_if_f hm_159 rfl (cf_eq hc2) ?_
    refine e_iload_n hm_159 rfl rfl ?_
    refine e_iconst hm_159 rfl kc_iconst_m1 ?_
    by_cases hc3 : a2 = (-1 : Int32)
    · rw [if_pos hc3] at hf
      refine e_ic_t (t := 22) hm_159 rfl (ct_eq hc3) rfl ?_
      refine e_iload_n hm_159 rfl rfl ?_
      refine e_iconst hm_159 rfl kc_iconst_m1 ?_
      by_cases hc4 : a2 = (-1 : Int32)
      · rw [if_pos hc4] at hf
        refine e_ic_f hm_159 rfl (cf_ne hc4) ?_
        refine e_aload_n hm_159 rfl rfl ?_
        refine e_getR hm_159 rfl rfl rfl rfl ?_
        refine e_iload_n hm_159 rfl rfl ?_
        obtain ⟨hi5, hf⟩ := mm_ite hf
        refine e_aald hm_159 rfl rfl rfl hi5 (mm_el_sh hi5) ?_
        refine e_iconst hm_159 rfl kc_iconst_m1 ?_
        refine e_iconst hm_159 rfl kc_iconst_0 ?_
        obtain ⟨y6, hky6, hf⟩ := mm_bd hf
        refine e_virt hm_159 rfl rfl rfl (mm_cl7 (mm_ei_sh hi5)) (Nat.le_of_ble_eq_true rfl) hm_147 rfl rfl (c_147 (65 + 2 * a1.toNatClampNeg) (-1 : Int32) (0 : Int32) y1.2 (mm_ei_sh hi5) hky6 ?_)
        show Ev Z _ 159 38 [some (.ref 0), some (.int a1), some (.int a2), some (.int a3)] [] (mm_H y6.2) Q
        refine e_iconst hm_159 rfl kc_iconst_1 ?_
        obtain rfl := Option.some.inj hf
        exact e_iret hm_159 rfl rfl hq
      · rw [if_neg hc4] at hf
        refine e_ic_t (t := 40) hm_159 rfl (ct_ne hc4) rfl ?_
        refine e_iload_n hm_159 rfl rfl ?_
        refine e_bipush hm_159 rfl kc_bipush_40 ?_
        by_cases hc7 : (40 : Int32) < a3
        · rw [if_pos hc7] at hf
          refine e_ic_f hm_159 rfl (cf_le hc7) ?_
          refine e_bipush hm_159 rfl kc_bipush_m2 ?_
          obtain rfl := Option.some.inj hf
          exact e_iret hm_159 rfl rfl hq
        · rw [if_neg hc7] at hf
          refine e_ic_t (t := 49) hm_159 rfl (ct_le hc7) rfl ?_
          refine e_iload_n hm_159 rfl rfl ?_
          by_cases hc8 : a3 < (0 : Int32)
          · rw [if_pos hc8] at hf
            refine e_if_f hm_159 rfl (cf_ge hc8) ?_
            refine e_bipush hm_159 rfl kc_bipush_m14 ?_
            obtain rfl := Option.some.inj hf
            exact e_iret hm_159 rfl rfl hq
          · rw [if_neg hc8] at hf
            refine e_if_t (t := 56) hm_159 rfl (ct_ge hc8) rfl ?_
            refine e_aload_n hm_159 rfl rfl ?_
            refine e_getR hm_159 rfl rfl rfl rfl ?_
            refine e_iload_n hm_159 rfl rfl ?_
            obtain ⟨hi9, hf⟩ := mm_ite hf
            refine e_aald hm_159 rfl rfl rfl hi9 (mm_el_sh hi9) ?_
            refine e_iload_n hm_159 rfl rfl ?_
            refine e_iload_n hm_159 rfl rfl ?_
            obtain ⟨y10, hky10, hf⟩ := mm_bd hf
            refine e_virt hm_159 rfl rfl rfl (mm_cl7 (mm_ei_sh hi9)) (Nat.le_of_ble_eq_true rfl) hm_147 rfl rfl (c_147 (65 + 2 * a1.toNatClampNeg) a2 a3 y1.2 (mm_ei_sh hi9) hky10 ?_)
            show Ev Z _ 159 67 [some (.ref 0), some (.int a1), some (.int a2), some (.int a3)] [] (mm_H y10.2) Q
            refine e_iconst hm_159 rfl kc_iconst_1 ?_
            obtain rfl := Option.some.inj hf
            exact e_iret hm_159 rfl rfl hq
    · rw [if_neg hc3] at hf
      refine e_ic_f hm_159 rfl (cf_eq hc3) ?_
      refine e_iload_n hm_159 rfl rfl ?_
      obtain ⟨y11, hky11, hf⟩ := mm_bd hf
      refine e_stat hm_159 rfl (by decide) rfl rfl (Nat.le_of_ble_eq_true rfl) hm_160 rfl rfl (c_160 a2 y1.2 hky11 ?_)
      show Ev Z _ 159 16 [some (.ref 0), some (.int a1), some (.int a2), some (.int a3)] [.int y11.1] (mm_H y11.2) Q
      by_cases hc12 : y11.1 = (0 : Int32)
      · rw [if_pos hc12] at hf
        refine e_if_f hm_159 rfl (cf_ne hc12) ?_
        refine e_bipush hm_159 rfl kc_bipush_m2 ?_
        obtain rfl := Option.some.inj hf
        exact e_iret hm_159 rfl rfl hq
      · rw [if_neg hc12] at hf
        refine e_if_t (t := 22) hm_159 rfl (ct_ne hc12) rfl ?_
        refine e_iload_n hm_159 rfl rfl ?_
        refine e_iconst hm_159 rfl kc_iconst_m1 ?_
        by_cases hc13 : a2 = (-1 : Int32)
        · rw [if_pos hc13] at hf
          refine e_ic_f hm_159 rfl (cf_ne hc13) ?_
          refine e_aload_n hm_159 rfl rfl ?_
          refine e_getR hm_159 rfl rfl rfl rfl ?_
          refine e_iload_n hm_159 rfl rfl ?_
          obtain ⟨hi14, hf⟩ := mm_ite hf
          refine e_aald hm_159 rfl rfl rfl hi14 (mm_el_sh hi14) ?_
          refine e_iconst hm_159 rfl kc_iconst_m1 ?_
          refine e_iconst hm_159 rfl kc_iconst_0 ?_
          obtain ⟨y15, hky15, hf⟩ := mm_bd hf
          refine e_virt hm_159 rfl rfl rfl (mm_cl7 (mm_ei_sh hi14)) (Nat.le_of_ble_eq_true rfl) hm_147 rfl rfl (c_147 (65 + 2 * a1.toNatClampNeg) (-1 : Int32) (0 : Int32) y11.2 (mm_ei_sh hi14) hky15 ?_)
          show Ev Z _ 159 38 [some (.ref 0), some (.int a1), some (.int a2), some (.int a3)] [] (mm_H y15.2) Q
          refine e_iconst hm_159 rfl kc_iconst_1 ?_
          obtain rfl := Option.some.inj hf
          exact e_iret hm_159 rfl rfl hq
        · rw [if_neg hc13] at hf
          refine e_ic_t (t := 40) hm_159 rfl (ct_ne hc13) rfl ?_
          refine e_iload_n hm_159 rfl rfl ?_
          refine e_bipush hm_159 rfl kc_bipush_40 ?_
          by_cases hc16 : (40 : Int32) < a3
          · rw [if_pos hc16] at hf
            refine e_ic_f hm_159 rfl (cf_le hc16) ?_
            refine e_bipush hm_159 rfl kc_bipush_m2 ?_
            obtain rfl := Option.some.inj hf
            exact e_iret hm_159 rfl rfl hq
          · rw [if_neg hc16] at hf
            refine e_ic_t (t := 49) hm_159 rfl (ct_le hc16) rfl ?_
            refine e_iload_n hm_159 rfl rfl ?_
            by_cases hc17 : a3 < (0 : Int32)
            · rw [if_pos hc17] at hf
              refine e_if_f hm_159 rfl (cf_ge hc17) ?_
              refine e_bipush hm_159 rfl kc_bipush_m14 ?_
              obtain rfl := Option.some.inj hf
              exact e_iret hm_159 rfl rfl hq
            · rw [if_neg hc17] at hf
              refine e_if_t (t := 56) hm_159 rfl (ct_ge hc17) rfl ?_
              refine e_aload_n hm_159 rfl rfl ?_
              refine e_getR hm_159 rfl rfl rfl rfl ?_
              refine e_iload_n hm_159 rfl rfl ?_
              obtain ⟨hi18, hf⟩ := mm_ite hf
              refine e_aald hm_159 rfl rfl rfl hi18 (mm_el_sh hi18) ?_
              refine e_iload_n hm_159 rfl rfl ?_
              refine e_iload_n hm_159 rfl rfl ?_
              obtain ⟨y19, hky19, hf⟩ := mm_bd hf
              refine e_virt hm_159 rfl rfl rfl (mm_cl7 (mm_ei_sh hi18)) (Nat.le_of_ble_eq_true rfl) hm_147 rfl rfl (c_147 (65 + 2 * a1.toNatClampNeg) a2 a3 y11.2 (mm_ei_sh hi18) hky19 ?_)
              show Ev Z _ 159 67 [some (.ref 0), some (.int a1), some (.int a2), some (.int a3)] [] (mm_H y19.2) Q
              refine e_iconst hm_159 rfl kc_iconst_1 ?_
              obtain rfl := Option.some.inj hf
              exact e_iret hm_159 rfl rfl hq
def nb_cell (a1 : Int32) (a2 : Int32) (a3 : Int32) (M : mm_M) : Option (Int32 × mm_M) :=
  (nb_isSheet a1 M).bind fun y1 =>
  if y1.1 = (0 : Int32) then
    some ((-2 : Int32), y1.2)
  else
    if ak_inb a1 4 = true then
    (st_isMissing (65 + 2 * a1.toNatClampNeg) y1.2).bind fun y4 =>
    if y4.1 = (0 : Int32) then
      (st_reaches (65 + 2 * a1.toNatClampNeg) a2 (1 : Int32) y4.2).bind fun y6 =>
      if y6.1 = (0 : Int32) then
        some ((-12 : Int32), y6.2)
      else
        (st_put (65 + 2 * a1.toNatClampNeg) a2 a3 y6.2).bind fun y8 =>
        some ((1 : Int32), y8.2)
    else
      some ((-11 : Int32), y4.2) else none
set_option maxRecDepth 20000 in
set_option maxHeartbeats 4000000 in
theorem c_161 {Z : ak_Z} {d : Nat} (a1 : Int32) (a2 : Int32) (a3 : Int32) (M : mm_M) {y : Int32 × mm_M} (hf : nb_cell a1 a2 a3 M = some y) {Q : Option Value → ak_H → Prop} (hq : Q (some (.int y.1)) (mm_H y.2)) : Ev Z (d + 2) 161 0 [some (.ref 0), some (.int a1), some (.int a2), some (.int a3), none] [] (mm_H M) Q := by
  rw [nb_cell] at hf
  refine e_iload_n hm_161 rfl rfl ?_
  obtain ⟨y1, hky1, hf⟩ := mm_bd hf
  refine e_stat hm_161 rfl (by decide) rfl rfl (Nat.le_of_ble_eq_true rfl) hm_136 rfl rfl (c_136 a1 M hky1 ?_)
  show Ev Z _ 161 4 [some (.ref 0), some (.int a1), some (.int a2), some (.int a3), none] [.int y1.1] (mm_H y1.2) Q
  by_cases hc2 : y1.1 = (0 : Int32)
  · rw [if_pos hc2] at hf
    refine e_if_f hm_161 rfl (cf_ne hc2) ?_
    refine e_bipush hm_161 rfl kc_bipush_m2 ?_
    obtain rfl := Option.some.inj hf
    exact e_iret hm_161 rfl rfl hq
  · rw [if_neg hc2] at hf
    refine e_if_t (t := 10) hm_161 rfl (ct_ne hc2) rfl ?_
    refine e_aload_n hm_161 rfl rfl ?_
    refine e_getR hm_161 rfl rfl rfl rfl ?_
    refine e_iload_n hm_161 rfl rfl ?_
    obtain ⟨hi3, hf⟩ := mm_ite hf
    refine e_aald hm_161 rfl rfl rfl hi3 (mm_el_sh hi3) ?_
    refine e_astore (L2 := [some (.ref 0), some (.int a1), some (.int a2), some (.int a3), some (.ref (65 + 2 * a1.toNatClampNeg))]) hm_161 rfl rfl ?_
    refine e_aload hm_161 rfl rfl ?_
    obtain ⟨y4, hky4, hf⟩ := mm_bd hf
    refine e_virt hm_161 rfl rfl rfl (mm_cl7 (mm_ei_sh hi3)) (Nat.le_of_ble_eq_true rfl) hm_137 rfl rfl (c_137 (65 + 2 * a1.toNatClampNeg) y1.2 (mm_ei_sh hi3) hky4 ?_)
    show Ev Z _ 161 23 [some (.ref 0), some (.int a1), some (.int a2), some (.int a3), some (.ref (65 + 2 * a1.toNatClampNeg))] [.int y4.1] (mm_H y4.2) Q
    by_cases hc5 : y4.1 = (0 : Int32)
    · rw [if_pos hc5] at hf
      refine e_if_t (t := 29) hm_161 rfl (ct_eq hc5) rfl ?_
      refine e_aload hm_161 rfl rfl ?_
      refine e_iload_n hm_161 rfl rfl ?_
      refine e_iconst hm_161 rfl kc_iconst_1 ?_
      obtain ⟨y6, hky6, hf⟩ := mm_bd hf
      refine e_virt hm_161 rfl rfl rfl (mm_cl7 (mm_ei_sh hi3)) (Nat.le_of_ble_eq_true rfl) hm_149 rfl rfl (c_149 (65 + 2 * a1.toNatClampNeg) a2 (1 : Int32) y4.2 (mm_ei_sh hi3) hky6 ?_)
      show Ev Z _ 161 36 [some (.ref 0), some (.int a1), some (.int a2), some (.int a3), some (.ref (65 + 2 * a1.toNatClampNeg))] [.int y6.1] (mm_H y6.2) Q
      by_cases hc7 : y6.1 = (0 : Int32)
      · rw [if_pos hc7] at hf
        refine e_if_f hm_161 rfl (cf_ne hc7) ?_
        refine e_bipush hm_161 rfl kc_bipush_m12 ?_
        obtain rfl := Option.some.inj hf
        exact e_iret hm_161 rfl rfl hq
      · rw [if_neg hc7] at hf
        refine e_if_t (t := 42) hm_161 rfl (ct_ne hc7) rfl ?_
        refine e_aload hm_161 rfl rfl ?_
        refine e_iload_n hm_161 rfl rfl ?_
        refine e_iload_n hm_161 rfl rfl ?_
        obtain ⟨y8, hky8, hf⟩ := mm_bd hf
        refine e_virt hm_161 rfl rfl rfl (mm_cl7 (mm_ei_sh hi3)) (Nat.le_of_ble_eq_true rfl) hm_148 rfl rfl (c_148 (65 + 2 * a1.toNatClampNeg) a2 a3 y6.2 (mm_ei_sh hi3) hky8 ?_)
        show Ev Z _ 161 49 [some (.ref 0), some (.int a1), some (.int a2), some (.int a3), some (.ref (65 + 2 * a1.toNatClampNeg))] [] (mm_H y8.2) Q
        refine e_iconst hm_161 rfl kc_iconst_1 ?_
        obtain rfl := Option.some.inj hf
        exact e_iret hm_161 rfl rfl hq
    · rw [if_neg hc5] at hf
      refine e_if_f hm_161 rfl (cf_eq hc5) ?_
      refine e_bipush hm_161 rfl kc_bipush_m11 ?_
      obtain rfl := Option.some.inj hf
      exact e_iret hm_161 rfl rfl hq
def nb_copy (a1 : Int32) (a2 : Int32) (a3 : Int32) (a4 : Int32) (a5 : Int32) (M : mm_M) : Option (Int32 × mm_M) :=
  (nb_isSheet a1 M).bind fun y1 =>
  if y1.1 = (0 : Int32) then
    some ((-2 : Int32), y1.2)
  else
    (nb_isSheet a3 y1.2).bind fun y3 =>
    if y3.1 = (0 : Int32) then
      some ((-2 : Int32), y3.2)
    else
      if ak_inb a1 4 = true then
      if ak_inb a3 4 = true then
      (st_isMissing (65 + 2 * a1.toNatClampNeg) y3.2).bind fun y7 =>
      if y7.1 = (0 : Int32) then
        (st_isMissing (65 + 2 * a3.toNatClampNeg) y7.2).bind fun y9 =>
        if y9.1 = (0 : Int32) then
          if (y9.2.1 (65 + 2 * a1.toNatClampNeg) 0) = (y9.2.1 (65 + 2 * a3.toNatClampNeg) 0) then
            (st_reaches (65 + 2 * a1.toNatClampNeg) a2 a5 y9.2).bind fun y12 =>
            if y12.1 = (0 : Int32) then
              some ((-12 : Int32), y12.2)
            else
              (st_reaches (65 + 2 * a3.toNatClampNeg) a4 a5 y12.2).bind fun y14 =>
              if y14.1 = (0 : Int32) then
                some ((-12 : Int32), y14.2)
              else
                if (¬ a2 < 0 ∧ ¬ a4 < 0 ∧ ¬ a5 < 0 ∧ a2.toNatClampNeg + a5.toNatClampNeg ≤ 40 ∧ a4.toNatClampNeg + a5.toNatClampNeg ≤ 40) then
                some (a5, (ak_cpy y14.2.1 ((65 + 2 * a1.toNatClampNeg) + 1) a2.toNatClampNeg ((65 + 2 * a3.toNatClampNeg) + 1) a4.toNatClampNeg a5.toNatClampNeg, y14.2.2)) else none
          else
            some ((-13 : Int32), y9.2)
        else
          some ((-11 : Int32), y9.2)
      else
        some ((-11 : Int32), y7.2) else none else none
set_option maxRecDepth 20000 in
set_option maxHeartbeats 4000000 in
theorem c_162 {Z : ak_Z} {d : Nat} (a1 : Int32) (a2 : Int32) (a3 : Int32) (a4 : Int32) (a5 : Int32) (M : mm_M) {y : Int32 × mm_M} (hf : nb_copy a1 a2 a3 a4 a5 M = some y) {Q : Option Value → ak_H → Prop} (hq : Q (some (.int y.1)) (mm_H y.2)) : Ev Z (d + 1) 162 0 [some (.ref 0), some (.int a1), some (.int a2), some (.int a3), some (.int a4), some (.int a5), none, none] [] (mm_H M) Q := by
  rw [nb_copy] at hf
  refine e_iload_n hm_162 rfl rfl ?_
  obtain ⟨y1, hky1, hf⟩ := mm_bd hf
  refine e_stat hm_162 rfl (by decide) rfl rfl (Nat.le_of_ble_eq_true rfl) hm_136 rfl rfl (c_136 a1 M hky1 ?_)
  show Ev Z _ 162 4 [some (.ref 0), some (.int a1), some (.int a2), some (.int a3), some (.int a4), some (.int a5), none, none] [.int y1.1] (mm_H y1.2) Q
  by_cases hc2 : y1.1 = (0 : Int32)
  · rw [if_pos hc2] at hf
    refine e_if_t (t := 14) hm_162 rfl (ct_eq hc2) rfl ?_
    refine e_bipush hm_162 rfl kc_bipush_m2 ?_
    obtain rfl := Option.some.inj hf
    exact e_iret hm_162 rfl rfl hq
  · rw [if_neg hc2] at hf
    refine e_if_f hm_162 rfl (cf_eq hc2) ?_
    refine e_iload_n hm_162 rfl rfl ?_
    obtain ⟨y3, hky3, hf⟩ := mm_bd hf
    refine e_stat hm_162 rfl (by decide) rfl rfl (Nat.le_of_ble_eq_true rfl) hm_136 rfl rfl (c_136 a3 y1.2 hky3 ?_)
    show Ev Z _ 162 11 [some (.ref 0), some (.int a1), some (.int a2), some (.int a3), some (.int a4), some (.int a5), none, none] [.int y3.1] (mm_H y3.2) Q
    by_cases hc4 : y3.1 = (0 : Int32)
    · rw [if_pos hc4] at hf
      refine e_if_f hm_162 rfl (cf_ne hc4) ?_
      refine e_bipush hm_162 rfl kc_bipush_m2 ?_
      obtain rfl := Option.some.inj hf
      exact e_iret hm_162 rfl rfl hq
    · rw [if_neg hc4] at hf
      refine e_if_t (t := 17) hm_162 rfl (ct_ne hc4) rfl ?_
      refine e_aload_n hm_162 rfl rfl ?_
      refine e_getR hm_162 rfl rfl rfl rfl ?_
      refine e_iload_n hm_162 rfl rfl ?_
      obtain ⟨hi5, hf⟩ := mm_ite hf
      refine e_aald hm_162 rfl rfl rfl hi5 (mm_el_sh hi5) ?_
      refine e_astore (L2 := [some (.ref 0), some (.int a1), some (.int a2), some (.int a3), some (.int a4), some (.int a5), some (.ref (65 + 2 * a1.toNatClampNeg)), none]) hm_162 rfl rfl ?_
      refine e_aload_n hm_162 rfl rfl ?_
      refine e_getR hm_162 rfl rfl rfl rfl ?_
      refine e_iload_n hm_162 rfl rfl ?_
      obtain ⟨hi6, hf⟩ := mm_ite hf
      refine e_aald hm_162 rfl rfl rfl hi6 (mm_el_sh hi6) ?_
      refine e_astore (L2 := [some (.ref 0), some (.int a1), some (.int a2), some (.int a3), some (.int a4), some (.int a5), some (.ref (65 + 2 * a1.toNatClampNeg)), some (.ref (65 + 2 * a3.toNatClampNeg))]) hm_162 rfl rfl ?_
      refine e_aload hm_162 rfl rfl ?_
      obtain ⟨y7, hky7, hf⟩ := mm_bd hf
      refine e_virt hm_162 rfl rfl rfl (mm_cl7 (mm_ei_sh hi5)) (Nat.le_of_ble_eq_true rfl) hm_137 rfl rfl (c_137 (65 + 2 * a1.toNatClampNeg) y3.2 (mm_ei_sh hi5) hky7 ?_)
      show Ev Z _ 162 38 [some (.ref 0), some (.int a1), some (.int a2), some (.int a3), some (.int a4), some (.int a5), some (.ref (65 + 2 * a1.toNatClampNeg)), some (.ref (65 + 2 * a3.toNatClampNeg))] [.int y7.1] (mm_H y7.2) Q
      by_cases hc8 : y7.1 = (0 : Int32)
      · rw [if_pos hc8] at hf
        refine e_if_f hm_162 rfl (cf_ne hc8) ?_
        refine e_aload hm_162 rfl rfl ?_
        obtain ⟨y9, hky9, hf⟩ := mm_bd hf
        refine e_virt hm_162 rfl rfl rfl (mm_cl7 (mm_ei_sh hi6)) (Nat.le_of_ble_eq_true rfl) hm_137 rfl rfl (c_137 (65 + 2 * a3.toNatClampNeg) y7.2 (mm_ei_sh hi6) hky9 ?_)
        show Ev Z _ 162 46 [some (.ref 0), some (.int a1), some (.int a2), some (.int a3), some (.int a4), some (.int a5), some (.ref (65 + 2 * a1.toNatClampNeg)), some (.ref (65 + 2 * a3.toNatClampNeg))] [.int y9.1] (mm_H y9.2) Q
        by_cases hc10 : y9.1 = (0 : Int32)
        · rw [if_pos hc10] at hf
          refine e_if_t (t := 52) hm_162 rfl (ct_eq hc10) rfl ?_
          refine e_aload hm_162 rfl rfl ?_
          refine e_getI hm_162 rfl (mm_cl7 (mm_ei_sh hi5)) rfl ?_
          refine e_aload hm_162 rfl rfl ?_
          refine e_getI hm_162 rfl (mm_cl7 (mm_ei_sh hi6)) rfl ?_
          by_cases hc11 : (y9.2.1 (65 + 2 * a1.toNatClampNeg) 0) = (y9.2.1 (65 + 2 * a3.toNatClampNeg) 0)
          · rw [if_pos hc11] at hf
            refine e_ic_t (t := 68) hm_162 rfl (ct_eq hc11) rfl ?_
            refine e_aload hm_162 rfl rfl ?_
            refine e_iload_n hm_162 rfl rfl ?_
            refine e_iload hm_162 rfl rfl ?_
            obtain ⟨y12, hky12, hf⟩ := mm_bd hf
            refine e_virt hm_162 rfl rfl rfl (mm_cl7 (mm_ei_sh hi5)) (Nat.le_of_ble_eq_true rfl) hm_149 rfl rfl (c_149 (65 + 2 * a1.toNatClampNeg) a2 a5 y9.2 (mm_ei_sh hi5) hky12 ?_)
            show Ev Z _ 162 76 [some (.ref 0), some (.int a1), some (.int a2), some (.int a3), some (.int a4), some (.int a5), some (.ref (65 + 2 * a1.toNatClampNeg)), some (.ref (65 + 2 * a3.toNatClampNeg))] [.int y12.1] (mm_H y12.2) Q
            by_cases hc13 : y12.1 = (0 : Int32)
            · rw [if_pos hc13] at hf
              refine e_if_t (t := 91) hm_162 rfl (ct_eq hc13) rfl ?_
              refine e_bipush hm_162 rfl kc_bipush_m12 ?_
              obtain rfl := Option.some.inj hf
              exact e_iret hm_162 rfl rfl hq
            · rw [if_neg hc13] at hf
              refine e_if_f hm_162 rfl (cf_eq hc13) ?_
              refine e_aload hm_162 rfl rfl ?_
              refine e_iload hm_162 rfl rfl ?_
              refine e_iload hm_162 rfl rfl ?_
              obtain ⟨y14, hky14, hf⟩ := mm_bd hf
              refine e_virt hm_162 rfl rfl rfl (mm_cl7 (mm_ei_sh hi6)) (Nat.le_of_ble_eq_true rfl) hm_149 rfl rfl (c_149 (65 + 2 * a3.toNatClampNeg) a4 a5 y12.2 (mm_ei_sh hi6) hky14 ?_)
              show Ev Z _ 162 88 [some (.ref 0), some (.int a1), some (.int a2), some (.int a3), some (.int a4), some (.int a5), some (.ref (65 + 2 * a1.toNatClampNeg)), some (.ref (65 + 2 * a3.toNatClampNeg))] [.int y14.1] (mm_H y14.2) Q
              by_cases hc15 : y14.1 = (0 : Int32)
              · rw [if_pos hc15] at hf
                refine e_if_f hm_162 rfl (cf_ne hc15) ?_
                refine e_bipush hm_162 rfl kc_bipush_m12 ?_
                obtain rfl := Option.some.inj hf
                exact e_iret hm_162 rfl rfl hq
              · rw [if_neg hc15] at hf
                refine e_if_t (t := 94) hm_162 rfl (ct_ne hc15) rfl ?_
                refine e_aload hm_162 rfl rfl ?_
                refine e_getR hm_162 rfl (mm_cl7 (mm_ei_sh hi5)) rfl (mm_rf7_2 (mm_ei_sh hi5)) ?_
                refine e_iload_n hm_162 rfl rfl ?_
                refine e_aload hm_162 rfl rfl ?_
                refine e_getR hm_162 rfl (mm_cl7 (mm_ei_sh hi6)) rfl (mm_rf7_2 (mm_ei_sh hi6)) ?_
                refine e_iload hm_162 rfl rfl ?_
                refine e_iload hm_162 rfl rfl ?_
                obtain ⟨hg16, hf⟩ := mm_ite hf
                refine e_cpy hm_162 rfl (mm_ar7_2 (mm_ei_sh hi5)) (mm_ar7_2 (mm_ei_sh hi6)) (Nat.le_of_ble_eq_true rfl) hg16.1 hg16.2.1 hg16.2.2.1 hg16.2.2.2.1 hg16.2.2.2.2 ?_
                refine e_iload hm_162 rfl rfl ?_
                obtain rfl := Option.some.inj hf
                exact e_iret hm_162 rfl rfl hq
          · rw [if_neg hc11] at hf
            refine e_ic_f hm_162 rfl (cf_eq hc11) ?_
            refine e_bipush hm_162 rfl kc_bipush_m13 ?_
            obtain rfl := Option.some.inj hf
            exact e_iret hm_162 rfl rfl hq
        · rw [if_neg hc10] at hf
          refine e_if_f hm_162 rfl (cf_eq hc10) ?_
          refine e_bipush hm_162 rfl kc_bipush_m11 ?_
          obtain rfl := Option.some.inj hf
          exact e_iret hm_162 rfl rfl hq
      · rw [if_neg hc8] at hf
        refine e_if_t (t := 49) hm_162 rfl (ct_ne hc8) rfl ?_
        refine e_bipush hm_162 rfl kc_bipush_m11 ?_
        obtain rfl := Option.some.inj hf
        exact e_iret hm_162 rfl rfl hq
def nb_clerks_l73 : Nat → Int32 → Int32 → Nat → Int32 → Int32 → mm_M → Option ((Int32 × mm_M) ⊕ ((Int32) × mm_M))
  | 0, _, _, _, _, _, _ => none
  | n + 1, x3, x4, x5, x6, x7, M =>
    if x7 < x4 then
      (st_reaches x5 (x3 + ((3 : Int32) * x7)) (3 : Int32) M).bind fun y2 =>
      if y2.1 = (0 : Int32) then
        some (.inl ((-12 : Int32), y2.2))
      else
        if ak_inb (x3 + ((3 : Int32) * x7)) 40 = true then
        if ak_inb ((x3 + ((3 : Int32) * x7)) + (1 : Int32)) 40 = true then
        if ak_inb ((x3 + ((3 : Int32) * x7)) + (2 : Int32)) 40 = true then
        (nb_clerk (y2.2.1 (x5 + 1) (x3 + ((3 : Int32) * x7)).toNatClampNeg) (y2.2.1 (x5 + 1) ((x3 + ((3 : Int32) * x7)) + (1 : Int32)).toNatClampNeg) (y2.2.1 (x5 + 1) ((x3 + ((3 : Int32) * x7)) + (2 : Int32)).toNatClampNeg) y2.2).bind fun y7 =>
        if y7.1 < (0 : Int32) then
          nb_clerks_l73 n x3 x4 x5 x6 (x7 + (1 : Int32)) y7.2
        else
          nb_clerks_l73 n x3 x4 x5 (x6 + (1 : Int32)) (x7 + (1 : Int32)) y7.2 else none else none else none
    else
      some (.inr (x6, M))
set_option maxRecDepth 20000 in
set_option maxHeartbeats 4000000 in
theorem lc_163_73 {Z : ak_Z} {d : Nat} : ∀ (n : Nat) (x3 : Int32) (x4 : Int32) (x5 : Nat) (x6 : Int32) (x7 : Int32) (M : mm_M) (hx5 : mm_is7 x5 = true) {y : (Int32 × mm_M) ⊕ ((Int32) × mm_M)} (Q : Option Value → ak_H → Prop), nb_clerks_l73 n x3 x4 x5 x6 x7 M = some y → (match y with | .inl yr => Q (some (.int yr.1)) (mm_H yr.2) | .inr yv => Ev Z (d + 4) 163 146 [none, none, none, none, none, none, some (.int yv.1), none, none] [] (mm_H yv.2) Q) → Ev Z (d + 4) 163 73 [some (.ref 0), none, none, some (.int x3), some (.int x4), some (.ref x5), some (.int x6), some (.int x7), none] [] (mm_H M) Q := by
  intro n
  induction n with
  | zero => intro x3 x4 x5 x6 x7 M hx5 y Q hf; cases hf
  | succ n ih =>
    intro x3 x4 x5 x6 x7 M hx5 y Q hf hq
    rw [nb_clerks_l73] at hf
    refine e_iload hm_163 rfl rfl ?_
    refine e_iload hm_163 rfl rfl ?_
    by_cases hc1 : x7 < x4
    · rw [if_pos hc1] at hf
      refine e_ic_f hm_163 rfl (cf_ge hc1) ?_
      refine e_iload_n hm_163 rfl rfl ?_
      refine e_iconst hm_163 rfl kc_iconst_3 ?_
      refine e_iload hm_163 rfl rfl ?_
      refine e_imul hm_163 rfl ?_
      refine e_iadd hm_163 rfl ?_
      refine e_istore (L2 := [some (.ref 0), none, none, some (.int x3), some (.int x4), some (.ref x5), some (.int x6), some (.int x7), some (.int (x3 + ((3 : Int32) * x7)))]) hm_163 rfl rfl ?_
      refine e_aload hm_163 rfl rfl ?_
      refine e_iload hm_163 rfl rfl ?_
      refine e_iconst hm_163 rfl kc_iconst_3 ?_
      obtain ⟨y2, hky2, hf⟩ := mm_bd hf
      refine e_virt hm_163 rfl rfl rfl (mm_cl7 hx5) (Nat.le_of_ble_eq_true rfl) hm_149 rfl rfl (c_149 x5 (x3 + ((3 : Int32) * x7)) (3 : Int32) M hx5 hky2 ?_)
      show Ev Z _ 163 96 [some (.ref 0), none, none, some (.int x3), some (.int x4), some (.ref x5), some (.int x6), some (.int x7), some (.int (x3 + ((3 : Int32) * x7)))] [.int y2.1] (mm_H y2.2) Q
      by_cases hc3 : y2.1 = (0 : Int32)
      · rw [if_pos hc3] at hf
        refine e_if_f hm_163 rfl (cf_ne hc3) ?_
        refine e_bipush hm_163 rfl kc_bipush_m12 ?_
        obtain rfl := Option.some.inj hf
        exact e_iret hm_163 rfl rfl hq
      · rw [if_neg hc3] at hf
        refine e_if_t (t := 102) hm_163 rfl (ct_ne hc3) rfl ?_
        refine e_aload_n hm_163 rfl rfl ?_
        refine e_aload hm_163 rfl rfl ?_
        refine e_getR hm_163 rfl (mm_cl7 hx5) rfl (mm_rf7_2 hx5) ?_
        refine e_iload hm_163 rfl rfl ?_
        obtain ⟨hi4, hf⟩ := mm_ite hf
        refine e_iald hm_163 rfl (mm_ar7_2 hx5) hi4 ?_
        refine e_aload hm_163 rfl rfl ?_
        refine e_getR hm_163 rfl (mm_cl7 hx5) rfl (mm_rf7_2 hx5) ?_
        refine e_iload hm_163 rfl rfl ?_
        refine e_iconst hm_163 rfl kc_iconst_1 ?_
        refine e_iadd hm_163 rfl ?_
        obtain ⟨hi5, hf⟩ := mm_ite hf
        refine e_iald hm_163 rfl (mm_ar7_2 hx5) hi5 ?_
        refine e_aload hm_163 rfl rfl ?_
        refine e_getR hm_163 rfl (mm_cl7 hx5) rfl (mm_rf7_2 hx5) ?_
        refine e_iload hm_163 rfl rfl ?_
        refine e_iconst hm_163 rfl kc_iconst_2 ?_
        refine e_iadd hm_163 rfl ?_
        obtain ⟨hi6, hf⟩ := mm_ite hf
        refine e_iald hm_163 rfl (mm_ar7_2 hx5) hi6 ?_
        obtain ⟨y7, hky7, hf⟩ := mm_bd hf
        refine e_virt hm_163 rfl rfl rfl rfl (Nat.le_of_ble_eq_true rfl) hm_21 rfl rfl (c_21 (y2.2.1 (x5 + 1) (x3 + ((3 : Int32) * x7)).toNatClampNeg) (y2.2.1 (x5 + 1) ((x3 + ((3 : Int32) * x7)) + (1 : Int32)).toNatClampNeg) (y2.2.1 (x5 + 1) ((x3 + ((3 : Int32) * x7)) + (2 : Int32)).toNatClampNeg) y2.2 hky7 ?_)
        show Ev Z _ 163 134 [some (.ref 0), none, none, some (.int x3), some (.int x4), some (.ref x5), some (.int x6), some (.int x7), some (.int (x3 + ((3 : Int32) * x7)))] [.int y7.1] (mm_H y7.2) Q
        by_cases hc8 : y7.1 < (0 : Int32)
        · rw [if_pos hc8] at hf
          refine e_if_t (t := 140) hm_163 rfl (ct_lt hc8) rfl ?_
          refine e_iinc (L2 := [some (.ref 0), none, none, some (.int x3), some (.int x4), some (.ref x5), some (.int x6), some (.int (x7 + (1 : Int32))), some (.int (x3 + ((3 : Int32) * x7)))]) hm_163 rfl kc_iinc_1 rfl rfl ?_
          refine e_goto (t := 73) hm_163 rfl rfl ?_
          exact e_forget (L' := [some (.ref 0), none, none, some (.int x3), some (.int x4), some (.ref x5), some (.int x6), some (.int (x7 + (1 : Int32))), none]) (lf_k (lf_k (lf_k (lf_k (lf_k (lf_k (lf_k (lf_k (lf_d lf_0))))))))) (ih x3 x4 x5 x6 (x7 + (1 : Int32)) y7.2 hx5 Q hf hq)
        · rw [if_neg hc8] at hf
          refine e_if_f hm_163 rfl (cf_lt hc8) ?_
          refine e_iinc (L2 := [some (.ref 0), none, none, some (.int x3), some (.int x4), some (.ref x5), some (.int (x6 + (1 : Int32))), some (.int x7), some (.int (x3 + ((3 : Int32) * x7)))]) hm_163 rfl kc_iinc_1 rfl rfl ?_
          refine e_iinc (L2 := [some (.ref 0), none, none, some (.int x3), some (.int x4), some (.ref x5), some (.int (x6 + (1 : Int32))), some (.int (x7 + (1 : Int32))), some (.int (x3 + ((3 : Int32) * x7)))]) hm_163 rfl kc_iinc_1 rfl rfl ?_
          refine e_goto (t := 73) hm_163 rfl rfl ?_
          exact e_forget (L' := [some (.ref 0), none, none, some (.int x3), some (.int x4), some (.ref x5), some (.int (x6 + (1 : Int32))), some (.int (x7 + (1 : Int32))), none]) (lf_k (lf_k (lf_k (lf_k (lf_k (lf_k (lf_k (lf_k (lf_d lf_0))))))))) (ih x3 x4 x5 (x6 + (1 : Int32)) (x7 + (1 : Int32)) y7.2 hx5 Q hf hq)
    · rw [if_neg hc1] at hf
      refine e_ic_t (t := 146) hm_163 rfl (ct_ge hc1) rfl ?_
      obtain rfl := Option.some.inj hf
      exact e_forget (L' := [none, none, none, none, none, none, some (.int x6), none, none]) (lf_d (lf_k (lf_k (lf_d (lf_d (lf_d (lf_k (lf_d (lf_k lf_0))))))))) hq
def nb_clerks (a1 : Int32) (a2 : Int32) (a3 : Int32) (a4 : Int32) (M : mm_M) : Option (Int32 × mm_M) :=
  (nb_isSheet a1 M).bind fun y1 =>
  if y1.1 = (0 : Int32) then
    some ((-2 : Int32), y1.2)
  else
    (st_isSort a2 y1.2).bind fun y3 =>
    if y3.1 = (0 : Int32) then
      some ((-2 : Int32), y3.2)
    else
      if a4 < (0 : Int32) then
        some ((-2 : Int32), y3.2)
      else
        if (4 : Int32) < a4 then
          some ((-2 : Int32), y3.2)
        else
          if ak_inb a1 4 = true then
          (st_isMissing (65 + 2 * a1.toNatClampNeg) y3.2).bind fun y8 =>
          if y8.1 = (0 : Int32) then
            if (y8.2.1 (65 + 2 * a1.toNatClampNeg) 0) = a2 then
              (st_isMissing (65 + 2 * a1.toNatClampNeg) y8.2).bind fun y11 =>
              if y11.1 = (0 : Int32) then
                (nb_clerks_l73 300 a3 a4 (65 + 2 * a1.toNatClampNeg) (0 : Int32) (0 : Int32) y11.2).bind fun y13 => match y13 with
                | .inl y13r => some y13r
                | .inr y13v => some (y13v.1, y13v.2)
              else
                some ((-11 : Int32), y11.2)
            else
              some ((-13 : Int32), y8.2)
          else
            (st_isMissing (65 + 2 * a1.toNatClampNeg) y8.2).bind fun y14 =>
            if y14.1 = (0 : Int32) then
              (nb_clerks_l73 300 a3 a4 (65 + 2 * a1.toNatClampNeg) (0 : Int32) (0 : Int32) y14.2).bind fun y16 => match y16 with
              | .inl y16r => some y16r
              | .inr y16v => some (y16v.1, y16v.2)
            else
              some ((-11 : Int32), y14.2) else none
set_option maxRecDepth 20000 in
set_option maxHeartbeats 4000000 in
theorem c_163 {Z : ak_Z} {d : Nat} (a1 : Int32) (a2 : Int32) (a3 : Int32) (a4 : Int32) (M : mm_M) {y : Int32 × mm_M} (hf : nb_clerks a1 a2 a3 a4 M = some y) {Q : Option Value → ak_H → Prop} (hq : Q (some (.int y.1)) (mm_H y.2)) : Ev Z (d + 4) 163 0 [some (.ref 0), some (.int a1), some (.int a2), some (.int a3), some (.int a4), none, none, none, none] [] (mm_H M) Q := by
  rw [nb_clerks] at hf
  refine e_iload_n hm_163 rfl rfl ?_
  obtain ⟨y1, hky1, hf⟩ := mm_bd hf
  refine e_stat hm_163 rfl (by decide) rfl rfl (Nat.le_of_ble_eq_true rfl) hm_136 rfl rfl (c_136 a1 M hky1 ?_)
  show Ev Z _ 163 4 [some (.ref 0), some (.int a1), some (.int a2), some (.int a3), some (.int a4), none, none, none, none] [.int y1.1] (mm_H y1.2) Q
  by_cases hc2 : y1.1 = (0 : Int32)
  · rw [if_pos hc2] at hf
    refine e_if_t (t := 25) hm_163 rfl (ct_eq hc2) rfl ?_
    refine e_bipush hm_163 rfl kc_bipush_m2 ?_
    obtain rfl := Option.some.inj hf
    exact e_iret hm_163 rfl rfl hq
  · rw [if_neg hc2] at hf
    refine e_if_f hm_163 rfl (cf_eq hc2) ?_
    refine e_iload_n hm_163 rfl rfl ?_
    obtain ⟨y3, hky3, hf⟩ := mm_bd hf
    refine e_stat hm_163 rfl (by decide) rfl rfl (Nat.le_of_ble_eq_true rfl) hm_160 rfl rfl (c_160 a2 y1.2 hky3 ?_)
    show Ev Z _ 163 11 [some (.ref 0), some (.int a1), some (.int a2), some (.int a3), some (.int a4), none, none, none, none] [.int y3.1] (mm_H y3.2) Q
    by_cases hc4 : y3.1 = (0 : Int32)
    · rw [if_pos hc4] at hf
      refine e_if_t (t := 25) hm_163 rfl (ct_eq hc4) rfl ?_
      refine e_bipush hm_163 rfl kc_bipush_m2 ?_
      obtain rfl := Option.some.inj hf
      exact e_iret hm_163 rfl rfl hq
    · rw [if_neg hc4] at hf
      refine e_if_f hm_163 rfl (cf_eq hc4) ?_
      refine e_iload hm_163 rfl rfl ?_
      by_cases hc5 : a4 < (0 : Int32)
      · rw [if_pos hc5] at hf
        refine e_if_t (t := 25) hm_163 rfl (ct_lt hc5) rfl ?_
        refine e_bipush hm_163 rfl kc_bipush_m2 ?_
        obtain rfl := Option.some.inj hf
        exact e_iret hm_163 rfl rfl hq
      · rw [if_neg hc5] at hf
        refine e_if_f hm_163 rfl (cf_lt hc5) ?_
        refine e_iload hm_163 rfl rfl ?_
        refine e_iconst hm_163 rfl kc_iconst_4 ?_
        by_cases hc6 : (4 : Int32) < a4
        · rw [if_pos hc6] at hf
          refine e_ic_f hm_163 rfl (cf_le hc6) ?_
          refine e_bipush hm_163 rfl kc_bipush_m2 ?_
          obtain rfl := Option.some.inj hf
          exact e_iret hm_163 rfl rfl hq
        · rw [if_neg hc6] at hf
          refine e_ic_t (t := 28) hm_163 rfl (ct_le hc6) rfl ?_
          refine e_aload_n hm_163 rfl rfl ?_
          refine e_getR hm_163 rfl rfl rfl rfl ?_
          refine e_iload_n hm_163 rfl rfl ?_
          obtain ⟨hi7, hf⟩ := mm_ite hf
          refine e_aald hm_163 rfl rfl rfl hi7 (mm_el_sh hi7) ?_
          refine e_astore (L2 := [some (.ref 0), some (.int a1), some (.int a2), some (.int a3), some (.int a4), some (.ref (65 + 2 * a1.toNatClampNeg)), none, none, none]) hm_163 rfl rfl ?_
          refine e_aload hm_163 rfl rfl ?_
          obtain ⟨y8, hky8, hf⟩ := mm_bd hf
          refine e_virt hm_163 rfl rfl rfl (mm_cl7 (mm_ei_sh hi7)) (Nat.le_of_ble_eq_true rfl) hm_137 rfl rfl (c_137 (65 + 2 * a1.toNatClampNeg) y3.2 (mm_ei_sh hi7) hky8 ?_)
          show Ev Z _ 163 41 [some (.ref 0), some (.int a1), some (.int a2), some (.int a3), some (.int a4), some (.ref (65 + 2 * a1.toNatClampNeg)), none, none, none] [.int y8.1] (mm_H y8.2) Q
          by_cases hc9 : y8.1 = (0 : Int32)
          · rw [if_pos hc9] at hf
            refine e_if_f hm_163 rfl (cf_ne hc9) ?_
            refine e_aload hm_163 rfl rfl ?_
            refine e_getI hm_163 rfl (mm_cl7 (mm_ei_sh hi7)) rfl ?_
            refine e_iload_n hm_163 rfl rfl ?_
            by_cases hc10 : (y8.2.1 (65 + 2 * a1.toNatClampNeg) 0) = a2
            · rw [if_pos hc10] at hf
              refine e_ic_t (t := 56) hm_163 rfl (ct_eq hc10) rfl ?_
              refine e_aload hm_163 rfl rfl ?_
              obtain ⟨y11, hky11, hf⟩ := mm_bd hf
              refine e_virt hm_163 rfl rfl rfl (mm_cl7 (mm_ei_sh hi7)) (Nat.le_of_ble_eq_true rfl) hm_137 rfl rfl (c_137 (65 + 2 * a1.toNatClampNeg) y8.2 (mm_ei_sh hi7) hky11 ?_)
              show Ev Z _ 163 61 [some (.ref 0), some (.int a1), some (.int a2), some (.int a3), some (.int a4), some (.ref (65 + 2 * a1.toNatClampNeg)), none, none, none] [.int y11.1] (mm_H y11.2) Q
              by_cases hc12 : y11.1 = (0 : Int32)
              · rw [if_pos hc12] at hf
                refine e_if_t (t := 67) hm_163 rfl (ct_eq hc12) rfl ?_
                refine e_iconst hm_163 rfl kc_iconst_0 ?_
                refine e_istore (L2 := [some (.ref 0), some (.int a1), some (.int a2), some (.int a3), some (.int a4), some (.ref (65 + 2 * a1.toNatClampNeg)), some (.int (0 : Int32)), none, none]) hm_163 rfl rfl ?_
                refine e_iconst hm_163 rfl kc_iconst_0 ?_
                refine e_istore (L2 := [some (.ref 0), some (.int a1), some (.int a2), some (.int a3), some (.int a4), some (.ref (65 + 2 * a1.toNatClampNeg)), some (.int (0 : Int32)), some (.int (0 : Int32)), none]) hm_163 rfl rfl ?_
                obtain ⟨y13, hky13, hf⟩ := mm_bd hf
                refine e_forget (L' := [some (.ref 0), none, none, some (.int a3), some (.int a4), some (.ref (65 + 2 * a1.toNatClampNeg)), some (.int (0 : Int32)), some (.int (0 : Int32)), none]) (lf_k (lf_d (lf_d (lf_k (lf_k (lf_k (lf_k (lf_k (lf_k lf_0))))))))) (lc_163_73 (d := _) 300 a3 a4 (65 + 2 * a1.toNatClampNeg) (0 : Int32) (0 : Int32) y11.2 (mm_ei_sh hi7) Q hky13 ?_)
                rcases y13 with y13r | y13v
                · obtain rfl := Option.some.inj hf
                  exact hq
                · show Ev Z _ 163 146 [none, none, none, none, none, none, some (.int y13v.1), none, none] [] (mm_H y13v.2) Q
                  refine e_iload hm_163 rfl rfl ?_
                  obtain rfl := Option.some.inj hf
                  exact e_iret hm_163 rfl rfl hq
              · rw [if_neg hc12] at hf
                refine e_if_f hm_163 rfl (cf_eq hc12) ?_
                refine e_bipush hm_163 rfl kc_bipush_m11 ?_
                obtain rfl := Option.some.inj hf
                exact e_iret hm_163 rfl rfl hq
            · rw [if_neg hc10] at hf
              refine e_ic_f hm_163 rfl (cf_eq hc10) ?_
              refine e_bipush hm_163 rfl kc_bipush_m13 ?_
              obtain rfl := Option.some.inj hf
              exact e_iret hm_163 rfl rfl hq
          · rw [if_neg hc9] at hf
            refine e_if_t (t := 56) hm_163 rfl (ct_ne hc9) rfl ?_
            refine e_aload hm_163 rfl rfl ?_
            obtain ⟨y14, hky14, hf⟩ := mm_bd hf
            refine e_virt hm_163 rfl rfl rfl (mm_cl7 (mm_ei_sh hi7)) (Nat.le_of_ble_eq_true rfl) hm_137 rfl rfl (c_137 (65 + 2 * a1.toNatClampNeg) y8.2 (mm_ei_sh hi7) hky14 ?_)
            show Ev Z _ 163 61 [some (.ref 0), some (.int a1), some (.int a2), some (.int a3), some (.int a4), some (.ref (65 + 2 * a1.toNatClampNeg)), none, none, none] [.int y14.1] (mm_H y14.2) Q
            by_cases hc15 : y14.1 = (0 : Int32)
            · rw [if_pos hc15] at hf
              refine e_if_t (t := 67) hm_163 rfl (ct_eq hc15) rfl ?_
              refine e_iconst hm_163 rfl kc_iconst_0 ?_
              refine e_istore (L2 := [some (.ref 0), some (.int a1), some (.int a2), some (.int a3), some (.int a4), some (.ref (65 + 2 * a1.toNatClampNeg)), some (.int (0 : Int32)), none, none]) hm_163 rfl rfl ?_
              refine e_iconst hm_163 rfl kc_iconst_0 ?_
              refine e_istore (L2 := [some (.ref 0), some (.int a1), some (.int a2), some (.int a3), some (.int a4), some (.ref (65 + 2 * a1.toNatClampNeg)), some (.int (0 : Int32)), some (.int (0 : Int32)), none]) hm_163 rfl rfl ?_
              obtain ⟨y16, hky16, hf⟩ := mm_bd hf
              refine e_forget (L' := [some (.ref 0), none, none, some (.int a3), some (.int a4), some (.ref (65 + 2 * a1.toNatClampNeg)), some (.int (0 : Int32)), some (.int (0 : Int32)), none]) (lf_k (lf_d (lf_d (lf_k (lf_k (lf_k (lf_k (lf_k (lf_k lf_0))))))))) (lc_163_73 (d := _) 300 a3 a4 (65 + 2 * a1.toNatClampNeg) (0 : Int32) (0 : Int32) y14.2 (mm_ei_sh hi7) Q hky16 ?_)
              rcases y16 with y16r | y16v
              · obtain rfl := Option.some.inj hf
                exact hq
              · show Ev Z _ 163 146 [none, none, none, none, none, none, some (.int y16v.1), none, none] [] (mm_H y16v.2) Q
                refine e_iload hm_163 rfl rfl ?_
                obtain rfl := Option.some.inj hf
                exact e_iret hm_163 rfl rfl hq
            · rw [if_neg hc15] at hf
              refine e_if_f hm_163 rfl (cf_eq hc15) ?_
              refine e_bipush hm_163 rfl kc_bipush_m11 ?_
              obtain rfl := Option.some.inj hf
              exact e_iret hm_163 rfl rfl hq
