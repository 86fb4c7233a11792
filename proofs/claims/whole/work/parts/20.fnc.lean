/-! printed: the functions of the methods, and that the small machine does them -/
def tx_advanceOverWord_l0 : Nat → Nat → mm_M → Option (((Unit) × mm_M))
  | 0, _, _ => none
  | n + 1, x0, M =>
    if (M.1 x0 6) < (M.1 x0 5) then
      (tx_isLetter x0 (M.1 x0 6) M).bind fun y2 =>
      if y2.1 = (0 : Int32) then
        some ((), y2.2)
      else
        tx_advanceOverWord_l0 n x0 (ak_up y2.2.1 x0 6 ((y2.2.1 x0 6) + (1 : Int32)), y2.2.2)
    else
      some ((), M)
set_option maxRecDepth 20000 in
set_option maxHeartbeats 4000000 in
theorem lc_68_0 {Z : ak_Z} {d : Nat} : ∀ (n : Nat) (x0 : Nat) (M : mm_M) (hx0 : mm_is10 x0 = true) {y : ((Unit) × mm_M)} (Q : Option Value → ak_H → Prop), tx_advanceOverWord_l0 n x0 M = some y → (Ev Z (d + 6) 68 35 [some (.ref x0)] [] (mm_H y.2) Q) → Ev Z (d + 6) 68 0 [some (.ref x0)] [] (mm_H M) Q := by
  intro n
  induction n with
  | zero => intro x0 M hx0 y Q hf; cases hf
  | succ n ih =>
    intro x0 M hx0 y Q hf hq
    rw [tx_advanceOverWord_l0] at hf
    refine e_aload_n hm_68 rfl rfl ?_
    refine e_getI hm_68 rfl (mm_cl10 hx0) rfl ?_
    refine e_aload_n hm_68 rfl rfl ?_
    refine e_getI hm_68 rfl (mm_cl10 hx0) rfl ?_
    by_cases hc1 : (M.1 x0 6) < (M.1 x0 5)
    · rw [if_pos hc1] at hf
      refine e_ic_f hm_68 rfl (cf_ge hc1) ?_
      refine e_aload_n hm_68 rfl rfl ?_
      refine e_aload_n hm_68 rfl rfl ?_
      refine e_getI hm_68 rfl (mm_cl10 hx0) rfl ?_
      obtain ⟨y2, hky2, hf⟩ := mm_bd hf
      refine e_virt hm_68 rfl rfl rfl (mm_cl10 hx0) (Nat.le_of_ble_eq_true rfl) hm_67 rfl rfl (c_67 x0 (M.1 x0 6) M hx0 hky2 ?_)
      show Ev Z _ 68 19 [some (.ref x0)] [.int y2.1] (mm_H y2.2) Q
      by_cases hc3 : y2.1 = (0 : Int32)
      · rw [if_pos hc3] at hf
        refine e_if_t (t := 35) hm_68 rfl (ct_eq hc3) rfl ?_
        obtain rfl := Option.some.inj hf
        exact e_forget (L' := [some (.ref x0)]) (lf_k lf_0) hq
      · rw [if_neg hc3] at hf
        refine e_if_f hm_68 rfl (cf_eq hc3) ?_
        refine e_aload_n hm_68 rfl rfl ?_
        refine e_dupa hm_68 rfl ?_
        refine e_getI hm_68 rfl (mm_cl10 hx0) rfl ?_
        refine e_iconst hm_68 rfl kc_iconst_1 ?_
        refine e_iadd hm_68 rfl ?_
        refine e_putI hm_68 rfl (mm_cl10 hx0) rfl ?_
        refine e_goto (t := 0) hm_68 rfl rfl ?_
        exact e_forget (L' := [some (.ref x0)]) (lf_k lf_0) (ih x0 (ak_up y2.2.1 x0 6 ((y2.2.1 x0 6) + (1 : Int32)), y2.2.2) hx0 Q hf hq)
    · rw [if_neg hc1] at hf
      refine e_ic_t (t := 35) hm_68 rfl (ct_ge hc1) rfl ?_
      obtain rfl := Option.some.inj hf
      exact e_forget (L' := [some (.ref x0)]) (lf_k lf_0) hq
def tx_advanceOverWord (t : Nat) (M : mm_M) : Option (Unit × mm_M) :=
  (tx_advanceOverWord_l0 300 t M).bind fun y1 =>
  (tx_key t y1.2).bind fun y2 =>
  if ((ak_up y2.2.1 t 8 y2.1) t 8) = (262 : Int32) then
    (tx_name t (ak_up y2.2.1 t 8 y2.1, y2.2.2)).bind fun y4 =>
    if ((ak_up y4.2.1 t 9 y4.1) t 9) = (-1 : Int32) then
      (tx_fail t (ak_up y4.2.1 t 9 y4.1, y4.2.2)).bind fun y6 =>
      some ((), y6.2)
    else
      some ((), (ak_up y4.2.1 t 9 y4.1, y4.2.2))
  else
    some ((), (ak_up y2.2.1 t 8 y2.1, y2.2.2))
set_option maxRecDepth 20000 in
set_option maxHeartbeats 4000000 in
theorem c_68 {Z : ak_Z} {d : Nat} (t : Nat) (M : mm_M) (ht : mm_is10 t = true) {y : Unit × mm_M} (hf : tx_advanceOverWord t M = some y) {Q : Option Value → ak_H → Prop} (hq : Q none (mm_H y.2)) : Ev Z (d + 6) 68 0 [some (.ref t)] [] (mm_H M) Q := by
  rw [tx_advanceOverWord] at hf
  obtain ⟨y1, hky1, hf⟩ := mm_bd hf
  refine e_forget (L' := [some (.ref t)]) (lf_k lf_0) (lc_68_0 (d := _) 300 t M ht Q hky1 ?_)
  show Ev Z _ 68 35 [some (.ref t)] [] (mm_H y1.2) Q
  refine e_aload_n hm_68 rfl rfl ?_
  refine e_aload_n hm_68 rfl rfl ?_
  obtain ⟨y2, hky2, hf⟩ := mm_bd hf
  refine e_virt hm_68 rfl rfl rfl (mm_cl10 ht) (Nat.le_of_ble_eq_true rfl) hm_69 rfl rfl (c_69 t y1.2 ht hky2 ?_)
  show Ev Z _ 68 40 [some (.ref t)] [.int y2.1, .ref t] (mm_H y2.2) Q
  refine e_putI hm_68 rfl (mm_cl10 ht) rfl ?_
  refine e_aload_n hm_68 rfl rfl ?_
  refine e_getI hm_68 rfl (mm_cl10 ht) rfl ?_
  refine e_sipush hm_68 rfl kc_sipush_262 ?_
  by_cases hc3 : ((ak_up y2.2.1 t 8 y2.1) t 8) = (262 : Int32)
  · rw [if_pos hc3] at hf
    refine e_ic_f hm_68 rfl (cf_ne hc3) ?_
    refine e_aload_n hm_68 rfl rfl ?_
    refine e_aload_n hm_68 rfl rfl ?_
    obtain ⟨y4, hky4, hf⟩ := mm_bd hf
    refine e_virt hm_68 rfl rfl rfl (mm_cl10 ht) (Nat.le_of_ble_eq_true rfl) hm_82 rfl rfl (c_82 t (ak_up y2.2.1 t 8 y2.1, y2.2.2) ht hky4 ?_)
    show Ev Z _ 68 58 [some (.ref t)] [.int y4.1, .ref t] (mm_H y4.2) Q
    refine e_putI hm_68 rfl (mm_cl10 ht) rfl ?_
    refine e_aload_n hm_68 rfl rfl ?_
    refine e_getI hm_68 rfl (mm_cl10 ht) rfl ?_
    refine e_iconst hm_68 rfl kc_iconst_m1 ?_
    by_cases hc5 : ((ak_up y4.2.1 t 9 y4.1) t 9) = (-1 : Int32)
    · rw [if_pos hc5] at hf
      refine e_ic_f hm_68 rfl (cf_ne hc5) ?_
      refine e_aload_n hm_68 rfl rfl ?_
      obtain ⟨y6, hky6, hf⟩ := mm_bd hf
      refine e_virt hm_68 rfl rfl rfl (mm_cl10 ht) (Nat.le_of_ble_eq_true rfl) hm_83 rfl rfl (c_83 t (ak_up y4.2.1 t 9 y4.1, y4.2.2) ht hky6 ?_)
      show Ev Z _ 68 73 [some (.ref t)] [] (mm_H y6.2) Q
      obtain rfl := Option.some.inj hf
      exact e_vret hm_68 rfl rfl hq
    · rw [if_neg hc5] at hf
      refine e_ic_t (t := 73) hm_68 rfl (ct_ne hc5) rfl ?_
      obtain rfl := Option.some.inj hf
      exact e_vret hm_68 rfl rfl hq
  · rw [if_neg hc3] at hf
    refine e_ic_t (t := 73) hm_68 rfl (ct_ne hc3) rfl ?_
    obtain rfl := Option.some.inj hf
    exact e_vret hm_68 rfl rfl hq
def tx_isNumeral (t : Nat) (a1 : Int32) (M : mm_M) : Option (Int32 × mm_M) :=
  if ak_inb a1 160 = true then
  if (M.1 25 a1.toNatClampNeg) < (48 : Int32) then
    some ((0 : Int32), M)
  else
    if ak_inb a1 160 = true then
    if (57 : Int32) < (M.1 25 a1.toNatClampNeg) then
      some ((0 : Int32), M)
    else
      some ((1 : Int32), M) else none else none
set_option maxRecDepth 20000 in
set_option maxHeartbeats 4000000 in
theorem c_84 {Z : ak_Z} {d : Nat} (t : Nat) (a1 : Int32) (M : mm_M) (ht : mm_is10 t = true) {y : Int32 × mm_M} (hf : tx_isNumeral t a1 M = some y) {Q : Option Value → ak_H → Prop} (hq : Q (some (.int y.1)) (mm_H y.2)) : Ev Z (d + 0) 84 0 [some (.ref t), some (.int a1)] [] (mm_H M) Q := by
  rw [tx_isNumeral] at hf
  refine e_aload_n hm_84 rfl rfl ?_
  refine e_getR hm_84 rfl (mm_cl10 ht) rfl (mm_rf10_4 ht) ?_
  refine e_iload_n hm_84 rfl rfl ?_
  obtain ⟨hi1, hf⟩ := mm_ite hf
  refine e_iald hm_84 rfl rfl hi1 ?_
  refine e_bipush hm_84 rfl kc_bipush_48 ?_
  by_cases hc2 : (M.1 25 a1.toNatClampNeg) < (48 : Int32)
  · rw [if_pos hc2] at hf
    refine e_ic_t (t := 26) hm_84 rfl (ct_lt hc2) rfl ?_
    refine e_iconst hm_84 rfl kc_iconst_0 ?_
    obtain rfl := Option.some.inj hf
    exact e_zret hm_84 rfl rfl (by decide) hq
  · rw [if_neg hc2] at hf
    refine e_ic_f hm_84 rfl (cf_lt hc2) ?_
    refine e_aload_n hm_84 rfl rfl ?_
    refine e_getR hm_84 rfl (mm_cl10 ht) rfl (mm_rf10_4 ht) ?_
    refine e_iload_n hm_84 rfl rfl ?_
    obtain ⟨hi3, hf⟩ := mm_ite hf
    refine e_iald hm_84 rfl rfl hi3 ?_
    refine e_bipush hm_84 rfl kc_bipush_57 ?_
    by_cases hc4 : (57 : Int32) < (M.1 25 a1.toNatClampNeg)
    · rw [if_pos hc4] at hf
      refine e_ic_t (t := 26) hm_84 rfl (ct_gt hc4) rfl ?_
      refine e_iconst hm_84 rfl kc_iconst_0 ?_
      obtain rfl := Option.some.inj hf
      exact e_zret hm_84 rfl rfl (by decide) hq
    · rw [if_neg hc4] at hf
      refine e_ic_f hm_84 rfl (cf_gt hc4) ?_
      refine e_iconst hm_84 rfl kc_iconst_1 ?_
      refine e_goto (t := 27) hm_84 rfl rfl ?_
      obtain rfl := Option.some.inj hf
      exact e_zret hm_84 rfl rfl (by decide) hq
def tx_advanceOverNumber_l5 : Nat → Nat → mm_M → Option (((Unit) × mm_M))
  | 0, _, _ => none
  | n + 1, x0, M =>
    if (M.1 x0 6) < (M.1 x0 5) then
      (tx_isNumeral x0 (M.1 x0 6) M).bind fun y2 =>
      if y2.1 = (0 : Int32) then
        some ((), y2.2)
      else
        if ak_inb (y2.2.1 x0 6) 160 = true then
        tx_advanceOverNumber_l5 n x0 (ak_up (ak_up y2.2.1 x0 9 ((((y2.2.1 x0 9) * (10 : Int32)) + (y2.2.1 25 (y2.2.1 x0 6).toNatClampNeg)) - (48 : Int32))) x0 6 (((ak_up y2.2.1 x0 9 ((((y2.2.1 x0 9) * (10 : Int32)) + (y2.2.1 25 (y2.2.1 x0 6).toNatClampNeg)) - (48 : Int32))) x0 6) + (1 : Int32)), y2.2.2) else none
    else
      some ((), M)
set_option maxRecDepth 20000 in
set_option maxHeartbeats 4000000 in
theorem lc_85_5 {Z : ak_Z} {d : Nat} : ∀ (n : Nat) (x0 : Nat) (M : mm_M) (hx0 : mm_is10 x0 = true) {y : ((Unit) × mm_M)} (Q : Option Value → ak_H → Prop), tx_advanceOverNumber_l5 n x0 M = some y → (Ev Z (d + 1) 85 64 [some (.ref x0)] [] (mm_H y.2) Q) → Ev Z (d + 1) 85 5 [some (.ref x0)] [] (mm_H M) Q := by
  intro n
  induction n with
  | zero => intro x0 M hx0 y Q hf; cases hf
  | succ n ih =>
    intro x0 M hx0 y Q hf hq
    rw [tx_advanceOverNumber_l5] at hf
    refine e_aload_n hm_85 rfl rfl ?_
    refine e_getI hm_85 rfl (mm_cl10 hx0) rfl ?_
    refine e_aload_n hm_85 rfl rfl ?_
    refine e_getI hm_85 rfl (mm_cl10 hx0) rfl ?_
    by_cases hc1 : (M.1 x0 6) < (M.1 x0 5)
    · rw [if_pos hc1] at hf
      refine e_ic_f hm_85 rfl (cf_ge hc1) ?_
      refine e_aload_n hm_85 rfl rfl ?_
      refine e_aload_n hm_85 rfl rfl ?_
      refine e_getI hm_85 rfl (mm_cl10 hx0) rfl ?_
      obtain ⟨y2, hky2, hf⟩ := mm_bd hf
      refine e_virt hm_85 rfl rfl rfl (mm_cl10 hx0) (Nat.le_of_ble_eq_true rfl) hm_84 rfl rfl (c_84 x0 (M.1 x0 6) M hx0 hky2 ?_)
      show Ev Z _ 85 24 [some (.ref x0)] [.int y2.1] (mm_H y2.2) Q
      by_cases hc3 : y2.1 = (0 : Int32)
      · rw [if_pos hc3] at hf
        refine e_if_t (t := 64) hm_85 rfl (ct_eq hc3) rfl ?_
        obtain rfl := Option.some.inj hf
        exact e_forget (L' := [some (.ref x0)]) (lf_k lf_0) hq
      · rw [if_neg hc3] at hf
        refine e_if_f hm_85 rfl (cf_eq hc3) ?_
        refine e_aload_n hm_85 rfl rfl ?_
        refine e_aload_n hm_85 rfl rfl ?_
        refine e_getI hm_85 rfl (mm_cl10 hx0) rfl ?_
        refine e_bipush hm_85 rfl kc_bipush_10 ?_
        refine e_imul hm_85 rfl ?_
        refine e_aload_n hm_85 rfl rfl ?_
        refine e_getR hm_85 rfl (mm_cl10 hx0) rfl (mm_rf10_4 hx0) ?_
        refine e_aload_n hm_85 rfl rfl ?_
        refine e_getI hm_85 rfl (mm_cl10 hx0) rfl ?_
        obtain ⟨hi4, hf⟩ := mm_ite hf
        refine e_iald hm_85 rfl rfl hi4 ?_
        refine e_iadd hm_85 rfl ?_
        refine e_bipush hm_85 rfl kc_bipush_48 ?_
        refine e_isub hm_85 rfl ?_
        refine e_putI hm_85 rfl (mm_cl10 hx0) rfl ?_
        refine e_aload_n hm_85 rfl rfl ?_
        refine e_dupa hm_85 rfl ?_
        refine e_getI hm_85 rfl (mm_cl10 hx0) rfl ?_
        refine e_iconst hm_85 rfl kc_iconst_1 ?_
        refine e_iadd hm_85 rfl ?_
        refine e_putI hm_85 rfl (mm_cl10 hx0) rfl ?_
        refine e_goto (t := 5) hm_85 rfl rfl ?_
        exact e_forget (L' := [some (.ref x0)]) (lf_k lf_0) (ih x0 (ak_up (ak_up y2.2.1 x0 9 ((((y2.2.1 x0 9) * (10 : Int32)) + (y2.2.1 25 (y2.2.1 x0 6).toNatClampNeg)) - (48 : Int32))) x0 6 (((ak_up y2.2.1 x0 9 ((((y2.2.1 x0 9) * (10 : Int32)) + (y2.2.1 25 (y2.2.1 x0 6).toNatClampNeg)) - (48 : Int32))) x0 6) + (1 : Int32)), y2.2.2) hx0 Q hf hq)
    · rw [if_neg hc1] at hf
      refine e_ic_t (t := 64) hm_85 rfl (ct_ge hc1) rfl ?_
      obtain rfl := Option.some.inj hf
      exact e_forget (L' := [some (.ref x0)]) (lf_k lf_0) hq
def tx_advanceOverNumber (t : Nat) (M : mm_M) : Option (Unit × mm_M) :=
  (tx_advanceOverNumber_l5 300 t (ak_up M.1 t 9 (0 : Int32), M.2)).bind fun y1 =>
  if (4 : Int32) < (((ak_up y1.2.1 t 8 (263 : Int32)) t 6) - ((ak_up y1.2.1 t 8 (263 : Int32)) t 7)) then
    (tx_fail t (ak_up y1.2.1 t 8 (263 : Int32), y1.2.2)).bind fun y3 =>
    some ((), y3.2)
  else
    some ((), (ak_up y1.2.1 t 8 (263 : Int32), y1.2.2))
set_option maxRecDepth 20000 in
set_option maxHeartbeats 4000000 in
theorem c_85 {Z : ak_Z} {d : Nat} (t : Nat) (M : mm_M) (ht : mm_is10 t = true) {y : Unit × mm_M} (hf : tx_advanceOverNumber t M = some y) {Q : Option Value → ak_H → Prop} (hq : Q none (mm_H y.2)) : Ev Z (d + 1) 85 0 [some (.ref t)] [] (mm_H M) Q := by
  rw [tx_advanceOverNumber] at hf
  refine e_aload_n hm_85 rfl rfl ?_
  refine e_iconst hm_85 rfl kc_iconst_0 ?_
  refine e_putI hm_85 rfl (mm_cl10 ht) rfl ?_
  obtain ⟨y1, hky1, hf⟩ := mm_bd hf
  refine e_forget (L' := [some (.ref t)]) (lf_k lf_0) (lc_85_5 (d := _) 300 t (ak_up M.1 t 9 (0 : Int32), M.2) ht Q hky1 ?_)
  show Ev Z _ 85 64 [some (.ref t)] [] (mm_H y1.2) Q
  refine e_aload_n hm_85 rfl rfl ?_
  refine e_sipush hm_85 rfl kc_sipush_263 ?_
  refine e_putI hm_85 rfl (mm_cl10 ht) rfl ?_
  refine e_aload_n hm_85 rfl rfl ?_
  refine e_getI hm_85 rfl (mm_cl10 ht) rfl ?_
  refine e_aload_n hm_85 rfl rfl ?_
  refine e_getI hm_85 rfl (mm_cl10 ht) rfl ?_
  refine e_isub hm_85 rfl ?_
  refine e_iconst hm_85 rfl kc_iconst_4 ?_
  by_cases hc2 : (4 : Int32) < (((ak_up y1.2.1 t 8 (263 : Int32)) t 6) - ((ak_up y1.2.1 t 8 (263 : Int32)) t 7))
  · rw [if_pos hc2] at hf
    refine e_ic_f hm_85 rfl (cf_le hc2) ?_
    refine e_aload_n hm_85 rfl rfl ?_
    obtain ⟨y3, hky3, hf⟩ := mm_bd hf
    refine e_virt hm_85 rfl rfl rfl (mm_cl10 ht) (Nat.le_of_ble_eq_true rfl) hm_83 rfl rfl (c_83 t (ak_up y1.2.1 t 8 (263 : Int32), y1.2.2) ht hky3 ?_)
    show Ev Z _ 85 88 [some (.ref t)] [] (mm_H y3.2) Q
    obtain rfl := Option.some.inj hf
    exact e_vret hm_85 rfl rfl hq
  · rw [if_neg hc2] at hf
    refine e_ic_t (t := 88) hm_85 rfl (ct_le hc2) rfl ?_
    obtain rfl := Option.some.inj hf
    exact e_vret hm_85 rfl rfl hq
def tx_isSign (t : Nat) (a1 : Int32) (M : mm_M) : Option (Int32 × mm_M) :=
  if ak_inb a1 160 = true then
  if (M.1 25 a1.toNatClampNeg) = (40 : Int32) then
    some ((1 : Int32), M)
  else
    if (M.1 25 a1.toNatClampNeg) = (41 : Int32) then
      some ((1 : Int32), M)
    else
      if (M.1 25 a1.toNatClampNeg) = (59 : Int32) then
        some ((1 : Int32), M)
      else
        if (M.1 25 a1.toNatClampNeg) = (43 : Int32) then
          some ((1 : Int32), M)
        else
          if (M.1 25 a1.toNatClampNeg) = (45 : Int32) then
            some ((1 : Int32), M)
          else
            if (M.1 25 a1.toNatClampNeg) = (42 : Int32) then
              some ((1 : Int32), M)
            else
              if (M.1 25 a1.toNatClampNeg) = (60 : Int32) then
                some ((1 : Int32), M)
              else
                if (M.1 25 a1.toNatClampNeg) = (61 : Int32) then
                  some ((1 : Int32), M)
                else
                  some ((0 : Int32), M) else none
set_option maxRecDepth 20000 in
set_option maxHeartbeats 4000000 in
theorem c_86 {Z : ak_Z} {d : Nat} (t : Nat) (a1 : Int32) (M : mm_M) (ht : mm_is10 t = true) {y : Int32 × mm_M} (hf : tx_isSign t a1 M = some y) {Q : Option Value → ak_H → Prop} (hq : Q (some (.int y.1)) (mm_H y.2)) : Ev Z (d + 0) 86 0 [some (.ref t), some (.int a1), none] [] (mm_H M) Q := by
  rw [tx_isSign] at hf
  refine e_aload_n hm_86 rfl rfl ?_
  refine e_getR hm_86 rfl (mm_cl10 ht) rfl (mm_rf10_4 ht) ?_
  refine e_iload_n hm_86 rfl rfl ?_
  obtain ⟨hi1, hf⟩ := mm_ite hf
  refine e_iald hm_86 rfl rfl hi1 ?_
  refine e_istore_n (L2 := [some (.ref t), some (.int a1), some (.int (M.1 25 a1.toNatClampNeg))]) hm_86 rfl rfl ?_
  refine e_iload_n hm_86 rfl rfl ?_
  refine e_bipush hm_86 rfl kc_bipush_40 ?_
  by_cases hc2 : (M.1 25 a1.toNatClampNeg) = (40 : Int32)
  · rw [if_pos hc2] at hf
    refine e_ic_t (t := 55) hm_86 rfl (ct_eq hc2) rfl ?_
    refine e_iconst hm_86 rfl kc_iconst_1 ?_
    refine e_goto (t := 60) hm_86 rfl rfl ?_
    obtain rfl := Option.some.inj hf
    exact e_zret hm_86 rfl rfl (by decide) hq
  · rw [if_neg hc2] at hf
    refine e_ic_f hm_86 rfl (cf_eq hc2) ?_
    refine e_iload_n hm_86 rfl rfl ?_
    refine e_bipush hm_86 rfl kc_bipush_41 ?_
    by_cases hc3 : (M.1 25 a1.toNatClampNeg) = (41 : Int32)
    · rw [if_pos hc3] at hf
      refine e_ic_t (t := 55) hm_86 rfl (ct_eq hc3) rfl ?_
      refine e_iconst hm_86 rfl kc_iconst_1 ?_
      refine e_goto (t := 60) hm_86 rfl rfl ?_
      obtain rfl := Option.some.inj hf
      exact e_zret hm_86 rfl rfl (by decide) hq
    · rw [if_neg hc3] at hf
      refine e_ic_f hm_86 rfl (cf_eq hc3) ?_
      refine e_iload_n hm_86 rfl rfl ?_
      refine e_bipush hm_86 rfl kc_bipush_59 ?_
      by_cases hc4 : (M.1 25 a1.toNatClampNeg) = (59 : Int32)
      · rw [if_pos hc4] at hf
        refine e_ic_t (t := 55) hm_86 rfl (ct_eq hc4) rfl ?_
        refine e_iconst hm_86 rfl kc_iconst_1 ?_
        refine e_goto (t := 60) hm_86 rfl rfl ?_
        obtain rfl := Option.some.inj hf
        exact e_zret hm_86 rfl rfl (by decide) hq
      · rw [if_neg hc4] at hf
        refine e_ic_f hm_86 rfl (cf_eq hc4) ?_
        refine e_iload_n hm_86 rfl rfl ?_
        refine e_bipush hm_86 rfl kc_bipush_43 ?_
        by_cases hc5 : (M.1 25 a1.toNatClampNeg) = (43 : Int32)
        · rw [if_pos hc5] at hf
          refine e_ic_t (t := 55) hm_86 rfl (ct_eq hc5) rfl ?_
          refine e_iconst hm_86 rfl kc_iconst_1 ?_
          refine e_goto (t := 60) hm_86 rfl rfl ?_
          obtain rfl := Option.some.inj hf
          exact e_zret hm_86 rfl rfl (by decide) hq
        · rw [if_neg hc5] at hf
          refine e_ic_f hm_86 rfl (cf_eq hc5) ?_
          refine e_iload_n hm_86 rfl rfl ?_
          refine e_bipush hm_86 rfl kc_bipush_45 ?_
          by_cases hc6 : (M.1 25 a1.toNatClampNeg) = (45 : Int32)
          · rw [if_pos hc6] at hf
            refine e_ic_t (t := 55) hm_86 rfl (ct_eq hc6) rfl ?_
            refine e_iconst hm_86 rfl kc_iconst_1 ?_
            refine e_goto (t := 60) hm_86 rfl rfl ?_
            obtain rfl := Option.some.inj hf
            exact e_zret hm_86 rfl rfl (by decide) hq
          · rw [if_neg hc6] at hf
            refine e_ic_f hm_86 rfl (cf_eq hc6) ?_
            refine e_iload_n hm_86 rfl rfl ?_
            refine e_bipush hm_86 rfl kc_bipush_42 ?_
            by_cases hc7 : (M.1 25 a1.toNatClampNeg) = (42 : Int32)
            · rw [if_pos hc7] at hf
              refine e_ic_t (t := 55) hm_86 rfl (ct_eq hc7) rfl ?_
              refine e_iconst hm_86 rfl kc_iconst_1 ?_
              refine e_goto (t := 60) hm_86 rfl rfl ?_
              obtain rfl := Option.some.inj hf
              exact e_zret hm_86 rfl rfl (by decide) hq
            · rw [if_neg hc7] at hf
              refine e_ic_f hm_86 rfl (cf_eq hc7) ?_
              refine e_iload_n hm_86 rfl rfl ?_
              refine e_bipush hm_86 rfl kc_bipush_60 ?_
              by_cases hc8 : (M.1 25 a1.toNatClampNeg) = (60 : Int32)
              · rw [if_pos hc8] at hf
                refine e_ic_t (t := 55) hm_86 rfl (ct_eq hc8) rfl ?_
                refine e_iconst hm_86 rfl kc_iconst_1 ?_
                refine e_goto (t := 60) hm_86 rfl rfl ?_
                obtain rfl := Option.some.inj hf
                exact e_zret hm_86 rfl rfl (by decide) hq
              · rw [if_neg hc8] at hf
                refine e_ic_f hm_86 rfl (cf_eq hc8) ?_
                refine e_iload_n hm_86 rfl rfl ?_
                refine e_bipush hm_86 rfl kc_bipush_61 ?_
                by_cases hc9 : (M.1 25 a1.toNatClampNeg) = (61 : Int32)
                · rw [if_pos hc9] at hf
                  refine e_ic_f hm_86 rfl (cf_ne hc9) ?_
                  refine e_iconst hm_86 rfl kc_iconst_1 ?_
                  refine e_goto (t := 60) hm_86 rfl rfl ?_
                  obtain rfl := Option.some.inj hf
                  exact e_zret hm_86 rfl rfl (by decide) hq
                · rw [if_neg hc9] at hf
                  refine e_ic_t (t := 59) hm_86 rfl (ct_ne hc9) rfl ?_
                  refine e_iconst hm_86 rfl kc_iconst_0 ?_
                  obtain rfl := Option.some.inj hf
                  exact e_zret hm_86 rfl rfl (by decide) hq
def tx_advance_l0 : Nat → Nat → mm_M → Option (((Unit) × mm_M))
  | 0, _, _ => none
  | n + 1, x0, M =>
    if (M.1 x0 6) < (M.1 x0 5) then
      (tx_isBlank x0 (M.1 x0 6) M).bind fun y2 =>
      if y2.1 = (0 : Int32) then
        some ((), y2.2)
      else
        tx_advance_l0 n x0 (ak_up y2.2.1 x0 6 ((y2.2.1 x0 6) + (1 : Int32)), y2.2.2)
    else
      some ((), M)
set_option maxRecDepth 20000 in
set_option maxHeartbeats 4000000 in
theorem lc_65_0 {Z : ak_Z} {d : Nat} : ∀ (n : Nat) (x0 : Nat) (M : mm_M) (hx0 : mm_is10 x0 = true) {y : ((Unit) × mm_M)} (Q : Option Value → ak_H → Prop), tx_advance_l0 n x0 M = some y → (Ev Z (d + 7) 65 35 [some (.ref x0)] [] (mm_H y.2) Q) → Ev Z (d + 7) 65 0 [some (.ref x0)] [] (mm_H M) Q := by
  intro n
  induction n with
  | zero => intro x0 M hx0 y Q hf; cases hf
  | succ n ih =>
    intro x0 M hx0 y Q hf hq
    rw [tx_advance_l0] at hf
    refine e_aload_n hm_65 rfl rfl ?_
    refine e_getI hm_65 rfl (mm_cl10 hx0) rfl ?_
    refine e_aload_n hm_65 rfl rfl ?_
    refine e_getI hm_65 rfl (mm_cl10 hx0) rfl ?_
    by_cases hc1 : (M.1 x0 6) < (M.1 x0 5)
    · rw [if_pos hc1] at hf
      refine e_ic_f hm_65 rfl (cf_ge hc1) ?_
      refine e_aload_n hm_65 rfl rfl ?_
      refine e_aload_n hm_65 rfl rfl ?_
      refine e_getI hm_65 rfl (mm_cl10 hx0) rfl ?_
      obtain ⟨y2, hky2, hf⟩ := mm_bd hf
      refine e_virt hm_65 rfl rfl rfl (mm_cl10 hx0) (Nat.le_of_ble_eq_true rfl) hm_66 rfl rfl (c_66 x0 (M.1 x0 6) M hx0 hky2 ?_)
      show Ev Z _ 65 19 [some (.ref x0)] [.int y2.1] (mm_H y2.2) Q
      by_cases hc3 : y2.1 = (0 : Int32)
      · rw [if_pos hc3] at hf
        refine e_if_t (t := 35) hm_65 rfl (ct_eq hc3) rfl ?_
        obtain rfl := Option.some.inj hf
        exact e_forget (L' := [some (.ref x0)]) (lf_k lf_0) hq
      · rw [if_neg hc3] at hf
        refine e_if_f hm_65 rfl (cf_eq hc3) ?_
        refine e_aload_n hm_65 rfl rfl ?_
        refine e_dupa hm_65 rfl ?_
        refine e_getI hm_65 rfl (mm_cl10 hx0) rfl ?_
        refine e_iconst hm_65 rfl kc_iconst_1 ?_
        refine e_iadd hm_65 rfl ?_
        refine e_putI hm_65 rfl (mm_cl10 hx0) rfl ?_
        refine e_goto (t := 0) hm_65 rfl rfl ?_
        exact e_forget (L' := [some (.ref x0)]) (lf_k lf_0) (ih x0 (ak_up y2.2.1 x0 6 ((y2.2.1 x0 6) + (1 : Int32)), y2.2.2) hx0 Q hf hq)
    · rw [if_neg hc1] at hf
      refine e_ic_t (t := 35) hm_65 rfl (ct_ge hc1) rfl ?_
      obtain rfl := Option.some.inj hf
      exact e_forget (L' := [some (.ref x0)]) (lf_k lf_0) hq
def tx_advance (t : Nat) (M : mm_M) : Option (Unit × mm_M) :=
  (tx_advance_l0 300 t M).bind fun y1 =>
  if ((ak_up y1.2.1 t 7 (y1.2.1 t 6)) t 6) < ((ak_up y1.2.1 t 7 (y1.2.1 t 6)) t 5) then
    (tx_isLetter t ((ak_up y1.2.1 t 7 (y1.2.1 t 6)) t 6) (ak_up y1.2.1 t 7 (y1.2.1 t 6), y1.2.2)).bind fun y3 =>
    if y3.1 = (0 : Int32) then
      (tx_isNumeral t (y3.2.1 t 6) y3.2).bind fun y5 =>
      if y5.1 = (0 : Int32) then
        (tx_isSign t (y5.2.1 t 6) y5.2).bind fun y7 =>
        if y7.1 = (0 : Int32) then
          (tx_fail t y7.2).bind fun y9 =>
          some ((), y9.2)
        else
          if ak_inb (y7.2.1 t 6) 160 = true then
          some ((), (ak_up (ak_up y7.2.1 t 8 (y7.2.1 25 (y7.2.1 t 6).toNatClampNeg)) t 6 (((ak_up y7.2.1 t 8 (y7.2.1 25 (y7.2.1 t 6).toNatClampNeg)) t 6) + (1 : Int32)), y7.2.2)) else none
      else
        (tx_advanceOverNumber t y5.2).bind fun y11 =>
        some ((), y11.2)
    else
      (tx_advanceOverWord t y3.2).bind fun y12 =>
      some ((), y12.2)
  else
    some ((), (ak_up (ak_up y1.2.1 t 7 (y1.2.1 t 6)) t 8 (264 : Int32), y1.2.2))
set_option maxRecDepth 20000 in
set_option maxHeartbeats 4000000 in
theorem c_65 {Z : ak_Z} {d : Nat} (t : Nat) (M : mm_M) (ht : mm_is10 t = true) {y : Unit × mm_M} (hf : tx_advance t M = some y) {Q : Option Value → ak_H → Prop} (hq : Q none (mm_H y.2)) : Ev Z (d + 7) 65 0 [some (.ref t)] [] (mm_H M) Q := by
  rw [tx_advance] at hf
  obtain ⟨y1, hky1, hf⟩ := mm_bd hf
  refine e_forget (L' := [some (.ref t)]) (lf_k lf_0) (lc_65_0 (d := _) 300 t M ht Q hky1 ?_)
  show Ev Z _ 65 35 [some (.ref t)] [] (mm_H y1.2) Q
  refine e_aload_n hm_65 rfl rfl ?_
  refine e_aload_n hm_65 rfl rfl ?_
  refine e_getI hm_65 rfl (mm_cl10 ht) rfl ?_
  refine e_putI hm_65 rfl (mm_cl10 ht) rfl ?_
  refine e_aload_n hm_65 rfl rfl ?_
  refine e_getI hm_65 rfl (mm_cl10 ht) rfl ?_
  refine e_aload_n hm_65 rfl rfl ?_
  refine e_getI hm_65 rfl (mm_cl10 ht) rfl ?_
  by_cases hc2 : ((ak_up y1.2.1 t 7 (y1.2.1 t 6)) t 6) < ((ak_up y1.2.1 t 7 (y1.2.1 t 6)) t 5)
  · rw [if_pos hc2] at hf
    refine e_ic_t (t := 64) hm_65 rfl (ct_lt hc2) rfl ?_
    refine e_aload_n hm_65 rfl rfl ?_
    refine e_aload_n hm_65 rfl rfl ?_
    refine e_getI hm_65 rfl (mm_cl10 ht) rfl ?_
    obtain ⟨y3, hky3, hf⟩ := mm_bd hf
    refine e_virt hm_65 rfl rfl rfl (mm_cl10 ht) (Nat.le_of_ble_eq_true rfl) hm_67 rfl rfl (c_67 t ((ak_up y1.2.1 t 7 (y1.2.1 t 6)) t 6) (ak_up y1.2.1 t 7 (y1.2.1 t 6), y1.2.2) ht hky3 ?_)
    show Ev Z _ 65 72 [some (.ref t)] [.int y3.1] (mm_H y3.2) Q
    by_cases hc4 : y3.1 = (0 : Int32)
    · rw [if_pos hc4] at hf
      refine e_if_t (t := 82) hm_65 rfl (ct_eq hc4) rfl ?_
      refine e_aload_n hm_65 rfl rfl ?_
      refine e_aload_n hm_65 rfl rfl ?_
      refine e_getI hm_65 rfl (mm_cl10 ht) rfl ?_
      obtain ⟨y5, hky5, hf⟩ := mm_bd hf
      refine e_virt hm_65 rfl rfl rfl (mm_cl10 ht) (Nat.le_of_ble_eq_true rfl) hm_84 rfl rfl (c_84 t (y3.2.1 t 6) y3.2 ht hky5 ?_)
      show Ev Z _ 65 90 [some (.ref t)] [.int y5.1] (mm_H y5.2) Q
      by_cases hc6 : y5.1 = (0 : Int32)
      · rw [if_pos hc6] at hf
        refine e_if_t (t := 100) hm_65 rfl (ct_eq hc6) rfl ?_
        refine e_aload_n hm_65 rfl rfl ?_
        refine e_aload_n hm_65 rfl rfl ?_
        refine e_getI hm_65 rfl (mm_cl10 ht) rfl ?_
        obtain ⟨y7, hky7, hf⟩ := mm_bd hf
        refine e_virt hm_65 rfl rfl rfl (mm_cl10 ht) (Nat.le_of_ble_eq_true rfl) hm_86 rfl rfl (c_86 t (y5.2.1 t 6) y5.2 ht hky7 ?_)
        show Ev Z _ 65 108 [some (.ref t)] [.int y7.1] (mm_H y7.2) Q
        by_cases hc8 : y7.1 = (0 : Int32)
        · rw [if_pos hc8] at hf
          refine e_if_t (t := 137) hm_65 rfl (ct_eq hc8) rfl ?_
          refine e_aload_n hm_65 rfl rfl ?_
          obtain ⟨y9, hky9, hf⟩ := mm_bd hf
          refine e_virt hm_65 rfl rfl rfl (mm_cl10 ht) (Nat.le_of_ble_eq_true rfl) hm_83 rfl rfl (c_83 t y7.2 ht hky9 ?_)
          show Ev Z _ 65 141 [some (.ref t)] [] (mm_H y9.2) Q
          obtain rfl := Option.some.inj hf
          exact e_vret hm_65 rfl rfl hq
        · rw [if_neg hc8] at hf
          refine e_if_f hm_65 rfl (cf_eq hc8) ?_
          refine e_aload_n hm_65 rfl rfl ?_
          refine e_aload_n hm_65 rfl rfl ?_
          refine e_getR hm_65 rfl (mm_cl10 ht) rfl (mm_rf10_4 ht) ?_
          refine e_aload_n hm_65 rfl rfl ?_
          refine e_getI hm_65 rfl (mm_cl10 ht) rfl ?_
          obtain ⟨hi10, hf⟩ := mm_ite hf
          refine e_iald hm_65 rfl rfl hi10 ?_
          refine e_putI hm_65 rfl (mm_cl10 ht) rfl ?_
          refine e_aload_n hm_65 rfl rfl ?_
          refine e_dupa hm_65 rfl ?_
          refine e_getI hm_65 rfl (mm_cl10 ht) rfl ?_
          refine e_iconst hm_65 rfl kc_iconst_1 ?_
          refine e_iadd hm_65 rfl ?_
          refine e_putI hm_65 rfl (mm_cl10 ht) rfl ?_
          refine e_goto (t := 141) hm_65 rfl rfl ?_
          obtain rfl := Option.some.inj hf
          exact e_vret hm_65 rfl rfl hq
      · rw [if_neg hc6] at hf
        refine e_if_f hm_65 rfl (cf_eq hc6) ?_
        refine e_aload_n hm_65 rfl rfl ?_
        obtain ⟨y11, hky11, hf⟩ := mm_bd hf
        refine e_virt hm_65 rfl rfl rfl (mm_cl10 ht) (Nat.le_of_ble_eq_true rfl) hm_85 rfl rfl (c_85 t y5.2 ht hky11 ?_)
        show Ev Z _ 65 97 [some (.ref t)] [] (mm_H y11.2) Q
        refine e_goto (t := 141) hm_65 rfl rfl ?_
        obtain rfl := Option.some.inj hf
        exact e_vret hm_65 rfl rfl hq
    · rw [if_neg hc4] at hf
      refine e_if_f hm_65 rfl (cf_eq hc4) ?_
      refine e_aload_n hm_65 rfl rfl ?_
      obtain ⟨y12, hky12, hf⟩ := mm_bd hf
      refine e_virt hm_65 rfl rfl rfl (mm_cl10 ht) (Nat.le_of_ble_eq_true rfl) hm_68 rfl rfl (c_68 t y3.2 ht hky12 ?_)
      show Ev Z _ 65 79 [some (.ref t)] [] (mm_H y12.2) Q
      refine e_goto (t := 141) hm_65 rfl rfl ?_
      obtain rfl := Option.some.inj hf
      exact e_vret hm_65 rfl rfl hq
  · rw [if_neg hc2] at hf
    refine e_ic_f hm_65 rfl (cf_lt hc2) ?_
    refine e_aload_n hm_65 rfl rfl ?_
    refine e_sipush hm_65 rfl kc_sipush_264 ?_
    refine e_putI hm_65 rfl (mm_cl10 ht) rfl ?_
    refine e_goto (t := 141) hm_65 rfl rfl ?_
    obtain rfl := Option.some.inj hf
    exact e_vret hm_65 rfl rfl hq
def tx_take (t : Nat) (a1 : Int32) (M : mm_M) : Option (Unit × mm_M) :=
  if (M.1 t 8) = a1 then
    (tx_advance t M).bind fun y2 =>
    some ((), y2.2)
  else
    (tx_fail t M).bind fun y3 =>
    some ((), y3.2)
set_option maxRecDepth 20000 in
set_option maxHeartbeats 4000000 in
theorem c_87 {Z : ak_Z} {d : Nat} (t : Nat) (a1 : Int32) (M : mm_M) (ht : mm_is10 t = true) {y : Unit × mm_M} (hf : tx_take t a1 M = some y) {Q : Option Value → ak_H → Prop} (hq : Q none (mm_H y.2)) : Ev Z (d + 8) 87 0 [some (.ref t), some (.int a1)] [] (mm_H M) Q := by
  rw [tx_take] at hf
  refine e_aload_n hm_87 rfl rfl ?_
  refine e_getI hm_87 rfl (mm_cl10 ht) rfl ?_
  refine e_iload_n hm_87 rfl rfl ?_
  by_cases hc1 : (M.1 t 8) = a1
  · rw [if_pos hc1] at hf
    refine e_ic_f hm_87 rfl (cf_ne hc1) ?_
    refine e_aload_n hm_87 rfl rfl ?_
    obtain ⟨y2, hky2, hf⟩ := mm_bd hf
    refine e_virt hm_87 rfl rfl rfl (mm_cl10 ht) (Nat.le_of_ble_eq_true rfl) hm_65 rfl rfl (c_65 t M ht hky2 ?_)
    show Ev Z _ 87 12 [some (.ref t), some (.int a1)] [] (mm_H y2.2) Q
    refine e_goto (t := 19) hm_87 rfl rfl ?_
    obtain rfl := Option.some.inj hf
    exact e_vret hm_87 rfl rfl hq
  · rw [if_neg hc1] at hf
    refine e_ic_t (t := 15) hm_87 rfl (ct_ne hc1) rfl ?_
    refine e_aload_n hm_87 rfl rfl ?_
    obtain ⟨y3, hky3, hf⟩ := mm_bd hf
    refine e_virt hm_87 rfl rfl rfl (mm_cl10 ht) (Nat.le_of_ble_eq_true rfl) hm_83 rfl rfl (c_83 t M ht hky3 ?_)
    show Ev Z _ 87 19 [some (.ref t), some (.int a1)] [] (mm_H y3.2) Q
    obtain rfl := Option.some.inj hf
    exact e_vret hm_87 rfl rfl hq
def tx_openOne (t : Nat) (M : mm_M) : Option (Int32 × mm_M) :=
  if (M.1 t 10) < (5 : Int32) then
    (tx_advance t (ak_up M.1 t 10 ((M.1 t 10) + (1 : Int32)), M.2)).bind fun y2 =>
    some ((1 : Int32), y2.2)
  else
    (tx_fail t M).bind fun y3 =>
    some ((0 : Int32), y3.2)
set_option maxRecDepth 20000 in
set_option maxHeartbeats 4000000 in
theorem c_96 {Z : ak_Z} {d : Nat} (t : Nat) (M : mm_M) (ht : mm_is10 t = true) {y : Int32 × mm_M} (hf : tx_openOne t M = some y) {Q : Option Value → ak_H → Prop} (hq : Q (some (.int y.1)) (mm_H y.2)) : Ev Z (d + 8) 96 0 [some (.ref t)] [] (mm_H M) Q := by
  rw [tx_openOne] at hf
  refine e_aload_n hm_96 rfl rfl ?_
  refine e_getI hm_96 rfl (mm_cl10 ht) rfl ?_
  refine e_iconst hm_96 rfl kc_iconst_5 ?_
  by_cases hc1 : (M.1 t 10) < (5 : Int32)
  · rw [if_pos hc1] at hf
    refine e_ic_t (t := 14) hm_96 rfl (ct_lt hc1) rfl ?_
    refine e_aload_n hm_96 rfl rfl ?_
    refine e_dupa hm_96 rfl ?_
    refine e_getI hm_96 rfl (mm_cl10 ht) rfl ?_
    refine e_iconst hm_96 rfl kc_iconst_1 ?_
    refine e_iadd hm_96 rfl ?_
    refine e_putI hm_96 rfl (mm_cl10 ht) rfl ?_
    refine e_aload_n hm_96 rfl rfl ?_
    obtain ⟨y2, hky2, hf⟩ := mm_bd hf
    refine e_virt hm_96 rfl rfl rfl (mm_cl10 ht) (Nat.le_of_ble_eq_true rfl) hm_65 rfl rfl (c_65 t (ak_up M.1 t 10 ((M.1 t 10) + (1 : Int32)), M.2) ht hky2 ?_)
    show Ev Z _ 96 28 [some (.ref t)] [] (mm_H y2.2) Q
    refine e_iconst hm_96 rfl kc_iconst_1 ?_
    obtain rfl := Option.some.inj hf
    exact e_zret hm_96 rfl rfl (by decide) hq
  · rw [if_neg hc1] at hf
    refine e_ic_f hm_96 rfl (cf_lt hc1) ?_
    refine e_aload_n hm_96 rfl rfl ?_
    obtain ⟨y3, hky3, hf⟩ := mm_bd hf
    refine e_virt hm_96 rfl rfl rfl (mm_cl10 ht) (Nat.le_of_ble_eq_true rfl) hm_83 rfl rfl (c_83 t M ht hky3 ?_)
    show Ev Z _ 96 12 [some (.ref t)] [] (mm_H y3.2) Q
    refine e_iconst hm_96 rfl kc_iconst_0 ?_
    obtain rfl := Option.some.inj hf
    exact e_zret hm_96 rfl rfl (by decide) hq
def tx_addName (t : Nat) (a1 : Int32) (M : mm_M) : Option (Unit × mm_M) :=
  (tx_add t ((-1 : Int32) - a1) M).bind fun y1 =>
  some ((), y1.2)
set_option maxRecDepth 20000 in
set_option maxHeartbeats 4000000 in
theorem c_95 {Z : ak_Z} {d : Nat} (t : Nat) (a1 : Int32) (M : mm_M) (ht : mm_is10 t = true) {y : Unit × mm_M} (hf : tx_addName t a1 M = some y) {Q : Option Value → ak_H → Prop} (hq : Q none (mm_H y.2)) : Ev Z (d + 1) 95 0 [some (.ref t), some (.int a1)] [] (mm_H M) Q := by
  rw [tx_addName] at hf
  refine e_aload_n hm_95 rfl rfl ?_
  refine e_iconst hm_95 rfl kc_iconst_m1 ?_
  refine e_iload_n hm_95 rfl rfl ?_
  refine e_isub hm_95 rfl ?_
  obtain ⟨y1, hky1, hf⟩ := mm_bd hf
  refine e_virt hm_95 rfl rfl rfl (mm_cl10 ht) (Nat.le_of_ble_eq_true rfl) hm_10 rfl rfl (c_10 t ((-1 : Int32) - a1) M ht hky1 ?_)
  show Ev Z _ 95 7 [some (.ref t), some (.int a1)] [] (mm_H y1.2) Q
  obtain rfl := Option.some.inj hf
  exact e_vret hm_95 rfl rfl hq
def tx_readEither_l6 (rc : Nat → mm_M → Option (Unit × mm_M)) (t : Nat) : Nat → Int32 → mm_M → Option (((Unit) × mm_M))
  | 0, _, _ => none
  | n + 1, x1, M =>
    if x1 < (160 : Int32) then
      if (M.1 t 8) = (259 : Int32) then
        (tx_advance t M).bind fun y3 =>
        (rc 1 y3.2).bind fun y4 =>
        (tx_add t (-15 : Int32) y4.2).bind fun y5 =>
        tx_readEither_l6 rc t n (x1 + (1 : Int32)) y5.2
      else
        some ((), M)
    else
      some ((), M)
set_option maxRecDepth 20000 in
set_option maxHeartbeats 4000000 in
theorem lc_88_6 {Z : ak_Z} {d : Nat} (t : Nat) (rc : Nat → mm_M → Option (Unit × mm_M)) (hrc0 : ∀ (M : mm_M) (y : Unit × mm_M), rc 0 M = some y → ∀ (Q : Option Value → ak_H → Prop), Q none (mm_H y.2) → Ev Z (d + 8) 88 0 [some (.ref t), none] [] (mm_H M) Q) (hrc1 : ∀ (M : mm_M) (y : Unit × mm_M), rc 1 M = some y → ∀ (Q : Option Value → ak_H → Prop), Q none (mm_H y.2) → Ev Z (d + 8) 89 0 [some (.ref t), none] [] (mm_H M) Q) (hrc2 : ∀ (M : mm_M) (y : Unit × mm_M), rc 2 M = some y → ∀ (Q : Option Value → ak_H → Prop), Q none (mm_H y.2) → Ev Z (d + 8) 90 0 [some (.ref t)] [] (mm_H M) Q) (hrc3 : ∀ (M : mm_M) (y : Unit × mm_M), rc 3 M = some y → ∀ (Q : Option Value → ak_H → Prop), Q none (mm_H y.2) → Ev Z (d + 8) 91 0 [some (.ref t), none] [] (mm_H M) Q) (hrc4 : ∀ (M : mm_M) (y : Unit × mm_M), rc 4 M = some y → ∀ (Q : Option Value → ak_H → Prop), Q none (mm_H y.2) → Ev Z (d + 8) 92 0 [some (.ref t), none, none] [] (mm_H M) Q) (hrc5 : ∀ (M : mm_M) (y : Unit × mm_M), rc 5 M = some y → ∀ (Q : Option Value → ak_H → Prop), Q none (mm_H y.2) → Ev Z (d + 8) 93 0 [some (.ref t), none] [] (mm_H M) Q) (hrc6 : ∀ (M : mm_M) (y : Unit × mm_M), rc 6 M = some y → ∀ (Q : Option Value → ak_H → Prop), Q none (mm_H y.2) → Ev Z (d + 8) 94 0 [some (.ref t)] [] (mm_H M) Q) (ht : mm_is10 t = true) : ∀ (n : Nat) (x1 : Int32) (M : mm_M) {y : ((Unit) × mm_M)} (Q : Option Value → ak_H → Prop), tx_readEither_l6 rc t n x1 M = some y → (Ev Z (d + 9) 88 43 [none, none] [] (mm_H y.2) Q) → Ev Z (d + 9) 88 6 [some (.ref t), some (.int x1)] [] (mm_H M) Q := by
  intro n
  induction n with
  | zero => intro x1 M y Q hf; cases hf
  | succ n ih =>
    intro x1 M y Q hf hq
    rw [tx_readEither_l6] at hf
    refine e_iload_n hm_88 rfl rfl ?_
    refine e_sipush hm_88 rfl kc_sipush_160 ?_
    by_cases hc1 : x1 < (160 : Int32)
    · rw [if_pos hc1] at hf
      refine e_ic_f hm_88 rfl (cf_ge hc1) ?_
      refine e_aload_n hm_88 rfl rfl ?_
      refine e_getI hm_88 rfl (mm_cl10 ht) rfl ?_
      refine e_sipush hm_88 rfl kc_sipush_259 ?_
      by_cases hc2 : (M.1 t 8) = (259 : Int32)
      · rw [if_pos hc2] at hf
        refine e_ic_f hm_88 rfl (cf_ne hc2) ?_
        refine e_aload_n hm_88 rfl rfl ?_
        obtain ⟨y3, hky3, hf⟩ := mm_bd hf
        refine e_virt hm_88 rfl rfl rfl (mm_cl10 ht) (Nat.le_of_ble_eq_true rfl) hm_65 rfl rfl (c_65 t M ht hky3 ?_)
        show Ev Z _ 88 27 [some (.ref t), some (.int x1)] [] (mm_H y3.2) Q
        refine e_aload_n hm_88 rfl rfl ?_
        obtain ⟨y4, hky4, hf⟩ := mm_bd hf
        refine e_virt hm_88 rfl rfl rfl (mm_cl10 ht) (Nat.le_of_ble_eq_true rfl) hm_89 rfl rfl (hrc1 _ _ hky4 _ ?_)
        show Ev Z _ 88 31 [some (.ref t), some (.int x1)] [] (mm_H y4.2) Q
        refine e_aload_n hm_88 rfl rfl ?_
        refine e_bipush hm_88 rfl kc_bipush_m15 ?_
        obtain ⟨y5, hky5, hf⟩ := mm_bd hf
        refine e_virt hm_88 rfl rfl rfl (mm_cl10 ht) (Nat.le_of_ble_eq_true rfl) hm_10 rfl rfl (c_10 t (-15 : Int32) y4.2 ht hky5 ?_)
        show Ev Z _ 88 37 [some (.ref t), some (.int x1)] [] (mm_H y5.2) Q
        refine e_iinc (L2 := [some (.ref t), some (.int (x1 + (1 : Int32)))]) hm_88 rfl kc_iinc_1 rfl rfl ?_
        refine e_goto (t := 6) hm_88 rfl rfl ?_
        exact e_forget (L' := [some (.ref t), some (.int (x1 + (1 : Int32)))]) (lf_k (lf_k lf_0)) (ih (x1 + (1 : Int32)) y5.2 Q hf hq)
      · rw [if_neg hc2] at hf
        refine e_ic_t (t := 43) hm_88 rfl (ct_ne hc2) rfl ?_
        obtain rfl := Option.some.inj hf
        exact e_forget (L' := [none, none]) (lf_d (lf_d lf_0)) hq
    · rw [if_neg hc1] at hf
      refine e_ic_t (t := 43) hm_88 rfl (ct_ge hc1) rfl ?_
      obtain rfl := Option.some.inj hf
      exact e_forget (L' := [none, none]) (lf_d (lf_d lf_0)) hq
def tx_readEither_b (rc : Nat → mm_M → Option (Unit × mm_M)) (t : Nat) (M : mm_M) : Option (Unit × mm_M) :=
  (rc 1 M).bind fun y1 =>
  (tx_readEither_l6 rc t 300 (0 : Int32) y1.2).bind fun y2 =>
  some ((), y2.2)
set_option maxRecDepth 20000 in
set_option maxHeartbeats 4000000 in
theorem cb_88 {Z : ak_Z} {d : Nat} (t : Nat) (rc : Nat → mm_M → Option (Unit × mm_M)) (hrc0 : ∀ (M : mm_M) (y : Unit × mm_M), rc 0 M = some y → ∀ (Q : Option Value → ak_H → Prop), Q none (mm_H y.2) → Ev Z (d + 8) 88 0 [some (.ref t), none] [] (mm_H M) Q) (hrc1 : ∀ (M : mm_M) (y : Unit × mm_M), rc 1 M = some y → ∀ (Q : Option Value → ak_H → Prop), Q none (mm_H y.2) → Ev Z (d + 8) 89 0 [some (.ref t), none] [] (mm_H M) Q) (hrc2 : ∀ (M : mm_M) (y : Unit × mm_M), rc 2 M = some y → ∀ (Q : Option Value → ak_H → Prop), Q none (mm_H y.2) → Ev Z (d + 8) 90 0 [some (.ref t)] [] (mm_H M) Q) (hrc3 : ∀ (M : mm_M) (y : Unit × mm_M), rc 3 M = some y → ∀ (Q : Option Value → ak_H → Prop), Q none (mm_H y.2) → Ev Z (d + 8) 91 0 [some (.ref t), none] [] (mm_H M) Q) (hrc4 : ∀ (M : mm_M) (y : Unit × mm_M), rc 4 M = some y → ∀ (Q : Option Value → ak_H → Prop), Q none (mm_H y.2) → Ev Z (d + 8) 92 0 [some (.ref t), none, none] [] (mm_H M) Q) (hrc5 : ∀ (M : mm_M) (y : Unit × mm_M), rc 5 M = some y → ∀ (Q : Option Value → ak_H → Prop), Q none (mm_H y.2) → Ev Z (d + 8) 93 0 [some (.ref t), none] [] (mm_H M) Q) (hrc6 : ∀ (M : mm_M) (y : Unit × mm_M), rc 6 M = some y → ∀ (Q : Option Value → ak_H → Prop), Q none (mm_H y.2) → Ev Z (d + 8) 94 0 [some (.ref t)] [] (mm_H M) Q) (M : mm_M) (ht : mm_is10 t = true) {y : Unit × mm_M} (hf : tx_readEither_b rc t M = some y) {Q : Option Value → ak_H → Prop} (hq : Q none (mm_H y.2)) : Ev Z (d + 9) 88 0 [some (.ref t), none] [] (mm_H M) Q := by
  rw [tx_readEither_b] at hf
  refine e_aload_n hm_88 rfl rfl ?_
  obtain ⟨y1, hky1, hf⟩ := mm_bd hf
  refine e_virt hm_88 rfl rfl rfl (mm_cl10 ht) (Nat.le_of_ble_eq_true rfl) hm_89 rfl rfl (hrc1 _ _ hky1 _ ?_)
  show Ev Z _ 88 4 [some (.ref t), none] [] (mm_H y1.2) Q
  refine e_iconst hm_88 rfl kc_iconst_0 ?_
  refine e_istore_n (L2 := [some (.ref t), some (.int (0 : Int32))]) hm_88 rfl rfl ?_
  obtain ⟨y2, hky2, hf⟩ := mm_bd hf
  refine e_forget (L' := [some (.ref t), some (.int (0 : Int32))]) (lf_k (lf_k lf_0)) (lc_88_6 t rc hrc0 hrc1 hrc2 hrc3 hrc4 hrc5 hrc6 ht (d := _) 300 (0 : Int32) y1.2 Q hky2 ?_)
  show Ev Z _ 88 43 [none, none] [] (mm_H y2.2) Q
  obtain rfl := Option.some.inj hf
  exact e_vret hm_88 rfl rfl hq
def tx_readBoth_l6 (rc : Nat → mm_M → Option (Unit × mm_M)) (t : Nat) : Nat → Int32 → mm_M → Option (((Unit) × mm_M))
  | 0, _, _ => none
  | n + 1, x1, M =>
    if x1 < (160 : Int32) then
      if (M.1 t 8) = (260 : Int32) then
        (tx_advance t M).bind fun y3 =>
        (rc 2 y3.2).bind fun y4 =>
        (tx_add t (-14 : Int32) y4.2).bind fun y5 =>
        tx_readBoth_l6 rc t n (x1 + (1 : Int32)) y5.2
      else
        some ((), M)
    else
      some ((), M)
set_option maxRecDepth 20000 in
set_option maxHeartbeats 4000000 in
theorem lc_89_6 {Z : ak_Z} {d : Nat} (t : Nat) (rc : Nat → mm_M → Option (Unit × mm_M)) (hrc0 : ∀ (M : mm_M) (y : Unit × mm_M), rc 0 M = some y → ∀ (Q : Option Value → ak_H → Prop), Q none (mm_H y.2) → Ev Z (d + 8) 88 0 [some (.ref t), none] [] (mm_H M) Q) (hrc1 : ∀ (M : mm_M) (y : Unit × mm_M), rc 1 M = some y → ∀ (Q : Option Value → ak_H → Prop), Q none (mm_H y.2) → Ev Z (d + 8) 89 0 [some (.ref t), none] [] (mm_H M) Q) (hrc2 : ∀ (M : mm_M) (y : Unit × mm_M), rc 2 M = some y → ∀ (Q : Option Value → ak_H → Prop), Q none (mm_H y.2) → Ev Z (d + 8) 90 0 [some (.ref t)] [] (mm_H M) Q) (hrc3 : ∀ (M : mm_M) (y : Unit × mm_M), rc 3 M = some y → ∀ (Q : Option Value → ak_H → Prop), Q none (mm_H y.2) → Ev Z (d + 8) 91 0 [some (.ref t), none] [] (mm_H M) Q) (hrc4 : ∀ (M : mm_M) (y : Unit × mm_M), rc 4 M = some y → ∀ (Q : Option Value → ak_H → Prop), Q none (mm_H y.2) → Ev Z (d + 8) 92 0 [some (.ref t), none, none] [] (mm_H M) Q) (hrc5 : ∀ (M : mm_M) (y : Unit × mm_M), rc 5 M = some y → ∀ (Q : Option Value → ak_H → Prop), Q none (mm_H y.2) → Ev Z (d + 8) 93 0 [some (.ref t), none] [] (mm_H M) Q) (hrc6 : ∀ (M : mm_M) (y : Unit × mm_M), rc 6 M = some y → ∀ (Q : Option Value → ak_H → Prop), Q none (mm_H y.2) → Ev Z (d + 8) 94 0 [some (.ref t)] [] (mm_H M) Q) (ht : mm_is10 t = true) : ∀ (n : Nat) (x1 : Int32) (M : mm_M) {y : ((Unit) × mm_M)} (Q : Option Value → ak_H → Prop), tx_readBoth_l6 rc t n x1 M = some y → (Ev Z (d + 9) 89 43 [none, none] [] (mm_H y.2) Q) → Ev Z (d + 9) 89 6 [some (.ref t), some (.int x1)] [] (mm_H M) Q := by
  intro n
  induction n with
  | zero => intro x1 M y Q hf; cases hf
  | succ n ih =>
    intro x1 M y Q hf hq
    rw [tx_readBoth_l6] at hf
    refine e_iload_n hm_89 rfl rfl ?_
    refine e_sipush hm_89 rfl kc_sipush_160 ?_
    by_cases hc1 : x1 < (160 : Int32)
    · rw [if_pos hc1] at hf
      refine e_ic_f hm_89 rfl (cf_ge hc1) ?_
      refine e_aload_n hm_89 rfl rfl ?_
      refine e_getI hm_89 rfl (mm_cl10 ht) rfl ?_
      refine e_sipush hm_89 rfl kc_sipush_260 ?_
      by_cases hc2 : (M.1 t 8) = (260 : Int32)
      · rw [if_pos hc2] at hf
        refine e_ic_f hm_89 rfl (cf_ne hc2) ?_
        refine e_aload_n hm_89 rfl rfl ?_
        obtain ⟨y3, hky3, hf⟩ := mm_bd hf
        refine e_virt hm_89 rfl rfl rfl (mm_cl10 ht) (Nat.le_of_ble_eq_true rfl) hm_65 rfl rfl (c_65 t M ht hky3 ?_)
        show Ev Z _ 89 27 [some (.ref t), some (.int x1)] [] (mm_H y3.2) Q
        refine e_aload_n hm_89 rfl rfl ?_
        obtain ⟨y4, hky4, hf⟩ := mm_bd hf
        refine e_virt hm_89 rfl rfl rfl (mm_cl10 ht) (Nat.le_of_ble_eq_true rfl) hm_90 rfl rfl (hrc2 _ _ hky4 _ ?_)
        show Ev Z _ 89 31 [some (.ref t), some (.int x1)] [] (mm_H y4.2) Q
        refine e_aload_n hm_89 rfl rfl ?_
        refine e_bipush hm_89 rfl kc_bipush_m14 ?_
        obtain ⟨y5, hky5, hf⟩ := mm_bd hf
        refine e_virt hm_89 rfl rfl rfl (mm_cl10 ht) (Nat.le_of_ble_eq_true rfl) hm_10 rfl rfl (c_10 t (-14 : Int32) y4.2 ht hky5 ?_)
        show Ev Z _ 89 37 [some (.ref t), some (.int x1)] [] (mm_H y5.2) Q
        refine e_iinc (L2 := [some (.ref t), some (.int (x1 + (1 : Int32)))]) hm_89 rfl kc_iinc_1 rfl rfl ?_
        refine e_goto (t := 6) hm_89 rfl rfl ?_
        exact e_forget (L' := [some (.ref t), some (.int (x1 + (1 : Int32)))]) (lf_k (lf_k lf_0)) (ih (x1 + (1 : Int32)) y5.2 Q hf hq)
      · rw [if_neg hc2] at hf
        refine e_ic_t (t := 43) hm_89 rfl (ct_ne hc2) rfl ?_
        obtain rfl := Option.some.inj hf
        exact e_forget (L' := [none, none]) (lf_d (lf_d lf_0)) hq
    · rw [if_neg hc1] at hf
      refine e_ic_t (t := 43) hm_89 rfl (ct_ge hc1) rfl ?_
      obtain rfl := Option.some.inj hf
      exact e_forget (L' := [none, none]) (lf_d (lf_d lf_0)) hq
def tx_readBoth_b (rc : Nat → mm_M → Option (Unit × mm_M)) (t : Nat) (M : mm_M) : Option (Unit × mm_M) :=
  (rc 2 M).bind fun y1 =>
  (tx_readBoth_l6 rc t 300 (0 : Int32) y1.2).bind fun y2 =>
  some ((), y2.2)
set_option maxRecDepth 20000 in
set_option maxHeartbeats 4000000 in
theorem cb_89 {Z : ak_Z} {d : Nat} (t : Nat) (rc : Nat → mm_M → Option (Unit × mm_M)) (hrc0 : ∀ (M : mm_M) (y : Unit × mm_M), rc 0 M = some y → ∀ (Q : Option Value → ak_H → Prop), Q none (mm_H y.2) → Ev Z (d + 8) 88 0 [some (.ref t), none] [] (mm_H M) Q) (hrc1 : ∀ (M : mm_M) (y : Unit × mm_M), rc 1 M = some y → ∀ (Q : Option Value → ak_H → Prop), Q none (mm_H y.2) → Ev Z (d + 8) 89 0 [some (.ref t), none] [] (mm_H M) Q) (hrc2 : ∀ (M : mm_M) (y : Unit × mm_M), rc 2 M = some y → ∀ (Q : Option Value → ak_H → Prop), Q none (mm_H y.2) → Ev Z (d + 8) 90 0 [some (.ref t)] [] (mm_H M) Q) (hrc3 : ∀ (M : mm_M) (y : Unit × mm_M), rc 3 M = some y → ∀ (Q : Option Value → ak_H → Prop), Q none (mm_H y.2) → Ev Z (d + 8) 91 0 [some (.ref t), none] [] (mm_H M) Q) (hrc4 : ∀ (M : mm_M) (y : Unit × mm_M), rc 4 M = some y → ∀ (Q : Option Value → ak_H → Prop), Q none (mm_H y.2) → Ev Z (d + 8) 92 0 [some (.ref t), none, none] [] (mm_H M) Q) (hrc5 : ∀ (M : mm_M) (y : Unit × mm_M), rc 5 M = some y → ∀ (Q : Option Value → ak_H → Prop), Q none (mm_H y.2) → Ev Z (d + 8) 93 0 [some (.ref t), none] [] (mm_H M) Q) (hrc6 : ∀ (M : mm_M) (y : Unit × mm_M), rc 6 M = some y → ∀ (Q : Option Value → ak_H → Prop), Q none (mm_H y.2) → Ev Z (d + 8) 94 0 [some (.ref t)] [] (mm_H M) Q) (M : mm_M) (ht : mm_is10 t = true) {y : Unit × mm_M} (hf : tx_readBoth_b rc t M = some y) {Q : Option Value → ak_H → Prop} (hq : Q none (mm_H y.2)) : Ev Z (d + 9) 89 0 [some (.ref t), none] [] (mm_H M) Q := by
  rw [tx_readBoth_b] at hf
  refine e_aload_n hm_89 rfl rfl ?_
  obtain ⟨y1, hky1, hf⟩ := mm_bd hf
  refine e_virt hm_89 rfl rfl rfl (mm_cl10 ht) (Nat.le_of_ble_eq_true rfl) hm_90 rfl rfl (hrc2 _ _ hky1 _ ?_)
  show Ev Z _ 89 4 [some (.ref t), none] [] (mm_H y1.2) Q
  refine e_iconst hm_89 rfl kc_iconst_0 ?_
  refine e_istore_n (L2 := [some (.ref t), some (.int (0 : Int32))]) hm_89 rfl rfl ?_
  obtain ⟨y2, hky2, hf⟩ := mm_bd hf
  refine e_forget (L' := [some (.ref t), some (.int (0 : Int32))]) (lf_k (lf_k lf_0)) (lc_89_6 t rc hrc0 hrc1 hrc2 hrc3 hrc4 hrc5 hrc6 ht (d := _) 300 (0 : Int32) y1.2 Q hky2 ?_)
  show Ev Z _ 89 43 [none, none] [] (mm_H y2.2) Q
  obtain rfl := Option.some.inj hf
  exact e_vret hm_89 rfl rfl hq
def tx_readNot_b (rc : Nat → mm_M → Option (Unit × mm_M)) (t : Nat) (M : mm_M) : Option (Unit × mm_M) :=
  if (M.1 t 8) = (261 : Int32) then
    (tx_openOne t M).bind fun y2 =>
    if y2.1 = (0 : Int32) then
      some ((), y2.2)
    else
      (rc 2 y2.2).bind fun y4 =>
      (tx_add t (-8 : Int32) (ak_up y4.2.1 t 10 ((y4.2.1 t 10) - (1 : Int32)), y4.2.2)).bind fun y5 =>
      some ((), y5.2)
  else
    (rc 3 M).bind fun y6 =>
    some ((), y6.2)
set_option maxRecDepth 20000 in
set_option maxHeartbeats 4000000 in
theorem cb_90 {Z : ak_Z} {d : Nat} (t : Nat) (rc : Nat → mm_M → Option (Unit × mm_M)) (hrc0 : ∀ (M : mm_M) (y : Unit × mm_M), rc 0 M = some y → ∀ (Q : Option Value → ak_H → Prop), Q none (mm_H y.2) → Ev Z (d + 8) 88 0 [some (.ref t), none] [] (mm_H M) Q) (hrc1 : ∀ (M : mm_M) (y : Unit × mm_M), rc 1 M = some y → ∀ (Q : Option Value → ak_H → Prop), Q none (mm_H y.2) → Ev Z (d + 8) 89 0 [some (.ref t), none] [] (mm_H M) Q) (hrc2 : ∀ (M : mm_M) (y : Unit × mm_M), rc 2 M = some y → ∀ (Q : Option Value → ak_H → Prop), Q none (mm_H y.2) → Ev Z (d + 8) 90 0 [some (.ref t)] [] (mm_H M) Q) (hrc3 : ∀ (M : mm_M) (y : Unit × mm_M), rc 3 M = some y → ∀ (Q : Option Value → ak_H → Prop), Q none (mm_H y.2) → Ev Z (d + 8) 91 0 [some (.ref t), none] [] (mm_H M) Q) (hrc4 : ∀ (M : mm_M) (y : Unit × mm_M), rc 4 M = some y → ∀ (Q : Option Value → ak_H → Prop), Q none (mm_H y.2) → Ev Z (d + 8) 92 0 [some (.ref t), none, none] [] (mm_H M) Q) (hrc5 : ∀ (M : mm_M) (y : Unit × mm_M), rc 5 M = some y → ∀ (Q : Option Value → ak_H → Prop), Q none (mm_H y.2) → Ev Z (d + 8) 93 0 [some (.ref t), none] [] (mm_H M) Q) (hrc6 : ∀ (M : mm_M) (y : Unit × mm_M), rc 6 M = some y → ∀ (Q : Option Value → ak_H → Prop), Q none (mm_H y.2) → Ev Z (d + 8) 94 0 [some (.ref t)] [] (mm_H M) Q) (M : mm_M) (ht : mm_is10 t = true) {y : Unit × mm_M} (hf : tx_readNot_b rc t M = some y) {Q : Option Value → ak_H → Prop} (hq : Q none (mm_H y.2)) : Ev Z (d + 9) 90 0 [some (.ref t)] [] (mm_H M) Q := by
  rw [tx_readNot_b] at hf
  refine e_aload_n hm_90 rfl rfl ?_
  refine e_getI hm_90 rfl (mm_cl10 ht) rfl ?_
  refine e_sipush hm_90 rfl kc_sipush_261 ?_
  by_cases hc1 : (M.1 t 8) = (261 : Int32)
  · rw [if_pos hc1] at hf
    refine e_ic_t (t := 17) hm_90 rfl (ct_eq hc1) rfl ?_
    refine e_aload_n hm_90 rfl rfl ?_
    obtain ⟨y2, hky2, hf⟩ := mm_bd hf
    refine e_virt hm_90 rfl rfl rfl (mm_cl10 ht) (Nat.le_of_ble_eq_true rfl) hm_96 rfl rfl (c_96 t M ht hky2 ?_)
    show Ev Z _ 90 21 [some (.ref t)] [.int y2.1] (mm_H y2.2) Q
    by_cases hc3 : y2.1 = (0 : Int32)
    · rw [if_pos hc3] at hf
      refine e_if_t (t := 44) hm_90 rfl (ct_eq hc3) rfl ?_
      obtain rfl := Option.some.inj hf
      exact e_vret hm_90 rfl rfl hq
    · rw [if_neg hc3] at hf
      refine e_if_f hm_90 rfl (cf_eq hc3) ?_
      refine e_aload_n hm_90 rfl rfl ?_
      obtain ⟨y4, hky4, hf⟩ := mm_bd hf
      refine e_virt hm_90 rfl rfl rfl (mm_cl10 ht) (Nat.le_of_ble_eq_true rfl) hm_90 rfl rfl (hrc2 _ _ hky4 _ ?_)
      show Ev Z _ 90 28 [some (.ref t)] [] (mm_H y4.2) Q
      refine e_aload_n hm_90 rfl rfl ?_
      refine e_dupa hm_90 rfl ?_
      refine e_getI hm_90 rfl (mm_cl10 ht) rfl ?_
      refine e_iconst hm_90 rfl kc_iconst_1 ?_
      refine e_isub hm_90 rfl ?_
      refine e_putI hm_90 rfl (mm_cl10 ht) rfl ?_
      refine e_aload_n hm_90 rfl rfl ?_
      refine e_bipush hm_90 rfl kc_bipush_m8 ?_
      obtain ⟨y5, hky5, hf⟩ := mm_bd hf
      refine e_virt hm_90 rfl rfl rfl (mm_cl10 ht) (Nat.le_of_ble_eq_true rfl) hm_10 rfl rfl (c_10 t (-8 : Int32) (ak_up y4.2.1 t 10 ((y4.2.1 t 10) - (1 : Int32)), y4.2.2) ht hky5 ?_)
      show Ev Z _ 90 44 [some (.ref t)] [] (mm_H y5.2) Q
      obtain rfl := Option.some.inj hf
      exact e_vret hm_90 rfl rfl hq
  · rw [if_neg hc1] at hf
    refine e_ic_f hm_90 rfl (cf_eq hc1) ?_
    refine e_aload_n hm_90 rfl rfl ?_
    obtain ⟨y6, hky6, hf⟩ := mm_bd hf
    refine e_virt hm_90 rfl rfl rfl (mm_cl10 ht) (Nat.le_of_ble_eq_true rfl) hm_91 rfl rfl (hrc3 _ _ hky6 _ ?_)
    show Ev Z _ 90 14 [some (.ref t)] [] (mm_H y6.2) Q
    refine e_goto (t := 44) hm_90 rfl rfl ?_
    obtain rfl := Option.some.inj hf
    exact e_vret hm_90 rfl rfl hq
def tx_readComparison_b (rc : Nat → mm_M → Option (Unit × mm_M)) (t : Nat) (M : mm_M) : Option (Unit × mm_M) :=
  (rc 4 M).bind fun y1 =>
  if (y1.2.1 t 8) = (60 : Int32) then
    if (y1.2.1 t 8) = (60 : Int32) then
      (tx_advance t y1.2).bind fun y4 =>
      (rc 4 y4.2).bind fun y5 =>
      (tx_add t (-12 : Int32) y5.2).bind fun y6 =>
      some ((), y6.2)
    else
      (tx_advance t y1.2).bind fun y7 =>
      (rc 4 y7.2).bind fun y8 =>
      (tx_add t (-13 : Int32) y8.2).bind fun y9 =>
      some ((), y9.2)
  else
    if (y1.2.1 t 8) = (61 : Int32) then
      if (y1.2.1 t 8) = (60 : Int32) then
        (tx_advance t y1.2).bind fun y12 =>
        (rc 4 y12.2).bind fun y13 =>
        (tx_add t (-12 : Int32) y13.2).bind fun y14 =>
        some ((), y14.2)
      else
        (tx_advance t y1.2).bind fun y15 =>
        (rc 4 y15.2).bind fun y16 =>
        (tx_add t (-13 : Int32) y16.2).bind fun y17 =>
        some ((), y17.2)
    else
      some ((), y1.2)
set_option maxRecDepth 20000 in
set_option maxHeartbeats 4000000 in
theorem cb_91 {Z : ak_Z} {d : Nat} (t : Nat) (rc : Nat → mm_M → Option (Unit × mm_M)) (hrc0 : ∀ (M : mm_M) (y : Unit × mm_M), rc 0 M = some y → ∀ (Q : Option Value → ak_H → Prop), Q none (mm_H y.2) → Ev Z (d + 8) 88 0 [some (.ref t), none] [] (mm_H M) Q) (hrc1 : ∀ (M : mm_M) (y : Unit × mm_M), rc 1 M = some y → ∀ (Q : Option Value → ak_H → Prop), Q none (mm_H y.2) → Ev Z (d + 8) 89 0 [some (.ref t), none] [] (mm_H M) Q) (hrc2 : ∀ (M : mm_M) (y : Unit × mm_M), rc 2 M = some y → ∀ (Q : Option Value → ak_H → Prop), Q none (mm_H y.2) → Ev Z (d + 8) 90 0 [some (.ref t)] [] (mm_H M) Q) (hrc3 : ∀ (M : mm_M) (y : Unit × mm_M), rc 3 M = some y → ∀ (Q : Option Value → ak_H → Prop), Q none (mm_H y.2) → Ev Z (d + 8) 91 0 [some (.ref t), none] [] (mm_H M) Q) (hrc4 : ∀ (M : mm_M) (y : Unit × mm_M), rc 4 M = some y → ∀ (Q : Option Value → ak_H → Prop), Q none (mm_H y.2) → Ev Z (d + 8) 92 0 [some (.ref t), none, none] [] (mm_H M) Q) (hrc5 : ∀ (M : mm_M) (y : Unit × mm_M), rc 5 M = some y → ∀ (Q : Option Value → ak_H → Prop), Q none (mm_H y.2) → Ev Z (d + 8) 93 0 [some (.ref t), none] [] (mm_H M) Q) (hrc6 : ∀ (M : mm_M) (y : Unit × mm_M), rc 6 M = some y → ∀ (Q : Option Value → ak_H → Prop), Q none (mm_H y.2) → Ev Z (d + 8) 94 0 [some (.ref t)] [] (mm_H M) Q) (M : mm_M) (ht : mm_is10 t = true) {y : Unit × mm_M} (hf : tx_readComparison_b rc t M = some y) {Q : Option Value → ak_H → Prop} (hq : Q none (mm_H y.2)) : Ev Z (d + 9) 91 0 [some (.ref t), none] [] (mm_H M) Q := by
  rw [tx_readComparison_b] at hf
  refine e_aload_n hm_91 rfl rfl ?_
  obtain ⟨y1, hky1, hf⟩ := mm_bd hf
  refine e_virt hm_91 rfl rfl rfl (mm_cl10 ht) (Nat.le_of_ble_eq_true rfl) hm_92 rfl rfl (hrc4 _ _ hky1 _ ?_)
  show Ev Z _ 91 4 [some (.ref t), none] [] (mm_H y1.2) Q
  refine e_aload_n hm_91 rfl rfl ?_
  refine e_getI hm_91 rfl (mm_cl10 ht) rfl ?_
  refine e_bipush hm_91 rfl kc_bipush_60 ?_
  by_cases hc2 : (y1.2.1 t 8) = (60 : Int32)
  · rw [if_pos hc2] at hf
    refine e_ic_t (t := 22) hm_91 rfl (ct_eq hc2) rfl ?_
    refine e_aload_n hm_91 rfl rfl ?_
    refine e_getI hm_91 rfl (mm_cl10 ht) rfl ?_
    refine e_bipush hm_91 rfl kc_bipush_60 ?_
    by_cases hc3 : (y1.2.1 t 8) = (60 : Int32)
    · rw [if_pos hc3] at hf
      refine e_ic_f hm_91 rfl (cf_ne hc3) ?_
      refine e_bipush hm_91 rfl kc_bipush_m12 ?_
      refine e_goto (t := 38) hm_91 rfl rfl ?_
      refine e_istore_n (L2 := [some (.ref t), some (.int (-12 : Int32))]) hm_91 rfl rfl ?_
      refine e_aload_n hm_91 rfl rfl ?_
      obtain ⟨y4, hky4, hf⟩ := mm_bd hf
      refine e_virt hm_91 rfl rfl rfl (mm_cl10 ht) (Nat.le_of_ble_eq_true rfl) hm_65 rfl rfl (c_65 t y1.2 ht hky4 ?_)
      show Ev Z _ 91 43 [some (.ref t), some (.int (-12 : Int32))] [] (mm_H y4.2) Q
      refine e_aload_n hm_91 rfl rfl ?_
      obtain ⟨y5, hky5, hf⟩ := mm_bd hf
      refine e_virt hm_91 rfl rfl rfl (mm_cl10 ht) (Nat.le_of_ble_eq_true rfl) hm_92 rfl rfl (hrc4 _ _ hky5 _ ?_)
      show Ev Z _ 91 47 [some (.ref t), some (.int (-12 : Int32))] [] (mm_H y5.2) Q
      refine e_aload_n hm_91 rfl rfl ?_
      refine e_iload_n hm_91 rfl rfl ?_
      obtain ⟨y6, hky6, hf⟩ := mm_bd hf
      refine e_virt hm_91 rfl rfl rfl (mm_cl10 ht) (Nat.le_of_ble_eq_true rfl) hm_10 rfl rfl (c_10 t (-12 : Int32) y5.2 ht hky6 ?_)
      show Ev Z _ 91 52 [some (.ref t), some (.int (-12 : Int32))] [] (mm_H y6.2) Q
      obtain rfl := Option.some.inj hf
      exact e_vret hm_91 rfl rfl hq
    · rw [if_neg hc3] at hf
      refine e_ic_t (t := 36) hm_91 rfl (ct_ne hc3) rfl ?_
      refine e_bipush hm_91 rfl kc_bipush_m13 ?_
      refine e_istore_n (L2 := [some (.ref t), some (.int (-13 : Int32))]) hm_91 rfl rfl ?_
      refine e_aload_n hm_91 rfl rfl ?_
      obtain ⟨y7, hky7, hf⟩ := mm_bd hf
      refine e_virt hm_91 rfl rfl rfl (mm_cl10 ht) (Nat.le_of_ble_eq_true rfl) hm_65 rfl rfl (c_65 t y1.2 ht hky7 ?_)
      show Ev Z _ 91 43 [some (.ref t), some (.int (-13 : Int32))] [] (mm_H y7.2) Q
      refine e_aload_n hm_91 rfl rfl ?_
      obtain ⟨y8, hky8, hf⟩ := mm_bd hf
      refine e_virt hm_91 rfl rfl rfl (mm_cl10 ht) (Nat.le_of_ble_eq_true rfl) hm_92 rfl rfl (hrc4 _ _ hky8 _ ?_)
      show Ev Z _ 91 47 [some (.ref t), some (.int (-13 : Int32))] [] (mm_H y8.2) Q
      refine e_aload_n hm_91 rfl rfl ?_
      refine e_iload_n hm_91 rfl rfl ?_
      obtain ⟨y9, hky9, hf⟩ := mm_bd hf
      refine e_virt hm_91 rfl rfl rfl (mm_cl10 ht) (Nat.le_of_ble_eq_true rfl) hm_10 rfl rfl (c_10 t (-13 : Int32) y8.2 ht hky9 ?_)
      show Ev Z _ 91 52 [some (.ref t), some (.int (-13 : Int32))] [] (mm_H y9.2) Q
      obtain rfl := Option.some.inj hf
      exact e_vret hm_91 rfl rfl hq
  · rw [if_neg hc2] at hf
    refine e_ic_f hm_91 rfl (cf_eq hc2) ?_
    refine e_aload_n hm_91 rfl rfl ?_
    refine e_getI hm_91 rfl (mm_cl10 ht) rfl ?_
    refine e_bipush hm_91 rfl kc_bipush_61 ?_
    by_cases hc10 : (y1.2.1 t 8) = (61 : Int32)
    · rw [if_pos hc10] at hf
      refine e_ic_f hm_91 rfl (cf_ne hc10) ?_
      refine e_aload_n hm_91 rfl rfl ?_
      refine e_getI hm_91 rfl (mm_cl10 ht) rfl ?_
      refine e_bipush hm_91 rfl kc_bipush_60 ?_
      by_cases hc11 : (y1.2.1 t 8) = (60 : Int32)
      · rw [if_pos hc11] at hf
        refine e_ic_f hm_91 rfl (cf_ne hc11) ?_
        refine e_bipush hm_91 rfl kc_bipush_m12 ?_
        refine e_goto (t := 38) hm_91 rfl rfl ?_
        refine e_istore_n (L2 := [some (.ref t), some (.int (-12 : Int32))]) hm_91 rfl rfl ?_
        refine e_aload_n hm_91 rfl rfl ?_
        obtain ⟨y12, hky12, hf⟩ := mm_bd hf
        refine e_virt hm_91 rfl rfl rfl (mm_cl10 ht) (Nat.le_of_ble_eq_true rfl) hm_65 rfl rfl (c_65 t y1.2 ht hky12 ?_)
        show Ev Z _ 91 43 [some (.ref t), some (.int (-12 : Int32))] [] (mm_H y12.2) Q
        refine e_aload_n hm_91 rfl rfl ?_
        obtain ⟨y13, hky13, hf⟩ := mm_bd hf
        refine e_virt hm_91 rfl rfl rfl (mm_cl10 ht) (Nat.le_of_ble_eq_true rfl) hm_92 rfl rfl (hrc4 _ _ hky13 _ ?_)
        show Ev Z _ 91 47 [some (.ref t), some (.int (-12 : Int32))] [] (mm_H y13.2) Q
        refine e_aload_n hm_91 rfl rfl ?_
        refine e_iload_n hm_91 rfl rfl ?_
        obtain ⟨y14, hky14, hf⟩ := mm_bd hf
        refine e_virt hm_91 rfl rfl rfl (mm_cl10 ht) (Nat.le_of_ble_eq_true rfl) hm_10 rfl rfl (c_10 t (-12 : Int32) y13.2 ht hky14 ?_)
        show Ev Z _ 91 52 [some (.ref t), some (.int (-12 : Int32))] [] (mm_H y14.2) Q
        obtain rfl := Option.some.inj hf
        exact e_vret hm_91 rfl rfl hq
      · rw [if_neg hc11] at hf
        refine e_ic_t (t := 36) hm_91 rfl (ct_ne hc11) rfl ?_
        refine e_bipush hm_91 rfl kc_bipush_m13 ?_
        refine e_istore_n (L2 := [some (.ref t), some (.int (-13 : Int32))]) hm_91 rfl rfl ?_
        refine e_aload_n hm_91 rfl rfl ?_
        obtain ⟨y15, hky15, hf⟩ := mm_bd hf
        refine e_virt hm_91 rfl rfl rfl (mm_cl10 ht) (Nat.le_of_ble_eq_true rfl) hm_65 rfl rfl (c_65 t y1.2 ht hky15 ?_)
        show Ev Z _ 91 43 [some (.ref t), some (.int (-13 : Int32))] [] (mm_H y15.2) Q
        refine e_aload_n hm_91 rfl rfl ?_
        obtain ⟨y16, hky16, hf⟩ := mm_bd hf
        refine e_virt hm_91 rfl rfl rfl (mm_cl10 ht) (Nat.le_of_ble_eq_true rfl) hm_92 rfl rfl (hrc4 _ _ hky16 _ ?_)
        show Ev Z _ 91 47 [some (.ref t), some (.int (-13 : Int32))] [] (mm_H y16.2) Q
        refine e_aload_n hm_91 rfl rfl ?_
        refine e_iload_n hm_91 rfl rfl ?_
        obtain ⟨y17, hky17, hf⟩ := mm_bd hf
        refine e_virt hm_91 rfl rfl rfl (mm_cl10 ht) (Nat.le_of_ble_eq_true rfl) hm_10 rfl rfl (c_10 t (-13 : Int32) y16.2 ht hky17 ?_)
        show Ev Z _ 91 52 [some (.ref t), some (.int (-13 : Int32))] [] (mm_H y17.2) Q
        obtain rfl := Option.some.inj hf
        exact e_vret hm_91 rfl rfl hq
    · rw [if_neg hc10] at hf
      refine e_ic_t (t := 52) hm_91 rfl (ct_ne hc10) rfl ?_
      obtain rfl := Option.some.inj hf
      exact e_vret hm_91 rfl rfl hq
def tx_readSum_l6 (rc : Nat → mm_M → Option (Unit × mm_M)) (t : Nat) : Nat → Int32 → mm_M → Option (((Unit) × mm_M))
  | 0, _, _ => none
  | n + 1, x1, M =>
    if x1 < (160 : Int32) then
      if (M.1 t 8) = (43 : Int32) then
        if (M.1 t 8) = (43 : Int32) then
          (tx_advance t M).bind fun y4 =>
          (rc 5 y4.2).bind fun y5 =>
          (tx_add t (-9 : Int32) y5.2).bind fun y6 =>
          tx_readSum_l6 rc t n (x1 + (1 : Int32)) y6.2
        else
          (tx_advance t M).bind fun y7 =>
          (rc 5 y7.2).bind fun y8 =>
          (tx_add t (-10 : Int32) y8.2).bind fun y9 =>
          tx_readSum_l6 rc t n (x1 + (1 : Int32)) y9.2
      else
        if (M.1 t 8) = (45 : Int32) then
          if (M.1 t 8) = (43 : Int32) then
            (tx_advance t M).bind fun y12 =>
            (rc 5 y12.2).bind fun y13 =>
            (tx_add t (-9 : Int32) y13.2).bind fun y14 =>
            tx_readSum_l6 rc t n (x1 + (1 : Int32)) y14.2
          else
            (tx_advance t M).bind fun y15 =>
            (rc 5 y15.2).bind fun y16 =>
            (tx_add t (-10 : Int32) y16.2).bind fun y17 =>
            tx_readSum_l6 rc t n (x1 + (1 : Int32)) y17.2
        else
          some ((), M)
    else
      some ((), M)
set_option maxRecDepth 20000 in
set_option maxHeartbeats 4000000 in
theorem lc_92_6 {Z : ak_Z} {d : Nat} (t : Nat) (rc : Nat → mm_M → Option (Unit × mm_M)) (hrc0 : ∀ (M : mm_M) (y : Unit × mm_M), rc 0 M = some y → ∀ (Q : Option Value → ak_H → Prop), Q none (mm_H y.2) → Ev Z (d + 8) 88 0 [some (.ref t), none] [] (mm_H M) Q) (hrc1 : ∀ (M : mm_M) (y : Unit × mm_M), rc 1 M = some y → ∀ (Q : Option Value → ak_H → Prop), Q none (mm_H y.2) → Ev Z (d + 8) 89 0 [some (.ref t), none] [] (mm_H M) Q) (hrc2 : ∀ (M : mm_M) (y : Unit × mm_M), rc 2 M = some y → ∀ (Q : Option Value → ak_H → Prop), Q none (mm_H y.2) → Ev Z (d + 8) 90 0 [some (.ref t)] [] (mm_H M) Q) (hrc3 : ∀ (M : mm_M) (y : Unit × mm_M), rc 3 M = some y → ∀ (Q : Option Value → ak_H → Prop), Q none (mm_H y.2) → Ev Z (d + 8) 91 0 [some (.ref t), none] [] (mm_H M) Q) (hrc4 : ∀ (M : mm_M) (y : Unit × mm_M), rc 4 M = some y → ∀ (Q : Option Value → ak_H → Prop), Q none (mm_H y.2) → Ev Z (d + 8) 92 0 [some (.ref t), none, none] [] (mm_H M) Q) (hrc5 : ∀ (M : mm_M) (y : Unit × mm_M), rc 5 M = some y → ∀ (Q : Option Value → ak_H → Prop), Q none (mm_H y.2) → Ev Z (d + 8) 93 0 [some (.ref t), none] [] (mm_H M) Q) (hrc6 : ∀ (M : mm_M) (y : Unit × mm_M), rc 6 M = some y → ∀ (Q : Option Value → ak_H → Prop), Q none (mm_H y.2) → Ev Z (d + 8) 94 0 [some (.ref t)] [] (mm_H M) Q) (ht : mm_is10 t = true) : ∀ (n : Nat) (x1 : Int32) (M : mm_M) {y : ((Unit) × mm_M)} (Q : Option Value → ak_H → Prop), tx_readSum_l6 rc t n x1 M = some y → (Ev Z (d + 9) 92 67 [none, none, none] [] (mm_H y.2) Q) → Ev Z (d + 9) 92 6 [some (.ref t), some (.int x1), none] [] (mm_H M) Q := by
  intro n
  induction n with
  | zero => intro x1 M y Q hf; cases hf
  | succ n ih =>
    intro x1 M y Q hf hq
    rw [tx_readSum_l6] at hf
    refine e_iload_n hm_92 rfl rfl ?_
    refine e_sipush hm_92 rfl kc_sipush_160 ?_
    by_cases hc1 : x1 < (160 : Int32)
    · rw [if_pos hc1] at hf
      refine e_ic_f hm_92 rfl (cf_ge hc1) ?_
      refine e_aload_n hm_92 rfl rfl ?_
      refine e_getI hm_92 rfl (mm_cl10 ht) rfl ?_
      refine e_bipush hm_92 rfl kc_bipush_43 ?_
      by_cases hc2 : (M.1 t 8) = (43 : Int32)
      · rw [if_pos hc2] at hf
        refine e_ic_t (t := 31) hm_92 rfl (ct_eq hc2) rfl ?_
        refine e_aload_n hm_92 rfl rfl ?_
        refine e_getI hm_92 rfl (mm_cl10 ht) rfl ?_
        refine e_bipush hm_92 rfl kc_bipush_43 ?_
        by_cases hc3 : (M.1 t 8) = (43 : Int32)
        · rw [if_pos hc3] at hf
          refine e_ic_f hm_92 rfl (cf_ne hc3) ?_
          refine e_bipush hm_92 rfl kc_bipush_m9 ?_
          refine e_goto (t := 47) hm_92 rfl rfl ?_
          refine e_istore_n (L2 := [some (.ref t), some (.int x1), some (.int (-9 : Int32))]) hm_92 rfl rfl ?_
          refine e_aload_n hm_92 rfl rfl ?_
          obtain ⟨y4, hky4, hf⟩ := mm_bd hf
          refine e_virt hm_92 rfl rfl rfl (mm_cl10 ht) (Nat.le_of_ble_eq_true rfl) hm_65 rfl rfl (c_65 t M ht hky4 ?_)
          show Ev Z _ 92 52 [some (.ref t), some (.int x1), some (.int (-9 : Int32))] [] (mm_H y4.2) Q
          refine e_aload_n hm_92 rfl rfl ?_
          obtain ⟨y5, hky5, hf⟩ := mm_bd hf
          refine e_virt hm_92 rfl rfl rfl (mm_cl10 ht) (Nat.le_of_ble_eq_true rfl) hm_93 rfl rfl (hrc5 _ _ hky5 _ ?_)
          show Ev Z _ 92 56 [some (.ref t), some (.int x1), some (.int (-9 : Int32))] [] (mm_H y5.2) Q
          refine e_aload_n hm_92 rfl rfl ?_
          refine e_iload_n hm_92 rfl rfl ?_
          obtain ⟨y6, hky6, hf⟩ := mm_bd hf
          refine e_virt hm_92 rfl rfl rfl (mm_cl10 ht) (Nat.le_of_ble_eq_true rfl) hm_10 rfl rfl (c_10 t (-9 : Int32) y5.2 ht hky6 ?_)
          show Ev Z _ 92 61 [some (.ref t), some (.int x1), some (.int (-9 : Int32))] [] (mm_H y6.2) Q
          refine e_iinc (L2 := [some (.ref t), some (.int (x1 + (1 : Int32))), some (.int (-9 : Int32))]) hm_92 rfl kc_iinc_1 rfl rfl ?_
          refine e_goto (t := 6) hm_92 rfl rfl ?_
          exact e_forget (L' := [some (.ref t), some (.int (x1 + (1 : Int32))), none]) (lf_k (lf_k (lf_d lf_0))) (ih (x1 + (1 : Int32)) y6.2 Q hf hq)
        · rw [if_neg hc3] at hf
          refine e_ic_t (t := 45) hm_92 rfl (ct_ne hc3) rfl ?_
          refine e_bipush hm_92 rfl kc_bipush_m10 ?_
          refine e_istore_n (L2 := [some (.ref t), some (.int x1), some (.int (-10 : Int32))]) hm_92 rfl rfl ?_
          refine e_aload_n hm_92 rfl rfl ?_
          obtain ⟨y7, hky7, hf⟩ := mm_bd hf
          refine e_virt hm_92 rfl rfl rfl (mm_cl10 ht) (Nat.le_of_ble_eq_true rfl) hm_65 rfl rfl (c_65 t M ht hky7 ?_)
          show Ev Z _ 92 52 [some (.ref t), some (.int x1), some (.int (-10 : Int32))] [] (mm_H y7.2) Q
          refine e_aload_n hm_92 rfl rfl ?_
          obtain ⟨y8, hky8, hf⟩ := mm_bd hf
          refine e_virt hm_92 rfl rfl rfl (mm_cl10 ht) (Nat.le_of_ble_eq_true rfl) hm_93 rfl rfl (hrc5 _ _ hky8 _ ?_)
          show Ev Z _ 92 56 [some (.ref t), some (.int x1), some (.int (-10 : Int32))] [] (mm_H y8.2) Q
          refine e_aload_n hm_92 rfl rfl ?_
          refine e_iload_n hm_92 rfl rfl ?_
          obtain ⟨y9, hky9, hf⟩ := mm_bd hf
          refine e_virt hm_92 rfl rfl rfl (mm_cl10 ht) (Nat.le_of_ble_eq_true rfl) hm_10 rfl rfl (c_10 t (-10 : Int32) y8.2 ht hky9 ?_)
          show Ev Z _ 92 61 [some (.ref t), some (.int x1), some (.int (-10 : Int32))] [] (mm_H y9.2) Q
          refine e_iinc (L2 := [some (.ref t), some (.int (x1 + (1 : Int32))), some (.int (-10 : Int32))]) hm_92 rfl kc_iinc_1 rfl rfl ?_
          refine e_goto (t := 6) hm_92 rfl rfl ?_
          exact e_forget (L' := [some (.ref t), some (.int (x1 + (1 : Int32))), none]) (lf_k (lf_k (lf_d lf_0))) (ih (x1 + (1 : Int32)) y9.2 Q hf hq)
      · rw [if_neg hc2] at hf
        refine e_ic_f hm_92 rfl (cf_eq hc2) ?_
        refine e_aload_n hm_92 rfl rfl ?_
        refine e_getI hm_92 rfl (mm_cl10 ht) rfl ?_
        refine e_bipush hm_92 rfl kc_bipush_45 ?_
        by_cases hc10 : (M.1 t 8) = (45 : Int32)
        · rw [if_pos hc10] at hf
          refine e_ic_f hm_92 rfl (cf_ne hc10) ?_
          refine e_aload_n hm_92 rfl rfl ?_
          refine e_getI hm_92 rfl (mm_cl10 ht) rfl ?_
          refine e_bipush hm_92 rfl kc_bipush_43 ?_
          by_cases hc11 : (M.1 t 8) = (43 : Int32)
          · rw [if_pos hc11] at hf
            refine e_ic_f hm_92 rfl (cf_ne hc11) ?_
            refine e_bipush hm_92 rfl kc_bipush_m9 ?_
            refine e_goto (t := 47) hm_92 rfl rfl ?_
            refine e_istore_n (L2 := [some (.ref t), some (.int x1), some (.int (-9 : Int32))]) hm_92 rfl rfl ?_
            refine e_aload_n hm_92 rfl rfl ?_
            obtain ⟨y12, hky12, hf⟩ := mm_bd hf
            refine e_virt hm_92 rfl rfl rfl (mm_cl10 ht) (Nat.le_of_ble_eq_true rfl) hm_65 rfl rfl (c_65 t M ht hky12 ?_)
            show Ev Z _ 92 52 [some (.ref t), some (.int x1), some (.int (-9 : Int32))] [] (mm_H y12.2) Q
            refine e_aload_n hm_92 rfl rfl ?_
            obtain ⟨y13, hky13, hf⟩ := mm_bd hf
            refine e_virt hm_92 rfl rfl rfl (mm_cl10 ht) (Nat.le_of_ble_eq_true rfl) hm_93 rfl rfl (hrc5 _ _ hky13 _ ?_)
            show Ev Z _ 92 56 [some (.ref t), some (.int x1), some (.int (-9 : Int32))] [] (mm_H y13.2) Q
            refine e_aload_n hm_92 rfl rfl ?_
            refine e_iload_n hm_92 rfl rfl ?_
            obtain ⟨y14, hky14, hf⟩ := mm_bd hf
            refine e_virt hm_92 rfl rfl rfl (mm_cl10 ht) (Nat.le_of_ble_eq_true rfl) hm_10 rfl rfl (c_10 t (-9 : Int32) y13.2 ht hky14 ?_)
            show Ev Z _ 92 61 [some (.ref t), some (.int x1), some (.int (-9 : Int32))] [] (mm_H y14.2) Q
            refine e_iinc (L2 := [some (.ref t), some (.int (x1 + (1 : Int32))), some (.int (-9 : Int32))]) hm_92 rfl kc_iinc_1 rfl rfl ?_
            refine e_goto (t := 6) hm_92 rfl rfl ?_
            exact e_forget (L' := [some (.ref t), some (.int (x1 + (1 : Int32))), none]) (lf_k (lf_k (lf_d lf_0))) (ih (x1 + (1 : Int32)) y14.2 Q hf hq)
          · rw [if_neg hc11] at hf
            refine e_ic_t (t := 45) hm_92 rfl (ct_ne hc11) rfl ?_
            refine e_bipush hm_92 rfl kc_bipush_m10 ?_
            refine e_istore_n (L2 := [some (.ref t), some (.int x1), some (.int (-10 : Int32))]) hm_92 rfl rfl ?_
            refine e_aload_n hm_92 rfl rfl ?_
            obtain ⟨y15, hky15, hf⟩ := mm_bd hf
            refine e_virt hm_92 rfl rfl rfl (mm_cl10 ht) (Nat.le_of_ble_eq_true rfl) hm_65 rfl rfl (c_65 t M ht hky15 ?_)
            show Ev Z _ 92 52 [some (.ref t), some (.int x1), some (.int (-10 : Int32))] [] (mm_H y15.2) Q
            refine e_aload_n hm_92 rfl rfl ?_
            obtain ⟨y16, hky16, hf⟩ := mm_bd hf
            refine e_virt hm_92 rfl rfl rfl (mm_cl10 ht) (Nat.le_of_ble_eq_true rfl) hm_93 rfl rfl (hrc5 _ _ hky16 _ ?_)
            show Ev Z _ 92 56 [some (.ref t), some (.int x1), some (.int (-10 : Int32))] [] (mm_H y16.2) Q
            refine e_aload_n hm_92 rfl rfl ?_
            refine e_iload_n hm_92 rfl rfl ?_
            obtain ⟨y17, hky17, hf⟩ := mm_bd hf
            refine e_virt hm_92 rfl rfl rfl (mm_cl10 ht) (Nat.le_of_ble_eq_true rfl) hm_10 rfl rfl (c_10 t (-10 : Int32) y16.2 ht hky17 ?_)
            show Ev Z _ 92 61 [some (.ref t), some (.int x1), some (.int (-10 : Int32))] [] (mm_H y17.2) Q
            refine e_iinc (L2 := [some (.ref t), some (.int (x1 + (1 : Int32))), some (.int (-10 : Int32))]) hm_92 rfl kc_iinc_1 rfl rfl ?_
            refine e_goto (t := 6) hm_92 rfl rfl ?_
            exact e_forget (L' := [some (.ref t), some (.int (x1 + (1 : Int32))), none]) (lf_k (lf_k (lf_d lf_0))) (ih (x1 + (1 : Int32)) y17.2 Q hf hq)
        · rw [if_neg hc10] at hf
          refine e_ic_t (t := 67) hm_92 rfl (ct_ne hc10) rfl ?_
          obtain rfl := Option.some.inj hf
          exact e_forget (L' := [none, none, none]) (lf_d (lf_d (lf_k lf_0))) hq
    · rw [if_neg hc1] at hf
      refine e_ic_t (t := 67) hm_92 rfl (ct_ge hc1) rfl ?_
      obtain rfl := Option.some.inj hf
      exact e_forget (L' := [none, none, none]) (lf_d (lf_d (lf_k lf_0))) hq
def tx_readSum_b (rc : Nat → mm_M → Option (Unit × mm_M)) (t : Nat) (M : mm_M) : Option (Unit × mm_M) :=
  (rc 5 M).bind fun y1 =>
  (tx_readSum_l6 rc t 300 (0 : Int32) y1.2).bind fun y2 =>
  some ((), y2.2)
set_option maxRecDepth 20000 in
set_option maxHeartbeats 4000000 in
theorem cb_92 {Z : ak_Z} {d : Nat} (t : Nat) (rc : Nat → mm_M → Option (Unit × mm_M)) (hrc0 : ∀ (M : mm_M) (y : Unit × mm_M), rc 0 M = some y → ∀ (Q : Option Value → ak_H → Prop), Q none (mm_H y.2) → Ev Z (d + 8) 88 0 [some (.ref t), none] [] (mm_H M) Q) (hrc1 : ∀ (M : mm_M) (y : Unit × mm_M), rc 1 M = some y → ∀ (Q : Option Value → ak_H → Prop), Q none (mm_H y.2) → Ev Z (d + 8) 89 0 [some (.ref t), none] [] (mm_H M) Q) (hrc2 : ∀ (M : mm_M) (y : Unit × mm_M), rc 2 M = some y → ∀ (Q : Option Value → ak_H → Prop), Q none (mm_H y.2) → Ev Z (d + 8) 90 0 [some (.ref t)] [] (mm_H M) Q) (hrc3 : ∀ (M : mm_M) (y : Unit × mm_M), rc 3 M = some y → ∀ (Q : Option Value → ak_H → Prop), Q none (mm_H y.2) → Ev Z (d + 8) 91 0 [some (.ref t), none] [] (mm_H M) Q) (hrc4 : ∀ (M : mm_M) (y : Unit × mm_M), rc 4 M = some y → ∀ (Q : Option Value → ak_H → Prop), Q none (mm_H y.2) → Ev Z (d + 8) 92 0 [some (.ref t), none, none] [] (mm_H M) Q) (hrc5 : ∀ (M : mm_M) (y : Unit × mm_M), rc 5 M = some y → ∀ (Q : Option Value → ak_H → Prop), Q none (mm_H y.2) → Ev Z (d + 8) 93 0 [some (.ref t), none] [] (mm_H M) Q) (hrc6 : ∀ (M : mm_M) (y : Unit × mm_M), rc 6 M = some y → ∀ (Q : Option Value → ak_H → Prop), Q none (mm_H y.2) → Ev Z (d + 8) 94 0 [some (.ref t)] [] (mm_H M) Q) (M : mm_M) (ht : mm_is10 t = true) {y : Unit × mm_M} (hf : tx_readSum_b rc t M = some y) {Q : Option Value → ak_H → Prop} (hq : Q none (mm_H y.2)) : Ev Z (d + 9) 92 0 [some (.ref t), none, none] [] (mm_H M) Q := by
  rw [tx_readSum_b] at hf
  refine e_aload_n hm_92 rfl rfl ?_
  obtain ⟨y1, hky1, hf⟩ := mm_bd hf
  refine e_virt hm_92 rfl rfl rfl (mm_cl10 ht) (Nat.le_of_ble_eq_true rfl) hm_93 rfl rfl (hrc5 _ _ hky1 _ ?_)
  show Ev Z _ 92 4 [some (.ref t), none, none] [] (mm_H y1.2) Q
  refine e_iconst hm_92 rfl kc_iconst_0 ?_
  refine e_istore_n (L2 := [some (.ref t), some (.int (0 : Int32)), none]) hm_92 rfl rfl ?_
  obtain ⟨y2, hky2, hf⟩ := mm_bd hf
  refine e_forget (L' := [some (.ref t), some (.int (0 : Int32)), none]) (lf_k (lf_k (lf_k lf_0))) (lc_92_6 t rc hrc0 hrc1 hrc2 hrc3 hrc4 hrc5 hrc6 ht (d := _) 300 (0 : Int32) y1.2 Q hky2 ?_)
  show Ev Z _ 92 67 [none, none, none] [] (mm_H y2.2) Q
  obtain rfl := Option.some.inj hf
  exact e_vret hm_92 rfl rfl hq
def tx_readTerm_l6 (rc : Nat → mm_M → Option (Unit × mm_M)) (t : Nat) : Nat → Int32 → mm_M → Option (((Unit) × mm_M))
  | 0, _, _ => none
  | n + 1, x1, M =>
    if x1 < (160 : Int32) then
      if (M.1 t 8) = (42 : Int32) then
        (tx_advance t M).bind fun y3 =>
        (rc 6 y3.2).bind fun y4 =>
        (tx_add t (-11 : Int32) y4.2).bind fun y5 =>
        tx_readTerm_l6 rc t n (x1 + (1 : Int32)) y5.2
      else
        some ((), M)
    else
      some ((), M)
set_option maxRecDepth 20000 in
set_option maxHeartbeats 4000000 in
theorem lc_93_6 {Z : ak_Z} {d : Nat} (t : Nat) (rc : Nat → mm_M → Option (Unit × mm_M)) (hrc0 : ∀ (M : mm_M) (y : Unit × mm_M), rc 0 M = some y → ∀ (Q : Option Value → ak_H → Prop), Q none (mm_H y.2) → Ev Z (d + 8) 88 0 [some (.ref t), none] [] (mm_H M) Q) (hrc1 : ∀ (M : mm_M) (y : Unit × mm_M), rc 1 M = some y → ∀ (Q : Option Value → ak_H → Prop), Q none (mm_H y.2) → Ev Z (d + 8) 89 0 [some (.ref t), none] [] (mm_H M) Q) (hrc2 : ∀ (M : mm_M) (y : Unit × mm_M), rc 2 M = some y → ∀ (Q : Option Value → ak_H → Prop), Q none (mm_H y.2) → Ev Z (d + 8) 90 0 [some (.ref t)] [] (mm_H M) Q) (hrc3 : ∀ (M : mm_M) (y : Unit × mm_M), rc 3 M = some y → ∀ (Q : Option Value → ak_H → Prop), Q none (mm_H y.2) → Ev Z (d + 8) 91 0 [some (.ref t), none] [] (mm_H M) Q) (hrc4 : ∀ (M : mm_M) (y : Unit × mm_M), rc 4 M = some y → ∀ (Q : Option Value → ak_H → Prop), Q none (mm_H y.2) → Ev Z (d + 8) 92 0 [some (.ref t), none, none] [] (mm_H M) Q) (hrc5 : ∀ (M : mm_M) (y : Unit × mm_M), rc 5 M = some y → ∀ (Q : Option Value → ak_H → Prop), Q none (mm_H y.2) → Ev Z (d + 8) 93 0 [some (.ref t), none] [] (mm_H M) Q) (hrc6 : ∀ (M : mm_M) (y : Unit × mm_M), rc 6 M = some y → ∀ (Q : Option Value → ak_H → Prop), Q none (mm_H y.2) → Ev Z (d + 8) 94 0 [some (.ref t)] [] (mm_H M) Q) (ht : mm_is10 t = true) : ∀ (n : Nat) (x1 : Int32) (M : mm_M) {y : ((Unit) × mm_M)} (Q : Option Value → ak_H → Prop), tx_readTerm_l6 rc t n x1 M = some y → (Ev Z (d + 9) 93 42 [none, none] [] (mm_H y.2) Q) → Ev Z (d + 9) 93 6 [some (.ref t), some (.int x1)] [] (mm_H M) Q := by
  intro n
  induction n with
  | zero => intro x1 M y Q hf; cases hf
  | succ n ih =>
    intro x1 M y Q hf hq
    rw [tx_readTerm_l6] at hf
    refine e_iload_n hm_93 rfl rfl ?_
    refine e_sipush hm_93 rfl kc_sipush_160 ?_
    by_cases hc1 : x1 < (160 : Int32)
    · rw [if_pos hc1] at hf
      refine e_ic_f hm_93 rfl (cf_ge hc1) ?_
      refine e_aload_n hm_93 rfl rfl ?_
      refine e_getI hm_93 rfl (mm_cl10 ht) rfl ?_
      refine e_bipush hm_93 rfl kc_bipush_42 ?_
      by_cases hc2 : (M.1 t 8) = (42 : Int32)
      · rw [if_pos hc2] at hf
        refine e_ic_f hm_93 rfl (cf_ne hc2) ?_
        refine e_aload_n hm_93 rfl rfl ?_
        obtain ⟨y3, hky3, hf⟩ := mm_bd hf
        refine e_virt hm_93 rfl rfl rfl (mm_cl10 ht) (Nat.le_of_ble_eq_true rfl) hm_65 rfl rfl (c_65 t M ht hky3 ?_)
        show Ev Z _ 93 26 [some (.ref t), some (.int x1)] [] (mm_H y3.2) Q
        refine e_aload_n hm_93 rfl rfl ?_
        obtain ⟨y4, hky4, hf⟩ := mm_bd hf
        refine e_virt hm_93 rfl rfl rfl (mm_cl10 ht) (Nat.le_of_ble_eq_true rfl) hm_94 rfl rfl (hrc6 _ _ hky4 _ ?_)
        show Ev Z _ 93 30 [some (.ref t), some (.int x1)] [] (mm_H y4.2) Q
        refine e_aload_n hm_93 rfl rfl ?_
        refine e_bipush hm_93 rfl kc_bipush_m11 ?_
        obtain ⟨y5, hky5, hf⟩ := mm_bd hf
        refine e_virt hm_93 rfl rfl rfl (mm_cl10 ht) (Nat.le_of_ble_eq_true rfl) hm_10 rfl rfl (c_10 t (-11 : Int32) y4.2 ht hky5 ?_)
        show Ev Z _ 93 36 [some (.ref t), some (.int x1)] [] (mm_H y5.2) Q
        refine e_iinc (L2 := [some (.ref t), some (.int (x1 + (1 : Int32)))]) hm_93 rfl kc_iinc_1 rfl rfl ?_
        refine e_goto (t := 6) hm_93 rfl rfl ?_
        exact e_forget (L' := [some (.ref t), some (.int (x1 + (1 : Int32)))]) (lf_k (lf_k lf_0)) (ih (x1 + (1 : Int32)) y5.2 Q hf hq)
      · rw [if_neg hc2] at hf
        refine e_ic_t (t := 42) hm_93 rfl (ct_ne hc2) rfl ?_
        obtain rfl := Option.some.inj hf
        exact e_forget (L' := [none, none]) (lf_d (lf_d lf_0)) hq
    · rw [if_neg hc1] at hf
      refine e_ic_t (t := 42) hm_93 rfl (ct_ge hc1) rfl ?_
      obtain rfl := Option.some.inj hf
      exact e_forget (L' := [none, none]) (lf_d (lf_d lf_0)) hq
def tx_readTerm_b (rc : Nat → mm_M → Option (Unit × mm_M)) (t : Nat) (M : mm_M) : Option (Unit × mm_M) :=
  (rc 6 M).bind fun y1 =>
  (tx_readTerm_l6 rc t 300 (0 : Int32) y1.2).bind fun y2 =>
  some ((), y2.2)
set_option maxRecDepth 20000 in
set_option maxHeartbeats 4000000 in
theorem cb_93 {Z : ak_Z} {d : Nat} (t : Nat) (rc : Nat → mm_M → Option (Unit × mm_M)) (hrc0 : ∀ (M : mm_M) (y : Unit × mm_M), rc 0 M = some y → ∀ (Q : Option Value → ak_H → Prop), Q none (mm_H y.2) → Ev Z (d + 8) 88 0 [some (.ref t), none] [] (mm_H M) Q) (hrc1 : ∀ (M : mm_M) (y : Unit × mm_M), rc 1 M = some y → ∀ (Q : Option Value → ak_H → Prop), Q none (mm_H y.2) → Ev Z (d + 8) 89 0 [some (.ref t), none] [] (mm_H M) Q) (hrc2 : ∀ (M : mm_M) (y : Unit × mm_M), rc 2 M = some y → ∀ (Q : Option Value → ak_H → Prop), Q none (mm_H y.2) → Ev Z (d + 8) 90 0 [some (.ref t)] [] (mm_H M) Q) (hrc3 : ∀ (M : mm_M) (y : Unit × mm_M), rc 3 M = some y → ∀ (Q : Option Value → ak_H → Prop), Q none (mm_H y.2) → Ev Z (d + 8) 91 0 [some (.ref t), none] [] (mm_H M) Q) (hrc4 : ∀ (M : mm_M) (y : Unit × mm_M), rc 4 M = some y → ∀ (Q : Option Value → ak_H → Prop), Q none (mm_H y.2) → Ev Z (d + 8) 92 0 [some (.ref t), none, none] [] (mm_H M) Q) (hrc5 : ∀ (M : mm_M) (y : Unit × mm_M), rc 5 M = some y → ∀ (Q : Option Value → ak_H → Prop), Q none (mm_H y.2) → Ev Z (d + 8) 93 0 [some (.ref t), none] [] (mm_H M) Q) (hrc6 : ∀ (M : mm_M) (y : Unit × mm_M), rc 6 M = some y → ∀ (Q : Option Value → ak_H → Prop), Q none (mm_H y.2) → Ev Z (d + 8) 94 0 [some (.ref t)] [] (mm_H M) Q) (M : mm_M) (ht : mm_is10 t = true) {y : Unit × mm_M} (hf : tx_readTerm_b rc t M = some y) {Q : Option Value → ak_H → Prop} (hq : Q none (mm_H y.2)) : Ev Z (d + 9) 93 0 [some (.ref t), none] [] (mm_H M) Q := by
  rw [tx_readTerm_b] at hf
  refine e_aload_n hm_93 rfl rfl ?_
  obtain ⟨y1, hky1, hf⟩ := mm_bd hf
  refine e_virt hm_93 rfl rfl rfl (mm_cl10 ht) (Nat.le_of_ble_eq_true rfl) hm_94 rfl rfl (hrc6 _ _ hky1 _ ?_)
  show Ev Z _ 93 4 [some (.ref t), none] [] (mm_H y1.2) Q
  refine e_iconst hm_93 rfl kc_iconst_0 ?_
  refine e_istore_n (L2 := [some (.ref t), some (.int (0 : Int32))]) hm_93 rfl rfl ?_
  obtain ⟨y2, hky2, hf⟩ := mm_bd hf
  refine e_forget (L' := [some (.ref t), some (.int (0 : Int32))]) (lf_k (lf_k lf_0)) (lc_93_6 t rc hrc0 hrc1 hrc2 hrc3 hrc4 hrc5 hrc6 ht (d := _) 300 (0 : Int32) y1.2 Q hky2 ?_)
  show Ev Z _ 93 42 [none, none] [] (mm_H y2.2) Q
  obtain rfl := Option.some.inj hf
  exact e_vret hm_93 rfl rfl hq
def tx_readOne_b (rc : Nat → mm_M → Option (Unit × mm_M)) (t : Nat) (M : mm_M) : Option (Unit × mm_M) :=
  if (M.1 t 8) = (263 : Int32) then
    (tx_add t (M.1 t 9) M).bind fun y2 =>
    (tx_advance t y2.2).bind fun y3 =>
    some ((), y3.2)
  else
    if (M.1 t 8) = (262 : Int32) then
      (tx_addName t (M.1 t 9) M).bind fun y5 =>
      (tx_advance t y5.2).bind fun y6 =>
      some ((), y6.2)
    else
      if (M.1 t 8) = (45 : Int32) then
        (tx_openOne t M).bind fun y8 =>
        if y8.1 = (0 : Int32) then
          some ((), y8.2)
        else
          (rc 6 y8.2).bind fun y10 =>
          (tx_add t (-7 : Int32) (ak_up y10.2.1 t 10 ((y10.2.1 t 10) - (1 : Int32)), y10.2.2)).bind fun y11 =>
          some ((), y11.2)
      else
        if (M.1 t 8) = (40 : Int32) then
          (tx_openOne t M).bind fun y13 =>
          if y13.1 = (0 : Int32) then
            some ((), y13.2)
          else
            (rc 0 y13.2).bind fun y15 =>
            (tx_take t (41 : Int32) y15.2).bind fun y16 =>
            some ((), (ak_up y16.2.1 t 10 ((y16.2.1 t 10) - (1 : Int32)), y16.2.2))
        else
          (tx_fail t M).bind fun y17 =>
          some ((), y17.2)
set_option maxRecDepth 20000 in
set_option maxHeartbeats 4000000 in
theorem cb_94 {Z : ak_Z} {d : Nat} (t : Nat) (rc : Nat → mm_M → Option (Unit × mm_M)) (hrc0 : ∀ (M : mm_M) (y : Unit × mm_M), rc 0 M = some y → ∀ (Q : Option Value → ak_H → Prop), Q none (mm_H y.2) → Ev Z (d + 8) 88 0 [some (.ref t), none] [] (mm_H M) Q) (hrc1 : ∀ (M : mm_M) (y : Unit × mm_M), rc 1 M = some y → ∀ (Q : Option Value → ak_H → Prop), Q none (mm_H y.2) → Ev Z (d + 8) 89 0 [some (.ref t), none] [] (mm_H M) Q) (hrc2 : ∀ (M : mm_M) (y : Unit × mm_M), rc 2 M = some y → ∀ (Q : Option Value → ak_H → Prop), Q none (mm_H y.2) → Ev Z (d + 8) 90 0 [some (.ref t)] [] (mm_H M) Q) (hrc3 : ∀ (M : mm_M) (y : Unit × mm_M), rc 3 M = some y → ∀ (Q : Option Value → ak_H → Prop), Q none (mm_H y.2) → Ev Z (d + 8) 91 0 [some (.ref t), none] [] (mm_H M) Q) (hrc4 : ∀ (M : mm_M) (y : Unit × mm_M), rc 4 M = some y → ∀ (Q : Option Value → ak_H → Prop), Q none (mm_H y.2) → Ev Z (d + 8) 92 0 [some (.ref t), none, none] [] (mm_H M) Q) (hrc5 : ∀ (M : mm_M) (y : Unit × mm_M), rc 5 M = some y → ∀ (Q : Option Value → ak_H → Prop), Q none (mm_H y.2) → Ev Z (d + 8) 93 0 [some (.ref t), none] [] (mm_H M) Q) (hrc6 : ∀ (M : mm_M) (y : Unit × mm_M), rc 6 M = some y → ∀ (Q : Option Value → ak_H → Prop), Q none (mm_H y.2) → Ev Z (d + 8) 94 0 [some (.ref t)] [] (mm_H M) Q) (M : mm_M) (ht : mm_is10 t = true) {y : Unit × mm_M} (hf : tx_readOne_b rc t M = some y) {Q : Option Value → ak_H → Prop} (hq : Q none (mm_H y.2)) : Ev Z (d + 9) 94 0 [some (.ref t)] [] (mm_H M) Q := by
  rw [tx_readOne_b] at hf
  refine e_aload_n hm_94 rfl rfl ?_
  refine e_getI hm_94 rfl (mm_cl10 ht) rfl ?_
  refine e_sipush hm_94 rfl kc_sipush_263 ?_
  by_cases hc1 : (M.1 t 8) = (263 : Int32)
  · rw [if_pos hc1] at hf
    refine e_ic_f hm_94 rfl (cf_ne hc1) ?_
    refine e_aload_n hm_94 rfl rfl ?_
    refine e_aload_n hm_94 rfl rfl ?_
    refine e_getI hm_94 rfl (mm_cl10 ht) rfl ?_
    obtain ⟨y2, hky2, hf⟩ := mm_bd hf
    refine e_virt hm_94 rfl rfl rfl (mm_cl10 ht) (Nat.le_of_ble_eq_true rfl) hm_10 rfl rfl (c_10 t (M.1 t 9) M ht hky2 ?_)
    show Ev Z _ 94 18 [some (.ref t)] [] (mm_H y2.2) Q
    refine e_aload_n hm_94 rfl rfl ?_
    obtain ⟨y3, hky3, hf⟩ := mm_bd hf
    refine e_virt hm_94 rfl rfl rfl (mm_cl10 ht) (Nat.le_of_ble_eq_true rfl) hm_65 rfl rfl (c_65 t y2.2 ht hky3 ?_)
    show Ev Z _ 94 22 [some (.ref t)] [] (mm_H y3.2) Q
    refine e_goto (t := 132) hm_94 rfl rfl ?_
    obtain rfl := Option.some.inj hf
    exact e_vret hm_94 rfl rfl hq
  · rw [if_neg hc1] at hf
    refine e_ic_t (t := 25) hm_94 rfl (ct_ne hc1) rfl ?_
    refine e_aload_n hm_94 rfl rfl ?_
    refine e_getI hm_94 rfl (mm_cl10 ht) rfl ?_
    refine e_sipush hm_94 rfl kc_sipush_262 ?_
    by_cases hc4 : (M.1 t 8) = (262 : Int32)
    · rw [if_pos hc4] at hf
      refine e_ic_f hm_94 rfl (cf_ne hc4) ?_
      refine e_aload_n hm_94 rfl rfl ?_
      refine e_aload_n hm_94 rfl rfl ?_
      refine e_getI hm_94 rfl (mm_cl10 ht) rfl ?_
      obtain ⟨y5, hky5, hf⟩ := mm_bd hf
      refine e_virt hm_94 rfl rfl rfl (mm_cl10 ht) (Nat.le_of_ble_eq_true rfl) hm_95 rfl rfl (c_95 t (M.1 t 9) M ht hky5 ?_)
      show Ev Z _ 94 43 [some (.ref t)] [] (mm_H y5.2) Q
      refine e_aload_n hm_94 rfl rfl ?_
      obtain ⟨y6, hky6, hf⟩ := mm_bd hf
      refine e_virt hm_94 rfl rfl rfl (mm_cl10 ht) (Nat.le_of_ble_eq_true rfl) hm_65 rfl rfl (c_65 t y5.2 ht hky6 ?_)
      show Ev Z _ 94 47 [some (.ref t)] [] (mm_H y6.2) Q
      refine e_goto (t := 132) hm_94 rfl rfl ?_
      obtain rfl := Option.some.inj hf
      exact e_vret hm_94 rfl rfl hq
    · rw [if_neg hc4] at hf
      refine e_ic_t (t := 50) hm_94 rfl (ct_ne hc4) rfl ?_
      refine e_aload_n hm_94 rfl rfl ?_
      refine e_getI hm_94 rfl (mm_cl10 ht) rfl ?_
      refine e_bipush hm_94 rfl kc_bipush_45 ?_
      by_cases hc7 : (M.1 t 8) = (45 : Int32)
      · rw [if_pos hc7] at hf
        refine e_ic_f hm_94 rfl (cf_ne hc7) ?_
        refine e_aload_n hm_94 rfl rfl ?_
        obtain ⟨y8, hky8, hf⟩ := mm_bd hf
        refine e_virt hm_94 rfl rfl rfl (mm_cl10 ht) (Nat.le_of_ble_eq_true rfl) hm_96 rfl rfl (c_96 t M ht hky8 ?_)
        show Ev Z _ 94 63 [some (.ref t)] [.int y8.1] (mm_H y8.2) Q
        by_cases hc9 : y8.1 = (0 : Int32)
        · rw [if_pos hc9] at hf
          refine e_if_t (t := 132) hm_94 rfl (ct_eq hc9) rfl ?_
          obtain rfl := Option.some.inj hf
          exact e_vret hm_94 rfl rfl hq
        · rw [if_neg hc9] at hf
          refine e_if_f hm_94 rfl (cf_eq hc9) ?_
          refine e_aload_n hm_94 rfl rfl ?_
          obtain ⟨y10, hky10, hf⟩ := mm_bd hf
          refine e_virt hm_94 rfl rfl rfl (mm_cl10 ht) (Nat.le_of_ble_eq_true rfl) hm_94 rfl rfl (hrc6 _ _ hky10 _ ?_)
          show Ev Z _ 94 70 [some (.ref t)] [] (mm_H y10.2) Q
          refine e_aload_n hm_94 rfl rfl ?_
          refine e_dupa hm_94 rfl ?_
          refine e_getI hm_94 rfl (mm_cl10 ht) rfl ?_
          refine e_iconst hm_94 rfl kc_iconst_1 ?_
          refine e_isub hm_94 rfl ?_
          refine e_putI hm_94 rfl (mm_cl10 ht) rfl ?_
          refine e_aload_n hm_94 rfl rfl ?_
          refine e_bipush hm_94 rfl kc_bipush_m7 ?_
          obtain ⟨y11, hky11, hf⟩ := mm_bd hf
          refine e_virt hm_94 rfl rfl rfl (mm_cl10 ht) (Nat.le_of_ble_eq_true rfl) hm_10 rfl rfl (c_10 t (-7 : Int32) (ak_up y10.2.1 t 10 ((y10.2.1 t 10) - (1 : Int32)), y10.2.2) ht hky11 ?_)
          show Ev Z _ 94 86 [some (.ref t)] [] (mm_H y11.2) Q
          refine e_goto (t := 132) hm_94 rfl rfl ?_
          obtain rfl := Option.some.inj hf
          exact e_vret hm_94 rfl rfl hq
      · rw [if_neg hc7] at hf
        refine e_ic_t (t := 89) hm_94 rfl (ct_ne hc7) rfl ?_
        refine e_aload_n hm_94 rfl rfl ?_
        refine e_getI hm_94 rfl (mm_cl10 ht) rfl ?_
        refine e_bipush hm_94 rfl kc_bipush_40 ?_
        by_cases hc12 : (M.1 t 8) = (40 : Int32)
        · rw [if_pos hc12] at hf
          refine e_ic_f hm_94 rfl (cf_ne hc12) ?_
          refine e_aload_n hm_94 rfl rfl ?_
          obtain ⟨y13, hky13, hf⟩ := mm_bd hf
          refine e_virt hm_94 rfl rfl rfl (mm_cl10 ht) (Nat.le_of_ble_eq_true rfl) hm_96 rfl rfl (c_96 t M ht hky13 ?_)
          show Ev Z _ 94 102 [some (.ref t)] [.int y13.1] (mm_H y13.2) Q
          by_cases hc14 : y13.1 = (0 : Int32)
          · rw [if_pos hc14] at hf
            refine e_if_t (t := 132) hm_94 rfl (ct_eq hc14) rfl ?_
            obtain rfl := Option.some.inj hf
            exact e_vret hm_94 rfl rfl hq
          · rw [if_neg hc14] at hf
            refine e_if_f hm_94 rfl (cf_eq hc14) ?_
            refine e_aload_n hm_94 rfl rfl ?_
            obtain ⟨y15, hky15, hf⟩ := mm_bd hf
            refine e_virt hm_94 rfl rfl rfl (mm_cl10 ht) (Nat.le_of_ble_eq_true rfl) hm_88 rfl rfl (hrc0 _ _ hky15 _ ?_)
            show Ev Z _ 94 109 [some (.ref t)] [] (mm_H y15.2) Q
            refine e_aload_n hm_94 rfl rfl ?_
            refine e_bipush hm_94 rfl kc_bipush_41 ?_
            obtain ⟨y16, hky16, hf⟩ := mm_bd hf
            refine e_virt hm_94 rfl rfl rfl (mm_cl10 ht) (Nat.le_of_ble_eq_true rfl) hm_87 rfl rfl (c_87 t (41 : Int32) y15.2 ht hky16 ?_)
            show Ev Z _ 94 115 [some (.ref t)] [] (mm_H y16.2) Q
            refine e_aload_n hm_94 rfl rfl ?_
            refine e_dupa hm_94 rfl ?_
            refine e_getI hm_94 rfl (mm_cl10 ht) rfl ?_
            refine e_iconst hm_94 rfl kc_iconst_1 ?_
            refine e_isub hm_94 rfl ?_
            refine e_putI hm_94 rfl (mm_cl10 ht) rfl ?_
            refine e_goto (t := 132) hm_94 rfl rfl ?_
            obtain rfl := Option.some.inj hf
            exact e_vret hm_94 rfl rfl hq
        · rw [if_neg hc12] at hf
          refine e_ic_t (t := 128) hm_94 rfl (ct_ne hc12) rfl ?_
          refine e_aload_n hm_94 rfl rfl ?_
          obtain ⟨y17, hky17, hf⟩ := mm_bd hf
          refine e_virt hm_94 rfl rfl rfl (mm_cl10 ht) (Nat.le_of_ble_eq_true rfl) hm_83 rfl rfl (c_83 t M ht hky17 ?_)
          show Ev Z _ 94 132 [some (.ref t)] [] (mm_H y17.2) Q
          obtain rfl := Option.some.inj hf
          exact e_vret hm_94 rfl rfl hq
def tx_rd : Nat → Nat → Nat → mm_M → Option (Unit × mm_M)
  | 0, _, _, _ => none
  | k + 1, t, s, M => if s = 0 then tx_readEither_b (fun s m => tx_rd k t s m) t M else if s = 1 then tx_readBoth_b (fun s m => tx_rd k t s m) t M else if s = 2 then tx_readNot_b (fun s m => tx_rd k t s m) t M else if s = 3 then tx_readComparison_b (fun s m => tx_rd k t s m) t M else if s = 4 then tx_readSum_b (fun s m => tx_rd k t s m) t M else if s = 5 then tx_readTerm_b (fun s m => tx_rd k t s m) t M else if s = 6 then tx_readOne_b (fun s m => tx_rd k t s m) t M else none
set_option maxHeartbeats 4000000 in
theorem g_tx_rd {Z : ak_Z} {d : Nat} (t : Nat) (ht : mm_is10 t = true) : ∀ (k : Nat), (∀ (M : mm_M) (y : Unit × mm_M), tx_rd k t 0 M = some y → ∀ (Q : Option Value → ak_H → Prop), Q none (mm_H y.2) → Ev Z (d + k + 8) 88 0 [some (.ref t), none] [] (mm_H M) Q) ∧ (∀ (M : mm_M) (y : Unit × mm_M), tx_rd k t 1 M = some y → ∀ (Q : Option Value → ak_H → Prop), Q none (mm_H y.2) → Ev Z (d + k + 8) 89 0 [some (.ref t), none] [] (mm_H M) Q) ∧ (∀ (M : mm_M) (y : Unit × mm_M), tx_rd k t 2 M = some y → ∀ (Q : Option Value → ak_H → Prop), Q none (mm_H y.2) → Ev Z (d + k + 8) 90 0 [some (.ref t)] [] (mm_H M) Q) ∧ (∀ (M : mm_M) (y : Unit × mm_M), tx_rd k t 3 M = some y → ∀ (Q : Option Value → ak_H → Prop), Q none (mm_H y.2) → Ev Z (d + k + 8) 91 0 [some (.ref t), none] [] (mm_H M) Q) ∧ (∀ (M : mm_M) (y : Unit × mm_M), tx_rd k t 4 M = some y → ∀ (Q : Option Value → ak_H → Prop), Q none (mm_H y.2) → Ev Z (d + k + 8) 92 0 [some (.ref t), none, none] [] (mm_H M) Q) ∧ (∀ (M : mm_M) (y : Unit × mm_M), tx_rd k t 5 M = some y → ∀ (Q : Option Value → ak_H → Prop), Q none (mm_H y.2) → Ev Z (d + k + 8) 93 0 [some (.ref t), none] [] (mm_H M) Q) ∧ (∀ (M : mm_M) (y : Unit × mm_M), tx_rd k t 6 M = some y → ∀ (Q : Option Value → ak_H → Prop), Q none (mm_H y.2) → Ev Z (d + k + 8) 94 0 [some (.ref t)] [] (mm_H M) Q) := by
  intro k
  induction k with
  | zero => exact ⟨fun M y h => by simp [tx_rd] at h, fun M y h => by simp [tx_rd] at h, fun M y h => by simp [tx_rd] at h, fun M y h => by simp [tx_rd] at h, fun M y h => by simp [tx_rd] at h, fun M y h => by simp [tx_rd] at h, fun M y h => by simp [tx_rd] at h⟩
  | succ k ih =>
    obtain ⟨i0, i1, i2, i3, i4, i5, i6⟩ := ih
    have e : d + (k + 1) + 8 = (d + k) + 9 := by omega
    rw [e]
    exact ⟨fun M y h Q hq => cb_88 (d := d + k) t (fun s m => tx_rd k t s m) i0 i1 i2 i3 i4 i5 i6 M ht (by rw [tx_rd] at h; exact h) hq, fun M y h Q hq => cb_89 (d := d + k) t (fun s m => tx_rd k t s m) i0 i1 i2 i3 i4 i5 i6 M ht (by rw [tx_rd] at h; exact h) hq, fun M y h Q hq => cb_90 (d := d + k) t (fun s m => tx_rd k t s m) i0 i1 i2 i3 i4 i5 i6 M ht (by rw [tx_rd] at h; exact h) hq, fun M y h Q hq => cb_91 (d := d + k) t (fun s m => tx_rd k t s m) i0 i1 i2 i3 i4 i5 i6 M ht (by rw [tx_rd] at h; exact h) hq, fun M y h Q hq => cb_92 (d := d + k) t (fun s m => tx_rd k t s m) i0 i1 i2 i3 i4 i5 i6 M ht (by rw [tx_rd] at h; exact h) hq, fun M y h Q hq => cb_93 (d := d + k) t (fun s m => tx_rd k t s m) i0 i1 i2 i3 i4 i5 i6 M ht (by rw [tx_rd] at h; exact h) hq, fun M y h Q hq => cb_94 (d := d + k) t (fun s m => tx_rd k t s m) i0 i1 i2 i3 i4 i5 i6 M ht (by rw [tx_rd] at h; exact h) hq⟩
def tx_readEither (t : Nat) (M : mm_M) : Option (Unit × mm_M) := tx_rd 60 t 0 M
theorem c_88 {Z : ak_Z} {d : Nat} (t : Nat) (M : mm_M) (ht : mm_is10 t = true) {y : Unit × mm_M} (hf : tx_readEither t M = some y) {Q : Option Value → ak_H → Prop} (hq : Q none (mm_H y.2)) : Ev Z (d + 68) 88 0 [some (.ref t), none] [] (mm_H M) Q := by
  have e : d + 68 = d + 60 + 8 := by omega
  rw [e]
  exact (g_tx_rd t ht 60).1 M y hf Q hq
def tx_readBoth (t : Nat) (M : mm_M) : Option (Unit × mm_M) := tx_rd 60 t 1 M
theorem c_89 {Z : ak_Z} {d : Nat} (t : Nat) (M : mm_M) (ht : mm_is10 t = true) {y : Unit × mm_M} (hf : tx_readBoth t M = some y) {Q : Option Value → ak_H → Prop} (hq : Q none (mm_H y.2)) : Ev Z (d + 68) 89 0 [some (.ref t), none] [] (mm_H M) Q := by
  have e : d + 68 = d + 60 + 8 := by omega
  rw [e]
  exact (g_tx_rd t ht 60).2.1 M y hf Q hq
def tx_readNot (t : Nat) (M : mm_M) : Option (Unit × mm_M) := tx_rd 60 t 2 M
theorem c_90 {Z : ak_Z} {d : Nat} (t : Nat) (M : mm_M) (ht : mm_is10 t = true) {y : Unit × mm_M} (hf : tx_readNot t M = some y) {Q : Option Value → ak_H → Prop} (hq : Q none (mm_H y.2)) : Ev Z (d + 68) 90 0 [some (.ref t)] [] (mm_H M) Q := by
  have e : d + 68 = d + 60 + 8 := by omega
  rw [e]
  exact (g_tx_rd t ht 60).2.2.1 M y hf Q hq
def tx_readComparison (t : Nat) (M : mm_M) : Option (Unit × mm_M) := tx_rd 60 t 3 M
theorem c_91 {Z : ak_Z} {d : Nat} (t : Nat) (M : mm_M) (ht : mm_is10 t = true) {y : Unit × mm_M} (hf : tx_readComparison t M = some y) {Q : Option Value → ak_H → Prop} (hq : Q none (mm_H y.2)) : Ev Z (d + 68) 91 0 [some (.ref t), none] [] (mm_H M) Q := by
  have e : d + 68 = d + 60 + 8 := by omega
  rw [e]
  exact (g_tx_rd t ht 60).2.2.2.1 M y hf Q hq
def tx_readSum (t : Nat) (M : mm_M) : Option (Unit × mm_M) := tx_rd 60 t 4 M
theorem c_92 {Z : ak_Z} {d : Nat} (t : Nat) (M : mm_M) (ht : mm_is10 t = true) {y : Unit × mm_M} (hf : tx_readSum t M = some y) {Q : Option Value → ak_H → Prop} (hq : Q none (mm_H y.2)) : Ev Z (d + 68) 92 0 [some (.ref t), none, none] [] (mm_H M) Q := by
  have e : d + 68 = d + 60 + 8 := by omega
  rw [e]
  exact (g_tx_rd t ht 60).2.2.2.2.1 M y hf Q hq
def tx_readTerm (t : Nat) (M : mm_M) : Option (Unit × mm_M) := tx_rd 60 t 5 M
theorem c_93 {Z : ak_Z} {d : Nat} (t : Nat) (M : mm_M) (ht : mm_is10 t = true) {y : Unit × mm_M} (hf : tx_readTerm t M = some y) {Q : Option Value → ak_H → Prop} (hq : Q none (mm_H y.2)) : Ev Z (d + 68) 93 0 [some (.ref t), none] [] (mm_H M) Q := by
  have e : d + 68 = d + 60 + 8 := by omega
  rw [e]
  exact (g_tx_rd t ht 60).2.2.2.2.2.1 M y hf Q hq
def tx_readOne (t : Nat) (M : mm_M) : Option (Unit × mm_M) := tx_rd 60 t 6 M
theorem c_94 {Z : ak_Z} {d : Nat} (t : Nat) (M : mm_M) (ht : mm_is10 t = true) {y : Unit × mm_M} (hf : tx_readOne t M = some y) {Q : Option Value → ak_H → Prop} (hq : Q none (mm_H y.2)) : Ev Z (d + 68) 94 0 [some (.ref t)] [] (mm_H M) Q := by
  have e : d + 68 = d + 60 + 8 := by omega
  rw [e]
  exact (g_tx_rd t ht 60).2.2.2.2.2.2 M y hf Q hq
def tx_read_l48 : Nat → Nat → Int32 → mm_M → Option (((Unit) × mm_M))
  | 0, _, _, _ => none
  | n + 1, x0, x2, M =>
    if x2 < (3 : Int32) then
      (tx_take x0 ((256 : Int32) + x2) M).bind fun y2 =>
      (tx_readEither x0 y2.2).bind fun y3 =>
      (tx_take x0 (59 : Int32) y3.2).bind fun y4 =>
      (tx_endPart x0 y4.2).bind fun y5 =>
      tx_read_l48 n x0 (x2 + (1 : Int32)) y5.2
    else
      some ((), M)
set_option maxRecDepth 20000 in
set_option maxHeartbeats 4000000 in
theorem lc_64_48 {Z : ak_Z} {d : Nat} : ∀ (n : Nat) (x0 : Nat) (x2 : Int32) (M : mm_M) (hx0 : mm_is10 x0 = true) {y : ((Unit) × mm_M)} (Q : Option Value → ak_H → Prop), tx_read_l48 n x0 x2 M = some y → (Ev Z (d + 69) 64 82 [some (.ref x0), none, none] [] (mm_H y.2) Q) → Ev Z (d + 69) 64 48 [some (.ref x0), none, some (.int x2)] [] (mm_H M) Q := by
  intro n
  induction n with
  | zero => intro x0 x2 M hx0 y Q hf; cases hf
  | succ n ih =>
    intro x0 x2 M hx0 y Q hf hq
    rw [tx_read_l48] at hf
    refine e_iload_n hm_64 rfl rfl ?_
    refine e_iconst hm_64 rfl kc_iconst_3 ?_
    by_cases hc1 : x2 < (3 : Int32)
    · rw [if_pos hc1] at hf
      refine e_ic_f hm_64 rfl (cf_ge hc1) ?_
      refine e_aload_n hm_64 rfl rfl ?_
      refine e_sipush hm_64 rfl kc_sipush_256 ?_
      refine e_iload_n hm_64 rfl rfl ?_
      refine e_iadd hm_64 rfl ?_
      obtain ⟨y2, hky2, hf⟩ := mm_bd hf
      refine e_virt hm_64 rfl rfl rfl (mm_cl10 hx0) (Nat.le_of_ble_eq_true rfl) hm_87 rfl rfl (c_87 x0 ((256 : Int32) + x2) M hx0 hky2 ?_)
      show Ev Z _ 64 62 [some (.ref x0), none, some (.int x2)] [] (mm_H y2.2) Q
      refine e_aload_n hm_64 rfl rfl ?_
      obtain ⟨y3, hky3, hf⟩ := mm_bd hf
      refine e_virt hm_64 rfl rfl rfl (mm_cl10 hx0) (Nat.le_of_ble_eq_true rfl) hm_88 rfl rfl (c_88 x0 y2.2 hx0 hky3 ?_)
      show Ev Z _ 64 66 [some (.ref x0), none, some (.int x2)] [] (mm_H y3.2) Q
      refine e_aload_n hm_64 rfl rfl ?_
      refine e_bipush hm_64 rfl kc_bipush_59 ?_
      obtain ⟨y4, hky4, hf⟩ := mm_bd hf
      refine e_virt hm_64 rfl rfl rfl (mm_cl10 hx0) (Nat.le_of_ble_eq_true rfl) hm_87 rfl rfl (c_87 x0 (59 : Int32) y3.2 hx0 hky4 ?_)
      show Ev Z _ 64 72 [some (.ref x0), none, some (.int x2)] [] (mm_H y4.2) Q
      refine e_aload_n hm_64 rfl rfl ?_
      obtain ⟨y5, hky5, hf⟩ := mm_bd hf
      refine e_virt hm_64 rfl rfl rfl (mm_cl10 hx0) (Nat.le_of_ble_eq_true rfl) hm_11 rfl rfl (c_11 x0 y4.2 hx0 hky5 ?_)
      show Ev Z _ 64 76 [some (.ref x0), none, some (.int x2)] [] (mm_H y5.2) Q
      refine e_iinc (L2 := [some (.ref x0), none, some (.int (x2 + (1 : Int32)))]) hm_64 rfl kc_iinc_1 rfl rfl ?_
      refine e_goto (t := 48) hm_64 rfl rfl ?_
      exact e_forget (L' := [some (.ref x0), none, some (.int (x2 + (1 : Int32)))]) (lf_k (lf_k (lf_k lf_0))) (ih x0 (x2 + (1 : Int32)) y5.2 hx0 Q hf hq)
    · rw [if_neg hc1] at hf
      refine e_ic_t (t := 82) hm_64 rfl (ct_ge hc1) rfl ?_
      obtain rfl := Option.some.inj hf
      exact e_forget (L' := [some (.ref x0), none, none]) (lf_k (lf_k (lf_d lf_0))) hq
def tx_read (t : Nat) (a1 : Int32) (M : mm_M) : Option (Int32 × mm_M) :=
  (tx_advance t (ak_up (ak_up (ak_up (ak_up (ak_up (ak_up M.1 t 5 (i_max (0 : Int32) (i_min a1 (160 : Int32)))) t 2 (0 : Int32)) t 3 (0 : Int32)) t 6 (0 : Int32)) t 10 (0 : Int32)) t 11 (-1 : Int32), M.2)).bind fun y1 =>
  (tx_read_l48 300 t (0 : Int32) y1.2).bind fun y2 =>
  if (y2.2.1 t 8) = (264 : Int32) then
    some (y2.2.1 t 11, y2.2)
  else
    (tx_fail t y2.2).bind fun y4 =>
    some (y4.2.1 t 11, y4.2)
set_option maxRecDepth 20000 in
set_option maxHeartbeats 4000000 in
theorem c_64 {Z : ak_Z} {d : Nat} (t : Nat) (a1 : Int32) (M : mm_M) (ht : mm_is10 t = true) {y : Int32 × mm_M} (hf : tx_read t a1 M = some y) {Q : Option Value → ak_H → Prop} (hq : Q (some (.int y.1)) (mm_H y.2)) : Ev Z (d + 69) 64 0 [some (.ref t), some (.int a1), none] [] (mm_H M) Q := by
  rw [tx_read] at hf
  refine e_aload_n hm_64 rfl rfl ?_
  refine e_iconst hm_64 rfl kc_iconst_0 ?_
  refine e_iload_n hm_64 rfl rfl ?_
  refine e_aload_n hm_64 rfl rfl ?_
  refine e_getR hm_64 rfl (mm_cl10 ht) rfl (mm_rf10_4 ht) ?_
  refine e_alen (t := 0) (n := 160) (v := (160 : Int32)) hm_64 rfl rfl (by decide) (by decide) ?_
  refine e_min hm_64 rfl (Nat.le_of_ble_eq_true rfl) ?_
  refine e_max hm_64 rfl (Nat.le_of_ble_eq_true rfl) ?_
  refine e_putI hm_64 rfl (mm_cl10 ht) rfl ?_
  refine e_aload_n hm_64 rfl rfl ?_
  refine e_iconst hm_64 rfl kc_iconst_0 ?_
  refine e_putI hm_64 rfl (mm_cl10 ht) rfl ?_
  refine e_aload_n hm_64 rfl rfl ?_
  refine e_iconst hm_64 rfl kc_iconst_0 ?_
  refine e_putI hm_64 rfl (mm_cl10 ht) rfl ?_
  refine e_aload_n hm_64 rfl rfl ?_
  refine e_iconst hm_64 rfl kc_iconst_0 ?_
  refine e_putI hm_64 rfl (mm_cl10 ht) rfl ?_
  refine e_aload_n hm_64 rfl rfl ?_
  refine e_iconst hm_64 rfl kc_iconst_0 ?_
  refine e_putI hm_64 rfl (mm_cl10 ht) rfl ?_
  refine e_aload_n hm_64 rfl rfl ?_
  refine e_iconst hm_64 rfl kc_iconst_m1 ?_
  refine e_putI hm_64 rfl (mm_cl10 ht) rfl ?_
  refine e_aload_n hm_64 rfl rfl ?_
  obtain ⟨y1, hky1, hf⟩ := mm_bd hf
  refine e_virt hm_64 rfl rfl rfl (mm_cl10 ht) (Nat.le_of_ble_eq_true rfl) hm_65 rfl rfl (c_65 t (ak_up (ak_up (ak_up (ak_up (ak_up (ak_up M.1 t 5 (i_max (0 : Int32) (i_min a1 (160 : Int32)))) t 2 (0 : Int32)) t 3 (0 : Int32)) t 6 (0 : Int32)) t 10 (0 : Int32)) t 11 (-1 : Int32), M.2) ht hky1 ?_)
  show Ev Z _ 64 46 [some (.ref t), some (.int a1), none] [] (mm_H y1.2) Q
  refine e_iconst hm_64 rfl kc_iconst_0 ?_
  refine e_istore_n (L2 := [some (.ref t), some (.int a1), some (.int (0 : Int32))]) hm_64 rfl rfl ?_
  obtain ⟨y2, hky2, hf⟩ := mm_bd hf
  refine e_forget (L' := [some (.ref t), none, some (.int (0 : Int32))]) (lf_k (lf_d (lf_k lf_0))) (lc_64_48 (d := _) 300 t (0 : Int32) y1.2 ht Q hky2 ?_)
  show Ev Z _ 64 82 [some (.ref t), none, none] [] (mm_H y2.2) Q
  refine e_aload_n hm_64 rfl rfl ?_
  refine e_getI hm_64 rfl (mm_cl10 ht) rfl ?_
  refine e_sipush hm_64 rfl kc_sipush_264 ?_
  by_cases hc3 : (y2.2.1 t 8) = (264 : Int32)
  · rw [if_pos hc3] at hf
    refine e_ic_t (t := 96) hm_64 rfl (ct_eq hc3) rfl ?_
    refine e_aload_n hm_64 rfl rfl ?_
    refine e_getI hm_64 rfl (mm_cl10 ht) rfl ?_
    obtain rfl := Option.some.inj hf
    exact e_iret hm_64 rfl rfl hq
  · rw [if_neg hc3] at hf
    refine e_ic_f hm_64 rfl (cf_eq hc3) ?_
    refine e_aload_n hm_64 rfl rfl ?_
    obtain ⟨y4, hky4, hf⟩ := mm_bd hf
    refine e_virt hm_64 rfl rfl rfl (mm_cl10 ht) (Nat.le_of_ble_eq_true rfl) hm_83 rfl rfl (c_83 t y2.2 ht hky4 ?_)
    show Ev Z _ 64 96 [some (.ref t), none, none] [] (mm_H y4.2) Q
    refine e_aload_n hm_64 rfl rfl ?_
    refine e_getI hm_64 rfl (mm_cl10 ht) rfl ?_
    obtain rfl := Option.some.inj hf
    exact e_iret hm_64 rfl rfl hq
def nb_text (M : mm_M) : Option (Int32 × mm_M) :=
  if (M.1 26 0) < (6 : Int32) then
    (ru_textAt (M.1 26 0) M).bind fun y2 => if mm_is10 y2.1 = true then
    (tx_read y2.1 (y2.2.1 0 5) y2.2).bind fun y4 =>
    if y4.1 = (-1 : Int32) then
      some (((ak_up (ak_up y4.2.1 0 5 (0 : Int32)) 26 0 (((ak_up y4.2.1 0 5 (0 : Int32)) 26 0) + (1 : Int32))) 26 0) - (1 : Int32), (ak_up (ak_up y4.2.1 0 5 (0 : Int32)) 26 0 (((ak_up y4.2.1 0 5 (0 : Int32)) 26 0) + (1 : Int32)), y4.2.2))
    else
      some ((-100 : Int32) - y4.1, (ak_up y4.2.1 0 5 (0 : Int32), y4.2.2)) else none
  else
    some ((-4 : Int32), M)
set_option maxRecDepth 20000 in
set_option maxHeartbeats 4000000 in
theorem c_63 {Z : ak_Z} {d : Nat} (M : mm_M) {y : Int32 × mm_M} (hf : nb_text M = some y) {Q : Option Value → ak_H → Prop} (hq : Q (some (.int y.1)) (mm_H y.2)) : Ev Z (d + 70) 63 0 [some (.ref 0), none] [] (mm_H M) Q := by
  rw [nb_text] at hf
  refine e_aload_n hm_63 rfl rfl ?_
  refine e_getR hm_63 rfl rfl rfl rfl ?_
  refine e_getI hm_63 rfl rfl rfl ?_
  refine e_bipush hm_63 rfl kc_bipush_6 ?_
  by_cases hc1 : (M.1 26 0) < (6 : Int32)
  · rw [if_pos hc1] at hf
    refine e_ic_t (t := 15) hm_63 rfl (ct_lt hc1) rfl ?_
    refine e_aload_n hm_63 rfl rfl ?_
    refine e_getR hm_63 rfl rfl rfl rfl ?_
    refine e_aload_n hm_63 rfl rfl ?_
    refine e_getR hm_63 rfl rfl rfl rfl ?_
    refine e_getI hm_63 rfl rfl rfl ?_
    obtain ⟨y2, hky2, hf⟩ := mm_bd hf
    refine e_virt hm_63 rfl rfl rfl rfl (Nat.le_of_ble_eq_true rfl) hm_34 rfl rfl (c_34 (M.1 26 0) M hky2 ?_)
    show Ev Z _ 63 29 [some (.ref 0), none] [.ref y2.1] (mm_H y2.2) Q
    obtain ⟨ho3, hf⟩ := mm_ite hf
    refine e_aload_n hm_63 rfl rfl ?_
    refine e_getI hm_63 rfl rfl rfl ?_
    obtain ⟨y4, hky4, hf⟩ := mm_bd hf
    refine e_virt hm_63 rfl rfl rfl (mm_cl10 ho3) (Nat.le_of_ble_eq_true rfl) hm_64 rfl rfl (c_64 y2.1 (y2.2.1 0 5) y2.2 ho3 hky4 ?_)
    show Ev Z _ 63 36 [some (.ref 0), none] [.int y4.1] (mm_H y4.2) Q
    refine e_istore_n (L2 := [some (.ref 0), some (.int y4.1)]) hm_63 rfl rfl ?_
    refine e_aload_n hm_63 rfl rfl ?_
    refine e_iconst hm_63 rfl kc_iconst_0 ?_
    refine e_putI hm_63 rfl rfl rfl ?_
    refine e_iload_n hm_63 rfl rfl ?_
    refine e_iconst hm_63 rfl kc_iconst_m1 ?_
    by_cases hc5 : y4.1 = (-1 : Int32)
    · rw [if_pos hc5] at hf
      refine e_ic_t (t := 52) hm_63 rfl (ct_eq hc5) rfl ?_
      refine e_aload_n hm_63 rfl rfl ?_
      refine e_getR hm_63 rfl rfl rfl rfl ?_
      refine e_dupa hm_63 rfl ?_
      refine e_getI hm_63 rfl rfl rfl ?_
      refine e_iconst hm_63 rfl kc_iconst_1 ?_
      refine e_iadd hm_63 rfl ?_
      refine e_putI hm_63 rfl rfl rfl ?_
      refine e_aload_n hm_63 rfl rfl ?_
      refine e_getR hm_63 rfl rfl rfl rfl ?_
      refine e_getI hm_63 rfl rfl rfl ?_
      refine e_iconst hm_63 rfl kc_iconst_1 ?_
      refine e_isub hm_63 rfl ?_
      obtain rfl := Option.some.inj hf
      exact e_iret hm_63 rfl rfl hq
    · rw [if_neg hc5] at hf
      refine e_ic_f hm_63 rfl (cf_eq hc5) ?_
      refine e_bipush hm_63 rfl kc_bipush_m100 ?_
      refine e_iload_n hm_63 rfl rfl ?_
      refine e_isub hm_63 rfl ?_
      obtain rfl := Option.some.inj hf
      exact e_iret hm_63 rfl rfl hq
  · rw [if_neg hc1] at hf
    refine e_ic_f hm_63 rfl (cf_lt hc1) ?_
    refine e_bipush hm_63 rfl kc_bipush_m4 ?_
    obtain rfl := Option.some.inj hf
    exact e_iret hm_63 rfl rfl hq
def nb_force (a1 : Int32) (M : mm_M) : Option (Int32 × mm_M) :=
  if a1 < (0 : Int32) then
    some ((-2 : Int32), M)
  else
    if a1 < (M.1 26 0) then
      some (M.1 1 3, (ak_up M.1 1 3 a1, M.2))
    else
      some ((-2 : Int32), M)
set_option maxRecDepth 20000 in
set_option maxHeartbeats 4000000 in
theorem c_97 {Z : ak_Z} {d : Nat} (a1 : Int32) (M : mm_M) {y : Int32 × mm_M} (hf : nb_force a1 M = some y) {Q : Option Value → ak_H → Prop} (hq : Q (some (.int y.1)) (mm_H y.2)) : Ev Z (d + 0) 97 0 [some (.ref 0), some (.int a1), none] [] (mm_H M) Q := by
  rw [nb_force] at hf
  refine e_iload_n hm_97 rfl rfl ?_
  by_cases hc1 : a1 < (0 : Int32)
  · rw [if_pos hc1] at hf
    refine e_if_t (t := 15) hm_97 rfl (ct_lt hc1) rfl ?_
    refine e_bipush hm_97 rfl kc_bipush_m2 ?_
    obtain rfl := Option.some.inj hf
    exact e_iret hm_97 rfl rfl hq
  · rw [if_neg hc1] at hf
    refine e_if_f hm_97 rfl (cf_lt hc1) ?_
    refine e_iload_n hm_97 rfl rfl ?_
    refine e_aload_n hm_97 rfl rfl ?_
    refine e_getR hm_97 rfl rfl rfl rfl ?_
    refine e_getI hm_97 rfl rfl rfl ?_
    by_cases hc2 : a1 < (M.1 26 0)
    · rw [if_pos hc2] at hf
      refine e_ic_t (t := 18) hm_97 rfl (ct_lt hc2) rfl ?_
      refine e_aload_n hm_97 rfl rfl ?_
      refine e_getR hm_97 rfl rfl rfl rfl ?_
      refine e_getI hm_97 rfl rfl rfl ?_
      refine e_istore_n (L2 := [some (.ref 0), some (.int a1), some (.int (M.1 1 3))]) hm_97 rfl rfl ?_
      refine e_aload_n hm_97 rfl rfl ?_
      refine e_getR hm_97 rfl rfl rfl rfl ?_
      refine e_iload_n hm_97 rfl rfl ?_
      refine e_putI hm_97 rfl rfl rfl ?_
      refine e_iload_n hm_97 rfl rfl ?_
      obtain rfl := Option.some.inj hf
      exact e_iret hm_97 rfl rfl hq
    · rw [if_neg hc2] at hf
      refine e_ic_f hm_97 rfl (cf_lt hc2) ?_
      refine e_bipush hm_97 rfl kc_bipush_m2 ?_
      obtain rfl := Option.some.inj hf
      exact e_iret hm_97 rfl rfl hq
