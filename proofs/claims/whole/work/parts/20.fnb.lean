/-! printed: the functions of the methods, and that the small machine does them -/
def ru_kindAt (a1 : Int32) (M : mm_M) : Option (Nat × mm_M) :=
  if a1 < (0 : Int32) then
    if ak_inb (0 : Int32) 6 = true then
    some ((29 + 1 * (0 : Int32).toNatClampNeg), M) else none
  else
    if a1 < (6 : Int32) then
      if ak_inb a1 6 = true then
      some ((29 + 1 * a1.toNatClampNeg), M) else none
    else
      if ak_inb (0 : Int32) 6 = true then
      some ((29 + 1 * (0 : Int32).toNatClampNeg), M) else none
set_option maxRecDepth 20000 in
set_option maxHeartbeats 4000000 in
theorem c_39 {Z : ak_Z} {d : Nat} (a1 : Int32) (M : mm_M) {y : Nat × mm_M} (hf : ru_kindAt a1 M = some y) {Q : Option Value → ak_H → Prop} (hq : Q (some (.ref y.1)) (mm_H y.2)) : Ev Z (d + 0) 39 0 [some (.ref 26), some (.int a1)] [] (mm_H M) Q := by
  rw [ru_kindAt] at hf
  refine e_aload_n hm_39 rfl rfl ?_
  refine e_getR hm_39 rfl rfl rfl rfl ?_
  refine e_iload_n hm_39 rfl rfl ?_
  by_cases hc1 : a1 < (0 : Int32)
  · rw [if_pos hc1] at hf
    refine e_if_t (t := 21) hm_39 rfl (ct_lt hc1) rfl ?_
    refine e_iconst hm_39 rfl kc_iconst_0 ?_
    obtain ⟨hi2, hf⟩ := mm_ite hf
    refine e_aald hm_39 rfl rfl rfl hi2 (mm_el_kd hi2) ?_
    obtain rfl := Option.some.inj hf
    exact e_aret hm_39 rfl rfl hq
  · rw [if_neg hc1] at hf
    refine e_if_f hm_39 rfl (cf_lt hc1) ?_
    refine e_iload_n hm_39 rfl rfl ?_
    refine e_aload_n hm_39 rfl rfl ?_
    refine e_getR hm_39 rfl rfl rfl rfl ?_
    refine e_alen (t := 3) (n := 6) (v := (6 : Int32)) hm_39 rfl rfl (by decide) (by decide) ?_
    by_cases hc3 : a1 < (6 : Int32)
    · rw [if_pos hc3] at hf
      refine e_ic_f hm_39 rfl (cf_ge hc3) ?_
      refine e_iload_n hm_39 rfl rfl ?_
      refine e_goto (t := 22) hm_39 rfl rfl ?_
      obtain ⟨hi4, hf⟩ := mm_ite hf
      refine e_aald hm_39 rfl rfl rfl hi4 (mm_el_kd hi4) ?_
      obtain rfl := Option.some.inj hf
      exact e_aret hm_39 rfl rfl hq
    · rw [if_neg hc3] at hf
      refine e_ic_t (t := 21) hm_39 rfl (ct_ge hc3) rfl ?_
      refine e_iconst hm_39 rfl kc_iconst_0 ?_
      obtain ⟨hi5, hf⟩ := mm_ite hf
      refine e_aald hm_39 rfl rfl rfl hi5 (mm_el_kd hi5) ?_
      obtain rfl := Option.some.inj hf
      exact e_aret hm_39 rfl rfl hq
def kA_wants (a1 : Int32) (a2 : Int32) (a3 : Int32) (M : mm_M) : Option (Int32 × mm_M) :=
  if a2 = (0 : Int32) then
    some ((0 : Int32), M)
  else
    if (a1 - a1 / (2 : Int32) * (2 : Int32)) = (0 : Int32) then
      some ((1 : Int32), M)
    else
      some ((0 : Int32), M)
set_option maxRecDepth 20000 in
set_option maxHeartbeats 4000000 in
theorem c_40 {Z : ak_Z} {d : Nat} {kc : Nat} (t : Nat) (a1 : Int32) (a2 : Int32) (a3 : Int32) (M : mm_M) (ht : mm_kc t = some kc) {y : Int32 × mm_M} (hf : kA_wants a1 a2 a3 M = some y) {Q : Option Value → ak_H → Prop} (hq : Q (some (.int y.1)) (mm_H y.2)) : Ev Z (d + 0) 40 0 [some (.ref t), some (.int a1), some (.int a2), some (.int a3)] [] (mm_H M) Q := by
  rw [kA_wants] at hf
  refine e_iload_n hm_40 rfl rfl ?_
  by_cases hc1 : a2 = (0 : Int32)
  · rw [if_pos hc1] at hf
    refine e_if_t (t := 14) hm_40 rfl (ct_eq hc1) rfl ?_
    refine e_iconst hm_40 rfl kc_iconst_0 ?_
    obtain rfl := Option.some.inj hf
    exact e_zret hm_40 rfl rfl (by decide) hq
  · rw [if_neg hc1] at hf
    refine e_if_f hm_40 rfl (cf_eq hc1) ?_
    refine e_iload_n hm_40 rfl rfl ?_
    refine e_iconst hm_40 rfl kc_iconst_2 ?_
    refine e_irem hm_40 rfl (by decide) ?_
    by_cases hc2 : (a1 - a1 / (2 : Int32) * (2 : Int32)) = (0 : Int32)
    · rw [if_pos hc2] at hf
      refine e_if_f hm_40 rfl (cf_ne hc2) ?_
      refine e_iconst hm_40 rfl kc_iconst_1 ?_
      refine e_goto (t := 15) hm_40 rfl rfl ?_
      obtain rfl := Option.some.inj hf
      exact e_zret hm_40 rfl rfl (by decide) hq
    · rw [if_neg hc2] at hf
      refine e_if_t (t := 14) hm_40 rfl (ct_ne hc2) rfl ?_
      refine e_iconst hm_40 rfl kc_iconst_0 ?_
      obtain rfl := Option.some.inj hf
      exact e_zret hm_40 rfl rfl (by decide) hq
def kO_wants (a1 : Int32) (a2 : Int32) (a3 : Int32) (M : mm_M) : Option (Int32 × mm_M) :=
  some ((1 : Int32), M)
set_option maxRecDepth 20000 in
set_option maxHeartbeats 4000000 in
theorem c_41 {Z : ak_Z} {d : Nat} {kc : Nat} (t : Nat) (a1 : Int32) (a2 : Int32) (a3 : Int32) (M : mm_M) (ht : mm_kc t = some kc) {y : Int32 × mm_M} (hf : kO_wants a1 a2 a3 M = some y) {Q : Option Value → ak_H → Prop} (hq : Q (some (.int y.1)) (mm_H y.2)) : Ev Z (d + 0) 41 0 [some (.ref t), some (.int a1), some (.int a2), some (.int a3)] [] (mm_H M) Q := by
  rw [kO_wants] at hf
  refine e_iconst hm_41 rfl kc_iconst_1 ?_
  obtain rfl := Option.some.inj hf
  exact e_zret hm_41 rfl rfl (by decide) hq
def kC_wants (a1 : Int32) (a2 : Int32) (a3 : Int32) (M : mm_M) : Option (Int32 × mm_M) :=
  if a2 = 0 ∨ a2 = 1 then some (a2, M) else none
set_option maxRecDepth 20000 in
set_option maxHeartbeats 4000000 in
theorem c_45 {Z : ak_Z} {d : Nat} {kc : Nat} (t : Nat) (a1 : Int32) (a2 : Int32) (a3 : Int32) (M : mm_M) (ht : mm_kc t = some kc) {y : Int32 × mm_M} (hf : kC_wants a1 a2 a3 M = some y) {Q : Option Value → ak_H → Prop} (hq : Q (some (.int y.1)) (mm_H y.2)) : Ev Z (d + 0) 45 0 [some (.ref t), some (.int a1), some (.int a2), some (.int a3)] [] (mm_H M) Q := by
  rw [kC_wants] at hf
  refine e_iload_n hm_45 rfl rfl ?_
  obtain ⟨hb1, hf⟩ := mm_ite hf
  obtain rfl := Option.some.inj hf
  exact e_zret hm_45 rfl rfl hb1 hq
def kB_wants (a1 : Int32) (a2 : Int32) (a3 : Int32) (M : mm_M) : Option (Int32 × mm_M) :=
  (kC_wants a1 a2 a3 M).bind fun y1 =>
  if y1.1 = (0 : Int32) then
    if a1 = (a3 - a3 / (8 : Int32) * (8 : Int32)) then
      some ((1 : Int32), y1.2)
    else
      some ((0 : Int32), y1.2)
  else
    some ((1 : Int32), y1.2)
set_option maxRecDepth 20000 in
set_option maxHeartbeats 4000000 in
theorem c_42 {Z : ak_Z} {d : Nat} {kc : Nat} (t : Nat) (a1 : Int32) (a2 : Int32) (a3 : Int32) (M : mm_M) (ht : mm_kc t = some kc) {y : Int32 × mm_M} (hf : kB_wants a1 a2 a3 M = some y) {Q : Option Value → ak_H → Prop} (hq : Q (some (.int y.1)) (mm_H y.2)) : Ev Z (d + 1) 42 0 [some (.ref t), some (.int a1), some (.int a2), some (.int a3)] [] (mm_H M) Q := by
  rw [kB_wants] at hf
  refine e_aload_n hm_42 rfl rfl ?_
  refine e_iload_n hm_42 rfl rfl ?_
  refine e_iload_n hm_42 rfl rfl ?_
  refine e_iload_n hm_42 rfl rfl ?_
  obtain ⟨y1, hky1, hf⟩ := mm_bd hf
  refine e_spec hm_42 rfl (by decide) rfl rfl (mm_kc_at ht) (Nat.le_of_ble_eq_true rfl) hm_45 rfl rfl (c_45 t a1 a2 a3 M ht hky1 ?_)
  show Ev Z _ 42 7 [some (.ref t), some (.int a1), some (.int a2), some (.int a3)] [.int y1.1] (mm_H y1.2) Q
  by_cases hc2 : y1.1 = (0 : Int32)
  · rw [if_pos hc2] at hf
    refine e_if_f hm_42 rfl (cf_ne hc2) ?_
    refine e_iload_n hm_42 rfl rfl ?_
    refine e_iload_n hm_42 rfl rfl ?_
    refine e_bipush hm_42 rfl kc_bipush_8 ?_
    refine e_irem hm_42 rfl (by decide) ?_
    by_cases hc3 : a1 = (a3 - a3 / (8 : Int32) * (8 : Int32))
    · rw [if_pos hc3] at hf
      refine e_ic_f hm_42 rfl (cf_ne hc3) ?_
      refine e_iconst hm_42 rfl kc_iconst_1 ?_
      refine e_goto (t := 23) hm_42 rfl rfl ?_
      obtain rfl := Option.some.inj hf
      exact e_zret hm_42 rfl rfl (by decide) hq
    · rw [if_neg hc3] at hf
      refine e_ic_t (t := 22) hm_42 rfl (ct_ne hc3) rfl ?_
      refine e_iconst hm_42 rfl kc_iconst_0 ?_
      obtain rfl := Option.some.inj hf
      exact e_zret hm_42 rfl rfl (by decide) hq
  · rw [if_neg hc2] at hf
    refine e_if_t (t := 18) hm_42 rfl (ct_ne hc2) rfl ?_
    refine e_iconst hm_42 rfl kc_iconst_1 ?_
    refine e_goto (t := 23) hm_42 rfl rfl ?_
    obtain rfl := Option.some.inj hf
    exact e_zret hm_42 rfl rfl (by decide) hq
def kC_isSummer (a1 : Int32) (M : mm_M) : Option (Int32 × mm_M) :=
  if a1 < (3 : Int32) then
    some ((0 : Int32), M)
  else
    if (5 : Int32) < a1 then
      some ((0 : Int32), M)
    else
      some ((1 : Int32), M)
set_option maxRecDepth 20000 in
set_option maxHeartbeats 4000000 in
theorem c_44 {Z : ak_Z} {d : Nat} (a1 : Int32) (M : mm_M) {y : Int32 × mm_M} (hf : kC_isSummer a1 M = some y) {Q : Option Value → ak_H → Prop} (hq : Q (some (.int y.1)) (mm_H y.2)) : Ev Z (d + 0) 44 0 [some (.int a1)] [] (mm_H M) Q := by
  rw [kC_isSummer] at hf
  refine e_iload_n hm_44 rfl rfl ?_
  refine e_iconst hm_44 rfl kc_iconst_3 ?_
  by_cases hc1 : a1 < (3 : Int32)
  · rw [if_pos hc1] at hf
    refine e_ic_t (t := 14) hm_44 rfl (ct_lt hc1) rfl ?_
    refine e_iconst hm_44 rfl kc_iconst_0 ?_
    obtain rfl := Option.some.inj hf
    exact e_zret hm_44 rfl rfl (by decide) hq
  · rw [if_neg hc1] at hf
    refine e_ic_f hm_44 rfl (cf_lt hc1) ?_
    refine e_iload_n hm_44 rfl rfl ?_
    refine e_iconst hm_44 rfl kc_iconst_5 ?_
    by_cases hc2 : (5 : Int32) < a1
    · rw [if_pos hc2] at hf
      refine e_ic_t (t := 14) hm_44 rfl (ct_gt hc2) rfl ?_
      refine e_iconst hm_44 rfl kc_iconst_0 ?_
      obtain rfl := Option.some.inj hf
      exact e_zret hm_44 rfl rfl (by decide) hq
    · rw [if_neg hc2] at hf
      refine e_ic_f hm_44 rfl (cf_gt hc2) ?_
      refine e_iconst hm_44 rfl kc_iconst_1 ?_
      refine e_goto (t := 15) hm_44 rfl rfl ?_
      obtain rfl := Option.some.inj hf
      exact e_zret hm_44 rfl rfl (by decide) hq
def kS_wants (a1 : Int32) (a2 : Int32) (a3 : Int32) (M : mm_M) : Option (Int32 × mm_M) :=
  (kC_isSummer a1 M).bind fun y1 =>
  if y1.1 = (0 : Int32) then
    if a2 = (0 : Int32) then
      some ((0 : Int32), y1.2)
    else
      some ((1 : Int32), y1.2)
  else
    some ((0 : Int32), y1.2)
set_option maxRecDepth 20000 in
set_option maxHeartbeats 4000000 in
theorem c_43 {Z : ak_Z} {d : Nat} {kc : Nat} (t : Nat) (a1 : Int32) (a2 : Int32) (a3 : Int32) (M : mm_M) (ht : mm_kc t = some kc) {y : Int32 × mm_M} (hf : kS_wants a1 a2 a3 M = some y) {Q : Option Value → ak_H → Prop} (hq : Q (some (.int y.1)) (mm_H y.2)) : Ev Z (d + 1) 43 0 [some (.ref t), some (.int a1), some (.int a2), some (.int a3)] [] (mm_H M) Q := by
  rw [kS_wants] at hf
  refine e_iload_n hm_43 rfl rfl ?_
  obtain ⟨y1, hky1, hf⟩ := mm_bd hf
  refine e_stat hm_43 rfl (by decide) rfl rfl (Nat.le_of_ble_eq_true rfl) hm_44 rfl rfl (c_44 a1 M hky1 ?_)
  show Ev Z _ 43 4 [some (.ref t), some (.int a1), some (.int a2), some (.int a3)] [.int y1.1] (mm_H y1.2) Q
  by_cases hc2 : y1.1 = (0 : Int32)
  · rw [if_pos hc2] at hf
    refine e_if_f hm_43 rfl (cf_ne hc2) ?_
    refine e_iload_n hm_43 rfl rfl ?_
    by_cases hc3 : a2 = (0 : Int32)
    · rw [if_pos hc3] at hf
      refine e_if_t (t := 15) hm_43 rfl (ct_eq hc3) rfl ?_
      refine e_iconst hm_43 rfl kc_iconst_0 ?_
      obtain rfl := Option.some.inj hf
      exact e_zret hm_43 rfl rfl (by decide) hq
    · rw [if_neg hc3] at hf
      refine e_if_f hm_43 rfl (cf_eq hc3) ?_
      refine e_iconst hm_43 rfl kc_iconst_1 ?_
      refine e_goto (t := 16) hm_43 rfl rfl ?_
      obtain rfl := Option.some.inj hf
      exact e_zret hm_43 rfl rfl (by decide) hq
  · rw [if_neg hc2] at hf
    refine e_if_t (t := 15) hm_43 rfl (ct_ne hc2) rfl ?_
    refine e_iconst hm_43 rfl kc_iconst_0 ?_
    obtain rfl := Option.some.inj hf
    exact e_zret hm_43 rfl rfl (by decide) hq
def kd_wants (c : Nat) (a1 : Int32) (a2 : Int32) (a3 : Int32) (M : mm_M) : Option (Int32 × mm_M) :=
  if c = 0 then kA_wants a1 a2 a3 M else if c = 1 then kO_wants a1 a2 a3 M else if c = 2 then kB_wants a1 a2 a3 M else if c = 3 then kC_wants a1 a2 a3 M else if c = 4 then kC_wants a1 a2 a3 M else if c = 9 then kS_wants a1 a2 a3 M else none
set_option maxHeartbeats 4000000 in
theorem kdc_wants {Z : ak_Z} {d : Nat} (c e : Nat) (a1 : Int32) (a2 : Int32) (a3 : Int32) (M : mm_M) {y : Int32 × mm_M} (hk : mm_kc e = some c) (hf : kd_wants c a1 a2 a3 M = some y) : ∃ mj qj Lj, ak_fam 2 c = some mj ∧ ak_M[mj]? = some qj ∧ ak_ent qj.2.2.1 (.ref e :: [.int a1, .int a2, .int a3]) = Lj ∧ Lj.length = qj.2.2.1 ∧ ∀ (Q : Option Value → ak_H → Prop), Q (some (.int y.1)) (mm_H y.2) → Ev Z (d + 1) mj 0 Lj [] (mm_H M) Q := by
  unfold kd_wants at hf
  by_cases h0 : c = 0
  · rw [if_pos h0] at hf
    subst h0
    exact ⟨40, q_40, _, rfl, hm_40, rfl, rfl, fun Q hq => c_40 (d := d + 1) e a1 a2 a3 M hk hf hq⟩
  rw [if_neg h0] at hf
  by_cases h1 : c = 1
  · rw [if_pos h1] at hf
    subst h1
    exact ⟨41, q_41, _, rfl, hm_41, rfl, rfl, fun Q hq => c_41 (d := d + 1) e a1 a2 a3 M hk hf hq⟩
  rw [if_neg h1] at hf
  by_cases h2 : c = 2
  · rw [if_pos h2] at hf
    subst h2
    exact ⟨42, q_42, _, rfl, hm_42, rfl, rfl, fun Q hq => c_42 (d := d + 0) e a1 a2 a3 M hk hf hq⟩
  rw [if_neg h2] at hf
  by_cases h3 : c = 3
  · rw [if_pos h3] at hf
    subst h3
    exact ⟨45, q_45, _, rfl, hm_45, rfl, rfl, fun Q hq => c_45 (d := d + 1) e a1 a2 a3 M hk hf hq⟩
  rw [if_neg h3] at hf
  by_cases h4 : c = 4
  · rw [if_pos h4] at hf
    subst h4
    exact ⟨45, q_45, _, rfl, hm_45, rfl, rfl, fun Q hq => c_45 (d := d + 1) e a1 a2 a3 M hk hf hq⟩
  rw [if_neg h4] at hf
  by_cases h9 : c = 9
  · rw [if_pos h9] at hf
    subst h9
    exact ⟨43, q_43, _, rfl, hm_43, rfl, rfl, fun Q hq => c_43 (d := d + 0) e a1 a2 a3 M hk hf hq⟩
  rw [if_neg h9] at hf
  cases hf
def ru_wants (a1 : Nat) (a2 : Int32) (a3 : Int32) (M : mm_M) : Option (Int32 × mm_M) :=
  (ru_nameWeek a1 a2 a3 M).bind fun y1 =>
  (ru_textAt (y1.2.1 a1 3) y1.2).bind fun y2 => if mm_is10 y2.1 = true then
  (tx_value y2.1 (2 : Int32) 35 36 y2.2).bind fun y4 =>
  if y4.1 = (0 : Int32) then
    if ak_inb a2 4 = true then
    (ru_kindAt (y4.2.1 (a1 + 1) a2.toNatClampNeg) y4.2).bind fun y7 =>
    if ak_inb a2 4 = true then
    ((mm_kc y7.1).bind fun c10 => kd_wants c10 a3 (0 : Int32) (y7.2.1 (a1 + 2) a2.toNatClampNeg) y7.2).bind fun y9 =>
    if y9.1 = 0 ∨ y9.1 = 1 then some (y9.1, y9.2) else none else none else none
  else
    if ak_inb a2 4 = true then
    (ru_kindAt (y4.2.1 (a1 + 1) a2.toNatClampNeg) y4.2).bind fun y13 =>
    if ak_inb a2 4 = true then
    ((mm_kc y13.1).bind fun c16 => kd_wants c16 a3 (1 : Int32) (y13.2.1 (a1 + 2) a2.toNatClampNeg) y13.2).bind fun y15 =>
    if y15.1 = 0 ∨ y15.1 = 1 then some (y15.1, y15.2) else none else none else none else none
set_option maxRecDepth 20000 in
set_option maxHeartbeats 4000000 in
theorem c_29 {Z : ak_Z} {d : Nat} (a1 : Nat) (a2 : Int32) (a3 : Int32) (M : mm_M) (ha1 : mm_is8 a1 = true) {y : Int32 × mm_M} (hf : ru_wants a1 a2 a3 M = some y) {Q : Option Value → ak_H → Prop} (hq : Q (some (.int y.1)) (mm_H y.2)) : Ev Z (d + 2) 29 0 [some (.ref 26), some (.ref a1), some (.int a2), some (.int a3), none] [] (mm_H M) Q := by
  rw [ru_wants] at hf
  refine e_aload_n hm_29 rfl rfl ?_
  refine e_aload_n hm_29 rfl rfl ?_
  refine e_iload_n hm_29 rfl rfl ?_
  refine e_iload_n hm_29 rfl rfl ?_
  obtain ⟨y1, hky1, hf⟩ := mm_bd hf
  refine e_virt hm_29 rfl rfl rfl rfl (Nat.le_of_ble_eq_true rfl) hm_30 rfl rfl (c_30 a1 a2 a3 M ha1 hky1 ?_)
  show Ev Z _ 29 7 [some (.ref 26), some (.ref a1), some (.int a2), some (.int a3), none] [] (mm_H y1.2) Q
  refine e_aload_n hm_29 rfl rfl ?_
  refine e_aload_n hm_29 rfl rfl ?_
  refine e_getI hm_29 rfl (mm_cl8 ha1) rfl ?_
  obtain ⟨y2, hky2, hf⟩ := mm_bd hf
  refine e_virt hm_29 rfl rfl rfl rfl (Nat.le_of_ble_eq_true rfl) hm_34 rfl rfl (c_34 (y1.2.1 a1 3) y1.2 hky2 ?_)
  show Ev Z _ 29 15 [some (.ref 26), some (.ref a1), some (.int a2), some (.int a3), none] [.ref y2.1] (mm_H y2.2) Q
  obtain ⟨ho3, hf⟩ := mm_ite hf
  refine e_iconst hm_29 rfl kc_iconst_2 ?_
  refine e_aload_n hm_29 rfl rfl ?_
  refine e_getR hm_29 rfl rfl rfl rfl ?_
  refine e_aload_n hm_29 rfl rfl ?_
  refine e_getR hm_29 rfl rfl rfl rfl ?_
  obtain ⟨y4, hky4, hf⟩ := mm_bd hf
  refine e_virt hm_29 rfl rfl rfl (mm_cl10 ho3) (Nat.le_of_ble_eq_true rfl) hm_35 rfl rfl (c_35 y2.1 (2 : Int32) 35 36 y2.2 ho3 hky4 ?_)
  show Ev Z _ 29 27 [some (.ref 26), some (.ref a1), some (.int a2), some (.int a3), none] [.int y4.1] (mm_H y4.2) Q
  by_cases hc5 : y4.1 = (0 : Int32)
  · rw [if_pos hc5] at hf
    refine e_if_t (t := 34) hm_29 rfl (ct_eq hc5) rfl ?_
    refine e_iconst hm_29 rfl kc_iconst_0 ?_
    refine e_istore (L2 := [some (.ref 26), some (.ref a1), some (.int a2), some (.int a3), some (.int (0 : Int32))]) hm_29 rfl rfl ?_
    refine e_aload_n hm_29 rfl rfl ?_
    refine e_aload_n hm_29 rfl rfl ?_
    refine e_getR hm_29 rfl (mm_cl8 ha1) rfl (mm_rf8_5 ha1) ?_
    refine e_iload_n hm_29 rfl rfl ?_
    obtain ⟨hi6, hf⟩ := mm_ite hf
    refine e_iald hm_29 rfl (mm_ar8_5 ha1) hi6 ?_
    obtain ⟨y7, hky7, hf⟩ := mm_bd hf
    refine e_virt hm_29 rfl rfl rfl rfl (Nat.le_of_ble_eq_true rfl) hm_39 rfl rfl (c_39 (y4.2.1 (a1 + 1) a2.toNatClampNeg) y4.2 hky7 ?_)
    show Ev Z _ 29 47 [some (.ref 26), some (.ref a1), some (.int a2), some (.int a3), some (.int (0 : Int32))] [.ref y7.1] (mm_H y7.2) Q
    refine e_iload_n hm_29 rfl rfl ?_
    refine e_iload hm_29 rfl rfl ?_
    refine e_aload_n hm_29 rfl rfl ?_
    refine e_getR hm_29 rfl (mm_cl8 ha1) rfl (mm_rf8_6 ha1) ?_
    refine e_iload_n hm_29 rfl rfl ?_
    obtain ⟨hi8, hf⟩ := mm_ite hf
    refine e_iald hm_29 rfl (mm_ar8_6 ha1) hi8 ?_
    obtain ⟨y9, hky9, hf⟩ := mm_bd hf
    obtain ⟨c10, hkc10, hky9⟩ := mm_bd hky9
    obtain ⟨mj, qj, Lj, z1, z2, z3, z4, z5⟩ := kdc_wants (Z := Z) (d := _) c10 y7.1 a3 (0 : Int32) (y7.2.1 (a1 + 2) a2.toNatClampNeg) y7.2 hkc10 hky9
    refine e_fam hm_29 rfl rfl rfl (mm_kc_at hkc10) z1 (Nat.le_of_ble_eq_true rfl) z2 z3 z4 (z5 _ ?_)
    show Ev Z _ 29 59 [some (.ref 26), some (.ref a1), some (.int a2), some (.int a3), some (.int (0 : Int32))] [.int y9.1] (mm_H y9.2) Q
    obtain ⟨hb11, hf⟩ := mm_ite hf
    obtain rfl := Option.some.inj hf
    exact e_zret hm_29 rfl rfl hb11 hq
  · rw [if_neg hc5] at hf
    refine e_if_f hm_29 rfl (cf_eq hc5) ?_
    refine e_iconst hm_29 rfl kc_iconst_1 ?_
    refine e_goto (t := 35) hm_29 rfl rfl ?_
    refine e_istore (L2 := [some (.ref 26), some (.ref a1), some (.int a2), some (.int a3), some (.int (1 : Int32))]) hm_29 rfl rfl ?_
    refine e_aload_n hm_29 rfl rfl ?_
    refine e_aload_n hm_29 rfl rfl ?_
    refine e_getR hm_29 rfl (mm_cl8 ha1) rfl (mm_rf8_5 ha1) ?_
    refine e_iload_n hm_29 rfl rfl ?_
    obtain ⟨hi12, hf⟩ := mm_ite hf
    refine e_iald hm_29 rfl (mm_ar8_5 ha1) hi12 ?_
    obtain ⟨y13, hky13, hf⟩ := mm_bd hf
    refine e_virt hm_29 rfl rfl rfl rfl (Nat.le_of_ble_eq_true rfl) hm_39 rfl rfl (c_39 (y4.2.1 (a1 + 1) a2.toNatClampNeg) y4.2 hky13 ?_)
    show Ev Z _ 29 47 [some (.ref 26), some (.ref a1), some (.int a2), some (.int a3), some (.int (1 : Int32))] [.ref y13.1] (mm_H y13.2) Q
    refine e_iload_n hm_29 rfl rfl ?_
    refine e_iload hm_29 rfl rfl ?_
    refine e_aload_n hm_29 rfl rfl ?_
    refine e_getR hm_29 rfl (mm_cl8 ha1) rfl (mm_rf8_6 ha1) ?_
    refine e_iload_n hm_29 rfl rfl ?_
    obtain ⟨hi14, hf⟩ := mm_ite hf
    refine e_iald hm_29 rfl (mm_ar8_6 ha1) hi14 ?_
    obtain ⟨y15, hky15, hf⟩ := mm_bd hf
    obtain ⟨c16, hkc16, hky15⟩ := mm_bd hky15
    obtain ⟨mj, qj, Lj, z1, z2, z3, z4, z5⟩ := kdc_wants (Z := Z) (d := _) c16 y13.1 a3 (1 : Int32) (y13.2.1 (a1 + 2) a2.toNatClampNeg) y13.2 hkc16 hky15
    refine e_fam hm_29 rfl rfl rfl (mm_kc_at hkc16) z1 (Nat.le_of_ble_eq_true rfl) z2 z3 z4 (z5 _ ?_)
    show Ev Z _ 29 59 [some (.ref 26), some (.ref a1), some (.int a2), some (.int a3), some (.int (1 : Int32))] [.int y15.1] (mm_H y15.2) Q
    obtain ⟨hb17, hf⟩ := mm_ite hf
    obtain rfl := Option.some.inj hf
    exact e_zret hm_29 rfl rfl hb17 hq
def ru_canBe_l11 : Nat → Nat → Int32 → Int32 → Int32 → mm_M → Option ((Int32 × mm_M) ⊕ ((Unit) × mm_M))
  | 0, _, _, _, _, _ => none
  | n + 1, x1, x2, x4, x5, M =>
    if x5 < (8 : Int32) then
      if ((x4 >>> (x5 &&& 31)) &&& (1 : Int32)) = (0 : Int32) then
        ru_canBe_l11 n x1 x2 x4 (x5 + (1 : Int32)) M
      else
        (ru_wants x1 x2 x5 M).bind fun y3 =>
        if y3.1 = (0 : Int32) then
          some (.inl ((0 : Int32), y3.2))
        else
          ru_canBe_l11 n x1 x2 x4 (x5 + (1 : Int32)) y3.2
    else
      some (.inr ((), M))
set_option maxRecDepth 20000 in
set_option maxHeartbeats 4000000 in
theorem lc_27_11 {Z : ak_Z} {d : Nat} : ∀ (n : Nat) (x1 : Nat) (x2 : Int32) (x4 : Int32) (x5 : Int32) (M : mm_M) (hx1 : mm_is8 x1 = true) {y : (Int32 × mm_M) ⊕ ((Unit) × mm_M)} (Q : Option Value → ak_H → Prop), ru_canBe_l11 n x1 x2 x4 x5 M = some y → (match y with | .inl yr => Q (some (.int yr.1)) (mm_H yr.2) | .inr yv => Ev Z (d + 3) 27 47 [none, none, none, none, none, none] [] (mm_H yv.2) Q) → Ev Z (d + 3) 27 11 [some (.ref 26), some (.ref x1), some (.int x2), none, some (.int x4), some (.int x5)] [] (mm_H M) Q := by
  intro n
  induction n with
  | zero => intro x1 x2 x4 x5 M hx1 y Q hf; cases hf
  | succ n ih =>
    intro x1 x2 x4 x5 M hx1 y Q hf hq
    rw [ru_canBe_l11] at hf
    refine e_iload hm_27 rfl rfl ?_
    refine e_bipush hm_27 rfl kc_bipush_8 ?_
    by_cases hc1 : x5 < (8 : Int32)
    · rw [if_pos hc1] at hf
      refine e_ic_f hm_27 rfl (cf_ge hc1) ?_
      refine e_iload hm_27 rfl rfl ?_
      refine e_iload hm_27 rfl rfl ?_
      refine e_ishr hm_27 rfl ?_
      refine e_iconst hm_27 rfl kc_iconst_1 ?_
      refine e_iand hm_27 rfl ?_
      by_cases hc2 : ((x4 >>> (x5 &&& 31)) &&& (1 : Int32)) = (0 : Int32)
      · rw [if_pos hc2] at hf
        refine e_if_t (t := 41) hm_27 rfl (ct_eq hc2) rfl ?_
        refine e_iinc (L2 := [some (.ref 26), some (.ref x1), some (.int x2), none, some (.int x4), some (.int (x5 + (1 : Int32)))]) hm_27 rfl kc_iinc_1 rfl rfl ?_
        refine e_goto (t := 11) hm_27 rfl rfl ?_
        exact e_forget (L' := [some (.ref 26), some (.ref x1), some (.int x2), none, some (.int x4), some (.int (x5 + (1 : Int32)))]) (lf_k (lf_k (lf_k (lf_k (lf_k (lf_k lf_0)))))) (ih x1 x2 x4 (x5 + (1 : Int32)) M hx1 Q hf hq)
      · rw [if_neg hc2] at hf
        refine e_if_f hm_27 rfl (cf_eq hc2) ?_
        refine e_aload_n hm_27 rfl rfl ?_
        refine e_aload_n hm_27 rfl rfl ?_
        refine e_iload_n hm_27 rfl rfl ?_
        refine e_iload hm_27 rfl rfl ?_
        obtain ⟨y3, hky3, hf⟩ := mm_bd hf
        refine e_virt hm_27 rfl rfl rfl rfl (Nat.le_of_ble_eq_true rfl) hm_29 rfl rfl (c_29 x1 x2 x5 M hx1 hky3 ?_)
        show Ev Z _ 27 36 [some (.ref 26), some (.ref x1), some (.int x2), none, some (.int x4), some (.int x5)] [.int y3.1] (mm_H y3.2) Q
        by_cases hc4 : y3.1 = (0 : Int32)
        · rw [if_pos hc4] at hf
          refine e_if_f hm_27 rfl (cf_ne hc4) ?_
          refine e_iconst hm_27 rfl kc_iconst_0 ?_
          obtain rfl := Option.some.inj hf
          exact e_zret hm_27 rfl rfl (by decide) hq
        · rw [if_neg hc4] at hf
          refine e_if_t (t := 41) hm_27 rfl (ct_ne hc4) rfl ?_
          refine e_iinc (L2 := [some (.ref 26), some (.ref x1), some (.int x2), none, some (.int x4), some (.int (x5 + (1 : Int32)))]) hm_27 rfl kc_iinc_1 rfl rfl ?_
          refine e_goto (t := 11) hm_27 rfl rfl ?_
          exact e_forget (L' := [some (.ref 26), some (.ref x1), some (.int x2), none, some (.int x4), some (.int (x5 + (1 : Int32)))]) (lf_k (lf_k (lf_k (lf_k (lf_k (lf_k lf_0)))))) (ih x1 x2 x4 (x5 + (1 : Int32)) y3.2 hx1 Q hf hq)
    · rw [if_neg hc1] at hf
      refine e_ic_t (t := 47) hm_27 rfl (ct_ge hc1) rfl ?_
      obtain rfl := Option.some.inj hf
      exact e_forget (L' := [none, none, none, none, none, none]) (lf_d (lf_d (lf_d (lf_k (lf_d (lf_d lf_0)))))) hq
def ru_canBe (a1 : Nat) (a2 : Int32) (a3 : Int32) (M : mm_M) : Option (Int32 × mm_M) :=
  (sh_weeksFrom a1 a2 a3 M).bind fun y1 =>
  (ru_canBe_l11 300 a1 a2 y1.1 (0 : Int32) y1.2).bind fun y2 => match y2 with
  | .inl y2r => some y2r
  | .inr y2v => some ((1 : Int32), y2v.2)
set_option maxRecDepth 20000 in
set_option maxHeartbeats 4000000 in
theorem c_27 {Z : ak_Z} {d : Nat} (a1 : Nat) (a2 : Int32) (a3 : Int32) (M : mm_M) (ha1 : mm_is8 a1 = true) {y : Int32 × mm_M} (hf : ru_canBe a1 a2 a3 M = some y) {Q : Option Value → ak_H → Prop} (hq : Q (some (.int y.1)) (mm_H y.2)) : Ev Z (d + 3) 27 0 [some (.ref 26), some (.ref a1), some (.int a2), some (.int a3), none, none] [] (mm_H M) Q := by
  rw [ru_canBe] at hf
  refine e_aload_n hm_27 rfl rfl ?_
  refine e_iload_n hm_27 rfl rfl ?_
  refine e_iload_n hm_27 rfl rfl ?_
  obtain ⟨y1, hky1, hf⟩ := mm_bd hf
  refine e_virt hm_27 rfl rfl rfl (mm_cl8 ha1) (Nat.le_of_ble_eq_true rfl) hm_28 rfl rfl (c_28 a1 a2 a3 M ha1 hky1 ?_)
  show Ev Z _ 27 6 [some (.ref 26), some (.ref a1), some (.int a2), some (.int a3), none, none] [.int y1.1] (mm_H y1.2) Q
  refine e_istore (L2 := [some (.ref 26), some (.ref a1), some (.int a2), some (.int a3), some (.int y1.1), none]) hm_27 rfl rfl ?_
  refine e_iconst hm_27 rfl kc_iconst_0 ?_
  refine e_istore (L2 := [some (.ref 26), some (.ref a1), some (.int a2), some (.int a3), some (.int y1.1), some (.int (0 : Int32))]) hm_27 rfl rfl ?_
  obtain ⟨y2, hky2, hf⟩ := mm_bd hf
  refine e_forget (L' := [some (.ref 26), some (.ref a1), some (.int a2), none, some (.int y1.1), some (.int (0 : Int32))]) (lf_k (lf_k (lf_k (lf_d (lf_k (lf_k lf_0)))))) (lc_27_11 (d := _) 300 a1 a2 y1.1 (0 : Int32) y1.2 ha1 Q hky2 ?_)
  rcases y2 with y2r | y2v
  · obtain rfl := Option.some.inj hf
    exact hq
  · show Ev Z _ 27 47 [none, none, none, none, none, none] [] (mm_H y2v.2) Q
    refine e_iconst hm_27 rfl kc_iconst_1 ?_
    obtain rfl := Option.some.inj hf
    exact e_zret hm_27 rfl rfl (by decide) hq
def nb_book (a1 : Int32) (a2 : Int32) (M : mm_M) : Option (Int32 × mm_M) :=
  (sh_isOne 1 a1 M).bind fun y1 =>
  if y1.1 = (0 : Int32) then
    some ((-2 : Int32), y1.2)
  else
    if a2 = (-1 : Int32) then
      (ru_canBe 1 a1 a2 y1.2).bind fun y4 =>
      if y4.1 = (0 : Int32) then
        some ((-3 : Int32), y4.2)
      else
        if ak_inb a1 4 = true then
        if ak_inb a1 4 = true then
        some (y4.2.1 7 a1.toNatClampNeg, (ak_up y4.2.1 7 a1.toNatClampNeg a2, y4.2.2)) else none else none
    else
      (nb_isWeek a2 y1.2).bind fun y8 =>
      if y8.1 = (0 : Int32) then
        some ((-2 : Int32), y8.2)
      else
        (ru_canBe 1 a1 a2 y8.2).bind fun y10 =>
        if y10.1 = (0 : Int32) then
          some ((-3 : Int32), y10.2)
        else
          if ak_inb a1 4 = true then
          if ak_inb a1 4 = true then
          some (y10.2.1 7 a1.toNatClampNeg, (ak_up y10.2.1 7 a1.toNatClampNeg a2, y10.2.2)) else none else none
set_option maxRecDepth 20000 in
set_option maxHeartbeats 4000000 in
theorem c_25 {Z : ak_Z} {d : Nat} (a1 : Int32) (a2 : Int32) (M : mm_M) {y : Int32 × mm_M} (hf : nb_book a1 a2 M = some y) {Q : Option Value → ak_H → Prop} (hq : Q (some (.int y.1)) (mm_H y.2)) : Ev Z (d + 4) 25 0 [some (.ref 0), some (.int a1), some (.int a2), none] [] (mm_H M) Q := by
  rw [nb_book] at hf
  refine e_aload_n hm_25 rfl rfl ?_
  refine e_getR hm_25 rfl rfl rfl rfl ?_
  refine e_iload_n hm_25 rfl rfl ?_
  obtain ⟨y1, hky1, hf⟩ := mm_bd hf
  refine e_virt hm_25 rfl rfl rfl rfl (Nat.le_of_ble_eq_true rfl) hm_16 rfl rfl (c_16 1 a1 M rfl hky1 ?_)
  show Ev Z _ 25 8 [some (.ref 0), some (.int a1), some (.int a2), none] [.int y1.1] (mm_H y1.2) Q
  by_cases hc2 : y1.1 = (0 : Int32)
  · rw [if_pos hc2] at hf
    refine e_if_t (t := 23) hm_25 rfl (ct_eq hc2) rfl ?_
    refine e_bipush hm_25 rfl kc_bipush_m2 ?_
    obtain rfl := Option.some.inj hf
    exact e_iret hm_25 rfl rfl hq
  · rw [if_neg hc2] at hf
    refine e_if_f hm_25 rfl (cf_eq hc2) ?_
    refine e_iload_n hm_25 rfl rfl ?_
    refine e_iconst hm_25 rfl kc_iconst_m1 ?_
    by_cases hc3 : a2 = (-1 : Int32)
    · rw [if_pos hc3] at hf
      refine e_ic_t (t := 26) hm_25 rfl (ct_eq hc3) rfl ?_
      refine e_aload_n hm_25 rfl rfl ?_
      refine e_getR hm_25 rfl rfl rfl rfl ?_
      refine e_aload_n hm_25 rfl rfl ?_
      refine e_getR hm_25 rfl rfl rfl rfl ?_
      refine e_iload_n hm_25 rfl rfl ?_
      refine e_iload_n hm_25 rfl rfl ?_
      obtain ⟨y4, hky4, hf⟩ := mm_bd hf
      refine e_virt hm_25 rfl rfl rfl rfl (Nat.le_of_ble_eq_true rfl) hm_27 rfl rfl (c_27 1 a1 a2 y1.2 rfl hky4 ?_)
      show Ev Z _ 25 39 [some (.ref 0), some (.int a1), some (.int a2), none] [.int y4.1] (mm_H y4.2) Q
      by_cases hc5 : y4.1 = (0 : Int32)
      · rw [if_pos hc5] at hf
        refine e_if_f hm_25 rfl (cf_ne hc5) ?_
        refine e_bipush hm_25 rfl kc_bipush_m3 ?_
        obtain rfl := Option.some.inj hf
        exact e_iret hm_25 rfl rfl hq
      · rw [if_neg hc5] at hf
        refine e_if_t (t := 45) hm_25 rfl (ct_ne hc5) rfl ?_
        refine e_aload_n hm_25 rfl rfl ?_
        refine e_getR hm_25 rfl rfl rfl rfl ?_
        refine e_getR hm_25 rfl rfl rfl rfl ?_
        refine e_iload_n hm_25 rfl rfl ?_
        obtain ⟨hi6, hf⟩ := mm_ite hf
        refine e_iald hm_25 rfl rfl hi6 ?_
        refine e_istore_n (L2 := [some (.ref 0), some (.int a1), some (.int a2), some (.int (y4.2.1 7 a1.toNatClampNeg))]) hm_25 rfl rfl ?_
        refine e_aload_n hm_25 rfl rfl ?_
        refine e_getR hm_25 rfl rfl rfl rfl ?_
        refine e_getR hm_25 rfl rfl rfl rfl ?_
        refine e_iload_n hm_25 rfl rfl ?_
        refine e_iload_n hm_25 rfl rfl ?_
        obtain ⟨hi7, hf⟩ := mm_ite hf
        refine e_iast hm_25 rfl rfl hi7 ?_
        refine e_iload_n hm_25 rfl rfl ?_
        obtain rfl := Option.some.inj hf
        exact e_iret hm_25 rfl rfl hq
    · rw [if_neg hc3] at hf
      refine e_ic_f hm_25 rfl (cf_eq hc3) ?_
      refine e_iload_n hm_25 rfl rfl ?_
      obtain ⟨y8, hky8, hf⟩ := mm_bd hf
      refine e_stat hm_25 rfl (by decide) rfl rfl (Nat.le_of_ble_eq_true rfl) hm_26 rfl rfl (c_26 a2 y1.2 hky8 ?_)
      show Ev Z _ 25 20 [some (.ref 0), some (.int a1), some (.int a2), none] [.int y8.1] (mm_H y8.2) Q
      by_cases hc9 : y8.1 = (0 : Int32)
      · rw [if_pos hc9] at hf
        refine e_if_f hm_25 rfl (cf_ne hc9) ?_
        refine e_bipush hm_25 rfl kc_bipush_m2 ?_
        obtain rfl := Option.some.inj hf
        exact e_iret hm_25 rfl rfl hq
      · rw [if_neg hc9] at hf
        refine e_if_t (t := 26) hm_25 rfl (ct_ne hc9) rfl ?_
        refine e_aload_n hm_25 rfl rfl ?_
        refine e_getR hm_25 rfl rfl rfl rfl ?_
        refine e_aload_n hm_25 rfl rfl ?_
        refine e_getR hm_25 rfl rfl rfl rfl ?_
        refine e_iload_n hm_25 rfl rfl ?_
        refine e_iload_n hm_25 rfl rfl ?_
        obtain ⟨y10, hky10, hf⟩ := mm_bd hf
        refine e_virt hm_25 rfl rfl rfl rfl (Nat.le_of_ble_eq_true rfl) hm_27 rfl rfl (c_27 1 a1 a2 y8.2 rfl hky10 ?_)
        show Ev Z _ 25 39 [some (.ref 0), some (.int a1), some (.int a2), none] [.int y10.1] (mm_H y10.2) Q
        by_cases hc11 : y10.1 = (0 : Int32)
        · rw [if_pos hc11] at hf
          refine e_if_f hm_25 rfl (cf_ne hc11) ?_
          refine e_bipush hm_25 rfl kc_bipush_m3 ?_
          obtain rfl := Option.some.inj hf
          exact e_iret hm_25 rfl rfl hq
        · rw [if_neg hc11] at hf
          refine e_if_t (t := 45) hm_25 rfl (ct_ne hc11) rfl ?_
          refine e_aload_n hm_25 rfl rfl ?_
          refine e_getR hm_25 rfl rfl rfl rfl ?_
          refine e_getR hm_25 rfl rfl rfl rfl ?_
          refine e_iload_n hm_25 rfl rfl ?_
          obtain ⟨hi12, hf⟩ := mm_ite hf
          refine e_iald hm_25 rfl rfl hi12 ?_
          refine e_istore_n (L2 := [some (.ref 0), some (.int a1), some (.int a2), some (.int (y10.2.1 7 a1.toNatClampNeg))]) hm_25 rfl rfl ?_
          refine e_aload_n hm_25 rfl rfl ?_
          refine e_getR hm_25 rfl rfl rfl rfl ?_
          refine e_getR hm_25 rfl rfl rfl rfl ?_
          refine e_iload_n hm_25 rfl rfl ?_
          refine e_iload_n hm_25 rfl rfl ?_
          obtain ⟨hi13, hf⟩ := mm_ite hf
          refine e_iast hm_25 rfl rfl hi13 ?_
          refine e_iload_n hm_25 rfl rfl ?_
          obtain rfl := Option.some.inj hf
          exact e_iret hm_25 rfl rfl hq
def kA_glad (a1 : Int32) (a2 : Int32) (a3 : Int32) (a4 : Int32) (M : mm_M) : Option (Int32 × mm_M) :=
  if a3 = (0 : Int32) then
    some ((0 : Int32), M)
  else
    some ((5 : Int32), M)
set_option maxRecDepth 20000 in
set_option maxHeartbeats 4000000 in
theorem c_49 {Z : ak_Z} {d : Nat} {kc : Nat} (t : Nat) (a1 : Int32) (a2 : Int32) (a3 : Int32) (a4 : Int32) (M : mm_M) (ht : mm_kc t = some kc) {y : Int32 × mm_M} (hf : kA_glad a1 a2 a3 a4 M = some y) {Q : Option Value → ak_H → Prop} (hq : Q (some (.int y.1)) (mm_H y.2)) : Ev Z (d + 0) 49 0 [some (.ref t), some (.int a1), some (.int a2), some (.int a3), some (.int a4)] [] (mm_H M) Q := by
  rw [kA_glad] at hf
  refine e_iload_n hm_49 rfl rfl ?_
  by_cases hc1 : a3 = (0 : Int32)
  · rw [if_pos hc1] at hf
    refine e_if_t (t := 8) hm_49 rfl (ct_eq hc1) rfl ?_
    refine e_iconst hm_49 rfl kc_iconst_0 ?_
    obtain rfl := Option.some.inj hf
    exact e_iret hm_49 rfl rfl hq
  · rw [if_neg hc1] at hf
    refine e_if_f hm_49 rfl (cf_eq hc1) ?_
    refine e_iconst hm_49 rfl kc_iconst_5 ?_
    refine e_goto (t := 9) hm_49 rfl rfl ?_
    obtain rfl := Option.some.inj hf
    exact e_iret hm_49 rfl rfl hq
def kC_glad (a1 : Int32) (a2 : Int32) (a3 : Int32) (a4 : Int32) (M : mm_M) : Option (Int32 × mm_M) :=
  if a3 = (0 : Int32) then
    some (a2 / (2 : Int32), M)
  else
    some (a2, M)
set_option maxRecDepth 20000 in
set_option maxHeartbeats 4000000 in
theorem c_54 {Z : ak_Z} {d : Nat} {kc : Nat} (t : Nat) (a1 : Int32) (a2 : Int32) (a3 : Int32) (a4 : Int32) (M : mm_M) (ht : mm_kc t = some kc) {y : Int32 × mm_M} (hf : kC_glad a1 a2 a3 a4 M = some y) {Q : Option Value → ak_H → Prop} (hq : Q (some (.int y.1)) (mm_H y.2)) : Ev Z (d + 0) 54 0 [some (.ref t), some (.int a1), some (.int a2), some (.int a3), some (.int a4)] [] (mm_H M) Q := by
  rw [kC_glad] at hf
  refine e_iload_n hm_54 rfl rfl ?_
  by_cases hc1 : a3 = (0 : Int32)
  · rw [if_pos hc1] at hf
    refine e_if_t (t := 8) hm_54 rfl (ct_eq hc1) rfl ?_
    refine e_iload_n hm_54 rfl rfl ?_
    refine e_iconst hm_54 rfl kc_iconst_2 ?_
    refine e_idiv hm_54 rfl (by decide) ?_
    obtain rfl := Option.some.inj hf
    exact e_iret hm_54 rfl rfl hq
  · rw [if_neg hc1] at hf
    refine e_if_f hm_54 rfl (cf_eq hc1) ?_
    refine e_iload_n hm_54 rfl rfl ?_
    refine e_goto (t := 11) hm_54 rfl rfl ?_
    obtain rfl := Option.some.inj hf
    exact e_iret hm_54 rfl rfl hq
def kS_glad (a1 : Int32) (a2 : Int32) (a3 : Int32) (a4 : Int32) (M : mm_M) : Option (Int32 × mm_M) :=
  (kC_glad a1 a2 a3 a4 M).bind fun y1 =>
  some (y1.1 + a4, y1.2)
set_option maxRecDepth 20000 in
set_option maxHeartbeats 4000000 in
theorem c_51 {Z : ak_Z} {d : Nat} {kc : Nat} (t : Nat) (a1 : Int32) (a2 : Int32) (a3 : Int32) (a4 : Int32) (M : mm_M) (ht : mm_kc t = some kc) {y : Int32 × mm_M} (hf : kS_glad a1 a2 a3 a4 M = some y) {Q : Option Value → ak_H → Prop} (hq : Q (some (.int y.1)) (mm_H y.2)) : Ev Z (d + 1) 51 0 [some (.ref t), some (.int a1), some (.int a2), some (.int a3), some (.int a4)] [] (mm_H M) Q := by
  rw [kS_glad] at hf
  refine e_aload_n hm_51 rfl rfl ?_
  refine e_iload_n hm_51 rfl rfl ?_
  refine e_iload_n hm_51 rfl rfl ?_
  refine e_iload_n hm_51 rfl rfl ?_
  refine e_iload hm_51 rfl rfl ?_
  obtain ⟨y1, hky1, hf⟩ := mm_bd hf
  refine e_spec hm_51 rfl (by decide) rfl rfl (mm_kc_at ht) (Nat.le_of_ble_eq_true rfl) hm_54 rfl rfl (c_54 t a1 a2 a3 a4 M ht hky1 ?_)
  show Ev Z _ 51 9 [some (.ref t), some (.int a1), some (.int a2), some (.int a3), some (.int a4)] [.int y1.1] (mm_H y1.2) Q
  refine e_iload hm_51 rfl rfl ?_
  refine e_iadd hm_51 rfl ?_
  obtain rfl := Option.some.inj hf
  exact e_iret hm_51 rfl rfl hq
def kO_glad (a1 : Int32) (a2 : Int32) (a3 : Int32) (a4 : Int32) (M : mm_M) : Option (Int32 × mm_M) :=
  (kS_glad a1 a2 a3 a4 M).bind fun y1 =>
  some (y1.1 - a1, y1.2)
set_option maxRecDepth 20000 in
set_option maxHeartbeats 4000000 in
theorem c_50 {Z : ak_Z} {d : Nat} {kc : Nat} (t : Nat) (a1 : Int32) (a2 : Int32) (a3 : Int32) (a4 : Int32) (M : mm_M) (ht : mm_kc t = some kc) {y : Int32 × mm_M} (hf : kO_glad a1 a2 a3 a4 M = some y) {Q : Option Value → ak_H → Prop} (hq : Q (some (.int y.1)) (mm_H y.2)) : Ev Z (d + 2) 50 0 [some (.ref t), some (.int a1), some (.int a2), some (.int a3), some (.int a4)] [] (mm_H M) Q := by
  rw [kO_glad] at hf
  refine e_aload_n hm_50 rfl rfl ?_
  refine e_iload_n hm_50 rfl rfl ?_
  refine e_iload_n hm_50 rfl rfl ?_
  refine e_iload_n hm_50 rfl rfl ?_
  refine e_iload hm_50 rfl rfl ?_
  obtain ⟨y1, hky1, hf⟩ := mm_bd hf
  refine e_spec hm_50 rfl (by decide) rfl rfl (mm_kc_at ht) (Nat.le_of_ble_eq_true rfl) hm_51 rfl rfl (c_51 t a1 a2 a3 a4 M ht hky1 ?_)
  show Ev Z _ 50 9 [some (.ref t), some (.int a1), some (.int a2), some (.int a3), some (.int a4)] [.int y1.1] (mm_H y1.2) Q
  refine e_iload_n hm_50 rfl rfl ?_
  refine e_isub hm_50 rfl ?_
  obtain rfl := Option.some.inj hf
  exact e_iret hm_50 rfl rfl hq
def kP_glad (a1 : Int32) (a2 : Int32) (a3 : Int32) (a4 : Int32) (M : mm_M) : Option (Int32 × mm_M) :=
  (kC_glad a1 a2 a3 a4 M).bind fun y1 =>
  (kC_isSummer a1 y1.2).bind fun y2 =>
  if y2.1 = (0 : Int32) then
    some (y1.1, y2.2)
  else
    some ((2 : Int32) * y1.1, y2.2)
set_option maxRecDepth 20000 in
set_option maxHeartbeats 4000000 in
theorem c_53 {Z : ak_Z} {d : Nat} {kc : Nat} (t : Nat) (a1 : Int32) (a2 : Int32) (a3 : Int32) (a4 : Int32) (M : mm_M) (ht : mm_kc t = some kc) {y : Int32 × mm_M} (hf : kP_glad a1 a2 a3 a4 M = some y) {Q : Option Value → ak_H → Prop} (hq : Q (some (.int y.1)) (mm_H y.2)) : Ev Z (d + 1) 53 0 [some (.ref t), some (.int a1), some (.int a2), some (.int a3), some (.int a4), none] [] (mm_H M) Q := by
  rw [kP_glad] at hf
  refine e_aload_n hm_53 rfl rfl ?_
  refine e_iload_n hm_53 rfl rfl ?_
  refine e_iload_n hm_53 rfl rfl ?_
  refine e_iload_n hm_53 rfl rfl ?_
  refine e_iload hm_53 rfl rfl ?_
  obtain ⟨y1, hky1, hf⟩ := mm_bd hf
  refine e_spec hm_53 rfl (by decide) rfl rfl (mm_kc_at ht) (Nat.le_of_ble_eq_true rfl) hm_54 rfl rfl (c_54 t a1 a2 a3 a4 M ht hky1 ?_)
  show Ev Z _ 53 9 [some (.ref t), some (.int a1), some (.int a2), some (.int a3), some (.int a4), none] [.int y1.1] (mm_H y1.2) Q
  refine e_istore (L2 := [some (.ref t), some (.int a1), some (.int a2), some (.int a3), some (.int a4), some (.int y1.1)]) hm_53 rfl rfl ?_
  refine e_iload_n hm_53 rfl rfl ?_
  obtain ⟨y2, hky2, hf⟩ := mm_bd hf
  refine e_stat hm_53 rfl (by decide) rfl rfl (Nat.le_of_ble_eq_true rfl) hm_44 rfl rfl (c_44 a1 y1.2 hky2 ?_)
  show Ev Z _ 53 15 [some (.ref t), some (.int a1), some (.int a2), some (.int a3), some (.int a4), some (.int y1.1)] [.int y2.1] (mm_H y2.2) Q
  by_cases hc3 : y2.1 = (0 : Int32)
  · rw [if_pos hc3] at hf
    refine e_if_t (t := 25) hm_53 rfl (ct_eq hc3) rfl ?_
    refine e_iload hm_53 rfl rfl ?_
    obtain rfl := Option.some.inj hf
    exact e_iret hm_53 rfl rfl hq
  · rw [if_neg hc3] at hf
    refine e_if_f hm_53 rfl (cf_eq hc3) ?_
    refine e_iconst hm_53 rfl kc_iconst_2 ?_
    refine e_iload hm_53 rfl rfl ?_
    refine e_imul hm_53 rfl ?_
    refine e_goto (t := 27) hm_53 rfl rfl ?_
    obtain rfl := Option.some.inj hf
    exact e_iret hm_53 rfl rfl hq
def kB_glad (a1 : Int32) (a2 : Int32) (a3 : Int32) (a4 : Int32) (M : mm_M) : Option (Int32 × mm_M) :=
  if a1 = (a4 - a4 / (8 : Int32) * (8 : Int32)) then
    some ((30 : Int32), M)
  else
    (kP_glad a1 a2 a3 a4 M).bind fun y2 =>
    some (y2.1, y2.2)
set_option maxRecDepth 20000 in
set_option maxHeartbeats 4000000 in
theorem c_52 {Z : ak_Z} {d : Nat} {kc : Nat} (t : Nat) (a1 : Int32) (a2 : Int32) (a3 : Int32) (a4 : Int32) (M : mm_M) (ht : mm_kc t = some kc) {y : Int32 × mm_M} (hf : kB_glad a1 a2 a3 a4 M = some y) {Q : Option Value → ak_H → Prop} (hq : Q (some (.int y.1)) (mm_H y.2)) : Ev Z (d + 2) 52 0 [some (.ref t), some (.int a1), some (.int a2), some (.int a3), some (.int a4)] [] (mm_H M) Q := by
  rw [kB_glad] at hf
  refine e_iload_n hm_52 rfl rfl ?_
  refine e_iload hm_52 rfl rfl ?_
  refine e_bipush hm_52 rfl kc_bipush_8 ?_
  refine e_irem hm_52 rfl (by decide) ?_
  by_cases hc1 : a1 = (a4 - a4 / (8 : Int32) * (8 : Int32))
  · rw [if_pos hc1] at hf
    refine e_ic_f hm_52 rfl (cf_ne hc1) ?_
    refine e_bipush hm_52 rfl kc_bipush_30 ?_
    refine e_goto (t := 23) hm_52 rfl rfl ?_
    obtain rfl := Option.some.inj hf
    exact e_iret hm_52 rfl rfl hq
  · rw [if_neg hc1] at hf
    refine e_ic_t (t := 14) hm_52 rfl (ct_ne hc1) rfl ?_
    refine e_aload_n hm_52 rfl rfl ?_
    refine e_iload_n hm_52 rfl rfl ?_
    refine e_iload_n hm_52 rfl rfl ?_
    refine e_iload_n hm_52 rfl rfl ?_
    refine e_iload hm_52 rfl rfl ?_
    obtain ⟨y2, hky2, hf⟩ := mm_bd hf
    refine e_spec hm_52 rfl (by decide) rfl rfl (mm_kc_at ht) (Nat.le_of_ble_eq_true rfl) hm_53 rfl rfl (c_53 t a1 a2 a3 a4 M ht hky2 ?_)
    show Ev Z _ 52 23 [some (.ref t), some (.int a1), some (.int a2), some (.int a3), some (.int a4)] [.int y2.1] (mm_H y2.2) Q
    obtain rfl := Option.some.inj hf
    exact e_iret hm_52 rfl rfl hq
def kd_glad (c : Nat) (a1 : Int32) (a2 : Int32) (a3 : Int32) (a4 : Int32) (M : mm_M) : Option (Int32 × mm_M) :=
  if c = 0 then kA_glad a1 a2 a3 a4 M else if c = 1 then kO_glad a1 a2 a3 a4 M else if c = 2 then kB_glad a1 a2 a3 a4 M else if c = 3 then kC_glad a1 a2 a3 a4 M else if c = 4 then kP_glad a1 a2 a3 a4 M else if c = 9 then kS_glad a1 a2 a3 a4 M else none
set_option maxHeartbeats 4000000 in
theorem kdc_glad {Z : ak_Z} {d : Nat} (c e : Nat) (a1 : Int32) (a2 : Int32) (a3 : Int32) (a4 : Int32) (M : mm_M) {y : Int32 × mm_M} (hk : mm_kc e = some c) (hf : kd_glad c a1 a2 a3 a4 M = some y) : ∃ mj qj Lj, ak_fam 0 c = some mj ∧ ak_M[mj]? = some qj ∧ ak_ent qj.2.2.1 (.ref e :: [.int a1, .int a2, .int a3, .int a4]) = Lj ∧ Lj.length = qj.2.2.1 ∧ ∀ (Q : Option Value → ak_H → Prop), Q (some (.int y.1)) (mm_H y.2) → Ev Z (d + 2) mj 0 Lj [] (mm_H M) Q := by
  unfold kd_glad at hf
  by_cases h0 : c = 0
  · rw [if_pos h0] at hf
    subst h0
    exact ⟨49, q_49, _, rfl, hm_49, rfl, rfl, fun Q hq => c_49 (d := d + 2) e a1 a2 a3 a4 M hk hf hq⟩
  rw [if_neg h0] at hf
  by_cases h1 : c = 1
  · rw [if_pos h1] at hf
    subst h1
    exact ⟨50, q_50, _, rfl, hm_50, rfl, rfl, fun Q hq => c_50 (d := d + 0) e a1 a2 a3 a4 M hk hf hq⟩
  rw [if_neg h1] at hf
  by_cases h2 : c = 2
  · rw [if_pos h2] at hf
    subst h2
    exact ⟨52, q_52, _, rfl, hm_52, rfl, rfl, fun Q hq => c_52 (d := d + 0) e a1 a2 a3 a4 M hk hf hq⟩
  rw [if_neg h2] at hf
  by_cases h3 : c = 3
  · rw [if_pos h3] at hf
    subst h3
    exact ⟨54, q_54, _, rfl, hm_54, rfl, rfl, fun Q hq => c_54 (d := d + 2) e a1 a2 a3 a4 M hk hf hq⟩
  rw [if_neg h3] at hf
  by_cases h4 : c = 4
  · rw [if_pos h4] at hf
    subst h4
    exact ⟨53, q_53, _, rfl, hm_53, rfl, rfl, fun Q hq => c_53 (d := d + 1) e a1 a2 a3 a4 M hk hf hq⟩
  rw [if_neg h4] at hf
  by_cases h9 : c = 9
  · rw [if_pos h9] at hf
    subst h9
    exact ⟨51, q_51, _, rfl, hm_51, rfl, rfl, fun Q hq => c_51 (d := d + 1) e a1 a2 a3 a4 M hk hf hq⟩
  rw [if_neg h9] at hf
  cases hf
def ru_glad (a1 : Nat) (a2 : Int32) (a3 : Int32) (M : mm_M) : Option (Int32 × mm_M) :=
  (ru_nameWeek a1 a2 a3 M).bind fun y1 =>
  (ru_textAt (y1.2.1 a1 3) y1.2).bind fun y2 => if mm_is10 y2.1 = true then
  (tx_value y2.1 (0 : Int32) 35 36 y2.2).bind fun y4 =>
  if ak_inb a2 4 = true then
  (ru_kindAt (y4.2.1 (a1 + 1) a2.toNatClampNeg) y4.2).bind fun y6 =>
  (sh_wishesFor a1 a2 a3 y6.2).bind fun y7 =>
  if ak_inb a2 4 = true then
  ((mm_kc y6.1).bind fun c10 => kd_glad c10 a3 (i_max (-99 : Int32) (i_min (99 : Int32) y4.1)) y7.1 (y7.2.1 (a1 + 2) a2.toNatClampNeg) y7.2).bind fun y9 =>
  some (y9.1, y9.2) else none else none else none
set_option maxRecDepth 20000 in
set_option maxHeartbeats 4000000 in
theorem c_48 {Z : ak_Z} {d : Nat} (a1 : Nat) (a2 : Int32) (a3 : Int32) (M : mm_M) (ha1 : mm_is8 a1 = true) {y : Int32 × mm_M} (hf : ru_glad a1 a2 a3 M = some y) {Q : Option Value → ak_H → Prop} (hq : Q (some (.int y.1)) (mm_H y.2)) : Ev Z (d + 3) 48 0 [some (.ref 26), some (.ref a1), some (.int a2), some (.int a3), none, none] [] (mm_H M) Q := by
  rw [ru_glad] at hf
  refine e_aload_n hm_48 rfl rfl ?_
  refine e_aload_n hm_48 rfl rfl ?_
  refine e_iload_n hm_48 rfl rfl ?_
  refine e_iload_n hm_48 rfl rfl ?_
  obtain ⟨y1, hky1, hf⟩ := mm_bd hf
  refine e_virt hm_48 rfl rfl rfl rfl (Nat.le_of_ble_eq_true rfl) hm_30 rfl rfl (c_30 a1 a2 a3 M ha1 hky1 ?_)
  show Ev Z _ 48 7 [some (.ref 26), some (.ref a1), some (.int a2), some (.int a3), none, none] [] (mm_H y1.2) Q
  refine e_aload_n hm_48 rfl rfl ?_
  refine e_aload_n hm_48 rfl rfl ?_
  refine e_getI hm_48 rfl (mm_cl8 ha1) rfl ?_
  obtain ⟨y2, hky2, hf⟩ := mm_bd hf
  refine e_virt hm_48 rfl rfl rfl rfl (Nat.le_of_ble_eq_true rfl) hm_34 rfl rfl (c_34 (y1.2.1 a1 3) y1.2 hky2 ?_)
  show Ev Z _ 48 15 [some (.ref 26), some (.ref a1), some (.int a2), some (.int a3), none, none] [.ref y2.1] (mm_H y2.2) Q
  obtain ⟨ho3, hf⟩ := mm_ite hf
  refine e_iconst hm_48 rfl kc_iconst_0 ?_
  refine e_aload_n hm_48 rfl rfl ?_
  refine e_getR hm_48 rfl rfl rfl rfl ?_
  refine e_aload_n hm_48 rfl rfl ?_
  refine e_getR hm_48 rfl rfl rfl rfl ?_
  obtain ⟨y4, hky4, hf⟩ := mm_bd hf
  refine e_virt hm_48 rfl rfl rfl (mm_cl10 ho3) (Nat.le_of_ble_eq_true rfl) hm_35 rfl rfl (c_35 y2.1 (0 : Int32) 35 36 y2.2 ho3 hky4 ?_)
  show Ev Z _ 48 27 [some (.ref 26), some (.ref a1), some (.int a2), some (.int a3), none, none] [.int y4.1] (mm_H y4.2) Q
  refine e_istore (L2 := [some (.ref 26), some (.ref a1), some (.int a2), some (.int a3), some (.int y4.1), none]) hm_48 rfl rfl ?_
  refine e_bipush hm_48 rfl kc_bipush_m99 ?_
  refine e_bipush hm_48 rfl kc_bipush_99 ?_
  refine e_iload hm_48 rfl rfl ?_
  refine e_min hm_48 rfl (Nat.le_of_ble_eq_true rfl) ?_
  refine e_max hm_48 rfl (Nat.le_of_ble_eq_true rfl) ?_
  refine e_istore (L2 := [some (.ref 26), some (.ref a1), some (.int a2), some (.int a3), some (.int y4.1), some (.int (i_max (-99 : Int32) (i_min (99 : Int32) y4.1)))]) hm_48 rfl rfl ?_
  refine e_aload_n hm_48 rfl rfl ?_
  refine e_aload_n hm_48 rfl rfl ?_
  refine e_getR hm_48 rfl (mm_cl8 ha1) rfl (mm_rf8_5 ha1) ?_
  refine e_iload_n hm_48 rfl rfl ?_
  obtain ⟨hi5, hf⟩ := mm_ite hf
  refine e_iald hm_48 rfl (mm_ar8_5 ha1) hi5 ?_
  obtain ⟨y6, hky6, hf⟩ := mm_bd hf
  refine e_virt hm_48 rfl rfl rfl rfl (Nat.le_of_ble_eq_true rfl) hm_39 rfl rfl (c_39 (y4.2.1 (a1 + 1) a2.toNatClampNeg) y4.2 hky6 ?_)
  show Ev Z _ 48 53 [some (.ref 26), some (.ref a1), some (.int a2), some (.int a3), some (.int y4.1), some (.int (i_max (-99 : Int32) (i_min (99 : Int32) y4.1)))] [.ref y6.1] (mm_H y6.2) Q
  refine e_iload_n hm_48 rfl rfl ?_
  refine e_iload hm_48 rfl rfl ?_
  refine e_aload_n hm_48 rfl rfl ?_
  refine e_iload_n hm_48 rfl rfl ?_
  refine e_iload_n hm_48 rfl rfl ?_
  obtain ⟨y7, hky7, hf⟩ := mm_bd hf
  refine e_virt hm_48 rfl rfl rfl (mm_cl8 ha1) (Nat.le_of_ble_eq_true rfl) hm_32 rfl rfl (c_32 a1 a2 a3 y6.2 ha1 hky7 ?_)
  show Ev Z _ 48 62 [some (.ref 26), some (.ref a1), some (.int a2), some (.int a3), some (.int y4.1), some (.int (i_max (-99 : Int32) (i_min (99 : Int32) y4.1)))] [.int y7.1, .int (i_max (-99 : Int32) (i_min (99 : Int32) y4.1)), .int a3, .ref y6.1] (mm_H y7.2) Q
  refine e_aload_n hm_48 rfl rfl ?_
  refine e_getR hm_48 rfl (mm_cl8 ha1) rfl (mm_rf8_6 ha1) ?_
  refine e_iload_n hm_48 rfl rfl ?_
  obtain ⟨hi8, hf⟩ := mm_ite hf
  refine e_iald hm_48 rfl (mm_ar8_6 ha1) hi8 ?_
  obtain ⟨y9, hky9, hf⟩ := mm_bd hf
  obtain ⟨c10, hkc10, hky9⟩ := mm_bd hky9
  obtain ⟨mj, qj, Lj, z1, z2, z3, z4, z5⟩ := kdc_glad (Z := Z) (d := _) c10 y6.1 a3 (i_max (-99 : Int32) (i_min (99 : Int32) y4.1)) y7.1 (y7.2.1 (a1 + 2) a2.toNatClampNeg) y7.2 hkc10 hky9
  refine e_fam hm_48 rfl rfl rfl (mm_kc_at hkc10) z1 (Nat.le_of_ble_eq_true rfl) z2 z3 z4 (z5 _ ?_)
  show Ev Z _ 48 71 [some (.ref 26), some (.ref a1), some (.int a2), some (.int a3), some (.int y4.1), some (.int (i_max (-99 : Int32) (i_min (99 : Int32) y4.1)))] [.int y9.1] (mm_H y9.2) Q
  obtain rfl := Option.some.inj hf
  exact e_iret hm_48 rfl rfl hq
def ru_gladness_l18 : Nat → Nat → Int32 → Int32 → Int32 → Int32 → mm_M → Option (((Int32) × mm_M))
  | 0, _, _, _, _, _, _ => none
  | n + 1, x1, x2, x3, x4, x5, M =>
    if x5 < (8 : Int32) then
      if ((x3 >>> (x5 &&& 31)) &&& (1 : Int32)) = (0 : Int32) then
        ru_gladness_l18 n x1 x2 x3 x4 (x5 + (1 : Int32)) M
      else
        (ru_glad x1 x2 x5 M).bind fun y3 =>
        ru_gladness_l18 n x1 x2 x3 (x4 + y3.1) (x5 + (1 : Int32)) y3.2
    else
      some (x4, M)
set_option maxRecDepth 20000 in
set_option maxHeartbeats 4000000 in
theorem lc_47_18 {Z : ak_Z} {d : Nat} : ∀ (n : Nat) (x1 : Nat) (x2 : Int32) (x3 : Int32) (x4 : Int32) (x5 : Int32) (M : mm_M) (hx1 : mm_is8 x1 = true) {y : ((Int32) × mm_M)} (Q : Option Value → ak_H → Prop), ru_gladness_l18 n x1 x2 x3 x4 x5 M = some y → (Ev Z (d + 4) 47 53 [none, none, none, none, some (.int y.1), none] [] (mm_H y.2) Q) → Ev Z (d + 4) 47 18 [some (.ref 26), some (.ref x1), some (.int x2), some (.int x3), some (.int x4), some (.int x5)] [] (mm_H M) Q := by
  intro n
  induction n with
  | zero => intro x1 x2 x3 x4 x5 M hx1 y Q hf; cases hf
  | succ n ih =>
    intro x1 x2 x3 x4 x5 M hx1 y Q hf hq
    rw [ru_gladness_l18] at hf
    refine e_iload hm_47 rfl rfl ?_
    refine e_bipush hm_47 rfl kc_bipush_8 ?_
    by_cases hc1 : x5 < (8 : Int32)
    · rw [if_pos hc1] at hf
      refine e_ic_f hm_47 rfl (cf_ge hc1) ?_
      refine e_iload_n hm_47 rfl rfl ?_
      refine e_iload hm_47 rfl rfl ?_
      refine e_ishr hm_47 rfl ?_
      refine e_iconst hm_47 rfl kc_iconst_1 ?_
      refine e_iand hm_47 rfl ?_
      by_cases hc2 : ((x3 >>> (x5 &&& 31)) &&& (1 : Int32)) = (0 : Int32)
      · rw [if_pos hc2] at hf
        refine e_if_t (t := 47) hm_47 rfl (ct_eq hc2) rfl ?_
        refine e_iinc (L2 := [some (.ref 26), some (.ref x1), some (.int x2), some (.int x3), some (.int x4), some (.int (x5 + (1 : Int32)))]) hm_47 rfl kc_iinc_1 rfl rfl ?_
        refine e_goto (t := 18) hm_47 rfl rfl ?_
        exact e_forget (L' := [some (.ref 26), some (.ref x1), some (.int x2), some (.int x3), some (.int x4), some (.int (x5 + (1 : Int32)))]) (lf_k (lf_k (lf_k (lf_k (lf_k (lf_k lf_0)))))) (ih x1 x2 x3 x4 (x5 + (1 : Int32)) M hx1 Q hf hq)
      · rw [if_neg hc2] at hf
        refine e_if_f hm_47 rfl (cf_eq hc2) ?_
        refine e_iload hm_47 rfl rfl ?_
        refine e_aload_n hm_47 rfl rfl ?_
        refine e_aload_n hm_47 rfl rfl ?_
        refine e_iload_n hm_47 rfl rfl ?_
        refine e_iload hm_47 rfl rfl ?_
        obtain ⟨y3, hky3, hf⟩ := mm_bd hf
        refine e_virt hm_47 rfl rfl rfl rfl (Nat.le_of_ble_eq_true rfl) hm_48 rfl rfl (c_48 x1 x2 x5 M hx1 hky3 ?_)
        show Ev Z _ 47 44 [some (.ref 26), some (.ref x1), some (.int x2), some (.int x3), some (.int x4), some (.int x5)] [.int y3.1, .int x4] (mm_H y3.2) Q
        refine e_iadd hm_47 rfl ?_
        refine e_istore (L2 := [some (.ref 26), some (.ref x1), some (.int x2), some (.int x3), some (.int (x4 + y3.1)), some (.int x5)]) hm_47 rfl rfl ?_
        refine e_iinc (L2 := [some (.ref 26), some (.ref x1), some (.int x2), some (.int x3), some (.int (x4 + y3.1)), some (.int (x5 + (1 : Int32)))]) hm_47 rfl kc_iinc_1 rfl rfl ?_
        refine e_goto (t := 18) hm_47 rfl rfl ?_
        exact e_forget (L' := [some (.ref 26), some (.ref x1), some (.int x2), some (.int x3), some (.int (x4 + y3.1)), some (.int (x5 + (1 : Int32)))]) (lf_k (lf_k (lf_k (lf_k (lf_k (lf_k lf_0)))))) (ih x1 x2 x3 (x4 + y3.1) (x5 + (1 : Int32)) y3.2 hx1 Q hf hq)
    · rw [if_neg hc1] at hf
      refine e_ic_t (t := 53) hm_47 rfl (ct_ge hc1) rfl ?_
      obtain rfl := Option.some.inj hf
      exact e_forget (L' := [none, none, none, none, some (.int x4), none]) (lf_d (lf_d (lf_d (lf_d (lf_k (lf_d lf_0)))))) hq
def ru_gladness (a1 : Nat) (a2 : Int32) (M : mm_M) : Option (Int32 × mm_M) :=
  if ak_inb a2 4 = true then
  (sh_weeksFrom a1 a2 (M.1 (a1 + 6) a2.toNatClampNeg) M).bind fun y2 =>
  (ru_gladness_l18 300 a1 a2 y2.1 (0 : Int32) (0 : Int32) y2.2).bind fun y3 =>
  some (y3.1, y3.2) else none
set_option maxRecDepth 20000 in
set_option maxHeartbeats 4000000 in
theorem c_47 {Z : ak_Z} {d : Nat} (a1 : Nat) (a2 : Int32) (M : mm_M) (ha1 : mm_is8 a1 = true) {y : Int32 × mm_M} (hf : ru_gladness a1 a2 M = some y) {Q : Option Value → ak_H → Prop} (hq : Q (some (.int y.1)) (mm_H y.2)) : Ev Z (d + 4) 47 0 [some (.ref 26), some (.ref a1), some (.int a2), none, none, none] [] (mm_H M) Q := by
  rw [ru_gladness] at hf
  refine e_aload_n hm_47 rfl rfl ?_
  refine e_iload_n hm_47 rfl rfl ?_
  refine e_aload_n hm_47 rfl rfl ?_
  refine e_getR hm_47 rfl (mm_cl8 ha1) rfl (mm_rf8_10 ha1) ?_
  refine e_iload_n hm_47 rfl rfl ?_
  obtain ⟨hi1, hf⟩ := mm_ite hf
  refine e_iald hm_47 rfl (mm_ar8_10 ha1) hi1 ?_
  obtain ⟨y2, hky2, hf⟩ := mm_bd hf
  refine e_virt hm_47 rfl rfl rfl (mm_cl8 ha1) (Nat.le_of_ble_eq_true rfl) hm_28 rfl rfl (c_28 a1 a2 (M.1 (a1 + 6) a2.toNatClampNeg) M ha1 hky2 ?_)
  show Ev Z _ 47 11 [some (.ref 26), some (.ref a1), some (.int a2), none, none, none] [.int y2.1] (mm_H y2.2) Q
  refine e_istore_n (L2 := [some (.ref 26), some (.ref a1), some (.int a2), some (.int y2.1), none, none]) hm_47 rfl rfl ?_
  refine e_iconst hm_47 rfl kc_iconst_0 ?_
  refine e_istore (L2 := [some (.ref 26), some (.ref a1), some (.int a2), some (.int y2.1), some (.int (0 : Int32)), none]) hm_47 rfl rfl ?_
  refine e_iconst hm_47 rfl kc_iconst_0 ?_
  refine e_istore (L2 := [some (.ref 26), some (.ref a1), some (.int a2), some (.int y2.1), some (.int (0 : Int32)), some (.int (0 : Int32))]) hm_47 rfl rfl ?_
  obtain ⟨y3, hky3, hf⟩ := mm_bd hf
  refine e_forget (L' := [some (.ref 26), some (.ref a1), some (.int a2), some (.int y2.1), some (.int (0 : Int32)), some (.int (0 : Int32))]) (lf_k (lf_k (lf_k (lf_k (lf_k (lf_k lf_0)))))) (lc_47_18 (d := _) 300 a1 a2 y2.1 (0 : Int32) (0 : Int32) y2.2 ha1 Q hky3 ?_)
  show Ev Z _ 47 53 [none, none, none, none, some (.int y3.1), none] [] (mm_H y3.2) Q
  refine e_iload hm_47 rfl rfl ?_
  obtain rfl := Option.some.inj hf
  exact e_iret hm_47 rfl rfl hq
def kC_earns (a1 : Int32) (a2 : Int32) (M : mm_M) : Option (Int32 × mm_M) :=
  some (a1, M)
set_option maxRecDepth 20000 in
set_option maxHeartbeats 4000000 in
theorem c_60 {Z : ak_Z} {d : Nat} {kc : Nat} (t : Nat) (a1 : Int32) (a2 : Int32) (M : mm_M) (ht : mm_kc t = some kc) {y : Int32 × mm_M} (hf : kC_earns a1 a2 M = some y) {Q : Option Value → ak_H → Prop} (hq : Q (some (.int y.1)) (mm_H y.2)) : Ev Z (d + 0) 60 0 [some (.ref t), some (.int a1), some (.int a2)] [] (mm_H M) Q := by
  rw [kC_earns] at hf
  refine e_iload_n hm_60 rfl rfl ?_
  obtain rfl := Option.some.inj hf
  exact e_iret hm_60 rfl rfl hq
def kA_earns (a1 : Int32) (a2 : Int32) (M : mm_M) : Option (Int32 × mm_M) :=
  (kC_earns a1 a2 M).bind fun y1 =>
  some (y1.1 / (2 : Int32), y1.2)
set_option maxRecDepth 20000 in
set_option maxHeartbeats 4000000 in
theorem c_56 {Z : ak_Z} {d : Nat} {kc : Nat} (t : Nat) (a1 : Int32) (a2 : Int32) (M : mm_M) (ht : mm_kc t = some kc) {y : Int32 × mm_M} (hf : kA_earns a1 a2 M = some y) {Q : Option Value → ak_H → Prop} (hq : Q (some (.int y.1)) (mm_H y.2)) : Ev Z (d + 1) 56 0 [some (.ref t), some (.int a1), some (.int a2)] [] (mm_H M) Q := by
  rw [kA_earns] at hf
  refine e_aload_n hm_56 rfl rfl ?_
  refine e_iload_n hm_56 rfl rfl ?_
  refine e_iload_n hm_56 rfl rfl ?_
  obtain ⟨y1, hky1, hf⟩ := mm_bd hf
  refine e_spec hm_56 rfl (by decide) rfl rfl (mm_kc_at ht) (Nat.le_of_ble_eq_true rfl) hm_60 rfl rfl (c_60 t a1 a2 M ht hky1 ?_)
  show Ev Z _ 56 6 [some (.ref t), some (.int a1), some (.int a2)] [.int y1.1] (mm_H y1.2) Q
  refine e_iconst hm_56 rfl kc_iconst_2 ?_
  refine e_idiv hm_56 rfl (by decide) ?_
  obtain rfl := Option.some.inj hf
  exact e_iret hm_56 rfl rfl hq
def kO_earns (a1 : Int32) (a2 : Int32) (M : mm_M) : Option (Int32 × mm_M) :=
  some ((0 : Int32), M)
set_option maxRecDepth 20000 in
set_option maxHeartbeats 4000000 in
theorem c_57 {Z : ak_Z} {d : Nat} {kc : Nat} (t : Nat) (a1 : Int32) (a2 : Int32) (M : mm_M) (ht : mm_kc t = some kc) {y : Int32 × mm_M} (hf : kO_earns a1 a2 M = some y) {Q : Option Value → ak_H → Prop} (hq : Q (some (.int y.1)) (mm_H y.2)) : Ev Z (d + 0) 57 0 [some (.ref t), some (.int a1), some (.int a2)] [] (mm_H M) Q := by
  rw [kO_earns] at hf
  refine e_iconst hm_57 rfl kc_iconst_0 ?_
  obtain rfl := Option.some.inj hf
  exact e_iret hm_57 rfl rfl hq
def kP_earns (a1 : Int32) (a2 : Int32) (M : mm_M) : Option (Int32 × mm_M) :=
  if a2 < (30 : Int32) then
    some (a1, M)
  else
    some ((0 : Int32), M)
set_option maxRecDepth 20000 in
set_option maxHeartbeats 4000000 in
theorem c_58 {Z : ak_Z} {d : Nat} {kc : Nat} (t : Nat) (a1 : Int32) (a2 : Int32) (M : mm_M) (ht : mm_kc t = some kc) {y : Int32 × mm_M} (hf : kP_earns a1 a2 M = some y) {Q : Option Value → ak_H → Prop} (hq : Q (some (.int y.1)) (mm_H y.2)) : Ev Z (d + 0) 58 0 [some (.ref t), some (.int a1), some (.int a2)] [] (mm_H M) Q := by
  rw [kP_earns] at hf
  refine e_iload_n hm_58 rfl rfl ?_
  refine e_bipush hm_58 rfl kc_bipush_30 ?_
  by_cases hc1 : a2 < (30 : Int32)
  · rw [if_pos hc1] at hf
    refine e_ic_f hm_58 rfl (cf_ge hc1) ?_
    refine e_iload_n hm_58 rfl rfl ?_
    refine e_goto (t := 11) hm_58 rfl rfl ?_
    obtain rfl := Option.some.inj hf
    exact e_iret hm_58 rfl rfl hq
  · rw [if_neg hc1] at hf
    refine e_ic_t (t := 10) hm_58 rfl (ct_ge hc1) rfl ?_
    refine e_iconst hm_58 rfl kc_iconst_0 ?_
    obtain rfl := Option.some.inj hf
    exact e_iret hm_58 rfl rfl hq
def kS_earns (a1 : Int32) (a2 : Int32) (M : mm_M) : Option (Int32 × mm_M) :=
  some (a1 + (2 : Int32), M)
set_option maxRecDepth 20000 in
set_option maxHeartbeats 4000000 in
theorem c_59 {Z : ak_Z} {d : Nat} {kc : Nat} (t : Nat) (a1 : Int32) (a2 : Int32) (M : mm_M) (ht : mm_kc t = some kc) {y : Int32 × mm_M} (hf : kS_earns a1 a2 M = some y) {Q : Option Value → ak_H → Prop} (hq : Q (some (.int y.1)) (mm_H y.2)) : Ev Z (d + 0) 59 0 [some (.ref t), some (.int a1), some (.int a2)] [] (mm_H M) Q := by
  rw [kS_earns] at hf
  refine e_iload_n hm_59 rfl rfl ?_
  refine e_iconst hm_59 rfl kc_iconst_2 ?_
  refine e_iadd hm_59 rfl ?_
  obtain rfl := Option.some.inj hf
  exact e_iret hm_59 rfl rfl hq
def kd_earns (c : Nat) (a1 : Int32) (a2 : Int32) (M : mm_M) : Option (Int32 × mm_M) :=
  if c = 0 then kA_earns a1 a2 M else if c = 1 then kO_earns a1 a2 M else if c = 2 then kP_earns a1 a2 M else if c = 3 then kC_earns a1 a2 M else if c = 4 then kP_earns a1 a2 M else if c = 9 then kS_earns a1 a2 M else none
set_option maxHeartbeats 4000000 in
theorem kdc_earns {Z : ak_Z} {d : Nat} (c e : Nat) (a1 : Int32) (a2 : Int32) (M : mm_M) {y : Int32 × mm_M} (hk : mm_kc e = some c) (hf : kd_earns c a1 a2 M = some y) : ∃ mj qj Lj, ak_fam 1 c = some mj ∧ ak_M[mj]? = some qj ∧ ak_ent qj.2.2.1 (.ref e :: [.int a1, .int a2]) = Lj ∧ Lj.length = qj.2.2.1 ∧ ∀ (Q : Option Value → ak_H → Prop), Q (some (.int y.1)) (mm_H y.2) → Ev Z (d + 1) mj 0 Lj [] (mm_H M) Q := by
  unfold kd_earns at hf
  by_cases h0 : c = 0
  · rw [if_pos h0] at hf
    subst h0
    exact ⟨56, q_56, _, rfl, hm_56, rfl, rfl, fun Q hq => c_56 (d := d + 0) e a1 a2 M hk hf hq⟩
  rw [if_neg h0] at hf
  by_cases h1 : c = 1
  · rw [if_pos h1] at hf
    subst h1
    exact ⟨57, q_57, _, rfl, hm_57, rfl, rfl, fun Q hq => c_57 (d := d + 1) e a1 a2 M hk hf hq⟩
  rw [if_neg h1] at hf
  by_cases h2 : c = 2
  · rw [if_pos h2] at hf
    subst h2
    exact ⟨58, q_58, _, rfl, hm_58, rfl, rfl, fun Q hq => c_58 (d := d + 1) e a1 a2 M hk hf hq⟩
  rw [if_neg h2] at hf
  by_cases h3 : c = 3
  · rw [if_pos h3] at hf
    subst h3
    exact ⟨60, q_60, _, rfl, hm_60, rfl, rfl, fun Q hq => c_60 (d := d + 1) e a1 a2 M hk hf hq⟩
  rw [if_neg h3] at hf
  by_cases h4 : c = 4
  · rw [if_pos h4] at hf
    subst h4
    exact ⟨58, q_58, _, rfl, hm_58, rfl, rfl, fun Q hq => c_58 (d := d + 1) e a1 a2 M hk hf hq⟩
  rw [if_neg h4] at hf
  by_cases h9 : c = 9
  · rw [if_pos h9] at hf
    subst h9
    exact ⟨59, q_59, _, rfl, hm_59, rfl, rfl, fun Q hq => c_59 (d := d + 1) e a1 a2 M hk hf hq⟩
  rw [if_neg h9] at hf
  cases hf
def ru_earned (a1 : Nat) (a2 : Int32) (M : mm_M) : Option (Int32 × mm_M) :=
  (ru_gladness a1 a2 M).bind fun y1 =>
  (ru_nameOne a1 a2 y1.2).bind fun y2 =>
  (ru_textAt (y2.2.1 a1 3) y2.2).bind fun y3 => if mm_is10 y3.1 = true then
  (tx_value y3.1 (1 : Int32) 35 36 y3.2).bind fun y5 =>
  if ak_inb a2 4 = true then
  (ru_kindAt (y5.2.1 (a1 + 1) a2.toNatClampNeg) y5.2).bind fun y7 =>
  ((mm_kc y7.1).bind fun c9 => kd_earns c9 (i_max (0 : Int32) (i_min (99 : Int32) y5.1)) y1.1 y7.2).bind fun y8 =>
  some (y8.1, y8.2) else none else none
set_option maxRecDepth 20000 in
set_option maxHeartbeats 4000000 in
theorem c_55 {Z : ak_Z} {d : Nat} (a1 : Nat) (a2 : Int32) (M : mm_M) (ha1 : mm_is8 a1 = true) {y : Int32 × mm_M} (hf : ru_earned a1 a2 M = some y) {Q : Option Value → ak_H → Prop} (hq : Q (some (.int y.1)) (mm_H y.2)) : Ev Z (d + 5) 55 0 [some (.ref 26), some (.ref a1), some (.int a2), none, none, none] [] (mm_H M) Q := by
  rw [ru_earned] at hf
  refine e_aload_n hm_55 rfl rfl ?_
  refine e_aload_n hm_55 rfl rfl ?_
  refine e_iload_n hm_55 rfl rfl ?_
  obtain ⟨y1, hky1, hf⟩ := mm_bd hf
  refine e_virt hm_55 rfl rfl rfl rfl (Nat.le_of_ble_eq_true rfl) hm_47 rfl rfl (c_47 a1 a2 M ha1 hky1 ?_)
  show Ev Z _ 55 6 [some (.ref 26), some (.ref a1), some (.int a2), none, none, none] [.int y1.1] (mm_H y1.2) Q
  refine e_istore_n (L2 := [some (.ref 26), some (.ref a1), some (.int a2), some (.int y1.1), none, none]) hm_55 rfl rfl ?_
  refine e_aload_n hm_55 rfl rfl ?_
  refine e_aload_n hm_55 rfl rfl ?_
  refine e_iload_n hm_55 rfl rfl ?_
  obtain ⟨y2, hky2, hf⟩ := mm_bd hf
  refine e_virt hm_55 rfl rfl rfl rfl (Nat.le_of_ble_eq_true rfl) hm_31 rfl rfl (c_31 a1 a2 y1.2 ha1 hky2 ?_)
  show Ev Z _ 55 13 [some (.ref 26), some (.ref a1), some (.int a2), some (.int y1.1), none, none] [] (mm_H y2.2) Q
  refine e_aload_n hm_55 rfl rfl ?_
  refine e_aload_n hm_55 rfl rfl ?_
  refine e_getI hm_55 rfl (mm_cl8 ha1) rfl ?_
  obtain ⟨y3, hky3, hf⟩ := mm_bd hf
  refine e_virt hm_55 rfl rfl rfl rfl (Nat.le_of_ble_eq_true rfl) hm_34 rfl rfl (c_34 (y2.2.1 a1 3) y2.2 hky3 ?_)
  show Ev Z _ 55 21 [some (.ref 26), some (.ref a1), some (.int a2), some (.int y1.1), none, none] [.ref y3.1] (mm_H y3.2) Q
  obtain ⟨ho4, hf⟩ := mm_ite hf
  refine e_iconst hm_55 rfl kc_iconst_1 ?_
  refine e_aload_n hm_55 rfl rfl ?_
  refine e_getR hm_55 rfl rfl rfl rfl ?_
  refine e_aload_n hm_55 rfl rfl ?_
  refine e_getR hm_55 rfl rfl rfl rfl ?_
  obtain ⟨y5, hky5, hf⟩ := mm_bd hf
  refine e_virt hm_55 rfl rfl rfl (mm_cl10 ho4) (Nat.le_of_ble_eq_true rfl) hm_35 rfl rfl (c_35 y3.1 (1 : Int32) 35 36 y3.2 ho4 hky5 ?_)
  show Ev Z _ 55 33 [some (.ref 26), some (.ref a1), some (.int a2), some (.int y1.1), none, none] [.int y5.1] (mm_H y5.2) Q
  refine e_istore (L2 := [some (.ref 26), some (.ref a1), some (.int a2), some (.int y1.1), some (.int y5.1), none]) hm_55 rfl rfl ?_
  refine e_iconst hm_55 rfl kc_iconst_0 ?_
  refine e_bipush hm_55 rfl kc_bipush_99 ?_
  refine e_iload hm_55 rfl rfl ?_
  refine e_min hm_55 rfl (Nat.le_of_ble_eq_true rfl) ?_
  refine e_max hm_55 rfl (Nat.le_of_ble_eq_true rfl) ?_
  refine e_istore (L2 := [some (.ref 26), some (.ref a1), some (.int a2), some (.int y1.1), some (.int y5.1), some (.int (i_max (0 : Int32) (i_min (99 : Int32) y5.1)))]) hm_55 rfl rfl ?_
  refine e_aload_n hm_55 rfl rfl ?_
  refine e_aload_n hm_55 rfl rfl ?_
  refine e_getR hm_55 rfl (mm_cl8 ha1) rfl (mm_rf8_5 ha1) ?_
  refine e_iload_n hm_55 rfl rfl ?_
  obtain ⟨hi6, hf⟩ := mm_ite hf
  refine e_iald hm_55 rfl (mm_ar8_5 ha1) hi6 ?_
  obtain ⟨y7, hky7, hf⟩ := mm_bd hf
  refine e_virt hm_55 rfl rfl rfl rfl (Nat.le_of_ble_eq_true rfl) hm_39 rfl rfl (c_39 (y5.2.1 (a1 + 1) a2.toNatClampNeg) y5.2 hky7 ?_)
  show Ev Z _ 55 58 [some (.ref 26), some (.ref a1), some (.int a2), some (.int y1.1), some (.int y5.1), some (.int (i_max (0 : Int32) (i_min (99 : Int32) y5.1)))] [.ref y7.1] (mm_H y7.2) Q
  refine e_iload hm_55 rfl rfl ?_
  refine e_iload_n hm_55 rfl rfl ?_
  obtain ⟨y8, hky8, hf⟩ := mm_bd hf
  obtain ⟨c9, hkc9, hky8⟩ := mm_bd hky8
  obtain ⟨mj, qj, Lj, z1, z2, z3, z4, z5⟩ := kdc_earns (Z := Z) (d := _) c9 y7.1 (i_max (0 : Int32) (i_min (99 : Int32) y5.1)) y1.1 y7.2 hkc9 hky8
  refine e_fam hm_55 rfl rfl rfl (mm_kc_at hkc9) z1 (Nat.le_of_ble_eq_true rfl) z2 z3 z4 (z5 _ ?_)
  show Ev Z _ 55 64 [some (.ref 26), some (.ref a1), some (.int a2), some (.int y1.1), some (.int y5.1), some (.int (i_max (0 : Int32) (i_min (99 : Int32) y5.1)))] [.int y8.1] (mm_H y8.2) Q
  obtain rfl := Option.some.inj hf
  exact e_iret hm_55 rfl rfl hq
def nb_toldOfWeek (a1 : Int32) (a2 : Int32) (M : mm_M) : Option (Int32 × mm_M) :=
  if a2 < (20 : Int32) then
    if a2 < (30 : Int32) then
      some ((-1000 : Int32), M)
    else
      (nb_isWeek (a2 - (30 : Int32)) M).bind fun y3 =>
      if y3.1 = (0 : Int32) then
        some ((-1000 : Int32), y3.2)
      else
        (ru_wants 1 a1 (a2 - (30 : Int32)) y3.2).bind fun y5 =>
        if y5.1 = (0 : Int32) then
          some ((0 : Int32), y5.2)
        else
          some ((1 : Int32), y5.2)
  else
    (nb_isWeek (a2 - (20 : Int32)) M).bind fun y7 =>
    if y7.1 = (0 : Int32) then
      if a2 < (30 : Int32) then
        some ((-1000 : Int32), y7.2)
      else
        (nb_isWeek (a2 - (30 : Int32)) y7.2).bind fun y10 =>
        if y10.1 = (0 : Int32) then
          some ((-1000 : Int32), y10.2)
        else
          (ru_wants 1 a1 (a2 - (30 : Int32)) y10.2).bind fun y12 =>
          if y12.1 = (0 : Int32) then
            some ((0 : Int32), y12.2)
          else
            some ((1 : Int32), y12.2)
    else
      (ru_glad 1 a1 (a2 - (20 : Int32)) y7.2).bind fun y14 =>
      some (y14.1, y14.2)
set_option maxRecDepth 20000 in
set_option maxHeartbeats 4000000 in
theorem c_61 {Z : ak_Z} {d : Nat} (a1 : Int32) (a2 : Int32) (M : mm_M) {y : Int32 × mm_M} (hf : nb_toldOfWeek a1 a2 M = some y) {Q : Option Value → ak_H → Prop} (hq : Q (some (.int y.1)) (mm_H y.2)) : Ev Z (d + 4) 61 0 [some (.ref 0), some (.int a1), some (.int a2)] [] (mm_H M) Q := by
  rw [nb_toldOfWeek] at hf
  refine e_iload_n hm_61 rfl rfl ?_
  refine e_bipush hm_61 rfl kc_bipush_20 ?_
  by_cases hc1 : a2 < (20 : Int32)
  · rw [if_pos hc1] at hf
    refine e_ic_t (t := 33) hm_61 rfl (ct_lt hc1) rfl ?_
    refine e_iload_n hm_61 rfl rfl ?_
    refine e_bipush hm_61 rfl kc_bipush_30 ?_
    by_cases hc2 : a2 < (30 : Int32)
    · rw [if_pos hc2] at hf
      refine e_ic_t (t := 74) hm_61 rfl (ct_lt hc2) rfl ?_
      refine e_sipush hm_61 rfl kc_sipush_m1000 ?_
      obtain rfl := Option.some.inj hf
      exact e_iret hm_61 rfl rfl hq
    · rw [if_neg hc2] at hf
      refine e_ic_f hm_61 rfl (cf_lt hc2) ?_
      refine e_iload_n hm_61 rfl rfl ?_
      refine e_bipush hm_61 rfl kc_bipush_30 ?_
      refine e_isub hm_61 rfl ?_
      obtain ⟨y3, hky3, hf⟩ := mm_bd hf
      refine e_stat hm_61 rfl (by decide) rfl rfl (Nat.le_of_ble_eq_true rfl) hm_26 rfl rfl (c_26 (a2 - (30 : Int32)) M hky3 ?_)
      show Ev Z _ 61 46 [some (.ref 0), some (.int a1), some (.int a2)] [.int y3.1] (mm_H y3.2) Q
      by_cases hc4 : y3.1 = (0 : Int32)
      · rw [if_pos hc4] at hf
        refine e_if_t (t := 74) hm_61 rfl (ct_eq hc4) rfl ?_
        refine e_sipush hm_61 rfl kc_sipush_m1000 ?_
        obtain rfl := Option.some.inj hf
        exact e_iret hm_61 rfl rfl hq
      · rw [if_neg hc4] at hf
        refine e_if_f hm_61 rfl (cf_eq hc4) ?_
        refine e_aload_n hm_61 rfl rfl ?_
        refine e_getR hm_61 rfl rfl rfl rfl ?_
        refine e_aload_n hm_61 rfl rfl ?_
        refine e_getR hm_61 rfl rfl rfl rfl ?_
        refine e_iload_n hm_61 rfl rfl ?_
        refine e_iload_n hm_61 rfl rfl ?_
        refine e_bipush hm_61 rfl kc_bipush_30 ?_
        refine e_isub hm_61 rfl ?_
        obtain ⟨y5, hky5, hf⟩ := mm_bd hf
        refine e_virt hm_61 rfl rfl rfl rfl (Nat.le_of_ble_eq_true rfl) hm_29 rfl rfl (c_29 1 a1 (a2 - (30 : Int32)) y3.2 rfl hky5 ?_)
        show Ev Z _ 61 65 [some (.ref 0), some (.int a1), some (.int a2)] [.int y5.1] (mm_H y5.2) Q
        by_cases hc6 : y5.1 = (0 : Int32)
        · rw [if_pos hc6] at hf
          refine e_if_t (t := 72) hm_61 rfl (ct_eq hc6) rfl ?_
          refine e_iconst hm_61 rfl kc_iconst_0 ?_
          obtain rfl := Option.some.inj hf
          exact e_iret hm_61 rfl rfl hq
        · rw [if_neg hc6] at hf
          refine e_if_f hm_61 rfl (cf_eq hc6) ?_
          refine e_iconst hm_61 rfl kc_iconst_1 ?_
          refine e_goto (t := 73) hm_61 rfl rfl ?_
          obtain rfl := Option.some.inj hf
          exact e_iret hm_61 rfl rfl hq
  · rw [if_neg hc1] at hf
    refine e_ic_f hm_61 rfl (cf_lt hc1) ?_
    refine e_iload_n hm_61 rfl rfl ?_
    refine e_bipush hm_61 rfl kc_bipush_20 ?_
    refine e_isub hm_61 rfl ?_
    obtain ⟨y7, hky7, hf⟩ := mm_bd hf
    refine e_stat hm_61 rfl (by decide) rfl rfl (Nat.le_of_ble_eq_true rfl) hm_26 rfl rfl (c_26 (a2 - (20 : Int32)) M hky7 ?_)
    show Ev Z _ 61 13 [some (.ref 0), some (.int a1), some (.int a2)] [.int y7.1] (mm_H y7.2) Q
    by_cases hc8 : y7.1 = (0 : Int32)
    · rw [if_pos hc8] at hf
      refine e_if_t (t := 33) hm_61 rfl (ct_eq hc8) rfl ?_
      refine e_iload_n hm_61 rfl rfl ?_
      refine e_bipush hm_61 rfl kc_bipush_30 ?_
      by_cases hc9 : a2 < (30 : Int32)
      · rw [if_pos hc9] at hf
        refine e_ic_t (t := 74) hm_61 rfl (ct_lt hc9) rfl ?_
        refine e_sipush hm_61 rfl kc_sipush_m1000 ?_
        obtain rfl := Option.some.inj hf
        exact e_iret hm_61 rfl rfl hq
      · rw [if_neg hc9] at hf
        refine e_ic_f hm_61 rfl (cf_lt hc9) ?_
        refine e_iload_n hm_61 rfl rfl ?_
        refine e_bipush hm_61 rfl kc_bipush_30 ?_
        refine e_isub hm_61 rfl ?_
        obtain ⟨y10, hky10, hf⟩ := mm_bd hf
        refine e_stat hm_61 rfl (by decide) rfl rfl (Nat.le_of_ble_eq_true rfl) hm_26 rfl rfl (c_26 (a2 - (30 : Int32)) y7.2 hky10 ?_)
        show Ev Z _ 61 46 [some (.ref 0), some (.int a1), some (.int a2)] [.int y10.1] (mm_H y10.2) Q
        by_cases hc11 : y10.1 = (0 : Int32)
        · rw [if_pos hc11] at hf
          refine e_if_t (t := 74) hm_61 rfl (ct_eq hc11) rfl ?_
          refine e_sipush hm_61 rfl kc_sipush_m1000 ?_
          obtain rfl := Option.some.inj hf
          exact e_iret hm_61 rfl rfl hq
        · rw [if_neg hc11] at hf
          refine e_if_f hm_61 rfl (cf_eq hc11) ?_
          refine e_aload_n hm_61 rfl rfl ?_
          refine e_getR hm_61 rfl rfl rfl rfl ?_
          refine e_aload_n hm_61 rfl rfl ?_
          refine e_getR hm_61 rfl rfl rfl rfl ?_
          refine e_iload_n hm_61 rfl rfl ?_
          refine e_iload_n hm_61 rfl rfl ?_
          refine e_bipush hm_61 rfl kc_bipush_30 ?_
          refine e_isub hm_61 rfl ?_
          obtain ⟨y12, hky12, hf⟩ := mm_bd hf
          refine e_virt hm_61 rfl rfl rfl rfl (Nat.le_of_ble_eq_true rfl) hm_29 rfl rfl (c_29 1 a1 (a2 - (30 : Int32)) y10.2 rfl hky12 ?_)
          show Ev Z _ 61 65 [some (.ref 0), some (.int a1), some (.int a2)] [.int y12.1] (mm_H y12.2) Q
          by_cases hc13 : y12.1 = (0 : Int32)
          · rw [if_pos hc13] at hf
            refine e_if_t (t := 72) hm_61 rfl (ct_eq hc13) rfl ?_
            refine e_iconst hm_61 rfl kc_iconst_0 ?_
            obtain rfl := Option.some.inj hf
            exact e_iret hm_61 rfl rfl hq
          · rw [if_neg hc13] at hf
            refine e_if_f hm_61 rfl (cf_eq hc13) ?_
            refine e_iconst hm_61 rfl kc_iconst_1 ?_
            refine e_goto (t := 73) hm_61 rfl rfl ?_
            obtain rfl := Option.some.inj hf
            exact e_iret hm_61 rfl rfl hq
    · rw [if_neg hc8] at hf
      refine e_if_f hm_61 rfl (cf_eq hc8) ?_
      refine e_aload_n hm_61 rfl rfl ?_
      refine e_getR hm_61 rfl rfl rfl rfl ?_
      refine e_aload_n hm_61 rfl rfl ?_
      refine e_getR hm_61 rfl rfl rfl rfl ?_
      refine e_iload_n hm_61 rfl rfl ?_
      refine e_iload_n hm_61 rfl rfl ?_
      refine e_bipush hm_61 rfl kc_bipush_20 ?_
      refine e_isub hm_61 rfl ?_
      obtain ⟨y14, hky14, hf⟩ := mm_bd hf
      refine e_virt hm_61 rfl rfl rfl rfl (Nat.le_of_ble_eq_true rfl) hm_48 rfl rfl (c_48 1 a1 (a2 - (20 : Int32)) y7.2 rfl hky14 ?_)
      show Ev Z _ 61 32 [some (.ref 0), some (.int a1), some (.int a2)] [.int y14.1] (mm_H y14.2) Q
      obtain rfl := Option.some.inj hf
      exact e_iret hm_61 rfl rfl hq
def nb_told (a1 : Int32) (a2 : Int32) (M : mm_M) : Option (Int32 × mm_M) :=
  if (6 : Int32) < a2 then
    (sh_isOne 1 a1 M).bind fun y2 =>
    if y2.1 = (0 : Int32) then
      some ((-1000 : Int32), y2.2)
    else
      if a2 = (7 : Int32) then
        if ak_inb a1 4 = true then
        some (y2.2.1 2 a1.toNatClampNeg, y2.2) else none
      else if a2 = (8 : Int32) then
          if ak_inb a1 4 = true then
          some (y2.2.1 7 a1.toNatClampNeg, y2.2) else none
        else if a2 = (9 : Int32) then
            (ru_gladness 1 a1 y2.2).bind fun y9 =>
            some (y9.1, y9.2)
          else if a2 = (10 : Int32) then
              (ru_earned 1 a1 y2.2).bind fun y11 =>
              some (y11.1, y11.2)
            else (nb_toldOfWeek a1 a2 y2.2).bind fun y12 =>
              some (y12.1, y12.2)
  else
    (sh_has 1 a2 a1 M).bind fun y13 =>
    if y13.1 = (0 : Int32) then
      some ((-1000 : Int32), y13.2)
    else
      (sh_number 1 a2 a1 y13.2).bind fun y15 =>
      some (y15.1, y15.2)
set_option maxRecDepth 20000 in
set_option maxHeartbeats 4000000 in
theorem c_46 {Z : ak_Z} {d : Nat} (a1 : Int32) (a2 : Int32) (M : mm_M) {y : Int32 × mm_M} (hf : nb_told a1 a2 M = some y) {Q : Option Value → ak_H → Prop} (hq : Q (some (.int y.1)) (mm_H y.2)) : Ev Z (d + 6) 46 0 [some (.ref 0), some (.int a1), some (.int a2)] [] (mm_H M) Q := by
  rw [nb_told] at hf
  refine e_iload_n hm_46 rfl rfl ?_
  refine e_bipush hm_46 rfl kc_bipush_6 ?_
  by_cases hc1 : (6 : Int32) < a2
  · rw [if_pos hc1] at hf
    refine e_ic_t (t := 34) hm_46 rfl (ct_gt hc1) rfl ?_
    refine e_aload_n hm_46 rfl rfl ?_
    refine e_getR hm_46 rfl rfl rfl rfl ?_
    refine e_iload_n hm_46 rfl rfl ?_
    obtain ⟨y2, hky2, hf⟩ := mm_bd hf
    refine e_virt hm_46 rfl rfl rfl rfl (Nat.le_of_ble_eq_true rfl) hm_16 rfl rfl (c_16 1 a1 M rfl hky2 ?_)
    show Ev Z _ 46 42 [some (.ref 0), some (.int a1), some (.int a2)] [.int y2.1] (mm_H y2.2) Q
    by_cases hc3 : y2.1 = (0 : Int32)
    · rw [if_pos hc3] at hf
      refine e_if_f hm_46 rfl (cf_ne hc3) ?_
      refine e_sipush hm_46 rfl kc_sipush_m1000 ?_
      obtain rfl := Option.some.inj hf
      exact e_iret hm_46 rfl rfl hq
    · rw [if_neg hc3] at hf
      refine e_if_t (t := 49) hm_46 rfl (ct_ne hc3) rfl ?_
      refine e_iload_n hm_46 rfl rfl ?_
      by_cases hc4 : a2 = (7 : Int32)
      · rw [if_pos hc4] at hf
        refine e_tsw (t := 80) hm_46 rfl (by rw [hc4]; rfl) ?_
        refine e_aload_n hm_46 rfl rfl ?_
        refine e_getR hm_46 rfl rfl rfl rfl ?_
        refine e_getR hm_46 rfl rfl rfl rfl ?_
        refine e_iload_n hm_46 rfl rfl ?_
        obtain ⟨hi5, hf⟩ := mm_ite hf
        refine e_iald hm_46 rfl rfl hi5 ?_
        obtain rfl := Option.some.inj hf
        exact e_iret hm_46 rfl rfl hq
      · rw [if_neg hc4] at hf
        by_cases hc6 : a2 = (8 : Int32)
        · rw [if_pos hc6] at hf
          refine e_tsw (t := 90) hm_46 rfl (by rw [hc6]; rfl) ?_
          refine e_aload_n hm_46 rfl rfl ?_
          refine e_getR hm_46 rfl rfl rfl rfl ?_
          refine e_getR hm_46 rfl rfl rfl rfl ?_
          refine e_iload_n hm_46 rfl rfl ?_
          obtain ⟨hi7, hf⟩ := mm_ite hf
          refine e_iald hm_46 rfl rfl hi7 ?_
          obtain rfl := Option.some.inj hf
          exact e_iret hm_46 rfl rfl hq
        · rw [if_neg hc6] at hf
          by_cases hc8 : a2 = (9 : Int32)
          · rw [if_pos hc8] at hf
            refine e_tsw (t := 100) hm_46 rfl (by rw [hc8]; rfl) ?_
            refine e_aload_n hm_46 rfl rfl ?_
            refine e_getR hm_46 rfl rfl rfl rfl ?_
            refine e_aload_n hm_46 rfl rfl ?_
            refine e_getR hm_46 rfl rfl rfl rfl ?_
            refine e_iload_n hm_46 rfl rfl ?_
            obtain ⟨y9, hky9, hf⟩ := mm_bd hf
            refine e_virt hm_46 rfl rfl rfl rfl (Nat.le_of_ble_eq_true rfl) hm_47 rfl rfl (c_47 1 a1 y2.2 rfl hky9 ?_)
            show Ev Z _ 46 112 [some (.ref 0), some (.int a1), some (.int a2)] [.int y9.1] (mm_H y9.2) Q
            obtain rfl := Option.some.inj hf
            exact e_iret hm_46 rfl rfl hq
          · rw [if_neg hc8] at hf
            by_cases hc10 : a2 = (10 : Int32)
            · rw [if_pos hc10] at hf
              refine e_tsw (t := 113) hm_46 rfl (by rw [hc10]; rfl) ?_
              refine e_aload_n hm_46 rfl rfl ?_
              refine e_getR hm_46 rfl rfl rfl rfl ?_
              refine e_aload_n hm_46 rfl rfl ?_
              refine e_getR hm_46 rfl rfl rfl rfl ?_
              refine e_iload_n hm_46 rfl rfl ?_
              obtain ⟨y11, hky11, hf⟩ := mm_bd hf
              refine e_virt hm_46 rfl rfl rfl rfl (Nat.le_of_ble_eq_true rfl) hm_55 rfl rfl (c_55 1 a1 y2.2 rfl hky11 ?_)
              show Ev Z _ 46 125 [some (.ref 0), some (.int a1), some (.int a2)] [.int y11.1] (mm_H y11.2) Q
              obtain rfl := Option.some.inj hf
              exact e_iret hm_46 rfl rfl hq
            · rw [if_neg hc10] at hf
              have khc4 := i32_ne hc4
              have khc6 := i32_ne hc6
              have khc8 := i32_ne hc8
              have khc10 := i32_ne hc10
              rw [show ((7 : Int32) : Int32).toInt = 7 from rfl] at khc4
              rw [show ((8 : Int32) : Int32).toInt = 8 from rfl] at khc6
              rw [show ((9 : Int32) : Int32).toInt = 9 from rfl] at khc8
              rw [show ((10 : Int32) : Int32).toInt = 10 from rfl] at khc10
              refine e_tsw (t := 126) hm_46 rfl (tsw_out (by omega) rfl) ?_
              refine e_aload_n hm_46 rfl rfl ?_
              refine e_iload_n hm_46 rfl rfl ?_
              refine e_iload_n hm_46 rfl rfl ?_
              obtain ⟨y12, hky12, hf⟩ := mm_bd hf
              refine e_virt hm_46 rfl rfl rfl rfl (Nat.le_of_ble_eq_true rfl) hm_61 rfl rfl (c_61 a1 a2 y2.2 hky12 ?_)
              show Ev Z _ 46 132 [some (.ref 0), some (.int a1), some (.int a2)] [.int y12.1] (mm_H y12.2) Q
              obtain rfl := Option.some.inj hf
              exact e_iret hm_46 rfl rfl hq
  · rw [if_neg hc1] at hf
    refine e_ic_f hm_46 rfl (cf_gt hc1) ?_
    refine e_aload_n hm_46 rfl rfl ?_
    refine e_getR hm_46 rfl rfl rfl rfl ?_
    refine e_iload_n hm_46 rfl rfl ?_
    refine e_iload_n hm_46 rfl rfl ?_
    obtain ⟨y13, hky13, hf⟩ := mm_bd hf
    refine e_virt hm_46 rfl rfl rfl rfl (Nat.le_of_ble_eq_true rfl) hm_15 rfl rfl (c_15 1 a2 a1 M rfl hky13 ?_)
    show Ev Z _ 46 15 [some (.ref 0), some (.int a1), some (.int a2)] [.int y13.1] (mm_H y13.2) Q
    by_cases hc14 : y13.1 = (0 : Int32)
    · rw [if_pos hc14] at hf
      refine e_if_t (t := 30) hm_46 rfl (ct_eq hc14) rfl ?_
      refine e_sipush hm_46 rfl kc_sipush_m1000 ?_
      obtain rfl := Option.some.inj hf
      exact e_iret hm_46 rfl rfl hq
    · rw [if_neg hc14] at hf
      refine e_if_f hm_46 rfl (cf_eq hc14) ?_
      refine e_aload_n hm_46 rfl rfl ?_
      refine e_getR hm_46 rfl rfl rfl rfl ?_
      refine e_iload_n hm_46 rfl rfl ?_
      refine e_iload_n hm_46 rfl rfl ?_
      obtain ⟨y15, hky15, hf⟩ := mm_bd hf
      refine e_virt hm_46 rfl rfl rfl rfl (Nat.le_of_ble_eq_true rfl) hm_18 rfl rfl (c_18 1 a2 a1 y13.2 rfl hky15 ?_)
      show Ev Z _ 46 27 [some (.ref 0), some (.int a1), some (.int a2)] [.int y15.1] (mm_H y15.2) Q
      refine e_goto (t := 33) hm_46 rfl rfl ?_
      obtain rfl := Option.some.inj hf
      exact e_iret hm_46 rfl rfl hq
def nb_feed (a1 : Int32) (M : mm_M) : Option (Int32 × mm_M) :=
  if a1 < (0 : Int32) then
    some ((-2 : Int32), M)
  else
    if (255 : Int32) < a1 then
      some ((-2 : Int32), M)
    else
      if (M.1 0 5) < (160 : Int32) then
        if ak_inb (M.1 0 5) 160 = true then
        some ((ak_up (ak_up M.1 25 ((M.1 0 5).toNatClampNeg) a1) 0 5 (((ak_up M.1 25 ((M.1 0 5).toNatClampNeg) a1) 0 5) + (1 : Int32))) 0 5, (ak_up (ak_up M.1 25 ((M.1 0 5).toNatClampNeg) a1) 0 5 (((ak_up M.1 25 ((M.1 0 5).toNatClampNeg) a1) 0 5) + (1 : Int32)), M.2)) else none
      else
        some ((-4 : Int32), M)
set_option maxRecDepth 20000 in
set_option maxHeartbeats 4000000 in
theorem c_62 {Z : ak_Z} {d : Nat} (a1 : Int32) (M : mm_M) {y : Int32 × mm_M} (hf : nb_feed a1 M = some y) {Q : Option Value → ak_H → Prop} (hq : Q (some (.int y.1)) (mm_H y.2)) : Ev Z (d + 0) 62 0 [some (.ref 0), some (.int a1)] [] (mm_H M) Q := by
  rw [nb_feed] at hf
  refine e_iload_n hm_62 rfl rfl ?_
  by_cases hc1 : a1 < (0 : Int32)
  · rw [if_pos hc1] at hf
    refine e_if_t (t := 11) hm_62 rfl (ct_lt hc1) rfl ?_
    refine e_bipush hm_62 rfl kc_bipush_m2 ?_
    obtain rfl := Option.some.inj hf
    exact e_iret hm_62 rfl rfl hq
  · rw [if_neg hc1] at hf
    refine e_if_f hm_62 rfl (cf_lt hc1) ?_
    refine e_iload_n hm_62 rfl rfl ?_
    refine e_sipush hm_62 rfl kc_sipush_255 ?_
    by_cases hc2 : (255 : Int32) < a1
    · rw [if_pos hc2] at hf
      refine e_ic_f hm_62 rfl (cf_le hc2) ?_
      refine e_bipush hm_62 rfl kc_bipush_m2 ?_
      obtain rfl := Option.some.inj hf
      exact e_iret hm_62 rfl rfl hq
    · rw [if_neg hc2] at hf
      refine e_ic_t (t := 14) hm_62 rfl (ct_le hc2) rfl ?_
      refine e_aload_n hm_62 rfl rfl ?_
      refine e_getI hm_62 rfl rfl rfl ?_
      refine e_aload_n hm_62 rfl rfl ?_
      refine e_getR hm_62 rfl rfl rfl rfl ?_
      refine e_alen (t := 0) (n := 160) (v := (160 : Int32)) hm_62 rfl rfl (by decide) (by decide) ?_
      by_cases hc3 : (M.1 0 5) < (160 : Int32)
      · rw [if_pos hc3] at hf
        refine e_ic_t (t := 29) hm_62 rfl (ct_lt hc3) rfl ?_
        refine e_aload_n hm_62 rfl rfl ?_
        refine e_getR hm_62 rfl rfl rfl rfl ?_
        refine e_aload_n hm_62 rfl rfl ?_
        refine e_getI hm_62 rfl rfl rfl ?_
        refine e_iload_n hm_62 rfl rfl ?_
        obtain ⟨hi4, hf⟩ := mm_ite hf
        refine e_iast hm_62 rfl rfl hi4 ?_
        refine e_aload_n hm_62 rfl rfl ?_
        refine e_dupa hm_62 rfl ?_
        refine e_getI hm_62 rfl rfl rfl ?_
        refine e_iconst hm_62 rfl kc_iconst_1 ?_
        refine e_iadd hm_62 rfl ?_
        refine e_putI hm_62 rfl rfl rfl ?_
        refine e_aload_n hm_62 rfl rfl ?_
        refine e_getI hm_62 rfl rfl rfl ?_
        obtain rfl := Option.some.inj hf
        exact e_iret hm_62 rfl rfl hq
      · rw [if_neg hc3] at hf
        refine e_ic_f hm_62 rfl (cf_lt hc3) ?_
        refine e_bipush hm_62 rfl kc_bipush_m4 ?_
        obtain rfl := Option.some.inj hf
        exact e_iret hm_62 rfl rfl hq
def tx_isBlank (t : Nat) (a1 : Int32) (M : mm_M) : Option (Int32 × mm_M) :=
  if ak_inb a1 160 = true then
  if (M.1 25 a1.toNatClampNeg) = (32 : Int32) then
    some ((1 : Int32), M)
  else
    if ak_inb a1 160 = true then
    if (M.1 25 a1.toNatClampNeg) = (10 : Int32) then
      some ((1 : Int32), M)
    else
      some ((0 : Int32), M) else none else none
set_option maxRecDepth 20000 in
set_option maxHeartbeats 4000000 in
theorem c_66 {Z : ak_Z} {d : Nat} (t : Nat) (a1 : Int32) (M : mm_M) (ht : mm_is10 t = true) {y : Int32 × mm_M} (hf : tx_isBlank t a1 M = some y) {Q : Option Value → ak_H → Prop} (hq : Q (some (.int y.1)) (mm_H y.2)) : Ev Z (d + 0) 66 0 [some (.ref t), some (.int a1)] [] (mm_H M) Q := by
  rw [tx_isBlank] at hf
  refine e_aload_n hm_66 rfl rfl ?_
  refine e_getR hm_66 rfl (mm_cl10 ht) rfl (mm_rf10_4 ht) ?_
  refine e_iload_n hm_66 rfl rfl ?_
  obtain ⟨hi1, hf⟩ := mm_ite hf
  refine e_iald hm_66 rfl rfl hi1 ?_
  refine e_bipush hm_66 rfl kc_bipush_32 ?_
  by_cases hc2 : (M.1 25 a1.toNatClampNeg) = (32 : Int32)
  · rw [if_pos hc2] at hf
    refine e_ic_t (t := 22) hm_66 rfl (ct_eq hc2) rfl ?_
    refine e_iconst hm_66 rfl kc_iconst_1 ?_
    refine e_goto (t := 27) hm_66 rfl rfl ?_
    obtain rfl := Option.some.inj hf
    exact e_zret hm_66 rfl rfl (by decide) hq
  · rw [if_neg hc2] at hf
    refine e_ic_f hm_66 rfl (cf_eq hc2) ?_
    refine e_aload_n hm_66 rfl rfl ?_
    refine e_getR hm_66 rfl (mm_cl10 ht) rfl (mm_rf10_4 ht) ?_
    refine e_iload_n hm_66 rfl rfl ?_
    obtain ⟨hi3, hf⟩ := mm_ite hf
    refine e_iald hm_66 rfl rfl hi3 ?_
    refine e_bipush hm_66 rfl kc_bipush_10 ?_
    by_cases hc4 : (M.1 25 a1.toNatClampNeg) = (10 : Int32)
    · rw [if_pos hc4] at hf
      refine e_ic_f hm_66 rfl (cf_ne hc4) ?_
      refine e_iconst hm_66 rfl kc_iconst_1 ?_
      refine e_goto (t := 27) hm_66 rfl rfl ?_
      obtain rfl := Option.some.inj hf
      exact e_zret hm_66 rfl rfl (by decide) hq
    · rw [if_neg hc4] at hf
      refine e_ic_t (t := 26) hm_66 rfl (ct_ne hc4) rfl ?_
      refine e_iconst hm_66 rfl kc_iconst_0 ?_
      obtain rfl := Option.some.inj hf
      exact e_zret hm_66 rfl rfl (by decide) hq
def tx_isLetter (t : Nat) (a1 : Int32) (M : mm_M) : Option (Int32 × mm_M) :=
  if ak_inb a1 160 = true then
  if (M.1 25 a1.toNatClampNeg) < (97 : Int32) then
    some ((0 : Int32), M)
  else
    if ak_inb a1 160 = true then
    if (122 : Int32) < (M.1 25 a1.toNatClampNeg) then
      some ((0 : Int32), M)
    else
      some ((1 : Int32), M) else none else none
set_option maxRecDepth 20000 in
set_option maxHeartbeats 4000000 in
theorem c_67 {Z : ak_Z} {d : Nat} (t : Nat) (a1 : Int32) (M : mm_M) (ht : mm_is10 t = true) {y : Int32 × mm_M} (hf : tx_isLetter t a1 M = some y) {Q : Option Value → ak_H → Prop} (hq : Q (some (.int y.1)) (mm_H y.2)) : Ev Z (d + 0) 67 0 [some (.ref t), some (.int a1)] [] (mm_H M) Q := by
  rw [tx_isLetter] at hf
  refine e_aload_n hm_67 rfl rfl ?_
  refine e_getR hm_67 rfl (mm_cl10 ht) rfl (mm_rf10_4 ht) ?_
  refine e_iload_n hm_67 rfl rfl ?_
  obtain ⟨hi1, hf⟩ := mm_ite hf
  refine e_iald hm_67 rfl rfl hi1 ?_
  refine e_bipush hm_67 rfl kc_bipush_97 ?_
  by_cases hc2 : (M.1 25 a1.toNatClampNeg) < (97 : Int32)
  · rw [if_pos hc2] at hf
    refine e_ic_t (t := 26) hm_67 rfl (ct_lt hc2) rfl ?_
    refine e_iconst hm_67 rfl kc_iconst_0 ?_
    obtain rfl := Option.some.inj hf
    exact e_zret hm_67 rfl rfl (by decide) hq
  · rw [if_neg hc2] at hf
    refine e_ic_f hm_67 rfl (cf_lt hc2) ?_
    refine e_aload_n hm_67 rfl rfl ?_
    refine e_getR hm_67 rfl (mm_cl10 ht) rfl (mm_rf10_4 ht) ?_
    refine e_iload_n hm_67 rfl rfl ?_
    obtain ⟨hi3, hf⟩ := mm_ite hf
    refine e_iald hm_67 rfl rfl hi3 ?_
    refine e_bipush hm_67 rfl kc_bipush_122 ?_
    by_cases hc4 : (122 : Int32) < (M.1 25 a1.toNatClampNeg)
    · rw [if_pos hc4] at hf
      refine e_ic_t (t := 26) hm_67 rfl (ct_gt hc4) rfl ?_
      refine e_iconst hm_67 rfl kc_iconst_0 ?_
      obtain rfl := Option.some.inj hf
      exact e_zret hm_67 rfl rfl (by decide) hq
    · rw [if_neg hc4] at hf
      refine e_ic_f hm_67 rfl (cf_gt hc4) ?_
      refine e_iconst hm_67 rfl kc_iconst_1 ?_
      refine e_goto (t := 27) hm_67 rfl rfl ?_
      obtain rfl := Option.some.inj hf
      exact e_zret hm_67 rfl rfl (by decide) hq
def tx_isWord_l20 : Nat → Nat → Nat → Int32 → mm_M → Option ((Int32 × mm_M) ⊕ ((Unit) × mm_M))
  | 0, _, _, _, _ => none
  | n + 1, x0, x1, x2, M =>
    (js_length x1 M).bind fun y1 =>
    if x2 < y1.1 then
      if ak_inb ((y1.2.1 x0 7) + x2) 160 = true then
      (js_charAt x1 x2 y1.2).bind fun y4 =>
      if (y1.2.1 25 ((y1.2.1 x0 7) + x2).toNatClampNeg) = y4.1 then
        tx_isWord_l20 n x0 x1 (x2 + (1 : Int32)) y4.2
      else
        some (.inl ((0 : Int32), y4.2)) else none
    else
      some (.inr ((), y1.2))
set_option maxRecDepth 20000 in
set_option maxHeartbeats 4000000 in
theorem lc_70_20 {Z : ak_Z} {d : Nat} : ∀ (n : Nat) (x0 : Nat) (x1 : Nat) (x2 : Int32) (M : mm_M) (hx0 : mm_is10 x0 = true) (hx1 : mm_isS x1 = true) {y : (Int32 × mm_M) ⊕ ((Unit) × mm_M)} (Q : Option Value → ak_H → Prop), tx_isWord_l20 n x0 x1 x2 M = some y → (match y with | .inl yr => Q (some (.int yr.1)) (mm_H yr.2) | .inr yv => Ev Z (d + 4) 70 55 [none, none, none] [] (mm_H yv.2) Q) → Ev Z (d + 4) 70 20 [some (.ref x0), some (.ref x1), some (.int x2)] [] (mm_H M) Q := by
  intro n
  induction n with
  | zero => intro x0 x1 x2 M hx0 hx1 y Q hf; cases hf
  | succ n ih =>
    intro x0 x1 x2 M hx0 hx1 y Q hf hq
    rw [tx_isWord_l20] at hf
    refine e_iload_n hm_70 rfl rfl ?_
    refine e_aload_n hm_70 rfl rfl ?_
    obtain ⟨y1, hky1, hf⟩ := mm_bd hf
    refine e_strc hm_70 rfl rfl rfl (mm_inS hx1) (Nat.le_of_ble_eq_true rfl) hm_71 rfl rfl (c_71 x1 M hx1 hky1 ?_)
    show Ev Z _ 70 25 [some (.ref x0), some (.ref x1), some (.int x2)] [.int y1.1, .int x2] (mm_H y1.2) Q
    by_cases hc2 : x2 < y1.1
    · rw [if_pos hc2] at hf
      refine e_ic_f hm_70 rfl (cf_ge hc2) ?_
      refine e_aload_n hm_70 rfl rfl ?_
      refine e_getR hm_70 rfl (mm_cl10 hx0) rfl (mm_rf10_4 hx0) ?_
      refine e_aload_n hm_70 rfl rfl ?_
      refine e_getI hm_70 rfl (mm_cl10 hx0) rfl ?_
      refine e_iload_n hm_70 rfl rfl ?_
      refine e_iadd hm_70 rfl ?_
      obtain ⟨hi3, hf⟩ := mm_ite hf
      refine e_iald hm_70 rfl rfl hi3 ?_
      refine e_aload_n hm_70 rfl rfl ?_
      refine e_iload_n hm_70 rfl rfl ?_
      obtain ⟨y4, hky4, hf⟩ := mm_bd hf
      refine e_strc hm_70 rfl rfl rfl (mm_inS hx1) (Nat.le_of_ble_eq_true rfl) hm_73 rfl rfl (c_73 x1 x2 y1.2 hx1 hky4 ?_)
      show Ev Z _ 70 44 [some (.ref x0), some (.ref x1), some (.int x2)] [.int y4.1, .int (y1.2.1 25 ((y1.2.1 x0 7) + x2).toNatClampNeg)] (mm_H y4.2) Q
      by_cases hc5 : (y1.2.1 25 ((y1.2.1 x0 7) + x2).toNatClampNeg) = y4.1
      · rw [if_pos hc5] at hf
        refine e_ic_t (t := 49) hm_70 rfl (ct_eq hc5) rfl ?_
        refine e_iinc (L2 := [some (.ref x0), some (.ref x1), some (.int (x2 + (1 : Int32)))]) hm_70 rfl kc_iinc_1 rfl rfl ?_
        refine e_goto (t := 20) hm_70 rfl rfl ?_
        exact e_forget (L' := [some (.ref x0), some (.ref x1), some (.int (x2 + (1 : Int32)))]) (lf_k (lf_k (lf_k lf_0))) (ih x0 x1 (x2 + (1 : Int32)) y4.2 hx0 hx1 Q hf hq)
      · rw [if_neg hc5] at hf
        refine e_ic_f hm_70 rfl (cf_eq hc5) ?_
        refine e_iconst hm_70 rfl kc_iconst_0 ?_
        obtain rfl := Option.some.inj hf
        exact e_zret hm_70 rfl rfl (by decide) hq
    · rw [if_neg hc2] at hf
      refine e_ic_t (t := 55) hm_70 rfl (ct_ge hc2) rfl ?_
      obtain rfl := Option.some.inj hf
      exact e_forget (L' := [none, none, none]) (lf_d (lf_d (lf_d lf_0))) hq
def tx_isWord (t : Nat) (a1 : Nat) (M : mm_M) : Option (Int32 × mm_M) :=
  (js_length a1 M).bind fun y1 =>
  if ((M.1 t 6) - (M.1 t 7)) = y1.1 then
    (tx_isWord_l20 300 t a1 (0 : Int32) y1.2).bind fun y3 => match y3 with
    | .inl y3r => some y3r
    | .inr y3v => some ((1 : Int32), y3v.2)
  else
    some ((0 : Int32), y1.2)
set_option maxRecDepth 20000 in
set_option maxHeartbeats 4000000 in
theorem c_70 {Z : ak_Z} {d : Nat} (t : Nat) (a1 : Nat) (M : mm_M) (ht : mm_is10 t = true) (ha1 : mm_isS a1 = true) {y : Int32 × mm_M} (hf : tx_isWord t a1 M = some y) {Q : Option Value → ak_H → Prop} (hq : Q (some (.int y.1)) (mm_H y.2)) : Ev Z (d + 4) 70 0 [some (.ref t), some (.ref a1), none] [] (mm_H M) Q := by
  rw [tx_isWord] at hf
  refine e_aload_n hm_70 rfl rfl ?_
  refine e_getI hm_70 rfl (mm_cl10 ht) rfl ?_
  refine e_aload_n hm_70 rfl rfl ?_
  refine e_getI hm_70 rfl (mm_cl10 ht) rfl ?_
  refine e_isub hm_70 rfl ?_
  refine e_aload_n hm_70 rfl rfl ?_
  obtain ⟨y1, hky1, hf⟩ := mm_bd hf
  refine e_strc hm_70 rfl rfl rfl (mm_inS ha1) (Nat.le_of_ble_eq_true rfl) hm_71 rfl rfl (c_71 a1 M ha1 hky1 ?_)
  show Ev Z _ 70 13 [some (.ref t), some (.ref a1), none] [.int y1.1, .int ((M.1 t 6) - (M.1 t 7))] (mm_H y1.2) Q
  by_cases hc2 : ((M.1 t 6) - (M.1 t 7)) = y1.1
  · rw [if_pos hc2] at hf
    refine e_ic_t (t := 18) hm_70 rfl (ct_eq hc2) rfl ?_
    refine e_iconst hm_70 rfl kc_iconst_0 ?_
    refine e_istore_n (L2 := [some (.ref t), some (.ref a1), some (.int (0 : Int32))]) hm_70 rfl rfl ?_
    obtain ⟨y3, hky3, hf⟩ := mm_bd hf
    refine e_forget (L' := [some (.ref t), some (.ref a1), some (.int (0 : Int32))]) (lf_k (lf_k (lf_k lf_0))) (lc_70_20 (d := _) 300 t a1 (0 : Int32) y1.2 ht ha1 Q hky3 ?_)
    rcases y3 with y3r | y3v
    · obtain rfl := Option.some.inj hf
      exact hq
    · show Ev Z _ 70 55 [none, none, none] [] (mm_H y3v.2) Q
      refine e_iconst hm_70 rfl kc_iconst_1 ?_
      obtain rfl := Option.some.inj hf
      exact e_zret hm_70 rfl rfl (by decide) hq
  · rw [if_neg hc2] at hf
    refine e_ic_f hm_70 rfl (cf_eq hc2) ?_
    refine e_iconst hm_70 rfl kc_iconst_0 ?_
    obtain rfl := Option.some.inj hf
    exact e_zret hm_70 rfl rfl (by decide) hq
def tx_key (t : Nat) (M : mm_M) : Option (Int32 × mm_M) :=
  (tx_isWord t (1000000 + 0) M).bind fun y1 =>
  if y1.1 = (0 : Int32) then
    (tx_isWord t (1000000 + 1) y1.2).bind fun y3 =>
    if y3.1 = (0 : Int32) then
      (tx_isWord t (1000000 + 2) y3.2).bind fun y5 =>
      if y5.1 = (0 : Int32) then
        (tx_isWord t (1000000 + 3) y5.2).bind fun y7 =>
        if y7.1 = (0 : Int32) then
          (tx_isWord t (1000000 + 4) y7.2).bind fun y9 =>
          if y9.1 = (0 : Int32) then
            (tx_isWord t (1000000 + 5) y9.2).bind fun y11 =>
            if y11.1 = (0 : Int32) then
              some ((262 : Int32), y11.2)
            else
              some ((261 : Int32), y11.2)
          else
            some ((260 : Int32), y9.2)
        else
          some ((259 : Int32), y7.2)
      else
        some ((258 : Int32), y5.2)
    else
      some ((257 : Int32), y3.2)
  else
    some ((256 : Int32), y1.2)
set_option maxRecDepth 20000 in
set_option maxHeartbeats 4000000 in
theorem c_69 {Z : ak_Z} {d : Nat} (t : Nat) (M : mm_M) (ht : mm_is10 t = true) {y : Int32 × mm_M} (hf : tx_key t M = some y) {Q : Option Value → ak_H → Prop} (hq : Q (some (.int y.1)) (mm_H y.2)) : Ev Z (d + 5) 69 0 [some (.ref t)] [] (mm_H M) Q := by
  rw [tx_key] at hf
  refine e_aload_n hm_69 rfl rfl ?_
  refine e_ldcS hm_69 rfl ?_
  obtain ⟨y1, hky1, hf⟩ := mm_bd hf
  refine e_virt hm_69 rfl rfl rfl (mm_cl10 ht) (Nat.le_of_ble_eq_true rfl) hm_70 rfl rfl (c_70 t (1000000 + 0) M ht (rfl : mm_isS (1000000 + 0) = true) hky1 ?_)
  show Ev Z _ 69 6 [some (.ref t)] [.int y1.1] (mm_H y1.2) Q
  by_cases hc2 : y1.1 = (0 : Int32)
  · rw [if_pos hc2] at hf
    refine e_if_t (t := 13) hm_69 rfl (ct_eq hc2) rfl ?_
    refine e_aload_n hm_69 rfl rfl ?_
    refine e_ldcS hm_69 rfl ?_
    obtain ⟨y3, hky3, hf⟩ := mm_bd hf
    refine e_virt hm_69 rfl rfl rfl (mm_cl10 ht) (Nat.le_of_ble_eq_true rfl) hm_70 rfl rfl (c_70 t (1000000 + 1) y1.2 ht (rfl : mm_isS (1000000 + 1) = true) hky3 ?_)
    show Ev Z _ 69 19 [some (.ref t)] [.int y3.1] (mm_H y3.2) Q
    by_cases hc4 : y3.1 = (0 : Int32)
    · rw [if_pos hc4] at hf
      refine e_if_t (t := 26) hm_69 rfl (ct_eq hc4) rfl ?_
      refine e_aload_n hm_69 rfl rfl ?_
      refine e_ldcS hm_69 rfl ?_
      obtain ⟨y5, hky5, hf⟩ := mm_bd hf
      refine e_virt hm_69 rfl rfl rfl (mm_cl10 ht) (Nat.le_of_ble_eq_true rfl) hm_70 rfl rfl (c_70 t (1000000 + 2) y3.2 ht (rfl : mm_isS (1000000 + 2) = true) hky5 ?_)
      show Ev Z _ 69 32 [some (.ref t)] [.int y5.1] (mm_H y5.2) Q
      by_cases hc6 : y5.1 = (0 : Int32)
      · rw [if_pos hc6] at hf
        refine e_if_t (t := 39) hm_69 rfl (ct_eq hc6) rfl ?_
        refine e_aload_n hm_69 rfl rfl ?_
        refine e_ldcS hm_69 rfl ?_
        obtain ⟨y7, hky7, hf⟩ := mm_bd hf
        refine e_virt hm_69 rfl rfl rfl (mm_cl10 ht) (Nat.le_of_ble_eq_true rfl) hm_70 rfl rfl (c_70 t (1000000 + 3) y5.2 ht (rfl : mm_isS (1000000 + 3) = true) hky7 ?_)
        show Ev Z _ 69 45 [some (.ref t)] [.int y7.1] (mm_H y7.2) Q
        by_cases hc8 : y7.1 = (0 : Int32)
        · rw [if_pos hc8] at hf
          refine e_if_t (t := 52) hm_69 rfl (ct_eq hc8) rfl ?_
          refine e_aload_n hm_69 rfl rfl ?_
          refine e_ldcS hm_69 rfl ?_
          obtain ⟨y9, hky9, hf⟩ := mm_bd hf
          refine e_virt hm_69 rfl rfl rfl (mm_cl10 ht) (Nat.le_of_ble_eq_true rfl) hm_70 rfl rfl (c_70 t (1000000 + 4) y7.2 ht (rfl : mm_isS (1000000 + 4) = true) hky9 ?_)
          show Ev Z _ 69 58 [some (.ref t)] [.int y9.1] (mm_H y9.2) Q
          by_cases hc10 : y9.1 = (0 : Int32)
          · rw [if_pos hc10] at hf
            refine e_if_t (t := 65) hm_69 rfl (ct_eq hc10) rfl ?_
            refine e_aload_n hm_69 rfl rfl ?_
            refine e_ldcS hm_69 rfl ?_
            obtain ⟨y11, hky11, hf⟩ := mm_bd hf
            refine e_virt hm_69 rfl rfl rfl (mm_cl10 ht) (Nat.le_of_ble_eq_true rfl) hm_70 rfl rfl (c_70 t (1000000 + 5) y9.2 ht (rfl : mm_isS (1000000 + 5) = true) hky11 ?_)
            show Ev Z _ 69 71 [some (.ref t)] [.int y11.1] (mm_H y11.2) Q
            by_cases hc12 : y11.1 = (0 : Int32)
            · rw [if_pos hc12] at hf
              refine e_if_t (t := 80) hm_69 rfl (ct_eq hc12) rfl ?_
              refine e_sipush hm_69 rfl kc_sipush_262 ?_
              obtain rfl := Option.some.inj hf
              exact e_iret hm_69 rfl rfl hq
            · rw [if_neg hc12] at hf
              refine e_if_f hm_69 rfl (cf_eq hc12) ?_
              refine e_sipush hm_69 rfl kc_sipush_261 ?_
              refine e_goto (t := 83) hm_69 rfl rfl ?_
              obtain rfl := Option.some.inj hf
              exact e_iret hm_69 rfl rfl hq
          · rw [if_neg hc10] at hf
            refine e_if_f hm_69 rfl (cf_eq hc10) ?_
            refine e_sipush hm_69 rfl kc_sipush_260 ?_
            obtain rfl := Option.some.inj hf
            exact e_iret hm_69 rfl rfl hq
        · rw [if_neg hc8] at hf
          refine e_if_f hm_69 rfl (cf_eq hc8) ?_
          refine e_sipush hm_69 rfl kc_sipush_259 ?_
          obtain rfl := Option.some.inj hf
          exact e_iret hm_69 rfl rfl hq
      · rw [if_neg hc6] at hf
        refine e_if_f hm_69 rfl (cf_eq hc6) ?_
        refine e_sipush hm_69 rfl kc_sipush_258 ?_
        obtain rfl := Option.some.inj hf
        exact e_iret hm_69 rfl rfl hq
    · rw [if_neg hc4] at hf
      refine e_if_f hm_69 rfl (cf_eq hc4) ?_
      refine e_sipush hm_69 rfl kc_sipush_257 ?_
      obtain rfl := Option.some.inj hf
      exact e_iret hm_69 rfl rfl hq
  · rw [if_neg hc2] at hf
    refine e_if_f hm_69 rfl (cf_eq hc2) ?_
    refine e_sipush hm_69 rfl kc_sipush_256 ?_
    obtain rfl := Option.some.inj hf
    exact e_iret hm_69 rfl rfl hq
def tx_name (t : Nat) (M : mm_M) : Option (Int32 × mm_M) :=
  (tx_isWord t (1000000 + 6) M).bind fun y1 =>
  if y1.1 = (0 : Int32) then
    (tx_isWord t (1000000 + 7) y1.2).bind fun y3 =>
    if y3.1 = (0 : Int32) then
      (tx_isWord t (1000000 + 8) y3.2).bind fun y5 =>
      if y5.1 = (0 : Int32) then
        (tx_isWord t (1000000 + 9) y5.2).bind fun y7 =>
        if y7.1 = (0 : Int32) then
          (tx_isWord t (1000000 + 10) y7.2).bind fun y9 =>
          if y9.1 = (0 : Int32) then
            (tx_isWord t (1000000 + 11) y9.2).bind fun y11 =>
            if y11.1 = (0 : Int32) then
              some ((-1 : Int32), y11.2)
            else
              some ((5 : Int32), y11.2)
          else
            some ((4 : Int32), y9.2)
        else
          some ((3 : Int32), y7.2)
      else
        some ((2 : Int32), y5.2)
    else
      some ((1 : Int32), y3.2)
  else
    some ((0 : Int32), y1.2)
set_option maxRecDepth 20000 in
set_option maxHeartbeats 4000000 in
theorem c_82 {Z : ak_Z} {d : Nat} (t : Nat) (M : mm_M) (ht : mm_is10 t = true) {y : Int32 × mm_M} (hf : tx_name t M = some y) {Q : Option Value → ak_H → Prop} (hq : Q (some (.int y.1)) (mm_H y.2)) : Ev Z (d + 5) 82 0 [some (.ref t)] [] (mm_H M) Q := by
  rw [tx_name] at hf
  refine e_aload_n hm_82 rfl rfl ?_
  refine e_ldcS hm_82 rfl ?_
  obtain ⟨y1, hky1, hf⟩ := mm_bd hf
  refine e_virt hm_82 rfl rfl rfl (mm_cl10 ht) (Nat.le_of_ble_eq_true rfl) hm_70 rfl rfl (c_70 t (1000000 + 6) M ht (rfl : mm_isS (1000000 + 6) = true) hky1 ?_)
  show Ev Z _ 82 6 [some (.ref t)] [.int y1.1] (mm_H y1.2) Q
  by_cases hc2 : y1.1 = (0 : Int32)
  · rw [if_pos hc2] at hf
    refine e_if_t (t := 11) hm_82 rfl (ct_eq hc2) rfl ?_
    refine e_aload_n hm_82 rfl rfl ?_
    refine e_ldcS hm_82 rfl ?_
    obtain ⟨y3, hky3, hf⟩ := mm_bd hf
    refine e_virt hm_82 rfl rfl rfl (mm_cl10 ht) (Nat.le_of_ble_eq_true rfl) hm_70 rfl rfl (c_70 t (1000000 + 7) y1.2 ht (rfl : mm_isS (1000000 + 7) = true) hky3 ?_)
    show Ev Z _ 82 17 [some (.ref t)] [.int y3.1] (mm_H y3.2) Q
    by_cases hc4 : y3.1 = (0 : Int32)
    · rw [if_pos hc4] at hf
      refine e_if_t (t := 22) hm_82 rfl (ct_eq hc4) rfl ?_
      refine e_aload_n hm_82 rfl rfl ?_
      refine e_ldcS hm_82 rfl ?_
      obtain ⟨y5, hky5, hf⟩ := mm_bd hf
      refine e_virt hm_82 rfl rfl rfl (mm_cl10 ht) (Nat.le_of_ble_eq_true rfl) hm_70 rfl rfl (c_70 t (1000000 + 8) y3.2 ht (rfl : mm_isS (1000000 + 8) = true) hky5 ?_)
      show Ev Z _ 82 28 [some (.ref t)] [.int y5.1] (mm_H y5.2) Q
      by_cases hc6 : y5.1 = (0 : Int32)
      · rw [if_pos hc6] at hf
        refine e_if_t (t := 33) hm_82 rfl (ct_eq hc6) rfl ?_
        refine e_aload_n hm_82 rfl rfl ?_
        refine e_ldcS hm_82 rfl ?_
        obtain ⟨y7, hky7, hf⟩ := mm_bd hf
        refine e_virt hm_82 rfl rfl rfl (mm_cl10 ht) (Nat.le_of_ble_eq_true rfl) hm_70 rfl rfl (c_70 t (1000000 + 9) y5.2 ht (rfl : mm_isS (1000000 + 9) = true) hky7 ?_)
        show Ev Z _ 82 39 [some (.ref t)] [.int y7.1] (mm_H y7.2) Q
        by_cases hc8 : y7.1 = (0 : Int32)
        · rw [if_pos hc8] at hf
          refine e_if_t (t := 44) hm_82 rfl (ct_eq hc8) rfl ?_
          refine e_aload_n hm_82 rfl rfl ?_
          refine e_ldcS hm_82 rfl ?_
          obtain ⟨y9, hky9, hf⟩ := mm_bd hf
          refine e_virt hm_82 rfl rfl rfl (mm_cl10 ht) (Nat.le_of_ble_eq_true rfl) hm_70 rfl rfl (c_70 t (1000000 + 10) y7.2 ht (rfl : mm_isS (1000000 + 10) = true) hky9 ?_)
          show Ev Z _ 82 50 [some (.ref t)] [.int y9.1] (mm_H y9.2) Q
          by_cases hc10 : y9.1 = (0 : Int32)
          · rw [if_pos hc10] at hf
            refine e_if_t (t := 55) hm_82 rfl (ct_eq hc10) rfl ?_
            refine e_aload_n hm_82 rfl rfl ?_
            refine e_ldcS hm_82 rfl ?_
            obtain ⟨y11, hky11, hf⟩ := mm_bd hf
            refine e_virt hm_82 rfl rfl rfl (mm_cl10 ht) (Nat.le_of_ble_eq_true rfl) hm_70 rfl rfl (c_70 t (1000000 + 11) y9.2 ht (rfl : mm_isS (1000000 + 11) = true) hky11 ?_)
            show Ev Z _ 82 61 [some (.ref t)] [.int y11.1] (mm_H y11.2) Q
            by_cases hc12 : y11.1 = (0 : Int32)
            · rw [if_pos hc12] at hf
              refine e_if_t (t := 68) hm_82 rfl (ct_eq hc12) rfl ?_
              refine e_iconst hm_82 rfl kc_iconst_m1 ?_
              obtain rfl := Option.some.inj hf
              exact e_iret hm_82 rfl rfl hq
            · rw [if_neg hc12] at hf
              refine e_if_f hm_82 rfl (cf_eq hc12) ?_
              refine e_iconst hm_82 rfl kc_iconst_5 ?_
              refine e_goto (t := 69) hm_82 rfl rfl ?_
              obtain rfl := Option.some.inj hf
              exact e_iret hm_82 rfl rfl hq
          · rw [if_neg hc10] at hf
            refine e_if_f hm_82 rfl (cf_eq hc10) ?_
            refine e_iconst hm_82 rfl kc_iconst_4 ?_
            obtain rfl := Option.some.inj hf
            exact e_iret hm_82 rfl rfl hq
        · rw [if_neg hc8] at hf
          refine e_if_f hm_82 rfl (cf_eq hc8) ?_
          refine e_iconst hm_82 rfl kc_iconst_3 ?_
          obtain rfl := Option.some.inj hf
          exact e_iret hm_82 rfl rfl hq
      · rw [if_neg hc6] at hf
        refine e_if_f hm_82 rfl (cf_eq hc6) ?_
        refine e_iconst hm_82 rfl kc_iconst_2 ?_
        obtain rfl := Option.some.inj hf
        exact e_iret hm_82 rfl rfl hq
    · rw [if_neg hc4] at hf
      refine e_if_f hm_82 rfl (cf_eq hc4) ?_
      refine e_iconst hm_82 rfl kc_iconst_1 ?_
      obtain rfl := Option.some.inj hf
      exact e_iret hm_82 rfl rfl hq
  · rw [if_neg hc2] at hf
    refine e_if_f hm_82 rfl (cf_eq hc2) ?_
    refine e_iconst hm_82 rfl kc_iconst_0 ?_
    obtain rfl := Option.some.inj hf
    exact e_iret hm_82 rfl rfl hq
def tx_fail (t : Nat) (M : mm_M) : Option (Unit × mm_M) :=
  if (M.1 t 11) = (-1 : Int32) then
    some ((), (ak_up (ak_up M.1 t 11 (M.1 t 7)) t 8 (265 : Int32), M.2))
  else
    some ((), (ak_up M.1 t 8 (265 : Int32), M.2))
set_option maxRecDepth 20000 in
set_option maxHeartbeats 4000000 in
theorem c_83 {Z : ak_Z} {d : Nat} (t : Nat) (M : mm_M) (ht : mm_is10 t = true) {y : Unit × mm_M} (hf : tx_fail t M = some y) {Q : Option Value → ak_H → Prop} (hq : Q none (mm_H y.2)) : Ev Z (d + 0) 83 0 [some (.ref t)] [] (mm_H M) Q := by
  rw [tx_fail] at hf
  refine e_aload_n hm_83 rfl rfl ?_
  refine e_getI hm_83 rfl (mm_cl10 ht) rfl ?_
  refine e_iconst hm_83 rfl kc_iconst_m1 ?_
  by_cases hc1 : (M.1 t 11) = (-1 : Int32)
  · rw [if_pos hc1] at hf
    refine e_ic_f hm_83 rfl (cf_ne hc1) ?_
    refine e_aload_n hm_83 rfl rfl ?_
    refine e_aload_n hm_83 rfl rfl ?_
    refine e_getI hm_83 rfl (mm_cl10 ht) rfl ?_
    refine e_putI hm_83 rfl (mm_cl10 ht) rfl ?_
    refine e_aload_n hm_83 rfl rfl ?_
    refine e_sipush hm_83 rfl kc_sipush_265 ?_
    refine e_putI hm_83 rfl (mm_cl10 ht) rfl ?_
    obtain rfl := Option.some.inj hf
    exact e_vret hm_83 rfl rfl hq
  · rw [if_neg hc1] at hf
    refine e_ic_t (t := 16) hm_83 rfl (ct_ne hc1) rfl ?_
    refine e_aload_n hm_83 rfl rfl ?_
    refine e_sipush hm_83 rfl kc_sipush_265 ?_
    refine e_putI hm_83 rfl (mm_cl10 ht) rfl ?_
    obtain rfl := Option.some.inj hf
    exact e_vret hm_83 rfl rfl hq
