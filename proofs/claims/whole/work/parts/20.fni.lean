/-! printed: the functions of the methods, and that the small machine does them -/
def md_either_l5 (rc : Nat → mm_M → Option (Int32 × mm_M)) : Nat → Int32 → mm_M → Option (((Int32) × mm_M))
  | 0, _, _ => none
  | n + 1, x1, M =>
    (md_isWord (111 : Int32) (114 : Int32) (0 : Int32) (0 : Int32) (0 : Int32) (0 : Int32) (0 : Int32) (0 : Int32) M).bind fun y1 =>
    if y1.1 = (0 : Int32) then
      some (x1, y1.2)
    else
      (md_next y1.2).bind fun y3 =>
      (rc 1 y3.2).bind fun y4 =>
      if x1 = (0 : Int32) then
        if y4.1 = (0 : Int32) then
          md_either_l5 rc n (0 : Int32) y4.2
        else
          md_either_l5 rc n (1 : Int32) y4.2
      else
        md_either_l5 rc n (1 : Int32) y4.2
set_option maxRecDepth 20000 in
set_option maxHeartbeats 4000000 in
theorem lc_183_5 {Z : ak_Z} {d : Nat} (rc : Nat → mm_M → Option (Int32 × mm_M)) (hrc0 : ∀ (M : mm_M) (y : Int32 × mm_M), rc 0 M = some y → ∀ (Q : Option Value → ak_H → Prop), Q (some (.int y.1)) (mm_H y.2) → Ev Z (d + 3) 183 0 [some (.ref 73), none, none] [] (mm_H M) Q) (hrc1 : ∀ (M : mm_M) (y : Int32 × mm_M), rc 1 M = some y → ∀ (Q : Option Value → ak_H → Prop), Q (some (.int y.1)) (mm_H y.2) → Ev Z (d + 3) 184 0 [some (.ref 73), none, none] [] (mm_H M) Q) (hrc2 : ∀ (M : mm_M) (y : Int32 × mm_M), rc 2 M = some y → ∀ (Q : Option Value → ak_H → Prop), Q (some (.int y.1)) (mm_H y.2) → Ev Z (d + 3) 185 0 [some (.ref 73), none, none, none] [] (mm_H M) Q) (hrc3 : ∀ (M : mm_M) (y : Int32 × mm_M), rc 3 M = some y → ∀ (Q : Option Value → ak_H → Prop), Q (some (.int y.1)) (mm_H y.2) → Ev Z (d + 3) 187 0 [some (.ref 73), none, none, none] [] (mm_H M) Q) (hrc4 : ∀ (M : mm_M) (y : Int32 × mm_M), rc 4 M = some y → ∀ (Q : Option Value → ak_H → Prop), Q (some (.int y.1)) (mm_H y.2) → Ev Z (d + 3) 188 0 [some (.ref 73), none] [] (mm_H M) Q) (hrc5 : ∀ (M : mm_M) (y : Int32 × mm_M), rc 5 M = some y → ∀ (Q : Option Value → ak_H → Prop), Q (some (.int y.1)) (mm_H y.2) → Ev Z (d + 3) 189 0 [some (.ref 73), none] [] (mm_H M) Q) : ∀ (n : Nat) (x1 : Int32) (M : mm_M) {y : ((Int32) × mm_M)} (Q : Option Value → ak_H → Prop), md_either_l5 rc n x1 M = some y → (Ev Z (d + 4) 183 48 [none, some (.int y.1), none] [] (mm_H y.2) Q) → Ev Z (d + 4) 183 5 [some (.ref 73), some (.int x1), none] [] (mm_H M) Q := by
  intro n
  induction n with
  | zero => intro x1 M y Q hf; cases hf
  | succ n ih =>
    intro x1 M y Q hf hq
    rw [md_either_l5] at hf
    refine e_aload_n hm_183 rfl rfl ?_
    refine e_bipush hm_183 rfl kc_bipush_111 ?_
    refine e_bipush hm_183 rfl kc_bipush_114 ?_
    refine e_iconst hm_183 rfl kc_iconst_0 ?_
    refine e_iconst hm_183 rfl kc_iconst_0 ?_
    refine e_iconst hm_183 rfl kc_iconst_0 ?_
    refine e_iconst hm_183 rfl kc_iconst_0 ?_
    refine e_iconst hm_183 rfl kc_iconst_0 ?_
    refine e_iconst hm_183 rfl kc_iconst_0 ?_
    obtain ⟨y1, hky1, hf⟩ := mm_bd hf
    refine e_virt hm_183 rfl rfl rfl rfl (Nat.le_of_ble_eq_true rfl) hm_179 rfl rfl (c_179 (111 : Int32) (114 : Int32) (0 : Int32) (0 : Int32) (0 : Int32) (0 : Int32) (0 : Int32) (0 : Int32) M hky1 ?_)
    show Ev Z _ 183 19 [some (.ref 73), some (.int x1), none] [.int y1.1] (mm_H y1.2) Q
    by_cases hc2 : y1.1 = (0 : Int32)
    · rw [if_pos hc2] at hf
      refine e_if_t (t := 48) hm_183 rfl (ct_eq hc2) rfl ?_
      obtain rfl := Option.some.inj hf
      exact e_forget (L' := [none, some (.int x1), none]) (lf_d (lf_k (lf_k lf_0))) hq
    · rw [if_neg hc2] at hf
      refine e_if_f hm_183 rfl (cf_eq hc2) ?_
      refine e_aload_n hm_183 rfl rfl ?_
      obtain ⟨y3, hky3, hf⟩ := mm_bd hf
      refine e_virt hm_183 rfl rfl rfl rfl (Nat.le_of_ble_eq_true rfl) hm_177 rfl rfl (c_177 y1.2 hky3 ?_)
      show Ev Z _ 183 26 [some (.ref 73), some (.int x1), none] [] (mm_H y3.2) Q
      refine e_aload_n hm_183 rfl rfl ?_
      obtain ⟨y4, hky4, hf⟩ := mm_bd hf
      refine e_virt hm_183 rfl rfl rfl rfl (Nat.le_of_ble_eq_true rfl) hm_184 rfl rfl (hrc1 _ _ hky4 _ ?_)
      show Ev Z _ 183 30 [some (.ref 73), some (.int x1), none] [.int y4.1] (mm_H y4.2) Q
      refine e_istore_n (L2 := [some (.ref 73), some (.int x1), some (.int y4.1)]) hm_183 rfl rfl ?_
      refine e_iload_n hm_183 rfl rfl ?_
      by_cases hc5 : x1 = (0 : Int32)
      · rw [if_pos hc5] at hf
        refine e_if_f hm_183 rfl (cf_ne hc5) ?_
        refine e_iload_n hm_183 rfl rfl ?_
        by_cases hc6 : y4.1 = (0 : Int32)
        · rw [if_pos hc6] at hf
          refine e_if_t (t := 43) hm_183 rfl (ct_eq hc6) rfl ?_
          refine e_iconst hm_183 rfl kc_iconst_0 ?_
          refine e_istore_n (L2 := [some (.ref 73), some (.int (0 : Int32)), some (.int y4.1)]) hm_183 rfl rfl ?_
          refine e_goto (t := 5) hm_183 rfl rfl ?_
          exact e_forget (L' := [some (.ref 73), some (.int (0 : Int32)), none]) (lf_k (lf_k (lf_d lf_0))) (ih (0 : Int32) y4.2 Q hf hq)
        · rw [if_neg hc6] at hf
          refine e_if_f hm_183 rfl (cf_eq hc6) ?_
          refine e_iconst hm_183 rfl kc_iconst_1 ?_
          refine e_goto (t := 44) hm_183 rfl rfl ?_
          refine e_istore_n (L2 := [some (.ref 73), some (.int (1 : Int32)), some (.int y4.1)]) hm_183 rfl rfl ?_
          refine e_goto (t := 5) hm_183 rfl rfl ?_
          exact e_forget (L' := [some (.ref 73), some (.int (1 : Int32)), none]) (lf_k (lf_k (lf_d lf_0))) (ih (1 : Int32) y4.2 Q hf hq)
      · rw [if_neg hc5] at hf
        refine e_if_t (t := 39) hm_183 rfl (ct_ne hc5) rfl ?_
        refine e_iconst hm_183 rfl kc_iconst_1 ?_
        refine e_goto (t := 44) hm_183 rfl rfl ?_
        refine e_istore_n (L2 := [some (.ref 73), some (.int (1 : Int32)), some (.int y4.1)]) hm_183 rfl rfl ?_
        refine e_goto (t := 5) hm_183 rfl rfl ?_
        exact e_forget (L' := [some (.ref 73), some (.int (1 : Int32)), none]) (lf_k (lf_k (lf_d lf_0))) (ih (1 : Int32) y4.2 Q hf hq)
def md_either_b (rc : Nat → mm_M → Option (Int32 × mm_M)) (M : mm_M) : Option (Int32 × mm_M) :=
  (rc 1 M).bind fun y1 =>
  (md_either_l5 rc 300 y1.1 y1.2).bind fun y2 =>
  some (y2.1, y2.2)
set_option maxRecDepth 20000 in
set_option maxHeartbeats 4000000 in
theorem cb_183 {Z : ak_Z} {d : Nat} (rc : Nat → mm_M → Option (Int32 × mm_M)) (hrc0 : ∀ (M : mm_M) (y : Int32 × mm_M), rc 0 M = some y → ∀ (Q : Option Value → ak_H → Prop), Q (some (.int y.1)) (mm_H y.2) → Ev Z (d + 3) 183 0 [some (.ref 73), none, none] [] (mm_H M) Q) (hrc1 : ∀ (M : mm_M) (y : Int32 × mm_M), rc 1 M = some y → ∀ (Q : Option Value → ak_H → Prop), Q (some (.int y.1)) (mm_H y.2) → Ev Z (d + 3) 184 0 [some (.ref 73), none, none] [] (mm_H M) Q) (hrc2 : ∀ (M : mm_M) (y : Int32 × mm_M), rc 2 M = some y → ∀ (Q : Option Value → ak_H → Prop), Q (some (.int y.1)) (mm_H y.2) → Ev Z (d + 3) 185 0 [some (.ref 73), none, none, none] [] (mm_H M) Q) (hrc3 : ∀ (M : mm_M) (y : Int32 × mm_M), rc 3 M = some y → ∀ (Q : Option Value → ak_H → Prop), Q (some (.int y.1)) (mm_H y.2) → Ev Z (d + 3) 187 0 [some (.ref 73), none, none, none] [] (mm_H M) Q) (hrc4 : ∀ (M : mm_M) (y : Int32 × mm_M), rc 4 M = some y → ∀ (Q : Option Value → ak_H → Prop), Q (some (.int y.1)) (mm_H y.2) → Ev Z (d + 3) 188 0 [some (.ref 73), none] [] (mm_H M) Q) (hrc5 : ∀ (M : mm_M) (y : Int32 × mm_M), rc 5 M = some y → ∀ (Q : Option Value → ak_H → Prop), Q (some (.int y.1)) (mm_H y.2) → Ev Z (d + 3) 189 0 [some (.ref 73), none] [] (mm_H M) Q) (M : mm_M) {y : Int32 × mm_M} (hf : md_either_b rc M = some y) {Q : Option Value → ak_H → Prop} (hq : Q (some (.int y.1)) (mm_H y.2)) : Ev Z (d + 4) 183 0 [some (.ref 73), none, none] [] (mm_H M) Q := by
  rw [md_either_b] at hf
  refine e_aload_n hm_183 rfl rfl ?_
  obtain ⟨y1, hky1, hf⟩ := mm_bd hf
  refine e_virt hm_183 rfl rfl rfl rfl (Nat.le_of_ble_eq_true rfl) hm_184 rfl rfl (hrc1 _ _ hky1 _ ?_)
  show Ev Z _ 183 4 [some (.ref 73), none, none] [.int y1.1] (mm_H y1.2) Q
  refine e_istore_n (L2 := [some (.ref 73), some (.int y1.1), none]) hm_183 rfl rfl ?_
  obtain ⟨y2, hky2, hf⟩ := mm_bd hf
  refine e_forget (L' := [some (.ref 73), some (.int y1.1), none]) (lf_k (lf_k (lf_k lf_0))) (lc_183_5 rc hrc0 hrc1 hrc2 hrc3 hrc4 hrc5 (d := _) 300 y1.1 y1.2 Q hky2 ?_)
  show Ev Z _ 183 48 [none, some (.int y2.1), none] [] (mm_H y2.2) Q
  refine e_iload_n hm_183 rfl rfl ?_
  obtain rfl := Option.some.inj hf
  exact e_iret hm_183 rfl rfl hq
def md_both_l5 (rc : Nat → mm_M → Option (Int32 × mm_M)) : Nat → Int32 → mm_M → Option (((Int32) × mm_M))
  | 0, _, _ => none
  | n + 1, x1, M =>
    (md_isWord (97 : Int32) (110 : Int32) (100 : Int32) (0 : Int32) (0 : Int32) (0 : Int32) (0 : Int32) (0 : Int32) M).bind fun y1 =>
    if y1.1 = (0 : Int32) then
      some (x1, y1.2)
    else
      (md_next y1.2).bind fun y3 =>
      (rc 2 y3.2).bind fun y4 =>
      if x1 = (0 : Int32) then
        md_both_l5 rc n (0 : Int32) y4.2
      else
        if y4.1 = (0 : Int32) then
          md_both_l5 rc n (0 : Int32) y4.2
        else
          md_both_l5 rc n (1 : Int32) y4.2
set_option maxRecDepth 20000 in
set_option maxHeartbeats 4000000 in
theorem lc_184_5 {Z : ak_Z} {d : Nat} (rc : Nat → mm_M → Option (Int32 × mm_M)) (hrc0 : ∀ (M : mm_M) (y : Int32 × mm_M), rc 0 M = some y → ∀ (Q : Option Value → ak_H → Prop), Q (some (.int y.1)) (mm_H y.2) → Ev Z (d + 3) 183 0 [some (.ref 73), none, none] [] (mm_H M) Q) (hrc1 : ∀ (M : mm_M) (y : Int32 × mm_M), rc 1 M = some y → ∀ (Q : Option Value → ak_H → Prop), Q (some (.int y.1)) (mm_H y.2) → Ev Z (d + 3) 184 0 [some (.ref 73), none, none] [] (mm_H M) Q) (hrc2 : ∀ (M : mm_M) (y : Int32 × mm_M), rc 2 M = some y → ∀ (Q : Option Value → ak_H → Prop), Q (some (.int y.1)) (mm_H y.2) → Ev Z (d + 3) 185 0 [some (.ref 73), none, none, none] [] (mm_H M) Q) (hrc3 : ∀ (M : mm_M) (y : Int32 × mm_M), rc 3 M = some y → ∀ (Q : Option Value → ak_H → Prop), Q (some (.int y.1)) (mm_H y.2) → Ev Z (d + 3) 187 0 [some (.ref 73), none, none, none] [] (mm_H M) Q) (hrc4 : ∀ (M : mm_M) (y : Int32 × mm_M), rc 4 M = some y → ∀ (Q : Option Value → ak_H → Prop), Q (some (.int y.1)) (mm_H y.2) → Ev Z (d + 3) 188 0 [some (.ref 73), none] [] (mm_H M) Q) (hrc5 : ∀ (M : mm_M) (y : Int32 × mm_M), rc 5 M = some y → ∀ (Q : Option Value → ak_H → Prop), Q (some (.int y.1)) (mm_H y.2) → Ev Z (d + 3) 189 0 [some (.ref 73), none] [] (mm_H M) Q) : ∀ (n : Nat) (x1 : Int32) (M : mm_M) {y : ((Int32) × mm_M)} (Q : Option Value → ak_H → Prop), md_both_l5 rc n x1 M = some y → (Ev Z (d + 4) 184 49 [none, some (.int y.1), none] [] (mm_H y.2) Q) → Ev Z (d + 4) 184 5 [some (.ref 73), some (.int x1), none] [] (mm_H M) Q := by
  intro n
  induction n with
  | zero => intro x1 M y Q hf; cases hf
  | succ n ih =>
    intro x1 M y Q hf hq
    rw [md_both_l5] at hf
    refine e_aload_n hm_184 rfl rfl ?_
    refine e_bipush hm_184 rfl kc_bipush_97 ?_
    refine e_bipush hm_184 rfl kc_bipush_110 ?_
    refine e_bipush hm_184 rfl kc_bipush_100 ?_
    refine e_iconst hm_184 rfl kc_iconst_0 ?_
    refine e_iconst hm_184 rfl kc_iconst_0 ?_
    refine e_iconst hm_184 rfl kc_iconst_0 ?_
    refine e_iconst hm_184 rfl kc_iconst_0 ?_
    refine e_iconst hm_184 rfl kc_iconst_0 ?_
    obtain ⟨y1, hky1, hf⟩ := mm_bd hf
    refine e_virt hm_184 rfl rfl rfl rfl (Nat.le_of_ble_eq_true rfl) hm_179 rfl rfl (c_179 (97 : Int32) (110 : Int32) (100 : Int32) (0 : Int32) (0 : Int32) (0 : Int32) (0 : Int32) (0 : Int32) M hky1 ?_)
    show Ev Z _ 184 20 [some (.ref 73), some (.int x1), none] [.int y1.1] (mm_H y1.2) Q
    by_cases hc2 : y1.1 = (0 : Int32)
    · rw [if_pos hc2] at hf
      refine e_if_t (t := 49) hm_184 rfl (ct_eq hc2) rfl ?_
      obtain rfl := Option.some.inj hf
      exact e_forget (L' := [none, some (.int x1), none]) (lf_d (lf_k (lf_k lf_0))) hq
    · rw [if_neg hc2] at hf
      refine e_if_f hm_184 rfl (cf_eq hc2) ?_
      refine e_aload_n hm_184 rfl rfl ?_
      obtain ⟨y3, hky3, hf⟩ := mm_bd hf
      refine e_virt hm_184 rfl rfl rfl rfl (Nat.le_of_ble_eq_true rfl) hm_177 rfl rfl (c_177 y1.2 hky3 ?_)
      show Ev Z _ 184 27 [some (.ref 73), some (.int x1), none] [] (mm_H y3.2) Q
      refine e_aload_n hm_184 rfl rfl ?_
      obtain ⟨y4, hky4, hf⟩ := mm_bd hf
      refine e_virt hm_184 rfl rfl rfl rfl (Nat.le_of_ble_eq_true rfl) hm_185 rfl rfl (hrc2 _ _ hky4 _ ?_)
      show Ev Z _ 184 31 [some (.ref 73), some (.int x1), none] [.int y4.1] (mm_H y4.2) Q
      refine e_istore_n (L2 := [some (.ref 73), some (.int x1), some (.int y4.1)]) hm_184 rfl rfl ?_
      refine e_iload_n hm_184 rfl rfl ?_
      by_cases hc5 : x1 = (0 : Int32)
      · rw [if_pos hc5] at hf
        refine e_if_t (t := 44) hm_184 rfl (ct_eq hc5) rfl ?_
        refine e_iconst hm_184 rfl kc_iconst_0 ?_
        refine e_istore_n (L2 := [some (.ref 73), some (.int (0 : Int32)), some (.int y4.1)]) hm_184 rfl rfl ?_
        refine e_goto (t := 5) hm_184 rfl rfl ?_
        exact e_forget (L' := [some (.ref 73), some (.int (0 : Int32)), none]) (lf_k (lf_k (lf_d lf_0))) (ih (0 : Int32) y4.2 Q hf hq)
      · rw [if_neg hc5] at hf
        refine e_if_f hm_184 rfl (cf_eq hc5) ?_
        refine e_iload_n hm_184 rfl rfl ?_
        by_cases hc6 : y4.1 = (0 : Int32)
        · rw [if_pos hc6] at hf
          refine e_if_t (t := 44) hm_184 rfl (ct_eq hc6) rfl ?_
          refine e_iconst hm_184 rfl kc_iconst_0 ?_
          refine e_istore_n (L2 := [some (.ref 73), some (.int (0 : Int32)), some (.int y4.1)]) hm_184 rfl rfl ?_
          refine e_goto (t := 5) hm_184 rfl rfl ?_
          exact e_forget (L' := [some (.ref 73), some (.int (0 : Int32)), none]) (lf_k (lf_k (lf_d lf_0))) (ih (0 : Int32) y4.2 Q hf hq)
        · rw [if_neg hc6] at hf
          refine e_if_f hm_184 rfl (cf_eq hc6) ?_
          refine e_iconst hm_184 rfl kc_iconst_1 ?_
          refine e_goto (t := 45) hm_184 rfl rfl ?_
          refine e_istore_n (L2 := [some (.ref 73), some (.int (1 : Int32)), some (.int y4.1)]) hm_184 rfl rfl ?_
          refine e_goto (t := 5) hm_184 rfl rfl ?_
          exact e_forget (L' := [some (.ref 73), some (.int (1 : Int32)), none]) (lf_k (lf_k (lf_d lf_0))) (ih (1 : Int32) y4.2 Q hf hq)
def md_both_b (rc : Nat → mm_M → Option (Int32 × mm_M)) (M : mm_M) : Option (Int32 × mm_M) :=
  (rc 2 M).bind fun y1 =>
  (md_both_l5 rc 300 y1.1 y1.2).bind fun y2 =>
  some (y2.1, y2.2)
set_option maxRecDepth 20000 in
set_option maxHeartbeats 4000000 in
theorem cb_184 {Z : ak_Z} {d : Nat} (rc : Nat → mm_M → Option (Int32 × mm_M)) (hrc0 : ∀ (M : mm_M) (y : Int32 × mm_M), rc 0 M = some y → ∀ (Q : Option Value → ak_H → Prop), Q (some (.int y.1)) (mm_H y.2) → Ev Z (d + 3) 183 0 [some (.ref 73), none, none] [] (mm_H M) Q) (hrc1 : ∀ (M : mm_M) (y : Int32 × mm_M), rc 1 M = some y → ∀ (Q : Option Value → ak_H → Prop), Q (some (.int y.1)) (mm_H y.2) → Ev Z (d + 3) 184 0 [some (.ref 73), none, none] [] (mm_H M) Q) (hrc2 : ∀ (M : mm_M) (y : Int32 × mm_M), rc 2 M = some y → ∀ (Q : Option Value → ak_H → Prop), Q (some (.int y.1)) (mm_H y.2) → Ev Z (d + 3) 185 0 [some (.ref 73), none, none, none] [] (mm_H M) Q) (hrc3 : ∀ (M : mm_M) (y : Int32 × mm_M), rc 3 M = some y → ∀ (Q : Option Value → ak_H → Prop), Q (some (.int y.1)) (mm_H y.2) → Ev Z (d + 3) 187 0 [some (.ref 73), none, none, none] [] (mm_H M) Q) (hrc4 : ∀ (M : mm_M) (y : Int32 × mm_M), rc 4 M = some y → ∀ (Q : Option Value → ak_H → Prop), Q (some (.int y.1)) (mm_H y.2) → Ev Z (d + 3) 188 0 [some (.ref 73), none] [] (mm_H M) Q) (hrc5 : ∀ (M : mm_M) (y : Int32 × mm_M), rc 5 M = some y → ∀ (Q : Option Value → ak_H → Prop), Q (some (.int y.1)) (mm_H y.2) → Ev Z (d + 3) 189 0 [some (.ref 73), none] [] (mm_H M) Q) (M : mm_M) {y : Int32 × mm_M} (hf : md_both_b rc M = some y) {Q : Option Value → ak_H → Prop} (hq : Q (some (.int y.1)) (mm_H y.2)) : Ev Z (d + 4) 184 0 [some (.ref 73), none, none] [] (mm_H M) Q := by
  rw [md_both_b] at hf
  refine e_aload_n hm_184 rfl rfl ?_
  obtain ⟨y1, hky1, hf⟩ := mm_bd hf
  refine e_virt hm_184 rfl rfl rfl rfl (Nat.le_of_ble_eq_true rfl) hm_185 rfl rfl (hrc2 _ _ hky1 _ ?_)
  show Ev Z _ 184 4 [some (.ref 73), none, none] [.int y1.1] (mm_H y1.2) Q
  refine e_istore_n (L2 := [some (.ref 73), some (.int y1.1), none]) hm_184 rfl rfl ?_
  obtain ⟨y2, hky2, hf⟩ := mm_bd hf
  refine e_forget (L' := [some (.ref 73), some (.int y1.1), none]) (lf_k (lf_k (lf_k lf_0))) (lc_184_5 rc hrc0 hrc1 hrc2 hrc3 hrc4 hrc5 (d := _) 300 y1.1 y1.2 Q hky2 ?_)
  show Ev Z _ 184 49 [none, some (.int y2.1), none] [] (mm_H y2.2) Q
  refine e_iload_n hm_184 rfl rfl ?_
  obtain rfl := Option.some.inj hf
  exact e_iret hm_184 rfl rfl hq
def md_not_b (rc : Nat → mm_M → Option (Int32 × mm_M)) (M : mm_M) : Option (Int32 × mm_M) :=
  (md_isWord (110 : Int32) (111 : Int32) (116 : Int32) (0 : Int32) (0 : Int32) (0 : Int32) (0 : Int32) (0 : Int32) M).bind fun y1 =>
  if y1.1 = (0 : Int32) then
    (rc 3 y1.2).bind fun y3 =>
    (md_isSign (60 : Int32) y3.2).bind fun y4 =>
    if y4.1 = (0 : Int32) then
      (md_isSign (61 : Int32) y4.2).bind fun y6 =>
      if y6.1 = (0 : Int32) then
        some (y3.1, y6.2)
      else
        if (lg_cmp y6.2.2.2 (60 : Int64)) = (0 : Int32) then
          (md_next y6.2).bind fun y9 =>
          (rc 3 y9.2).bind fun y10 =>
          if y3.1 < y10.1 then
            some ((1 : Int32), y10.2)
          else
            some ((0 : Int32), y10.2)
        else
          (md_next y6.2).bind fun y12 =>
          (rc 3 y12.2).bind fun y13 =>
          if y3.1 = y13.1 then
            some ((1 : Int32), y13.2)
          else
            some ((0 : Int32), y13.2)
    else
      if (lg_cmp y4.2.2.2 (60 : Int64)) = (0 : Int32) then
        (md_next y4.2).bind fun y16 =>
        (rc 3 y16.2).bind fun y17 =>
        if y3.1 < y17.1 then
          some ((1 : Int32), y17.2)
        else
          some ((0 : Int32), y17.2)
      else
        (md_next y4.2).bind fun y19 =>
        (rc 3 y19.2).bind fun y20 =>
        if y3.1 = y20.1 then
          some ((1 : Int32), y20.2)
        else
          some ((0 : Int32), y20.2)
  else
    (md_opens y1.2).bind fun y22 =>
    if y22.1 = (0 : Int32) then
      some ((0 : Int32), y22.2)
    else
      (rc 2 y22.2).bind fun y24 =>
      if y24.1 = (0 : Int32) then
        some ((1 : Int32), (ak_up y24.2.1 73 24 ((y24.2.1 73 24) - (1 : Int32)), y24.2.2))
      else
        some ((0 : Int32), (ak_up y24.2.1 73 24 ((y24.2.1 73 24) - (1 : Int32)), y24.2.2))
set_option maxRecDepth 20000 in
set_option maxHeartbeats 4000000 in
theorem cb_185 {Z : ak_Z} {d : Nat} (rc : Nat → mm_M → Option (Int32 × mm_M)) (hrc0 : ∀ (M : mm_M) (y : Int32 × mm_M), rc 0 M = some y → ∀ (Q : Option Value → ak_H → Prop), Q (some (.int y.1)) (mm_H y.2) → Ev Z (d + 3) 183 0 [some (.ref 73), none, none] [] (mm_H M) Q) (hrc1 : ∀ (M : mm_M) (y : Int32 × mm_M), rc 1 M = some y → ∀ (Q : Option Value → ak_H → Prop), Q (some (.int y.1)) (mm_H y.2) → Ev Z (d + 3) 184 0 [some (.ref 73), none, none] [] (mm_H M) Q) (hrc2 : ∀ (M : mm_M) (y : Int32 × mm_M), rc 2 M = some y → ∀ (Q : Option Value → ak_H → Prop), Q (some (.int y.1)) (mm_H y.2) → Ev Z (d + 3) 185 0 [some (.ref 73), none, none, none] [] (mm_H M) Q) (hrc3 : ∀ (M : mm_M) (y : Int32 × mm_M), rc 3 M = some y → ∀ (Q : Option Value → ak_H → Prop), Q (some (.int y.1)) (mm_H y.2) → Ev Z (d + 3) 187 0 [some (.ref 73), none, none, none] [] (mm_H M) Q) (hrc4 : ∀ (M : mm_M) (y : Int32 × mm_M), rc 4 M = some y → ∀ (Q : Option Value → ak_H → Prop), Q (some (.int y.1)) (mm_H y.2) → Ev Z (d + 3) 188 0 [some (.ref 73), none] [] (mm_H M) Q) (hrc5 : ∀ (M : mm_M) (y : Int32 × mm_M), rc 5 M = some y → ∀ (Q : Option Value → ak_H → Prop), Q (some (.int y.1)) (mm_H y.2) → Ev Z (d + 3) 189 0 [some (.ref 73), none] [] (mm_H M) Q) (M : mm_M) {y : Int32 × mm_M} (hf : md_not_b rc M = some y) {Q : Option Value → ak_H → Prop} (hq : Q (some (.int y.1)) (mm_H y.2)) : Ev Z (d + 4) 185 0 [some (.ref 73), none, none, none] [] (mm_H M) Q := by
  rw [md_not_b] at hf
  refine e_aload_n hm_185 rfl rfl ?_
  refine e_bipush hm_185 rfl kc_bipush_110 ?_
  refine e_bipush hm_185 rfl kc_bipush_111 ?_
  refine e_bipush hm_185 rfl kc_bipush_116 ?_
  refine e_iconst hm_185 rfl kc_iconst_0 ?_
  refine e_iconst hm_185 rfl kc_iconst_0 ?_
  refine e_iconst hm_185 rfl kc_iconst_0 ?_
  refine e_iconst hm_185 rfl kc_iconst_0 ?_
  refine e_iconst hm_185 rfl kc_iconst_0 ?_
  obtain ⟨y1, hky1, hf⟩ := mm_bd hf
  refine e_virt hm_185 rfl rfl rfl rfl (Nat.le_of_ble_eq_true rfl) hm_179 rfl rfl (c_179 (110 : Int32) (111 : Int32) (116 : Int32) (0 : Int32) (0 : Int32) (0 : Int32) (0 : Int32) (0 : Int32) M hky1 ?_)
  show Ev Z _ 185 15 [some (.ref 73), none, none, none] [.int y1.1] (mm_H y1.2) Q
  by_cases hc2 : y1.1 = (0 : Int32)
  · rw [if_pos hc2] at hf
    refine e_if_t (t := 52) hm_185 rfl (ct_eq hc2) rfl ?_
    refine e_aload_n hm_185 rfl rfl ?_
    obtain ⟨y3, hky3, hf⟩ := mm_bd hf
    refine e_virt hm_185 rfl rfl rfl rfl (Nat.le_of_ble_eq_true rfl) hm_187 rfl rfl (hrc3 _ _ hky3 _ ?_)
    show Ev Z _ 185 56 [some (.ref 73), none, none, none] [.int y3.1] (mm_H y3.2) Q
    refine e_istore_n (L2 := [some (.ref 73), some (.int y3.1), none, none]) hm_185 rfl rfl ?_
    refine e_aload_n hm_185 rfl rfl ?_
    refine e_bipush hm_185 rfl kc_bipush_60 ?_
    obtain ⟨y4, hky4, hf⟩ := mm_bd hf
    refine e_virt hm_185 rfl rfl rfl rfl (Nat.le_of_ble_eq_true rfl) hm_190 rfl rfl (c_190 (60 : Int32) y3.2 hky4 ?_)
    show Ev Z _ 185 63 [some (.ref 73), some (.int y3.1), none, none] [.int y4.1] (mm_H y4.2) Q
    by_cases hc5 : y4.1 = (0 : Int32)
    · rw [if_pos hc5] at hf
      refine e_if_f hm_185 rfl (cf_ne hc5) ?_
      refine e_aload_n hm_185 rfl rfl ?_
      refine e_bipush hm_185 rfl kc_bipush_61 ?_
      obtain ⟨y6, hky6, hf⟩ := mm_bd hf
      refine e_virt hm_185 rfl rfl rfl rfl (Nat.le_of_ble_eq_true rfl) hm_190 rfl rfl (c_190 (61 : Int32) y4.2 hky6 ?_)
      show Ev Z _ 185 72 [some (.ref 73), some (.int y3.1), none, none] [.int y6.1] (mm_H y6.2) Q
      by_cases hc7 : y6.1 = (0 : Int32)
      · rw [if_pos hc7] at hf
        refine e_if_f hm_185 rfl (cf_ne hc7) ?_
        refine e_iload_n hm_185 rfl rfl ?_
        obtain rfl := Option.some.inj hf
        exact e_iret hm_185 rfl rfl hq
      · rw [if_neg hc7] at hf
        refine e_if_t (t := 77) hm_185 rfl (ct_ne hc7) rfl ?_
        refine e_aload_n hm_185 rfl rfl ?_
        refine e_getJ hm_185 rfl ?_
        refine e_ldc2 hm_185 rfl kc_ldc2_60 ?_
        refine e_lcmp hm_185 rfl ?_
        by_cases hc8 : (lg_cmp y6.2.2.2 (60 : Int64)) = (0 : Int32)
        · rw [if_pos hc8] at hf
          refine e_if_f hm_185 rfl (cf_ne hc8) ?_
          refine e_iconst hm_185 rfl kc_iconst_1 ?_
          refine e_goto (t := 93) hm_185 rfl rfl ?_
          refine e_istore_n (L2 := [some (.ref 73), some (.int y3.1), some (.int (1 : Int32)), none]) hm_185 rfl rfl ?_
          refine e_aload_n hm_185 rfl rfl ?_
          obtain ⟨y9, hky9, hf⟩ := mm_bd hf
          refine e_virt hm_185 rfl rfl rfl rfl (Nat.le_of_ble_eq_true rfl) hm_177 rfl rfl (c_177 y6.2 hky9 ?_)
          show Ev Z _ 185 98 [some (.ref 73), some (.int y3.1), some (.int (1 : Int32)), none] [] (mm_H y9.2) Q
          refine e_aload_n hm_185 rfl rfl ?_
          obtain ⟨y10, hky10, hf⟩ := mm_bd hf
          refine e_virt hm_185 rfl rfl rfl rfl (Nat.le_of_ble_eq_true rfl) hm_187 rfl rfl (hrc3 _ _ hky10 _ ?_)
          show Ev Z _ 185 102 [some (.ref 73), some (.int y3.1), some (.int (1 : Int32)), none] [.int y10.1] (mm_H y10.2) Q
          refine e_istore_n (L2 := [some (.ref 73), some (.int y3.1), some (.int (1 : Int32)), some (.int y10.1)]) hm_185 rfl rfl ?_
          refine e_iload_n hm_185 rfl rfl ?_
          refine e_if_f hm_185 rfl (by decide) ?_
          refine e_iload_n hm_185 rfl rfl ?_
          refine e_iload_n hm_185 rfl rfl ?_
          by_cases hc11 : y3.1 < y10.1
          · rw [if_pos hc11] at hf
            refine e_ic_f hm_185 rfl (cf_ge hc11) ?_
            refine e_goto (t := 120) hm_185 rfl rfl ?_
            refine e_iconst hm_185 rfl kc_iconst_1 ?_
            refine e_goto (t := 125) hm_185 rfl rfl ?_
            obtain rfl := Option.some.inj hf
            exact e_iret hm_185 rfl rfl hq
          · rw [if_neg hc11] at hf
            refine e_ic_t (t := 124) hm_185 rfl (ct_ge hc11) rfl ?_
            refine e_iconst hm_185 rfl kc_iconst_0 ?_
            obtain rfl := Option.some.inj hf
            exact e_iret hm_185 rfl rfl hq
        · rw [if_neg hc8] at hf
          refine e_if_t (t := 92) hm_185 rfl (ct_ne hc8) rfl ?_
          refine e_iconst hm_185 rfl kc_iconst_0 ?_
          refine e_istore_n (L2 := [some (.ref 73), some (.int y3.1), some (.int (0 : Int32)), none]) hm_185 rfl rfl ?_
          refine e_aload_n hm_185 rfl rfl ?_
          obtain ⟨y12, hky12, hf⟩ := mm_bd hf
          refine e_virt hm_185 rfl rfl rfl rfl (Nat.le_of_ble_eq_true rfl) hm_177 rfl rfl (c_177 y6.2 hky12 ?_)
          show Ev Z _ 185 98 [some (.ref 73), some (.int y3.1), some (.int (0 : Int32)), none] [] (mm_H y12.2) Q
          refine e_aload_n hm_185 rfl rfl ?_
          obtain ⟨y13, hky13, hf⟩ := mm_bd hf
          refine e_virt hm_185 rfl rfl rfl rfl (Nat.le_of_ble_eq_true rfl) hm_187 rfl rfl (hrc3 _ _ hky13 _ ?_)
          show Ev Z _ 185 102 [some (.ref 73), some (.int y3.1), some (.int (0 : Int32)), none] [.int y13.1] (mm_H y13.2) Q
          refine e_istore_n (L2 := [some (.ref 73), some (.int y3.1), some (.int (0 : Int32)), some (.int y13.1)]) hm_185 rfl rfl ?_
          refine e_iload_n hm_185 rfl rfl ?_
          refine e_if_t (t := 115) hm_185 rfl (by decide) rfl ?_
          refine e_iload_n hm_185 rfl rfl ?_
          refine e_iload_n hm_185 rfl rfl ?_
          by_cases hc14 : y3.1 = y13.1
          · rw [if_pos hc14] at hf
            refine e_ic_f hm_185 rfl (cf_ne hc14) ?_
            refine e_iconst hm_185 rfl kc_iconst_1 ?_
            refine e_goto (t := 125) hm_185 rfl rfl ?_
            obtain rfl := Option.some.inj hf
            exact e_iret hm_185 rfl rfl hq
          · rw [if_neg hc14] at hf
            refine e_ic_t (t := 124) hm_185 rfl (ct_ne hc14) rfl ?_
            refine e_iconst hm_185 rfl kc_iconst_0 ?_
            obtain rfl := Option.some.inj hf
            exact e_iret hm_185 rfl rfl hq
    · rw [if_neg hc5] at hf
      refine e_if_t (t := 77) hm_185 rfl (ct_ne hc5) rfl ?_
      refine e_aload_n hm_185 rfl rfl ?_
      refine e_getJ hm_185 rfl ?_
      refine e_ldc2 hm_185 rfl kc_ldc2_60 ?_
      refine e_lcmp hm_185 rfl ?_
      by_cases hc15 : (lg_cmp y4.2.2.2 (60 : Int64)) = (0 : Int32)
      · rw [if_pos hc15] at hf
        refine e_if_f hm_185 rfl (cf_ne hc15) ?_
        refine e_iconst hm_185 rfl kc_iconst_1 ?_
        refine e_goto (t := 93) hm_185 rfl rfl ?_
        refine e_istore_n (L2 := [some (.ref 73), some (.int y3.1), some (.int (1 : Int32)), none]) hm_185 rfl rfl ?_
        refine e_aload_n hm_185 rfl rfl ?_
        obtain ⟨y16, hky16, hf⟩ := mm_bd hf
        refine e_virt hm_185 rfl rfl rfl rfl (Nat.le_of_ble_eq_true rfl) hm_177 rfl rfl (c_177 y4.2 hky16 ?_)
        show Ev Z _ 185 98 [some (.ref 73), some (.int y3.1), some (.int (1 : Int32)), none] [] (mm_H y16.2) Q
        refine e_aload_n hm_185 rfl rfl ?_
        obtain ⟨y17, hky17, hf⟩ := mm_bd hf
        refine e_virt hm_185 rfl rfl rfl rfl (Nat.le_of_ble_eq_true rfl) hm_187 rfl rfl (hrc3 _ _ hky17 _ ?_)
        show Ev Z _ 185 102 [some (.ref 73), some (.int y3.1), some (.int (1 : Int32)), none] [.int y17.1] (mm_H y17.2) Q
        refine e_istore_n (L2 := [some (.ref 73), some (.int y3.1), some (.int (1 : Int32)), some (.int y17.1)]) hm_185 rfl rfl ?_
        refine e_iload_n hm_185 rfl rfl ?_
        refine e_if_f hm_185 rfl (by decide) ?_
        refine e_iload_n hm_185 rfl rfl ?_
        refine e_iload_n hm_185 rfl rfl ?_
        by_cases hc18 : y3.1 < y17.1
        · rw [if_pos hc18] at hf
          refine e_ic_f hm_185 rfl (cf_ge hc18) ?_
          refine e_goto (t := 120) hm_185 rfl rfl ?_
          refine e_iconst hm_185 rfl kc_iconst_1 ?_
          refine e_goto (t := 125) hm_185 rfl rfl ?_
          obtain rfl := Option.some.inj hf
          exact e_iret hm_185 rfl rfl hq
        · rw [if_neg hc18] at hf
          refine e_ic_t (t := 124) hm_185 rfl (ct_ge hc18) rfl ?_
          refine e_iconst hm_185 rfl kc_iconst_0 ?_
          obtain rfl := Option.some.inj hf
          exact e_iret hm_185 rfl rfl hq
      · rw [if_neg hc15] at hf
        refine e_if_t (t := 92) hm_185 rfl (ct_ne hc15) rfl ?_
        refine e_iconst hm_185 rfl kc_iconst_0 ?_
        refine e_istore_n (L2 := [some (.ref 73), some (.int y3.1), some (.int (0 : Int32)), none]) hm_185 rfl rfl ?_
        refine e_aload_n hm_185 rfl rfl ?_
        obtain ⟨y19, hky19, hf⟩ := mm_bd hf
        refine e_virt hm_185 rfl rfl rfl rfl (Nat.le_of_ble_eq_true rfl) hm_177 rfl rfl (c_177 y4.2 hky19 ?_)
        show Ev Z _ 185 98 [some (.ref 73), some (.int y3.1), some (.int (0 : Int32)), none] [] (mm_H y19.2) Q
        refine e_aload_n hm_185 rfl rfl ?_
        obtain ⟨y20, hky20, hf⟩ := mm_bd hf
        refine e_virt hm_185 rfl rfl rfl rfl (Nat.le_of_ble_eq_true rfl) hm_187 rfl rfl (hrc3 _ _ hky20 _ ?_)
        show Ev Z _ 185 102 [some (.ref 73), some (.int y3.1), some (.int (0 : Int32)), none] [.int y20.1] (mm_H y20.2) Q
        refine e_istore_n (L2 := [some (.ref 73), some (.int y3.1), some (.int (0 : Int32)), some (.int y20.1)]) hm_185 rfl rfl ?_
        refine e_iload_n hm_185 rfl rfl ?_
        refine e_if_t (t := 115) hm_185 rfl (by decide) rfl ?_
        refine e_iload_n hm_185 rfl rfl ?_
        refine e_iload_n hm_185 rfl rfl ?_
        by_cases hc21 : y3.1 = y20.1
        · rw [if_pos hc21] at hf
          refine e_ic_f hm_185 rfl (cf_ne hc21) ?_
          refine e_iconst hm_185 rfl kc_iconst_1 ?_
          refine e_goto (t := 125) hm_185 rfl rfl ?_
          obtain rfl := Option.some.inj hf
          exact e_iret hm_185 rfl rfl hq
        · rw [if_neg hc21] at hf
          refine e_ic_t (t := 124) hm_185 rfl (ct_ne hc21) rfl ?_
          refine e_iconst hm_185 rfl kc_iconst_0 ?_
          obtain rfl := Option.some.inj hf
          exact e_iret hm_185 rfl rfl hq
  · rw [if_neg hc2] at hf
    refine e_if_f hm_185 rfl (cf_eq hc2) ?_
    refine e_aload_n hm_185 rfl rfl ?_
    obtain ⟨y22, hky22, hf⟩ := mm_bd hf
    refine e_virt hm_185 rfl rfl rfl rfl (Nat.le_of_ble_eq_true rfl) hm_186 rfl rfl (c_186 y1.2 hky22 ?_)
    show Ev Z _ 185 22 [some (.ref 73), none, none, none] [.int y22.1] (mm_H y22.2) Q
    by_cases hc23 : y22.1 = (0 : Int32)
    · rw [if_pos hc23] at hf
      refine e_if_f hm_185 rfl (cf_ne hc23) ?_
      refine e_iconst hm_185 rfl kc_iconst_0 ?_
      obtain rfl := Option.some.inj hf
      exact e_iret hm_185 rfl rfl hq
    · rw [if_neg hc23] at hf
      refine e_if_t (t := 27) hm_185 rfl (ct_ne hc23) rfl ?_
      refine e_aload_n hm_185 rfl rfl ?_
      obtain ⟨y24, hky24, hf⟩ := mm_bd hf
      refine e_virt hm_185 rfl rfl rfl rfl (Nat.le_of_ble_eq_true rfl) hm_185 rfl rfl (hrc2 _ _ hky24 _ ?_)
      show Ev Z _ 185 31 [some (.ref 73), none, none, none] [.int y24.1] (mm_H y24.2) Q
      refine e_istore_n (L2 := [some (.ref 73), some (.int y24.1), none, none]) hm_185 rfl rfl ?_
      refine e_aload_n hm_185 rfl rfl ?_
      refine e_dupa hm_185 rfl ?_
      refine e_getI hm_185 rfl rfl rfl ?_
      refine e_iconst hm_185 rfl kc_iconst_1 ?_
      refine e_isub hm_185 rfl ?_
      refine e_putI hm_185 rfl rfl rfl ?_
      refine e_iload_n hm_185 rfl rfl ?_
      by_cases hc25 : y24.1 = (0 : Int32)
      · rw [if_pos hc25] at hf
        refine e_if_f hm_185 rfl (cf_ne hc25) ?_
        refine e_iconst hm_185 rfl kc_iconst_1 ?_
        refine e_goto (t := 51) hm_185 rfl rfl ?_
        obtain rfl := Option.some.inj hf
        exact e_iret hm_185 rfl rfl hq
      · rw [if_neg hc25] at hf
        refine e_if_t (t := 50) hm_185 rfl (ct_ne hc25) rfl ?_
        refine e_iconst hm_185 rfl kc_iconst_0 ?_
        obtain rfl := Option.some.inj hf
        exact e_iret hm_185 rfl rfl hq
def md_added_l5 (rc : Nat → mm_M → Option (Int32 × mm_M)) : Nat → Int32 → mm_M → Option (((Int32) × mm_M))
  | 0, _, _ => none
  | n + 1, x1, M =>
    (md_isSign (43 : Int32) M).bind fun y1 =>
    if y1.1 = (0 : Int32) then
      (md_isSign (45 : Int32) y1.2).bind fun y3 =>
      if y3.1 = (0 : Int32) then
        some (x1, y3.2)
      else
        if (lg_cmp y3.2.2.2 (43 : Int64)) = (0 : Int32) then
          (md_next y3.2).bind fun y6 =>
          (rc 4 y6.2).bind fun y7 =>
          md_added_l5 rc n (x1 + y7.1) y7.2
        else
          (md_next y3.2).bind fun y8 =>
          (rc 4 y8.2).bind fun y9 =>
          md_added_l5 rc n (x1 - y9.1) y9.2
    else
      if (lg_cmp y1.2.2.2 (43 : Int64)) = (0 : Int32) then
        (md_next y1.2).bind fun y11 =>
        (rc 4 y11.2).bind fun y12 =>
        md_added_l5 rc n (x1 + y12.1) y12.2
      else
        (md_next y1.2).bind fun y13 =>
        (rc 4 y13.2).bind fun y14 =>
        md_added_l5 rc n (x1 - y14.1) y14.2
set_option maxRecDepth 20000 in
set_option maxHeartbeats 4000000 in
theorem lc_187_5 {Z : ak_Z} {d : Nat} (rc : Nat → mm_M → Option (Int32 × mm_M)) (hrc0 : ∀ (M : mm_M) (y : Int32 × mm_M), rc 0 M = some y → ∀ (Q : Option Value → ak_H → Prop), Q (some (.int y.1)) (mm_H y.2) → Ev Z (d + 3) 183 0 [some (.ref 73), none, none] [] (mm_H M) Q) (hrc1 : ∀ (M : mm_M) (y : Int32 × mm_M), rc 1 M = some y → ∀ (Q : Option Value → ak_H → Prop), Q (some (.int y.1)) (mm_H y.2) → Ev Z (d + 3) 184 0 [some (.ref 73), none, none] [] (mm_H M) Q) (hrc2 : ∀ (M : mm_M) (y : Int32 × mm_M), rc 2 M = some y → ∀ (Q : Option Value → ak_H → Prop), Q (some (.int y.1)) (mm_H y.2) → Ev Z (d + 3) 185 0 [some (.ref 73), none, none, none] [] (mm_H M) Q) (hrc3 : ∀ (M : mm_M) (y : Int32 × mm_M), rc 3 M = some y → ∀ (Q : Option Value → ak_H → Prop), Q (some (.int y.1)) (mm_H y.2) → Ev Z (d + 3) 187 0 [some (.ref 73), none, none, none] [] (mm_H M) Q) (hrc4 : ∀ (M : mm_M) (y : Int32 × mm_M), rc 4 M = some y → ∀ (Q : Option Value → ak_H → Prop), Q (some (.int y.1)) (mm_H y.2) → Ev Z (d + 3) 188 0 [some (.ref 73), none] [] (mm_H M) Q) (hrc5 : ∀ (M : mm_M) (y : Int32 × mm_M), rc 5 M = some y → ∀ (Q : Option Value → ak_H → Prop), Q (some (.int y.1)) (mm_H y.2) → Ev Z (d + 3) 189 0 [some (.ref 73), none] [] (mm_H M) Q) : ∀ (n : Nat) (x1 : Int32) (M : mm_M) {y : ((Int32) × mm_M)} (Q : Option Value → ak_H → Prop), md_added_l5 rc n x1 M = some y → (Ev Z (d + 4) 187 66 [none, some (.int y.1), none, none] [] (mm_H y.2) Q) → Ev Z (d + 4) 187 5 [some (.ref 73), some (.int x1), none, none] [] (mm_H M) Q := by
  intro n
  induction n with
  | zero => intro x1 M y Q hf; cases hf
  | succ n ih =>
    intro x1 M y Q hf hq
    rw [md_added_l5] at hf
    refine e_aload_n hm_187 rfl rfl ?_
    refine e_bipush hm_187 rfl kc_bipush_43 ?_
    obtain ⟨y1, hky1, hf⟩ := mm_bd hf
    refine e_virt hm_187 rfl rfl rfl rfl (Nat.le_of_ble_eq_true rfl) hm_190 rfl rfl (c_190 (43 : Int32) M hky1 ?_)
    show Ev Z _ 187 11 [some (.ref 73), some (.int x1), none, none] [.int y1.1] (mm_H y1.2) Q
    by_cases hc2 : y1.1 = (0 : Int32)
    · rw [if_pos hc2] at hf
      refine e_if_f hm_187 rfl (cf_ne hc2) ?_
      refine e_aload_n hm_187 rfl rfl ?_
      refine e_bipush hm_187 rfl kc_bipush_45 ?_
      obtain ⟨y3, hky3, hf⟩ := mm_bd hf
      refine e_virt hm_187 rfl rfl rfl rfl (Nat.le_of_ble_eq_true rfl) hm_190 rfl rfl (c_190 (45 : Int32) y1.2 hky3 ?_)
      show Ev Z _ 187 20 [some (.ref 73), some (.int x1), none, none] [.int y3.1] (mm_H y3.2) Q
      by_cases hc4 : y3.1 = (0 : Int32)
      · rw [if_pos hc4] at hf
        refine e_if_t (t := 66) hm_187 rfl (ct_eq hc4) rfl ?_
        obtain rfl := Option.some.inj hf
        exact e_forget (L' := [none, some (.int x1), none, none]) (lf_d (lf_k (lf_k (lf_k lf_0)))) hq
      · rw [if_neg hc4] at hf
        refine e_if_f hm_187 rfl (cf_eq hc4) ?_
        refine e_aload_n hm_187 rfl rfl ?_
        refine e_getJ hm_187 rfl ?_
        refine e_ldc2 hm_187 rfl kc_ldc2_43 ?_
        refine e_lcmp hm_187 rfl ?_
        by_cases hc5 : (lg_cmp y3.2.2.2 (43 : Int64)) = (0 : Int32)
        · rw [if_pos hc5] at hf
          refine e_if_f hm_187 rfl (cf_ne hc5) ?_
          refine e_iconst hm_187 rfl kc_iconst_1 ?_
          refine e_goto (t := 39) hm_187 rfl rfl ?_
          refine e_istore_n (L2 := [some (.ref 73), some (.int x1), some (.int (1 : Int32)), none]) hm_187 rfl rfl ?_
          refine e_aload_n hm_187 rfl rfl ?_
          obtain ⟨y6, hky6, hf⟩ := mm_bd hf
          refine e_virt hm_187 rfl rfl rfl rfl (Nat.le_of_ble_eq_true rfl) hm_177 rfl rfl (c_177 y3.2 hky6 ?_)
          show Ev Z _ 187 44 [some (.ref 73), some (.int x1), some (.int (1 : Int32)), none] [] (mm_H y6.2) Q
          refine e_aload_n hm_187 rfl rfl ?_
          obtain ⟨y7, hky7, hf⟩ := mm_bd hf
          refine e_virt hm_187 rfl rfl rfl rfl (Nat.le_of_ble_eq_true rfl) hm_188 rfl rfl (hrc4 _ _ hky7 _ ?_)
          show Ev Z _ 187 48 [some (.ref 73), some (.int x1), some (.int (1 : Int32)), none] [.int y7.1] (mm_H y7.2) Q
          refine e_istore_n (L2 := [some (.ref 73), some (.int x1), some (.int (1 : Int32)), some (.int y7.1)]) hm_187 rfl rfl ?_
          refine e_iload_n hm_187 rfl rfl ?_
          refine e_if_f hm_187 rfl (by decide) ?_
          refine e_iload_n hm_187 rfl rfl ?_
          refine e_iload_n hm_187 rfl rfl ?_
          refine e_iadd hm_187 rfl ?_
          refine e_goto (t := 62) hm_187 rfl rfl ?_
          refine e_istore_n (L2 := [some (.ref 73), some (.int (x1 + y7.1)), some (.int (1 : Int32)), some (.int y7.1)]) hm_187 rfl rfl ?_
          refine e_goto (t := 5) hm_187 rfl rfl ?_
          exact e_forget (L' := [some (.ref 73), some (.int (x1 + y7.1)), none, none]) (lf_k (lf_k (lf_d (lf_d lf_0)))) (ih (x1 + y7.1) y7.2 Q hf hq)
        · rw [if_neg hc5] at hf
          refine e_if_t (t := 38) hm_187 rfl (ct_ne hc5) rfl ?_
          refine e_iconst hm_187 rfl kc_iconst_0 ?_
          refine e_istore_n (L2 := [some (.ref 73), some (.int x1), some (.int (0 : Int32)), none]) hm_187 rfl rfl ?_
          refine e_aload_n hm_187 rfl rfl ?_
          obtain ⟨y8, hky8, hf⟩ := mm_bd hf
          refine e_virt hm_187 rfl rfl rfl rfl (Nat.le_of_ble_eq_true rfl) hm_177 rfl rfl (c_177 y3.2 hky8 ?_)
          show Ev Z _ 187 44 [some (.ref 73), some (.int x1), some (.int (0 : Int32)), none] [] (mm_H y8.2) Q
          refine e_aload_n hm_187 rfl rfl ?_
          obtain ⟨y9, hky9, hf⟩ := mm_bd hf
          refine e_virt hm_187 rfl rfl rfl rfl (Nat.le_of_ble_eq_true rfl) hm_188 rfl rfl (hrc4 _ _ hky9 _ ?_)
          show Ev Z _ 187 48 [some (.ref 73), some (.int x1), some (.int (0 : Int32)), none] [.int y9.1] (mm_H y9.2) Q
          refine e_istore_n (L2 := [some (.ref 73), some (.int x1), some (.int (0 : Int32)), some (.int y9.1)]) hm_187 rfl rfl ?_
          refine e_iload_n hm_187 rfl rfl ?_
          refine e_if_t (t := 59) hm_187 rfl (by decide) rfl ?_
          refine e_iload_n hm_187 rfl rfl ?_
          refine e_iload_n hm_187 rfl rfl ?_
          refine e_isub hm_187 rfl ?_
          refine e_istore_n (L2 := [some (.ref 73), some (.int (x1 - y9.1)), some (.int (0 : Int32)), some (.int y9.1)]) hm_187 rfl rfl ?_
          refine e_goto (t := 5) hm_187 rfl rfl ?_
          exact e_forget (L' := [some (.ref 73), some (.int (x1 - y9.1)), none, none]) (lf_k (lf_k (lf_d (lf_d lf_0)))) (ih (x1 - y9.1) y9.2 Q hf hq)
    · rw [if_neg hc2] at hf
      refine e_if_t (t := 23) hm_187 rfl (ct_ne hc2) rfl ?_
      refine e_aload_n hm_187 rfl rfl ?_
      refine e_getJ hm_187 rfl ?_
      refine e_ldc2 hm_187 rfl kc_ldc2_43 ?_
      refine e_lcmp hm_187 rfl ?_
      by_cases hc10 : (lg_cmp y1.2.2.2 (43 : Int64)) = (0 : Int32)
      · rw [if_pos hc10] at hf
        refine e_if_f hm_187 rfl (cf_ne hc10) ?_
        refine e_iconst hm_187 rfl kc_iconst_1 ?_
        refine e_goto (t := 39) hm_187 rfl rfl ?_
        refine e_istore_n (L2 := [some (.ref 73), some (.int x1), some (.int (1 : Int32)), none]) hm_187 rfl rfl ?_
        refine e_aload_n hm_187 rfl rfl ?_
        obtain ⟨y11, hky11, hf⟩ := mm_bd hf
        refine e_virt hm_187 rfl rfl rfl rfl (Nat.le_of_ble_eq_true rfl) hm_177 rfl rfl (c_177 y1.2 hky11 ?_)
        show Ev Z _ 187 44 [some (.ref 73), some (.int x1), some (.int (1 : Int32)), none] [] (mm_H y11.2) Q
        refine e_aload_n hm_187 rfl rfl ?_
        obtain ⟨y12, hky12, hf⟩ := mm_bd hf
        refine e_virt hm_187 rfl rfl rfl rfl (Nat.le_of_ble_eq_true rfl) hm_188 rfl rfl (hrc4 _ _ hky12 _ ?_)
        show Ev Z _ 187 48 [some (.ref 73), some (.int x1), some (.int (1 : Int32)), none] [.int y12.1] (mm_H y12.2) Q
        refine e_istore_n (L2 := [some (.ref 73), some (.int x1), some (.int (1 : Int32)), some (.int y12.1)]) hm_187 rfl rfl ?_
        refine e_iload_n hm_187 rfl rfl ?_
        refine e_if_f hm_187 rfl (by decide) ?_
        refine e_iload_n hm_187 rfl rfl ?_
        refine e_iload_n hm_187 rfl rfl ?_
        refine e_iadd hm_187 rfl ?_
        refine e_goto (t := 62) hm_187 rfl rfl ?_
        refine e_istore_n (L2 := [some (.ref 73), some (.int (x1 + y12.1)), some (.int (1 : Int32)), some (.int y12.1)]) hm_187 rfl rfl ?_
        refine e_goto (t := 5) hm_187 rfl rfl ?_
        exact e_forget (L' := [some (.ref 73), some (.int (x1 + y12.1)), none, none]) (lf_k (lf_k (lf_d (lf_d lf_0)))) (ih (x1 + y12.1) y12.2 Q hf hq)
      · rw [if_neg hc10] at hf
        refine e_if_t (t := 38) hm_187 rfl (ct_ne hc10) rfl ?_
        refine e_iconst hm_187 rfl kc_iconst_0 ?_
        refine e_istore_n (L2 := [some (.ref 73), some (.int x1), some (.int (0 : Int32)), none]) hm_187 rfl rfl ?_
        refine e_aload_n hm_187 rfl rfl ?_
        obtain ⟨y13, hky13, hf⟩ := mm_bd hf
        refine e_virt hm_187 rfl rfl rfl rfl (Nat.le_of_ble_eq_true rfl) hm_177 rfl rfl (c_177 y1.2 hky13 ?_)
        show Ev Z _ 187 44 [some (.ref 73), some (.int x1), some (.int (0 : Int32)), none] [] (mm_H y13.2) Q
        refine e_aload_n hm_187 rfl rfl ?_
        obtain ⟨y14, hky14, hf⟩ := mm_bd hf
        refine e_virt hm_187 rfl rfl rfl rfl (Nat.le_of_ble_eq_true rfl) hm_188 rfl rfl (hrc4 _ _ hky14 _ ?_)
        show Ev Z _ 187 48 [some (.ref 73), some (.int x1), some (.int (0 : Int32)), none] [.int y14.1] (mm_H y14.2) Q
        refine e_istore_n (L2 := [some (.ref 73), some (.int x1), some (.int (0 : Int32)), some (.int y14.1)]) hm_187 rfl rfl ?_
        refine e_iload_n hm_187 rfl rfl ?_
        refine e_if_t (t := 59) hm_187 rfl (by decide) rfl ?_
        refine e_iload_n hm_187 rfl rfl ?_
        refine e_iload_n hm_187 rfl rfl ?_
        refine e_isub hm_187 rfl ?_
        refine e_istore_n (L2 := [some (.ref 73), some (.int (x1 - y14.1)), some (.int (0 : Int32)), some (.int y14.1)]) hm_187 rfl rfl ?_
        refine e_goto (t := 5) hm_187 rfl rfl ?_
        exact e_forget (L' := [some (.ref 73), some (.int (x1 - y14.1)), none, none]) (lf_k (lf_k (lf_d (lf_d lf_0)))) (ih (x1 - y14.1) y14.2 Q hf hq)
def md_added_b (rc : Nat → mm_M → Option (Int32 × mm_M)) (M : mm_M) : Option (Int32 × mm_M) :=
  (rc 4 M).bind fun y1 =>
  (md_added_l5 rc 300 y1.1 y1.2).bind fun y2 =>
  some (y2.1, y2.2)
set_option maxRecDepth 20000 in
set_option maxHeartbeats 4000000 in
theorem cb_187 {Z : ak_Z} {d : Nat} (rc : Nat → mm_M → Option (Int32 × mm_M)) (hrc0 : ∀ (M : mm_M) (y : Int32 × mm_M), rc 0 M = some y → ∀ (Q : Option Value → ak_H → Prop), Q (some (.int y.1)) (mm_H y.2) → Ev Z (d + 3) 183 0 [some (.ref 73), none, none] [] (mm_H M) Q) (hrc1 : ∀ (M : mm_M) (y : Int32 × mm_M), rc 1 M = some y → ∀ (Q : Option Value → ak_H → Prop), Q (some (.int y.1)) (mm_H y.2) → Ev Z (d + 3) 184 0 [some (.ref 73), none, none] [] (mm_H M) Q) (hrc2 : ∀ (M : mm_M) (y : Int32 × mm_M), rc 2 M = some y → ∀ (Q : Option Value → ak_H → Prop), Q (some (.int y.1)) (mm_H y.2) → Ev Z (d + 3) 185 0 [some (.ref 73), none, none, none] [] (mm_H M) Q) (hrc3 : ∀ (M : mm_M) (y : Int32 × mm_M), rc 3 M = some y → ∀ (Q : Option Value → ak_H → Prop), Q (some (.int y.1)) (mm_H y.2) → Ev Z (d + 3) 187 0 [some (.ref 73), none, none, none] [] (mm_H M) Q) (hrc4 : ∀ (M : mm_M) (y : Int32 × mm_M), rc 4 M = some y → ∀ (Q : Option Value → ak_H → Prop), Q (some (.int y.1)) (mm_H y.2) → Ev Z (d + 3) 188 0 [some (.ref 73), none] [] (mm_H M) Q) (hrc5 : ∀ (M : mm_M) (y : Int32 × mm_M), rc 5 M = some y → ∀ (Q : Option Value → ak_H → Prop), Q (some (.int y.1)) (mm_H y.2) → Ev Z (d + 3) 189 0 [some (.ref 73), none] [] (mm_H M) Q) (M : mm_M) {y : Int32 × mm_M} (hf : md_added_b rc M = some y) {Q : Option Value → ak_H → Prop} (hq : Q (some (.int y.1)) (mm_H y.2)) : Ev Z (d + 4) 187 0 [some (.ref 73), none, none, none] [] (mm_H M) Q := by
  rw [md_added_b] at hf
  refine e_aload_n hm_187 rfl rfl ?_
  obtain ⟨y1, hky1, hf⟩ := mm_bd hf
  refine e_virt hm_187 rfl rfl rfl rfl (Nat.le_of_ble_eq_true rfl) hm_188 rfl rfl (hrc4 _ _ hky1 _ ?_)
  show Ev Z _ 187 4 [some (.ref 73), none, none, none] [.int y1.1] (mm_H y1.2) Q
  refine e_istore_n (L2 := [some (.ref 73), some (.int y1.1), none, none]) hm_187 rfl rfl ?_
  obtain ⟨y2, hky2, hf⟩ := mm_bd hf
  refine e_forget (L' := [some (.ref 73), some (.int y1.1), none, none]) (lf_k (lf_k (lf_k (lf_k lf_0)))) (lc_187_5 rc hrc0 hrc1 hrc2 hrc3 hrc4 hrc5 (d := _) 300 y1.1 y1.2 Q hky2 ?_)
  show Ev Z _ 187 66 [none, some (.int y2.1), none, none] [] (mm_H y2.2) Q
  refine e_iload_n hm_187 rfl rfl ?_
  obtain rfl := Option.some.inj hf
  exact e_iret hm_187 rfl rfl hq
def md_term_l5 (rc : Nat → mm_M → Option (Int32 × mm_M)) : Nat → Int32 → mm_M → Option (((Int32) × mm_M))
  | 0, _, _ => none
  | n + 1, x1, M =>
    (md_isSign (42 : Int32) M).bind fun y1 =>
    if y1.1 = (0 : Int32) then
      some (x1, y1.2)
    else
      (md_next y1.2).bind fun y3 =>
      (rc 5 y3.2).bind fun y4 =>
      md_term_l5 rc n (x1 * y4.1) y4.2
set_option maxRecDepth 20000 in
set_option maxHeartbeats 4000000 in
theorem lc_188_5 {Z : ak_Z} {d : Nat} (rc : Nat → mm_M → Option (Int32 × mm_M)) (hrc0 : ∀ (M : mm_M) (y : Int32 × mm_M), rc 0 M = some y → ∀ (Q : Option Value → ak_H → Prop), Q (some (.int y.1)) (mm_H y.2) → Ev Z (d + 3) 183 0 [some (.ref 73), none, none] [] (mm_H M) Q) (hrc1 : ∀ (M : mm_M) (y : Int32 × mm_M), rc 1 M = some y → ∀ (Q : Option Value → ak_H → Prop), Q (some (.int y.1)) (mm_H y.2) → Ev Z (d + 3) 184 0 [some (.ref 73), none, none] [] (mm_H M) Q) (hrc2 : ∀ (M : mm_M) (y : Int32 × mm_M), rc 2 M = some y → ∀ (Q : Option Value → ak_H → Prop), Q (some (.int y.1)) (mm_H y.2) → Ev Z (d + 3) 185 0 [some (.ref 73), none, none, none] [] (mm_H M) Q) (hrc3 : ∀ (M : mm_M) (y : Int32 × mm_M), rc 3 M = some y → ∀ (Q : Option Value → ak_H → Prop), Q (some (.int y.1)) (mm_H y.2) → Ev Z (d + 3) 187 0 [some (.ref 73), none, none, none] [] (mm_H M) Q) (hrc4 : ∀ (M : mm_M) (y : Int32 × mm_M), rc 4 M = some y → ∀ (Q : Option Value → ak_H → Prop), Q (some (.int y.1)) (mm_H y.2) → Ev Z (d + 3) 188 0 [some (.ref 73), none] [] (mm_H M) Q) (hrc5 : ∀ (M : mm_M) (y : Int32 × mm_M), rc 5 M = some y → ∀ (Q : Option Value → ak_H → Prop), Q (some (.int y.1)) (mm_H y.2) → Ev Z (d + 3) 189 0 [some (.ref 73), none] [] (mm_H M) Q) : ∀ (n : Nat) (x1 : Int32) (M : mm_M) {y : ((Int32) × mm_M)} (Q : Option Value → ak_H → Prop), md_term_l5 rc n x1 M = some y → (Ev Z (d + 4) 188 28 [none, some (.int y.1)] [] (mm_H y.2) Q) → Ev Z (d + 4) 188 5 [some (.ref 73), some (.int x1)] [] (mm_H M) Q := by
  intro n
  induction n with
  | zero => intro x1 M y Q hf; cases hf
  | succ n ih =>
    intro x1 M y Q hf hq
    rw [md_term_l5] at hf
    refine e_aload_n hm_188 rfl rfl ?_
    refine e_bipush hm_188 rfl kc_bipush_42 ?_
    obtain ⟨y1, hky1, hf⟩ := mm_bd hf
    refine e_virt hm_188 rfl rfl rfl rfl (Nat.le_of_ble_eq_true rfl) hm_190 rfl rfl (c_190 (42 : Int32) M hky1 ?_)
    show Ev Z _ 188 11 [some (.ref 73), some (.int x1)] [.int y1.1] (mm_H y1.2) Q
    by_cases hc2 : y1.1 = (0 : Int32)
    · rw [if_pos hc2] at hf
      refine e_if_t (t := 28) hm_188 rfl (ct_eq hc2) rfl ?_
      obtain rfl := Option.some.inj hf
      exact e_forget (L' := [none, some (.int x1)]) (lf_d (lf_k lf_0)) hq
    · rw [if_neg hc2] at hf
      refine e_if_f hm_188 rfl (cf_eq hc2) ?_
      refine e_aload_n hm_188 rfl rfl ?_
      obtain ⟨y3, hky3, hf⟩ := mm_bd hf
      refine e_virt hm_188 rfl rfl rfl rfl (Nat.le_of_ble_eq_true rfl) hm_177 rfl rfl (c_177 y1.2 hky3 ?_)
      show Ev Z _ 188 18 [some (.ref 73), some (.int x1)] [] (mm_H y3.2) Q
      refine e_iload_n hm_188 rfl rfl ?_
      refine e_aload_n hm_188 rfl rfl ?_
      obtain ⟨y4, hky4, hf⟩ := mm_bd hf
      refine e_virt hm_188 rfl rfl rfl rfl (Nat.le_of_ble_eq_true rfl) hm_189 rfl rfl (hrc5 _ _ hky4 _ ?_)
      show Ev Z _ 188 23 [some (.ref 73), some (.int x1)] [.int y4.1, .int x1] (mm_H y4.2) Q
      refine e_imul hm_188 rfl ?_
      refine e_istore_n (L2 := [some (.ref 73), some (.int (x1 * y4.1))]) hm_188 rfl rfl ?_
      refine e_goto (t := 5) hm_188 rfl rfl ?_
      exact e_forget (L' := [some (.ref 73), some (.int (x1 * y4.1))]) (lf_k (lf_k lf_0)) (ih (x1 * y4.1) y4.2 Q hf hq)
def md_term_b (rc : Nat → mm_M → Option (Int32 × mm_M)) (M : mm_M) : Option (Int32 × mm_M) :=
  (rc 5 M).bind fun y1 =>
  (md_term_l5 rc 300 y1.1 y1.2).bind fun y2 =>
  some (y2.1, y2.2)
set_option maxRecDepth 20000 in
set_option maxHeartbeats 4000000 in
theorem cb_188 {Z : ak_Z} {d : Nat} (rc : Nat → mm_M → Option (Int32 × mm_M)) (hrc0 : ∀ (M : mm_M) (y : Int32 × mm_M), rc 0 M = some y → ∀ (Q : Option Value → ak_H → Prop), Q (some (.int y.1)) (mm_H y.2) → Ev Z (d + 3) 183 0 [some (.ref 73), none, none] [] (mm_H M) Q) (hrc1 : ∀ (M : mm_M) (y : Int32 × mm_M), rc 1 M = some y → ∀ (Q : Option Value → ak_H → Prop), Q (some (.int y.1)) (mm_H y.2) → Ev Z (d + 3) 184 0 [some (.ref 73), none, none] [] (mm_H M) Q) (hrc2 : ∀ (M : mm_M) (y : Int32 × mm_M), rc 2 M = some y → ∀ (Q : Option Value → ak_H → Prop), Q (some (.int y.1)) (mm_H y.2) → Ev Z (d + 3) 185 0 [some (.ref 73), none, none, none] [] (mm_H M) Q) (hrc3 : ∀ (M : mm_M) (y : Int32 × mm_M), rc 3 M = some y → ∀ (Q : Option Value → ak_H → Prop), Q (some (.int y.1)) (mm_H y.2) → Ev Z (d + 3) 187 0 [some (.ref 73), none, none, none] [] (mm_H M) Q) (hrc4 : ∀ (M : mm_M) (y : Int32 × mm_M), rc 4 M = some y → ∀ (Q : Option Value → ak_H → Prop), Q (some (.int y.1)) (mm_H y.2) → Ev Z (d + 3) 188 0 [some (.ref 73), none] [] (mm_H M) Q) (hrc5 : ∀ (M : mm_M) (y : Int32 × mm_M), rc 5 M = some y → ∀ (Q : Option Value → ak_H → Prop), Q (some (.int y.1)) (mm_H y.2) → Ev Z (d + 3) 189 0 [some (.ref 73), none] [] (mm_H M) Q) (M : mm_M) {y : Int32 × mm_M} (hf : md_term_b rc M = some y) {Q : Option Value → ak_H → Prop} (hq : Q (some (.int y.1)) (mm_H y.2)) : Ev Z (d + 4) 188 0 [some (.ref 73), none] [] (mm_H M) Q := by
  rw [md_term_b] at hf
  refine e_aload_n hm_188 rfl rfl ?_
  obtain ⟨y1, hky1, hf⟩ := mm_bd hf
  refine e_virt hm_188 rfl rfl rfl rfl (Nat.le_of_ble_eq_true rfl) hm_189 rfl rfl (hrc5 _ _ hky1 _ ?_)
  show Ev Z _ 188 4 [some (.ref 73), none] [.int y1.1] (mm_H y1.2) Q
  refine e_istore_n (L2 := [some (.ref 73), some (.int y1.1)]) hm_188 rfl rfl ?_
  obtain ⟨y2, hky2, hf⟩ := mm_bd hf
  refine e_forget (L' := [some (.ref 73), some (.int y1.1)]) (lf_k (lf_k lf_0)) (lc_188_5 rc hrc0 hrc1 hrc2 hrc3 hrc4 hrc5 (d := _) 300 y1.1 y1.2 Q hky2 ?_)
  show Ev Z _ 188 28 [none, some (.int y2.1)] [] (mm_H y2.2) Q
  refine e_iload_n hm_188 rfl rfl ?_
  obtain rfl := Option.some.inj hf
  exact e_iret hm_188 rfl rfl hq
def md_atom_b (rc : Nat → mm_M → Option (Int32 × mm_M)) (M : mm_M) : Option (Int32 × mm_M) :=
  (md_isSign (45 : Int32) M).bind fun y1 =>
  if y1.1 = (0 : Int32) then
    (md_isSign (40 : Int32) y1.2).bind fun y3 =>
    if y3.1 = (0 : Int32) then
      if (y3.2.1 73 25) = (0 : Int32) then
        if (y3.2.1 73 21) = (2 : Int32) then
          (md_next y3.2).bind fun y7 =>
          some (y3.2.2.2.toInt32, y7.2)
        else
          if (y3.2.1 73 25) = (0 : Int32) then
            if (y3.2.1 73 21) = (1 : Int32) then
              (md_name y3.2).bind fun y10 =>
              if (y10.2.1 73 25) = (0 : Int32) then
                (md_next y10.2).bind fun y12 =>
                some (y10.1, y12.2)
              else
                some (y10.1, y10.2)
            else
              (md_fail y3.2).bind fun y13 =>
              some ((0 : Int32), y13.2)
          else
            (md_fail y3.2).bind fun y14 =>
            some ((0 : Int32), y14.2)
      else
        if (y3.2.1 73 25) = (0 : Int32) then
          if (y3.2.1 73 21) = (1 : Int32) then
            (md_name y3.2).bind fun y17 =>
            if (y17.2.1 73 25) = (0 : Int32) then
              (md_next y17.2).bind fun y19 =>
              some (y17.1, y19.2)
            else
              some (y17.1, y17.2)
          else
            (md_fail y3.2).bind fun y20 =>
            some ((0 : Int32), y20.2)
        else
          (md_fail y3.2).bind fun y21 =>
          some ((0 : Int32), y21.2)
    else
      (md_opens y3.2).bind fun y22 =>
      if y22.1 = (0 : Int32) then
        some ((0 : Int32), y22.2)
      else
        (rc 0 y22.2).bind fun y24 =>
        (md_isSign (41 : Int32) y24.2).bind fun y25 =>
        if y25.1 = (0 : Int32) then
          (md_fail y25.2).bind fun y27 =>
          if ((ak_up y27.2.1 73 24 ((y27.2.1 73 24) - (1 : Int32))) 73 25) = (0 : Int32) then
            (md_next (ak_up y27.2.1 73 24 ((y27.2.1 73 24) - (1 : Int32)), y27.2.2)).bind fun y29 =>
            some (y24.1, y29.2)
          else
            some (y24.1, (ak_up y27.2.1 73 24 ((y27.2.1 73 24) - (1 : Int32)), y27.2.2))
        else
          if ((ak_up y25.2.1 73 24 ((y25.2.1 73 24) - (1 : Int32))) 73 25) = (0 : Int32) then
            (md_next (ak_up y25.2.1 73 24 ((y25.2.1 73 24) - (1 : Int32)), y25.2.2)).bind fun y31 =>
            some (y24.1, y31.2)
          else
            some (y24.1, (ak_up y25.2.1 73 24 ((y25.2.1 73 24) - (1 : Int32)), y25.2.2))
  else
    (md_opens y1.2).bind fun y32 =>
    if y32.1 = (0 : Int32) then
      some ((0 : Int32), y32.2)
    else
      (rc 5 y32.2).bind fun y34 =>
      some (-y34.1, (ak_up y34.2.1 73 24 ((y34.2.1 73 24) - (1 : Int32)), y34.2.2))
set_option maxRecDepth 20000 in
set_option maxHeartbeats 4000000 in
theorem cb_189 {Z : ak_Z} {d : Nat} (rc : Nat → mm_M → Option (Int32 × mm_M)) (hrc0 : ∀ (M : mm_M) (y : Int32 × mm_M), rc 0 M = some y → ∀ (Q : Option Value → ak_H → Prop), Q (some (.int y.1)) (mm_H y.2) → Ev Z (d + 3) 183 0 [some (.ref 73), none, none] [] (mm_H M) Q) (hrc1 : ∀ (M : mm_M) (y : Int32 × mm_M), rc 1 M = some y → ∀ (Q : Option Value → ak_H → Prop), Q (some (.int y.1)) (mm_H y.2) → Ev Z (d + 3) 184 0 [some (.ref 73), none, none] [] (mm_H M) Q) (hrc2 : ∀ (M : mm_M) (y : Int32 × mm_M), rc 2 M = some y → ∀ (Q : Option Value → ak_H → Prop), Q (some (.int y.1)) (mm_H y.2) → Ev Z (d + 3) 185 0 [some (.ref 73), none, none, none] [] (mm_H M) Q) (hrc3 : ∀ (M : mm_M) (y : Int32 × mm_M), rc 3 M = some y → ∀ (Q : Option Value → ak_H → Prop), Q (some (.int y.1)) (mm_H y.2) → Ev Z (d + 3) 187 0 [some (.ref 73), none, none, none] [] (mm_H M) Q) (hrc4 : ∀ (M : mm_M) (y : Int32 × mm_M), rc 4 M = some y → ∀ (Q : Option Value → ak_H → Prop), Q (some (.int y.1)) (mm_H y.2) → Ev Z (d + 3) 188 0 [some (.ref 73), none] [] (mm_H M) Q) (hrc5 : ∀ (M : mm_M) (y : Int32 × mm_M), rc 5 M = some y → ∀ (Q : Option Value → ak_H → Prop), Q (some (.int y.1)) (mm_H y.2) → Ev Z (d + 3) 189 0 [some (.ref 73), none] [] (mm_H M) Q) (M : mm_M) {y : Int32 × mm_M} (hf : md_atom_b rc M = some y) {Q : Option Value → ak_H → Prop} (hq : Q (some (.int y.1)) (mm_H y.2)) : Ev Z (d + 4) 189 0 [some (.ref 73), none] [] (mm_H M) Q := by
  rw [md_atom_b] at hf
  refine e_iconst hm_189 rfl kc_iconst_0 ?_
  refine e_istore_n (L2 := [some (.ref 73), some (.int (0 : Int32))]) hm_189 rfl rfl ?_
  refine e_aload_n hm_189 rfl rfl ?_
  refine e_bipush hm_189 rfl kc_bipush_45 ?_
  obtain ⟨y1, hky1, hf⟩ := mm_bd hf
  refine e_virt hm_189 rfl rfl rfl rfl (Nat.le_of_ble_eq_true rfl) hm_190 rfl rfl (c_190 (45 : Int32) M hky1 ?_)
  show Ev Z _ 189 8 [some (.ref 73), some (.int (0 : Int32))] [.int y1.1] (mm_H y1.2) Q
  by_cases hc2 : y1.1 = (0 : Int32)
  · rw [if_pos hc2] at hf
    refine e_if_t (t := 37) hm_189 rfl (ct_eq hc2) rfl ?_
    refine e_aload_n hm_189 rfl rfl ?_
    refine e_bipush hm_189 rfl kc_bipush_40 ?_
    obtain ⟨y3, hky3, hf⟩ := mm_bd hf
    refine e_virt hm_189 rfl rfl rfl rfl (Nat.le_of_ble_eq_true rfl) hm_190 rfl rfl (c_190 (40 : Int32) y1.2 hky3 ?_)
    show Ev Z _ 189 43 [some (.ref 73), some (.int (0 : Int32))] [.int y3.1] (mm_H y3.2) Q
    by_cases hc4 : y3.1 = (0 : Int32)
    · rw [if_pos hc4] at hf
      refine e_if_t (t := 95) hm_189 rfl (ct_eq hc4) rfl ?_
      refine e_aload_n hm_189 rfl rfl ?_
      refine e_getZ hm_189 rfl rfl rfl ?_
      by_cases hc5 : (y3.2.1 73 25) = (0 : Int32)
      · rw [if_pos hc5] at hf
        refine e_if_f hm_189 rfl (cf_ne hc5) ?_
        refine e_aload_n hm_189 rfl rfl ?_
        refine e_getI hm_189 rfl rfl rfl ?_
        refine e_iconst hm_189 rfl kc_iconst_2 ?_
        by_cases hc6 : (y3.2.1 73 21) = (2 : Int32)
        · rw [if_pos hc6] at hf
          refine e_ic_f hm_189 rfl (cf_ne hc6) ?_
          refine e_aload_n hm_189 rfl rfl ?_
          refine e_getJ hm_189 rfl ?_
          refine e_l2i hm_189 rfl ?_
          refine e_istore_n (L2 := [some (.ref 73), some (.int y3.2.2.2.toInt32)]) hm_189 rfl rfl ?_
          refine e_aload_n hm_189 rfl rfl ?_
          obtain ⟨y7, hky7, hf⟩ := mm_bd hf
          refine e_virt hm_189 rfl rfl rfl rfl (Nat.le_of_ble_eq_true rfl) hm_177 rfl rfl (c_177 y3.2 hky7 ?_)
          show Ev Z _ 189 120 [some (.ref 73), some (.int y3.2.2.2.toInt32)] [] (mm_H y7.2) Q
          refine e_goto (t := 161) hm_189 rfl rfl ?_
          refine e_iload_n hm_189 rfl rfl ?_
          obtain rfl := Option.some.inj hf
          exact e_iret hm_189 rfl rfl hq
        · rw [if_neg hc6] at hf
          refine e_ic_t (t := 123) hm_189 rfl (ct_ne hc6) rfl ?_
          refine e_aload_n hm_189 rfl rfl ?_
          refine e_getZ hm_189 rfl rfl rfl ?_
          by_cases hc8 : (y3.2.1 73 25) = (0 : Int32)
          · rw [if_pos hc8] at hf
            refine e_if_f hm_189 rfl (cf_ne hc8) ?_
            refine e_aload_n hm_189 rfl rfl ?_
            refine e_getI hm_189 rfl rfl rfl ?_
            refine e_iconst hm_189 rfl kc_iconst_1 ?_
            by_cases hc9 : (y3.2.1 73 21) = (1 : Int32)
            · rw [if_pos hc9] at hf
              refine e_ic_f hm_189 rfl (cf_ne hc9) ?_
              refine e_aload_n hm_189 rfl rfl ?_
              obtain ⟨y10, hky10, hf⟩ := mm_bd hf
              refine e_virt hm_189 rfl rfl rfl rfl (Nat.le_of_ble_eq_true rfl) hm_191 rfl rfl (c_191 y3.2 hky10 ?_)
              show Ev Z _ 189 142 [some (.ref 73), some (.int (0 : Int32))] [.int y10.1] (mm_H y10.2) Q
              refine e_istore_n (L2 := [some (.ref 73), some (.int y10.1)]) hm_189 rfl rfl ?_
              refine e_aload_n hm_189 rfl rfl ?_
              refine e_getZ hm_189 rfl rfl rfl ?_
              by_cases hc11 : (y10.2.1 73 25) = (0 : Int32)
              · rw [if_pos hc11] at hf
                refine e_if_f hm_189 rfl (cf_ne hc11) ?_
                refine e_aload_n hm_189 rfl rfl ?_
                obtain ⟨y12, hky12, hf⟩ := mm_bd hf
                refine e_virt hm_189 rfl rfl rfl rfl (Nat.le_of_ble_eq_true rfl) hm_177 rfl rfl (c_177 y10.2 hky12 ?_)
                show Ev Z _ 189 154 [some (.ref 73), some (.int y10.1)] [] (mm_H y12.2) Q
                refine e_goto (t := 161) hm_189 rfl rfl ?_
                refine e_iload_n hm_189 rfl rfl ?_
                obtain rfl := Option.some.inj hf
                exact e_iret hm_189 rfl rfl hq
              · rw [if_neg hc11] at hf
                refine e_if_t (t := 161) hm_189 rfl (ct_ne hc11) rfl ?_
                refine e_iload_n hm_189 rfl rfl ?_
                obtain rfl := Option.some.inj hf
                exact e_iret hm_189 rfl rfl hq
            · rw [if_neg hc9] at hf
              refine e_ic_t (t := 157) hm_189 rfl (ct_ne hc9) rfl ?_
              refine e_aload_n hm_189 rfl rfl ?_
              obtain ⟨y13, hky13, hf⟩ := mm_bd hf
              refine e_virt hm_189 rfl rfl rfl rfl (Nat.le_of_ble_eq_true rfl) hm_182 rfl rfl (c_182 y3.2 hky13 ?_)
              show Ev Z _ 189 161 [some (.ref 73), some (.int (0 : Int32))] [] (mm_H y13.2) Q
              refine e_iload_n hm_189 rfl rfl ?_
              obtain rfl := Option.some.inj hf
              exact e_iret hm_189 rfl rfl hq
          · rw [if_neg hc8] at hf
            refine e_if_t (t := 157) hm_189 rfl (ct_ne hc8) rfl ?_
            refine e_aload_n hm_189 rfl rfl ?_
            obtain ⟨y14, hky14, hf⟩ := mm_bd hf
            refine e_virt hm_189 rfl rfl rfl rfl (Nat.le_of_ble_eq_true rfl) hm_182 rfl rfl (c_182 y3.2 hky14 ?_)
            show Ev Z _ 189 161 [some (.ref 73), some (.int (0 : Int32))] [] (mm_H y14.2) Q
            refine e_iload_n hm_189 rfl rfl ?_
            obtain rfl := Option.some.inj hf
            exact e_iret hm_189 rfl rfl hq
      · rw [if_neg hc5] at hf
        refine e_if_t (t := 123) hm_189 rfl (ct_ne hc5) rfl ?_
        refine e_aload_n hm_189 rfl rfl ?_
        refine e_getZ hm_189 rfl rfl rfl ?_
        by_cases hc15 : (y3.2.1 73 25) = (0 : Int32)
        · rw [if_pos hc15] at hf
          refine e_if_f hm_189 rfl (cf_ne hc15) ?_
          refine e_aload_n hm_189 rfl rfl ?_
          refine e_getI hm_189 rfl rfl rfl ?_
          refine e_iconst hm_189 rfl kc_iconst_1 ?_
          by_cases hc16 : (y3.2.1 73 21) = (1 : Int32)
          · rw [if_pos hc16] at hf
            refine e_ic_f hm_189 rfl (cf_ne hc16) ?_
            refine e_aload_n hm_189 rfl rfl ?_
            obtain ⟨y17, hky17, hf⟩ := mm_bd hf
            refine e_virt hm_189 rfl rfl rfl rfl (Nat.le_of_ble_eq_true rfl) hm_191 rfl rfl (c_191 y3.2 hky17 ?_)
            show Ev Z _ 189 142 [some (.ref 73), some (.int (0 : Int32))] [.int y17.1] (mm_H y17.2) Q
            refine e_istore_n (L2 := [some (.ref 73), some (.int y17.1)]) hm_189 rfl rfl ?_
            refine e_aload_n hm_189 rfl rfl ?_
            refine e_getZ hm_189 rfl rfl rfl ?_
            by_cases hc18 : (y17.2.1 73 25) = (0 : Int32)
            · rw [if_pos hc18] at hf
              refine e_if_f hm_189 rfl (cf_ne hc18) ?_
              refine e_aload_n hm_189 rfl rfl ?_
              obtain ⟨y19, hky19, hf⟩ := mm_bd hf
              refine e_virt hm_189 rfl rfl rfl rfl (Nat.le_of_ble_eq_true rfl) hm_177 rfl rfl (c_177 y17.2 hky19 ?_)
              show Ev Z _ 189 154 [some (.ref 73), some (.int y17.1)] [] (mm_H y19.2) Q
              refine e_goto (t := 161) hm_189 rfl rfl ?_
              refine e_iload_n hm_189 rfl rfl ?_
              obtain rfl := Option.some.inj hf
              exact e_iret hm_189 rfl rfl hq
            · rw [if_neg hc18] at hf
              refine e_if_t (t := 161) hm_189 rfl (ct_ne hc18) rfl ?_
              refine e_iload_n hm_189 rfl rfl ?_
              obtain rfl := Option.some.inj hf
              exact e_iret hm_189 rfl rfl hq
          · rw [if_neg hc16] at hf
            refine e_ic_t (t := 157) hm_189 rfl (ct_ne hc16) rfl ?_
            refine e_aload_n hm_189 rfl rfl ?_
            obtain ⟨y20, hky20, hf⟩ := mm_bd hf
            refine e_virt hm_189 rfl rfl rfl rfl (Nat.le_of_ble_eq_true rfl) hm_182 rfl rfl (c_182 y3.2 hky20 ?_)
            show Ev Z _ 189 161 [some (.ref 73), some (.int (0 : Int32))] [] (mm_H y20.2) Q
            refine e_iload_n hm_189 rfl rfl ?_
            obtain rfl := Option.some.inj hf
            exact e_iret hm_189 rfl rfl hq
        · rw [if_neg hc15] at hf
          refine e_if_t (t := 157) hm_189 rfl (ct_ne hc15) rfl ?_
          refine e_aload_n hm_189 rfl rfl ?_
          obtain ⟨y21, hky21, hf⟩ := mm_bd hf
          refine e_virt hm_189 rfl rfl rfl rfl (Nat.le_of_ble_eq_true rfl) hm_182 rfl rfl (c_182 y3.2 hky21 ?_)
          show Ev Z _ 189 161 [some (.ref 73), some (.int (0 : Int32))] [] (mm_H y21.2) Q
          refine e_iload_n hm_189 rfl rfl ?_
          obtain rfl := Option.some.inj hf
          exact e_iret hm_189 rfl rfl hq
    · rw [if_neg hc4] at hf
      refine e_if_f hm_189 rfl (cf_eq hc4) ?_
      refine e_aload_n hm_189 rfl rfl ?_
      obtain ⟨y22, hky22, hf⟩ := mm_bd hf
      refine e_virt hm_189 rfl rfl rfl rfl (Nat.le_of_ble_eq_true rfl) hm_186 rfl rfl (c_186 y3.2 hky22 ?_)
      show Ev Z _ 189 50 [some (.ref 73), some (.int (0 : Int32))] [.int y22.1] (mm_H y22.2) Q
      by_cases hc23 : y22.1 = (0 : Int32)
      · rw [if_pos hc23] at hf
        refine e_if_t (t := 161) hm_189 rfl (ct_eq hc23) rfl ?_
        refine e_iload_n hm_189 rfl rfl ?_
        obtain rfl := Option.some.inj hf
        exact e_iret hm_189 rfl rfl hq
      · rw [if_neg hc23] at hf
        refine e_if_f hm_189 rfl (cf_eq hc23) ?_
        refine e_aload_n hm_189 rfl rfl ?_
        obtain ⟨y24, hky24, hf⟩ := mm_bd hf
        refine e_virt hm_189 rfl rfl rfl rfl (Nat.le_of_ble_eq_true rfl) hm_183 rfl rfl (hrc0 _ _ hky24 _ ?_)
        show Ev Z _ 189 57 [some (.ref 73), some (.int (0 : Int32))] [.int y24.1] (mm_H y24.2) Q
        refine e_istore_n (L2 := [some (.ref 73), some (.int y24.1)]) hm_189 rfl rfl ?_
        refine e_aload_n hm_189 rfl rfl ?_
        refine e_bipush hm_189 rfl kc_bipush_41 ?_
        obtain ⟨y25, hky25, hf⟩ := mm_bd hf
        refine e_virt hm_189 rfl rfl rfl rfl (Nat.le_of_ble_eq_true rfl) hm_190 rfl rfl (c_190 (41 : Int32) y24.2 hky25 ?_)
        show Ev Z _ 189 64 [some (.ref 73), some (.int y24.1)] [.int y25.1] (mm_H y25.2) Q
        by_cases hc26 : y25.1 = (0 : Int32)
        · rw [if_pos hc26] at hf
          refine e_if_f hm_189 rfl (cf_ne hc26) ?_
          refine e_aload_n hm_189 rfl rfl ?_
          obtain ⟨y27, hky27, hf⟩ := mm_bd hf
          refine e_virt hm_189 rfl rfl rfl rfl (Nat.le_of_ble_eq_true rfl) hm_182 rfl rfl (c_182 y25.2 hky27 ?_)
          show Ev Z _ 189 71 [some (.ref 73), some (.int y24.1)] [] (mm_H y27.2) Q
          refine e_aload_n hm_189 rfl rfl ?_
          refine e_dupa hm_189 rfl ?_
          refine e_getI hm_189 rfl rfl rfl ?_
          refine e_iconst hm_189 rfl kc_iconst_1 ?_
          refine e_isub hm_189 rfl ?_
          refine e_putI hm_189 rfl rfl rfl ?_
          refine e_aload_n hm_189 rfl rfl ?_
          refine e_getZ hm_189 rfl rfl rfl ?_
          by_cases hc28 : ((ak_up y27.2.1 73 24 ((y27.2.1 73 24) - (1 : Int32))) 73 25) = (0 : Int32)
          · rw [if_pos hc28] at hf
            refine e_if_f hm_189 rfl (cf_ne hc28) ?_
            refine e_aload_n hm_189 rfl rfl ?_
            obtain ⟨y29, hky29, hf⟩ := mm_bd hf
            refine e_virt hm_189 rfl rfl rfl rfl (Nat.le_of_ble_eq_true rfl) hm_177 rfl rfl (c_177 (ak_up y27.2.1 73 24 ((y27.2.1 73 24) - (1 : Int32)), y27.2.2) hky29 ?_)
            show Ev Z _ 189 92 [some (.ref 73), some (.int y24.1)] [] (mm_H y29.2) Q
            refine e_goto (t := 161) hm_189 rfl rfl ?_
            refine e_iload_n hm_189 rfl rfl ?_
            obtain rfl := Option.some.inj hf
            exact e_iret hm_189 rfl rfl hq
          · rw [if_neg hc28] at hf
            refine e_if_t (t := 161) hm_189 rfl (ct_ne hc28) rfl ?_
            refine e_iload_n hm_189 rfl rfl ?_
            obtain rfl := Option.some.inj hf
            exact e_iret hm_189 rfl rfl hq
        · rw [if_neg hc26] at hf
          refine e_if_t (t := 71) hm_189 rfl (ct_ne hc26) rfl ?_
          refine e_aload_n hm_189 rfl rfl ?_
          refine e_dupa hm_189 rfl ?_
          refine e_getI hm_189 rfl rfl rfl ?_
          refine e_iconst hm_189 rfl kc_iconst_1 ?_
          refine e_isub hm_189 rfl ?_
          refine e_putI hm_189 rfl rfl rfl ?_
          refine e_aload_n hm_189 rfl rfl ?_
          refine e_getZ hm_189 rfl rfl rfl ?_
          by_cases hc30 : ((ak_up y25.2.1 73 24 ((y25.2.1 73 24) - (1 : Int32))) 73 25) = (0 : Int32)
          · rw [if_pos hc30] at hf
            refine e_if_f hm_189 rfl (cf_ne hc30) ?_
            refine e_aload_n hm_189 rfl rfl ?_
            obtain ⟨y31, hky31, hf⟩ := mm_bd hf
            refine e_virt hm_189 rfl rfl rfl rfl (Nat.le_of_ble_eq_true rfl) hm_177 rfl rfl (c_177 (ak_up y25.2.1 73 24 ((y25.2.1 73 24) - (1 : Int32)), y25.2.2) hky31 ?_)
            show Ev Z _ 189 92 [some (.ref 73), some (.int y24.1)] [] (mm_H y31.2) Q
            refine e_goto (t := 161) hm_189 rfl rfl ?_
            refine e_iload_n hm_189 rfl rfl ?_
            obtain rfl := Option.some.inj hf
            exact e_iret hm_189 rfl rfl hq
          · rw [if_neg hc30] at hf
            refine e_if_t (t := 161) hm_189 rfl (ct_ne hc30) rfl ?_
            refine e_iload_n hm_189 rfl rfl ?_
            obtain rfl := Option.some.inj hf
            exact e_iret hm_189 rfl rfl hq
  · rw [if_neg hc2] at hf
    refine e_if_f hm_189 rfl (cf_eq hc2) ?_
    refine e_aload_n hm_189 rfl rfl ?_
    obtain ⟨y32, hky32, hf⟩ := mm_bd hf
    refine e_virt hm_189 rfl rfl rfl rfl (Nat.le_of_ble_eq_true rfl) hm_186 rfl rfl (c_186 y1.2 hky32 ?_)
    show Ev Z _ 189 15 [some (.ref 73), some (.int (0 : Int32))] [.int y32.1] (mm_H y32.2) Q
    by_cases hc33 : y32.1 = (0 : Int32)
    · rw [if_pos hc33] at hf
      refine e_if_t (t := 161) hm_189 rfl (ct_eq hc33) rfl ?_
      refine e_iload_n hm_189 rfl rfl ?_
      obtain rfl := Option.some.inj hf
      exact e_iret hm_189 rfl rfl hq
    · rw [if_neg hc33] at hf
      refine e_if_f hm_189 rfl (cf_eq hc33) ?_
      refine e_aload_n hm_189 rfl rfl ?_
      obtain ⟨y34, hky34, hf⟩ := mm_bd hf
      refine e_virt hm_189 rfl rfl rfl rfl (Nat.le_of_ble_eq_true rfl) hm_189 rfl rfl (hrc5 _ _ hky34 _ ?_)
      show Ev Z _ 189 22 [some (.ref 73), some (.int (0 : Int32))] [.int y34.1] (mm_H y34.2) Q
      refine e_ineg hm_189 rfl ?_
      refine e_istore_n (L2 := [some (.ref 73), some (.int (-y34.1))]) hm_189 rfl rfl ?_
      refine e_aload_n hm_189 rfl rfl ?_
      refine e_dupa hm_189 rfl ?_
      refine e_getI hm_189 rfl rfl rfl ?_
      refine e_iconst hm_189 rfl kc_iconst_1 ?_
      refine e_isub hm_189 rfl ?_
      refine e_putI hm_189 rfl rfl rfl ?_
      refine e_goto (t := 161) hm_189 rfl rfl ?_
      refine e_iload_n hm_189 rfl rfl ?_
      obtain rfl := Option.some.inj hf
      exact e_iret hm_189 rfl rfl hq
def md_rd : Nat → Nat → mm_M → Option (Int32 × mm_M)
  | 0, _, _ => none
  | k + 1, s, M => if s = 0 then md_either_b (fun s m => md_rd k s m) M else if s = 1 then md_both_b (fun s m => md_rd k s m) M else if s = 2 then md_not_b (fun s m => md_rd k s m) M else if s = 3 then md_added_b (fun s m => md_rd k s m) M else if s = 4 then md_term_b (fun s m => md_rd k s m) M else if s = 5 then md_atom_b (fun s m => md_rd k s m) M else none
set_option maxHeartbeats 4000000 in
theorem g_md_rd {Z : ak_Z} {d : Nat} : ∀ (k : Nat), (∀ (M : mm_M) (y : Int32 × mm_M), md_rd k 0 M = some y → ∀ (Q : Option Value → ak_H → Prop), Q (some (.int y.1)) (mm_H y.2) → Ev Z (d + k + 3) 183 0 [some (.ref 73), none, none] [] (mm_H M) Q) ∧ (∀ (M : mm_M) (y : Int32 × mm_M), md_rd k 1 M = some y → ∀ (Q : Option Value → ak_H → Prop), Q (some (.int y.1)) (mm_H y.2) → Ev Z (d + k + 3) 184 0 [some (.ref 73), none, none] [] (mm_H M) Q) ∧ (∀ (M : mm_M) (y : Int32 × mm_M), md_rd k 2 M = some y → ∀ (Q : Option Value → ak_H → Prop), Q (some (.int y.1)) (mm_H y.2) → Ev Z (d + k + 3) 185 0 [some (.ref 73), none, none, none] [] (mm_H M) Q) ∧ (∀ (M : mm_M) (y : Int32 × mm_M), md_rd k 3 M = some y → ∀ (Q : Option Value → ak_H → Prop), Q (some (.int y.1)) (mm_H y.2) → Ev Z (d + k + 3) 187 0 [some (.ref 73), none, none, none] [] (mm_H M) Q) ∧ (∀ (M : mm_M) (y : Int32 × mm_M), md_rd k 4 M = some y → ∀ (Q : Option Value → ak_H → Prop), Q (some (.int y.1)) (mm_H y.2) → Ev Z (d + k + 3) 188 0 [some (.ref 73), none] [] (mm_H M) Q) ∧ (∀ (M : mm_M) (y : Int32 × mm_M), md_rd k 5 M = some y → ∀ (Q : Option Value → ak_H → Prop), Q (some (.int y.1)) (mm_H y.2) → Ev Z (d + k + 3) 189 0 [some (.ref 73), none] [] (mm_H M) Q) := by
  intro k
  induction k with
  | zero => exact ⟨fun M y h => by simp [md_rd] at h, fun M y h => by simp [md_rd] at h, fun M y h => by simp [md_rd] at h, fun M y h => by simp [md_rd] at h, fun M y h => by simp [md_rd] at h, fun M y h => by simp [md_rd] at h⟩
  | succ k ih =>
    obtain ⟨i0, i1, i2, i3, i4, i5⟩ := ih
    have e : d + (k + 1) + 3 = (d + k) + 4 := by omega
    rw [e]
    exact ⟨fun M y h Q hq => cb_183 (d := d + k) (fun s m => md_rd k s m) i0 i1 i2 i3 i4 i5 M (by rw [md_rd] at h; exact h) hq, fun M y h Q hq => cb_184 (d := d + k) (fun s m => md_rd k s m) i0 i1 i2 i3 i4 i5 M (by rw [md_rd] at h; exact h) hq, fun M y h Q hq => cb_185 (d := d + k) (fun s m => md_rd k s m) i0 i1 i2 i3 i4 i5 M (by rw [md_rd] at h; exact h) hq, fun M y h Q hq => cb_187 (d := d + k) (fun s m => md_rd k s m) i0 i1 i2 i3 i4 i5 M (by rw [md_rd] at h; exact h) hq, fun M y h Q hq => cb_188 (d := d + k) (fun s m => md_rd k s m) i0 i1 i2 i3 i4 i5 M (by rw [md_rd] at h; exact h) hq, fun M y h Q hq => cb_189 (d := d + k) (fun s m => md_rd k s m) i0 i1 i2 i3 i4 i5 M (by rw [md_rd] at h; exact h) hq⟩
def md_either (M : mm_M) : Option (Int32 × mm_M) := md_rd 60 0 M
theorem c_183 {Z : ak_Z} {d : Nat} (M : mm_M) {y : Int32 × mm_M} (hf : md_either M = some y) {Q : Option Value → ak_H → Prop} (hq : Q (some (.int y.1)) (mm_H y.2)) : Ev Z (d + 63) 183 0 [some (.ref 73), none, none] [] (mm_H M) Q := by
  have e : d + 63 = d + 60 + 3 := by omega
  rw [e]
  exact (g_md_rd 60).1 M y hf Q hq
def md_both (M : mm_M) : Option (Int32 × mm_M) := md_rd 60 1 M
theorem c_184 {Z : ak_Z} {d : Nat} (M : mm_M) {y : Int32 × mm_M} (hf : md_both M = some y) {Q : Option Value → ak_H → Prop} (hq : Q (some (.int y.1)) (mm_H y.2)) : Ev Z (d + 63) 184 0 [some (.ref 73), none, none] [] (mm_H M) Q := by
  have e : d + 63 = d + 60 + 3 := by omega
  rw [e]
  exact (g_md_rd 60).2.1 M y hf Q hq
def md_not (M : mm_M) : Option (Int32 × mm_M) := md_rd 60 2 M
theorem c_185 {Z : ak_Z} {d : Nat} (M : mm_M) {y : Int32 × mm_M} (hf : md_not M = some y) {Q : Option Value → ak_H → Prop} (hq : Q (some (.int y.1)) (mm_H y.2)) : Ev Z (d + 63) 185 0 [some (.ref 73), none, none, none] [] (mm_H M) Q := by
  have e : d + 63 = d + 60 + 3 := by omega
  rw [e]
  exact (g_md_rd 60).2.2.1 M y hf Q hq
def md_added (M : mm_M) : Option (Int32 × mm_M) := md_rd 60 3 M
theorem c_187 {Z : ak_Z} {d : Nat} (M : mm_M) {y : Int32 × mm_M} (hf : md_added M = some y) {Q : Option Value → ak_H → Prop} (hq : Q (some (.int y.1)) (mm_H y.2)) : Ev Z (d + 63) 187 0 [some (.ref 73), none, none, none] [] (mm_H M) Q := by
  have e : d + 63 = d + 60 + 3 := by omega
  rw [e]
  exact (g_md_rd 60).2.2.2.1 M y hf Q hq
def md_term (M : mm_M) : Option (Int32 × mm_M) := md_rd 60 4 M
theorem c_188 {Z : ak_Z} {d : Nat} (M : mm_M) {y : Int32 × mm_M} (hf : md_term M = some y) {Q : Option Value → ak_H → Prop} (hq : Q (some (.int y.1)) (mm_H y.2)) : Ev Z (d + 63) 188 0 [some (.ref 73), none] [] (mm_H M) Q := by
  have e : d + 63 = d + 60 + 3 := by omega
  rw [e]
  exact (g_md_rd 60).2.2.2.2.1 M y hf Q hq
def md_atom (M : mm_M) : Option (Int32 × mm_M) := md_rd 60 5 M
theorem c_189 {Z : ak_Z} {d : Nat} (M : mm_M) {y : Int32 × mm_M} (hf : md_atom M = some y) {Q : Option Value → ak_H → Prop} (hq : Q (some (.int y.1)) (mm_H y.2)) : Ev Z (d + 63) 189 0 [some (.ref 73), none] [] (mm_H M) Q := by
  have e : d + 63 = d + 60 + 3 := by omega
  rw [e]
  exact (g_md_rd 60).2.2.2.2.2 M y hf Q hq
def md_part (a1 : Int32) (M : mm_M) : Option (Int32 × mm_M) :=
  if a1 = (0 : Int32) then
    (md_fail M).bind fun y2 =>
    if (y2.2.1 73 25) = (0 : Int32) then
      (md_next y2.2).bind fun y4 =>
      if (y4.2.1 73 25) = (0 : Int32) then
        (md_either y4.2).bind fun y6 =>
        (md_isSign (59 : Int32) y6.2).bind fun y7 =>
        if y7.1 = (0 : Int32) then
          (md_fail y7.2).bind fun y9 =>
          if (y9.2.1 73 25) = (0 : Int32) then
            (md_next y9.2).bind fun y11 =>
            some (y6.1, y11.2)
          else
            some (y6.1, y9.2)
        else
          if (y7.2.1 73 25) = (0 : Int32) then
            (md_next y7.2).bind fun y13 =>
            some (y6.1, y13.2)
          else
            some (y6.1, y7.2)
      else
        (md_isSign (59 : Int32) y4.2).bind fun y14 =>
        if y14.1 = (0 : Int32) then
          (md_fail y14.2).bind fun y16 =>
          if (y16.2.1 73 25) = (0 : Int32) then
            (md_next y16.2).bind fun y18 =>
            some ((0 : Int32), y18.2)
          else
            some ((0 : Int32), y16.2)
        else
          if (y14.2.1 73 25) = (0 : Int32) then
            (md_next y14.2).bind fun y20 =>
            some ((0 : Int32), y20.2)
          else
            some ((0 : Int32), y14.2)
    else
      if (y2.2.1 73 25) = (0 : Int32) then
        (md_either y2.2).bind fun y22 =>
        (md_isSign (59 : Int32) y22.2).bind fun y23 =>
        if y23.1 = (0 : Int32) then
          (md_fail y23.2).bind fun y25 =>
          if (y25.2.1 73 25) = (0 : Int32) then
            (md_next y25.2).bind fun y27 =>
            some (y22.1, y27.2)
          else
            some (y22.1, y25.2)
        else
          if (y23.2.1 73 25) = (0 : Int32) then
            (md_next y23.2).bind fun y29 =>
            some (y22.1, y29.2)
          else
            some (y22.1, y23.2)
      else
        (md_isSign (59 : Int32) y2.2).bind fun y30 =>
        if y30.1 = (0 : Int32) then
          (md_fail y30.2).bind fun y32 =>
          if (y32.2.1 73 25) = (0 : Int32) then
            (md_next y32.2).bind fun y34 =>
            some ((0 : Int32), y34.2)
          else
            some ((0 : Int32), y32.2)
        else
          if (y30.2.1 73 25) = (0 : Int32) then
            (md_next y30.2).bind fun y36 =>
            some ((0 : Int32), y36.2)
          else
            some ((0 : Int32), y30.2)
  else
    if (M.1 73 25) = (0 : Int32) then
      (md_next M).bind fun y38 =>
      if (y38.2.1 73 25) = (0 : Int32) then
        (md_either y38.2).bind fun y40 =>
        (md_isSign (59 : Int32) y40.2).bind fun y41 =>
        if y41.1 = (0 : Int32) then
          (md_fail y41.2).bind fun y43 =>
          if (y43.2.1 73 25) = (0 : Int32) then
            (md_next y43.2).bind fun y45 =>
            some (y40.1, y45.2)
          else
            some (y40.1, y43.2)
        else
          if (y41.2.1 73 25) = (0 : Int32) then
            (md_next y41.2).bind fun y47 =>
            some (y40.1, y47.2)
          else
            some (y40.1, y41.2)
      else
        (md_isSign (59 : Int32) y38.2).bind fun y48 =>
        if y48.1 = (0 : Int32) then
          (md_fail y48.2).bind fun y50 =>
          if (y50.2.1 73 25) = (0 : Int32) then
            (md_next y50.2).bind fun y52 =>
            some ((0 : Int32), y52.2)
          else
            some ((0 : Int32), y50.2)
        else
          if (y48.2.1 73 25) = (0 : Int32) then
            (md_next y48.2).bind fun y54 =>
            some ((0 : Int32), y54.2)
          else
            some ((0 : Int32), y48.2)
    else
      if (M.1 73 25) = (0 : Int32) then
        (md_either M).bind fun y56 =>
        (md_isSign (59 : Int32) y56.2).bind fun y57 =>
        if y57.1 = (0 : Int32) then
          (md_fail y57.2).bind fun y59 =>
          if (y59.2.1 73 25) = (0 : Int32) then
            (md_next y59.2).bind fun y61 =>
            some (y56.1, y61.2)
          else
            some (y56.1, y59.2)
        else
          if (y57.2.1 73 25) = (0 : Int32) then
            (md_next y57.2).bind fun y63 =>
            some (y56.1, y63.2)
          else
            some (y56.1, y57.2)
      else
        (md_isSign (59 : Int32) M).bind fun y64 =>
        if y64.1 = (0 : Int32) then
          (md_fail y64.2).bind fun y66 =>
          if (y66.2.1 73 25) = (0 : Int32) then
            (md_next y66.2).bind fun y68 =>
            some ((0 : Int32), y68.2)
          else
            some ((0 : Int32), y66.2)
        else
          if (y64.2.1 73 25) = (0 : Int32) then
            (md_next y64.2).bind fun y70 =>
            some ((0 : Int32), y70.2)
          else
            some ((0 : Int32), y64.2)
set_option maxRecDepth 20000 in
set_option maxHeartbeats 4000000 in
theorem c_181 {Z : ak_Z} {d : Nat} (a1 : Int32) (M : mm_M) {y : Int32 × mm_M} (hf : md_part a1 M = some y) {Q : Option Value → ak_H → Prop} (hq : Q (some (.int y.1)) (mm_H y.2)) : Ev Z (d + 64) 181 0 [some (.ref 73), some (.int a1), none] [] (mm_H M) Q := by
  rw [md_part] at hf
  refine e_iload_n hm_181 rfl rfl ?_
  by_cases hc1 : a1 = (0 : Int32)
  · rw [if_pos hc1] at hf
    refine e_if_f hm_181 rfl (cf_ne hc1) ?_
    refine e_aload_n hm_181 rfl rfl ?_
    obtain ⟨y2, hky2, hf⟩ := mm_bd hf
    refine e_virt hm_181 rfl rfl rfl rfl (Nat.le_of_ble_eq_true rfl) hm_182 rfl rfl (c_182 M hky2 ?_)
    show Ev Z _ 181 8 [some (.ref 73), some (.int a1), none] [] (mm_H y2.2) Q
    refine e_aload_n hm_181 rfl rfl ?_
    refine e_getZ hm_181 rfl rfl rfl ?_
    by_cases hc3 : (y2.2.1 73 25) = (0 : Int32)
    · rw [if_pos hc3] at hf
      refine e_if_f hm_181 rfl (cf_ne hc3) ?_
      refine e_aload_n hm_181 rfl rfl ?_
      obtain ⟨y4, hky4, hf⟩ := mm_bd hf
      refine e_virt hm_181 rfl rfl rfl rfl (Nat.le_of_ble_eq_true rfl) hm_177 rfl rfl (c_177 y2.2 hky4 ?_)
      show Ev Z _ 181 19 [some (.ref 73), some (.int a1), none] [] (mm_H y4.2) Q
      refine e_aload_n hm_181 rfl rfl ?_
      refine e_getZ hm_181 rfl rfl rfl ?_
      by_cases hc5 : (y4.2.1 73 25) = (0 : Int32)
      · rw [if_pos hc5] at hf
        refine e_if_t (t := 30) hm_181 rfl (ct_eq hc5) rfl ?_
        refine e_aload_n hm_181 rfl rfl ?_
        obtain ⟨y6, hky6, hf⟩ := mm_bd hf
        refine e_virt hm_181 rfl rfl rfl rfl (Nat.le_of_ble_eq_true rfl) hm_183 rfl rfl (c_183 y4.2 hky6 ?_)
        show Ev Z _ 181 34 [some (.ref 73), some (.int a1), none] [.int y6.1] (mm_H y6.2) Q
        refine e_istore_n (L2 := [some (.ref 73), some (.int a1), some (.int y6.1)]) hm_181 rfl rfl ?_
        refine e_aload_n hm_181 rfl rfl ?_
        refine e_bipush hm_181 rfl kc_bipush_59 ?_
        obtain ⟨y7, hky7, hf⟩ := mm_bd hf
        refine e_virt hm_181 rfl rfl rfl rfl (Nat.le_of_ble_eq_true rfl) hm_190 rfl rfl (c_190 (59 : Int32) y6.2 hky7 ?_)
        show Ev Z _ 181 41 [some (.ref 73), some (.int a1), some (.int y6.1)] [.int y7.1] (mm_H y7.2) Q
        by_cases hc8 : y7.1 = (0 : Int32)
        · rw [if_pos hc8] at hf
          refine e_if_f hm_181 rfl (cf_ne hc8) ?_
          refine e_aload_n hm_181 rfl rfl ?_
          obtain ⟨y9, hky9, hf⟩ := mm_bd hf
          refine e_virt hm_181 rfl rfl rfl rfl (Nat.le_of_ble_eq_true rfl) hm_182 rfl rfl (c_182 y7.2 hky9 ?_)
          show Ev Z _ 181 48 [some (.ref 73), some (.int a1), some (.int y6.1)] [] (mm_H y9.2) Q
          refine e_aload_n hm_181 rfl rfl ?_
          refine e_getZ hm_181 rfl rfl rfl ?_
          by_cases hc10 : (y9.2.1 73 25) = (0 : Int32)
          · rw [if_pos hc10] at hf
            refine e_if_f hm_181 rfl (cf_ne hc10) ?_
            refine e_aload_n hm_181 rfl rfl ?_
            obtain ⟨y11, hky11, hf⟩ := mm_bd hf
            refine e_virt hm_181 rfl rfl rfl rfl (Nat.le_of_ble_eq_true rfl) hm_177 rfl rfl (c_177 y9.2 hky11 ?_)
            show Ev Z _ 181 59 [some (.ref 73), some (.int a1), some (.int y6.1)] [] (mm_H y11.2) Q
            refine e_iload_n hm_181 rfl rfl ?_
            obtain rfl := Option.some.inj hf
            exact e_iret hm_181 rfl rfl hq
          · rw [if_neg hc10] at hf
            refine e_if_t (t := 59) hm_181 rfl (ct_ne hc10) rfl ?_
            refine e_iload_n hm_181 rfl rfl ?_
            obtain rfl := Option.some.inj hf
            exact e_iret hm_181 rfl rfl hq
        · rw [if_neg hc8] at hf
          refine e_if_t (t := 48) hm_181 rfl (ct_ne hc8) rfl ?_
          refine e_aload_n hm_181 rfl rfl ?_
          refine e_getZ hm_181 rfl rfl rfl ?_
          by_cases hc12 : (y7.2.1 73 25) = (0 : Int32)
          · rw [if_pos hc12] at hf
            refine e_if_f hm_181 rfl (cf_ne hc12) ?_
            refine e_aload_n hm_181 rfl rfl ?_
            obtain ⟨y13, hky13, hf⟩ := mm_bd hf
            refine e_virt hm_181 rfl rfl rfl rfl (Nat.le_of_ble_eq_true rfl) hm_177 rfl rfl (c_177 y7.2 hky13 ?_)
            show Ev Z _ 181 59 [some (.ref 73), some (.int a1), some (.int y6.1)] [] (mm_H y13.2) Q
            refine e_iload_n hm_181 rfl rfl ?_
            obtain rfl := Option.some.inj hf
            exact e_iret hm_181 rfl rfl hq
          · rw [if_neg hc12] at hf
            refine e_if_t (t := 59) hm_181 rfl (ct_ne hc12) rfl ?_
            refine e_iload_n hm_181 rfl rfl ?_
            obtain rfl := Option.some.inj hf
            exact e_iret hm_181 rfl rfl hq
      · rw [if_neg hc5] at hf
        refine e_if_f hm_181 rfl (cf_eq hc5) ?_
        refine e_iconst hm_181 rfl kc_iconst_0 ?_
        refine e_goto (t := 34) hm_181 rfl rfl ?_
        refine e_istore_n (L2 := [some (.ref 73), some (.int a1), some (.int (0 : Int32))]) hm_181 rfl rfl ?_
        refine e_aload_n hm_181 rfl rfl ?_
        refine e_bipush hm_181 rfl kc_bipush_59 ?_
        obtain ⟨y14, hky14, hf⟩ := mm_bd hf
        refine e_virt hm_181 rfl rfl rfl rfl (Nat.le_of_ble_eq_true rfl) hm_190 rfl rfl (c_190 (59 : Int32) y4.2 hky14 ?_)
        show Ev Z _ 181 41 [some (.ref 73), some (.int a1), some (.int (0 : Int32))] [.int y14.1] (mm_H y14.2) Q
        by_cases hc15 : y14.1 = (0 : Int32)
        · rw [if_pos hc15] at hf
          refine e_if_f hm_181 rfl (cf_ne hc15) ?_
          refine e_aload_n hm_181 rfl rfl ?_
          obtain ⟨y16, hky16, hf⟩ := mm_bd hf
          refine e_virt hm_181 rfl rfl rfl rfl (Nat.le_of_ble_eq_true rfl) hm_182 rfl rfl (c_182 y14.2 hky16 ?_)
          show Ev Z _ 181 48 [some (.ref 73), some (.int a1), some (.int (0 : Int32))] [] (mm_H y16.2) Q
          refine e_aload_n hm_181 rfl rfl ?_
          refine e_getZ hm_181 rfl rfl rfl ?_
          by_cases hc17 : (y16.2.1 73 25) = (0 : Int32)
          · rw [if_pos hc17] at hf
            refine e_if_f hm_181 rfl (cf_ne hc17) ?_
            refine e_aload_n hm_181 rfl rfl ?_
            obtain ⟨y18, hky18, hf⟩ := mm_bd hf
            refine e_virt hm_181 rfl rfl rfl rfl (Nat.le_of_ble_eq_true rfl) hm_177 rfl rfl (c_177 y16.2 hky18 ?_)
            show Ev Z _ 181 59 [some (.ref 73), some (.int a1), some (.int (0 : Int32))] [] (mm_H y18.2) Q
            refine e_iload_n hm_181 rfl rfl ?_
            obtain rfl := Option.some.inj hf
            exact e_iret hm_181 rfl rfl hq
          · rw [if_neg hc17] at hf
            refine e_if_t (t := 59) hm_181 rfl (ct_ne hc17) rfl ?_
            refine e_iload_n hm_181 rfl rfl ?_
            obtain rfl := Option.some.inj hf
            exact e_iret hm_181 rfl rfl hq
        · rw [if_neg hc15] at hf
          refine e_if_t (t := 48) hm_181 rfl (ct_ne hc15) rfl ?_
          refine e_aload_n hm_181 rfl rfl ?_
          refine e_getZ hm_181 rfl rfl rfl ?_
          by_cases hc19 : (y14.2.1 73 25) = (0 : Int32)
          · rw [if_pos hc19] at hf
            refine e_if_f hm_181 rfl (cf_ne hc19) ?_
            refine e_aload_n hm_181 rfl rfl ?_
            obtain ⟨y20, hky20, hf⟩ := mm_bd hf
            refine e_virt hm_181 rfl rfl rfl rfl (Nat.le_of_ble_eq_true rfl) hm_177 rfl rfl (c_177 y14.2 hky20 ?_)
            show Ev Z _ 181 59 [some (.ref 73), some (.int a1), some (.int (0 : Int32))] [] (mm_H y20.2) Q
            refine e_iload_n hm_181 rfl rfl ?_
            obtain rfl := Option.some.inj hf
            exact e_iret hm_181 rfl rfl hq
          · rw [if_neg hc19] at hf
            refine e_if_t (t := 59) hm_181 rfl (ct_ne hc19) rfl ?_
            refine e_iload_n hm_181 rfl rfl ?_
            obtain rfl := Option.some.inj hf
            exact e_iret hm_181 rfl rfl hq
    · rw [if_neg hc3] at hf
      refine e_if_t (t := 19) hm_181 rfl (ct_ne hc3) rfl ?_
      refine e_aload_n hm_181 rfl rfl ?_
      refine e_getZ hm_181 rfl rfl rfl ?_
      by_cases hc21 : (y2.2.1 73 25) = (0 : Int32)
      · rw [if_pos hc21] at hf
        refine e_if_t (t := 30) hm_181 rfl (ct_eq hc21) rfl ?_
        refine e_aload_n hm_181 rfl rfl ?_
        obtain ⟨y22, hky22, hf⟩ := mm_bd hf
        refine e_virt hm_181 rfl rfl rfl rfl (Nat.le_of_ble_eq_true rfl) hm_183 rfl rfl (c_183 y2.2 hky22 ?_)
        show Ev Z _ 181 34 [some (.ref 73), some (.int a1), none] [.int y22.1] (mm_H y22.2) Q
        refine e_istore_n (L2 := [some (.ref 73), some (.int a1), some (.int y22.1)]) hm_181 rfl rfl ?_
        refine e_aload_n hm_181 rfl rfl ?_
        refine e_bipush hm_181 rfl kc_bipush_59 ?_
        obtain ⟨y23, hky23, hf⟩ := mm_bd hf
        refine e_virt hm_181 rfl rfl rfl rfl (Nat.le_of_ble_eq_true rfl) hm_190 rfl rfl (c_190 (59 : Int32) y22.2 hky23 ?_)
        show Ev Z _ 181 41 [some (.ref 73), some (.int a1), some (.int y22.1)] [.int y23.1] (mm_H y23.2) Q
        by_cases hc24 : y23.1 = (0 : Int32)
        · rw [if_pos hc24] at hf
          refine e_if_f hm_181 rfl (cf_ne hc24) ?_
          refine e_aload_n hm_181 rfl rfl ?_
          obtain ⟨y25, hky25, hf⟩ := mm_bd hf
          refine e_virt hm_181 rfl rfl rfl rfl (Nat.le_of_ble_eq_true rfl) hm_182 rfl rfl (c_182 y23.2 hky25 ?_)
          show Ev Z _ 181 48 [some (.ref 73), some (.int a1), some (.int y22.1)] [] (mm_H y25.2) Q
          refine e_aload_n hm_181 rfl rfl ?_
          refine e_getZ hm_181 rfl rfl rfl ?_
          by_cases hc26 : (y25.2.1 73 25) = (0 : Int32)
          · rw [if_pos hc26] at hf
            refine e_if_f hm_181 rfl (cf_ne hc26) ?_
            refine e_aload_n hm_181 rfl rfl ?_
            obtain ⟨y27, hky27, hf⟩ := mm_bd hf
            refine e_virt hm_181 rfl rfl rfl rfl (Nat.le_of_ble_eq_true rfl) hm_177 rfl rfl (c_177 y25.2 hky27 ?_)
            show Ev Z _ 181 59 [some (.ref 73), some (.int a1), some (.int y22.1)] [] (mm_H y27.2) Q
            refine e_iload_n hm_181 rfl rfl ?_
            obtain rfl := Option.some.inj hf
            exact e_iret hm_181 rfl rfl hq
          · rw [if_neg hc26] at hf
            refine e_if_t (t := 59) hm_181 rfl (ct_ne hc26) rfl ?_
            refine e_iload_n hm_181 rfl rfl ?_
            obtain rfl := Option.some.inj hf
            exact e_iret hm_181 rfl rfl hq
        · rw [if_neg hc24] at hf
          refine e_if_t (t := 48) hm_181 rfl (ct_ne hc24) rfl ?_
          refine e_aload_n hm_181 rfl rfl ?_
          refine e_getZ hm_181 rfl rfl rfl ?_
          by_cases hc28 : (y23.2.1 73 25) = (0 : Int32)
          · rw [if_pos hc28] at hf
            refine e_if_f hm_181 rfl (cf_ne hc28) ?_
            refine e_aload_n hm_181 rfl rfl ?_
            obtain ⟨y29, hky29, hf⟩ := mm_bd hf
            refine e_virt hm_181 rfl rfl rfl rfl (Nat.le_of_ble_eq_true rfl) hm_177 rfl rfl (c_177 y23.2 hky29 ?_)
            show Ev Z _ 181 59 [some (.ref 73), some (.int a1), some (.int y22.1)] [] (mm_H y29.2) Q
            refine e_iload_n hm_181 rfl rfl ?_
            obtain rfl := Option.some.inj hf
            exact e_iret hm_181 rfl rfl hq
          · rw [if_neg hc28] at hf
            refine e_if_t (t := 59) hm_181 rfl (ct_ne hc28) rfl ?_
            refine e_iload_n hm_181 rfl rfl ?_
            obtain rfl := Option.some.inj hf
            exact e_iret hm_181 rfl rfl hq
      · rw [if_neg hc21] at hf
        refine e_if_f hm_181 rfl (cf_eq hc21) ?_
        refine e_iconst hm_181 rfl kc_iconst_0 ?_
        refine e_goto (t := 34) hm_181 rfl rfl ?_
        refine e_istore_n (L2 := [some (.ref 73), some (.int a1), some (.int (0 : Int32))]) hm_181 rfl rfl ?_
        refine e_aload_n hm_181 rfl rfl ?_
        refine e_bipush hm_181 rfl kc_bipush_59 ?_
        obtain ⟨y30, hky30, hf⟩ := mm_bd hf
        refine e_virt hm_181 rfl rfl rfl rfl (Nat.le_of_ble_eq_true rfl) hm_190 rfl rfl (c_190 (59 : Int32) y2.2 hky30 ?_)
        show Ev Z _ 181 41 [some (.ref 73), some (.int a1), some (.int (0 : Int32))] [.int y30.1] (mm_H y30.2) Q
        by_cases hc31 : y30.1 = (0 : Int32)
        · rw [if_pos hc31] at hf
          refine e_if_f hm_181 rfl (cf_ne hc31) ?_
          refine e_aload_n hm_181 rfl rfl ?_
          obtain ⟨y32, hky32, hf⟩ := mm_bd hf
          refine e_virt hm_181 rfl rfl rfl rfl (Nat.le_of_ble_eq_true rfl) hm_182 rfl rfl (c_182 y30.2 hky32 ?_)
          show Ev Z _ 181 48 [some (.ref 73), some (.int a1), some (.int (0 : Int32))] [] (mm_H y32.2) Q
          refine e_aload_n hm_181 rfl rfl ?_
          refine e_getZ hm_181 rfl rfl rfl ?_
          by_cases hc33 : (y32.2.1 73 25) = (0 : Int32)
          · rw [if_pos hc33] at hf
            refine e_if_f hm_181 rfl (cf_ne hc33) ?_
            refine e_aload_n hm_181 rfl rfl ?_
            obtain ⟨y34, hky34, hf⟩ := mm_bd hf
            refine e_virt hm_181 rfl rfl rfl rfl (Nat.le_of_ble_eq_true rfl) hm_177 rfl rfl (c_177 y32.2 hky34 ?_)
            show Ev Z _ 181 59 [some (.ref 73), some (.int a1), some (.int (0 : Int32))] [] (mm_H y34.2) Q
            refine e_iload_n hm_181 rfl rfl ?_
            obtain rfl := Option.some.inj hf
            exact e_iret hm_181 rfl rfl hq
          · rw [if_neg hc33] at hf
            refine e_if_t (t := 59) hm_181 rfl (ct_ne hc33) rfl ?_
            refine e_iload_n hm_181 rfl rfl ?_
            obtain rfl := Option.some.inj hf
            exact e_iret hm_181 rfl rfl hq
        · rw [if_neg hc31] at hf
          refine e_if_t (t := 48) hm_181 rfl (ct_ne hc31) rfl ?_
          refine e_aload_n hm_181 rfl rfl ?_
          refine e_getZ hm_181 rfl rfl rfl ?_
          by_cases hc35 : (y30.2.1 73 25) = (0 : Int32)
          · rw [if_pos hc35] at hf
            refine e_if_f hm_181 rfl (cf_ne hc35) ?_
            refine e_aload_n hm_181 rfl rfl ?_
            obtain ⟨y36, hky36, hf⟩ := mm_bd hf
            refine e_virt hm_181 rfl rfl rfl rfl (Nat.le_of_ble_eq_true rfl) hm_177 rfl rfl (c_177 y30.2 hky36 ?_)
            show Ev Z _ 181 59 [some (.ref 73), some (.int a1), some (.int (0 : Int32))] [] (mm_H y36.2) Q
            refine e_iload_n hm_181 rfl rfl ?_
            obtain rfl := Option.some.inj hf
            exact e_iret hm_181 rfl rfl hq
          · rw [if_neg hc35] at hf
            refine e_if_t (t := 59) hm_181 rfl (ct_ne hc35) rfl ?_
            refine e_iload_n hm_181 rfl rfl ?_
            obtain rfl := Option.some.inj hf
            exact e_iret hm_181 rfl rfl hq
  · rw [if_neg hc1] at hf
    refine e_if_t (t := 8) hm_181 rfl (ct_ne hc1) rfl ?_
    refine e_aload_n hm_181 rfl rfl ?_
    refine e_getZ hm_181 rfl rfl rfl ?_
    by_cases hc37 : (M.1 73 25) = (0 : Int32)
    · rw [if_pos hc37] at hf
      refine e_if_f hm_181 rfl (cf_ne hc37) ?_
      refine e_aload_n hm_181 rfl rfl ?_
      obtain ⟨y38, hky38, hf⟩ := mm_bd hf
      refine e_virt hm_181 rfl rfl rfl rfl (Nat.le_of_ble_eq_true rfl) hm_177 rfl rfl (c_177 M hky38 ?_)
      show Ev Z _ 181 19 [some (.ref 73), some (.int a1), none] [] (mm_H y38.2) Q
      refine e_aload_n hm_181 rfl rfl ?_
      refine e_getZ hm_181 rfl rfl rfl ?_
      by_cases hc39 : (y38.2.1 73 25) = (0 : Int32)
      · rw [if_pos hc39] at hf
        refine e_if_t (t := 30) hm_181 rfl (ct_eq hc39) rfl ?_
        refine e_aload_n hm_181 rfl rfl ?_
        obtain ⟨y40, hky40, hf⟩ := mm_bd hf
        refine e_virt hm_181 rfl rfl rfl rfl (Nat.le_of_ble_eq_true rfl) hm_183 rfl rfl (c_183 y38.2 hky40 ?_)
        show Ev Z _ 181 34 [some (.ref 73), some (.int a1), none] [.int y40.1] (mm_H y40.2) Q
        refine e_istore_n (L2 := [some (.ref 73), some (.int a1), some (.int y40.1)]) hm_181 rfl rfl ?_
        refine e_aload_n hm_181 rfl rfl ?_
        refine e_bipush hm_181 rfl kc_bipush_59 ?_
        obtain ⟨y41, hky41, hf⟩ := mm_bd hf
        refine e_virt hm_181 rfl rfl rfl rfl (Nat.le_of_ble_eq_true rfl) hm_190 rfl rfl (c_190 (59 : Int32) y40.2 hky41 ?_)
        show Ev Z _ 181 41 [some (.ref 73), some (.int a1), some (.int y40.1)] [.int y41.1] (mm_H y41.2) Q
        by_cases hc42 : y41.1 = (0 : Int32)
        · rw [if_pos hc42] at hf
          refine e_if_f hm_181 rfl (cf_ne hc42) ?_
          refine e_aload_n hm_181 rfl rfl ?_
          obtain ⟨y43, hky43, hf⟩ := mm_bd hf
          refine e_virt hm_181 rfl rfl rfl rfl (Nat.le_of_ble_eq_true rfl) hm_182 rfl rfl (c_182 y41.2 hky43 ?_)
          show Ev Z _ 181 48 [some (.ref 73), some (.int a1), some (.int y40.1)] [] (mm_H y43.2) Q
          refine e_aload_n hm_181 rfl rfl ?_
          refine e_getZ hm_181 rfl rfl rfl ?_
          by_cases hc44 : (y43.2.1 73 25) = (0 : Int32)
          · rw [if_pos hc44] at hf
            refine e_if_f hm_181 rfl (cf_ne hc44) ?_
            refine e_aload_n hm_181 rfl rfl ?_
            obtain ⟨y45, hky45, hf⟩ := mm_bd hf
            refine e_virt hm_181 rfl rfl rfl rfl (Nat.le_of_ble_eq_true rfl) hm_177 rfl rfl (c_177 y43.2 hky45 ?_)
            show Ev Z _ 181 59 [some (.ref 73), some (.int a1), some (.int y40.1)] [] (mm_H y45.2) Q
            refine e_iload_n hm_181 rfl rfl ?_
            obtain rfl := Option.some.inj hf
            exact e_iret hm_181 rfl rfl hq
          · rw [if_neg hc44] at hf
            refine e_if_t (t := 59) hm_181 rfl (ct_ne hc44) rfl ?_
            refine e_iload_n hm_181 rfl rfl ?_
            obtain rfl := Option.some.inj hf
            exact e_iret hm_181 rfl rfl hq
        · rw [if_neg hc42] at hf
          refine e_if_t (t := 48) hm_181 rfl (ct_ne hc42) rfl ?_
          refine e_aload_n hm_181 rfl rfl ?_
          refine e_getZ hm_181 rfl rfl rfl ?_
          by_cases hc46 : (y41.2.1 73 25) = (0 : Int32)
          · rw [if_pos hc46] at hf
            refine e_if_f hm_181 rfl (cf_ne hc46) ?_
            refine e_aload_n hm_181 rfl rfl ?_
            obtain ⟨y47, hky47, hf⟩ := mm_bd hf
            refine e_virt hm_181 rfl rfl rfl rfl (Nat.le_of_ble_eq_true rfl) hm_177 rfl rfl (c_177 y41.2 hky47 ?_)
            show Ev Z _ 181 59 [some (.ref 73), some (.int a1), some (.int y40.1)] [] (mm_H y47.2) Q
            refine e_iload_n hm_181 rfl rfl ?_
            obtain rfl := Option.some.inj hf
            exact e_iret hm_181 rfl rfl hq
          · rw [if_neg hc46] at hf
            refine e_if_t (t := 59) hm_181 rfl (ct_ne hc46) rfl ?_
            refine e_iload_n hm_181 rfl rfl ?_
            obtain rfl := Option.some.inj hf
            exact e_iret hm_181 rfl rfl hq
      · rw [if_neg hc39] at hf
        refine e_if_f hm_181 rfl (cf_eq hc39) ?_
        refine e_iconst hm_181 rfl kc_iconst_0 ?_
        refine e_goto (t := 34) hm_181 rfl rfl ?_
        refine e_istore_n (L2 := [some (.ref 73), some (.int a1), some (.int (0 : Int32))]) hm_181 rfl rfl ?_
        refine e_aload_n hm_181 rfl rfl ?_
        refine e_bipush hm_181 rfl kc_bipush_59 ?_
        obtain ⟨y48, hky48, hf⟩ := mm_bd hf
        refine e_virt hm_181 rfl rfl rfl rfl (Nat.le_of_ble_eq_true rfl) hm_190 rfl rfl (c_190 (59 : Int32) y38.2 hky48 ?_)
        show Ev Z _ 181 41 [some (.ref 73), some (.int a1), some (.int (0 : Int32))] [.int y48.1] (mm_H y48.2) Q
        by_cases hc49 : y48.1 = (0 : Int32)
        · rw [if_pos hc49] at hf
          refine e_if_f hm_181 rfl (cf_ne hc49) ?_
          refine e_aload_n hm_181 rfl rfl ?_
          obtain ⟨y50, hky50, hf⟩ := mm_bd hf
          refine e_virt hm_181 rfl rfl rfl rfl (Nat.le_of_ble_eq_true rfl) hm_182 rfl rfl (c_182 y48.2 hky50 ?_)
          show Ev Z _ 181 48 [some (.ref 73), some (.int a1), some (.int (0 : Int32))] [] (mm_H y50.2) Q
          refine e_aload_n hm_181 rfl rfl ?_
          refine e_getZ hm_181 rfl rfl rfl ?_
          by_cases hc51 : (y50.2.1 73 25) = (0 : Int32)
          · rw [if_pos hc51] at hf
            refine e_if_f hm_181 rfl (cf_ne hc51) ?_
            refine e_aload_n hm_181 rfl rfl ?_
            obtain ⟨y52, hky52, hf⟩ := mm_bd hf
            refine e_virt hm_181 rfl rfl rfl rfl (Nat.le_of_ble_eq_true rfl) hm_177 rfl rfl (c_177 y50.2 hky52 ?_)
            show Ev Z _ 181 59 [some (.ref 73), some (.int a1), some (.int (0 : Int32))] [] (mm_H y52.2) Q
            refine e_iload_n hm_181 rfl rfl ?_
            obtain rfl := Option.some.inj hf
            exact e_iret hm_181 rfl rfl hq
          · rw [if_neg hc51] at hf
            refine e_if_t (t := 59) hm_181 rfl (ct_ne hc51) rfl ?_
            refine e_iload_n hm_181 rfl rfl ?_
            obtain rfl := Option.some.inj hf
            exact e_iret hm_181 rfl rfl hq
        · rw [if_neg hc49] at hf
          refine e_if_t (t := 48) hm_181 rfl (ct_ne hc49) rfl ?_
          refine e_aload_n hm_181 rfl rfl ?_
          refine e_getZ hm_181 rfl rfl rfl ?_
          by_cases hc53 : (y48.2.1 73 25) = (0 : Int32)
          · rw [if_pos hc53] at hf
            refine e_if_f hm_181 rfl (cf_ne hc53) ?_
            refine e_aload_n hm_181 rfl rfl ?_
            obtain ⟨y54, hky54, hf⟩ := mm_bd hf
            refine e_virt hm_181 rfl rfl rfl rfl (Nat.le_of_ble_eq_true rfl) hm_177 rfl rfl (c_177 y48.2 hky54 ?_)
            show Ev Z _ 181 59 [some (.ref 73), some (.int a1), some (.int (0 : Int32))] [] (mm_H y54.2) Q
            refine e_iload_n hm_181 rfl rfl ?_
            obtain rfl := Option.some.inj hf
            exact e_iret hm_181 rfl rfl hq
          · rw [if_neg hc53] at hf
            refine e_if_t (t := 59) hm_181 rfl (ct_ne hc53) rfl ?_
            refine e_iload_n hm_181 rfl rfl ?_
            obtain rfl := Option.some.inj hf
            exact e_iret hm_181 rfl rfl hq
    · rw [if_neg hc37] at hf
      refine e_if_t (t := 19) hm_181 rfl (ct_ne hc37) rfl ?_
      refine e_aload_n hm_181 rfl rfl ?_
      refine e_getZ hm_181 rfl rfl rfl ?_
      by_cases hc55 : (M.1 73 25) = (0 : Int32)
      · rw [if_pos hc55] at hf
        refine e_if_t (t := 30) hm_181 rfl (ct_eq hc55) rfl ?_
        refine e_aload_n hm_181 rfl rfl ?_
        obtain ⟨y56, hky56, hf⟩ := mm_bd hf
        refine e_virt hm_181 rfl rfl rfl rfl (Nat.le_of_ble_eq_true rfl) hm_183 rfl rfl (c_183 M hky56 ?_)
        show Ev Z _ 181 34 [some (.ref 73), some (.int a1), none] [.int y56.1] (mm_H y56.2) Q
        refine e_istore_n (L2 := [some (.ref 73), some (.int a1), some (.int y56.1)]) hm_181 rfl rfl ?_
        refine e_aload_n hm_181 rfl rfl ?_
        refine e_bipush hm_181 rfl kc_bipush_59 ?_
        obtain ⟨y57, hky57, hf⟩ := mm_bd hf
        refine e_virt hm_181 rfl rfl rfl rfl (Nat.le_of_ble_eq_true rfl) hm_190 rfl rfl (c_190 (59 : Int32) y56.2 hky57 ?_)
        show Ev Z _ 181 41 [some (.ref 73), some (.int a1), some (.int y56.1)] [.int y57.1] (mm_H y57.2) Q
        by_cases hc58 : y57.1 = (0 : Int32)
        · rw [if_pos hc58] at hf
          refine e_if_f hm_181 rfl (cf_ne hc58) ?_
          refine e_aload_n hm_181 rfl rfl ?_
          obtain ⟨y59, hky59, hf⟩ := mm_bd hf
          refine e_virt hm_181 rfl rfl rfl rfl (Nat.le_of_ble_eq_true rfl) hm_182 rfl rfl (c_182 y57.2 hky59 ?_)
          show Ev Z _ 181 48 [some (.ref 73), some (.int a1), some (.int y56.1)] [] (mm_H y59.2) Q
          refine e_aload_n hm_181 rfl rfl ?_
          refine e_getZ hm_181 rfl rfl rfl ?_
          by_cases hc60 : (y59.2.1 73 25) = (0 : Int32)
          · rw [if_pos hc60] at hf
            refine e_if_f hm_181 rfl (cf_ne hc60) ?_
            refine e_aload_n hm_181 rfl rfl ?_
            obtain ⟨y61, hky61, hf⟩ := mm_bd hf
            refine e_virt hm_181 rfl rfl rfl rfl (Nat.le_of_ble_eq_true rfl) hm_177 rfl rfl (c_177 y59.2 hky61 ?_)
            show Ev Z _ 181 59 [some (.ref 73), some (.int a1), some (.int y56.1)] [] (mm_H y61.2) Q
            refine e_iload_n hm_181 rfl rfl ?_
            obtain rfl := Option.some.inj hf
            exact e_iret hm_181 rfl rfl hq
          · rw [if_neg hc60] at hf
            refine e_if_t (t := 59) hm_181 rfl (ct_ne hc60) rfl ?_
            refine e_iload_n hm_181 rfl rfl ?_
            obtain rfl := Option.some.inj hf
            exact e_iret hm_181 rfl rfl hq
        · rw [if_neg hc58] at hf
          refine e_if_t (t := 48) hm_181 rfl (ct_ne hc58) rfl ?_
          refine e_aload_n hm_181 rfl rfl ?_
          refine e_getZ hm_181 rfl rfl rfl ?_
          by_cases hc62 : (y57.2.1 73 25) = (0 : Int32)
          · rw [if_pos hc62] at hf
            refine e_if_f hm_181 rfl (cf_ne hc62) ?_
            refine e_aload_n hm_181 rfl rfl ?_
            obtain ⟨y63, hky63, hf⟩ := mm_bd hf
            refine e_virt hm_181 rfl rfl rfl rfl (Nat.le_of_ble_eq_true rfl) hm_177 rfl rfl (c_177 y57.2 hky63 ?_)
            show Ev Z _ 181 59 [some (.ref 73), some (.int a1), some (.int y56.1)] [] (mm_H y63.2) Q
            refine e_iload_n hm_181 rfl rfl ?_
            obtain rfl := Option.some.inj hf
            exact e_iret hm_181 rfl rfl hq
          · rw [if_neg hc62] at hf
            refine e_if_t (t := 59) hm_181 rfl (ct_ne hc62) rfl ?_
            refine e_iload_n hm_181 rfl rfl ?_
            obtain rfl := Option.some.inj hf
            exact e_iret hm_181 rfl rfl hq
      · rw [if_neg hc55] at hf
        refine e_if_f hm_181 rfl (cf_eq hc55) ?_
        refine e_iconst hm_181 rfl kc_iconst_0 ?_
        refine e_goto (t := 34) hm_181 rfl rfl ?_
        refine e_istore_n (L2 := [some (.ref 73), some (.int a1), some (.int (0 : Int32))]) hm_181 rfl rfl ?_
        refine e_aload_n hm_181 rfl rfl ?_
        refine e_bipush hm_181 rfl kc_bipush_59 ?_
        obtain ⟨y64, hky64, hf⟩ := mm_bd hf
        refine e_virt hm_181 rfl rfl rfl rfl (Nat.le_of_ble_eq_true rfl) hm_190 rfl rfl (c_190 (59 : Int32) M hky64 ?_)
        show Ev Z _ 181 41 [some (.ref 73), some (.int a1), some (.int (0 : Int32))] [.int y64.1] (mm_H y64.2) Q
        by_cases hc65 : y64.1 = (0 : Int32)
        · rw [if_pos hc65] at hf
          refine e_if_f hm_181 rfl (cf_ne hc65) ?_
          refine e_aload_n hm_181 rfl rfl ?_
          obtain ⟨y66, hky66, hf⟩ := mm_bd hf
          refine e_virt hm_181 rfl rfl rfl rfl (Nat.le_of_ble_eq_true rfl) hm_182 rfl rfl (c_182 y64.2 hky66 ?_)
          show Ev Z _ 181 48 [some (.ref 73), some (.int a1), some (.int (0 : Int32))] [] (mm_H y66.2) Q
          refine e_aload_n hm_181 rfl rfl ?_
          refine e_getZ hm_181 rfl rfl rfl ?_
          by_cases hc67 : (y66.2.1 73 25) = (0 : Int32)
          · rw [if_pos hc67] at hf
            refine e_if_f hm_181 rfl (cf_ne hc67) ?_
            refine e_aload_n hm_181 rfl rfl ?_
            obtain ⟨y68, hky68, hf⟩ := mm_bd hf
            refine e_virt hm_181 rfl rfl rfl rfl (Nat.le_of_ble_eq_true rfl) hm_177 rfl rfl (c_177 y66.2 hky68 ?_)
            show Ev Z _ 181 59 [some (.ref 73), some (.int a1), some (.int (0 : Int32))] [] (mm_H y68.2) Q
            refine e_iload_n hm_181 rfl rfl ?_
            obtain rfl := Option.some.inj hf
            exact e_iret hm_181 rfl rfl hq
          · rw [if_neg hc67] at hf
            refine e_if_t (t := 59) hm_181 rfl (ct_ne hc67) rfl ?_
            refine e_iload_n hm_181 rfl rfl ?_
            obtain rfl := Option.some.inj hf
            exact e_iret hm_181 rfl rfl hq
        · rw [if_neg hc65] at hf
          refine e_if_t (t := 48) hm_181 rfl (ct_ne hc65) rfl ?_
          refine e_aload_n hm_181 rfl rfl ?_
          refine e_getZ hm_181 rfl rfl rfl ?_
          by_cases hc69 : (y64.2.1 73 25) = (0 : Int32)
          · rw [if_pos hc69] at hf
            refine e_if_f hm_181 rfl (cf_ne hc69) ?_
            refine e_aload_n hm_181 rfl rfl ?_
            obtain ⟨y70, hky70, hf⟩ := mm_bd hf
            refine e_virt hm_181 rfl rfl rfl rfl (Nat.le_of_ble_eq_true rfl) hm_177 rfl rfl (c_177 y64.2 hky70 ?_)
            show Ev Z _ 181 59 [some (.ref 73), some (.int a1), some (.int (0 : Int32))] [] (mm_H y70.2) Q
            refine e_iload_n hm_181 rfl rfl ?_
            obtain rfl := Option.some.inj hf
            exact e_iret hm_181 rfl rfl hq
          · rw [if_neg hc69] at hf
            refine e_if_t (t := 59) hm_181 rfl (ct_ne hc69) rfl ?_
            refine e_iload_n hm_181 rfl rfl ?_
            obtain rfl := Option.some.inj hf
            exact e_iret hm_181 rfl rfl hq
