/-! the constants' texts: length() and charAt(k) -/
theorem mm_SH_none {r : Nat} (h : 93 ≤ r) : mm_SH[r]? = none := List.getElem?_eq_none (by have : mm_SH.length = 93 := rfl; omega)
theorem str_sa {Z : ak_Z} {t : Nat} (ht : mm_isS t = true) : ak_sa Z (t + 100) = some (true, (str_l t).length, fun j => (str_l t).getD j 0) := by
  obtain ⟨h1, h2⟩ := mm_inS ht
  unfold ak_sa str_l
  rw [if_neg (by omega), if_neg (by omega), if_neg (by omega), if_pos (by omega)]
  rw [show t + 100 - 1000100 = t % 1000000 by omega]
theorem str_mem {j : Nat} (h : 0 < (ak_strs.getD j []).length) : ak_strs.getD j [] ∈ ak_strs := by
  rw [List.getD_eq_getElem?_getD] at h ⊢
  cases hk : ak_strs[j]? with
  | none => rw [hk] at h; exact absurd h (Nat.lt_irrefl _)
  | some l => exact List.mem_of_getElem? hk
theorem str_key : ∀ l ∈ ak_strs, ∀ b ∈ l, ((b &&& 255).toUInt32 % 65536).toInt32 = b ∧ narrow .char (.int b) = .int b := by decide +kernel
theorem list_getD_mem {l : List Int32} {k : Nat} (h : k < l.length) : l.getD k 0 ∈ l := by
  rw [List.getD_eq_getElem?_getD, List.getElem?_eq_getElem h]
  exact List.getElem_mem h
theorem str_byte {t k : Nat} (h : k < (str_l t).length) : ((str_at t k &&& 255).toUInt32 % 65536).toInt32 = str_at t k ∧ narrow .char (.int (str_at t k)) = .int (str_at t k) := by
  have hl : str_l t ∈ ak_strs := by
    unfold str_l at h ⊢
    generalize t % 1000000 = j at h ⊢
    exact str_mem (Nat.lt_of_le_of_lt (Nat.zero_le _) h)
  have hm : str_at t k ∈ str_l t := by
    unfold str_at
    generalize str_l t = l at h ⊢
    exact list_getD_mem h
  generalize str_at t k = b at hm ⊢
  exact str_key _ hl _ hm
section STR
variable {Z : ak_Z} {d : Nat} {Q : Option Value → ak_H → Prop}
theorem c_72 (t : Nat) (M : mm_M) (ht : mm_isS t = true) (hq : Q (some (.int 0)) (mm_H M)) : Ev Z d 72 0 [some (.ref t)] [] (mm_H M) Q := by
  refine e_getc hm_72 rfl ?_
  refine e_if_f hm_72 rfl (by decide) ?_
  refine e_aload_n hm_72 rfl rfl ?_
  refine e_sfc hm_72 rfl (mm_inS ht) ?_
  refine e_goto (t := 14) hm_72 rfl rfl ?_
  exact e_bret hm_72 rfl rfl rfl hq
theorem c_74 (t : Nat) (M : mm_M) (ht : mm_isS t = true) (hq : Q (some (.int 1)) (mm_H M)) : Ev Z d 74 0 [some (.ref t)] [] (mm_H M) Q := by
  refine e_getc hm_74 rfl ?_
  refine e_if_f hm_74 rfl (by decide) ?_
  refine e_aload_n hm_74 rfl rfl ?_
  refine e_sfc hm_74 rfl (mm_inS ht) ?_
  refine e_if_f hm_74 rfl (by decide) ?_
  refine e_iconst hm_74 rfl kc_iconst_1 ?_
  refine e_goto (t := 18) hm_74 rfl rfl ?_
  exact e_zret hm_74 rfl rfl (by decide) hq
def js_length (t : Nat) (M : mm_M) : Option (Int32 × mm_M) := some (str_len t, M)
def js_charAt (t : Nat) (a1 : Int32) (M : mm_M) : Option (Int32 × mm_M) := if ak_inb a1 (str_l t).length = true then some (str_at t a1.toNatClampNeg, M) else none
theorem i32_shr0 (a : Int32) : a >>> ((0 : Int32) &&& 31) = a := by
  rw [show (0 : Int32) &&& 31 = 0 by decide]
  simp
theorem c_71 (t : Nat) (M : mm_M) (ht : mm_isS t = true) {y : Int32 × mm_M} (hf : js_length t M = some y) (hq : Q (some (.int y.1)) (mm_H y.2)) : Ev Z (d + 1) 71 0 [some (.ref t)] [] (mm_H M) Q := by
  unfold js_length at hf
  obtain rfl := Option.some.inj hf
  obtain ⟨h1, h2⟩ := mm_inS ht
  refine e_aload_n hm_71 rfl rfl ?_
  refine e_sfv hm_71 rfl (mm_inS ht) ?_
  refine e_slen hm_71 rfl (mm_SH_none (by omega)) (str_sa ht) rfl ?_
  refine e_aload_n hm_71 rfl rfl ?_
  refine e_strc hm_71 rfl rfl rfl (mm_inS ht) (Nat.le_of_ble_eq_true rfl) hm_72 rfl rfl (c_72 t M ht ?_)
  show Ev Z _ 71 9 [some (.ref t)] [.int 0, .int (str_len t)] (mm_H M) Q
  refine e_ishr hm_71 rfl ?_
  rw [i32_shr0]
  exact e_iret hm_71 rfl rfl hq
theorem c_77 (a b : Int32) (M : mm_M) (h0 : ¬ a < 0) (h1 : a < b) (hq : Q (some (.int a)) (mm_H M)) : Ev Z d 77 0 [some (.int a), some (.int b), some (.retAddr 0)] [] (mm_H M) Q := by
  refine e_iload_n hm_77 rfl rfl ?_
  refine e_if_f hm_77 rfl (cf_lt h0) ?_
  refine e_iload_n hm_77 rfl rfl ?_
  refine e_iload_n hm_77 rfl rfl ?_
  refine e_ic_t (t := 16) hm_77 rfl (ct_lt h1) rfl ?_
  refine e_iload_n hm_77 rfl rfl ?_
  exact e_iret hm_77 rfl rfl hq
theorem c_76 (a b : Int32) (M : mm_M) (h0 : ¬ a < 0) (h1 : a < b) (hq : Q none (mm_H M)) : Ev Z (d + 1) 76 0 [some (.int a), some (.int b)] [] (mm_H M) Q := by
  refine e_iload_n hm_76 rfl rfl ?_
  refine e_iload_n hm_76 rfl rfl ?_
  refine e_getu hm_76 rfl ?_
  refine e_stat hm_76 rfl (by decide) rfl rfl (Nat.le_of_ble_eq_true rfl) hm_77 rfl rfl (c_77 a b M h0 h1 ?_)
  show Ev Z _ 76 8 [some (.int a), some (.int b)] [.int a] (mm_H M) Q
  refine e_popi hm_76 rfl ?_
  exact e_vret hm_76 rfl rfl hq
theorem str_lt {t : Nat} {a : Int32} (h : ak_inb a (str_l t).length = true) (ht : mm_isS t = true) : ¬ a < 0 ∧ a < str_len t := by
  have hl : (str_l t).length ≤ 6 := by
    obtain ⟨h1, h2⟩ := mm_inS ht
    unfold str_l
    generalize e : t % 1000000 = j
    have : j = 0 ∨ j = 1 ∨ j = 2 ∨ j = 3 ∨ j = 4 ∨ j = 5 ∨ j = 6 ∨ j = 7 ∨ j = 8 ∨ j = 9 ∨ j = 10 ∨ j = 11 := by omega
    rcases this with rfl | rfl | rfl | rfl | rfl | rfl | rfl | rfl | rfl | rfl | rfl | rfl <;> decide
  unfold ak_inb at h
  simp only [Bool.and_eq_true, Bool.not_eq_true', decide_eq_false_iff_not, decide_eq_true_eq] at h
  refine ⟨h.1, ?_⟩
  unfold str_len
  have h0 : (0 : Int) ≤ a.toInt := by
    have := Int32.le_iff_toInt_le.mp (Int32.not_lt.mp h.1)
    simpa using this
  have e1 : a.toInt = (a.toNatClampNeg : Int) := by
    show a.toInt = ((a.toInt.toNat : Nat) : Int)
    omega
  rw [Int32.lt_iff_toInt_lt, e1]
  have e2 : (Int32.ofNat (str_l t).length).toInt = ((str_l t).length : Int) := nI_toInt (by omega)
  rw [e2]
  omega
theorem c_75 (t : Nat) (a1 : Int32) (M : mm_M) (ht : mm_isS t = true) (hi : ak_inb a1 (str_l t).length = true) (hq : Q (some (.int (str_at t a1.toNatClampNeg))) (mm_H M)) : Ev Z (d + 2) 75 0 [some (.ref (t + 100)), some (.int a1)] [] (mm_H M) Q := by
  obtain ⟨h1, h2⟩ := mm_inS ht
  obtain ⟨h3, h4⟩ := str_lt hi ht
  obtain ⟨h5, h6⟩ := str_byte (ak_inb_lt hi)
  refine e_iload_n hm_75 rfl rfl ?_
  refine e_aload_n hm_75 rfl rfl ?_
  refine e_slen hm_75 rfl (mm_SH_none (by omega)) (str_sa ht) rfl ?_
  refine e_stat hm_75 rfl (by decide) rfl rfl (Nat.le_of_ble_eq_true rfl) hm_76 rfl rfl (c_76 (d := d) a1 (str_len t) M h3 h4 ?_)
  show Ev Z _ 75 6 [some (.ref (t + 100)), some (.int a1)] [] (mm_H M) Q
  refine e_aload_n hm_75 rfl rfl ?_
  refine e_iload_n hm_75 rfl rfl ?_
  refine e_sbald hm_75 rfl (mm_SH_none (by omega)) (str_sa ht) hi ?_
  refine e_sipush hm_75 rfl kc_sipush_255 ?_
  refine e_iand hm_75 rfl ?_
  refine e_i2c hm_75 rfl ?_
  show Ev Z _ 75 14 [some (.ref (t + 100)), some (.int a1)] [.int ((str_at t a1.toNatClampNeg &&& 255).toUInt32 % 65536).toInt32] (mm_H M) Q
  rw [h5]
  exact e_cret hm_75 rfl rfl h6 hq
theorem c_73 (t : Nat) (a1 : Int32) (M : mm_M) (ht : mm_isS t = true) {y : Int32 × mm_M} (hf : js_charAt t a1 M = some y) (hq : Q (some (.int y.1)) (mm_H y.2)) : Ev Z (d + 3) 73 0 [some (.ref t), some (.int a1)] [] (mm_H M) Q := by
  unfold js_charAt at hf
  obtain ⟨hi, hf⟩ := mm_ite hf
  obtain rfl := Option.some.inj hf
  obtain ⟨h5, h6⟩ := str_byte (ak_inb_lt hi)
  refine e_aload_n hm_73 rfl rfl ?_
  refine e_strc hm_73 rfl rfl rfl (mm_inS ht) (Nat.le_of_ble_eq_true rfl) hm_74 rfl rfl (c_74 t M ht ?_)
  show Ev Z _ 73 4 [some (.ref t), some (.int a1)] [.int 1] (mm_H M) Q
  refine e_if_f hm_73 rfl (by decide) ?_
  refine e_aload_n hm_73 rfl rfl ?_
  refine e_sfv hm_73 rfl (mm_inS ht) ?_
  refine e_iload_n hm_73 rfl rfl ?_
  refine e_stat hm_73 rfl (by decide) rfl rfl (Nat.le_of_ble_eq_true rfl) hm_75 rfl rfl (c_75 (d := d) t a1 M ht hi ?_)
  show Ev Z _ 73 15 [some (.ref t), some (.int a1)] [.int (str_at t a1.toNatClampNeg)] (mm_H M) Q
  have hq' : Q (some (.int (str_at t a1.toNatClampNeg))) (mm_H M) := hq
  generalize str_at t a1.toNatClampNeg = b at h6 hq' ⊢
  exact e_cret hm_73 rfl rfl h6 hq'
end STR
