/-! each entry of a pool, and each method, by the words of the tables -/
theorem ak_wc_1 {w : Cond} (i : Nat) (h : tables_1_1[i]? = some w) (g : goodWord w = true) : w ∈ ak_Ts := List.mem_filter.mpr ⟨by
  have h := List.mem_of_getElem? h
  unfold lw_tbl tables_1
  exact List.mem_append_right _ (List.mem_append_left _ h), g⟩
theorem ak_wc_2 {w : Cond} (i : Nat) (h : tables_1_2[i]? = some w) (g : goodWord w = true) : w ∈ ak_Ts := List.mem_filter.mpr ⟨by
  have h := List.mem_of_getElem? h
  unfold lw_tbl tables_1
  exact List.mem_append_right _ (List.mem_append_right _ (List.mem_append_left _ h)), g⟩
theorem ak_wc_3 {w : Cond} (i : Nat) (h : tables_1_3[i]? = some w) (g : goodWord w = true) : w ∈ ak_Ts := List.mem_filter.mpr ⟨by
  have h := List.mem_of_getElem? h
  unfold lw_tbl tables_1
  exact List.mem_append_right _ (List.mem_append_right _ (List.mem_append_right _ (List.mem_append_left _ h))), g⟩
theorem ak_wc_4 {w : Cond} (i : Nat) (h : tables_1_4[i]? = some w) (g : goodWord w = true) : w ∈ ak_Ts := List.mem_filter.mpr ⟨by
  have h := List.mem_of_getElem? h
  unfold lw_tbl tables_1
  exact List.mem_append_right _ (List.mem_append_right _ (List.mem_append_right _ (List.mem_append_right _ (List.mem_append_left _ h)))), g⟩
theorem ak_wc_5 {w : Cond} (i : Nat) (h : tables_1_5[i]? = some w) (g : goodWord w = true) : w ∈ ak_Ts := List.mem_filter.mpr ⟨by
  have h := List.mem_of_getElem? h
  unfold lw_tbl tables_1
  exact List.mem_append_right _ (List.mem_append_right _ (List.mem_append_right _ (List.mem_append_right _ (List.mem_append_right _ (List.mem_append_left _ h))))), g⟩
theorem ak_wc_6 {w : Cond} (i : Nat) (h : tables_1_6[i]? = some w) (g : goodWord w = true) : w ∈ ak_Ts := List.mem_filter.mpr ⟨by
  have h := List.mem_of_getElem? h
  unfold lw_tbl tables_1
  exact List.mem_append_right _ (List.mem_append_right _ (List.mem_append_right _ (List.mem_append_right _ (List.mem_append_right _ (List.mem_append_right _ (List.mem_append_left _ h)))))), g⟩
theorem ak_wc_7 {w : Cond} (i : Nat) (h : tables_1_7[i]? = some w) (g : goodWord w = true) : w ∈ ak_Ts := List.mem_filter.mpr ⟨by
  have h := List.mem_of_getElem? h
  unfold lw_tbl tables_1
  exact List.mem_append_right _ (List.mem_append_right _ (List.mem_append_right _ (List.mem_append_right _ (List.mem_append_right _ (List.mem_append_right _ (List.mem_append_right _ (h))))))), g⟩
theorem ak_minw : Cond.static Lib.Math.min.name ∈ ak_Ts ∧ Cond.initialized "java/lang/Math" ∈ ak_Ts ∧ Cond.code Lib.Math.min.name Lib.Math.min.code 2 (some .int) ∈ ak_Ts := ⟨ak_wc_2 156 (by decide +kernel) (by decide +kernel), ak_wc_1 14 (by decide +kernel) (by decide +kernel), ak_wc_2 157 (by decide +kernel) (by decide +kernel)⟩
theorem ak_maxw : Cond.static Lib.Math.max.name ∈ ak_Ts ∧ Cond.initialized "java/lang/Math" ∈ ak_Ts ∧ Cond.code Lib.Math.max.name Lib.Math.max.code 2 (some .int) ∈ ak_Ts := ⟨ak_wc_2 210 (by decide +kernel) (by decide +kernel), ak_wc_1 14 (by decide +kernel) (by decide +kernel), ak_wc_2 211 (by decide +kernel) (by decide +kernel)⟩
theorem ak_objw : Cond.instanceMethod objectInit ∈ ak_Ts ∧ Cond.code objectInit ⟨#[0xb1]⟩ 1 none ∈ ak_Ts := ⟨ak_wc_1 27 (by decide +kernel) (by decide +kernel), ak_wc_1 28 (by decide +kernel) (by decide +kernel)⟩
theorem ak_cpyw : Cond.native arraycopyName ∈ ak_Ts ∧ Cond.static arraycopyName ∈ ak_Ts ∧ Cond.initialized "java/lang/System" ∈ ak_Ts := ⟨ak_wc_4 234 (by decide +kernel) (by decide +kernel), ak_wc_4 233 (by decide +kernel) (by decide +kernel), ak_wc_1 20 (by decide +kernel) (by decide +kernel)⟩
theorem ak_arrw : Cond.arrayClass .int ∈ ak_Ts ∧ Cond.arrayClass .boolean ∈ ak_Ts := ⟨ak_wc_1 90 (by decide +kernel) (by decide +kernel), ak_wc_2 12 (by decide +kernel) (by decide +kernel)⟩
theorem mk_0 : ak_mok q_0 := ⟨ak_wc_1 25 (by decide +kernel) (by decide +kernel), ak_wc_1 1 (by decide +kernel) (by decide +kernel), ⟨by decide, by decide⟩, by decide +kernel, by decide⟩
theorem mk_1 : ak_mok q_1 := ⟨ak_wc_1 33 (by decide +kernel) (by decide +kernel), ak_wc_1 2 (by decide +kernel) (by decide +kernel), ⟨by decide, by decide⟩, by decide +kernel, by decide⟩
theorem mk_2 : ak_mok q_2 := ⟨ak_wc_1 95 (by decide +kernel) (by decide +kernel), ak_wc_1 3 (by decide +kernel) (by decide +kernel), ⟨by decide, by decide⟩, by decide +kernel, by decide⟩
theorem mk_3 : ak_mok q_3 := ⟨ak_wc_1 104 (by decide +kernel) (by decide +kernel), ak_wc_1 4 (by decide +kernel) (by decide +kernel), ⟨by decide, by decide⟩, by decide +kernel, by decide⟩
theorem mk_4 : ak_mok q_4 := ⟨ak_wc_1 111 (by decide +kernel) (by decide +kernel), ak_wc_1 5 (by decide +kernel) (by decide +kernel), ⟨by decide, by decide⟩, by decide +kernel, by decide⟩
theorem mk_5 : ak_mok q_5 := ⟨ak_wc_1 118 (by decide +kernel) (by decide +kernel), ak_wc_1 6 (by decide +kernel) (by decide +kernel), ⟨by decide, by decide⟩, by decide +kernel, by decide⟩
theorem mk_6 : ak_mok q_6 := ⟨ak_wc_1 125 (by decide +kernel) (by decide +kernel), ak_wc_1 7 (by decide +kernel) (by decide +kernel), ⟨by decide, by decide⟩, by decide +kernel, by decide⟩
theorem mk_7 : ak_mok q_7 := ⟨ak_wc_1 132 (by decide +kernel) (by decide +kernel), ak_wc_1 8 (by decide +kernel) (by decide +kernel), ⟨by decide, by decide⟩, by decide +kernel, by decide⟩
theorem mk_8 : ak_mok q_8 := ⟨ak_wc_1 139 (by decide +kernel) (by decide +kernel), ak_wc_1 9 (by decide +kernel) (by decide +kernel), ⟨by decide, by decide⟩, by decide +kernel, by decide⟩
theorem mk_9 : ak_mok q_9 := ⟨ak_wc_1 145 (by decide +kernel) (by decide +kernel), ak_wc_1 10 (by decide +kernel) (by decide +kernel), ⟨by decide, by decide⟩, by decide +kernel, by decide⟩
theorem mk_10 : ak_mok q_10 := ⟨ak_wc_1 187 (by decide +kernel) (by decide +kernel), ak_wc_1 10 (by decide +kernel) (by decide +kernel), ⟨by decide, by decide⟩, by decide +kernel, by decide⟩
theorem mk_11 : ak_mok q_11 := ⟨ak_wc_1 191 (by decide +kernel) (by decide +kernel), ak_wc_1 10 (by decide +kernel) (by decide +kernel), ⟨by decide, by decide⟩, by decide +kernel, by decide⟩
theorem mk_12 : ak_mok q_12 := ⟨ak_wc_1 213 (by decide +kernel) (by decide +kernel), ak_wc_1 11 (by decide +kernel) (by decide +kernel), ⟨by decide, by decide⟩, by decide +kernel, by decide⟩
theorem mk_13 : ak_mok q_13 := ⟨ak_wc_2 18 (by decide +kernel) (by decide +kernel), ak_wc_1 12 (by decide +kernel) (by decide +kernel), ⟨by decide, by decide⟩, by decide +kernel, by decide⟩
theorem mk_14 : ak_mok q_14 := ⟨ak_wc_2 64 (by decide +kernel) (by decide +kernel), ak_wc_1 1 (by decide +kernel) (by decide +kernel), ⟨by decide, by decide⟩, by decide +kernel, by decide⟩
theorem mk_15 : ak_mok q_15 := ⟨ak_wc_2 68 (by decide +kernel) (by decide +kernel), ak_wc_1 2 (by decide +kernel) (by decide +kernel), ⟨by decide, by decide⟩, by decide +kernel, by decide⟩
theorem mk_16 : ak_mok q_16 := ⟨ak_wc_2 72 (by decide +kernel) (by decide +kernel), ak_wc_1 2 (by decide +kernel) (by decide +kernel), ⟨by decide, by decide⟩, by decide +kernel, by decide⟩
theorem mk_17 : ak_mok q_17 := ⟨ak_wc_2 76 (by decide +kernel) (by decide +kernel), ak_wc_1 2 (by decide +kernel) (by decide +kernel), ⟨by decide, by decide⟩, by decide +kernel, by decide⟩
theorem mk_18 : ak_mok q_18 := ⟨ak_wc_2 84 (by decide +kernel) (by decide +kernel), ak_wc_1 2 (by decide +kernel) (by decide +kernel), ⟨by decide, by decide⟩, by decide +kernel, by decide⟩
theorem mk_19 : ak_mok q_19 := ⟨ak_wc_2 88 (by decide +kernel) (by decide +kernel), ak_wc_1 2 (by decide +kernel) (by decide +kernel), ⟨by decide, by decide⟩, by decide +kernel, by decide⟩
theorem mk_20 : ak_mok q_20 := ⟨ak_wc_2 92 (by decide +kernel) (by decide +kernel), ak_wc_1 2 (by decide +kernel) (by decide +kernel), ⟨by decide, by decide⟩, by decide +kernel, by decide⟩
theorem mk_21 : ak_mok q_21 := ⟨ak_wc_2 96 (by decide +kernel) (by decide +kernel), ak_wc_1 1 (by decide +kernel) (by decide +kernel), ⟨by decide, by decide⟩, by decide +kernel, by decide⟩
theorem mk_22 : ak_mok q_22 := ⟨ak_wc_2 100 (by decide +kernel) (by decide +kernel), ak_wc_1 2 (by decide +kernel) (by decide +kernel), ⟨by decide, by decide⟩, by decide +kernel, by decide⟩
theorem mk_23 : ak_mok q_23 := ⟨ak_wc_2 104 (by decide +kernel) (by decide +kernel), ak_wc_1 2 (by decide +kernel) (by decide +kernel), ⟨by decide, by decide⟩, by decide +kernel, by decide⟩
theorem mk_24 : ak_mok q_24 := ⟨ak_wc_2 108 (by decide +kernel) (by decide +kernel), ak_wc_1 1 (by decide +kernel) (by decide +kernel), ⟨by decide, by decide⟩, by decide +kernel, by decide⟩
theorem mk_25 : ak_mok q_25 := ⟨ak_wc_2 114 (by decide +kernel) (by decide +kernel), ak_wc_1 1 (by decide +kernel) (by decide +kernel), ⟨by decide, by decide⟩, by decide +kernel, by decide⟩
theorem mk_26 : ak_mok q_26 := ⟨ak_wc_2 117 (by decide +kernel) (by decide +kernel), ak_wc_1 1 (by decide +kernel) (by decide +kernel), ⟨by decide, by decide⟩, by decide +kernel, by decide⟩
theorem mk_27 : ak_mok q_27 := ⟨ak_wc_2 121 (by decide +kernel) (by decide +kernel), ak_wc_1 3 (by decide +kernel) (by decide +kernel), ⟨by decide, by decide⟩, by decide +kernel, by decide⟩
theorem mk_28 : ak_mok q_28 := ⟨ak_wc_2 125 (by decide +kernel) (by decide +kernel), ak_wc_1 2 (by decide +kernel) (by decide +kernel), ⟨by decide, by decide⟩, by decide +kernel, by decide⟩
theorem mk_29 : ak_mok q_29 := ⟨ak_wc_2 130 (by decide +kernel) (by decide +kernel), ak_wc_1 3 (by decide +kernel) (by decide +kernel), ⟨by decide, by decide⟩, by decide +kernel, by decide⟩
theorem mk_30 : ak_mok q_30 := ⟨ak_wc_2 134 (by decide +kernel) (by decide +kernel), ak_wc_1 3 (by decide +kernel) (by decide +kernel), ⟨by decide, by decide⟩, by decide +kernel, by decide⟩
theorem mk_31 : ak_mok q_31 := ⟨ak_wc_2 138 (by decide +kernel) (by decide +kernel), ak_wc_1 3 (by decide +kernel) (by decide +kernel), ⟨by decide, by decide⟩, by decide +kernel, by decide⟩
theorem mk_32 : ak_mok q_32 := ⟨ak_wc_2 142 (by decide +kernel) (by decide +kernel), ak_wc_1 2 (by decide +kernel) (by decide +kernel), ⟨by decide, by decide⟩, by decide +kernel, by decide⟩
theorem mk_33 : ak_mok q_33 := ⟨ak_wc_2 146 (by decide +kernel) (by decide +kernel), ak_wc_1 2 (by decide +kernel) (by decide +kernel), ⟨by decide, by decide⟩, by decide +kernel, by decide⟩
theorem mk_34 : ak_mok q_34 := ⟨ak_wc_2 150 (by decide +kernel) (by decide +kernel), ak_wc_1 3 (by decide +kernel) (by decide +kernel), ⟨by decide, by decide⟩, by decide +kernel, by decide⟩
theorem mk_35 : ak_mok q_35 := ⟨ak_wc_2 154 (by decide +kernel) (by decide +kernel), ak_wc_1 10 (by decide +kernel) (by decide +kernel), ⟨by decide, by decide⟩, by decide +kernel, by decide⟩
theorem mk_36 : ak_mok q_36 := ⟨ak_wc_2 160 (by decide +kernel) (by decide +kernel), ak_wc_1 10 (by decide +kernel) (by decide +kernel), ⟨by decide, by decide⟩, by decide +kernel, by decide⟩
theorem mk_37 : ak_mok q_37 := ⟨ak_wc_2 163 (by decide +kernel) (by decide +kernel), ak_wc_1 10 (by decide +kernel) (by decide +kernel), ⟨by decide, by decide⟩, by decide +kernel, by decide⟩
theorem mk_38 : ak_mok q_38 := ⟨ak_wc_2 166 (by decide +kernel) (by decide +kernel), ak_wc_1 10 (by decide +kernel) (by decide +kernel), ⟨by decide, by decide⟩, by decide +kernel, by decide⟩
theorem mk_39 : ak_mok q_39 := ⟨ak_wc_2 170 (by decide +kernel) (by decide +kernel), ak_wc_1 3 (by decide +kernel) (by decide +kernel), ⟨by decide, by decide⟩, by decide +kernel, by decide⟩
theorem mk_40 : ak_mok q_40 := ⟨ak_wc_2 177 (by decide +kernel) (by decide +kernel), ak_wc_1 9 (by decide +kernel) (by decide +kernel), ⟨by decide, by decide⟩, by decide +kernel, by decide⟩
theorem mk_41 : ak_mok q_41 := ⟨ak_wc_2 180 (by decide +kernel) (by decide +kernel), ak_wc_1 8 (by decide +kernel) (by decide +kernel), ⟨by decide, by decide⟩, by decide +kernel, by decide⟩
theorem mk_42 : ak_mok q_42 := ⟨ak_wc_2 183 (by decide +kernel) (by decide +kernel), ak_wc_1 7 (by decide +kernel) (by decide +kernel), ⟨by decide, by decide⟩, by decide +kernel, by decide⟩
theorem mk_43 : ak_mok q_43 := ⟨ak_wc_2 190 (by decide +kernel) (by decide +kernel), ak_wc_1 6 (by decide +kernel) (by decide +kernel), ⟨by decide, by decide⟩, by decide +kernel, by decide⟩
theorem mk_44 : ak_mok q_44 := ⟨ak_wc_2 194 (by decide +kernel) (by decide +kernel), ak_wc_1 4 (by decide +kernel) (by decide +kernel), ⟨by decide, by decide⟩, by decide +kernel, by decide⟩
theorem mk_45 : ak_mok q_45 := ⟨ak_wc_2 195 (by decide +kernel) (by decide +kernel), ak_wc_1 4 (by decide +kernel) (by decide +kernel), ⟨by decide, by decide⟩, by decide +kernel, by decide⟩
theorem mk_46 : ak_mok q_46 := ⟨ak_wc_2 199 (by decide +kernel) (by decide +kernel), ak_wc_1 1 (by decide +kernel) (by decide +kernel), ⟨by decide, by decide⟩, by decide +kernel, by decide⟩
theorem mk_47 : ak_mok q_47 := ⟨ak_wc_2 203 (by decide +kernel) (by decide +kernel), ak_wc_1 3 (by decide +kernel) (by decide +kernel), ⟨by decide, by decide⟩, by decide +kernel, by decide⟩
theorem mk_48 : ak_mok q_48 := ⟨ak_wc_2 207 (by decide +kernel) (by decide +kernel), ak_wc_1 3 (by decide +kernel) (by decide +kernel), ⟨by decide, by decide⟩, by decide +kernel, by decide⟩
theorem mk_49 : ak_mok q_49 := ⟨ak_wc_2 218 (by decide +kernel) (by decide +kernel), ak_wc_1 9 (by decide +kernel) (by decide +kernel), ⟨by decide, by decide⟩, by decide +kernel, by decide⟩
theorem mk_50 : ak_mok q_50 := ⟨ak_wc_2 221 (by decide +kernel) (by decide +kernel), ak_wc_1 8 (by decide +kernel) (by decide +kernel), ⟨by decide, by decide⟩, by decide +kernel, by decide⟩
theorem mk_51 : ak_mok q_51 := ⟨ak_wc_2 224 (by decide +kernel) (by decide +kernel), ak_wc_1 6 (by decide +kernel) (by decide +kernel), ⟨by decide, by decide⟩, by decide +kernel, by decide⟩
theorem mk_52 : ak_mok q_52 := ⟨ak_wc_2 228 (by decide +kernel) (by decide +kernel), ak_wc_1 7 (by decide +kernel) (by decide +kernel), ⟨by decide, by decide⟩, by decide +kernel, by decide⟩
theorem mk_53 : ak_mok q_53 := ⟨ak_wc_2 231 (by decide +kernel) (by decide +kernel), ak_wc_1 5 (by decide +kernel) (by decide +kernel), ⟨by decide, by decide⟩, by decide +kernel, by decide⟩
theorem mk_54 : ak_mok q_54 := ⟨ak_wc_2 237 (by decide +kernel) (by decide +kernel), ak_wc_1 4 (by decide +kernel) (by decide +kernel), ⟨by decide, by decide⟩, by decide +kernel, by decide⟩
theorem mk_55 : ak_mok q_55 := ⟨ak_wc_3 1 (by decide +kernel) (by decide +kernel), ak_wc_1 3 (by decide +kernel) (by decide +kernel), ⟨by decide, by decide⟩, by decide +kernel, by decide⟩
theorem mk_56 : ak_mok q_56 := ⟨ak_wc_3 9 (by decide +kernel) (by decide +kernel), ak_wc_1 9 (by decide +kernel) (by decide +kernel), ⟨by decide, by decide⟩, by decide +kernel, by decide⟩
theorem mk_57 : ak_mok q_57 := ⟨ak_wc_3 13 (by decide +kernel) (by decide +kernel), ak_wc_1 8 (by decide +kernel) (by decide +kernel), ⟨by decide, by decide⟩, by decide +kernel, by decide⟩
theorem mk_58 : ak_mok q_58 := ⟨ak_wc_3 16 (by decide +kernel) (by decide +kernel), ak_wc_1 5 (by decide +kernel) (by decide +kernel), ⟨by decide, by decide⟩, by decide +kernel, by decide⟩
theorem mk_59 : ak_mok q_59 := ⟨ak_wc_3 20 (by decide +kernel) (by decide +kernel), ak_wc_1 6 (by decide +kernel) (by decide +kernel), ⟨by decide, by decide⟩, by decide +kernel, by decide⟩
theorem mk_60 : ak_mok q_60 := ⟨ak_wc_3 21 (by decide +kernel) (by decide +kernel), ak_wc_1 4 (by decide +kernel) (by decide +kernel), ⟨by decide, by decide⟩, by decide +kernel, by decide⟩
theorem mk_61 : ak_mok q_61 := ⟨ak_wc_3 25 (by decide +kernel) (by decide +kernel), ak_wc_1 1 (by decide +kernel) (by decide +kernel), ⟨by decide, by decide⟩, by decide +kernel, by decide⟩
theorem mk_62 : ak_mok q_62 := ⟨ak_wc_3 31 (by decide +kernel) (by decide +kernel), ak_wc_1 1 (by decide +kernel) (by decide +kernel), ⟨by decide, by decide⟩, by decide +kernel, by decide⟩
theorem mk_63 : ak_mok q_63 := ⟨ak_wc_3 35 (by decide +kernel) (by decide +kernel), ak_wc_1 1 (by decide +kernel) (by decide +kernel), ⟨by decide, by decide⟩, by decide +kernel, by decide⟩
theorem mk_64 : ak_mok q_64 := ⟨ak_wc_3 40 (by decide +kernel) (by decide +kernel), ak_wc_1 10 (by decide +kernel) (by decide +kernel), ⟨by decide, by decide⟩, by decide +kernel, by decide⟩
theorem mk_65 : ak_mok q_65 := ⟨ak_wc_3 45 (by decide +kernel) (by decide +kernel), ak_wc_1 10 (by decide +kernel) (by decide +kernel), ⟨by decide, by decide⟩, by decide +kernel, by decide⟩
theorem mk_66 : ak_mok q_66 := ⟨ak_wc_3 49 (by decide +kernel) (by decide +kernel), ak_wc_1 10 (by decide +kernel) (by decide +kernel), ⟨by decide, by decide⟩, by decide +kernel, by decide⟩
theorem mk_67 : ak_mok q_67 := ⟨ak_wc_3 53 (by decide +kernel) (by decide +kernel), ak_wc_1 10 (by decide +kernel) (by decide +kernel), ⟨by decide, by decide⟩, by decide +kernel, by decide⟩
theorem mk_68 : ak_mok q_68 := ⟨ak_wc_3 57 (by decide +kernel) (by decide +kernel), ak_wc_1 10 (by decide +kernel) (by decide +kernel), ⟨by decide, by decide⟩, by decide +kernel, by decide⟩
theorem mk_69 : ak_mok q_69 := ⟨ak_wc_3 61 (by decide +kernel) (by decide +kernel), ak_wc_1 10 (by decide +kernel) (by decide +kernel), ⟨by decide, by decide⟩, by decide +kernel, by decide⟩
theorem mk_70 : ak_mok q_70 := ⟨ak_wc_3 66 (by decide +kernel) (by decide +kernel), ak_wc_1 10 (by decide +kernel) (by decide +kernel), ⟨by decide, by decide⟩, by decide +kernel, by decide⟩
theorem mk_71 : ak_mok q_71 := ⟨ak_wc_3 70 (by decide +kernel) (by decide +kernel), ak_wc_1 15 (by decide +kernel) (by decide +kernel), ⟨by decide, by decide⟩, by decide +kernel, by decide⟩
theorem mk_72 : ak_mok q_72 := ⟨ak_wc_3 74 (by decide +kernel) (by decide +kernel), ak_wc_1 15 (by decide +kernel) (by decide +kernel), ⟨by decide, by decide⟩, by decide +kernel, by decide⟩
theorem mk_73 : ak_mok q_73 := ⟨ak_wc_3 80 (by decide +kernel) (by decide +kernel), ak_wc_1 15 (by decide +kernel) (by decide +kernel), ⟨by decide, by decide⟩, by decide +kernel, by decide⟩
theorem mk_74 : ak_mok q_74 := ⟨ak_wc_3 84 (by decide +kernel) (by decide +kernel), ak_wc_1 15 (by decide +kernel) (by decide +kernel), ⟨by decide, by decide⟩, by decide +kernel, by decide⟩
theorem mk_75 : ak_mok q_75 := ⟨ak_wc_3 87 (by decide +kernel) (by decide +kernel), ak_wc_1 16 (by decide +kernel) (by decide +kernel), ⟨by decide, by decide⟩, by decide +kernel, by decide⟩
theorem mk_76 : ak_mok q_76 := ⟨ak_wc_3 90 (by decide +kernel) (by decide +kernel), ak_wc_1 15 (by decide +kernel) (by decide +kernel), ⟨by decide, by decide⟩, by decide +kernel, by decide⟩
theorem mk_77 : ak_mok q_77 := ⟨ak_wc_3 95 (by decide +kernel) (by decide +kernel), ak_wc_1 17 (by decide +kernel) (by decide +kernel), ⟨by decide, by decide⟩, by decide +kernel, by decide⟩
theorem mk_78 : ak_mok q_78 := ⟨ak_wc_3 98 (by decide +kernel) (by decide +kernel), ak_wc_1 18 (by decide +kernel) (by decide +kernel), ⟨by decide, by decide⟩, by decide +kernel, by decide⟩
theorem mk_79 : ak_mok q_79 := ⟨ak_wc_3 101 (by decide +kernel) (by decide +kernel), ak_wc_1 18 (by decide +kernel) (by decide +kernel), ⟨by decide, by decide⟩, by decide +kernel, by decide⟩
theorem mk_80 : ak_mok q_80 := ⟨ak_wc_3 104 (by decide +kernel) (by decide +kernel), ak_wc_1 18 (by decide +kernel) (by decide +kernel), ⟨by decide, by decide⟩, by decide +kernel, by decide⟩
theorem mk_81 : ak_mok q_81 := ⟨ak_wc_3 108 (by decide +kernel) (by decide +kernel), ak_wc_1 18 (by decide +kernel) (by decide +kernel), ⟨by decide, by decide⟩, by decide +kernel, by decide⟩
theorem mk_82 : ak_mok q_82 := ⟨ak_wc_3 123 (by decide +kernel) (by decide +kernel), ak_wc_1 10 (by decide +kernel) (by decide +kernel), ⟨by decide, by decide⟩, by decide +kernel, by decide⟩
theorem mk_83 : ak_mok q_83 := ⟨ak_wc_3 133 (by decide +kernel) (by decide +kernel), ak_wc_1 10 (by decide +kernel) (by decide +kernel), ⟨by decide, by decide⟩, by decide +kernel, by decide⟩
theorem mk_84 : ak_mok q_84 := ⟨ak_wc_3 137 (by decide +kernel) (by decide +kernel), ak_wc_1 10 (by decide +kernel) (by decide +kernel), ⟨by decide, by decide⟩, by decide +kernel, by decide⟩
theorem mk_85 : ak_mok q_85 := ⟨ak_wc_3 141 (by decide +kernel) (by decide +kernel), ak_wc_1 10 (by decide +kernel) (by decide +kernel), ⟨by decide, by decide⟩, by decide +kernel, by decide⟩
theorem mk_86 : ak_mok q_86 := ⟨ak_wc_3 145 (by decide +kernel) (by decide +kernel), ak_wc_1 10 (by decide +kernel) (by decide +kernel), ⟨by decide, by decide⟩, by decide +kernel, by decide⟩
theorem mk_87 : ak_mok q_87 := ⟨ak_wc_3 149 (by decide +kernel) (by decide +kernel), ak_wc_1 10 (by decide +kernel) (by decide +kernel), ⟨by decide, by decide⟩, by decide +kernel, by decide⟩
theorem mk_88 : ak_mok q_88 := ⟨ak_wc_3 153 (by decide +kernel) (by decide +kernel), ak_wc_1 10 (by decide +kernel) (by decide +kernel), ⟨by decide, by decide⟩, by decide +kernel, by decide⟩
theorem mk_89 : ak_mok q_89 := ⟨ak_wc_3 157 (by decide +kernel) (by decide +kernel), ak_wc_1 10 (by decide +kernel) (by decide +kernel), ⟨by decide, by decide⟩, by decide +kernel, by decide⟩
theorem mk_90 : ak_mok q_90 := ⟨ak_wc_3 161 (by decide +kernel) (by decide +kernel), ak_wc_1 10 (by decide +kernel) (by decide +kernel), ⟨by decide, by decide⟩, by decide +kernel, by decide⟩
theorem mk_91 : ak_mok q_91 := ⟨ak_wc_3 165 (by decide +kernel) (by decide +kernel), ak_wc_1 10 (by decide +kernel) (by decide +kernel), ⟨by decide, by decide⟩, by decide +kernel, by decide⟩
theorem mk_92 : ak_mok q_92 := ⟨ak_wc_3 169 (by decide +kernel) (by decide +kernel), ak_wc_1 10 (by decide +kernel) (by decide +kernel), ⟨by decide, by decide⟩, by decide +kernel, by decide⟩
theorem mk_93 : ak_mok q_93 := ⟨ak_wc_3 173 (by decide +kernel) (by decide +kernel), ak_wc_1 10 (by decide +kernel) (by decide +kernel), ⟨by decide, by decide⟩, by decide +kernel, by decide⟩
theorem mk_94 : ak_mok q_94 := ⟨ak_wc_3 177 (by decide +kernel) (by decide +kernel), ak_wc_1 10 (by decide +kernel) (by decide +kernel), ⟨by decide, by decide⟩, by decide +kernel, by decide⟩
theorem mk_95 : ak_mok q_95 := ⟨ak_wc_3 182 (by decide +kernel) (by decide +kernel), ak_wc_1 10 (by decide +kernel) (by decide +kernel), ⟨by decide, by decide⟩, by decide +kernel, by decide⟩
theorem mk_96 : ak_mok q_96 := ⟨ak_wc_3 186 (by decide +kernel) (by decide +kernel), ak_wc_1 10 (by decide +kernel) (by decide +kernel), ⟨by decide, by decide⟩, by decide +kernel, by decide⟩
theorem mk_97 : ak_mok q_97 := ⟨ak_wc_3 192 (by decide +kernel) (by decide +kernel), ak_wc_1 1 (by decide +kernel) (by decide +kernel), ⟨by decide, by decide⟩, by decide +kernel, by decide⟩
theorem mk_98 : ak_mok q_98 := ⟨ak_wc_3 196 (by decide +kernel) (by decide +kernel), ak_wc_1 1 (by decide +kernel) (by decide +kernel), ⟨by decide, by decide⟩, by decide +kernel, by decide⟩
theorem mk_99 : ak_mok q_99 := ⟨ak_wc_3 201 (by decide +kernel) (by decide +kernel), ak_wc_1 11 (by decide +kernel) (by decide +kernel), ⟨by decide, by decide⟩, by decide +kernel, by decide⟩
theorem mk_100 : ak_mok q_100 := ⟨ak_wc_3 205 (by decide +kernel) (by decide +kernel), ak_wc_1 2 (by decide +kernel) (by decide +kernel), ⟨by decide, by decide⟩, by decide +kernel, by decide⟩
theorem mk_101 : ak_mok q_101 := ⟨ak_wc_3 208 (by decide +kernel) (by decide +kernel), ak_wc_1 19 (by decide +kernel) (by decide +kernel), ⟨by decide, by decide⟩, by decide +kernel, by decide⟩
theorem mk_102 : ak_mok q_102 := ⟨ak_wc_3 216 (by decide +kernel) (by decide +kernel), ak_wc_1 11 (by decide +kernel) (by decide +kernel), ⟨by decide, by decide⟩, by decide +kernel, by decide⟩
theorem mk_103 : ak_mok q_103 := ⟨ak_wc_3 223 (by decide +kernel) (by decide +kernel), ak_wc_1 11 (by decide +kernel) (by decide +kernel), ⟨by decide, by decide⟩, by decide +kernel, by decide⟩
theorem mk_104 : ak_mok q_104 := ⟨ak_wc_3 227 (by decide +kernel) (by decide +kernel), ak_wc_1 11 (by decide +kernel) (by decide +kernel), ⟨by decide, by decide⟩, by decide +kernel, by decide⟩
theorem mk_105 : ak_mok q_105 := ⟨ak_wc_3 232 (by decide +kernel) (by decide +kernel), ak_wc_1 11 (by decide +kernel) (by decide +kernel), ⟨by decide, by decide⟩, by decide +kernel, by decide⟩
theorem mk_106 : ak_mok q_106 := ⟨ak_wc_3 236 (by decide +kernel) (by decide +kernel), ak_wc_1 11 (by decide +kernel) (by decide +kernel), ⟨by decide, by decide⟩, by decide +kernel, by decide⟩
theorem mk_107 : ak_mok q_107 := ⟨ak_wc_4 0 (by decide +kernel) (by decide +kernel), ak_wc_1 11 (by decide +kernel) (by decide +kernel), ⟨by decide, by decide⟩, by decide +kernel, by decide⟩
theorem mk_108 : ak_mok q_108 := ⟨ak_wc_4 4 (by decide +kernel) (by decide +kernel), ak_wc_1 11 (by decide +kernel) (by decide +kernel), ⟨by decide, by decide⟩, by decide +kernel, by decide⟩
theorem mk_109 : ak_mok q_109 := ⟨ak_wc_4 9 (by decide +kernel) (by decide +kernel), ak_wc_1 11 (by decide +kernel) (by decide +kernel), ⟨by decide, by decide⟩, by decide +kernel, by decide⟩
theorem mk_110 : ak_mok q_110 := ⟨ak_wc_4 14 (by decide +kernel) (by decide +kernel), ak_wc_1 1 (by decide +kernel) (by decide +kernel), ⟨by decide, by decide⟩, by decide +kernel, by decide⟩
theorem mk_111 : ak_mok q_111 := ⟨ak_wc_4 19 (by decide +kernel) (by decide +kernel), ak_wc_1 2 (by decide +kernel) (by decide +kernel), ⟨by decide, by decide⟩, by decide +kernel, by decide⟩
theorem mk_112 : ak_mok q_112 := ⟨ak_wc_4 23 (by decide +kernel) (by decide +kernel), ak_wc_1 1 (by decide +kernel) (by decide +kernel), ⟨by decide, by decide⟩, by decide +kernel, by decide⟩
theorem mk_113 : ak_mok q_113 := ⟨ak_wc_4 27 (by decide +kernel) (by decide +kernel), ak_wc_1 11 (by decide +kernel) (by decide +kernel), ⟨by decide, by decide⟩, by decide +kernel, by decide⟩
theorem mk_114 : ak_mok q_114 := ⟨ak_wc_4 31 (by decide +kernel) (by decide +kernel), ak_wc_1 11 (by decide +kernel) (by decide +kernel), ⟨by decide, by decide⟩, by decide +kernel, by decide⟩
theorem mk_115 : ak_mok q_115 := ⟨ak_wc_4 35 (by decide +kernel) (by decide +kernel), ak_wc_1 11 (by decide +kernel) (by decide +kernel), ⟨by decide, by decide⟩, by decide +kernel, by decide⟩
theorem mk_116 : ak_mok q_116 := ⟨ak_wc_4 41 (by decide +kernel) (by decide +kernel), ak_wc_1 11 (by decide +kernel) (by decide +kernel), ⟨by decide, by decide⟩, by decide +kernel, by decide⟩
theorem mk_117 : ak_mok q_117 := ⟨ak_wc_4 45 (by decide +kernel) (by decide +kernel), ak_wc_1 11 (by decide +kernel) (by decide +kernel), ⟨by decide, by decide⟩, by decide +kernel, by decide⟩
theorem mk_118 : ak_mok q_118 := ⟨ak_wc_4 49 (by decide +kernel) (by decide +kernel), ak_wc_1 11 (by decide +kernel) (by decide +kernel), ⟨by decide, by decide⟩, by decide +kernel, by decide⟩
theorem mk_119 : ak_mok q_119 := ⟨ak_wc_4 53 (by decide +kernel) (by decide +kernel), ak_wc_1 11 (by decide +kernel) (by decide +kernel), ⟨by decide, by decide⟩, by decide +kernel, by decide⟩
theorem mk_120 : ak_mok q_120 := ⟨ak_wc_4 58 (by decide +kernel) (by decide +kernel), ak_wc_1 11 (by decide +kernel) (by decide +kernel), ⟨by decide, by decide⟩, by decide +kernel, by decide⟩
theorem mk_121 : ak_mok q_121 := ⟨ak_wc_4 62 (by decide +kernel) (by decide +kernel), ak_wc_1 11 (by decide +kernel) (by decide +kernel), ⟨by decide, by decide⟩, by decide +kernel, by decide⟩
theorem mk_122 : ak_mok q_122 := ⟨ak_wc_4 66 (by decide +kernel) (by decide +kernel), ak_wc_1 1 (by decide +kernel) (by decide +kernel), ⟨by decide, by decide⟩, by decide +kernel, by decide⟩
theorem mk_123 : ak_mok q_123 := ⟨ak_wc_4 70 (by decide +kernel) (by decide +kernel), ak_wc_1 11 (by decide +kernel) (by decide +kernel), ⟨by decide, by decide⟩, by decide +kernel, by decide⟩
theorem mk_124 : ak_mok q_124 := ⟨ak_wc_4 74 (by decide +kernel) (by decide +kernel), ak_wc_1 11 (by decide +kernel) (by decide +kernel), ⟨by decide, by decide⟩, by decide +kernel, by decide⟩
theorem mk_125 : ak_mok q_125 := ⟨ak_wc_4 79 (by decide +kernel) (by decide +kernel), ak_wc_1 11 (by decide +kernel) (by decide +kernel), ⟨by decide, by decide⟩, by decide +kernel, by decide⟩
theorem mk_126 : ak_mok q_126 := ⟨ak_wc_4 83 (by decide +kernel) (by decide +kernel), ak_wc_1 11 (by decide +kernel) (by decide +kernel), ⟨by decide, by decide⟩, by decide +kernel, by decide⟩
theorem mk_127 : ak_mok q_127 := ⟨ak_wc_4 87 (by decide +kernel) (by decide +kernel), ak_wc_1 1 (by decide +kernel) (by decide +kernel), ⟨by decide, by decide⟩, by decide +kernel, by decide⟩
theorem mk_128 : ak_mok q_128 := ⟨ak_wc_4 91 (by decide +kernel) (by decide +kernel), ak_wc_1 11 (by decide +kernel) (by decide +kernel), ⟨by decide, by decide⟩, by decide +kernel, by decide⟩
theorem mk_129 : ak_mok q_129 := ⟨ak_wc_4 96 (by decide +kernel) (by decide +kernel), ak_wc_1 11 (by decide +kernel) (by decide +kernel), ⟨by decide, by decide⟩, by decide +kernel, by decide⟩
theorem mk_130 : ak_mok q_130 := ⟨ak_wc_4 101 (by decide +kernel) (by decide +kernel), ak_wc_1 1 (by decide +kernel) (by decide +kernel), ⟨by decide, by decide⟩, by decide +kernel, by decide⟩
theorem mk_131 : ak_mok q_131 := ⟨ak_wc_4 105 (by decide +kernel) (by decide +kernel), ak_wc_1 11 (by decide +kernel) (by decide +kernel), ⟨by decide, by decide⟩, by decide +kernel, by decide⟩
theorem mk_132 : ak_mok q_132 := ⟨ak_wc_4 109 (by decide +kernel) (by decide +kernel), ak_wc_1 11 (by decide +kernel) (by decide +kernel), ⟨by decide, by decide⟩, by decide +kernel, by decide⟩
theorem mk_133 : ak_mok q_133 := ⟨ak_wc_4 113 (by decide +kernel) (by decide +kernel), ak_wc_1 1 (by decide +kernel) (by decide +kernel), ⟨by decide, by decide⟩, by decide +kernel, by decide⟩
theorem mk_134 : ak_mok q_134 := ⟨ak_wc_4 117 (by decide +kernel) (by decide +kernel), ak_wc_1 11 (by decide +kernel) (by decide +kernel), ⟨by decide, by decide⟩, by decide +kernel, by decide⟩
theorem mk_135 : ak_mok q_135 := ⟨ak_wc_4 121 (by decide +kernel) (by decide +kernel), ak_wc_1 1 (by decide +kernel) (by decide +kernel), ⟨by decide, by decide⟩, by decide +kernel, by decide⟩
theorem mk_136 : ak_mok q_136 := ⟨ak_wc_4 124 (by decide +kernel) (by decide +kernel), ak_wc_1 1 (by decide +kernel) (by decide +kernel), ⟨by decide, by decide⟩, by decide +kernel, by decide⟩
theorem mk_137 : ak_mok q_137 := ⟨ak_wc_4 128 (by decide +kernel) (by decide +kernel), ak_wc_1 12 (by decide +kernel) (by decide +kernel), ⟨by decide, by decide⟩, by decide +kernel, by decide⟩
theorem mk_138 : ak_mok q_138 := ⟨ak_wc_4 132 (by decide +kernel) (by decide +kernel), ak_wc_1 2 (by decide +kernel) (by decide +kernel), ⟨by decide, by decide⟩, by decide +kernel, by decide⟩
theorem mk_139 : ak_mok q_139 := ⟨ak_wc_4 136 (by decide +kernel) (by decide +kernel), ak_wc_1 1 (by decide +kernel) (by decide +kernel), ⟨by decide, by decide⟩, by decide +kernel, by decide⟩
theorem mk_140 : ak_mok q_140 := ⟨ak_wc_4 140 (by decide +kernel) (by decide +kernel), ak_wc_1 1 (by decide +kernel) (by decide +kernel), ⟨by decide, by decide⟩, by decide +kernel, by decide⟩
theorem mk_141 : ak_mok q_141 := ⟨ak_wc_4 144 (by decide +kernel) (by decide +kernel), ak_wc_1 1 (by decide +kernel) (by decide +kernel), ⟨by decide, by decide⟩, by decide +kernel, by decide⟩
theorem mk_142 : ak_mok q_142 := ⟨ak_wc_4 148 (by decide +kernel) (by decide +kernel), ak_wc_1 1 (by decide +kernel) (by decide +kernel), ⟨by decide, by decide⟩, by decide +kernel, by decide⟩
theorem mk_143 : ak_mok q_143 := ⟨ak_wc_4 152 (by decide +kernel) (by decide +kernel), ak_wc_1 1 (by decide +kernel) (by decide +kernel), ⟨by decide, by decide⟩, by decide +kernel, by decide⟩
theorem mk_144 : ak_mok q_144 := ⟨ak_wc_4 156 (by decide +kernel) (by decide +kernel), ak_wc_1 1 (by decide +kernel) (by decide +kernel), ⟨by decide, by decide⟩, by decide +kernel, by decide⟩
theorem mk_145 : ak_mok q_145 := ⟨ak_wc_4 160 (by decide +kernel) (by decide +kernel), ak_wc_1 1 (by decide +kernel) (by decide +kernel), ⟨by decide, by decide⟩, by decide +kernel, by decide⟩
theorem mk_146 : ak_mok q_146 := ⟨ak_wc_4 164 (by decide +kernel) (by decide +kernel), ak_wc_1 1 (by decide +kernel) (by decide +kernel), ⟨by decide, by decide⟩, by decide +kernel, by decide⟩
theorem mk_147 : ak_mok q_147 := ⟨ak_wc_4 168 (by decide +kernel) (by decide +kernel), ak_wc_1 12 (by decide +kernel) (by decide +kernel), ⟨by decide, by decide⟩, by decide +kernel, by decide⟩
theorem mk_148 : ak_mok q_148 := ⟨ak_wc_4 174 (by decide +kernel) (by decide +kernel), ak_wc_1 12 (by decide +kernel) (by decide +kernel), ⟨by decide, by decide⟩, by decide +kernel, by decide⟩
theorem mk_149 : ak_mok q_149 := ⟨ak_wc_4 178 (by decide +kernel) (by decide +kernel), ak_wc_1 12 (by decide +kernel) (by decide +kernel), ⟨by decide, by decide⟩, by decide +kernel, by decide⟩
theorem mk_150 : ak_mok q_150 := ⟨ak_wc_4 182 (by decide +kernel) (by decide +kernel), ak_wc_1 1 (by decide +kernel) (by decide +kernel), ⟨by decide, by decide⟩, by decide +kernel, by decide⟩
theorem mk_151 : ak_mok q_151 := ⟨ak_wc_4 186 (by decide +kernel) (by decide +kernel), ak_wc_1 1 (by decide +kernel) (by decide +kernel), ⟨by decide, by decide⟩, by decide +kernel, by decide⟩
theorem mk_152 : ak_mok q_152 := ⟨ak_wc_4 191 (by decide +kernel) (by decide +kernel), ak_wc_1 1 (by decide +kernel) (by decide +kernel), ⟨by decide, by decide⟩, by decide +kernel, by decide⟩
theorem mk_153 : ak_mok q_153 := ⟨ak_wc_4 195 (by decide +kernel) (by decide +kernel), ak_wc_1 1 (by decide +kernel) (by decide +kernel), ⟨by decide, by decide⟩, by decide +kernel, by decide⟩
theorem mk_154 : ak_mok q_154 := ⟨ak_wc_4 199 (by decide +kernel) (by decide +kernel), ak_wc_1 1 (by decide +kernel) (by decide +kernel), ⟨by decide, by decide⟩, by decide +kernel, by decide⟩
theorem mk_155 : ak_mok q_155 := ⟨ak_wc_4 203 (by decide +kernel) (by decide +kernel), ak_wc_1 1 (by decide +kernel) (by decide +kernel), ⟨by decide, by decide⟩, by decide +kernel, by decide⟩
theorem mk_156 : ak_mok q_156 := ⟨ak_wc_4 207 (by decide +kernel) (by decide +kernel), ak_wc_1 1 (by decide +kernel) (by decide +kernel), ⟨by decide, by decide⟩, by decide +kernel, by decide⟩
theorem mk_157 : ak_mok q_157 := ⟨ak_wc_4 211 (by decide +kernel) (by decide +kernel), ak_wc_1 2 (by decide +kernel) (by decide +kernel), ⟨by decide, by decide⟩, by decide +kernel, by decide⟩
theorem mk_158 : ak_mok q_158 := ⟨ak_wc_4 215 (by decide +kernel) (by decide +kernel), ak_wc_1 2 (by decide +kernel) (by decide +kernel), ⟨by decide, by decide⟩, by decide +kernel, by decide⟩
theorem mk_159 : ak_mok q_159 := ⟨ak_wc_4 219 (by decide +kernel) (by decide +kernel), ak_wc_1 1 (by decide +kernel) (by decide +kernel), ⟨by decide, by decide⟩, by decide +kernel, by decide⟩
theorem mk_160 : ak_mok q_160 := ⟨ak_wc_4 222 (by decide +kernel) (by decide +kernel), ak_wc_1 12 (by decide +kernel) (by decide +kernel), ⟨by decide, by decide⟩, by decide +kernel, by decide⟩
theorem mk_161 : ak_mok q_161 := ⟨ak_wc_4 226 (by decide +kernel) (by decide +kernel), ak_wc_1 1 (by decide +kernel) (by decide +kernel), ⟨by decide, by decide⟩, by decide +kernel, by decide⟩
theorem mk_162 : ak_mok q_162 := ⟨ak_wc_4 231 (by decide +kernel) (by decide +kernel), ak_wc_1 1 (by decide +kernel) (by decide +kernel), ⟨by decide, by decide⟩, by decide +kernel, by decide⟩
theorem mk_163 : ak_mok q_163 := ⟨ak_wc_4 238 (by decide +kernel) (by decide +kernel), ak_wc_1 1 (by decide +kernel) (by decide +kernel), ⟨by decide, by decide⟩, by decide +kernel, by decide⟩
theorem mk_164 : ak_mok q_164 := ⟨ak_wc_5 3 (by decide +kernel) (by decide +kernel), ak_wc_1 1 (by decide +kernel) (by decide +kernel), ⟨by decide, by decide⟩, by decide +kernel, by decide⟩
theorem mk_165 : ak_mok q_165 := ⟨ak_wc_5 7 (by decide +kernel) (by decide +kernel), ak_wc_1 3 (by decide +kernel) (by decide +kernel), ⟨by decide, by decide⟩, by decide +kernel, by decide⟩
theorem mk_166 : ak_mok q_166 := ⟨ak_wc_5 12 (by decide +kernel) (by decide +kernel), ak_wc_1 13 (by decide +kernel) (by decide +kernel), ⟨by decide, by decide⟩, by decide +kernel, by decide⟩
theorem mk_167 : ak_mok q_167 := ⟨ak_wc_5 17 (by decide +kernel) (by decide +kernel), ak_wc_1 13 (by decide +kernel) (by decide +kernel), ⟨by decide, by decide⟩, by decide +kernel, by decide⟩
theorem mk_168 : ak_mok q_168 := ⟨ak_wc_5 153 (by decide +kernel) (by decide +kernel), ak_wc_1 13 (by decide +kernel) (by decide +kernel), ⟨by decide, by decide⟩, by decide +kernel, by decide⟩
theorem mk_169 : ak_mok q_169 := ⟨ak_wc_5 157 (by decide +kernel) (by decide +kernel), ak_wc_1 13 (by decide +kernel) (by decide +kernel), ⟨by decide, by decide⟩, by decide +kernel, by decide⟩
theorem mk_170 : ak_mok q_170 := ⟨ak_wc_5 161 (by decide +kernel) (by decide +kernel), ak_wc_1 13 (by decide +kernel) (by decide +kernel), ⟨by decide, by decide⟩, by decide +kernel, by decide⟩
theorem mk_171 : ak_mok q_171 := ⟨ak_wc_5 164 (by decide +kernel) (by decide +kernel), ak_wc_1 13 (by decide +kernel) (by decide +kernel), ⟨by decide, by decide⟩, by decide +kernel, by decide⟩
theorem mk_172 : ak_mok q_172 := ⟨ak_wc_5 168 (by decide +kernel) (by decide +kernel), ak_wc_1 13 (by decide +kernel) (by decide +kernel), ⟨by decide, by decide⟩, by decide +kernel, by decide⟩
theorem mk_173 : ak_mok q_173 := ⟨ak_wc_5 177 (by decide +kernel) (by decide +kernel), ak_wc_1 13 (by decide +kernel) (by decide +kernel), ⟨by decide, by decide⟩, by decide +kernel, by decide⟩
theorem mk_174 : ak_mok q_174 := ⟨ak_wc_5 181 (by decide +kernel) (by decide +kernel), ak_wc_1 13 (by decide +kernel) (by decide +kernel), ⟨by decide, by decide⟩, by decide +kernel, by decide⟩
theorem mk_175 : ak_mok q_175 := ⟨ak_wc_5 185 (by decide +kernel) (by decide +kernel), ak_wc_1 13 (by decide +kernel) (by decide +kernel), ⟨by decide, by decide⟩, by decide +kernel, by decide⟩
theorem mk_176 : ak_mok q_176 := ⟨ak_wc_5 189 (by decide +kernel) (by decide +kernel), ak_wc_1 13 (by decide +kernel) (by decide +kernel), ⟨by decide, by decide⟩, by decide +kernel, by decide⟩
theorem mk_177 : ak_mok q_177 := ⟨ak_wc_5 193 (by decide +kernel) (by decide +kernel), ak_wc_1 13 (by decide +kernel) (by decide +kernel), ⟨by decide, by decide⟩, by decide +kernel, by decide⟩
theorem mk_178 : ak_mok q_178 := ⟨ak_wc_5 197 (by decide +kernel) (by decide +kernel), ak_wc_1 13 (by decide +kernel) (by decide +kernel), ⟨by decide, by decide⟩, by decide +kernel, by decide⟩
theorem mk_179 : ak_mok q_179 := ⟨ak_wc_5 205 (by decide +kernel) (by decide +kernel), ak_wc_1 13 (by decide +kernel) (by decide +kernel), ⟨by decide, by decide⟩, by decide +kernel, by decide⟩
theorem mk_180 : ak_mok q_180 := ⟨ak_wc_5 209 (by decide +kernel) (by decide +kernel), ak_wc_1 13 (by decide +kernel) (by decide +kernel), ⟨by decide, by decide⟩, by decide +kernel, by decide⟩
theorem mk_181 : ak_mok q_181 := ⟨ak_wc_5 213 (by decide +kernel) (by decide +kernel), ak_wc_1 13 (by decide +kernel) (by decide +kernel), ⟨by decide, by decide⟩, by decide +kernel, by decide⟩
theorem mk_182 : ak_mok q_182 := ⟨ak_wc_5 217 (by decide +kernel) (by decide +kernel), ak_wc_1 13 (by decide +kernel) (by decide +kernel), ⟨by decide, by decide⟩, by decide +kernel, by decide⟩
theorem mk_183 : ak_mok q_183 := ⟨ak_wc_5 221 (by decide +kernel) (by decide +kernel), ak_wc_1 13 (by decide +kernel) (by decide +kernel), ⟨by decide, by decide⟩, by decide +kernel, by decide⟩
theorem mk_184 : ak_mok q_184 := ⟨ak_wc_5 225 (by decide +kernel) (by decide +kernel), ak_wc_1 13 (by decide +kernel) (by decide +kernel), ⟨by decide, by decide⟩, by decide +kernel, by decide⟩
theorem mk_185 : ak_mok q_185 := ⟨ak_wc_5 229 (by decide +kernel) (by decide +kernel), ak_wc_1 13 (by decide +kernel) (by decide +kernel), ⟨by decide, by decide⟩, by decide +kernel, by decide⟩
theorem mk_186 : ak_mok q_186 := ⟨ak_wc_5 233 (by decide +kernel) (by decide +kernel), ak_wc_1 13 (by decide +kernel) (by decide +kernel), ⟨by decide, by decide⟩, by decide +kernel, by decide⟩
theorem mk_187 : ak_mok q_187 := ⟨ak_wc_5 237 (by decide +kernel) (by decide +kernel), ak_wc_1 13 (by decide +kernel) (by decide +kernel), ⟨by decide, by decide⟩, by decide +kernel, by decide⟩
theorem mk_188 : ak_mok q_188 := ⟨ak_wc_6 1 (by decide +kernel) (by decide +kernel), ak_wc_1 13 (by decide +kernel) (by decide +kernel), ⟨by decide, by decide⟩, by decide +kernel, by decide⟩
theorem mk_189 : ak_mok q_189 := ⟨ak_wc_6 5 (by decide +kernel) (by decide +kernel), ak_wc_1 13 (by decide +kernel) (by decide +kernel), ⟨by decide, by decide⟩, by decide +kernel, by decide⟩
theorem mk_190 : ak_mok q_190 := ⟨ak_wc_6 9 (by decide +kernel) (by decide +kernel), ak_wc_1 13 (by decide +kernel) (by decide +kernel), ⟨by decide, by decide⟩, by decide +kernel, by decide⟩
theorem mk_191 : ak_mok q_191 := ⟨ak_wc_6 13 (by decide +kernel) (by decide +kernel), ak_wc_1 13 (by decide +kernel) (by decide +kernel), ⟨by decide, by decide⟩, by decide +kernel, by decide⟩
theorem mk_192 : ak_mok q_192 := ⟨ak_wc_6 18 (by decide +kernel) (by decide +kernel), ak_wc_1 13 (by decide +kernel) (by decide +kernel), ⟨by decide, by decide⟩, by decide +kernel, by decide⟩
theorem mk_193 : ak_mok q_193 := ⟨ak_wc_6 24 (by decide +kernel) (by decide +kernel), ak_wc_1 13 (by decide +kernel) (by decide +kernel), ⟨by decide, by decide⟩, by decide +kernel, by decide⟩
theorem mk_194 : ak_mok q_194 := ⟨ak_wc_6 28 (by decide +kernel) (by decide +kernel), ak_wc_1 13 (by decide +kernel) (by decide +kernel), ⟨by decide, by decide⟩, by decide +kernel, by decide⟩
theorem mk_195 : ak_mok q_195 := ⟨ak_wc_6 32 (by decide +kernel) (by decide +kernel), ak_wc_1 13 (by decide +kernel) (by decide +kernel), ⟨by decide, by decide⟩, by decide +kernel, by decide⟩
theorem mk_196 : ak_mok q_196 := ⟨ak_wc_6 36 (by decide +kernel) (by decide +kernel), ak_wc_1 13 (by decide +kernel) (by decide +kernel), ⟨by decide, by decide⟩, by decide +kernel, by decide⟩
theorem mk_197 : ak_mok q_197 := ⟨ak_wc_6 40 (by decide +kernel) (by decide +kernel), ak_wc_1 13 (by decide +kernel) (by decide +kernel), ⟨by decide, by decide⟩, by decide +kernel, by decide⟩
theorem mk_198 : ak_mok q_198 := ⟨ak_wc_6 44 (by decide +kernel) (by decide +kernel), ak_wc_1 13 (by decide +kernel) (by decide +kernel), ⟨by decide, by decide⟩, by decide +kernel, by decide⟩
theorem mk_199 : ak_mok q_199 := ⟨ak_wc_6 50 (by decide +kernel) (by decide +kernel), ak_wc_1 13 (by decide +kernel) (by decide +kernel), ⟨by decide, by decide⟩, by decide +kernel, by decide⟩
theorem mk_200 : ak_mok q_200 := ⟨ak_wc_6 54 (by decide +kernel) (by decide +kernel), ak_wc_1 13 (by decide +kernel) (by decide +kernel), ⟨by decide, by decide⟩, by decide +kernel, by decide⟩
theorem mk_201 : ak_mok q_201 := ⟨ak_wc_6 58 (by decide +kernel) (by decide +kernel), ak_wc_1 13 (by decide +kernel) (by decide +kernel), ⟨by decide, by decide⟩, by decide +kernel, by decide⟩
theorem mk_202 : ak_mok q_202 := ⟨ak_wc_6 61 (by decide +kernel) (by decide +kernel), ak_wc_1 13 (by decide +kernel) (by decide +kernel), ⟨by decide, by decide⟩, by decide +kernel, by decide⟩
theorem mk_203 : ak_mok q_203 := ⟨ak_wc_6 66 (by decide +kernel) (by decide +kernel), ak_wc_1 13 (by decide +kernel) (by decide +kernel), ⟨by decide, by decide⟩, by decide +kernel, by decide⟩
theorem mk_204 : ak_mok q_204 := ⟨ak_wc_6 71 (by decide +kernel) (by decide +kernel), ak_wc_1 13 (by decide +kernel) (by decide +kernel), ⟨by decide, by decide⟩, by decide +kernel, by decide⟩
theorem mk_205 : ak_mok q_205 := ⟨ak_wc_6 76 (by decide +kernel) (by decide +kernel), ak_wc_1 13 (by decide +kernel) (by decide +kernel), ⟨by decide, by decide⟩, by decide +kernel, by decide⟩
theorem mk_206 : ak_mok q_206 := ⟨ak_wc_6 80 (by decide +kernel) (by decide +kernel), ak_wc_1 13 (by decide +kernel) (by decide +kernel), ⟨by decide, by decide⟩, by decide +kernel, by decide⟩
theorem mk_207 : ak_mok q_207 := ⟨ak_wc_6 84 (by decide +kernel) (by decide +kernel), ak_wc_1 13 (by decide +kernel) (by decide +kernel), ⟨by decide, by decide⟩, by decide +kernel, by decide⟩
theorem mk_208 : ak_mok q_208 := ⟨ak_wc_6 91 (by decide +kernel) (by decide +kernel), ak_wc_1 13 (by decide +kernel) (by decide +kernel), ⟨by decide, by decide⟩, by decide +kernel, by decide⟩
theorem mk_209 : ak_mok q_209 := ⟨ak_wc_6 95 (by decide +kernel) (by decide +kernel), ak_wc_1 13 (by decide +kernel) (by decide +kernel), ⟨by decide, by decide⟩, by decide +kernel, by decide⟩
theorem mk_210 : ak_mok q_210 := ⟨ak_wc_6 99 (by decide +kernel) (by decide +kernel), ak_wc_1 13 (by decide +kernel) (by decide +kernel), ⟨by decide, by decide⟩, by decide +kernel, by decide⟩
theorem mk_211 : ak_mok q_211 := ⟨ak_wc_6 103 (by decide +kernel) (by decide +kernel), ak_wc_1 13 (by decide +kernel) (by decide +kernel), ⟨by decide, by decide⟩, by decide +kernel, by decide⟩
theorem mk_212 : ak_mok q_212 := ⟨ak_wc_6 107 (by decide +kernel) (by decide +kernel), ak_wc_1 13 (by decide +kernel) (by decide +kernel), ⟨by decide, by decide⟩, by decide +kernel, by decide⟩
theorem mk_213 : ak_mok q_213 := ⟨ak_wc_6 111 (by decide +kernel) (by decide +kernel), ak_wc_1 13 (by decide +kernel) (by decide +kernel), ⟨by decide, by decide⟩, by decide +kernel, by decide⟩
theorem mk_214 : ak_mok q_214 := ⟨ak_wc_6 114 (by decide +kernel) (by decide +kernel), ak_wc_1 13 (by decide +kernel) (by decide +kernel), ⟨by decide, by decide⟩, by decide +kernel, by decide⟩
theorem mk_215 : ak_mok q_215 := ⟨ak_wc_6 118 (by decide +kernel) (by decide +kernel), ak_wc_1 13 (by decide +kernel) (by decide +kernel), ⟨by decide, by decide⟩, by decide +kernel, by decide⟩
theorem mk_216 : ak_mok q_216 := ⟨ak_wc_6 122 (by decide +kernel) (by decide +kernel), ak_wc_1 13 (by decide +kernel) (by decide +kernel), ⟨by decide, by decide⟩, by decide +kernel, by decide⟩
theorem mk_217 : ak_mok q_217 := ⟨ak_wc_6 126 (by decide +kernel) (by decide +kernel), ak_wc_1 13 (by decide +kernel) (by decide +kernel), ⟨by decide, by decide⟩, by decide +kernel, by decide⟩
theorem mk_218 : ak_mok q_218 := ⟨ak_wc_6 130 (by decide +kernel) (by decide +kernel), ak_wc_1 13 (by decide +kernel) (by decide +kernel), ⟨by decide, by decide⟩, by decide +kernel, by decide⟩
theorem mk_219 : ak_mok q_219 := ⟨ak_wc_6 134 (by decide +kernel) (by decide +kernel), ak_wc_1 13 (by decide +kernel) (by decide +kernel), ⟨by decide, by decide⟩, by decide +kernel, by decide⟩
theorem mk_220 : ak_mok q_220 := ⟨ak_wc_6 138 (by decide +kernel) (by decide +kernel), ak_wc_1 13 (by decide +kernel) (by decide +kernel), ⟨by decide, by decide⟩, by decide +kernel, by decide⟩
theorem mk_221 : ak_mok q_221 := ⟨ak_wc_6 142 (by decide +kernel) (by decide +kernel), ak_wc_1 13 (by decide +kernel) (by decide +kernel), ⟨by decide, by decide⟩, by decide +kernel, by decide⟩
theorem mk_222 : ak_mok q_222 := ⟨ak_wc_6 146 (by decide +kernel) (by decide +kernel), ak_wc_1 13 (by decide +kernel) (by decide +kernel), ⟨by decide, by decide⟩, by decide +kernel, by decide⟩
theorem mk_223 : ak_mok q_223 := ⟨ak_wc_6 150 (by decide +kernel) (by decide +kernel), ak_wc_1 13 (by decide +kernel) (by decide +kernel), ⟨by decide, by decide⟩, by decide +kernel, by decide⟩
theorem mk_224 : ak_mok q_224 := ⟨ak_wc_6 154 (by decide +kernel) (by decide +kernel), ak_wc_1 13 (by decide +kernel) (by decide +kernel), ⟨by decide, by decide⟩, by decide +kernel, by decide⟩
theorem mk_225 : ak_mok q_225 := ⟨ak_wc_6 158 (by decide +kernel) (by decide +kernel), ak_wc_1 13 (by decide +kernel) (by decide +kernel), ⟨by decide, by decide⟩, by decide +kernel, by decide⟩
theorem mk_226 : ak_mok q_226 := ⟨ak_wc_6 162 (by decide +kernel) (by decide +kernel), ak_wc_1 13 (by decide +kernel) (by decide +kernel), ⟨by decide, by decide⟩, by decide +kernel, by decide⟩
theorem mk_227 : ak_mok q_227 := ⟨ak_wc_6 166 (by decide +kernel) (by decide +kernel), ak_wc_1 13 (by decide +kernel) (by decide +kernel), ⟨by decide, by decide⟩, by decide +kernel, by decide⟩
theorem mk_228 : ak_mok q_228 := ⟨ak_wc_6 170 (by decide +kernel) (by decide +kernel), ak_wc_1 13 (by decide +kernel) (by decide +kernel), ⟨by decide, by decide⟩, by decide +kernel, by decide⟩
theorem mk_229 : ak_mok q_229 := ⟨ak_wc_6 174 (by decide +kernel) (by decide +kernel), ak_wc_1 13 (by decide +kernel) (by decide +kernel), ⟨by decide, by decide⟩, by decide +kernel, by decide⟩
theorem mk_230 : ak_mok q_230 := ⟨ak_wc_6 177 (by decide +kernel) (by decide +kernel), ak_wc_1 13 (by decide +kernel) (by decide +kernel), ⟨by decide, by decide⟩, by decide +kernel, by decide⟩
theorem mk_231 : ak_mok q_231 := ⟨ak_wc_6 181 (by decide +kernel) (by decide +kernel), ak_wc_1 13 (by decide +kernel) (by decide +kernel), ⟨by decide, by decide⟩, by decide +kernel, by decide⟩
theorem mk_232 : ak_mok q_232 := ⟨ak_wc_6 185 (by decide +kernel) (by decide +kernel), ak_wc_1 13 (by decide +kernel) (by decide +kernel), ⟨by decide, by decide⟩, by decide +kernel, by decide⟩
theorem mk_233 : ak_mok q_233 := ⟨ak_wc_6 189 (by decide +kernel) (by decide +kernel), ak_wc_1 13 (by decide +kernel) (by decide +kernel), ⟨by decide, by decide⟩, by decide +kernel, by decide⟩
theorem mk_234 : ak_mok q_234 := ⟨ak_wc_6 194 (by decide +kernel) (by decide +kernel), ak_wc_1 13 (by decide +kernel) (by decide +kernel), ⟨by decide, by decide⟩, by decide +kernel, by decide⟩
theorem mk_235 : ak_mok q_235 := ⟨ak_wc_6 198 (by decide +kernel) (by decide +kernel), ak_wc_1 13 (by decide +kernel) (by decide +kernel), ⟨by decide, by decide⟩, by decide +kernel, by decide⟩
theorem mk_236 : ak_mok q_236 := ⟨ak_wc_6 203 (by decide +kernel) (by decide +kernel), ak_wc_1 13 (by decide +kernel) (by decide +kernel), ⟨by decide, by decide⟩, by decide +kernel, by decide⟩
theorem mk_237 : ak_mok q_237 := ⟨ak_wc_6 208 (by decide +kernel) (by decide +kernel), ak_wc_1 13 (by decide +kernel) (by decide +kernel), ⟨by decide, by decide⟩, by decide +kernel, by decide⟩
theorem mk_238 : ak_mok q_238 := ⟨ak_wc_6 212 (by decide +kernel) (by decide +kernel), ak_wc_1 13 (by decide +kernel) (by decide +kernel), ⟨by decide, by decide⟩, by decide +kernel, by decide⟩
theorem mk_239 : ak_mok q_239 := ⟨ak_wc_6 216 (by decide +kernel) (by decide +kernel), ak_wc_1 13 (by decide +kernel) (by decide +kernel), ⟨by decide, by decide⟩, by decide +kernel, by decide⟩
theorem mk_240 : ak_mok q_240 := ⟨ak_wc_6 221 (by decide +kernel) (by decide +kernel), ak_wc_1 13 (by decide +kernel) (by decide +kernel), ⟨by decide, by decide⟩, by decide +kernel, by decide⟩
theorem mk_241 : ak_mok q_241 := ⟨ak_wc_6 225 (by decide +kernel) (by decide +kernel), ak_wc_1 13 (by decide +kernel) (by decide +kernel), ⟨by decide, by decide⟩, by decide +kernel, by decide⟩
theorem mk_242 : ak_mok q_242 := ⟨ak_wc_6 229 (by decide +kernel) (by decide +kernel), ak_wc_1 13 (by decide +kernel) (by decide +kernel), ⟨by decide, by decide⟩, by decide +kernel, by decide⟩
theorem mk_243 : ak_mok q_243 := ⟨ak_wc_6 234 (by decide +kernel) (by decide +kernel), ak_wc_1 13 (by decide +kernel) (by decide +kernel), ⟨by decide, by decide⟩, by decide +kernel, by decide⟩
theorem mk_244 : ak_mok q_244 := ⟨ak_wc_6 237 (by decide +kernel) (by decide +kernel), ak_wc_1 13 (by decide +kernel) (by decide +kernel), ⟨by decide, by decide⟩, by decide +kernel, by decide⟩
theorem rk_RX11_3 : ak_okr RX11 3 (16, 0, 0, 0) := ak_wc_1 26 (by decide +kernel) (by decide +kernel)
theorem rk_RX11_9 : ak_okr RX11 9 (7, 8, 0, 0) := ⟨(RX8, TX8, 12), rfl, ak_wc_1 29 (by decide +kernel) (by decide +kernel)⟩
theorem rk_RX11_11 : ak_okr RX11 11 (14, 1, 0, 8) := ⟨q_1, (RX8, TX8, 12), rfl, mk_1, rfl, rfl, rfl, rfl, by decide +kernel, ak_wc_1 31 (by decide +kernel) (by decide +kernel), ak_wc_1 32 (by decide +kernel) (by decide +kernel)⟩
theorem rk_RX11_12 : ak_okr RX11 12 (1, 11, 0, 1) := ⟨(RX11, TX11, 9), rfl, by decide, ak_wc_2 33 (by decide +kernel) (by decide +kernel), by decide +kernel⟩
theorem rk_RX11_16 : ak_okr RX11 16 (1, 11, 1, 1) := ⟨(RX11, TX11, 9), rfl, by decide, ak_wc_2 34 (by decide +kernel) (by decide +kernel), by decide +kernel⟩
theorem rk_RX11_19 : ak_okr RX11 19 (1, 11, 2, 1) := ⟨(RX11, TX11, 9), rfl, by decide, ak_wc_2 35 (by decide +kernel) (by decide +kernel), by decide +kernel⟩
theorem rk_RX11_22 : ak_okr RX11 22 (1, 11, 4, 1) := ⟨(RX11, TX11, 9), rfl, by decide, ak_wc_2 37 (by decide +kernel) (by decide +kernel), by decide +kernel⟩
theorem rk_RX11_26 : ak_okr RX11 26 (7, 6, 0, 0) := ⟨(RX6, TX6, 5), rfl, ak_wc_1 91 (by decide +kernel) (by decide +kernel)⟩
theorem rk_RX11_28 : ak_okr RX11 28 (14, 2, 1, 6) := ⟨q_2, (RX6, TX6, 5), rfl, mk_2, rfl, rfl, rfl, rfl, by decide +kernel, ak_wc_1 93 (by decide +kernel) (by decide +kernel), ak_wc_1 94 (by decide +kernel) (by decide +kernel)⟩
theorem rk_RX11_31 : ak_okr RX11 31 (1, 11, 6, 1) := ⟨(RX11, TX11, 9), rfl, by decide, ak_wc_2 39 (by decide +kernel) (by decide +kernel), by decide +kernel⟩
theorem rk_RX11_35 : ak_okr RX11 35 (7, 5, 0, 0) := ⟨(RX5, TX5, 12), rfl, ak_wc_1 209 (by decide +kernel) (by decide +kernel)⟩
theorem rk_RX11_37 : ak_okr RX11 37 (14, 12, 2, 5) := ⟨q_12, (RX5, TX5, 12), rfl, mk_12, rfl, rfl, rfl, rfl, by decide +kernel, ak_wc_1 211 (by decide +kernel) (by decide +kernel), ak_wc_1 212 (by decide +kernel) (by decide +kernel)⟩
theorem rk_RX11_40 : ak_okr RX11 40 (1, 11, 7, 1) := ⟨(RX11, TX11, 9), rfl, by decide, ak_wc_2 40 (by decide +kernel) (by decide +kernel), by decide +kernel⟩
theorem rk_RX11_44 : ak_okr RX11 44 (7, 7, 4, 0) := ⟨(RX7, TX7, 3), rfl, ak_wc_2 13 (by decide +kernel) (by decide +kernel)⟩
theorem rk_RX11_46 : ak_okr RX11 46 (1, 11, 8, 1) := ⟨(RX11, TX11, 9), rfl, by decide, ak_wc_2 41 (by decide +kernel) (by decide +kernel), by decide +kernel⟩
theorem rk_RX11_50 : ak_okr RX11 50 (14, 13, 0, 7) := ⟨q_13, (RX7, TX7, 3), rfl, mk_13, rfl, rfl, rfl, rfl, by decide +kernel, ak_wc_2 16 (by decide +kernel) (by decide +kernel), ak_wc_2 17 (by decide +kernel) (by decide +kernel)⟩
theorem rk_RX11_51 : ak_okr RX11 51 (8, 15, 2, 8) := ⟨q_15, (RX8, TX8, 12), rfl, mk_15, rfl, rfl, by decide +kernel, ak_wc_2 65 (by decide +kernel) (by decide +kernel), ak_wc_2 66 (by decide +kernel) (by decide +kernel), ak_wc_2 67 (by decide +kernel) (by decide +kernel)⟩
theorem rk_RX11_55 : ak_okr RX11 55 (8, 17, 2, 8) := ⟨q_17, (RX8, TX8, 12), rfl, mk_17, rfl, rfl, by decide +kernel, ak_wc_2 73 (by decide +kernel) (by decide +kernel), ak_wc_2 74 (by decide +kernel) (by decide +kernel), ak_wc_2 75 (by decide +kernel) (by decide +kernel)⟩
theorem rk_RX11_58 : ak_okr RX11 58 (8, 18, 2, 8) := ⟨q_18, (RX8, TX8, 12), rfl, mk_18, rfl, rfl, by decide +kernel, ak_wc_2 81 (by decide +kernel) (by decide +kernel), ak_wc_2 82 (by decide +kernel) (by decide +kernel), ak_wc_2 83 (by decide +kernel) (by decide +kernel)⟩
theorem rk_RX11_62 : ak_okr RX11 62 (8, 20, 3, 8) := ⟨q_20, (RX8, TX8, 12), rfl, mk_20, rfl, rfl, by decide +kernel, ak_wc_2 89 (by decide +kernel) (by decide +kernel), ak_wc_2 90 (by decide +kernel) (by decide +kernel), ak_wc_2 91 (by decide +kernel) (by decide +kernel)⟩
theorem rk_RX11_66 : ak_okr RX11 66 (8, 22, 3, 8) := ⟨q_22, (RX8, TX8, 12), rfl, mk_22, rfl, rfl, by decide +kernel, ak_wc_2 97 (by decide +kernel) (by decide +kernel), ak_wc_2 98 (by decide +kernel) (by decide +kernel), ak_wc_2 99 (by decide +kernel) (by decide +kernel)⟩
theorem rk_RX11_70 : ak_okr RX11 70 (8, 16, 1, 8) := ⟨q_16, (RX8, TX8, 12), rfl, mk_16, rfl, rfl, by decide +kernel, ak_wc_2 109 (by decide +kernel) (by decide +kernel), ak_wc_2 70 (by decide +kernel) (by decide +kernel), ak_wc_2 71 (by decide +kernel) (by decide +kernel)⟩
theorem rk_RX11_74 : ak_okr RX11 74 (1, 8, 11, 1) := ⟨(RX8, TX8, 12), rfl, by decide, ak_wc_1 64 (by decide +kernel) (by decide +kernel), by decide +kernel⟩
theorem rk_RX11_77 : ak_okr RX11 77 (8, 23, 3, 8) := ⟨q_23, (RX8, TX8, 12), rfl, mk_23, rfl, rfl, by decide +kernel, ak_wc_2 110 (by decide +kernel) (by decide +kernel), ak_wc_2 102 (by decide +kernel) (by decide +kernel), ak_wc_2 103 (by decide +kernel) (by decide +kernel)⟩
theorem rk_RX11_81 : ak_okr RX11 81 (11, 26, 1, 0) := ⟨q_26, rfl, mk_26, by decide +kernel, ak_wc_2 115 (by decide +kernel) (by decide +kernel), ak_wc_2 116 (by decide +kernel) (by decide +kernel)⟩
theorem rk_RX11_84 : ak_okr RX11 84 (8, 27, 3, 6) := ⟨q_27, (RX6, TX6, 5), rfl, mk_27, rfl, rfl, by decide +kernel, ak_wc_2 118 (by decide +kernel) (by decide +kernel), ak_wc_2 119 (by decide +kernel) (by decide +kernel), ak_wc_2 120 (by decide +kernel) (by decide +kernel)⟩
theorem rk_RX11_88 : ak_okr RX11 88 (1, 8, 10, 1) := ⟨(RX8, TX8, 12), rfl, by decide, ak_wc_1 60 (by decide +kernel) (by decide +kernel), by decide +kernel⟩
theorem rk_RX11_91 : ak_okr RX11 91 (1, 8, 5, 1) := ⟨(RX8, TX8, 12), rfl, by decide, ak_wc_1 47 (by decide +kernel) (by decide +kernel), by decide +kernel⟩
theorem rk_RX11_94 : ak_okr RX11 94 (8, 47, 2, 6) := ⟨q_47, (RX6, TX6, 5), rfl, mk_47, rfl, rfl, by decide +kernel, ak_wc_2 200 (by decide +kernel) (by decide +kernel), ak_wc_2 201 (by decide +kernel) (by decide +kernel), ak_wc_2 202 (by decide +kernel) (by decide +kernel)⟩
theorem rk_RX11_98 : ak_okr RX11 98 (8, 55, 2, 6) := ⟨q_55, (RX6, TX6, 5), rfl, mk_55, rfl, rfl, by decide +kernel, ak_wc_2 238 (by decide +kernel) (by decide +kernel), ak_wc_2 239 (by decide +kernel) (by decide +kernel), ak_wc_3 0 (by decide +kernel) (by decide +kernel)⟩
theorem rk_RX11_101 : ak_okr RX11 101 (8, 61, 2, 11) := ⟨q_61, (RX11, TX11, 9), rfl, mk_61, rfl, rfl, by decide +kernel, ak_wc_3 22 (by decide +kernel) (by decide +kernel), ak_wc_3 24 (by decide +kernel) (by decide +kernel), ak_w 4 (by decide +kernel) (by decide +kernel)⟩
theorem rk_RX11_104 : ak_okr RX11 104 (8, 48, 3, 6) := ⟨q_48, (RX6, TX6, 5), rfl, mk_48, rfl, rfl, by decide +kernel, ak_wc_3 26 (by decide +kernel) (by decide +kernel), ak_wc_2 205 (by decide +kernel) (by decide +kernel), ak_wc_2 206 (by decide +kernel) (by decide +kernel)⟩
theorem rk_RX11_108 : ak_okr RX11 108 (8, 29, 3, 6) := ⟨q_29, (RX6, TX6, 5), rfl, mk_29, rfl, rfl, by decide +kernel, ak_wc_3 27 (by decide +kernel) (by decide +kernel), ak_wc_2 128 (by decide +kernel) (by decide +kernel), ak_wc_2 129 (by decide +kernel) (by decide +kernel)⟩
theorem rk_RX11_111 : ak_okr RX11 111 (1, 11, 5, 0) := ⟨(RX11, TX11, 9), rfl, by decide, ak_wc_2 38 (by decide +kernel) (by decide +kernel), by decide +kernel⟩
theorem rk_RX11_115 : ak_okr RX11 115 (1, 6, 0, 0) := ⟨(RX6, TX6, 5), rfl, by decide, ak_wc_1 193 (by decide +kernel) (by decide +kernel), by decide +kernel⟩
theorem rk_RX11_118 : ak_okr RX11 118 (8, 34, 1, 6) := ⟨q_34, (RX6, TX6, 5), rfl, mk_34, rfl, rfl, by decide +kernel, ak_wc_3 36 (by decide +kernel) (by decide +kernel), ak_wc_2 148 (by decide +kernel) (by decide +kernel), ak_wc_2 149 (by decide +kernel) (by decide +kernel)⟩
theorem rk_RX11_122 : ak_okr RX11 122 (8, 64, 1, 10) := ⟨q_64, (RX10, TX10, 12), rfl, mk_64, rfl, rfl, by decide +kernel, ak_wc_3 37 (by decide +kernel) (by decide +kernel), ak_wc_3 38 (by decide +kernel) (by decide +kernel), ak_wc_3 39 (by decide +kernel) (by decide +kernel)⟩
theorem rk_RX11_128 : ak_okr RX11 128 (1, 8, 3, 0) := ⟨(RX8, TX8, 12), rfl, by decide, ak_wc_1 41 (by decide +kernel) (by decide +kernel), by decide +kernel⟩
theorem rk_RX11_131 : ak_okr RX11 131 (4, 0, 0, -100000) := ak_wc_3 197 (by decide +kernel) (by decide +kernel)
theorem rk_RX11_132 : ak_okr RX11 132 (8, 99, 1, 5) := ⟨q_99, (RX5, TX5, 12), rfl, mk_99, rfl, rfl, by decide +kernel, ak_wc_3 198 (by decide +kernel) (by decide +kernel), ak_wc_3 199 (by decide +kernel) (by decide +kernel), ak_wc_3 200 (by decide +kernel) (by decide +kernel)⟩
theorem rk_RX11_136 : ak_okr RX11 136 (8, 105, 1, 5) := ⟨q_105, (RX5, TX5, 12), rfl, mk_105, rfl, rfl, by decide +kernel, ak_wc_3 229 (by decide +kernel) (by decide +kernel), ak_wc_3 230 (by decide +kernel) (by decide +kernel), ak_wc_3 231 (by decide +kernel) (by decide +kernel)⟩
theorem rk_RX11_139 : ak_okr RX11 139 (8, 107, 0, 5) := ⟨q_107, (RX5, TX5, 12), rfl, mk_107, rfl, rfl, by decide +kernel, ak_wc_3 237 (by decide +kernel) (by decide +kernel), ak_wc_3 238 (by decide +kernel) (by decide +kernel), ak_wc_3 239 (by decide +kernel) (by decide +kernel)⟩
theorem rk_RX11_143 : ak_okr RX11 143 (8, 109, 0, 5) := ⟨q_109, (RX5, TX5, 12), rfl, mk_109, rfl, rfl, by decide +kernel, ak_wc_4 6 (by decide +kernel) (by decide +kernel), ak_wc_4 7 (by decide +kernel) (by decide +kernel), ak_wc_4 8 (by decide +kernel) (by decide +kernel)⟩
theorem rk_RX11_147 : ak_okr RX11 147 (8, 108, 0, 5) := ⟨q_108, (RX5, TX5, 12), rfl, mk_108, rfl, rfl, by decide +kernel, ak_wc_4 10 (by decide +kernel) (by decide +kernel), ak_wc_4 2 (by decide +kernel) (by decide +kernel), ak_wc_4 3 (by decide +kernel) (by decide +kernel)⟩
theorem rk_RX11_150 : ak_okr RX11 150 (1, 8, 0, 0) := ⟨(RX8, TX8, 12), rfl, by decide, ak_wc_1 36 (by decide +kernel) (by decide +kernel), by decide +kernel⟩
theorem rk_RX11_153 : ak_okr RX11 153 (1, 8, 4, 0) := ⟨(RX8, TX8, 12), rfl, by decide, ak_wc_1 44 (by decide +kernel) (by decide +kernel), by decide +kernel⟩
theorem rk_RX11_156 : ak_okr RX11 156 (1, 8, 9, 1) := ⟨(RX8, TX8, 12), rfl, by decide, ak_wc_1 57 (by decide +kernel) (by decide +kernel), by decide +kernel⟩
theorem rk_RX11_159 : ak_okr RX11 159 (19, 0, 0, 0) := ak_wc_4 15 (by decide +kernel) (by decide +kernel)
theorem rk_RX11_164 : ak_okr RX11 164 (8, 111, 0, 8) := ⟨q_111, (RX8, TX8, 12), rfl, mk_111, rfl, rfl, by decide +kernel, ak_wc_4 16 (by decide +kernel) (by decide +kernel), ak_wc_4 17 (by decide +kernel) (by decide +kernel), ak_wc_4 18 (by decide +kernel) (by decide +kernel)⟩
theorem rk_RX11_167 : ak_okr RX11 167 (8, 113, 1, 5) := ⟨q_113, (RX5, TX5, 12), rfl, mk_113, rfl, rfl, by decide +kernel, ak_wc_4 24 (by decide +kernel) (by decide +kernel), ak_wc_4 25 (by decide +kernel) (by decide +kernel), ak_wc_4 26 (by decide +kernel) (by decide +kernel)⟩
theorem rk_RX11_171 : ak_okr RX11 171 (8, 120, 0, 5) := ⟨q_120, (RX5, TX5, 12), rfl, mk_120, rfl, rfl, by decide +kernel, ak_wc_4 55 (by decide +kernel) (by decide +kernel), ak_wc_4 56 (by decide +kernel) (by decide +kernel), ak_wc_4 57 (by decide +kernel) (by decide +kernel)⟩
theorem rk_RX11_174 : ak_okr RX11 174 (8, 121, 0, 5) := ⟨q_121, (RX5, TX5, 12), rfl, mk_121, rfl, rfl, by decide +kernel, ak_wc_4 59 (by decide +kernel) (by decide +kernel), ak_wc_4 60 (by decide +kernel) (by decide +kernel), ak_wc_4 61 (by decide +kernel) (by decide +kernel)⟩
theorem rk_RX11_177 : ak_okr RX11 177 (8, 123, 0, 5) := ⟨q_123, (RX5, TX5, 12), rfl, mk_123, rfl, rfl, by decide +kernel, ak_wc_4 67 (by decide +kernel) (by decide +kernel), ak_wc_4 68 (by decide +kernel) (by decide +kernel), ak_wc_4 69 (by decide +kernel) (by decide +kernel)⟩
theorem rk_RX11_180 : ak_okr RX11 180 (8, 126, 0, 5) := ⟨q_126, (RX5, TX5, 12), rfl, mk_126, rfl, rfl, by decide +kernel, ak_wc_4 80 (by decide +kernel) (by decide +kernel), ak_wc_4 81 (by decide +kernel) (by decide +kernel), ak_wc_4 82 (by decide +kernel) (by decide +kernel)⟩
theorem rk_RX11_183 : ak_okr RX11 183 (8, 128, 0, 5) := ⟨q_128, (RX5, TX5, 12), rfl, mk_128, rfl, rfl, by decide +kernel, ak_wc_4 88 (by decide +kernel) (by decide +kernel), ak_wc_4 89 (by decide +kernel) (by decide +kernel), ak_wc_4 90 (by decide +kernel) (by decide +kernel)⟩
theorem rk_RX11_186 : ak_okr RX11 186 (8, 131, 2, 5) := ⟨q_131, (RX5, TX5, 12), rfl, mk_131, rfl, rfl, by decide +kernel, ak_wc_4 102 (by decide +kernel) (by decide +kernel), ak_wc_4 103 (by decide +kernel) (by decide +kernel), ak_wc_4 104 (by decide +kernel) (by decide +kernel)⟩
theorem rk_RX11_189 : ak_okr RX11 189 (8, 134, 1, 5) := ⟨q_134, (RX5, TX5, 12), rfl, mk_134, rfl, rfl, by decide +kernel, ak_wc_4 114 (by decide +kernel) (by decide +kernel), ak_wc_4 115 (by decide +kernel) (by decide +kernel), ak_wc_4 116 (by decide +kernel) (by decide +kernel)⟩
theorem rk_RX11_192 : ak_okr RX11 192 (11, 136, 1, 0) := ⟨q_136, rfl, mk_136, by decide +kernel, ak_wc_4 122 (by decide +kernel) (by decide +kernel), ak_wc_4 123 (by decide +kernel) (by decide +kernel)⟩
theorem rk_RX11_195 : ak_okr RX11 195 (8, 137, 0, 7) := ⟨q_137, (RX7, TX7, 3), rfl, mk_137, rfl, rfl, by decide +kernel, ak_wc_4 125 (by decide +kernel) (by decide +kernel), ak_wc_4 126 (by decide +kernel) (by decide +kernel), ak_wc_4 127 (by decide +kernel) (by decide +kernel)⟩
theorem rk_RX11_198 : ak_okr RX11 198 (1, 7, 1, 0) := ⟨(RX7, TX7, 3), rfl, by decide, ak_wc_2 23 (by decide +kernel) (by decide +kernel), by decide +kernel⟩
theorem rk_RX11_199 : ak_okr RX11 199 (8, 138, 1, 8) := ⟨q_138, (RX8, TX8, 12), rfl, mk_138, rfl, rfl, by decide +kernel, ak_wc_4 129 (by decide +kernel) (by decide +kernel), ak_wc_4 130 (by decide +kernel) (by decide +kernel), ak_wc_4 131 (by decide +kernel) (by decide +kernel)⟩
theorem rk_RX11_202 : ak_okr RX11 202 (8, 139, 2, 11) := ⟨q_139, (RX11, TX11, 9), rfl, mk_139, rfl, rfl, by decide +kernel, ak_wc_4 133 (by decide +kernel) (by decide +kernel), ak_wc_4 135 (by decide +kernel) (by decide +kernel), ak_w 39 (by decide +kernel) (by decide +kernel)⟩
theorem rk_RX11_206 : ak_okr RX11 206 (8, 140, 2, 11) := ⟨q_140, (RX11, TX11, 9), rfl, mk_140, rfl, rfl, by decide +kernel, ak_wc_4 137 (by decide +kernel) (by decide +kernel), ak_wc_4 139 (by decide +kernel) (by decide +kernel), ak_w 40 (by decide +kernel) (by decide +kernel)⟩
theorem rk_RX11_209 : ak_okr RX11 209 (8, 141, 2, 11) := ⟨q_141, (RX11, TX11, 9), rfl, mk_141, rfl, rfl, by decide +kernel, ak_wc_4 141 (by decide +kernel) (by decide +kernel), ak_wc_4 143 (by decide +kernel) (by decide +kernel), ak_w 41 (by decide +kernel) (by decide +kernel)⟩
theorem rk_RX11_212 : ak_okr RX11 212 (8, 142, 2, 11) := ⟨q_142, (RX11, TX11, 9), rfl, mk_142, rfl, rfl, by decide +kernel, ak_wc_4 145 (by decide +kernel) (by decide +kernel), ak_wc_4 147 (by decide +kernel) (by decide +kernel), ak_w 42 (by decide +kernel) (by decide +kernel)⟩
theorem rk_RX11_215 : ak_okr RX11 215 (8, 144, 2, 11) := ⟨q_144, (RX11, TX11, 9), rfl, mk_144, rfl, rfl, by decide +kernel, ak_wc_4 153 (by decide +kernel) (by decide +kernel), ak_wc_4 155 (by decide +kernel) (by decide +kernel), ak_w 44 (by decide +kernel) (by decide +kernel)⟩
theorem rk_RX11_218 : ak_okr RX11 218 (8, 145, 2, 11) := ⟨q_145, (RX11, TX11, 9), rfl, mk_145, rfl, rfl, by decide +kernel, ak_wc_4 157 (by decide +kernel) (by decide +kernel), ak_wc_4 159 (by decide +kernel) (by decide +kernel), ak_w 45 (by decide +kernel) (by decide +kernel)⟩
theorem rk_RX11_221 : ak_okr RX11 221 (8, 147, 2, 7) := ⟨q_147, (RX7, TX7, 3), rfl, mk_147, rfl, rfl, by decide +kernel, ak_wc_4 165 (by decide +kernel) (by decide +kernel), ak_wc_4 166 (by decide +kernel) (by decide +kernel), ak_wc_4 167 (by decide +kernel) (by decide +kernel)⟩
theorem rk_RX11_225 : ak_okr RX11 225 (8, 148, 2, 7) := ⟨q_148, (RX7, TX7, 3), rfl, mk_148, rfl, rfl, by decide +kernel, ak_wc_4 171 (by decide +kernel) (by decide +kernel), ak_wc_4 172 (by decide +kernel) (by decide +kernel), ak_wc_4 173 (by decide +kernel) (by decide +kernel)⟩
theorem rk_RX11_227 : ak_okr RX11 227 (8, 151, 1, 11) := ⟨q_151, (RX11, TX11, 9), rfl, mk_151, rfl, rfl, by decide +kernel, ak_wc_4 183 (by decide +kernel) (by decide +kernel), ak_wc_4 185 (by decide +kernel) (by decide +kernel), ak_w 46 (by decide +kernel) (by decide +kernel)⟩
theorem rk_RX11_231 : ak_okr RX11 231 (6, 0, 0, -4611686018427387904) := ak_wc_4 192 (by decide +kernel) (by decide +kernel)
theorem rk_RX11_233 : ak_okr RX11 233 (11, 153, 2, 0) := ⟨q_153, rfl, mk_153, by decide +kernel, ak_wc_4 193 (by decide +kernel) (by decide +kernel), ak_wc_4 194 (by decide +kernel) (by decide +kernel)⟩
theorem rk_RX11_236 : ak_okr RX11 236 (1, 11, 3, 0) := ⟨(RX11, TX11, 9), rfl, by decide, ak_wc_2 36 (by decide +kernel) (by decide +kernel), by decide +kernel⟩
theorem rk_RX11_240 : ak_okr RX11 240 (8, 157, 0, 8) := ⟨q_157, (RX8, TX8, 12), rfl, mk_157, rfl, rfl, by decide +kernel, ak_wc_4 208 (by decide +kernel) (by decide +kernel), ak_wc_4 209 (by decide +kernel) (by decide +kernel), ak_wc_4 210 (by decide +kernel) (by decide +kernel)⟩
theorem rk_RX11_243 : ak_okr RX11 243 (8, 158, 0, 8) := ⟨q_158, (RX8, TX8, 12), rfl, mk_158, rfl, rfl, by decide +kernel, ak_wc_4 212 (by decide +kernel) (by decide +kernel), ak_wc_4 213 (by decide +kernel) (by decide +kernel), ak_wc_4 214 (by decide +kernel) (by decide +kernel)⟩
theorem rk_RX11_246 : ak_okr RX11 246 (4, 0, 0, 1103515245) := ak_wc_4 187 (by decide +kernel) (by decide +kernel)
theorem rk_RX11_247 : ak_okr RX11 247 (1, 8, 8, 1) := ⟨(RX8, TX8, 12), rfl, by decide, ak_wc_1 54 (by decide +kernel) (by decide +kernel), by decide +kernel⟩
theorem rk_RX11_250 : ak_okr RX11 250 (1, 7, 2, 1) := ⟨(RX7, TX7, 3), rfl, by decide, ak_wc_2 25 (by decide +kernel) (by decide +kernel), by decide +kernel⟩
theorem rk_RX11_253 : ak_okr RX11 253 (1, 8, 6, 1) := ⟨(RX8, TX8, 12), rfl, by decide, ak_wc_1 50 (by decide +kernel) (by decide +kernel), by decide +kernel⟩
theorem rk_RX11_256 : ak_okr RX11 256 (8, 143, 4, 11) := ⟨q_143, (RX11, TX11, 9), rfl, mk_143, rfl, rfl, by decide +kernel, ak_wc_4 149 (by decide +kernel) (by decide +kernel), ak_wc_4 151 (by decide +kernel) (by decide +kernel), ak_w 43 (by decide +kernel) (by decide +kernel)⟩
theorem rk_RX11_260 : ak_okr RX11 260 (11, 160, 1, 0) := ⟨q_160, rfl, mk_160, by decide +kernel, ak_wc_4 220 (by decide +kernel) (by decide +kernel), ak_wc_4 221 (by decide +kernel) (by decide +kernel)⟩
theorem rk_RX11_263 : ak_okr RX11 263 (8, 149, 2, 7) := ⟨q_149, (RX7, TX7, 3), rfl, mk_149, rfl, rfl, by decide +kernel, ak_wc_4 227 (by decide +kernel) (by decide +kernel), ak_wc_4 176 (by decide +kernel) (by decide +kernel), ak_wc_4 177 (by decide +kernel) (by decide +kernel)⟩
theorem rk_RX11_266 : ak_okr RX11 266 (1, 7, 0, 0) := ⟨(RX7, TX7, 3), rfl, by decide, ak_wc_2 21 (by decide +kernel) (by decide +kernel), by decide +kernel⟩
theorem rk_RX11_269 : ak_okr RX11 269 (17, 0, 0, 0) := ak_wc_4 232 (by decide +kernel) (by decide +kernel)
theorem rk_RX11_275 : ak_okr RX11 275 (8, 21, 3, 11) := ⟨q_21, (RX11, TX11, 9), rfl, mk_21, rfl, rfl, by decide +kernel, ak_wc_4 239 (by decide +kernel) (by decide +kernel), ak_wc_2 94 (by decide +kernel) (by decide +kernel), ak_wc_2 95 (by decide +kernel) (by decide +kernel)⟩
theorem rk_RX11_278 : ak_okr RX11 278 (8, 165, 2, 6) := ⟨q_165, (RX6, TX6, 5), rfl, mk_165, rfl, rfl, by decide +kernel, ak_wc_5 4 (by decide +kernel) (by decide +kernel), ak_wc_5 5 (by decide +kernel) (by decide +kernel), ak_wc_5 6 (by decide +kernel) (by decide +kernel)⟩
theorem rk_RX0_1 : ak_okr RX0 1 (14, 3, 0, 3) := ⟨q_3, (RX3, TX3, 0), rfl, mk_3, rfl, rfl, rfl, rfl, by decide +kernel, ak_wc_1 140 (by decide +kernel) (by decide +kernel), ak_wc_1 103 (by decide +kernel) (by decide +kernel)⟩
theorem rk_RX0_7 : ak_okr RX0 7 (15, 60, 2, 0) := ⟨q_60, rfl, mk_60, by decide +kernel, by decide, ak_wc_3 10 (by decide +kernel) (by decide +kernel), ak_wc_3 6 (by decide +kernel) (by decide +kernel), ak_wc_1 141 (by decide +kernel) (by decide +kernel), ak_wc_3 4 (by decide +kernel) (by decide +kernel)⟩
theorem rk_RX1_1 : ak_okr RX1 1 (14, 5, 0, 9) := ⟨q_5, (RX9, TX9, 0), rfl, mk_5, rfl, rfl, rfl, rfl, by decide +kernel, ak_wc_1 133 (by decide +kernel) (by decide +kernel), ak_wc_1 117 (by decide +kernel) (by decide +kernel)⟩
theorem rk_RX1_7 : ak_okr RX1 7 (15, 51, 4, 0) := ⟨q_51, rfl, mk_51, by decide +kernel, by decide, ak_wc_2 222 (by decide +kernel) (by decide +kernel), ak_wc_6 238 (by decide +kernel) (by decide +kernel), ak_wc_1 134 (by decide +kernel) (by decide +kernel), ak_wc_2 223 (by decide +kernel) (by decide +kernel)⟩
theorem rk_RX2_3 : ak_okr RX2 3 (14, 4, 0, 4) := ⟨q_4, (RX4, TX4, 0), rfl, mk_4, rfl, rfl, rfl, rfl, by decide +kernel, ak_wc_1 126 (by decide +kernel) (by decide +kernel), ak_wc_1 110 (by decide +kernel) (by decide +kernel)⟩
theorem rk_RX2_9 : ak_okr RX2 9 (15, 53, 4, 0) := ⟨q_53, rfl, mk_53, by decide +kernel, by decide, ak_wc_2 229 (by decide +kernel) (by decide +kernel), ak_wc_6 239 (by decide +kernel) (by decide +kernel), ak_wc_1 127 (by decide +kernel) (by decide +kernel), ak_wc_2 230 (by decide +kernel) (by decide +kernel)⟩
theorem rk_RX2_13 : ak_okr RX2 13 (18, 45, 3, 0) := ⟨q_45, rfl, mk_45, by decide +kernel, by decide, rfl, rfl, ak_wc_2 184 (by decide +kernel) (by decide +kernel), ak_wc_2 185 (by decide +kernel) (by decide +kernel), ak_wc_1 127 (by decide +kernel) (by decide +kernel), ak_wc_1 113 (by decide +kernel) (by decide +kernel), ak_wc_2 172 (by decide +kernel) (by decide +kernel)⟩
theorem rk_RX3_1 : ak_okr RX3 1 (16, 0, 0, 0) := ak_wc_1 105 (by decide +kernel) (by decide +kernel)
theorem rk_RX4_1 : ak_okr RX4 1 (14, 3, 0, 3) := ⟨q_3, (RX3, TX3, 0), rfl, mk_3, rfl, rfl, rfl, rfl, by decide +kernel, ak_wc_1 112 (by decide +kernel) (by decide +kernel), ak_wc_1 103 (by decide +kernel) (by decide +kernel)⟩
theorem rk_RX4_7 : ak_okr RX4 7 (15, 54, 4, 0) := ⟨q_54, rfl, mk_54, by decide +kernel, by decide, ak_wc_2 232 (by decide +kernel) (by decide +kernel), ak_wc_2 215 (by decide +kernel) (by decide +kernel), ak_wc_1 113 (by decide +kernel) (by decide +kernel), ak_wc_2 213 (by decide +kernel) (by decide +kernel)⟩
theorem rk_RX4_11 : ak_okr RX4 11 (13, 44, 1, 0) := ⟨q_44, rfl, mk_44, by decide +kernel, ak_wc_2 233 (by decide +kernel) (by decide +kernel), ak_wc_2 234 (by decide +kernel) (by decide +kernel), ak_wc_2 193 (by decide +kernel) (by decide +kernel)⟩
theorem rk_RX5_3 : ak_okr RX5 3 (16, 0, 0, 0) := ak_wc_1 214 (by decide +kernel) (by decide +kernel)
theorem rk_RX5_9 : ak_okr RX5 9 (1, 5, 2, 1) := ⟨(RX5, TX5, 12), rfl, by decide, ak_wc_1 217 (by decide +kernel) (by decide +kernel), by decide +kernel⟩
theorem rk_RX5_15 : ak_okr RX5 15 (1, 5, 3, 1) := ⟨(RX5, TX5, 12), rfl, by decide, ak_wc_1 218 (by decide +kernel) (by decide +kernel), by decide +kernel⟩
theorem rk_RX5_18 : ak_okr RX5 18 (1, 5, 4, 1) := ⟨(RX5, TX5, 12), rfl, by decide, ak_wc_1 219 (by decide +kernel) (by decide +kernel), by decide +kernel⟩
theorem rk_RX5_22 : ak_okr RX5 22 (1, 5, 5, 1) := ⟨(RX5, TX5, 12), rfl, by decide, ak_wc_1 220 (by decide +kernel) (by decide +kernel), by decide +kernel⟩
theorem rk_RX5_25 : ak_okr RX5 25 (1, 5, 6, 1) := ⟨(RX5, TX5, 12), rfl, by decide, ak_wc_1 221 (by decide +kernel) (by decide +kernel), by decide +kernel⟩
theorem rk_RX5_28 : ak_okr RX5 28 (1, 5, 7, 1) := ⟨(RX5, TX5, 12), rfl, by decide, ak_wc_1 222 (by decide +kernel) (by decide +kernel), by decide +kernel⟩
theorem rk_RX5_31 : ak_okr RX5 31 (1, 5, 8, 1) := ⟨(RX5, TX5, 12), rfl, by decide, ak_wc_1 223 (by decide +kernel) (by decide +kernel), by decide +kernel⟩
theorem rk_RX5_34 : ak_okr RX5 34 (1, 5, 9, 1) := ⟨(RX5, TX5, 12), rfl, by decide, ak_wc_1 224 (by decide +kernel) (by decide +kernel), by decide +kernel⟩
theorem rk_RX5_37 : ak_okr RX5 37 (1, 5, 0, 1) := ⟨(RX5, TX5, 12), rfl, by decide, ak_wc_1 215 (by decide +kernel) (by decide +kernel), by decide +kernel⟩
theorem rk_RX5_41 : ak_okr RX5 41 (1, 5, 1, 0) := ⟨(RX5, TX5, 12), rfl, by decide, ak_wc_1 216 (by decide +kernel) (by decide +kernel), by decide +kernel⟩
theorem rk_RX5_45 : ak_okr RX5 45 (8, 100, 1, 8) := ⟨q_100, (RX8, TX8, 12), rfl, mk_100, rfl, rfl, by decide +kernel, ak_wc_3 202 (by decide +kernel) (by decide +kernel), ak_wc_3 203 (by decide +kernel) (by decide +kernel), ak_wc_3 204 (by decide +kernel) (by decide +kernel)⟩
theorem rk_RX5_51 : ak_okr RX5 51 (1, 8, 4, 0) := ⟨(RX8, TX8, 12), rfl, by decide, ak_wc_1 43 (by decide +kernel) (by decide +kernel), by decide +kernel⟩
theorem rk_RX5_55 : ak_okr RX5 55 (8, 102, 1, 5) := ⟨q_102, (RX5, TX5, 12), rfl, mk_102, rfl, rfl, by decide +kernel, ak_wc_3 213 (by decide +kernel) (by decide +kernel), ak_wc_3 215 (by decide +kernel) (by decide +kernel), ak_w 25 (by decide +kernel) (by decide +kernel)⟩
theorem rk_RX5_59 : ak_okr RX5 59 (8, 104, 0, 5) := ⟨q_104, (RX5, TX5, 12), rfl, mk_104, rfl, rfl, by decide +kernel, ak_wc_3 224 (by decide +kernel) (by decide +kernel), ak_wc_3 226 (by decide +kernel) (by decide +kernel), ak_w 27 (by decide +kernel) (by decide +kernel)⟩
theorem rk_RX5_62 : ak_okr RX5 62 (8, 48, 3, 6) := ⟨q_48, (RX6, TX6, 5), rfl, mk_48, rfl, rfl, by decide +kernel, ak_wc_3 217 (by decide +kernel) (by decide +kernel), ak_wc_2 205 (by decide +kernel) (by decide +kernel), ak_wc_2 206 (by decide +kernel) (by decide +kernel)⟩
theorem rk_RX5_67 : ak_okr RX5 67 (8, 29, 3, 6) := ⟨q_29, (RX6, TX6, 5), rfl, mk_29, rfl, rfl, by decide +kernel, ak_wc_3 218 (by decide +kernel) (by decide +kernel), ak_wc_2 128 (by decide +kernel) (by decide +kernel), ak_wc_2 129 (by decide +kernel) (by decide +kernel)⟩
theorem rk_RX5_71 : ak_okr RX5 71 (8, 28, 2, 8) := ⟨q_28, (RX8, TX8, 12), rfl, mk_28, rfl, rfl, by decide +kernel, ak_wc_3 219 (by decide +kernel) (by decide +kernel), ak_wc_2 123 (by decide +kernel) (by decide +kernel), ak_wc_2 124 (by decide +kernel) (by decide +kernel)⟩
theorem rk_RX5_75 : ak_okr RX5 75 (8, 103, 1, 5) := ⟨q_103, (RX5, TX5, 12), rfl, mk_103, rfl, rfl, by decide +kernel, ak_wc_3 220 (by decide +kernel) (by decide +kernel), ak_wc_3 222 (by decide +kernel) (by decide +kernel), ak_w 26 (by decide +kernel) (by decide +kernel)⟩
theorem rk_RX5_79 : ak_okr RX5 79 (1, 8, 10, 1) := ⟨(RX8, TX8, 12), rfl, by decide, ak_wc_1 61 (by decide +kernel) (by decide +kernel), by decide +kernel⟩
theorem rk_RX5_82 : ak_okr RX5 82 (12, 26, 1, 0) := ⟨q_26, rfl, mk_26, by decide +kernel, by decide +kernel, ak_wc_2 116 (by decide +kernel) (by decide +kernel)⟩
theorem rk_RX5_85 : ak_okr RX5 85 (8, 16, 1, 8) := ⟨q_16, (RX8, TX8, 12), rfl, mk_16, rfl, rfl, by decide +kernel, ak_wc_4 75 (by decide +kernel) (by decide +kernel), ak_wc_2 70 (by decide +kernel) (by decide +kernel), ak_wc_2 71 (by decide +kernel) (by decide +kernel)⟩
theorem rk_RX5_88 : ak_okr RX5 88 (8, 106, 1, 5) := ⟨q_106, (RX5, TX5, 12), rfl, mk_106, rfl, rfl, by decide +kernel, ak_wc_3 233 (by decide +kernel) (by decide +kernel), ak_wc_3 235 (by decide +kernel) (by decide +kernel), ak_w 28 (by decide +kernel) (by decide +kernel)⟩
theorem rk_RX5_91 : ak_okr RX5 91 (19, 0, 0, 0) := ak_wc_4 54 (by decide +kernel) (by decide +kernel)
theorem rk_RX5_96 : ak_okr RX5 96 (8, 108, 0, 5) := ⟨q_108, (RX5, TX5, 12), rfl, mk_108, rfl, rfl, by decide +kernel, ak_wc_4 1 (by decide +kernel) (by decide +kernel), ak_wc_4 2 (by decide +kernel) (by decide +kernel), ak_wc_4 3 (by decide +kernel) (by decide +kernel)⟩
theorem rk_RX5_100 : ak_okr RX5 100 (8, 105, 1, 5) := ⟨q_105, (RX5, TX5, 12), rfl, mk_105, rfl, rfl, by decide +kernel, ak_wc_4 5 (by decide +kernel) (by decide +kernel), ak_wc_3 230 (by decide +kernel) (by decide +kernel), ak_wc_3 231 (by decide +kernel) (by decide +kernel)⟩
theorem rk_RX5_103 : ak_okr RX5 103 (1, 5, 10, 0) := ⟨(RX5, TX5, 12), rfl, by decide, ak_wc_1 225 (by decide +kernel) (by decide +kernel), by decide +kernel⟩
theorem rk_RX5_107 : ak_okr RX5 107 (1, 5, 11, 0) := ⟨(RX5, TX5, 12), rfl, by decide, ak_wc_1 226 (by decide +kernel) (by decide +kernel), by decide +kernel⟩
theorem rk_RX5_110 : ak_okr RX5 110 (8, 114, 0, 5) := ⟨q_114, (RX5, TX5, 12), rfl, mk_114, rfl, rfl, by decide +kernel, ak_wc_4 28 (by decide +kernel) (by decide +kernel), ak_wc_4 30 (by decide +kernel) (by decide +kernel), ak_w 29 (by decide +kernel) (by decide +kernel)⟩
theorem rk_RX5_113 : ak_okr RX5 113 (8, 115, 0, 5) := ⟨q_115, (RX5, TX5, 12), rfl, mk_115, rfl, rfl, by decide +kernel, ak_wc_4 32 (by decide +kernel) (by decide +kernel), ak_wc_4 34 (by decide +kernel) (by decide +kernel), ak_w 30 (by decide +kernel) (by decide +kernel)⟩
theorem rk_RX5_116 : ak_okr RX5 116 (4, 0, 0, 100000) := ak_wc_4 37 (by decide +kernel) (by decide +kernel)
theorem rk_RX5_117 : ak_okr RX5 117 (8, 116, 3, 5) := ⟨q_116, (RX5, TX5, 12), rfl, mk_116, rfl, rfl, by decide +kernel, ak_wc_4 38 (by decide +kernel) (by decide +kernel), ak_wc_4 40 (by decide +kernel) (by decide +kernel), ak_w 31 (by decide +kernel) (by decide +kernel)⟩
theorem rk_RX5_121 : ak_okr RX5 121 (20, 0, 0, 0) := ak_wc_4 36 (by decide +kernel) (by decide +kernel)
theorem rk_RX5_124 : ak_okr RX5 124 (8, 117, 1, 5) := ⟨q_117, (RX5, TX5, 12), rfl, mk_117, rfl, rfl, by decide +kernel, ak_wc_4 42 (by decide +kernel) (by decide +kernel), ak_wc_4 44 (by decide +kernel) (by decide +kernel), ak_w 32 (by decide +kernel) (by decide +kernel)⟩
theorem rk_RX5_127 : ak_okr RX5 127 (8, 118, 1, 5) := ⟨q_118, (RX5, TX5, 12), rfl, mk_118, rfl, rfl, by decide +kernel, ak_wc_4 46 (by decide +kernel) (by decide +kernel), ak_wc_4 48 (by decide +kernel) (by decide +kernel), ak_w 33 (by decide +kernel) (by decide +kernel)⟩
theorem rk_RX5_130 : ak_okr RX5 130 (8, 119, 2, 5) := ⟨q_119, (RX5, TX5, 12), rfl, mk_119, rfl, rfl, by decide +kernel, ak_wc_4 50 (by decide +kernel) (by decide +kernel), ak_wc_4 52 (by decide +kernel) (by decide +kernel), ak_w 34 (by decide +kernel) (by decide +kernel)⟩
theorem rk_RX5_134 : ak_okr RX5 134 (8, 124, 1, 5) := ⟨q_124, (RX5, TX5, 12), rfl, mk_124, rfl, rfl, by decide +kernel, ak_wc_4 71 (by decide +kernel) (by decide +kernel), ak_wc_4 73 (by decide +kernel) (by decide +kernel), ak_w 35 (by decide +kernel) (by decide +kernel)⟩
theorem rk_RX5_137 : ak_okr RX5 137 (8, 125, 1, 5) := ⟨q_125, (RX5, TX5, 12), rfl, mk_125, rfl, rfl, by decide +kernel, ak_wc_4 76 (by decide +kernel) (by decide +kernel), ak_wc_4 78 (by decide +kernel) (by decide +kernel), ak_w 36 (by decide +kernel) (by decide +kernel)⟩
theorem rk_RX5_140 : ak_okr RX5 140 (1, 8, 9, 1) := ⟨(RX8, TX8, 12), rfl, by decide, ak_wc_1 58 (by decide +kernel) (by decide +kernel), by decide +kernel⟩
theorem rk_RX5_143 : ak_okr RX5 143 (8, 109, 0, 5) := ⟨q_109, (RX5, TX5, 12), rfl, mk_109, rfl, rfl, by decide +kernel, ak_wc_4 92 (by decide +kernel) (by decide +kernel), ak_wc_4 7 (by decide +kernel) (by decide +kernel), ak_wc_4 8 (by decide +kernel) (by decide +kernel)⟩
theorem rk_RX5_146 : ak_okr RX5 146 (8, 129, 2, 5) := ⟨q_129, (RX5, TX5, 12), rfl, mk_129, rfl, rfl, by decide +kernel, ak_wc_4 93 (by decide +kernel) (by decide +kernel), ak_wc_4 95 (by decide +kernel) (by decide +kernel), ak_w 37 (by decide +kernel) (by decide +kernel)⟩
theorem rk_RX5_150 : ak_okr RX5 150 (8, 107, 0, 5) := ⟨q_107, (RX5, TX5, 12), rfl, mk_107, rfl, rfl, by decide +kernel, ak_wc_4 97 (by decide +kernel) (by decide +kernel), ak_wc_3 238 (by decide +kernel) (by decide +kernel), ak_wc_3 239 (by decide +kernel) (by decide +kernel)⟩
theorem rk_RX5_154 : ak_okr RX5 154 (8, 132, 1, 5) := ⟨q_132, (RX5, TX5, 12), rfl, mk_132, rfl, rfl, by decide +kernel, ak_wc_4 106 (by decide +kernel) (by decide +kernel), ak_wc_4 108 (by decide +kernel) (by decide +kernel), ak_w 38 (by decide +kernel) (by decide +kernel)⟩
theorem rk_RX6_3 : ak_okr RX6 3 (16, 0, 0, 0) := ak_wc_1 96 (by decide +kernel) (by decide +kernel)
theorem rk_RX6_9 : ak_okr RX6 9 (1, 6, 0, 0) := ⟨(RX6, TX6, 5), rfl, by decide, ak_wc_1 192 (by decide +kernel) (by decide +kernel), by decide +kernel⟩
theorem rk_RX6_15 : ak_okr RX6 15 (7, 10, 2, 0) := ⟨(RX10, TX10, 12), rfl, ak_wc_1 97 (by decide +kernel) (by decide +kernel)⟩
theorem rk_RX6_17 : ak_okr RX6 17 (1, 6, 1, 1) := ⟨(RX6, TX6, 5), rfl, by decide, ak_wc_1 194 (by decide +kernel) (by decide +kernel), by decide +kernel⟩
theorem rk_RX6_21 : ak_okr RX6 21 (7, 3, 3, 0) := ⟨(RX3, TX3, 0), rfl, ak_wc_1 99 (by decide +kernel) (by decide +kernel)⟩
theorem rk_RX6_23 : ak_okr RX6 23 (14, 3, 0, 3) := ⟨q_3, (RX3, TX3, 0), rfl, mk_3, rfl, rfl, rfl, rfl, by decide +kernel, ak_wc_1 102 (by decide +kernel) (by decide +kernel), ak_wc_1 103 (by decide +kernel) (by decide +kernel)⟩
theorem rk_RX6_24 : ak_okr RX6 24 (7, 4, 0, 0) := ⟨(RX4, TX4, 0), rfl, ak_wc_1 107 (by decide +kernel) (by decide +kernel)⟩
theorem rk_RX6_26 : ak_okr RX6 26 (14, 4, 0, 4) := ⟨q_4, (RX4, TX4, 0), rfl, mk_4, rfl, rfl, rfl, rfl, by decide +kernel, ak_wc_1 109 (by decide +kernel) (by decide +kernel), ak_wc_1 110 (by decide +kernel) (by decide +kernel)⟩
theorem rk_RX6_27 : ak_okr RX6 27 (7, 9, 0, 0) := ⟨(RX9, TX9, 0), rfl, ak_wc_1 114 (by decide +kernel) (by decide +kernel)⟩
theorem rk_RX6_29 : ak_okr RX6 29 (14, 5, 0, 9) := ⟨q_5, (RX9, TX9, 0), rfl, mk_5, rfl, rfl, rfl, rfl, by decide +kernel, ak_wc_1 116 (by decide +kernel) (by decide +kernel), ak_wc_1 117 (by decide +kernel) (by decide +kernel)⟩
theorem rk_RX6_30 : ak_okr RX6 30 (7, 2, 0, 0) := ⟨(RX2, TX2, 0), rfl, ak_wc_1 121 (by decide +kernel) (by decide +kernel)⟩
theorem rk_RX6_32 : ak_okr RX6 32 (14, 6, 0, 2) := ⟨q_6, (RX2, TX2, 0), rfl, mk_6, rfl, rfl, rfl, rfl, by decide +kernel, ak_wc_1 123 (by decide +kernel) (by decide +kernel), ak_wc_1 124 (by decide +kernel) (by decide +kernel)⟩
theorem rk_RX6_33 : ak_okr RX6 33 (7, 1, 0, 0) := ⟨(RX1, TX1, 0), rfl, ak_wc_1 128 (by decide +kernel) (by decide +kernel)⟩
theorem rk_RX6_35 : ak_okr RX6 35 (14, 7, 0, 1) := ⟨q_7, (RX1, TX1, 0), rfl, mk_7, rfl, rfl, rfl, rfl, by decide +kernel, ak_wc_1 130 (by decide +kernel) (by decide +kernel), ak_wc_1 131 (by decide +kernel) (by decide +kernel)⟩
theorem rk_RX6_36 : ak_okr RX6 36 (7, 0, 0, 0) := ⟨(RX0, TX0, 0), rfl, ak_wc_1 135 (by decide +kernel) (by decide +kernel)⟩
theorem rk_RX6_38 : ak_okr RX6 38 (14, 8, 0, 0) := ⟨q_8, (RX0, TX0, 0), rfl, mk_8, rfl, rfl, rfl, rfl, by decide +kernel, ak_wc_1 137 (by decide +kernel) (by decide +kernel), ak_wc_1 138 (by decide +kernel) (by decide +kernel)⟩
theorem rk_RX6_39 : ak_okr RX6 39 (1, 6, 2, 1) := ⟨(RX6, TX6, 5), rfl, by decide, ak_wc_1 195 (by decide +kernel) (by decide +kernel), by decide +kernel⟩
theorem rk_RX6_43 : ak_okr RX6 43 (1, 6, 3, 1) := ⟨(RX6, TX6, 5), rfl, by decide, ak_wc_1 196 (by decide +kernel) (by decide +kernel), by decide +kernel⟩
theorem rk_RX6_47 : ak_okr RX6 47 (1, 6, 4, 1) := ⟨(RX6, TX6, 5), rfl, by decide, ak_wc_1 197 (by decide +kernel) (by decide +kernel), by decide +kernel⟩
theorem rk_RX6_50 : ak_okr RX6 50 (14, 9, 1, 10) := ⟨q_9, (RX10, TX10, 12), rfl, mk_9, rfl, rfl, rfl, rfl, by decide +kernel, ak_wc_1 143 (by decide +kernel) (by decide +kernel), ak_wc_1 144 (by decide +kernel) (by decide +kernel)⟩
theorem rk_RX6_53 : ak_okr RX6 53 (8, 10, 1, 10) := ⟨q_10, (RX10, TX10, 12), rfl, mk_10, rfl, rfl, by decide +kernel, ak_wc_1 184 (by decide +kernel) (by decide +kernel), ak_wc_1 185 (by decide +kernel) (by decide +kernel), ak_wc_1 186 (by decide +kernel) (by decide +kernel)⟩
theorem rk_RX6_57 : ak_okr RX6 57 (8, 11, 0, 10) := ⟨q_11, (RX10, TX10, 12), rfl, mk_11, rfl, rfl, by decide +kernel, ak_wc_1 188 (by decide +kernel) (by decide +kernel), ak_wc_1 189 (by decide +kernel) (by decide +kernel), ak_wc_1 190 (by decide +kernel) (by decide +kernel)⟩
theorem rk_RX6_60 : ak_okr RX6 60 (8, 39, 1, 6) := ⟨q_39, (RX6, TX6, 5), rfl, mk_39, rfl, rfl, by decide +kernel, ak_wc_2 167 (by decide +kernel) (by decide +kernel), ak_wc_2 169 (by decide +kernel) (by decide +kernel), ak_w 3 (by decide +kernel) (by decide +kernel)⟩
theorem rk_RX6_64 : ak_okr RX6 64 (8, 30, 3, 6) := ⟨q_30, (RX6, TX6, 5), rfl, mk_30, rfl, rfl, by decide +kernel, ak_wc_2 131 (by decide +kernel) (by decide +kernel), ak_wc_2 133 (by decide +kernel) (by decide +kernel), ak_w 1 (by decide +kernel) (by decide +kernel)⟩
theorem rk_RX6_68 : ak_okr RX6 68 (1, 8, 3, 0) := ⟨(RX8, TX8, 12), rfl, by decide, ak_wc_1 40 (by decide +kernel) (by decide +kernel), by decide +kernel⟩
theorem rk_RX6_73 : ak_okr RX6 73 (8, 34, 1, 6) := ⟨q_34, (RX6, TX6, 5), rfl, mk_34, rfl, rfl, by decide +kernel, ak_wc_2 147 (by decide +kernel) (by decide +kernel), ak_wc_2 148 (by decide +kernel) (by decide +kernel), ak_wc_2 149 (by decide +kernel) (by decide +kernel)⟩
theorem rk_RX6_77 : ak_okr RX6 77 (8, 35, 3, 10) := ⟨q_35, (RX10, TX10, 12), rfl, mk_35, rfl, rfl, by decide +kernel, ak_wc_2 151 (by decide +kernel) (by decide +kernel), ak_wc_2 152 (by decide +kernel) (by decide +kernel), ak_wc_2 153 (by decide +kernel) (by decide +kernel)⟩
theorem rk_RX6_81 : ak_okr RX6 81 (19, 0, 0, 0) := ak_wc_2 208 (by decide +kernel) (by decide +kernel)
theorem rk_RX6_87 : ak_okr RX6 87 (20, 0, 0, 0) := ak_wc_2 209 (by decide +kernel) (by decide +kernel)
theorem rk_RX6_90 : ak_okr RX6 90 (1, 8, 5, 1) := ⟨(RX8, TX8, 12), rfl, by decide, ak_wc_1 46 (by decide +kernel) (by decide +kernel), by decide +kernel⟩
theorem rk_RX6_92 : ak_okr RX6 92 (8, 32, 2, 8) := ⟨q_32, (RX8, TX8, 12), rfl, mk_32, rfl, rfl, by decide +kernel, ak_wc_2 139 (by decide +kernel) (by decide +kernel), ak_wc_2 140 (by decide +kernel) (by decide +kernel), ak_wc_2 141 (by decide +kernel) (by decide +kernel)⟩
theorem rk_RX6_96 : ak_okr RX6 96 (1, 8, 6, 1) := ⟨(RX8, TX8, 12), rfl, by decide, ak_wc_1 49 (by decide +kernel) (by decide +kernel), by decide +kernel⟩
theorem rk_RX6_99_0 : ∃ (m : ak_Q) (q : vw_C), ak_M[49]? = some m ∧ ak_mok m ∧ vwCl[0]? = some q ∧ Cond.selects q.1 q_54.1 m.1 ∈ ak_Ts ∧ Cond.instanceMethod m.1 ∈ ak_Ts := ⟨q_49, (RX0, TX0, 0), rfl, mk_49, rfl, ak_wc_2 216 (by decide +kernel) (by decide +kernel), ak_wc_2 217 (by decide +kernel) (by decide +kernel)⟩
theorem rk_RX6_99_1 : ∃ (m : ak_Q) (q : vw_C), ak_M[50]? = some m ∧ ak_mok m ∧ vwCl[1]? = some q ∧ Cond.selects q.1 q_54.1 m.1 ∈ ak_Ts ∧ Cond.instanceMethod m.1 ∈ ak_Ts := ⟨q_50, (RX1, TX1, 0), rfl, mk_50, rfl, ak_wc_2 219 (by decide +kernel) (by decide +kernel), ak_wc_2 220 (by decide +kernel) (by decide +kernel)⟩
theorem rk_RX6_99_2 : ∃ (m : ak_Q) (q : vw_C), ak_M[52]? = some m ∧ ak_mok m ∧ vwCl[2]? = some q ∧ Cond.selects q.1 q_54.1 m.1 ∈ ak_Ts ∧ Cond.instanceMethod m.1 ∈ ak_Ts := ⟨q_52, (RX2, TX2, 0), rfl, mk_52, rfl, ak_wc_2 226 (by decide +kernel) (by decide +kernel), ak_wc_2 227 (by decide +kernel) (by decide +kernel)⟩
theorem rk_RX6_99_3 : ∃ (m : ak_Q) (q : vw_C), ak_M[54]? = some m ∧ ak_mok m ∧ vwCl[3]? = some q ∧ Cond.selects q.1 q_54.1 m.1 ∈ ak_Ts ∧ Cond.instanceMethod m.1 ∈ ak_Ts := ⟨q_54, (RX3, TX3, 0), rfl, mk_54, rfl, ak_wc_2 214 (by decide +kernel) (by decide +kernel), ak_wc_2 213 (by decide +kernel) (by decide +kernel)⟩
theorem rk_RX6_99_4 : ∃ (m : ak_Q) (q : vw_C), ak_M[53]? = some m ∧ ak_mok m ∧ vwCl[4]? = some q ∧ Cond.selects q.1 q_54.1 m.1 ∈ ak_Ts ∧ Cond.instanceMethod m.1 ∈ ak_Ts := ⟨q_53, (RX4, TX4, 0), rfl, mk_53, rfl, ak_wc_2 235 (by decide +kernel) (by decide +kernel), ak_wc_2 230 (by decide +kernel) (by decide +kernel)⟩
theorem rk_RX6_99_9 : ∃ (m : ak_Q) (q : vw_C), ak_M[51]? = some m ∧ ak_mok m ∧ vwCl[9]? = some q ∧ Cond.selects q.1 q_54.1 m.1 ∈ ak_Ts ∧ Cond.instanceMethod m.1 ∈ ak_Ts := ⟨q_51, (RX9, TX9, 0), rfl, mk_51, rfl, ak_wc_2 236 (by decide +kernel) (by decide +kernel), ak_wc_2 223 (by decide +kernel) (by decide +kernel)⟩
theorem rk_RX6_99 : ak_okr RX6 99 (10, 0, 4, 0) := ⟨q_54, mk_54, rfl, ak_wc_2 212 (by decide +kernel) (by decide +kernel), ak_wc_2 215 (by decide +kernel) (by decide +kernel), ak_wc_2 213 (by decide +kernel) (by decide +kernel), by decide +kernel, by
    intro c mi h
    match c, h with
    | 0, h => cases h; exact rk_RX6_99_0
    | 1, h => cases h; exact rk_RX6_99_1
    | 2, h => cases h; exact rk_RX6_99_2
    | 3, h => cases h; exact rk_RX6_99_3
    | 4, h => cases h; exact rk_RX6_99_4
    | 9, h => cases h; exact rk_RX6_99_9
    | 5, h => cases h
    | 6, h => cases h
    | 7, h => cases h
    | 8, h => cases h
    | c + 10, h => cases h⟩
theorem rk_RX6_103_0 : ∃ (m : ak_Q) (q : vw_C), ak_M[40]? = some m ∧ ak_mok m ∧ vwCl[0]? = some q ∧ Cond.selects q.1 q_45.1 m.1 ∈ ak_Ts ∧ Cond.instanceMethod m.1 ∈ ak_Ts := ⟨q_40, (RX0, TX0, 0), rfl, mk_40, rfl, ak_wc_2 175 (by decide +kernel) (by decide +kernel), ak_wc_2 176 (by decide +kernel) (by decide +kernel)⟩
theorem rk_RX6_103_1 : ∃ (m : ak_Q) (q : vw_C), ak_M[41]? = some m ∧ ak_mok m ∧ vwCl[1]? = some q ∧ Cond.selects q.1 q_45.1 m.1 ∈ ak_Ts ∧ Cond.instanceMethod m.1 ∈ ak_Ts := ⟨q_41, (RX1, TX1, 0), rfl, mk_41, rfl, ak_wc_2 178 (by decide +kernel) (by decide +kernel), ak_wc_2 179 (by decide +kernel) (by decide +kernel)⟩
theorem rk_RX6_103_2 : ∃ (m : ak_Q) (q : vw_C), ak_M[42]? = some m ∧ ak_mok m ∧ vwCl[2]? = some q ∧ Cond.selects q.1 q_45.1 m.1 ∈ ak_Ts ∧ Cond.instanceMethod m.1 ∈ ak_Ts := ⟨q_42, (RX2, TX2, 0), rfl, mk_42, rfl, ak_wc_2 181 (by decide +kernel) (by decide +kernel), ak_wc_2 182 (by decide +kernel) (by decide +kernel)⟩
theorem rk_RX6_103_3 : ∃ (m : ak_Q) (q : vw_C), ak_M[45]? = some m ∧ ak_mok m ∧ vwCl[3]? = some q ∧ Cond.selects q.1 q_45.1 m.1 ∈ ak_Ts ∧ Cond.instanceMethod m.1 ∈ ak_Ts := ⟨q_45, (RX3, TX3, 0), rfl, mk_45, rfl, ak_wc_2 173 (by decide +kernel) (by decide +kernel), ak_wc_2 172 (by decide +kernel) (by decide +kernel)⟩
theorem rk_RX6_103_4 : ∃ (m : ak_Q) (q : vw_C), ak_M[45]? = some m ∧ ak_mok m ∧ vwCl[4]? = some q ∧ Cond.selects q.1 q_45.1 m.1 ∈ ak_Ts ∧ Cond.instanceMethod m.1 ∈ ak_Ts := ⟨q_45, (RX4, TX4, 0), rfl, mk_45, rfl, ak_wc_2 187 (by decide +kernel) (by decide +kernel), ak_wc_2 172 (by decide +kernel) (by decide +kernel)⟩
theorem rk_RX6_103_9 : ∃ (m : ak_Q) (q : vw_C), ak_M[43]? = some m ∧ ak_mok m ∧ vwCl[9]? = some q ∧ Cond.selects q.1 q_45.1 m.1 ∈ ak_Ts ∧ Cond.instanceMethod m.1 ∈ ak_Ts := ⟨q_43, (RX9, TX9, 0), rfl, mk_43, rfl, ak_wc_2 188 (by decide +kernel) (by decide +kernel), ak_wc_2 189 (by decide +kernel) (by decide +kernel)⟩
theorem rk_RX6_103 : ak_okr RX6 103 (10, 2, 3, 0) := ⟨q_45, mk_45, rfl, ak_wc_2 171 (by decide +kernel) (by decide +kernel), ak_wc_2 174 (by decide +kernel) (by decide +kernel), ak_wc_2 172 (by decide +kernel) (by decide +kernel), by decide +kernel, by
    intro c mi h
    match c, h with
    | 0, h => cases h; exact rk_RX6_103_0
    | 1, h => cases h; exact rk_RX6_103_1
    | 2, h => cases h; exact rk_RX6_103_2
    | 3, h => cases h; exact rk_RX6_103_3
    | 4, h => cases h; exact rk_RX6_103_4
    | 9, h => cases h; exact rk_RX6_103_9
    | 5, h => cases h
    | 6, h => cases h
    | 7, h => cases h
    | 8, h => cases h
    | c + 10, h => cases h⟩
theorem rk_RX6_107 : ak_okr RX6 107 (8, 47, 2, 6) := ⟨q_47, (RX6, TX6, 5), rfl, mk_47, rfl, rfl, by decide +kernel, ak_wc_3 2 (by decide +kernel) (by decide +kernel), ak_wc_2 201 (by decide +kernel) (by decide +kernel), ak_wc_2 202 (by decide +kernel) (by decide +kernel)⟩
theorem rk_RX6_111 : ak_okr RX6 111 (8, 31, 2, 6) := ⟨q_31, (RX6, TX6, 5), rfl, mk_31, rfl, rfl, by decide +kernel, ak_wc_2 135 (by decide +kernel) (by decide +kernel), ak_wc_2 137 (by decide +kernel) (by decide +kernel), ak_w 2 (by decide +kernel) (by decide +kernel)⟩
theorem rk_RX6_115_0 : ∃ (m : ak_Q) (q : vw_C), ak_M[56]? = some m ∧ ak_mok m ∧ vwCl[0]? = some q ∧ Cond.selects q.1 q_60.1 m.1 ∈ ak_Ts ∧ Cond.instanceMethod m.1 ∈ ak_Ts := ⟨q_56, (RX0, TX0, 0), rfl, mk_56, rfl, ak_wc_3 7 (by decide +kernel) (by decide +kernel), ak_wc_3 8 (by decide +kernel) (by decide +kernel)⟩
theorem rk_RX6_115_1 : ∃ (m : ak_Q) (q : vw_C), ak_M[57]? = some m ∧ ak_mok m ∧ vwCl[1]? = some q ∧ Cond.selects q.1 q_60.1 m.1 ∈ ak_Ts ∧ Cond.instanceMethod m.1 ∈ ak_Ts := ⟨q_57, (RX1, TX1, 0), rfl, mk_57, rfl, ak_wc_3 11 (by decide +kernel) (by decide +kernel), ak_wc_3 12 (by decide +kernel) (by decide +kernel)⟩
theorem rk_RX6_115_2 : ∃ (m : ak_Q) (q : vw_C), ak_M[58]? = some m ∧ ak_mok m ∧ vwCl[2]? = some q ∧ Cond.selects q.1 q_60.1 m.1 ∈ ak_Ts ∧ Cond.instanceMethod m.1 ∈ ak_Ts := ⟨q_58, (RX2, TX2, 0), rfl, mk_58, rfl, ak_wc_3 14 (by decide +kernel) (by decide +kernel), ak_wc_3 15 (by decide +kernel) (by decide +kernel)⟩
theorem rk_RX6_115_3 : ∃ (m : ak_Q) (q : vw_C), ak_M[60]? = some m ∧ ak_mok m ∧ vwCl[3]? = some q ∧ Cond.selects q.1 q_60.1 m.1 ∈ ak_Ts ∧ Cond.instanceMethod m.1 ∈ ak_Ts := ⟨q_60, (RX3, TX3, 0), rfl, mk_60, rfl, ak_wc_3 5 (by decide +kernel) (by decide +kernel), ak_wc_3 4 (by decide +kernel) (by decide +kernel)⟩
theorem rk_RX6_115_4 : ∃ (m : ak_Q) (q : vw_C), ak_M[58]? = some m ∧ ak_mok m ∧ vwCl[4]? = some q ∧ Cond.selects q.1 q_60.1 m.1 ∈ ak_Ts ∧ Cond.instanceMethod m.1 ∈ ak_Ts := ⟨q_58, (RX4, TX4, 0), rfl, mk_58, rfl, ak_wc_3 17 (by decide +kernel) (by decide +kernel), ak_wc_3 15 (by decide +kernel) (by decide +kernel)⟩
theorem rk_RX6_115_9 : ∃ (m : ak_Q) (q : vw_C), ak_M[59]? = some m ∧ ak_mok m ∧ vwCl[9]? = some q ∧ Cond.selects q.1 q_60.1 m.1 ∈ ak_Ts ∧ Cond.instanceMethod m.1 ∈ ak_Ts := ⟨q_59, (RX9, TX9, 0), rfl, mk_59, rfl, ak_wc_3 18 (by decide +kernel) (by decide +kernel), ak_wc_3 19 (by decide +kernel) (by decide +kernel)⟩
theorem rk_RX6_115 : ak_okr RX6 115 (10, 1, 2, 0) := ⟨q_60, mk_60, rfl, ak_wc_3 3 (by decide +kernel) (by decide +kernel), ak_wc_3 6 (by decide +kernel) (by decide +kernel), ak_wc_3 4 (by decide +kernel) (by decide +kernel), by decide +kernel, by
    intro c mi h
    match c, h with
    | 0, h => cases h; exact rk_RX6_115_0
    | 1, h => cases h; exact rk_RX6_115_1
    | 2, h => cases h; exact rk_RX6_115_2
    | 3, h => cases h; exact rk_RX6_115_3
    | 4, h => cases h; exact rk_RX6_115_4
    | 9, h => cases h; exact rk_RX6_115_9
    | 5, h => cases h
    | 6, h => cases h
    | 7, h => cases h
    | 8, h => cases h
    | c + 10, h => cases h⟩
theorem rk_RX6_118 : ak_okr RX6 118 (1, 8, 10, 1) := ⟨(RX8, TX8, 12), rfl, by decide, ak_wc_1 62 (by decide +kernel) (by decide +kernel), by decide +kernel⟩
theorem rk_RX6_121 : ak_okr RX6 121 (8, 28, 2, 8) := ⟨q_28, (RX8, TX8, 12), rfl, mk_28, rfl, rfl, by decide +kernel, ak_wc_2 122 (by decide +kernel) (by decide +kernel), ak_wc_2 123 (by decide +kernel) (by decide +kernel), ak_wc_2 124 (by decide +kernel) (by decide +kernel)⟩
theorem rk_RX6_124 : ak_okr RX6 124 (8, 48, 3, 6) := ⟨q_48, (RX6, TX6, 5), rfl, mk_48, rfl, rfl, by decide +kernel, ak_wc_2 204 (by decide +kernel) (by decide +kernel), ak_wc_2 205 (by decide +kernel) (by decide +kernel), ak_wc_2 206 (by decide +kernel) (by decide +kernel)⟩
theorem rk_RX6_127 : ak_okr RX6 127 (8, 29, 3, 6) := ⟨q_29, (RX6, TX6, 5), rfl, mk_29, rfl, rfl, by decide +kernel, ak_wc_2 127 (by decide +kernel) (by decide +kernel), ak_wc_2 128 (by decide +kernel) (by decide +kernel), ak_wc_2 129 (by decide +kernel) (by decide +kernel)⟩
theorem rk_RX6_130 : ak_okr RX6 130 (8, 33, 2, 8) := ⟨q_33, (RX8, TX8, 12), rfl, mk_33, rfl, rfl, by decide +kernel, ak_wc_2 143 (by decide +kernel) (by decide +kernel), ak_wc_2 144 (by decide +kernel) (by decide +kernel), ak_wc_2 145 (by decide +kernel) (by decide +kernel)⟩
theorem rk_RX6_133 : ak_okr RX6 133 (1, 8, 7, 1) := ⟨(RX8, TX8, 12), rfl, by decide, ak_wc_1 52 (by decide +kernel) (by decide +kernel), by decide +kernel⟩
theorem rk_RX6_136 : ak_okr RX6 136 (1, 8, 9, 1) := ⟨(RX8, TX8, 12), rfl, by decide, ak_wc_1 56 (by decide +kernel) (by decide +kernel), by decide +kernel⟩
theorem rk_RX7_3 : ak_okr RX7 3 (16, 0, 0, 0) := ak_wc_2 19 (by decide +kernel) (by decide +kernel)
theorem rk_RX7_9 : ak_okr RX7 9 (1, 7, 0, 0) := ⟨(RX7, TX7, 3), rfl, by decide, ak_wc_2 20 (by decide +kernel) (by decide +kernel), by decide +kernel⟩
theorem rk_RX7_15 : ak_okr RX7 15 (1, 7, 2, 1) := ⟨(RX7, TX7, 3), rfl, by decide, ak_wc_2 24 (by decide +kernel) (by decide +kernel), by decide +kernel⟩
theorem rk_RX7_19 : ak_okr RX7 19 (19, 0, 0, 0) := ak_wc_4 169 (by decide +kernel) (by decide +kernel)
theorem rk_RX7_25 : ak_okr RX7 25 (20, 0, 0, 0) := ak_wc_4 170 (by decide +kernel) (by decide +kernel)
theorem rk_RX7_28 : ak_okr RX7 28 (1, 7, 1, 0) := ⟨(RX7, TX7, 3), rfl, by decide, ak_wc_2 22 (by decide +kernel) (by decide +kernel), by decide +kernel⟩
theorem rk_RX7_31 : ak_okr RX7 31 (8, 149, 2, 7) := ⟨q_149, (RX7, TX7, 3), rfl, mk_149, rfl, rfl, by decide +kernel, ak_wc_4 175 (by decide +kernel) (by decide +kernel), ak_wc_4 176 (by decide +kernel) (by decide +kernel), ak_wc_4 177 (by decide +kernel) (by decide +kernel)⟩
theorem rk_RX8_3 : ak_okr RX8 3 (16, 0, 0, 0) := ak_wc_1 34 (by decide +kernel) (by decide +kernel)
theorem rk_RX8_9 : ak_okr RX8 9 (1, 8, 1, 0) := ⟨(RX8, TX8, 12), rfl, by decide, ak_wc_1 37 (by decide +kernel) (by decide +kernel), by decide +kernel⟩
theorem rk_RX8_15 : ak_okr RX8 15 (1, 8, 5, 1) := ⟨(RX8, TX8, 12), rfl, by decide, ak_wc_1 45 (by decide +kernel) (by decide +kernel), by decide +kernel⟩
theorem rk_RX8_19 : ak_okr RX8 19 (1, 8, 6, 1) := ⟨(RX8, TX8, 12), rfl, by decide, ak_wc_1 48 (by decide +kernel) (by decide +kernel), by decide +kernel⟩
theorem rk_RX8_22 : ak_okr RX8 22 (1, 8, 7, 1) := ⟨(RX8, TX8, 12), rfl, by decide, ak_wc_1 51 (by decide +kernel) (by decide +kernel), by decide +kernel⟩
theorem rk_RX8_25 : ak_okr RX8 25 (1, 8, 8, 1) := ⟨(RX8, TX8, 12), rfl, by decide, ak_wc_1 53 (by decide +kernel) (by decide +kernel), by decide +kernel⟩
theorem rk_RX8_28 : ak_okr RX8 28 (1, 8, 9, 1) := ⟨(RX8, TX8, 12), rfl, by decide, ak_wc_1 55 (by decide +kernel) (by decide +kernel), by decide +kernel⟩
theorem rk_RX8_31 : ak_okr RX8 31 (1, 8, 10, 1) := ⟨(RX8, TX8, 12), rfl, by decide, ak_wc_1 59 (by decide +kernel) (by decide +kernel), by decide +kernel⟩
theorem rk_RX8_34 : ak_okr RX8 34 (1, 8, 11, 1) := ⟨(RX8, TX8, 12), rfl, by decide, ak_wc_1 63 (by decide +kernel) (by decide +kernel), by decide +kernel⟩
theorem rk_RX8_37 : ak_okr RX8 37 (1, 8, 0, 0) := ⟨(RX8, TX8, 12), rfl, by decide, ak_wc_1 35 (by decide +kernel) (by decide +kernel), by decide +kernel⟩
theorem rk_RX8_40 : ak_okr RX8 40 (1, 8, 2, 0) := ⟨(RX8, TX8, 12), rfl, by decide, ak_wc_1 38 (by decide +kernel) (by decide +kernel), by decide +kernel⟩
theorem rk_RX8_43 : ak_okr RX8 43 (1, 8, 3, 0) := ⟨(RX8, TX8, 12), rfl, by decide, ak_wc_1 39 (by decide +kernel) (by decide +kernel), by decide +kernel⟩
theorem rk_RX8_46 : ak_okr RX8 46 (1, 8, 4, 0) := ⟨(RX8, TX8, 12), rfl, by decide, ak_wc_1 42 (by decide +kernel) (by decide +kernel), by decide +kernel⟩
theorem rk_RX8_49 : ak_okr RX8 49 (8, 16, 1, 8) := ⟨q_16, (RX8, TX8, 12), rfl, mk_16, rfl, rfl, by decide +kernel, ak_wc_2 69 (by decide +kernel) (by decide +kernel), ak_wc_2 70 (by decide +kernel) (by decide +kernel), ak_wc_2 71 (by decide +kernel) (by decide +kernel)⟩
theorem rk_RX8_53 : ak_okr RX8 53 (3, 0, 0, 0) := ⟨_, rfl, ak_wc_2 77 (by decide +kernel) (by decide +kernel)⟩
theorem rk_RX8_56 : ak_okr RX8 56 (3, 1, 0, 0) := ⟨_, rfl, ak_wc_2 79 (by decide +kernel) (by decide +kernel)⟩
theorem rk_RX8_59 : ak_okr RX8 59 (8, 19, 1, 8) := ⟨q_19, (RX8, TX8, 12), rfl, mk_19, rfl, rfl, by decide +kernel, ak_wc_2 85 (by decide +kernel) (by decide +kernel), ak_wc_2 87 (by decide +kernel) (by decide +kernel), ak_w 0 (by decide +kernel) (by decide +kernel)⟩
theorem rk_RX8_63 : ak_okr RX8 63 (8, 23, 3, 8) := ⟨q_23, (RX8, TX8, 12), rfl, mk_23, rfl, rfl, by decide +kernel, ak_wc_2 101 (by decide +kernel) (by decide +kernel), ak_wc_2 102 (by decide +kernel) (by decide +kernel), ak_wc_2 103 (by decide +kernel) (by decide +kernel)⟩
theorem rk_RX8_67 : ak_okr RX8 67 (12, 26, 1, 0) := ⟨q_26, rfl, mk_26, by decide +kernel, by decide +kernel, ak_wc_2 116 (by decide +kernel) (by decide +kernel)⟩
theorem rk_RX8_70 : ak_okr RX8 70 (11, 101, 1, 0) := ⟨q_101, rfl, mk_101, by decide +kernel, ak_wc_3 206 (by decide +kernel) (by decide +kernel), ak_wc_3 207 (by decide +kernel) (by decide +kernel)⟩
theorem rk_RX8_76 : ak_okr RX8 76 (19, 0, 0, 0) := ak_wc_3 212 (by decide +kernel) (by decide +kernel)
theorem rk_RX9_1 : ak_okr RX9 1 (14, 3, 0, 3) := ⟨q_3, (RX3, TX3, 0), rfl, mk_3, rfl, rfl, rfl, rfl, by decide +kernel, ak_wc_1 119 (by decide +kernel) (by decide +kernel), ak_wc_1 103 (by decide +kernel) (by decide +kernel)⟩
theorem rk_RX9_7 : ak_okr RX9 7 (15, 54, 4, 0) := ⟨q_54, rfl, mk_54, by decide +kernel, by decide, ak_wc_2 225 (by decide +kernel) (by decide +kernel), ak_wc_2 215 (by decide +kernel) (by decide +kernel), ak_wc_1 120 (by decide +kernel) (by decide +kernel), ak_wc_2 213 (by decide +kernel) (by decide +kernel)⟩
theorem rk_RX9_11 : ak_okr RX9 11 (13, 44, 1, 0) := ⟨q_44, rfl, mk_44, by decide +kernel, ak_wc_2 191 (by decide +kernel) (by decide +kernel), ak_wc_2 192 (by decide +kernel) (by decide +kernel), ak_wc_2 193 (by decide +kernel) (by decide +kernel)⟩
theorem rk_RX10_3 : ak_okr RX10 3 (16, 0, 0, 0) := ak_wc_1 146 (by decide +kernel) (by decide +kernel)
theorem rk_RX10_9 : ak_okr RX10 9 (1, 10, 0, 1) := ⟨(RX10, TX10, 12), rfl, by decide, ak_wc_1 147 (by decide +kernel) (by decide +kernel), by decide +kernel⟩
theorem rk_RX10_15 : ak_okr RX10 15 (1, 10, 1, 1) := ⟨(RX10, TX10, 12), rfl, by decide, ak_wc_1 148 (by decide +kernel) (by decide +kernel), by decide +kernel⟩
theorem rk_RX10_18 : ak_okr RX10 18 (1, 10, 4, 1) := ⟨(RX10, TX10, 12), rfl, by decide, ak_wc_1 151 (by decide +kernel) (by decide +kernel), by decide +kernel⟩
theorem rk_RX10_21 : ak_okr RX10 21 (1, 10, 2, 0) := ⟨(RX10, TX10, 12), rfl, by decide, ak_wc_1 149 (by decide +kernel) (by decide +kernel), by decide +kernel⟩
theorem rk_RX10_25 : ak_okr RX10 25 (8, 10, 1, 10) := ⟨q_10, (RX10, TX10, 12), rfl, mk_10, rfl, rfl, by decide +kernel, ak_wc_3 178 (by decide +kernel) (by decide +kernel), ak_wc_1 185 (by decide +kernel) (by decide +kernel), ak_wc_1 186 (by decide +kernel) (by decide +kernel)⟩
theorem rk_RX10_29 : ak_okr RX10 29 (1, 10, 3, 0) := ⟨(RX10, TX10, 12), rfl, by decide, ak_wc_1 150 (by decide +kernel) (by decide +kernel), by decide +kernel⟩
theorem rk_RX10_32 : ak_okr RX10 32 (19, 0, 0, 0) := ak_wc_2 155 (by decide +kernel) (by decide +kernel)
theorem rk_RX10_38 : ak_okr RX10 38 (11, 36, 2, 0) := ⟨q_36, rfl, mk_36, by decide +kernel, ak_wc_2 158 (by decide +kernel) (by decide +kernel), ak_wc_2 159 (by decide +kernel) (by decide +kernel)⟩
theorem rk_RX10_42 : ak_okr RX10 42 (11, 37, 2, 0) := ⟨q_37, rfl, mk_37, by decide +kernel, ak_wc_2 161 (by decide +kernel) (by decide +kernel), ak_wc_2 162 (by decide +kernel) (by decide +kernel)⟩
theorem rk_RX10_45 : ak_okr RX10 45 (11, 38, 3, 0) := ⟨q_38, rfl, mk_38, by decide +kernel, ak_wc_2 164 (by decide +kernel) (by decide +kernel), ak_wc_2 165 (by decide +kernel) (by decide +kernel)⟩
theorem rk_RX10_49 : ak_okr RX10 49 (20, 0, 0, 0) := ak_wc_3 41 (by decide +kernel) (by decide +kernel)
theorem rk_RX10_52 : ak_okr RX10 52 (1, 10, 5, 0) := ⟨(RX10, TX10, 12), rfl, by decide, ak_wc_1 152 (by decide +kernel) (by decide +kernel), by decide +kernel⟩
theorem rk_RX10_55 : ak_okr RX10 55 (1, 10, 6, 0) := ⟨(RX10, TX10, 12), rfl, by decide, ak_wc_1 153 (by decide +kernel) (by decide +kernel), by decide +kernel⟩
theorem rk_RX10_58 : ak_okr RX10 58 (1, 10, 10, 0) := ⟨(RX10, TX10, 12), rfl, by decide, ak_wc_1 157 (by decide +kernel) (by decide +kernel), by decide +kernel⟩
theorem rk_RX10_61 : ak_okr RX10 61 (1, 10, 11, 0) := ⟨(RX10, TX10, 12), rfl, by decide, ak_wc_1 158 (by decide +kernel) (by decide +kernel), by decide +kernel⟩
theorem rk_RX10_64 : ak_okr RX10 64 (8, 65, 0, 10) := ⟨q_65, (RX10, TX10, 12), rfl, mk_65, rfl, rfl, by decide +kernel, ak_wc_3 42 (by decide +kernel) (by decide +kernel), ak_wc_3 44 (by decide +kernel) (by decide +kernel), ak_w 5 (by decide +kernel) (by decide +kernel)⟩
theorem rk_RX10_67 : ak_okr RX10 67 (8, 87, 1, 10) := ⟨q_87, (RX10, TX10, 12), rfl, mk_87, rfl, rfl, by decide +kernel, ak_wc_3 146 (by decide +kernel) (by decide +kernel), ak_wc_3 148 (by decide +kernel) (by decide +kernel), ak_w 16 (by decide +kernel) (by decide +kernel)⟩
theorem rk_RX10_70 : ak_okr RX10 70 (8, 88, 0, 10) := ⟨q_88, (RX10, TX10, 12), rfl, mk_88, rfl, rfl, by decide +kernel, ak_wc_3 150 (by decide +kernel) (by decide +kernel), ak_wc_3 152 (by decide +kernel) (by decide +kernel), ak_w 17 (by decide +kernel) (by decide +kernel)⟩
theorem rk_RX10_73 : ak_okr RX10 73 (8, 11, 0, 10) := ⟨q_11, (RX10, TX10, 12), rfl, mk_11, rfl, rfl, by decide +kernel, ak_wc_3 187 (by decide +kernel) (by decide +kernel), ak_wc_1 189 (by decide +kernel) (by decide +kernel), ak_wc_1 190 (by decide +kernel) (by decide +kernel)⟩
theorem rk_RX10_76 : ak_okr RX10 76 (1, 10, 8, 0) := ⟨(RX10, TX10, 12), rfl, by decide, ak_wc_1 155 (by decide +kernel) (by decide +kernel), by decide +kernel⟩
theorem rk_RX10_79 : ak_okr RX10 79 (8, 83, 0, 10) := ⟨q_83, (RX10, TX10, 12), rfl, mk_83, rfl, rfl, by decide +kernel, ak_wc_3 130 (by decide +kernel) (by decide +kernel), ak_wc_3 132 (by decide +kernel) (by decide +kernel), ak_w 12 (by decide +kernel) (by decide +kernel)⟩
theorem rk_RX10_82 : ak_okr RX10 82 (8, 89, 0, 10) := ⟨q_89, (RX10, TX10, 12), rfl, mk_89, rfl, rfl, by decide +kernel, ak_wc_3 154 (by decide +kernel) (by decide +kernel), ak_wc_3 156 (by decide +kernel) (by decide +kernel), ak_w 18 (by decide +kernel) (by decide +kernel)⟩
theorem rk_RX10_85 : ak_okr RX10 85 (8, 90, 0, 10) := ⟨q_90, (RX10, TX10, 12), rfl, mk_90, rfl, rfl, by decide +kernel, ak_wc_3 158 (by decide +kernel) (by decide +kernel), ak_wc_3 160 (by decide +kernel) (by decide +kernel), ak_w 19 (by decide +kernel) (by decide +kernel)⟩
theorem rk_RX10_88 : ak_okr RX10 88 (8, 91, 0, 10) := ⟨q_91, (RX10, TX10, 12), rfl, mk_91, rfl, rfl, by decide +kernel, ak_wc_3 162 (by decide +kernel) (by decide +kernel), ak_wc_3 164 (by decide +kernel) (by decide +kernel), ak_w 20 (by decide +kernel) (by decide +kernel)⟩
theorem rk_RX10_91 : ak_okr RX10 91 (8, 96, 0, 10) := ⟨q_96, (RX10, TX10, 12), rfl, mk_96, rfl, rfl, by decide +kernel, ak_wc_3 183 (by decide +kernel) (by decide +kernel), ak_wc_3 185 (by decide +kernel) (by decide +kernel), ak_w 24 (by decide +kernel) (by decide +kernel)⟩
theorem rk_RX10_95 : ak_okr RX10 95 (8, 92, 0, 10) := ⟨q_92, (RX10, TX10, 12), rfl, mk_92, rfl, rfl, by decide +kernel, ak_wc_3 166 (by decide +kernel) (by decide +kernel), ak_wc_3 168 (by decide +kernel) (by decide +kernel), ak_w 21 (by decide +kernel) (by decide +kernel)⟩
theorem rk_RX10_98 : ak_okr RX10 98 (8, 93, 0, 10) := ⟨q_93, (RX10, TX10, 12), rfl, mk_93, rfl, rfl, by decide +kernel, ak_wc_3 170 (by decide +kernel) (by decide +kernel), ak_wc_3 172 (by decide +kernel) (by decide +kernel), ak_w 22 (by decide +kernel) (by decide +kernel)⟩
theorem rk_RX10_101 : ak_okr RX10 101 (8, 94, 0, 10) := ⟨q_94, (RX10, TX10, 12), rfl, mk_94, rfl, rfl, by decide +kernel, ak_wc_3 174 (by decide +kernel) (by decide +kernel), ak_wc_3 176 (by decide +kernel) (by decide +kernel), ak_w 23 (by decide +kernel) (by decide +kernel)⟩
theorem rk_RX10_104 : ak_okr RX10 104 (1, 10, 9, 0) := ⟨(RX10, TX10, 12), rfl, by decide, ak_wc_1 156 (by decide +kernel) (by decide +kernel), by decide +kernel⟩
theorem rk_RX10_107 : ak_okr RX10 107 (8, 95, 1, 10) := ⟨q_95, (RX10, TX10, 12), rfl, mk_95, rfl, rfl, by decide +kernel, ak_wc_3 179 (by decide +kernel) (by decide +kernel), ak_wc_3 180 (by decide +kernel) (by decide +kernel), ak_wc_3 181 (by decide +kernel) (by decide +kernel)⟩
theorem rk_RX10_110 : ak_okr RX10 110 (1, 10, 7, 0) := ⟨(RX10, TX10, 12), rfl, by decide, ak_wc_1 154 (by decide +kernel) (by decide +kernel), by decide +kernel⟩
theorem rk_RX10_113 : ak_okr RX10 113 (8, 66, 1, 10) := ⟨q_66, (RX10, TX10, 12), rfl, mk_66, rfl, rfl, by decide +kernel, ak_wc_3 46 (by decide +kernel) (by decide +kernel), ak_wc_3 48 (by decide +kernel) (by decide +kernel), ak_w 6 (by decide +kernel) (by decide +kernel)⟩
theorem rk_RX10_117 : ak_okr RX10 117 (8, 67, 1, 10) := ⟨q_67, (RX10, TX10, 12), rfl, mk_67, rfl, rfl, by decide +kernel, ak_wc_3 50 (by decide +kernel) (by decide +kernel), ak_wc_3 52 (by decide +kernel) (by decide +kernel), ak_w 7 (by decide +kernel) (by decide +kernel)⟩
theorem rk_RX10_120 : ak_okr RX10 120 (8, 68, 0, 10) := ⟨q_68, (RX10, TX10, 12), rfl, mk_68, rfl, rfl, by decide +kernel, ak_wc_3 54 (by decide +kernel) (by decide +kernel), ak_wc_3 56 (by decide +kernel) (by decide +kernel), ak_w 8 (by decide +kernel) (by decide +kernel)⟩
theorem rk_RX10_123 : ak_okr RX10 123 (8, 84, 1, 10) := ⟨q_84, (RX10, TX10, 12), rfl, mk_84, rfl, rfl, by decide +kernel, ak_wc_3 134 (by decide +kernel) (by decide +kernel), ak_wc_3 136 (by decide +kernel) (by decide +kernel), ak_w 13 (by decide +kernel) (by decide +kernel)⟩
theorem rk_RX10_126 : ak_okr RX10 126 (8, 85, 0, 10) := ⟨q_85, (RX10, TX10, 12), rfl, mk_85, rfl, rfl, by decide +kernel, ak_wc_3 138 (by decide +kernel) (by decide +kernel), ak_wc_3 140 (by decide +kernel) (by decide +kernel), ak_w 14 (by decide +kernel) (by decide +kernel)⟩
theorem rk_RX10_129 : ak_okr RX10 129 (8, 86, 1, 10) := ⟨q_86, (RX10, TX10, 12), rfl, mk_86, rfl, rfl, by decide +kernel, ak_wc_3 142 (by decide +kernel) (by decide +kernel), ak_wc_3 144 (by decide +kernel) (by decide +kernel), ak_w 15 (by decide +kernel) (by decide +kernel)⟩
theorem rk_RX10_132 : ak_okr RX10 132 (8, 69, 0, 10) := ⟨q_69, (RX10, TX10, 12), rfl, mk_69, rfl, rfl, by decide +kernel, ak_wc_3 58 (by decide +kernel) (by decide +kernel), ak_wc_3 60 (by decide +kernel) (by decide +kernel), ak_w 9 (by decide +kernel) (by decide +kernel)⟩
theorem rk_RX10_136 : ak_okr RX10 136 (8, 82, 0, 10) := ⟨q_82, (RX10, TX10, 12), rfl, mk_82, rfl, rfl, by decide +kernel, ak_wc_3 120 (by decide +kernel) (by decide +kernel), ak_wc_3 122 (by decide +kernel) (by decide +kernel), ak_w 11 (by decide +kernel) (by decide +kernel)⟩
theorem rk_RX10_139 : ak_okr RX10 139 (5, 0, 0, 0) := ⟨rfl, _, rfl⟩
theorem rk_RX10_141 : ak_okr RX10 141 (8, 70, 1, 10) := ⟨q_70, (RX10, TX10, 12), rfl, mk_70, rfl, rfl, by decide +kernel, ak_wc_3 63 (by decide +kernel) (by decide +kernel), ak_wc_3 65 (by decide +kernel) (by decide +kernel), ak_w 10 (by decide +kernel) (by decide +kernel)⟩
theorem rk_RX10_145 : ak_okr RX10 145 (5, 1, 0, 0) := ⟨rfl, _, rfl⟩
theorem rk_RX10_147 : ak_okr RX10 147 (5, 2, 0, 0) := ⟨rfl, _, rfl⟩
theorem rk_RX10_149 : ak_okr RX10 149 (5, 3, 0, 0) := ⟨rfl, _, rfl⟩
theorem rk_RX10_151 : ak_okr RX10 151 (5, 4, 0, 0) := ⟨rfl, _, rfl⟩
theorem rk_RX10_153 : ak_okr RX10 153 (5, 5, 0, 0) := ⟨rfl, _, rfl⟩
theorem rk_RX10_155 : ak_okr RX10 155 (5, 6, 0, 0) := ⟨rfl, _, rfl⟩
theorem rk_RX10_157 : ak_okr RX10 157 (5, 7, 0, 0) := ⟨rfl, _, rfl⟩
theorem rk_RX10_159 : ak_okr RX10 159 (5, 8, 0, 0) := ⟨rfl, _, rfl⟩
theorem rk_RX10_161 : ak_okr RX10 161 (5, 9, 0, 0) := ⟨rfl, _, rfl⟩
theorem rk_RX10_163 : ak_okr RX10 163 (5, 10, 0, 0) := ⟨rfl, _, rfl⟩
theorem rk_RX10_165 : ak_okr RX10 165 (5, 11, 0, 0) := ⟨rfl, _, rfl⟩
theorem rk_RX10_167 : ak_okr RX10 167 (9, 71, 0, 0) := ⟨q_71, rfl, mk_71, rfl, by decide +kernel, ak_wc_3 67 (by decide +kernel) (by decide +kernel), ak_wc_3 68 (by decide +kernel) (by decide +kernel), ak_wc_3 69 (by decide +kernel) (by decide +kernel)⟩
theorem rk_RX10_171 : ak_okr RX10 171 (9, 73, 1, 0) := ⟨q_73, rfl, mk_73, rfl, by decide +kernel, ak_wc_3 77 (by decide +kernel) (by decide +kernel), ak_wc_3 78 (by decide +kernel) (by decide +kernel), ak_wc_3 79 (by decide +kernel) (by decide +kernel)⟩
theorem rk_RL_7 : ak_okr RL 7 (7, 11, 0, 0) := ⟨(RX11, TX11, 9), rfl, ak_wc_1 21 (by decide +kernel) (by decide +kernel)⟩
theorem rk_RL_9 : ak_okr RL 9 (14, 0, 0, 11) := ⟨q_0, (RX11, TX11, 9), rfl, mk_0, rfl, rfl, rfl, rfl, by decide +kernel, ak_wc_1 23 (by decide +kernel) (by decide +kernel), ak_wc_1 24 (by decide +kernel) (by decide +kernel)⟩
theorem rk_RL_10 : ak_okr RL 10 (7, 12, 0, 0) := ⟨(RX12, TX12, 44), rfl, ak_wc_5 8 (by decide +kernel) (by decide +kernel)⟩
theorem rk_RL_12 : ak_okr RL 12 (14, 166, 0, 12) := ⟨q_166, (RX12, TX12, 44), rfl, mk_166, rfl, rfl, rfl, rfl, by decide +kernel, ak_wc_5 10 (by decide +kernel) (by decide +kernel), ak_wc_5 11 (by decide +kernel) (by decide +kernel)⟩
theorem rk_RL_13 : ak_okr RL 13 (8, 14, 3, 11) := ⟨q_14, (RX11, TX11, 9), rfl, mk_14, rfl, rfl, by decide +kernel, ak_wc_2 61 (by decide +kernel) (by decide +kernel), ak_wc_2 62 (by decide +kernel) (by decide +kernel), ak_wc_2 63 (by decide +kernel) (by decide +kernel)⟩
theorem rk_RL_17 : ak_okr RL 17 (8, 168, 3, 12) := ⟨q_168, (RX12, TX12, 44), rfl, mk_168, rfl, rfl, by decide +kernel, ak_wc_5 150 (by decide +kernel) (by decide +kernel), ak_wc_5 151 (by decide +kernel) (by decide +kernel), ak_wc_5 152 (by decide +kernel) (by decide +kernel)⟩
theorem rk_RL_18 : ak_okr RL 18 (8, 21, 3, 11) := ⟨q_21, (RX11, TX11, 9), rfl, mk_21, rfl, rfl, by decide +kernel, ak_wc_2 93 (by decide +kernel) (by decide +kernel), ak_wc_2 94 (by decide +kernel) (by decide +kernel), ak_wc_2 95 (by decide +kernel) (by decide +kernel)⟩
theorem rk_RL_21 : ak_okr RL 21 (8, 198, 3, 12) := ⟨q_198, (RX12, TX12, 44), rfl, mk_198, rfl, rfl, by decide +kernel, ak_wc_6 41 (by decide +kernel) (by decide +kernel), ak_wc_6 42 (by decide +kernel) (by decide +kernel), ak_wc_6 43 (by decide +kernel) (by decide +kernel)⟩
theorem rk_RL_22 : ak_okr RL 22 (8, 24, 3, 11) := ⟨q_24, (RX11, TX11, 9), rfl, mk_24, rfl, rfl, by decide +kernel, ak_wc_2 105 (by decide +kernel) (by decide +kernel), ak_wc_2 106 (by decide +kernel) (by decide +kernel), ak_wc_2 107 (by decide +kernel) (by decide +kernel)⟩
theorem rk_RL_25 : ak_okr RL 25 (8, 200, 3, 12) := ⟨q_200, (RX12, TX12, 44), rfl, mk_200, rfl, rfl, by decide +kernel, ak_wc_6 51 (by decide +kernel) (by decide +kernel), ak_wc_6 52 (by decide +kernel) (by decide +kernel), ak_wc_6 53 (by decide +kernel) (by decide +kernel)⟩
theorem rk_RL_26 : ak_okr RL 26 (8, 25, 2, 11) := ⟨q_25, (RX11, TX11, 9), rfl, mk_25, rfl, rfl, by decide +kernel, ak_wc_2 111 (by decide +kernel) (by decide +kernel), ak_wc_2 112 (by decide +kernel) (by decide +kernel), ak_wc_2 113 (by decide +kernel) (by decide +kernel)⟩
theorem rk_RL_30 : ak_okr RL 30 (8, 201, 2, 12) := ⟨q_201, (RX12, TX12, 44), rfl, mk_201, rfl, rfl, by decide +kernel, ak_wc_6 55 (by decide +kernel) (by decide +kernel), ak_wc_6 56 (by decide +kernel) (by decide +kernel), ak_wc_6 57 (by decide +kernel) (by decide +kernel)⟩
theorem rk_RL_31 : ak_okr RL 31 (8, 46, 2, 11) := ⟨q_46, (RX11, TX11, 9), rfl, mk_46, rfl, rfl, by decide +kernel, ak_wc_2 196 (by decide +kernel) (by decide +kernel), ak_wc_2 197 (by decide +kernel) (by decide +kernel), ak_wc_2 198 (by decide +kernel) (by decide +kernel)⟩
theorem rk_RL_34 : ak_okr RL 34 (8, 172, 2, 12) := ⟨q_172, (RX12, TX12, 44), rfl, mk_172, rfl, rfl, by decide +kernel, ak_wc_6 67 (by decide +kernel) (by decide +kernel), ak_wc_5 166 (by decide +kernel) (by decide +kernel), ak_wc_5 167 (by decide +kernel) (by decide +kernel)⟩
theorem rk_RL_35 : ak_okr RL 35 (8, 62, 1, 11) := ⟨q_62, (RX11, TX11, 9), rfl, mk_62, rfl, rfl, by decide +kernel, ak_wc_3 28 (by decide +kernel) (by decide +kernel), ak_wc_3 29 (by decide +kernel) (by decide +kernel), ak_wc_3 30 (by decide +kernel) (by decide +kernel)⟩
theorem rk_RL_39 : ak_okr RL 39 (8, 204, 1, 12) := ⟨q_204, (RX12, TX12, 44), rfl, mk_204, rfl, rfl, by decide +kernel, ak_wc_6 68 (by decide +kernel) (by decide +kernel), ak_wc_6 69 (by decide +kernel) (by decide +kernel), ak_wc_6 70 (by decide +kernel) (by decide +kernel)⟩
theorem rk_RL_40 : ak_okr RL 40 (8, 63, 0, 11) := ⟨q_63, (RX11, TX11, 9), rfl, mk_63, rfl, rfl, by decide +kernel, ak_wc_3 32 (by decide +kernel) (by decide +kernel), ak_wc_3 33 (by decide +kernel) (by decide +kernel), ak_wc_3 34 (by decide +kernel) (by decide +kernel)⟩
theorem rk_RL_44 : ak_okr RL 44 (8, 205, 0, 12) := ⟨q_205, (RX12, TX12, 44), rfl, mk_205, rfl, rfl, by decide +kernel, ak_wc_6 73 (by decide +kernel) (by decide +kernel), ak_wc_6 74 (by decide +kernel) (by decide +kernel), ak_wc_6 75 (by decide +kernel) (by decide +kernel)⟩
theorem rk_RL_45 : ak_okr RL 45 (8, 97, 1, 11) := ⟨q_97, (RX11, TX11, 9), rfl, mk_97, rfl, rfl, by decide +kernel, ak_wc_3 189 (by decide +kernel) (by decide +kernel), ak_wc_3 190 (by decide +kernel) (by decide +kernel), ak_wc_3 191 (by decide +kernel) (by decide +kernel)⟩
theorem rk_RL_48 : ak_okr RL 48 (8, 206, 1, 12) := ⟨q_206, (RX12, TX12, 44), rfl, mk_206, rfl, rfl, by decide +kernel, ak_wc_6 77 (by decide +kernel) (by decide +kernel), ak_wc_6 78 (by decide +kernel) (by decide +kernel), ak_wc_6 79 (by decide +kernel) (by decide +kernel)⟩
theorem rk_RL_49 : ak_okr RL 49 (8, 98, 1, 11) := ⟨q_98, (RX11, TX11, 9), rfl, mk_98, rfl, rfl, by decide +kernel, ak_wc_3 193 (by decide +kernel) (by decide +kernel), ak_wc_3 194 (by decide +kernel) (by decide +kernel), ak_wc_3 195 (by decide +kernel) (by decide +kernel)⟩
theorem rk_RL_52 : ak_okr RL 52 (8, 207, 1, 12) := ⟨q_207, (RX12, TX12, 44), rfl, mk_207, rfl, rfl, by decide +kernel, ak_wc_6 81 (by decide +kernel) (by decide +kernel), ak_wc_6 82 (by decide +kernel) (by decide +kernel), ak_wc_6 83 (by decide +kernel) (by decide +kernel)⟩
theorem rk_RL_53 : ak_okr RL 53 (8, 110, 0, 11) := ⟨q_110, (RX11, TX11, 9), rfl, mk_110, rfl, rfl, by decide +kernel, ak_wc_4 11 (by decide +kernel) (by decide +kernel), ak_wc_4 12 (by decide +kernel) (by decide +kernel), ak_wc_4 13 (by decide +kernel) (by decide +kernel)⟩
theorem rk_RL_56 : ak_okr RL 56 (8, 216, 0, 12) := ⟨q_216, (RX12, TX12, 44), rfl, mk_216, rfl, rfl, by decide +kernel, ak_wc_6 119 (by decide +kernel) (by decide +kernel), ak_wc_6 120 (by decide +kernel) (by decide +kernel), ak_wc_6 121 (by decide +kernel) (by decide +kernel)⟩
theorem rk_RL_57 : ak_okr RL 57 (8, 112, 1, 11) := ⟨q_112, (RX11, TX11, 9), rfl, mk_112, rfl, rfl, by decide +kernel, ak_wc_4 20 (by decide +kernel) (by decide +kernel), ak_wc_4 21 (by decide +kernel) (by decide +kernel), ak_wc_4 22 (by decide +kernel) (by decide +kernel)⟩
theorem rk_RL_60 : ak_okr RL 60 (8, 217, 1, 12) := ⟨q_217, (RX12, TX12, 44), rfl, mk_217, rfl, rfl, by decide +kernel, ak_wc_6 123 (by decide +kernel) (by decide +kernel), ak_wc_6 124 (by decide +kernel) (by decide +kernel), ak_wc_6 125 (by decide +kernel) (by decide +kernel)⟩
theorem rk_RL_61 : ak_okr RL 61 (8, 122, 1, 11) := ⟨q_122, (RX11, TX11, 9), rfl, mk_122, rfl, rfl, by decide +kernel, ak_wc_4 63 (by decide +kernel) (by decide +kernel), ak_wc_4 64 (by decide +kernel) (by decide +kernel), ak_wc_4 65 (by decide +kernel) (by decide +kernel)⟩
theorem rk_RL_64 : ak_okr RL 64 (8, 221, 1, 12) := ⟨q_221, (RX12, TX12, 44), rfl, mk_221, rfl, rfl, by decide +kernel, ak_wc_6 139 (by decide +kernel) (by decide +kernel), ak_wc_6 140 (by decide +kernel) (by decide +kernel), ak_wc_6 141 (by decide +kernel) (by decide +kernel)⟩
theorem rk_RL_65 : ak_okr RL 65 (8, 127, 1, 11) := ⟨q_127, (RX11, TX11, 9), rfl, mk_127, rfl, rfl, by decide +kernel, ak_wc_4 84 (by decide +kernel) (by decide +kernel), ak_wc_4 85 (by decide +kernel) (by decide +kernel), ak_wc_4 86 (by decide +kernel) (by decide +kernel)⟩
theorem rk_RL_68 : ak_okr RL 68 (8, 227, 1, 12) := ⟨q_227, (RX12, TX12, 44), rfl, mk_227, rfl, rfl, by decide +kernel, ak_wc_6 163 (by decide +kernel) (by decide +kernel), ak_wc_6 164 (by decide +kernel) (by decide +kernel), ak_wc_6 165 (by decide +kernel) (by decide +kernel)⟩
theorem rk_RL_69 : ak_okr RL 69 (8, 130, 2, 11) := ⟨q_130, (RX11, TX11, 9), rfl, mk_130, rfl, rfl, by decide +kernel, ak_wc_4 98 (by decide +kernel) (by decide +kernel), ak_wc_4 99 (by decide +kernel) (by decide +kernel), ak_wc_4 100 (by decide +kernel) (by decide +kernel)⟩
theorem rk_RL_72 : ak_okr RL 72 (8, 228, 2, 12) := ⟨q_228, (RX12, TX12, 44), rfl, mk_228, rfl, rfl, by decide +kernel, ak_wc_6 167 (by decide +kernel) (by decide +kernel), ak_wc_6 168 (by decide +kernel) (by decide +kernel), ak_wc_6 169 (by decide +kernel) (by decide +kernel)⟩
theorem rk_RL_73 : ak_okr RL 73 (8, 133, 0, 11) := ⟨q_133, (RX11, TX11, 9), rfl, mk_133, rfl, rfl, by decide +kernel, ak_wc_4 110 (by decide +kernel) (by decide +kernel), ak_wc_4 111 (by decide +kernel) (by decide +kernel), ak_wc_4 112 (by decide +kernel) (by decide +kernel)⟩
theorem rk_RL_76 : ak_okr RL 76 (8, 226, 0, 12) := ⟨q_226, (RX12, TX12, 44), rfl, mk_226, rfl, rfl, by decide +kernel, ak_wc_6 159 (by decide +kernel) (by decide +kernel), ak_wc_6 160 (by decide +kernel) (by decide +kernel), ak_wc_6 161 (by decide +kernel) (by decide +kernel)⟩
theorem rk_RL_77 : ak_okr RL 77 (8, 135, 3, 11) := ⟨q_135, (RX11, TX11, 9), rfl, mk_135, rfl, rfl, by decide +kernel, ak_wc_4 118 (by decide +kernel) (by decide +kernel), ak_wc_4 119 (by decide +kernel) (by decide +kernel), ak_wc_4 120 (by decide +kernel) (by decide +kernel)⟩
theorem rk_RL_80 : ak_okr RL 80 (8, 229, 3, 12) := ⟨q_229, (RX12, TX12, 44), rfl, mk_229, rfl, rfl, by decide +kernel, ak_wc_6 171 (by decide +kernel) (by decide +kernel), ak_wc_6 172 (by decide +kernel) (by decide +kernel), ak_wc_6 173 (by decide +kernel) (by decide +kernel)⟩
theorem rk_RL_81 : ak_okr RL 81 (8, 146, 2, 11) := ⟨q_146, (RX11, TX11, 9), rfl, mk_146, rfl, rfl, by decide +kernel, ak_wc_4 161 (by decide +kernel) (by decide +kernel), ak_wc_4 162 (by decide +kernel) (by decide +kernel), ak_wc_4 163 (by decide +kernel) (by decide +kernel)⟩
theorem rk_RL_84 : ak_okr RL 84 (8, 232, 2, 12) := ⟨q_232, (RX12, TX12, 44), rfl, mk_232, rfl, rfl, by decide +kernel, ak_wc_6 182 (by decide +kernel) (by decide +kernel), ak_wc_6 183 (by decide +kernel) (by decide +kernel), ak_wc_6 184 (by decide +kernel) (by decide +kernel)⟩
theorem rk_RL_85 : ak_okr RL 85 (8, 150, 1, 11) := ⟨q_150, (RX11, TX11, 9), rfl, mk_150, rfl, rfl, by decide +kernel, ak_wc_4 179 (by decide +kernel) (by decide +kernel), ak_wc_4 180 (by decide +kernel) (by decide +kernel), ak_wc_4 181 (by decide +kernel) (by decide +kernel)⟩
theorem rk_RL_88 : ak_okr RL 88 (8, 234, 1, 12) := ⟨q_234, (RX12, TX12, 44), rfl, mk_234, rfl, rfl, by decide +kernel, ak_wc_6 191 (by decide +kernel) (by decide +kernel), ak_wc_6 192 (by decide +kernel) (by decide +kernel), ak_wc_6 193 (by decide +kernel) (by decide +kernel)⟩
theorem rk_RL_89 : ak_okr RL 89 (8, 152, 3, 11) := ⟨q_152, (RX11, TX11, 9), rfl, mk_152, rfl, rfl, by decide +kernel, ak_wc_4 188 (by decide +kernel) (by decide +kernel), ak_wc_4 189 (by decide +kernel) (by decide +kernel), ak_wc_4 190 (by decide +kernel) (by decide +kernel)⟩
theorem rk_RL_93 : ak_okr RL 93 (8, 236, 3, 12) := ⟨q_236, (RX12, TX12, 44), rfl, mk_236, rfl, rfl, by decide +kernel, ak_wc_6 200 (by decide +kernel) (by decide +kernel), ak_wc_6 201 (by decide +kernel) (by decide +kernel), ak_wc_6 202 (by decide +kernel) (by decide +kernel)⟩
theorem rk_RL_94 : ak_okr RL 94 (8, 154, 0, 11) := ⟨q_154, (RX11, TX11, 9), rfl, mk_154, rfl, rfl, by decide +kernel, ak_wc_4 196 (by decide +kernel) (by decide +kernel), ak_wc_4 197 (by decide +kernel) (by decide +kernel), ak_wc_4 198 (by decide +kernel) (by decide +kernel)⟩
theorem rk_RL_97 : ak_okr RL 97 (8, 237, 0, 12) := ⟨q_237, (RX12, TX12, 44), rfl, mk_237, rfl, rfl, by decide +kernel, ak_wc_6 205 (by decide +kernel) (by decide +kernel), ak_wc_6 206 (by decide +kernel) (by decide +kernel), ak_wc_6 207 (by decide +kernel) (by decide +kernel)⟩
theorem rk_RL_98 : ak_okr RL 98 (8, 155, 0, 11) := ⟨q_155, (RX11, TX11, 9), rfl, mk_155, rfl, rfl, by decide +kernel, ak_wc_4 200 (by decide +kernel) (by decide +kernel), ak_wc_4 201 (by decide +kernel) (by decide +kernel), ak_wc_4 202 (by decide +kernel) (by decide +kernel)⟩
theorem rk_RL_101 : ak_okr RL 101 (8, 238, 0, 12) := ⟨q_238, (RX12, TX12, 44), rfl, mk_238, rfl, rfl, by decide +kernel, ak_wc_6 209 (by decide +kernel) (by decide +kernel), ak_wc_6 210 (by decide +kernel) (by decide +kernel), ak_wc_6 211 (by decide +kernel) (by decide +kernel)⟩
theorem rk_RL_102 : ak_okr RL 102 (8, 156, 1, 11) := ⟨q_156, (RX11, TX11, 9), rfl, mk_156, rfl, rfl, by decide +kernel, ak_wc_4 204 (by decide +kernel) (by decide +kernel), ak_wc_4 205 (by decide +kernel) (by decide +kernel), ak_wc_4 206 (by decide +kernel) (by decide +kernel)⟩
theorem rk_RL_105 : ak_okr RL 105 (8, 239, 1, 12) := ⟨q_239, (RX12, TX12, 44), rfl, mk_239, rfl, rfl, by decide +kernel, ak_wc_6 213 (by decide +kernel) (by decide +kernel), ak_wc_6 214 (by decide +kernel) (by decide +kernel), ak_wc_6 215 (by decide +kernel) (by decide +kernel)⟩
theorem rk_RL_106 : ak_okr RL 106 (8, 159, 3, 11) := ⟨q_159, (RX11, TX11, 9), rfl, mk_159, rfl, rfl, by decide +kernel, ak_wc_4 216 (by decide +kernel) (by decide +kernel), ak_wc_4 217 (by decide +kernel) (by decide +kernel), ak_wc_4 218 (by decide +kernel) (by decide +kernel)⟩
theorem rk_RL_109 : ak_okr RL 109 (8, 233, 3, 12) := ⟨q_233, (RX12, TX12, 44), rfl, mk_233, rfl, rfl, by decide +kernel, ak_wc_6 217 (by decide +kernel) (by decide +kernel), ak_wc_6 187 (by decide +kernel) (by decide +kernel), ak_wc_6 188 (by decide +kernel) (by decide +kernel)⟩
theorem rk_RL_110 : ak_okr RL 110 (8, 161, 3, 11) := ⟨q_161, (RX11, TX11, 9), rfl, mk_161, rfl, rfl, by decide +kernel, ak_wc_4 223 (by decide +kernel) (by decide +kernel), ak_wc_4 224 (by decide +kernel) (by decide +kernel), ak_wc_4 225 (by decide +kernel) (by decide +kernel)⟩
theorem rk_RL_113 : ak_okr RL 113 (8, 240, 3, 12) := ⟨q_240, (RX12, TX12, 44), rfl, mk_240, rfl, rfl, by decide +kernel, ak_wc_6 218 (by decide +kernel) (by decide +kernel), ak_wc_6 219 (by decide +kernel) (by decide +kernel), ak_wc_6 220 (by decide +kernel) (by decide +kernel)⟩
theorem rk_RL_114 : ak_okr RL 114 (8, 162, 5, 11) := ⟨q_162, (RX11, TX11, 9), rfl, mk_162, rfl, rfl, by decide +kernel, ak_wc_4 228 (by decide +kernel) (by decide +kernel), ak_wc_4 229 (by decide +kernel) (by decide +kernel), ak_wc_4 230 (by decide +kernel) (by decide +kernel)⟩
theorem rk_RL_118 : ak_okr RL 118 (8, 241, 5, 12) := ⟨q_241, (RX12, TX12, 44), rfl, mk_241, rfl, rfl, by decide +kernel, ak_wc_6 222 (by decide +kernel) (by decide +kernel), ak_wc_6 223 (by decide +kernel) (by decide +kernel), ak_wc_6 224 (by decide +kernel) (by decide +kernel)⟩
theorem rk_RL_119 : ak_okr RL 119 (8, 163, 4, 11) := ⟨q_163, (RX11, TX11, 9), rfl, mk_163, rfl, rfl, by decide +kernel, ak_wc_4 235 (by decide +kernel) (by decide +kernel), ak_wc_4 236 (by decide +kernel) (by decide +kernel), ak_wc_4 237 (by decide +kernel) (by decide +kernel)⟩
theorem rk_RL_123 : ak_okr RL 123 (8, 242, 4, 12) := ⟨q_242, (RX12, TX12, 44), rfl, mk_242, rfl, rfl, by decide +kernel, ak_wc_6 226 (by decide +kernel) (by decide +kernel), ak_wc_6 227 (by decide +kernel) (by decide +kernel), ak_wc_6 228 (by decide +kernel) (by decide +kernel)⟩
theorem rk_RL_124 : ak_okr RL 124 (8, 164, 2, 11) := ⟨q_164, (RX11, TX11, 9), rfl, mk_164, rfl, rfl, by decide +kernel, ak_wc_5 0 (by decide +kernel) (by decide +kernel), ak_wc_5 1 (by decide +kernel) (by decide +kernel), ak_wc_5 2 (by decide +kernel) (by decide +kernel)⟩
theorem rk_RL_127 : ak_okr RL 127 (8, 243, 2, 12) := ⟨q_243, (RX12, TX12, 44), rfl, mk_243, rfl, rfl, by decide +kernel, ak_wc_6 231 (by decide +kernel) (by decide +kernel), ak_wc_6 232 (by decide +kernel) (by decide +kernel), ak_wc_6 233 (by decide +kernel) (by decide +kernel)⟩
theorem rk_RX12_7 : ak_okr RX12 7 (16, 0, 0, 0) := ak_wc_5 13 (by decide +kernel) (by decide +kernel)
theorem rk_RX12_13 : ak_okr RX12 13 (1, 12, 1, 1) := ⟨(RX12, TX12, 44), rfl, by decide, ak_wc_5 18 (by decide +kernel) (by decide +kernel), by decide +kernel⟩
theorem rk_RX12_17 : ak_okr RX12 17 (1, 12, 2, 1) := ⟨(RX12, TX12, 44), rfl, by decide, ak_wc_5 19 (by decide +kernel) (by decide +kernel), by decide +kernel⟩
theorem rk_RX12_20 : ak_okr RX12 20 (1, 12, 5, 1) := ⟨(RX12, TX12, 44), rfl, by decide, ak_wc_5 22 (by decide +kernel) (by decide +kernel), by decide +kernel⟩
theorem rk_RX12_23 : ak_okr RX12 23 (1, 12, 7, 1) := ⟨(RX12, TX12, 44), rfl, by decide, ak_wc_5 24 (by decide +kernel) (by decide +kernel), by decide +kernel⟩
theorem rk_RX12_26 : ak_okr RX12 26 (1, 12, 8, 1) := ⟨(RX12, TX12, 44), rfl, by decide, ak_wc_5 25 (by decide +kernel) (by decide +kernel), by decide +kernel⟩
theorem rk_RX12_29 : ak_okr RX12 29 (1, 12, 9, 1) := ⟨(RX12, TX12, 44), rfl, by decide, ak_wc_5 26 (by decide +kernel) (by decide +kernel), by decide +kernel⟩
theorem rk_RX12_32 : ak_okr RX12 32 (1, 12, 10, 1) := ⟨(RX12, TX12, 44), rfl, by decide, ak_wc_5 27 (by decide +kernel) (by decide +kernel), by decide +kernel⟩
theorem rk_RX12_35 : ak_okr RX12 35 (1, 12, 27, 1) := ⟨(RX12, TX12, 44), rfl, by decide, ak_wc_5 44 (by decide +kernel) (by decide +kernel), by decide +kernel⟩
theorem rk_RX12_39 : ak_okr RX12 39 (1, 12, 28, 1) := ⟨(RX12, TX12, 44), rfl, by decide, ak_wc_5 45 (by decide +kernel) (by decide +kernel), by decide +kernel⟩
theorem rk_RX12_42 : ak_okr RX12 42 (1, 12, 29, 1) := ⟨(RX12, TX12, 44), rfl, by decide, ak_wc_5 46 (by decide +kernel) (by decide +kernel), by decide +kernel⟩
theorem rk_RX12_45 : ak_okr RX12 45 (1, 12, 30, 1) := ⟨(RX12, TX12, 44), rfl, by decide, ak_wc_5 47 (by decide +kernel) (by decide +kernel), by decide +kernel⟩
theorem rk_RX12_48 : ak_okr RX12 48 (1, 12, 34, 1) := ⟨(RX12, TX12, 44), rfl, by decide, ak_wc_5 51 (by decide +kernel) (by decide +kernel), by decide +kernel⟩
theorem rk_RX12_51 : ak_okr RX12 51 (1, 12, 35, 1) := ⟨(RX12, TX12, 44), rfl, by decide, ak_wc_5 52 (by decide +kernel) (by decide +kernel), by decide +kernel⟩
theorem rk_RX12_54 : ak_okr RX12 54 (1, 12, 36, 1) := ⟨(RX12, TX12, 44), rfl, by decide, ak_wc_5 53 (by decide +kernel) (by decide +kernel), by decide +kernel⟩
theorem rk_RX12_57 : ak_okr RX12 57 (1, 12, 37, 1) := ⟨(RX12, TX12, 44), rfl, by decide, ak_wc_5 54 (by decide +kernel) (by decide +kernel), by decide +kernel⟩
theorem rk_RX12_60 : ak_okr RX12 60 (1, 12, 38, 0) := ⟨(RX12, TX12, 44), rfl, by decide, ak_wc_5 55 (by decide +kernel) (by decide +kernel), by decide +kernel⟩
theorem rk_RX12_63 : ak_okr RX12 63 (1, 12, 40, 1) := ⟨(RX12, TX12, 44), rfl, by decide, ak_wc_5 57 (by decide +kernel) (by decide +kernel), by decide +kernel⟩
theorem rk_RX12_66 : ak_okr RX12 66 (1, 12, 41, 1) := ⟨(RX12, TX12, 44), rfl, by decide, ak_wc_5 58 (by decide +kernel) (by decide +kernel), by decide +kernel⟩
theorem rk_RX12_69 : ak_okr RX12 69 (1, 12, 42, 1) := ⟨(RX12, TX12, 44), rfl, by decide, ak_wc_5 59 (by decide +kernel) (by decide +kernel), by decide +kernel⟩
theorem rk_RX12_72 : ak_okr RX12 72 (1, 12, 43, 1) := ⟨(RX12, TX12, 44), rfl, by decide, ak_wc_5 60 (by decide +kernel) (by decide +kernel), by decide +kernel⟩
theorem rk_RX12_75 : ak_okr RX12 75 (8, 167, 9, 12) := ⟨q_167, (RX12, TX12, 44), rfl, mk_167, rfl, rfl, by decide +kernel, ak_wc_5 14 (by decide +kernel) (by decide +kernel), ak_wc_5 16 (by decide +kernel) (by decide +kernel), ak_w 47 (by decide +kernel) (by decide +kernel)⟩
theorem rk_RX12_79 : ak_okr RX12 79 (1, 12, 3, 0) := ⟨(RX12, TX12, 44), rfl, by decide, ak_wc_5 20 (by decide +kernel) (by decide +kernel), by decide +kernel⟩
theorem rk_RX12_82 : ak_okr RX12 82 (1, 12, 11, 0) := ⟨(RX12, TX12, 44), rfl, by decide, ak_wc_5 28 (by decide +kernel) (by decide +kernel), by decide +kernel⟩
theorem rk_RX12_85 : ak_okr RX12 85 (11, 169, 3, 0) := ⟨q_169, rfl, mk_169, by decide +kernel, ak_wc_5 155 (by decide +kernel) (by decide +kernel), ak_wc_5 156 (by decide +kernel) (by decide +kernel)⟩
theorem rk_RX12_89 : ak_okr RX12 89 (6, 0, 0, 7) := ak_wc_6 62 (by decide +kernel) (by decide +kernel)
theorem rk_RX12_91 : ak_okr RX12 91 (6, 0, 0, 6) := ak_wc_5 154 (by decide +kernel) (by decide +kernel)
theorem rk_RX12_93 : ak_okr RX12 93 (8, 170, 1, 12) := ⟨q_170, (RX12, TX12, 44), rfl, mk_170, rfl, rfl, by decide +kernel, ak_wc_5 158 (by decide +kernel) (by decide +kernel), ak_wc_5 160 (by decide +kernel) (by decide +kernel), ak_w 48 (by decide +kernel) (by decide +kernel)⟩
theorem rk_RX12_97 : ak_okr RX12 97 (11, 171, 1, 0) := ⟨q_171, rfl, mk_171, by decide +kernel, ak_wc_5 162 (by decide +kernel) (by decide +kernel), ak_wc_5 163 (by decide +kernel) (by decide +kernel)⟩
theorem rk_RX12_101 : ak_okr RX12 101 (8, 172, 2, 12) := ⟨q_172, (RX12, TX12, 44), rfl, mk_172, rfl, rfl, by decide +kernel, ak_wc_5 165 (by decide +kernel) (by decide +kernel), ak_wc_5 166 (by decide +kernel) (by decide +kernel), ak_wc_5 167 (by decide +kernel) (by decide +kernel)⟩
theorem rk_RX12_105 : ak_okr RX12 105 (8, 197, 3, 12) := ⟨q_197, (RX12, TX12, 44), rfl, mk_197, rfl, rfl, by decide +kernel, ak_wc_6 37 (by decide +kernel) (by decide +kernel), ak_wc_6 39 (by decide +kernel) (by decide +kernel), ak_w 72 (by decide +kernel) (by decide +kernel)⟩
theorem rk_RX12_109 : ak_okr RX12 109 (1, 12, 4, 0) := ⟨(RX12, TX12, 44), rfl, by decide, ak_wc_5 21 (by decide +kernel) (by decide +kernel), by decide +kernel⟩
theorem rk_RX12_112 : ak_okr RX12 112 (6, 0, 0, 5) := ak_wc_6 20 (by decide +kernel) (by decide +kernel)
theorem rk_RX12_114 : ak_okr RX12 114 (6, 0, 0, 9) := ak_wc_6 45 (by decide +kernel) (by decide +kernel)
theorem rk_RX12_116 : ak_okr RX12 116 (6, 0, 0, 4) := ak_wc_6 46 (by decide +kernel) (by decide +kernel)
theorem rk_RX12_118 : ak_okr RX12 118 (8, 199, 3, 12) := ⟨q_199, (RX12, TX12, 44), rfl, mk_199, rfl, rfl, by decide +kernel, ak_wc_6 47 (by decide +kernel) (by decide +kernel), ak_wc_6 49 (by decide +kernel) (by decide +kernel), ak_w 73 (by decide +kernel) (by decide +kernel)⟩
theorem rk_RX12_121 : ak_okr RX12 121 (11, 202, 1, 0) := ⟨q_202, rfl, mk_202, by decide +kernel, ak_wc_6 59 (by decide +kernel) (by decide +kernel), ak_wc_6 60 (by decide +kernel) (by decide +kernel)⟩
theorem rk_RX12_124 : ak_okr RX12 124 (8, 203, 2, 12) := ⟨q_203, (RX12, TX12, 44), rfl, mk_203, rfl, rfl, by decide +kernel, ak_wc_6 63 (by decide +kernel) (by decide +kernel), ak_wc_6 65 (by decide +kernel) (by decide +kernel), ak_w 74 (by decide +kernel) (by decide +kernel)⟩
theorem rk_RX12_128 : ak_okr RX12 128 (6, 0, 0, 20) := ak_wc_5 169 (by decide +kernel) (by decide +kernel)
theorem rk_RX12_130 : ak_okr RX12 130 (6, 0, 0, 27) := ak_wc_5 170 (by decide +kernel) (by decide +kernel)
theorem rk_RX12_132 : ak_okr RX12 132 (6, 0, 0, 30) := ak_wc_5 171 (by decide +kernel) (by decide +kernel)
theorem rk_RX12_134 : ak_okr RX12 134 (6, 0, 0, 37) := ak_wc_5 172 (by decide +kernel) (by decide +kernel)
theorem rk_RX12_136 : ak_okr RX12 136 (6, 0, 0, 10) := ak_wc_5 173 (by decide +kernel) (by decide +kernel)
theorem rk_RX12_138 : ak_okr RX12 138 (8, 173, 2, 12) := ⟨q_173, (RX12, TX12, 44), rfl, mk_173, rfl, rfl, by decide +kernel, ak_wc_5 174 (by decide +kernel) (by decide +kernel), ak_wc_5 176 (by decide +kernel) (by decide +kernel), ak_w 49 (by decide +kernel) (by decide +kernel)⟩
theorem rk_RX12_141 : ak_okr RX12 141 (8, 193, 2, 12) := ⟨q_193, (RX12, TX12, 44), rfl, mk_193, rfl, rfl, by decide +kernel, ak_wc_6 21 (by decide +kernel) (by decide +kernel), ak_wc_6 23 (by decide +kernel) (by decide +kernel), ak_w 68 (by decide +kernel) (by decide +kernel)⟩
theorem rk_RX12_144 : ak_okr RX12 144 (8, 194, 2, 12) := ⟨q_194, (RX12, TX12, 44), rfl, mk_194, rfl, rfl, by decide +kernel, ak_wc_6 25 (by decide +kernel) (by decide +kernel), ak_wc_6 27 (by decide +kernel) (by decide +kernel), ak_w 69 (by decide +kernel) (by decide +kernel)⟩
theorem rk_RX12_147 : ak_okr RX12 147 (8, 196, 1, 12) := ⟨q_196, (RX12, TX12, 44), rfl, mk_196, rfl, rfl, by decide +kernel, ak_wc_6 33 (by decide +kernel) (by decide +kernel), ak_wc_6 35 (by decide +kernel) (by decide +kernel), ak_w 71 (by decide +kernel) (by decide +kernel)⟩
theorem rk_RX12_150 : ak_okr RX12 150 (6, 0, 0, 255) := ak_wc_6 72 (by decide +kernel) (by decide +kernel)
theorem rk_RX12_152 : ak_okr RX12 152 (1, 12, 6, 0) := ⟨(RX12, TX12, 44), rfl, by decide, ak_wc_5 23 (by decide +kernel) (by decide +kernel), by decide +kernel⟩
theorem rk_RX12_155 : ak_okr RX12 155 (1, 12, 19, 0) := ⟨(RX12, TX12, 44), rfl, by decide, ak_wc_5 36 (by decide +kernel) (by decide +kernel), by decide +kernel⟩
theorem rk_RX12_158 : ak_okr RX12 158 (1, 12, 18, 0) := ⟨(RX12, TX12, 44), rfl, by decide, ak_wc_5 35 (by decide +kernel) (by decide +kernel), by decide +kernel⟩
theorem rk_RX12_161 : ak_okr RX12 161 (1, 12, 20, 0) := ⟨(RX12, TX12, 44), rfl, by decide, ak_wc_5 37 (by decide +kernel) (by decide +kernel), by decide +kernel⟩
theorem rk_RX12_164 : ak_okr RX12 164 (8, 178, 1, 12) := ⟨q_178, (RX12, TX12, 44), rfl, mk_178, rfl, rfl, by decide +kernel, ak_wc_5 194 (by decide +kernel) (by decide +kernel), ak_wc_5 196 (by decide +kernel) (by decide +kernel), ak_w 54 (by decide +kernel) (by decide +kernel)⟩
theorem rk_RX12_167 : ak_okr RX12 167 (1, 12, 22, 0) := ⟨(RX12, TX12, 44), rfl, by decide, ak_wc_5 39 (by decide +kernel) (by decide +kernel), by decide +kernel⟩
theorem rk_RX12_170 : ak_okr RX12 170 (1, 12, 21, 0) := ⟨(RX12, TX12, 44), rfl, by decide, ak_wc_5 38 (by decide +kernel) (by decide +kernel), by decide +kernel⟩
theorem rk_RX12_173 : ak_okr RX12 173 (6, 0, 0, 97) := ak_wc_5 198 (by decide +kernel) (by decide +kernel)
theorem rk_RX12_175 : ak_okr RX12 175 (6, 0, 0, 122) := ak_wc_5 199 (by decide +kernel) (by decide +kernel)
theorem rk_RX12_177 : ak_okr RX12 177 (6, 0, 0, 48) := ak_wc_5 200 (by decide +kernel) (by decide +kernel)
theorem rk_RX12_179 : ak_okr RX12 179 (6, 0, 0, 57) := ak_wc_5 201 (by decide +kernel) (by decide +kernel)
theorem rk_RX12_181 : ak_okr RX12 181 (1, 12, 23, 0) := ⟨(RX12, TX12, 44), rfl, by decide, ak_wc_5 40 (by decide +kernel) (by decide +kernel), by decide +kernel⟩
theorem rk_RX12_185 : ak_okr RX12 185 (1, 12, 25, 0) := ⟨(RX12, TX12, 44), rfl, by decide, ak_wc_5 42 (by decide +kernel) (by decide +kernel), by decide +kernel⟩
theorem rk_RX12_189 : ak_okr RX12 189 (1, 12, 26, 0) := ⟨(RX12, TX12, 44), rfl, by decide, ak_wc_5 43 (by decide +kernel) (by decide +kernel), by decide +kernel⟩
theorem rk_RX12_192 : ak_okr RX12 192 (8, 180, 2, 12) := ⟨q_180, (RX12, TX12, 44), rfl, mk_180, rfl, rfl, by decide +kernel, ak_wc_5 206 (by decide +kernel) (by decide +kernel), ak_wc_5 208 (by decide +kernel) (by decide +kernel), ak_w 56 (by decide +kernel) (by decide +kernel)⟩
theorem rk_RX12_195 : ak_okr RX12 195 (1, 12, 24, 0) := ⟨(RX12, TX12, 44), rfl, by decide, ak_wc_5 41 (by decide +kernel) (by decide +kernel), by decide +kernel⟩
theorem rk_RX12_198 : ak_okr RX12 198 (8, 182, 0, 12) := ⟨q_182, (RX12, TX12, 44), rfl, mk_182, rfl, rfl, by decide +kernel, ak_wc_5 214 (by decide +kernel) (by decide +kernel), ak_wc_5 216 (by decide +kernel) (by decide +kernel), ak_w 58 (by decide +kernel) (by decide +kernel)⟩
theorem rk_RX12_201 : ak_okr RX12 201 (8, 177, 0, 12) := ⟨q_177, (RX12, TX12, 44), rfl, mk_177, rfl, rfl, by decide +kernel, ak_wc_5 190 (by decide +kernel) (by decide +kernel), ak_wc_5 192 (by decide +kernel) (by decide +kernel), ak_w 53 (by decide +kernel) (by decide +kernel)⟩
theorem rk_RX12_204 : ak_okr RX12 204 (8, 179, 8, 12) := ⟨q_179, (RX12, TX12, 44), rfl, mk_179, rfl, rfl, by decide +kernel, ak_wc_5 202 (by decide +kernel) (by decide +kernel), ak_wc_5 204 (by decide +kernel) (by decide +kernel), ak_w 55 (by decide +kernel) (by decide +kernel)⟩
theorem rk_RX12_208 : ak_okr RX12 208 (1, 12, 12, 0) := ⟨(RX12, TX12, 44), rfl, by decide, ak_wc_5 29 (by decide +kernel) (by decide +kernel), by decide +kernel⟩
theorem rk_RX12_211 : ak_okr RX12 211 (1, 12, 13, 0) := ⟨(RX12, TX12, 44), rfl, by decide, ak_wc_5 30 (by decide +kernel) (by decide +kernel), by decide +kernel⟩
theorem rk_RX12_214 : ak_okr RX12 214 (1, 12, 14, 0) := ⟨(RX12, TX12, 44), rfl, by decide, ak_wc_5 31 (by decide +kernel) (by decide +kernel), by decide +kernel⟩
theorem rk_RX12_217 : ak_okr RX12 217 (1, 12, 15, 0) := ⟨(RX12, TX12, 44), rfl, by decide, ak_wc_5 32 (by decide +kernel) (by decide +kernel), by decide +kernel⟩
theorem rk_RX12_220 : ak_okr RX12 220 (1, 12, 16, 0) := ⟨(RX12, TX12, 44), rfl, by decide, ak_wc_5 33 (by decide +kernel) (by decide +kernel), by decide +kernel⟩
theorem rk_RX12_223 : ak_okr RX12 223 (1, 12, 17, 0) := ⟨(RX12, TX12, 44), rfl, by decide, ak_wc_5 34 (by decide +kernel) (by decide +kernel), by decide +kernel⟩
theorem rk_RX12_226 : ak_okr RX12 226 (8, 190, 1, 12) := ⟨q_190, (RX12, TX12, 44), rfl, mk_190, rfl, rfl, by decide +kernel, ak_wc_6 6 (by decide +kernel) (by decide +kernel), ak_wc_6 8 (by decide +kernel) (by decide +kernel), ak_w 66 (by decide +kernel) (by decide +kernel)⟩
theorem rk_RX12_229 : ak_okr RX12 229 (8, 186, 0, 12) := ⟨q_186, (RX12, TX12, 44), rfl, mk_186, rfl, rfl, by decide +kernel, ak_wc_5 230 (by decide +kernel) (by decide +kernel), ak_wc_5 232 (by decide +kernel) (by decide +kernel), ak_w 62 (by decide +kernel) (by decide +kernel)⟩
theorem rk_RX12_233 : ak_okr RX12 233 (8, 189, 0, 12) := ⟨q_189, (RX12, TX12, 44), rfl, mk_189, rfl, rfl, by decide +kernel, ak_wc_6 2 (by decide +kernel) (by decide +kernel), ak_wc_6 4 (by decide +kernel) (by decide +kernel), ak_w 65 (by decide +kernel) (by decide +kernel)⟩
theorem rk_RX12_237 : ak_okr RX12 237 (8, 183, 0, 12) := ⟨q_183, (RX12, TX12, 44), rfl, mk_183, rfl, rfl, by decide +kernel, ak_wc_5 218 (by decide +kernel) (by decide +kernel), ak_wc_5 220 (by decide +kernel) (by decide +kernel), ak_w 59 (by decide +kernel) (by decide +kernel)⟩
theorem rk_RX12_240 : ak_okr RX12 240 (8, 191, 0, 12) := ⟨q_191, (RX12, TX12, 44), rfl, mk_191, rfl, rfl, by decide +kernel, ak_wc_6 10 (by decide +kernel) (by decide +kernel), ak_wc_6 12 (by decide +kernel) (by decide +kernel), ak_w 67 (by decide +kernel) (by decide +kernel)⟩
theorem rk_RX12_243 : ak_okr RX12 243 (8, 188, 0, 12) := ⟨q_188, (RX12, TX12, 44), rfl, mk_188, rfl, rfl, by decide +kernel, ak_wc_5 238 (by decide +kernel) (by decide +kernel), ak_wc_6 0 (by decide +kernel) (by decide +kernel), ak_w 64 (by decide +kernel) (by decide +kernel)⟩
theorem rk_RX12_246 : ak_okr RX12 246 (6, 0, 0, 43) := ak_wc_6 14 (by decide +kernel) (by decide +kernel)
theorem rk_RX12_248 : ak_okr RX12 248 (8, 185, 0, 12) := ⟨q_185, (RX12, TX12, 44), rfl, mk_185, rfl, rfl, by decide +kernel, ak_wc_5 226 (by decide +kernel) (by decide +kernel), ak_wc_5 228 (by decide +kernel) (by decide +kernel), ak_w 61 (by decide +kernel) (by decide +kernel)⟩
theorem rk_RX12_251 : ak_okr RX12 251 (8, 187, 0, 12) := ⟨q_187, (RX12, TX12, 44), rfl, mk_187, rfl, rfl, by decide +kernel, ak_wc_5 234 (by decide +kernel) (by decide +kernel), ak_wc_5 236 (by decide +kernel) (by decide +kernel), ak_w 63 (by decide +kernel) (by decide +kernel)⟩
theorem rk_RX12_254 : ak_okr RX12 254 (6, 0, 0, 60) := ak_wc_6 15 (by decide +kernel) (by decide +kernel)
theorem rk_RX12_256 : ak_okr RX12 256 (8, 184, 0, 12) := ⟨q_184, (RX12, TX12, 44), rfl, mk_184, rfl, rfl, by decide +kernel, ak_wc_5 222 (by decide +kernel) (by decide +kernel), ak_wc_5 224 (by decide +kernel) (by decide +kernel), ak_w 60 (by decide +kernel) (by decide +kernel)⟩
theorem rk_RX12_259 : ak_okr RX12 259 (8, 181, 1, 12) := ⟨q_181, (RX12, TX12, 44), rfl, mk_181, rfl, rfl, by decide +kernel, ak_wc_5 210 (by decide +kernel) (by decide +kernel), ak_wc_5 212 (by decide +kernel) (by decide +kernel), ak_w 57 (by decide +kernel) (by decide +kernel)⟩
theorem rk_RX12_263 : ak_okr RX12 263 (8, 176, 2, 12) := ⟨q_176, (RX12, TX12, 44), rfl, mk_176, rfl, rfl, by decide +kernel, ak_wc_5 186 (by decide +kernel) (by decide +kernel), ak_wc_5 188 (by decide +kernel) (by decide +kernel), ak_w 52 (by decide +kernel) (by decide +kernel)⟩
theorem rk_RX12_266 : ak_okr RX12 266 (8, 174, 2, 12) := ⟨q_174, (RX12, TX12, 44), rfl, mk_174, rfl, rfl, by decide +kernel, ak_wc_5 178 (by decide +kernel) (by decide +kernel), ak_wc_5 180 (by decide +kernel) (by decide +kernel), ak_w 50 (by decide +kernel) (by decide +kernel)⟩
theorem rk_RX12_269 : ak_okr RX12 269 (11, 192, 3, 0) := ⟨q_192, rfl, mk_192, by decide +kernel, ak_wc_6 16 (by decide +kernel) (by decide +kernel), ak_wc_6 17 (by decide +kernel) (by decide +kernel)⟩
theorem rk_RX12_273 : ak_okr RX12 273 (8, 175, 3, 12) := ⟨q_175, (RX12, TX12, 44), rfl, mk_175, rfl, rfl, by decide +kernel, ak_wc_5 182 (by decide +kernel) (by decide +kernel), ak_wc_5 184 (by decide +kernel) (by decide +kernel), ak_w 51 (by decide +kernel) (by decide +kernel)⟩
theorem rk_RX12_276 : ak_okr RX12 276 (6, 0, 0, 3) := ak_wc_6 19 (by decide +kernel) (by decide +kernel)
theorem rk_RX12_278 : ak_okr RX12 278 (8, 195, 2, 12) := ⟨q_195, (RX12, TX12, 44), rfl, mk_195, rfl, rfl, by decide +kernel, ak_wc_6 29 (by decide +kernel) (by decide +kernel), ak_wc_6 31 (by decide +kernel) (by decide +kernel), ak_w 70 (by decide +kernel) (by decide +kernel)⟩
theorem rk_RX12_281 : ak_okr RX12 281 (8, 213, 1, 12) := ⟨q_213, (RX12, TX12, 44), rfl, mk_213, rfl, rfl, by decide +kernel, ak_wc_6 108 (by decide +kernel) (by decide +kernel), ak_wc_6 110 (by decide +kernel) (by decide +kernel), ak_w 80 (by decide +kernel) (by decide +kernel)⟩
theorem rk_RX12_284 : ak_okr RX12 284 (11, 214, 1, 0) := ⟨q_214, rfl, mk_214, by decide +kernel, ak_wc_6 112 (by decide +kernel) (by decide +kernel), ak_wc_6 113 (by decide +kernel) (by decide +kernel)⟩
theorem rk_RX12_287 : ak_okr RX12 287 (8, 212, 1, 12) := ⟨q_212, (RX12, TX12, 44), rfl, mk_212, rfl, rfl, by decide +kernel, ak_wc_6 104 (by decide +kernel) (by decide +kernel), ak_wc_6 106 (by decide +kernel) (by decide +kernel), ak_w 79 (by decide +kernel) (by decide +kernel)⟩
theorem rk_RX12_290 : ak_okr RX12 290 (8, 211, 0, 12) := ⟨q_211, (RX12, TX12, 44), rfl, mk_211, rfl, rfl, by decide +kernel, ak_wc_6 100 (by decide +kernel) (by decide +kernel), ak_wc_6 102 (by decide +kernel) (by decide +kernel), ak_w 78 (by decide +kernel) (by decide +kernel)⟩
theorem rk_RX12_293 : ak_okr RX12 293 (6, 0, 0, 2) := ak_wc_6 85 (by decide +kernel) (by decide +kernel)
theorem rk_RX12_295 : ak_okr RX12 295 (6, 0, 0, 17) := ak_wc_6 86 (by decide +kernel) (by decide +kernel)
theorem rk_RX12_297 : ak_okr RX12 297 (4, 0, 0, -100000) := ak_wc_6 87 (by decide +kernel) (by decide +kernel)
theorem rk_RX12_298 : ak_okr RX12 298 (8, 208, 0, 12) := ⟨q_208, (RX12, TX12, 44), rfl, mk_208, rfl, rfl, by decide +kernel, ak_wc_6 88 (by decide +kernel) (by decide +kernel), ak_wc_6 90 (by decide +kernel) (by decide +kernel), ak_w 75 (by decide +kernel) (by decide +kernel)⟩
theorem rk_RX12_301 : ak_okr RX12 301 (8, 209, 0, 12) := ⟨q_209, (RX12, TX12, 44), rfl, mk_209, rfl, rfl, by decide +kernel, ak_wc_6 92 (by decide +kernel) (by decide +kernel), ak_wc_6 94 (by decide +kernel) (by decide +kernel), ak_w 76 (by decide +kernel) (by decide +kernel)⟩
theorem rk_RX12_304 : ak_okr RX12 304 (8, 210, 0, 12) := ⟨q_210, (RX12, TX12, 44), rfl, mk_210, rfl, rfl, by decide +kernel, ak_wc_6 96 (by decide +kernel) (by decide +kernel), ak_wc_6 98 (by decide +kernel) (by decide +kernel), ak_w 77 (by decide +kernel) (by decide +kernel)⟩
theorem rk_RX12_307 : ak_okr RX12 307 (8, 215, 0, 12) := ⟨q_215, (RX12, TX12, 44), rfl, mk_215, rfl, rfl, by decide +kernel, ak_wc_6 115 (by decide +kernel) (by decide +kernel), ak_wc_6 117 (by decide +kernel) (by decide +kernel), ak_w 81 (by decide +kernel) (by decide +kernel)⟩
theorem rk_RX12_310 : ak_okr RX12 310 (8, 219, 0, 12) := ⟨q_219, (RX12, TX12, 44), rfl, mk_219, rfl, rfl, by decide +kernel, ak_wc_6 131 (by decide +kernel) (by decide +kernel), ak_wc_6 133 (by decide +kernel) (by decide +kernel), ak_w 83 (by decide +kernel) (by decide +kernel)⟩
theorem rk_RX12_313 : ak_okr RX12 313 (1, 12, 31, 0) := ⟨(RX12, TX12, 44), rfl, by decide, ak_wc_5 48 (by decide +kernel) (by decide +kernel), by decide +kernel⟩
theorem rk_RX12_316 : ak_okr RX12 316 (1, 12, 33, 0) := ⟨(RX12, TX12, 44), rfl, by decide, ak_wc_5 50 (by decide +kernel) (by decide +kernel), by decide +kernel⟩
theorem rk_RX12_319 : ak_okr RX12 319 (8, 220, 0, 12) := ⟨q_220, (RX12, TX12, 44), rfl, mk_220, rfl, rfl, by decide +kernel, ak_wc_6 135 (by decide +kernel) (by decide +kernel), ak_wc_6 137 (by decide +kernel) (by decide +kernel), ak_w 84 (by decide +kernel) (by decide +kernel)⟩
theorem rk_RX12_322 : ak_okr RX12 322 (1, 12, 32, 0) := ⟨(RX12, TX12, 44), rfl, by decide, ak_wc_5 49 (by decide +kernel) (by decide +kernel), by decide +kernel⟩
theorem rk_RX12_325 : ak_okr RX12 325 (8, 218, 2, 12) := ⟨q_218, (RX12, TX12, 44), rfl, mk_218, rfl, rfl, by decide +kernel, ak_wc_6 127 (by decide +kernel) (by decide +kernel), ak_wc_6 129 (by decide +kernel) (by decide +kernel), ak_w 82 (by decide +kernel) (by decide +kernel)⟩
theorem rk_RX12_329 : ak_okr RX12 329 (8, 223, 1, 12) := ⟨q_223, (RX12, TX12, 44), rfl, mk_223, rfl, rfl, by decide +kernel, ak_wc_6 147 (by decide +kernel) (by decide +kernel), ak_wc_6 149 (by decide +kernel) (by decide +kernel), ak_w 86 (by decide +kernel) (by decide +kernel)⟩
theorem rk_RX12_332 : ak_okr RX12 332 (8, 224, 1, 12) := ⟨q_224, (RX12, TX12, 44), rfl, mk_224, rfl, rfl, by decide +kernel, ak_wc_6 151 (by decide +kernel) (by decide +kernel), ak_wc_6 153 (by decide +kernel) (by decide +kernel), ak_w 87 (by decide +kernel) (by decide +kernel)⟩
theorem rk_RX12_336 : ak_okr RX12 336 (8, 222, 0, 12) := ⟨q_222, (RX12, TX12, 44), rfl, mk_222, rfl, rfl, by decide +kernel, ak_wc_6 143 (by decide +kernel) (by decide +kernel), ak_wc_6 145 (by decide +kernel) (by decide +kernel), ak_w 85 (by decide +kernel) (by decide +kernel)⟩
theorem rk_RX12_339 : ak_okr RX12 339 (8, 225, 0, 12) := ⟨q_225, (RX12, TX12, 44), rfl, mk_225, rfl, rfl, by decide +kernel, ak_wc_6 155 (by decide +kernel) (by decide +kernel), ak_wc_6 157 (by decide +kernel) (by decide +kernel), ak_w 88 (by decide +kernel) (by decide +kernel)⟩
theorem rk_RX12_342 : ak_okr RX12 342 (11, 230, 1, 0) := ⟨q_230, rfl, mk_230, by decide +kernel, ak_wc_6 175 (by decide +kernel) (by decide +kernel), ak_wc_6 176 (by decide +kernel) (by decide +kernel)⟩
theorem rk_RX12_345 : ak_okr RX12 345 (8, 231, 2, 12) := ⟨q_231, (RX12, TX12, 44), rfl, mk_231, rfl, rfl, by decide +kernel, ak_wc_6 178 (by decide +kernel) (by decide +kernel), ak_wc_6 180 (by decide +kernel) (by decide +kernel), ak_w 89 (by decide +kernel) (by decide +kernel)⟩
theorem rk_RX12_348 : ak_okr RX12 348 (8, 233, 3, 12) := ⟨q_233, (RX12, TX12, 44), rfl, mk_233, rfl, rfl, by decide +kernel, ak_wc_6 186 (by decide +kernel) (by decide +kernel), ak_wc_6 187 (by decide +kernel) (by decide +kernel), ak_wc_6 188 (by decide +kernel) (by decide +kernel)⟩
theorem rk_RX12_351 : ak_okr RX12 351 (4, 0, 0, 1103515245) := ak_wc_6 199 (by decide +kernel) (by decide +kernel)
theorem rk_RX12_352 : ak_okr RX12 352 (8, 235, 1, 12) := ⟨q_235, (RX12, TX12, 44), rfl, mk_235, rfl, rfl, by decide +kernel, ak_wc_6 195 (by decide +kernel) (by decide +kernel), ak_wc_6 197 (by decide +kernel) (by decide +kernel), ak_w 90 (by decide +kernel) (by decide +kernel)⟩
theorem rk_RX12_355 : ak_okr RX12 355 (6, 0, 0, -4611686018427387904) := ak_wc_6 204 (by decide +kernel) (by decide +kernel)
theorem rk_RX12_357 : ak_okr RX12 357 (1, 12, 39, 0) := ⟨(RX12, TX12, 44), rfl, by decide, ak_wc_5 56 (by decide +kernel) (by decide +kernel), by decide +kernel⟩
theorem rk_RX12_360 : ak_okr RX12 360 (6, 0, 0, -1) := ak_wc_6 190 (by decide +kernel) (by decide +kernel)
theorem rk_RX12_362 : ak_okr RX12 362 (8, 198, 3, 12) := ⟨q_198, (RX12, TX12, 44), rfl, mk_198, rfl, rfl, by decide +kernel, ak_wc_6 230 (by decide +kernel) (by decide +kernel), ak_wc_6 42 (by decide +kernel) (by decide +kernel), ak_wc_6 43 (by decide +kernel) (by decide +kernel)⟩
theorem rk_RX12_365 : ak_okr RX12 365 (11, 244, 1, 0) := ⟨q_244, rfl, mk_244, by decide +kernel, ak_wc_6 235 (by decide +kernel) (by decide +kernel), ak_wc_6 236 (by decide +kernel) (by decide +kernel)⟩
theorem rk_RJ6_265 : ak_okr RJ6 265 (4, 0, 0, 1431655765) := ak_wc_3 209 (by decide +kernel) (by decide +kernel)
theorem rk_RJ6_266 : ak_okr RJ6 266 (4, 0, 0, 858993459) := ak_wc_3 210 (by decide +kernel) (by decide +kernel)
theorem rk_RJ6_267 : ak_okr RJ6 267 (4, 0, 0, 252645135) := ak_wc_3 211 (by decide +kernel) (by decide +kernel)
theorem rk_RJ0_9 : ak_okr RJ0 9 (2, 0, 0, 0) := ak_wc_7 7 (by decide +kernel) (by decide +kernel)
theorem rk_RJ0_15 : ak_okr RJ0 15 (2, 1, 0, 0) := ak_wc_7 8 (by decide +kernel) (by decide +kernel)
theorem rk_RJ0_38 : ak_okr RJ0 38 (3, 2, 0, 0) := ⟨_, rfl, ak_wc_3 75 (by decide +kernel) (by decide +kernel)⟩
theorem rk_RJ0_335 : ak_okr RJ0 335 (9, 72, 0, 0) := ⟨q_72, rfl, mk_72, rfl, by decide +kernel, ak_wc_3 71 (by decide +kernel) (by decide +kernel), ak_wc_3 72 (by decide +kernel) (by decide +kernel), ak_wc_3 73 (by decide +kernel) (by decide +kernel)⟩
theorem rk_RJ0_492 : ak_okr RJ0 492 (9, 74, 0, 0) := ⟨q_74, rfl, mk_74, rfl, by decide +kernel, ak_wc_3 81 (by decide +kernel) (by decide +kernel), ak_wc_3 82 (by decide +kernel) (by decide +kernel), ak_wc_3 83 (by decide +kernel) (by decide +kernel)⟩
theorem rk_RJ0_495 : ak_okr RJ0 495 (11, 75, 2, 0) := ⟨q_75, rfl, mk_75, by decide +kernel, ak_wc_3 85 (by decide +kernel) (by decide +kernel), ak_wc_3 86 (by decide +kernel) (by decide +kernel)⟩
theorem rk_RJ0_498 : ak_okr RJ0 498 (11, 78, 2, 0) := ⟨q_78, rfl, mk_78, by decide +kernel, ak_wc_3 96 (by decide +kernel) (by decide +kernel), ak_wc_3 97 (by decide +kernel) (by decide +kernel)⟩
theorem rk_RJ0_1053 : ak_okr RJ0 1053 (3, 3, 0, 0) := ⟨_, rfl, ak_wc_3 91 (by decide +kernel) (by decide +kernel)⟩
theorem rk_RJ0_1059 : ak_okr RJ0 1059 (11, 77, 3, 0) := ⟨q_77, rfl, mk_77, by decide +kernel, ak_wc_3 93 (by decide +kernel) (by decide +kernel), ak_wc_3 94 (by decide +kernel) (by decide +kernel)⟩
theorem rk_RJ1_9 : ak_okr RJ1 9 (11, 76, 2, 0) := ⟨q_76, rfl, mk_76, by decide +kernel, ak_wc_3 88 (by decide +kernel) (by decide +kernel), ak_wc_3 89 (by decide +kernel) (by decide +kernel)⟩
theorem rk_RJ2_44 : ak_okr RJ2 44 (0, 0, 0, 0) := trivial
theorem rk_RJ2_48 : ak_okr RJ2 48 (11, 80, 1, 0) := ⟨q_80, rfl, mk_80, by decide +kernel, ak_wc_3 102 (by decide +kernel) (by decide +kernel), ak_wc_3 103 (by decide +kernel) (by decide +kernel)⟩
theorem rk_RJ2_59 : ak_okr RJ2 59 (0, 0, 0, 0) := trivial
theorem rk_RJ2_63 : ak_okr RJ2 63 (0, 0, 0, 0) := trivial
theorem rk_RJ2_67 : ak_okr RJ2 67 (11, 79, 2, 0) := ⟨q_79, rfl, mk_79, by decide +kernel, ak_wc_3 99 (by decide +kernel) (by decide +kernel), ak_wc_3 100 (by decide +kernel) (by decide +kernel)⟩
theorem rk_RJ2_71 : ak_okr RJ2 71 (11, 81, 2, 0) := ⟨q_81, rfl, mk_81, by decide +kernel, ak_wc_3 106 (by decide +kernel) (by decide +kernel), ak_wc_3 107 (by decide +kernel) (by decide +kernel)⟩
theorem rk_RJ2_414 : ak_okr RJ2 414 (11, 76, 2, 0) := ⟨q_76, rfl, mk_76, by decide +kernel, ak_wc_3 105 (by decide +kernel) (by decide +kernel), ak_wc_3 89 (by decide +kernel) (by decide +kernel)⟩
def rt_RX11 : List (Nat × ak_X) := [(3, (16, 0, 0, 0)), (9, (7, 8, 0, 0)), (11, (14, 1, 0, 8)), (12, (1, 11, 0, 1)), (16, (1, 11, 1, 1)), (19, (1, 11, 2, 1)), (22, (1, 11, 4, 1)), (26, (7, 6, 0, 0)), (28, (14, 2, 1, 6)), (31, (1, 11, 6, 1)), (35, (7, 5, 0, 0)), (37, (14, 12, 2, 5)), (40, (1, 11, 7, 1)), (44, (7, 7, 4, 0)), (46, (1, 11, 8, 1)), (50, (14, 13, 0, 7)), (51, (8, 15, 2, 8)), (55, (8, 17, 2, 8)), (58, (8, 18, 2, 8)), (62, (8, 20, 3, 8)), (66, (8, 22, 3, 8)), (70, (8, 16, 1, 8)), (74, (1, 8, 11, 1)), (77, (8, 23, 3, 8)), (81, (11, 26, 1, 0)), (84, (8, 27, 3, 6)), (88, (1, 8, 10, 1)), (91, (1, 8, 5, 1)), (94, (8, 47, 2, 6)), (98, (8, 55, 2, 6)), (101, (8, 61, 2, 11)), (104, (8, 48, 3, 6)), (108, (8, 29, 3, 6)), (111, (1, 11, 5, 0)), (115, (1, 6, 0, 0)), (118, (8, 34, 1, 6)), (122, (8, 64, 1, 10)), (128, (1, 8, 3, 0)), (131, (4, 0, 0, -100000)), (132, (8, 99, 1, 5)), (136, (8, 105, 1, 5)), (139, (8, 107, 0, 5)), (143, (8, 109, 0, 5)), (147, (8, 108, 0, 5)), (150, (1, 8, 0, 0)), (153, (1, 8, 4, 0)), (156, (1, 8, 9, 1)), (159, (19, 0, 0, 0)), (164, (8, 111, 0, 8)), (167, (8, 113, 1, 5)), (171, (8, 120, 0, 5)), (174, (8, 121, 0, 5)), (177, (8, 123, 0, 5)), (180, (8, 126, 0, 5)), (183, (8, 128, 0, 5)), (186, (8, 131, 2, 5)), (189, (8, 134, 1, 5)), (192, (11, 136, 1, 0)), (195, (8, 137, 0, 7)), (198, (1, 7, 1, 0)), (199, (8, 138, 1, 8)), (202, (8, 139, 2, 11)), (206, (8, 140, 2, 11)), (209, (8, 141, 2, 11)), (212, (8, 142, 2, 11)), (215, (8, 144, 2, 11)), (218, (8, 145, 2, 11)), (221, (8, 147, 2, 7)), (225, (8, 148, 2, 7)), (227, (8, 151, 1, 11)), (231, (6, 0, 0, -4611686018427387904)), (233, (11, 153, 2, 0)), (236, (1, 11, 3, 0)), (240, (8, 157, 0, 8)), (243, (8, 158, 0, 8)), (246, (4, 0, 0, 1103515245)), (247, (1, 8, 8, 1)), (250, (1, 7, 2, 1)), (253, (1, 8, 6, 1)), (256, (8, 143, 4, 11)), (260, (11, 160, 1, 0)), (263, (8, 149, 2, 7)), (266, (1, 7, 0, 0)), (269, (17, 0, 0, 0)), (275, (8, 21, 3, 11)), (278, (8, 165, 2, 6))]
set_option maxRecDepth 100000 in
theorem rt_RX11_ok : ∀ e ∈ rt_RX11, ak_okr RX11 e.1 e.2 := List.forall_mem_cons.mpr ⟨rk_RX11_3, List.forall_mem_cons.mpr ⟨rk_RX11_9, List.forall_mem_cons.mpr ⟨rk_RX11_11, List.forall_mem_cons.mpr ⟨rk_RX11_12, List.forall_mem_cons.mpr ⟨rk_RX11_16, List.forall_mem_cons.mpr ⟨rk_RX11_19, List.forall_mem_cons.mpr ⟨rk_RX11_22, List.forall_mem_cons.mpr ⟨rk_RX11_26, List.forall_mem_cons.mpr ⟨rk_RX11_28, List.forall_mem_cons.mpr ⟨rk_RX11_31, List.forall_mem_cons.mpr ⟨rk_RX11_35, List.forall_mem_cons.mpr ⟨rk_RX11_37, List.forall_mem_cons.mpr ⟨rk_RX11_40, List.forall_mem_cons.mpr ⟨rk_RX11_44, List.forall_mem_cons.mpr ⟨rk_RX11_46, List.forall_mem_cons.mpr ⟨rk_RX11_50, List.forall_mem_cons.mpr ⟨rk_RX11_51, List.forall_mem_cons.mpr ⟨rk_RX11_55, List.forall_mem_cons.mpr ⟨rk_RX11_58, List.forall_mem_cons.mpr ⟨rk_RX11_62, List.forall_mem_cons.mpr ⟨rk_RX11_66, List.forall_mem_cons.mpr ⟨rk_RX11_70, List.forall_mem_cons.mpr ⟨rk_RX11_74, List.forall_mem_cons.mpr ⟨rk_RX11_77, List.forall_mem_cons.mpr ⟨rk_RX11_81, List.forall_mem_cons.mpr ⟨rk_RX11_84, List.forall_mem_cons.mpr ⟨rk_RX11_88, List.forall_mem_cons.mpr ⟨rk_RX11_91, List.forall_mem_cons.mpr ⟨rk_RX11_94, List.forall_mem_cons.mpr ⟨rk_RX11_98, List.forall_mem_cons.mpr ⟨rk_RX11_101, List.forall_mem_cons.mpr ⟨rk_RX11_104, List.forall_mem_cons.mpr ⟨rk_RX11_108, List.forall_mem_cons.mpr ⟨rk_RX11_111, List.forall_mem_cons.mpr ⟨rk_RX11_115, List.forall_mem_cons.mpr ⟨rk_RX11_118, List.forall_mem_cons.mpr ⟨rk_RX11_122, List.forall_mem_cons.mpr ⟨rk_RX11_128, List.forall_mem_cons.mpr ⟨rk_RX11_131, List.forall_mem_cons.mpr ⟨rk_RX11_132, List.forall_mem_cons.mpr ⟨rk_RX11_136, List.forall_mem_cons.mpr ⟨rk_RX11_139, List.forall_mem_cons.mpr ⟨rk_RX11_143, List.forall_mem_cons.mpr ⟨rk_RX11_147, List.forall_mem_cons.mpr ⟨rk_RX11_150, List.forall_mem_cons.mpr ⟨rk_RX11_153, List.forall_mem_cons.mpr ⟨rk_RX11_156, List.forall_mem_cons.mpr ⟨rk_RX11_159, List.forall_mem_cons.mpr ⟨rk_RX11_164, List.forall_mem_cons.mpr ⟨rk_RX11_167, List.forall_mem_cons.mpr ⟨rk_RX11_171, List.forall_mem_cons.mpr ⟨rk_RX11_174, List.forall_mem_cons.mpr ⟨rk_RX11_177, List.forall_mem_cons.mpr ⟨rk_RX11_180, List.forall_mem_cons.mpr ⟨rk_RX11_183, List.forall_mem_cons.mpr ⟨rk_RX11_186, List.forall_mem_cons.mpr ⟨rk_RX11_189, List.forall_mem_cons.mpr ⟨rk_RX11_192, List.forall_mem_cons.mpr ⟨rk_RX11_195, List.forall_mem_cons.mpr ⟨rk_RX11_198, List.forall_mem_cons.mpr ⟨rk_RX11_199, List.forall_mem_cons.mpr ⟨rk_RX11_202, List.forall_mem_cons.mpr ⟨rk_RX11_206, List.forall_mem_cons.mpr ⟨rk_RX11_209, List.forall_mem_cons.mpr ⟨rk_RX11_212, List.forall_mem_cons.mpr ⟨rk_RX11_215, List.forall_mem_cons.mpr ⟨rk_RX11_218, List.forall_mem_cons.mpr ⟨rk_RX11_221, List.forall_mem_cons.mpr ⟨rk_RX11_225, List.forall_mem_cons.mpr ⟨rk_RX11_227, List.forall_mem_cons.mpr ⟨rk_RX11_231, List.forall_mem_cons.mpr ⟨rk_RX11_233, List.forall_mem_cons.mpr ⟨rk_RX11_236, List.forall_mem_cons.mpr ⟨rk_RX11_240, List.forall_mem_cons.mpr ⟨rk_RX11_243, List.forall_mem_cons.mpr ⟨rk_RX11_246, List.forall_mem_cons.mpr ⟨rk_RX11_247, List.forall_mem_cons.mpr ⟨rk_RX11_250, List.forall_mem_cons.mpr ⟨rk_RX11_253, List.forall_mem_cons.mpr ⟨rk_RX11_256, List.forall_mem_cons.mpr ⟨rk_RX11_260, List.forall_mem_cons.mpr ⟨rk_RX11_263, List.forall_mem_cons.mpr ⟨rk_RX11_266, List.forall_mem_cons.mpr ⟨rk_RX11_269, List.forall_mem_cons.mpr ⟨rk_RX11_275, List.forall_mem_cons.mpr ⟨rk_RX11_278, List.forall_mem_nil _⟩⟩⟩⟩⟩⟩⟩⟩⟩⟩⟩⟩⟩⟩⟩⟩⟩⟩⟩⟩⟩⟩⟩⟩⟩⟩⟩⟩⟩⟩⟩⟩⟩⟩⟩⟩⟩⟩⟩⟩⟩⟩⟩⟩⟩⟩⟩⟩⟩⟩⟩⟩⟩⟩⟩⟩⟩⟩⟩⟩⟩⟩⟩⟩⟩⟩⟩⟩⟩⟩⟩⟩⟩⟩⟩⟩⟩⟩⟩⟩⟩⟩⟩⟩⟩⟩
def rt_RX0 : List (Nat × ak_X) := [(1, (14, 3, 0, 3)), (7, (15, 60, 2, 0))]
set_option maxRecDepth 100000 in
theorem rt_RX0_ok : ∀ e ∈ rt_RX0, ak_okr RX0 e.1 e.2 := List.forall_mem_cons.mpr ⟨rk_RX0_1, List.forall_mem_cons.mpr ⟨rk_RX0_7, List.forall_mem_nil _⟩⟩
def rt_RX1 : List (Nat × ak_X) := [(1, (14, 5, 0, 9)), (7, (15, 51, 4, 0))]
set_option maxRecDepth 100000 in
theorem rt_RX1_ok : ∀ e ∈ rt_RX1, ak_okr RX1 e.1 e.2 := List.forall_mem_cons.mpr ⟨rk_RX1_1, List.forall_mem_cons.mpr ⟨rk_RX1_7, List.forall_mem_nil _⟩⟩
def rt_RX2 : List (Nat × ak_X) := [(3, (14, 4, 0, 4)), (9, (15, 53, 4, 0)), (13, (18, 45, 3, 0))]
set_option maxRecDepth 100000 in
theorem rt_RX2_ok : ∀ e ∈ rt_RX2, ak_okr RX2 e.1 e.2 := List.forall_mem_cons.mpr ⟨rk_RX2_3, List.forall_mem_cons.mpr ⟨rk_RX2_9, List.forall_mem_cons.mpr ⟨rk_RX2_13, List.forall_mem_nil _⟩⟩⟩
def rt_RX3 : List (Nat × ak_X) := [(1, (16, 0, 0, 0))]
set_option maxRecDepth 100000 in
theorem rt_RX3_ok : ∀ e ∈ rt_RX3, ak_okr RX3 e.1 e.2 := List.forall_mem_cons.mpr ⟨rk_RX3_1, List.forall_mem_nil _⟩
def rt_RX4 : List (Nat × ak_X) := [(1, (14, 3, 0, 3)), (7, (15, 54, 4, 0)), (11, (13, 44, 1, 0))]
set_option maxRecDepth 100000 in
theorem rt_RX4_ok : ∀ e ∈ rt_RX4, ak_okr RX4 e.1 e.2 := List.forall_mem_cons.mpr ⟨rk_RX4_1, List.forall_mem_cons.mpr ⟨rk_RX4_7, List.forall_mem_cons.mpr ⟨rk_RX4_11, List.forall_mem_nil _⟩⟩⟩
def rt_RX5 : List (Nat × ak_X) := [(3, (16, 0, 0, 0)), (9, (1, 5, 2, 1)), (15, (1, 5, 3, 1)), (18, (1, 5, 4, 1)), (22, (1, 5, 5, 1)), (25, (1, 5, 6, 1)), (28, (1, 5, 7, 1)), (31, (1, 5, 8, 1)), (34, (1, 5, 9, 1)), (37, (1, 5, 0, 1)), (41, (1, 5, 1, 0)), (45, (8, 100, 1, 8)), (51, (1, 8, 4, 0)), (55, (8, 102, 1, 5)), (59, (8, 104, 0, 5)), (62, (8, 48, 3, 6)), (67, (8, 29, 3, 6)), (71, (8, 28, 2, 8)), (75, (8, 103, 1, 5)), (79, (1, 8, 10, 1)), (82, (12, 26, 1, 0)), (85, (8, 16, 1, 8)), (88, (8, 106, 1, 5)), (91, (19, 0, 0, 0)), (96, (8, 108, 0, 5)), (100, (8, 105, 1, 5)), (103, (1, 5, 10, 0)), (107, (1, 5, 11, 0)), (110, (8, 114, 0, 5)), (113, (8, 115, 0, 5)), (116, (4, 0, 0, 100000)), (117, (8, 116, 3, 5)), (121, (20, 0, 0, 0)), (124, (8, 117, 1, 5)), (127, (8, 118, 1, 5)), (130, (8, 119, 2, 5)), (134, (8, 124, 1, 5)), (137, (8, 125, 1, 5)), (140, (1, 8, 9, 1)), (143, (8, 109, 0, 5)), (146, (8, 129, 2, 5)), (150, (8, 107, 0, 5)), (154, (8, 132, 1, 5))]
set_option maxRecDepth 100000 in
theorem rt_RX5_ok : ∀ e ∈ rt_RX5, ak_okr RX5 e.1 e.2 := List.forall_mem_cons.mpr ⟨rk_RX5_3, List.forall_mem_cons.mpr ⟨rk_RX5_9, List.forall_mem_cons.mpr ⟨rk_RX5_15, List.forall_mem_cons.mpr ⟨rk_RX5_18, List.forall_mem_cons.mpr ⟨rk_RX5_22, List.forall_mem_cons.mpr ⟨rk_RX5_25, List.forall_mem_cons.mpr ⟨rk_RX5_28, List.forall_mem_cons.mpr ⟨rk_RX5_31, List.forall_mem_cons.mpr ⟨rk_RX5_34, List.forall_mem_cons.mpr ⟨rk_RX5_37, List.forall_mem_cons.mpr ⟨rk_RX5_41, List.forall_mem_cons.mpr ⟨rk_RX5_45, List.forall_mem_cons.mpr ⟨rk_RX5_51, List.forall_mem_cons.mpr ⟨rk_RX5_55, List.forall_mem_cons.mpr ⟨rk_RX5_59, List.forall_mem_cons.mpr ⟨rk_RX5_62, List.forall_mem_cons.mpr ⟨rk_RX5_67, List.forall_mem_cons.mpr ⟨rk_RX5_71, List.forall_mem_cons.mpr ⟨rk_RX5_75, List.forall_mem_cons.mpr ⟨rk_RX5_79, List.forall_mem_cons.mpr ⟨rk_RX5_82, List.forall_mem_cons.mpr ⟨rk_RX5_85, List.forall_mem_cons.mpr ⟨rk_RX5_88, List.forall_mem_cons.mpr ⟨rk_RX5_91, List.forall_mem_cons.mpr ⟨rk_RX5_96, List.forall_mem_cons.mpr ⟨rk_RX5_100, List.forall_mem_cons.mpr ⟨rk_RX5_103, List.forall_mem_cons.mpr ⟨rk_RX5_107, List.forall_mem_cons.mpr ⟨rk_RX5_110, List.forall_mem_cons.mpr ⟨rk_RX5_113, List.forall_mem_cons.mpr ⟨rk_RX5_116, List.forall_mem_cons.mpr ⟨rk_RX5_117, List.forall_mem_cons.mpr ⟨rk_RX5_121, List.forall_mem_cons.mpr ⟨rk_RX5_124, List.forall_mem_cons.mpr ⟨rk_RX5_127, List.forall_mem_cons.mpr ⟨rk_RX5_130, List.forall_mem_cons.mpr ⟨rk_RX5_134, List.forall_mem_cons.mpr ⟨rk_RX5_137, List.forall_mem_cons.mpr ⟨rk_RX5_140, List.forall_mem_cons.mpr ⟨rk_RX5_143, List.forall_mem_cons.mpr ⟨rk_RX5_146, List.forall_mem_cons.mpr ⟨rk_RX5_150, List.forall_mem_cons.mpr ⟨rk_RX5_154, List.forall_mem_nil _⟩⟩⟩⟩⟩⟩⟩⟩⟩⟩⟩⟩⟩⟩⟩⟩⟩⟩⟩⟩⟩⟩⟩⟩⟩⟩⟩⟩⟩⟩⟩⟩⟩⟩⟩⟩⟩⟩⟩⟩⟩⟩⟩
def rt_RX6 : List (Nat × ak_X) := [(3, (16, 0, 0, 0)), (9, (1, 6, 0, 0)), (15, (7, 10, 2, 0)), (17, (1, 6, 1, 1)), (21, (7, 3, 3, 0)), (23, (14, 3, 0, 3)), (24, (7, 4, 0, 0)), (26, (14, 4, 0, 4)), (27, (7, 9, 0, 0)), (29, (14, 5, 0, 9)), (30, (7, 2, 0, 0)), (32, (14, 6, 0, 2)), (33, (7, 1, 0, 0)), (35, (14, 7, 0, 1)), (36, (7, 0, 0, 0)), (38, (14, 8, 0, 0)), (39, (1, 6, 2, 1)), (43, (1, 6, 3, 1)), (47, (1, 6, 4, 1)), (50, (14, 9, 1, 10)), (53, (8, 10, 1, 10)), (57, (8, 11, 0, 10)), (60, (8, 39, 1, 6)), (64, (8, 30, 3, 6)), (68, (1, 8, 3, 0)), (73, (8, 34, 1, 6)), (77, (8, 35, 3, 10)), (81, (19, 0, 0, 0)), (87, (20, 0, 0, 0)), (90, (1, 8, 5, 1)), (92, (8, 32, 2, 8)), (96, (1, 8, 6, 1)), (99, (10, 0, 4, 0)), (103, (10, 2, 3, 0)), (107, (8, 47, 2, 6)), (111, (8, 31, 2, 6)), (115, (10, 1, 2, 0)), (118, (1, 8, 10, 1)), (121, (8, 28, 2, 8)), (124, (8, 48, 3, 6)), (127, (8, 29, 3, 6)), (130, (8, 33, 2, 8)), (133, (1, 8, 7, 1)), (136, (1, 8, 9, 1))]
set_option maxRecDepth 100000 in
theorem rt_RX6_ok : ∀ e ∈ rt_RX6, ak_okr RX6 e.1 e.2 := List.forall_mem_cons.mpr ⟨rk_RX6_3, List.forall_mem_cons.mpr ⟨rk_RX6_9, List.forall_mem_cons.mpr ⟨rk_RX6_15, List.forall_mem_cons.mpr ⟨rk_RX6_17, List.forall_mem_cons.mpr ⟨rk_RX6_21, List.forall_mem_cons.mpr ⟨rk_RX6_23, List.forall_mem_cons.mpr ⟨rk_RX6_24, List.forall_mem_cons.mpr ⟨rk_RX6_26, List.forall_mem_cons.mpr ⟨rk_RX6_27, List.forall_mem_cons.mpr ⟨rk_RX6_29, List.forall_mem_cons.mpr ⟨rk_RX6_30, List.forall_mem_cons.mpr ⟨rk_RX6_32, List.forall_mem_cons.mpr ⟨rk_RX6_33, List.forall_mem_cons.mpr ⟨rk_RX6_35, List.forall_mem_cons.mpr ⟨rk_RX6_36, List.forall_mem_cons.mpr ⟨rk_RX6_38, List.forall_mem_cons.mpr ⟨rk_RX6_39, List.forall_mem_cons.mpr ⟨rk_RX6_43, List.forall_mem_cons.mpr ⟨rk_RX6_47, List.forall_mem_cons.mpr ⟨rk_RX6_50, List.forall_mem_cons.mpr ⟨rk_RX6_53, List.forall_mem_cons.mpr ⟨rk_RX6_57, List.forall_mem_cons.mpr ⟨rk_RX6_60, List.forall_mem_cons.mpr ⟨rk_RX6_64, List.forall_mem_cons.mpr ⟨rk_RX6_68, List.forall_mem_cons.mpr ⟨rk_RX6_73, List.forall_mem_cons.mpr ⟨rk_RX6_77, List.forall_mem_cons.mpr ⟨rk_RX6_81, List.forall_mem_cons.mpr ⟨rk_RX6_87, List.forall_mem_cons.mpr ⟨rk_RX6_90, List.forall_mem_cons.mpr ⟨rk_RX6_92, List.forall_mem_cons.mpr ⟨rk_RX6_96, List.forall_mem_cons.mpr ⟨rk_RX6_99, List.forall_mem_cons.mpr ⟨rk_RX6_103, List.forall_mem_cons.mpr ⟨rk_RX6_107, List.forall_mem_cons.mpr ⟨rk_RX6_111, List.forall_mem_cons.mpr ⟨rk_RX6_115, List.forall_mem_cons.mpr ⟨rk_RX6_118, List.forall_mem_cons.mpr ⟨rk_RX6_121, List.forall_mem_cons.mpr ⟨rk_RX6_124, List.forall_mem_cons.mpr ⟨rk_RX6_127, List.forall_mem_cons.mpr ⟨rk_RX6_130, List.forall_mem_cons.mpr ⟨rk_RX6_133, List.forall_mem_cons.mpr ⟨rk_RX6_136, List.forall_mem_nil _⟩⟩⟩⟩⟩⟩⟩⟩⟩⟩⟩⟩⟩⟩⟩⟩⟩⟩⟩⟩⟩⟩⟩⟩⟩⟩⟩⟩⟩⟩⟩⟩⟩⟩⟩⟩⟩⟩⟩⟩⟩⟩⟩⟩
def rt_RX7 : List (Nat × ak_X) := [(3, (16, 0, 0, 0)), (9, (1, 7, 0, 0)), (15, (1, 7, 2, 1)), (19, (19, 0, 0, 0)), (25, (20, 0, 0, 0)), (28, (1, 7, 1, 0)), (31, (8, 149, 2, 7))]
set_option maxRecDepth 100000 in
theorem rt_RX7_ok : ∀ e ∈ rt_RX7, ak_okr RX7 e.1 e.2 := List.forall_mem_cons.mpr ⟨rk_RX7_3, List.forall_mem_cons.mpr ⟨rk_RX7_9, List.forall_mem_cons.mpr ⟨rk_RX7_15, List.forall_mem_cons.mpr ⟨rk_RX7_19, List.forall_mem_cons.mpr ⟨rk_RX7_25, List.forall_mem_cons.mpr ⟨rk_RX7_28, List.forall_mem_cons.mpr ⟨rk_RX7_31, List.forall_mem_nil _⟩⟩⟩⟩⟩⟩⟩
def rt_RX8 : List (Nat × ak_X) := [(3, (16, 0, 0, 0)), (9, (1, 8, 1, 0)), (15, (1, 8, 5, 1)), (19, (1, 8, 6, 1)), (22, (1, 8, 7, 1)), (25, (1, 8, 8, 1)), (28, (1, 8, 9, 1)), (31, (1, 8, 10, 1)), (34, (1, 8, 11, 1)), (37, (1, 8, 0, 0)), (40, (1, 8, 2, 0)), (43, (1, 8, 3, 0)), (46, (1, 8, 4, 0)), (49, (8, 16, 1, 8)), (53, (3, 0, 0, 0)), (56, (3, 1, 0, 0)), (59, (8, 19, 1, 8)), (63, (8, 23, 3, 8)), (67, (12, 26, 1, 0)), (70, (11, 101, 1, 0)), (76, (19, 0, 0, 0))]
set_option maxRecDepth 100000 in
theorem rt_RX8_ok : ∀ e ∈ rt_RX8, ak_okr RX8 e.1 e.2 := List.forall_mem_cons.mpr ⟨rk_RX8_3, List.forall_mem_cons.mpr ⟨rk_RX8_9, List.forall_mem_cons.mpr ⟨rk_RX8_15, List.forall_mem_cons.mpr ⟨rk_RX8_19, List.forall_mem_cons.mpr ⟨rk_RX8_22, List.forall_mem_cons.mpr ⟨rk_RX8_25, List.forall_mem_cons.mpr ⟨rk_RX8_28, List.forall_mem_cons.mpr ⟨rk_RX8_31, List.forall_mem_cons.mpr ⟨rk_RX8_34, List.forall_mem_cons.mpr ⟨rk_RX8_37, List.forall_mem_cons.mpr ⟨rk_RX8_40, List.forall_mem_cons.mpr ⟨rk_RX8_43, List.forall_mem_cons.mpr ⟨rk_RX8_46, List.forall_mem_cons.mpr ⟨rk_RX8_49, List.forall_mem_cons.mpr ⟨rk_RX8_53, List.forall_mem_cons.mpr ⟨rk_RX8_56, List.forall_mem_cons.mpr ⟨rk_RX8_59, List.forall_mem_cons.mpr ⟨rk_RX8_63, List.forall_mem_cons.mpr ⟨rk_RX8_67, List.forall_mem_cons.mpr ⟨rk_RX8_70, List.forall_mem_cons.mpr ⟨rk_RX8_76, List.forall_mem_nil _⟩⟩⟩⟩⟩⟩⟩⟩⟩⟩⟩⟩⟩⟩⟩⟩⟩⟩⟩⟩⟩
def rt_RX9 : List (Nat × ak_X) := [(1, (14, 3, 0, 3)), (7, (15, 54, 4, 0)), (11, (13, 44, 1, 0))]
set_option maxRecDepth 100000 in
theorem rt_RX9_ok : ∀ e ∈ rt_RX9, ak_okr RX9 e.1 e.2 := List.forall_mem_cons.mpr ⟨rk_RX9_1, List.forall_mem_cons.mpr ⟨rk_RX9_7, List.forall_mem_cons.mpr ⟨rk_RX9_11, List.forall_mem_nil _⟩⟩⟩
def rt_RX10 : List (Nat × ak_X) := [(3, (16, 0, 0, 0)), (9, (1, 10, 0, 1)), (15, (1, 10, 1, 1)), (18, (1, 10, 4, 1)), (21, (1, 10, 2, 0)), (25, (8, 10, 1, 10)), (29, (1, 10, 3, 0)), (32, (19, 0, 0, 0)), (38, (11, 36, 2, 0)), (42, (11, 37, 2, 0)), (45, (11, 38, 3, 0)), (49, (20, 0, 0, 0)), (52, (1, 10, 5, 0)), (55, (1, 10, 6, 0)), (58, (1, 10, 10, 0)), (61, (1, 10, 11, 0)), (64, (8, 65, 0, 10)), (67, (8, 87, 1, 10)), (70, (8, 88, 0, 10)), (73, (8, 11, 0, 10)), (76, (1, 10, 8, 0)), (79, (8, 83, 0, 10)), (82, (8, 89, 0, 10)), (85, (8, 90, 0, 10)), (88, (8, 91, 0, 10)), (91, (8, 96, 0, 10)), (95, (8, 92, 0, 10)), (98, (8, 93, 0, 10)), (101, (8, 94, 0, 10)), (104, (1, 10, 9, 0)), (107, (8, 95, 1, 10)), (110, (1, 10, 7, 0)), (113, (8, 66, 1, 10)), (117, (8, 67, 1, 10)), (120, (8, 68, 0, 10)), (123, (8, 84, 1, 10)), (126, (8, 85, 0, 10)), (129, (8, 86, 1, 10)), (132, (8, 69, 0, 10)), (136, (8, 82, 0, 10)), (139, (5, 0, 0, 0)), (141, (8, 70, 1, 10)), (145, (5, 1, 0, 0)), (147, (5, 2, 0, 0)), (149, (5, 3, 0, 0)), (151, (5, 4, 0, 0)), (153, (5, 5, 0, 0)), (155, (5, 6, 0, 0)), (157, (5, 7, 0, 0)), (159, (5, 8, 0, 0)), (161, (5, 9, 0, 0)), (163, (5, 10, 0, 0)), (165, (5, 11, 0, 0)), (167, (9, 71, 0, 0)), (171, (9, 73, 1, 0))]
set_option maxRecDepth 100000 in
theorem rt_RX10_ok : ∀ e ∈ rt_RX10, ak_okr RX10 e.1 e.2 := List.forall_mem_cons.mpr ⟨rk_RX10_3, List.forall_mem_cons.mpr ⟨rk_RX10_9, List.forall_mem_cons.mpr ⟨rk_RX10_15, List.forall_mem_cons.mpr ⟨rk_RX10_18, List.forall_mem_cons.mpr ⟨rk_RX10_21, List.forall_mem_cons.mpr ⟨rk_RX10_25, List.forall_mem_cons.mpr ⟨rk_RX10_29, List.forall_mem_cons.mpr ⟨rk_RX10_32, List.forall_mem_cons.mpr ⟨rk_RX10_38, List.forall_mem_cons.mpr ⟨rk_RX10_42, List.forall_mem_cons.mpr ⟨rk_RX10_45, List.forall_mem_cons.mpr ⟨rk_RX10_49, List.forall_mem_cons.mpr ⟨rk_RX10_52, List.forall_mem_cons.mpr ⟨rk_RX10_55, List.forall_mem_cons.mpr ⟨rk_RX10_58, List.forall_mem_cons.mpr ⟨rk_RX10_61, List.forall_mem_cons.mpr ⟨rk_RX10_64, List.forall_mem_cons.mpr ⟨rk_RX10_67, List.forall_mem_cons.mpr ⟨rk_RX10_70, List.forall_mem_cons.mpr ⟨rk_RX10_73, List.forall_mem_cons.mpr ⟨rk_RX10_76, List.forall_mem_cons.mpr ⟨rk_RX10_79, List.forall_mem_cons.mpr ⟨rk_RX10_82, List.forall_mem_cons.mpr ⟨rk_RX10_85, List.forall_mem_cons.mpr ⟨rk_RX10_88, List.forall_mem_cons.mpr ⟨rk_RX10_91, List.forall_mem_cons.mpr ⟨rk_RX10_95, List.forall_mem_cons.mpr ⟨rk_RX10_98, List.forall_mem_cons.mpr ⟨rk_RX10_101, List.forall_mem_cons.mpr ⟨rk_RX10_104, List.forall_mem_cons.mpr ⟨rk_RX10_107, List.forall_mem_cons.mpr ⟨rk_RX10_110, List.forall_mem_cons.mpr ⟨rk_RX10_113, List.forall_mem_cons.mpr ⟨rk_RX10_117, List.forall_mem_cons.mpr ⟨rk_RX10_120, List.forall_mem_cons.mpr ⟨rk_RX10_123, List.forall_mem_cons.mpr ⟨rk_RX10_126, List.forall_mem_cons.mpr ⟨rk_RX10_129, List.forall_mem_cons.mpr ⟨rk_RX10_132, List.forall_mem_cons.mpr ⟨rk_RX10_136, List.forall_mem_cons.mpr ⟨rk_RX10_139, List.forall_mem_cons.mpr ⟨rk_RX10_141, List.forall_mem_cons.mpr ⟨rk_RX10_145, List.forall_mem_cons.mpr ⟨rk_RX10_147, List.forall_mem_cons.mpr ⟨rk_RX10_149, List.forall_mem_cons.mpr ⟨rk_RX10_151, List.forall_mem_cons.mpr ⟨rk_RX10_153, List.forall_mem_cons.mpr ⟨rk_RX10_155, List.forall_mem_cons.mpr ⟨rk_RX10_157, List.forall_mem_cons.mpr ⟨rk_RX10_159, List.forall_mem_cons.mpr ⟨rk_RX10_161, List.forall_mem_cons.mpr ⟨rk_RX10_163, List.forall_mem_cons.mpr ⟨rk_RX10_165, List.forall_mem_cons.mpr ⟨rk_RX10_167, List.forall_mem_cons.mpr ⟨rk_RX10_171, List.forall_mem_nil _⟩⟩⟩⟩⟩⟩⟩⟩⟩⟩⟩⟩⟩⟩⟩⟩⟩⟩⟩⟩⟩⟩⟩⟩⟩⟩⟩⟩⟩⟩⟩⟩⟩⟩⟩⟩⟩⟩⟩⟩⟩⟩⟩⟩⟩⟩⟩⟩⟩⟩⟩⟩⟩⟩⟩
def rt_RL : List (Nat × ak_X) := [(7, (7, 11, 0, 0)), (9, (14, 0, 0, 11)), (10, (7, 12, 0, 0)), (12, (14, 166, 0, 12)), (13, (8, 14, 3, 11)), (17, (8, 168, 3, 12)), (18, (8, 21, 3, 11)), (21, (8, 198, 3, 12)), (22, (8, 24, 3, 11)), (25, (8, 200, 3, 12)), (26, (8, 25, 2, 11)), (30, (8, 201, 2, 12)), (31, (8, 46, 2, 11)), (34, (8, 172, 2, 12)), (35, (8, 62, 1, 11)), (39, (8, 204, 1, 12)), (40, (8, 63, 0, 11)), (44, (8, 205, 0, 12)), (45, (8, 97, 1, 11)), (48, (8, 206, 1, 12)), (49, (8, 98, 1, 11)), (52, (8, 207, 1, 12)), (53, (8, 110, 0, 11)), (56, (8, 216, 0, 12)), (57, (8, 112, 1, 11)), (60, (8, 217, 1, 12)), (61, (8, 122, 1, 11)), (64, (8, 221, 1, 12)), (65, (8, 127, 1, 11)), (68, (8, 227, 1, 12)), (69, (8, 130, 2, 11)), (72, (8, 228, 2, 12)), (73, (8, 133, 0, 11)), (76, (8, 226, 0, 12)), (77, (8, 135, 3, 11)), (80, (8, 229, 3, 12)), (81, (8, 146, 2, 11)), (84, (8, 232, 2, 12)), (85, (8, 150, 1, 11)), (88, (8, 234, 1, 12)), (89, (8, 152, 3, 11)), (93, (8, 236, 3, 12)), (94, (8, 154, 0, 11)), (97, (8, 237, 0, 12)), (98, (8, 155, 0, 11)), (101, (8, 238, 0, 12)), (102, (8, 156, 1, 11)), (105, (8, 239, 1, 12)), (106, (8, 159, 3, 11)), (109, (8, 233, 3, 12)), (110, (8, 161, 3, 11)), (113, (8, 240, 3, 12)), (114, (8, 162, 5, 11)), (118, (8, 241, 5, 12)), (119, (8, 163, 4, 11)), (123, (8, 242, 4, 12)), (124, (8, 164, 2, 11)), (127, (8, 243, 2, 12))]
set_option maxRecDepth 100000 in
theorem rt_RL_ok : ∀ e ∈ rt_RL, ak_okr RL e.1 e.2 := List.forall_mem_cons.mpr ⟨rk_RL_7, List.forall_mem_cons.mpr ⟨rk_RL_9, List.forall_mem_cons.mpr ⟨rk_RL_10, List.forall_mem_cons.mpr ⟨rk_RL_12, List.forall_mem_cons.mpr ⟨rk_RL_13, List.forall_mem_cons.mpr ⟨rk_RL_17, List.forall_mem_cons.mpr ⟨rk_RL_18, List.forall_mem_cons.mpr ⟨rk_RL_21, List.forall_mem_cons.mpr ⟨rk_RL_22, List.forall_mem_cons.mpr ⟨rk_RL_25, List.forall_mem_cons.mpr ⟨rk_RL_26, List.forall_mem_cons.mpr ⟨rk_RL_30, List.forall_mem_cons.mpr ⟨rk_RL_31, List.forall_mem_cons.mpr ⟨rk_RL_34, List.forall_mem_cons.mpr ⟨rk_RL_35, List.forall_mem_cons.mpr ⟨rk_RL_39, List.forall_mem_cons.mpr ⟨rk_RL_40, List.forall_mem_cons.mpr ⟨rk_RL_44, List.forall_mem_cons.mpr ⟨rk_RL_45, List.forall_mem_cons.mpr ⟨rk_RL_48, List.forall_mem_cons.mpr ⟨rk_RL_49, List.forall_mem_cons.mpr ⟨rk_RL_52, List.forall_mem_cons.mpr ⟨rk_RL_53, List.forall_mem_cons.mpr ⟨rk_RL_56, List.forall_mem_cons.mpr ⟨rk_RL_57, List.forall_mem_cons.mpr ⟨rk_RL_60, List.forall_mem_cons.mpr ⟨rk_RL_61, List.forall_mem_cons.mpr ⟨rk_RL_64, List.forall_mem_cons.mpr ⟨rk_RL_65, List.forall_mem_cons.mpr ⟨rk_RL_68, List.forall_mem_cons.mpr ⟨rk_RL_69, List.forall_mem_cons.mpr ⟨rk_RL_72, List.forall_mem_cons.mpr ⟨rk_RL_73, List.forall_mem_cons.mpr ⟨rk_RL_76, List.forall_mem_cons.mpr ⟨rk_RL_77, List.forall_mem_cons.mpr ⟨rk_RL_80, List.forall_mem_cons.mpr ⟨rk_RL_81, List.forall_mem_cons.mpr ⟨rk_RL_84, List.forall_mem_cons.mpr ⟨rk_RL_85, List.forall_mem_cons.mpr ⟨rk_RL_88, List.forall_mem_cons.mpr ⟨rk_RL_89, List.forall_mem_cons.mpr ⟨rk_RL_93, List.forall_mem_cons.mpr ⟨rk_RL_94, List.forall_mem_cons.mpr ⟨rk_RL_97, List.forall_mem_cons.mpr ⟨rk_RL_98, List.forall_mem_cons.mpr ⟨rk_RL_101, List.forall_mem_cons.mpr ⟨rk_RL_102, List.forall_mem_cons.mpr ⟨rk_RL_105, List.forall_mem_cons.mpr ⟨rk_RL_106, List.forall_mem_cons.mpr ⟨rk_RL_109, List.forall_mem_cons.mpr ⟨rk_RL_110, List.forall_mem_cons.mpr ⟨rk_RL_113, List.forall_mem_cons.mpr ⟨rk_RL_114, List.forall_mem_cons.mpr ⟨rk_RL_118, List.forall_mem_cons.mpr ⟨rk_RL_119, List.forall_mem_cons.mpr ⟨rk_RL_123, List.forall_mem_cons.mpr ⟨rk_RL_124, List.forall_mem_cons.mpr ⟨rk_RL_127, List.forall_mem_nil _⟩⟩⟩⟩⟩⟩⟩⟩⟩⟩⟩⟩⟩⟩⟩⟩⟩⟩⟩⟩⟩⟩⟩⟩⟩⟩⟩⟩⟩⟩⟩⟩⟩⟩⟩⟩⟩⟩⟩⟩⟩⟩⟩⟩⟩⟩⟩⟩⟩⟩⟩⟩⟩⟩⟩⟩⟩⟩
def rt_RX12 : List (Nat × ak_X) := [(7, (16, 0, 0, 0)), (13, (1, 12, 1, 1)), (17, (1, 12, 2, 1)), (20, (1, 12, 5, 1)), (23, (1, 12, 7, 1)), (26, (1, 12, 8, 1)), (29, (1, 12, 9, 1)), (32, (1, 12, 10, 1)), (35, (1, 12, 27, 1)), (39, (1, 12, 28, 1)), (42, (1, 12, 29, 1)), (45, (1, 12, 30, 1)), (48, (1, 12, 34, 1)), (51, (1, 12, 35, 1)), (54, (1, 12, 36, 1)), (57, (1, 12, 37, 1)), (60, (1, 12, 38, 0)), (63, (1, 12, 40, 1)), (66, (1, 12, 41, 1)), (69, (1, 12, 42, 1)), (72, (1, 12, 43, 1)), (75, (8, 167, 9, 12)), (79, (1, 12, 3, 0)), (82, (1, 12, 11, 0)), (85, (11, 169, 3, 0)), (89, (6, 0, 0, 7)), (91, (6, 0, 0, 6)), (93, (8, 170, 1, 12)), (97, (11, 171, 1, 0)), (101, (8, 172, 2, 12)), (105, (8, 197, 3, 12)), (109, (1, 12, 4, 0)), (112, (6, 0, 0, 5)), (114, (6, 0, 0, 9)), (116, (6, 0, 0, 4)), (118, (8, 199, 3, 12)), (121, (11, 202, 1, 0)), (124, (8, 203, 2, 12)), (128, (6, 0, 0, 20)), (130, (6, 0, 0, 27)), (132, (6, 0, 0, 30)), (134, (6, 0, 0, 37)), (136, (6, 0, 0, 10)), (138, (8, 173, 2, 12)), (141, (8, 193, 2, 12)), (144, (8, 194, 2, 12)), (147, (8, 196, 1, 12)), (150, (6, 0, 0, 255)), (152, (1, 12, 6, 0)), (155, (1, 12, 19, 0)), (158, (1, 12, 18, 0)), (161, (1, 12, 20, 0)), (164, (8, 178, 1, 12)), (167, (1, 12, 22, 0)), (170, (1, 12, 21, 0)), (173, (6, 0, 0, 97)), (175, (6, 0, 0, 122)), (177, (6, 0, 0, 48)), (179, (6, 0, 0, 57)), (181, (1, 12, 23, 0)), (185, (1, 12, 25, 0)), (189, (1, 12, 26, 0)), (192, (8, 180, 2, 12)), (195, (1, 12, 24, 0)), (198, (8, 182, 0, 12)), (201, (8, 177, 0, 12)), (204, (8, 179, 8, 12)), (208, (1, 12, 12, 0)), (211, (1, 12, 13, 0)), (214, (1, 12, 14, 0)), (217, (1, 12, 15, 0)), (220, (1, 12, 16, 0)), (223, (1, 12, 17, 0)), (226, (8, 190, 1, 12)), (229, (8, 186, 0, 12)), (233, (8, 189, 0, 12)), (237, (8, 183, 0, 12)), (240, (8, 191, 0, 12)), (243, (8, 188, 0, 12)), (246, (6, 0, 0, 43)), (248, (8, 185, 0, 12)), (251, (8, 187, 0, 12)), (254, (6, 0, 0, 60)), (256, (8, 184, 0, 12)), (259, (8, 181, 1, 12)), (263, (8, 176, 2, 12)), (266, (8, 174, 2, 12)), (269, (11, 192, 3, 0)), (273, (8, 175, 3, 12)), (276, (6, 0, 0, 3)), (278, (8, 195, 2, 12)), (281, (8, 213, 1, 12)), (284, (11, 214, 1, 0)), (287, (8, 212, 1, 12)), (290, (8, 211, 0, 12)), (293, (6, 0, 0, 2)), (295, (6, 0, 0, 17)), (297, (4, 0, 0, -100000)), (298, (8, 208, 0, 12)), (301, (8, 209, 0, 12)), (304, (8, 210, 0, 12)), (307, (8, 215, 0, 12)), (310, (8, 219, 0, 12)), (313, (1, 12, 31, 0)), (316, (1, 12, 33, 0)), (319, (8, 220, 0, 12)), (322, (1, 12, 32, 0)), (325, (8, 218, 2, 12)), (329, (8, 223, 1, 12)), (332, (8, 224, 1, 12)), (336, (8, 222, 0, 12)), (339, (8, 225, 0, 12)), (342, (11, 230, 1, 0)), (345, (8, 231, 2, 12)), (348, (8, 233, 3, 12)), (351, (4, 0, 0, 1103515245)), (352, (8, 235, 1, 12)), (355, (6, 0, 0, -4611686018427387904)), (357, (1, 12, 39, 0)), (360, (6, 0, 0, -1)), (362, (8, 198, 3, 12)), (365, (11, 244, 1, 0))]
set_option maxRecDepth 100000 in
theorem rt_RX12_ok : ∀ e ∈ rt_RX12, ak_okr RX12 e.1 e.2 := List.forall_mem_cons.mpr ⟨rk_RX12_7, List.forall_mem_cons.mpr ⟨rk_RX12_13, List.forall_mem_cons.mpr ⟨rk_RX12_17, List.forall_mem_cons.mpr ⟨rk_RX12_20, List.forall_mem_cons.mpr ⟨rk_RX12_23, List.forall_mem_cons.mpr ⟨rk_RX12_26, List.forall_mem_cons.mpr ⟨rk_RX12_29, List.forall_mem_cons.mpr ⟨rk_RX12_32, List.forall_mem_cons.mpr ⟨rk_RX12_35, List.forall_mem_cons.mpr ⟨rk_RX12_39, List.forall_mem_cons.mpr ⟨rk_RX12_42, List.forall_mem_cons.mpr ⟨rk_RX12_45, List.forall_mem_cons.mpr ⟨rk_RX12_48, List.forall_mem_cons.mpr ⟨rk_RX12_51, List.forall_mem_cons.mpr ⟨rk_RX12_54, List.forall_mem_cons.mpr ⟨rk_RX12_57, List.forall_mem_cons.mpr ⟨rk_RX12_60, List.forall_mem_cons.mpr ⟨rk_RX12_63, List.forall_mem_cons.mpr ⟨rk_RX12_66, List.forall_mem_cons.mpr ⟨rk_RX12_69, List.forall_mem_cons.mpr ⟨rk_RX12_72, List.forall_mem_cons.mpr ⟨rk_RX12_75, List.forall_mem_cons.mpr ⟨rk_RX12_79, List.forall_mem_cons.mpr ⟨rk_RX12_82, List.forall_mem_cons.mpr ⟨rk_RX12_85, List.forall_mem_cons.mpr ⟨rk_RX12_89, List.forall_mem_cons.mpr ⟨rk_RX12_91, List.forall_mem_cons.mpr ⟨rk_RX12_93, List.forall_mem_cons.mpr ⟨rk_RX12_97, List.forall_mem_cons.mpr ⟨rk_RX12_101, List.forall_mem_cons.mpr ⟨rk_RX12_105, List.forall_mem_cons.mpr ⟨rk_RX12_109, List.forall_mem_cons.mpr ⟨rk_RX12_112, List.forall_mem_cons.mpr ⟨rk_RX12_114, List.forall_mem_cons.mpr ⟨rk_RX12_116, List.forall_mem_cons.mpr ⟨rk_RX12_118, List.forall_mem_cons.mpr ⟨rk_RX12_121, List.forall_mem_cons.mpr ⟨rk_RX12_124, List.forall_mem_cons.mpr ⟨rk_RX12_128, List.forall_mem_cons.mpr ⟨rk_RX12_130, List.forall_mem_cons.mpr ⟨rk_RX12_132, List.forall_mem_cons.mpr ⟨rk_RX12_134, List.forall_mem_cons.mpr ⟨rk_RX12_136, List.forall_mem_cons.mpr ⟨rk_RX12_138, List.forall_mem_cons.mpr ⟨rk_RX12_141, List.forall_mem_cons.mpr ⟨rk_RX12_144, List.forall_mem_cons.mpr ⟨rk_RX12_147, List.forall_mem_cons.mpr ⟨rk_RX12_150, List.forall_mem_cons.mpr ⟨rk_RX12_152, List.forall_mem_cons.mpr ⟨rk_RX12_155, List.forall_mem_cons.mpr ⟨rk_RX12_158, List.forall_mem_cons.mpr ⟨rk_RX12_161, List.forall_mem_cons.mpr ⟨rk_RX12_164, List.forall_mem_cons.mpr ⟨rk_RX12_167, List.forall_mem_cons.mpr ⟨rk_RX12_170, List.forall_mem_cons.mpr ⟨rk_RX12_173, List.forall_mem_cons.mpr ⟨rk_RX12_175, List.forall_mem_cons.mpr ⟨rk_RX12_177, List.forall_mem_cons.mpr ⟨rk_RX12_179, List.forall_mem_cons.mpr ⟨rk_RX12_181, List.forall_mem_cons.mpr ⟨rk_RX12_185, List.forall_mem_cons.mpr ⟨rk_RX12_189, List.forall_mem_cons.mpr ⟨rk_RX12_192, List.forall_mem_cons.mpr ⟨rk_RX12_195, List.forall_mem_cons.mpr ⟨rk_RX12_198, List.forall_mem_cons.mpr ⟨rk_RX12_201, List.forall_mem_cons.mpr ⟨rk_RX12_204, List.forall_mem_cons.mpr ⟨rk_RX12_208, List.forall_mem_cons.mpr ⟨rk_RX12_211, List.forall_mem_cons.mpr ⟨rk_RX12_214, List.forall_mem_cons.mpr ⟨rk_RX12_217, List.forall_mem_cons.mpr ⟨rk_RX12_220, List.forall_mem_cons.mpr ⟨rk_RX12_223, List.forall_mem_cons.mpr ⟨rk_RX12_226, List.forall_mem_cons.mpr ⟨rk_RX12_229, List.forall_mem_cons.mpr ⟨rk_RX12_233, List.forall_mem_cons.mpr ⟨rk_RX12_237, List.forall_mem_cons.mpr ⟨rk_RX12_240, List.forall_mem_cons.mpr ⟨rk_RX12_243, List.forall_mem_cons.mpr ⟨rk_RX12_246, List.forall_mem_cons.mpr ⟨rk_RX12_248, List.forall_mem_cons.mpr ⟨rk_RX12_251, List.forall_mem_cons.mpr ⟨rk_RX12_254, List.forall_mem_cons.mpr ⟨rk_RX12_256, List.forall_mem_cons.mpr ⟨rk_RX12_259, List.forall_mem_cons.mpr ⟨rk_RX12_263, List.forall_mem_cons.mpr ⟨rk_RX12_266, List.forall_mem_cons.mpr ⟨rk_RX12_269, List.forall_mem_cons.mpr ⟨rk_RX12_273, List.forall_mem_cons.mpr ⟨rk_RX12_276, List.forall_mem_cons.mpr ⟨rk_RX12_278, List.forall_mem_cons.mpr ⟨rk_RX12_281, List.forall_mem_cons.mpr ⟨rk_RX12_284, List.forall_mem_cons.mpr ⟨rk_RX12_287, List.forall_mem_cons.mpr ⟨rk_RX12_290, List.forall_mem_cons.mpr ⟨rk_RX12_293, List.forall_mem_cons.mpr ⟨rk_RX12_295, List.forall_mem_cons.mpr ⟨rk_RX12_297, List.forall_mem_cons.mpr ⟨rk_RX12_298, List.forall_mem_cons.mpr ⟨rk_RX12_301, List.forall_mem_cons.mpr ⟨rk_RX12_304, List.forall_mem_cons.mpr ⟨rk_RX12_307, List.forall_mem_cons.mpr ⟨rk_RX12_310, List.forall_mem_cons.mpr ⟨rk_RX12_313, List.forall_mem_cons.mpr ⟨rk_RX12_316, List.forall_mem_cons.mpr ⟨rk_RX12_319, List.forall_mem_cons.mpr ⟨rk_RX12_322, List.forall_mem_cons.mpr ⟨rk_RX12_325, List.forall_mem_cons.mpr ⟨rk_RX12_329, List.forall_mem_cons.mpr ⟨rk_RX12_332, List.forall_mem_cons.mpr ⟨rk_RX12_336, List.forall_mem_cons.mpr ⟨rk_RX12_339, List.forall_mem_cons.mpr ⟨rk_RX12_342, List.forall_mem_cons.mpr ⟨rk_RX12_345, List.forall_mem_cons.mpr ⟨rk_RX12_348, List.forall_mem_cons.mpr ⟨rk_RX12_351, List.forall_mem_cons.mpr ⟨rk_RX12_352, List.forall_mem_cons.mpr ⟨rk_RX12_355, List.forall_mem_cons.mpr ⟨rk_RX12_357, List.forall_mem_cons.mpr ⟨rk_RX12_360, List.forall_mem_cons.mpr ⟨rk_RX12_362, List.forall_mem_cons.mpr ⟨rk_RX12_365, List.forall_mem_nil _⟩⟩⟩⟩⟩⟩⟩⟩⟩⟩⟩⟩⟩⟩⟩⟩⟩⟩⟩⟩⟩⟩⟩⟩⟩⟩⟩⟩⟩⟩⟩⟩⟩⟩⟩⟩⟩⟩⟩⟩⟩⟩⟩⟩⟩⟩⟩⟩⟩⟩⟩⟩⟩⟩⟩⟩⟩⟩⟩⟩⟩⟩⟩⟩⟩⟩⟩⟩⟩⟩⟩⟩⟩⟩⟩⟩⟩⟩⟩⟩⟩⟩⟩⟩⟩⟩⟩⟩⟩⟩⟩⟩⟩⟩⟩⟩⟩⟩⟩⟩⟩⟩⟩⟩⟩⟩⟩⟩⟩⟩⟩⟩⟩⟩⟩⟩⟩⟩⟩⟩⟩⟩
def rt_RJ6 : List (Nat × ak_X) := [(265, (4, 0, 0, 1431655765)), (266, (4, 0, 0, 858993459)), (267, (4, 0, 0, 252645135))]
set_option maxRecDepth 100000 in
theorem rt_RJ6_ok : ∀ e ∈ rt_RJ6, ak_okr RJ6 e.1 e.2 := List.forall_mem_cons.mpr ⟨rk_RJ6_265, List.forall_mem_cons.mpr ⟨rk_RJ6_266, List.forall_mem_cons.mpr ⟨rk_RJ6_267, List.forall_mem_nil _⟩⟩⟩
def rt_RJ0 : List (Nat × ak_X) := [(9, (2, 0, 0, 0)), (15, (2, 1, 0, 0)), (38, (3, 2, 0, 0)), (335, (9, 72, 0, 0)), (492, (9, 74, 0, 0)), (495, (11, 75, 2, 0)), (498, (11, 78, 2, 0)), (1053, (3, 3, 0, 0)), (1059, (11, 77, 3, 0))]
set_option maxRecDepth 100000 in
theorem rt_RJ0_ok : ∀ e ∈ rt_RJ0, ak_okr RJ0 e.1 e.2 := List.forall_mem_cons.mpr ⟨rk_RJ0_9, List.forall_mem_cons.mpr ⟨rk_RJ0_15, List.forall_mem_cons.mpr ⟨rk_RJ0_38, List.forall_mem_cons.mpr ⟨rk_RJ0_335, List.forall_mem_cons.mpr ⟨rk_RJ0_492, List.forall_mem_cons.mpr ⟨rk_RJ0_495, List.forall_mem_cons.mpr ⟨rk_RJ0_498, List.forall_mem_cons.mpr ⟨rk_RJ0_1053, List.forall_mem_cons.mpr ⟨rk_RJ0_1059, List.forall_mem_nil _⟩⟩⟩⟩⟩⟩⟩⟩⟩
def rt_RJ1 : List (Nat × ak_X) := [(9, (11, 76, 2, 0))]
set_option maxRecDepth 100000 in
theorem rt_RJ1_ok : ∀ e ∈ rt_RJ1, ak_okr RJ1 e.1 e.2 := List.forall_mem_cons.mpr ⟨rk_RJ1_9, List.forall_mem_nil _⟩
def rt_RJ2 : List (Nat × ak_X) := [(44, (0, 0, 0, 0)), (48, (11, 80, 1, 0)), (59, (0, 0, 0, 0)), (63, (0, 0, 0, 0)), (67, (11, 79, 2, 0)), (71, (11, 81, 2, 0)), (414, (11, 76, 2, 0))]
set_option maxRecDepth 100000 in
theorem rt_RJ2_ok : ∀ e ∈ rt_RJ2, ak_okr RJ2 e.1 e.2 := List.forall_mem_cons.mpr ⟨rk_RJ2_44, List.forall_mem_cons.mpr ⟨rk_RJ2_48, List.forall_mem_cons.mpr ⟨rk_RJ2_59, List.forall_mem_cons.mpr ⟨rk_RJ2_63, List.forall_mem_cons.mpr ⟨rk_RJ2_67, List.forall_mem_cons.mpr ⟨rk_RJ2_71, List.forall_mem_cons.mpr ⟨rk_RJ2_414, List.forall_mem_nil _⟩⟩⟩⟩⟩⟩⟩
/-- a method's table speaks of its class's pool as that stands -/
def ak_coh (rt : List (Nat × ak_X)) : List ak_I → Bool
  | [] => true
  | none :: t => ak_coh rt t
  | some q :: t => (match ak_idx q.1 with
    | none => true
    | some i => match q.2.2.1 with
      | 0 => true
      | _ => rt.any (fun e => decide (e = (i, q.2.2)))) && ak_coh rt t
theorem ak_coh_at {rt : List (Nat × ak_X)} {own : String} (hr : ∀ e ∈ rt, ak_okr own e.1 e.2) : ∀ (l : List ak_I), ak_coh rt l = true → ∀ (k : Nat) (q : Instr × Nat × ak_X) (i : Nat), l[k]? = some (some q) → ak_idx q.1 = some i → ak_okr own i q.2.2
  | [], _, k, q, i, h, _ => by simp at h
  | a :: t, hc, k, q, i, h, hi => by
    cases k with
    | zero =>
      rw [List.getElem?_cons_zero] at h
      cases h
      simp only [ak_coh, Bool.and_eq_true, hi] at hc
      obtain ⟨ins, w, x⟩ := q
      obtain ⟨x0, x1, x2, x3⟩ := x
      have h1 := hc.1
      split at h1
      · rename_i e
        change x0 = 0 at e
        subst e
        trivial
      · obtain ⟨e, he, hd⟩ := List.any_eq_true.mp h1
        have hd := of_decide_eq_true hd
        have := hr e he
        rw [hd] at this
        exact this
    | succ k =>
      rw [List.getElem?_cons_succ] at h
      refine ak_coh_at hr t ?_ k q i h hi
      cases a with
      | none => exact hc
      | some a => simp only [ak_coh, Bool.and_eq_true] at hc; exact hc.2
/-- what is known of each method -/
def ak_mall (q : ak_Q) : Prop := ak_chk q.2.1 0 q.2.2.2.2.1 = true ∧ (∀ (k : Nat) (e : Instr × Nat × ak_X) (i : Nat), q.2.2.2.2.1[k]? = some (some e) → ak_idx e.1 = some i → ak_okr q.1.cls i e.2.2) ∧ (∀ r : vw_C, vwCl[q.2.2.2.2.2]? = some r → r.1 = q.1.cls)
set_option maxRecDepth 100000 in
theorem ma_0 : ak_mall q_0 := ⟨kd_0, ak_coh_at rt_RX11_ok _ (by decide +kernel), fun r h => by cases h; rfl⟩
set_option maxRecDepth 100000 in
theorem ma_1 : ak_mall q_1 := ⟨kd_1, ak_coh_at rt_RX8_ok _ (by decide +kernel), fun r h => by cases h; rfl⟩
set_option maxRecDepth 100000 in
theorem ma_2 : ak_mall q_2 := ⟨kd_2, ak_coh_at rt_RX6_ok _ (by decide +kernel), fun r h => by cases h; rfl⟩
set_option maxRecDepth 100000 in
theorem ma_3 : ak_mall q_3 := ⟨kd_3, ak_coh_at rt_RX3_ok _ (by decide +kernel), fun r h => by cases h; rfl⟩
set_option maxRecDepth 100000 in
theorem ma_4 : ak_mall q_4 := ⟨kd_4, ak_coh_at rt_RX4_ok _ (by decide +kernel), fun r h => by cases h; rfl⟩
set_option maxRecDepth 100000 in
theorem ma_5 : ak_mall q_5 := ⟨kd_5, ak_coh_at rt_RX9_ok _ (by decide +kernel), fun r h => by cases h; rfl⟩
set_option maxRecDepth 100000 in
theorem ma_6 : ak_mall q_6 := ⟨kd_6, ak_coh_at rt_RX2_ok _ (by decide +kernel), fun r h => by cases h; rfl⟩
set_option maxRecDepth 100000 in
theorem ma_7 : ak_mall q_7 := ⟨kd_7, ak_coh_at rt_RX1_ok _ (by decide +kernel), fun r h => by cases h; rfl⟩
set_option maxRecDepth 100000 in
theorem ma_8 : ak_mall q_8 := ⟨kd_8, ak_coh_at rt_RX0_ok _ (by decide +kernel), fun r h => by cases h; rfl⟩
set_option maxRecDepth 100000 in
theorem ma_9 : ak_mall q_9 := ⟨kd_9, ak_coh_at rt_RX10_ok _ (by decide +kernel), fun r h => by cases h; rfl⟩
set_option maxRecDepth 100000 in
theorem ma_10 : ak_mall q_10 := ⟨kd_10, ak_coh_at rt_RX10_ok _ (by decide +kernel), fun r h => by cases h; rfl⟩
set_option maxRecDepth 100000 in
theorem ma_11 : ak_mall q_11 := ⟨kd_11, ak_coh_at rt_RX10_ok _ (by decide +kernel), fun r h => by cases h; rfl⟩
set_option maxRecDepth 100000 in
theorem ma_12 : ak_mall q_12 := ⟨kd_12, ak_coh_at rt_RX5_ok _ (by decide +kernel), fun r h => by cases h; rfl⟩
set_option maxRecDepth 100000 in
theorem ma_13 : ak_mall q_13 := ⟨kd_13, ak_coh_at rt_RX7_ok _ (by decide +kernel), fun r h => by cases h; rfl⟩
set_option maxRecDepth 100000 in
theorem ma_14 : ak_mall q_14 := ⟨kd_14, ak_coh_at rt_RX11_ok _ (by decide +kernel), fun r h => by cases h; rfl⟩
set_option maxRecDepth 100000 in
theorem ma_15 : ak_mall q_15 := ⟨kd_15, ak_coh_at rt_RX8_ok _ (by decide +kernel), fun r h => by cases h; rfl⟩
set_option maxRecDepth 100000 in
theorem ma_16 : ak_mall q_16 := ⟨kd_16, ak_coh_at rt_RX8_ok _ (by decide +kernel), fun r h => by cases h; rfl⟩
set_option maxRecDepth 100000 in
theorem ma_17 : ak_mall q_17 := ⟨kd_17, ak_coh_at rt_RX8_ok _ (by decide +kernel), fun r h => by cases h; rfl⟩
set_option maxRecDepth 100000 in
theorem ma_18 : ak_mall q_18 := ⟨kd_18, ak_coh_at rt_RX8_ok _ (by decide +kernel), fun r h => by cases h; rfl⟩
set_option maxRecDepth 100000 in
theorem ma_19 : ak_mall q_19 := ⟨kd_19, ak_coh_at rt_RX8_ok _ (by decide +kernel), fun r h => by cases h; rfl⟩
set_option maxRecDepth 100000 in
theorem ma_20 : ak_mall q_20 := ⟨kd_20, ak_coh_at rt_RX8_ok _ (by decide +kernel), fun r h => by cases h; rfl⟩
set_option maxRecDepth 100000 in
theorem ma_21 : ak_mall q_21 := ⟨kd_21, ak_coh_at rt_RX11_ok _ (by decide +kernel), fun r h => by cases h; rfl⟩
set_option maxRecDepth 100000 in
theorem ma_22 : ak_mall q_22 := ⟨kd_22, ak_coh_at rt_RX8_ok _ (by decide +kernel), fun r h => by cases h; rfl⟩
set_option maxRecDepth 100000 in
theorem ma_23 : ak_mall q_23 := ⟨kd_23, ak_coh_at rt_RX8_ok _ (by decide +kernel), fun r h => by cases h; rfl⟩
set_option maxRecDepth 100000 in
theorem ma_24 : ak_mall q_24 := ⟨kd_24, ak_coh_at rt_RX11_ok _ (by decide +kernel), fun r h => by cases h; rfl⟩
set_option maxRecDepth 100000 in
theorem ma_25 : ak_mall q_25 := ⟨kd_25, ak_coh_at rt_RX11_ok _ (by decide +kernel), fun r h => by cases h; rfl⟩
set_option maxRecDepth 100000 in
theorem ma_26 : ak_mall q_26 := ⟨kd_26, ak_coh_at rt_RX11_ok _ (by decide +kernel), fun r h => by cases h; rfl⟩
set_option maxRecDepth 100000 in
theorem ma_27 : ak_mall q_27 := ⟨kd_27, ak_coh_at rt_RX6_ok _ (by decide +kernel), fun r h => by cases h; rfl⟩
set_option maxRecDepth 100000 in
theorem ma_28 : ak_mall q_28 := ⟨kd_28, ak_coh_at rt_RX8_ok _ (by decide +kernel), fun r h => by cases h; rfl⟩
set_option maxRecDepth 100000 in
theorem ma_29 : ak_mall q_29 := ⟨kd_29, ak_coh_at rt_RX6_ok _ (by decide +kernel), fun r h => by cases h; rfl⟩
set_option maxRecDepth 100000 in
theorem ma_30 : ak_mall q_30 := ⟨kd_30, ak_coh_at rt_RX6_ok _ (by decide +kernel), fun r h => by cases h; rfl⟩
set_option maxRecDepth 100000 in
theorem ma_31 : ak_mall q_31 := ⟨kd_31, ak_coh_at rt_RX6_ok _ (by decide +kernel), fun r h => by cases h; rfl⟩
set_option maxRecDepth 100000 in
theorem ma_32 : ak_mall q_32 := ⟨kd_32, ak_coh_at rt_RX8_ok _ (by decide +kernel), fun r h => by cases h; rfl⟩
set_option maxRecDepth 100000 in
theorem ma_33 : ak_mall q_33 := ⟨kd_33, ak_coh_at rt_RX8_ok _ (by decide +kernel), fun r h => by cases h; rfl⟩
set_option maxRecDepth 100000 in
theorem ma_34 : ak_mall q_34 := ⟨kd_34, ak_coh_at rt_RX6_ok _ (by decide +kernel), fun r h => by cases h; rfl⟩
set_option maxRecDepth 100000 in
theorem ma_35 : ak_mall q_35 := ⟨kd_35, ak_coh_at rt_RX10_ok _ (by decide +kernel), fun r h => by cases h; rfl⟩
set_option maxRecDepth 100000 in
theorem ma_36 : ak_mall q_36 := ⟨kd_36, ak_coh_at rt_RX10_ok _ (by decide +kernel), fun r h => by cases h; rfl⟩
set_option maxRecDepth 100000 in
theorem ma_37 : ak_mall q_37 := ⟨kd_37, ak_coh_at rt_RX10_ok _ (by decide +kernel), fun r h => by cases h; rfl⟩
set_option maxRecDepth 100000 in
theorem ma_38 : ak_mall q_38 := ⟨kd_38, ak_coh_at rt_RX10_ok _ (by decide +kernel), fun r h => by cases h; rfl⟩
set_option maxRecDepth 100000 in
theorem ma_39 : ak_mall q_39 := ⟨kd_39, ak_coh_at rt_RX6_ok _ (by decide +kernel), fun r h => by cases h; rfl⟩
set_option maxRecDepth 100000 in
theorem ma_40 : ak_mall q_40 := ⟨kd_40, ak_coh_at rt_RX0_ok _ (by decide +kernel), fun r h => by cases h; rfl⟩
set_option maxRecDepth 100000 in
theorem ma_41 : ak_mall q_41 := ⟨kd_41, ak_coh_at rt_RX1_ok _ (by decide +kernel), fun r h => by cases h; rfl⟩
set_option maxRecDepth 100000 in
theorem ma_42 : ak_mall q_42 := ⟨kd_42, ak_coh_at rt_RX2_ok _ (by decide +kernel), fun r h => by cases h; rfl⟩
set_option maxRecDepth 100000 in
theorem ma_43 : ak_mall q_43 := ⟨kd_43, ak_coh_at rt_RX9_ok _ (by decide +kernel), fun r h => by cases h; rfl⟩
set_option maxRecDepth 100000 in
theorem ma_44 : ak_mall q_44 := ⟨kd_44, ak_coh_at rt_RX3_ok _ (by decide +kernel), fun r h => by cases h; rfl⟩
set_option maxRecDepth 100000 in
theorem ma_45 : ak_mall q_45 := ⟨kd_45, ak_coh_at rt_RX3_ok _ (by decide +kernel), fun r h => by cases h; rfl⟩
set_option maxRecDepth 100000 in
theorem ma_46 : ak_mall q_46 := ⟨kd_46, ak_coh_at rt_RX11_ok _ (by decide +kernel), fun r h => by cases h; rfl⟩
set_option maxRecDepth 100000 in
theorem ma_47 : ak_mall q_47 := ⟨kd_47, ak_coh_at rt_RX6_ok _ (by decide +kernel), fun r h => by cases h; rfl⟩
set_option maxRecDepth 100000 in
theorem ma_48 : ak_mall q_48 := ⟨kd_48, ak_coh_at rt_RX6_ok _ (by decide +kernel), fun r h => by cases h; rfl⟩
set_option maxRecDepth 100000 in
theorem ma_49 : ak_mall q_49 := ⟨kd_49, ak_coh_at rt_RX0_ok _ (by decide +kernel), fun r h => by cases h; rfl⟩
set_option maxRecDepth 100000 in
theorem ma_50 : ak_mall q_50 := ⟨kd_50, ak_coh_at rt_RX1_ok _ (by decide +kernel), fun r h => by cases h; rfl⟩
set_option maxRecDepth 100000 in
theorem ma_51 : ak_mall q_51 := ⟨kd_51, ak_coh_at rt_RX9_ok _ (by decide +kernel), fun r h => by cases h; rfl⟩
set_option maxRecDepth 100000 in
theorem ma_52 : ak_mall q_52 := ⟨kd_52, ak_coh_at rt_RX2_ok _ (by decide +kernel), fun r h => by cases h; rfl⟩
set_option maxRecDepth 100000 in
theorem ma_53 : ak_mall q_53 := ⟨kd_53, ak_coh_at rt_RX4_ok _ (by decide +kernel), fun r h => by cases h; rfl⟩
set_option maxRecDepth 100000 in
theorem ma_54 : ak_mall q_54 := ⟨kd_54, ak_coh_at rt_RX3_ok _ (by decide +kernel), fun r h => by cases h; rfl⟩
set_option maxRecDepth 100000 in
theorem ma_55 : ak_mall q_55 := ⟨kd_55, ak_coh_at rt_RX6_ok _ (by decide +kernel), fun r h => by cases h; rfl⟩
set_option maxRecDepth 100000 in
theorem ma_56 : ak_mall q_56 := ⟨kd_56, ak_coh_at rt_RX0_ok _ (by decide +kernel), fun r h => by cases h; rfl⟩
set_option maxRecDepth 100000 in
theorem ma_57 : ak_mall q_57 := ⟨kd_57, ak_coh_at rt_RX1_ok _ (by decide +kernel), fun r h => by cases h; rfl⟩
set_option maxRecDepth 100000 in
theorem ma_58 : ak_mall q_58 := ⟨kd_58, ak_coh_at rt_RX4_ok _ (by decide +kernel), fun r h => by cases h; rfl⟩
set_option maxRecDepth 100000 in
theorem ma_59 : ak_mall q_59 := ⟨kd_59, ak_coh_at rt_RX9_ok _ (by decide +kernel), fun r h => by cases h; rfl⟩
set_option maxRecDepth 100000 in
theorem ma_60 : ak_mall q_60 := ⟨kd_60, ak_coh_at rt_RX3_ok _ (by decide +kernel), fun r h => by cases h; rfl⟩
set_option maxRecDepth 100000 in
theorem ma_61 : ak_mall q_61 := ⟨kd_61, ak_coh_at rt_RX11_ok _ (by decide +kernel), fun r h => by cases h; rfl⟩
set_option maxRecDepth 100000 in
theorem ma_62 : ak_mall q_62 := ⟨kd_62, ak_coh_at rt_RX11_ok _ (by decide +kernel), fun r h => by cases h; rfl⟩
set_option maxRecDepth 100000 in
theorem ma_63 : ak_mall q_63 := ⟨kd_63, ak_coh_at rt_RX11_ok _ (by decide +kernel), fun r h => by cases h; rfl⟩
set_option maxRecDepth 100000 in
theorem ma_64 : ak_mall q_64 := ⟨kd_64, ak_coh_at rt_RX10_ok _ (by decide +kernel), fun r h => by cases h; rfl⟩
set_option maxRecDepth 100000 in
theorem ma_65 : ak_mall q_65 := ⟨kd_65, ak_coh_at rt_RX10_ok _ (by decide +kernel), fun r h => by cases h; rfl⟩
set_option maxRecDepth 100000 in
theorem ma_66 : ak_mall q_66 := ⟨kd_66, ak_coh_at rt_RX10_ok _ (by decide +kernel), fun r h => by cases h; rfl⟩
set_option maxRecDepth 100000 in
theorem ma_67 : ak_mall q_67 := ⟨kd_67, ak_coh_at rt_RX10_ok _ (by decide +kernel), fun r h => by cases h; rfl⟩
set_option maxRecDepth 100000 in
theorem ma_68 : ak_mall q_68 := ⟨kd_68, ak_coh_at rt_RX10_ok _ (by decide +kernel), fun r h => by cases h; rfl⟩
set_option maxRecDepth 100000 in
theorem ma_69 : ak_mall q_69 := ⟨kd_69, ak_coh_at rt_RX10_ok _ (by decide +kernel), fun r h => by cases h; rfl⟩
set_option maxRecDepth 100000 in
theorem ma_70 : ak_mall q_70 := ⟨kd_70, ak_coh_at rt_RX10_ok _ (by decide +kernel), fun r h => by cases h; rfl⟩
set_option maxRecDepth 100000 in
theorem ma_71 : ak_mall q_71 := ⟨kd_71, ak_coh_at rt_RJ0_ok _ (by decide +kernel), fun r h => by cases h⟩
set_option maxRecDepth 100000 in
theorem ma_72 : ak_mall q_72 := ⟨kd_72, ak_coh_at rt_RJ0_ok _ (by decide +kernel), fun r h => by cases h⟩
set_option maxRecDepth 100000 in
theorem ma_73 : ak_mall q_73 := ⟨kd_73, ak_coh_at rt_RJ0_ok _ (by decide +kernel), fun r h => by cases h⟩
set_option maxRecDepth 100000 in
theorem ma_74 : ak_mall q_74 := ⟨kd_74, ak_coh_at rt_RJ0_ok _ (by decide +kernel), fun r h => by cases h⟩
set_option maxRecDepth 100000 in
theorem ma_75 : ak_mall q_75 := ⟨kd_75, ak_coh_at rt_RJ1_ok _ (by decide +kernel), fun r h => by cases h⟩
set_option maxRecDepth 100000 in
theorem ma_76 : ak_mall q_76 := ⟨kd_76, ak_coh_at rt_RJ0_ok _ (by decide +kernel), fun r h => by cases h⟩
set_option maxRecDepth 100000 in
theorem ma_77 : ak_mall q_77 := ⟨kd_77, ak_coh_at (rt := []) (List.forall_mem_nil _) _ (by decide +kernel), fun r h => by cases h⟩
set_option maxRecDepth 100000 in
theorem ma_78 : ak_mall q_78 := ⟨kd_78, ak_coh_at rt_RJ2_ok _ (by decide +kernel), fun r h => by cases h⟩
set_option maxRecDepth 100000 in
theorem ma_79 : ak_mall q_79 := ⟨kd_79, ak_coh_at rt_RJ2_ok _ (by decide +kernel), fun r h => by cases h⟩
set_option maxRecDepth 100000 in
theorem ma_80 : ak_mall q_80 := ⟨kd_80, ak_coh_at rt_RJ2_ok _ (by decide +kernel), fun r h => by cases h⟩
set_option maxRecDepth 100000 in
theorem ma_81 : ak_mall q_81 := ⟨kd_81, ak_coh_at rt_RJ2_ok _ (by decide +kernel), fun r h => by cases h⟩
set_option maxRecDepth 100000 in
theorem ma_82 : ak_mall q_82 := ⟨kd_82, ak_coh_at rt_RX10_ok _ (by decide +kernel), fun r h => by cases h; rfl⟩
set_option maxRecDepth 100000 in
theorem ma_83 : ak_mall q_83 := ⟨kd_83, ak_coh_at rt_RX10_ok _ (by decide +kernel), fun r h => by cases h; rfl⟩
set_option maxRecDepth 100000 in
theorem ma_84 : ak_mall q_84 := ⟨kd_84, ak_coh_at rt_RX10_ok _ (by decide +kernel), fun r h => by cases h; rfl⟩
set_option maxRecDepth 100000 in
theorem ma_85 : ak_mall q_85 := ⟨kd_85, ak_coh_at rt_RX10_ok _ (by decide +kernel), fun r h => by cases h; rfl⟩
set_option maxRecDepth 100000 in
theorem ma_86 : ak_mall q_86 := ⟨kd_86, ak_coh_at rt_RX10_ok _ (by decide +kernel), fun r h => by cases h; rfl⟩
set_option maxRecDepth 100000 in
theorem ma_87 : ak_mall q_87 := ⟨kd_87, ak_coh_at rt_RX10_ok _ (by decide +kernel), fun r h => by cases h; rfl⟩
set_option maxRecDepth 100000 in
theorem ma_88 : ak_mall q_88 := ⟨kd_88, ak_coh_at rt_RX10_ok _ (by decide +kernel), fun r h => by cases h; rfl⟩
set_option maxRecDepth 100000 in
theorem ma_89 : ak_mall q_89 := ⟨kd_89, ak_coh_at rt_RX10_ok _ (by decide +kernel), fun r h => by cases h; rfl⟩
set_option maxRecDepth 100000 in
theorem ma_90 : ak_mall q_90 := ⟨kd_90, ak_coh_at rt_RX10_ok _ (by decide +kernel), fun r h => by cases h; rfl⟩
set_option maxRecDepth 100000 in
theorem ma_91 : ak_mall q_91 := ⟨kd_91, ak_coh_at rt_RX10_ok _ (by decide +kernel), fun r h => by cases h; rfl⟩
set_option maxRecDepth 100000 in
theorem ma_92 : ak_mall q_92 := ⟨kd_92, ak_coh_at rt_RX10_ok _ (by decide +kernel), fun r h => by cases h; rfl⟩
set_option maxRecDepth 100000 in
theorem ma_93 : ak_mall q_93 := ⟨kd_93, ak_coh_at rt_RX10_ok _ (by decide +kernel), fun r h => by cases h; rfl⟩
set_option maxRecDepth 100000 in
theorem ma_94 : ak_mall q_94 := ⟨kd_94, ak_coh_at rt_RX10_ok _ (by decide +kernel), fun r h => by cases h; rfl⟩
set_option maxRecDepth 100000 in
theorem ma_95 : ak_mall q_95 := ⟨kd_95, ak_coh_at rt_RX10_ok _ (by decide +kernel), fun r h => by cases h; rfl⟩
set_option maxRecDepth 100000 in
theorem ma_96 : ak_mall q_96 := ⟨kd_96, ak_coh_at rt_RX10_ok _ (by decide +kernel), fun r h => by cases h; rfl⟩
set_option maxRecDepth 100000 in
theorem ma_97 : ak_mall q_97 := ⟨kd_97, ak_coh_at rt_RX11_ok _ (by decide +kernel), fun r h => by cases h; rfl⟩
set_option maxRecDepth 100000 in
theorem ma_98 : ak_mall q_98 := ⟨kd_98, ak_coh_at rt_RX11_ok _ (by decide +kernel), fun r h => by cases h; rfl⟩
set_option maxRecDepth 100000 in
theorem ma_99 : ak_mall q_99 := ⟨kd_99, ak_coh_at rt_RX5_ok _ (by decide +kernel), fun r h => by cases h; rfl⟩
set_option maxRecDepth 100000 in
theorem ma_100 : ak_mall q_100 := ⟨kd_100, ak_coh_at rt_RX8_ok _ (by decide +kernel), fun r h => by cases h; rfl⟩
set_option maxRecDepth 100000 in
theorem ma_101 : ak_mall q_101 := ⟨kd_101, ak_coh_at rt_RJ6_ok _ (by decide +kernel), fun r h => by cases h⟩
set_option maxRecDepth 100000 in
theorem ma_102 : ak_mall q_102 := ⟨kd_102, ak_coh_at rt_RX5_ok _ (by decide +kernel), fun r h => by cases h; rfl⟩
set_option maxRecDepth 100000 in
theorem ma_103 : ak_mall q_103 := ⟨kd_103, ak_coh_at rt_RX5_ok _ (by decide +kernel), fun r h => by cases h; rfl⟩
set_option maxRecDepth 100000 in
theorem ma_104 : ak_mall q_104 := ⟨kd_104, ak_coh_at rt_RX5_ok _ (by decide +kernel), fun r h => by cases h; rfl⟩
set_option maxRecDepth 100000 in
theorem ma_105 : ak_mall q_105 := ⟨kd_105, ak_coh_at rt_RX5_ok _ (by decide +kernel), fun r h => by cases h; rfl⟩
set_option maxRecDepth 100000 in
theorem ma_106 : ak_mall q_106 := ⟨kd_106, ak_coh_at rt_RX5_ok _ (by decide +kernel), fun r h => by cases h; rfl⟩
set_option maxRecDepth 100000 in
theorem ma_107 : ak_mall q_107 := ⟨kd_107, ak_coh_at rt_RX5_ok _ (by decide +kernel), fun r h => by cases h; rfl⟩
set_option maxRecDepth 100000 in
theorem ma_108 : ak_mall q_108 := ⟨kd_108, ak_coh_at rt_RX5_ok _ (by decide +kernel), fun r h => by cases h; rfl⟩
set_option maxRecDepth 100000 in
theorem ma_109 : ak_mall q_109 := ⟨kd_109, ak_coh_at rt_RX5_ok _ (by decide +kernel), fun r h => by cases h; rfl⟩
set_option maxRecDepth 100000 in
theorem ma_110 : ak_mall q_110 := ⟨kd_110, ak_coh_at rt_RX11_ok _ (by decide +kernel), fun r h => by cases h; rfl⟩
set_option maxRecDepth 100000 in
theorem ma_111 : ak_mall q_111 := ⟨kd_111, ak_coh_at rt_RX8_ok _ (by decide +kernel), fun r h => by cases h; rfl⟩
set_option maxRecDepth 100000 in
theorem ma_112 : ak_mall q_112 := ⟨kd_112, ak_coh_at rt_RX11_ok _ (by decide +kernel), fun r h => by cases h; rfl⟩
set_option maxRecDepth 100000 in
theorem ma_113 : ak_mall q_113 := ⟨kd_113, ak_coh_at rt_RX5_ok _ (by decide +kernel), fun r h => by cases h; rfl⟩
set_option maxRecDepth 100000 in
theorem ma_114 : ak_mall q_114 := ⟨kd_114, ak_coh_at rt_RX5_ok _ (by decide +kernel), fun r h => by cases h; rfl⟩
set_option maxRecDepth 100000 in
theorem ma_115 : ak_mall q_115 := ⟨kd_115, ak_coh_at rt_RX5_ok _ (by decide +kernel), fun r h => by cases h; rfl⟩
set_option maxRecDepth 100000 in
theorem ma_116 : ak_mall q_116 := ⟨kd_116, ak_coh_at rt_RX5_ok _ (by decide +kernel), fun r h => by cases h; rfl⟩
set_option maxRecDepth 100000 in
theorem ma_117 : ak_mall q_117 := ⟨kd_117, ak_coh_at rt_RX5_ok _ (by decide +kernel), fun r h => by cases h; rfl⟩
set_option maxRecDepth 100000 in
theorem ma_118 : ak_mall q_118 := ⟨kd_118, ak_coh_at rt_RX5_ok _ (by decide +kernel), fun r h => by cases h; rfl⟩
set_option maxRecDepth 100000 in
theorem ma_119 : ak_mall q_119 := ⟨kd_119, ak_coh_at rt_RX5_ok _ (by decide +kernel), fun r h => by cases h; rfl⟩
set_option maxRecDepth 100000 in
theorem ma_120 : ak_mall q_120 := ⟨kd_120, ak_coh_at rt_RX5_ok _ (by decide +kernel), fun r h => by cases h; rfl⟩
set_option maxRecDepth 100000 in
theorem ma_121 : ak_mall q_121 := ⟨kd_121, ak_coh_at rt_RX5_ok _ (by decide +kernel), fun r h => by cases h; rfl⟩
set_option maxRecDepth 100000 in
theorem ma_122 : ak_mall q_122 := ⟨kd_122, ak_coh_at rt_RX11_ok _ (by decide +kernel), fun r h => by cases h; rfl⟩
set_option maxRecDepth 100000 in
theorem ma_123 : ak_mall q_123 := ⟨kd_123, ak_coh_at rt_RX5_ok _ (by decide +kernel), fun r h => by cases h; rfl⟩
set_option maxRecDepth 100000 in
theorem ma_124 : ak_mall q_124 := ⟨kd_124, ak_coh_at rt_RX5_ok _ (by decide +kernel), fun r h => by cases h; rfl⟩
set_option maxRecDepth 100000 in
theorem ma_125 : ak_mall q_125 := ⟨kd_125, ak_coh_at rt_RX5_ok _ (by decide +kernel), fun r h => by cases h; rfl⟩
set_option maxRecDepth 100000 in
theorem ma_126 : ak_mall q_126 := ⟨kd_126, ak_coh_at rt_RX5_ok _ (by decide +kernel), fun r h => by cases h; rfl⟩
set_option maxRecDepth 100000 in
theorem ma_127 : ak_mall q_127 := ⟨kd_127, ak_coh_at rt_RX11_ok _ (by decide +kernel), fun r h => by cases h; rfl⟩
set_option maxRecDepth 100000 in
theorem ma_128 : ak_mall q_128 := ⟨kd_128, ak_coh_at rt_RX5_ok _ (by decide +kernel), fun r h => by cases h; rfl⟩
set_option maxRecDepth 100000 in
theorem ma_129 : ak_mall q_129 := ⟨kd_129, ak_coh_at rt_RX5_ok _ (by decide +kernel), fun r h => by cases h; rfl⟩
set_option maxRecDepth 100000 in
theorem ma_130 : ak_mall q_130 := ⟨kd_130, ak_coh_at rt_RX11_ok _ (by decide +kernel), fun r h => by cases h; rfl⟩
set_option maxRecDepth 100000 in
theorem ma_131 : ak_mall q_131 := ⟨kd_131, ak_coh_at rt_RX5_ok _ (by decide +kernel), fun r h => by cases h; rfl⟩
set_option maxRecDepth 100000 in
theorem ma_132 : ak_mall q_132 := ⟨kd_132, ak_coh_at rt_RX5_ok _ (by decide +kernel), fun r h => by cases h; rfl⟩
set_option maxRecDepth 100000 in
theorem ma_133 : ak_mall q_133 := ⟨kd_133, ak_coh_at rt_RX11_ok _ (by decide +kernel), fun r h => by cases h; rfl⟩
set_option maxRecDepth 100000 in
theorem ma_134 : ak_mall q_134 := ⟨kd_134, ak_coh_at rt_RX5_ok _ (by decide +kernel), fun r h => by cases h; rfl⟩
set_option maxRecDepth 100000 in
theorem ma_135 : ak_mall q_135 := ⟨kd_135, ak_coh_at rt_RX11_ok _ (by decide +kernel), fun r h => by cases h; rfl⟩
set_option maxRecDepth 100000 in
theorem ma_136 : ak_mall q_136 := ⟨kd_136, ak_coh_at rt_RX11_ok _ (by decide +kernel), fun r h => by cases h; rfl⟩
set_option maxRecDepth 100000 in
theorem ma_137 : ak_mall q_137 := ⟨kd_137, ak_coh_at rt_RX7_ok _ (by decide +kernel), fun r h => by cases h; rfl⟩
set_option maxRecDepth 100000 in
theorem ma_138 : ak_mall q_138 := ⟨kd_138, ak_coh_at rt_RX8_ok _ (by decide +kernel), fun r h => by cases h; rfl⟩
set_option maxRecDepth 100000 in
theorem ma_139 : ak_mall q_139 := ⟨kd_139, ak_coh_at rt_RX11_ok _ (by decide +kernel), fun r h => by cases h; rfl⟩
set_option maxRecDepth 100000 in
theorem ma_140 : ak_mall q_140 := ⟨kd_140, ak_coh_at rt_RX11_ok _ (by decide +kernel), fun r h => by cases h; rfl⟩
set_option maxRecDepth 100000 in
theorem ma_141 : ak_mall q_141 := ⟨kd_141, ak_coh_at rt_RX11_ok _ (by decide +kernel), fun r h => by cases h; rfl⟩
set_option maxRecDepth 100000 in
theorem ma_142 : ak_mall q_142 := ⟨kd_142, ak_coh_at rt_RX11_ok _ (by decide +kernel), fun r h => by cases h; rfl⟩
set_option maxRecDepth 100000 in
theorem ma_143 : ak_mall q_143 := ⟨kd_143, ak_coh_at rt_RX11_ok _ (by decide +kernel), fun r h => by cases h; rfl⟩
set_option maxRecDepth 100000 in
theorem ma_144 : ak_mall q_144 := ⟨kd_144, ak_coh_at rt_RX11_ok _ (by decide +kernel), fun r h => by cases h; rfl⟩
set_option maxRecDepth 100000 in
theorem ma_145 : ak_mall q_145 := ⟨kd_145, ak_coh_at rt_RX11_ok _ (by decide +kernel), fun r h => by cases h; rfl⟩
set_option maxRecDepth 100000 in
theorem ma_146 : ak_mall q_146 := ⟨kd_146, ak_coh_at rt_RX11_ok _ (by decide +kernel), fun r h => by cases h; rfl⟩
set_option maxRecDepth 100000 in
theorem ma_147 : ak_mall q_147 := ⟨kd_147, ak_coh_at rt_RX7_ok _ (by decide +kernel), fun r h => by cases h; rfl⟩
set_option maxRecDepth 100000 in
theorem ma_148 : ak_mall q_148 := ⟨kd_148, ak_coh_at rt_RX7_ok _ (by decide +kernel), fun r h => by cases h; rfl⟩
set_option maxRecDepth 100000 in
theorem ma_149 : ak_mall q_149 := ⟨kd_149, ak_coh_at rt_RX7_ok _ (by decide +kernel), fun r h => by cases h; rfl⟩
set_option maxRecDepth 100000 in
theorem ma_150 : ak_mall q_150 := ⟨kd_150, ak_coh_at rt_RX11_ok _ (by decide +kernel), fun r h => by cases h; rfl⟩
set_option maxRecDepth 100000 in
theorem ma_151 : ak_mall q_151 := ⟨kd_151, ak_coh_at rt_RX11_ok _ (by decide +kernel), fun r h => by cases h; rfl⟩
set_option maxRecDepth 100000 in
theorem ma_152 : ak_mall q_152 := ⟨kd_152, ak_coh_at rt_RX11_ok _ (by decide +kernel), fun r h => by cases h; rfl⟩
set_option maxRecDepth 100000 in
theorem ma_153 : ak_mall q_153 := ⟨kd_153, ak_coh_at rt_RX11_ok _ (by decide +kernel), fun r h => by cases h; rfl⟩
set_option maxRecDepth 100000 in
theorem ma_154 : ak_mall q_154 := ⟨kd_154, ak_coh_at rt_RX11_ok _ (by decide +kernel), fun r h => by cases h; rfl⟩
set_option maxRecDepth 100000 in
theorem ma_155 : ak_mall q_155 := ⟨kd_155, ak_coh_at rt_RX11_ok _ (by decide +kernel), fun r h => by cases h; rfl⟩
set_option maxRecDepth 100000 in
theorem ma_156 : ak_mall q_156 := ⟨kd_156, ak_coh_at rt_RX11_ok _ (by decide +kernel), fun r h => by cases h; rfl⟩
set_option maxRecDepth 100000 in
theorem ma_157 : ak_mall q_157 := ⟨kd_157, ak_coh_at rt_RX8_ok _ (by decide +kernel), fun r h => by cases h; rfl⟩
set_option maxRecDepth 100000 in
theorem ma_158 : ak_mall q_158 := ⟨kd_158, ak_coh_at rt_RX8_ok _ (by decide +kernel), fun r h => by cases h; rfl⟩
set_option maxRecDepth 100000 in
theorem ma_159 : ak_mall q_159 := ⟨kd_159, ak_coh_at rt_RX11_ok _ (by decide +kernel), fun r h => by cases h; rfl⟩
set_option maxRecDepth 100000 in
theorem ma_160 : ak_mall q_160 := ⟨kd_160, ak_coh_at rt_RX7_ok _ (by decide +kernel), fun r h => by cases h; rfl⟩
set_option maxRecDepth 100000 in
theorem ma_161 : ak_mall q_161 := ⟨kd_161, ak_coh_at rt_RX11_ok _ (by decide +kernel), fun r h => by cases h; rfl⟩
set_option maxRecDepth 100000 in
theorem ma_162 : ak_mall q_162 := ⟨kd_162, ak_coh_at rt_RX11_ok _ (by decide +kernel), fun r h => by cases h; rfl⟩
set_option maxRecDepth 100000 in
theorem ma_163 : ak_mall q_163 := ⟨kd_163, ak_coh_at rt_RX11_ok _ (by decide +kernel), fun r h => by cases h; rfl⟩
set_option maxRecDepth 100000 in
theorem ma_164 : ak_mall q_164 := ⟨kd_164, ak_coh_at rt_RX11_ok _ (by decide +kernel), fun r h => by cases h; rfl⟩
set_option maxRecDepth 100000 in
theorem ma_165 : ak_mall q_165 := ⟨kd_165, ak_coh_at rt_RX6_ok _ (by decide +kernel), fun r h => by cases h; rfl⟩
set_option maxRecDepth 100000 in
theorem ma_166 : ak_mall q_166 := ⟨kd_166, ak_coh_at rt_RX12_ok _ (by decide +kernel), fun r h => by cases h; rfl⟩
set_option maxRecDepth 100000 in
theorem ma_167 : ak_mall q_167 := ⟨kd_167, ak_coh_at rt_RX12_ok _ (by decide +kernel), fun r h => by cases h; rfl⟩
set_option maxRecDepth 100000 in
theorem ma_168 : ak_mall q_168 := ⟨kd_168, ak_coh_at rt_RX12_ok _ (by decide +kernel), fun r h => by cases h; rfl⟩
set_option maxRecDepth 100000 in
theorem ma_169 : ak_mall q_169 := ⟨kd_169, ak_coh_at rt_RX12_ok _ (by decide +kernel), fun r h => by cases h; rfl⟩
set_option maxRecDepth 100000 in
theorem ma_170 : ak_mall q_170 := ⟨kd_170, ak_coh_at rt_RX12_ok _ (by decide +kernel), fun r h => by cases h; rfl⟩
set_option maxRecDepth 100000 in
theorem ma_171 : ak_mall q_171 := ⟨kd_171, ak_coh_at rt_RX12_ok _ (by decide +kernel), fun r h => by cases h; rfl⟩
set_option maxRecDepth 100000 in
theorem ma_172 : ak_mall q_172 := ⟨kd_172, ak_coh_at rt_RX12_ok _ (by decide +kernel), fun r h => by cases h; rfl⟩
set_option maxRecDepth 100000 in
theorem ma_173 : ak_mall q_173 := ⟨kd_173, ak_coh_at rt_RX12_ok _ (by decide +kernel), fun r h => by cases h; rfl⟩
set_option maxRecDepth 100000 in
theorem ma_174 : ak_mall q_174 := ⟨kd_174, ak_coh_at rt_RX12_ok _ (by decide +kernel), fun r h => by cases h; rfl⟩
set_option maxRecDepth 100000 in
theorem ma_175 : ak_mall q_175 := ⟨kd_175, ak_coh_at rt_RX12_ok _ (by decide +kernel), fun r h => by cases h; rfl⟩
set_option maxRecDepth 100000 in
theorem ma_176 : ak_mall q_176 := ⟨kd_176, ak_coh_at rt_RX12_ok _ (by decide +kernel), fun r h => by cases h; rfl⟩
set_option maxRecDepth 100000 in
theorem ma_177 : ak_mall q_177 := ⟨kd_177, ak_coh_at rt_RX12_ok _ (by decide +kernel), fun r h => by cases h; rfl⟩
set_option maxRecDepth 100000 in
theorem ma_178 : ak_mall q_178 := ⟨kd_178, ak_coh_at rt_RX12_ok _ (by decide +kernel), fun r h => by cases h; rfl⟩
set_option maxRecDepth 100000 in
theorem ma_179 : ak_mall q_179 := ⟨kd_179, ak_coh_at rt_RX12_ok _ (by decide +kernel), fun r h => by cases h; rfl⟩
set_option maxRecDepth 100000 in
theorem ma_180 : ak_mall q_180 := ⟨kd_180, ak_coh_at rt_RX12_ok _ (by decide +kernel), fun r h => by cases h; rfl⟩
set_option maxRecDepth 100000 in
theorem ma_181 : ak_mall q_181 := ⟨kd_181, ak_coh_at rt_RX12_ok _ (by decide +kernel), fun r h => by cases h; rfl⟩
set_option maxRecDepth 100000 in
theorem ma_182 : ak_mall q_182 := ⟨kd_182, ak_coh_at rt_RX12_ok _ (by decide +kernel), fun r h => by cases h; rfl⟩
set_option maxRecDepth 100000 in
theorem ma_183 : ak_mall q_183 := ⟨kd_183, ak_coh_at rt_RX12_ok _ (by decide +kernel), fun r h => by cases h; rfl⟩
set_option maxRecDepth 100000 in
theorem ma_184 : ak_mall q_184 := ⟨kd_184, ak_coh_at rt_RX12_ok _ (by decide +kernel), fun r h => by cases h; rfl⟩
set_option maxRecDepth 100000 in
theorem ma_185 : ak_mall q_185 := ⟨kd_185, ak_coh_at rt_RX12_ok _ (by decide +kernel), fun r h => by cases h; rfl⟩
set_option maxRecDepth 100000 in
theorem ma_186 : ak_mall q_186 := ⟨kd_186, ak_coh_at rt_RX12_ok _ (by decide +kernel), fun r h => by cases h; rfl⟩
set_option maxRecDepth 100000 in
theorem ma_187 : ak_mall q_187 := ⟨kd_187, ak_coh_at rt_RX12_ok _ (by decide +kernel), fun r h => by cases h; rfl⟩
set_option maxRecDepth 100000 in
theorem ma_188 : ak_mall q_188 := ⟨kd_188, ak_coh_at rt_RX12_ok _ (by decide +kernel), fun r h => by cases h; rfl⟩
set_option maxRecDepth 100000 in
theorem ma_189 : ak_mall q_189 := ⟨kd_189, ak_coh_at rt_RX12_ok _ (by decide +kernel), fun r h => by cases h; rfl⟩
set_option maxRecDepth 100000 in
theorem ma_190 : ak_mall q_190 := ⟨kd_190, ak_coh_at rt_RX12_ok _ (by decide +kernel), fun r h => by cases h; rfl⟩
set_option maxRecDepth 100000 in
theorem ma_191 : ak_mall q_191 := ⟨kd_191, ak_coh_at rt_RX12_ok _ (by decide +kernel), fun r h => by cases h; rfl⟩
set_option maxRecDepth 100000 in
theorem ma_192 : ak_mall q_192 := ⟨kd_192, ak_coh_at rt_RX12_ok _ (by decide +kernel), fun r h => by cases h; rfl⟩
set_option maxRecDepth 100000 in
theorem ma_193 : ak_mall q_193 := ⟨kd_193, ak_coh_at rt_RX12_ok _ (by decide +kernel), fun r h => by cases h; rfl⟩
set_option maxRecDepth 100000 in
theorem ma_194 : ak_mall q_194 := ⟨kd_194, ak_coh_at rt_RX12_ok _ (by decide +kernel), fun r h => by cases h; rfl⟩
set_option maxRecDepth 100000 in
theorem ma_195 : ak_mall q_195 := ⟨kd_195, ak_coh_at rt_RX12_ok _ (by decide +kernel), fun r h => by cases h; rfl⟩
set_option maxRecDepth 100000 in
theorem ma_196 : ak_mall q_196 := ⟨kd_196, ak_coh_at rt_RX12_ok _ (by decide +kernel), fun r h => by cases h; rfl⟩
set_option maxRecDepth 100000 in
theorem ma_197 : ak_mall q_197 := ⟨kd_197, ak_coh_at rt_RX12_ok _ (by decide +kernel), fun r h => by cases h; rfl⟩
set_option maxRecDepth 100000 in
theorem ma_198 : ak_mall q_198 := ⟨kd_198, ak_coh_at rt_RX12_ok _ (by decide +kernel), fun r h => by cases h; rfl⟩
set_option maxRecDepth 100000 in
theorem ma_199 : ak_mall q_199 := ⟨kd_199, ak_coh_at rt_RX12_ok _ (by decide +kernel), fun r h => by cases h; rfl⟩
set_option maxRecDepth 100000 in
theorem ma_200 : ak_mall q_200 := ⟨kd_200, ak_coh_at rt_RX12_ok _ (by decide +kernel), fun r h => by cases h; rfl⟩
set_option maxRecDepth 100000 in
theorem ma_201 : ak_mall q_201 := ⟨kd_201, ak_coh_at rt_RX12_ok _ (by decide +kernel), fun r h => by cases h; rfl⟩
set_option maxRecDepth 100000 in
theorem ma_202 : ak_mall q_202 := ⟨kd_202, ak_coh_at rt_RX12_ok _ (by decide +kernel), fun r h => by cases h; rfl⟩
set_option maxRecDepth 100000 in
theorem ma_203 : ak_mall q_203 := ⟨kd_203, ak_coh_at rt_RX12_ok _ (by decide +kernel), fun r h => by cases h; rfl⟩
set_option maxRecDepth 100000 in
theorem ma_204 : ak_mall q_204 := ⟨kd_204, ak_coh_at rt_RX12_ok _ (by decide +kernel), fun r h => by cases h; rfl⟩
set_option maxRecDepth 100000 in
theorem ma_205 : ak_mall q_205 := ⟨kd_205, ak_coh_at rt_RX12_ok _ (by decide +kernel), fun r h => by cases h; rfl⟩
set_option maxRecDepth 100000 in
theorem ma_206 : ak_mall q_206 := ⟨kd_206, ak_coh_at rt_RX12_ok _ (by decide +kernel), fun r h => by cases h; rfl⟩
set_option maxRecDepth 100000 in
theorem ma_207 : ak_mall q_207 := ⟨kd_207, ak_coh_at rt_RX12_ok _ (by decide +kernel), fun r h => by cases h; rfl⟩
set_option maxRecDepth 100000 in
theorem ma_208 : ak_mall q_208 := ⟨kd_208, ak_coh_at rt_RX12_ok _ (by decide +kernel), fun r h => by cases h; rfl⟩
set_option maxRecDepth 100000 in
theorem ma_209 : ak_mall q_209 := ⟨kd_209, ak_coh_at rt_RX12_ok _ (by decide +kernel), fun r h => by cases h; rfl⟩
set_option maxRecDepth 100000 in
theorem ma_210 : ak_mall q_210 := ⟨kd_210, ak_coh_at rt_RX12_ok _ (by decide +kernel), fun r h => by cases h; rfl⟩
set_option maxRecDepth 100000 in
theorem ma_211 : ak_mall q_211 := ⟨kd_211, ak_coh_at rt_RX12_ok _ (by decide +kernel), fun r h => by cases h; rfl⟩
set_option maxRecDepth 100000 in
theorem ma_212 : ak_mall q_212 := ⟨kd_212, ak_coh_at rt_RX12_ok _ (by decide +kernel), fun r h => by cases h; rfl⟩
set_option maxRecDepth 100000 in
theorem ma_213 : ak_mall q_213 := ⟨kd_213, ak_coh_at rt_RX12_ok _ (by decide +kernel), fun r h => by cases h; rfl⟩
set_option maxRecDepth 100000 in
theorem ma_214 : ak_mall q_214 := ⟨kd_214, ak_coh_at rt_RX12_ok _ (by decide +kernel), fun r h => by cases h; rfl⟩
set_option maxRecDepth 100000 in
theorem ma_215 : ak_mall q_215 := ⟨kd_215, ak_coh_at rt_RX12_ok _ (by decide +kernel), fun r h => by cases h; rfl⟩
set_option maxRecDepth 100000 in
theorem ma_216 : ak_mall q_216 := ⟨kd_216, ak_coh_at rt_RX12_ok _ (by decide +kernel), fun r h => by cases h; rfl⟩
set_option maxRecDepth 100000 in
theorem ma_217 : ak_mall q_217 := ⟨kd_217, ak_coh_at rt_RX12_ok _ (by decide +kernel), fun r h => by cases h; rfl⟩
set_option maxRecDepth 100000 in
theorem ma_218 : ak_mall q_218 := ⟨kd_218, ak_coh_at rt_RX12_ok _ (by decide +kernel), fun r h => by cases h; rfl⟩
set_option maxRecDepth 100000 in
theorem ma_219 : ak_mall q_219 := ⟨kd_219, ak_coh_at rt_RX12_ok _ (by decide +kernel), fun r h => by cases h; rfl⟩
set_option maxRecDepth 100000 in
theorem ma_220 : ak_mall q_220 := ⟨kd_220, ak_coh_at rt_RX12_ok _ (by decide +kernel), fun r h => by cases h; rfl⟩
set_option maxRecDepth 100000 in
theorem ma_221 : ak_mall q_221 := ⟨kd_221, ak_coh_at rt_RX12_ok _ (by decide +kernel), fun r h => by cases h; rfl⟩
set_option maxRecDepth 100000 in
theorem ma_222 : ak_mall q_222 := ⟨kd_222, ak_coh_at rt_RX12_ok _ (by decide +kernel), fun r h => by cases h; rfl⟩
set_option maxRecDepth 100000 in
theorem ma_223 : ak_mall q_223 := ⟨kd_223, ak_coh_at rt_RX12_ok _ (by decide +kernel), fun r h => by cases h; rfl⟩
set_option maxRecDepth 100000 in
theorem ma_224 : ak_mall q_224 := ⟨kd_224, ak_coh_at rt_RX12_ok _ (by decide +kernel), fun r h => by cases h; rfl⟩
set_option maxRecDepth 100000 in
theorem ma_225 : ak_mall q_225 := ⟨kd_225, ak_coh_at rt_RX12_ok _ (by decide +kernel), fun r h => by cases h; rfl⟩
set_option maxRecDepth 100000 in
theorem ma_226 : ak_mall q_226 := ⟨kd_226, ak_coh_at rt_RX12_ok _ (by decide +kernel), fun r h => by cases h; rfl⟩
set_option maxRecDepth 100000 in
theorem ma_227 : ak_mall q_227 := ⟨kd_227, ak_coh_at rt_RX12_ok _ (by decide +kernel), fun r h => by cases h; rfl⟩
set_option maxRecDepth 100000 in
theorem ma_228 : ak_mall q_228 := ⟨kd_228, ak_coh_at rt_RX12_ok _ (by decide +kernel), fun r h => by cases h; rfl⟩
set_option maxRecDepth 100000 in
theorem ma_229 : ak_mall q_229 := ⟨kd_229, ak_coh_at rt_RX12_ok _ (by decide +kernel), fun r h => by cases h; rfl⟩
set_option maxRecDepth 100000 in
theorem ma_230 : ak_mall q_230 := ⟨kd_230, ak_coh_at rt_RX12_ok _ (by decide +kernel), fun r h => by cases h; rfl⟩
set_option maxRecDepth 100000 in
theorem ma_231 : ak_mall q_231 := ⟨kd_231, ak_coh_at rt_RX12_ok _ (by decide +kernel), fun r h => by cases h; rfl⟩
set_option maxRecDepth 100000 in
theorem ma_232 : ak_mall q_232 := ⟨kd_232, ak_coh_at rt_RX12_ok _ (by decide +kernel), fun r h => by cases h; rfl⟩
set_option maxRecDepth 100000 in
theorem ma_233 : ak_mall q_233 := ⟨kd_233, ak_coh_at rt_RX12_ok _ (by decide +kernel), fun r h => by cases h; rfl⟩
set_option maxRecDepth 100000 in
theorem ma_234 : ak_mall q_234 := ⟨kd_234, ak_coh_at rt_RX12_ok _ (by decide +kernel), fun r h => by cases h; rfl⟩
set_option maxRecDepth 100000 in
theorem ma_235 : ak_mall q_235 := ⟨kd_235, ak_coh_at rt_RX12_ok _ (by decide +kernel), fun r h => by cases h; rfl⟩
set_option maxRecDepth 100000 in
theorem ma_236 : ak_mall q_236 := ⟨kd_236, ak_coh_at rt_RX12_ok _ (by decide +kernel), fun r h => by cases h; rfl⟩
set_option maxRecDepth 100000 in
theorem ma_237 : ak_mall q_237 := ⟨kd_237, ak_coh_at rt_RX12_ok _ (by decide +kernel), fun r h => by cases h; rfl⟩
set_option maxRecDepth 100000 in
theorem ma_238 : ak_mall q_238 := ⟨kd_238, ak_coh_at rt_RX12_ok _ (by decide +kernel), fun r h => by cases h; rfl⟩
set_option maxRecDepth 100000 in
theorem ma_239 : ak_mall q_239 := ⟨kd_239, ak_coh_at rt_RX12_ok _ (by decide +kernel), fun r h => by cases h; rfl⟩
set_option maxRecDepth 100000 in
theorem ma_240 : ak_mall q_240 := ⟨kd_240, ak_coh_at rt_RX12_ok _ (by decide +kernel), fun r h => by cases h; rfl⟩
set_option maxRecDepth 100000 in
theorem ma_241 : ak_mall q_241 := ⟨kd_241, ak_coh_at rt_RX12_ok _ (by decide +kernel), fun r h => by cases h; rfl⟩
set_option maxRecDepth 100000 in
theorem ma_242 : ak_mall q_242 := ⟨kd_242, ak_coh_at rt_RX12_ok _ (by decide +kernel), fun r h => by cases h; rfl⟩
set_option maxRecDepth 100000 in
theorem ma_243 : ak_mall q_243 := ⟨kd_243, ak_coh_at rt_RX12_ok _ (by decide +kernel), fun r h => by cases h; rfl⟩
set_option maxRecDepth 100000 in
theorem ma_244 : ak_mall q_244 := ⟨kd_244, ak_coh_at rt_RX12_ok _ (by decide +kernel), fun r h => by cases h; rfl⟩
set_option maxRecDepth 100000 in
theorem ma_245 : ak_mall q_245 := ⟨kd_245, ak_coh_at rt_RL_ok _ (by decide +kernel), fun r h => by cases h⟩
set_option maxRecDepth 100000 in
theorem ak_all : ∀ q ∈ ak_M, ak_mall q := List.forall_mem_cons.mpr ⟨ma_0, List.forall_mem_cons.mpr ⟨ma_1, List.forall_mem_cons.mpr ⟨ma_2, List.forall_mem_cons.mpr ⟨ma_3, List.forall_mem_cons.mpr ⟨ma_4, List.forall_mem_cons.mpr ⟨ma_5, List.forall_mem_cons.mpr ⟨ma_6, List.forall_mem_cons.mpr ⟨ma_7, List.forall_mem_cons.mpr ⟨ma_8, List.forall_mem_cons.mpr ⟨ma_9, List.forall_mem_cons.mpr ⟨ma_10, List.forall_mem_cons.mpr ⟨ma_11, List.forall_mem_cons.mpr ⟨ma_12, List.forall_mem_cons.mpr ⟨ma_13, List.forall_mem_cons.mpr ⟨ma_14, List.forall_mem_cons.mpr ⟨ma_15, List.forall_mem_cons.mpr ⟨ma_16, List.forall_mem_cons.mpr ⟨ma_17, List.forall_mem_cons.mpr ⟨ma_18, List.forall_mem_cons.mpr ⟨ma_19, List.forall_mem_cons.mpr ⟨ma_20, List.forall_mem_cons.mpr ⟨ma_21, List.forall_mem_cons.mpr ⟨ma_22, List.forall_mem_cons.mpr ⟨ma_23, List.forall_mem_cons.mpr ⟨ma_24, List.forall_mem_cons.mpr ⟨ma_25, List.forall_mem_cons.mpr ⟨ma_26, List.forall_mem_cons.mpr ⟨ma_27, List.forall_mem_cons.mpr ⟨ma_28, List.forall_mem_cons.mpr ⟨ma_29, List.forall_mem_cons.mpr ⟨ma_30, List.forall_mem_cons.mpr ⟨ma_31, List.forall_mem_cons.mpr ⟨ma_32, List.forall_mem_cons.mpr ⟨ma_33, List.forall_mem_cons.mpr ⟨ma_34, List.forall_mem_cons.mpr ⟨ma_35, List.forall_mem_cons.mpr ⟨ma_36, List.forall_mem_cons.mpr ⟨ma_37, List.forall_mem_cons.mpr ⟨ma_38, List.forall_mem_cons.mpr ⟨ma_39, List.forall_mem_cons.mpr ⟨ma_40, List.forall_mem_cons.mpr ⟨ma_41, List.forall_mem_cons.mpr ⟨ma_42, List.forall_mem_cons.mpr ⟨ma_43, List.forall_mem_cons.mpr ⟨ma_44, List.forall_mem_cons.mpr ⟨ma_45, List.forall_mem_cons.mpr ⟨ma_46, List.forall_mem_cons.mpr ⟨ma_47, List.forall_mem_cons.mpr ⟨ma_48, List.forall_mem_cons.mpr ⟨ma_49, List.forall_mem_cons.mpr ⟨ma_50, List.forall_mem_cons.mpr ⟨ma_51, List.forall_mem_cons.mpr ⟨ma_52, List.forall_mem_cons.mpr ⟨ma_53, List.forall_mem_cons.mpr ⟨ma_54, List.forall_mem_cons.mpr ⟨ma_55, List.forall_mem_cons.mpr ⟨ma_56, List.forall_mem_cons.mpr ⟨ma_57, List.forall_mem_cons.mpr ⟨ma_58, List.forall_mem_cons.mpr ⟨ma_59, List.forall_mem_cons.mpr ⟨ma_60, List.forall_mem_cons.mpr ⟨ma_61, List.forall_mem_cons.mpr ⟨ma_62, List.forall_mem_cons.mpr ⟨ma_63, List.forall_mem_cons.mpr ⟨ma_64, List.forall_mem_cons.mpr ⟨ma_65, List.forall_mem_cons.mpr ⟨ma_66, List.forall_mem_cons.mpr ⟨ma_67, List.forall_mem_cons.mpr ⟨ma_68, List.forall_mem_cons.mpr ⟨ma_69, List.forall_mem_cons.mpr ⟨ma_70, List.forall_mem_cons.mpr ⟨ma_71, List.forall_mem_cons.mpr ⟨ma_72, List.forall_mem_cons.mpr ⟨ma_73, List.forall_mem_cons.mpr ⟨ma_74, List.forall_mem_cons.mpr ⟨ma_75, List.forall_mem_cons.mpr ⟨ma_76, List.forall_mem_cons.mpr ⟨ma_77, List.forall_mem_cons.mpr ⟨ma_78, List.forall_mem_cons.mpr ⟨ma_79, List.forall_mem_cons.mpr ⟨ma_80, List.forall_mem_cons.mpr ⟨ma_81, List.forall_mem_cons.mpr ⟨ma_82, List.forall_mem_cons.mpr ⟨ma_83, List.forall_mem_cons.mpr ⟨ma_84, List.forall_mem_cons.mpr ⟨ma_85, List.forall_mem_cons.mpr ⟨ma_86, List.forall_mem_cons.mpr ⟨ma_87, List.forall_mem_cons.mpr ⟨ma_88, List.forall_mem_cons.mpr ⟨ma_89, List.forall_mem_cons.mpr ⟨ma_90, List.forall_mem_cons.mpr ⟨ma_91, List.forall_mem_cons.mpr ⟨ma_92, List.forall_mem_cons.mpr ⟨ma_93, List.forall_mem_cons.mpr ⟨ma_94, List.forall_mem_cons.mpr ⟨ma_95, List.forall_mem_cons.mpr ⟨ma_96, List.forall_mem_cons.mpr ⟨ma_97, List.forall_mem_cons.mpr ⟨ma_98, List.forall_mem_cons.mpr ⟨ma_99, List.forall_mem_cons.mpr ⟨ma_100, List.forall_mem_cons.mpr ⟨ma_101, List.forall_mem_cons.mpr ⟨ma_102, List.forall_mem_cons.mpr ⟨ma_103, List.forall_mem_cons.mpr ⟨ma_104, List.forall_mem_cons.mpr ⟨ma_105, List.forall_mem_cons.mpr ⟨ma_106, List.forall_mem_cons.mpr ⟨ma_107, List.forall_mem_cons.mpr ⟨ma_108, List.forall_mem_cons.mpr ⟨ma_109, List.forall_mem_cons.mpr ⟨ma_110, List.forall_mem_cons.mpr ⟨ma_111, List.forall_mem_cons.mpr ⟨ma_112, List.forall_mem_cons.mpr ⟨ma_113, List.forall_mem_cons.mpr ⟨ma_114, List.forall_mem_cons.mpr ⟨ma_115, List.forall_mem_cons.mpr ⟨ma_116, List.forall_mem_cons.mpr ⟨ma_117, List.forall_mem_cons.mpr ⟨ma_118, List.forall_mem_cons.mpr ⟨ma_119, List.forall_mem_cons.mpr ⟨ma_120, List.forall_mem_cons.mpr ⟨ma_121, List.forall_mem_cons.mpr ⟨ma_122, List.forall_mem_cons.mpr ⟨ma_123, List.forall_mem_cons.mpr ⟨ma_124, List.forall_mem_cons.mpr ⟨ma_125, List.forall_mem_cons.mpr ⟨ma_126, List.forall_mem_cons.mpr ⟨ma_127, List.forall_mem_cons.mpr ⟨ma_128, List.forall_mem_cons.mpr ⟨ma_129, List.forall_mem_cons.mpr ⟨ma_130, List.forall_mem_cons.mpr ⟨ma_131, List.forall_mem_cons.mpr ⟨ma_132, List.forall_mem_cons.mpr ⟨ma_133, List.forall_mem_cons.mpr ⟨ma_134, List.forall_mem_cons.mpr ⟨ma_135, List.forall_mem_cons.mpr ⟨ma_136, List.forall_mem_cons.mpr ⟨ma_137, List.forall_mem_cons.mpr ⟨ma_138, List.forall_mem_cons.mpr ⟨ma_139, List.forall_mem_cons.mpr ⟨ma_140, List.forall_mem_cons.mpr ⟨ma_141, List.forall_mem_cons.mpr ⟨ma_142, List.forall_mem_cons.mpr ⟨ma_143, List.forall_mem_cons.mpr ⟨ma_144, List.forall_mem_cons.mpr ⟨ma_145, List.forall_mem_cons.mpr ⟨ma_146, List.forall_mem_cons.mpr ⟨ma_147, List.forall_mem_cons.mpr ⟨ma_148, List.forall_mem_cons.mpr ⟨ma_149, List.forall_mem_cons.mpr ⟨ma_150, List.forall_mem_cons.mpr ⟨ma_151, List.forall_mem_cons.mpr ⟨ma_152, List.forall_mem_cons.mpr ⟨ma_153, List.forall_mem_cons.mpr ⟨ma_154, List.forall_mem_cons.mpr ⟨ma_155, List.forall_mem_cons.mpr ⟨ma_156, List.forall_mem_cons.mpr ⟨ma_157, List.forall_mem_cons.mpr ⟨ma_158, List.forall_mem_cons.mpr ⟨ma_159, List.forall_mem_cons.mpr ⟨ma_160, List.forall_mem_cons.mpr ⟨ma_161, List.forall_mem_cons.mpr ⟨ma_162, List.forall_mem_cons.mpr ⟨ma_163, List.forall_mem_cons.mpr ⟨ma_164, List.forall_mem_cons.mpr ⟨ma_165, List.forall_mem_cons.mpr ⟨ma_166, List.forall_mem_cons.mpr ⟨ma_167, List.forall_mem_cons.mpr ⟨ma_168, List.forall_mem_cons.mpr ⟨ma_169, List.forall_mem_cons.mpr ⟨ma_170, List.forall_mem_cons.mpr ⟨ma_171, List.forall_mem_cons.mpr ⟨ma_172, List.forall_mem_cons.mpr ⟨ma_173, List.forall_mem_cons.mpr ⟨ma_174, List.forall_mem_cons.mpr ⟨ma_175, List.forall_mem_cons.mpr ⟨ma_176, List.forall_mem_cons.mpr ⟨ma_177, List.forall_mem_cons.mpr ⟨ma_178, List.forall_mem_cons.mpr ⟨ma_179, List.forall_mem_cons.mpr ⟨ma_180, List.forall_mem_cons.mpr ⟨ma_181, List.forall_mem_cons.mpr ⟨ma_182, List.forall_mem_cons.mpr ⟨ma_183, List.forall_mem_cons.mpr ⟨ma_184, List.forall_mem_cons.mpr ⟨ma_185, List.forall_mem_cons.mpr ⟨ma_186, List.forall_mem_cons.mpr ⟨ma_187, List.forall_mem_cons.mpr ⟨ma_188, List.forall_mem_cons.mpr ⟨ma_189, List.forall_mem_cons.mpr ⟨ma_190, List.forall_mem_cons.mpr ⟨ma_191, List.forall_mem_cons.mpr ⟨ma_192, List.forall_mem_cons.mpr ⟨ma_193, List.forall_mem_cons.mpr ⟨ma_194, List.forall_mem_cons.mpr ⟨ma_195, List.forall_mem_cons.mpr ⟨ma_196, List.forall_mem_cons.mpr ⟨ma_197, List.forall_mem_cons.mpr ⟨ma_198, List.forall_mem_cons.mpr ⟨ma_199, List.forall_mem_cons.mpr ⟨ma_200, List.forall_mem_cons.mpr ⟨ma_201, List.forall_mem_cons.mpr ⟨ma_202, List.forall_mem_cons.mpr ⟨ma_203, List.forall_mem_cons.mpr ⟨ma_204, List.forall_mem_cons.mpr ⟨ma_205, List.forall_mem_cons.mpr ⟨ma_206, List.forall_mem_cons.mpr ⟨ma_207, List.forall_mem_cons.mpr ⟨ma_208, List.forall_mem_cons.mpr ⟨ma_209, List.forall_mem_cons.mpr ⟨ma_210, List.forall_mem_cons.mpr ⟨ma_211, List.forall_mem_cons.mpr ⟨ma_212, List.forall_mem_cons.mpr ⟨ma_213, List.forall_mem_cons.mpr ⟨ma_214, List.forall_mem_cons.mpr ⟨ma_215, List.forall_mem_cons.mpr ⟨ma_216, List.forall_mem_cons.mpr ⟨ma_217, List.forall_mem_cons.mpr ⟨ma_218, List.forall_mem_cons.mpr ⟨ma_219, List.forall_mem_cons.mpr ⟨ma_220, List.forall_mem_cons.mpr ⟨ma_221, List.forall_mem_cons.mpr ⟨ma_222, List.forall_mem_cons.mpr ⟨ma_223, List.forall_mem_cons.mpr ⟨ma_224, List.forall_mem_cons.mpr ⟨ma_225, List.forall_mem_cons.mpr ⟨ma_226, List.forall_mem_cons.mpr ⟨ma_227, List.forall_mem_cons.mpr ⟨ma_228, List.forall_mem_cons.mpr ⟨ma_229, List.forall_mem_cons.mpr ⟨ma_230, List.forall_mem_cons.mpr ⟨ma_231, List.forall_mem_cons.mpr ⟨ma_232, List.forall_mem_cons.mpr ⟨ma_233, List.forall_mem_cons.mpr ⟨ma_234, List.forall_mem_cons.mpr ⟨ma_235, List.forall_mem_cons.mpr ⟨ma_236, List.forall_mem_cons.mpr ⟨ma_237, List.forall_mem_cons.mpr ⟨ma_238, List.forall_mem_cons.mpr ⟨ma_239, List.forall_mem_cons.mpr ⟨ma_240, List.forall_mem_cons.mpr ⟨ma_241, List.forall_mem_cons.mpr ⟨ma_242, List.forall_mem_cons.mpr ⟨ma_243, List.forall_mem_cons.mpr ⟨ma_244, List.forall_mem_cons.mpr ⟨ma_245, List.forall_mem_nil _⟩⟩⟩⟩⟩⟩⟩⟩⟩⟩⟩⟩⟩⟩⟩⟩⟩⟩⟩⟩⟩⟩⟩⟩⟩⟩⟩⟩⟩⟩⟩⟩⟩⟩⟩⟩⟩⟩⟩⟩⟩⟩⟩⟩⟩⟩⟩⟩⟩⟩⟩⟩⟩⟩⟩⟩⟩⟩⟩⟩⟩⟩⟩⟩⟩⟩⟩⟩⟩⟩⟩⟩⟩⟩⟩⟩⟩⟩⟩⟩⟩⟩⟩⟩⟩⟩⟩⟩⟩⟩⟩⟩⟩⟩⟩⟩⟩⟩⟩⟩⟩⟩⟩⟩⟩⟩⟩⟩⟩⟩⟩⟩⟩⟩⟩⟩⟩⟩⟩⟩⟩⟩⟩⟩⟩⟩⟩⟩⟩⟩⟩⟩⟩⟩⟩⟩⟩⟩⟩⟩⟩⟩⟩⟩⟩⟩⟩⟩⟩⟩⟩⟩⟩⟩⟩⟩⟩⟩⟩⟩⟩⟩⟩⟩⟩⟩⟩⟩⟩⟩⟩⟩⟩⟩⟩⟩⟩⟩⟩⟩⟩⟩⟩⟩⟩⟩⟩⟩⟩⟩⟩⟩⟩⟩⟩⟩⟩⟩⟩⟩⟩⟩⟩⟩⟩⟩⟩⟩⟩⟩⟩⟩⟩⟩⟩⟩⟩⟩⟩⟩⟩⟩⟩⟩⟩⟩⟩⟩⟩⟩⟩⟩⟩⟩⟩⟩⟩⟩⟩⟩⟩⟩⟩⟩⟩⟩
