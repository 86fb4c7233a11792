/-! each method's table is what its bytes say -/
set_option maxRecDepth 100000 in
theorem kd_0 : ak_chk cX11_init 0 k_0 = true := by decide +kernel
set_option maxRecDepth 100000 in
theorem kd_1 : ak_chk cX8_init 0 k_1 = true := by decide +kernel
set_option maxRecDepth 100000 in
theorem kd_2 : ak_chk cX6_init 0 k_2 = true := by decide +kernel
set_option maxRecDepth 100000 in
theorem kd_3 : ak_chk cX3_init 0 k_3 = true := by decide +kernel
set_option maxRecDepth 100000 in
theorem kd_4 : ak_chk cX4_init 0 k_4 = true := by decide +kernel
set_option maxRecDepth 100000 in
theorem kd_5 : ak_chk cX9_init 0 k_5 = true := by decide +kernel
set_option maxRecDepth 100000 in
theorem kd_6 : ak_chk cX2_init 0 k_6 = true := by decide +kernel
set_option maxRecDepth 100000 in
theorem kd_7 : ak_chk cX1_init 0 k_7 = true := by decide +kernel
set_option maxRecDepth 100000 in
theorem kd_8 : ak_chk cX0_init 0 k_8 = true := by decide +kernel
set_option maxRecDepth 100000 in
theorem kd_9 : ak_chk cX10_init 0 k_9 = true := by decide +kernel
set_option maxRecDepth 100000 in
theorem kd_10 : ak_chk cX10_add 0 k_10 = true := by decide +kernel
set_option maxRecDepth 100000 in
theorem kd_11 : ak_chk cX10_endPart 0 k_11 = true := by decide +kernel
set_option maxRecDepth 100000 in
theorem kd_12 : ak_chk cX5_init 0 k_12 = true := by decide +kernel
set_option maxRecDepth 100000 in
theorem kd_13 : ak_chk cX7_init 0 k_13 = true := by decide +kernel
set_option maxRecDepth 100000 in
theorem kd_14 : ak_chk cX11_set 0 k_14 = true := by decide +kernel
set_option maxRecDepth 100000 in
theorem kd_15 : ak_chk cX8_has 0 k_15 = true := by decide +kernel
set_option maxRecDepth 100000 in
theorem kd_16 : ak_chk cX8_isOne 0 k_16 = true := by decide +kernel
set_option maxRecDepth 100000 in
theorem kd_17 : ak_chk cX8_fits 0 k_17 = true := by decide +kernel
set_option maxRecDepth 100000 in
theorem kd_18 : ak_chk cX8_number 0 k_18 = true := by decide +kernel
set_option maxRecDepth 100000 in
theorem kd_19 : ak_chk cX8_rowOf 0 k_19 = true := by decide +kernel
set_option maxRecDepth 100000 in
theorem kd_20 : ak_chk cX8_put 0 k_20 = true := by decide +kernel
set_option maxRecDepth 100000 in
theorem kd_21 : ak_chk cX11_clerk 0 k_21 = true := by decide +kernel
set_option maxRecDepth 100000 in
theorem kd_22 : ak_chk cX8_welcome 0 k_22 = true := by decide +kernel
set_option maxRecDepth 100000 in
theorem kd_23 : ak_chk cX8_setApart 0 k_23 = true := by decide +kernel
set_option maxRecDepth 100000 in
theorem kd_24 : ak_chk cX11_apart 0 k_24 = true := by decide +kernel
set_option maxRecDepth 100000 in
theorem kd_25 : ak_chk cX11_book 0 k_25 = true := by decide +kernel
set_option maxRecDepth 100000 in
theorem kd_26 : ak_chk cX11_isWeek 0 k_26 = true := by decide +kernel
set_option maxRecDepth 100000 in
theorem kd_27 : ak_chk cX6_canBe 0 k_27 = true := by decide +kernel
set_option maxRecDepth 100000 in
theorem kd_28 : ak_chk cX8_weeksFrom 0 k_28 = true := by decide +kernel
set_option maxRecDepth 100000 in
theorem kd_29 : ak_chk cX6_wants 0 k_29 = true := by decide +kernel
set_option maxRecDepth 100000 in
theorem kd_30 : ak_chk cX6_nameWeek 0 k_30 = true := by decide +kernel
set_option maxRecDepth 100000 in
theorem kd_31 : ak_chk cX6_nameOne 0 k_31 = true := by decide +kernel
set_option maxRecDepth 100000 in
theorem kd_32 : ak_chk cX8_wishesFor 0 k_32 = true := by decide +kernel
set_option maxRecDepth 100000 in
theorem kd_33 : ak_chk cX8_othersWishing 0 k_33 = true := by decide +kernel
set_option maxRecDepth 100000 in
theorem kd_34 : ak_chk cX6_textAt 0 k_34 = true := by decide +kernel
set_option maxRecDepth 100000 in
theorem kd_35 : ak_chk cX10_value 0 k_35 = true := by decide +kernel
set_option maxRecDepth 100000 in
theorem kd_36 : ak_chk cX10_operand 0 k_36 = true := by decide +kernel
set_option maxRecDepth 100000 in
theorem kd_37 : ak_chk cX10_turned 0 k_37 = true := by decide +kernel
set_option maxRecDepth 100000 in
theorem kd_38 : ak_chk cX10_joined 0 k_38 = true := by decide +kernel
set_option maxRecDepth 100000 in
theorem kd_39 : ak_chk cX6_kindAt 0 k_39 = true := by decide +kernel
set_option maxRecDepth 100000 in
theorem kd_40 : ak_chk cX0_wants 0 k_40 = true := by decide +kernel
set_option maxRecDepth 100000 in
theorem kd_41 : ak_chk cX1_wants 0 k_41 = true := by decide +kernel
set_option maxRecDepth 100000 in
theorem kd_42 : ak_chk cX2_wants 0 k_42 = true := by decide +kernel
set_option maxRecDepth 100000 in
theorem kd_43 : ak_chk cX9_wants 0 k_43 = true := by decide +kernel
set_option maxRecDepth 100000 in
theorem kd_44 : ak_chk cX3_isSummer 0 k_44 = true := by decide +kernel
set_option maxRecDepth 100000 in
theorem kd_45 : ak_chk cX3_wants 0 k_45 = true := by decide +kernel
set_option maxRecDepth 100000 in
theorem kd_46 : ak_chk cX11_told 0 k_46 = true := by decide +kernel
set_option maxRecDepth 100000 in
theorem kd_47 : ak_chk cX6_gladness 0 k_47 = true := by decide +kernel
set_option maxRecDepth 100000 in
theorem kd_48 : ak_chk cX6_glad 0 k_48 = true := by decide +kernel
set_option maxRecDepth 100000 in
theorem kd_49 : ak_chk cX0_glad 0 k_49 = true := by decide +kernel
set_option maxRecDepth 100000 in
theorem kd_50 : ak_chk cX1_glad 0 k_50 = true := by decide +kernel
set_option maxRecDepth 100000 in
theorem kd_51 : ak_chk cX9_glad 0 k_51 = true := by decide +kernel
set_option maxRecDepth 100000 in
theorem kd_52 : ak_chk cX2_glad 0 k_52 = true := by decide +kernel
set_option maxRecDepth 100000 in
theorem kd_53 : ak_chk cX4_glad 0 k_53 = true := by decide +kernel
set_option maxRecDepth 100000 in
theorem kd_54 : ak_chk cX3_glad 0 k_54 = true := by decide +kernel
set_option maxRecDepth 100000 in
theorem kd_55 : ak_chk cX6_earned 0 k_55 = true := by decide +kernel
set_option maxRecDepth 100000 in
theorem kd_56 : ak_chk cX0_earns 0 k_56 = true := by decide +kernel
set_option maxRecDepth 100000 in
theorem kd_57 : ak_chk cX1_earns 0 k_57 = true := by decide +kernel
set_option maxRecDepth 100000 in
theorem kd_58 : ak_chk cX4_earns 0 k_58 = true := by decide +kernel
set_option maxRecDepth 100000 in
theorem kd_59 : ak_chk cX9_earns 0 k_59 = true := by decide +kernel
set_option maxRecDepth 100000 in
theorem kd_60 : ak_chk cX3_earns 0 k_60 = true := by decide +kernel
set_option maxRecDepth 100000 in
theorem kd_61 : ak_chk cX11_toldOfWeek 0 k_61 = true := by decide +kernel
set_option maxRecDepth 100000 in
theorem kd_62 : ak_chk cX11_feed 0 k_62 = true := by decide +kernel
set_option maxRecDepth 100000 in
theorem kd_63 : ak_chk cX11_text 0 k_63 = true := by decide +kernel
set_option maxRecDepth 100000 in
theorem kd_64 : ak_chk cX10_read 0 k_64 = true := by decide +kernel
set_option maxRecDepth 100000 in
theorem kd_65 : ak_chk cX10_advance 0 k_65 = true := by decide +kernel
set_option maxRecDepth 100000 in
theorem kd_66 : ak_chk cX10_isBlank 0 k_66 = true := by decide +kernel
set_option maxRecDepth 100000 in
theorem kd_67 : ak_chk cX10_isLetter 0 k_67 = true := by decide +kernel
set_option maxRecDepth 100000 in
theorem kd_68 : ak_chk cX10_advanceOverWord 0 k_68 = true := by decide +kernel
set_option maxRecDepth 100000 in
theorem kd_69 : ak_chk cX10_key 0 k_69 = true := by decide +kernel
set_option maxRecDepth 100000 in
theorem kd_70 : ak_chk cX10_isWord 0 k_70 = true := by decide +kernel
set_option maxRecDepth 100000 in
theorem kd_71 : ak_chk cJ0_length_8abf5 0 k_71 = true := by decide +kernel
set_option maxRecDepth 100000 in
theorem kd_72 : ak_chk cJ0_coder_7d493 0 k_72 = true := by decide +kernel
set_option maxRecDepth 100000 in
theorem kd_73 : ak_chk cJ0_charAt_5068e 0 k_73 = true := by decide +kernel
set_option maxRecDepth 100000 in
theorem kd_74 : ak_chk cJ0_isLatin1_aae02 0 k_74 = true := by decide +kernel
set_option maxRecDepth 100000 in
theorem kd_75 : ak_chk cJ1_charAt_3b067 0 k_75 = true := by decide +kernel
set_option maxRecDepth 100000 in
theorem kd_76 : ak_chk cJ0_checkIndex_df160 0 k_76 = true := by decide +kernel
set_option maxRecDepth 100000 in
theorem kd_77 : ak_chk cJ3_checkIndex_8e157 0 k_77 = true := by decide +kernel
set_option maxRecDepth 100000 in
theorem kd_78 : ak_chk cJ2_charAt_3b067 0 k_78 = true := by decide +kernel
set_option maxRecDepth 100000 in
theorem kd_79 : ak_chk cJ2_checkIndex_2214a 0 k_79 = true := by decide +kernel
set_option maxRecDepth 100000 in
theorem kd_80 : ak_chk cJ2_length_9d52b 0 k_80 = true := by decide +kernel
set_option maxRecDepth 100000 in
theorem kd_81 : ak_chk cJ2_getChar_3b067 0 k_81 = true := by decide +kernel
set_option maxRecDepth 100000 in
theorem kd_82 : ak_chk cX10_name 0 k_82 = true := by decide +kernel
set_option maxRecDepth 100000 in
theorem kd_83 : ak_chk cX10_fail 0 k_83 = true := by decide +kernel
set_option maxRecDepth 100000 in
theorem kd_84 : ak_chk cX10_isNumeral 0 k_84 = true := by decide +kernel
set_option maxRecDepth 100000 in
theorem kd_85 : ak_chk cX10_advanceOverNumber 0 k_85 = true := by decide +kernel
set_option maxRecDepth 100000 in
theorem kd_86 : ak_chk cX10_isSign 0 k_86 = true := by decide +kernel
set_option maxRecDepth 100000 in
theorem kd_87 : ak_chk cX10_take 0 k_87 = true := by decide +kernel
set_option maxRecDepth 100000 in
theorem kd_88 : ak_chk cX10_readEither 0 k_88 = true := by decide +kernel
set_option maxRecDepth 100000 in
theorem kd_89 : ak_chk cX10_readBoth 0 k_89 = true := by decide +kernel
set_option maxRecDepth 100000 in
theorem kd_90 : ak_chk cX10_readNot 0 k_90 = true := by decide +kernel
set_option maxRecDepth 100000 in
theorem kd_91 : ak_chk cX10_readComparison 0 k_91 = true := by decide +kernel
set_option maxRecDepth 100000 in
theorem kd_92 : ak_chk cX10_readSum 0 k_92 = true := by decide +kernel
set_option maxRecDepth 100000 in
theorem kd_93 : ak_chk cX10_readTerm 0 k_93 = true := by decide +kernel
set_option maxRecDepth 100000 in
theorem kd_94 : ak_chk cX10_readOne 0 k_94 = true := by decide +kernel
set_option maxRecDepth 100000 in
theorem kd_95 : ak_chk cX10_addName 0 k_95 = true := by decide +kernel
set_option maxRecDepth 100000 in
theorem kd_96 : ak_chk cX10_openOne 0 k_96 = true := by decide +kernel
set_option maxRecDepth 100000 in
theorem kd_97 : ak_chk cX11_force 0 k_97 = true := by decide +kernel
set_option maxRecDepth 100000 in
theorem kd_98 : ak_chk cX11_plan 0 k_98 = true := by decide +kernel
set_option maxRecDepth 100000 in
theorem kd_99 : ak_chk cX5_look 0 k_99 = true := by decide +kernel
set_option maxRecDepth 100000 in
theorem kd_100 : ak_chk cX8_allows 0 k_100 = true := by decide +kernel
set_option maxRecDepth 100000 in
theorem kd_101 : ak_chk cJ6_bitCount_0f7a4 0 k_101 = true := by decide +kernel
set_option maxRecDepth 100000 in
theorem kd_102 : ak_chk cX5_lookAtOne 0 k_102 = true := by decide +kernel
set_option maxRecDepth 100000 in
theorem kd_103 : ak_chk cX5_gladnessOf 0 k_103 = true := by decide +kernel
set_option maxRecDepth 100000 in
theorem kd_104 : ak_chk cX5_takeBooked 0 k_104 = true := by decide +kernel
set_option maxRecDepth 100000 in
theorem kd_105 : ak_chk cX5_awayIn 0 k_105 = true := by decide +kernel
set_option maxRecDepth 100000 in
theorem kd_106 : ak_chk cX5_place 0 k_106 = true := by decide +kernel
set_option maxRecDepth 100000 in
theorem kd_107 : ak_chk cX5_holds 0 k_107 = true := by decide +kernel
set_option maxRecDepth 100000 in
theorem kd_108 : ak_chk cX5_firstWrongWeek 0 k_108 = true := by decide +kernel
set_option maxRecDepth 100000 in
theorem kd_109 : ak_chk cX5_all 0 k_109 = true := by decide +kernel
set_option maxRecDepth 100000 in
theorem kd_110 : ak_chk cX11_year 0 k_110 = true := by decide +kernel
set_option maxRecDepth 100000 in
theorem kd_111 : ak_chk cX8_pointsOfAll 0 k_111 = true := by decide +kernel
set_option maxRecDepth 100000 in
theorem kd_112 : ak_chk cX11_best 0 k_112 = true := by decide +kernel
set_option maxRecDepth 100000 in
theorem kd_113 : ak_chk cX5_search 0 k_113 = true := by decide +kernel
set_option maxRecDepth 100000 in
theorem kd_114 : ak_chk cX5_takeNone 0 k_114 = true := by decide +kernel
set_option maxRecDepth 100000 in
theorem kd_115 : ak_chk cX5_takeHopes 0 k_115 = true := by decide +kernel
set_option maxRecDepth 100000 in
theorem kd_116 : ak_chk cX5_extend 0 k_116 = true := by decide +kernel
set_option maxRecDepth 100000 in
theorem kd_117 : ak_chk cX5_keep 0 k_117 = true := by decide +kernel
set_option maxRecDepth 100000 in
theorem kd_118 : ak_chk cX5_weeksClosedTo 0 k_118 = true := by decide +kernel
set_option maxRecDepth 100000 in
theorem kd_119 : ak_chk cX5_canAdd 0 k_119 = true := by decide +kernel
set_option maxRecDepth 100000 in
theorem kd_120 : ak_chk cX5_least 0 k_120 = true := by decide +kernel
set_option maxRecDepth 100000 in
theorem kd_121 : ak_chk cX5_inDigits 0 k_121 = true := by decide +kernel
set_option maxRecDepth 100000 in
theorem kd_122 : ak_chk cX11_inTurn 0 k_122 = true := by decide +kernel
set_option maxRecDepth 100000 in
theorem kd_123 : ak_chk cX5_takeTurns 0 k_123 = true := by decide +kernel
set_option maxRecDepth 100000 in
theorem kd_124 : ak_chk cX5_nextInTurn 0 k_124 = true := by decide +kernel
set_option maxRecDepth 100000 in
theorem kd_125 : ak_chk cX5_gladdest 0 k_125 = true := by decide +kernel
set_option maxRecDepth 100000 in
theorem kd_126 : ak_chk cX5_withNone 0 k_126 = true := by decide +kernel
set_option maxRecDepth 100000 in
theorem kd_127 : ak_chk cX11_change 0 k_127 = true := by decide +kernel
set_option maxRecDepth 100000 in
theorem kd_128 : ak_chk cX5_changeTwo 0 k_128 = true := by decide +kernel
set_option maxRecDepth 100000 in
theorem kd_129 : ak_chk cX5_swap 0 k_129 = true := by decide +kernel
set_option maxRecDepth 100000 in
theorem kd_130 : ak_chk cX11_bars 0 k_130 = true := by decide +kernel
set_option maxRecDepth 100000 in
theorem kd_131 : ak_chk cX5_barring 0 k_131 = true := by decide +kernel
set_option maxRecDepth 100000 in
theorem kd_132 : ak_chk cX5_holdsWithout 0 k_132 = true := by decide +kernel
set_option maxRecDepth 100000 in
theorem kd_133 : ak_chk cX11_settle 0 k_133 = true := by decide +kernel
set_option maxRecDepth 100000 in
theorem kd_134 : ak_chk cX5_blockOf 0 k_134 = true := by decide +kernel
set_option maxRecDepth 100000 in
theorem kd_135 : ak_chk cX11_tells 0 k_135 = true := by decide +kernel
set_option maxRecDepth 100000 in
theorem kd_136 : ak_chk cX11_isSheet 0 k_136 = true := by decide +kernel
set_option maxRecDepth 100000 in
theorem kd_137 : ak_chk cX7_isMissing 0 k_137 = true := by decide +kernel
set_option maxRecDepth 100000 in
theorem kd_138 : ak_chk cX8_become 0 k_138 = true := by decide +kernel
set_option maxRecDepth 100000 in
theorem kd_139 : ak_chk cX11_firstOtherwise 0 k_139 = true := by decide +kernel
set_option maxRecDepth 100000 in
theorem kd_140 : ak_chk cX11_kindsTold 0 k_140 = true := by decide +kernel
set_option maxRecDepth 100000 in
theorem kd_141 : ak_chk cX11_numbersTold 0 k_141 = true := by decide +kernel
set_option maxRecDepth 100000 in
theorem kd_142 : ak_chk cX11_wishesTold 0 k_142 = true := by decide +kernel
set_option maxRecDepth 100000 in
theorem kd_143 : ak_chk cX11_isSoIfWished 0 k_143 = true := by decide +kernel
set_option maxRecDepth 100000 in
theorem kd_144 : ak_chk cX11_leastWishesTold 0 k_144 = true := by decide +kernel
set_option maxRecDepth 100000 in
theorem kd_145 : ak_chk cX11_textsTold 0 k_145 = true := by decide +kernel
set_option maxRecDepth 100000 in
theorem kd_146 : ak_chk cX11_film 0 k_146 = true := by decide +kernel
set_option maxRecDepth 100000 in
theorem kd_147 : ak_chk cX7_lay 0 k_147 = true := by decide +kernel
set_option maxRecDepth 100000 in
theorem kd_148 : ak_chk cX7_put 0 k_148 = true := by decide +kernel
set_option maxRecDepth 100000 in
theorem kd_149 : ak_chk cX7_reaches 0 k_149 = true := by decide +kernel
set_option maxRecDepth 100000 in
theorem kd_150 : ak_chk cX11_drawn 0 k_150 = true := by decide +kernel
set_option maxRecDepth 100000 in
theorem kd_151 : ak_chk cX11_drawWishes 0 k_151 = true := by decide +kernel
set_option maxRecDepth 100000 in
theorem kd_152 : ak_chk cX11_chance 0 k_152 = true := by decide +kernel
set_option maxRecDepth 100000 in
theorem kd_153 : ak_chk cX11_commonDivisor 0 k_153 = true := by decide +kernel
set_option maxRecDepth 100000 in
theorem kd_154 : ak_chk cX11_image 0 k_154 = true := by decide +kernel
set_option maxRecDepth 100000 in
theorem kd_155 : ak_chk cX11_back 0 k_155 = true := by decide +kernel
set_option maxRecDepth 100000 in
theorem kd_156 : ak_chk cX11_count 0 k_156 = true := by decide +kernel
set_option maxRecDepth 100000 in
theorem kd_157 : ak_chk cX8_booked 0 k_157 = true := by decide +kernel
set_option maxRecDepth 100000 in
theorem kd_158 : ak_chk cX8_twosApart 0 k_158 = true := by decide +kernel
set_option maxRecDepth 100000 in
theorem kd_159 : ak_chk cX11_sheet 0 k_159 = true := by decide +kernel
set_option maxRecDepth 100000 in
theorem kd_160 : ak_chk cX7_isSort 0 k_160 = true := by decide +kernel
set_option maxRecDepth 100000 in
theorem kd_161 : ak_chk cX11_cell 0 k_161 = true := by decide +kernel
set_option maxRecDepth 100000 in
theorem kd_162 : ak_chk cX11_copy 0 k_162 = true := by decide +kernel
set_option maxRecDepth 100000 in
theorem kd_163 : ak_chk cX11_clerks 0 k_163 = true := by decide +kernel
set_option maxRecDepth 100000 in
theorem kd_164 : ak_chk cX11_taken 0 k_164 = true := by decide +kernel
set_option maxRecDepth 100000 in
theorem kd_165 : ak_chk cX6_isKind 0 k_165 = true := by decide +kernel
set_option maxRecDepth 100000 in
theorem kd_166 : ak_chk cX12_init 0 k_166 = true := by decide +kernel
set_option maxRecDepth 100000 in
theorem kd_167 : ak_chk cX12_spell 0 k_167 = true := by decide +kernel
set_option maxRecDepth 100000 in
theorem kd_168 : ak_chk cX12_set 0 k_168 = true := by decide +kernel
set_option maxRecDepth 100000 in
theorem kd_169 : ak_chk cX12_in 0 k_169 = true := by decide +kernel
set_option maxRecDepth 100000 in
theorem kd_170 : ak_chk cX12_isOne 0 k_170 = true := by decide +kernel
set_option maxRecDepth 100000 in
theorem kd_171 : ak_chk cX12_mostOf 0 k_171 = true := by decide +kernel
set_option maxRecDepth 100000 in
theorem kd_172 : ak_chk cX12_told 0 k_172 = true := by decide +kernel
set_option maxRecDepth 100000 in
theorem kd_173 : ak_chk cX12_gladOf 0 k_173 = true := by decide +kernel
set_option maxRecDepth 100000 in
theorem kd_174 : ak_chk cX12_isWished 0 k_174 = true := by decide +kernel
set_option maxRecDepth 100000 in
theorem kd_175 : ak_chk cX12_asks 0 k_175 = true := by decide +kernel
set_option maxRecDepth 100000 in
theorem kd_176 : ak_chk cX12_read 0 k_176 = true := by decide +kernel
set_option maxRecDepth 100000 in
theorem kd_177 : ak_chk cX12_next 0 k_177 = true := by decide +kernel
set_option maxRecDepth 100000 in
theorem kd_178 : ak_chk cX12_byteAt 0 k_178 = true := by decide +kernel
set_option maxRecDepth 100000 in
theorem kd_179 : ak_chk cX12_isWord 0 k_179 = true := by decide +kernel
set_option maxRecDepth 100000 in
theorem kd_180 : ak_chk cX12_isLetter 0 k_180 = true := by decide +kernel
set_option maxRecDepth 100000 in
theorem kd_181 : ak_chk cX12_part 0 k_181 = true := by decide +kernel
set_option maxRecDepth 100000 in
theorem kd_182 : ak_chk cX12_fail 0 k_182 = true := by decide +kernel
set_option maxRecDepth 100000 in
theorem kd_183 : ak_chk cX12_either 0 k_183 = true := by decide +kernel
set_option maxRecDepth 100000 in
theorem kd_184 : ak_chk cX12_both 0 k_184 = true := by decide +kernel
set_option maxRecDepth 100000 in
theorem kd_185 : ak_chk cX12_not 0 k_185 = true := by decide +kernel
set_option maxRecDepth 100000 in
theorem kd_186 : ak_chk cX12_opens 0 k_186 = true := by decide +kernel
set_option maxRecDepth 100000 in
theorem kd_187 : ak_chk cX12_added 0 k_187 = true := by decide +kernel
set_option maxRecDepth 100000 in
theorem kd_188 : ak_chk cX12_term 0 k_188 = true := by decide +kernel
set_option maxRecDepth 100000 in
theorem kd_189 : ak_chk cX12_atom 0 k_189 = true := by decide +kernel
set_option maxRecDepth 100000 in
theorem kd_190 : ak_chk cX12_isSign 0 k_190 = true := by decide +kernel
set_option maxRecDepth 100000 in
theorem kd_191 : ak_chk cX12_name 0 k_191 = true := by decide +kernel
set_option maxRecDepth 100000 in
theorem kd_192 : ak_chk cX12_within 0 k_192 = true := by decide +kernel
set_option maxRecDepth 100000 in
theorem kd_193 : ak_chk cX12_wants 0 k_193 = true := by decide +kernel
set_option maxRecDepth 100000 in
theorem kd_194 : ak_chk cX12_hasOf 0 k_194 = true := by decide +kernel
set_option maxRecDepth 100000 in
theorem kd_195 : ak_chk cX12_weeksOf 0 k_195 = true := by decide +kernel
set_option maxRecDepth 100000 in
theorem kd_196 : ak_chk cX12_earnsOf 0 k_196 = true := by decide +kernel
set_option maxRecDepth 100000 in
theorem kd_197 : ak_chk cX12_lays 0 k_197 = true := by decide +kernel
set_option maxRecDepth 100000 in
theorem kd_198 : ak_chk cX12_clerk 0 k_198 = true := by decide +kernel
set_option maxRecDepth 100000 in
theorem kd_199 : ak_chk cX12_parts 0 k_199 = true := by decide +kernel
set_option maxRecDepth 100000 in
theorem kd_200 : ak_chk cX12_apart 0 k_200 = true := by decide +kernel
set_option maxRecDepth 100000 in
theorem kd_201 : ak_chk cX12_book 0 k_201 = true := by decide +kernel
set_option maxRecDepth 100000 in
theorem kd_202 : ak_chk cX12_isWeek 0 k_202 = true := by decide +kernel
set_option maxRecDepth 100000 in
theorem kd_203 : ak_chk cX12_canBe 0 k_203 = true := by decide +kernel
set_option maxRecDepth 100000 in
theorem kd_204 : ak_chk cX12_feed 0 k_204 = true := by decide +kernel
set_option maxRecDepth 100000 in
theorem kd_205 : ak_chk cX12_text 0 k_205 = true := by decide +kernel
set_option maxRecDepth 100000 in
theorem kd_206 : ak_chk cX12_force 0 k_206 = true := by decide +kernel
set_option maxRecDepth 100000 in
theorem kd_207 : ak_chk cX12_plan 0 k_207 = true := by decide +kernel
set_option maxRecDepth 100000 in
theorem kd_208 : ak_chk cX12_tables 0 k_208 = true := by decide +kernel
set_option maxRecDepth 100000 in
theorem kd_209 : ak_chk cX12_booked 0 k_209 = true := by decide +kernel
set_option maxRecDepth 100000 in
theorem kd_210 : ak_chk cX12_holds 0 k_210 = true := by decide +kernel
set_option maxRecDepth 100000 in
theorem kd_211 : ak_chk cX12_firstWrong 0 k_211 = true := by decide +kernel
set_option maxRecDepth 100000 in
theorem kd_212 : ak_chk cX12_isRight 0 k_212 = true := by decide +kernel
set_option maxRecDepth 100000 in
theorem kd_213 : ak_chk cX12_awayIn 0 k_213 = true := by decide +kernel
set_option maxRecDepth 100000 in
theorem kd_214 : ak_chk cX12_bitsOf 0 k_214 = true := by decide +kernel
set_option maxRecDepth 100000 in
theorem kd_215 : ak_chk cX12_allOf 0 k_215 = true := by decide +kernel
set_option maxRecDepth 100000 in
theorem kd_216 : ak_chk cX12_year 0 k_216 = true := by decide +kernel
set_option maxRecDepth 100000 in
theorem kd_217 : ak_chk cX12_best 0 k_217 = true := by decide +kernel
set_option maxRecDepth 100000 in
theorem kd_218 : ak_chk cX12_seeks 0 k_218 = true := by decide +kernel
set_option maxRecDepth 100000 in
theorem kd_219 : ak_chk cX12_leastOf 0 k_219 = true := by decide +kernel
set_option maxRecDepth 100000 in
theorem kd_220 : ak_chk cX12_digits 0 k_220 = true := by decide +kernel
set_option maxRecDepth 100000 in
theorem kd_221 : ak_chk cX12_inTurn 0 k_221 = true := by decide +kernel
set_option maxRecDepth 100000 in
theorem kd_222 : ak_chk cX12_turnsAll 0 k_222 = true := by decide +kernel
set_option maxRecDepth 100000 in
theorem kd_223 : ak_chk cX12_nextTurn 0 k_223 = true := by decide +kernel
set_option maxRecDepth 100000 in
theorem kd_224 : ak_chk cX12_takes 0 k_224 = true := by decide +kernel
set_option maxRecDepth 100000 in
theorem kd_225 : ak_chk cX12_noneMany 0 k_225 = true := by decide +kernel
set_option maxRecDepth 100000 in
theorem kd_226 : ak_chk cX12_settle 0 k_226 = true := by decide +kernel
set_option maxRecDepth 100000 in
theorem kd_227 : ak_chk cX12_change 0 k_227 = true := by decide +kernel
set_option maxRecDepth 100000 in
theorem kd_228 : ak_chk cX12_bars 0 k_228 = true := by decide +kernel
set_option maxRecDepth 100000 in
theorem kd_229 : ak_chk cX12_tells 0 k_229 = true := by decide +kernel
set_option maxRecDepth 100000 in
theorem kd_230 : ak_chk cX12_isSheet 0 k_230 = true := by decide +kernel
set_option maxRecDepth 100000 in
theorem kd_231 : ak_chk cX12_firstOther 0 k_231 = true := by decide +kernel
set_option maxRecDepth 100000 in
theorem kd_232 : ak_chk cX12_film 0 k_232 = true := by decide +kernel
set_option maxRecDepth 100000 in
theorem kd_233 : ak_chk cX12_sheet 0 k_233 = true := by decide +kernel
set_option maxRecDepth 100000 in
theorem kd_234 : ak_chk cX12_drawn 0 k_234 = true := by decide +kernel
set_option maxRecDepth 100000 in
theorem kd_235 : ak_chk cX12_draws 0 k_235 = true := by decide +kernel
set_option maxRecDepth 100000 in
theorem kd_236 : ak_chk cX12_chance 0 k_236 = true := by decide +kernel
set_option maxRecDepth 100000 in
theorem kd_237 : ak_chk cX12_image 0 k_237 = true := by decide +kernel
set_option maxRecDepth 100000 in
theorem kd_238 : ak_chk cX12_back 0 k_238 = true := by decide +kernel
set_option maxRecDepth 100000 in
theorem kd_239 : ak_chk cX12_count 0 k_239 = true := by decide +kernel
set_option maxRecDepth 100000 in
theorem kd_240 : ak_chk cX12_cell 0 k_240 = true := by decide +kernel
set_option maxRecDepth 100000 in
theorem kd_241 : ak_chk cX12_copy 0 k_241 = true := by decide +kernel
set_option maxRecDepth 100000 in
theorem kd_242 : ak_chk cX12_clerks 0 k_242 = true := by decide +kernel
set_option maxRecDepth 100000 in
theorem kd_243 : ak_chk cX12_taken 0 k_243 = true := by decide +kernel
set_option maxRecDepth 100000 in
theorem kd_244 : ak_chk cX12_over 0 k_244 = true := by decide +kernel
set_option maxRecDepth 100000 in
theorem kd_245_0 : ak_chk cL_law 0 k_245_0 = true := by decide +kernel
set_option maxRecDepth 100000 in
theorem kd_245_1 : ak_chk cL_law 100 k_245_1 = true := by decide +kernel
set_option maxRecDepth 100000 in
theorem kd_245_2 : ak_chk cL_law 200 k_245_2 = true := by decide +kernel
set_option maxRecDepth 100000 in
theorem kd_245_3 : ak_chk cL_law 300 k_245_3 = true := by decide +kernel
set_option maxRecDepth 100000 in
theorem kd_245_4 : ak_chk cL_law 400 k_245_4 = true := by decide +kernel
set_option maxRecDepth 100000 in
theorem kd_245_5 : ak_chk cL_law 500 k_245_5 = true := by decide +kernel
set_option maxRecDepth 100000 in
theorem kd_245_6 : ak_chk cL_law 600 k_245_6 = true := by decide +kernel
set_option maxRecDepth 100000 in
theorem kd_245_7 : ak_chk cL_law 700 k_245_7 = true := by decide +kernel
set_option maxRecDepth 100000 in
theorem kd_245_8 : ak_chk cL_law 800 k_245_8 = true := by decide +kernel
set_option maxRecDepth 100000 in
theorem kd_245_9 : ak_chk cL_law 900 k_245_9 = true := by decide +kernel
theorem kd_245 : ak_chk cL_law 0 k_245 = true := ak_chk_app rfl kd_245_0 (ak_chk_app rfl kd_245_1 (ak_chk_app rfl kd_245_2 (ak_chk_app rfl kd_245_3 (ak_chk_app rfl kd_245_4 (ak_chk_app rfl kd_245_5 (ak_chk_app rfl kd_245_6 (ak_chk_app rfl kd_245_7 (ak_chk_app rfl kd_245_8 (kd_245_9)))))))))
