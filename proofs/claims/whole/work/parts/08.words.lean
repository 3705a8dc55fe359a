/-! the tables' words that the programs of R ask for, by their places -/
theorem rh_t1 {c : Cond} (h : c ∈ tables_1_1) : c ∈ lw_tbl := List.mem_append_right _ (List.mem_append_left _ h)
theorem rh_t2 {c : Cond} (h : c ∈ tables_1_2) : c ∈ lw_tbl := List.mem_append_right _ (List.mem_append_right _ (List.mem_append_left _ h))
theorem rh_t3 {c : Cond} (h : c ∈ tables_1_3) : c ∈ lw_tbl := List.mem_append_right _ (List.mem_append_right _ (List.mem_append_right _ (List.mem_append_left _ h)))
theorem rh_t4 {c : Cond} (h : c ∈ tables_1_4) : c ∈ lw_tbl := List.mem_append_right _ (List.mem_append_right _ (List.mem_append_right _ (List.mem_append_right _ (List.mem_append_left _ h))))
theorem rh_t5 {c : Cond} (h : c ∈ tables_1_5) : c ∈ lw_tbl := List.mem_append_right _ (List.mem_append_right _ (List.mem_append_right _ (List.mem_append_right _ (List.mem_append_right _ (List.mem_append_left _ h)))))
theorem rh_t6 {c : Cond} (h : c ∈ tables_1_6) : c ∈ lw_tbl := List.mem_append_right _ (List.mem_append_right _ (List.mem_append_right _ (List.mem_append_right _ (List.mem_append_right _ (List.mem_append_right _ (List.mem_append_left _ h))))))
theorem rh_t7 {c : Cond} (h : c ∈ tables_1_7) : c ∈ lw_tbl := List.mem_append_right _ (List.mem_append_right _ (List.mem_append_right _ (List.mem_append_right _ (List.mem_append_right _ (List.mem_append_right _ (List.mem_append_right _ (List.mem_append_left _ h)))))))
theorem rh_t8 {c : Cond} (h : c ∈ tables_1_8) : c ∈ lw_tbl := List.mem_append_right _ (List.mem_append_right _ (List.mem_append_right _ (List.mem_append_right _ (List.mem_append_right _ (List.mem_append_right _ (List.mem_append_right _ (List.mem_append_right _ (h))))))))
theorem rh_s1 {q : MethodName × Nat} (h : q ∈ lw_privs_1) : Cond.selects q.1.cls q.1 q.1 ∈ lw_tbl := List.mem_append_left _ (List.mem_map.mpr ⟨q, List.mem_append_left _ h, rfl⟩)
theorem rh_s2 {q : MethodName × Nat} (h : q ∈ lw_privs_2) : Cond.selects q.1.cls q.1 q.1 ∈ lw_tbl := List.mem_append_left _ (List.mem_map.mpr ⟨q, List.mem_append_right _ (List.mem_append_left _ h), rfl⟩)
theorem rh_s3 {q : MethodName × Nat} (h : q ∈ lw_privs_3) : Cond.selects q.1.cls q.1 q.1 ∈ lw_tbl := List.mem_append_left _ (List.mem_map.mpr ⟨q, List.mem_append_right _ (List.mem_append_right _ (List.mem_append_left _ h)), rfl⟩)
theorem rh_s4 {q : MethodName × Nat} (h : q ∈ lw_privs_4) : Cond.selects q.1.cls q.1 q.1 ∈ lw_tbl := List.mem_append_left _ (List.mem_map.mpr ⟨q, List.mem_append_right _ (List.mem_append_right _ (List.mem_append_right _ (List.mem_append_left _ h))), rfl⟩)
theorem rh_s5 {q : MethodName × Nat} (h : q ∈ lw_privs_5) : Cond.selects q.1.cls q.1 q.1 ∈ lw_tbl := List.mem_append_left _ (List.mem_map.mpr ⟨q, List.mem_append_right _ (List.mem_append_right _ (List.mem_append_right _ (List.mem_append_right _ (List.mem_append_left _ h)))), rfl⟩)
theorem rh_s6 {q : MethodName × Nat} (h : q ∈ lw_privs_6) : Cond.selects q.1.cls q.1 q.1 ∈ lw_tbl := List.mem_append_left _ (List.mem_map.mpr ⟨q, List.mem_append_right _ (List.mem_append_right _ (List.mem_append_right _ (List.mem_append_right _ (List.mem_append_right _ (List.mem_append_left _ h))))), rfl⟩)
theorem rh_s7 {q : MethodName × Nat} (h : q ∈ lw_privs_7) : Cond.selects q.1.cls q.1 q.1 ∈ lw_tbl := List.mem_append_left _ (List.mem_map.mpr ⟨q, List.mem_append_right _ (List.mem_append_right _ (List.mem_append_right _ (List.mem_append_right _ (List.mem_append_right _ (List.mem_append_right _ (List.mem_append_left _ h)))))), rfl⟩)
theorem rh_s8 {q : MethodName × Nat} (h : q ∈ lw_privs_8) : Cond.selects q.1.cls q.1 q.1 ∈ lw_tbl := List.mem_append_left _ (List.mem_map.mpr ⟨q, List.mem_append_right _ (List.mem_append_right _ (List.mem_append_right _ (List.mem_append_right _ (List.mem_append_right _ (List.mem_append_right _ (List.mem_append_right _ (h))))))), rfl⟩)
theorem wd_1_96 : Cond.fieldLink RX0 25 RX0 "size" "I" ∈ rh_all := rh_in (rh_t1 (List.mem_of_getElem? (i := 96) rfl)) rfl
theorem wd_3_48 : Cond.methodLink RX0 29 yX0_sets ∈ rh_all := rh_in (rh_t3 (List.mem_of_getElem? (i := 48) rfl)) rfl
theorem wd_3_49 : Cond.instanceMethod yX0_sets ∈ rh_all := rh_in (rh_t3 (List.mem_of_getElem? (i := 49) rfl)) rfl
theorem wd_3_50 : Cond.selects RX0 yX0_sets yX0_sets ∈ rh_all := rh_in (rh_t3 (List.mem_of_getElem? (i := 50) rfl)) rfl
theorem wd_1_3 : Cond.initialized RX0 ∈ rh_all := rh_in (rh_t1 (List.mem_of_getElem? (i := 3) rfl)) rfl
theorem wd_3_51 : Cond.code yX0_sets cX0_sets 1 (some .int) ∈ rh_all := rh_in (rh_t3 (List.mem_of_getElem? (i := 51) rfl)) rfl
theorem wd_1_100 : Cond.fieldLink RX0 33 RX0 "persons" "I" ∈ rh_all := rh_in (rh_t1 (List.mem_of_getElem? (i := 100) rfl)) rfl
theorem wd_1_103 : Cond.fieldLink RX0 9 RX0 "bases" "[I" ∈ rh_all := rh_in (rh_t1 (List.mem_of_getElem? (i := 103) rfl)) rfl
theorem wd_3_63 : Cond.methodLink RX0 36 yX0_isPerson ∈ rh_all := rh_in (rh_t3 (List.mem_of_getElem? (i := 63) rfl)) rfl
theorem wd_3_64 : Cond.instanceMethod yX0_isPerson ∈ rh_all := rh_in (rh_t3 (List.mem_of_getElem? (i := 64) rfl)) rfl
theorem wd_3_65 : Cond.selects RX0 yX0_isPerson yX0_isPerson ∈ rh_all := rh_in (rh_t3 (List.mem_of_getElem? (i := 65) rfl)) rfl
theorem wd_3_66 : Cond.code yX0_isPerson cX0_isPerson 2 (some .boolean) ∈ rh_all := rh_in (rh_t3 (List.mem_of_getElem? (i := 66) rfl)) rfl
theorem wd_1_105 : Cond.fieldLink RX0 18 RX0 "habit" "LLighterAtDusk$Habit;" ∈ rh_all := rh_in (rh_t1 (List.mem_of_getElem? (i := 105) rfl)) rfl
theorem wd_3_67 : Cond.methodLink RX0 40 yX4_weigh ∈ rh_all := rh_in (rh_t3 (List.mem_of_getElem? (i := 67) rfl)) rfl
theorem wd_3_68 : Cond.instanceMethod yX4_weigh ∈ rh_all := rh_in (rh_t3 (List.mem_of_getElem? (i := 68) rfl)) rfl
theorem wd_3_69 : Cond.selects RX4 yX4_weigh yX4_weigh ∈ rh_all := rh_in (rh_t3 (List.mem_of_getElem? (i := 69) rfl)) rfl
theorem wd_1_5 : Cond.initialized RX4 ∈ rh_all := rh_in (rh_t1 (List.mem_of_getElem? (i := 5) rfl)) rfl
theorem wd_3_70 : Cond.code yX4_weigh cX4_weigh 10 (some .int) ∈ rh_all := rh_in (rh_t3 (List.mem_of_getElem? (i := 70) rfl)) rfl
theorem wd_3_59 : Cond.methodLink RX0 44 yX0_weightAt ∈ rh_all := rh_in (rh_t3 (List.mem_of_getElem? (i := 59) rfl)) rfl
theorem wd_3_60 : Cond.instanceMethod yX0_weightAt ∈ rh_all := rh_in (rh_t3 (List.mem_of_getElem? (i := 60) rfl)) rfl
theorem wd_3_61 : Cond.selects RX0 yX0_weightAt yX0_weightAt ∈ rh_all := rh_in (rh_t3 (List.mem_of_getElem? (i := 61) rfl)) rfl
theorem wd_3_62 : Cond.code yX0_weightAt cX0_weightAt 3 (some .int) ∈ rh_all := rh_in (rh_t3 (List.mem_of_getElem? (i := 62) rfl)) rfl
theorem wd_1_107 : Cond.fieldLink RX0 22 RX0 "sums" "[I" ∈ rh_all := rh_in (rh_t1 (List.mem_of_getElem? (i := 107) rfl)) rfl
theorem wd_3_90 : Cond.methodLink RX0 48 yX0_narrowed ∈ rh_all := rh_in (rh_t3 (List.mem_of_getElem? (i := 90) rfl)) rfl
theorem wd_3_91 : Cond.static yX0_narrowed ∈ rh_all := rh_in (rh_t3 (List.mem_of_getElem? (i := 91) rfl)) rfl
theorem wd_3_92 : Cond.code yX0_narrowed cX0_narrowed 2 (some .int) ∈ rh_all := rh_in (rh_t3 (List.mem_of_getElem? (i := 92) rfl)) rfl
theorem wd_3_93 : Cond.methodLink RX0 51 yJ9_min_7cf53 ∈ rh_all := rh_in (rh_t3 (List.mem_of_getElem? (i := 93) rfl)) rfl
theorem wd_2_145 : Cond.static yJ9_min_7cf53 ∈ rh_all := rh_in (rh_t2 (List.mem_of_getElem? (i := 145) rfl)) rfl
theorem wd_1_13 : Cond.initialized RJ9 ∈ rh_all := rh_in (rh_t1 (List.mem_of_getElem? (i := 13) rfl)) rfl
theorem wd_2_146 : Cond.code yJ9_min_7cf53 cJ9_min_7cf53 2 (some .int) ∈ rh_all := rh_in (rh_t2 (List.mem_of_getElem? (i := 146) rfl)) rfl
theorem wd_3_94 : Cond.methodLink RX0 56 yJ9_max_7cf53 ∈ rh_all := rh_in (rh_t3 (List.mem_of_getElem? (i := 94) rfl)) rfl
theorem wd_3_76 : Cond.static yJ9_max_7cf53 ∈ rh_all := rh_in (rh_t3 (List.mem_of_getElem? (i := 76) rfl)) rfl
theorem wd_3_77 : Cond.code yJ9_max_7cf53 cJ9_max_7cf53 2 (some .int) ∈ rh_all := rh_in (rh_t3 (List.mem_of_getElem? (i := 77) rfl)) rfl
theorem wd_1_203 : Cond.fieldLink RX1 19 RX1 "actCount" "I" ∈ rh_all := rh_in (rh_t1 (List.mem_of_getElem? (i := 203) rfl)) rfl
theorem wd_1_205 : Cond.fieldLink RX1 23 RX1 "state" "I" ∈ rh_all := rh_in (rh_t1 (List.mem_of_getElem? (i := 205) rfl)) rfl
theorem wd_1_206 : Cond.fieldLink RX1 26 RX1 "digits" "I" ∈ rh_all := rh_in (rh_t1 (List.mem_of_getElem? (i := 206) rfl)) rfl
theorem wd_2_153 : Cond.methodLink RX1 29 yX1_takesKind ∈ rh_all := rh_in (rh_t2 (List.mem_of_getElem? (i := 153) rfl)) rfl
theorem wd_2_155 : Cond.instanceMethod yX1_takesKind ∈ rh_all := rh_in (rh_t2 (List.mem_of_getElem? (i := 155) rfl)) rfl
theorem wp_1_1 : Cond.selects RX1 yX1_takesKind yX1_takesKind ∈ rh_all := rh_in (rh_s1 (List.mem_of_getElem? (i := 1) rfl)) rfl
theorem wd_1_8 : Cond.initialized RX1 ∈ rh_all := rh_in (rh_t1 (List.mem_of_getElem? (i := 8) rfl)) rfl
theorem wd_2_156 : Cond.code yX1_takesKind cX1_takesKind 3 (some .boolean) ∈ rh_all := rh_in (rh_t2 (List.mem_of_getElem? (i := 156) rfl)) rfl
theorem wd_2_157 : Cond.methodLink RX1 33 yX1_canEnd ∈ rh_all := rh_in (rh_t2 (List.mem_of_getElem? (i := 157) rfl)) rfl
theorem wd_2_158 : Cond.instanceMethod yX1_canEnd ∈ rh_all := rh_in (rh_t2 (List.mem_of_getElem? (i := 158) rfl)) rfl
theorem wd_2_159 : Cond.selects RX1 yX1_canEnd yX1_canEnd ∈ rh_all := rh_in (rh_t2 (List.mem_of_getElem? (i := 159) rfl)) rfl
theorem wd_2_160 : Cond.code yX1_canEnd cX1_canEnd 1 (some .boolean) ∈ rh_all := rh_in (rh_t2 (List.mem_of_getElem? (i := 160) rfl)) rfl
theorem wd_2_161 : Cond.methodLink RX1 37 yX1_takesNumber ∈ rh_all := rh_in (rh_t2 (List.mem_of_getElem? (i := 161) rfl)) rfl
theorem wd_2_163 : Cond.instanceMethod yX1_takesNumber ∈ rh_all := rh_in (rh_t2 (List.mem_of_getElem? (i := 163) rfl)) rfl
theorem wp_1_2 : Cond.selects RX1 yX1_takesNumber yX1_takesNumber ∈ rh_all := rh_in (rh_s1 (List.mem_of_getElem? (i := 2) rfl)) rfl
theorem wd_2_164 : Cond.code yX1_takesNumber cX1_takesNumber 3 (some .boolean) ∈ rh_all := rh_in (rh_t2 (List.mem_of_getElem? (i := 164) rfl)) rfl
theorem wd_2_169 : Cond.methodLink RX1 41 yX1_takesLetter ∈ rh_all := rh_in (rh_t2 (List.mem_of_getElem? (i := 169) rfl)) rfl
theorem wd_2_171 : Cond.instanceMethod yX1_takesLetter ∈ rh_all := rh_in (rh_t2 (List.mem_of_getElem? (i := 171) rfl)) rfl
theorem wp_1_3 : Cond.selects RX1 yX1_takesLetter yX1_takesLetter ∈ rh_all := rh_in (rh_s1 (List.mem_of_getElem? (i := 3) rfl)) rfl
theorem wd_2_172 : Cond.code yX1_takesLetter cX1_takesLetter 3 (some .boolean) ∈ rh_all := rh_in (rh_t2 (List.mem_of_getElem? (i := 172) rfl)) rfl
theorem wd_2_173 : Cond.methodLink RX1 44 yX1_takesPlace ∈ rh_all := rh_in (rh_t2 (List.mem_of_getElem? (i := 173) rfl)) rfl
theorem wd_2_175 : Cond.instanceMethod yX1_takesPlace ∈ rh_all := rh_in (rh_t2 (List.mem_of_getElem? (i := 175) rfl)) rfl
theorem wp_1_4 : Cond.selects RX1 yX1_takesPlace yX1_takesPlace ∈ rh_all := rh_in (rh_s1 (List.mem_of_getElem? (i := 4) rfl)) rfl
theorem wd_2_176 : Cond.code yX1_takesPlace cX1_takesPlace 3 (some .boolean) ∈ rh_all := rh_in (rh_t2 (List.mem_of_getElem? (i := 176) rfl)) rfl
theorem wd_2_177 : Cond.methodLink RX1 47 yX1_takesWay ∈ rh_all := rh_in (rh_t2 (List.mem_of_getElem? (i := 177) rfl)) rfl
theorem wd_2_179 : Cond.instanceMethod yX1_takesWay ∈ rh_all := rh_in (rh_t2 (List.mem_of_getElem? (i := 179) rfl)) rfl
theorem wp_1_5 : Cond.selects RX1 yX1_takesWay yX1_takesWay ∈ rh_all := rh_in (rh_s1 (List.mem_of_getElem? (i := 5) rfl)) rfl
theorem wd_2_180 : Cond.code yX1_takesWay cX1_takesWay 3 (some .boolean) ∈ rh_all := rh_in (rh_t2 (List.mem_of_getElem? (i := 180) rfl)) rfl
theorem wd_1_197 : Cond.fieldLink RX1 9 RX1 "kinds" "[I" ∈ rh_all := rh_in (rh_t1 (List.mem_of_getElem? (i := 197) rfl)) rfl
theorem wd_1_199 : Cond.fieldLink RX1 13 RX1 "whos" "[I" ∈ rh_all := rh_in (rh_t1 (List.mem_of_getElem? (i := 199) rfl)) rfl
theorem wd_1_201 : Cond.fieldLink RX1 16 RX1 "amounts" "[I" ∈ rh_all := rh_in (rh_t1 (List.mem_of_getElem? (i := 201) rfl)) rfl
theorem wd_1_207 : Cond.fieldLink RX1 50 RX1 "negative" "Z" ∈ rh_all := rh_in (rh_t1 (List.mem_of_getElem? (i := 207) rfl)) rfl
theorem wd_2_165 : Cond.methodLink RX1 54 ⟨RX1, "isDigit", "(I)Z"⟩ ∈ rh_all := rh_in (rh_t2 (List.mem_of_getElem? (i := 165) rfl)) rfl
theorem wd_2_166 : Cond.sameMethod RX1 RX5 "isDigit" "(I)Z" ∈ rh_all := rh_in (rh_t2 (List.mem_of_getElem? (i := 166) rfl)) rfl
theorem wd_2_167 : Cond.static yX5_isDigit ∈ rh_all := rh_in (rh_t2 (List.mem_of_getElem? (i := 167) rfl)) rfl
theorem wd_1_4 : Cond.initialized RX5 ∈ rh_all := rh_in (rh_t1 (List.mem_of_getElem? (i := 4) rfl)) rfl
theorem wd_2_168 : Cond.code yX5_isDigit cX5_isDigit 1 (some .boolean) ∈ rh_all := rh_in (rh_t2 (List.mem_of_getElem? (i := 168) rfl)) rfl
theorem wd_1_132 : Cond.fieldLink RX2 32 RX2 "aboard" "I" ∈ rh_all := rh_in (rh_t1 (List.mem_of_getElem? (i := 132) rfl)) rfl
theorem wd_1_128 : Cond.fieldLink RX2 28 RX2 "crowd" "LLighterAtDusk$Crowd;" ∈ rh_all := rh_in (rh_t1 (List.mem_of_getElem? (i := 128) rfl)) rfl
theorem wd_1_98 : Cond.fieldLink RX2 36 RX0 "size" "I" ∈ rh_all := rh_in (rh_t1 (List.mem_of_getElem? (i := 98) rfl)) rfl
theorem wd_3_103 : Cond.methodLink RX2 41 yX2_isAboard ∈ rh_all := rh_in (rh_t3 (List.mem_of_getElem? (i := 103) rfl)) rfl
theorem wd_3_104 : Cond.instanceMethod yX2_isAboard ∈ rh_all := rh_in (rh_t3 (List.mem_of_getElem? (i := 104) rfl)) rfl
theorem wd_3_105 : Cond.selects RX2 yX2_isAboard yX2_isAboard ∈ rh_all := rh_in (rh_t3 (List.mem_of_getElem? (i := 105) rfl)) rfl
theorem wd_1_6 : Cond.initialized RX2 ∈ rh_all := rh_in (rh_t1 (List.mem_of_getElem? (i := 6) rfl)) rfl
theorem wd_3_106 : Cond.code yX2_isAboard cX2_isAboard 2 (some .boolean) ∈ rh_all := rh_in (rh_t3 (List.mem_of_getElem? (i := 106) rfl)) rfl
theorem wd_1_134 : Cond.fieldLink RX2 9 RX2 "places" "[I" ∈ rh_all := rh_in (rh_t1 (List.mem_of_getElem? (i := 134) rfl)) rfl
theorem wd_3_107 : Cond.methodLink RX2 45 yX0_weightAt ∈ rh_all := rh_in (rh_t3 (List.mem_of_getElem? (i := 107) rfl)) rfl
theorem wd_1_130 : Cond.fieldLink RX2 49 RX2 "now" "I" ∈ rh_all := rh_in (rh_t1 (List.mem_of_getElem? (i := 130) rfl)) rfl
theorem wd_1_137 : Cond.fieldLink RX2 15 RX2 "marked" "[I" ∈ rh_all := rh_in (rh_t1 (List.mem_of_getElem? (i := 137) rfl)) rfl
theorem wd_3_119 : Cond.methodLink RX2 52 yX2_copyTo ∈ rh_all := rh_in (rh_t3 (List.mem_of_getElem? (i := 119) rfl)) rfl
theorem wd_3_121 : Cond.instanceMethod yX2_copyTo ∈ rh_all := rh_in (rh_t3 (List.mem_of_getElem? (i := 121) rfl)) rfl
theorem wp_1_14 : Cond.selects RX2 yX2_copyTo yX2_copyTo ∈ rh_all := rh_in (rh_s1 (List.mem_of_getElem? (i := 14) rfl)) rfl
theorem wd_3_122 : Cond.code yX2_copyTo cX2_copyTo 4 none ∈ rh_all := rh_in (rh_t3 (List.mem_of_getElem? (i := 122) rfl)) rfl
theorem wd_1_139 : Cond.fieldLink RX2 56 RX2 "pastCount" "I" ∈ rh_all := rh_in (rh_t1 (List.mem_of_getElem? (i := 139) rfl)) rfl
theorem wd_1_138 : Cond.fieldLink RX2 18 RX2 "past" "[I" ∈ rh_all := rh_in (rh_t1 (List.mem_of_getElem? (i := 138) rfl)) rfl
theorem wd_3_127 : Cond.methodLink RX2 59 arraycopyName ∈ rh_all := rh_in (rh_t3 (List.mem_of_getElem? (i := 127) rfl)) rfl
theorem wd_3_39 : Cond.native arraycopyName ∈ rh_all := rh_in (rh_t3 (List.mem_of_getElem? (i := 39) rfl)) rfl
theorem wd_3_38 : Cond.static arraycopyName ∈ rh_all := rh_in (rh_t3 (List.mem_of_getElem? (i := 38) rfl)) rfl
theorem wd_1_14 : Cond.initialized RJ10 ∈ rh_all := rh_in (rh_t1 (List.mem_of_getElem? (i := 14) rfl)) rfl
theorem wd_3_189 : Cond.methodLink RX2 65 yX2_copyFrom ∈ rh_all := rh_in (rh_t3 (List.mem_of_getElem? (i := 189) rfl)) rfl
theorem wd_3_191 : Cond.instanceMethod yX2_copyFrom ∈ rh_all := rh_in (rh_t3 (List.mem_of_getElem? (i := 191) rfl)) rfl
theorem wp_2_4 : Cond.selects RX2 yX2_copyFrom yX2_copyFrom ∈ rh_all := rh_in (rh_s2 (List.mem_of_getElem? (i := 4) rfl)) rfl
theorem wd_3_192 : Cond.code yX2_copyFrom cX2_copyFrom 4 none ∈ rh_all := rh_in (rh_t3 (List.mem_of_getElem? (i := 192) rfl)) rfl
theorem wd_1_141 : Cond.fieldLink RX2 21 RX2 "kept" "[I" ∈ rh_all := rh_in (rh_t1 (List.mem_of_getElem? (i := 141) rfl)) rfl
theorem wd_1_142 : Cond.fieldLink RX2 24 RX2 "isKept" "[Z" ∈ rh_all := rh_in (rh_t1 (List.mem_of_getElem? (i := 142) rfl)) rfl
theorem wd_1_175 : Cond.fieldLink RX3 15 RX3 "persons" "I" ∈ rh_all := rh_in (rh_t1 (List.mem_of_getElem? (i := 175) rfl)) rfl
theorem wd_1_173 : Cond.fieldLink RX3 19 RX3 "lines" "I" ∈ rh_all := rh_in (rh_t1 (List.mem_of_getElem? (i := 173) rfl)) rfl
theorem wd_1_176 : Cond.fieldLink RX3 22 RX3 "digits" "I" ∈ rh_all := rh_in (rh_t1 (List.mem_of_getElem? (i := 176) rfl)) rfl
theorem wd_1_177 : Cond.fieldLink RX3 25 RX3 "inLine" "Z" ∈ rh_all := rh_in (rh_t1 (List.mem_of_getElem? (i := 177) rfl)) rfl
theorem wd_2_184 : Cond.methodLink RX3 29 yX3_takesKind ∈ rh_all := rh_in (rh_t2 (List.mem_of_getElem? (i := 184) rfl)) rfl
theorem wd_2_186 : Cond.instanceMethod yX3_takesKind ∈ rh_all := rh_in (rh_t2 (List.mem_of_getElem? (i := 186) rfl)) rfl
theorem wp_1_6 : Cond.selects RX3 yX3_takesKind yX3_takesKind ∈ rh_all := rh_in (rh_s1 (List.mem_of_getElem? (i := 6) rfl)) rfl
theorem wd_1_7 : Cond.initialized RX3 ∈ rh_all := rh_in (rh_t1 (List.mem_of_getElem? (i := 7) rfl)) rfl
theorem wd_2_187 : Cond.code yX3_takesKind cX3_takesKind 2 (some .boolean) ∈ rh_all := rh_in (rh_t2 (List.mem_of_getElem? (i := 187) rfl)) rfl
theorem wd_2_188 : Cond.methodLink RX3 33 ⟨RX3, "isDigit", "(I)Z"⟩ ∈ rh_all := rh_in (rh_t2 (List.mem_of_getElem? (i := 188) rfl)) rfl
theorem wd_2_189 : Cond.sameMethod RX3 RX5 "isDigit" "(I)Z" ∈ rh_all := rh_in (rh_t2 (List.mem_of_getElem? (i := 189) rfl)) rfl
theorem wd_1_169 : Cond.fieldLink RX3 9 RX3 "bases" "[I" ∈ rh_all := rh_in (rh_t1 (List.mem_of_getElem? (i := 169) rfl)) rfl
theorem wd_2_190 : Cond.methodLink RX3 36 yX3_canEnd ∈ rh_all := rh_in (rh_t2 (List.mem_of_getElem? (i := 190) rfl)) rfl
theorem wd_2_191 : Cond.instanceMethod yX3_canEnd ∈ rh_all := rh_in (rh_t2 (List.mem_of_getElem? (i := 191) rfl)) rfl
theorem wd_2_192 : Cond.selects RX3 yX3_canEnd yX3_canEnd ∈ rh_all := rh_in (rh_t2 (List.mem_of_getElem? (i := 192) rfl)) rfl
theorem wd_2_193 : Cond.code yX3_canEnd cX3_canEnd 1 (some .boolean) ∈ rh_all := rh_in (rh_t2 (List.mem_of_getElem? (i := 193) rfl)) rfl
theorem wd_1_172 : Cond.fieldLink RX3 40 RX3 "room" "I" ∈ rh_all := rh_in (rh_t1 (List.mem_of_getElem? (i := 172) rfl)) rfl
theorem wd_1_62 : Cond.fieldLink RX4 28 RX4 "length" "I" ∈ rh_all := rh_in (rh_t1 (List.mem_of_getElem? (i := 62) rfl)) rfl
theorem wd_1_67 : Cond.fieldLink RX4 32 RX4 "waitingCount" "I" ∈ rh_all := rh_in (rh_t1 (List.mem_of_getElem? (i := 67) rfl)) rfl
theorem wd_1_66 : Cond.fieldLink RX4 21 RX4 "waiting" "[I" ∈ rh_all := rh_in (rh_t1 (List.mem_of_getElem? (i := 66) rfl)) rfl
theorem wd_2_203 : Cond.methodLink RX4 35 yX4_put ∈ rh_all := rh_in (rh_t2 (List.mem_of_getElem? (i := 203) rfl)) rfl
theorem wd_2_205 : Cond.instanceMethod yX4_put ∈ rh_all := rh_in (rh_t2 (List.mem_of_getElem? (i := 205) rfl)) rfl
theorem wp_1_8 : Cond.selects RX4 yX4_put yX4_put ∈ rh_all := rh_in (rh_s1 (List.mem_of_getElem? (i := 8) rfl)) rfl
theorem wd_2_206 : Cond.code yX4_put cX4_put 2 none ∈ rh_all := rh_in (rh_t2 (List.mem_of_getElem? (i := 206) rfl)) rfl
theorem wd_1_65 : Cond.fieldLink RX4 39 RX4 "drafted" "I" ∈ rh_all := rh_in (rh_t1 (List.mem_of_getElem? (i := 65) rfl)) rfl
theorem wd_1_64 : Cond.fieldLink RX4 18 RX4 "draft" "[I" ∈ rh_all := rh_in (rh_t1 (List.mem_of_getElem? (i := 64) rfl)) rfl
theorem wd_1_61 : Cond.fieldLink RX4 11 RX4 "codes" "[I" ∈ rh_all := rh_in (rh_t1 (List.mem_of_getElem? (i := 61) rfl)) rfl
theorem wd_3_37 : Cond.methodLink RX4 42 arraycopyName ∈ rh_all := rh_in (rh_t3 (List.mem_of_getElem? (i := 37) rfl)) rfl
theorem wd_1_63 : Cond.fieldLink RX4 15 RX4 "stack" "[I" ∈ rh_all := rh_in (rh_t1 (List.mem_of_getElem? (i := 63) rfl)) rfl
theorem wd_3_71 : Cond.methodLink RX4 48 yX4_joined ∈ rh_all := rh_in (rh_t3 (List.mem_of_getElem? (i := 71) rfl)) rfl
theorem wd_3_72 : Cond.static yX4_joined ∈ rh_all := rh_in (rh_t3 (List.mem_of_getElem? (i := 72) rfl)) rfl
theorem wd_3_73 : Cond.code yX4_joined cX4_joined 3 (some .int) ∈ rh_all := rh_in (rh_t3 (List.mem_of_getElem? (i := 73) rfl)) rfl
theorem wd_3_74 : Cond.methodLink RX4 52 yJ9_min_7cf53 ∈ rh_all := rh_in (rh_t3 (List.mem_of_getElem? (i := 74) rfl)) rfl
theorem wd_3_75 : Cond.methodLink RX4 58 yJ9_max_7cf53 ∈ rh_all := rh_in (rh_t3 (List.mem_of_getElem? (i := 75) rfl)) rfl
theorem wd_1_69 : Cond.fieldLink RX4 61 RX4 "depth" "I" ∈ rh_all := rh_in (rh_t1 (List.mem_of_getElem? (i := 69) rfl)) rfl
theorem wd_1_68 : Cond.fieldLink RX4 24 RX4 "compared" "[Z" ∈ rh_all := rh_in (rh_t1 (List.mem_of_getElem? (i := 68) rfl)) rfl
theorem wd_1_70 : Cond.fieldLink RX4 64 RX4 "digits" "I" ∈ rh_all := rh_in (rh_t1 (List.mem_of_getElem? (i := 70) rfl)) rfl
theorem wd_1_71 : Cond.fieldLink RX4 67 RX4 "behindThing" "Z" ∈ rh_all := rh_in (rh_t1 (List.mem_of_getElem? (i := 71) rfl)) rfl
theorem wd_2_197 : Cond.methodLink RX4 71 ⟨RX4, "isDigit", "(I)Z"⟩ ∈ rh_all := rh_in (rh_t2 (List.mem_of_getElem? (i := 197) rfl)) rfl
theorem wd_2_198 : Cond.sameMethod RX4 RX5 "isDigit" "(I)Z" ∈ rh_all := rh_in (rh_t2 (List.mem_of_getElem? (i := 198) rfl)) rfl
theorem wd_2_199 : Cond.methodLink RX4 75 yX4_takesDigit ∈ rh_all := rh_in (rh_t2 (List.mem_of_getElem? (i := 199) rfl)) rfl
theorem wd_2_201 : Cond.instanceMethod yX4_takesDigit ∈ rh_all := rh_in (rh_t2 (List.mem_of_getElem? (i := 201) rfl)) rfl
theorem wp_1_7 : Cond.selects RX4 yX4_takesDigit yX4_takesDigit ∈ rh_all := rh_in (rh_s1 (List.mem_of_getElem? (i := 7) rfl)) rfl
theorem wd_2_202 : Cond.code yX4_takesDigit cX4_takesDigit 2 (some .boolean) ∈ rh_all := rh_in (rh_t2 (List.mem_of_getElem? (i := 202) rfl)) rfl
theorem wd_2_207 : Cond.methodLink RX4 78 yX4_takesBehind ∈ rh_all := rh_in (rh_t2 (List.mem_of_getElem? (i := 207) rfl)) rfl
theorem wd_2_209 : Cond.instanceMethod yX4_takesBehind ∈ rh_all := rh_in (rh_t2 (List.mem_of_getElem? (i := 209) rfl)) rfl
theorem wp_1_9 : Cond.selects RX4 yX4_takesBehind yX4_takesBehind ∈ rh_all := rh_in (rh_s1 (List.mem_of_getElem? (i := 9) rfl)) rfl
theorem wd_2_210 : Cond.code yX4_takesBehind cX4_takesBehind 3 (some .boolean) ∈ rh_all := rh_in (rh_t2 (List.mem_of_getElem? (i := 210) rfl)) rfl
theorem wd_2_222 : Cond.methodLink RX4 81 yX4_takesAhead ∈ rh_all := rh_in (rh_t2 (List.mem_of_getElem? (i := 222) rfl)) rfl
theorem wd_2_224 : Cond.instanceMethod yX4_takesAhead ∈ rh_all := rh_in (rh_t2 (List.mem_of_getElem? (i := 224) rfl)) rfl
theorem wp_1_12 : Cond.selects RX4 yX4_takesAhead yX4_takesAhead ∈ rh_all := rh_in (rh_s1 (List.mem_of_getElem? (i := 12) rfl)) rfl
theorem wd_2_225 : Cond.code yX4_takesAhead cX4_takesAhead 2 (some .boolean) ∈ rh_all := rh_in (rh_t2 (List.mem_of_getElem? (i := 225) rfl)) rfl
theorem wd_2_226 : Cond.methodLink RX4 84 yX4_isLetter ∈ rh_all := rh_in (rh_t2 (List.mem_of_getElem? (i := 226) rfl)) rfl
theorem wd_2_227 : Cond.static yX4_isLetter ∈ rh_all := rh_in (rh_t2 (List.mem_of_getElem? (i := 227) rfl)) rfl
theorem wd_2_228 : Cond.code yX4_isLetter cX4_isLetter 1 (some .boolean) ∈ rh_all := rh_in (rh_t2 (List.mem_of_getElem? (i := 228) rfl)) rfl
theorem wd_2_218 : Cond.methodLink RX4 87 yX4_putOff ∈ rh_all := rh_in (rh_t2 (List.mem_of_getElem? (i := 218) rfl)) rfl
theorem wd_2_220 : Cond.instanceMethod yX4_putOff ∈ rh_all := rh_in (rh_t2 (List.mem_of_getElem? (i := 220) rfl)) rfl
theorem wp_1_11 : Cond.selects RX4 yX4_putOff yX4_putOff ∈ rh_all := rh_in (rh_s1 (List.mem_of_getElem? (i := 11) rfl)) rfl
theorem wd_2_221 : Cond.code yX4_putOff cX4_putOff 2 none ∈ rh_all := rh_in (rh_t2 (List.mem_of_getElem? (i := 221) rfl)) rfl
theorem wd_2_211 : Cond.methodLink RX4 90 yX4_closes ∈ rh_all := rh_in (rh_t2 (List.mem_of_getElem? (i := 211) rfl)) rfl
theorem wd_2_213 : Cond.instanceMethod yX4_closes ∈ rh_all := rh_in (rh_t2 (List.mem_of_getElem? (i := 213) rfl)) rfl
theorem wp_1_10 : Cond.selects RX4 yX4_closes yX4_closes ∈ rh_all := rh_in (rh_s1 (List.mem_of_getElem? (i := 10) rfl)) rfl
theorem wd_2_214 : Cond.code yX4_closes cX4_closes 1 (some .boolean) ∈ rh_all := rh_in (rh_t2 (List.mem_of_getElem? (i := 214) rfl)) rfl
theorem wd_2_215 : Cond.methodLink RX4 94 yX4_bond ∈ rh_all := rh_in (rh_t2 (List.mem_of_getElem? (i := 215) rfl)) rfl
theorem wd_2_216 : Cond.static yX4_bond ∈ rh_all := rh_in (rh_t2 (List.mem_of_getElem? (i := 216) rfl)) rfl
theorem wd_2_217 : Cond.code yX4_bond cX4_bond 1 (some .int) ∈ rh_all := rh_in (rh_t2 (List.mem_of_getElem? (i := 217) rfl)) rfl
theorem wd_2_132 : Cond.methodLink RX5 7 ⟨RX5, "begin", "()V"⟩ ∈ rh_all := rh_in (rh_t2 (List.mem_of_getElem? (i := 132) rfl)) rfl
theorem wd_2_135 : Cond.selects RX1 ⟨RX5, "begin", "()V"⟩ yX1_begin ∈ rh_all := rh_in (rh_t2 (List.mem_of_getElem? (i := 135) rfl)) rfl
theorem wd_2_134 : Cond.sameMethod RX5 RX5 "begin" "()V" ∈ rh_all := rh_in (rh_t2 (List.mem_of_getElem? (i := 134) rfl)) rfl
theorem wd_2_136 : Cond.instanceMethod yX1_begin ∈ rh_all := rh_in (rh_t2 (List.mem_of_getElem? (i := 136) rfl)) rfl
theorem wd_2_137 : Cond.code yX1_begin cX1_begin 1 none ∈ rh_all := rh_in (rh_t2 (List.mem_of_getElem? (i := 137) rfl)) rfl
theorem wd_2_144 : Cond.methodLink RX5 12 yJ9_min_7cf53 ∈ rh_all := rh_in (rh_t2 (List.mem_of_getElem? (i := 144) rfl)) rfl
theorem wd_2_147 : Cond.methodLink RX5 18 ⟨RX5, "takes", "(I)Z"⟩ ∈ rh_all := rh_in (rh_t2 (List.mem_of_getElem? (i := 147) rfl)) rfl
theorem wd_2_150 : Cond.selects RX1 ⟨RX5, "takes", "(I)Z"⟩ yX1_takes ∈ rh_all := rh_in (rh_t2 (List.mem_of_getElem? (i := 150) rfl)) rfl
theorem wd_2_149 : Cond.sameMethod RX5 RX5 "takes" "(I)Z" ∈ rh_all := rh_in (rh_t2 (List.mem_of_getElem? (i := 149) rfl)) rfl
theorem wd_2_151 : Cond.instanceMethod yX1_takes ∈ rh_all := rh_in (rh_t2 (List.mem_of_getElem? (i := 151) rfl)) rfl
theorem wd_2_152 : Cond.code yX1_takes cX1_takes 3 (some .boolean) ∈ rh_all := rh_in (rh_t2 (List.mem_of_getElem? (i := 152) rfl)) rfl
theorem wd_2_229 : Cond.methodLink RX5 22 yX5_faultAt ∈ rh_all := rh_in (rh_t2 (List.mem_of_getElem? (i := 229) rfl)) rfl
theorem wd_2_232 : Cond.selects RX1 yX5_faultAt yX5_faultAt ∈ rh_all := rh_in (rh_t2 (List.mem_of_getElem? (i := 232) rfl)) rfl
theorem wd_2_231 : Cond.sameMethod RX5 RX5 "faultAt" "(I)I" ∈ rh_all := rh_in (rh_t2 (List.mem_of_getElem? (i := 231) rfl)) rfl
theorem wd_2_230 : Cond.instanceMethod yX5_faultAt ∈ rh_all := rh_in (rh_t2 (List.mem_of_getElem? (i := 230) rfl)) rfl
theorem wd_2_237 : Cond.code yX5_faultAt cX5_faultAt 2 (some .int) ∈ rh_all := rh_in (rh_t2 (List.mem_of_getElem? (i := 237) rfl)) rfl
theorem wd_2_238 : Cond.methodLink RX5 26 ⟨RX5, "canEnd", "()Z"⟩ ∈ rh_all := rh_in (rh_t2 (List.mem_of_getElem? (i := 238) rfl)) rfl
theorem wd_3_1 : Cond.selects RX1 ⟨RX5, "canEnd", "()Z"⟩ yX1_canEnd ∈ rh_all := rh_in (rh_t3 (List.mem_of_getElem? (i := 1) rfl)) rfl
theorem wd_3_0 : Cond.sameMethod RX5 RX5 "canEnd" "()Z" ∈ rh_all := rh_in (rh_t3 (List.mem_of_getElem? (i := 0) rfl)) rfl
theorem wd_2_138 : Cond.selects RX3 ⟨RX5, "begin", "()V"⟩ yX3_begin ∈ rh_all := rh_in (rh_t2 (List.mem_of_getElem? (i := 138) rfl)) rfl
theorem wd_2_139 : Cond.instanceMethod yX3_begin ∈ rh_all := rh_in (rh_t2 (List.mem_of_getElem? (i := 139) rfl)) rfl
theorem wd_2_140 : Cond.code yX3_begin cX3_begin 1 none ∈ rh_all := rh_in (rh_t2 (List.mem_of_getElem? (i := 140) rfl)) rfl
theorem wd_2_181 : Cond.selects RX3 ⟨RX5, "takes", "(I)Z"⟩ yX3_takes ∈ rh_all := rh_in (rh_t2 (List.mem_of_getElem? (i := 181) rfl)) rfl
theorem wd_2_182 : Cond.instanceMethod yX3_takes ∈ rh_all := rh_in (rh_t2 (List.mem_of_getElem? (i := 182) rfl)) rfl
theorem wd_2_183 : Cond.code yX3_takes cX3_takes 2 (some .boolean) ∈ rh_all := rh_in (rh_t2 (List.mem_of_getElem? (i := 183) rfl)) rfl
theorem wd_2_233 : Cond.selects RX3 yX5_faultAt yX3_faultAt ∈ rh_all := rh_in (rh_t2 (List.mem_of_getElem? (i := 233) rfl)) rfl
theorem wd_2_234 : Cond.instanceMethod yX3_faultAt ∈ rh_all := rh_in (rh_t2 (List.mem_of_getElem? (i := 234) rfl)) rfl
theorem wd_2_235 : Cond.code yX3_faultAt cX3_faultAt 2 (some .int) ∈ rh_all := rh_in (rh_t2 (List.mem_of_getElem? (i := 235) rfl)) rfl
theorem wd_3_2 : Cond.selects RX3 ⟨RX5, "canEnd", "()Z"⟩ yX3_canEnd ∈ rh_all := rh_in (rh_t3 (List.mem_of_getElem? (i := 2) rfl)) rfl
theorem wd_2_141 : Cond.selects RX4 ⟨RX5, "begin", "()V"⟩ yX4_begin ∈ rh_all := rh_in (rh_t2 (List.mem_of_getElem? (i := 141) rfl)) rfl
theorem wd_2_142 : Cond.instanceMethod yX4_begin ∈ rh_all := rh_in (rh_t2 (List.mem_of_getElem? (i := 142) rfl)) rfl
theorem wd_2_143 : Cond.code yX4_begin cX4_begin 1 none ∈ rh_all := rh_in (rh_t2 (List.mem_of_getElem? (i := 143) rfl)) rfl
theorem wd_2_194 : Cond.selects RX4 ⟨RX5, "takes", "(I)Z"⟩ yX4_takes ∈ rh_all := rh_in (rh_t2 (List.mem_of_getElem? (i := 194) rfl)) rfl
theorem wd_2_195 : Cond.instanceMethod yX4_takes ∈ rh_all := rh_in (rh_t2 (List.mem_of_getElem? (i := 195) rfl)) rfl
theorem wd_2_196 : Cond.code yX4_takes cX4_takes 2 (some .boolean) ∈ rh_all := rh_in (rh_t2 (List.mem_of_getElem? (i := 196) rfl)) rfl
theorem wd_2_236 : Cond.selects RX4 yX5_faultAt yX5_faultAt ∈ rh_all := rh_in (rh_t2 (List.mem_of_getElem? (i := 236) rfl)) rfl
theorem wd_3_3 : Cond.selects RX4 ⟨RX5, "canEnd", "()Z"⟩ yX4_canEnd ∈ rh_all := rh_in (rh_t3 (List.mem_of_getElem? (i := 3) rfl)) rfl
theorem wd_3_4 : Cond.instanceMethod yX4_canEnd ∈ rh_all := rh_in (rh_t3 (List.mem_of_getElem? (i := 4) rfl)) rfl
theorem wd_3_5 : Cond.code yX4_canEnd cX4_canEnd 1 (some .boolean) ∈ rh_all := rh_in (rh_t3 (List.mem_of_getElem? (i := 5) rfl)) rfl
theorem wd_2_24 : Cond.fieldLink RX6 19 RX6 "those" "I" ∈ rh_all := rh_in (rh_t2 (List.mem_of_getElem? (i := 24) rfl)) rfl
theorem wd_2_25 : Cond.fieldLink RX6 23 RX6 "boat" "I" ∈ rh_all := rh_in (rh_t2 (List.mem_of_getElem? (i := 25) rfl)) rfl
theorem wd_2_26 : Cond.fieldLink RX6 26 RX6 "first" "I" ∈ rh_all := rh_in (rh_t2 (List.mem_of_getElem? (i := 26) rfl)) rfl
theorem wd_2_23 : Cond.fieldLink RX6 11 RX6 "reached" "[J" ∈ rh_all := rh_in (rh_t2 (List.mem_of_getElem? (i := 23) rfl)) rfl
theorem wd_4_161 : Cond.constantLong RX6 29 (-1) ∈ rh_all := rh_in (rh_t4 (List.mem_of_getElem? (i := 161) rfl)) rfl
theorem wd_2_22 : Cond.fieldLink RX6 15 RX6 "crowd" "LLighterAtDusk$Crowd;" ∈ rh_all := rh_in (rh_t2 (List.mem_of_getElem? (i := 22) rfl)) rfl
theorem wd_1_101 : Cond.fieldLink RX6 31 RX0 "persons" "I" ∈ rh_all := rh_in (rh_t1 (List.mem_of_getElem? (i := 101) rfl)) rfl
theorem wd_1_109 : Cond.fieldLink RX6 36 RX0 "sums" "[I" ∈ rh_all := rh_in (rh_t1 (List.mem_of_getElem? (i := 109) rfl)) rfl
theorem wd_4_117 : Cond.methodLink RX6 40 yJ7_fill_d0a16 ∈ rh_all := rh_in (rh_t4 (List.mem_of_getElem? (i := 117) rfl)) rfl
theorem wd_4_118 : Cond.static yJ7_fill_d0a16 ∈ rh_all := rh_in (rh_t4 (List.mem_of_getElem? (i := 118) rfl)) rfl
theorem wd_1_20 : Cond.initialized RJ7 ∈ rh_all := rh_in (rh_t1 (List.mem_of_getElem? (i := 20) rfl)) rfl
theorem wd_4_119 : Cond.code yJ7_fill_d0a16 cJ7_fill_d0a16 5 none ∈ rh_all := rh_in (rh_t4 (List.mem_of_getElem? (i := 119) rfl)) rfl
theorem wd_4_120 : Cond.methodLink RX6 46 yX6_reach ∈ rh_all := rh_in (rh_t4 (List.mem_of_getElem? (i := 120) rfl)) rfl
theorem wd_4_122 : Cond.instanceMethod yX6_reach ∈ rh_all := rh_in (rh_t4 (List.mem_of_getElem? (i := 122) rfl)) rfl
theorem wp_2_14 : Cond.selects RX6 yX6_reach yX6_reach ∈ rh_all := rh_in (rh_s2 (List.mem_of_getElem? (i := 14) rfl)) rfl
theorem wd_1_10 : Cond.initialized RX6 ∈ rh_all := rh_in (rh_t1 (List.mem_of_getElem? (i := 10) rfl)) rfl
theorem wd_4_123 : Cond.code yX6_reach cX6_reach 3 none ∈ rh_all := rh_in (rh_t4 (List.mem_of_getElem? (i := 123) rfl)) rfl
theorem wd_4_124 : Cond.methodLink RX6 50 yX0_sumAll ∈ rh_all := rh_in (rh_t4 (List.mem_of_getElem? (i := 124) rfl)) rfl
theorem wd_3_239 : Cond.instanceMethod yX0_sumAll ∈ rh_all := rh_in (rh_t3 (List.mem_of_getElem? (i := 239) rfl)) rfl
theorem wd_4_0 : Cond.selects RX0 yX0_sumAll yX0_sumAll ∈ rh_all := rh_in (rh_t4 (List.mem_of_getElem? (i := 0) rfl)) rfl
theorem wd_4_1 : Cond.code yX0_sumAll cX0_sumAll 6 none ∈ rh_all := rh_in (rh_t4 (List.mem_of_getElem? (i := 1) rfl)) rfl
theorem wd_4_125 : Cond.methodLink RX6 54 yX6_canEnd ∈ rh_all := rh_in (rh_t4 (List.mem_of_getElem? (i := 125) rfl)) rfl
theorem wd_4_127 : Cond.instanceMethod yX6_canEnd ∈ rh_all := rh_in (rh_t4 (List.mem_of_getElem? (i := 127) rfl)) rfl
theorem wp_2_15 : Cond.selects RX6 yX6_canEnd yX6_canEnd ∈ rh_all := rh_in (rh_s2 (List.mem_of_getElem? (i := 15) rfl)) rfl
theorem wd_4_128 : Cond.code yX6_canEnd cX6_canEnd 3 (some .boolean) ∈ rh_all := rh_in (rh_t4 (List.mem_of_getElem? (i := 128) rfl)) rfl
theorem wd_4_137 : Cond.methodLink RX6 58 yX6_widen ∈ rh_all := rh_in (rh_t4 (List.mem_of_getElem? (i := 137) rfl)) rfl
theorem wd_4_139 : Cond.instanceMethod yX6_widen ∈ rh_all := rh_in (rh_t4 (List.mem_of_getElem? (i := 139) rfl)) rfl
theorem wp_3_2 : Cond.selects RX6 yX6_widen yX6_widen ∈ rh_all := rh_in (rh_s3 (List.mem_of_getElem? (i := 2) rfl)) rfl
theorem wd_4_140 : Cond.code yX6_widen cX6_widen 5 none ∈ rh_all := rh_in (rh_t4 (List.mem_of_getElem? (i := 140) rfl)) rfl
theorem wd_4_129 : Cond.methodLink RX6 61 yX6_isReached ∈ rh_all := rh_in (rh_t4 (List.mem_of_getElem? (i := 129) rfl)) rfl
theorem wd_4_131 : Cond.instanceMethod yX6_isReached ∈ rh_all := rh_in (rh_t4 (List.mem_of_getElem? (i := 131) rfl)) rfl
theorem wp_3_0 : Cond.selects RX6 yX6_isReached yX6_isReached ∈ rh_all := rh_in (rh_s3 (List.mem_of_getElem? (i := 0) rfl)) rfl
theorem wd_4_132 : Cond.code yX6_isReached cX6_isReached 3 (some .boolean) ∈ rh_all := rh_in (rh_t4 (List.mem_of_getElem? (i := 132) rfl)) rfl
theorem wd_4_133 : Cond.methodLink RX6 65 yX6_carries ∈ rh_all := rh_in (rh_t4 (List.mem_of_getElem? (i := 133) rfl)) rfl
theorem wd_4_135 : Cond.instanceMethod yX6_carries ∈ rh_all := rh_in (rh_t4 (List.mem_of_getElem? (i := 135) rfl)) rfl
theorem wp_3_1 : Cond.selects RX6 yX6_carries yX6_carries ∈ rh_all := rh_in (rh_s3 (List.mem_of_getElem? (i := 1) rfl)) rfl
theorem wd_4_136 : Cond.code yX6_carries cX6_carries 2 (some .boolean) ∈ rh_all := rh_in (rh_t4 (List.mem_of_getElem? (i := 136) rfl)) rfl
theorem wd_4_141 : Cond.methodLink RX6 68 yX6_bankOf ∈ rh_all := rh_in (rh_t4 (List.mem_of_getElem? (i := 141) rfl)) rfl
theorem wd_4_143 : Cond.instanceMethod yX6_bankOf ∈ rh_all := rh_in (rh_t4 (List.mem_of_getElem? (i := 143) rfl)) rfl
theorem wp_3_3 : Cond.selects RX6 yX6_bankOf yX6_bankOf ∈ rh_all := rh_in (rh_s3 (List.mem_of_getElem? (i := 3) rfl)) rfl
theorem wd_4_144 : Cond.code yX6_bankOf cX6_bankOf 3 (some .int) ∈ rh_all := rh_in (rh_t4 (List.mem_of_getElem? (i := 144) rfl)) rfl
theorem wd_4_153 : Cond.methodLink RX6 72 yX6_leastLoad ∈ rh_all := rh_in (rh_t4 (List.mem_of_getElem? (i := 153) rfl)) rfl
theorem wd_4_155 : Cond.instanceMethod yX6_leastLoad ∈ rh_all := rh_in (rh_t4 (List.mem_of_getElem? (i := 155) rfl)) rfl
theorem wp_3_5 : Cond.selects RX6 yX6_leastLoad yX6_leastLoad ∈ rh_all := rh_in (rh_s3 (List.mem_of_getElem? (i := 5) rfl)) rfl
theorem wd_4_156 : Cond.code yX6_leastLoad cX6_leastLoad 6 (some .int) ∈ rh_all := rh_in (rh_t4 (List.mem_of_getElem? (i := 156) rfl)) rfl
theorem wd_4_157 : Cond.methodLink RX6 75 yX6_leave ∈ rh_all := rh_in (rh_t4 (List.mem_of_getElem? (i := 157) rfl)) rfl
theorem wd_4_159 : Cond.instanceMethod yX6_leave ∈ rh_all := rh_in (rh_t4 (List.mem_of_getElem? (i := 159) rfl)) rfl
theorem wp_3_6 : Cond.selects RX6 yX6_leave yX6_leave ∈ rh_all := rh_in (rh_s3 (List.mem_of_getElem? (i := 6) rfl)) rfl
theorem wd_4_160 : Cond.code yX6_leave cX6_leave 3 none ∈ rh_all := rh_in (rh_t4 (List.mem_of_getElem? (i := 160) rfl)) rfl
theorem wd_4_149 : Cond.methodLink RX6 78 yX6_prune ∈ rh_all := rh_in (rh_t4 (List.mem_of_getElem? (i := 149) rfl)) rfl
theorem wd_4_151 : Cond.instanceMethod yX6_prune ∈ rh_all := rh_in (rh_t4 (List.mem_of_getElem? (i := 151) rfl)) rfl
theorem wp_3_4 : Cond.selects RX6 yX6_prune yX6_prune ∈ rh_all := rh_in (rh_s3 (List.mem_of_getElem? (i := 4) rfl)) rfl
theorem wd_4_152 : Cond.code yX6_prune cX6_prune 3 none ∈ rh_all := rh_in (rh_t4 (List.mem_of_getElem? (i := 152) rfl)) rfl
theorem wd_4_162 : Cond.methodLink RX6 81 yX7_begin ∈ rh_all := rh_in (rh_t4 (List.mem_of_getElem? (i := 162) rfl)) rfl
theorem wd_3_129 : Cond.instanceMethod yX7_begin ∈ rh_all := rh_in (rh_t3 (List.mem_of_getElem? (i := 129) rfl)) rfl
theorem wd_3_130 : Cond.selects RX7 yX7_begin yX7_begin ∈ rh_all := rh_in (rh_t3 (List.mem_of_getElem? (i := 130) rfl)) rfl
theorem wd_1_2 : Cond.initialized RX7 ∈ rh_all := rh_in (rh_t1 (List.mem_of_getElem? (i := 2) rfl)) rfl
theorem wd_3_131 : Cond.code yX7_begin cX7_begin 1 none ∈ rh_all := rh_in (rh_t3 (List.mem_of_getElem? (i := 131) rfl)) rfl
theorem wd_4_163 : Cond.methodLink RX6 86 yX7_add ∈ rh_all := rh_in (rh_t4 (List.mem_of_getElem? (i := 163) rfl)) rfl
theorem wd_3_133 : Cond.instanceMethod yX7_add ∈ rh_all := rh_in (rh_t3 (List.mem_of_getElem? (i := 133) rfl)) rfl
theorem wd_3_134 : Cond.selects RX7 yX7_add yX7_add ∈ rh_all := rh_in (rh_t3 (List.mem_of_getElem? (i := 134) rfl)) rfl
theorem wd_3_135 : Cond.code yX7_add cX7_add 2 none ∈ rh_all := rh_in (rh_t3 (List.mem_of_getElem? (i := 135) rfl)) rfl
theorem wd_1_38 : Cond.fieldLink RX7 15 RX7 "length" "I" ∈ rh_all := rh_in (rh_t1 (List.mem_of_getElem? (i := 38) rfl)) rfl
theorem wd_1_36 : Cond.fieldLink RX7 9 RX7 "numbers" "[I" ∈ rh_all := rh_in (rh_t1 (List.mem_of_getElem? (i := 36) rfl)) rfl
theorem wd_3_201 : Cond.methodLink RX7 19 yX7_begin ∈ rh_all := rh_in (rh_t3 (List.mem_of_getElem? (i := 201) rfl)) rfl
theorem wd_3_202 : Cond.methodLink RX7 22 yX7_add ∈ rh_all := rh_in (rh_t3 (List.mem_of_getElem? (i := 202) rfl)) rfl
theorem wd_2_45 : Cond.fieldLink RX8 31 RX8 "size" "I" ∈ rh_all := rh_in (rh_t2 (List.mem_of_getElem? (i := 45) rfl)) rfl
theorem wd_2_47 : Cond.fieldLink RX8 11 RX8 "sets" "[I" ∈ rh_all := rh_in (rh_t2 (List.mem_of_getElem? (i := 47) rfl)) rfl
theorem wd_2_48 : Cond.fieldLink RX8 15 RX8 "waits" "[I" ∈ rh_all := rh_in (rh_t2 (List.mem_of_getElem? (i := 48) rfl)) rfl
theorem wd_2_49 : Cond.fieldLink RX8 18 RX8 "sums" "[I" ∈ rh_all := rh_in (rh_t2 (List.mem_of_getElem? (i := 49) rfl)) rfl
theorem wd_2_44 : Cond.fieldLink RX8 27 RX8 "crowd" "LLighterAtDusk$Crowd;" ∈ rh_all := rh_in (rh_t2 (List.mem_of_getElem? (i := 44) rfl)) rfl
theorem wd_5_85 : Cond.methodLink RX8 35 yX0_together ∈ rh_all := rh_in (rh_t5 (List.mem_of_getElem? (i := 85) rfl)) rfl
theorem wd_3_56 : Cond.instanceMethod yX0_together ∈ rh_all := rh_in (rh_t3 (List.mem_of_getElem? (i := 56) rfl)) rfl
theorem wd_3_57 : Cond.selects RX0 yX0_together yX0_together ∈ rh_all := rh_in (rh_t3 (List.mem_of_getElem? (i := 57) rfl)) rfl
theorem wd_3_58 : Cond.code yX0_together cX0_together 5 (some .int) ∈ rh_all := rh_in (rh_t3 (List.mem_of_getElem? (i := 58) rfl)) rfl
theorem wd_2_52 : Cond.fieldLink RX8 41 RX8 "needCount" "I" ∈ rh_all := rh_in (rh_t2 (List.mem_of_getElem? (i := 52) rfl)) rfl
theorem wd_2_50 : Cond.fieldLink RX8 21 RX8 "needs" "[I" ∈ rh_all := rh_in (rh_t2 (List.mem_of_getElem? (i := 50) rfl)) rfl
theorem wd_2_51 : Cond.fieldLink RX8 24 RX8 "moments" "[I" ∈ rh_all := rh_in (rh_t2 (List.mem_of_getElem? (i := 51) rfl)) rfl
theorem wd_5_98 : Cond.methodLink RX8 44 yX0_weightWith ∈ rh_all := rh_in (rh_t5 (List.mem_of_getElem? (i := 98) rfl)) rfl
theorem wd_5_99 : Cond.instanceMethod yX0_weightWith ∈ rh_all := rh_in (rh_t5 (List.mem_of_getElem? (i := 99) rfl)) rfl
theorem wd_5_100 : Cond.selects RX0 yX0_weightWith yX0_weightWith ∈ rh_all := rh_in (rh_t5 (List.mem_of_getElem? (i := 100) rfl)) rfl
theorem wd_5_101 : Cond.code yX0_weightWith cX0_weightWith 4 (some .int) ∈ rh_all := rh_in (rh_t5 (List.mem_of_getElem? (i := 101) rfl)) rfl
theorem wd_4_187 : Cond.fieldLink RX9 38 RX9 "raft" "I" ∈ rh_all := rh_in (rh_t4 (List.mem_of_getElem? (i := 187) rfl)) rfl
theorem wd_4_181 : Cond.fieldLink RX9 42 RX9 "standingCount" "I" ∈ rh_all := rh_in (rh_t4 (List.mem_of_getElem? (i := 181) rfl)) rfl
theorem wd_4_183 : Cond.fieldLink RX9 18 RX9 "ways" "[I" ∈ rh_all := rh_in (rh_t4 (List.mem_of_getElem? (i := 183) rfl)) rfl
theorem wd_4_184 : Cond.fieldLink RX9 21 RX9 "wayCounts" "[I" ∈ rh_all := rh_in (rh_t4 (List.mem_of_getElem? (i := 184) rfl)) rfl
theorem wd_4_178 : Cond.fieldLink RX9 30 RX9 "crowd" "LLighterAtDusk$Crowd;" ∈ rh_all := rh_in (rh_t4 (List.mem_of_getElem? (i := 178) rfl)) rfl
theorem wd_1_97 : Cond.fieldLink RX9 45 RX0 "size" "I" ∈ rh_all := rh_in (rh_t1 (List.mem_of_getElem? (i := 97) rfl)) rfl
theorem wd_4_179 : Cond.fieldLink RX9 34 RX9 "deck" "LLighterAtDusk$Deck;" ∈ rh_all := rh_in (rh_t4 (List.mem_of_getElem? (i := 179) rfl)) rfl
theorem wd_4_217 : Cond.methodLink RX9 50 yX2_isAboard ∈ rh_all := rh_in (rh_t4 (List.mem_of_getElem? (i := 217) rfl)) rfl
theorem wd_1_135 : Cond.fieldLink RX9 56 RX2 "places" "[I" ∈ rh_all := rh_in (rh_t1 (List.mem_of_getElem? (i := 135) rfl)) rfl
theorem wd_4_218 : Cond.fieldLink RX9 59 RX9 "UNITS" "[I" ∈ rh_all := rh_in (rh_t4 (List.mem_of_getElem? (i := 218) rfl)) rfl
theorem wd_4_180 : Cond.fieldLink RX9 9 RX9 "standing" "[I" ∈ rh_all := rh_in (rh_t4 (List.mem_of_getElem? (i := 180) rfl)) rfl
theorem wd_4_182 : Cond.fieldLink RX9 15 RX9 "weights" "[I" ∈ rh_all := rh_in (rh_t4 (List.mem_of_getElem? (i := 182) rfl)) rfl
theorem wd_1_129 : Cond.fieldLink RX9 62 RX2 "now" "I" ∈ rh_all := rh_in (rh_t1 (List.mem_of_getElem? (i := 129) rfl)) rfl
theorem wd_4_224 : Cond.methodLink RX9 65 yX0_weightAt ∈ rh_all := rh_in (rh_t4 (List.mem_of_getElem? (i := 224) rfl)) rfl
theorem wd_4_236 : Cond.methodLink RX9 69 yX9_bearsLean ∈ rh_all := rh_in (rh_t4 (List.mem_of_getElem? (i := 236) rfl)) rfl
theorem wd_4_238 : Cond.instanceMethod yX9_bearsLean ∈ rh_all := rh_in (rh_t4 (List.mem_of_getElem? (i := 238) rfl)) rfl
theorem wp_3_11 : Cond.selects RX9 yX9_bearsLean yX9_bearsLean ∈ rh_all := rh_in (rh_s3 (List.mem_of_getElem? (i := 11) rfl)) rfl
theorem wd_1_21 : Cond.initialized RX9 ∈ rh_all := rh_in (rh_t1 (List.mem_of_getElem? (i := 21) rfl)) rfl
theorem wd_4_239 : Cond.code yX9_bearsLean cX9_bearsLean 2 (some .boolean) ∈ rh_all := rh_in (rh_t4 (List.mem_of_getElem? (i := 239) rfl)) rfl
theorem wd_5_8 : Cond.constant RX9 72 (-1640531535) ∈ rh_all := rh_in (rh_t5 (List.mem_of_getElem? (i := 8) rfl)) rfl
theorem wd_4_186 : Cond.fieldLink RX9 27 RX9 "slots" "[I" ∈ rh_all := rh_in (rh_t4 (List.mem_of_getElem? (i := 186) rfl)) rfl
theorem wd_5_4 : Cond.methodLink RX9 73 yX9_slotOf ∈ rh_all := rh_in (rh_t5 (List.mem_of_getElem? (i := 4) rfl)) rfl
theorem wd_5_6 : Cond.instanceMethod yX9_slotOf ∈ rh_all := rh_in (rh_t5 (List.mem_of_getElem? (i := 6) rfl)) rfl
theorem wp_3_13 : Cond.selects RX9 yX9_slotOf yX9_slotOf ∈ rh_all := rh_in (rh_s3 (List.mem_of_getElem? (i := 13) rfl)) rfl
theorem wd_5_7 : Cond.code yX9_slotOf cX9_slotOf 6 (some .int) ∈ rh_all := rh_in (rh_t5 (List.mem_of_getElem? (i := 7) rfl)) rfl
theorem wd_4_213 : Cond.methodLink RX9 76 yX9_begin ∈ rh_all := rh_in (rh_t4 (List.mem_of_getElem? (i := 213) rfl)) rfl
theorem wd_4_215 : Cond.instanceMethod yX9_begin ∈ rh_all := rh_in (rh_t4 (List.mem_of_getElem? (i := 215) rfl)) rfl
theorem wp_3_7 : Cond.selects RX9 yX9_begin yX9_begin ∈ rh_all := rh_in (rh_s3 (List.mem_of_getElem? (i := 7) rfl)) rfl
theorem wd_4_216 : Cond.code yX9_begin cX9_begin 3 none ∈ rh_all := rh_in (rh_t4 (List.mem_of_getElem? (i := 216) rfl)) rfl
theorem wd_4_220 : Cond.methodLink RX9 80 yX9_weighAt ∈ rh_all := rh_in (rh_t4 (List.mem_of_getElem? (i := 220) rfl)) rfl
theorem wd_4_222 : Cond.instanceMethod yX9_weighAt ∈ rh_all := rh_in (rh_t4 (List.mem_of_getElem? (i := 222) rfl)) rfl
theorem wp_3_8 : Cond.selects RX9 yX9_weighAt yX9_weighAt ∈ rh_all := rh_in (rh_s3 (List.mem_of_getElem? (i := 8) rfl)) rfl
theorem wd_4_223 : Cond.code yX9_weighAt cX9_weighAt 3 none ∈ rh_all := rh_in (rh_t4 (List.mem_of_getElem? (i := 223) rfl)) rfl
theorem wd_4_225 : Cond.methodLink RX9 83 yJ7_fill_53178 ∈ rh_all := rh_in (rh_t4 (List.mem_of_getElem? (i := 225) rfl)) rfl
theorem wd_4_226 : Cond.static yJ7_fill_53178 ∈ rh_all := rh_in (rh_t4 (List.mem_of_getElem? (i := 226) rfl)) rfl
theorem wd_4_227 : Cond.code yJ7_fill_53178 cJ7_fill_53178 4 none ∈ rh_all := rh_in (rh_t4 (List.mem_of_getElem? (i := 227) rfl)) rfl
theorem wd_4_228 : Cond.methodLink RX9 89 yX9_widenFrom ∈ rh_all := rh_in (rh_t4 (List.mem_of_getElem? (i := 228) rfl)) rfl
theorem wd_4_230 : Cond.instanceMethod yX9_widenFrom ∈ rh_all := rh_in (rh_t4 (List.mem_of_getElem? (i := 230) rfl)) rfl
theorem wp_3_9 : Cond.selects RX9 yX9_widenFrom yX9_widenFrom ∈ rh_all := rh_in (rh_s3 (List.mem_of_getElem? (i := 9) rfl)) rfl
theorem wd_4_231 : Cond.code yX9_widenFrom cX9_widenFrom 6 (some .boolean) ∈ rh_all := rh_in (rh_t4 (List.mem_of_getElem? (i := 231) rfl)) rfl
theorem wd_4_232 : Cond.methodLink RX9 93 yX9_leanOf ∈ rh_all := rh_in (rh_t4 (List.mem_of_getElem? (i := 232) rfl)) rfl
theorem wd_4_234 : Cond.instanceMethod yX9_leanOf ∈ rh_all := rh_in (rh_t4 (List.mem_of_getElem? (i := 234) rfl)) rfl
theorem wp_3_10 : Cond.selects RX9 yX9_leanOf yX9_leanOf ∈ rh_all := rh_in (rh_s3 (List.mem_of_getElem? (i := 10) rfl)) rfl
theorem wd_4_235 : Cond.code yX9_leanOf cX9_leanOf 5 (some .int) ∈ rh_all := rh_in (rh_t4 (List.mem_of_getElem? (i := 235) rfl)) rfl
theorem wd_5_0 : Cond.methodLink RX9 97 yX9_addWay ∈ rh_all := rh_in (rh_t5 (List.mem_of_getElem? (i := 0) rfl)) rfl
theorem wd_5_2 : Cond.instanceMethod yX9_addWay ∈ rh_all := rh_in (rh_t5 (List.mem_of_getElem? (i := 2) rfl)) rfl
theorem wp_3_12 : Cond.selects RX9 yX9_addWay yX9_addWay ∈ rh_all := rh_in (rh_s3 (List.mem_of_getElem? (i := 12) rfl)) rfl
theorem wd_5_3 : Cond.code yX9_addWay cX9_addWay 4 (some .boolean) ∈ rh_all := rh_in (rh_t5 (List.mem_of_getElem? (i := 3) rfl)) rfl
theorem wd_5_9 : Cond.methodLink RX9 100 yX9_stepped ∈ rh_all := rh_in (rh_t5 (List.mem_of_getElem? (i := 9) rfl)) rfl
theorem wd_5_11 : Cond.instanceMethod yX9_stepped ∈ rh_all := rh_in (rh_t5 (List.mem_of_getElem? (i := 11) rfl)) rfl
theorem wp_3_14 : Cond.selects RX9 yX9_stepped yX9_stepped ∈ rh_all := rh_in (rh_s3 (List.mem_of_getElem? (i := 14) rfl)) rfl
theorem wd_5_12 : Cond.code yX9_stepped cX9_stepped 6 (some .int) ∈ rh_all := rh_in (rh_t5 (List.mem_of_getElem? (i := 12) rfl)) rfl
theorem wd_4_185 : Cond.fieldLink RX9 24 RX9 "best" "[I" ∈ rh_all := rh_in (rh_t4 (List.mem_of_getElem? (i := 185) rfl)) rfl
theorem wd_5_17 : Cond.methodLink RX9 104 yX9_bestFrom ∈ rh_all := rh_in (rh_t5 (List.mem_of_getElem? (i := 17) rfl)) rfl
theorem wd_5_19 : Cond.instanceMethod yX9_bestFrom ∈ rh_all := rh_in (rh_t5 (List.mem_of_getElem? (i := 19) rfl)) rfl
theorem wp_3_15 : Cond.selects RX9 yX9_bestFrom yX9_bestFrom ∈ rh_all := rh_in (rh_s3 (List.mem_of_getElem? (i := 15) rfl)) rfl
theorem wd_5_20 : Cond.code yX9_bestFrom cX9_bestFrom 7 (some .int) ∈ rh_all := rh_in (rh_t5 (List.mem_of_getElem? (i := 20) rfl)) rfl
theorem wd_5_21 : Cond.constant RX9 107 (1000000000) ∈ rh_all := rh_in (rh_t5 (List.mem_of_getElem? (i := 21) rfl)) rfl
theorem wd_5_22 : Cond.methodLink RX9 108 yX9_bestBy ∈ rh_all := rh_in (rh_t5 (List.mem_of_getElem? (i := 22) rfl)) rfl
theorem wd_5_24 : Cond.instanceMethod yX9_bestBy ∈ rh_all := rh_in (rh_t5 (List.mem_of_getElem? (i := 24) rfl)) rfl
theorem wp_4_0 : Cond.selects RX9 yX9_bestBy yX9_bestBy ∈ rh_all := rh_in (rh_s4 (List.mem_of_getElem? (i := 0) rfl)) rfl
theorem wd_5_25 : Cond.code yX9_bestBy cX9_bestBy 7 (some .int) ∈ rh_all := rh_in (rh_t5 (List.mem_of_getElem? (i := 25) rfl)) rfl
theorem wd_5_26 : Cond.methodLink RX9 111 yJ9_min_7cf53 ∈ rh_all := rh_in (rh_t5 (List.mem_of_getElem? (i := 26) rfl)) rfl
theorem wd_5_31 : Cond.methodLink RX9 116 yX7_tell ∈ rh_all := rh_in (rh_t5 (List.mem_of_getElem? (i := 31) rfl)) rfl
theorem wd_3_198 : Cond.instanceMethod yX7_tell ∈ rh_all := rh_in (rh_t3 (List.mem_of_getElem? (i := 198) rfl)) rfl
theorem wd_3_199 : Cond.selects RX7 yX7_tell yX7_tell ∈ rh_all := rh_in (rh_t3 (List.mem_of_getElem? (i := 199) rfl)) rfl
theorem wd_3_200 : Cond.code yX7_tell cX7_tell 2 none ∈ rh_all := rh_in (rh_t3 (List.mem_of_getElem? (i := 200) rfl)) rfl
theorem wd_5_32 : Cond.methodLink RX9 121 yX9_indexOf ∈ rh_all := rh_in (rh_t5 (List.mem_of_getElem? (i := 32) rfl)) rfl
theorem wd_5_34 : Cond.instanceMethod yX9_indexOf ∈ rh_all := rh_in (rh_t5 (List.mem_of_getElem? (i := 34) rfl)) rfl
theorem wp_4_1 : Cond.selects RX9 yX9_indexOf yX9_indexOf ∈ rh_all := rh_in (rh_s4 (List.mem_of_getElem? (i := 1) rfl)) rfl
theorem wd_5_35 : Cond.code yX9_indexOf cX9_indexOf 4 (some .int) ∈ rh_all := rh_in (rh_t5 (List.mem_of_getElem? (i := 35) rfl)) rfl
theorem wd_5_36 : Cond.methodLink RX9 124 yX7_add ∈ rh_all := rh_in (rh_t5 (List.mem_of_getElem? (i := 36) rfl)) rfl
theorem wd_5_37 : Cond.methodLink RX9 127 yX9_behindMove ∈ rh_all := rh_in (rh_t5 (List.mem_of_getElem? (i := 37) rfl)) rfl
theorem wd_5_39 : Cond.instanceMethod yX9_behindMove ∈ rh_all := rh_in (rh_t5 (List.mem_of_getElem? (i := 39) rfl)) rfl
theorem wp_4_2 : Cond.selects RX9 yX9_behindMove yX9_behindMove ∈ rh_all := rh_in (rh_s4 (List.mem_of_getElem? (i := 2) rfl)) rfl
theorem wd_5_40 : Cond.code yX9_behindMove cX9_behindMove 4 (some .int) ∈ rh_all := rh_in (rh_t5 (List.mem_of_getElem? (i := 40) rfl)) rfl
theorem wd_1_229 : Cond.fieldLink RX10 31 RX10 "size" "I" ∈ rh_all := rh_in (rh_t1 (List.mem_of_getElem? (i := 229) rfl)) rfl
theorem wd_1_231 : Cond.fieldLink RX10 9 RX10 "lows" "[I" ∈ rh_all := rh_in (rh_t1 (List.mem_of_getElem? (i := 231) rfl)) rfl
theorem wd_1_233 : Cond.fieldLink RX10 15 RX10 "highs" "[I" ∈ rh_all := rh_in (rh_t1 (List.mem_of_getElem? (i := 233) rfl)) rfl
theorem wd_4_55 : Cond.methodLink RX10 35 yX10_suits ∈ rh_all := rh_in (rh_t4 (List.mem_of_getElem? (i := 55) rfl)) rfl
theorem wd_4_39 : Cond.instanceMethod yX10_suits ∈ rh_all := rh_in (rh_t4 (List.mem_of_getElem? (i := 39) rfl)) rfl
theorem wd_4_40 : Cond.selects RX10 yX10_suits yX10_suits ∈ rh_all := rh_in (rh_t4 (List.mem_of_getElem? (i := 40) rfl)) rfl
theorem wd_1_9 : Cond.initialized RX10 ∈ rh_all := rh_in (rh_t1 (List.mem_of_getElem? (i := 9) rfl)) rfl
theorem wd_4_41 : Cond.code yX10_suits cX10_suits 3 (some .boolean) ∈ rh_all := rh_in (rh_t4 (List.mem_of_getElem? (i := 41) rfl)) rfl
theorem wd_4_50 : Cond.methodLink RX10 39 yX0_sets ∈ rh_all := rh_in (rh_t4 (List.mem_of_getElem? (i := 50) rfl)) rfl
theorem wd_1_108 : Cond.fieldLink RX10 45 RX0 "sums" "[I" ∈ rh_all := rh_in (rh_t1 (List.mem_of_getElem? (i := 108) rfl)) rfl
theorem wd_4_51 : Cond.methodLink RX10 48 yX10_suitedBy ∈ rh_all := rh_in (rh_t4 (List.mem_of_getElem? (i := 51) rfl)) rfl
theorem wd_4_53 : Cond.instanceMethod yX10_suitedBy ∈ rh_all := rh_in (rh_t4 (List.mem_of_getElem? (i := 53) rfl)) rfl
theorem wp_2_9 : Cond.selects RX10 yX10_suitedBy yX10_suitedBy ∈ rh_all := rh_in (rh_s2 (List.mem_of_getElem? (i := 9) rfl)) rfl
theorem wd_4_54 : Cond.code yX10_suitedBy cX10_suitedBy 4 (some .int) ∈ rh_all := rh_in (rh_t4 (List.mem_of_getElem? (i := 54) rfl)) rfl
theorem wd_4_67 : Cond.fieldLink RX10 52 RX10 "GROUPS_WITH" "[J" ∈ rh_all := rh_in (rh_t4 (List.mem_of_getElem? (i := 67) rfl)) rfl
theorem wd_4_69 : Cond.constantLong RX10 55 (-1) ∈ rh_all := rh_in (rh_t4 (List.mem_of_getElem? (i := 69) rfl)) rfl
theorem wd_1_237 : Cond.fieldLink RX10 21 RX10 "left" "[J" ∈ rh_all := rh_in (rh_t1 (List.mem_of_getElem? (i := 237) rfl)) rfl
theorem wd_1_235 : Cond.fieldLink RX10 18 RX10 "doableAt" "[I" ∈ rh_all := rh_in (rh_t1 (List.mem_of_getElem? (i := 235) rfl)) rfl
theorem wd_4_64 : Cond.methodLink RX10 57 yX10_withTask ∈ rh_all := rh_in (rh_t4 (List.mem_of_getElem? (i := 64) rfl)) rfl
theorem wd_4_65 : Cond.static yX10_withTask ∈ rh_all := rh_in (rh_t4 (List.mem_of_getElem? (i := 65) rfl)) rfl
theorem wd_4_66 : Cond.code yX10_withTask cX10_withTask 3 (some .long) ∈ rh_all := rh_in (rh_t4 (List.mem_of_getElem? (i := 66) rfl)) rfl
theorem wd_4_70 : Cond.methodLink RX10 61 yX10_canBeLeft ∈ rh_all := rh_in (rh_t4 (List.mem_of_getElem? (i := 70) rfl)) rfl
theorem wd_4_72 : Cond.instanceMethod yX10_canBeLeft ∈ rh_all := rh_in (rh_t4 (List.mem_of_getElem? (i := 72) rfl)) rfl
theorem wp_2_10 : Cond.selects RX10 yX10_canBeLeft yX10_canBeLeft ∈ rh_all := rh_in (rh_s2 (List.mem_of_getElem? (i := 10) rfl)) rfl
theorem wd_4_73 : Cond.code yX10_canBeLeft cX10_canBeLeft 3 (some .boolean) ∈ rh_all := rh_in (rh_t4 (List.mem_of_getElem? (i := 73) rfl)) rfl
theorem wd_4_78 : Cond.methodLink RX10 64 yX7_begin ∈ rh_all := rh_in (rh_t4 (List.mem_of_getElem? (i := 78) rfl)) rfl
theorem wd_4_79 : Cond.methodLink RX10 69 yX10_nextTask ∈ rh_all := rh_in (rh_t4 (List.mem_of_getElem? (i := 79) rfl)) rfl
theorem wd_4_81 : Cond.instanceMethod yX10_nextTask ∈ rh_all := rh_in (rh_t4 (List.mem_of_getElem? (i := 81) rfl)) rfl
theorem wp_2_11 : Cond.selects RX10 yX10_nextTask yX10_nextTask ∈ rh_all := rh_in (rh_s2 (List.mem_of_getElem? (i := 11) rfl)) rfl
theorem wd_4_82 : Cond.code yX10_nextTask cX10_nextTask 5 (some .int) ∈ rh_all := rh_in (rh_t4 (List.mem_of_getElem? (i := 82) rfl)) rfl
theorem wd_4_83 : Cond.methodLink RX10 73 yX7_add ∈ rh_all := rh_in (rh_t4 (List.mem_of_getElem? (i := 83) rfl)) rfl
theorem wd_1_239 : Cond.fieldLink RX10 28 RX10 "able" "[I" ∈ rh_all := rh_in (rh_t1 (List.mem_of_getElem? (i := 239) rfl)) rfl
theorem wd_1_238 : Cond.fieldLink RX10 25 RX10 "groups" "[J" ∈ rh_all := rh_in (rh_t1 (List.mem_of_getElem? (i := 238) rfl)) rfl
theorem wd_4_92 : Cond.methodLink RX10 77 yX10_groupsOf ∈ rh_all := rh_in (rh_t4 (List.mem_of_getElem? (i := 92) rfl)) rfl
theorem wd_4_94 : Cond.instanceMethod yX10_groupsOf ∈ rh_all := rh_in (rh_t4 (List.mem_of_getElem? (i := 94) rfl)) rfl
theorem wp_2_12 : Cond.selects RX10 yX10_groupsOf yX10_groupsOf ∈ rh_all := rh_in (rh_s2 (List.mem_of_getElem? (i := 12) rfl)) rfl
theorem wd_4_95 : Cond.code yX10_groupsOf cX10_groupsOf 10 (some .long) ∈ rh_all := rh_in (rh_t4 (List.mem_of_getElem? (i := 95) rfl)) rfl
theorem wd_4_96 : Cond.methodLink RX10 81 yJ6_bitCount_0f7a4 ∈ rh_all := rh_in (rh_t4 (List.mem_of_getElem? (i := 96) rfl)) rfl
theorem wd_4_8 : Cond.static yJ6_bitCount_0f7a4 ∈ rh_all := rh_in (rh_t4 (List.mem_of_getElem? (i := 8) rfl)) rfl
theorem wd_1_19 : Cond.initialized RJ6 ∈ rh_all := rh_in (rh_t1 (List.mem_of_getElem? (i := 19) rfl)) rfl
theorem wd_4_9 : Cond.code yJ6_bitCount_0f7a4 cJ6_bitCount_0f7a4 1 (some .int) ∈ rh_all := rh_in (rh_t4 (List.mem_of_getElem? (i := 9) rfl)) rfl
theorem wd_2_71 : Cond.fieldLink RX11 77 RX11 "signCount" "I" ∈ rh_all := rh_in (rh_t2 (List.mem_of_getElem? (i := 71) rfl)) rfl
theorem wd_2_70 : Cond.fieldLink RX11 7 RX11 "signs" "[I" ∈ rh_all := rh_in (rh_t2 (List.mem_of_getElem? (i := 70) rfl)) rfl
theorem wd_2_122 : Cond.methodLink RX11 81 yX11_takeText ∈ rh_all := rh_in (rh_t2 (List.mem_of_getElem? (i := 122) rfl)) rfl
theorem wd_2_124 : Cond.instanceMethod yX11_takeText ∈ rh_all := rh_in (rh_t2 (List.mem_of_getElem? (i := 124) rfl)) rfl
theorem wp_1_0 : Cond.selects RX11 yX11_takeText yX11_takeText ∈ rh_all := rh_in (rh_s1 (List.mem_of_getElem? (i := 0) rfl)) rfl
theorem wd_1_1 : Cond.initialized RX11 ∈ rh_all := rh_in (rh_t1 (List.mem_of_getElem? (i := 1) rfl)) rfl
theorem wd_2_125 : Cond.code yX11_takeText cX11_takeText 2 (some .int) ∈ rh_all := rh_in (rh_t2 (List.mem_of_getElem? (i := 125) rfl)) rfl
theorem wd_2_75 : Cond.fieldLink RX11 39 RX11 "folkReader" "LLighterAtDusk$FolkReader;" ∈ rh_all := rh_in (rh_t2 (List.mem_of_getElem? (i := 75) rfl)) rfl
theorem wd_2_73 : Cond.fieldLink RX11 23 RX11 "crowd" "LLighterAtDusk$Crowd;" ∈ rh_all := rh_in (rh_t2 (List.mem_of_getElem? (i := 73) rfl)) rfl
theorem wd_1_99 : Cond.fieldLink RX11 85 RX0 "size" "I" ∈ rh_all := rh_in (rh_t1 (List.mem_of_getElem? (i := 99) rfl)) rfl
theorem wd_1_171 : Cond.fieldLink RX11 88 RX3 "room" "I" ∈ rh_all := rh_in (rh_t1 (List.mem_of_getElem? (i := 171) rfl)) rfl
theorem wd_2_126 : Cond.methodLink RX11 91 ⟨RX3, "readThrough", "([III)I"⟩ ∈ rh_all := rh_in (rh_t2 (List.mem_of_getElem? (i := 126) rfl)) rfl
theorem wd_2_127 : Cond.sameMethod RX3 RX5 "readThrough" "([III)I" ∈ rh_all := rh_in (rh_t2 (List.mem_of_getElem? (i := 127) rfl)) rfl
theorem wd_2_129 : Cond.selects RX3 ⟨RX3, "readThrough", "([III)I"⟩ yX5_readThrough ∈ rh_all := rh_in (rh_t2 (List.mem_of_getElem? (i := 129) rfl)) rfl
theorem wd_2_130 : Cond.instanceMethod yX5_readThrough ∈ rh_all := rh_in (rh_t2 (List.mem_of_getElem? (i := 130) rfl)) rfl
theorem wd_2_131 : Cond.code yX5_readThrough cX5_readThrough 6 (some .int) ∈ rh_all := rh_in (rh_t2 (List.mem_of_getElem? (i := 131) rfl)) rfl
theorem wd_1_174 : Cond.fieldLink RX11 95 RX3 "lines" "I" ∈ rh_all := rh_in (rh_t1 (List.mem_of_getElem? (i := 174) rfl)) rfl
theorem wd_3_6 : Cond.methodLink RX11 98 yX3_isPerson ∈ rh_all := rh_in (rh_t3 (List.mem_of_getElem? (i := 6) rfl)) rfl
theorem wd_3_7 : Cond.instanceMethod yX3_isPerson ∈ rh_all := rh_in (rh_t3 (List.mem_of_getElem? (i := 7) rfl)) rfl
theorem wd_3_8 : Cond.selects RX3 yX3_isPerson yX3_isPerson ∈ rh_all := rh_in (rh_t3 (List.mem_of_getElem? (i := 8) rfl)) rfl
theorem wd_3_9 : Cond.code yX3_isPerson cX3_isPerson 2 (some .boolean) ∈ rh_all := rh_in (rh_t3 (List.mem_of_getElem? (i := 9) rfl)) rfl
theorem wd_1_170 : Cond.fieldLink RX11 102 RX3 "bases" "[I" ∈ rh_all := rh_in (rh_t1 (List.mem_of_getElem? (i := 170) rfl)) rfl
theorem wd_3_10 : Cond.methodLink RX11 105 yX0_join ∈ rh_all := rh_in (rh_t3 (List.mem_of_getElem? (i := 10) rfl)) rfl
theorem wd_3_11 : Cond.instanceMethod yX0_join ∈ rh_all := rh_in (rh_t3 (List.mem_of_getElem? (i := 11) rfl)) rfl
theorem wd_3_12 : Cond.selects RX0 yX0_join yX0_join ∈ rh_all := rh_in (rh_t3 (List.mem_of_getElem? (i := 12) rfl)) rfl
theorem wd_3_13 : Cond.code yX0_join cX0_join 3 none ∈ rh_all := rh_in (rh_t3 (List.mem_of_getElem? (i := 13) rfl)) rfl
theorem wd_2_74 : Cond.fieldLink RX11 32 RX11 "deck" "LLighterAtDusk$Deck;" ∈ rh_all := rh_in (rh_t2 (List.mem_of_getElem? (i := 74) rfl)) rfl
theorem wd_3_14 : Cond.methodLink RX11 109 yX2_forgetPast ∈ rh_all := rh_in (rh_t3 (List.mem_of_getElem? (i := 14) rfl)) rfl
theorem wd_3_15 : Cond.instanceMethod yX2_forgetPast ∈ rh_all := rh_in (rh_t3 (List.mem_of_getElem? (i := 15) rfl)) rfl
theorem wd_3_16 : Cond.selects RX2 yX2_forgetPast yX2_forgetPast ∈ rh_all := rh_in (rh_t3 (List.mem_of_getElem? (i := 16) rfl)) rfl
theorem wd_3_17 : Cond.code yX2_forgetPast cX2_forgetPast 1 none ∈ rh_all := rh_in (rh_t3 (List.mem_of_getElem? (i := 17) rfl)) rfl
theorem wd_3_18 : Cond.methodLink RX11 112 yX2_forgetKept ∈ rh_all := rh_in (rh_t3 (List.mem_of_getElem? (i := 18) rfl)) rfl
theorem wd_3_19 : Cond.instanceMethod yX2_forgetKept ∈ rh_all := rh_in (rh_t3 (List.mem_of_getElem? (i := 19) rfl)) rfl
theorem wd_3_20 : Cond.selects RX2 yX2_forgetKept yX2_forgetKept ∈ rh_all := rh_in (rh_t3 (List.mem_of_getElem? (i := 20) rfl)) rfl
theorem wd_3_21 : Cond.code yX2_forgetKept cX2_forgetKept 1 none ∈ rh_all := rh_in (rh_t3 (List.mem_of_getElem? (i := 21) rfl)) rfl
theorem wd_1_106 : Cond.fieldLink RX11 115 RX0 "habit" "LLighterAtDusk$Habit;" ∈ rh_all := rh_in (rh_t1 (List.mem_of_getElem? (i := 106) rfl)) rfl
theorem wd_3_26 : Cond.methodLink RX11 119 yX4_drop ∈ rh_all := rh_in (rh_t3 (List.mem_of_getElem? (i := 26) rfl)) rfl
theorem wd_3_27 : Cond.instanceMethod yX4_drop ∈ rh_all := rh_in (rh_t3 (List.mem_of_getElem? (i := 27) rfl)) rfl
theorem wd_3_28 : Cond.selects RX4 yX4_drop yX4_drop ∈ rh_all := rh_in (rh_t3 (List.mem_of_getElem? (i := 28) rfl)) rfl
theorem wd_3_29 : Cond.code yX4_drop cX4_drop 1 none ∈ rh_all := rh_in (rh_t3 (List.mem_of_getElem? (i := 29) rfl)) rfl
theorem wd_3_30 : Cond.methodLink RX11 124 ⟨RX4, "readThrough", "([III)I"⟩ ∈ rh_all := rh_in (rh_t3 (List.mem_of_getElem? (i := 30) rfl)) rfl
theorem wd_3_31 : Cond.sameMethod RX4 RX5 "readThrough" "([III)I" ∈ rh_all := rh_in (rh_t3 (List.mem_of_getElem? (i := 31) rfl)) rfl
theorem wd_3_32 : Cond.selects RX4 ⟨RX4, "readThrough", "([III)I"⟩ yX5_readThrough ∈ rh_all := rh_in (rh_t3 (List.mem_of_getElem? (i := 32) rfl)) rfl
theorem wd_3_33 : Cond.methodLink RX11 125 yX4_adopt ∈ rh_all := rh_in (rh_t3 (List.mem_of_getElem? (i := 33) rfl)) rfl
theorem wd_3_34 : Cond.instanceMethod yX4_adopt ∈ rh_all := rh_in (rh_t3 (List.mem_of_getElem? (i := 34) rfl)) rfl
theorem wd_3_35 : Cond.selects RX4 yX4_adopt yX4_adopt ∈ rh_all := rh_in (rh_t3 (List.mem_of_getElem? (i := 35) rfl)) rfl
theorem wd_3_36 : Cond.code yX4_adopt cX4_adopt 1 none ∈ rh_all := rh_in (rh_t3 (List.mem_of_getElem? (i := 36) rfl)) rfl
theorem wd_3_148 : Cond.methodLink RX11 128 yX0_has ∈ rh_all := rh_in (rh_t3 (List.mem_of_getElem? (i := 148) rfl)) rfl
theorem wd_3_149 : Cond.instanceMethod yX0_has ∈ rh_all := rh_in (rh_t3 (List.mem_of_getElem? (i := 149) rfl)) rfl
theorem wd_3_150 : Cond.selects RX0 yX0_has yX0_has ∈ rh_all := rh_in (rh_t3 (List.mem_of_getElem? (i := 150) rfl)) rfl
theorem wd_3_151 : Cond.code yX0_has cX0_has 2 (some .boolean) ∈ rh_all := rh_in (rh_t3 (List.mem_of_getElem? (i := 151) rfl)) rfl
theorem wd_5_117 : Cond.methodLink RX11 134 yX0_isPerson ∈ rh_all := rh_in (rh_t5 (List.mem_of_getElem? (i := 117) rfl)) rfl
theorem wd_1_104 : Cond.fieldLink RX11 135 RX0 "bases" "[I" ∈ rh_all := rh_in (rh_t1 (List.mem_of_getElem? (i := 104) rfl)) rfl
theorem wd_1_131 : Cond.fieldLink RX11 136 RX2 "now" "I" ∈ rh_all := rh_in (rh_t1 (List.mem_of_getElem? (i := 131) rfl)) rfl
theorem wd_3_153 : Cond.methodLink RX11 139 yX0_weightAt ∈ rh_all := rh_in (rh_t3 (List.mem_of_getElem? (i := 153) rfl)) rfl
theorem wd_1_136 : Cond.fieldLink RX11 143 RX2 "places" "[I" ∈ rh_all := rh_in (rh_t1 (List.mem_of_getElem? (i := 136) rfl)) rfl
theorem wd_1_133 : Cond.fieldLink RX11 146 RX2 "aboard" "I" ∈ rh_all := rh_in (rh_t1 (List.mem_of_getElem? (i := 133) rfl)) rfl
theorem wd_3_215 : Cond.methodLink RX11 149 yX11_dawn ∈ rh_all := rh_in (rh_t3 (List.mem_of_getElem? (i := 215) rfl)) rfl
theorem wd_3_217 : Cond.instanceMethod yX11_dawn ∈ rh_all := rh_in (rh_t3 (List.mem_of_getElem? (i := 217) rfl)) rfl
theorem wp_2_6 : Cond.selects RX11 yX11_dawn yX11_dawn ∈ rh_all := rh_in (rh_s2 (List.mem_of_getElem? (i := 6) rfl)) rfl
theorem wd_3_218 : Cond.code yX11_dawn cX11_dawn 1 (some .int) ∈ rh_all := rh_in (rh_t3 (List.mem_of_getElem? (i := 218) rfl)) rfl
theorem wd_3_52 : Cond.methodLink RX11 152 yX11_within ∈ rh_all := rh_in (rh_t3 (List.mem_of_getElem? (i := 52) rfl)) rfl
theorem wd_3_53 : Cond.static yX11_within ∈ rh_all := rh_in (rh_t3 (List.mem_of_getElem? (i := 53) rfl)) rfl
theorem wd_3_54 : Cond.code yX11_within cX11_within 3 (some .boolean) ∈ rh_all := rh_in (rh_t3 (List.mem_of_getElem? (i := 54) rfl)) rfl
theorem wd_3_44 : Cond.methodLink RX11 156 yX0_holds ∈ rh_all := rh_in (rh_t3 (List.mem_of_getElem? (i := 44) rfl)) rfl
theorem wd_3_45 : Cond.instanceMethod yX0_holds ∈ rh_all := rh_in (rh_t3 (List.mem_of_getElem? (i := 45) rfl)) rfl
theorem wd_3_46 : Cond.selects RX0 yX0_holds yX0_holds ∈ rh_all := rh_in (rh_t3 (List.mem_of_getElem? (i := 46) rfl)) rfl
theorem wd_3_47 : Cond.code yX0_holds cX0_holds 2 (some .boolean) ∈ rh_all := rh_in (rh_t3 (List.mem_of_getElem? (i := 47) rfl)) rfl
theorem wd_3_55 : Cond.methodLink RX11 159 yX0_together ∈ rh_all := rh_in (rh_t3 (List.mem_of_getElem? (i := 55) rfl)) rfl
theorem wd_2_80 : Cond.fieldLink RX11 71 RX11 "bears" "[I" ∈ rh_all := rh_in (rh_t2 (List.mem_of_getElem? (i := 80) rfl)) rfl
theorem wd_3_86 : Cond.methodLink RX11 162 yX0_rebase ∈ rh_all := rh_in (rh_t3 (List.mem_of_getElem? (i := 86) rfl)) rfl
theorem wd_3_87 : Cond.instanceMethod yX0_rebase ∈ rh_all := rh_in (rh_t3 (List.mem_of_getElem? (i := 87) rfl)) rfl
theorem wd_3_88 : Cond.selects RX0 yX0_rebase yX0_rebase ∈ rh_all := rh_in (rh_t3 (List.mem_of_getElem? (i := 88) rfl)) rfl
theorem wd_3_89 : Cond.code yX0_rebase cX0_rebase 9 (some .int) ∈ rh_all := rh_in (rh_t3 (List.mem_of_getElem? (i := 89) rfl)) rfl
theorem wd_3_99 : Cond.methodLink RX11 166 yX2_leanAt ∈ rh_all := rh_in (rh_t3 (List.mem_of_getElem? (i := 99) rfl)) rfl
theorem wd_3_100 : Cond.instanceMethod yX2_leanAt ∈ rh_all := rh_in (rh_t3 (List.mem_of_getElem? (i := 100) rfl)) rfl
theorem wd_3_101 : Cond.selects RX2 yX2_leanAt yX2_leanAt ∈ rh_all := rh_in (rh_t3 (List.mem_of_getElem? (i := 101) rfl)) rfl
theorem wd_3_102 : Cond.code yX2_leanAt cX2_leanAt 4 (some .int) ∈ rh_all := rh_in (rh_t3 (List.mem_of_getElem? (i := 102) rfl)) rfl
theorem wd_3_108 : Cond.methodLink RX11 170 yX11_tipsBy ∈ rh_all := rh_in (rh_t3 (List.mem_of_getElem? (i := 108) rfl)) rfl
theorem wd_3_110 : Cond.instanceMethod yX11_tipsBy ∈ rh_all := rh_in (rh_t3 (List.mem_of_getElem? (i := 110) rfl)) rfl
theorem wp_1_13 : Cond.selects RX11 yX11_tipsBy yX11_tipsBy ∈ rh_all := rh_in (rh_s1 (List.mem_of_getElem? (i := 13) rfl)) rfl
theorem wd_3_111 : Cond.code yX11_tipsBy cX11_tipsBy 2 (some .boolean) ∈ rh_all := rh_in (rh_t3 (List.mem_of_getElem? (i := 111) rfl)) rfl
theorem wd_3_115 : Cond.methodLink RX11 173 yX2_mark ∈ rh_all := rh_in (rh_t3 (List.mem_of_getElem? (i := 115) rfl)) rfl
theorem wd_3_116 : Cond.instanceMethod yX2_mark ∈ rh_all := rh_in (rh_t3 (List.mem_of_getElem? (i := 116) rfl)) rfl
theorem wd_3_117 : Cond.selects RX2 yX2_mark yX2_mark ∈ rh_all := rh_in (rh_t3 (List.mem_of_getElem? (i := 117) rfl)) rfl
theorem wd_3_118 : Cond.code yX2_mark cX2_mark 1 none ∈ rh_all := rh_in (rh_t3 (List.mem_of_getElem? (i := 118) rfl)) rfl
theorem wd_3_123 : Cond.methodLink RX11 176 yX2_remember ∈ rh_all := rh_in (rh_t3 (List.mem_of_getElem? (i := 123) rfl)) rfl
theorem wd_3_124 : Cond.instanceMethod yX2_remember ∈ rh_all := rh_in (rh_t3 (List.mem_of_getElem? (i := 124) rfl)) rfl
theorem wd_3_125 : Cond.selects RX2 yX2_remember yX2_remember ∈ rh_all := rh_in (rh_t3 (List.mem_of_getElem? (i := 125) rfl)) rfl
theorem wd_3_126 : Cond.code yX2_remember cX2_remember 1 none ∈ rh_all := rh_in (rh_t3 (List.mem_of_getElem? (i := 126) rfl)) rfl
theorem wd_2_72 : Cond.fieldLink RX11 16 RX11 "told" "LLighterAtDusk$Row;" ∈ rh_all := rh_in (rh_t2 (List.mem_of_getElem? (i := 72) rfl)) rfl
theorem wd_3_128 : Cond.methodLink RX11 179 yX7_begin ∈ rh_all := rh_in (rh_t3 (List.mem_of_getElem? (i := 128) rfl)) rfl
theorem wd_3_132 : Cond.methodLink RX11 182 yX7_add ∈ rh_all := rh_in (rh_t3 (List.mem_of_getElem? (i := 132) rfl)) rfl
theorem wd_3_136 : Cond.methodLink RX11 186 yX11_load ∈ rh_all := rh_in (rh_t3 (List.mem_of_getElem? (i := 136) rfl)) rfl
theorem wd_3_138 : Cond.instanceMethod yX11_load ∈ rh_all := rh_in (rh_t3 (List.mem_of_getElem? (i := 138) rfl)) rfl
theorem wp_1_15 : Cond.selects RX11 yX11_load yX11_load ∈ rh_all := rh_in (rh_s1 (List.mem_of_getElem? (i := 15) rfl)) rfl
theorem wd_3_139 : Cond.code yX11_load cX11_load 1 (some .int) ∈ rh_all := rh_in (rh_t3 (List.mem_of_getElem? (i := 139) rfl)) rfl
theorem wd_3_144 : Cond.methodLink RX11 189 yX11_comeAboard ∈ rh_all := rh_in (rh_t3 (List.mem_of_getElem? (i := 144) rfl)) rfl
theorem wd_3_146 : Cond.instanceMethod yX11_comeAboard ∈ rh_all := rh_in (rh_t3 (List.mem_of_getElem? (i := 146) rfl)) rfl
theorem wp_2_0 : Cond.selects RX11 yX11_comeAboard yX11_comeAboard ∈ rh_all := rh_in (rh_s2 (List.mem_of_getElem? (i := 0) rfl)) rfl
theorem wd_3_147 : Cond.code yX11_comeAboard cX11_comeAboard 3 (some .int) ∈ rh_all := rh_in (rh_t3 (List.mem_of_getElem? (i := 147) rfl)) rfl
theorem wd_3_158 : Cond.methodLink RX11 192 yX11_goOff ∈ rh_all := rh_in (rh_t3 (List.mem_of_getElem? (i := 158) rfl)) rfl
theorem wd_3_160 : Cond.instanceMethod yX11_goOff ∈ rh_all := rh_in (rh_t3 (List.mem_of_getElem? (i := 160) rfl)) rfl
theorem wp_2_1 : Cond.selects RX11 yX11_goOff yX11_goOff ∈ rh_all := rh_in (rh_s2 (List.mem_of_getElem? (i := 1) rfl)) rfl
theorem wd_3_161 : Cond.code yX11_goOff cX11_goOff 2 (some .int) ∈ rh_all := rh_in (rh_t3 (List.mem_of_getElem? (i := 161) rfl)) rfl
theorem wd_3_166 : Cond.methodLink RX11 195 yX11_tread ∈ rh_all := rh_in (rh_t3 (List.mem_of_getElem? (i := 166) rfl)) rfl
theorem wd_3_168 : Cond.instanceMethod yX11_tread ∈ rh_all := rh_in (rh_t3 (List.mem_of_getElem? (i := 168) rfl)) rfl
theorem wp_2_2 : Cond.selects RX11 yX11_tread yX11_tread ∈ rh_all := rh_in (rh_s2 (List.mem_of_getElem? (i := 2) rfl)) rfl
theorem wd_3_169 : Cond.code yX11_tread cX11_tread 4 (some .int) ∈ rh_all := rh_in (rh_t3 (List.mem_of_getElem? (i := 169) rfl)) rfl
theorem wd_2_76 : Cond.fieldLink RX11 46 RX11 "dayReader" "LLighterAtDusk$DayReader;" ∈ rh_all := rh_in (rh_t2 (List.mem_of_getElem? (i := 76) rfl)) rfl
theorem wd_1_204 : Cond.fieldLink RX11 198 RX1 "actCount" "I" ∈ rh_all := rh_in (rh_t1 (List.mem_of_getElem? (i := 204) rfl)) rfl
theorem wd_3_174 : Cond.methodLink RX11 201 ⟨RX1, "readThrough", "([III)I"⟩ ∈ rh_all := rh_in (rh_t3 (List.mem_of_getElem? (i := 174) rfl)) rfl
theorem wd_3_175 : Cond.sameMethod RX1 RX5 "readThrough" "([III)I" ∈ rh_all := rh_in (rh_t3 (List.mem_of_getElem? (i := 175) rfl)) rfl
theorem wd_3_176 : Cond.selects RX1 ⟨RX1, "readThrough", "([III)I"⟩ yX5_readThrough ∈ rh_all := rh_in (rh_t3 (List.mem_of_getElem? (i := 176) rfl)) rfl
theorem wd_3_177 : Cond.methodLink RX11 202 yX11_act ∈ rh_all := rh_in (rh_t3 (List.mem_of_getElem? (i := 177) rfl)) rfl
theorem wd_3_179 : Cond.instanceMethod yX11_act ∈ rh_all := rh_in (rh_t3 (List.mem_of_getElem? (i := 179) rfl)) rfl
theorem wp_2_3 : Cond.selects RX11 yX11_act yX11_act ∈ rh_all := rh_in (rh_s2 (List.mem_of_getElem? (i := 3) rfl)) rfl
theorem wd_3_180 : Cond.code yX11_act cX11_act 4 (some .boolean) ∈ rh_all := rh_in (rh_t3 (List.mem_of_getElem? (i := 180) rfl)) rfl
theorem wd_3_185 : Cond.methodLink RX11 205 yX2_goBack ∈ rh_all := rh_in (rh_t3 (List.mem_of_getElem? (i := 185) rfl)) rfl
theorem wd_3_186 : Cond.instanceMethod yX2_goBack ∈ rh_all := rh_in (rh_t3 (List.mem_of_getElem? (i := 186) rfl)) rfl
theorem wd_3_187 : Cond.selects RX2 yX2_goBack yX2_goBack ∈ rh_all := rh_in (rh_t3 (List.mem_of_getElem? (i := 187) rfl)) rfl
theorem wd_3_188 : Cond.code yX2_goBack cX2_goBack 1 (some .int) ∈ rh_all := rh_in (rh_t3 (List.mem_of_getElem? (i := 188) rfl)) rfl
theorem wd_3_197 : Cond.methodLink RX11 208 yX7_tell ∈ rh_all := rh_in (rh_t3 (List.mem_of_getElem? (i := 197) rfl)) rfl
theorem wd_3_211 : Cond.methodLink RX11 211 yX11_bellsWithin ∈ rh_all := rh_in (rh_t3 (List.mem_of_getElem? (i := 211) rfl)) rfl
theorem wd_3_213 : Cond.instanceMethod yX11_bellsWithin ∈ rh_all := rh_in (rh_t3 (List.mem_of_getElem? (i := 213) rfl)) rfl
theorem wp_2_5 : Cond.selects RX11 yX11_bellsWithin yX11_bellsWithin ∈ rh_all := rh_in (rh_s2 (List.mem_of_getElem? (i := 5) rfl)) rfl
theorem wd_3_214 : Cond.code yX11_bellsWithin cX11_bellsWithin 6 (some .int) ∈ rh_all := rh_in (rh_t3 (List.mem_of_getElem? (i := 214) rfl)) rfl
theorem wd_3_223 : Cond.methodLink RX11 215 yX11_firstClimb ∈ rh_all := rh_in (rh_t3 (List.mem_of_getElem? (i := 223) rfl)) rfl
theorem wd_3_225 : Cond.instanceMethod yX11_firstClimb ∈ rh_all := rh_in (rh_t3 (List.mem_of_getElem? (i := 225) rfl)) rfl
theorem wp_2_7 : Cond.selects RX11 yX11_firstClimb yX11_firstClimb ∈ rh_all := rh_in (rh_s2 (List.mem_of_getElem? (i := 7) rfl)) rfl
theorem wd_3_226 : Cond.code yX11_firstClimb cX11_firstClimb 4 (some .int) ∈ rh_all := rh_in (rh_t3 (List.mem_of_getElem? (i := 226) rfl)) rfl
theorem wd_3_235 : Cond.methodLink RX11 218 yX11_isBell ∈ rh_all := rh_in (rh_t3 (List.mem_of_getElem? (i := 235) rfl)) rfl
theorem wd_3_236 : Cond.static yX11_isBell ∈ rh_all := rh_in (rh_t3 (List.mem_of_getElem? (i := 236) rfl)) rfl
theorem wd_3_237 : Cond.code yX11_isBell cX11_isBell 1 (some .boolean) ∈ rh_all := rh_in (rh_t3 (List.mem_of_getElem? (i := 237) rfl)) rfl
theorem wd_3_238 : Cond.methodLink RX11 221 yX0_sumAll ∈ rh_all := rh_in (rh_t3 (List.mem_of_getElem? (i := 238) rfl)) rfl
theorem wd_4_2 : Cond.methodLink RX11 224 yX0_sets ∈ rh_all := rh_in (rh_t4 (List.mem_of_getElem? (i := 2) rfl)) rfl
theorem wd_1_110 : Cond.fieldLink RX11 227 RX0 "sums" "[I" ∈ rh_all := rh_in (rh_t1 (List.mem_of_getElem? (i := 110) rfl)) rfl
theorem wd_4_3 : Cond.methodLink RX11 230 yX11_isFuller ∈ rh_all := rh_in (rh_t4 (List.mem_of_getElem? (i := 3) rfl)) rfl
theorem wd_4_5 : Cond.instanceMethod yX11_isFuller ∈ rh_all := rh_in (rh_t4 (List.mem_of_getElem? (i := 5) rfl)) rfl
theorem wp_2_8 : Cond.selects RX11 yX11_isFuller yX11_isFuller ∈ rh_all := rh_in (rh_s2 (List.mem_of_getElem? (i := 8) rfl)) rfl
theorem wd_4_6 : Cond.code yX11_isFuller cX11_isFuller 4 (some .boolean) ∈ rh_all := rh_in (rh_t4 (List.mem_of_getElem? (i := 6) rfl)) rfl
theorem wd_4_7 : Cond.methodLink RX11 234 yJ6_bitCount_0f7a4 ∈ rh_all := rh_in (rh_t4 (List.mem_of_getElem? (i := 7) rfl)) rfl
theorem wd_2_77 : Cond.fieldLink RX11 53 RX11 "tasks" "LLighterAtDusk$Tasks;" ∈ rh_all := rh_in (rh_t2 (List.mem_of_getElem? (i := 77) rfl)) rfl
theorem wd_1_230 : Cond.fieldLink RX11 239 RX10 "size" "I" ∈ rh_all := rh_in (rh_t1 (List.mem_of_getElem? (i := 230) rfl)) rfl
theorem wd_1_232 : Cond.fieldLink RX11 240 RX10 "lows" "[I" ∈ rh_all := rh_in (rh_t1 (List.mem_of_getElem? (i := 232) rfl)) rfl
theorem wd_1_234 : Cond.fieldLink RX11 243 RX10 "highs" "[I" ∈ rh_all := rh_in (rh_t1 (List.mem_of_getElem? (i := 234) rfl)) rfl
theorem wd_4_33 : Cond.methodLink RX11 246 yX10_has ∈ rh_all := rh_in (rh_t4 (List.mem_of_getElem? (i := 33) rfl)) rfl
theorem wd_4_34 : Cond.instanceMethod yX10_has ∈ rh_all := rh_in (rh_t4 (List.mem_of_getElem? (i := 34) rfl)) rfl
theorem wd_4_35 : Cond.selects RX10 yX10_has yX10_has ∈ rh_all := rh_in (rh_t4 (List.mem_of_getElem? (i := 35) rfl)) rfl
theorem wd_4_36 : Cond.code yX10_has cX10_has 2 (some .boolean) ∈ rh_all := rh_in (rh_t4 (List.mem_of_getElem? (i := 36) rfl)) rfl
theorem wd_4_37 : Cond.constant RX11 247 (1000000000) ∈ rh_all := rh_in (rh_t4 (List.mem_of_getElem? (i := 37) rfl)) rfl
theorem wd_4_38 : Cond.methodLink RX11 248 yX10_suits ∈ rh_all := rh_in (rh_t4 (List.mem_of_getElem? (i := 38) rfl)) rfl
theorem wd_4_46 : Cond.methodLink RX11 251 yX10_doable ∈ rh_all := rh_in (rh_t4 (List.mem_of_getElem? (i := 46) rfl)) rfl
theorem wd_4_47 : Cond.instanceMethod yX10_doable ∈ rh_all := rh_in (rh_t4 (List.mem_of_getElem? (i := 47) rfl)) rfl
theorem wd_4_48 : Cond.selects RX10 yX10_doable yX10_doable ∈ rh_all := rh_in (rh_t4 (List.mem_of_getElem? (i := 48) rfl)) rfl
theorem wd_4_49 : Cond.code yX10_doable cX10_doable 5 (some .int) ∈ rh_all := rh_in (rh_t4 (List.mem_of_getElem? (i := 49) rfl)) rfl
theorem wd_1_236 : Cond.fieldLink RX11 255 RX10 "doableAt" "[I" ∈ rh_all := rh_in (rh_t1 (List.mem_of_getElem? (i := 236) rfl)) rfl
theorem wd_4_60 : Cond.methodLink RX11 258 yX10_plan ∈ rh_all := rh_in (rh_t4 (List.mem_of_getElem? (i := 60) rfl)) rfl
theorem wd_4_61 : Cond.instanceMethod yX10_plan ∈ rh_all := rh_in (rh_t4 (List.mem_of_getElem? (i := 61) rfl)) rfl
theorem wd_4_62 : Cond.selects RX10 yX10_plan yX10_plan ∈ rh_all := rh_in (rh_t4 (List.mem_of_getElem? (i := 62) rfl)) rfl
theorem wd_4_63 : Cond.code yX10_plan cX10_plan 4 (some .boolean) ∈ rh_all := rh_in (rh_t4 (List.mem_of_getElem? (i := 63) rfl)) rfl
theorem wd_4_74 : Cond.methodLink RX11 261 yX10_tellPlan ∈ rh_all := rh_in (rh_t4 (List.mem_of_getElem? (i := 74) rfl)) rfl
theorem wd_4_75 : Cond.instanceMethod yX10_tellPlan ∈ rh_all := rh_in (rh_t4 (List.mem_of_getElem? (i := 75) rfl)) rfl
theorem wd_4_76 : Cond.selects RX10 yX10_tellPlan yX10_tellPlan ∈ rh_all := rh_in (rh_t4 (List.mem_of_getElem? (i := 76) rfl)) rfl
theorem wd_4_77 : Cond.code yX10_tellPlan cX10_tellPlan 6 none ∈ rh_all := rh_in (rh_t4 (List.mem_of_getElem? (i := 77) rfl)) rfl
theorem wd_4_88 : Cond.methodLink RX11 265 yX10_mostAtOnce ∈ rh_all := rh_in (rh_t4 (List.mem_of_getElem? (i := 88) rfl)) rfl
theorem wd_4_89 : Cond.instanceMethod yX10_mostAtOnce ∈ rh_all := rh_in (rh_t4 (List.mem_of_getElem? (i := 89) rfl)) rfl
theorem wd_4_90 : Cond.selects RX10 yX10_mostAtOnce yX10_mostAtOnce ∈ rh_all := rh_in (rh_t4 (List.mem_of_getElem? (i := 90) rfl)) rfl
theorem wd_4_91 : Cond.code yX10_mostAtOnce cX10_mostAtOnce 5 (some .int) ∈ rh_all := rh_in (rh_t4 (List.mem_of_getElem? (i := 91) rfl)) rfl
theorem wd_4_101 : Cond.methodLink RX11 268 yX11_canRow ∈ rh_all := rh_in (rh_t4 (List.mem_of_getElem? (i := 101) rfl)) rfl
theorem wd_4_103 : Cond.instanceMethod yX11_canRow ∈ rh_all := rh_in (rh_t4 (List.mem_of_getElem? (i := 103) rfl)) rfl
theorem wp_2_13 : Cond.selects RX11 yX11_canRow yX11_canRow ∈ rh_all := rh_in (rh_s2 (List.mem_of_getElem? (i := 13) rfl)) rfl
theorem wd_4_104 : Cond.code yX11_canRow cX11_canRow 2 (some .boolean) ∈ rh_all := rh_in (rh_t4 (List.mem_of_getElem? (i := 104) rfl)) rfl
theorem wd_2_78 : Cond.fieldLink RX11 60 RX11 "river" "LLighterAtDusk$River;" ∈ rh_all := rh_in (rh_t2 (List.mem_of_getElem? (i := 78) rfl)) rfl
theorem wd_4_109 : Cond.methodLink RX11 271 yX6_begin ∈ rh_all := rh_in (rh_t4 (List.mem_of_getElem? (i := 109) rfl)) rfl
theorem wd_4_110 : Cond.instanceMethod yX6_begin ∈ rh_all := rh_in (rh_t4 (List.mem_of_getElem? (i := 110) rfl)) rfl
theorem wd_4_111 : Cond.selects RX6 yX6_begin yX6_begin ∈ rh_all := rh_in (rh_t4 (List.mem_of_getElem? (i := 111) rfl)) rfl
theorem wd_4_112 : Cond.code yX6_begin cX6_begin 4 none ∈ rh_all := rh_in (rh_t4 (List.mem_of_getElem? (i := 112) rfl)) rfl
theorem wd_4_113 : Cond.methodLink RX11 274 yX6_fewest ∈ rh_all := rh_in (rh_t4 (List.mem_of_getElem? (i := 113) rfl)) rfl
theorem wd_4_114 : Cond.instanceMethod yX6_fewest ∈ rh_all := rh_in (rh_t4 (List.mem_of_getElem? (i := 114) rfl)) rfl
theorem wd_4_115 : Cond.selects RX6 yX6_fewest yX6_fewest ∈ rh_all := rh_in (rh_t4 (List.mem_of_getElem? (i := 115) rfl)) rfl
theorem wd_4_116 : Cond.code yX6_fewest cX6_fewest 3 (some .int) ∈ rh_all := rh_in (rh_t4 (List.mem_of_getElem? (i := 116) rfl)) rfl
theorem wd_4_145 : Cond.methodLink RX11 277 yX6_tellLoads ∈ rh_all := rh_in (rh_t4 (List.mem_of_getElem? (i := 145) rfl)) rfl
theorem wd_4_146 : Cond.instanceMethod yX6_tellLoads ∈ rh_all := rh_in (rh_t4 (List.mem_of_getElem? (i := 146) rfl)) rfl
theorem wd_4_147 : Cond.selects RX6 yX6_tellLoads yX6_tellLoads ∈ rh_all := rh_in (rh_t4 (List.mem_of_getElem? (i := 147) rfl)) rfl
theorem wd_4_148 : Cond.code yX6_tellLoads cX6_tellLoads 6 none ∈ rh_all := rh_in (rh_t4 (List.mem_of_getElem? (i := 148) rfl)) rfl
theorem wd_2_82 : Cond.fieldLink RX11 282 RX11 "stance" "LLighterAtDusk$Stance;" ∈ rh_all := rh_in (rh_t2 (List.mem_of_getElem? (i := 82) rfl)) rfl
theorem wd_4_209 : Cond.methodLink RX11 289 yX9_widen ∈ rh_all := rh_in (rh_t4 (List.mem_of_getElem? (i := 209) rfl)) rfl
theorem wd_4_210 : Cond.instanceMethod yX9_widen ∈ rh_all := rh_in (rh_t4 (List.mem_of_getElem? (i := 210) rfl)) rfl
theorem wd_4_211 : Cond.selects RX9 yX9_widen yX9_widen ∈ rh_all := rh_in (rh_t4 (List.mem_of_getElem? (i := 211) rfl)) rfl
theorem wd_4_212 : Cond.code yX9_widen cX9_widen 5 (some .int) ∈ rh_all := rh_in (rh_t4 (List.mem_of_getElem? (i := 212) rfl)) rfl
theorem wd_5_13 : Cond.methodLink RX11 292 yX9_narrow ∈ rh_all := rh_in (rh_t5 (List.mem_of_getElem? (i := 13) rfl)) rfl
theorem wd_5_14 : Cond.instanceMethod yX9_narrow ∈ rh_all := rh_in (rh_t5 (List.mem_of_getElem? (i := 14) rfl)) rfl
theorem wd_5_15 : Cond.selects RX9 yX9_narrow yX9_narrow ∈ rh_all := rh_in (rh_t5 (List.mem_of_getElem? (i := 15) rfl)) rfl
theorem wd_5_16 : Cond.code yX9_narrow cX9_narrow 5 none ∈ rh_all := rh_in (rh_t5 (List.mem_of_getElem? (i := 16) rfl)) rfl
theorem wd_5_27 : Cond.methodLink RX11 295 yX9_tellSteps ∈ rh_all := rh_in (rh_t5 (List.mem_of_getElem? (i := 27) rfl)) rfl
theorem wd_5_28 : Cond.instanceMethod yX9_tellSteps ∈ rh_all := rh_in (rh_t5 (List.mem_of_getElem? (i := 28) rfl)) rfl
theorem wd_5_29 : Cond.selects RX9 yX9_tellSteps yX9_tellSteps ∈ rh_all := rh_in (rh_t5 (List.mem_of_getElem? (i := 29) rfl)) rfl
theorem wd_5_30 : Cond.code yX9_tellSteps cX9_tellSteps 6 none ∈ rh_all := rh_in (rh_t5 (List.mem_of_getElem? (i := 30) rfl)) rfl
theorem wd_3_152 : Cond.methodLink RX11 298 yX2_isAboard ∈ rh_all := rh_in (rh_t3 (List.mem_of_getElem? (i := 152) rfl)) rfl
theorem wd_3_112 : Cond.methodLink RX11 301 yJ9_abs_0f7a4 ∈ rh_all := rh_in (rh_t3 (List.mem_of_getElem? (i := 112) rfl)) rfl
theorem wd_3_113 : Cond.static yJ9_abs_0f7a4 ∈ rh_all := rh_in (rh_t3 (List.mem_of_getElem? (i := 113) rfl)) rfl
theorem wd_3_114 : Cond.code yJ9_abs_0f7a4 cJ9_abs_0f7a4 1 (some .int) ∈ rh_all := rh_in (rh_t3 (List.mem_of_getElem? (i := 114) rfl)) rfl
theorem wd_5_49 : Cond.methodLink RX11 306 yX11_areApart ∈ rh_all := rh_in (rh_t5 (List.mem_of_getElem? (i := 49) rfl)) rfl
theorem wd_5_51 : Cond.instanceMethod yX11_areApart ∈ rh_all := rh_in (rh_t5 (List.mem_of_getElem? (i := 51) rfl)) rfl
theorem wp_4_3 : Cond.selects RX11 yX11_areApart yX11_areApart ∈ rh_all := rh_in (rh_s4 (List.mem_of_getElem? (i := 3) rfl)) rfl
theorem wd_5_52 : Cond.code yX11_areApart cX11_areApart 3 (some .boolean) ∈ rh_all := rh_in (rh_t5 (List.mem_of_getElem? (i := 52) rfl)) rfl
theorem wd_5_53 : Cond.methodLink RX11 309 yX11_overweight ∈ rh_all := rh_in (rh_t5 (List.mem_of_getElem? (i := 53) rfl)) rfl
theorem wd_5_55 : Cond.instanceMethod yX11_overweight ∈ rh_all := rh_in (rh_t5 (List.mem_of_getElem? (i := 55) rfl)) rfl
theorem wp_4_4 : Cond.selects RX11 yX11_overweight yX11_overweight ∈ rh_all := rh_in (rh_s4 (List.mem_of_getElem? (i := 4) rfl)) rfl
theorem wd_5_56 : Cond.code yX11_overweight cX11_overweight 4 (some .int) ∈ rh_all := rh_in (rh_t5 (List.mem_of_getElem? (i := 56) rfl)) rfl
theorem wd_6_21 : Cond.methodLink RX11 312 yJ6_signum_0f7a4 ∈ rh_all := rh_in (rh_t6 (List.mem_of_getElem? (i := 21) rfl)) rfl
theorem wd_6_22 : Cond.static yJ6_signum_0f7a4 ∈ rh_all := rh_in (rh_t6 (List.mem_of_getElem? (i := 22) rfl)) rfl
theorem wd_6_23 : Cond.code yJ6_signum_0f7a4 cJ6_signum_0f7a4 1 (some .int) ∈ rh_all := rh_in (rh_t6 (List.mem_of_getElem? (i := 23) rfl)) rfl
theorem wd_6_31 : Cond.constant RX11 315 (-100000) ∈ rh_all := rh_in (rh_t6 (List.mem_of_getElem? (i := 31) rfl)) rfl
theorem wd_2_79 : Cond.fieldLink RX11 67 RX11 "scales" "LLighterAtDusk$Scales;" ∈ rh_all := rh_in (rh_t2 (List.mem_of_getElem? (i := 79) rfl)) rfl
theorem wd_5_69 : Cond.methodLink RX11 316 yX8_hear ∈ rh_all := rh_in (rh_t5 (List.mem_of_getElem? (i := 69) rfl)) rfl
theorem wd_5_70 : Cond.instanceMethod yX8_hear ∈ rh_all := rh_in (rh_t5 (List.mem_of_getElem? (i := 70) rfl)) rfl
theorem wd_5_71 : Cond.selects RX8 yX8_hear yX8_hear ∈ rh_all := rh_in (rh_t5 (List.mem_of_getElem? (i := 71) rfl)) rfl
theorem wd_1_11 : Cond.initialized RX8 ∈ rh_all := rh_in (rh_t1 (List.mem_of_getElem? (i := 11) rfl)) rfl
theorem wd_5_72 : Cond.code yX8_hear cX8_hear 4 (some .int) ∈ rh_all := rh_in (rh_t5 (List.mem_of_getElem? (i := 72) rfl)) rfl
theorem wd_2_46 : Cond.fieldLink RX11 319 RX8 "size" "I" ∈ rh_all := rh_in (rh_t2 (List.mem_of_getElem? (i := 46) rfl)) rfl
theorem wd_5_81 : Cond.methodLink RX11 320 yX8_wrongAt ∈ rh_all := rh_in (rh_t5 (List.mem_of_getElem? (i := 81) rfl)) rfl
theorem wd_5_82 : Cond.instanceMethod yX8_wrongAt ∈ rh_all := rh_in (rh_t5 (List.mem_of_getElem? (i := 82) rfl)) rfl
theorem wd_5_83 : Cond.selects RX8 yX8_wrongAt yX8_wrongAt ∈ rh_all := rh_in (rh_t5 (List.mem_of_getElem? (i := 83) rfl)) rfl
theorem wd_5_84 : Cond.code yX8_wrongAt cX8_wrongAt 4 (some .int) ∈ rh_all := rh_in (rh_t5 (List.mem_of_getElem? (i := 84) rfl)) rfl
theorem wd_5_90 : Cond.methodLink RX11 323 yX8_gather ∈ rh_all := rh_in (rh_t5 (List.mem_of_getElem? (i := 90) rfl)) rfl
theorem wd_5_91 : Cond.instanceMethod yX8_gather ∈ rh_all := rh_in (rh_t5 (List.mem_of_getElem? (i := 91) rfl)) rfl
theorem wd_5_92 : Cond.selects RX8 yX8_gather yX8_gather ∈ rh_all := rh_in (rh_t5 (List.mem_of_getElem? (i := 92) rfl)) rfl
theorem wd_5_93 : Cond.code yX8_gather cX8_gather 6 (some .boolean) ∈ rh_all := rh_in (rh_t5 (List.mem_of_getElem? (i := 93) rfl)) rfl
theorem wd_5_94 : Cond.methodLink RX11 326 yX8_agrees ∈ rh_all := rh_in (rh_t5 (List.mem_of_getElem? (i := 94) rfl)) rfl
theorem wd_5_95 : Cond.instanceMethod yX8_agrees ∈ rh_all := rh_in (rh_t5 (List.mem_of_getElem? (i := 95) rfl)) rfl
theorem wd_5_96 : Cond.selects RX8 yX8_agrees yX8_agrees ∈ rh_all := rh_in (rh_t5 (List.mem_of_getElem? (i := 96) rfl)) rfl
theorem wd_5_97 : Cond.code yX8_agrees cX8_agrees 4 (some .boolean) ∈ rh_all := rh_in (rh_t5 (List.mem_of_getElem? (i := 97) rfl)) rfl
theorem wd_5_106 : Cond.methodLink RX11 329 yX11_canBeFalse ∈ rh_all := rh_in (rh_t5 (List.mem_of_getElem? (i := 106) rfl)) rfl
theorem wd_5_108 : Cond.instanceMethod yX11_canBeFalse ∈ rh_all := rh_in (rh_t5 (List.mem_of_getElem? (i := 108) rfl)) rfl
theorem wp_4_5 : Cond.selects RX11 yX11_canBeFalse yX11_canBeFalse ∈ rh_all := rh_in (rh_s4 (List.mem_of_getElem? (i := 5) rfl)) rfl
theorem wd_5_109 : Cond.code yX11_canBeFalse cX11_canBeFalse 3 (some .boolean) ∈ rh_all := rh_in (rh_t5 (List.mem_of_getElem? (i := 109) rfl)) rfl
theorem wd_5_114 : Cond.methodLink RX11 332 yX11_isDepth ∈ rh_all := rh_in (rh_t5 (List.mem_of_getElem? (i := 114) rfl)) rfl
theorem wd_5_115 : Cond.static yX11_isDepth ∈ rh_all := rh_in (rh_t5 (List.mem_of_getElem? (i := 115) rfl)) rfl
theorem wd_5_116 : Cond.code yX11_isDepth cX11_isDepth 2 (some .boolean) ∈ rh_all := rh_in (rh_t5 (List.mem_of_getElem? (i := 116) rfl)) rfl
theorem wd_5_118 : Cond.methodLink RX11 335 yX11_thingsThatFit ∈ rh_all := rh_in (rh_t5 (List.mem_of_getElem? (i := 118) rfl)) rfl
theorem wd_5_120 : Cond.instanceMethod yX11_thingsThatFit ∈ rh_all := rh_in (rh_t5 (List.mem_of_getElem? (i := 120) rfl)) rfl
theorem wp_4_6 : Cond.selects RX11 yX11_thingsThatFit yX11_thingsThatFit ∈ rh_all := rh_in (rh_s4 (List.mem_of_getElem? (i := 6) rfl)) rfl
theorem wd_5_121 : Cond.code yX11_thingsThatFit cX11_thingsThatFit 7 (some .int) ∈ rh_all := rh_in (rh_t5 (List.mem_of_getElem? (i := 121) rfl)) rfl
theorem wd_1_102 : Cond.fieldLink RX11 338 RX0 "persons" "I" ∈ rh_all := rh_in (rh_t1 (List.mem_of_getElem? (i := 102) rfl)) rfl
theorem wd_5_130 : Cond.methodLink RX11 341 yJ9_min_7cf53 ∈ rh_all := rh_in (rh_t5 (List.mem_of_getElem? (i := 130) rfl)) rfl
theorem wd_5_131 : Cond.methodLink RX11 344 yX11_isSlighter ∈ rh_all := rh_in (rh_t5 (List.mem_of_getElem? (i := 131) rfl)) rfl
theorem wd_5_133 : Cond.instanceMethod yX11_isSlighter ∈ rh_all := rh_in (rh_t5 (List.mem_of_getElem? (i := 133) rfl)) rfl
theorem wp_4_7 : Cond.selects RX11 yX11_isSlighter yX11_isSlighter ∈ rh_all := rh_in (rh_s4 (List.mem_of_getElem? (i := 7) rfl)) rfl
theorem wd_5_134 : Cond.code yX11_isSlighter cX11_isSlighter 4 (some .boolean) ∈ rh_all := rh_in (rh_t5 (List.mem_of_getElem? (i := 134) rfl)) rfl
theorem wd_2_81 : Cond.fieldLink RX11 74 RX11 "least" "[I" ∈ rh_all := rh_in (rh_t2 (List.mem_of_getElem? (i := 81) rfl)) rfl
theorem wd_5_139 : Cond.methodLink RX11 347 yX11_leastLoad ∈ rh_all := rh_in (rh_t5 (List.mem_of_getElem? (i := 139) rfl)) rfl
theorem wd_5_141 : Cond.instanceMethod yX11_leastLoad ∈ rh_all := rh_in (rh_t5 (List.mem_of_getElem? (i := 141) rfl)) rfl
theorem wp_4_8 : Cond.selects RX11 yX11_leastLoad yX11_leastLoad ∈ rh_all := rh_in (rh_s4 (List.mem_of_getElem? (i := 8) rfl)) rfl
theorem wd_5_142 : Cond.code yX11_leastLoad cX11_leastLoad 5 (some .int) ∈ rh_all := rh_in (rh_t5 (List.mem_of_getElem? (i := 142) rfl)) rfl
theorem wd_5_147 : Cond.methodLink RX11 350 yX11_nextCarried ∈ rh_all := rh_in (rh_t5 (List.mem_of_getElem? (i := 147) rfl)) rfl
theorem wd_5_149 : Cond.instanceMethod yX11_nextCarried ∈ rh_all := rh_in (rh_t5 (List.mem_of_getElem? (i := 149) rfl)) rfl
theorem wp_4_10 : Cond.selects RX11 yX11_nextCarried yX11_nextCarried ∈ rh_all := rh_in (rh_s4 (List.mem_of_getElem? (i := 10) rfl)) rfl
theorem wd_5_150 : Cond.code yX11_nextCarried cX11_nextCarried 4 (some .int) ∈ rh_all := rh_in (rh_t5 (List.mem_of_getElem? (i := 150) rfl)) rfl
theorem wd_5_155 : Cond.methodLink RX11 353 yX2_store ∈ rh_all := rh_in (rh_t5 (List.mem_of_getElem? (i := 155) rfl)) rfl
theorem wd_5_156 : Cond.instanceMethod yX2_store ∈ rh_all := rh_in (rh_t5 (List.mem_of_getElem? (i := 156) rfl)) rfl
theorem wd_5_157 : Cond.selects RX2 yX2_store yX2_store ∈ rh_all := rh_in (rh_t5 (List.mem_of_getElem? (i := 157) rfl)) rfl
theorem wd_5_158 : Cond.code yX2_store cX2_store 2 none ∈ rh_all := rh_in (rh_t5 (List.mem_of_getElem? (i := 158) rfl)) rfl
theorem wd_1_143 : Cond.fieldLink RX11 356 RX2 "isKept" "[Z" ∈ rh_all := rh_in (rh_t1 (List.mem_of_getElem? (i := 143) rfl)) rfl
theorem wd_5_163 : Cond.methodLink RX11 360 yX2_restore ∈ rh_all := rh_in (rh_t5 (List.mem_of_getElem? (i := 163) rfl)) rfl
theorem wd_5_164 : Cond.instanceMethod yX2_restore ∈ rh_all := rh_in (rh_t5 (List.mem_of_getElem? (i := 164) rfl)) rfl
theorem wd_5_165 : Cond.selects RX2 yX2_restore yX2_restore ∈ rh_all := rh_in (rh_t5 (List.mem_of_getElem? (i := 165) rfl)) rfl
theorem wd_5_166 : Cond.code yX2_restore cX2_restore 2 none ∈ rh_all := rh_in (rh_t5 (List.mem_of_getElem? (i := 166) rfl)) rfl
theorem wd_1_140 : Cond.fieldLink RX11 363 RX2 "pastCount" "I" ∈ rh_all := rh_in (rh_t1 (List.mem_of_getElem? (i := 140) rfl)) rfl
theorem wd_1_39 : Cond.fieldLink RX11 366 RX7 "length" "I" ∈ rh_all := rh_in (rh_t1 (List.mem_of_getElem? (i := 39) rfl)) rfl
theorem wd_1_37 : Cond.fieldLink RX11 369 RX7 "numbers" "[I" ∈ rh_all := rh_in (rh_t1 (List.mem_of_getElem? (i := 37) rfl)) rfl
theorem wd_1_200 : Cond.fieldLink RX11 372 RX1 "whos" "[I" ∈ rh_all := rh_in (rh_t1 (List.mem_of_getElem? (i := 200) rfl)) rfl
theorem wd_1_202 : Cond.fieldLink RX11 375 RX1 "amounts" "[I" ∈ rh_all := rh_in (rh_t1 (List.mem_of_getElem? (i := 202) rfl)) rfl
theorem wd_1_198 : Cond.fieldLink RX11 378 RX1 "kinds" "[I" ∈ rh_all := rh_in (rh_t1 (List.mem_of_getElem? (i := 198) rfl)) rfl
theorem wd_5_143 : Cond.methodLink RX11 381 yX11_loadIfNext ∈ rh_all := rh_in (rh_t5 (List.mem_of_getElem? (i := 143) rfl)) rfl
theorem wd_5_145 : Cond.instanceMethod yX11_loadIfNext ∈ rh_all := rh_in (rh_t5 (List.mem_of_getElem? (i := 145) rfl)) rfl
theorem wp_4_9 : Cond.selects RX11 yX11_loadIfNext yX11_loadIfNext ∈ rh_all := rh_in (rh_s4 (List.mem_of_getElem? (i := 9) rfl)) rfl
theorem wd_5_146 : Cond.code yX11_loadIfNext cX11_loadIfNext 5 (some .int) ∈ rh_all := rh_in (rh_t5 (List.mem_of_getElem? (i := 146) rfl)) rfl
theorem wd_6_62 : Cond.fieldLink RX12 108 RX12 "thrown" "I" ∈ rh_all := rh_in (rh_t6 (List.mem_of_getElem? (i := 62) rfl)) rfl
theorem wd_6_60 : Cond.fieldLink RX12 23 RX12 "row" "[I" ∈ rh_all := rh_in (rh_t6 (List.mem_of_getElem? (i := 60) rfl)) rfl
theorem wd_6_61 : Cond.fieldLink RX12 111 RX12 "rowMany" "I" ∈ rh_all := rh_in (rh_t6 (List.mem_of_getElem? (i := 61) rfl)) rfl
theorem wd_6_54 : Cond.fieldLink RX12 114 RX12 "folk" "I" ∈ rh_all := rh_in (rh_t6 (List.mem_of_getElem? (i := 54) rfl)) rfl
theorem wd_6_226 : Cond.methodLink RX12 117 yX12_in ∈ rh_all := rh_in (rh_t6 (List.mem_of_getElem? (i := 226) rfl)) rfl
theorem wd_6_227 : Cond.static yX12_in ∈ rh_all := rh_in (rh_t6 (List.mem_of_getElem? (i := 227) rfl)) rfl
theorem wd_1_12 : Cond.initialized RX12 ∈ rh_all := rh_in (rh_t1 (List.mem_of_getElem? (i := 12) rfl)) rfl
theorem wd_6_228 : Cond.code yX12_in cX12_in 3 (some .boolean) ∈ rh_all := rh_in (rh_t6 (List.mem_of_getElem? (i := 228) rfl)) rfl
theorem wd_7_86 : Cond.methodLink RX12 121 yX12_everybody ∈ rh_all := rh_in (rh_t7 (List.mem_of_getElem? (i := 86) rfl)) rfl
theorem wd_7_88 : Cond.instanceMethod yX12_everybody ∈ rh_all := rh_in (rh_t7 (List.mem_of_getElem? (i := 88) rfl)) rfl
theorem wp_5_14 : Cond.selects RX12 yX12_everybody yX12_everybody ∈ rh_all := rh_in (rh_s5 (List.mem_of_getElem? (i := 14) rfl)) rfl
theorem wd_7_89 : Cond.code yX12_everybody cX12_everybody 1 (some .int) ∈ rh_all := rh_in (rh_t7 (List.mem_of_getElem? (i := 89) rfl)) rfl
theorem wd_6_59 : Cond.fieldLink RX12 125 RX12 "typed" "I" ∈ rh_all := rh_in (rh_t6 (List.mem_of_getElem? (i := 59) rfl)) rfl
theorem wd_6_58 : Cond.fieldLink RX12 19 RX12 "text" "[B" ∈ rh_all := rh_in (rh_t6 (List.mem_of_getElem? (i := 58) rfl)) rfl
theorem wd_6_63 : Cond.fieldLink RX12 128 RX12 "read" "[B" ∈ rh_all := rh_in (rh_t6 (List.mem_of_getElem? (i := 63) rfl)) rfl
theorem wd_6_64 : Cond.fieldLink RX12 131 RX12 "length" "I" ∈ rh_all := rh_in (rh_t6 (List.mem_of_getElem? (i := 64) rfl)) rfl
theorem wd_6_65 : Cond.fieldLink RX12 134 RX12 "top" "I" ∈ rh_all := rh_in (rh_t6 (List.mem_of_getElem? (i := 65) rfl)) rfl
theorem wd_6_66 : Cond.fieldLink RX12 137 RX12 "at" "I" ∈ rh_all := rh_in (rh_t6 (List.mem_of_getElem? (i := 66) rfl)) rfl
theorem wd_6_67 : Cond.fieldLink RX12 140 RX12 "wrong" "I" ∈ rh_all := rh_in (rh_t6 (List.mem_of_getElem? (i := 67) rfl)) rfl
theorem wd_6_237 : Cond.methodLink RX12 143 yX12_fine ∈ rh_all := rh_in (rh_t6 (List.mem_of_getElem? (i := 237) rfl)) rfl
theorem wd_6_239 : Cond.instanceMethod yX12_fine ∈ rh_all := rh_in (rh_t6 (List.mem_of_getElem? (i := 239) rfl)) rfl
theorem wp_4_13 : Cond.selects RX12 yX12_fine yX12_fine ∈ rh_all := rh_in (rh_s4 (List.mem_of_getElem? (i := 13) rfl)) rfl
theorem wd_7_0 : Cond.code yX12_fine cX12_fine 1 (some .boolean) ∈ rh_all := rh_in (rh_t7 (List.mem_of_getElem? (i := 0) rfl)) rfl
theorem wd_7_9 : Cond.methodLink RX12 147 yX12_here ∈ rh_all := rh_in (rh_t7 (List.mem_of_getElem? (i := 9) rfl)) rfl
theorem wd_7_11 : Cond.instanceMethod yX12_here ∈ rh_all := rh_in (rh_t7 (List.mem_of_getElem? (i := 11) rfl)) rfl
theorem wp_5_0 : Cond.selects RX12 yX12_here yX12_here ∈ rh_all := rh_in (rh_s5 (List.mem_of_getElem? (i := 0) rfl)) rfl
theorem wd_7_12 : Cond.code yX12_here cX12_here 1 (some .int) ∈ rh_all := rh_in (rh_t7 (List.mem_of_getElem? (i := 12) rfl)) rfl
theorem wd_7_17 : Cond.methodLink RX12 150 yX12_passes ∈ rh_all := rh_in (rh_t7 (List.mem_of_getElem? (i := 17) rfl)) rfl
theorem wd_7_19 : Cond.instanceMethod yX12_passes ∈ rh_all := rh_in (rh_t7 (List.mem_of_getElem? (i := 19) rfl)) rfl
theorem wp_5_2 : Cond.selects RX12 yX12_passes yX12_passes ∈ rh_all := rh_in (rh_s5 (List.mem_of_getElem? (i := 2) rfl)) rfl
theorem wd_7_20 : Cond.code yX12_passes cX12_passes 2 (some .boolean) ∈ rh_all := rh_in (rh_t7 (List.mem_of_getElem? (i := 20) rfl)) rfl
theorem wd_7_1 : Cond.methodLink RX12 154 yX12_fault ∈ rh_all := rh_in (rh_t7 (List.mem_of_getElem? (i := 1) rfl)) rfl
theorem wd_7_3 : Cond.instanceMethod yX12_fault ∈ rh_all := rh_in (rh_t7 (List.mem_of_getElem? (i := 3) rfl)) rfl
theorem wp_4_14 : Cond.selects RX12 yX12_fault yX12_fault ∈ rh_all := rh_in (rh_s4 (List.mem_of_getElem? (i := 14) rfl)) rfl
theorem wd_7_4 : Cond.code yX12_fault cX12_fault 2 none ∈ rh_all := rh_in (rh_t7 (List.mem_of_getElem? (i := 4) rfl)) rfl
theorem wd_6_233 : Cond.methodLink RX12 158 yX12_begin ∈ rh_all := rh_in (rh_t6 (List.mem_of_getElem? (i := 233) rfl)) rfl
theorem wd_6_235 : Cond.instanceMethod yX12_begin ∈ rh_all := rh_in (rh_t6 (List.mem_of_getElem? (i := 235) rfl)) rfl
theorem wp_4_12 : Cond.selects RX12 yX12_begin yX12_begin ∈ rh_all := rh_in (rh_s4 (List.mem_of_getElem? (i := 12) rfl)) rfl
theorem wd_6_236 : Cond.code yX12_begin cX12_begin 4 none ∈ rh_all := rh_in (rh_t6 (List.mem_of_getElem? (i := 236) rfl)) rfl
theorem wd_7_5 : Cond.methodLink RX12 162 yX12_readOne ∈ rh_all := rh_in (rh_t7 (List.mem_of_getElem? (i := 5) rfl)) rfl
theorem wd_7_7 : Cond.instanceMethod yX12_readOne ∈ rh_all := rh_in (rh_t7 (List.mem_of_getElem? (i := 7) rfl)) rfl
theorem wp_4_15 : Cond.selects RX12 yX12_readOne yX12_readOne ∈ rh_all := rh_in (rh_s4 (List.mem_of_getElem? (i := 15) rfl)) rfl
theorem wd_7_8 : Cond.code yX12_readOne cX12_readOne 2 none ∈ rh_all := rh_in (rh_t7 (List.mem_of_getElem? (i := 8) rfl)) rfl
theorem wd_6_55 : Cond.fieldLink RX12 165 RX12 "persons" "I" ∈ rh_all := rh_in (rh_t6 (List.mem_of_getElem? (i := 55) rfl)) rfl
theorem wd_6_68 : Cond.fieldLink RX12 26 RX12 "comes" "[I" ∈ rh_all := rh_in (rh_t6 (List.mem_of_getElem? (i := 68) rfl)) rfl
theorem wd_6_56 : Cond.fieldLink RX12 13 RX12 "base" "[I" ∈ rh_all := rh_in (rh_t6 (List.mem_of_getElem? (i := 56) rfl)) rfl
theorem wd_6_53 : Cond.fieldLink RX12 9 RX12 "now" "[I" ∈ rh_all := rh_in (rh_t6 (List.mem_of_getElem? (i := 53) rfl)) rfl
theorem wd_6_77 : Cond.fieldLink RX12 168 RX12 "undoMany" "I" ∈ rh_all := rh_in (rh_t6 (List.mem_of_getElem? (i := 77) rfl)) rfl
theorem wd_6_102 : Cond.fieldLink RX12 171 RX12 "came" "I" ∈ rh_all := rh_in (rh_t6 (List.mem_of_getElem? (i := 102) rfl)) rfl
theorem wd_7_13 : Cond.methodLink RX12 174 yX12_number ∈ rh_all := rh_in (rh_t7 (List.mem_of_getElem? (i := 13) rfl)) rfl
theorem wd_7_15 : Cond.instanceMethod yX12_number ∈ rh_all := rh_in (rh_t7 (List.mem_of_getElem? (i := 15) rfl)) rfl
theorem wp_5_1 : Cond.selects RX12 yX12_number yX12_number ∈ rh_all := rh_in (rh_s5 (List.mem_of_getElem? (i := 1) rfl)) rfl
theorem wd_7_16 : Cond.code yX12_number cX12_number 4 (some .int) ∈ rh_all := rh_in (rh_t7 (List.mem_of_getElem? (i := 16) rfl)) rfl
theorem wd_7_29 : Cond.methodLink RX12 178 yX12_sum ∈ rh_all := rh_in (rh_t7 (List.mem_of_getElem? (i := 29) rfl)) rfl
theorem wd_7_31 : Cond.instanceMethod yX12_sum ∈ rh_all := rh_in (rh_t7 (List.mem_of_getElem? (i := 31) rfl)) rfl
theorem wp_5_4 : Cond.selects RX12 yX12_sum yX12_sum ∈ rh_all := rh_in (rh_s5 (List.mem_of_getElem? (i := 4) rfl)) rfl
theorem wd_7_32 : Cond.code yX12_sum cX12_sum 5 (some .int) ∈ rh_all := rh_in (rh_t7 (List.mem_of_getElem? (i := 32) rfl)) rfl
theorem wd_7_33 : Cond.methodLink RX12 181 yX12_product ∈ rh_all := rh_in (rh_t7 (List.mem_of_getElem? (i := 33) rfl)) rfl
theorem wd_7_35 : Cond.instanceMethod yX12_product ∈ rh_all := rh_in (rh_t7 (List.mem_of_getElem? (i := 35) rfl)) rfl
theorem wp_5_5 : Cond.selects RX12 yX12_product yX12_product ∈ rh_all := rh_in (rh_s5 (List.mem_of_getElem? (i := 5) rfl)) rfl
theorem wd_7_36 : Cond.code yX12_product cX12_product 5 (some .int) ∈ rh_all := rh_in (rh_t7 (List.mem_of_getElem? (i := 36) rfl)) rfl
theorem wd_7_37 : Cond.methodLink RX12 184 yX12_thing ∈ rh_all := rh_in (rh_t7 (List.mem_of_getElem? (i := 37) rfl)) rfl
theorem wd_7_39 : Cond.instanceMethod yX12_thing ∈ rh_all := rh_in (rh_t7 (List.mem_of_getElem? (i := 39) rfl)) rfl
theorem wp_5_6 : Cond.selects RX12 yX12_thing yX12_thing ∈ rh_all := rh_in (rh_s5 (List.mem_of_getElem? (i := 6) rfl)) rfl
theorem wd_7_40 : Cond.code yX12_thing cX12_thing 4 (some .int) ∈ rh_all := rh_in (rh_t7 (List.mem_of_getElem? (i := 40) rfl)) rfl
theorem wd_7_25 : Cond.methodLink RX12 187 yX12_held ∈ rh_all := rh_in (rh_t7 (List.mem_of_getElem? (i := 25) rfl)) rfl
theorem wd_7_27 : Cond.instanceMethod yX12_held ∈ rh_all := rh_in (rh_t7 (List.mem_of_getElem? (i := 27) rfl)) rfl
theorem wp_5_3 : Cond.selects RX12 yX12_held yX12_held ∈ rh_all := rh_in (rh_s5 (List.mem_of_getElem? (i := 3) rfl)) rfl
theorem wd_7_28 : Cond.code yX12_held cX12_held 3 (some .int) ∈ rh_all := rh_in (rh_t7 (List.mem_of_getElem? (i := 28) rfl)) rfl
theorem wd_7_41 : Cond.methodLink RX12 190 yX12_need ∈ rh_all := rh_in (rh_t7 (List.mem_of_getElem? (i := 41) rfl)) rfl
theorem wd_7_43 : Cond.instanceMethod yX12_need ∈ rh_all := rh_in (rh_t7 (List.mem_of_getElem? (i := 43) rfl)) rfl
theorem wp_5_7 : Cond.selects RX12 yX12_need yX12_need ∈ rh_all := rh_in (rh_s5 (List.mem_of_getElem? (i := 7) rfl)) rfl
theorem wd_7_44 : Cond.code yX12_need cX12_need 2 none ∈ rh_all := rh_in (rh_t7 (List.mem_of_getElem? (i := 44) rfl)) rfl
theorem wd_6_71 : Cond.fieldLink RX12 32 RX12 "askedOne" "I" ∈ rh_all := rh_in (rh_t6 (List.mem_of_getElem? (i := 71) rfl)) rfl
theorem wd_6_72 : Cond.fieldLink RX12 194 RX12 "askedBase" "I" ∈ rh_all := rh_in (rh_t6 (List.mem_of_getElem? (i := 72) rfl)) rfl
theorem wd_6_73 : Cond.fieldLink RX12 197 RX12 "askedAt" "I" ∈ rh_all := rh_in (rh_t6 (List.mem_of_getElem? (i := 73) rfl)) rfl
theorem wd_6_69 : Cond.fieldLink RX12 29 RX12 "rule" "[B" ∈ rh_all := rh_in (rh_t6 (List.mem_of_getElem? (i := 69) rfl)) rfl
theorem wd_6_70 : Cond.fieldLink RX12 200 RX12 "ruleSize" "I" ∈ rh_all := rh_in (rh_t6 (List.mem_of_getElem? (i := 70) rfl)) rfl
theorem wd_7_61 : Cond.methodLink RX12 203 yX12_weightBy ∈ rh_all := rh_in (rh_t7 (List.mem_of_getElem? (i := 61) rfl)) rfl
theorem wd_7_63 : Cond.instanceMethod yX12_weightBy ∈ rh_all := rh_in (rh_t7 (List.mem_of_getElem? (i := 63) rfl)) rfl
theorem wp_5_11 : Cond.selects RX12 yX12_weightBy yX12_weightBy ∈ rh_all := rh_in (rh_s5 (List.mem_of_getElem? (i := 11) rfl)) rfl
theorem wd_7_64 : Cond.code yX12_weightBy cX12_weightBy 5 (some .int) ∈ rh_all := rh_in (rh_t7 (List.mem_of_getElem? (i := 64) rfl)) rfl
theorem wd_7_65 : Cond.methodLink RX12 207 yX12_has ∈ rh_all := rh_in (rh_t7 (List.mem_of_getElem? (i := 65) rfl)) rfl
theorem wd_7_66 : Cond.static yX12_has ∈ rh_all := rh_in (rh_t7 (List.mem_of_getElem? (i := 66) rfl)) rfl
theorem wd_7_67 : Cond.code yX12_has cX12_has 2 (some .boolean) ∈ rh_all := rh_in (rh_t7 (List.mem_of_getElem? (i := 67) rfl)) rfl
theorem wd_7_68 : Cond.methodLink RX12 211 yJ9_min_7cf53 ∈ rh_all := rh_in (rh_t7 (List.mem_of_getElem? (i := 68) rfl)) rfl
theorem wd_7_69 : Cond.methodLink RX12 217 yJ9_max_7cf53 ∈ rh_all := rh_in (rh_t7 (List.mem_of_getElem? (i := 69) rfl)) rfl
theorem wd_7_57 : Cond.methodLink RX12 220 yX12_weightOf ∈ rh_all := rh_in (rh_t7 (List.mem_of_getElem? (i := 57) rfl)) rfl
theorem wd_7_59 : Cond.instanceMethod yX12_weightOf ∈ rh_all := rh_in (rh_t7 (List.mem_of_getElem? (i := 59) rfl)) rfl
theorem wp_5_10 : Cond.selects RX12 yX12_weightOf yX12_weightOf ∈ rh_all := rh_in (rh_s5 (List.mem_of_getElem? (i := 10) rfl)) rfl
theorem wd_7_60 : Cond.code yX12_weightOf cX12_weightOf 3 (some .int) ∈ rh_all := rh_in (rh_t7 (List.mem_of_getElem? (i := 60) rfl)) rfl
theorem wd_6_74 : Cond.fieldLink RX12 36 RX12 "each" "[I" ∈ rh_all := rh_in (rh_t6 (List.mem_of_getElem? (i := 74) rfl)) rfl
theorem wd_6_75 : Cond.fieldLink RX12 39 RX12 "sets" "[I" ∈ rh_all := rh_in (rh_t6 (List.mem_of_getElem? (i := 75) rfl)) rfl
theorem wd_7_216 : Cond.methodLink RX12 223 yJ6_numberOfTrailingZeros_0f7a4 ∈ rh_all := rh_in (rh_t7 (List.mem_of_getElem? (i := 216) rfl)) rfl
theorem wd_7_217 : Cond.static yJ6_numberOfTrailingZeros_0f7a4 ∈ rh_all := rh_in (rh_t7 (List.mem_of_getElem? (i := 217) rfl)) rfl
theorem wd_7_218 : Cond.code yJ6_numberOfTrailingZeros_0f7a4 cJ6_numberOfTrailingZeros_0f7a4 2 (some .int) ∈ rh_all := rh_in (rh_t7 (List.mem_of_getElem? (i := 218) rfl)) rfl
theorem wd_7_49 : Cond.methodLink RX12 228 yX12_isOne ∈ rh_all := rh_in (rh_t7 (List.mem_of_getElem? (i := 49) rfl)) rfl
theorem wd_7_51 : Cond.instanceMethod yX12_isOne ∈ rh_all := rh_in (rh_t7 (List.mem_of_getElem? (i := 51) rfl)) rfl
theorem wp_5_8 : Cond.selects RX12 yX12_isOne yX12_isOne ∈ rh_all := rh_in (rh_s5 (List.mem_of_getElem? (i := 8) rfl)) rfl
theorem wd_7_52 : Cond.code yX12_isOne cX12_isOne 2 (some .boolean) ∈ rh_all := rh_in (rh_t7 (List.mem_of_getElem? (i := 52) rfl)) rfl
theorem wd_7_53 : Cond.methodLink RX12 232 yX12_lost ∈ rh_all := rh_in (rh_t7 (List.mem_of_getElem? (i := 53) rfl)) rfl
theorem wd_7_55 : Cond.instanceMethod yX12_lost ∈ rh_all := rh_in (rh_t7 (List.mem_of_getElem? (i := 55) rfl)) rfl
theorem wp_5_9 : Cond.selects RX12 yX12_lost yX12_lost ∈ rh_all := rh_in (rh_s5 (List.mem_of_getElem? (i := 9) rfl)) rfl
theorem wd_7_56 : Cond.code yX12_lost cX12_lost 1 (some .int) ∈ rh_all := rh_in (rh_t7 (List.mem_of_getElem? (i := 56) rfl)) rfl
theorem wd_7_70 : Cond.methodLink RX12 235 yX12_dawn ∈ rh_all := rh_in (rh_t7 (List.mem_of_getElem? (i := 70) rfl)) rfl
theorem wd_7_72 : Cond.instanceMethod yX12_dawn ∈ rh_all := rh_in (rh_t7 (List.mem_of_getElem? (i := 72) rfl)) rfl
theorem wp_5_12 : Cond.selects RX12 yX12_dawn yX12_dawn ∈ rh_all := rh_in (rh_s5 (List.mem_of_getElem? (i := 12) rfl)) rfl
theorem wd_7_73 : Cond.code yX12_dawn cX12_dawn 1 (some .int) ∈ rh_all := rh_in (rh_t7 (List.mem_of_getElem? (i := 73) rfl)) rfl
theorem wd_7_82 : Cond.methodLink RX12 238 yX12_areFolk ∈ rh_all := rh_in (rh_t7 (List.mem_of_getElem? (i := 82) rfl)) rfl
theorem wd_7_84 : Cond.instanceMethod yX12_areFolk ∈ rh_all := rh_in (rh_t7 (List.mem_of_getElem? (i := 84) rfl)) rfl
theorem wp_5_13 : Cond.selects RX12 yX12_areFolk yX12_areFolk ∈ rh_all := rh_in (rh_s5 (List.mem_of_getElem? (i := 13) rfl)) rfl
theorem wd_7_85 : Cond.code yX12_areFolk cX12_areFolk 2 (some .boolean) ∈ rh_all := rh_in (rh_t7 (List.mem_of_getElem? (i := 85) rfl)) rfl
theorem wd_7_90 : Cond.methodLink RX12 241 yX12_weightOfAll ∈ rh_all := rh_in (rh_t7 (List.mem_of_getElem? (i := 90) rfl)) rfl
theorem wd_7_92 : Cond.instanceMethod yX12_weightOfAll ∈ rh_all := rh_in (rh_t7 (List.mem_of_getElem? (i := 92) rfl)) rfl
theorem wp_5_15 : Cond.selects RX12 yX12_weightOfAll yX12_weightOfAll ∈ rh_all := rh_in (rh_s5 (List.mem_of_getElem? (i := 15) rfl)) rfl
theorem wd_7_93 : Cond.code yX12_weightOfAll cX12_weightOfAll 5 (some .int) ∈ rh_all := rh_in (rh_t7 (List.mem_of_getElem? (i := 93) rfl)) rfl
theorem wd_7_98 : Cond.methodLink RX12 244 yX12_isHeavy ∈ rh_all := rh_in (rh_t7 (List.mem_of_getElem? (i := 98) rfl)) rfl
theorem wd_7_99 : Cond.static yX12_isHeavy ∈ rh_all := rh_in (rh_t7 (List.mem_of_getElem? (i := 99) rfl)) rfl
theorem wd_7_100 : Cond.code yX12_isHeavy cX12_isHeavy 1 (some .boolean) ∈ rh_all := rh_in (rh_t7 (List.mem_of_getElem? (i := 100) rfl)) rfl
theorem wd_6_57 : Cond.fieldLink RX12 16 RX12 "bears" "[I" ∈ rh_all := rh_in (rh_t6 (List.mem_of_getElem? (i := 57) rfl)) rfl
theorem wd_7_128 : Cond.methodLink RX12 247 yJ9_abs_0f7a4 ∈ rh_all := rh_in (rh_t7 (List.mem_of_getElem? (i := 128) rfl)) rfl
theorem wd_7_120 : Cond.methodLink RX12 250 yX12_leanOf ∈ rh_all := rh_in (rh_t7 (List.mem_of_getElem? (i := 120) rfl)) rfl
theorem wd_7_122 : Cond.instanceMethod yX12_leanOf ∈ rh_all := rh_in (rh_t7 (List.mem_of_getElem? (i := 122) rfl)) rfl
theorem wp_6_2 : Cond.selects RX12 yX12_leanOf yX12_leanOf ∈ rh_all := rh_in (rh_s6 (List.mem_of_getElem? (i := 2) rfl)) rfl
theorem wd_7_123 : Cond.code yX12_leanOf cX12_leanOf 5 (some .int) ∈ rh_all := rh_in (rh_t7 (List.mem_of_getElem? (i := 123) rfl)) rfl
theorem wd_7_124 : Cond.methodLink RX12 254 yX12_isTipping ∈ rh_all := rh_in (rh_t7 (List.mem_of_getElem? (i := 124) rfl)) rfl
theorem wd_7_126 : Cond.instanceMethod yX12_isTipping ∈ rh_all := rh_in (rh_t7 (List.mem_of_getElem? (i := 126) rfl)) rfl
theorem wp_6_3 : Cond.selects RX12 yX12_isTipping yX12_isTipping ∈ rh_all := rh_in (rh_s6 (List.mem_of_getElem? (i := 3) rfl)) rfl
theorem wd_7_127 : Cond.code yX12_isTipping cX12_isTipping 2 (some .boolean) ∈ rh_all := rh_in (rh_t7 (List.mem_of_getElem? (i := 127) rfl)) rfl
theorem wd_6_76 : Cond.fieldLink RX12 42 RX12 "undos" "[I" ∈ rh_all := rh_in (rh_t6 (List.mem_of_getElem? (i := 76) rfl)) rfl
theorem wd_7_113 : Cond.methodLink RX12 257 yX12_lay ∈ rh_all := rh_in (rh_t7 (List.mem_of_getElem? (i := 113) rfl)) rfl
theorem wd_7_114 : Cond.static yX12_lay ∈ rh_all := rh_in (rh_t7 (List.mem_of_getElem? (i := 114) rfl)) rfl
theorem wd_7_115 : Cond.code yX12_lay cX12_lay 4 none ∈ rh_all := rh_in (rh_t7 (List.mem_of_getElem? (i := 115) rfl)) rfl
theorem wd_7_109 : Cond.methodLink RX12 261 yX12_remember ∈ rh_all := rh_in (rh_t7 (List.mem_of_getElem? (i := 109) rfl)) rfl
theorem wd_7_111 : Cond.instanceMethod yX12_remember ∈ rh_all := rh_in (rh_t7 (List.mem_of_getElem? (i := 111) rfl)) rfl
theorem wp_6_0 : Cond.selects RX12 yX12_remember yX12_remember ∈ rh_all := rh_in (rh_s6 (List.mem_of_getElem? (i := 0) rfl)) rfl
theorem wd_7_112 : Cond.code yX12_remember cX12_remember 3 none ∈ rh_all := rh_in (rh_t7 (List.mem_of_getElem? (i := 112) rfl)) rfl
theorem wd_7_116 : Cond.methodLink RX12 265 yX12_isTipping_ ∈ rh_all := rh_in (rh_t7 (List.mem_of_getElem? (i := 116) rfl)) rfl
theorem wd_7_118 : Cond.instanceMethod yX12_isTipping_ ∈ rh_all := rh_in (rh_t7 (List.mem_of_getElem? (i := 118) rfl)) rfl
theorem wp_6_1 : Cond.selects RX12 yX12_isTipping_ yX12_isTipping_ ∈ rh_all := rh_in (rh_s6 (List.mem_of_getElem? (i := 1) rfl)) rfl
theorem wd_7_119 : Cond.code yX12_isTipping_ cX12_isTipping_ 2 (some .boolean) ∈ rh_all := rh_in (rh_t7 (List.mem_of_getElem? (i := 119) rfl)) rfl
theorem wd_7_129 : Cond.methodLink RX12 268 yX12_tell ∈ rh_all := rh_in (rh_t7 (List.mem_of_getElem? (i := 129) rfl)) rfl
theorem wd_7_131 : Cond.instanceMethod yX12_tell ∈ rh_all := rh_in (rh_t7 (List.mem_of_getElem? (i := 131) rfl)) rfl
theorem wp_6_4 : Cond.selects RX12 yX12_tell yX12_tell ∈ rh_all := rh_in (rh_s6 (List.mem_of_getElem? (i := 4) rfl)) rfl
theorem wd_7_132 : Cond.code yX12_tell cX12_tell 2 none ∈ rh_all := rh_in (rh_t7 (List.mem_of_getElem? (i := 132) rfl)) rfl
theorem wd_6_79 : Cond.fieldLink RX12 48 RX12 "tried" "[I" ∈ rh_all := rh_in (rh_t6 (List.mem_of_getElem? (i := 79) rfl)) rfl
theorem wd_7_137 : Cond.methodLink RX12 271 yX12_tryBoard ∈ rh_all := rh_in (rh_t7 (List.mem_of_getElem? (i := 137) rfl)) rfl
theorem wd_7_139 : Cond.instanceMethod yX12_tryBoard ∈ rh_all := rh_in (rh_t7 (List.mem_of_getElem? (i := 139) rfl)) rfl
theorem wp_6_5 : Cond.selects RX12 yX12_tryBoard yX12_tryBoard ∈ rh_all := rh_in (rh_s6 (List.mem_of_getElem? (i := 5) rfl)) rfl
theorem wd_7_140 : Cond.code yX12_tryBoard cX12_tryBoard 3 (some .int) ∈ rh_all := rh_in (rh_t7 (List.mem_of_getElem? (i := 140) rfl)) rfl
theorem wd_7_141 : Cond.methodLink RX12 274 yX12_doTried ∈ rh_all := rh_in (rh_t7 (List.mem_of_getElem? (i := 141) rfl)) rfl
theorem wd_7_143 : Cond.instanceMethod yX12_doTried ∈ rh_all := rh_in (rh_t7 (List.mem_of_getElem? (i := 143) rfl)) rfl
theorem wp_6_6 : Cond.selects RX12 yX12_doTried yX12_doTried ∈ rh_all := rh_in (rh_s6 (List.mem_of_getElem? (i := 6) rfl)) rfl
theorem wd_7_144 : Cond.code yX12_doTried cX12_doTried 2 none ∈ rh_all := rh_in (rh_t7 (List.mem_of_getElem? (i := 144) rfl)) rfl
theorem wd_7_149 : Cond.methodLink RX12 277 yX12_tryOff ∈ rh_all := rh_in (rh_t7 (List.mem_of_getElem? (i := 149) rfl)) rfl
theorem wd_7_151 : Cond.instanceMethod yX12_tryOff ∈ rh_all := rh_in (rh_t7 (List.mem_of_getElem? (i := 151) rfl)) rfl
theorem wp_6_7 : Cond.selects RX12 yX12_tryOff yX12_tryOff ∈ rh_all := rh_in (rh_s6 (List.mem_of_getElem? (i := 7) rfl)) rfl
theorem wd_7_152 : Cond.code yX12_tryOff cX12_tryOff 2 (some .int) ∈ rh_all := rh_in (rh_t7 (List.mem_of_getElem? (i := 152) rfl)) rfl
theorem wd_7_157 : Cond.methodLink RX12 280 yX12_tryStep ∈ rh_all := rh_in (rh_t7 (List.mem_of_getElem? (i := 157) rfl)) rfl
theorem wd_7_159 : Cond.instanceMethod yX12_tryStep ∈ rh_all := rh_in (rh_t7 (List.mem_of_getElem? (i := 159) rfl)) rfl
theorem wp_6_8 : Cond.selects RX12 yX12_tryStep yX12_tryStep ∈ rh_all := rh_in (rh_s6 (List.mem_of_getElem? (i := 8) rfl)) rfl
theorem wd_7_160 : Cond.code yX12_tryStep cX12_tryStep 3 (some .int) ∈ rh_all := rh_in (rh_t7 (List.mem_of_getElem? (i := 160) rfl)) rfl
theorem wd_7_165 : Cond.methodLink RX12 283 yX12_readAct ∈ rh_all := rh_in (rh_t7 (List.mem_of_getElem? (i := 165) rfl)) rfl
theorem wd_7_167 : Cond.instanceMethod yX12_readAct ∈ rh_all := rh_in (rh_t7 (List.mem_of_getElem? (i := 167) rfl)) rfl
theorem wp_6_9 : Cond.selects RX12 yX12_readAct yX12_readAct ∈ rh_all := rh_in (rh_s6 (List.mem_of_getElem? (i := 9) rfl)) rfl
theorem wd_7_168 : Cond.code yX12_readAct cX12_readAct 5 none ∈ rh_all := rh_in (rh_t7 (List.mem_of_getElem? (i := 168) rfl)) rfl
theorem wd_6_78 : Cond.fieldLink RX12 45 RX12 "aside" "[I" ∈ rh_all := rh_in (rh_t6 (List.mem_of_getElem? (i := 78) rfl)) rfl
theorem wd_7_173 : Cond.methodLink RX12 286 yX12_act ∈ rh_all := rh_in (rh_t7 (List.mem_of_getElem? (i := 173) rfl)) rfl
theorem wd_7_175 : Cond.instanceMethod yX12_act ∈ rh_all := rh_in (rh_t7 (List.mem_of_getElem? (i := 175) rfl)) rfl
theorem wp_6_11 : Cond.selects RX12 yX12_act yX12_act ∈ rh_all := rh_in (rh_s6 (List.mem_of_getElem? (i := 11) rfl)) rfl
theorem wd_7_176 : Cond.code yX12_act cX12_act 4 (some .boolean) ∈ rh_all := rh_in (rh_t7 (List.mem_of_getElem? (i := 176) rfl)) rfl
theorem wd_6_80 : Cond.fieldLink RX12 51 RX12 "acts" "[I" ∈ rh_all := rh_in (rh_t6 (List.mem_of_getElem? (i := 80) rfl)) rfl
theorem wd_7_169 : Cond.methodLink RX12 289 yX12_letter ∈ rh_all := rh_in (rh_t7 (List.mem_of_getElem? (i := 169) rfl)) rfl
theorem wd_7_171 : Cond.instanceMethod yX12_letter ∈ rh_all := rh_in (rh_t7 (List.mem_of_getElem? (i := 171) rfl)) rfl
theorem wp_6_10 : Cond.selects RX12 yX12_letter yX12_letter ∈ rh_all := rh_in (rh_s6 (List.mem_of_getElem? (i := 10) rfl)) rfl
theorem wd_7_172 : Cond.code yX12_letter cX12_letter 1 (some .int) ∈ rh_all := rh_in (rh_t7 (List.mem_of_getElem? (i := 172) rfl)) rfl
theorem wd_7_209 : Cond.methodLink RX12 292 yX12_isBell ∈ rh_all := rh_in (rh_t7 (List.mem_of_getElem? (i := 209) rfl)) rfl
theorem wd_7_210 : Cond.static yX12_isBell ∈ rh_all := rh_in (rh_t7 (List.mem_of_getElem? (i := 210) rfl)) rfl
theorem wd_7_211 : Cond.code yX12_isBell cX12_isBell 1 (some .boolean) ∈ rh_all := rh_in (rh_t7 (List.mem_of_getElem? (i := 211) rfl)) rfl
theorem wd_7_212 : Cond.methodLink RX12 295 yX12_findSets ∈ rh_all := rh_in (rh_t7 (List.mem_of_getElem? (i := 212) rfl)) rfl
theorem wd_7_214 : Cond.instanceMethod yX12_findSets ∈ rh_all := rh_in (rh_t7 (List.mem_of_getElem? (i := 214) rfl)) rfl
theorem wp_6_12 : Cond.selects RX12 yX12_findSets yX12_findSets ∈ rh_all := rh_in (rh_s6 (List.mem_of_getElem? (i := 12) rfl)) rfl
theorem wd_7_215 : Cond.code yX12_findSets cX12_findSets 3 none ∈ rh_all := rh_in (rh_t7 (List.mem_of_getElem? (i := 215) rfl)) rfl
theorem wd_7_220 : Cond.methodLink RX12 298 yJ6_bitCount_0f7a4 ∈ rh_all := rh_in (rh_t7 (List.mem_of_getElem? (i := 220) rfl)) rfl
theorem wd_6_82 : Cond.fieldLink RX12 301 RX12 "taskMany" "I" ∈ rh_all := rh_in (rh_t6 (List.mem_of_getElem? (i := 82) rfl)) rfl
theorem wd_6_81 : Cond.fieldLink RX12 54 RX12 "tasks" "[I" ∈ rh_all := rh_in (rh_t6 (List.mem_of_getElem? (i := 81) rfl)) rfl
theorem wd_8_5 : Cond.methodLink RX12 304 yX12_does ∈ rh_all := rh_in (rh_t8 (List.mem_of_getElem? (i := 5) rfl)) rfl
theorem wd_8_7 : Cond.instanceMethod yX12_does ∈ rh_all := rh_in (rh_t8 (List.mem_of_getElem? (i := 7) rfl)) rfl
theorem wp_6_14 : Cond.selects RX12 yX12_does yX12_does ∈ rh_all := rh_in (rh_s6 (List.mem_of_getElem? (i := 14) rfl)) rfl
theorem wd_8_8 : Cond.code yX12_does cX12_does 3 (some .boolean) ∈ rh_all := rh_in (rh_t8 (List.mem_of_getElem? (i := 8) rfl)) rfl
theorem wd_8_1 : Cond.methodLink RX12 307 yX12_crewOf ∈ rh_all := rh_in (rh_t8 (List.mem_of_getElem? (i := 1) rfl)) rfl
theorem wd_8_3 : Cond.instanceMethod yX12_crewOf ∈ rh_all := rh_in (rh_t8 (List.mem_of_getElem? (i := 3) rfl)) rfl
theorem wp_6_13 : Cond.selects RX12 yX12_crewOf yX12_crewOf ∈ rh_all := rh_in (rh_s6 (List.mem_of_getElem? (i := 13) rfl)) rfl
theorem wd_8_4 : Cond.code yX12_crewOf cX12_crewOf 4 (some .int) ∈ rh_all := rh_in (rh_t8 (List.mem_of_getElem? (i := 4) rfl)) rfl
theorem wd_6_83 : Cond.fieldLink RX12 57 RX12 "able" "[I" ∈ rh_all := rh_in (rh_t6 (List.mem_of_getElem? (i := 83) rfl)) rfl
theorem wd_8_13 : Cond.methodLink RX12 310 yX12_findAble ∈ rh_all := rh_in (rh_t8 (List.mem_of_getElem? (i := 13) rfl)) rfl
theorem wd_8_15 : Cond.instanceMethod yX12_findAble ∈ rh_all := rh_in (rh_t8 (List.mem_of_getElem? (i := 15) rfl)) rfl
theorem wp_6_15 : Cond.selects RX12 yX12_findAble yX12_findAble ∈ rh_all := rh_in (rh_s6 (List.mem_of_getElem? (i := 15) rfl)) rfl
theorem wd_8_16 : Cond.code yX12_findAble cX12_findAble 3 none ∈ rh_all := rh_in (rh_t8 (List.mem_of_getElem? (i := 16) rfl)) rfl
theorem wd_6_84 : Cond.fieldLink RX12 60 RX12 "plan" "[I" ∈ rh_all := rh_in (rh_t6 (List.mem_of_getElem? (i := 84) rfl)) rfl
theorem wd_8_21 : Cond.methodLink RX12 313 yX12_planFrom ∈ rh_all := rh_in (rh_t8 (List.mem_of_getElem? (i := 21) rfl)) rfl
theorem wd_8_23 : Cond.instanceMethod yX12_planFrom ∈ rh_all := rh_in (rh_t8 (List.mem_of_getElem? (i := 23) rfl)) rfl
theorem wp_7_0 : Cond.selects RX12 yX12_planFrom yX12_planFrom ∈ rh_all := rh_in (rh_s7 (List.mem_of_getElem? (i := 0) rfl)) rfl
theorem wd_8_24 : Cond.code yX12_planFrom cX12_planFrom 5 (some .boolean) ∈ rh_all := rh_in (rh_t8 (List.mem_of_getElem? (i := 24) rfl)) rfl
theorem wd_6_85 : Cond.fieldLink RX12 64 RX12 "used" "[Z" ∈ rh_all := rh_in (rh_t6 (List.mem_of_getElem? (i := 85) rfl)) rfl
theorem wd_6_86 : Cond.fieldLink RX12 68 RX12 "near" "[Z" ∈ rh_all := rh_in (rh_t6 (List.mem_of_getElem? (i := 86) rfl)) rfl
theorem wd_8_45 : Cond.methodLink RX12 316 yX12_canCross ∈ rh_all := rh_in (rh_t8 (List.mem_of_getElem? (i := 45) rfl)) rfl
theorem wd_8_47 : Cond.instanceMethod yX12_canCross ∈ rh_all := rh_in (rh_t8 (List.mem_of_getElem? (i := 47) rfl)) rfl
theorem wp_7_3 : Cond.selects RX12 yX12_canCross yX12_canCross ∈ rh_all := rh_in (rh_s7 (List.mem_of_getElem? (i := 3) rfl)) rfl
theorem wd_8_48 : Cond.code yX12_canCross cX12_canCross 3 (some .boolean) ∈ rh_all := rh_in (rh_t8 (List.mem_of_getElem? (i := 48) rfl)) rfl
theorem wd_8_49 : Cond.constant RX12 319 (1000000) ∈ rh_all := rh_in (rh_t8 (List.mem_of_getElem? (i := 49) rfl)) rfl
theorem wd_6_87 : Cond.fieldLink RX12 71 RX12 "good" "[Z" ∈ rh_all := rh_in (rh_t6 (List.mem_of_getElem? (i := 87) rfl)) rfl
theorem wd_8_33 : Cond.methodLink RX12 320 yX12_canSetOut ∈ rh_all := rh_in (rh_t8 (List.mem_of_getElem? (i := 33) rfl)) rfl
theorem wd_8_35 : Cond.instanceMethod yX12_canSetOut ∈ rh_all := rh_in (rh_t8 (List.mem_of_getElem? (i := 35) rfl)) rfl
theorem wp_7_1 : Cond.selects RX12 yX12_canSetOut yX12_canSetOut ∈ rh_all := rh_in (rh_s7 (List.mem_of_getElem? (i := 1) rfl)) rfl
theorem wd_8_36 : Cond.code yX12_canSetOut cX12_canSetOut 2 (some .boolean) ∈ rh_all := rh_in (rh_t8 (List.mem_of_getElem? (i := 36) rfl)) rfl
theorem wd_8_41 : Cond.methodLink RX12 323 yX12_findCross ∈ rh_all := rh_in (rh_t8 (List.mem_of_getElem? (i := 41) rfl)) rfl
theorem wd_8_43 : Cond.instanceMethod yX12_findCross ∈ rh_all := rh_in (rh_t8 (List.mem_of_getElem? (i := 43) rfl)) rfl
theorem wp_7_2 : Cond.selects RX12 yX12_findCross yX12_findCross ∈ rh_all := rh_in (rh_s7 (List.mem_of_getElem? (i := 2) rfl)) rfl
theorem wd_8_44 : Cond.code yX12_findCross cX12_findCross 8 (some .int) ∈ rh_all := rh_in (rh_t8 (List.mem_of_getElem? (i := 44) rfl)) rfl
theorem wd_8_50 : Cond.methodLink RX12 326 yX12_findGood ∈ rh_all := rh_in (rh_t8 (List.mem_of_getElem? (i := 50) rfl)) rfl
theorem wd_8_52 : Cond.instanceMethod yX12_findGood ∈ rh_all := rh_in (rh_t8 (List.mem_of_getElem? (i := 52) rfl)) rfl
theorem wp_7_4 : Cond.selects RX12 yX12_findGood yX12_findGood ∈ rh_all := rh_in (rh_s7 (List.mem_of_getElem? (i := 4) rfl)) rfl
theorem wd_8_53 : Cond.code yX12_findGood cX12_findGood 10 none ∈ rh_all := rh_in (rh_t8 (List.mem_of_getElem? (i := 53) rfl)) rfl
theorem wd_6_88 : Cond.fieldLink RX12 74 RX12 "ways" "[J" ∈ rh_all := rh_in (rh_t6 (List.mem_of_getElem? (i := 88) rfl)) rfl
theorem wd_8_82 : Cond.constantLong RX12 330 (100) ∈ rh_all := rh_in (rh_t8 (List.mem_of_getElem? (i := 82) rfl)) rfl
theorem wd_6_89 : Cond.fieldLink RX12 78 RX12 "wayMany" "[I" ∈ rh_all := rh_in (rh_t6 (List.mem_of_getElem? (i := 89) rfl)) rfl
theorem wd_8_78 : Cond.methodLink RX12 332 yX12_wayOf ∈ rh_all := rh_in (rh_t8 (List.mem_of_getElem? (i := 78) rfl)) rfl
theorem wd_8_80 : Cond.instanceMethod yX12_wayOf ∈ rh_all := rh_in (rh_t8 (List.mem_of_getElem? (i := 80) rfl)) rfl
theorem wp_7_9 : Cond.selects RX12 yX12_wayOf yX12_wayOf ∈ rh_all := rh_in (rh_s7 (List.mem_of_getElem? (i := 9) rfl)) rfl
theorem wd_8_81 : Cond.code yX12_wayOf cX12_wayOf 3 (some .int) ∈ rh_all := rh_in (rh_t8 (List.mem_of_getElem? (i := 81) rfl)) rfl
theorem wd_8_74 : Cond.methodLink RX12 335 yX12_find ∈ rh_all := rh_in (rh_t8 (List.mem_of_getElem? (i := 74) rfl)) rfl
theorem wd_8_76 : Cond.instanceMethod yX12_find ∈ rh_all := rh_in (rh_t8 (List.mem_of_getElem? (i := 76) rfl)) rfl
theorem wp_7_8 : Cond.selects RX12 yX12_find yX12_find ∈ rh_all := rh_in (rh_s7 (List.mem_of_getElem? (i := 8) rfl)) rfl
theorem wd_8_77 : Cond.code yX12_find cX12_find 6 (some .int) ∈ rh_all := rh_in (rh_t8 (List.mem_of_getElem? (i := 77) rfl)) rfl
theorem wd_6_90 : Cond.fieldLink RX12 81 RX12 "stood" "[I" ∈ rh_all := rh_in (rh_t6 (List.mem_of_getElem? (i := 90) rfl)) rfl
theorem wd_8_66 : Cond.methodLink RX12 338 yX12_codeOf ∈ rh_all := rh_in (rh_t8 (List.mem_of_getElem? (i := 66) rfl)) rfl
theorem wd_8_68 : Cond.instanceMethod yX12_codeOf ∈ rh_all := rh_in (rh_t8 (List.mem_of_getElem? (i := 68) rfl)) rfl
theorem wp_7_6 : Cond.selects RX12 yX12_codeOf yX12_codeOf ∈ rh_all := rh_in (rh_s7 (List.mem_of_getElem? (i := 6) rfl)) rfl
theorem wd_8_69 : Cond.code yX12_codeOf cX12_codeOf 4 (some .int) ∈ rh_all := rh_in (rh_t8 (List.mem_of_getElem? (i := 69) rfl)) rfl
theorem wd_8_70 : Cond.methodLink RX12 342 yX12_add ∈ rh_all := rh_in (rh_t8 (List.mem_of_getElem? (i := 70) rfl)) rfl
theorem wd_8_72 : Cond.instanceMethod yX12_add ∈ rh_all := rh_in (rh_t8 (List.mem_of_getElem? (i := 72) rfl)) rfl
theorem wp_7_7 : Cond.selects RX12 yX12_add yX12_add ∈ rh_all := rh_in (rh_s7 (List.mem_of_getElem? (i := 7) rfl)) rfl
theorem wd_8_73 : Cond.code yX12_add cX12_add 5 (some .boolean) ∈ rh_all := rh_in (rh_t8 (List.mem_of_getElem? (i := 73) rfl)) rfl
theorem wd_8_83 : Cond.methodLink RX12 345 yX12_findEach ∈ rh_all := rh_in (rh_t8 (List.mem_of_getElem? (i := 83) rfl)) rfl
theorem wd_8_85 : Cond.instanceMethod yX12_findEach ∈ rh_all := rh_in (rh_t8 (List.mem_of_getElem? (i := 85) rfl)) rfl
theorem wp_7_10 : Cond.selects RX12 yX12_findEach yX12_findEach ∈ rh_all := rh_in (rh_s7 (List.mem_of_getElem? (i := 10) rfl)) rfl
theorem wd_8_86 : Cond.code yX12_findEach cX12_findEach 3 none ∈ rh_all := rh_in (rh_t8 (List.mem_of_getElem? (i := 86) rfl)) rfl
theorem wd_8_87 : Cond.methodLink RX12 348 yX12_layCode ∈ rh_all := rh_in (rh_t8 (List.mem_of_getElem? (i := 87) rfl)) rfl
theorem wd_8_89 : Cond.instanceMethod yX12_layCode ∈ rh_all := rh_in (rh_t8 (List.mem_of_getElem? (i := 89) rfl)) rfl
theorem wp_7_11 : Cond.selects RX12 yX12_layCode yX12_layCode ∈ rh_all := rh_in (rh_s7 (List.mem_of_getElem? (i := 11) rfl)) rfl
theorem wd_8_90 : Cond.code yX12_layCode cX12_layCode 5 none ∈ rh_all := rh_in (rh_t8 (List.mem_of_getElem? (i := 90) rfl)) rfl
theorem wd_8_91 : Cond.methodLink RX12 352 yX12_leanStood ∈ rh_all := rh_in (rh_t8 (List.mem_of_getElem? (i := 91) rfl)) rfl
theorem wd_8_93 : Cond.instanceMethod yX12_leanStood ∈ rh_all := rh_in (rh_t8 (List.mem_of_getElem? (i := 93) rfl)) rfl
theorem wp_7_12 : Cond.selects RX12 yX12_leanStood yX12_leanStood ∈ rh_all := rh_in (rh_s7 (List.mem_of_getElem? (i := 12) rfl)) rfl
theorem wd_8_94 : Cond.code yX12_leanStood cX12_leanStood 3 (some .int) ∈ rh_all := rh_in (rh_t8 (List.mem_of_getElem? (i := 94) rfl)) rfl
theorem wd_8_95 : Cond.methodLink RX12 355 yX12_stepTo ∈ rh_all := rh_in (rh_t8 (List.mem_of_getElem? (i := 95) rfl)) rfl
theorem wd_8_97 : Cond.instanceMethod yX12_stepTo ∈ rh_all := rh_in (rh_t8 (List.mem_of_getElem? (i := 97) rfl)) rfl
theorem wp_7_13 : Cond.selects RX12 yX12_stepTo yX12_stepTo ∈ rh_all := rh_in (rh_s7 (List.mem_of_getElem? (i := 13) rfl)) rfl
theorem wd_8_98 : Cond.code yX12_stepTo cX12_stepTo 8 (some .int) ∈ rh_all := rh_in (rh_t8 (List.mem_of_getElem? (i := 98) rfl)) rfl
theorem wd_8_103 : Cond.methodLink RX12 358 yX12_stepsBy ∈ rh_all := rh_in (rh_t8 (List.mem_of_getElem? (i := 103) rfl)) rfl
theorem wd_8_105 : Cond.instanceMethod yX12_stepsBy ∈ rh_all := rh_in (rh_t8 (List.mem_of_getElem? (i := 105) rfl)) rfl
theorem wp_7_15 : Cond.selects RX12 yX12_stepsBy yX12_stepsBy ∈ rh_all := rh_in (rh_s7 (List.mem_of_getElem? (i := 15) rfl)) rfl
theorem wd_8_106 : Cond.code yX12_stepsBy cX12_stepsBy 6 (some .int) ∈ rh_all := rh_in (rh_t8 (List.mem_of_getElem? (i := 106) rfl)) rfl
theorem wd_8_107 : Cond.methodLink RX12 362 yX12_leftOf ∈ rh_all := rh_in (rh_t8 (List.mem_of_getElem? (i := 107) rfl)) rfl
theorem wd_8_109 : Cond.instanceMethod yX12_leftOf ∈ rh_all := rh_in (rh_t8 (List.mem_of_getElem? (i := 109) rfl)) rfl
theorem wp_8_0 : Cond.selects RX12 yX12_leftOf yX12_leftOf ∈ rh_all := rh_in (rh_s8 (List.mem_of_getElem? (i := 0) rfl)) rfl
theorem wd_8_110 : Cond.code yX12_leftOf cX12_leftOf 3 (some .int) ∈ rh_all := rh_in (rh_t8 (List.mem_of_getElem? (i := 110) rfl)) rfl
theorem wd_8_62 : Cond.methodLink RX12 365 yX12_findWays ∈ rh_all := rh_in (rh_t8 (List.mem_of_getElem? (i := 62) rfl)) rfl
theorem wd_8_64 : Cond.instanceMethod yX12_findWays ∈ rh_all := rh_in (rh_t8 (List.mem_of_getElem? (i := 64) rfl)) rfl
theorem wp_7_5 : Cond.selects RX12 yX12_findWays yX12_findWays ∈ rh_all := rh_in (rh_s7 (List.mem_of_getElem? (i := 5) rfl)) rfl
theorem wd_8_65 : Cond.code yX12_findWays cX12_findWays 8 (some .boolean) ∈ rh_all := rh_in (rh_t8 (List.mem_of_getElem? (i := 65) rfl)) rfl
theorem wd_8_99 : Cond.methodLink RX12 368 yX12_findSteps ∈ rh_all := rh_in (rh_t8 (List.mem_of_getElem? (i := 99) rfl)) rfl
theorem wd_8_101 : Cond.instanceMethod yX12_findSteps ∈ rh_all := rh_in (rh_t8 (List.mem_of_getElem? (i := 101) rfl)) rfl
theorem wp_7_14 : Cond.selects RX12 yX12_findSteps yX12_findSteps ∈ rh_all := rh_in (rh_s7 (List.mem_of_getElem? (i := 14) rfl)) rfl
theorem wd_8_102 : Cond.code yX12_findSteps cX12_findSteps 8 none ∈ rh_all := rh_in (rh_t8 (List.mem_of_getElem? (i := 102) rfl)) rfl
theorem wd_8_119 : Cond.methodLink RX12 371 yX12_areTwoSets ∈ rh_all := rh_in (rh_t8 (List.mem_of_getElem? (i := 119) rfl)) rfl
theorem wd_8_121 : Cond.instanceMethod yX12_areTwoSets ∈ rh_all := rh_in (rh_t8 (List.mem_of_getElem? (i := 121) rfl)) rfl
theorem wp_8_1 : Cond.selects RX12 yX12_areTwoSets yX12_areTwoSets ∈ rh_all := rh_in (rh_s8 (List.mem_of_getElem? (i := 1) rfl)) rfl
theorem wd_8_122 : Cond.code yX12_areTwoSets cX12_areTwoSets 3 (some .boolean) ∈ rh_all := rh_in (rh_t8 (List.mem_of_getElem? (i := 122) rfl)) rfl
theorem wd_8_123 : Cond.methodLink RX12 374 yX12_sinks ∈ rh_all := rh_in (rh_t8 (List.mem_of_getElem? (i := 123) rfl)) rfl
theorem wd_8_125 : Cond.instanceMethod yX12_sinks ∈ rh_all := rh_in (rh_t8 (List.mem_of_getElem? (i := 125) rfl)) rfl
theorem wp_8_2 : Cond.selects RX12 yX12_sinks yX12_sinks ∈ rh_all := rh_in (rh_s8 (List.mem_of_getElem? (i := 2) rfl)) rfl
theorem wd_8_126 : Cond.code yX12_sinks cX12_sinks 6 (some .int) ∈ rh_all := rh_in (rh_t8 (List.mem_of_getElem? (i := 126) rfl)) rfl
theorem wd_8_143 : Cond.constant RX12 377 (-100000) ∈ rh_all := rh_in (rh_t8 (List.mem_of_getElem? (i := 143) rfl)) rfl
theorem wd_6_92 : Cond.fieldLink RX12 378 RX12 "scaleMany" "I" ∈ rh_all := rh_in (rh_t6 (List.mem_of_getElem? (i := 92) rfl)) rfl
theorem wd_6_91 : Cond.fieldLink RX12 84 RX12 "scales" "[I" ∈ rh_all := rh_in (rh_t6 (List.mem_of_getElem? (i := 91) rfl)) rfl
theorem wd_8_156 : Cond.methodLink RX12 381 yX12_falseOnes ∈ rh_all := rh_in (rh_t8 (List.mem_of_getElem? (i := 156) rfl)) rfl
theorem wd_8_158 : Cond.instanceMethod yX12_falseOnes ∈ rh_all := rh_in (rh_t8 (List.mem_of_getElem? (i := 158) rfl)) rfl
theorem wp_8_3 : Cond.selects RX12 yX12_falseOnes yX12_falseOnes ∈ rh_all := rh_in (rh_s8 (List.mem_of_getElem? (i := 3) rfl)) rfl
theorem wd_8_159 : Cond.code yX12_falseOnes cX12_falseOnes 3 (some .int) ∈ rh_all := rh_in (rh_t8 (List.mem_of_getElem? (i := 159) rfl)) rfl
theorem wd_6_95 : Cond.fieldLink RX12 384 RX12 "baseMany" "I" ∈ rh_all := rh_in (rh_t6 (List.mem_of_getElem? (i := 95) rfl)) rfl
theorem wd_6_96 : Cond.fieldLink RX12 387 RX12 "otherMany" "I" ∈ rh_all := rh_in (rh_t6 (List.mem_of_getElem? (i := 96) rfl)) rfl
theorem wd_6_97 : Cond.fieldLink RX12 87 RX12 "wants" "[I" ∈ rh_all := rh_in (rh_t6 (List.mem_of_getElem? (i := 97) rfl)) rfl
theorem wd_6_93 : Cond.fieldLink RX12 390 RX12 "leastBase" "I" ∈ rh_all := rh_in (rh_t6 (List.mem_of_getElem? (i := 93) rfl)) rfl
theorem wd_6_94 : Cond.fieldLink RX12 393 RX12 "greatestBase" "I" ∈ rh_all := rh_in (rh_t6 (List.mem_of_getElem? (i := 94) rfl)) rfl
theorem wd_8_164 : Cond.methodLink RX12 396 yX12_findBases ∈ rh_all := rh_in (rh_t8 (List.mem_of_getElem? (i := 164) rfl)) rfl
theorem wd_8_166 : Cond.instanceMethod yX12_findBases ∈ rh_all := rh_in (rh_t8 (List.mem_of_getElem? (i := 166) rfl)) rfl
theorem wp_8_4 : Cond.selects RX12 yX12_findBases yX12_findBases ∈ rh_all := rh_in (rh_s8 (List.mem_of_getElem? (i := 4) rfl)) rfl
theorem wd_8_167 : Cond.code yX12_findBases cX12_findBases 5 none ∈ rh_all := rh_in (rh_t8 (List.mem_of_getElem? (i := 167) rfl)) rfl
theorem wd_8_188 : Cond.methodLink RX12 399 yX12_isPerson ∈ rh_all := rh_in (rh_t8 (List.mem_of_getElem? (i := 188) rfl)) rfl
theorem wd_8_190 : Cond.instanceMethod yX12_isPerson ∈ rh_all := rh_in (rh_t8 (List.mem_of_getElem? (i := 190) rfl)) rfl
theorem wp_8_5 : Cond.selects RX12 yX12_isPerson yX12_isPerson ∈ rh_all := rh_in (rh_s8 (List.mem_of_getElem? (i := 5) rfl)) rfl
theorem wd_8_191 : Cond.code yX12_isPerson cX12_isPerson 2 (some .boolean) ∈ rh_all := rh_in (rh_t8 (List.mem_of_getElem? (i := 191) rfl)) rfl
theorem wd_6_101 : Cond.fieldLink RX12 402 RX12 "leastCarried" "I" ∈ rh_all := rh_in (rh_t6 (List.mem_of_getElem? (i := 101) rfl)) rfl
theorem wd_6_100 : Cond.fieldLink RX12 96 RX12 "bestOrder" "[I" ∈ rh_all := rh_in (rh_t6 (List.mem_of_getElem? (i := 100) rfl)) rfl
theorem wd_6_99 : Cond.fieldLink RX12 93 RX12 "order" "[I" ∈ rh_all := rh_in (rh_t6 (List.mem_of_getElem? (i := 99) rfl)) rfl
theorem wd_6_98 : Cond.fieldLink RX12 90 RX12 "byBell" "[I" ∈ rh_all := rh_in (rh_t6 (List.mem_of_getElem? (i := 98) rfl)) rfl
theorem wd_8_197 : Cond.methodLink RX12 405 yX12_goOrder ∈ rh_all := rh_in (rh_t8 (List.mem_of_getElem? (i := 197) rfl)) rfl
theorem wd_8_199 : Cond.instanceMethod yX12_goOrder ∈ rh_all := rh_in (rh_t8 (List.mem_of_getElem? (i := 199) rfl)) rfl
theorem wp_8_6 : Cond.selects RX12 yX12_goOrder yX12_goOrder ∈ rh_all := rh_in (rh_s8 (List.mem_of_getElem? (i := 6) rfl)) rfl
theorem wd_8_200 : Cond.code yX12_goOrder cX12_goOrder 5 none ∈ rh_all := rh_in (rh_t8 (List.mem_of_getElem? (i := 200) rfl)) rfl
theorem wd_8_196 : Cond.constant RX12 408 (2147483647) ∈ rh_all := rh_in (rh_t8 (List.mem_of_getElem? (i := 196) rfl)) rfl
theorem wd_6_104 : Cond.fieldLink RX12 102 RX12 "isKept" "[Z" ∈ rh_all := rh_in (rh_t6 (List.mem_of_getElem? (i := 104) rfl)) rfl
theorem wd_6_105 : Cond.fieldLink RX12 105 RX12 "keptCame" "[I" ∈ rh_all := rh_in (rh_t6 (List.mem_of_getElem? (i := 105) rfl)) rfl
theorem wd_6_103 : Cond.fieldLink RX12 99 RX12 "kept" "[I" ∈ rh_all := rh_in (rh_t6 (List.mem_of_getElem? (i := 103) rfl)) rfl
theorem wd_7_219 : Cond.constant RJ6 264 (65536) ∈ rh_all := rh_in (rh_t7 (List.mem_of_getElem? (i := 219) rfl)) rfl
theorem wd_4_10 : Cond.constant RJ6 265 (1431655765) ∈ rh_all := rh_in (rh_t4 (List.mem_of_getElem? (i := 10) rfl)) rfl
theorem wd_4_11 : Cond.constant RJ6 266 (858993459) ∈ rh_all := rh_in (rh_t4 (List.mem_of_getElem? (i := 11) rfl)) rfl
theorem wd_4_12 : Cond.constant RJ6 267 (252645135) ∈ rh_all := rh_in (rh_t4 (List.mem_of_getElem? (i := 12) rfl)) rfl
theorem wd_1_111 : Cond.lays RX0 RX0 "size" "I" ∈ rh_all := rh_in (rh_t1 (List.mem_of_getElem? (i := 111) rfl)) rfl
theorem wd_1_113 : Cond.lays RX0 RX0 "persons" "I" ∈ rh_all := rh_in (rh_t1 (List.mem_of_getElem? (i := 113) rfl)) rfl
theorem wd_1_115 : Cond.laysFinal RX0 RX0 "bases" "[I" ∈ rh_all := rh_in (rh_t1 (List.mem_of_getElem? (i := 115) rfl)) rfl
theorem wd_1_117 : Cond.laysFinal RX0 RX0 "habit" "LLighterAtDusk$Habit;" ∈ rh_all := rh_in (rh_t1 (List.mem_of_getElem? (i := 117) rfl)) rfl
theorem wd_1_119 : Cond.laysFinal RX0 RX0 "sums" "[I" ∈ rh_all := rh_in (rh_t1 (List.mem_of_getElem? (i := 119) rfl)) rfl
theorem wd_1_208 : Cond.laysFinal RX1 RX1 "kinds" "[I" ∈ rh_all := rh_in (rh_t1 (List.mem_of_getElem? (i := 208) rfl)) rfl
theorem wd_1_210 : Cond.laysFinal RX1 RX1 "whos" "[I" ∈ rh_all := rh_in (rh_t1 (List.mem_of_getElem? (i := 210) rfl)) rfl
theorem wd_1_212 : Cond.laysFinal RX1 RX1 "amounts" "[I" ∈ rh_all := rh_in (rh_t1 (List.mem_of_getElem? (i := 212) rfl)) rfl
theorem wd_1_214 : Cond.lays RX1 RX1 "actCount" "I" ∈ rh_all := rh_in (rh_t1 (List.mem_of_getElem? (i := 214) rfl)) rfl
theorem wd_1_216 : Cond.lays RX1 RX1 "state" "I" ∈ rh_all := rh_in (rh_t1 (List.mem_of_getElem? (i := 216) rfl)) rfl
theorem wd_1_218 : Cond.lays RX1 RX1 "digits" "I" ∈ rh_all := rh_in (rh_t1 (List.mem_of_getElem? (i := 218) rfl)) rfl
theorem wd_1_220 : Cond.lays RX1 RX1 "negative" "Z" ∈ rh_all := rh_in (rh_t1 (List.mem_of_getElem? (i := 220) rfl)) rfl
theorem wd_1_144 : Cond.laysFinal RX2 RX2 "crowd" "LLighterAtDusk$Crowd;" ∈ rh_all := rh_in (rh_t1 (List.mem_of_getElem? (i := 144) rfl)) rfl
theorem wd_1_146 : Cond.lays RX2 RX2 "now" "I" ∈ rh_all := rh_in (rh_t1 (List.mem_of_getElem? (i := 146) rfl)) rfl
theorem wd_1_148 : Cond.lays RX2 RX2 "aboard" "I" ∈ rh_all := rh_in (rh_t1 (List.mem_of_getElem? (i := 148) rfl)) rfl
theorem wd_1_150 : Cond.laysFinal RX2 RX2 "places" "[I" ∈ rh_all := rh_in (rh_t1 (List.mem_of_getElem? (i := 150) rfl)) rfl
theorem wd_1_152 : Cond.laysFinal RX2 RX2 "marked" "[I" ∈ rh_all := rh_in (rh_t1 (List.mem_of_getElem? (i := 152) rfl)) rfl
theorem wd_1_154 : Cond.laysFinal RX2 RX2 "past" "[I" ∈ rh_all := rh_in (rh_t1 (List.mem_of_getElem? (i := 154) rfl)) rfl
theorem wd_1_156 : Cond.lays RX2 RX2 "pastCount" "I" ∈ rh_all := rh_in (rh_t1 (List.mem_of_getElem? (i := 156) rfl)) rfl
theorem wd_1_158 : Cond.laysFinal RX2 RX2 "kept" "[I" ∈ rh_all := rh_in (rh_t1 (List.mem_of_getElem? (i := 158) rfl)) rfl
theorem wd_1_160 : Cond.laysFinal RX2 RX2 "isKept" "[Z" ∈ rh_all := rh_in (rh_t1 (List.mem_of_getElem? (i := 160) rfl)) rfl
theorem wd_1_178 : Cond.laysFinal RX3 RX3 "bases" "[I" ∈ rh_all := rh_in (rh_t1 (List.mem_of_getElem? (i := 178) rfl)) rfl
theorem wd_1_180 : Cond.lays RX3 RX3 "room" "I" ∈ rh_all := rh_in (rh_t1 (List.mem_of_getElem? (i := 180) rfl)) rfl
theorem wd_1_182 : Cond.lays RX3 RX3 "lines" "I" ∈ rh_all := rh_in (rh_t1 (List.mem_of_getElem? (i := 182) rfl)) rfl
theorem wd_1_184 : Cond.lays RX3 RX3 "persons" "I" ∈ rh_all := rh_in (rh_t1 (List.mem_of_getElem? (i := 184) rfl)) rfl
theorem wd_1_186 : Cond.lays RX3 RX3 "digits" "I" ∈ rh_all := rh_in (rh_t1 (List.mem_of_getElem? (i := 186) rfl)) rfl
theorem wd_1_188 : Cond.lays RX3 RX3 "inLine" "Z" ∈ rh_all := rh_in (rh_t1 (List.mem_of_getElem? (i := 188) rfl)) rfl
theorem wd_1_72 : Cond.laysFinal RX4 RX4 "codes" "[I" ∈ rh_all := rh_in (rh_t1 (List.mem_of_getElem? (i := 72) rfl)) rfl
theorem wd_1_74 : Cond.lays RX4 RX4 "length" "I" ∈ rh_all := rh_in (rh_t1 (List.mem_of_getElem? (i := 74) rfl)) rfl
theorem wd_1_76 : Cond.laysFinal RX4 RX4 "stack" "[I" ∈ rh_all := rh_in (rh_t1 (List.mem_of_getElem? (i := 76) rfl)) rfl
theorem wd_1_78 : Cond.laysFinal RX4 RX4 "draft" "[I" ∈ rh_all := rh_in (rh_t1 (List.mem_of_getElem? (i := 78) rfl)) rfl
theorem wd_1_80 : Cond.lays RX4 RX4 "drafted" "I" ∈ rh_all := rh_in (rh_t1 (List.mem_of_getElem? (i := 80) rfl)) rfl
theorem wd_1_82 : Cond.laysFinal RX4 RX4 "waiting" "[I" ∈ rh_all := rh_in (rh_t1 (List.mem_of_getElem? (i := 82) rfl)) rfl
theorem wd_1_84 : Cond.lays RX4 RX4 "waitingCount" "I" ∈ rh_all := rh_in (rh_t1 (List.mem_of_getElem? (i := 84) rfl)) rfl
theorem wd_1_86 : Cond.laysFinal RX4 RX4 "compared" "[Z" ∈ rh_all := rh_in (rh_t1 (List.mem_of_getElem? (i := 86) rfl)) rfl
theorem wd_1_88 : Cond.lays RX4 RX4 "depth" "I" ∈ rh_all := rh_in (rh_t1 (List.mem_of_getElem? (i := 88) rfl)) rfl
theorem wd_1_90 : Cond.lays RX4 RX4 "digits" "I" ∈ rh_all := rh_in (rh_t1 (List.mem_of_getElem? (i := 90) rfl)) rfl
theorem wd_1_92 : Cond.lays RX4 RX4 "behindThing" "Z" ∈ rh_all := rh_in (rh_t1 (List.mem_of_getElem? (i := 92) rfl)) rfl
theorem wd_2_27 : Cond.laysFinal RX6 RX6 "crowd" "LLighterAtDusk$Crowd;" ∈ rh_all := rh_in (rh_t2 (List.mem_of_getElem? (i := 27) rfl)) rfl
theorem wd_2_29 : Cond.laysFinal RX6 RX6 "reached" "[J" ∈ rh_all := rh_in (rh_t2 (List.mem_of_getElem? (i := 29) rfl)) rfl
theorem wd_2_31 : Cond.lays RX6 RX6 "those" "I" ∈ rh_all := rh_in (rh_t2 (List.mem_of_getElem? (i := 31) rfl)) rfl
theorem wd_2_33 : Cond.lays RX6 RX6 "boat" "I" ∈ rh_all := rh_in (rh_t2 (List.mem_of_getElem? (i := 33) rfl)) rfl
theorem wd_2_35 : Cond.lays RX6 RX6 "first" "I" ∈ rh_all := rh_in (rh_t2 (List.mem_of_getElem? (i := 35) rfl)) rfl
theorem wd_1_40 : Cond.laysFinal RX7 RX7 "numbers" "[I" ∈ rh_all := rh_in (rh_t1 (List.mem_of_getElem? (i := 40) rfl)) rfl
theorem wd_1_42 : Cond.lays RX7 RX7 "length" "I" ∈ rh_all := rh_in (rh_t1 (List.mem_of_getElem? (i := 42) rfl)) rfl
theorem wd_2_53 : Cond.laysFinal RX8 RX8 "crowd" "LLighterAtDusk$Crowd;" ∈ rh_all := rh_in (rh_t2 (List.mem_of_getElem? (i := 53) rfl)) rfl
theorem wd_2_55 : Cond.lays RX8 RX8 "size" "I" ∈ rh_all := rh_in (rh_t2 (List.mem_of_getElem? (i := 55) rfl)) rfl
theorem wd_2_57 : Cond.laysFinal RX8 RX8 "sets" "[I" ∈ rh_all := rh_in (rh_t2 (List.mem_of_getElem? (i := 57) rfl)) rfl
theorem wd_2_59 : Cond.laysFinal RX8 RX8 "waits" "[I" ∈ rh_all := rh_in (rh_t2 (List.mem_of_getElem? (i := 59) rfl)) rfl
theorem wd_2_61 : Cond.laysFinal RX8 RX8 "sums" "[I" ∈ rh_all := rh_in (rh_t2 (List.mem_of_getElem? (i := 61) rfl)) rfl
theorem wd_2_63 : Cond.laysFinal RX8 RX8 "needs" "[I" ∈ rh_all := rh_in (rh_t2 (List.mem_of_getElem? (i := 63) rfl)) rfl
theorem wd_2_65 : Cond.laysFinal RX8 RX8 "moments" "[I" ∈ rh_all := rh_in (rh_t2 (List.mem_of_getElem? (i := 65) rfl)) rfl
theorem wd_2_67 : Cond.lays RX8 RX8 "needCount" "I" ∈ rh_all := rh_in (rh_t2 (List.mem_of_getElem? (i := 67) rfl)) rfl
theorem wd_4_188 : Cond.laysFinal RX9 RX9 "crowd" "LLighterAtDusk$Crowd;" ∈ rh_all := rh_in (rh_t4 (List.mem_of_getElem? (i := 188) rfl)) rfl
theorem wd_4_190 : Cond.laysFinal RX9 RX9 "deck" "LLighterAtDusk$Deck;" ∈ rh_all := rh_in (rh_t4 (List.mem_of_getElem? (i := 190) rfl)) rfl
theorem wd_4_192 : Cond.laysFinal RX9 RX9 "standing" "[I" ∈ rh_all := rh_in (rh_t4 (List.mem_of_getElem? (i := 192) rfl)) rfl
theorem wd_4_194 : Cond.lays RX9 RX9 "standingCount" "I" ∈ rh_all := rh_in (rh_t4 (List.mem_of_getElem? (i := 194) rfl)) rfl
theorem wd_4_196 : Cond.laysFinal RX9 RX9 "weights" "[I" ∈ rh_all := rh_in (rh_t4 (List.mem_of_getElem? (i := 196) rfl)) rfl
theorem wd_4_198 : Cond.laysFinal RX9 RX9 "ways" "[I" ∈ rh_all := rh_in (rh_t4 (List.mem_of_getElem? (i := 198) rfl)) rfl
theorem wd_4_200 : Cond.laysFinal RX9 RX9 "wayCounts" "[I" ∈ rh_all := rh_in (rh_t4 (List.mem_of_getElem? (i := 200) rfl)) rfl
theorem wd_4_202 : Cond.laysFinal RX9 RX9 "best" "[I" ∈ rh_all := rh_in (rh_t4 (List.mem_of_getElem? (i := 202) rfl)) rfl
theorem wd_4_204 : Cond.laysFinal RX9 RX9 "slots" "[I" ∈ rh_all := rh_in (rh_t4 (List.mem_of_getElem? (i := 204) rfl)) rfl
theorem wd_4_206 : Cond.lays RX9 RX9 "raft" "I" ∈ rh_all := rh_in (rh_t4 (List.mem_of_getElem? (i := 206) rfl)) rfl
theorem wd_2_0 : Cond.lays RX10 RX10 "size" "I" ∈ rh_all := rh_in (rh_t2 (List.mem_of_getElem? (i := 0) rfl)) rfl
theorem wd_2_2 : Cond.laysFinal RX10 RX10 "lows" "[I" ∈ rh_all := rh_in (rh_t2 (List.mem_of_getElem? (i := 2) rfl)) rfl
theorem wd_2_4 : Cond.laysFinal RX10 RX10 "highs" "[I" ∈ rh_all := rh_in (rh_t2 (List.mem_of_getElem? (i := 4) rfl)) rfl
theorem wd_2_6 : Cond.laysFinal RX10 RX10 "doableAt" "[I" ∈ rh_all := rh_in (rh_t2 (List.mem_of_getElem? (i := 6) rfl)) rfl
theorem wd_2_8 : Cond.laysFinal RX10 RX10 "left" "[J" ∈ rh_all := rh_in (rh_t2 (List.mem_of_getElem? (i := 8) rfl)) rfl
theorem wd_2_10 : Cond.laysFinal RX10 RX10 "groups" "[J" ∈ rh_all := rh_in (rh_t2 (List.mem_of_getElem? (i := 10) rfl)) rfl
theorem wd_2_12 : Cond.laysFinal RX10 RX10 "able" "[I" ∈ rh_all := rh_in (rh_t2 (List.mem_of_getElem? (i := 12) rfl)) rfl
theorem wd_2_83 : Cond.laysFinal RX11 RX11 "signs" "[I" ∈ rh_all := rh_in (rh_t2 (List.mem_of_getElem? (i := 83) rfl)) rfl
theorem wd_2_85 : Cond.lays RX11 RX11 "signCount" "I" ∈ rh_all := rh_in (rh_t2 (List.mem_of_getElem? (i := 85) rfl)) rfl
theorem wd_2_87 : Cond.laysFinal RX11 RX11 "told" "LLighterAtDusk$Row;" ∈ rh_all := rh_in (rh_t2 (List.mem_of_getElem? (i := 87) rfl)) rfl
theorem wd_2_89 : Cond.laysFinal RX11 RX11 "crowd" "LLighterAtDusk$Crowd;" ∈ rh_all := rh_in (rh_t2 (List.mem_of_getElem? (i := 89) rfl)) rfl
theorem wd_2_91 : Cond.laysFinal RX11 RX11 "deck" "LLighterAtDusk$Deck;" ∈ rh_all := rh_in (rh_t2 (List.mem_of_getElem? (i := 91) rfl)) rfl
theorem wd_2_93 : Cond.laysFinal RX11 RX11 "folkReader" "LLighterAtDusk$FolkReader;" ∈ rh_all := rh_in (rh_t2 (List.mem_of_getElem? (i := 93) rfl)) rfl
theorem wd_2_95 : Cond.laysFinal RX11 RX11 "dayReader" "LLighterAtDusk$DayReader;" ∈ rh_all := rh_in (rh_t2 (List.mem_of_getElem? (i := 95) rfl)) rfl
theorem wd_2_97 : Cond.laysFinal RX11 RX11 "tasks" "LLighterAtDusk$Tasks;" ∈ rh_all := rh_in (rh_t2 (List.mem_of_getElem? (i := 97) rfl)) rfl
theorem wd_2_99 : Cond.laysFinal RX11 RX11 "river" "LLighterAtDusk$River;" ∈ rh_all := rh_in (rh_t2 (List.mem_of_getElem? (i := 99) rfl)) rfl
theorem wd_2_101 : Cond.laysFinal RX11 RX11 "scales" "LLighterAtDusk$Scales;" ∈ rh_all := rh_in (rh_t2 (List.mem_of_getElem? (i := 101) rfl)) rfl
theorem wd_2_103 : Cond.laysFinal RX11 RX11 "bears" "[I" ∈ rh_all := rh_in (rh_t2 (List.mem_of_getElem? (i := 103) rfl)) rfl
theorem wd_2_105 : Cond.laysFinal RX11 RX11 "least" "[I" ∈ rh_all := rh_in (rh_t2 (List.mem_of_getElem? (i := 105) rfl)) rfl
theorem wd_2_107 : Cond.lays RX11 RX11 "stance" "LLighterAtDusk$Stance;" ∈ rh_all := rh_in (rh_t2 (List.mem_of_getElem? (i := 107) rfl)) rfl
theorem wd_6_106 : Cond.laysFinal RX12 RX12 "now" "[I" ∈ rh_all := rh_in (rh_t6 (List.mem_of_getElem? (i := 106) rfl)) rfl
theorem wd_6_108 : Cond.lays RX12 RX12 "folk" "I" ∈ rh_all := rh_in (rh_t6 (List.mem_of_getElem? (i := 108) rfl)) rfl
theorem wd_6_110 : Cond.lays RX12 RX12 "persons" "I" ∈ rh_all := rh_in (rh_t6 (List.mem_of_getElem? (i := 110) rfl)) rfl
theorem wd_6_112 : Cond.laysFinal RX12 RX12 "base" "[I" ∈ rh_all := rh_in (rh_t6 (List.mem_of_getElem? (i := 112) rfl)) rfl
theorem wd_6_114 : Cond.laysFinal RX12 RX12 "bears" "[I" ∈ rh_all := rh_in (rh_t6 (List.mem_of_getElem? (i := 114) rfl)) rfl
theorem wd_6_116 : Cond.laysFinal RX12 RX12 "text" "[B" ∈ rh_all := rh_in (rh_t6 (List.mem_of_getElem? (i := 116) rfl)) rfl
theorem wd_6_118 : Cond.lays RX12 RX12 "typed" "I" ∈ rh_all := rh_in (rh_t6 (List.mem_of_getElem? (i := 118) rfl)) rfl
theorem wd_6_120 : Cond.laysFinal RX12 RX12 "row" "[I" ∈ rh_all := rh_in (rh_t6 (List.mem_of_getElem? (i := 120) rfl)) rfl
theorem wd_6_122 : Cond.lays RX12 RX12 "rowMany" "I" ∈ rh_all := rh_in (rh_t6 (List.mem_of_getElem? (i := 122) rfl)) rfl
theorem wd_6_124 : Cond.lays RX12 RX12 "thrown" "I" ∈ rh_all := rh_in (rh_t6 (List.mem_of_getElem? (i := 124) rfl)) rfl
theorem wd_6_126 : Cond.lays RX12 RX12 "read" "[B" ∈ rh_all := rh_in (rh_t6 (List.mem_of_getElem? (i := 126) rfl)) rfl
theorem wd_6_128 : Cond.lays RX12 RX12 "length" "I" ∈ rh_all := rh_in (rh_t6 (List.mem_of_getElem? (i := 128) rfl)) rfl
theorem wd_6_130 : Cond.lays RX12 RX12 "top" "I" ∈ rh_all := rh_in (rh_t6 (List.mem_of_getElem? (i := 130) rfl)) rfl
theorem wd_6_132 : Cond.lays RX12 RX12 "at" "I" ∈ rh_all := rh_in (rh_t6 (List.mem_of_getElem? (i := 132) rfl)) rfl
theorem wd_6_134 : Cond.lays RX12 RX12 "wrong" "I" ∈ rh_all := rh_in (rh_t6 (List.mem_of_getElem? (i := 134) rfl)) rfl
theorem wd_6_136 : Cond.laysFinal RX12 RX12 "comes" "[I" ∈ rh_all := rh_in (rh_t6 (List.mem_of_getElem? (i := 136) rfl)) rfl
theorem wd_6_138 : Cond.laysFinal RX12 RX12 "rule" "[B" ∈ rh_all := rh_in (rh_t6 (List.mem_of_getElem? (i := 138) rfl)) rfl
theorem wd_6_140 : Cond.lays RX12 RX12 "ruleSize" "I" ∈ rh_all := rh_in (rh_t6 (List.mem_of_getElem? (i := 140) rfl)) rfl
theorem wd_6_142 : Cond.lays RX12 RX12 "askedOne" "I" ∈ rh_all := rh_in (rh_t6 (List.mem_of_getElem? (i := 142) rfl)) rfl
theorem wd_6_144 : Cond.lays RX12 RX12 "askedBase" "I" ∈ rh_all := rh_in (rh_t6 (List.mem_of_getElem? (i := 144) rfl)) rfl
theorem wd_6_146 : Cond.lays RX12 RX12 "askedAt" "I" ∈ rh_all := rh_in (rh_t6 (List.mem_of_getElem? (i := 146) rfl)) rfl
theorem wd_6_148 : Cond.laysFinal RX12 RX12 "each" "[I" ∈ rh_all := rh_in (rh_t6 (List.mem_of_getElem? (i := 148) rfl)) rfl
theorem wd_6_150 : Cond.laysFinal RX12 RX12 "sets" "[I" ∈ rh_all := rh_in (rh_t6 (List.mem_of_getElem? (i := 150) rfl)) rfl
theorem wd_6_152 : Cond.laysFinal RX12 RX12 "undos" "[I" ∈ rh_all := rh_in (rh_t6 (List.mem_of_getElem? (i := 152) rfl)) rfl
theorem wd_6_154 : Cond.lays RX12 RX12 "undoMany" "I" ∈ rh_all := rh_in (rh_t6 (List.mem_of_getElem? (i := 154) rfl)) rfl
theorem wd_6_156 : Cond.laysFinal RX12 RX12 "aside" "[I" ∈ rh_all := rh_in (rh_t6 (List.mem_of_getElem? (i := 156) rfl)) rfl
theorem wd_6_158 : Cond.laysFinal RX12 RX12 "tried" "[I" ∈ rh_all := rh_in (rh_t6 (List.mem_of_getElem? (i := 158) rfl)) rfl
theorem wd_6_160 : Cond.laysFinal RX12 RX12 "acts" "[I" ∈ rh_all := rh_in (rh_t6 (List.mem_of_getElem? (i := 160) rfl)) rfl
theorem wd_6_162 : Cond.laysFinal RX12 RX12 "tasks" "[I" ∈ rh_all := rh_in (rh_t6 (List.mem_of_getElem? (i := 162) rfl)) rfl
theorem wd_6_164 : Cond.lays RX12 RX12 "taskMany" "I" ∈ rh_all := rh_in (rh_t6 (List.mem_of_getElem? (i := 164) rfl)) rfl
theorem wd_6_166 : Cond.laysFinal RX12 RX12 "able" "[I" ∈ rh_all := rh_in (rh_t6 (List.mem_of_getElem? (i := 166) rfl)) rfl
theorem wd_6_168 : Cond.laysFinal RX12 RX12 "plan" "[I" ∈ rh_all := rh_in (rh_t6 (List.mem_of_getElem? (i := 168) rfl)) rfl
theorem wd_6_170 : Cond.laysFinal RX12 RX12 "used" "[Z" ∈ rh_all := rh_in (rh_t6 (List.mem_of_getElem? (i := 170) rfl)) rfl
theorem wd_6_172 : Cond.laysFinal RX12 RX12 "near" "[Z" ∈ rh_all := rh_in (rh_t6 (List.mem_of_getElem? (i := 172) rfl)) rfl
theorem wd_6_174 : Cond.laysFinal RX12 RX12 "good" "[Z" ∈ rh_all := rh_in (rh_t6 (List.mem_of_getElem? (i := 174) rfl)) rfl
theorem wd_6_176 : Cond.laysFinal RX12 RX12 "ways" "[J" ∈ rh_all := rh_in (rh_t6 (List.mem_of_getElem? (i := 176) rfl)) rfl
theorem wd_6_178 : Cond.laysFinal RX12 RX12 "wayMany" "[I" ∈ rh_all := rh_in (rh_t6 (List.mem_of_getElem? (i := 178) rfl)) rfl
theorem wd_6_180 : Cond.laysFinal RX12 RX12 "stood" "[I" ∈ rh_all := rh_in (rh_t6 (List.mem_of_getElem? (i := 180) rfl)) rfl
theorem wd_6_182 : Cond.laysFinal RX12 RX12 "scales" "[I" ∈ rh_all := rh_in (rh_t6 (List.mem_of_getElem? (i := 182) rfl)) rfl
theorem wd_6_184 : Cond.lays RX12 RX12 "scaleMany" "I" ∈ rh_all := rh_in (rh_t6 (List.mem_of_getElem? (i := 184) rfl)) rfl
theorem wd_6_186 : Cond.lays RX12 RX12 "leastBase" "I" ∈ rh_all := rh_in (rh_t6 (List.mem_of_getElem? (i := 186) rfl)) rfl
theorem wd_6_188 : Cond.lays RX12 RX12 "greatestBase" "I" ∈ rh_all := rh_in (rh_t6 (List.mem_of_getElem? (i := 188) rfl)) rfl
theorem wd_6_190 : Cond.lays RX12 RX12 "baseMany" "I" ∈ rh_all := rh_in (rh_t6 (List.mem_of_getElem? (i := 190) rfl)) rfl
theorem wd_6_192 : Cond.lays RX12 RX12 "otherMany" "I" ∈ rh_all := rh_in (rh_t6 (List.mem_of_getElem? (i := 192) rfl)) rfl
theorem wd_6_194 : Cond.laysFinal RX12 RX12 "wants" "[I" ∈ rh_all := rh_in (rh_t6 (List.mem_of_getElem? (i := 194) rfl)) rfl
theorem wd_6_196 : Cond.laysFinal RX12 RX12 "byBell" "[I" ∈ rh_all := rh_in (rh_t6 (List.mem_of_getElem? (i := 196) rfl)) rfl
theorem wd_6_198 : Cond.laysFinal RX12 RX12 "order" "[I" ∈ rh_all := rh_in (rh_t6 (List.mem_of_getElem? (i := 198) rfl)) rfl
theorem wd_6_200 : Cond.laysFinal RX12 RX12 "bestOrder" "[I" ∈ rh_all := rh_in (rh_t6 (List.mem_of_getElem? (i := 200) rfl)) rfl
theorem wd_6_202 : Cond.lays RX12 RX12 "leastCarried" "I" ∈ rh_all := rh_in (rh_t6 (List.mem_of_getElem? (i := 202) rfl)) rfl
theorem wd_6_204 : Cond.lays RX12 RX12 "came" "I" ∈ rh_all := rh_in (rh_t6 (List.mem_of_getElem? (i := 204) rfl)) rfl
theorem wd_6_206 : Cond.laysFinal RX12 RX12 "kept" "[I" ∈ rh_all := rh_in (rh_t6 (List.mem_of_getElem? (i := 206) rfl)) rfl
theorem wd_6_208 : Cond.laysFinal RX12 RX12 "isKept" "[Z" ∈ rh_all := rh_in (rh_t6 (List.mem_of_getElem? (i := 208) rfl)) rfl
theorem wd_6_210 : Cond.laysFinal RX12 RX12 "keptCame" "[I" ∈ rh_all := rh_in (rh_t6 (List.mem_of_getElem? (i := 210) rfl)) rfl
theorem cl_0 : rh_Cls 0 RX0 TX0 5 tyX0 := ⟨rfl, (List.forall_mem_cons.mpr ⟨wd_1_111, List.forall_mem_cons.mpr ⟨wd_1_113, List.forall_mem_cons.mpr ⟨wd_1_115, List.forall_mem_cons.mpr ⟨wd_1_117, List.forall_mem_cons.mpr ⟨wd_1_119, fun _ h => absurd h List.not_mem_nil⟩⟩⟩⟩⟩ : ∀ w ∈ [Cond.lays RX0 RX0 "size" "I", Cond.lays RX0 RX0 "persons" "I", Cond.laysFinal RX0 RX0 "bases" "[I", Cond.laysFinal RX0 RX0 "habit" "LLighterAtDusk$Habit;", Cond.laysFinal RX0 RX0 "sums" "[I"], w ∈ rh_all), tyX0_ok, nmX0, rfl, fun _ => rfl⟩
theorem cl_1 : rh_Cls 1 RX1 TX1 7 tyX1 := ⟨rfl, (List.forall_mem_cons.mpr ⟨wd_1_208, List.forall_mem_cons.mpr ⟨wd_1_210, List.forall_mem_cons.mpr ⟨wd_1_212, List.forall_mem_cons.mpr ⟨wd_1_214, List.forall_mem_cons.mpr ⟨wd_1_216, List.forall_mem_cons.mpr ⟨wd_1_218, List.forall_mem_cons.mpr ⟨wd_1_220, fun _ h => absurd h List.not_mem_nil⟩⟩⟩⟩⟩⟩⟩ : ∀ w ∈ [Cond.laysFinal RX1 RX1 "kinds" "[I", Cond.laysFinal RX1 RX1 "whos" "[I", Cond.laysFinal RX1 RX1 "amounts" "[I", Cond.lays RX1 RX1 "actCount" "I", Cond.lays RX1 RX1 "state" "I", Cond.lays RX1 RX1 "digits" "I", Cond.lays RX1 RX1 "negative" "Z"], w ∈ rh_all), tyX1_ok, nmX1, rfl, fun _ => rfl⟩
theorem cl_2 : rh_Cls 2 RX2 TX2 9 tyX2 := ⟨rfl, (List.forall_mem_cons.mpr ⟨wd_1_144, List.forall_mem_cons.mpr ⟨wd_1_146, List.forall_mem_cons.mpr ⟨wd_1_148, List.forall_mem_cons.mpr ⟨wd_1_150, List.forall_mem_cons.mpr ⟨wd_1_152, List.forall_mem_cons.mpr ⟨wd_1_154, List.forall_mem_cons.mpr ⟨wd_1_156, List.forall_mem_cons.mpr ⟨wd_1_158, List.forall_mem_cons.mpr ⟨wd_1_160, fun _ h => absurd h List.not_mem_nil⟩⟩⟩⟩⟩⟩⟩⟩⟩ : ∀ w ∈ [Cond.laysFinal RX2 RX2 "crowd" "LLighterAtDusk$Crowd;", Cond.lays RX2 RX2 "now" "I", Cond.lays RX2 RX2 "aboard" "I", Cond.laysFinal RX2 RX2 "places" "[I", Cond.laysFinal RX2 RX2 "marked" "[I", Cond.laysFinal RX2 RX2 "past" "[I", Cond.lays RX2 RX2 "pastCount" "I", Cond.laysFinal RX2 RX2 "kept" "[I", Cond.laysFinal RX2 RX2 "isKept" "[Z"], w ∈ rh_all), tyX2_ok, nmX2, rfl, fun _ => rfl⟩
theorem cl_3 : rh_Cls 3 RX3 TX3 6 tyX3 := ⟨rfl, (List.forall_mem_cons.mpr ⟨wd_1_178, List.forall_mem_cons.mpr ⟨wd_1_180, List.forall_mem_cons.mpr ⟨wd_1_182, List.forall_mem_cons.mpr ⟨wd_1_184, List.forall_mem_cons.mpr ⟨wd_1_186, List.forall_mem_cons.mpr ⟨wd_1_188, fun _ h => absurd h List.not_mem_nil⟩⟩⟩⟩⟩⟩ : ∀ w ∈ [Cond.laysFinal RX3 RX3 "bases" "[I", Cond.lays RX3 RX3 "room" "I", Cond.lays RX3 RX3 "lines" "I", Cond.lays RX3 RX3 "persons" "I", Cond.lays RX3 RX3 "digits" "I", Cond.lays RX3 RX3 "inLine" "Z"], w ∈ rh_all), tyX3_ok, nmX3, rfl, fun _ => rfl⟩
theorem cl_4 : rh_Cls 4 RX4 TX4 11 tyX4 := ⟨rfl, (List.forall_mem_cons.mpr ⟨wd_1_72, List.forall_mem_cons.mpr ⟨wd_1_74, List.forall_mem_cons.mpr ⟨wd_1_76, List.forall_mem_cons.mpr ⟨wd_1_78, List.forall_mem_cons.mpr ⟨wd_1_80, List.forall_mem_cons.mpr ⟨wd_1_82, List.forall_mem_cons.mpr ⟨wd_1_84, List.forall_mem_cons.mpr ⟨wd_1_86, List.forall_mem_cons.mpr ⟨wd_1_88, List.forall_mem_cons.mpr ⟨wd_1_90, List.forall_mem_cons.mpr ⟨wd_1_92, fun _ h => absurd h List.not_mem_nil⟩⟩⟩⟩⟩⟩⟩⟩⟩⟩⟩ : ∀ w ∈ [Cond.laysFinal RX4 RX4 "codes" "[I", Cond.lays RX4 RX4 "length" "I", Cond.laysFinal RX4 RX4 "stack" "[I", Cond.laysFinal RX4 RX4 "draft" "[I", Cond.lays RX4 RX4 "drafted" "I", Cond.laysFinal RX4 RX4 "waiting" "[I", Cond.lays RX4 RX4 "waitingCount" "I", Cond.laysFinal RX4 RX4 "compared" "[Z", Cond.lays RX4 RX4 "depth" "I", Cond.lays RX4 RX4 "digits" "I", Cond.lays RX4 RX4 "behindThing" "Z"], w ∈ rh_all), tyX4_ok, nmX4, rfl, fun _ => rfl⟩
theorem cl_5 : rh_Cls 5 RX6 TX6 5 tyX6 := ⟨rfl, (List.forall_mem_cons.mpr ⟨wd_2_27, List.forall_mem_cons.mpr ⟨wd_2_29, List.forall_mem_cons.mpr ⟨wd_2_31, List.forall_mem_cons.mpr ⟨wd_2_33, List.forall_mem_cons.mpr ⟨wd_2_35, fun _ h => absurd h List.not_mem_nil⟩⟩⟩⟩⟩ : ∀ w ∈ [Cond.laysFinal RX6 RX6 "crowd" "LLighterAtDusk$Crowd;", Cond.laysFinal RX6 RX6 "reached" "[J", Cond.lays RX6 RX6 "those" "I", Cond.lays RX6 RX6 "boat" "I", Cond.lays RX6 RX6 "first" "I"], w ∈ rh_all), tyX6_ok, nmX6, rfl, fun _ => rfl⟩
theorem cl_6 : rh_Cls 6 RX7 TX7 2 tyX7 := ⟨rfl, (List.forall_mem_cons.mpr ⟨wd_1_40, List.forall_mem_cons.mpr ⟨wd_1_42, fun _ h => absurd h List.not_mem_nil⟩⟩ : ∀ w ∈ [Cond.laysFinal RX7 RX7 "numbers" "[I", Cond.lays RX7 RX7 "length" "I"], w ∈ rh_all), tyX7_ok, nmX7, rfl, fun _ => rfl⟩
theorem cl_7 : rh_Cls 7 RX8 TX8 8 tyX8 := ⟨rfl, (List.forall_mem_cons.mpr ⟨wd_2_53, List.forall_mem_cons.mpr ⟨wd_2_55, List.forall_mem_cons.mpr ⟨wd_2_57, List.forall_mem_cons.mpr ⟨wd_2_59, List.forall_mem_cons.mpr ⟨wd_2_61, List.forall_mem_cons.mpr ⟨wd_2_63, List.forall_mem_cons.mpr ⟨wd_2_65, List.forall_mem_cons.mpr ⟨wd_2_67, fun _ h => absurd h List.not_mem_nil⟩⟩⟩⟩⟩⟩⟩⟩ : ∀ w ∈ [Cond.laysFinal RX8 RX8 "crowd" "LLighterAtDusk$Crowd;", Cond.lays RX8 RX8 "size" "I", Cond.laysFinal RX8 RX8 "sets" "[I", Cond.laysFinal RX8 RX8 "waits" "[I", Cond.laysFinal RX8 RX8 "sums" "[I", Cond.laysFinal RX8 RX8 "needs" "[I", Cond.laysFinal RX8 RX8 "moments" "[I", Cond.lays RX8 RX8 "needCount" "I"], w ∈ rh_all), tyX8_ok, nmX8, rfl, fun _ => rfl⟩
theorem cl_8 : rh_Cls 8 RX9 TX9 10 tyX9 := ⟨rfl, (List.forall_mem_cons.mpr ⟨wd_4_188, List.forall_mem_cons.mpr ⟨wd_4_190, List.forall_mem_cons.mpr ⟨wd_4_192, List.forall_mem_cons.mpr ⟨wd_4_194, List.forall_mem_cons.mpr ⟨wd_4_196, List.forall_mem_cons.mpr ⟨wd_4_198, List.forall_mem_cons.mpr ⟨wd_4_200, List.forall_mem_cons.mpr ⟨wd_4_202, List.forall_mem_cons.mpr ⟨wd_4_204, List.forall_mem_cons.mpr ⟨wd_4_206, fun _ h => absurd h List.not_mem_nil⟩⟩⟩⟩⟩⟩⟩⟩⟩⟩ : ∀ w ∈ [Cond.laysFinal RX9 RX9 "crowd" "LLighterAtDusk$Crowd;", Cond.laysFinal RX9 RX9 "deck" "LLighterAtDusk$Deck;", Cond.laysFinal RX9 RX9 "standing" "[I", Cond.lays RX9 RX9 "standingCount" "I", Cond.laysFinal RX9 RX9 "weights" "[I", Cond.laysFinal RX9 RX9 "ways" "[I", Cond.laysFinal RX9 RX9 "wayCounts" "[I", Cond.laysFinal RX9 RX9 "best" "[I", Cond.laysFinal RX9 RX9 "slots" "[I", Cond.lays RX9 RX9 "raft" "I"], w ∈ rh_all), tyX9_ok, nmX9, rfl, fun _ => rfl⟩
theorem cl_9 : rh_Cls 9 RX10 TX10 7 tyX10 := ⟨rfl, (List.forall_mem_cons.mpr ⟨wd_2_0, List.forall_mem_cons.mpr ⟨wd_2_2, List.forall_mem_cons.mpr ⟨wd_2_4, List.forall_mem_cons.mpr ⟨wd_2_6, List.forall_mem_cons.mpr ⟨wd_2_8, List.forall_mem_cons.mpr ⟨wd_2_10, List.forall_mem_cons.mpr ⟨wd_2_12, fun _ h => absurd h List.not_mem_nil⟩⟩⟩⟩⟩⟩⟩ : ∀ w ∈ [Cond.lays RX10 RX10 "size" "I", Cond.laysFinal RX10 RX10 "lows" "[I", Cond.laysFinal RX10 RX10 "highs" "[I", Cond.laysFinal RX10 RX10 "doableAt" "[I", Cond.laysFinal RX10 RX10 "left" "[J", Cond.laysFinal RX10 RX10 "groups" "[J", Cond.laysFinal RX10 RX10 "able" "[I"], w ∈ rh_all), tyX10_ok, nmX10, rfl, fun _ => rfl⟩
theorem cl_10 : rh_Cls 10 RX11 TX11 13 tyX11 := ⟨rfl, (List.forall_mem_cons.mpr ⟨wd_2_83, List.forall_mem_cons.mpr ⟨wd_2_85, List.forall_mem_cons.mpr ⟨wd_2_87, List.forall_mem_cons.mpr ⟨wd_2_89, List.forall_mem_cons.mpr ⟨wd_2_91, List.forall_mem_cons.mpr ⟨wd_2_93, List.forall_mem_cons.mpr ⟨wd_2_95, List.forall_mem_cons.mpr ⟨wd_2_97, List.forall_mem_cons.mpr ⟨wd_2_99, List.forall_mem_cons.mpr ⟨wd_2_101, List.forall_mem_cons.mpr ⟨wd_2_103, List.forall_mem_cons.mpr ⟨wd_2_105, List.forall_mem_cons.mpr ⟨wd_2_107, fun _ h => absurd h List.not_mem_nil⟩⟩⟩⟩⟩⟩⟩⟩⟩⟩⟩⟩⟩ : ∀ w ∈ [Cond.laysFinal RX11 RX11 "signs" "[I", Cond.lays RX11 RX11 "signCount" "I", Cond.laysFinal RX11 RX11 "told" "LLighterAtDusk$Row;", Cond.laysFinal RX11 RX11 "crowd" "LLighterAtDusk$Crowd;", Cond.laysFinal RX11 RX11 "deck" "LLighterAtDusk$Deck;", Cond.laysFinal RX11 RX11 "folkReader" "LLighterAtDusk$FolkReader;", Cond.laysFinal RX11 RX11 "dayReader" "LLighterAtDusk$DayReader;", Cond.laysFinal RX11 RX11 "tasks" "LLighterAtDusk$Tasks;", Cond.laysFinal RX11 RX11 "river" "LLighterAtDusk$River;", Cond.laysFinal RX11 RX11 "scales" "LLighterAtDusk$Scales;", Cond.laysFinal RX11 RX11 "bears" "[I", Cond.laysFinal RX11 RX11 "least" "[I", Cond.lays RX11 RX11 "stance" "LLighterAtDusk$Stance;"], w ∈ rh_all), tyX11_ok, nmX11, rfl, fun _ => rfl⟩
theorem cl_11 : rh_Cls 11 RX12 TX12 53 tyX12 := ⟨rfl, (List.forall_mem_cons.mpr ⟨wd_6_106, List.forall_mem_cons.mpr ⟨wd_6_108, List.forall_mem_cons.mpr ⟨wd_6_110, List.forall_mem_cons.mpr ⟨wd_6_112, List.forall_mem_cons.mpr ⟨wd_6_114, List.forall_mem_cons.mpr ⟨wd_6_116, List.forall_mem_cons.mpr ⟨wd_6_118, List.forall_mem_cons.mpr ⟨wd_6_120, List.forall_mem_cons.mpr ⟨wd_6_122, List.forall_mem_cons.mpr ⟨wd_6_124, List.forall_mem_cons.mpr ⟨wd_6_126, List.forall_mem_cons.mpr ⟨wd_6_128, List.forall_mem_cons.mpr ⟨wd_6_130, List.forall_mem_cons.mpr ⟨wd_6_132, List.forall_mem_cons.mpr ⟨wd_6_134, List.forall_mem_cons.mpr ⟨wd_6_136, List.forall_mem_cons.mpr ⟨wd_6_138, List.forall_mem_cons.mpr ⟨wd_6_140, List.forall_mem_cons.mpr ⟨wd_6_142, List.forall_mem_cons.mpr ⟨wd_6_144, List.forall_mem_cons.mpr ⟨wd_6_146, List.forall_mem_cons.mpr ⟨wd_6_148, List.forall_mem_cons.mpr ⟨wd_6_150, List.forall_mem_cons.mpr ⟨wd_6_152, List.forall_mem_cons.mpr ⟨wd_6_154, List.forall_mem_cons.mpr ⟨wd_6_156, List.forall_mem_cons.mpr ⟨wd_6_158, List.forall_mem_cons.mpr ⟨wd_6_160, List.forall_mem_cons.mpr ⟨wd_6_162, List.forall_mem_cons.mpr ⟨wd_6_164, List.forall_mem_cons.mpr ⟨wd_6_166, List.forall_mem_cons.mpr ⟨wd_6_168, List.forall_mem_cons.mpr ⟨wd_6_170, List.forall_mem_cons.mpr ⟨wd_6_172, List.forall_mem_cons.mpr ⟨wd_6_174, List.forall_mem_cons.mpr ⟨wd_6_176, List.forall_mem_cons.mpr ⟨wd_6_178, List.forall_mem_cons.mpr ⟨wd_6_180, List.forall_mem_cons.mpr ⟨wd_6_182, List.forall_mem_cons.mpr ⟨wd_6_184, List.forall_mem_cons.mpr ⟨wd_6_186, List.forall_mem_cons.mpr ⟨wd_6_188, List.forall_mem_cons.mpr ⟨wd_6_190, List.forall_mem_cons.mpr ⟨wd_6_192, List.forall_mem_cons.mpr ⟨wd_6_194, List.forall_mem_cons.mpr ⟨wd_6_196, List.forall_mem_cons.mpr ⟨wd_6_198, List.forall_mem_cons.mpr ⟨wd_6_200, List.forall_mem_cons.mpr ⟨wd_6_202, List.forall_mem_cons.mpr ⟨wd_6_204, List.forall_mem_cons.mpr ⟨wd_6_206, List.forall_mem_cons.mpr ⟨wd_6_208, List.forall_mem_cons.mpr ⟨wd_6_210, fun _ h => absurd h List.not_mem_nil⟩⟩⟩⟩⟩⟩⟩⟩⟩⟩⟩⟩⟩⟩⟩⟩⟩⟩⟩⟩⟩⟩⟩⟩⟩⟩⟩⟩⟩⟩⟩⟩⟩⟩⟩⟩⟩⟩⟩⟩⟩⟩⟩⟩⟩⟩⟩⟩⟩⟩⟩⟩⟩ : ∀ w ∈ [Cond.laysFinal RX12 RX12 "now" "[I", Cond.lays RX12 RX12 "folk" "I", Cond.lays RX12 RX12 "persons" "I", Cond.laysFinal RX12 RX12 "base" "[I", Cond.laysFinal RX12 RX12 "bears" "[I", Cond.laysFinal RX12 RX12 "text" "[B", Cond.lays RX12 RX12 "typed" "I", Cond.laysFinal RX12 RX12 "row" "[I", Cond.lays RX12 RX12 "rowMany" "I", Cond.lays RX12 RX12 "thrown" "I", Cond.lays RX12 RX12 "read" "[B", Cond.lays RX12 RX12 "length" "I", Cond.lays RX12 RX12 "top" "I", Cond.lays RX12 RX12 "at" "I", Cond.lays RX12 RX12 "wrong" "I", Cond.laysFinal RX12 RX12 "comes" "[I", Cond.laysFinal RX12 RX12 "rule" "[B", Cond.lays RX12 RX12 "ruleSize" "I", Cond.lays RX12 RX12 "askedOne" "I", Cond.lays RX12 RX12 "askedBase" "I", Cond.lays RX12 RX12 "askedAt" "I", Cond.laysFinal RX12 RX12 "each" "[I", Cond.laysFinal RX12 RX12 "sets" "[I", Cond.laysFinal RX12 RX12 "undos" "[I", Cond.lays RX12 RX12 "undoMany" "I", Cond.laysFinal RX12 RX12 "aside" "[I", Cond.laysFinal RX12 RX12 "tried" "[I", Cond.laysFinal RX12 RX12 "acts" "[I", Cond.laysFinal RX12 RX12 "tasks" "[I", Cond.lays RX12 RX12 "taskMany" "I", Cond.laysFinal RX12 RX12 "able" "[I", Cond.laysFinal RX12 RX12 "plan" "[I", Cond.laysFinal RX12 RX12 "used" "[Z", Cond.laysFinal RX12 RX12 "near" "[Z", Cond.laysFinal RX12 RX12 "good" "[Z", Cond.laysFinal RX12 RX12 "ways" "[J", Cond.laysFinal RX12 RX12 "wayMany" "[I", Cond.laysFinal RX12 RX12 "stood" "[I", Cond.laysFinal RX12 RX12 "scales" "[I", Cond.lays RX12 RX12 "scaleMany" "I", Cond.lays RX12 RX12 "leastBase" "I", Cond.lays RX12 RX12 "greatestBase" "I", Cond.lays RX12 RX12 "baseMany" "I", Cond.lays RX12 RX12 "otherMany" "I", Cond.laysFinal RX12 RX12 "wants" "[I", Cond.laysFinal RX12 RX12 "byBell" "[I", Cond.laysFinal RX12 RX12 "order" "[I", Cond.laysFinal RX12 RX12 "bestOrder" "[I", Cond.lays RX12 RX12 "leastCarried" "I", Cond.lays RX12 RX12 "came" "I", Cond.laysFinal RX12 RX12 "kept" "[I", Cond.laysFinal RX12 RX12 "isKept" "[Z", Cond.laysFinal RX12 RX12 "keptCame" "[I"], w ∈ rh_all), tyX12_ok, nmX12, rfl, fun _ => rfl⟩
