theorem ini_W : (Cond.initialized "HornLearnerLaw" : Cond) ∈ lw_gd := List.mem_filter.mpr ⟨List.mem_append_right _ (List.mem_of_getElem? (i := 0) (by decide +kernel)), rfl⟩
theorem ini_H : (Cond.initialized R_H : Cond) ∈ lw_gd := List.mem_filter.mpr ⟨List.mem_append_right _ (List.mem_of_getElem? (i := 1) (by decide +kernel)), rfl⟩
theorem ini_L : (Cond.initialized R_L : Cond) ∈ lw_gd := List.mem_filter.mpr ⟨List.mem_append_right _ (List.mem_of_getElem? (i := 2) (by decide +kernel)), rfl⟩
theorem ini_P : (Cond.initialized R_P : Cond) ∈ lw_gd := List.mem_filter.mpr ⟨List.mem_append_right _ (List.mem_of_getElem? (i := 3) (by decide +kernel)), rfl⟩
theorem ini_D : (Cond.initialized R_D : Cond) ∈ lw_gd := List.mem_filter.mpr ⟨List.mem_append_right _ (List.mem_of_getElem? (i := 4) (by decide +kernel)), rfl⟩
theorem ini_M : (Cond.initialized R_M : Cond) ∈ lw_gd := List.mem_filter.mpr ⟨List.mem_append_right _ (List.mem_of_getElem? (i := 5) (by decide +kernel)), rfl⟩
theorem ini_S : (Cond.initialized R_S : Cond) ∈ lw_gd := List.mem_filter.mpr ⟨List.mem_append_right _ (List.mem_of_getElem? (i := 6) (by decide +kernel)), rfl⟩
theorem ini_T : (Cond.initialized R_T : Cond) ∈ lw_gd := List.mem_filter.mpr ⟨List.mem_append_right _ (List.mem_of_getElem? (i := 7) (by decide +kernel)), rfl⟩
theorem ini_Q : (Cond.initialized R_Q : Cond) ∈ lw_gd := List.mem_filter.mpr ⟨List.mem_append_right _ (List.mem_of_getElem? (i := 8) (by decide +kernel)), rfl⟩
theorem ini_U : (Cond.initialized "java/lang/StringUTF16" : Cond) ∈ lw_gd := List.mem_filter.mpr ⟨List.mem_append_right _ (List.mem_of_getElem? (i := 9) (by decide +kernel)), rfl⟩
theorem ini_A : (Cond.initialized R_A : Cond) ∈ lw_gd := List.mem_filter.mpr ⟨List.mem_append_right _ (List.mem_of_getElem? (i := 10) (by decide +kernel)), rfl⟩
theorem ini_C : (Cond.initialized "java/lang/Character" : Cond) ∈ lw_gd := List.mem_filter.mpr ⟨List.mem_append_right _ (List.mem_of_getElem? (i := 11) (by decide +kernel)), rfl⟩
theorem ini_I : (Cond.initialized R_I : Cond) ∈ lw_gd := List.mem_filter.mpr ⟨List.mem_append_right _ (List.mem_of_getElem? (i := 12) (by decide +kernel)), rfl⟩
theorem clk_W_7 : (Cond.classLink "HornLearnerLaw" 7 R_H : Cond) ∈ lw_gd := List.mem_filter.mpr ⟨List.mem_append_right _ (List.mem_of_getElem? (i := 13) (by decide +kernel)), rfl⟩
theorem itb_H : (Cond.instantiable R_H 6 : Cond) ∈ lw_gd := List.mem_filter.mpr ⟨List.mem_append_right _ (List.mem_of_getElem? (i := 14) (by decide +kernel)), rfl⟩
theorem mlk_W_9 : (Cond.methodLink "HornLearnerLaw" 9 y_H_init : Cond) ∈ lw_gd := List.mem_filter.mpr ⟨List.mem_append_right _ (List.mem_of_getElem? (i := 15) (by decide +kernel)), rfl⟩
theorem ins_H_init : (Cond.instanceMethod y_H_init : Cond) ∈ lw_gd := List.mem_filter.mpr ⟨List.mem_append_right _ (List.mem_of_getElem? (i := 16) (by decide +kernel)), rfl⟩
theorem mlk_H_3 : (Cond.methodLink R_H 3 objectInit : Cond) ∈ lw_gd := List.mem_filter.mpr ⟨List.mem_append_right _ (List.mem_of_getElem? (i := 18) (by decide +kernel)), rfl⟩
theorem ins_O_init : (Cond.instanceMethod objectInit : Cond) ∈ lw_gd := List.mem_filter.mpr ⟨List.mem_append_right _ (List.mem_of_getElem? (i := 19) (by decide +kernel)), rfl⟩
theorem clk_H_9 : (Cond.classLink R_H 9 R_L : Cond) ∈ lw_gd := List.mem_filter.mpr ⟨List.mem_append_right _ (List.mem_of_getElem? (i := 21) (by decide +kernel)), rfl⟩
theorem itb_L : (Cond.instantiable R_L 2 : Cond) ∈ lw_gd := List.mem_filter.mpr ⟨List.mem_append_right _ (List.mem_of_getElem? (i := 22) (by decide +kernel)), rfl⟩
theorem mlk_H_11 : (Cond.methodLink R_H 11 y_L_init : Cond) ∈ lw_gd := List.mem_filter.mpr ⟨List.mem_append_right _ (List.mem_of_getElem? (i := 23) (by decide +kernel)), rfl⟩
theorem ins_L_init : (Cond.instanceMethod y_L_init : Cond) ∈ lw_gd := List.mem_filter.mpr ⟨List.mem_append_right _ (List.mem_of_getElem? (i := 24) (by decide +kernel)), rfl⟩
theorem mlk_L_3 : (Cond.methodLink R_L 3 objectInit : Cond) ∈ lw_gd := List.mem_filter.mpr ⟨List.mem_append_right _ (List.mem_of_getElem? (i := 26) (by decide +kernel)), rfl⟩
theorem flk_L_11 : (Cond.fieldLink R_L 11 "HornLearner$Line" "typed" "[C" : Cond) ∈ lw_gd := List.mem_filter.mpr ⟨List.mem_append_right _ (List.mem_of_getElem? (i := 27) (by decide +kernel)), rfl⟩
theorem flk_L_15 : (Cond.fieldLink R_L 15 "HornLearner$Line" "length" "I" : Cond) ∈ lw_gd := List.mem_filter.mpr ⟨List.mem_append_right _ (List.mem_of_getElem? (i := 28) (by decide +kernel)), rfl⟩
theorem arc_char : (Cond.arrayClass .char : Cond) ∈ lw_gd := List.mem_filter.mpr ⟨List.mem_append_right _ (List.mem_of_getElem? (i := 34) (by decide +kernel)), rfl⟩
theorem clk_H_27 : (Cond.classLink R_H 27 R_P : Cond) ∈ lw_gd := List.mem_filter.mpr ⟨List.mem_append_right _ (List.mem_of_getElem? (i := 35) (by decide +kernel)), rfl⟩
theorem itb_P : (Cond.instantiable R_P 2 : Cond) ∈ lw_gd := List.mem_filter.mpr ⟨List.mem_append_right _ (List.mem_of_getElem? (i := 36) (by decide +kernel)), rfl⟩
theorem mlk_H_29 : (Cond.methodLink R_H 29 y_P_init : Cond) ∈ lw_gd := List.mem_filter.mpr ⟨List.mem_append_right _ (List.mem_of_getElem? (i := 37) (by decide +kernel)), rfl⟩
theorem ins_P_init : (Cond.instanceMethod y_P_init : Cond) ∈ lw_gd := List.mem_filter.mpr ⟨List.mem_append_right _ (List.mem_of_getElem? (i := 38) (by decide +kernel)), rfl⟩
theorem mlk_P_3 : (Cond.methodLink R_P 3 objectInit : Cond) ∈ lw_gd := List.mem_filter.mpr ⟨List.mem_append_right _ (List.mem_of_getElem? (i := 40) (by decide +kernel)), rfl⟩
theorem flk_P_9 : (Cond.fieldLink R_P 9 "HornLearner$Program" "bodies" "[I" : Cond) ∈ lw_gd := List.mem_filter.mpr ⟨List.mem_append_right _ (List.mem_of_getElem? (i := 41) (by decide +kernel)), rfl⟩
theorem flk_P_15 : (Cond.fieldLink R_P 15 "HornLearner$Program" "count" "I" : Cond) ∈ lw_gd := List.mem_filter.mpr ⟨List.mem_append_right _ (List.mem_of_getElem? (i := 42) (by decide +kernel)), rfl⟩
theorem flk_H_79 : (Cond.fieldLink R_H 79 "HornLearner$Program" "count" "I" : Cond) ∈ lw_gd := List.mem_filter.mpr ⟨List.mem_append_right _ (List.mem_of_getElem? (i := 43) (by decide +kernel)), rfl⟩
theorem arc_int : (Cond.arrayClass .int : Cond) ∈ lw_gd := List.mem_filter.mpr ⟨List.mem_append_right _ (List.mem_of_getElem? (i := 49) (by decide +kernel)), rfl⟩
theorem clk_H_34 : (Cond.classLink R_H 34 R_D : Cond) ∈ lw_gd := List.mem_filter.mpr ⟨List.mem_append_right _ (List.mem_of_getElem? (i := 50) (by decide +kernel)), rfl⟩
theorem itb_D : (Cond.instantiable R_D 4 : Cond) ∈ lw_gd := List.mem_filter.mpr ⟨List.mem_append_right _ (List.mem_of_getElem? (i := 51) (by decide +kernel)), rfl⟩
theorem mlk_H_36 : (Cond.methodLink R_H 36 y_D_init : Cond) ∈ lw_gd := List.mem_filter.mpr ⟨List.mem_append_right _ (List.mem_of_getElem? (i := 52) (by decide +kernel)), rfl⟩
theorem ins_D_init : (Cond.instanceMethod y_D_init : Cond) ∈ lw_gd := List.mem_filter.mpr ⟨List.mem_append_right _ (List.mem_of_getElem? (i := 53) (by decide +kernel)), rfl⟩
theorem mlk_D_3 : (Cond.methodLink R_D 3 objectInit : Cond) ∈ lw_gd := List.mem_filter.mpr ⟨List.mem_append_right _ (List.mem_of_getElem? (i := 55) (by decide +kernel)), rfl⟩
theorem flk_D_9 : (Cond.fieldLink R_D 9 "HornLearner$Deduction" "factChoices" "[J" : Cond) ∈ lw_gd := List.mem_filter.mpr ⟨List.mem_append_right _ (List.mem_of_getElem? (i := 56) (by decide +kernel)), rfl⟩
theorem flk_D_15 : (Cond.fieldLink R_D 15 "HornLearner$Deduction" "givenInRound" "[I" : Cond) ∈ lw_gd := List.mem_filter.mpr ⟨List.mem_append_right _ (List.mem_of_getElem? (i := 57) (by decide +kernel)), rfl⟩
theorem flk_D_19 : (Cond.fieldLink R_D 19 "HornLearner$Deduction" "givenPairs" "I" : Cond) ∈ lw_gd := List.mem_filter.mpr ⟨List.mem_append_right _ (List.mem_of_getElem? (i := 58) (by decide +kernel)), rfl⟩
theorem flk_H_159 : (Cond.fieldLink R_H 159 "HornLearner$Deduction" "givenPairs" "I" : Cond) ∈ lw_gd := List.mem_filter.mpr ⟨List.mem_append_right _ (List.mem_of_getElem? (i := 59) (by decide +kernel)), rfl⟩
theorem flk_D_23 : (Cond.fieldLink R_D 23 "HornLearner$Deduction" "roundCount" "I" : Cond) ∈ lw_gd := List.mem_filter.mpr ⟨List.mem_append_right _ (List.mem_of_getElem? (i := 60) (by decide +kernel)), rfl⟩
theorem flk_H_100 : (Cond.fieldLink R_H 100 "HornLearner$Deduction" "roundCount" "I" : Cond) ∈ lw_gd := List.mem_filter.mpr ⟨List.mem_append_right _ (List.mem_of_getElem? (i := 61) (by decide +kernel)), rfl⟩
theorem arc_long : (Cond.arrayClass .long : Cond) ∈ lw_gd := List.mem_filter.mpr ⟨List.mem_append_right _ (List.mem_of_getElem? (i := 71) (by decide +kernel)), rfl⟩
theorem flk_H_12 : (Cond.fieldLink R_H 12 "HornLearner" "line" "LHornLearner$Line;" : Cond) ∈ lw_gd := List.mem_filter.mpr ⟨List.mem_append_right _ (List.mem_of_getElem? (i := 72) (by decide +kernel)), rfl⟩
theorem flk_H_16 : (Cond.fieldLink R_H 16 "HornLearner" "factSets" "[I" : Cond) ∈ lw_gd := List.mem_filter.mpr ⟨List.mem_append_right _ (List.mem_of_getElem? (i := 73) (by decide +kernel)), rfl⟩
theorem flk_H_20 : (Cond.fieldLink R_H 20 "HornLearner" "markedPlus" "I" : Cond) ∈ lw_gd := List.mem_filter.mpr ⟨List.mem_append_right _ (List.mem_of_getElem? (i := 74) (by decide +kernel)), rfl⟩
theorem flk_H_24 : (Cond.fieldLink R_H 24 "HornLearner" "markedMinus" "I" : Cond) ∈ lw_gd := List.mem_filter.mpr ⟨List.mem_append_right _ (List.mem_of_getElem? (i := 75) (by decide +kernel)), rfl⟩
theorem flk_H_30 : (Cond.fieldLink R_H 30 "HornLearner" "program" "LHornLearner$Program;" : Cond) ∈ lw_gd := List.mem_filter.mpr ⟨List.mem_append_right _ (List.mem_of_getElem? (i := 76) (by decide +kernel)), rfl⟩
theorem flk_H_37 : (Cond.fieldLink R_H 37 "HornLearner" "deduction" "LHornLearner$Deduction;" : Cond) ∈ lw_gd := List.mem_filter.mpr ⟨List.mem_append_right _ (List.mem_of_getElem? (i := 77) (by decide +kernel)), rfl⟩
theorem mlk_W_13 : (Cond.methodLink "HornLearnerLaw" 13 y_H_key : Cond) ∈ lw_gd := List.mem_filter.mpr ⟨List.mem_append_right _ (List.mem_of_getElem? (i := 91) (by decide +kernel)), rfl⟩
theorem ins_H_key : (Cond.instanceMethod y_H_key : Cond) ∈ lw_gd := List.mem_filter.mpr ⟨List.mem_append_right _ (List.mem_of_getElem? (i := 92) (by decide +kernel)), rfl⟩
theorem sel_H_key : (Cond.selects R_H y_H_key y_H_key : Cond) ∈ lw_gd := List.mem_filter.mpr ⟨List.mem_append_right _ (List.mem_of_getElem? (i := 93) (by decide +kernel)), rfl⟩
theorem mlk_H_41 : (Cond.methodLink R_H 41 y_L_add : Cond) ∈ lw_gd := List.mem_filter.mpr ⟨List.mem_append_right _ (List.mem_of_getElem? (i := 95) (by decide +kernel)), rfl⟩
theorem ins_L_add : (Cond.instanceMethod y_L_add : Cond) ∈ lw_gd := List.mem_filter.mpr ⟨List.mem_append_right _ (List.mem_of_getElem? (i := 96) (by decide +kernel)), rfl⟩
theorem sel_L_add : (Cond.selects R_L y_L_add y_L_add : Cond) ∈ lw_gd := List.mem_filter.mpr ⟨List.mem_append_right _ (List.mem_of_getElem? (i := 97) (by decide +kernel)), rfl⟩
theorem mlk_W_18 : (Cond.methodLink "HornLearnerLaw" 18 y_H_back : Cond) ∈ lw_gd := List.mem_filter.mpr ⟨List.mem_append_right _ (List.mem_of_getElem? (i := 99) (by decide +kernel)), rfl⟩
theorem ins_H_back : (Cond.instanceMethod y_H_back : Cond) ∈ lw_gd := List.mem_filter.mpr ⟨List.mem_append_right _ (List.mem_of_getElem? (i := 100) (by decide +kernel)), rfl⟩
theorem sel_H_back : (Cond.selects R_H y_H_back y_H_back : Cond) ∈ lw_gd := List.mem_filter.mpr ⟨List.mem_append_right _ (List.mem_of_getElem? (i := 101) (by decide +kernel)), rfl⟩
theorem mlk_H_45 : (Cond.methodLink R_H 45 y_L_removeLast : Cond) ∈ lw_gd := List.mem_filter.mpr ⟨List.mem_append_right _ (List.mem_of_getElem? (i := 103) (by decide +kernel)), rfl⟩
theorem ins_L_removeLast : (Cond.instanceMethod y_L_removeLast : Cond) ∈ lw_gd := List.mem_filter.mpr ⟨List.mem_append_right _ (List.mem_of_getElem? (i := 104) (by decide +kernel)), rfl⟩
theorem sel_L_removeLast : (Cond.selects R_L y_L_removeLast y_L_removeLast : Cond) ∈ lw_gd := List.mem_filter.mpr ⟨List.mem_append_right _ (List.mem_of_getElem? (i := 105) (by decide +kernel)), rfl⟩
theorem mlk_W_23 : (Cond.methodLink "HornLearnerLaw" 23 y_H_enter : Cond) ∈ lw_gd := List.mem_filter.mpr ⟨List.mem_append_right _ (List.mem_of_getElem? (i := 107) (by decide +kernel)), rfl⟩
theorem ins_H_enter : (Cond.instanceMethod y_H_enter : Cond) ∈ lw_gd := List.mem_filter.mpr ⟨List.mem_append_right _ (List.mem_of_getElem? (i := 108) (by decide +kernel)), rfl⟩
theorem sel_H_enter : (Cond.selects R_H y_H_enter y_H_enter : Cond) ∈ lw_gd := List.mem_filter.mpr ⟨List.mem_append_right _ (List.mem_of_getElem? (i := 109) (by decide +kernel)), rfl⟩
theorem mlk_H_49 : (Cond.methodLink R_H 49 y_L_begunStatement : Cond) ∈ lw_gd := List.mem_filter.mpr ⟨List.mem_append_right _ (List.mem_of_getElem? (i := 111) (by decide +kernel)), rfl⟩
theorem ins_L_begunStatement : (Cond.instanceMethod y_L_begunStatement : Cond) ∈ lw_gd := List.mem_filter.mpr ⟨List.mem_append_right _ (List.mem_of_getElem? (i := 112) (by decide +kernel)), rfl⟩
theorem sel_L_begunStatement : (Cond.selects R_L y_L_begunStatement y_L_begunStatement : Cond) ∈ lw_gd := List.mem_filter.mpr ⟨List.mem_append_right _ (List.mem_of_getElem? (i := 113) (by decide +kernel)), rfl⟩
theorem mlk_L_19 : (Cond.methodLink R_L 19 y_L_form : Cond) ∈ lw_gd := List.mem_filter.mpr ⟨List.mem_append_right _ (List.mem_of_getElem? (i := 115) (by decide +kernel)), rfl⟩
theorem ins_L_form : (Cond.instanceMethod y_L_form : Cond) ∈ lw_gd := List.mem_filter.mpr ⟨List.mem_append_right _ (List.mem_of_getElem? (i := 117) (by decide +kernel)), rfl⟩
theorem mlk_L_39 : (Cond.methodLink R_L 39 y_L_at : Cond) ∈ lw_gd := List.mem_filter.mpr ⟨List.mem_append_right _ (List.mem_of_getElem? (i := 119) (by decide +kernel)), rfl⟩
theorem ins_L_at : (Cond.instanceMethod y_L_at : Cond) ∈ lw_gd := List.mem_filter.mpr ⟨List.mem_append_right _ (List.mem_of_getElem? (i := 120) (by decide +kernel)), rfl⟩
theorem sel_L_at : (Cond.selects R_L y_L_at y_L_at : Cond) ∈ lw_gd := List.mem_filter.mpr ⟨List.mem_append_right _ (List.mem_of_getElem? (i := 121) (by decide +kernel)), rfl⟩
theorem str_L_58 : (Cond.stringRef R_L 58 "f(c,c)" : Cond) ∈ lw_tbl := List.mem_append_right _ (List.mem_of_getElem? (i := 123) (by decide +kernel))
theorem str_L_60 : (Cond.stringRef R_L 60 "~r(c,c)" : Cond) ∈ lw_tbl := List.mem_append_right _ (List.mem_of_getElem? (i := 124) (by decide +kernel))
theorem str_L_62 : (Cond.stringRef R_L 62 "+t(c,c)" : Cond) ∈ lw_tbl := List.mem_append_right _ (List.mem_of_getElem? (i := 125) (by decide +kernel))
theorem str_L_64 : (Cond.stringRef R_L 64 "-t(c,c)" : Cond) ∈ lw_tbl := List.mem_append_right _ (List.mem_of_getElem? (i := 126) (by decide +kernel))
theorem str_L_66 : (Cond.stringRef R_L 66 "t(X,Y):-r(v,v),r(v,v),r(v,v)" : Cond) ∈ lw_tbl := List.mem_append_right _ (List.mem_of_getElem? (i := 127) (by decide +kernel))
theorem str_L_68 : (Cond.stringRef R_L 68 "" : Cond) ∈ lw_tbl := List.mem_append_right _ (List.mem_of_getElem? (i := 128) (by decide +kernel))
theorem mlk_L_23 : (Cond.methodLink R_L 23 y_S_length : Cond) ∈ lw_gd := List.mem_filter.mpr ⟨List.mem_append_right _ (List.mem_of_getElem? (i := 129) (by decide +kernel)), rfl⟩
theorem ins_S_length : (Cond.instanceMethod y_S_length : Cond) ∈ lw_gd := List.mem_filter.mpr ⟨List.mem_append_right _ (List.mem_of_getElem? (i := 130) (by decide +kernel)), rfl⟩
theorem sel_S_length : (Cond.selects R_S y_S_length y_S_length : Cond) ∈ lw_gd := List.mem_filter.mpr ⟨List.mem_append_right _ (List.mem_of_getElem? (i := 131) (by decide +kernel)), rfl⟩
theorem mlk_S_335 : (Cond.methodLink R_S 335 y_S_coder : Cond) ∈ lw_gd := List.mem_filter.mpr ⟨List.mem_append_right _ (List.mem_of_getElem? (i := 133) (by decide +kernel)), rfl⟩
theorem ins_S_coder : (Cond.instanceMethod y_S_coder : Cond) ∈ lw_gd := List.mem_filter.mpr ⟨List.mem_append_right _ (List.mem_of_getElem? (i := 134) (by decide +kernel)), rfl⟩
theorem sel_S_coder : (Cond.selects R_S y_S_coder y_S_coder : Cond) ∈ lw_gd := List.mem_filter.mpr ⟨List.mem_append_right _ (List.mem_of_getElem? (i := 135) (by decide +kernel)), rfl⟩
theorem flk_S_38 : (Cond.fieldLink R_S 38 "java/lang/String" "COMPACT_STRINGS" "Z" : Cond) ∈ lw_gd := List.mem_filter.mpr ⟨List.mem_append_right _ (List.mem_of_getElem? (i := 137) (by decide +kernel)), rfl⟩
theorem lst_138 : (Cond.laysStatic "java/lang/String" "COMPACT_STRINGS" "Z" : Cond) ∈ lw_tbl := List.mem_append_right _ (List.mem_of_getElem? (i := 138) (by decide +kernel))
theorem mlk_L_28 : (Cond.methodLink R_L 28 y_S_charAt : Cond) ∈ lw_gd := List.mem_filter.mpr ⟨List.mem_append_right _ (List.mem_of_getElem? (i := 139) (by decide +kernel)), rfl⟩
theorem ins_S_charAt : (Cond.instanceMethod y_S_charAt : Cond) ∈ lw_gd := List.mem_filter.mpr ⟨List.mem_append_right _ (List.mem_of_getElem? (i := 140) (by decide +kernel)), rfl⟩
theorem sel_S_charAt : (Cond.selects R_S y_S_charAt y_S_charAt : Cond) ∈ lw_gd := List.mem_filter.mpr ⟨List.mem_append_right _ (List.mem_of_getElem? (i := 141) (by decide +kernel)), rfl⟩
theorem mlk_S_492 : (Cond.methodLink R_S 492 y_S_isLatin1 : Cond) ∈ lw_gd := List.mem_filter.mpr ⟨List.mem_append_right _ (List.mem_of_getElem? (i := 143) (by decide +kernel)), rfl⟩
theorem ins_S_isLatin1 : (Cond.instanceMethod y_S_isLatin1 : Cond) ∈ lw_gd := List.mem_filter.mpr ⟨List.mem_append_right _ (List.mem_of_getElem? (i := 144) (by decide +kernel)), rfl⟩
theorem sel_S_isLatin1 : (Cond.selects R_S y_S_isLatin1 y_S_isLatin1 : Cond) ∈ lw_gd := List.mem_filter.mpr ⟨List.mem_append_right _ (List.mem_of_getElem? (i := 145) (by decide +kernel)), rfl⟩
theorem mlk_S_495 : (Cond.methodLink R_S 495 y_T_charAt : Cond) ∈ lw_gd := List.mem_filter.mpr ⟨List.mem_append_right _ (List.mem_of_getElem? (i := 147) (by decide +kernel)), rfl⟩
theorem sta_T_charAt : (Cond.static y_T_charAt : Cond) ∈ lw_gd := List.mem_filter.mpr ⟨List.mem_append_right _ (List.mem_of_getElem? (i := 148) (by decide +kernel)), rfl⟩
theorem mlk_T_9 : (Cond.methodLink R_T 9 y_S_checkIndex : Cond) ∈ lw_gd := List.mem_filter.mpr ⟨List.mem_append_right _ (List.mem_of_getElem? (i := 150) (by decide +kernel)), rfl⟩
theorem sta_S_checkIndex : (Cond.static y_S_checkIndex : Cond) ∈ lw_gd := List.mem_filter.mpr ⟨List.mem_append_right _ (List.mem_of_getElem? (i := 151) (by decide +kernel)), rfl⟩
theorem flk_S_1053 : (Cond.fieldLink R_S 1053 "jdk/internal/util/Preconditions" "SIOOBE_FORMATTER" "Ljava/util/function/BiFunction;" : Cond) ∈ lw_gd := List.mem_filter.mpr ⟨List.mem_append_right _ (List.mem_of_getElem? (i := 153) (by decide +kernel)), rfl⟩
theorem lst_154 : (Cond.laysStatic "jdk/internal/util/Preconditions" "SIOOBE_FORMATTER" "Ljava/util/function/BiFunction;" : Cond) ∈ lw_tbl := List.mem_append_right _ (List.mem_of_getElem? (i := 154) (by decide +kernel))
theorem mlk_S_1059 : (Cond.methodLink R_S 1059 y_Q_checkIndex : Cond) ∈ lw_gd := List.mem_filter.mpr ⟨List.mem_append_right _ (List.mem_of_getElem? (i := 155) (by decide +kernel)), rfl⟩
theorem sta_Q_checkIndex : (Cond.static y_Q_checkIndex : Cond) ∈ lw_gd := List.mem_filter.mpr ⟨List.mem_append_right _ (List.mem_of_getElem? (i := 156) (by decide +kernel)), rfl⟩
theorem lst_172 : (Cond.laysStatic "java/lang/StringUTF16" "$assertionsDisabled" "Z" : Cond) ∈ lw_tbl := List.mem_append_right _ (List.mem_of_getElem? (i := 172) (by decide +kernel))
theorem lst_174 : (Cond.laysStatic "java/lang/StringUTF16" "HI_BYTE_SHIFT" "I" : Cond) ∈ lw_tbl := List.mem_append_right _ (List.mem_of_getElem? (i := 174) (by decide +kernel))
theorem lst_176 : (Cond.laysStatic "java/lang/StringUTF16" "LO_BYTE_SHIFT" "I" : Cond) ∈ lw_tbl := List.mem_append_right _ (List.mem_of_getElem? (i := 176) (by decide +kernel))
theorem mlk_L_32 : (Cond.methodLink R_L 32 y_L_allows : Cond) ∈ lw_gd := List.mem_filter.mpr ⟨List.mem_append_right _ (List.mem_of_getElem? (i := 177) (by decide +kernel)), rfl⟩
theorem sta_L_allows : (Cond.static y_L_allows : Cond) ∈ lw_gd := List.mem_filter.mpr ⟨List.mem_append_right _ (List.mem_of_getElem? (i := 178) (by decide +kernel)), rfl⟩
theorem mlk_H_53 : (Cond.methodLink R_H 53 y_L_endsStatement : Cond) ∈ lw_gd := List.mem_filter.mpr ⟨List.mem_append_right _ (List.mem_of_getElem? (i := 180) (by decide +kernel)), rfl⟩
theorem ins_L_endsStatement : (Cond.instanceMethod y_L_endsStatement : Cond) ∈ lw_gd := List.mem_filter.mpr ⟨List.mem_append_right _ (List.mem_of_getElem? (i := 181) (by decide +kernel)), rfl⟩
theorem sel_L_endsStatement : (Cond.selects R_L y_L_endsStatement y_L_endsStatement : Cond) ∈ lw_gd := List.mem_filter.mpr ⟨List.mem_append_right _ (List.mem_of_getElem? (i := 182) (by decide +kernel)), rfl⟩
theorem mlk_L_36 : (Cond.methodLink R_L 36 y_L_typedLiterals : Cond) ∈ lw_gd := List.mem_filter.mpr ⟨List.mem_append_right _ (List.mem_of_getElem? (i := 184) (by decide +kernel)), rfl⟩
theorem ins_L_typedLiterals : (Cond.instanceMethod y_L_typedLiterals : Cond) ∈ lw_gd := List.mem_filter.mpr ⟨List.mem_append_right _ (List.mem_of_getElem? (i := 185) (by decide +kernel)), rfl⟩
theorem sel_L_typedLiterals : (Cond.selects R_L y_L_typedLiterals y_L_typedLiterals : Cond) ∈ lw_gd := List.mem_filter.mpr ⟨List.mem_append_right _ (List.mem_of_getElem? (i := 186) (by decide +kernel)), rfl⟩
theorem mlk_H_57 : (Cond.methodLink R_H 57 y_H_carryOutLine : Cond) ∈ lw_gd := List.mem_filter.mpr ⟨List.mem_append_right _ (List.mem_of_getElem? (i := 188) (by decide +kernel)), rfl⟩
theorem ins_H_carryOutLine : (Cond.instanceMethod y_H_carryOutLine : Cond) ∈ lw_gd := List.mem_filter.mpr ⟨List.mem_append_right _ (List.mem_of_getElem? (i := 190) (by decide +kernel)), rfl⟩
theorem mlk_H_117 : (Cond.methodLink R_H 117 y_L_at : Cond) ∈ lw_gd := List.mem_filter.mpr ⟨List.mem_append_right _ (List.mem_of_getElem? (i := 192) (by decide +kernel)), rfl⟩
theorem mlk_H_121 : (Cond.methodLink R_H 121 y_L_typedBody : Cond) ∈ lw_gd := List.mem_filter.mpr ⟨List.mem_append_right _ (List.mem_of_getElem? (i := 193) (by decide +kernel)), rfl⟩
theorem ins_L_typedBody : (Cond.instanceMethod y_L_typedBody : Cond) ∈ lw_gd := List.mem_filter.mpr ⟨List.mem_append_right _ (List.mem_of_getElem? (i := 194) (by decide +kernel)), rfl⟩
theorem sel_L_typedBody : (Cond.selects R_L y_L_typedBody y_L_typedBody : Cond) ∈ lw_gd := List.mem_filter.mpr ⟨List.mem_append_right _ (List.mem_of_getElem? (i := 195) (by decide +kernel)), rfl⟩
theorem str_L_46 : (Cond.stringRef R_L 46 "abt" : Cond) ∈ lw_tbl := List.mem_append_right _ (List.mem_of_getElem? (i := 197) (by decide +kernel))
theorem mlk_L_48 : (Cond.methodLink R_L 48 y_S_indexOf1 : Cond) ∈ lw_gd := List.mem_filter.mpr ⟨List.mem_append_right _ (List.mem_of_getElem? (i := 198) (by decide +kernel)), rfl⟩
theorem ins_S_indexOf1 : (Cond.instanceMethod y_S_indexOf1 : Cond) ∈ lw_gd := List.mem_filter.mpr ⟨List.mem_append_right _ (List.mem_of_getElem? (i := 199) (by decide +kernel)), rfl⟩
theorem sel_S_indexOf1 : (Cond.selects R_S y_S_indexOf1 y_S_indexOf1 : Cond) ∈ lw_gd := List.mem_filter.mpr ⟨List.mem_append_right _ (List.mem_of_getElem? (i := 200) (by decide +kernel)), rfl⟩
theorem mlk_S_633 : (Cond.methodLink R_S 633 y_S_indexOf2 : Cond) ∈ lw_gd := List.mem_filter.mpr ⟨List.mem_append_right _ (List.mem_of_getElem? (i := 202) (by decide +kernel)), rfl⟩
theorem ins_S_indexOf2 : (Cond.instanceMethod y_S_indexOf2 : Cond) ∈ lw_gd := List.mem_filter.mpr ⟨List.mem_append_right _ (List.mem_of_getElem? (i := 203) (by decide +kernel)), rfl⟩
theorem sel_S_indexOf2 : (Cond.selects R_S y_S_indexOf2 y_S_indexOf2 : Cond) ∈ lw_gd := List.mem_filter.mpr ⟨List.mem_append_right _ (List.mem_of_getElem? (i := 204) (by decide +kernel)), rfl⟩
theorem mlk_S_505 : (Cond.methodLink R_S 505 y_S_length : Cond) ∈ lw_gd := List.mem_filter.mpr ⟨List.mem_append_right _ (List.mem_of_getElem? (i := 206) (by decide +kernel)), rfl⟩
theorem mlk_S_637 : (Cond.methodLink R_S 637 y_T_indexOf : Cond) ∈ lw_gd := List.mem_filter.mpr ⟨List.mem_append_right _ (List.mem_of_getElem? (i := 207) (by decide +kernel)), rfl⟩
theorem sta_T_indexOf : (Cond.static y_T_indexOf : Cond) ∈ lw_gd := List.mem_filter.mpr ⟨List.mem_append_right _ (List.mem_of_getElem? (i := 208) (by decide +kernel)), rfl⟩
theorem mlk_T_88 : (Cond.methodLink R_T 88 y_T_canEncode : Cond) ∈ lw_gd := List.mem_filter.mpr ⟨List.mem_append_right _ (List.mem_of_getElem? (i := 210) (by decide +kernel)), rfl⟩
theorem sta_T_canEncode : (Cond.static y_T_canEncode : Cond) ∈ lw_gd := List.mem_filter.mpr ⟨List.mem_append_right _ (List.mem_of_getElem? (i := 211) (by decide +kernel)), rfl⟩
theorem mlk_T_92 : (Cond.methodLink R_T 92 y_A_max : Cond) ∈ lw_gd := List.mem_filter.mpr ⟨List.mem_append_right _ (List.mem_of_getElem? (i := 213) (by decide +kernel)), rfl⟩
theorem sta_A_max : (Cond.static y_A_max : Cond) ∈ lw_gd := List.mem_filter.mpr ⟨List.mem_append_right _ (List.mem_of_getElem? (i := 214) (by decide +kernel)), rfl⟩
theorem mlk_T_38 : (Cond.methodLink R_T 38 y_A_min : Cond) ∈ lw_gd := List.mem_filter.mpr ⟨List.mem_append_right _ (List.mem_of_getElem? (i := 216) (by decide +kernel)), rfl⟩
theorem sta_A_min : (Cond.static y_A_min : Cond) ∈ lw_gd := List.mem_filter.mpr ⟨List.mem_append_right _ (List.mem_of_getElem? (i := 217) (by decide +kernel)), rfl⟩
theorem mlk_T_95 : (Cond.methodLink R_T 95 y_T_indexOfChar : Cond) ∈ lw_gd := List.mem_filter.mpr ⟨List.mem_append_right _ (List.mem_of_getElem? (i := 219) (by decide +kernel)), rfl⟩
theorem sta_T_indexOfChar : (Cond.static y_T_indexOfChar : Cond) ∈ lw_gd := List.mem_filter.mpr ⟨List.mem_append_right _ (List.mem_of_getElem? (i := 220) (by decide +kernel)), rfl⟩
theorem sta_S_checkBoundsBeginEnd : (Cond.static y_S_checkBoundsBeginEnd : Cond) ∈ lw_gd := List.mem_filter.mpr ⟨List.mem_append_right _ (List.mem_of_getElem? (i := 235) (by decide +kernel)), rfl⟩
theorem mlk_S_1062 : (Cond.methodLink R_S 1062 y_Q_checkFromToIndex : Cond) ∈ lw_gd := List.mem_filter.mpr ⟨List.mem_append_right _ (List.mem_of_getElem? (i := 237) (by decide +kernel)), rfl⟩
theorem sta_Q_checkFromToIndex : (Cond.static y_Q_checkFromToIndex : Cond) ∈ lw_gd := List.mem_filter.mpr ⟨List.mem_append_right _ (List.mem_of_getElem? (i := 238) (by decide +kernel)), rfl⟩
theorem str_L_52 : (Cond.stringRef R_L 52 "XYZ" : Cond) ∈ lw_tbl := List.mem_append_right _ (List.mem_of_getElem? (i := 257) (by decide +kernel))
theorem mln_L_54 : (Cond.methodLinkNest R_L 54 y_H_codeOf R_H : Cond) ∈ lw_tbl := List.mem_append_right _ (List.mem_of_getElem? (i := 258) (by decide +kernel))
theorem sta_H_codeOf : (Cond.static y_H_codeOf : Cond) ∈ lw_gd := List.mem_filter.mpr ⟨List.mem_append_right _ (List.mem_of_getElem? (i := 259) (by decide +kernel)), rfl⟩
theorem mlk_H_124 : (Cond.methodLink R_H 124 y_L_typedLiterals : Cond) ∈ lw_gd := List.mem_filter.mpr ⟨List.mem_append_right _ (List.mem_of_getElem? (i := 261) (by decide +kernel)), rfl⟩
theorem mlk_H_127 : (Cond.methodLink R_H 127 y_H_addClause : Cond) ∈ lw_gd := List.mem_filter.mpr ⟨List.mem_append_right _ (List.mem_of_getElem? (i := 262) (by decide +kernel)), rfl⟩
theorem ins_H_addClause : (Cond.instanceMethod y_H_addClause : Cond) ∈ lw_gd := List.mem_filter.mpr ⟨List.mem_append_right _ (List.mem_of_getElem? (i := 264) (by decide +kernel)), rfl⟩
theorem mlk_H_66 : (Cond.methodLink R_H 66 y_I_bitCount : Cond) ∈ lw_gd := List.mem_filter.mpr ⟨List.mem_append_right _ (List.mem_of_getElem? (i := 266) (by decide +kernel)), rfl⟩
theorem sta_I_bitCount : (Cond.static y_I_bitCount : Cond) ∈ lw_gd := List.mem_filter.mpr ⟨List.mem_append_right _ (List.mem_of_getElem? (i := 267) (by decide +kernel)), rfl⟩
theorem con_I_265 : (Cond.constant R_I 265 (1431655765) : Cond) ∈ lw_gd := List.mem_filter.mpr ⟨List.mem_append_right _ (List.mem_of_getElem? (i := 269) (by decide +kernel)), rfl⟩
theorem con_I_266 : (Cond.constant R_I 266 (858993459) : Cond) ∈ lw_gd := List.mem_filter.mpr ⟨List.mem_append_right _ (List.mem_of_getElem? (i := 270) (by decide +kernel)), rfl⟩
theorem con_I_267 : (Cond.constant R_I 267 (252645135) : Cond) ∈ lw_gd := List.mem_filter.mpr ⟨List.mem_append_right _ (List.mem_of_getElem? (i := 271) (by decide +kernel)), rfl⟩
theorem mlk_H_147 : (Cond.methodLink R_H 147 y_H_hasHeadVariables : Cond) ∈ lw_gd := List.mem_filter.mpr ⟨List.mem_append_right _ (List.mem_of_getElem? (i := 272) (by decide +kernel)), rfl⟩
theorem sta_H_hasHeadVariables : (Cond.static y_H_hasHeadVariables : Cond) ∈ lw_gd := List.mem_filter.mpr ⟨List.mem_append_right _ (List.mem_of_getElem? (i := 273) (by decide +kernel)), rfl⟩
theorem con_H_169 : (Cond.constant R_H 169 (20749903) : Cond) ∈ lw_gd := List.mem_filter.mpr ⟨List.mem_append_right _ (List.mem_of_getElem? (i := 275) (by decide +kernel)), rfl⟩
theorem con_H_170 : (Cond.constant R_H 170 (48854202) : Cond) ∈ lw_gd := List.mem_filter.mpr ⟨List.mem_append_right _ (List.mem_of_getElem? (i := 276) (by decide +kernel)), rfl⟩
theorem mlk_H_150 : (Cond.methodLink R_H 150 y_P_contains : Cond) ∈ lw_gd := List.mem_filter.mpr ⟨List.mem_append_right _ (List.mem_of_getElem? (i := 277) (by decide +kernel)), rfl⟩
theorem ins_P_contains : (Cond.instanceMethod y_P_contains : Cond) ∈ lw_gd := List.mem_filter.mpr ⟨List.mem_append_right _ (List.mem_of_getElem? (i := 278) (by decide +kernel)), rfl⟩
theorem sel_P_contains : (Cond.selects R_P y_P_contains y_P_contains : Cond) ∈ lw_gd := List.mem_filter.mpr ⟨List.mem_append_right _ (List.mem_of_getElem? (i := 279) (by decide +kernel)), rfl⟩
theorem mlk_P_19 : (Cond.methodLink R_P 19 y_P_bodyOf : Cond) ∈ lw_gd := List.mem_filter.mpr ⟨List.mem_append_right _ (List.mem_of_getElem? (i := 281) (by decide +kernel)), rfl⟩
theorem ins_P_bodyOf : (Cond.instanceMethod y_P_bodyOf : Cond) ∈ lw_gd := List.mem_filter.mpr ⟨List.mem_append_right _ (List.mem_of_getElem? (i := 282) (by decide +kernel)), rfl⟩
theorem sel_P_bodyOf : (Cond.selects R_P y_P_bodyOf y_P_bodyOf : Cond) ∈ lw_gd := List.mem_filter.mpr ⟨List.mem_append_right _ (List.mem_of_getElem? (i := 283) (by decide +kernel)), rfl⟩
theorem mlk_H_153 : (Cond.methodLink R_H 153 y_P_append : Cond) ∈ lw_gd := List.mem_filter.mpr ⟨List.mem_append_right _ (List.mem_of_getElem? (i := 285) (by decide +kernel)), rfl⟩
theorem ins_P_append : (Cond.instanceMethod y_P_append : Cond) ∈ lw_gd := List.mem_filter.mpr ⟨List.mem_append_right _ (List.mem_of_getElem? (i := 286) (by decide +kernel)), rfl⟩
theorem sel_P_append : (Cond.selects R_P y_P_append y_P_append : Cond) ∈ lw_gd := List.mem_filter.mpr ⟨List.mem_append_right _ (List.mem_of_getElem? (i := 287) (by decide +kernel)), rfl⟩
theorem mlk_H_130 : (Cond.methodLink R_H 130 y_L_typedPair : Cond) ∈ lw_gd := List.mem_filter.mpr ⟨List.mem_append_right _ (List.mem_of_getElem? (i := 289) (by decide +kernel)), rfl⟩
theorem ins_L_typedPair : (Cond.instanceMethod y_L_typedPair : Cond) ∈ lw_gd := List.mem_filter.mpr ⟨List.mem_append_right _ (List.mem_of_getElem? (i := 290) (by decide +kernel)), rfl⟩
theorem sel_L_typedPair : (Cond.selects R_L y_L_typedPair y_L_typedPair : Cond) ∈ lw_gd := List.mem_filter.mpr ⟨List.mem_append_right _ (List.mem_of_getElem? (i := 291) (by decide +kernel)), rfl⟩
theorem mln_L_42 : (Cond.methodLinkNest R_L 42 y_H_pairBit R_H : Cond) ∈ lw_tbl := List.mem_append_right _ (List.mem_of_getElem? (i := 293) (by decide +kernel))
theorem sta_H_pairBit : (Cond.static y_H_pairBit : Cond) ∈ lw_gd := List.mem_filter.mpr ⟨List.mem_append_right _ (List.mem_of_getElem? (i := 294) (by decide +kernel)), rfl⟩
theorem mlk_H_133 : (Cond.methodLink R_H 133 y_H_changeMarks : Cond) ∈ lw_gd := List.mem_filter.mpr ⟨List.mem_append_right _ (List.mem_of_getElem? (i := 296) (by decide +kernel)), rfl⟩
theorem ins_H_changeMarks : (Cond.instanceMethod y_H_changeMarks : Cond) ∈ lw_gd := List.mem_filter.mpr ⟨List.mem_append_right _ (List.mem_of_getElem? (i := 298) (by decide +kernel)), rfl⟩
theorem str_H_136 : (Cond.stringRef R_H 136 "abt" : Cond) ∈ lw_tbl := List.mem_append_right _ (List.mem_of_getElem? (i := 300) (by decide +kernel))
theorem mlk_H_138 : (Cond.methodLink R_H 138 y_S_indexOf1 : Cond) ∈ lw_gd := List.mem_filter.mpr ⟨List.mem_append_right _ (List.mem_of_getElem? (i := 301) (by decide +kernel)), rfl⟩
theorem mlk_H_143 : (Cond.methodLink R_H 143 y_H_changeFacts : Cond) ∈ lw_gd := List.mem_filter.mpr ⟨List.mem_append_right _ (List.mem_of_getElem? (i := 302) (by decide +kernel)), rfl⟩
theorem ins_H_changeFacts : (Cond.instanceMethod y_H_changeFacts : Cond) ∈ lw_gd := List.mem_filter.mpr ⟨List.mem_append_right _ (List.mem_of_getElem? (i := 304) (by decide +kernel)), rfl⟩
theorem mlk_H_63 : (Cond.methodLink R_H 63 y_H_isFactRelation : Cond) ∈ lw_gd := List.mem_filter.mpr ⟨List.mem_append_right _ (List.mem_of_getElem? (i := 306) (by decide +kernel)), rfl⟩
theorem sta_H_isFactRelation : (Cond.static y_H_isFactRelation : Cond) ∈ lw_gd := List.mem_filter.mpr ⟨List.mem_append_right _ (List.mem_of_getElem? (i := 307) (by decide +kernel)), rfl⟩
theorem mlk_H_60 : (Cond.methodLink R_H 60 y_L_clear : Cond) ∈ lw_gd := List.mem_filter.mpr ⟨List.mem_append_right _ (List.mem_of_getElem? (i := 309) (by decide +kernel)), rfl⟩
theorem ins_L_clear : (Cond.instanceMethod y_L_clear : Cond) ∈ lw_gd := List.mem_filter.mpr ⟨List.mem_append_right _ (List.mem_of_getElem? (i := 310) (by decide +kernel)), rfl⟩
theorem sel_L_clear : (Cond.selects R_L y_L_clear y_L_clear : Cond) ∈ lw_gd := List.mem_filter.mpr ⟨List.mem_append_right _ (List.mem_of_getElem? (i := 311) (by decide +kernel)), rfl⟩
theorem arc_byte : (Cond.arrayClass .byte : Cond) ∈ lw_gd := List.mem_filter.mpr ⟨List.mem_append_right _ (List.mem_of_getElem? (i := 313) (by decide +kernel)), rfl⟩
theorem mlk_W_28 : (Cond.methodLink "HornLearnerLaw" 28 y_H_facts : Cond) ∈ lw_gd := List.mem_filter.mpr ⟨List.mem_append_right _ (List.mem_of_getElem? (i := 314) (by decide +kernel)), rfl⟩
theorem ins_H_facts : (Cond.instanceMethod y_H_facts : Cond) ∈ lw_gd := List.mem_filter.mpr ⟨List.mem_append_right _ (List.mem_of_getElem? (i := 315) (by decide +kernel)), rfl⟩
theorem sel_H_facts : (Cond.selects R_H y_H_facts y_H_facts : Cond) ∈ lw_gd := List.mem_filter.mpr ⟨List.mem_append_right _ (List.mem_of_getElem? (i := 316) (by decide +kernel)), rfl⟩
theorem mlk_W_33 : (Cond.methodLink "HornLearnerLaw" 33 y_H_holds : Cond) ∈ lw_gd := List.mem_filter.mpr ⟨List.mem_append_right _ (List.mem_of_getElem? (i := 318) (by decide +kernel)), rfl⟩
theorem ins_H_holds : (Cond.instanceMethod y_H_holds : Cond) ∈ lw_gd := List.mem_filter.mpr ⟨List.mem_append_right _ (List.mem_of_getElem? (i := 319) (by decide +kernel)), rfl⟩
theorem sel_H_holds : (Cond.selects R_H y_H_holds y_H_holds : Cond) ∈ lw_gd := List.mem_filter.mpr ⟨List.mem_append_right _ (List.mem_of_getElem? (i := 320) (by decide +kernel)), rfl⟩
theorem mlk_H_72 : (Cond.methodLink R_H 72 y_H_pairBit : Cond) ∈ lw_gd := List.mem_filter.mpr ⟨List.mem_append_right _ (List.mem_of_getElem? (i := 322) (by decide +kernel)), rfl⟩
theorem mlk_W_38 : (Cond.methodLink "HornLearnerLaw" 38 y_H_mark : Cond) ∈ lw_gd := List.mem_filter.mpr ⟨List.mem_append_right _ (List.mem_of_getElem? (i := 323) (by decide +kernel)), rfl⟩
theorem ins_H_mark : (Cond.instanceMethod y_H_mark : Cond) ∈ lw_gd := List.mem_filter.mpr ⟨List.mem_append_right _ (List.mem_of_getElem? (i := 324) (by decide +kernel)), rfl⟩
theorem sel_H_mark : (Cond.selects R_H y_H_mark y_H_mark : Cond) ∈ lw_gd := List.mem_filter.mpr ⟨List.mem_append_right _ (List.mem_of_getElem? (i := 325) (by decide +kernel)), rfl⟩
theorem mlk_W_43 : (Cond.methodLink "HornLearnerLaw" 43 y_H_drop : Cond) ∈ lw_gd := List.mem_filter.mpr ⟨List.mem_append_right _ (List.mem_of_getElem? (i := 327) (by decide +kernel)), rfl⟩
theorem ins_H_drop : (Cond.instanceMethod y_H_drop : Cond) ∈ lw_gd := List.mem_filter.mpr ⟨List.mem_append_right _ (List.mem_of_getElem? (i := 328) (by decide +kernel)), rfl⟩
theorem sel_H_drop : (Cond.selects R_H y_H_drop y_H_drop : Cond) ∈ lw_gd := List.mem_filter.mpr ⟨List.mem_append_right _ (List.mem_of_getElem? (i := 329) (by decide +kernel)), rfl⟩
theorem mlk_H_76 : (Cond.methodLink R_H 76 y_P_remove : Cond) ∈ lw_gd := List.mem_filter.mpr ⟨List.mem_append_right _ (List.mem_of_getElem? (i := 331) (by decide +kernel)), rfl⟩
theorem ins_P_remove : (Cond.instanceMethod y_P_remove : Cond) ∈ lw_gd := List.mem_filter.mpr ⟨List.mem_append_right _ (List.mem_of_getElem? (i := 332) (by decide +kernel)), rfl⟩
theorem sel_P_remove : (Cond.selects R_P y_P_remove y_P_remove : Cond) ∈ lw_gd := List.mem_filter.mpr ⟨List.mem_append_right _ (List.mem_of_getElem? (i := 333) (by decide +kernel)), rfl⟩
theorem mlk_W_48 : (Cond.methodLink "HornLearnerLaw" 48 y_H_clauses : Cond) ∈ lw_gd := List.mem_filter.mpr ⟨List.mem_append_right _ (List.mem_of_getElem? (i := 335) (by decide +kernel)), rfl⟩
theorem ins_H_clauses : (Cond.instanceMethod y_H_clauses : Cond) ∈ lw_gd := List.mem_filter.mpr ⟨List.mem_append_right _ (List.mem_of_getElem? (i := 336) (by decide +kernel)), rfl⟩
theorem sel_H_clauses : (Cond.selects R_H y_H_clauses y_H_clauses : Cond) ∈ lw_gd := List.mem_filter.mpr ⟨List.mem_append_right _ (List.mem_of_getElem? (i := 337) (by decide +kernel)), rfl⟩
theorem mlk_W_52 : (Cond.methodLink "HornLearnerLaw" 52 y_H_literals : Cond) ∈ lw_gd := List.mem_filter.mpr ⟨List.mem_append_right _ (List.mem_of_getElem? (i := 339) (by decide +kernel)), rfl⟩
theorem ins_H_literals : (Cond.instanceMethod y_H_literals : Cond) ∈ lw_gd := List.mem_filter.mpr ⟨List.mem_append_right _ (List.mem_of_getElem? (i := 340) (by decide +kernel)), rfl⟩
theorem sel_H_literals : (Cond.selects R_H y_H_literals y_H_literals : Cond) ∈ lw_gd := List.mem_filter.mpr ⟨List.mem_append_right _ (List.mem_of_getElem? (i := 341) (by decide +kernel)), rfl⟩
theorem mlk_H_82 : (Cond.methodLink R_H 82 y_P_bodyOf : Cond) ∈ lw_gd := List.mem_filter.mpr ⟨List.mem_append_right _ (List.mem_of_getElem? (i := 343) (by decide +kernel)), rfl⟩
theorem mlk_W_56 : (Cond.methodLink "HornLearnerLaw" 56 y_H_literal : Cond) ∈ lw_gd := List.mem_filter.mpr ⟨List.mem_append_right _ (List.mem_of_getElem? (i := 344) (by decide +kernel)), rfl⟩
theorem ins_H_literal : (Cond.instanceMethod y_H_literal : Cond) ∈ lw_gd := List.mem_filter.mpr ⟨List.mem_append_right _ (List.mem_of_getElem? (i := 345) (by decide +kernel)), rfl⟩
theorem sel_H_literal : (Cond.selects R_H y_H_literal y_H_literal : Cond) ∈ lw_gd := List.mem_filter.mpr ⟨List.mem_append_right _ (List.mem_of_getElem? (i := 346) (by decide +kernel)), rfl⟩
theorem mlk_H_85 : (Cond.methodLink R_H 85 y_H_codeAt : Cond) ∈ lw_gd := List.mem_filter.mpr ⟨List.mem_append_right _ (List.mem_of_getElem? (i := 348) (by decide +kernel)), rfl⟩
theorem sta_H_codeAt : (Cond.static y_H_codeAt : Cond) ∈ lw_gd := List.mem_filter.mpr ⟨List.mem_append_right _ (List.mem_of_getElem? (i := 349) (by decide +kernel)), rfl⟩
theorem mlk_H_171 : (Cond.methodLink R_H 171 y_H_withoutLeastCode : Cond) ∈ lw_gd := List.mem_filter.mpr ⟨List.mem_append_right _ (List.mem_of_getElem? (i := 351) (by decide +kernel)), rfl⟩
theorem sta_H_withoutLeastCode : (Cond.static y_H_withoutLeastCode : Cond) ∈ lw_gd := List.mem_filter.mpr ⟨List.mem_append_right _ (List.mem_of_getElem? (i := 352) (by decide +kernel)), rfl⟩
theorem mlk_H_174 : (Cond.methodLink R_H 174 y_H_leastCode : Cond) ∈ lw_gd := List.mem_filter.mpr ⟨List.mem_append_right _ (List.mem_of_getElem? (i := 354) (by decide +kernel)), rfl⟩
theorem sta_H_leastCode : (Cond.static y_H_leastCode : Cond) ∈ lw_gd := List.mem_filter.mpr ⟨List.mem_append_right _ (List.mem_of_getElem? (i := 355) (by decide +kernel)), rfl⟩
theorem mlk_W_60 : (Cond.methodLink "HornLearnerLaw" 60 y_H_letter : Cond) ∈ lw_gd := List.mem_filter.mpr ⟨List.mem_append_right _ (List.mem_of_getElem? (i := 357) (by decide +kernel)), rfl⟩
theorem ins_H_letter : (Cond.instanceMethod y_H_letter : Cond) ∈ lw_gd := List.mem_filter.mpr ⟨List.mem_append_right _ (List.mem_of_getElem? (i := 358) (by decide +kernel)), rfl⟩
theorem sel_H_letter : (Cond.selects R_H y_H_letter y_H_letter : Cond) ∈ lw_gd := List.mem_filter.mpr ⟨List.mem_append_right _ (List.mem_of_getElem? (i := 359) (by decide +kernel)), rfl⟩
theorem mlk_H_88 : (Cond.methodLink R_H 88 y_P_letterAt : Cond) ∈ lw_gd := List.mem_filter.mpr ⟨List.mem_append_right _ (List.mem_of_getElem? (i := 361) (by decide +kernel)), rfl⟩
theorem ins_P_letterAt : (Cond.instanceMethod y_P_letterAt : Cond) ∈ lw_gd := List.mem_filter.mpr ⟨List.mem_append_right _ (List.mem_of_getElem? (i := 362) (by decide +kernel)), rfl⟩
theorem sel_P_letterAt : (Cond.selects R_P y_P_letterAt y_P_letterAt : Cond) ∈ lw_gd := List.mem_filter.mpr ⟨List.mem_append_right _ (List.mem_of_getElem? (i := 363) (by decide +kernel)), rfl⟩
theorem mlk_P_23 : (Cond.methodLink R_P 23 y_P_textLength : Cond) ∈ lw_gd := List.mem_filter.mpr ⟨List.mem_append_right _ (List.mem_of_getElem? (i := 365) (by decide +kernel)), rfl⟩
theorem sta_P_textLength : (Cond.static y_P_textLength : Cond) ∈ lw_gd := List.mem_filter.mpr ⟨List.mem_append_right _ (List.mem_of_getElem? (i := 366) (by decide +kernel)), rfl⟩
theorem mlk_P_30 : (Cond.methodLink R_P 30 y_I_bitCount : Cond) ∈ lw_gd := List.mem_filter.mpr ⟨List.mem_append_right _ (List.mem_of_getElem? (i := 368) (by decide +kernel)), rfl⟩
theorem mlk_P_26 : (Cond.methodLink R_P 26 y_P_letterOf : Cond) ∈ lw_gd := List.mem_filter.mpr ⟨List.mem_append_right _ (List.mem_of_getElem? (i := 369) (by decide +kernel)), rfl⟩
theorem sta_P_letterOf : (Cond.static y_P_letterOf : Cond) ∈ lw_gd := List.mem_filter.mpr ⟨List.mem_append_right _ (List.mem_of_getElem? (i := 370) (by decide +kernel)), rfl⟩
theorem str_P_35 : (Cond.stringRef R_P 35 "t(X,Y):-" : Cond) ∈ lw_tbl := List.mem_append_right _ (List.mem_of_getElem? (i := 372) (by decide +kernel))
theorem mlk_P_37 : (Cond.methodLink R_P 37 y_S_charAt : Cond) ∈ lw_gd := List.mem_filter.mpr ⟨List.mem_append_right _ (List.mem_of_getElem? (i := 373) (by decide +kernel)), rfl⟩
theorem mln_P_43 : (Cond.methodLinkNest R_P 43 y_H_codeAt R_H : Cond) ∈ lw_tbl := List.mem_append_right _ (List.mem_of_getElem? (i := 374) (by decide +kernel))
theorem str_P_46 : (Cond.stringRef R_P 46 "abt" : Cond) ∈ lw_tbl := List.mem_append_right _ (List.mem_of_getElem? (i := 375) (by decide +kernel))
theorem mln_P_48 : (Cond.methodLinkNest R_P 48 y_H_relationOf R_H : Cond) ∈ lw_tbl := List.mem_append_right _ (List.mem_of_getElem? (i := 376) (by decide +kernel))
theorem sta_H_relationOf : (Cond.static y_H_relationOf : Cond) ∈ lw_gd := List.mem_filter.mpr ⟨List.mem_append_right _ (List.mem_of_getElem? (i := 377) (by decide +kernel)), rfl⟩
theorem str_P_51 : (Cond.stringRef R_P 51 "XYZ" : Cond) ∈ lw_tbl := List.mem_append_right _ (List.mem_of_getElem? (i := 379) (by decide +kernel))
theorem mln_P_53 : (Cond.methodLinkNest R_P 53 y_H_firstVariableOf R_H : Cond) ∈ lw_tbl := List.mem_append_right _ (List.mem_of_getElem? (i := 380) (by decide +kernel))
theorem sta_H_firstVariableOf : (Cond.static y_H_firstVariableOf : Cond) ∈ lw_gd := List.mem_filter.mpr ⟨List.mem_append_right _ (List.mem_of_getElem? (i := 381) (by decide +kernel)), rfl⟩
theorem mln_P_56 : (Cond.methodLinkNest R_P 56 y_H_secondVariableOf R_H : Cond) ∈ lw_tbl := List.mem_append_right _ (List.mem_of_getElem? (i := 383) (by decide +kernel))
theorem sta_H_secondVariableOf : (Cond.static y_H_secondVariableOf : Cond) ∈ lw_gd := List.mem_filter.mpr ⟨List.mem_append_right _ (List.mem_of_getElem? (i := 384) (by decide +kernel)), rfl⟩
theorem mlk_W_64 : (Cond.methodLink "HornLearnerLaw" 64 y_H_subsumes : Cond) ∈ lw_gd := List.mem_filter.mpr ⟨List.mem_append_right _ (List.mem_of_getElem? (i := 386) (by decide +kernel)), rfl⟩
theorem ins_H_subsumes : (Cond.instanceMethod y_H_subsumes : Cond) ∈ lw_gd := List.mem_filter.mpr ⟨List.mem_append_right _ (List.mem_of_getElem? (i := 387) (by decide +kernel)), rfl⟩
theorem sel_H_subsumes : (Cond.selects R_H y_H_subsumes y_H_subsumes : Cond) ∈ lw_gd := List.mem_filter.mpr ⟨List.mem_append_right _ (List.mem_of_getElem? (i := 388) (by decide +kernel)), rfl⟩
theorem mlk_H_91 : (Cond.methodLink R_H 91 y_H_withVariableForZ : Cond) ∈ lw_gd := List.mem_filter.mpr ⟨List.mem_append_right _ (List.mem_of_getElem? (i := 390) (by decide +kernel)), rfl⟩
theorem sta_H_withVariableForZ : (Cond.static y_H_withVariableForZ : Cond) ∈ lw_gd := List.mem_filter.mpr ⟨List.mem_append_right _ (List.mem_of_getElem? (i := 391) (by decide +kernel)), rfl⟩
theorem mlk_H_177 : (Cond.methodLink R_H 177 y_H_firstVariableOf : Cond) ∈ lw_gd := List.mem_filter.mpr ⟨List.mem_append_right _ (List.mem_of_getElem? (i := 393) (by decide +kernel)), rfl⟩
theorem mlk_H_180 : (Cond.methodLink R_H 180 y_H_secondVariableOf : Cond) ∈ lw_gd := List.mem_filter.mpr ⟨List.mem_append_right _ (List.mem_of_getElem? (i := 394) (by decide +kernel)), rfl⟩
theorem mlk_H_183 : (Cond.methodLink R_H 183 y_H_relationOf : Cond) ∈ lw_gd := List.mem_filter.mpr ⟨List.mem_append_right _ (List.mem_of_getElem? (i := 395) (by decide +kernel)), rfl⟩
theorem mlk_H_186 : (Cond.methodLink R_H 186 y_H_codeOf : Cond) ∈ lw_gd := List.mem_filter.mpr ⟨List.mem_append_right _ (List.mem_of_getElem? (i := 396) (by decide +kernel)), rfl⟩
theorem mlk_W_69 : (Cond.methodLink "HornLearnerLaw" 69 y_H_given : Cond) ∈ lw_gd := List.mem_filter.mpr ⟨List.mem_append_right _ (List.mem_of_getElem? (i := 397) (by decide +kernel)), rfl⟩
theorem ins_H_given : (Cond.instanceMethod y_H_given : Cond) ∈ lw_gd := List.mem_filter.mpr ⟨List.mem_append_right _ (List.mem_of_getElem? (i := 398) (by decide +kernel)), rfl⟩
theorem sel_H_given : (Cond.selects R_H y_H_given y_H_given : Cond) ∈ lw_gd := List.mem_filter.mpr ⟨List.mem_append_right _ (List.mem_of_getElem? (i := 399) (by decide +kernel)), rfl⟩
theorem mlk_H_94 : (Cond.methodLink R_H 94 y_H_deduceProgram : Cond) ∈ lw_gd := List.mem_filter.mpr ⟨List.mem_append_right _ (List.mem_of_getElem? (i := 401) (by decide +kernel)), rfl⟩
theorem ins_H_deduceProgram : (Cond.instanceMethod y_H_deduceProgram : Cond) ∈ lw_gd := List.mem_filter.mpr ⟨List.mem_append_right _ (List.mem_of_getElem? (i := 403) (by decide +kernel)), rfl⟩
theorem mlk_H_106 : (Cond.methodLink R_H 106 y_D_takeFacts : Cond) ∈ lw_gd := List.mem_filter.mpr ⟨List.mem_append_right _ (List.mem_of_getElem? (i := 405) (by decide +kernel)), rfl⟩
theorem ins_D_takeFacts : (Cond.instanceMethod y_D_takeFacts : Cond) ∈ lw_gd := List.mem_filter.mpr ⟨List.mem_append_right _ (List.mem_of_getElem? (i := 406) (by decide +kernel)), rfl⟩
theorem sel_D_takeFacts : (Cond.selects R_D y_D_takeFacts y_D_takeFacts : Cond) ∈ lw_gd := List.mem_filter.mpr ⟨List.mem_append_right _ (List.mem_of_getElem? (i := 407) (by decide +kernel)), rfl⟩
theorem mln_D_26 : (Cond.methodLinkNest R_D 26 y_H_relationOf R_H : Cond) ∈ lw_tbl := List.mem_append_right _ (List.mem_of_getElem? (i := 409) (by decide +kernel))
theorem mln_D_30 : (Cond.methodLinkNest R_D 30 y_H_firstVariableOf R_H : Cond) ∈ lw_tbl := List.mem_append_right _ (List.mem_of_getElem? (i := 410) (by decide +kernel))
theorem mln_D_33 : (Cond.methodLinkNest R_D 33 y_H_secondVariableOf R_H : Cond) ∈ lw_tbl := List.mem_append_right _ (List.mem_of_getElem? (i := 411) (by decide +kernel))
theorem mlk_D_36 : (Cond.methodLink R_D 36 y_D_choicesWhere : Cond) ∈ lw_gd := List.mem_filter.mpr ⟨List.mem_append_right _ (List.mem_of_getElem? (i := 412) (by decide +kernel)), rfl⟩
theorem sta_D_choicesWhere : (Cond.static y_D_choicesWhere : Cond) ∈ lw_gd := List.mem_filter.mpr ⟨List.mem_append_right _ (List.mem_of_getElem? (i := 413) (by decide +kernel)), rfl⟩
theorem flk_D_52 : (Cond.fieldLink R_D 52 "HornLearner$Deduction" "CHOICES_WITH" "[J" : Cond) ∈ lw_gd := List.mem_filter.mpr ⟨List.mem_append_right _ (List.mem_of_getElem? (i := 415) (by decide +kernel)), rfl⟩
theorem lst_416 : (Cond.laysStatic "HornLearner$Deduction" "CHOICES_WITH" "[J" : Cond) ∈ lw_tbl := List.mem_append_right _ (List.mem_of_getElem? (i := 416) (by decide +kernel))
theorem mlk_H_156 : (Cond.methodLink R_H 156 y_D_run : Cond) ∈ lw_gd := List.mem_filter.mpr ⟨List.mem_append_right _ (List.mem_of_getElem? (i := 417) (by decide +kernel)), rfl⟩
theorem ins_D_run : (Cond.instanceMethod y_D_run : Cond) ∈ lw_gd := List.mem_filter.mpr ⟨List.mem_append_right _ (List.mem_of_getElem? (i := 418) (by decide +kernel)), rfl⟩
theorem sel_D_run : (Cond.selects R_D y_D_run y_D_run : Cond) ∈ lw_gd := List.mem_filter.mpr ⟨List.mem_append_right _ (List.mem_of_getElem? (i := 419) (by decide +kernel)), rfl⟩
theorem mlk_D_40 : (Cond.methodLink R_D 40 y_D_pairsFrom : Cond) ∈ lw_gd := List.mem_filter.mpr ⟨List.mem_append_right _ (List.mem_of_getElem? (i := 421) (by decide +kernel)), rfl⟩
theorem ins_D_pairsFrom : (Cond.instanceMethod y_D_pairsFrom : Cond) ∈ lw_gd := List.mem_filter.mpr ⟨List.mem_append_right _ (List.mem_of_getElem? (i := 423) (by decide +kernel)), rfl⟩
theorem col_D_43 : (Cond.constantLong R_D 43 (-1) : Cond) ∈ lw_gd := List.mem_filter.mpr ⟨List.mem_append_right _ (List.mem_of_getElem? (i := 425) (by decide +kernel)), rfl⟩
theorem mln_D_45 : (Cond.methodLinkNest R_D 45 y_H_leastCode R_H : Cond) ∈ lw_tbl := List.mem_append_right _ (List.mem_of_getElem? (i := 426) (by decide +kernel))
theorem mln_D_48 : (Cond.methodLinkNest R_D 48 y_H_withoutLeastCode R_H : Cond) ∈ lw_tbl := List.mem_append_right _ (List.mem_of_getElem? (i := 427) (by decide +kernel))
theorem con_D_51 : (Cond.constant R_D 51 (65535) : Cond) ∈ lw_gd := List.mem_filter.mpr ⟨List.mem_append_right _ (List.mem_of_getElem? (i := 428) (by decide +kernel)), rfl⟩
theorem mlk_H_97 : (Cond.methodLink R_H 97 y_D_roundOf : Cond) ∈ lw_gd := List.mem_filter.mpr ⟨List.mem_append_right _ (List.mem_of_getElem? (i := 429) (by decide +kernel)), rfl⟩
theorem ins_D_roundOf : (Cond.instanceMethod y_D_roundOf : Cond) ∈ lw_gd := List.mem_filter.mpr ⟨List.mem_append_right _ (List.mem_of_getElem? (i := 430) (by decide +kernel)), rfl⟩
theorem sel_D_roundOf : (Cond.selects R_D y_D_roundOf y_D_roundOf : Cond) ∈ lw_gd := List.mem_filter.mpr ⟨List.mem_append_right _ (List.mem_of_getElem? (i := 431) (by decide +kernel)), rfl⟩
theorem mlk_W_73 : (Cond.methodLink "HornLearnerLaw" 73 y_H_rounds : Cond) ∈ lw_gd := List.mem_filter.mpr ⟨List.mem_append_right _ (List.mem_of_getElem? (i := 433) (by decide +kernel)), rfl⟩
theorem ins_H_rounds : (Cond.instanceMethod y_H_rounds : Cond) ∈ lw_gd := List.mem_filter.mpr ⟨List.mem_append_right _ (List.mem_of_getElem? (i := 434) (by decide +kernel)), rfl⟩
theorem sel_H_rounds : (Cond.selects R_H y_H_rounds y_H_rounds : Cond) ∈ lw_gd := List.mem_filter.mpr ⟨List.mem_append_right _ (List.mem_of_getElem? (i := 435) (by decide +kernel)), rfl⟩
theorem mlk_W_77 : (Cond.methodLink "HornLearnerLaw" 77 y_H_fits : Cond) ∈ lw_gd := List.mem_filter.mpr ⟨List.mem_append_right _ (List.mem_of_getElem? (i := 437) (by decide +kernel)), rfl⟩
theorem ins_H_fits : (Cond.instanceMethod y_H_fits : Cond) ∈ lw_gd := List.mem_filter.mpr ⟨List.mem_append_right _ (List.mem_of_getElem? (i := 438) (by decide +kernel)), rfl⟩
theorem sel_H_fits : (Cond.selects R_H y_H_fits y_H_fits : Cond) ∈ lw_gd := List.mem_filter.mpr ⟨List.mem_append_right _ (List.mem_of_getElem? (i := 439) (by decide +kernel)), rfl⟩
theorem mlk_H_103 : (Cond.methodLink R_H 103 y_H_deductionFits : Cond) ∈ lw_gd := List.mem_filter.mpr ⟨List.mem_append_right _ (List.mem_of_getElem? (i := 441) (by decide +kernel)), rfl⟩
theorem ins_H_deductionFits : (Cond.instanceMethod y_H_deductionFits : Cond) ∈ lw_gd := List.mem_filter.mpr ⟨List.mem_append_right _ (List.mem_of_getElem? (i := 443) (by decide +kernel)), rfl⟩
theorem mlk_W_81 : (Cond.methodLink "HornLearnerLaw" 81 y_H_learn : Cond) ∈ lw_gd := List.mem_filter.mpr ⟨List.mem_append_right _ (List.mem_of_getElem? (i := 445) (by decide +kernel)), rfl⟩
theorem ins_H_learn : (Cond.instanceMethod y_H_learn : Cond) ∈ lw_gd := List.mem_filter.mpr ⟨List.mem_append_right _ (List.mem_of_getElem? (i := 446) (by decide +kernel)), rfl⟩
theorem sel_H_learn : (Cond.selects R_H y_H_learn y_H_learn : Cond) ∈ lw_gd := List.mem_filter.mpr ⟨List.mem_append_right _ (List.mem_of_getElem? (i := 447) (by decide +kernel)), rfl⟩
theorem mlk_H_110 : (Cond.methodLink R_H 110 y_H_learnBody : Cond) ∈ lw_gd := List.mem_filter.mpr ⟨List.mem_append_right _ (List.mem_of_getElem? (i := 449) (by decide +kernel)), rfl⟩
theorem sta_H_learnBody : (Cond.static y_H_learnBody : Cond) ∈ lw_gd := List.mem_filter.mpr ⟨List.mem_append_right _ (List.mem_of_getElem? (i := 450) (by decide +kernel)), rfl⟩
theorem mlk_H_162 : (Cond.methodLink R_H 162 y_H_takeIfFitting : Cond) ∈ lw_gd := List.mem_filter.mpr ⟨List.mem_append_right _ (List.mem_of_getElem? (i := 452) (by decide +kernel)), rfl⟩
theorem ins_H_takeIfFitting : (Cond.instanceMethod y_H_takeIfFitting : Cond) ∈ lw_gd := List.mem_filter.mpr ⟨List.mem_append_right _ (List.mem_of_getElem? (i := 454) (by decide +kernel)), rfl⟩
theorem mlk_H_166 : (Cond.methodLink R_H 166 y_P_become : Cond) ∈ lw_gd := List.mem_filter.mpr ⟨List.mem_append_right _ (List.mem_of_getElem? (i := 456) (by decide +kernel)), rfl⟩
theorem ins_P_become : (Cond.instanceMethod y_P_become : Cond) ∈ lw_gd := List.mem_filter.mpr ⟨List.mem_append_right _ (List.mem_of_getElem? (i := 457) (by decide +kernel)), rfl⟩
theorem sel_P_become : (Cond.selects R_P y_P_become y_P_become : Cond) ∈ lw_gd := List.mem_filter.mpr ⟨List.mem_append_right _ (List.mem_of_getElem? (i := 458) (by decide +kernel)), rfl⟩
theorem mlk_H_114 : (Cond.methodLink R_H 114 y_H_learnTwoClauses : Cond) ∈ lw_gd := List.mem_filter.mpr ⟨List.mem_append_right _ (List.mem_of_getElem? (i := 460) (by decide +kernel)), rfl⟩
theorem ins_H_learnTwoClauses : (Cond.instanceMethod y_H_learnTwoClauses : Cond) ∈ lw_gd := List.mem_filter.mpr ⟨List.mem_append_right _ (List.mem_of_getElem? (i := 462) (by decide +kernel)), rfl⟩
theorem clk_W_10 : (Cond.classLink "HornLearnerLaw" 10 R_M : Cond) ∈ lw_gd := List.mem_filter.mpr ⟨List.mem_append_right _ (List.mem_of_getElem? (i := 464) (by decide +kernel)), rfl⟩
theorem itb_M : (Cond.instantiable R_M 15 : Cond) ∈ lw_gd := List.mem_filter.mpr ⟨List.mem_append_right _ (List.mem_of_getElem? (i := 465) (by decide +kernel)), rfl⟩
theorem mlk_W_12 : (Cond.methodLink "HornLearnerLaw" 12 y_M_init : Cond) ∈ lw_gd := List.mem_filter.mpr ⟨List.mem_append_right _ (List.mem_of_getElem? (i := 466) (by decide +kernel)), rfl⟩
theorem ins_M_init : (Cond.instanceMethod y_M_init : Cond) ∈ lw_gd := List.mem_filter.mpr ⟨List.mem_append_right _ (List.mem_of_getElem? (i := 467) (by decide +kernel)), rfl⟩
theorem mlk_M_1 : (Cond.methodLink R_M 1 objectInit : Cond) ∈ lw_gd := List.mem_filter.mpr ⟨List.mem_append_right _ (List.mem_of_getElem? (i := 469) (by decide +kernel)), rfl⟩
theorem flk_M_7 : (Cond.fieldLink R_M 7 "HornLearnerModel" "line" "[I" : Cond) ∈ lw_gd := List.mem_filter.mpr ⟨List.mem_append_right _ (List.mem_of_getElem? (i := 470) (by decide +kernel)), rfl⟩
theorem flk_M_41 : (Cond.fieldLink R_M 41 "HornLearnerModel" "typed" "I" : Cond) ∈ lw_gd := List.mem_filter.mpr ⟨List.mem_append_right _ (List.mem_of_getElem? (i := 471) (by decide +kernel)), rfl⟩
theorem flk_M_13 : (Cond.fieldLink R_M 13 "HornLearnerModel" "fact" "[Z" : Cond) ∈ lw_gd := List.mem_filter.mpr ⟨List.mem_append_right _ (List.mem_of_getElem? (i := 472) (by decide +kernel)), rfl⟩
theorem flk_M_17 : (Cond.fieldLink R_M 17 "HornLearnerModel" "marked" "[I" : Cond) ∈ lw_gd := List.mem_filter.mpr ⟨List.mem_append_right _ (List.mem_of_getElem? (i := 473) (by decide +kernel)), rfl⟩
theorem flk_M_85 : (Cond.fieldLink R_M 85 "HornLearnerModel" "count" "I" : Cond) ∈ lw_gd := List.mem_filter.mpr ⟨List.mem_append_right _ (List.mem_of_getElem? (i := 474) (by decide +kernel)), rfl⟩
theorem flk_M_20 : (Cond.fieldLink R_M 20 "HornLearnerModel" "many" "[I" : Cond) ∈ lw_gd := List.mem_filter.mpr ⟨List.mem_append_right _ (List.mem_of_getElem? (i := 475) (by decide +kernel)), rfl⟩
theorem flk_M_23 : (Cond.fieldLink R_M 23 "HornLearnerModel" "codes" "[I" : Cond) ∈ lw_gd := List.mem_filter.mpr ⟨List.mem_append_right _ (List.mem_of_getElem? (i := 476) (by decide +kernel)), rfl⟩
theorem flk_M_135 : (Cond.fieldLink R_M 135 "HornLearnerModel" "oldCount" "I" : Cond) ∈ lw_gd := List.mem_filter.mpr ⟨List.mem_append_right _ (List.mem_of_getElem? (i := 477) (by decide +kernel)), rfl⟩
theorem flk_M_26 : (Cond.fieldLink R_M 26 "HornLearnerModel" "oldMany" "[I" : Cond) ∈ lw_gd := List.mem_filter.mpr ⟨List.mem_append_right _ (List.mem_of_getElem? (i := 478) (by decide +kernel)), rfl⟩
theorem flk_M_29 : (Cond.fieldLink R_M 29 "HornLearnerModel" "oldCodes" "[I" : Cond) ∈ lw_gd := List.mem_filter.mpr ⟨List.mem_append_right _ (List.mem_of_getElem? (i := 479) (by decide +kernel)), rfl⟩
theorem flk_M_73 : (Cond.fieldLink R_M 73 "HornLearnerModel" "read" "I" : Cond) ∈ lw_gd := List.mem_filter.mpr ⟨List.mem_append_right _ (List.mem_of_getElem? (i := 480) (by decide +kernel)), rfl⟩
theorem flk_M_32 : (Cond.fieldLink R_M 32 "HornLearnerModel" "body" "[I" : Cond) ∈ lw_gd := List.mem_filter.mpr ⟨List.mem_append_right _ (List.mem_of_getElem? (i := 481) (by decide +kernel)), rfl⟩
theorem flk_M_35 : (Cond.fieldLink R_M 35 "HornLearnerModel" "roundOf" "[I" : Cond) ∈ lw_gd := List.mem_filter.mpr ⟨List.mem_append_right _ (List.mem_of_getElem? (i := 482) (by decide +kernel)), rfl⟩
theorem flk_M_38 : (Cond.fieldLink R_M 38 "HornLearnerModel" "fresh" "[Z" : Cond) ∈ lw_gd := List.mem_filter.mpr ⟨List.mem_append_right _ (List.mem_of_getElem? (i := 483) (by decide +kernel)), rfl⟩
theorem flk_M_126 : (Cond.fieldLink R_M 126 "HornLearnerModel" "last" "I" : Cond) ∈ lw_gd := List.mem_filter.mpr ⟨List.mem_append_right _ (List.mem_of_getElem? (i := 484) (by decide +kernel)), rfl⟩
theorem arc_boolean : (Cond.arrayClass .boolean : Cond) ∈ lw_gd := List.mem_filter.mpr ⟨List.mem_append_right _ (List.mem_of_getElem? (i := 516) (by decide +kernel)), rfl⟩
theorem mlk_W_17 : (Cond.methodLink "HornLearnerLaw" 17 y_M_key : Cond) ∈ lw_gd := List.mem_filter.mpr ⟨List.mem_append_right _ (List.mem_of_getElem? (i := 517) (by decide +kernel)), rfl⟩
theorem ins_M_key : (Cond.instanceMethod y_M_key : Cond) ∈ lw_gd := List.mem_filter.mpr ⟨List.mem_append_right _ (List.mem_of_getElem? (i := 518) (by decide +kernel)), rfl⟩
theorem sel_M_key : (Cond.selects R_M y_M_key y_M_key : Cond) ∈ lw_gd := List.mem_filter.mpr ⟨List.mem_append_right _ (List.mem_of_getElem? (i := 519) (by decide +kernel)), rfl⟩
theorem mlk_W_22 : (Cond.methodLink "HornLearnerLaw" 22 y_M_back : Cond) ∈ lw_gd := List.mem_filter.mpr ⟨List.mem_append_right _ (List.mem_of_getElem? (i := 521) (by decide +kernel)), rfl⟩
theorem ins_M_back : (Cond.instanceMethod y_M_back : Cond) ∈ lw_gd := List.mem_filter.mpr ⟨List.mem_append_right _ (List.mem_of_getElem? (i := 522) (by decide +kernel)), rfl⟩
theorem sel_M_back : (Cond.selects R_M y_M_back y_M_back : Cond) ∈ lw_gd := List.mem_filter.mpr ⟨List.mem_append_right _ (List.mem_of_getElem? (i := 523) (by decide +kernel)), rfl⟩
theorem mlk_W_27 : (Cond.methodLink "HornLearnerLaw" 27 y_M_enter : Cond) ∈ lw_gd := List.mem_filter.mpr ⟨List.mem_append_right _ (List.mem_of_getElem? (i := 525) (by decide +kernel)), rfl⟩
theorem ins_M_enter : (Cond.instanceMethod y_M_enter : Cond) ∈ lw_gd := List.mem_filter.mpr ⟨List.mem_append_right _ (List.mem_of_getElem? (i := 526) (by decide +kernel)), rfl⟩
theorem sel_M_enter : (Cond.selects R_M y_M_enter y_M_enter : Cond) ∈ lw_gd := List.mem_filter.mpr ⟨List.mem_append_right _ (List.mem_of_getElem? (i := 527) (by decide +kernel)), rfl⟩
theorem mlk_M_91 : (Cond.methodLink R_M 91 y_M_fault : Cond) ∈ lw_gd := List.mem_filter.mpr ⟨List.mem_append_right _ (List.mem_of_getElem? (i := 529) (by decide +kernel)), rfl⟩
theorem ins_M_fault : (Cond.instanceMethod y_M_fault : Cond) ∈ lw_gd := List.mem_filter.mpr ⟨List.mem_append_right _ (List.mem_of_getElem? (i := 531) (by decide +kernel)), rfl⟩
theorem mlk_M_66 : (Cond.methodLink R_M 66 y_M_goesOn : Cond) ∈ lw_gd := List.mem_filter.mpr ⟨List.mem_append_right _ (List.mem_of_getElem? (i := 533) (by decide +kernel)), rfl⟩
theorem ins_M_goesOn : (Cond.instanceMethod y_M_goesOn : Cond) ∈ lw_gd := List.mem_filter.mpr ⟨List.mem_append_right _ (List.mem_of_getElem? (i := 535) (by decide +kernel)), rfl⟩
theorem mlk_M_49 : (Cond.methodLink R_M 49 y_M_isRelation : Cond) ∈ lw_gd := List.mem_filter.mpr ⟨List.mem_append_right _ (List.mem_of_getElem? (i := 537) (by decide +kernel)), rfl⟩
theorem sta_M_isRelation : (Cond.static y_M_isRelation : Cond) ∈ lw_gd := List.mem_filter.mpr ⟨List.mem_append_right _ (List.mem_of_getElem? (i := 538) (by decide +kernel)), rfl⟩
theorem mlk_M_55 : (Cond.methodLink R_M 55 y_M_head : Cond) ∈ lw_gd := List.mem_filter.mpr ⟨List.mem_append_right _ (List.mem_of_getElem? (i := 540) (by decide +kernel)), rfl⟩
theorem sta_M_head : (Cond.static y_M_head : Cond) ∈ lw_gd := List.mem_filter.mpr ⟨List.mem_append_right _ (List.mem_of_getElem? (i := 541) (by decide +kernel)), rfl⟩
theorem mlk_M_59 : (Cond.methodLink R_M 59 y_M_inBody : Cond) ∈ lw_gd := List.mem_filter.mpr ⟨List.mem_append_right _ (List.mem_of_getElem? (i := 543) (by decide +kernel)), rfl⟩
theorem sta_M_inBody : (Cond.static y_M_inBody : Cond) ∈ lw_gd := List.mem_filter.mpr ⟨List.mem_append_right _ (List.mem_of_getElem? (i := 544) (by decide +kernel)), rfl⟩
theorem mlk_M_52 : (Cond.methodLink R_M 52 y_M_isVariable : Cond) ∈ lw_gd := List.mem_filter.mpr ⟨List.mem_append_right _ (List.mem_of_getElem? (i := 546) (by decide +kernel)), rfl⟩
theorem sta_M_isVariable : (Cond.static y_M_isVariable : Cond) ∈ lw_gd := List.mem_filter.mpr ⟨List.mem_append_right _ (List.mem_of_getElem? (i := 547) (by decide +kernel)), rfl⟩
theorem mlk_M_63 : (Cond.methodLink R_M 63 y_M_argument : Cond) ∈ lw_gd := List.mem_filter.mpr ⟨List.mem_append_right _ (List.mem_of_getElem? (i := 549) (by decide +kernel)), rfl⟩
theorem sta_M_argument : (Cond.static y_M_argument : Cond) ∈ lw_gd := List.mem_filter.mpr ⟨List.mem_append_right _ (List.mem_of_getElem? (i := 550) (by decide +kernel)), rfl⟩
theorem mlk_M_45 : (Cond.methodLink R_M 45 y_M_isConstant : Cond) ∈ lw_gd := List.mem_filter.mpr ⟨List.mem_append_right _ (List.mem_of_getElem? (i := 552) (by decide +kernel)), rfl⟩
theorem sta_M_isConstant : (Cond.static y_M_isConstant : Cond) ∈ lw_gd := List.mem_filter.mpr ⟨List.mem_append_right _ (List.mem_of_getElem? (i := 553) (by decide +kernel)), rfl⟩
theorem mlk_M_69 : (Cond.methodLink R_M 69 y_M_whole : Cond) ∈ lw_gd := List.mem_filter.mpr ⟨List.mem_append_right _ (List.mem_of_getElem? (i := 555) (by decide +kernel)), rfl⟩
theorem ins_M_whole : (Cond.instanceMethod y_M_whole : Cond) ∈ lw_gd := List.mem_filter.mpr ⟨List.mem_append_right _ (List.mem_of_getElem? (i := 557) (by decide +kernel)), rfl⟩
theorem mlk_M_95 : (Cond.methodLink R_M 95 y_M_enterClause : Cond) ∈ lw_gd := List.mem_filter.mpr ⟨List.mem_append_right _ (List.mem_of_getElem? (i := 559) (by decide +kernel)), rfl⟩
theorem ins_M_enterClause : (Cond.instanceMethod y_M_enterClause : Cond) ∈ lw_gd := List.mem_filter.mpr ⟨List.mem_append_right _ (List.mem_of_getElem? (i := 561) (by decide +kernel)), rfl⟩
theorem mlk_M_79 : (Cond.methodLink R_M 79 y_M_readBody : Cond) ∈ lw_gd := List.mem_filter.mpr ⟨List.mem_append_right _ (List.mem_of_getElem? (i := 563) (by decide +kernel)), rfl⟩
theorem ins_M_readBody : (Cond.instanceMethod y_M_readBody : Cond) ∈ lw_gd := List.mem_filter.mpr ⟨List.mem_append_right _ (List.mem_of_getElem? (i := 565) (by decide +kernel)), rfl⟩
theorem mlk_M_76 : (Cond.methodLink R_M 76 y_M_relationOf : Cond) ∈ lw_gd := List.mem_filter.mpr ⟨List.mem_append_right _ (List.mem_of_getElem? (i := 567) (by decide +kernel)), rfl⟩
theorem sta_M_relationOf : (Cond.static y_M_relationOf : Cond) ∈ lw_gd := List.mem_filter.mpr ⟨List.mem_append_right _ (List.mem_of_getElem? (i := 568) (by decide +kernel)), rfl⟩
theorem mlk_M_82 : (Cond.methodLink R_M 82 y_M_variables : Cond) ∈ lw_gd := List.mem_filter.mpr ⟨List.mem_append_right _ (List.mem_of_getElem? (i := 570) (by decide +kernel)), rfl⟩
theorem sta_M_variables : (Cond.static y_M_variables : Cond) ∈ lw_gd := List.mem_filter.mpr ⟨List.mem_append_right _ (List.mem_of_getElem? (i := 571) (by decide +kernel)), rfl⟩
theorem mlk_M_88 : (Cond.methodLink R_M 88 y_M_known : Cond) ∈ lw_gd := List.mem_filter.mpr ⟨List.mem_append_right _ (List.mem_of_getElem? (i := 573) (by decide +kernel)), rfl⟩
theorem ins_M_known : (Cond.instanceMethod y_M_known : Cond) ∈ lw_gd := List.mem_filter.mpr ⟨List.mem_append_right _ (List.mem_of_getElem? (i := 575) (by decide +kernel)), rfl⟩
theorem mlk_M_98 : (Cond.methodLink R_M 98 y_M_enterMark : Cond) ∈ lw_gd := List.mem_filter.mpr ⟨List.mem_append_right _ (List.mem_of_getElem? (i := 577) (by decide +kernel)), rfl⟩
theorem ins_M_enterMark : (Cond.instanceMethod y_M_enterMark : Cond) ∈ lw_gd := List.mem_filter.mpr ⟨List.mem_append_right _ (List.mem_of_getElem? (i := 579) (by decide +kernel)), rfl⟩
theorem mlk_M_102 : (Cond.methodLink R_M 102 y_M_enterFact : Cond) ∈ lw_gd := List.mem_filter.mpr ⟨List.mem_append_right _ (List.mem_of_getElem? (i := 581) (by decide +kernel)), rfl⟩
theorem ins_M_enterFact : (Cond.instanceMethod y_M_enterFact : Cond) ∈ lw_gd := List.mem_filter.mpr ⟨List.mem_append_right _ (List.mem_of_getElem? (i := 583) (by decide +kernel)), rfl⟩
theorem mlk_W_32 : (Cond.methodLink "HornLearnerLaw" 32 y_M_facts : Cond) ∈ lw_gd := List.mem_filter.mpr ⟨List.mem_append_right _ (List.mem_of_getElem? (i := 585) (by decide +kernel)), rfl⟩
theorem ins_M_facts : (Cond.instanceMethod y_M_facts : Cond) ∈ lw_gd := List.mem_filter.mpr ⟨List.mem_append_right _ (List.mem_of_getElem? (i := 586) (by decide +kernel)), rfl⟩
theorem sel_M_facts : (Cond.selects R_M y_M_facts y_M_facts : Cond) ∈ lw_gd := List.mem_filter.mpr ⟨List.mem_append_right _ (List.mem_of_getElem? (i := 587) (by decide +kernel)), rfl⟩
theorem mlk_W_37 : (Cond.methodLink "HornLearnerLaw" 37 y_M_holds : Cond) ∈ lw_gd := List.mem_filter.mpr ⟨List.mem_append_right _ (List.mem_of_getElem? (i := 589) (by decide +kernel)), rfl⟩
theorem ins_M_holds : (Cond.instanceMethod y_M_holds : Cond) ∈ lw_gd := List.mem_filter.mpr ⟨List.mem_append_right _ (List.mem_of_getElem? (i := 590) (by decide +kernel)), rfl⟩
theorem sel_M_holds : (Cond.selects R_M y_M_holds y_M_holds : Cond) ∈ lw_gd := List.mem_filter.mpr ⟨List.mem_append_right _ (List.mem_of_getElem? (i := 591) (by decide +kernel)), rfl⟩
theorem mlk_M_106 : (Cond.methodLink R_M 106 y_M_constant : Cond) ∈ lw_gd := List.mem_filter.mpr ⟨List.mem_append_right _ (List.mem_of_getElem? (i := 593) (by decide +kernel)), rfl⟩
theorem sta_M_constant : (Cond.static y_M_constant : Cond) ∈ lw_gd := List.mem_filter.mpr ⟨List.mem_append_right _ (List.mem_of_getElem? (i := 594) (by decide +kernel)), rfl⟩
theorem mlk_W_42 : (Cond.methodLink "HornLearnerLaw" 42 y_M_mark : Cond) ∈ lw_gd := List.mem_filter.mpr ⟨List.mem_append_right _ (List.mem_of_getElem? (i := 596) (by decide +kernel)), rfl⟩
theorem ins_M_mark : (Cond.instanceMethod y_M_mark : Cond) ∈ lw_gd := List.mem_filter.mpr ⟨List.mem_append_right _ (List.mem_of_getElem? (i := 597) (by decide +kernel)), rfl⟩
theorem sel_M_mark : (Cond.selects R_M y_M_mark y_M_mark : Cond) ∈ lw_gd := List.mem_filter.mpr ⟨List.mem_append_right _ (List.mem_of_getElem? (i := 598) (by decide +kernel)), rfl⟩
theorem mlk_W_47 : (Cond.methodLink "HornLearnerLaw" 47 y_M_drop : Cond) ∈ lw_gd := List.mem_filter.mpr ⟨List.mem_append_right _ (List.mem_of_getElem? (i := 600) (by decide +kernel)), rfl⟩
theorem ins_M_drop : (Cond.instanceMethod y_M_drop : Cond) ∈ lw_gd := List.mem_filter.mpr ⟨List.mem_append_right _ (List.mem_of_getElem? (i := 601) (by decide +kernel)), rfl⟩
theorem sel_M_drop : (Cond.selects R_M y_M_drop y_M_drop : Cond) ∈ lw_gd := List.mem_filter.mpr ⟨List.mem_append_right _ (List.mem_of_getElem? (i := 602) (by decide +kernel)), rfl⟩
theorem mlk_M_109 : (Cond.methodLink R_M 109 y_M_clause : Cond) ∈ lw_gd := List.mem_filter.mpr ⟨List.mem_append_right _ (List.mem_of_getElem? (i := 604) (by decide +kernel)), rfl⟩
theorem ins_M_clause : (Cond.instanceMethod y_M_clause : Cond) ∈ lw_gd := List.mem_filter.mpr ⟨List.mem_append_right _ (List.mem_of_getElem? (i := 606) (by decide +kernel)), rfl⟩
theorem mlk_W_51 : (Cond.methodLink "HornLearnerLaw" 51 y_M_clauses : Cond) ∈ lw_gd := List.mem_filter.mpr ⟨List.mem_append_right _ (List.mem_of_getElem? (i := 608) (by decide +kernel)), rfl⟩
theorem ins_M_clauses : (Cond.instanceMethod y_M_clauses : Cond) ∈ lw_gd := List.mem_filter.mpr ⟨List.mem_append_right _ (List.mem_of_getElem? (i := 609) (by decide +kernel)), rfl⟩
theorem sel_M_clauses : (Cond.selects R_M y_M_clauses y_M_clauses : Cond) ∈ lw_gd := List.mem_filter.mpr ⟨List.mem_append_right _ (List.mem_of_getElem? (i := 610) (by decide +kernel)), rfl⟩
theorem mlk_W_55 : (Cond.methodLink "HornLearnerLaw" 55 y_M_literals : Cond) ∈ lw_gd := List.mem_filter.mpr ⟨List.mem_append_right _ (List.mem_of_getElem? (i := 612) (by decide +kernel)), rfl⟩
theorem ins_M_literals : (Cond.instanceMethod y_M_literals : Cond) ∈ lw_gd := List.mem_filter.mpr ⟨List.mem_append_right _ (List.mem_of_getElem? (i := 613) (by decide +kernel)), rfl⟩
theorem sel_M_literals : (Cond.selects R_M y_M_literals y_M_literals : Cond) ∈ lw_gd := List.mem_filter.mpr ⟨List.mem_append_right _ (List.mem_of_getElem? (i := 614) (by decide +kernel)), rfl⟩
theorem mlk_W_59 : (Cond.methodLink "HornLearnerLaw" 59 y_M_literal : Cond) ∈ lw_gd := List.mem_filter.mpr ⟨List.mem_append_right _ (List.mem_of_getElem? (i := 616) (by decide +kernel)), rfl⟩
theorem ins_M_literal : (Cond.instanceMethod y_M_literal : Cond) ∈ lw_gd := List.mem_filter.mpr ⟨List.mem_append_right _ (List.mem_of_getElem? (i := 617) (by decide +kernel)), rfl⟩
theorem sel_M_literal : (Cond.selects R_M y_M_literal y_M_literal : Cond) ∈ lw_gd := List.mem_filter.mpr ⟨List.mem_append_right _ (List.mem_of_getElem? (i := 618) (by decide +kernel)), rfl⟩
theorem mlk_W_63 : (Cond.methodLink "HornLearnerLaw" 63 y_M_letter : Cond) ∈ lw_gd := List.mem_filter.mpr ⟨List.mem_append_right _ (List.mem_of_getElem? (i := 620) (by decide +kernel)), rfl⟩
theorem ins_M_letter : (Cond.instanceMethod y_M_letter : Cond) ∈ lw_gd := List.mem_filter.mpr ⟨List.mem_append_right _ (List.mem_of_getElem? (i := 621) (by decide +kernel)), rfl⟩
theorem sel_M_letter : (Cond.selects R_M y_M_letter y_M_letter : Cond) ∈ lw_gd := List.mem_filter.mpr ⟨List.mem_append_right _ (List.mem_of_getElem? (i := 622) (by decide +kernel)), rfl⟩
theorem mlk_M_112 : (Cond.methodLink R_M 112 y_M_letterOf : Cond) ∈ lw_gd := List.mem_filter.mpr ⟨List.mem_append_right _ (List.mem_of_getElem? (i := 624) (by decide +kernel)), rfl⟩
theorem sta_M_letterOf : (Cond.static y_M_letterOf : Cond) ∈ lw_gd := List.mem_filter.mpr ⟨List.mem_append_right _ (List.mem_of_getElem? (i := 625) (by decide +kernel)), rfl⟩
theorem mlk_W_68 : (Cond.methodLink "HornLearnerLaw" 68 y_M_subsumes : Cond) ∈ lw_gd := List.mem_filter.mpr ⟨List.mem_append_right _ (List.mem_of_getElem? (i := 627) (by decide +kernel)), rfl⟩
theorem ins_M_subsumes : (Cond.instanceMethod y_M_subsumes : Cond) ∈ lw_gd := List.mem_filter.mpr ⟨List.mem_append_right _ (List.mem_of_getElem? (i := 628) (by decide +kernel)), rfl⟩
theorem sel_M_subsumes : (Cond.selects R_M y_M_subsumes y_M_subsumes : Cond) ∈ lw_gd := List.mem_filter.mpr ⟨List.mem_append_right _ (List.mem_of_getElem? (i := 629) (by decide +kernel)), rfl⟩
theorem mlk_M_115 : (Cond.methodLink R_M 115 y_M_replaced : Cond) ∈ lw_gd := List.mem_filter.mpr ⟨List.mem_append_right _ (List.mem_of_getElem? (i := 631) (by decide +kernel)), rfl⟩
theorem sta_M_replaced : (Cond.static y_M_replaced : Cond) ∈ lw_gd := List.mem_filter.mpr ⟨List.mem_append_right _ (List.mem_of_getElem? (i := 632) (by decide +kernel)), rfl⟩
theorem mlk_W_72 : (Cond.methodLink "HornLearnerLaw" 72 y_M_given : Cond) ∈ lw_gd := List.mem_filter.mpr ⟨List.mem_append_right _ (List.mem_of_getElem? (i := 634) (by decide +kernel)), rfl⟩
theorem ins_M_given : (Cond.instanceMethod y_M_given : Cond) ∈ lw_gd := List.mem_filter.mpr ⟨List.mem_append_right _ (List.mem_of_getElem? (i := 635) (by decide +kernel)), rfl⟩
theorem sel_M_given : (Cond.selects R_M y_M_given y_M_given : Cond) ∈ lw_gd := List.mem_filter.mpr ⟨List.mem_append_right _ (List.mem_of_getElem? (i := 636) (by decide +kernel)), rfl⟩
theorem mlk_M_132 : (Cond.methodLink R_M 132 y_M_work : Cond) ∈ lw_gd := List.mem_filter.mpr ⟨List.mem_append_right _ (List.mem_of_getElem? (i := 638) (by decide +kernel)), rfl⟩
theorem ins_M_work : (Cond.instanceMethod y_M_work : Cond) ∈ lw_gd := List.mem_filter.mpr ⟨List.mem_append_right _ (List.mem_of_getElem? (i := 640) (by decide +kernel)), rfl⟩
theorem mlk_M_129 : (Cond.methodLink R_M 129 y_M_follows : Cond) ∈ lw_gd := List.mem_filter.mpr ⟨List.mem_append_right _ (List.mem_of_getElem? (i := 642) (by decide +kernel)), rfl⟩
theorem ins_M_follows : (Cond.instanceMethod y_M_follows : Cond) ∈ lw_gd := List.mem_filter.mpr ⟨List.mem_append_right _ (List.mem_of_getElem? (i := 644) (by decide +kernel)), rfl⟩
theorem mlk_M_122 : (Cond.methodLink R_M 122 y_M_literalHolds : Cond) ∈ lw_gd := List.mem_filter.mpr ⟨List.mem_append_right _ (List.mem_of_getElem? (i := 646) (by decide +kernel)), rfl⟩
theorem ins_M_literalHolds : (Cond.instanceMethod y_M_literalHolds : Cond) ∈ lw_gd := List.mem_filter.mpr ⟨List.mem_append_right _ (List.mem_of_getElem? (i := 648) (by decide +kernel)), rfl⟩
theorem mlk_M_118 : (Cond.methodLink R_M 118 y_M_valueOf : Cond) ∈ lw_gd := List.mem_filter.mpr ⟨List.mem_append_right _ (List.mem_of_getElem? (i := 650) (by decide +kernel)), rfl⟩
theorem sta_M_valueOf : (Cond.static y_M_valueOf : Cond) ∈ lw_gd := List.mem_filter.mpr ⟨List.mem_append_right _ (List.mem_of_getElem? (i := 651) (by decide +kernel)), rfl⟩
theorem mlk_W_76 : (Cond.methodLink "HornLearnerLaw" 76 y_M_rounds : Cond) ∈ lw_gd := List.mem_filter.mpr ⟨List.mem_append_right _ (List.mem_of_getElem? (i := 653) (by decide +kernel)), rfl⟩
theorem ins_M_rounds : (Cond.instanceMethod y_M_rounds : Cond) ∈ lw_gd := List.mem_filter.mpr ⟨List.mem_append_right _ (List.mem_of_getElem? (i := 654) (by decide +kernel)), rfl⟩
theorem sel_M_rounds : (Cond.selects R_M y_M_rounds y_M_rounds : Cond) ∈ lw_gd := List.mem_filter.mpr ⟨List.mem_append_right _ (List.mem_of_getElem? (i := 655) (by decide +kernel)), rfl⟩
theorem mlk_W_80 : (Cond.methodLink "HornLearnerLaw" 80 y_M_fits : Cond) ∈ lw_gd := List.mem_filter.mpr ⟨List.mem_append_right _ (List.mem_of_getElem? (i := 657) (by decide +kernel)), rfl⟩
theorem ins_M_fits : (Cond.instanceMethod y_M_fits : Cond) ∈ lw_gd := List.mem_filter.mpr ⟨List.mem_append_right _ (List.mem_of_getElem? (i := 658) (by decide +kernel)), rfl⟩
theorem sel_M_fits : (Cond.selects R_M y_M_fits y_M_fits : Cond) ∈ lw_gd := List.mem_filter.mpr ⟨List.mem_append_right _ (List.mem_of_getElem? (i := 659) (by decide +kernel)), rfl⟩
theorem mlk_W_84 : (Cond.methodLink "HornLearnerLaw" 84 y_M_learn : Cond) ∈ lw_gd := List.mem_filter.mpr ⟨List.mem_append_right _ (List.mem_of_getElem? (i := 661) (by decide +kernel)), rfl⟩
theorem ins_M_learn : (Cond.instanceMethod y_M_learn : Cond) ∈ lw_gd := List.mem_filter.mpr ⟨List.mem_append_right _ (List.mem_of_getElem? (i := 662) (by decide +kernel)), rfl⟩
theorem sel_M_learn : (Cond.selects R_M y_M_learn y_M_learn : Cond) ∈ lw_gd := List.mem_filter.mpr ⟨List.mem_append_right _ (List.mem_of_getElem? (i := 663) (by decide +kernel)), rfl⟩
theorem mlk_M_144 : (Cond.methodLink R_M 144 y_M_keep : Cond) ∈ lw_gd := List.mem_filter.mpr ⟨List.mem_append_right _ (List.mem_of_getElem? (i := 665) (by decide +kernel)), rfl⟩
theorem ins_M_keep : (Cond.instanceMethod y_M_keep : Cond) ∈ lw_gd := List.mem_filter.mpr ⟨List.mem_append_right _ (List.mem_of_getElem? (i := 667) (by decide +kernel)), rfl⟩
theorem mlk_M_147 : (Cond.methodLink R_M 147 y_M_alone : Cond) ∈ lw_gd := List.mem_filter.mpr ⟨List.mem_append_right _ (List.mem_of_getElem? (i := 669) (by decide +kernel)), rfl⟩
theorem ins_M_alone : (Cond.instanceMethod y_M_alone : Cond) ∈ lw_gd := List.mem_filter.mpr ⟨List.mem_append_right _ (List.mem_of_getElem? (i := 671) (by decide +kernel)), rfl⟩
theorem mlk_M_138 : (Cond.methodLink R_M 138 y_M_set : Cond) ∈ lw_gd := List.mem_filter.mpr ⟨List.mem_append_right _ (List.mem_of_getElem? (i := 673) (by decide +kernel)), rfl⟩
theorem ins_M_set : (Cond.instanceMethod y_M_set : Cond) ∈ lw_gd := List.mem_filter.mpr ⟨List.mem_append_right _ (List.mem_of_getElem? (i := 675) (by decide +kernel)), rfl⟩
theorem mlk_M_141 : (Cond.methodLink R_M 141 y_M_fits : Cond) ∈ lw_gd := List.mem_filter.mpr ⟨List.mem_append_right _ (List.mem_of_getElem? (i := 677) (by decide +kernel)), rfl⟩
theorem mlk_M_150 : (Cond.methodLink R_M 150 y_M_pair : Cond) ∈ lw_gd := List.mem_filter.mpr ⟨List.mem_append_right _ (List.mem_of_getElem? (i := 678) (by decide +kernel)), rfl⟩
theorem ins_M_pair : (Cond.instanceMethod y_M_pair : Cond) ∈ lw_gd := List.mem_filter.mpr ⟨List.mem_append_right _ (List.mem_of_getElem? (i := 680) (by decide +kernel)), rfl⟩
theorem mlk_M_153 : (Cond.methodLink R_M 153 y_M_putBack : Cond) ∈ lw_gd := List.mem_filter.mpr ⟨List.mem_append_right _ (List.mem_of_getElem? (i := 682) (by decide +kernel)), rfl⟩
theorem ins_M_putBack : (Cond.instanceMethod y_M_putBack : Cond) ∈ lw_gd := List.mem_filter.mpr ⟨List.mem_append_right _ (List.mem_of_getElem? (i := 684) (by decide +kernel)), rfl⟩
theorem flk_S_9 : (Cond.fieldLink R_S 9 "java/lang/String" "value" "[B" : Cond) ∈ lw_gd := List.mem_filter.mpr ⟨List.mem_append_right _ (List.mem_of_getElem? (i := 686) (by decide +kernel)), rfl⟩
theorem flk_S_15 : (Cond.fieldLink R_S 15 "java/lang/String" "coder" "B" : Cond) ∈ lw_gd := List.mem_filter.mpr ⟨List.mem_append_right _ (List.mem_of_getElem? (i := 687) (by decide +kernel)), rfl⟩
def w_H_init : List Cond := .code y_H_init b_H_init 1 none :: lw_gd
def w_L_init : List Cond := .code y_L_init b_L_init 1 none :: lw_gd
def w_P_init : List Cond := .code y_P_init b_P_init 1 none :: lw_gd
def w_D_init : List Cond := .code y_D_init b_D_init 1 none :: lw_gd
def w_H_key : List Cond := .code y_H_key b_H_key 2 (some .boolean) :: lw_gd
def w_L_add : List Cond := .code y_L_add b_L_add 2 (some .boolean) :: lw_gd
def w_H_back : List Cond := .code y_H_back b_H_back 1 (some .boolean) :: lw_gd
def w_L_removeLast : List Cond := .code y_L_removeLast b_L_removeLast 1 (some .boolean) :: lw_gd
def w_H_enter : List Cond := .code y_H_enter b_H_enter 3 (some .int) :: lw_gd
def w_L_begunStatement : List Cond := .code y_L_begunStatement b_L_begunStatement 3 (some .int) :: lw_gd
def w_L_form : List Cond := .code y_L_form b_L_form 1 (some (.object "java/lang/String")) :: lw_gd
def w_L_at : List Cond := .code y_L_at b_L_at 2 (some .char) :: lw_gd
def w_S_length : List Cond := .code y_S_length b_S_length 1 (some .int) :: lw_gd
def w_S_coder : List Cond := .code y_S_coder b_S_coder 1 (some .byte) :: lw_gd
def w_S_charAt : List Cond := .code y_S_charAt b_S_charAt 2 (some .char) :: lw_gd
def w_S_isLatin1 : List Cond := .code y_S_isLatin1 b_S_isLatin1 1 (some .boolean) :: lw_gd
def w_T_charAt : List Cond := .code y_T_charAt b_T_charAt 2 (some .char) :: lw_gd
def w_S_checkIndex : List Cond := .code y_S_checkIndex b_S_checkIndex 2 none :: lw_gd
def w_Q_checkIndex : List Cond := .code y_Q_checkIndex b_Q_checkIndex 3 (some .int) :: lw_gd
def w_L_allows : List Cond := .code y_L_allows b_L_allows 2 (some .boolean) :: lw_gd
def w_L_endsStatement : List Cond := .code y_L_endsStatement b_L_endsStatement 2 (some .boolean) :: lw_gd
def w_L_typedLiterals : List Cond := .code y_L_typedLiterals b_L_typedLiterals 1 (some .int) :: lw_gd
def w_H_carryOutLine : List Cond := .code y_H_carryOutLine b_H_carryOutLine 4 (some .int) :: lw_gd
def w_L_typedBody : List Cond := .code y_L_typedBody b_L_typedBody 6 (some .int) :: lw_gd
def w_S_indexOf1 : List Cond := .code y_S_indexOf1 b_S_indexOf1 2 (some .int) :: lw_gd
def w_S_indexOf2 : List Cond := .code y_S_indexOf2 b_S_indexOf2 3 (some .int) :: lw_gd
def w_T_indexOf : List Cond := .code y_T_indexOf b_T_indexOf 4 (some .int) :: lw_gd
def w_T_canEncode : List Cond := .code y_T_canEncode b_T_canEncode 1 (some .boolean) :: lw_gd
def w_A_max : List Cond := .code y_A_max b_A_max 2 (some .int) :: lw_gd
def w_A_min : List Cond := .code y_A_min b_A_min 2 (some .int) :: lw_gd
def w_T_indexOfChar : List Cond := .code y_T_indexOfChar b_T_indexOfChar 6 (some .int) :: lw_gd
def w_S_checkBoundsBeginEnd : List Cond := .code y_S_checkBoundsBeginEnd b_S_checkBoundsBeginEnd 3 none :: lw_gd
def w_Q_checkFromToIndex : List Cond := .code y_Q_checkFromToIndex b_Q_checkFromToIndex 4 (some .int) :: lw_gd
def w_H_codeOf : List Cond := .code y_H_codeOf b_H_codeOf 3 (some .int) :: lw_gd
def w_H_addClause : List Cond := .code y_H_addClause b_H_addClause 3 (some .int) :: lw_gd
def w_I_bitCount : List Cond := .code y_I_bitCount b_I_bitCount 1 (some .int) :: lw_gd
def w_H_hasHeadVariables : List Cond := .code y_H_hasHeadVariables b_H_hasHeadVariables 1 (some .boolean) :: lw_gd
def w_P_contains : List Cond := .code y_P_contains b_P_contains 2 (some .boolean) :: lw_gd
def w_P_bodyOf : List Cond := .code y_P_bodyOf b_P_bodyOf 2 (some .int) :: lw_gd
def w_P_append : List Cond := .code y_P_append b_P_append 2 (some .int) :: lw_gd
def w_L_typedPair : List Cond := .code y_L_typedPair b_L_typedPair 1 (some .int) :: lw_gd
def w_H_pairBit : List Cond := .code y_H_pairBit b_H_pairBit 3 (some .int) :: lw_gd
def w_H_changeMarks : List Cond := .code y_H_changeMarks b_H_changeMarks 4 (some .int) :: lw_gd
def w_H_changeFacts : List Cond := .code y_H_changeFacts b_H_changeFacts 5 (some .int) :: lw_gd
def w_H_isFactRelation : List Cond := .code y_H_isFactRelation b_H_isFactRelation 1 (some .boolean) :: lw_gd
def w_L_clear : List Cond := .code y_L_clear b_L_clear 1 none :: lw_gd
def w_H_facts : List Cond := .code y_H_facts b_H_facts 2 (some .int) :: lw_gd
def w_H_holds : List Cond := .code y_H_holds b_H_holds 4 (some .boolean) :: lw_gd
def w_H_mark : List Cond := .code y_H_mark b_H_mark 4 (some .int) :: lw_gd
def w_H_drop : List Cond := .code y_H_drop b_H_drop 2 (some .boolean) :: lw_gd
def w_P_remove : List Cond := .code y_P_remove b_P_remove 2 (some .boolean) :: lw_gd
def w_H_clauses : List Cond := .code y_H_clauses b_H_clauses 1 (some .int) :: lw_gd
def w_H_literals : List Cond := .code y_H_literals b_H_literals 3 (some .int) :: lw_gd
def w_H_literal : List Cond := .code y_H_literal b_H_literal 3 (some .int) :: lw_gd
def w_H_codeAt : List Cond := .code y_H_codeAt b_H_codeAt 4 (some .int) :: lw_gd
def w_H_withoutLeastCode : List Cond := .code y_H_withoutLeastCode b_H_withoutLeastCode 1 (some .int) :: lw_gd
def w_H_leastCode : List Cond := .code y_H_leastCode b_H_leastCode 1 (some .int) :: lw_gd
def w_H_letter : List Cond := .code y_H_letter b_H_letter 2 (some .int) :: lw_gd
def w_P_letterAt : List Cond := .code y_P_letterAt b_P_letterAt 5 (some .int) :: lw_gd
def w_P_textLength : List Cond := .code y_P_textLength b_P_textLength 1 (some .int) :: lw_gd
def w_P_letterOf : List Cond := .code y_P_letterOf b_P_letterOf 3 (some .int) :: lw_gd
def w_H_relationOf : List Cond := .code y_H_relationOf b_H_relationOf 1 (some .int) :: lw_gd
def w_H_firstVariableOf : List Cond := .code y_H_firstVariableOf b_H_firstVariableOf 1 (some .int) :: lw_gd
def w_H_secondVariableOf : List Cond := .code y_H_secondVariableOf b_H_secondVariableOf 1 (some .int) :: lw_gd
def w_H_subsumes : List Cond := .code y_H_subsumes b_H_subsumes 6 (some .boolean) :: lw_gd
def w_H_withVariableForZ : List Cond := .code y_H_withVariableForZ b_H_withVariableForZ 8 (some .int) :: lw_gd
def w_H_given : List Cond := .code y_H_given b_H_given 3 (some .int) :: lw_gd
def w_H_deduceProgram : List Cond := .code y_H_deduceProgram b_H_deduceProgram 1 none :: lw_gd
def w_D_takeFacts : List Cond := .code y_D_takeFacts b_D_takeFacts 5 none :: lw_gd
def w_D_choicesWhere : List Cond := .code y_D_choicesWhere b_D_choicesWhere 6 (some .long) :: lw_gd
def w_D_run : List Cond := .code y_D_run b_D_run 5 none :: lw_gd
def w_D_pairsFrom : List Cond := .code y_D_pairsFrom b_D_pairsFrom 7 (some .int) :: lw_gd
def w_D_roundOf : List Cond := .code y_D_roundOf b_D_roundOf 3 (some .int) :: lw_gd
def w_H_rounds : List Cond := .code y_H_rounds b_H_rounds 1 (some .int) :: lw_gd
def w_H_fits : List Cond := .code y_H_fits b_H_fits 1 (some .boolean) :: lw_gd
def w_H_deductionFits : List Cond := .code y_H_deductionFits b_H_deductionFits 1 (some .boolean) :: lw_gd
def w_H_learn : List Cond := .code y_H_learn b_H_learn 2 (some .int) :: lw_gd
def w_H_learnBody : List Cond := .code y_H_learnBody b_H_learnBody 6 (some .boolean) :: lw_gd
def w_H_takeIfFitting : List Cond := .code y_H_takeIfFitting b_H_takeIfFitting 3 (some .boolean) :: lw_gd
def w_P_become : List Cond := .code y_P_become b_P_become 3 none :: lw_gd
def w_H_learnTwoClauses : List Cond := .code y_H_learnTwoClauses b_H_learnTwoClauses 4 (some .boolean) :: lw_gd
def w_M_init : List Cond := .code y_M_init b_M_init 1 none :: lw_gd
def w_M_key : List Cond := .code y_M_key b_M_key 2 (some .boolean) :: lw_gd
def w_M_back : List Cond := .code y_M_back b_M_back 1 (some .boolean) :: lw_gd
def w_M_enter : List Cond := .code y_M_enter b_M_enter 5 (some .int) :: lw_gd
def w_M_fault : List Cond := .code y_M_fault b_M_fault 2 (some .int) :: lw_gd
def w_M_goesOn : List Cond := .code y_M_goesOn b_M_goesOn 4 (some .boolean) :: lw_gd
def w_M_isRelation : List Cond := .code y_M_isRelation b_M_isRelation 1 (some .boolean) :: lw_gd
def w_M_head : List Cond := .code y_M_head b_M_head 1 (some .int) :: lw_gd
def w_M_inBody : List Cond := .code y_M_inBody b_M_inBody 3 (some .boolean) :: lw_gd
def w_M_isVariable : List Cond := .code y_M_isVariable b_M_isVariable 1 (some .boolean) :: lw_gd
def w_M_argument : List Cond := .code y_M_argument b_M_argument 2 (some .boolean) :: lw_gd
def w_M_isConstant : List Cond := .code y_M_isConstant b_M_isConstant 1 (some .boolean) :: lw_gd
def w_M_whole : List Cond := .code y_M_whole b_M_whole 2 (some .boolean) :: lw_gd
def w_M_enterClause : List Cond := .code y_M_enterClause b_M_enterClause 4 (some .int) :: lw_gd
def w_M_readBody : List Cond := .code y_M_readBody b_M_readBody 4 none :: lw_gd
def w_M_relationOf : List Cond := .code y_M_relationOf b_M_relationOf 1 (some .int) :: lw_gd
def w_M_variables : List Cond := .code y_M_variables b_M_variables 1 (some .int) :: lw_gd
def w_M_known : List Cond := .code y_M_known b_M_known 4 (some .boolean) :: lw_gd
def w_M_enterMark : List Cond := .code y_M_enterMark b_M_enterMark 4 (some .int) :: lw_gd
def w_M_enterFact : List Cond := .code y_M_enterFact b_M_enterFact 4 (some .int) :: lw_gd
def w_M_facts : List Cond := .code y_M_facts b_M_facts 4 (some .int) :: lw_gd
def w_M_holds : List Cond := .code y_M_holds b_M_holds 4 (some .boolean) :: lw_gd
def w_M_constant : List Cond := .code y_M_constant b_M_constant 1 (some .boolean) :: lw_gd
def w_M_mark : List Cond := .code y_M_mark b_M_mark 3 (some .int) :: lw_gd
def w_M_drop : List Cond := .code y_M_drop b_M_drop 3 (some .boolean) :: lw_gd
def w_M_clause : List Cond := .code y_M_clause b_M_clause 2 (some .boolean) :: lw_gd
def w_M_clauses : List Cond := .code y_M_clauses b_M_clauses 1 (some .int) :: lw_gd
def w_M_literals : List Cond := .code y_M_literals b_M_literals 2 (some .int) :: lw_gd
def w_M_literal : List Cond := .code y_M_literal b_M_literal 3 (some .int) :: lw_gd
def w_M_letter : List Cond := .code y_M_letter b_M_letter 6 (some .int) :: lw_gd
def w_M_letterOf : List Cond := .code y_M_letterOf b_M_letterOf 2 (some .int) :: lw_gd
def w_M_subsumes : List Cond := .code y_M_subsumes b_M_subsumes 9 (some .boolean) :: lw_gd
def w_M_replaced : List Cond := .code y_M_replaced b_M_replaced 4 (some .int) :: lw_gd
def w_M_given : List Cond := .code y_M_given b_M_given 3 (some .int) :: lw_gd
def w_M_work : List Cond := .code y_M_work b_M_work 3 none :: lw_gd
def w_M_follows : List Cond := .code y_M_follows b_M_follows 7 (some .boolean) :: lw_gd
def w_M_literalHolds : List Cond := .code y_M_literalHolds b_M_literalHolds 8 (some .boolean) :: lw_gd
def w_M_valueOf : List Cond := .code y_M_valueOf b_M_valueOf 4 (some .int) :: lw_gd
def w_M_rounds : List Cond := .code y_M_rounds b_M_rounds 1 (some .int) :: lw_gd
def w_M_fits : List Cond := .code y_M_fits b_M_fits 3 (some .boolean) :: lw_gd
def w_M_learn : List Cond := .code y_M_learn b_M_learn 2 (some .int) :: lw_gd
def w_M_keep : List Cond := .code y_M_keep b_M_keep 2 none :: lw_gd
def w_M_alone : List Cond := .code y_M_alone b_M_alone 6 (some .boolean) :: lw_gd
def w_M_set : List Cond := .code y_M_set b_M_set 6 (some .boolean) :: lw_gd
def w_M_pair : List Cond := .code y_M_pair b_M_pair 7 (some .boolean) :: lw_gd
def w_M_putBack : List Cond := .code y_M_putBack b_M_putBack 2 none :: lw_gd

