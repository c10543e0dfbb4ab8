set_option maxRecDepth 20000 in
theorem cod_H_init : (Cond.code y_H_init b_H_init 1 none : Cond) ∈ lw_gd := List.mem_filter.mpr ⟨List.mem_append_right _ (List.mem_of_getElem? (i := 17) rfl), rfl⟩
set_option maxRecDepth 20000 in
theorem cod_O_init : (Cond.code objectInit ⟨#[0xb1]⟩ 1 none : Cond) ∈ lw_gd := List.mem_filter.mpr ⟨List.mem_append_right _ (List.mem_of_getElem? (i := 20) rfl), rfl⟩
set_option maxRecDepth 20000 in
theorem cod_L_init : (Cond.code y_L_init b_L_init 1 none : Cond) ∈ lw_gd := List.mem_filter.mpr ⟨List.mem_append_right _ (List.mem_of_getElem? (i := 25) rfl), rfl⟩
set_option maxRecDepth 20000 in
theorem cod_P_init : (Cond.code y_P_init b_P_init 1 none : Cond) ∈ lw_gd := List.mem_filter.mpr ⟨List.mem_append_right _ (List.mem_of_getElem? (i := 39) rfl), rfl⟩
set_option maxRecDepth 20000 in
theorem cod_D_init : (Cond.code y_D_init b_D_init 1 none : Cond) ∈ lw_gd := List.mem_filter.mpr ⟨List.mem_append_right _ (List.mem_of_getElem? (i := 54) rfl), rfl⟩
set_option maxRecDepth 20000 in
theorem cod_H_key : (Cond.code y_H_key b_H_key 2 (some .boolean) : Cond) ∈ lw_gd := List.mem_filter.mpr ⟨List.mem_append_right _ (List.mem_of_getElem? (i := 94) rfl), rfl⟩
set_option maxRecDepth 20000 in
theorem cod_L_add : (Cond.code y_L_add b_L_add 2 (some .boolean) : Cond) ∈ lw_gd := List.mem_filter.mpr ⟨List.mem_append_right _ (List.mem_of_getElem? (i := 98) rfl), rfl⟩
set_option maxRecDepth 20000 in
theorem cod_H_back : (Cond.code y_H_back b_H_back 1 (some .boolean) : Cond) ∈ lw_gd := List.mem_filter.mpr ⟨List.mem_append_right _ (List.mem_of_getElem? (i := 102) rfl), rfl⟩
set_option maxRecDepth 20000 in
theorem cod_L_removeLast : (Cond.code y_L_removeLast b_L_removeLast 1 (some .boolean) : Cond) ∈ lw_gd := List.mem_filter.mpr ⟨List.mem_append_right _ (List.mem_of_getElem? (i := 106) rfl), rfl⟩
set_option maxRecDepth 20000 in
theorem cod_H_enter : (Cond.code y_H_enter b_H_enter 3 (some .int) : Cond) ∈ lw_gd := List.mem_filter.mpr ⟨List.mem_append_right _ (List.mem_of_getElem? (i := 110) rfl), rfl⟩
set_option maxRecDepth 20000 in
theorem cod_L_begunStatement : (Cond.code y_L_begunStatement b_L_begunStatement 3 (some .int) : Cond) ∈ lw_gd := List.mem_filter.mpr ⟨List.mem_append_right _ (List.mem_of_getElem? (i := 114) rfl), rfl⟩
set_option maxRecDepth 20000 in
theorem cod_L_form : (Cond.code y_L_form b_L_form 1 (some (.object "java/lang/String")) : Cond) ∈ lw_gd := List.mem_filter.mpr ⟨List.mem_append_right _ (List.mem_of_getElem? (i := 118) rfl), rfl⟩
set_option maxRecDepth 20000 in
theorem cod_L_at : (Cond.code y_L_at b_L_at 2 (some .char) : Cond) ∈ lw_gd := List.mem_filter.mpr ⟨List.mem_append_right _ (List.mem_of_getElem? (i := 122) rfl), rfl⟩
set_option maxRecDepth 20000 in
theorem cod_S_length : (Cond.code y_S_length b_S_length 1 (some .int) : Cond) ∈ lw_gd := List.mem_filter.mpr ⟨List.mem_append_right _ (List.mem_of_getElem? (i := 132) rfl), rfl⟩
set_option maxRecDepth 20000 in
theorem cod_S_coder : (Cond.code y_S_coder b_S_coder 1 (some .byte) : Cond) ∈ lw_gd := List.mem_filter.mpr ⟨List.mem_append_right _ (List.mem_of_getElem? (i := 136) rfl), rfl⟩
set_option maxRecDepth 20000 in
theorem cod_S_charAt : (Cond.code y_S_charAt b_S_charAt 2 (some .char) : Cond) ∈ lw_gd := List.mem_filter.mpr ⟨List.mem_append_right _ (List.mem_of_getElem? (i := 142) rfl), rfl⟩
set_option maxRecDepth 20000 in
theorem cod_S_isLatin1 : (Cond.code y_S_isLatin1 b_S_isLatin1 1 (some .boolean) : Cond) ∈ lw_gd := List.mem_filter.mpr ⟨List.mem_append_right _ (List.mem_of_getElem? (i := 146) rfl), rfl⟩
set_option maxRecDepth 20000 in
theorem cod_T_charAt : (Cond.code y_T_charAt b_T_charAt 2 (some .char) : Cond) ∈ lw_gd := List.mem_filter.mpr ⟨List.mem_append_right _ (List.mem_of_getElem? (i := 149) rfl), rfl⟩
set_option maxRecDepth 20000 in
theorem cod_S_checkIndex : (Cond.code y_S_checkIndex b_S_checkIndex 2 none : Cond) ∈ lw_gd := List.mem_filter.mpr ⟨List.mem_append_right _ (List.mem_of_getElem? (i := 152) rfl), rfl⟩
set_option maxRecDepth 20000 in
theorem cod_Q_checkIndex : (Cond.code y_Q_checkIndex b_Q_checkIndex 3 (some .int) : Cond) ∈ lw_gd := List.mem_filter.mpr ⟨List.mem_append_right _ (List.mem_of_getElem? (i := 157) rfl), rfl⟩
set_option maxRecDepth 20000 in
theorem cod_L_allows : (Cond.code y_L_allows b_L_allows 2 (some .boolean) : Cond) ∈ lw_gd := List.mem_filter.mpr ⟨List.mem_append_right _ (List.mem_of_getElem? (i := 179) rfl), rfl⟩
set_option maxRecDepth 20000 in
theorem cod_L_endsStatement : (Cond.code y_L_endsStatement b_L_endsStatement 2 (some .boolean) : Cond) ∈ lw_gd := List.mem_filter.mpr ⟨List.mem_append_right _ (List.mem_of_getElem? (i := 183) rfl), rfl⟩
set_option maxRecDepth 20000 in
theorem cod_L_typedLiterals : (Cond.code y_L_typedLiterals b_L_typedLiterals 1 (some .int) : Cond) ∈ lw_gd := List.mem_filter.mpr ⟨List.mem_append_right _ (List.mem_of_getElem? (i := 187) rfl), rfl⟩
set_option maxRecDepth 20000 in
theorem cod_H_carryOutLine : (Cond.code y_H_carryOutLine b_H_carryOutLine 4 (some .int) : Cond) ∈ lw_gd := List.mem_filter.mpr ⟨List.mem_append_right _ (List.mem_of_getElem? (i := 191) rfl), rfl⟩
set_option maxRecDepth 20000 in
theorem cod_L_typedBody : (Cond.code y_L_typedBody b_L_typedBody 6 (some .int) : Cond) ∈ lw_gd := List.mem_filter.mpr ⟨List.mem_append_right _ (List.mem_of_getElem? (i := 196) rfl), rfl⟩
set_option maxRecDepth 20000 in
theorem cod_S_indexOf1 : (Cond.code y_S_indexOf1 b_S_indexOf1 2 (some .int) : Cond) ∈ lw_gd := List.mem_filter.mpr ⟨List.mem_append_right _ (List.mem_of_getElem? (i := 201) rfl), rfl⟩
set_option maxRecDepth 20000 in
theorem cod_S_indexOf2 : (Cond.code y_S_indexOf2 b_S_indexOf2 3 (some .int) : Cond) ∈ lw_gd := List.mem_filter.mpr ⟨List.mem_append_right _ (List.mem_of_getElem? (i := 205) rfl), rfl⟩
set_option maxRecDepth 20000 in
theorem cod_T_indexOf : (Cond.code y_T_indexOf b_T_indexOf 4 (some .int) : Cond) ∈ lw_gd := List.mem_filter.mpr ⟨List.mem_append_right _ (List.mem_of_getElem? (i := 209) rfl), rfl⟩
set_option maxRecDepth 20000 in
theorem cod_T_canEncode : (Cond.code y_T_canEncode b_T_canEncode 1 (some .boolean) : Cond) ∈ lw_gd := List.mem_filter.mpr ⟨List.mem_append_right _ (List.mem_of_getElem? (i := 212) rfl), rfl⟩
set_option maxRecDepth 20000 in
theorem cod_A_max : (Cond.code y_A_max b_A_max 2 (some .int) : Cond) ∈ lw_gd := List.mem_filter.mpr ⟨List.mem_append_right _ (List.mem_of_getElem? (i := 215) rfl), rfl⟩
set_option maxRecDepth 20000 in
theorem cod_A_min : (Cond.code y_A_min b_A_min 2 (some .int) : Cond) ∈ lw_gd := List.mem_filter.mpr ⟨List.mem_append_right _ (List.mem_of_getElem? (i := 218) rfl), rfl⟩
set_option maxRecDepth 20000 in
theorem cod_T_indexOfChar : (Cond.code y_T_indexOfChar b_T_indexOfChar 6 (some .int) : Cond) ∈ lw_gd := List.mem_filter.mpr ⟨List.mem_append_right _ (List.mem_of_getElem? (i := 221) rfl), rfl⟩
set_option maxRecDepth 20000 in
theorem cod_S_checkBoundsBeginEnd : (Cond.code y_S_checkBoundsBeginEnd b_S_checkBoundsBeginEnd 3 none : Cond) ∈ lw_gd := List.mem_filter.mpr ⟨List.mem_append_right _ (List.mem_of_getElem? (i := 236) rfl), rfl⟩
set_option maxRecDepth 20000 in
theorem cod_Q_checkFromToIndex : (Cond.code y_Q_checkFromToIndex b_Q_checkFromToIndex 4 (some .int) : Cond) ∈ lw_gd := List.mem_filter.mpr ⟨List.mem_append_right _ (List.mem_of_getElem? (i := 239) rfl), rfl⟩
set_option maxRecDepth 20000 in
theorem cod_H_codeOf : (Cond.code y_H_codeOf b_H_codeOf 3 (some .int) : Cond) ∈ lw_gd := List.mem_filter.mpr ⟨List.mem_append_right _ (List.mem_of_getElem? (i := 260) rfl), rfl⟩
set_option maxRecDepth 20000 in
theorem cod_H_addClause : (Cond.code y_H_addClause b_H_addClause 3 (some .int) : Cond) ∈ lw_gd := List.mem_filter.mpr ⟨List.mem_append_right _ (List.mem_of_getElem? (i := 265) rfl), rfl⟩
set_option maxRecDepth 20000 in
theorem cod_I_bitCount : (Cond.code y_I_bitCount b_I_bitCount 1 (some .int) : Cond) ∈ lw_gd := List.mem_filter.mpr ⟨List.mem_append_right _ (List.mem_of_getElem? (i := 268) rfl), rfl⟩
set_option maxRecDepth 20000 in
theorem cod_H_hasHeadVariables : (Cond.code y_H_hasHeadVariables b_H_hasHeadVariables 1 (some .boolean) : Cond) ∈ lw_gd := List.mem_filter.mpr ⟨List.mem_append_right _ (List.mem_of_getElem? (i := 274) rfl), rfl⟩
set_option maxRecDepth 20000 in
theorem cod_P_contains : (Cond.code y_P_contains b_P_contains 2 (some .boolean) : Cond) ∈ lw_gd := List.mem_filter.mpr ⟨List.mem_append_right _ (List.mem_of_getElem? (i := 280) rfl), rfl⟩
set_option maxRecDepth 20000 in
theorem cod_P_bodyOf : (Cond.code y_P_bodyOf b_P_bodyOf 2 (some .int) : Cond) ∈ lw_gd := List.mem_filter.mpr ⟨List.mem_append_right _ (List.mem_of_getElem? (i := 284) rfl), rfl⟩
set_option maxRecDepth 20000 in
theorem cod_P_append : (Cond.code y_P_append b_P_append 2 (some .int) : Cond) ∈ lw_gd := List.mem_filter.mpr ⟨List.mem_append_right _ (List.mem_of_getElem? (i := 288) rfl), rfl⟩
set_option maxRecDepth 20000 in
theorem cod_L_typedPair : (Cond.code y_L_typedPair b_L_typedPair 1 (some .int) : Cond) ∈ lw_gd := List.mem_filter.mpr ⟨List.mem_append_right _ (List.mem_of_getElem? (i := 292) rfl), rfl⟩
set_option maxRecDepth 20000 in
theorem cod_H_pairBit : (Cond.code y_H_pairBit b_H_pairBit 3 (some .int) : Cond) ∈ lw_gd := List.mem_filter.mpr ⟨List.mem_append_right _ (List.mem_of_getElem? (i := 295) rfl), rfl⟩
set_option maxRecDepth 20000 in
theorem cod_H_changeMarks : (Cond.code y_H_changeMarks b_H_changeMarks 4 (some .int) : Cond) ∈ lw_gd := List.mem_filter.mpr ⟨List.mem_append_right _ (List.mem_of_getElem? (i := 299) rfl), rfl⟩
set_option maxRecDepth 20000 in
theorem cod_H_changeFacts : (Cond.code y_H_changeFacts b_H_changeFacts 5 (some .int) : Cond) ∈ lw_gd := List.mem_filter.mpr ⟨List.mem_append_right _ (List.mem_of_getElem? (i := 305) rfl), rfl⟩
set_option maxRecDepth 20000 in
theorem cod_H_isFactRelation : (Cond.code y_H_isFactRelation b_H_isFactRelation 1 (some .boolean) : Cond) ∈ lw_gd := List.mem_filter.mpr ⟨List.mem_append_right _ (List.mem_of_getElem? (i := 308) rfl), rfl⟩
set_option maxRecDepth 20000 in
theorem cod_L_clear : (Cond.code y_L_clear b_L_clear 1 none : Cond) ∈ lw_gd := List.mem_filter.mpr ⟨List.mem_append_right _ (List.mem_of_getElem? (i := 312) rfl), rfl⟩
set_option maxRecDepth 20000 in
theorem cod_H_facts : (Cond.code y_H_facts b_H_facts 2 (some .int) : Cond) ∈ lw_gd := List.mem_filter.mpr ⟨List.mem_append_right _ (List.mem_of_getElem? (i := 317) rfl), rfl⟩
set_option maxRecDepth 20000 in
theorem cod_H_holds : (Cond.code y_H_holds b_H_holds 4 (some .boolean) : Cond) ∈ lw_gd := List.mem_filter.mpr ⟨List.mem_append_right _ (List.mem_of_getElem? (i := 321) rfl), rfl⟩
set_option maxRecDepth 20000 in
theorem cod_H_mark : (Cond.code y_H_mark b_H_mark 4 (some .int) : Cond) ∈ lw_gd := List.mem_filter.mpr ⟨List.mem_append_right _ (List.mem_of_getElem? (i := 326) rfl), rfl⟩
set_option maxRecDepth 20000 in
theorem cod_H_drop : (Cond.code y_H_drop b_H_drop 2 (some .boolean) : Cond) ∈ lw_gd := List.mem_filter.mpr ⟨List.mem_append_right _ (List.mem_of_getElem? (i := 330) rfl), rfl⟩
set_option maxRecDepth 20000 in
theorem cod_P_remove : (Cond.code y_P_remove b_P_remove 2 (some .boolean) : Cond) ∈ lw_gd := List.mem_filter.mpr ⟨List.mem_append_right _ (List.mem_of_getElem? (i := 334) rfl), rfl⟩
set_option maxRecDepth 20000 in
theorem cod_H_clauses : (Cond.code y_H_clauses b_H_clauses 1 (some .int) : Cond) ∈ lw_gd := List.mem_filter.mpr ⟨List.mem_append_right _ (List.mem_of_getElem? (i := 338) rfl), rfl⟩
set_option maxRecDepth 20000 in
theorem cod_H_literals : (Cond.code y_H_literals b_H_literals 3 (some .int) : Cond) ∈ lw_gd := List.mem_filter.mpr ⟨List.mem_append_right _ (List.mem_of_getElem? (i := 342) rfl), rfl⟩
set_option maxRecDepth 20000 in
theorem cod_H_literal : (Cond.code y_H_literal b_H_literal 3 (some .int) : Cond) ∈ lw_gd := List.mem_filter.mpr ⟨List.mem_append_right _ (List.mem_of_getElem? (i := 347) rfl), rfl⟩
set_option maxRecDepth 20000 in
theorem cod_H_codeAt : (Cond.code y_H_codeAt b_H_codeAt 4 (some .int) : Cond) ∈ lw_gd := List.mem_filter.mpr ⟨List.mem_append_right _ (List.mem_of_getElem? (i := 350) rfl), rfl⟩
set_option maxRecDepth 20000 in
theorem cod_H_withoutLeastCode : (Cond.code y_H_withoutLeastCode b_H_withoutLeastCode 1 (some .int) : Cond) ∈ lw_gd := List.mem_filter.mpr ⟨List.mem_append_right _ (List.mem_of_getElem? (i := 353) rfl), rfl⟩
set_option maxRecDepth 20000 in
theorem cod_H_leastCode : (Cond.code y_H_leastCode b_H_leastCode 1 (some .int) : Cond) ∈ lw_gd := List.mem_filter.mpr ⟨List.mem_append_right _ (List.mem_of_getElem? (i := 356) rfl), rfl⟩
set_option maxRecDepth 20000 in
theorem cod_H_letter : (Cond.code y_H_letter b_H_letter 2 (some .int) : Cond) ∈ lw_gd := List.mem_filter.mpr ⟨List.mem_append_right _ (List.mem_of_getElem? (i := 360) rfl), rfl⟩
set_option maxRecDepth 20000 in
theorem cod_P_letterAt : (Cond.code y_P_letterAt b_P_letterAt 5 (some .int) : Cond) ∈ lw_gd := List.mem_filter.mpr ⟨List.mem_append_right _ (List.mem_of_getElem? (i := 364) rfl), rfl⟩
set_option maxRecDepth 20000 in
theorem cod_P_textLength : (Cond.code y_P_textLength b_P_textLength 1 (some .int) : Cond) ∈ lw_gd := List.mem_filter.mpr ⟨List.mem_append_right _ (List.mem_of_getElem? (i := 367) rfl), rfl⟩
set_option maxRecDepth 20000 in
theorem cod_P_letterOf : (Cond.code y_P_letterOf b_P_letterOf 3 (some .int) : Cond) ∈ lw_gd := List.mem_filter.mpr ⟨List.mem_append_right _ (List.mem_of_getElem? (i := 371) rfl), rfl⟩
set_option maxRecDepth 20000 in
theorem cod_H_relationOf : (Cond.code y_H_relationOf b_H_relationOf 1 (some .int) : Cond) ∈ lw_gd := List.mem_filter.mpr ⟨List.mem_append_right _ (List.mem_of_getElem? (i := 378) rfl), rfl⟩
set_option maxRecDepth 20000 in
theorem cod_H_firstVariableOf : (Cond.code y_H_firstVariableOf b_H_firstVariableOf 1 (some .int) : Cond) ∈ lw_gd := List.mem_filter.mpr ⟨List.mem_append_right _ (List.mem_of_getElem? (i := 382) rfl), rfl⟩
set_option maxRecDepth 20000 in
theorem cod_H_secondVariableOf : (Cond.code y_H_secondVariableOf b_H_secondVariableOf 1 (some .int) : Cond) ∈ lw_gd := List.mem_filter.mpr ⟨List.mem_append_right _ (List.mem_of_getElem? (i := 385) rfl), rfl⟩
set_option maxRecDepth 20000 in
theorem cod_H_subsumes : (Cond.code y_H_subsumes b_H_subsumes 6 (some .boolean) : Cond) ∈ lw_gd := List.mem_filter.mpr ⟨List.mem_append_right _ (List.mem_of_getElem? (i := 389) rfl), rfl⟩
set_option maxRecDepth 20000 in
theorem cod_H_withVariableForZ : (Cond.code y_H_withVariableForZ b_H_withVariableForZ 8 (some .int) : Cond) ∈ lw_gd := List.mem_filter.mpr ⟨List.mem_append_right _ (List.mem_of_getElem? (i := 392) rfl), rfl⟩
set_option maxRecDepth 20000 in
theorem cod_H_given : (Cond.code y_H_given b_H_given 3 (some .int) : Cond) ∈ lw_gd := List.mem_filter.mpr ⟨List.mem_append_right _ (List.mem_of_getElem? (i := 400) rfl), rfl⟩
set_option maxRecDepth 20000 in
theorem cod_H_deduceProgram : (Cond.code y_H_deduceProgram b_H_deduceProgram 1 none : Cond) ∈ lw_gd := List.mem_filter.mpr ⟨List.mem_append_right _ (List.mem_of_getElem? (i := 404) rfl), rfl⟩
set_option maxRecDepth 20000 in
theorem cod_D_takeFacts : (Cond.code y_D_takeFacts b_D_takeFacts 5 none : Cond) ∈ lw_gd := List.mem_filter.mpr ⟨List.mem_append_right _ (List.mem_of_getElem? (i := 408) rfl), rfl⟩
set_option maxRecDepth 20000 in
theorem cod_D_choicesWhere : (Cond.code y_D_choicesWhere b_D_choicesWhere 6 (some .long) : Cond) ∈ lw_gd := List.mem_filter.mpr ⟨List.mem_append_right _ (List.mem_of_getElem? (i := 414) rfl), rfl⟩
set_option maxRecDepth 20000 in
theorem cod_D_run : (Cond.code y_D_run b_D_run 5 none : Cond) ∈ lw_gd := List.mem_filter.mpr ⟨List.mem_append_right _ (List.mem_of_getElem? (i := 420) rfl), rfl⟩
set_option maxRecDepth 20000 in
theorem cod_D_pairsFrom : (Cond.code y_D_pairsFrom b_D_pairsFrom 7 (some .int) : Cond) ∈ lw_gd := List.mem_filter.mpr ⟨List.mem_append_right _ (List.mem_of_getElem? (i := 424) rfl), rfl⟩
set_option maxRecDepth 20000 in
theorem cod_D_roundOf : (Cond.code y_D_roundOf b_D_roundOf 3 (some .int) : Cond) ∈ lw_gd := List.mem_filter.mpr ⟨List.mem_append_right _ (List.mem_of_getElem? (i := 432) rfl), rfl⟩
set_option maxRecDepth 20000 in
theorem cod_H_rounds : (Cond.code y_H_rounds b_H_rounds 1 (some .int) : Cond) ∈ lw_gd := List.mem_filter.mpr ⟨List.mem_append_right _ (List.mem_of_getElem? (i := 436) rfl), rfl⟩
set_option maxRecDepth 20000 in
theorem cod_H_fits : (Cond.code y_H_fits b_H_fits 1 (some .boolean) : Cond) ∈ lw_gd := List.mem_filter.mpr ⟨List.mem_append_right _ (List.mem_of_getElem? (i := 440) rfl), rfl⟩
set_option maxRecDepth 20000 in
theorem cod_H_deductionFits : (Cond.code y_H_deductionFits b_H_deductionFits 1 (some .boolean) : Cond) ∈ lw_gd := List.mem_filter.mpr ⟨List.mem_append_right _ (List.mem_of_getElem? (i := 444) rfl), rfl⟩
set_option maxRecDepth 20000 in
theorem cod_H_learn : (Cond.code y_H_learn b_H_learn 2 (some .int) : Cond) ∈ lw_gd := List.mem_filter.mpr ⟨List.mem_append_right _ (List.mem_of_getElem? (i := 448) rfl), rfl⟩
set_option maxRecDepth 20000 in
theorem cod_H_learnBody : (Cond.code y_H_learnBody b_H_learnBody 6 (some .boolean) : Cond) ∈ lw_gd := List.mem_filter.mpr ⟨List.mem_append_right _ (List.mem_of_getElem? (i := 451) rfl), rfl⟩
set_option maxRecDepth 20000 in
theorem cod_H_takeIfFitting : (Cond.code y_H_takeIfFitting b_H_takeIfFitting 3 (some .boolean) : Cond) ∈ lw_gd := List.mem_filter.mpr ⟨List.mem_append_right _ (List.mem_of_getElem? (i := 455) rfl), rfl⟩
set_option maxRecDepth 20000 in
theorem cod_P_become : (Cond.code y_P_become b_P_become 3 none : Cond) ∈ lw_gd := List.mem_filter.mpr ⟨List.mem_append_right _ (List.mem_of_getElem? (i := 459) rfl), rfl⟩
set_option maxRecDepth 20000 in
theorem cod_H_learnTwoClauses : (Cond.code y_H_learnTwoClauses b_H_learnTwoClauses 4 (some .boolean) : Cond) ∈ lw_gd := List.mem_filter.mpr ⟨List.mem_append_right _ (List.mem_of_getElem? (i := 463) rfl), rfl⟩
set_option maxRecDepth 20000 in
theorem cod_M_init : (Cond.code y_M_init b_M_init 1 none : Cond) ∈ lw_gd := List.mem_filter.mpr ⟨List.mem_append_right _ (List.mem_of_getElem? (i := 468) rfl), rfl⟩
set_option maxRecDepth 20000 in
theorem cod_M_key : (Cond.code y_M_key b_M_key 2 (some .boolean) : Cond) ∈ lw_gd := List.mem_filter.mpr ⟨List.mem_append_right _ (List.mem_of_getElem? (i := 520) rfl), rfl⟩
set_option maxRecDepth 20000 in
theorem cod_M_back : (Cond.code y_M_back b_M_back 1 (some .boolean) : Cond) ∈ lw_gd := List.mem_filter.mpr ⟨List.mem_append_right _ (List.mem_of_getElem? (i := 524) rfl), rfl⟩
set_option maxRecDepth 20000 in
theorem cod_M_enter : (Cond.code y_M_enter b_M_enter 5 (some .int) : Cond) ∈ lw_gd := List.mem_filter.mpr ⟨List.mem_append_right _ (List.mem_of_getElem? (i := 528) rfl), rfl⟩
set_option maxRecDepth 20000 in
theorem cod_M_fault : (Cond.code y_M_fault b_M_fault 2 (some .int) : Cond) ∈ lw_gd := List.mem_filter.mpr ⟨List.mem_append_right _ (List.mem_of_getElem? (i := 532) rfl), rfl⟩
set_option maxRecDepth 20000 in
theorem cod_M_goesOn : (Cond.code y_M_goesOn b_M_goesOn 4 (some .boolean) : Cond) ∈ lw_gd := List.mem_filter.mpr ⟨List.mem_append_right _ (List.mem_of_getElem? (i := 536) rfl), rfl⟩
set_option maxRecDepth 20000 in
theorem cod_M_isRelation : (Cond.code y_M_isRelation b_M_isRelation 1 (some .boolean) : Cond) ∈ lw_gd := List.mem_filter.mpr ⟨List.mem_append_right _ (List.mem_of_getElem? (i := 539) rfl), rfl⟩
set_option maxRecDepth 20000 in
theorem cod_M_head : (Cond.code y_M_head b_M_head 1 (some .int) : Cond) ∈ lw_gd := List.mem_filter.mpr ⟨List.mem_append_right _ (List.mem_of_getElem? (i := 542) rfl), rfl⟩
set_option maxRecDepth 20000 in
theorem cod_M_inBody : (Cond.code y_M_inBody b_M_inBody 3 (some .boolean) : Cond) ∈ lw_gd := List.mem_filter.mpr ⟨List.mem_append_right _ (List.mem_of_getElem? (i := 545) rfl), rfl⟩
set_option maxRecDepth 20000 in
theorem cod_M_isVariable : (Cond.code y_M_isVariable b_M_isVariable 1 (some .boolean) : Cond) ∈ lw_gd := List.mem_filter.mpr ⟨List.mem_append_right _ (List.mem_of_getElem? (i := 548) rfl), rfl⟩
set_option maxRecDepth 20000 in
theorem cod_M_argument : (Cond.code y_M_argument b_M_argument 2 (some .boolean) : Cond) ∈ lw_gd := List.mem_filter.mpr ⟨List.mem_append_right _ (List.mem_of_getElem? (i := 551) rfl), rfl⟩
set_option maxRecDepth 20000 in
theorem cod_M_isConstant : (Cond.code y_M_isConstant b_M_isConstant 1 (some .boolean) : Cond) ∈ lw_gd := List.mem_filter.mpr ⟨List.mem_append_right _ (List.mem_of_getElem? (i := 554) rfl), rfl⟩
set_option maxRecDepth 20000 in
theorem cod_M_whole : (Cond.code y_M_whole b_M_whole 2 (some .boolean) : Cond) ∈ lw_gd := List.mem_filter.mpr ⟨List.mem_append_right _ (List.mem_of_getElem? (i := 558) rfl), rfl⟩
set_option maxRecDepth 20000 in
theorem cod_M_enterClause : (Cond.code y_M_enterClause b_M_enterClause 4 (some .int) : Cond) ∈ lw_gd := List.mem_filter.mpr ⟨List.mem_append_right _ (List.mem_of_getElem? (i := 562) rfl), rfl⟩
set_option maxRecDepth 20000 in
theorem cod_M_readBody : (Cond.code y_M_readBody b_M_readBody 4 none : Cond) ∈ lw_gd := List.mem_filter.mpr ⟨List.mem_append_right _ (List.mem_of_getElem? (i := 566) rfl), rfl⟩
set_option maxRecDepth 20000 in
theorem cod_M_relationOf : (Cond.code y_M_relationOf b_M_relationOf 1 (some .int) : Cond) ∈ lw_gd := List.mem_filter.mpr ⟨List.mem_append_right _ (List.mem_of_getElem? (i := 569) rfl), rfl⟩
set_option maxRecDepth 20000 in
theorem cod_M_variables : (Cond.code y_M_variables b_M_variables 1 (some .int) : Cond) ∈ lw_gd := List.mem_filter.mpr ⟨List.mem_append_right _ (List.mem_of_getElem? (i := 572) rfl), rfl⟩
set_option maxRecDepth 20000 in
theorem cod_M_known : (Cond.code y_M_known b_M_known 4 (some .boolean) : Cond) ∈ lw_gd := List.mem_filter.mpr ⟨List.mem_append_right _ (List.mem_of_getElem? (i := 576) rfl), rfl⟩
set_option maxRecDepth 20000 in
theorem cod_M_enterMark : (Cond.code y_M_enterMark b_M_enterMark 4 (some .int) : Cond) ∈ lw_gd := List.mem_filter.mpr ⟨List.mem_append_right _ (List.mem_of_getElem? (i := 580) rfl), rfl⟩
set_option maxRecDepth 20000 in
theorem cod_M_enterFact : (Cond.code y_M_enterFact b_M_enterFact 4 (some .int) : Cond) ∈ lw_gd := List.mem_filter.mpr ⟨List.mem_append_right _ (List.mem_of_getElem? (i := 584) rfl), rfl⟩
set_option maxRecDepth 20000 in
theorem cod_M_facts : (Cond.code y_M_facts b_M_facts 4 (some .int) : Cond) ∈ lw_gd := List.mem_filter.mpr ⟨List.mem_append_right _ (List.mem_of_getElem? (i := 588) rfl), rfl⟩
set_option maxRecDepth 20000 in
theorem cod_M_holds : (Cond.code y_M_holds b_M_holds 4 (some .boolean) : Cond) ∈ lw_gd := List.mem_filter.mpr ⟨List.mem_append_right _ (List.mem_of_getElem? (i := 592) rfl), rfl⟩
set_option maxRecDepth 20000 in
theorem cod_M_constant : (Cond.code y_M_constant b_M_constant 1 (some .boolean) : Cond) ∈ lw_gd := List.mem_filter.mpr ⟨List.mem_append_right _ (List.mem_of_getElem? (i := 595) rfl), rfl⟩
set_option maxRecDepth 20000 in
theorem cod_M_mark : (Cond.code y_M_mark b_M_mark 3 (some .int) : Cond) ∈ lw_gd := List.mem_filter.mpr ⟨List.mem_append_right _ (List.mem_of_getElem? (i := 599) rfl), rfl⟩
set_option maxRecDepth 20000 in
theorem cod_M_drop : (Cond.code y_M_drop b_M_drop 3 (some .boolean) : Cond) ∈ lw_gd := List.mem_filter.mpr ⟨List.mem_append_right _ (List.mem_of_getElem? (i := 603) rfl), rfl⟩
set_option maxRecDepth 20000 in
theorem cod_M_clause : (Cond.code y_M_clause b_M_clause 2 (some .boolean) : Cond) ∈ lw_gd := List.mem_filter.mpr ⟨List.mem_append_right _ (List.mem_of_getElem? (i := 607) rfl), rfl⟩
set_option maxRecDepth 20000 in
theorem cod_M_clauses : (Cond.code y_M_clauses b_M_clauses 1 (some .int) : Cond) ∈ lw_gd := List.mem_filter.mpr ⟨List.mem_append_right _ (List.mem_of_getElem? (i := 611) rfl), rfl⟩
set_option maxRecDepth 20000 in
theorem cod_M_literals : (Cond.code y_M_literals b_M_literals 2 (some .int) : Cond) ∈ lw_gd := List.mem_filter.mpr ⟨List.mem_append_right _ (List.mem_of_getElem? (i := 615) rfl), rfl⟩
set_option maxRecDepth 20000 in
theorem cod_M_literal : (Cond.code y_M_literal b_M_literal 3 (some .int) : Cond) ∈ lw_gd := List.mem_filter.mpr ⟨List.mem_append_right _ (List.mem_of_getElem? (i := 619) rfl), rfl⟩
set_option maxRecDepth 20000 in
theorem cod_M_letter : (Cond.code y_M_letter b_M_letter 6 (some .int) : Cond) ∈ lw_gd := List.mem_filter.mpr ⟨List.mem_append_right _ (List.mem_of_getElem? (i := 623) rfl), rfl⟩
set_option maxRecDepth 20000 in
theorem cod_M_letterOf : (Cond.code y_M_letterOf b_M_letterOf 2 (some .int) : Cond) ∈ lw_gd := List.mem_filter.mpr ⟨List.mem_append_right _ (List.mem_of_getElem? (i := 626) rfl), rfl⟩
set_option maxRecDepth 20000 in
theorem cod_M_subsumes : (Cond.code y_M_subsumes b_M_subsumes 9 (some .boolean) : Cond) ∈ lw_gd := List.mem_filter.mpr ⟨List.mem_append_right _ (List.mem_of_getElem? (i := 630) rfl), rfl⟩
set_option maxRecDepth 20000 in
theorem cod_M_replaced : (Cond.code y_M_replaced b_M_replaced 4 (some .int) : Cond) ∈ lw_gd := List.mem_filter.mpr ⟨List.mem_append_right _ (List.mem_of_getElem? (i := 633) rfl), rfl⟩
set_option maxRecDepth 20000 in
theorem cod_M_given : (Cond.code y_M_given b_M_given 3 (some .int) : Cond) ∈ lw_gd := List.mem_filter.mpr ⟨List.mem_append_right _ (List.mem_of_getElem? (i := 637) rfl), rfl⟩
set_option maxRecDepth 20000 in
theorem cod_M_work : (Cond.code y_M_work b_M_work 3 none : Cond) ∈ lw_gd := List.mem_filter.mpr ⟨List.mem_append_right _ (List.mem_of_getElem? (i := 641) rfl), rfl⟩
set_option maxRecDepth 20000 in
theorem cod_M_follows : (Cond.code y_M_follows b_M_follows 7 (some .boolean) : Cond) ∈ lw_gd := List.mem_filter.mpr ⟨List.mem_append_right _ (List.mem_of_getElem? (i := 645) rfl), rfl⟩
set_option maxRecDepth 20000 in
theorem cod_M_literalHolds : (Cond.code y_M_literalHolds b_M_literalHolds 8 (some .boolean) : Cond) ∈ lw_gd := List.mem_filter.mpr ⟨List.mem_append_right _ (List.mem_of_getElem? (i := 649) rfl), rfl⟩
set_option maxRecDepth 20000 in
theorem cod_M_valueOf : (Cond.code y_M_valueOf b_M_valueOf 4 (some .int) : Cond) ∈ lw_gd := List.mem_filter.mpr ⟨List.mem_append_right _ (List.mem_of_getElem? (i := 652) rfl), rfl⟩
set_option maxRecDepth 20000 in
theorem cod_M_rounds : (Cond.code y_M_rounds b_M_rounds 1 (some .int) : Cond) ∈ lw_gd := List.mem_filter.mpr ⟨List.mem_append_right _ (List.mem_of_getElem? (i := 656) rfl), rfl⟩
set_option maxRecDepth 20000 in
theorem cod_M_fits : (Cond.code y_M_fits b_M_fits 3 (some .boolean) : Cond) ∈ lw_gd := List.mem_filter.mpr ⟨List.mem_append_right _ (List.mem_of_getElem? (i := 660) rfl), rfl⟩
set_option maxRecDepth 20000 in
theorem cod_M_learn : (Cond.code y_M_learn b_M_learn 2 (some .int) : Cond) ∈ lw_gd := List.mem_filter.mpr ⟨List.mem_append_right _ (List.mem_of_getElem? (i := 664) rfl), rfl⟩
set_option maxRecDepth 20000 in
theorem cod_M_keep : (Cond.code y_M_keep b_M_keep 2 none : Cond) ∈ lw_gd := List.mem_filter.mpr ⟨List.mem_append_right _ (List.mem_of_getElem? (i := 668) rfl), rfl⟩
set_option maxRecDepth 20000 in
theorem cod_M_alone : (Cond.code y_M_alone b_M_alone 6 (some .boolean) : Cond) ∈ lw_gd := List.mem_filter.mpr ⟨List.mem_append_right _ (List.mem_of_getElem? (i := 672) rfl), rfl⟩
set_option maxRecDepth 20000 in
theorem cod_M_set : (Cond.code y_M_set b_M_set 6 (some .boolean) : Cond) ∈ lw_gd := List.mem_filter.mpr ⟨List.mem_append_right _ (List.mem_of_getElem? (i := 676) rfl), rfl⟩
set_option maxRecDepth 20000 in
theorem cod_M_pair : (Cond.code y_M_pair b_M_pair 7 (some .boolean) : Cond) ∈ lw_gd := List.mem_filter.mpr ⟨List.mem_append_right _ (List.mem_of_getElem? (i := 681) rfl), rfl⟩
set_option maxRecDepth 20000 in
theorem cod_M_putBack : (Cond.code y_M_putBack b_M_putBack 2 none : Cond) ∈ lw_gd := List.mem_filter.mpr ⟨List.mem_append_right _ (List.mem_of_getElem? (i := 685) rfl), rfl⟩
