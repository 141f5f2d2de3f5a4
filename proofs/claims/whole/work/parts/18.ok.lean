/-! the tables are what they must be -/
theorem y_VM0 : ∀ M ∈ [m_Main_init, m_Row_init, m_Machine_init, m_Heap_init, m_Frame_init, m_Program_init, m_Main_feed, m_Main_putOnTape, m_Row_put, m_Main_read, m_Pieces_init, m_Reader_init, m_Scope_init, m_Reader_readProgram, m_Pieces_split, m_Pieces_skipBlanks, m_Row_at, m_Pieces_isBlank, m_Pieces_splitOne, m_Pieces_isLetter, m_Pieces_splitWord, m_Pieces_kindOfWord], mj_VM y_Y M := by
  refine List.forall_mem_cons.mpr ⟨mj_bm_ok vm_Main_init vi_Main_init, ?_⟩
  refine List.forall_mem_cons.mpr ⟨mj_bm_ok vm_Row_init vi_Row_init, ?_⟩
  refine List.forall_mem_cons.mpr ⟨mj_bm_ok vm_Machine_init vi_Machine_init, ?_⟩
  refine List.forall_mem_cons.mpr ⟨mj_bm_ok vm_Heap_init vi_Heap_init, ?_⟩
  refine List.forall_mem_cons.mpr ⟨mj_bm_ok vm_Frame_init vi_Frame_init, ?_⟩
  refine List.forall_mem_cons.mpr ⟨mj_bm_ok vm_Program_init vi_Program_init, ?_⟩
  refine List.forall_mem_cons.mpr ⟨mj_bm_ok vm_Main_feed vi_Main_feed, ?_⟩
  refine List.forall_mem_cons.mpr ⟨mj_bm_ok vm_Main_putOnTape vi_Main_putOnTape, ?_⟩
  refine List.forall_mem_cons.mpr ⟨mj_bm_ok vm_Row_put vi_Row_put, ?_⟩
  refine List.forall_mem_cons.mpr ⟨mj_bm_ok vm_Main_read vi_Main_read, ?_⟩
  refine List.forall_mem_cons.mpr ⟨mj_bm_ok vm_Pieces_init vi_Pieces_init, ?_⟩
  refine List.forall_mem_cons.mpr ⟨mj_bm_ok vm_Reader_init vi_Reader_init, ?_⟩
  refine List.forall_mem_cons.mpr ⟨mj_bm_ok vm_Scope_init vi_Scope_init, ?_⟩
  refine List.forall_mem_cons.mpr ⟨mj_bm_ok vm_Reader_readProgram vi_Reader_readProgram, ?_⟩
  refine List.forall_mem_cons.mpr ⟨mj_bm_ok vm_Pieces_split vi_Pieces_split, ?_⟩
  refine List.forall_mem_cons.mpr ⟨mj_bm_ok vm_Pieces_skipBlanks vi_Pieces_skipBlanks, ?_⟩
  refine List.forall_mem_cons.mpr ⟨mj_bm_ok vm_Row_at vi_Row_at, ?_⟩
  refine List.forall_mem_cons.mpr ⟨mj_bm_ok vm_Pieces_isBlank vi_Pieces_isBlank, ?_⟩
  refine List.forall_mem_cons.mpr ⟨mj_bm_ok vm_Pieces_splitOne vi_Pieces_splitOne, ?_⟩
  refine List.forall_mem_cons.mpr ⟨mj_bm_ok vm_Pieces_isLetter vi_Pieces_isLetter, ?_⟩
  refine List.forall_mem_cons.mpr ⟨mj_bm_ok vm_Pieces_splitWord vi_Pieces_splitWord, ?_⟩
  refine List.forall_mem_cons.mpr ⟨mj_bm_ok vm_Pieces_kindOfWord vi_Pieces_kindOfWord, ?_⟩
  exact fun _ h => absurd h List.not_mem_nil
theorem y_WM0 : ∀ M ∈ [m_Main_init, m_Row_init, m_Machine_init, m_Heap_init, m_Frame_init, m_Program_init, m_Main_feed, m_Main_putOnTape, m_Row_put, m_Main_read, m_Pieces_init, m_Reader_init, m_Scope_init, m_Reader_readProgram, m_Pieces_split, m_Pieces_skipBlanks, m_Row_at, m_Pieces_isBlank, m_Pieces_splitOne, m_Pieces_isLetter, m_Pieces_splitWord, m_Pieces_kindOfWord], ∀ w ∈ mj_wm y_Y M, mj_gw w = true ∧ w ∈ y_big := by
  refine List.forall_mem_cons.mpr ⟨y_pl_ok vp_Main_init vp_Main_init_g, ?_⟩
  refine List.forall_mem_cons.mpr ⟨y_pl_ok vp_Row_init vp_Row_init_g, ?_⟩
  refine List.forall_mem_cons.mpr ⟨y_pl_ok vp_Machine_init vp_Machine_init_g, ?_⟩
  refine List.forall_mem_cons.mpr ⟨y_pl_ok vp_Heap_init vp_Heap_init_g, ?_⟩
  refine List.forall_mem_cons.mpr ⟨y_pl_ok vp_Frame_init vp_Frame_init_g, ?_⟩
  refine List.forall_mem_cons.mpr ⟨y_pl_ok vp_Program_init vp_Program_init_g, ?_⟩
  refine List.forall_mem_cons.mpr ⟨y_pl_ok vp_Main_feed vp_Main_feed_g, ?_⟩
  refine List.forall_mem_cons.mpr ⟨y_pl_ok vp_Main_putOnTape vp_Main_putOnTape_g, ?_⟩
  refine List.forall_mem_cons.mpr ⟨y_pl_ok vp_Row_put vp_Row_put_g, ?_⟩
  refine List.forall_mem_cons.mpr ⟨y_pl_ok vp_Main_read vp_Main_read_g, ?_⟩
  refine List.forall_mem_cons.mpr ⟨y_pl_ok vp_Pieces_init vp_Pieces_init_g, ?_⟩
  refine List.forall_mem_cons.mpr ⟨y_pl_ok vp_Reader_init vp_Reader_init_g, ?_⟩
  refine List.forall_mem_cons.mpr ⟨y_pl_ok vp_Scope_init vp_Scope_init_g, ?_⟩
  refine List.forall_mem_cons.mpr ⟨y_pl_ok vp_Reader_readProgram vp_Reader_readProgram_g, ?_⟩
  refine List.forall_mem_cons.mpr ⟨y_pl_ok vp_Pieces_split vp_Pieces_split_g, ?_⟩
  refine List.forall_mem_cons.mpr ⟨y_pl_ok vp_Pieces_skipBlanks vp_Pieces_skipBlanks_g, ?_⟩
  refine List.forall_mem_cons.mpr ⟨y_pl_ok vp_Row_at vp_Row_at_g, ?_⟩
  refine List.forall_mem_cons.mpr ⟨y_pl_ok vp_Pieces_isBlank vp_Pieces_isBlank_g, ?_⟩
  refine List.forall_mem_cons.mpr ⟨y_pl_ok vp_Pieces_splitOne vp_Pieces_splitOne_g, ?_⟩
  refine List.forall_mem_cons.mpr ⟨y_pl_ok vp_Pieces_isLetter vp_Pieces_isLetter_g, ?_⟩
  refine List.forall_mem_cons.mpr ⟨y_pl_ok vp_Pieces_splitWord vp_Pieces_splitWord_g, ?_⟩
  refine List.forall_mem_cons.mpr ⟨y_pl_ok vp_Pieces_kindOfWord vp_Pieces_kindOfWord_g, ?_⟩
  exact fun _ h => absurd h List.not_mem_nil
theorem y_VM1 : ∀ M ∈ [m_Pieces_keep, m_Pieces_isDigit, m_Pieces_splitNumber, m_Pieces_advance, m_Reader_readDefinition, m_Reader_definitionOf, m_Reader_refuse, m_Reader_openUnit, m_Unit_init, m_Scope_enter, m_Reader_bindNames, m_Reader_goesOn, m_Scope_isAmongLast, m_Scope_bind, m_Scope_unitAt, m_Reader_take, m_Reader_readTerm, m_Reader_kindOfTerm, m_Term_init, m_Scope_resolve, m_Scope_bindingOf, m_Unit_fieldOf], mj_VM y_Y M := by
  refine List.forall_mem_cons.mpr ⟨mj_bm_ok vm_Pieces_keep vi_Pieces_keep, ?_⟩
  refine List.forall_mem_cons.mpr ⟨mj_bm_ok vm_Pieces_isDigit vi_Pieces_isDigit, ?_⟩
  refine List.forall_mem_cons.mpr ⟨mj_bm_ok vm_Pieces_splitNumber vi_Pieces_splitNumber, ?_⟩
  refine List.forall_mem_cons.mpr ⟨mj_bm_ok vm_Pieces_advance vi_Pieces_advance, ?_⟩
  refine List.forall_mem_cons.mpr ⟨mj_bm_ok vm_Reader_readDefinition vi_Reader_readDefinition, ?_⟩
  refine List.forall_mem_cons.mpr ⟨mj_bm_ok vm_Reader_definitionOf vi_Reader_definitionOf, ?_⟩
  refine List.forall_mem_cons.mpr ⟨mj_bm_ok vm_Reader_refuse vi_Reader_refuse, ?_⟩
  refine List.forall_mem_cons.mpr ⟨mj_bm_ok vm_Reader_openUnit vi_Reader_openUnit, ?_⟩
  refine List.forall_mem_cons.mpr ⟨mj_bm_ok vm_Unit_init vi_Unit_init, ?_⟩
  refine List.forall_mem_cons.mpr ⟨mj_bm_ok vm_Scope_enter vi_Scope_enter, ?_⟩
  refine List.forall_mem_cons.mpr ⟨mj_bm_ok vm_Reader_bindNames vi_Reader_bindNames, ?_⟩
  refine List.forall_mem_cons.mpr ⟨mj_bm_ok vm_Reader_goesOn vi_Reader_goesOn, ?_⟩
  refine List.forall_mem_cons.mpr ⟨mj_bm_ok vm_Scope_isAmongLast vi_Scope_isAmongLast, ?_⟩
  refine List.forall_mem_cons.mpr ⟨mj_bm_ok vm_Scope_bind vi_Scope_bind, ?_⟩
  refine List.forall_mem_cons.mpr ⟨mj_bm_ok vm_Scope_unitAt vi_Scope_unitAt, ?_⟩
  refine List.forall_mem_cons.mpr ⟨mj_bm_ok vm_Reader_take vi_Reader_take, ?_⟩
  refine List.forall_mem_cons.mpr ⟨mj_bm_ok vm_Reader_readTerm vi_Reader_readTerm, ?_⟩
  refine List.forall_mem_cons.mpr ⟨mj_bm_ok vm_Reader_kindOfTerm vi_Reader_kindOfTerm, ?_⟩
  refine List.forall_mem_cons.mpr ⟨mj_bm_ok vm_Term_init vi_Term_init, ?_⟩
  refine List.forall_mem_cons.mpr ⟨mj_bm_ok vm_Scope_resolve vi_Scope_resolve, ?_⟩
  refine List.forall_mem_cons.mpr ⟨mj_bm_ok vm_Scope_bindingOf vi_Scope_bindingOf, ?_⟩
  refine List.forall_mem_cons.mpr ⟨mj_bm_ok vm_Unit_fieldOf vi_Unit_fieldOf, ?_⟩
  exact fun _ h => absurd h List.not_mem_nil
theorem y_WM1 : ∀ M ∈ [m_Pieces_keep, m_Pieces_isDigit, m_Pieces_splitNumber, m_Pieces_advance, m_Reader_readDefinition, m_Reader_definitionOf, m_Reader_refuse, m_Reader_openUnit, m_Unit_init, m_Scope_enter, m_Reader_bindNames, m_Reader_goesOn, m_Scope_isAmongLast, m_Scope_bind, m_Scope_unitAt, m_Reader_take, m_Reader_readTerm, m_Reader_kindOfTerm, m_Term_init, m_Scope_resolve, m_Scope_bindingOf, m_Unit_fieldOf], ∀ w ∈ mj_wm y_Y M, mj_gw w = true ∧ w ∈ y_big := by
  refine List.forall_mem_cons.mpr ⟨y_pl_ok vp_Pieces_keep vp_Pieces_keep_g, ?_⟩
  refine List.forall_mem_cons.mpr ⟨y_pl_ok vp_Pieces_isDigit vp_Pieces_isDigit_g, ?_⟩
  refine List.forall_mem_cons.mpr ⟨y_pl_ok vp_Pieces_splitNumber vp_Pieces_splitNumber_g, ?_⟩
  refine List.forall_mem_cons.mpr ⟨y_pl_ok vp_Pieces_advance vp_Pieces_advance_g, ?_⟩
  refine List.forall_mem_cons.mpr ⟨y_pl_ok vp_Reader_readDefinition vp_Reader_readDefinition_g, ?_⟩
  refine List.forall_mem_cons.mpr ⟨y_pl_ok vp_Reader_definitionOf vp_Reader_definitionOf_g, ?_⟩
  refine List.forall_mem_cons.mpr ⟨y_pl_ok vp_Reader_refuse vp_Reader_refuse_g, ?_⟩
  refine List.forall_mem_cons.mpr ⟨y_pl_ok vp_Reader_openUnit vp_Reader_openUnit_g, ?_⟩
  refine List.forall_mem_cons.mpr ⟨y_pl_ok vp_Unit_init vp_Unit_init_g, ?_⟩
  refine List.forall_mem_cons.mpr ⟨y_pl_ok vp_Scope_enter vp_Scope_enter_g, ?_⟩
  refine List.forall_mem_cons.mpr ⟨y_pl_ok vp_Reader_bindNames vp_Reader_bindNames_g, ?_⟩
  refine List.forall_mem_cons.mpr ⟨y_pl_ok vp_Reader_goesOn vp_Reader_goesOn_g, ?_⟩
  refine List.forall_mem_cons.mpr ⟨y_pl_ok vp_Scope_isAmongLast vp_Scope_isAmongLast_g, ?_⟩
  refine List.forall_mem_cons.mpr ⟨y_pl_ok vp_Scope_bind vp_Scope_bind_g, ?_⟩
  refine List.forall_mem_cons.mpr ⟨y_pl_ok vp_Scope_unitAt vp_Scope_unitAt_g, ?_⟩
  refine List.forall_mem_cons.mpr ⟨y_pl_ok vp_Reader_take vp_Reader_take_g, ?_⟩
  refine List.forall_mem_cons.mpr ⟨y_pl_ok vp_Reader_readTerm vp_Reader_readTerm_g, ?_⟩
  refine List.forall_mem_cons.mpr ⟨y_pl_ok vp_Reader_kindOfTerm vp_Reader_kindOfTerm_g, ?_⟩
  refine List.forall_mem_cons.mpr ⟨y_pl_ok vp_Term_init vp_Term_init_g, ?_⟩
  refine List.forall_mem_cons.mpr ⟨y_pl_ok vp_Scope_resolve vp_Scope_resolve_g, ?_⟩
  refine List.forall_mem_cons.mpr ⟨y_pl_ok vp_Scope_bindingOf vp_Scope_bindingOf_g, ?_⟩
  refine List.forall_mem_cons.mpr ⟨y_pl_ok vp_Unit_fieldOf vp_Unit_fieldOf_g, ?_⟩
  exact fun _ h => absurd h List.not_mem_nil
theorem y_VM2 : ∀ M ∈ [m_Reader_takeNumber, m_Reader_readCall, m_Term_add, m_Reader_readOperand, m_Scope_leave, m_Reader_readFunction, m_Scope_unbind, m_Reader_readLet, m_Reader_readConstructor, m_Reader_readChoice, m_Reader_readAlternative, m_Reader_hasAlternative, m_Reader_readOperator, m_Reader_findDefinitions, m_Reader_mainUnit, m_Writer_init, m_Writer_writeUnits, m_Program_addUnit, m_Writer_writeHead, m_Program_add, m_Unit_whereOf, m_Unit_numberOf], mj_VM y_Y M := by
  refine List.forall_mem_cons.mpr ⟨mj_bm_ok vm_Reader_takeNumber vi_Reader_takeNumber, ?_⟩
  refine List.forall_mem_cons.mpr ⟨mj_bm_ok vm_Reader_readCall vi_Reader_readCall, ?_⟩
  refine List.forall_mem_cons.mpr ⟨mj_bm_ok vm_Term_add vi_Term_add, ?_⟩
  refine List.forall_mem_cons.mpr ⟨mj_bm_ok vm_Reader_readOperand vi_Reader_readOperand, ?_⟩
  refine List.forall_mem_cons.mpr ⟨mj_bm_ok vm_Scope_leave vi_Scope_leave, ?_⟩
  refine List.forall_mem_cons.mpr ⟨mj_bm_ok vm_Reader_readFunction vi_Reader_readFunction, ?_⟩
  refine List.forall_mem_cons.mpr ⟨mj_bm_ok vm_Scope_unbind vi_Scope_unbind, ?_⟩
  refine List.forall_mem_cons.mpr ⟨mj_bm_ok vm_Reader_readLet vi_Reader_readLet, ?_⟩
  refine List.forall_mem_cons.mpr ⟨mj_bm_ok vm_Reader_readConstructor vi_Reader_readConstructor, ?_⟩
  refine List.forall_mem_cons.mpr ⟨mj_bm_ok vm_Reader_readChoice vi_Reader_readChoice, ?_⟩
  refine List.forall_mem_cons.mpr ⟨mj_bm_ok vm_Reader_readAlternative vi_Reader_readAlternative, ?_⟩
  refine List.forall_mem_cons.mpr ⟨mj_bm_ok vm_Reader_hasAlternative vi_Reader_hasAlternative, ?_⟩
  refine List.forall_mem_cons.mpr ⟨mj_bm_ok vm_Reader_readOperator vi_Reader_readOperator, ?_⟩
  refine List.forall_mem_cons.mpr ⟨mj_bm_ok vm_Reader_findDefinitions vi_Reader_findDefinitions, ?_⟩
  refine List.forall_mem_cons.mpr ⟨mj_bm_ok vm_Reader_mainUnit vi_Reader_mainUnit, ?_⟩
  refine List.forall_mem_cons.mpr ⟨mj_bm_ok vm_Writer_init vi_Writer_init, ?_⟩
  refine List.forall_mem_cons.mpr ⟨mj_bm_ok vm_Writer_writeUnits vi_Writer_writeUnits, ?_⟩
  refine List.forall_mem_cons.mpr ⟨mj_bm_ok vm_Program_addUnit vi_Program_addUnit, ?_⟩
  refine List.forall_mem_cons.mpr ⟨mj_bm_ok vm_Writer_writeHead vi_Writer_writeHead, ?_⟩
  refine List.forall_mem_cons.mpr ⟨mj_bm_ok vm_Program_add vi_Program_add, ?_⟩
  refine List.forall_mem_cons.mpr ⟨mj_bm_ok vm_Unit_whereOf vi_Unit_whereOf, ?_⟩
  refine List.forall_mem_cons.mpr ⟨mj_bm_ok vm_Unit_numberOf vi_Unit_numberOf, ?_⟩
  exact fun _ h => absurd h List.not_mem_nil
theorem y_WM2 : ∀ M ∈ [m_Reader_takeNumber, m_Reader_readCall, m_Term_add, m_Reader_readOperand, m_Scope_leave, m_Reader_readFunction, m_Scope_unbind, m_Reader_readLet, m_Reader_readConstructor, m_Reader_readChoice, m_Reader_readAlternative, m_Reader_hasAlternative, m_Reader_readOperator, m_Reader_findDefinitions, m_Reader_mainUnit, m_Writer_init, m_Writer_writeUnits, m_Program_addUnit, m_Writer_writeHead, m_Program_add, m_Unit_whereOf, m_Unit_numberOf], ∀ w ∈ mj_wm y_Y M, mj_gw w = true ∧ w ∈ y_big := by
  refine List.forall_mem_cons.mpr ⟨y_pl_ok vp_Reader_takeNumber vp_Reader_takeNumber_g, ?_⟩
  refine List.forall_mem_cons.mpr ⟨y_pl_ok vp_Reader_readCall vp_Reader_readCall_g, ?_⟩
  refine List.forall_mem_cons.mpr ⟨y_pl_ok vp_Term_add vp_Term_add_g, ?_⟩
  refine List.forall_mem_cons.mpr ⟨y_pl_ok vp_Reader_readOperand vp_Reader_readOperand_g, ?_⟩
  refine List.forall_mem_cons.mpr ⟨y_pl_ok vp_Scope_leave vp_Scope_leave_g, ?_⟩
  refine List.forall_mem_cons.mpr ⟨y_pl_ok vp_Reader_readFunction vp_Reader_readFunction_g, ?_⟩
  refine List.forall_mem_cons.mpr ⟨y_pl_ok vp_Scope_unbind vp_Scope_unbind_g, ?_⟩
  refine List.forall_mem_cons.mpr ⟨y_pl_ok vp_Reader_readLet vp_Reader_readLet_g, ?_⟩
  refine List.forall_mem_cons.mpr ⟨y_pl_ok vp_Reader_readConstructor vp_Reader_readConstructor_g, ?_⟩
  refine List.forall_mem_cons.mpr ⟨y_pl_ok vp_Reader_readChoice vp_Reader_readChoice_g, ?_⟩
  refine List.forall_mem_cons.mpr ⟨y_pl_ok vp_Reader_readAlternative vp_Reader_readAlternative_g, ?_⟩
  refine List.forall_mem_cons.mpr ⟨y_pl_ok vp_Reader_hasAlternative vp_Reader_hasAlternative_g, ?_⟩
  refine List.forall_mem_cons.mpr ⟨y_pl_ok vp_Reader_readOperator vp_Reader_readOperator_g, ?_⟩
  refine List.forall_mem_cons.mpr ⟨y_pl_ok vp_Reader_findDefinitions vp_Reader_findDefinitions_g, ?_⟩
  refine List.forall_mem_cons.mpr ⟨y_pl_ok vp_Reader_mainUnit vp_Reader_mainUnit_g, ?_⟩
  refine List.forall_mem_cons.mpr ⟨y_pl_ok vp_Writer_init vp_Writer_init_g, ?_⟩
  refine List.forall_mem_cons.mpr ⟨y_pl_ok vp_Writer_writeUnits vp_Writer_writeUnits_g, ?_⟩
  refine List.forall_mem_cons.mpr ⟨y_pl_ok vp_Program_addUnit vp_Program_addUnit_g, ?_⟩
  refine List.forall_mem_cons.mpr ⟨y_pl_ok vp_Writer_writeHead vp_Writer_writeHead_g, ?_⟩
  refine List.forall_mem_cons.mpr ⟨y_pl_ok vp_Program_add vp_Program_add_g, ?_⟩
  refine List.forall_mem_cons.mpr ⟨y_pl_ok vp_Unit_whereOf vp_Unit_whereOf_g, ?_⟩
  refine List.forall_mem_cons.mpr ⟨y_pl_ok vp_Unit_numberOf vp_Unit_numberOf_g, ?_⟩
  exact fun _ h => absurd h List.not_mem_nil
theorem y_VM3 : ∀ M ∈ [m_Writer_writeTerm, m_Writer_writeOperands, m_Writer_writeParts, m_Writer_writeAlternatives, m_Program_putLength, m_Program_endTerm, m_Machine_forget, m_Main_size, m_Program_hasUnit, m_Program_unitLength, m_Main_byteAt, m_Program_unitStart, m_Program_codeAt, m_Main_run, m_Machine_start, m_Heap_empty, m_Machine_standAt, m_Machine_enter, m_Program_termOf, m_Machine_turnTo, m_Machine_go, m_Machine_doTerm], mj_VM y_Y M := by
  refine List.forall_mem_cons.mpr ⟨mj_bm_ok vm_Writer_writeTerm vi_Writer_writeTerm, ?_⟩
  refine List.forall_mem_cons.mpr ⟨mj_bm_ok vm_Writer_writeOperands vi_Writer_writeOperands, ?_⟩
  refine List.forall_mem_cons.mpr ⟨mj_bm_ok vm_Writer_writeParts vi_Writer_writeParts, ?_⟩
  refine List.forall_mem_cons.mpr ⟨mj_bm_ok vm_Writer_writeAlternatives vi_Writer_writeAlternatives, ?_⟩
  refine List.forall_mem_cons.mpr ⟨mj_bm_ok vm_Program_putLength vi_Program_putLength, ?_⟩
  refine List.forall_mem_cons.mpr ⟨mj_bm_ok vm_Program_endTerm vi_Program_endTerm, ?_⟩
  refine List.forall_mem_cons.mpr ⟨mj_bm_ok vm_Machine_forget vi_Machine_forget, ?_⟩
  refine List.forall_mem_cons.mpr ⟨mj_bm_ok vm_Main_size vi_Main_size, ?_⟩
  refine List.forall_mem_cons.mpr ⟨mj_bm_ok vm_Program_hasUnit vi_Program_hasUnit, ?_⟩
  refine List.forall_mem_cons.mpr ⟨mj_bm_ok vm_Program_unitLength vi_Program_unitLength, ?_⟩
  refine List.forall_mem_cons.mpr ⟨mj_bm_ok vm_Main_byteAt vi_Main_byteAt, ?_⟩
  refine List.forall_mem_cons.mpr ⟨mj_bm_ok vm_Program_unitStart vi_Program_unitStart, ?_⟩
  refine List.forall_mem_cons.mpr ⟨mj_bm_ok vm_Program_codeAt vi_Program_codeAt, ?_⟩
  refine List.forall_mem_cons.mpr ⟨mj_bm_ok vm_Main_run vi_Main_run, ?_⟩
  refine List.forall_mem_cons.mpr ⟨mj_bm_ok vm_Machine_start vi_Machine_start, ?_⟩
  refine List.forall_mem_cons.mpr ⟨mj_bm_ok vm_Heap_empty vi_Heap_empty, ?_⟩
  refine List.forall_mem_cons.mpr ⟨mj_bm_ok vm_Machine_standAt vi_Machine_standAt, ?_⟩
  refine List.forall_mem_cons.mpr ⟨mj_bm_ok vm_Machine_enter vi_Machine_enter, ?_⟩
  refine List.forall_mem_cons.mpr ⟨mj_bm_ok vm_Program_termOf vi_Program_termOf, ?_⟩
  refine List.forall_mem_cons.mpr ⟨mj_bm_ok vm_Machine_turnTo vi_Machine_turnTo, ?_⟩
  refine List.forall_mem_cons.mpr ⟨mj_bm_ok vm_Machine_go vi_Machine_go, ?_⟩
  refine List.forall_mem_cons.mpr ⟨mj_bm_ok vm_Machine_doTerm vi_Machine_doTerm, ?_⟩
  exact fun _ h => absurd h List.not_mem_nil
theorem y_WM3 : ∀ M ∈ [m_Writer_writeTerm, m_Writer_writeOperands, m_Writer_writeParts, m_Writer_writeAlternatives, m_Program_putLength, m_Program_endTerm, m_Machine_forget, m_Main_size, m_Program_hasUnit, m_Program_unitLength, m_Main_byteAt, m_Program_unitStart, m_Program_codeAt, m_Main_run, m_Machine_start, m_Heap_empty, m_Machine_standAt, m_Machine_enter, m_Program_termOf, m_Machine_turnTo, m_Machine_go, m_Machine_doTerm], ∀ w ∈ mj_wm y_Y M, mj_gw w = true ∧ w ∈ y_big := by
  refine List.forall_mem_cons.mpr ⟨y_pl_ok vp_Writer_writeTerm vp_Writer_writeTerm_g, ?_⟩
  refine List.forall_mem_cons.mpr ⟨y_pl_ok vp_Writer_writeOperands vp_Writer_writeOperands_g, ?_⟩
  refine List.forall_mem_cons.mpr ⟨y_pl_ok vp_Writer_writeParts vp_Writer_writeParts_g, ?_⟩
  refine List.forall_mem_cons.mpr ⟨y_pl_ok vp_Writer_writeAlternatives vp_Writer_writeAlternatives_g, ?_⟩
  refine List.forall_mem_cons.mpr ⟨y_pl_ok vp_Program_putLength vp_Program_putLength_g, ?_⟩
  refine List.forall_mem_cons.mpr ⟨y_pl_ok vp_Program_endTerm vp_Program_endTerm_g, ?_⟩
  refine List.forall_mem_cons.mpr ⟨y_pl_ok vp_Machine_forget vp_Machine_forget_g, ?_⟩
  refine List.forall_mem_cons.mpr ⟨y_pl_ok vp_Main_size vp_Main_size_g, ?_⟩
  refine List.forall_mem_cons.mpr ⟨y_pl_ok vp_Program_hasUnit vp_Program_hasUnit_g, ?_⟩
  refine List.forall_mem_cons.mpr ⟨y_pl_ok vp_Program_unitLength vp_Program_unitLength_g, ?_⟩
  refine List.forall_mem_cons.mpr ⟨y_pl_ok vp_Main_byteAt vp_Main_byteAt_g, ?_⟩
  refine List.forall_mem_cons.mpr ⟨y_pl_ok vp_Program_unitStart vp_Program_unitStart_g, ?_⟩
  refine List.forall_mem_cons.mpr ⟨y_pl_ok vp_Program_codeAt vp_Program_codeAt_g, ?_⟩
  refine List.forall_mem_cons.mpr ⟨y_pl_ok vp_Main_run vp_Main_run_g, ?_⟩
  refine List.forall_mem_cons.mpr ⟨y_pl_ok vp_Machine_start vp_Machine_start_g, ?_⟩
  refine List.forall_mem_cons.mpr ⟨y_pl_ok vp_Heap_empty vp_Heap_empty_g, ?_⟩
  refine List.forall_mem_cons.mpr ⟨y_pl_ok vp_Machine_standAt vp_Machine_standAt_g, ?_⟩
  refine List.forall_mem_cons.mpr ⟨y_pl_ok vp_Machine_enter vp_Machine_enter_g, ?_⟩
  refine List.forall_mem_cons.mpr ⟨y_pl_ok vp_Program_termOf vp_Program_termOf_g, ?_⟩
  refine List.forall_mem_cons.mpr ⟨y_pl_ok vp_Machine_turnTo vp_Machine_turnTo_g, ?_⟩
  refine List.forall_mem_cons.mpr ⟨y_pl_ok vp_Machine_go vp_Machine_go_g, ?_⟩
  refine List.forall_mem_cons.mpr ⟨y_pl_ok vp_Machine_doTerm vp_Machine_doTerm_g, ?_⟩
  exact fun _ h => absurd h List.not_mem_nil
theorem y_VM4 : ∀ M ∈ [m_Program_fourAt, m_Heap_value, m_Machine_give, m_Machine_whatIsAt, m_Machine_boundAt, m_Row_longAt, m_Heap_field, m_Program_definitionUnit, m_Program_parametersOf, m_Heap_make, m_Heap_put, m_Machine_objectValue, m_Machine_fail, m_Machine_giveValueOf, m_Heap_objectKind, m_Heap_kindOf, m_Heap_numberOf, m_Heap_get, m_Heap_settled, m_Machine_deepen, m_Frame_copy, m_Heap_markUnderWay], mj_VM y_Y M := by
  refine List.forall_mem_cons.mpr ⟨mj_bm_ok vm_Program_fourAt vi_Program_fourAt, ?_⟩
  refine List.forall_mem_cons.mpr ⟨mj_bm_ok vm_Heap_value vi_Heap_value, ?_⟩
  refine List.forall_mem_cons.mpr ⟨mj_bm_ok vm_Machine_give vi_Machine_give, ?_⟩
  refine List.forall_mem_cons.mpr ⟨mj_bm_ok vm_Machine_whatIsAt vi_Machine_whatIsAt, ?_⟩
  refine List.forall_mem_cons.mpr ⟨mj_bm_ok vm_Machine_boundAt vi_Machine_boundAt, ?_⟩
  refine List.forall_mem_cons.mpr ⟨mj_bm_ok vm_Row_longAt vi_Row_longAt, ?_⟩
  refine List.forall_mem_cons.mpr ⟨mj_bm_ok vm_Heap_field vi_Heap_field, ?_⟩
  refine List.forall_mem_cons.mpr ⟨mj_bm_ok vm_Program_definitionUnit vi_Program_definitionUnit, ?_⟩
  refine List.forall_mem_cons.mpr ⟨mj_bm_ok vm_Program_parametersOf vi_Program_parametersOf, ?_⟩
  refine List.forall_mem_cons.mpr ⟨mj_bm_ok vm_Heap_make vi_Heap_make, ?_⟩
  refine List.forall_mem_cons.mpr ⟨mj_bm_ok vm_Heap_put vi_Heap_put, ?_⟩
  refine List.forall_mem_cons.mpr ⟨mj_bm_ok vm_Machine_objectValue vi_Machine_objectValue, ?_⟩
  refine List.forall_mem_cons.mpr ⟨mj_bm_ok vm_Machine_fail vi_Machine_fail, ?_⟩
  refine List.forall_mem_cons.mpr ⟨mj_bm_ok vm_Machine_giveValueOf vi_Machine_giveValueOf, ?_⟩
  refine List.forall_mem_cons.mpr ⟨mj_bm_ok vm_Heap_objectKind vi_Heap_objectKind, ?_⟩
  refine List.forall_mem_cons.mpr ⟨mj_bm_ok vm_Heap_kindOf vi_Heap_kindOf, ?_⟩
  refine List.forall_mem_cons.mpr ⟨mj_bm_ok vm_Heap_numberOf vi_Heap_numberOf, ?_⟩
  refine List.forall_mem_cons.mpr ⟨mj_bm_ok vm_Heap_get vi_Heap_get, ?_⟩
  refine List.forall_mem_cons.mpr ⟨mj_bm_ok vm_Heap_settled vi_Heap_settled, ?_⟩
  refine List.forall_mem_cons.mpr ⟨mj_bm_ok vm_Machine_deepen vi_Machine_deepen, ?_⟩
  refine List.forall_mem_cons.mpr ⟨mj_bm_ok vm_Frame_copy vi_Frame_copy, ?_⟩
  refine List.forall_mem_cons.mpr ⟨mj_bm_ok vm_Heap_markUnderWay vi_Heap_markUnderWay, ?_⟩
  exact fun _ h => absurd h List.not_mem_nil
theorem y_WM4 : ∀ M ∈ [m_Program_fourAt, m_Heap_value, m_Machine_give, m_Machine_whatIsAt, m_Machine_boundAt, m_Row_longAt, m_Heap_field, m_Program_definitionUnit, m_Program_parametersOf, m_Heap_make, m_Heap_put, m_Machine_objectValue, m_Machine_fail, m_Machine_giveValueOf, m_Heap_objectKind, m_Heap_kindOf, m_Heap_numberOf, m_Heap_get, m_Heap_settled, m_Machine_deepen, m_Frame_copy, m_Heap_markUnderWay], ∀ w ∈ mj_wm y_Y M, mj_gw w = true ∧ w ∈ y_big := by
  refine List.forall_mem_cons.mpr ⟨y_pl_ok vp_Program_fourAt vp_Program_fourAt_g, ?_⟩
  refine List.forall_mem_cons.mpr ⟨y_pl_ok vp_Heap_value vp_Heap_value_g, ?_⟩
  refine List.forall_mem_cons.mpr ⟨y_pl_ok vp_Machine_give vp_Machine_give_g, ?_⟩
  refine List.forall_mem_cons.mpr ⟨y_pl_ok vp_Machine_whatIsAt vp_Machine_whatIsAt_g, ?_⟩
  refine List.forall_mem_cons.mpr ⟨y_pl_ok vp_Machine_boundAt vp_Machine_boundAt_g, ?_⟩
  refine List.forall_mem_cons.mpr ⟨y_pl_ok vp_Row_longAt vp_Row_longAt_g, ?_⟩
  refine List.forall_mem_cons.mpr ⟨y_pl_ok vp_Heap_field vp_Heap_field_g, ?_⟩
  refine List.forall_mem_cons.mpr ⟨y_pl_ok vp_Program_definitionUnit vp_Program_definitionUnit_g, ?_⟩
  refine List.forall_mem_cons.mpr ⟨y_pl_ok vp_Program_parametersOf vp_Program_parametersOf_g, ?_⟩
  refine List.forall_mem_cons.mpr ⟨y_pl_ok vp_Heap_make vp_Heap_make_g, ?_⟩
  refine List.forall_mem_cons.mpr ⟨y_pl_ok vp_Heap_put vp_Heap_put_g, ?_⟩
  refine List.forall_mem_cons.mpr ⟨y_pl_ok vp_Machine_objectValue vp_Machine_objectValue_g, ?_⟩
  refine List.forall_mem_cons.mpr ⟨y_pl_ok vp_Machine_fail vp_Machine_fail_g, ?_⟩
  refine List.forall_mem_cons.mpr ⟨y_pl_ok vp_Machine_giveValueOf vp_Machine_giveValueOf_g, ?_⟩
  refine List.forall_mem_cons.mpr ⟨y_pl_ok vp_Heap_objectKind vp_Heap_objectKind_g, ?_⟩
  refine List.forall_mem_cons.mpr ⟨y_pl_ok vp_Heap_kindOf vp_Heap_kindOf_g, ?_⟩
  refine List.forall_mem_cons.mpr ⟨y_pl_ok vp_Heap_numberOf vp_Heap_numberOf_g, ?_⟩
  refine List.forall_mem_cons.mpr ⟨y_pl_ok vp_Heap_get vp_Heap_get_g, ?_⟩
  refine List.forall_mem_cons.mpr ⟨y_pl_ok vp_Heap_settled vp_Heap_settled_g, ?_⟩
  refine List.forall_mem_cons.mpr ⟨y_pl_ok vp_Machine_deepen vp_Machine_deepen_g, ?_⟩
  refine List.forall_mem_cons.mpr ⟨y_pl_ok vp_Frame_copy vp_Frame_copy_g, ?_⟩
  refine List.forall_mem_cons.mpr ⟨y_pl_ok vp_Heap_markUnderWay vp_Heap_markUnderWay_g, ?_⟩
  exact fun _ h => absurd h List.not_mem_nil
theorem y_VM5 : ∀ M ∈ [m_Heap_whatOf, m_Machine_want, m_Program_twoAt, m_Machine_makeUnit, m_Program_fieldsOf, m_Program_fieldPlaces, m_Heap_putField, m_Machine_doLet, m_Machine_makeArguments, m_Machine_doConstructor, m_Machine_makeWithArguments, m_Heap_fieldsOf, m_Machine_useValue, m_Heap_setTo, m_Machine_callValue, m_Machine_isCallable, m_Machine_takeStep, m_Heap_isFunction, m_Program_behindTerm, m_Machine_callWithRest, m_Machine_choose, m_Heap_isConstructor], mj_VM y_Y M := by
  refine List.forall_mem_cons.mpr ⟨mj_bm_ok vm_Heap_whatOf vi_Heap_whatOf, ?_⟩
  refine List.forall_mem_cons.mpr ⟨mj_bm_ok vm_Machine_want vi_Machine_want, ?_⟩
  refine List.forall_mem_cons.mpr ⟨mj_bm_ok vm_Program_twoAt vi_Program_twoAt, ?_⟩
  refine List.forall_mem_cons.mpr ⟨mj_bm_ok vm_Machine_makeUnit vi_Machine_makeUnit, ?_⟩
  refine List.forall_mem_cons.mpr ⟨mj_bm_ok vm_Program_fieldsOf vi_Program_fieldsOf, ?_⟩
  refine List.forall_mem_cons.mpr ⟨mj_bm_ok vm_Program_fieldPlaces vi_Program_fieldPlaces, ?_⟩
  refine List.forall_mem_cons.mpr ⟨mj_bm_ok vm_Heap_putField vi_Heap_putField, ?_⟩
  refine List.forall_mem_cons.mpr ⟨mj_bm_ok vm_Machine_doLet vi_Machine_doLet, ?_⟩
  refine List.forall_mem_cons.mpr ⟨mj_bm_ok vm_Machine_makeArguments vi_Machine_makeArguments, ?_⟩
  refine List.forall_mem_cons.mpr ⟨mj_bm_ok vm_Machine_doConstructor vi_Machine_doConstructor, ?_⟩
  refine List.forall_mem_cons.mpr ⟨mj_bm_ok vm_Machine_makeWithArguments vi_Machine_makeWithArguments, ?_⟩
  refine List.forall_mem_cons.mpr ⟨mj_bm_ok vm_Heap_fieldsOf vi_Heap_fieldsOf, ?_⟩
  refine List.forall_mem_cons.mpr ⟨mj_bm_ok vm_Machine_useValue vi_Machine_useValue, ?_⟩
  refine List.forall_mem_cons.mpr ⟨mj_bm_ok vm_Heap_setTo vi_Heap_setTo, ?_⟩
  refine List.forall_mem_cons.mpr ⟨mj_bm_ok vm_Machine_callValue vi_Machine_callValue, ?_⟩
  refine List.forall_mem_cons.mpr ⟨mj_bm_ok vm_Machine_isCallable vi_Machine_isCallable, ?_⟩
  refine List.forall_mem_cons.mpr ⟨mj_bm_ok vm_Machine_takeStep vi_Machine_takeStep, ?_⟩
  refine List.forall_mem_cons.mpr ⟨mj_bm_ok vm_Heap_isFunction vi_Heap_isFunction, ?_⟩
  refine List.forall_mem_cons.mpr ⟨mj_bm_ok vm_Program_behindTerm vi_Program_behindTerm, ?_⟩
  refine List.forall_mem_cons.mpr ⟨mj_bm_ok vm_Machine_callWithRest vi_Machine_callWithRest, ?_⟩
  refine List.forall_mem_cons.mpr ⟨mj_bm_ok vm_Machine_choose vi_Machine_choose, ?_⟩
  refine List.forall_mem_cons.mpr ⟨mj_bm_ok vm_Heap_isConstructor vi_Heap_isConstructor, ?_⟩
  exact fun _ h => absurd h List.not_mem_nil
theorem y_WM5 : ∀ M ∈ [m_Heap_whatOf, m_Machine_want, m_Program_twoAt, m_Machine_makeUnit, m_Program_fieldsOf, m_Program_fieldPlaces, m_Heap_putField, m_Machine_doLet, m_Machine_makeArguments, m_Machine_doConstructor, m_Machine_makeWithArguments, m_Heap_fieldsOf, m_Machine_useValue, m_Heap_setTo, m_Machine_callValue, m_Machine_isCallable, m_Machine_takeStep, m_Heap_isFunction, m_Program_behindTerm, m_Machine_callWithRest, m_Machine_choose, m_Heap_isConstructor], ∀ w ∈ mj_wm y_Y M, mj_gw w = true ∧ w ∈ y_big := by
  refine List.forall_mem_cons.mpr ⟨y_pl_ok vp_Heap_whatOf vp_Heap_whatOf_g, ?_⟩
  refine List.forall_mem_cons.mpr ⟨y_pl_ok vp_Machine_want vp_Machine_want_g, ?_⟩
  refine List.forall_mem_cons.mpr ⟨y_pl_ok vp_Program_twoAt vp_Program_twoAt_g, ?_⟩
  refine List.forall_mem_cons.mpr ⟨y_pl_ok vp_Machine_makeUnit vp_Machine_makeUnit_g, ?_⟩
  refine List.forall_mem_cons.mpr ⟨y_pl_ok vp_Program_fieldsOf vp_Program_fieldsOf_g, ?_⟩
  refine List.forall_mem_cons.mpr ⟨y_pl_ok vp_Program_fieldPlaces vp_Program_fieldPlaces_g, ?_⟩
  refine List.forall_mem_cons.mpr ⟨y_pl_ok vp_Heap_putField vp_Heap_putField_g, ?_⟩
  refine List.forall_mem_cons.mpr ⟨y_pl_ok vp_Machine_doLet vp_Machine_doLet_g, ?_⟩
  refine List.forall_mem_cons.mpr ⟨y_pl_ok vp_Machine_makeArguments vp_Machine_makeArguments_g, ?_⟩
  refine List.forall_mem_cons.mpr ⟨y_pl_ok vp_Machine_doConstructor vp_Machine_doConstructor_g, ?_⟩
  refine List.forall_mem_cons.mpr ⟨y_pl_ok vp_Machine_makeWithArguments vp_Machine_makeWithArguments_g, ?_⟩
  refine List.forall_mem_cons.mpr ⟨y_pl_ok vp_Heap_fieldsOf vp_Heap_fieldsOf_g, ?_⟩
  refine List.forall_mem_cons.mpr ⟨y_pl_ok vp_Machine_useValue vp_Machine_useValue_g, ?_⟩
  refine List.forall_mem_cons.mpr ⟨y_pl_ok vp_Heap_setTo vp_Heap_setTo_g, ?_⟩
  refine List.forall_mem_cons.mpr ⟨y_pl_ok vp_Machine_callValue vp_Machine_callValue_g, ?_⟩
  refine List.forall_mem_cons.mpr ⟨y_pl_ok vp_Machine_isCallable vp_Machine_isCallable_g, ?_⟩
  refine List.forall_mem_cons.mpr ⟨y_pl_ok vp_Machine_takeStep vp_Machine_takeStep_g, ?_⟩
  refine List.forall_mem_cons.mpr ⟨y_pl_ok vp_Heap_isFunction vp_Heap_isFunction_g, ?_⟩
  refine List.forall_mem_cons.mpr ⟨y_pl_ok vp_Program_behindTerm vp_Program_behindTerm_g, ?_⟩
  refine List.forall_mem_cons.mpr ⟨y_pl_ok vp_Machine_callWithRest vp_Machine_callWithRest_g, ?_⟩
  refine List.forall_mem_cons.mpr ⟨y_pl_ok vp_Machine_choose vp_Machine_choose_g, ?_⟩
  refine List.forall_mem_cons.mpr ⟨y_pl_ok vp_Heap_isConstructor vp_Heap_isConstructor_g, ?_⟩
  exact fun _ h => absurd h List.not_mem_nil
theorem y_VM6 : ∀ M ∈ [m_Heap_tagOf, m_Heap_partsOf, m_Machine_doAlternative, m_Machine_doSecond, m_Machine_operate, m_Machine_reckon, m_Machine_apply, m_Machine_takenBy, m_Heap_unitOf, m_Heap_gotBy, m_Heap_selfOf, m_Machine_keepRest, m_Machine_outcome, m_Main_told, m_Machine_resultNumber, m_Machine_resultParts, m_Main_part, m_Machine_startPart, m_Main_clear, m_Model_init, m_Model_feed, m_Model_put], mj_VM y_Y M := by
  refine List.forall_mem_cons.mpr ⟨mj_bm_ok vm_Heap_tagOf vi_Heap_tagOf, ?_⟩
  refine List.forall_mem_cons.mpr ⟨mj_bm_ok vm_Heap_partsOf vi_Heap_partsOf, ?_⟩
  refine List.forall_mem_cons.mpr ⟨mj_bm_ok vm_Machine_doAlternative vi_Machine_doAlternative, ?_⟩
  refine List.forall_mem_cons.mpr ⟨mj_bm_ok vm_Machine_doSecond vi_Machine_doSecond, ?_⟩
  refine List.forall_mem_cons.mpr ⟨mj_bm_ok vm_Machine_operate vi_Machine_operate, ?_⟩
  refine List.forall_mem_cons.mpr ⟨mj_bm_ok vm_Machine_reckon vi_Machine_reckon, ?_⟩
  refine List.forall_mem_cons.mpr ⟨mj_bm_ok vm_Machine_apply vi_Machine_apply, ?_⟩
  refine List.forall_mem_cons.mpr ⟨mj_bm_ok vm_Machine_takenBy vi_Machine_takenBy, ?_⟩
  refine List.forall_mem_cons.mpr ⟨mj_bm_ok vm_Heap_unitOf vi_Heap_unitOf, ?_⟩
  refine List.forall_mem_cons.mpr ⟨mj_bm_ok vm_Heap_gotBy vi_Heap_gotBy, ?_⟩
  refine List.forall_mem_cons.mpr ⟨mj_bm_ok vm_Heap_selfOf vi_Heap_selfOf, ?_⟩
  refine List.forall_mem_cons.mpr ⟨mj_bm_ok vm_Machine_keepRest vi_Machine_keepRest, ?_⟩
  refine List.forall_mem_cons.mpr ⟨mj_bm_ok vm_Machine_outcome vi_Machine_outcome, ?_⟩
  refine List.forall_mem_cons.mpr ⟨mj_bm_ok vm_Main_told vi_Main_told, ?_⟩
  refine List.forall_mem_cons.mpr ⟨mj_bm_ok vm_Machine_resultNumber vi_Machine_resultNumber, ?_⟩
  refine List.forall_mem_cons.mpr ⟨mj_bm_ok vm_Machine_resultParts vi_Machine_resultParts, ?_⟩
  refine List.forall_mem_cons.mpr ⟨mj_bm_ok vm_Main_part vi_Main_part, ?_⟩
  refine List.forall_mem_cons.mpr ⟨mj_bm_ok vm_Machine_startPart vi_Machine_startPart, ?_⟩
  refine List.forall_mem_cons.mpr ⟨mj_bm_ok vm_Main_clear vi_Main_clear, ?_⟩
  refine List.forall_mem_cons.mpr ⟨mj_bm_ok vm_Model_init vi_Model_init, ?_⟩
  refine List.forall_mem_cons.mpr ⟨mj_bm_ok vm_Model_feed vi_Model_feed, ?_⟩
  refine List.forall_mem_cons.mpr ⟨mj_bm_ok vm_Model_put vi_Model_put, ?_⟩
  exact fun _ h => absurd h List.not_mem_nil
theorem y_WM6 : ∀ M ∈ [m_Heap_tagOf, m_Heap_partsOf, m_Machine_doAlternative, m_Machine_doSecond, m_Machine_operate, m_Machine_reckon, m_Machine_apply, m_Machine_takenBy, m_Heap_unitOf, m_Heap_gotBy, m_Heap_selfOf, m_Machine_keepRest, m_Machine_outcome, m_Main_told, m_Machine_resultNumber, m_Machine_resultParts, m_Main_part, m_Machine_startPart, m_Main_clear, m_Model_init, m_Model_feed, m_Model_put], ∀ w ∈ mj_wm y_Y M, mj_gw w = true ∧ w ∈ y_big := by
  refine List.forall_mem_cons.mpr ⟨y_pl_ok vp_Heap_tagOf vp_Heap_tagOf_g, ?_⟩
  refine List.forall_mem_cons.mpr ⟨y_pl_ok vp_Heap_partsOf vp_Heap_partsOf_g, ?_⟩
  refine List.forall_mem_cons.mpr ⟨y_pl_ok vp_Machine_doAlternative vp_Machine_doAlternative_g, ?_⟩
  refine List.forall_mem_cons.mpr ⟨y_pl_ok vp_Machine_doSecond vp_Machine_doSecond_g, ?_⟩
  refine List.forall_mem_cons.mpr ⟨y_pl_ok vp_Machine_operate vp_Machine_operate_g, ?_⟩
  refine List.forall_mem_cons.mpr ⟨y_pl_ok vp_Machine_reckon vp_Machine_reckon_g, ?_⟩
  refine List.forall_mem_cons.mpr ⟨y_pl_ok vp_Machine_apply vp_Machine_apply_g, ?_⟩
  refine List.forall_mem_cons.mpr ⟨y_pl_ok vp_Machine_takenBy vp_Machine_takenBy_g, ?_⟩
  refine List.forall_mem_cons.mpr ⟨y_pl_ok vp_Heap_unitOf vp_Heap_unitOf_g, ?_⟩
  refine List.forall_mem_cons.mpr ⟨y_pl_ok vp_Heap_gotBy vp_Heap_gotBy_g, ?_⟩
  refine List.forall_mem_cons.mpr ⟨y_pl_ok vp_Heap_selfOf vp_Heap_selfOf_g, ?_⟩
  refine List.forall_mem_cons.mpr ⟨y_pl_ok vp_Machine_keepRest vp_Machine_keepRest_g, ?_⟩
  refine List.forall_mem_cons.mpr ⟨y_pl_ok vp_Machine_outcome vp_Machine_outcome_g, ?_⟩
  refine List.forall_mem_cons.mpr ⟨y_pl_ok vp_Main_told vp_Main_told_g, ?_⟩
  refine List.forall_mem_cons.mpr ⟨y_pl_ok vp_Machine_resultNumber vp_Machine_resultNumber_g, ?_⟩
  refine List.forall_mem_cons.mpr ⟨y_pl_ok vp_Machine_resultParts vp_Machine_resultParts_g, ?_⟩
  refine List.forall_mem_cons.mpr ⟨y_pl_ok vp_Main_part vp_Main_part_g, ?_⟩
  refine List.forall_mem_cons.mpr ⟨y_pl_ok vp_Machine_startPart vp_Machine_startPart_g, ?_⟩
  refine List.forall_mem_cons.mpr ⟨y_pl_ok vp_Main_clear vp_Main_clear_g, ?_⟩
  refine List.forall_mem_cons.mpr ⟨y_pl_ok vp_Model_init vp_Model_init_g, ?_⟩
  refine List.forall_mem_cons.mpr ⟨y_pl_ok vp_Model_feed vp_Model_feed_g, ?_⟩
  refine List.forall_mem_cons.mpr ⟨y_pl_ok vp_Model_put vp_Model_put_g, ?_⟩
  exact fun _ h => absurd h List.not_mem_nil
theorem y_VM7 : ∀ M ∈ [m_Model_read, m_Model_parsed, m_Model_next, m_Model_at, m_Model_isLetter, m_Model_isDigit, m_Model_push, m_Model_term, m_Model_isAct, m_Model_node, m_Model_bind, m_Model_sign, m_Model_is, m_Model_make, m_Model_arguments, m_Model_parts, m_Model_cases, m_Model_definition, m_Model_known, m_Model_finds, m_Model_isUnit, m_Model_isDelayed], mj_VM y_Y M := by
  refine List.forall_mem_cons.mpr ⟨mj_bm_ok vm_Model_read vi_Model_read, ?_⟩
  refine List.forall_mem_cons.mpr ⟨mj_bm_ok vm_Model_parsed vi_Model_parsed, ?_⟩
  refine List.forall_mem_cons.mpr ⟨mj_bm_ok vm_Model_next vi_Model_next, ?_⟩
  refine List.forall_mem_cons.mpr ⟨mj_bm_ok vm_Model_at vi_Model_at, ?_⟩
  refine List.forall_mem_cons.mpr ⟨mj_bm_ok vm_Model_isLetter vi_Model_isLetter, ?_⟩
  refine List.forall_mem_cons.mpr ⟨mj_bm_ok vm_Model_isDigit vi_Model_isDigit, ?_⟩
  refine List.forall_mem_cons.mpr ⟨mj_bm_ok vm_Model_push vi_Model_push, ?_⟩
  refine List.forall_mem_cons.mpr ⟨mj_bm_ok vm_Model_term vi_Model_term, ?_⟩
  refine List.forall_mem_cons.mpr ⟨mj_bm_ok vm_Model_isAct vi_Model_isAct, ?_⟩
  refine List.forall_mem_cons.mpr ⟨mj_bm_ok vm_Model_node vi_Model_node, ?_⟩
  refine List.forall_mem_cons.mpr ⟨mj_bm_ok vm_Model_bind vi_Model_bind, ?_⟩
  refine List.forall_mem_cons.mpr ⟨mj_bm_ok vm_Model_sign vi_Model_sign, ?_⟩
  refine List.forall_mem_cons.mpr ⟨mj_bm_ok vm_Model_is vi_Model_is, ?_⟩
  refine List.forall_mem_cons.mpr ⟨mj_bm_ok vm_Model_make vi_Model_make, ?_⟩
  refine List.forall_mem_cons.mpr ⟨mj_bm_ok vm_Model_arguments vi_Model_arguments, ?_⟩
  refine List.forall_mem_cons.mpr ⟨mj_bm_ok vm_Model_parts vi_Model_parts, ?_⟩
  refine List.forall_mem_cons.mpr ⟨mj_bm_ok vm_Model_cases vi_Model_cases, ?_⟩
  refine List.forall_mem_cons.mpr ⟨mj_bm_ok vm_Model_definition vi_Model_definition, ?_⟩
  refine List.forall_mem_cons.mpr ⟨mj_bm_ok vm_Model_known vi_Model_known, ?_⟩
  refine List.forall_mem_cons.mpr ⟨mj_bm_ok vm_Model_finds vi_Model_finds, ?_⟩
  refine List.forall_mem_cons.mpr ⟨mj_bm_ok vm_Model_isUnit vi_Model_isUnit, ?_⟩
  refine List.forall_mem_cons.mpr ⟨mj_bm_ok vm_Model_isDelayed vi_Model_isDelayed, ?_⟩
  exact fun _ h => absurd h List.not_mem_nil
theorem y_WM7 : ∀ M ∈ [m_Model_read, m_Model_parsed, m_Model_next, m_Model_at, m_Model_isLetter, m_Model_isDigit, m_Model_push, m_Model_term, m_Model_isAct, m_Model_node, m_Model_bind, m_Model_sign, m_Model_is, m_Model_make, m_Model_arguments, m_Model_parts, m_Model_cases, m_Model_definition, m_Model_known, m_Model_finds, m_Model_isUnit, m_Model_isDelayed], ∀ w ∈ mj_wm y_Y M, mj_gw w = true ∧ w ∈ y_big := by
  refine List.forall_mem_cons.mpr ⟨y_pl_ok vp_Model_read vp_Model_read_g, ?_⟩
  refine List.forall_mem_cons.mpr ⟨y_pl_ok vp_Model_parsed vp_Model_parsed_g, ?_⟩
  refine List.forall_mem_cons.mpr ⟨y_pl_ok vp_Model_next vp_Model_next_g, ?_⟩
  refine List.forall_mem_cons.mpr ⟨y_pl_ok vp_Model_at vp_Model_at_g, ?_⟩
  refine List.forall_mem_cons.mpr ⟨y_pl_ok vp_Model_isLetter vp_Model_isLetter_g, ?_⟩
  refine List.forall_mem_cons.mpr ⟨y_pl_ok vp_Model_isDigit vp_Model_isDigit_g, ?_⟩
  refine List.forall_mem_cons.mpr ⟨y_pl_ok vp_Model_push vp_Model_push_g, ?_⟩
  refine List.forall_mem_cons.mpr ⟨y_pl_ok vp_Model_term vp_Model_term_g, ?_⟩
  refine List.forall_mem_cons.mpr ⟨y_pl_ok vp_Model_isAct vp_Model_isAct_g, ?_⟩
  refine List.forall_mem_cons.mpr ⟨y_pl_ok vp_Model_node vp_Model_node_g, ?_⟩
  refine List.forall_mem_cons.mpr ⟨y_pl_ok vp_Model_bind vp_Model_bind_g, ?_⟩
  refine List.forall_mem_cons.mpr ⟨y_pl_ok vp_Model_sign vp_Model_sign_g, ?_⟩
  refine List.forall_mem_cons.mpr ⟨y_pl_ok vp_Model_is vp_Model_is_g, ?_⟩
  refine List.forall_mem_cons.mpr ⟨y_pl_ok vp_Model_make vp_Model_make_g, ?_⟩
  refine List.forall_mem_cons.mpr ⟨y_pl_ok vp_Model_arguments vp_Model_arguments_g, ?_⟩
  refine List.forall_mem_cons.mpr ⟨y_pl_ok vp_Model_parts vp_Model_parts_g, ?_⟩
  refine List.forall_mem_cons.mpr ⟨y_pl_ok vp_Model_cases vp_Model_cases_g, ?_⟩
  refine List.forall_mem_cons.mpr ⟨y_pl_ok vp_Model_definition vp_Model_definition_g, ?_⟩
  refine List.forall_mem_cons.mpr ⟨y_pl_ok vp_Model_known vp_Model_known_g, ?_⟩
  refine List.forall_mem_cons.mpr ⟨y_pl_ok vp_Model_finds vp_Model_finds_g, ?_⟩
  refine List.forall_mem_cons.mpr ⟨y_pl_ok vp_Model_isUnit vp_Model_isUnit_g, ?_⟩
  refine List.forall_mem_cons.mpr ⟨y_pl_ok vp_Model_isDelayed vp_Model_isDelayed_g, ?_⟩
  exact fun _ h => absurd h List.not_mem_nil
theorem y_VM8 : ∀ M ∈ [m_Model_isOperand, m_Model_captures, m_Model_size, m_Model_write, m_Model_measure, m_Model_one, m_Model_placeIn, m_Model_local, m_Model_two, m_Model_head, m_Model_putPlace, m_Model_byteAt, m_Model_run, m_Model_goes, m_Model_fails, m_Model_finish, m_Model_deliver, m_Model_step, m_Model_isFunction, m_Model_give, m_Model_operand, m_Model_named], mj_VM y_Y M := by
  refine List.forall_mem_cons.mpr ⟨mj_bm_ok vm_Model_isOperand vi_Model_isOperand, ?_⟩
  refine List.forall_mem_cons.mpr ⟨mj_bm_ok vm_Model_captures vi_Model_captures, ?_⟩
  refine List.forall_mem_cons.mpr ⟨mj_bm_ok vm_Model_size vi_Model_size, ?_⟩
  refine List.forall_mem_cons.mpr ⟨mj_bm_ok vm_Model_write vi_Model_write, ?_⟩
  refine List.forall_mem_cons.mpr ⟨mj_bm_ok vm_Model_measure vi_Model_measure, ?_⟩
  refine List.forall_mem_cons.mpr ⟨mj_bm_ok vm_Model_one vi_Model_one, ?_⟩
  refine List.forall_mem_cons.mpr ⟨mj_bm_ok vm_Model_placeIn vi_Model_placeIn, ?_⟩
  refine List.forall_mem_cons.mpr ⟨mj_bm_ok vm_Model_local vi_Model_local, ?_⟩
  refine List.forall_mem_cons.mpr ⟨mj_bm_ok vm_Model_two vi_Model_two, ?_⟩
  refine List.forall_mem_cons.mpr ⟨mj_bm_ok vm_Model_head vi_Model_head, ?_⟩
  refine List.forall_mem_cons.mpr ⟨mj_bm_ok vm_Model_putPlace vi_Model_putPlace, ?_⟩
  refine List.forall_mem_cons.mpr ⟨mj_bm_ok vm_Model_byteAt vi_Model_byteAt, ?_⟩
  refine List.forall_mem_cons.mpr ⟨mj_bm_ok vm_Model_run vi_Model_run, ?_⟩
  refine List.forall_mem_cons.mpr ⟨mj_bm_ok vm_Model_goes vi_Model_goes, ?_⟩
  refine List.forall_mem_cons.mpr ⟨mj_bm_ok vm_Model_fails vi_Model_fails, ?_⟩
  refine List.forall_mem_cons.mpr ⟨mj_bm_ok vm_Model_finish vi_Model_finish, ?_⟩
  refine List.forall_mem_cons.mpr ⟨mj_bm_ok vm_Model_deliver vi_Model_deliver, ?_⟩
  refine List.forall_mem_cons.mpr ⟨mj_bm_ok vm_Model_step vi_Model_step, ?_⟩
  refine List.forall_mem_cons.mpr ⟨mj_bm_ok vm_Model_isFunction vi_Model_isFunction, ?_⟩
  refine List.forall_mem_cons.mpr ⟨mj_bm_ok vm_Model_give vi_Model_give, ?_⟩
  refine List.forall_mem_cons.mpr ⟨mj_bm_ok vm_Model_operand vi_Model_operand, ?_⟩
  refine List.forall_mem_cons.mpr ⟨mj_bm_ok vm_Model_named vi_Model_named, ?_⟩
  exact fun _ h => absurd h List.not_mem_nil
theorem y_WM8 : ∀ M ∈ [m_Model_isOperand, m_Model_captures, m_Model_size, m_Model_write, m_Model_measure, m_Model_one, m_Model_placeIn, m_Model_local, m_Model_two, m_Model_head, m_Model_putPlace, m_Model_byteAt, m_Model_run, m_Model_goes, m_Model_fails, m_Model_finish, m_Model_deliver, m_Model_step, m_Model_isFunction, m_Model_give, m_Model_operand, m_Model_named], ∀ w ∈ mj_wm y_Y M, mj_gw w = true ∧ w ∈ y_big := by
  refine List.forall_mem_cons.mpr ⟨y_pl_ok vp_Model_isOperand vp_Model_isOperand_g, ?_⟩
  refine List.forall_mem_cons.mpr ⟨y_pl_ok vp_Model_captures vp_Model_captures_g, ?_⟩
  refine List.forall_mem_cons.mpr ⟨y_pl_ok vp_Model_size vp_Model_size_g, ?_⟩
  refine List.forall_mem_cons.mpr ⟨y_pl_ok vp_Model_write vp_Model_write_g, ?_⟩
  refine List.forall_mem_cons.mpr ⟨y_pl_ok vp_Model_measure vp_Model_measure_g, ?_⟩
  refine List.forall_mem_cons.mpr ⟨y_pl_ok vp_Model_one vp_Model_one_g, ?_⟩
  refine List.forall_mem_cons.mpr ⟨y_pl_ok vp_Model_placeIn vp_Model_placeIn_g, ?_⟩
  refine List.forall_mem_cons.mpr ⟨y_pl_ok vp_Model_local vp_Model_local_g, ?_⟩
  refine List.forall_mem_cons.mpr ⟨y_pl_ok vp_Model_two vp_Model_two_g, ?_⟩
  refine List.forall_mem_cons.mpr ⟨y_pl_ok vp_Model_head vp_Model_head_g, ?_⟩
  refine List.forall_mem_cons.mpr ⟨y_pl_ok vp_Model_putPlace vp_Model_putPlace_g, ?_⟩
  refine List.forall_mem_cons.mpr ⟨y_pl_ok vp_Model_byteAt vp_Model_byteAt_g, ?_⟩
  refine List.forall_mem_cons.mpr ⟨y_pl_ok vp_Model_run vp_Model_run_g, ?_⟩
  refine List.forall_mem_cons.mpr ⟨y_pl_ok vp_Model_goes vp_Model_goes_g, ?_⟩
  refine List.forall_mem_cons.mpr ⟨y_pl_ok vp_Model_fails vp_Model_fails_g, ?_⟩
  refine List.forall_mem_cons.mpr ⟨y_pl_ok vp_Model_finish vp_Model_finish_g, ?_⟩
  refine List.forall_mem_cons.mpr ⟨y_pl_ok vp_Model_deliver vp_Model_deliver_g, ?_⟩
  refine List.forall_mem_cons.mpr ⟨y_pl_ok vp_Model_step vp_Model_step_g, ?_⟩
  refine List.forall_mem_cons.mpr ⟨y_pl_ok vp_Model_isFunction vp_Model_isFunction_g, ?_⟩
  refine List.forall_mem_cons.mpr ⟨y_pl_ok vp_Model_give vp_Model_give_g, ?_⟩
  refine List.forall_mem_cons.mpr ⟨y_pl_ok vp_Model_operand vp_Model_operand_g, ?_⟩
  refine List.forall_mem_cons.mpr ⟨y_pl_ok vp_Model_named vp_Model_named_g, ?_⟩
  exact fun _ h => absurd h List.not_mem_nil
theorem y_VM9 : ∀ M ∈ [m_Model_fetch, m_Model_makes, m_Model_fresh, m_Model_cell, m_Model_apply, m_Model_takes, m_Model_gives, m_Model_waitFor, m_Model_freeFrame, m_Model_choose, m_Model_first, m_Model_reckon, m_Model_walk, m_Model_wants, m_Model_makeAll, m_Model_result, m_Model_told, m_Model_part, m_Model_clear, m_Arrays_copyOf0, m_String_indexOf0, m_String_indexOf1], mj_VM y_Y M := by
  refine List.forall_mem_cons.mpr ⟨mj_bm_ok vm_Model_fetch vi_Model_fetch, ?_⟩
  refine List.forall_mem_cons.mpr ⟨mj_bm_ok vm_Model_makes vi_Model_makes, ?_⟩
  refine List.forall_mem_cons.mpr ⟨mj_bm_ok vm_Model_fresh vi_Model_fresh, ?_⟩
  refine List.forall_mem_cons.mpr ⟨mj_bm_ok vm_Model_cell vi_Model_cell, ?_⟩
  refine List.forall_mem_cons.mpr ⟨mj_bm_ok vm_Model_apply vi_Model_apply, ?_⟩
  refine List.forall_mem_cons.mpr ⟨mj_bm_ok vm_Model_takes vi_Model_takes, ?_⟩
  refine List.forall_mem_cons.mpr ⟨mj_bm_ok vm_Model_gives vi_Model_gives, ?_⟩
  refine List.forall_mem_cons.mpr ⟨mj_bm_ok vm_Model_waitFor vi_Model_waitFor, ?_⟩
  refine List.forall_mem_cons.mpr ⟨mj_bm_ok vm_Model_freeFrame vi_Model_freeFrame, ?_⟩
  refine List.forall_mem_cons.mpr ⟨mj_bm_ok vm_Model_choose vi_Model_choose, ?_⟩
  refine List.forall_mem_cons.mpr ⟨mj_bm_ok vm_Model_first vi_Model_first, ?_⟩
  refine List.forall_mem_cons.mpr ⟨mj_bm_ok vm_Model_reckon vi_Model_reckon, ?_⟩
  refine List.forall_mem_cons.mpr ⟨mj_bm_ok vm_Model_walk vi_Model_walk, ?_⟩
  refine List.forall_mem_cons.mpr ⟨mj_bm_ok vm_Model_wants vi_Model_wants, ?_⟩
  refine List.forall_mem_cons.mpr ⟨mj_bm_ok vm_Model_makeAll vi_Model_makeAll, ?_⟩
  refine List.forall_mem_cons.mpr ⟨mj_bm_ok vm_Model_result vi_Model_result, ?_⟩
  refine List.forall_mem_cons.mpr ⟨mj_bm_ok vm_Model_told vi_Model_told, ?_⟩
  refine List.forall_mem_cons.mpr ⟨mj_bm_ok vm_Model_part vi_Model_part, ?_⟩
  refine List.forall_mem_cons.mpr ⟨mj_bm_ok vm_Model_clear vi_Model_clear, ?_⟩
  refine List.forall_mem_cons.mpr ⟨mj_bm_ok vm_Arrays_copyOf0 vi_Arrays_copyOf0, ?_⟩
  refine List.forall_mem_cons.mpr ⟨mj_bm_ok vm_String_indexOf0 vi_String_indexOf0, ?_⟩
  refine List.forall_mem_cons.mpr ⟨mj_bm_ok vm_String_indexOf1 vi_String_indexOf1, ?_⟩
  exact fun _ h => absurd h List.not_mem_nil
theorem y_WM9 : ∀ M ∈ [m_Model_fetch, m_Model_makes, m_Model_fresh, m_Model_cell, m_Model_apply, m_Model_takes, m_Model_gives, m_Model_waitFor, m_Model_freeFrame, m_Model_choose, m_Model_first, m_Model_reckon, m_Model_walk, m_Model_wants, m_Model_makeAll, m_Model_result, m_Model_told, m_Model_part, m_Model_clear, m_Arrays_copyOf0, m_String_indexOf0, m_String_indexOf1], ∀ w ∈ mj_wm y_Y M, mj_gw w = true ∧ w ∈ y_big := by
  refine List.forall_mem_cons.mpr ⟨y_pl_ok vp_Model_fetch vp_Model_fetch_g, ?_⟩
  refine List.forall_mem_cons.mpr ⟨y_pl_ok vp_Model_makes vp_Model_makes_g, ?_⟩
  refine List.forall_mem_cons.mpr ⟨y_pl_ok vp_Model_fresh vp_Model_fresh_g, ?_⟩
  refine List.forall_mem_cons.mpr ⟨y_pl_ok vp_Model_cell vp_Model_cell_g, ?_⟩
  refine List.forall_mem_cons.mpr ⟨y_pl_ok vp_Model_apply vp_Model_apply_g, ?_⟩
  refine List.forall_mem_cons.mpr ⟨y_pl_ok vp_Model_takes vp_Model_takes_g, ?_⟩
  refine List.forall_mem_cons.mpr ⟨y_pl_ok vp_Model_gives vp_Model_gives_g, ?_⟩
  refine List.forall_mem_cons.mpr ⟨y_pl_ok vp_Model_waitFor vp_Model_waitFor_g, ?_⟩
  refine List.forall_mem_cons.mpr ⟨y_pl_ok vp_Model_freeFrame vp_Model_freeFrame_g, ?_⟩
  refine List.forall_mem_cons.mpr ⟨y_pl_ok vp_Model_choose vp_Model_choose_g, ?_⟩
  refine List.forall_mem_cons.mpr ⟨y_pl_ok vp_Model_first vp_Model_first_g, ?_⟩
  refine List.forall_mem_cons.mpr ⟨y_pl_ok vp_Model_reckon vp_Model_reckon_g, ?_⟩
  refine List.forall_mem_cons.mpr ⟨y_pl_ok vp_Model_walk vp_Model_walk_g, ?_⟩
  refine List.forall_mem_cons.mpr ⟨y_pl_ok vp_Model_wants vp_Model_wants_g, ?_⟩
  refine List.forall_mem_cons.mpr ⟨y_pl_ok vp_Model_makeAll vp_Model_makeAll_g, ?_⟩
  refine List.forall_mem_cons.mpr ⟨y_pl_ok vp_Model_result vp_Model_result_g, ?_⟩
  refine List.forall_mem_cons.mpr ⟨y_pl_ok vp_Model_told vp_Model_told_g, ?_⟩
  refine List.forall_mem_cons.mpr ⟨y_pl_ok vp_Model_part vp_Model_part_g, ?_⟩
  refine List.forall_mem_cons.mpr ⟨y_pl_ok vp_Model_clear vp_Model_clear_g, ?_⟩
  refine List.forall_mem_cons.mpr ⟨y_pl_ok vp_Arrays_copyOf0 vp_Arrays_copyOf0_g, ?_⟩
  refine List.forall_mem_cons.mpr ⟨y_pl_ok vp_String_indexOf0 vp_String_indexOf0_g, ?_⟩
  refine List.forall_mem_cons.mpr ⟨y_pl_ok vp_String_indexOf1 vp_String_indexOf1_g, ?_⟩
  exact fun _ h => absurd h List.not_mem_nil
theorem y_VM10 : ∀ M ∈ [m_String_isLatin1, m_String_length, m_String_coder, m_Latin1_indexOf, m_Latin1_canEncode, m_Latin1_indexOfChar, m_List_init, m_AList_init, m_AColl_init, m_List_size, m_List_add0, m_List_add1, m_List_grow0, m_List_grow1, m_Support_newLength, m_Arrays_copyOf1, m_Arrays_copyOf2, m_List_get, m_Objects_checkIndex, m_Pre_checkIndex, m_List_elementData, m_Law_law], mj_VM y_Y M := by
  refine List.forall_mem_cons.mpr ⟨mj_bm_ok vm_String_isLatin1 vi_String_isLatin1, ?_⟩
  refine List.forall_mem_cons.mpr ⟨mj_bm_ok vm_String_length vi_String_length, ?_⟩
  refine List.forall_mem_cons.mpr ⟨mj_bm_ok vm_String_coder vi_String_coder, ?_⟩
  refine List.forall_mem_cons.mpr ⟨mj_bm_ok vm_Latin1_indexOf vi_Latin1_indexOf, ?_⟩
  refine List.forall_mem_cons.mpr ⟨mj_bm_ok vm_Latin1_canEncode vi_Latin1_canEncode, ?_⟩
  refine List.forall_mem_cons.mpr ⟨mj_bm_ok vm_Latin1_indexOfChar vi_Latin1_indexOfChar, ?_⟩
  refine List.forall_mem_cons.mpr ⟨mj_bm_ok vm_List_init vi_List_init, ?_⟩
  refine List.forall_mem_cons.mpr ⟨mj_bm_ok vm_AList_init vi_AList_init, ?_⟩
  refine List.forall_mem_cons.mpr ⟨mj_bm_ok vm_AColl_init vi_AColl_init, ?_⟩
  refine List.forall_mem_cons.mpr ⟨mj_bm_ok vm_List_size vi_List_size, ?_⟩
  refine List.forall_mem_cons.mpr ⟨mj_bm_ok vm_List_add0 vi_List_add0, ?_⟩
  refine List.forall_mem_cons.mpr ⟨mj_bm_ok vm_List_add1 vi_List_add1, ?_⟩
  refine List.forall_mem_cons.mpr ⟨mj_bm_ok vm_List_grow0 vi_List_grow0, ?_⟩
  refine List.forall_mem_cons.mpr ⟨mj_bm_ok vm_List_grow1 vi_List_grow1, ?_⟩
  refine List.forall_mem_cons.mpr ⟨mj_bm_ok vm_Support_newLength vi_Support_newLength, ?_⟩
  refine List.forall_mem_cons.mpr ⟨mj_bm_ok vm_Arrays_copyOf1 vi_Arrays_copyOf1, ?_⟩
  refine List.forall_mem_cons.mpr ⟨mj_bm_ok vm_Arrays_copyOf2 vi_Arrays_copyOf2, ?_⟩
  refine List.forall_mem_cons.mpr ⟨mj_bm_ok vm_List_get vi_List_get, ?_⟩
  refine List.forall_mem_cons.mpr ⟨mj_bm_ok vm_Objects_checkIndex vi_Objects_checkIndex, ?_⟩
  refine List.forall_mem_cons.mpr ⟨mj_bm_ok vm_Pre_checkIndex vi_Pre_checkIndex, ?_⟩
  refine List.forall_mem_cons.mpr ⟨mj_bm_ok vm_List_elementData vi_List_elementData, ?_⟩
  refine List.forall_mem_cons.mpr ⟨mj_bm_ok vm_Law_law vi_Law_law, ?_⟩
  exact fun _ h => absurd h List.not_mem_nil
theorem y_WM10 : ∀ M ∈ [m_String_isLatin1, m_String_length, m_String_coder, m_Latin1_indexOf, m_Latin1_canEncode, m_Latin1_indexOfChar, m_List_init, m_AList_init, m_AColl_init, m_List_size, m_List_add0, m_List_add1, m_List_grow0, m_List_grow1, m_Support_newLength, m_Arrays_copyOf1, m_Arrays_copyOf2, m_List_get, m_Objects_checkIndex, m_Pre_checkIndex, m_List_elementData, m_Law_law], ∀ w ∈ mj_wm y_Y M, mj_gw w = true ∧ w ∈ y_big := by
  refine List.forall_mem_cons.mpr ⟨y_pl_ok vp_String_isLatin1 vp_String_isLatin1_g, ?_⟩
  refine List.forall_mem_cons.mpr ⟨y_pl_ok vp_String_length vp_String_length_g, ?_⟩
  refine List.forall_mem_cons.mpr ⟨y_pl_ok vp_String_coder vp_String_coder_g, ?_⟩
  refine List.forall_mem_cons.mpr ⟨y_pl_ok vp_Latin1_indexOf vp_Latin1_indexOf_g, ?_⟩
  refine List.forall_mem_cons.mpr ⟨y_pl_ok vp_Latin1_canEncode vp_Latin1_canEncode_g, ?_⟩
  refine List.forall_mem_cons.mpr ⟨y_pl_ok vp_Latin1_indexOfChar vp_Latin1_indexOfChar_g, ?_⟩
  refine List.forall_mem_cons.mpr ⟨y_pl_ok vp_List_init vp_List_init_g, ?_⟩
  refine List.forall_mem_cons.mpr ⟨y_pl_ok vp_AList_init vp_AList_init_g, ?_⟩
  refine List.forall_mem_cons.mpr ⟨y_pl_ok vp_AColl_init vp_AColl_init_g, ?_⟩
  refine List.forall_mem_cons.mpr ⟨y_pl_ok vp_List_size vp_List_size_g, ?_⟩
  refine List.forall_mem_cons.mpr ⟨y_pl_ok vp_List_add0 vp_List_add0_g, ?_⟩
  refine List.forall_mem_cons.mpr ⟨y_pl_ok vp_List_add1 vp_List_add1_g, ?_⟩
  refine List.forall_mem_cons.mpr ⟨y_pl_ok vp_List_grow0 vp_List_grow0_g, ?_⟩
  refine List.forall_mem_cons.mpr ⟨y_pl_ok vp_List_grow1 vp_List_grow1_g, ?_⟩
  refine List.forall_mem_cons.mpr ⟨y_pl_ok vp_Support_newLength vp_Support_newLength_g, ?_⟩
  refine List.forall_mem_cons.mpr ⟨y_pl_ok vp_Arrays_copyOf1 vp_Arrays_copyOf1_g, ?_⟩
  refine List.forall_mem_cons.mpr ⟨y_pl_ok vp_Arrays_copyOf2 vp_Arrays_copyOf2_g, ?_⟩
  refine List.forall_mem_cons.mpr ⟨y_pl_ok vp_List_get vp_List_get_g, ?_⟩
  refine List.forall_mem_cons.mpr ⟨y_pl_ok vp_Objects_checkIndex vp_Objects_checkIndex_g, ?_⟩
  refine List.forall_mem_cons.mpr ⟨y_pl_ok vp_Pre_checkIndex vp_Pre_checkIndex_g, ?_⟩
  refine List.forall_mem_cons.mpr ⟨y_pl_ok vp_List_elementData vp_List_elementData_g, ?_⟩
  refine List.forall_mem_cons.mpr ⟨y_pl_ok vp_Law_law vp_Law_law_g, ?_⟩
  exact fun _ h => absurd h List.not_mem_nil
set_option maxRecDepth 100000 in
theorem y_ms_eq : y_ms = [m_Main_init, m_Row_init, m_Machine_init, m_Heap_init, m_Frame_init, m_Program_init, m_Main_feed, m_Main_putOnTape, m_Row_put, m_Main_read, m_Pieces_init, m_Reader_init, m_Scope_init, m_Reader_readProgram, m_Pieces_split, m_Pieces_skipBlanks, m_Row_at, m_Pieces_isBlank, m_Pieces_splitOne, m_Pieces_isLetter, m_Pieces_splitWord, m_Pieces_kindOfWord] ++ ([m_Pieces_keep, m_Pieces_isDigit, m_Pieces_splitNumber, m_Pieces_advance, m_Reader_readDefinition, m_Reader_definitionOf, m_Reader_refuse, m_Reader_openUnit, m_Unit_init, m_Scope_enter, m_Reader_bindNames, m_Reader_goesOn, m_Scope_isAmongLast, m_Scope_bind, m_Scope_unitAt, m_Reader_take, m_Reader_readTerm, m_Reader_kindOfTerm, m_Term_init, m_Scope_resolve, m_Scope_bindingOf, m_Unit_fieldOf] ++ ([m_Reader_takeNumber, m_Reader_readCall, m_Term_add, m_Reader_readOperand, m_Scope_leave, m_Reader_readFunction, m_Scope_unbind, m_Reader_readLet, m_Reader_readConstructor, m_Reader_readChoice, m_Reader_readAlternative, m_Reader_hasAlternative, m_Reader_readOperator, m_Reader_findDefinitions, m_Reader_mainUnit, m_Writer_init, m_Writer_writeUnits, m_Program_addUnit, m_Writer_writeHead, m_Program_add, m_Unit_whereOf, m_Unit_numberOf] ++ ([m_Writer_writeTerm, m_Writer_writeOperands, m_Writer_writeParts, m_Writer_writeAlternatives, m_Program_putLength, m_Program_endTerm, m_Machine_forget, m_Main_size, m_Program_hasUnit, m_Program_unitLength, m_Main_byteAt, m_Program_unitStart, m_Program_codeAt, m_Main_run, m_Machine_start, m_Heap_empty, m_Machine_standAt, m_Machine_enter, m_Program_termOf, m_Machine_turnTo, m_Machine_go, m_Machine_doTerm] ++ ([m_Program_fourAt, m_Heap_value, m_Machine_give, m_Machine_whatIsAt, m_Machine_boundAt, m_Row_longAt, m_Heap_field, m_Program_definitionUnit, m_Program_parametersOf, m_Heap_make, m_Heap_put, m_Machine_objectValue, m_Machine_fail, m_Machine_giveValueOf, m_Heap_objectKind, m_Heap_kindOf, m_Heap_numberOf, m_Heap_get, m_Heap_settled, m_Machine_deepen, m_Frame_copy, m_Heap_markUnderWay] ++ ([m_Heap_whatOf, m_Machine_want, m_Program_twoAt, m_Machine_makeUnit, m_Program_fieldsOf, m_Program_fieldPlaces, m_Heap_putField, m_Machine_doLet, m_Machine_makeArguments, m_Machine_doConstructor, m_Machine_makeWithArguments, m_Heap_fieldsOf, m_Machine_useValue, m_Heap_setTo, m_Machine_callValue, m_Machine_isCallable, m_Machine_takeStep, m_Heap_isFunction, m_Program_behindTerm, m_Machine_callWithRest, m_Machine_choose, m_Heap_isConstructor] ++ ([m_Heap_tagOf, m_Heap_partsOf, m_Machine_doAlternative, m_Machine_doSecond, m_Machine_operate, m_Machine_reckon, m_Machine_apply, m_Machine_takenBy, m_Heap_unitOf, m_Heap_gotBy, m_Heap_selfOf, m_Machine_keepRest, m_Machine_outcome, m_Main_told, m_Machine_resultNumber, m_Machine_resultParts, m_Main_part, m_Machine_startPart, m_Main_clear, m_Model_init, m_Model_feed, m_Model_put] ++ ([m_Model_read, m_Model_parsed, m_Model_next, m_Model_at, m_Model_isLetter, m_Model_isDigit, m_Model_push, m_Model_term, m_Model_isAct, m_Model_node, m_Model_bind, m_Model_sign, m_Model_is, m_Model_make, m_Model_arguments, m_Model_parts, m_Model_cases, m_Model_definition, m_Model_known, m_Model_finds, m_Model_isUnit, m_Model_isDelayed] ++ ([m_Model_isOperand, m_Model_captures, m_Model_size, m_Model_write, m_Model_measure, m_Model_one, m_Model_placeIn, m_Model_local, m_Model_two, m_Model_head, m_Model_putPlace, m_Model_byteAt, m_Model_run, m_Model_goes, m_Model_fails, m_Model_finish, m_Model_deliver, m_Model_step, m_Model_isFunction, m_Model_give, m_Model_operand, m_Model_named] ++ ([m_Model_fetch, m_Model_makes, m_Model_fresh, m_Model_cell, m_Model_apply, m_Model_takes, m_Model_gives, m_Model_waitFor, m_Model_freeFrame, m_Model_choose, m_Model_first, m_Model_reckon, m_Model_walk, m_Model_wants, m_Model_makeAll, m_Model_result, m_Model_told, m_Model_part, m_Model_clear, m_Arrays_copyOf0, m_String_indexOf0, m_String_indexOf1] ++ ([m_String_isLatin1, m_String_length, m_String_coder, m_Latin1_indexOf, m_Latin1_canEncode, m_Latin1_indexOfChar, m_List_init, m_AList_init, m_AColl_init, m_List_size, m_List_add0, m_List_add1, m_List_grow0, m_List_grow1, m_Support_newLength, m_Arrays_copyOf1, m_Arrays_copyOf2, m_List_get, m_Objects_checkIndex, m_Pre_checkIndex, m_List_elementData, m_Law_law])))))))))) := rfl
theorem y_VM : ∀ M ∈ y_ms, mj_VM y_Y M := by
  rw [y_ms_eq]
  exact List.forall_mem_append.mpr ⟨y_VM0, List.forall_mem_append.mpr ⟨y_VM1, List.forall_mem_append.mpr ⟨y_VM2, List.forall_mem_append.mpr ⟨y_VM3, List.forall_mem_append.mpr ⟨y_VM4, List.forall_mem_append.mpr ⟨y_VM5, List.forall_mem_append.mpr ⟨y_VM6, List.forall_mem_append.mpr ⟨y_VM7, List.forall_mem_append.mpr ⟨y_VM8, List.forall_mem_append.mpr ⟨y_VM9, y_VM10⟩⟩⟩⟩⟩⟩⟩⟩⟩⟩
theorem y_WM : ∀ M ∈ y_ms, ∀ w ∈ mj_wm y_Y M, mj_gw w = true ∧ w ∈ y_big := by
  rw [y_ms_eq]
  exact List.forall_mem_append.mpr ⟨y_WM0, List.forall_mem_append.mpr ⟨y_WM1, List.forall_mem_append.mpr ⟨y_WM2, List.forall_mem_append.mpr ⟨y_WM3, List.forall_mem_append.mpr ⟨y_WM4, List.forall_mem_append.mpr ⟨y_WM5, List.forall_mem_append.mpr ⟨y_WM6, List.forall_mem_append.mpr ⟨y_WM7, List.forall_mem_append.mpr ⟨y_WM8, List.forall_mem_append.mpr ⟨y_WM9, y_WM10⟩⟩⟩⟩⟩⟩⟩⟩⟩⟩
set_option maxRecDepth 100000 in
theorem k_ty_Frame : ∀ j, j < 7 → parseFieldDescriptor (T_Frame j).2.2.1 = some (ty_Frame j) := by decide +kernel
set_option maxRecDepth 100000 in
theorem k_nm_Frame : ∀ a, a < 7 → ∀ b, b < 7 → a ≠ b → (T_Frame a).2.1 ≠ (T_Frame b).2.1 := by decide +kernel
set_option maxRecDepth 100000 in
theorem k_ty_Heap : ∀ j, j < 4 → parseFieldDescriptor (T_Heap j).2.2.1 = some (ty_Heap j) := by decide +kernel
set_option maxRecDepth 100000 in
theorem k_nm_Heap : ∀ a, a < 4 → ∀ b, b < 4 → a ≠ b → (T_Heap a).2.1 ≠ (T_Heap b).2.1 := by decide +kernel
set_option maxRecDepth 100000 in
theorem k_ty_Machine : ∀ j, j < 17 → parseFieldDescriptor (T_Machine j).2.2.1 = some (ty_Machine j) := by decide +kernel
set_option maxRecDepth 100000 in
theorem k_nm_Machine : ∀ a, a < 17 → ∀ b, b < 17 → a ≠ b → (T_Machine a).2.1 ≠ (T_Machine b).2.1 := by decide +kernel
set_option maxRecDepth 100000 in
theorem k_ty_Pieces : ∀ j, j < 11 → parseFieldDescriptor (T_Pieces j).2.2.1 = some (ty_Pieces j) := by decide +kernel
set_option maxRecDepth 100000 in
theorem k_nm_Pieces : ∀ a, a < 11 → ∀ b, b < 11 → a ≠ b → (T_Pieces a).2.1 ≠ (T_Pieces b).2.1 := by decide +kernel
set_option maxRecDepth 100000 in
theorem k_ty_Program : ∀ j, j < 9 → parseFieldDescriptor (T_Program j).2.2.1 = some (ty_Program j) := by decide +kernel
set_option maxRecDepth 100000 in
theorem k_nm_Program : ∀ a, a < 9 → ∀ b, b < 9 → a ≠ b → (T_Program a).2.1 ≠ (T_Program b).2.1 := by decide +kernel
set_option maxRecDepth 100000 in
theorem k_ty_Reader : ∀ j, j < 8 → parseFieldDescriptor (T_Reader j).2.2.1 = some (ty_Reader j) := by decide +kernel
set_option maxRecDepth 100000 in
theorem k_nm_Reader : ∀ a, a < 8 → ∀ b, b < 8 → a ≠ b → (T_Reader a).2.1 ≠ (T_Reader b).2.1 := by decide +kernel
set_option maxRecDepth 100000 in
theorem k_ty_Row : ∀ j, j < 1 → parseFieldDescriptor (T_Row j).2.2.1 = some (ty_Row j) := by decide +kernel
set_option maxRecDepth 100000 in
theorem k_nm_Row : ∀ a, a < 1 → ∀ b, b < 1 → a ≠ b → (T_Row a).2.1 ≠ (T_Row b).2.1 := by decide +kernel
set_option maxRecDepth 100000 in
theorem k_ty_Scope : ∀ j, j < 6 → parseFieldDescriptor (T_Scope j).2.2.1 = some (ty_Scope j) := by decide +kernel
set_option maxRecDepth 100000 in
theorem k_nm_Scope : ∀ a, a < 6 → ∀ b, b < 6 → a ≠ b → (T_Scope a).2.1 ≠ (T_Scope b).2.1 := by decide +kernel
set_option maxRecDepth 100000 in
theorem k_ty_Term : ∀ j, j < 9 → parseFieldDescriptor (T_Term j).2.2.1 = some (ty_Term j) := by decide +kernel
set_option maxRecDepth 100000 in
theorem k_nm_Term : ∀ a, a < 9 → ∀ b, b < 9 → a ≠ b → (T_Term a).2.1 ≠ (T_Term b).2.1 := by decide +kernel
set_option maxRecDepth 100000 in
theorem k_ty_Unit : ∀ j, j < 9 → parseFieldDescriptor (T_Unit j).2.2.1 = some (ty_Unit j) := by decide +kernel
set_option maxRecDepth 100000 in
theorem k_nm_Unit : ∀ a, a < 9 → ∀ b, b < 9 → a ≠ b → (T_Unit a).2.1 ≠ (T_Unit b).2.1 := by decide +kernel
set_option maxRecDepth 100000 in
theorem k_ty_Writer : ∀ j, j < 1 → parseFieldDescriptor (T_Writer j).2.2.1 = some (ty_Writer j) := by decide +kernel
set_option maxRecDepth 100000 in
theorem k_nm_Writer : ∀ a, a < 1 → ∀ b, b < 1 → a ≠ b → (T_Writer a).2.1 ≠ (T_Writer b).2.1 := by decide +kernel
set_option maxRecDepth 100000 in
theorem k_ty_Main : ∀ j, j < 4 → parseFieldDescriptor (T_Main j).2.2.1 = some (ty_Main j) := by decide +kernel
set_option maxRecDepth 100000 in
theorem k_nm_Main : ∀ a, a < 4 → ∀ b, b < 4 → a ≠ b → (T_Main a).2.1 ≠ (T_Main b).2.1 := by decide +kernel
set_option maxRecDepth 100000 in
theorem k_ty_Model : ∀ j, j < 83 → parseFieldDescriptor (T_Model j).2.2.1 = some (ty_Model j) := by decide +kernel
set_option maxRecDepth 100000 in
theorem k_nm_Model : ∀ a, a < 83 → ∀ b, b < 83 → a ≠ b → (T_Model a).2.1 ≠ (T_Model b).2.1 := by decide +kernel
set_option maxRecDepth 100000 in
theorem k_ty_List : ∀ j, j < 3 → parseFieldDescriptor (T_List j).2.2.1 = some (ty_List j) := by decide +kernel
set_option maxRecDepth 100000 in
theorem k_nm_List : ∀ a, a < 3 → ∀ b, b < 3 → a ≠ b → (T_List a).2.1 ≠ (T_List b).2.1 := by decide +kernel
theorem y_VC : mj_VC y_Y := by
  intro i k hk
  match i, hk with
  | 0, hk => cases hk; exact ⟨by decide, k_ty_Frame, k_nm_Frame⟩
  | 1, hk => cases hk; exact ⟨by decide, k_ty_Heap, k_nm_Heap⟩
  | 2, hk => cases hk; exact ⟨by decide, k_ty_Machine, k_nm_Machine⟩
  | 3, hk => cases hk; exact ⟨by decide, k_ty_Pieces, k_nm_Pieces⟩
  | 4, hk => cases hk; exact ⟨by decide, k_ty_Program, k_nm_Program⟩
  | 5, hk => cases hk; exact ⟨by decide, k_ty_Reader, k_nm_Reader⟩
  | 6, hk => cases hk; exact ⟨by decide, k_ty_Row, k_nm_Row⟩
  | 7, hk => cases hk; exact ⟨by decide, k_ty_Scope, k_nm_Scope⟩
  | 8, hk => cases hk; exact ⟨by decide, k_ty_Term, k_nm_Term⟩
  | 9, hk => cases hk; exact ⟨by decide, k_ty_Unit, k_nm_Unit⟩
  | 10, hk => cases hk; exact ⟨by decide, k_ty_Writer, k_nm_Writer⟩
  | 11, hk => cases hk; exact ⟨by decide, k_ty_Main, k_nm_Main⟩
  | 12, hk => cases hk; exact ⟨by decide, k_ty_Model, k_nm_Model⟩
  | 13, hk => cases hk; exact ⟨by decide, k_ty_List, k_nm_List⟩
  | i + 14, hk => exact absurd hk (by show ¬ (([] : List vw_C)[i]? = some k); simp)
theorem y_ta_mem {t : Nat} {ty : FieldType} (h : mj_look y_ta t = some ty) : (t = 6 ∧ ty = .int) ∨ (t = 7 ∧ ty = .long) ∨ (t = 8 ∧ ty = .object "ClosureClasses$Frame") ∨ (t = 17 ∧ ty = .object "ClosureClasses$Unit") ∨ (t = 22 ∧ ty = .object "java/lang/Object") := by
  have h1 := mj_look_mem h
  simp only [y_ta, List.mem_cons, Prod.mk.injEq, List.not_mem_nil, or_false] at h1
  exact h1
theorem y_VA : mj_VA y_Y := by
  refine ⟨fun t ty h => ?_, fun t ty h => ?_, fun i C h => ?_⟩
  · rcases y_ta_mem h with ⟨e, -⟩ | ⟨e, -⟩ | ⟨e, -⟩ | ⟨e, -⟩ | ⟨e, -⟩ <;> omega
  · rcases y_ta_mem h with ⟨e, e2⟩ | ⟨e, e2⟩ | ⟨e, e2⟩ | ⟨e, e2⟩ | ⟨e, e2⟩ <;> cases t <;> first | (exact absurd e (by decide)) | (rw [e2]; rfl)
  · rcases y_ta_mem h with ⟨e, e2⟩ | ⟨e, e2⟩ | ⟨e, e2⟩ | ⟨e, e2⟩ | ⟨e, e2⟩
    · omega
    · omega
    · have hi : i = 0 := by omega
      subst hi
      cases e2
      exact Or.inr ⟨by decide, _, rfl, rfl⟩
    · have hi : i = 9 := by omega
      subst hi
      cases e2
      exact Or.inr ⟨by decide, _, rfl, rfl⟩
    · have hi : i = 14 := by omega
      subst hi
      cases e2
      exact Or.inl ⟨rfl, rfl, rfl, _, _, rfl, rfl⟩
theorem y_V : mj_V y_Y := ⟨y_VM, y_VC, y_VA⟩
theorem y_WC : ∀ k ∈ y_cl, ∀ w ∈ mj_wC k, mj_gw w = true ∧ w ∈ y_big := by
  unfold y_cl
  refine List.forall_mem_cons.mpr ⟨y_pl_ok vc_Frame vc_Frame_g, ?_⟩
  refine List.forall_mem_cons.mpr ⟨y_pl_ok vc_Heap vc_Heap_g, ?_⟩
  refine List.forall_mem_cons.mpr ⟨y_pl_ok vc_Machine vc_Machine_g, ?_⟩
  refine List.forall_mem_cons.mpr ⟨y_pl_ok vc_Pieces vc_Pieces_g, ?_⟩
  refine List.forall_mem_cons.mpr ⟨y_pl_ok vc_Program vc_Program_g, ?_⟩
  refine List.forall_mem_cons.mpr ⟨y_pl_ok vc_Reader vc_Reader_g, ?_⟩
  refine List.forall_mem_cons.mpr ⟨y_pl_ok vc_Row vc_Row_g, ?_⟩
  refine List.forall_mem_cons.mpr ⟨y_pl_ok vc_Scope vc_Scope_g, ?_⟩
  refine List.forall_mem_cons.mpr ⟨y_pl_ok vc_Term vc_Term_g, ?_⟩
  refine List.forall_mem_cons.mpr ⟨y_pl_ok vc_Unit vc_Unit_g, ?_⟩
  refine List.forall_mem_cons.mpr ⟨y_pl_ok vc_Writer vc_Writer_g, ?_⟩
  refine List.forall_mem_cons.mpr ⟨y_pl_ok vc_Main vc_Main_g, ?_⟩
  refine List.forall_mem_cons.mpr ⟨y_pl_ok vc_Model vc_Model_g, ?_⟩
  refine List.forall_mem_cons.mpr ⟨y_pl_ok vc_List vc_List_g, ?_⟩
  exact fun _ h => absurd h List.not_mem_nil
theorem y_words : ∀ w ∈ mj_wd y_Y, mj_gw w = true ∧ w ∈ y_big := by
  intro w hw
  rcases List.mem_append.mp hw with h | h
  · obtain ⟨M, hM, h⟩ := List.mem_flatMap.mp h
    exact y_WM M hM w h
  · rcases List.mem_append.mp h with h | h
    · obtain ⟨k, hk, h⟩ := List.mem_flatMap.mp h
      exact y_WC k hk w h
    · rcases List.mem_append.mp h with h | h
      · exact y_pl_ok va_arr va_arr_g w h
      · exact y_pl_ok va_ob va_ob_g w h
