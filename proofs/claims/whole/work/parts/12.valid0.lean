/-! the tables, decided: the bytes of the methods -/
set_option maxRecDepth 100000 in
theorem vi_Main_init : mj_bi m_Main_init = true := by decide +kernel
set_option maxRecDepth 100000 in
theorem vi_Row_init : mj_bi m_Row_init = true := by decide +kernel
set_option maxRecDepth 100000 in
theorem vi_Machine_init : mj_bi m_Machine_init = true := by decide +kernel
set_option maxRecDepth 100000 in
theorem vi_Heap_init : mj_bi m_Heap_init = true := by decide +kernel
set_option maxRecDepth 100000 in
theorem vi_Frame_init : mj_bi m_Frame_init = true := by decide +kernel
set_option maxRecDepth 100000 in
theorem vi_Program_init : mj_bi m_Program_init = true := by decide +kernel
set_option maxRecDepth 100000 in
theorem vi_Main_feed : mj_bi m_Main_feed = true := by decide +kernel
set_option maxRecDepth 100000 in
theorem vi_Main_putOnTape : mj_bi m_Main_putOnTape = true := by decide +kernel
set_option maxRecDepth 100000 in
theorem vi_Row_put : mj_bi m_Row_put = true := by decide +kernel
set_option maxRecDepth 100000 in
theorem vi_Main_read : mj_bi m_Main_read = true := by decide +kernel
set_option maxRecDepth 100000 in
theorem vi_Pieces_init : mj_bi m_Pieces_init = true := by decide +kernel
set_option maxRecDepth 100000 in
theorem vi_Reader_init : mj_bi m_Reader_init = true := by decide +kernel
set_option maxRecDepth 100000 in
theorem vi_Scope_init : mj_bi m_Scope_init = true := by decide +kernel
set_option maxRecDepth 100000 in
theorem vi_Reader_readProgram : mj_bi m_Reader_readProgram = true := by decide +kernel
set_option maxRecDepth 100000 in
theorem vi_Pieces_split : mj_bi m_Pieces_split = true := by decide +kernel
set_option maxRecDepth 100000 in
theorem vi_Pieces_skipBlanks : mj_bi m_Pieces_skipBlanks = true := by decide +kernel
set_option maxRecDepth 100000 in
theorem vi_Row_at : mj_bi m_Row_at = true := by decide +kernel
set_option maxRecDepth 100000 in
theorem vi_Pieces_isBlank : mj_bi m_Pieces_isBlank = true := by decide +kernel
set_option maxRecDepth 100000 in
theorem vi_Pieces_splitOne : mj_bi m_Pieces_splitOne = true := by decide +kernel
set_option maxRecDepth 100000 in
theorem vi_Pieces_isLetter : mj_bi m_Pieces_isLetter = true := by decide +kernel
set_option maxRecDepth 100000 in
theorem vi_Pieces_splitWord : mj_bi m_Pieces_splitWord = true := by decide +kernel
set_option maxRecDepth 100000 in
theorem vi_Pieces_kindOfWord : mj_bi m_Pieces_kindOfWord = true := by decide +kernel
set_option maxRecDepth 100000 in
theorem vi_Pieces_keep : mj_bi m_Pieces_keep = true := by decide +kernel
set_option maxRecDepth 100000 in
theorem vi_Pieces_isDigit : mj_bi m_Pieces_isDigit = true := by decide +kernel
set_option maxRecDepth 100000 in
theorem vi_Pieces_splitNumber : mj_bi m_Pieces_splitNumber = true := by decide +kernel
set_option maxRecDepth 100000 in
theorem vi_Pieces_advance : mj_bi m_Pieces_advance = true := by decide +kernel
set_option maxRecDepth 100000 in
theorem vi_Reader_readDefinition : mj_bi m_Reader_readDefinition = true := by decide +kernel
set_option maxRecDepth 100000 in
theorem vi_Reader_definitionOf : mj_bi m_Reader_definitionOf = true := by decide +kernel
set_option maxRecDepth 100000 in
theorem vi_Reader_refuse : mj_bi m_Reader_refuse = true := by decide +kernel
set_option maxRecDepth 100000 in
theorem vi_Reader_openUnit : mj_bi m_Reader_openUnit = true := by decide +kernel
set_option maxRecDepth 100000 in
theorem vi_Unit_init : mj_bi m_Unit_init = true := by decide +kernel
set_option maxRecDepth 100000 in
theorem vi_Scope_enter : mj_bi m_Scope_enter = true := by decide +kernel
set_option maxRecDepth 100000 in
theorem vi_Reader_bindNames : mj_bi m_Reader_bindNames = true := by decide +kernel
set_option maxRecDepth 100000 in
theorem vi_Reader_goesOn : mj_bi m_Reader_goesOn = true := by decide +kernel
set_option maxRecDepth 100000 in
theorem vi_Scope_isAmongLast : mj_bi m_Scope_isAmongLast = true := by decide +kernel
set_option maxRecDepth 100000 in
theorem vi_Scope_bind : mj_bi m_Scope_bind = true := by decide +kernel
set_option maxRecDepth 100000 in
theorem vi_Scope_unitAt : mj_bi m_Scope_unitAt = true := by decide +kernel
set_option maxRecDepth 100000 in
theorem vi_Reader_take : mj_bi m_Reader_take = true := by decide +kernel
set_option maxRecDepth 100000 in
theorem vi_Reader_readTerm : mj_bi m_Reader_readTerm = true := by decide +kernel
set_option maxRecDepth 100000 in
theorem vi_Reader_kindOfTerm : mj_bi m_Reader_kindOfTerm = true := by decide +kernel
set_option maxRecDepth 100000 in
theorem vi_Term_init : mj_bi m_Term_init = true := by decide +kernel
set_option maxRecDepth 100000 in
theorem vi_Scope_resolve : mj_bi m_Scope_resolve = true := by decide +kernel
set_option maxRecDepth 100000 in
theorem vi_Scope_bindingOf : mj_bi m_Scope_bindingOf = true := by decide +kernel
set_option maxRecDepth 100000 in
theorem vi_Unit_fieldOf : mj_bi m_Unit_fieldOf = true := by decide +kernel
set_option maxRecDepth 100000 in
theorem vi_Reader_takeNumber : mj_bi m_Reader_takeNumber = true := by decide +kernel
set_option maxRecDepth 100000 in
theorem vi_Reader_readCall : mj_bi m_Reader_readCall = true := by decide +kernel
set_option maxRecDepth 100000 in
theorem vi_Term_add : mj_bi m_Term_add = true := by decide +kernel
set_option maxRecDepth 100000 in
theorem vi_Reader_readOperand : mj_bi m_Reader_readOperand = true := by decide +kernel
set_option maxRecDepth 100000 in
theorem vi_Scope_leave : mj_bi m_Scope_leave = true := by decide +kernel
set_option maxRecDepth 100000 in
theorem vi_Reader_readFunction : mj_bi m_Reader_readFunction = true := by decide +kernel
set_option maxRecDepth 100000 in
theorem vi_Scope_unbind : mj_bi m_Scope_unbind = true := by decide +kernel
set_option maxRecDepth 100000 in
theorem vi_Reader_readLet : mj_bi m_Reader_readLet = true := by decide +kernel
set_option maxRecDepth 100000 in
theorem vi_Reader_readConstructor : mj_bi m_Reader_readConstructor = true := by decide +kernel
set_option maxRecDepth 100000 in
theorem vi_Reader_readChoice : mj_bi m_Reader_readChoice = true := by decide +kernel
