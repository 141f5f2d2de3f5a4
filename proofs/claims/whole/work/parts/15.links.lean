/-! the tables, decided: links -/
set_option maxRecDepth 100000 in
theorem vm_Main_init : mj_bm y_Y m_Main_init = true := by decide +kernel
set_option maxRecDepth 100000 in
theorem vm_Row_init : mj_bm y_Y m_Row_init = true := by decide +kernel
set_option maxRecDepth 100000 in
theorem vm_Machine_init : mj_bm y_Y m_Machine_init = true := by decide +kernel
set_option maxRecDepth 100000 in
theorem vm_Heap_init : mj_bm y_Y m_Heap_init = true := by decide +kernel
set_option maxRecDepth 100000 in
theorem vm_Frame_init : mj_bm y_Y m_Frame_init = true := by decide +kernel
set_option maxRecDepth 100000 in
theorem vm_Program_init : mj_bm y_Y m_Program_init = true := by decide +kernel
set_option maxRecDepth 100000 in
theorem vm_Main_feed : mj_bm y_Y m_Main_feed = true := by decide +kernel
set_option maxRecDepth 100000 in
theorem vm_Main_putOnTape : mj_bm y_Y m_Main_putOnTape = true := by decide +kernel
set_option maxRecDepth 100000 in
theorem vm_Row_put : mj_bm y_Y m_Row_put = true := by decide +kernel
set_option maxRecDepth 100000 in
theorem vm_Main_read : mj_bm y_Y m_Main_read = true := by decide +kernel
set_option maxRecDepth 100000 in
theorem vm_Pieces_init : mj_bm y_Y m_Pieces_init = true := by decide +kernel
set_option maxRecDepth 100000 in
theorem vm_Reader_init : mj_bm y_Y m_Reader_init = true := by decide +kernel
set_option maxRecDepth 100000 in
theorem vm_Scope_init : mj_bm y_Y m_Scope_init = true := by decide +kernel
set_option maxRecDepth 100000 in
theorem vm_Reader_readProgram : mj_bm y_Y m_Reader_readProgram = true := by decide +kernel
set_option maxRecDepth 100000 in
theorem vm_Pieces_split : mj_bm y_Y m_Pieces_split = true := by decide +kernel
set_option maxRecDepth 100000 in
theorem vm_Pieces_skipBlanks : mj_bm y_Y m_Pieces_skipBlanks = true := by decide +kernel
set_option maxRecDepth 100000 in
theorem vm_Row_at : mj_bm y_Y m_Row_at = true := by decide +kernel
set_option maxRecDepth 100000 in
theorem vm_Pieces_isBlank : mj_bm y_Y m_Pieces_isBlank = true := by decide +kernel
set_option maxRecDepth 100000 in
theorem vm_Pieces_splitOne : mj_bm y_Y m_Pieces_splitOne = true := by decide +kernel
set_option maxRecDepth 100000 in
theorem vm_Pieces_isLetter : mj_bm y_Y m_Pieces_isLetter = true := by decide +kernel
set_option maxRecDepth 100000 in
theorem vm_Pieces_splitWord : mj_bm y_Y m_Pieces_splitWord = true := by decide +kernel
set_option maxRecDepth 100000 in
theorem vm_Pieces_kindOfWord : mj_bm y_Y m_Pieces_kindOfWord = true := by decide +kernel
set_option maxRecDepth 100000 in
theorem vm_Pieces_keep : mj_bm y_Y m_Pieces_keep = true := by decide +kernel
set_option maxRecDepth 100000 in
theorem vm_Pieces_isDigit : mj_bm y_Y m_Pieces_isDigit = true := by decide +kernel
set_option maxRecDepth 100000 in
theorem vm_Pieces_splitNumber : mj_bm y_Y m_Pieces_splitNumber = true := by decide +kernel
set_option maxRecDepth 100000 in
theorem vm_Pieces_advance : mj_bm y_Y m_Pieces_advance = true := by decide +kernel
set_option maxRecDepth 100000 in
theorem vm_Reader_readDefinition : mj_bm y_Y m_Reader_readDefinition = true := by decide +kernel
set_option maxRecDepth 100000 in
theorem vm_Reader_definitionOf : mj_bm y_Y m_Reader_definitionOf = true := by decide +kernel
set_option maxRecDepth 100000 in
theorem vm_Reader_refuse : mj_bm y_Y m_Reader_refuse = true := by decide +kernel
set_option maxRecDepth 100000 in
theorem vm_Reader_openUnit : mj_bm y_Y m_Reader_openUnit = true := by decide +kernel
set_option maxRecDepth 100000 in
theorem vm_Unit_init : mj_bm y_Y m_Unit_init = true := by decide +kernel
set_option maxRecDepth 100000 in
theorem vm_Scope_enter : mj_bm y_Y m_Scope_enter = true := by decide +kernel
set_option maxRecDepth 100000 in
theorem vm_Reader_bindNames : mj_bm y_Y m_Reader_bindNames = true := by decide +kernel
set_option maxRecDepth 100000 in
theorem vm_Reader_goesOn : mj_bm y_Y m_Reader_goesOn = true := by decide +kernel
set_option maxRecDepth 100000 in
theorem vm_Scope_isAmongLast : mj_bm y_Y m_Scope_isAmongLast = true := by decide +kernel
set_option maxRecDepth 100000 in
theorem vm_Scope_bind : mj_bm y_Y m_Scope_bind = true := by decide +kernel
set_option maxRecDepth 100000 in
theorem vm_Scope_unitAt : mj_bm y_Y m_Scope_unitAt = true := by decide +kernel
set_option maxRecDepth 100000 in
theorem vm_Reader_take : mj_bm y_Y m_Reader_take = true := by decide +kernel
set_option maxRecDepth 100000 in
theorem vm_Reader_readTerm : mj_bm y_Y m_Reader_readTerm = true := by decide +kernel
set_option maxRecDepth 100000 in
theorem vm_Reader_kindOfTerm : mj_bm y_Y m_Reader_kindOfTerm = true := by decide +kernel
set_option maxRecDepth 100000 in
theorem vm_Term_init : mj_bm y_Y m_Term_init = true := by decide +kernel
set_option maxRecDepth 100000 in
theorem vm_Scope_resolve : mj_bm y_Y m_Scope_resolve = true := by decide +kernel
set_option maxRecDepth 100000 in
theorem vm_Scope_bindingOf : mj_bm y_Y m_Scope_bindingOf = true := by decide +kernel
set_option maxRecDepth 100000 in
theorem vm_Unit_fieldOf : mj_bm y_Y m_Unit_fieldOf = true := by decide +kernel
set_option maxRecDepth 100000 in
theorem vm_Reader_takeNumber : mj_bm y_Y m_Reader_takeNumber = true := by decide +kernel
set_option maxRecDepth 100000 in
theorem vm_Reader_readCall : mj_bm y_Y m_Reader_readCall = true := by decide +kernel
set_option maxRecDepth 100000 in
theorem vm_Term_add : mj_bm y_Y m_Term_add = true := by decide +kernel
set_option maxRecDepth 100000 in
theorem vm_Reader_readOperand : mj_bm y_Y m_Reader_readOperand = true := by decide +kernel
set_option maxRecDepth 100000 in
theorem vm_Scope_leave : mj_bm y_Y m_Scope_leave = true := by decide +kernel
set_option maxRecDepth 100000 in
theorem vm_Reader_readFunction : mj_bm y_Y m_Reader_readFunction = true := by decide +kernel
set_option maxRecDepth 100000 in
theorem vm_Scope_unbind : mj_bm y_Y m_Scope_unbind = true := by decide +kernel
set_option maxRecDepth 100000 in
theorem vm_Reader_readLet : mj_bm y_Y m_Reader_readLet = true := by decide +kernel
set_option maxRecDepth 100000 in
theorem vm_Reader_readConstructor : mj_bm y_Y m_Reader_readConstructor = true := by decide +kernel
set_option maxRecDepth 100000 in
theorem vm_Reader_readChoice : mj_bm y_Y m_Reader_readChoice = true := by decide +kernel
set_option maxRecDepth 100000 in
theorem vm_Reader_readAlternative : mj_bm y_Y m_Reader_readAlternative = true := by decide +kernel
set_option maxRecDepth 100000 in
theorem vm_Reader_hasAlternative : mj_bm y_Y m_Reader_hasAlternative = true := by decide +kernel
set_option maxRecDepth 100000 in
theorem vm_Reader_readOperator : mj_bm y_Y m_Reader_readOperator = true := by decide +kernel
set_option maxRecDepth 100000 in
theorem vm_Reader_findDefinitions : mj_bm y_Y m_Reader_findDefinitions = true := by decide +kernel
set_option maxRecDepth 100000 in
theorem vm_Reader_mainUnit : mj_bm y_Y m_Reader_mainUnit = true := by decide +kernel
set_option maxRecDepth 100000 in
theorem vm_Writer_init : mj_bm y_Y m_Writer_init = true := by decide +kernel
set_option maxRecDepth 100000 in
theorem vm_Writer_writeUnits : mj_bm y_Y m_Writer_writeUnits = true := by decide +kernel
set_option maxRecDepth 100000 in
theorem vm_Program_addUnit : mj_bm y_Y m_Program_addUnit = true := by decide +kernel
set_option maxRecDepth 100000 in
theorem vm_Writer_writeHead : mj_bm y_Y m_Writer_writeHead = true := by decide +kernel
set_option maxRecDepth 100000 in
theorem vm_Program_add : mj_bm y_Y m_Program_add = true := by decide +kernel
set_option maxRecDepth 100000 in
theorem vm_Unit_whereOf : mj_bm y_Y m_Unit_whereOf = true := by decide +kernel
set_option maxRecDepth 100000 in
theorem vm_Unit_numberOf : mj_bm y_Y m_Unit_numberOf = true := by decide +kernel
set_option maxRecDepth 100000 in
theorem vm_Writer_writeTerm : mj_bm y_Y m_Writer_writeTerm = true := by decide +kernel
set_option maxRecDepth 100000 in
theorem vm_Writer_writeOperands : mj_bm y_Y m_Writer_writeOperands = true := by decide +kernel
set_option maxRecDepth 100000 in
theorem vm_Writer_writeParts : mj_bm y_Y m_Writer_writeParts = true := by decide +kernel
set_option maxRecDepth 100000 in
theorem vm_Writer_writeAlternatives : mj_bm y_Y m_Writer_writeAlternatives = true := by decide +kernel
set_option maxRecDepth 100000 in
theorem vm_Program_putLength : mj_bm y_Y m_Program_putLength = true := by decide +kernel
set_option maxRecDepth 100000 in
theorem vm_Program_endTerm : mj_bm y_Y m_Program_endTerm = true := by decide +kernel
set_option maxRecDepth 100000 in
theorem vm_Machine_forget : mj_bm y_Y m_Machine_forget = true := by decide +kernel
set_option maxRecDepth 100000 in
theorem vm_Main_size : mj_bm y_Y m_Main_size = true := by decide +kernel
set_option maxRecDepth 100000 in
theorem vm_Program_hasUnit : mj_bm y_Y m_Program_hasUnit = true := by decide +kernel
set_option maxRecDepth 100000 in
theorem vm_Program_unitLength : mj_bm y_Y m_Program_unitLength = true := by decide +kernel
set_option maxRecDepth 100000 in
theorem vm_Main_byteAt : mj_bm y_Y m_Main_byteAt = true := by decide +kernel
set_option maxRecDepth 100000 in
theorem vm_Program_unitStart : mj_bm y_Y m_Program_unitStart = true := by decide +kernel
set_option maxRecDepth 100000 in
theorem vm_Program_codeAt : mj_bm y_Y m_Program_codeAt = true := by decide +kernel
set_option maxRecDepth 100000 in
theorem vm_Main_run : mj_bm y_Y m_Main_run = true := by decide +kernel
set_option maxRecDepth 100000 in
theorem vm_Machine_start : mj_bm y_Y m_Machine_start = true := by decide +kernel
set_option maxRecDepth 100000 in
theorem vm_Heap_empty : mj_bm y_Y m_Heap_empty = true := by decide +kernel
set_option maxRecDepth 100000 in
theorem vm_Machine_standAt : mj_bm y_Y m_Machine_standAt = true := by decide +kernel
set_option maxRecDepth 100000 in
theorem vm_Machine_enter : mj_bm y_Y m_Machine_enter = true := by decide +kernel
set_option maxRecDepth 100000 in
theorem vm_Program_termOf : mj_bm y_Y m_Program_termOf = true := by decide +kernel
set_option maxRecDepth 100000 in
theorem vm_Machine_turnTo : mj_bm y_Y m_Machine_turnTo = true := by decide +kernel
set_option maxRecDepth 100000 in
theorem vm_Machine_go : mj_bm y_Y m_Machine_go = true := by decide +kernel
set_option maxRecDepth 100000 in
theorem vm_Machine_doTerm : mj_bm y_Y m_Machine_doTerm = true := by decide +kernel
set_option maxRecDepth 100000 in
theorem vm_Program_fourAt : mj_bm y_Y m_Program_fourAt = true := by decide +kernel
set_option maxRecDepth 100000 in
theorem vm_Heap_value : mj_bm y_Y m_Heap_value = true := by decide +kernel
set_option maxRecDepth 100000 in
theorem vm_Machine_give : mj_bm y_Y m_Machine_give = true := by decide +kernel
set_option maxRecDepth 100000 in
theorem vm_Machine_whatIsAt : mj_bm y_Y m_Machine_whatIsAt = true := by decide +kernel
set_option maxRecDepth 100000 in
theorem vm_Machine_boundAt : mj_bm y_Y m_Machine_boundAt = true := by decide +kernel
set_option maxRecDepth 100000 in
theorem vm_Row_longAt : mj_bm y_Y m_Row_longAt = true := by decide +kernel
set_option maxRecDepth 100000 in
theorem vm_Heap_field : mj_bm y_Y m_Heap_field = true := by decide +kernel
set_option maxRecDepth 100000 in
theorem vm_Program_definitionUnit : mj_bm y_Y m_Program_definitionUnit = true := by decide +kernel
set_option maxRecDepth 100000 in
theorem vm_Program_parametersOf : mj_bm y_Y m_Program_parametersOf = true := by decide +kernel
set_option maxRecDepth 100000 in
theorem vm_Heap_make : mj_bm y_Y m_Heap_make = true := by decide +kernel
set_option maxRecDepth 100000 in
theorem vm_Heap_put : mj_bm y_Y m_Heap_put = true := by decide +kernel
set_option maxRecDepth 100000 in
theorem vm_Machine_objectValue : mj_bm y_Y m_Machine_objectValue = true := by decide +kernel
set_option maxRecDepth 100000 in
theorem vm_Machine_fail : mj_bm y_Y m_Machine_fail = true := by decide +kernel
set_option maxRecDepth 100000 in
theorem vm_Machine_giveValueOf : mj_bm y_Y m_Machine_giveValueOf = true := by decide +kernel
set_option maxRecDepth 100000 in
theorem vm_Heap_objectKind : mj_bm y_Y m_Heap_objectKind = true := by decide +kernel
set_option maxRecDepth 100000 in
theorem vm_Heap_kindOf : mj_bm y_Y m_Heap_kindOf = true := by decide +kernel
set_option maxRecDepth 100000 in
theorem vm_Heap_numberOf : mj_bm y_Y m_Heap_numberOf = true := by decide +kernel
set_option maxRecDepth 100000 in
theorem vm_Heap_get : mj_bm y_Y m_Heap_get = true := by decide +kernel
set_option maxRecDepth 100000 in
theorem vm_Heap_settled : mj_bm y_Y m_Heap_settled = true := by decide +kernel
set_option maxRecDepth 100000 in
theorem vm_Machine_deepen : mj_bm y_Y m_Machine_deepen = true := by decide +kernel
set_option maxRecDepth 100000 in
theorem vm_Frame_copy : mj_bm y_Y m_Frame_copy = true := by decide +kernel
set_option maxRecDepth 100000 in
theorem vm_Heap_markUnderWay : mj_bm y_Y m_Heap_markUnderWay = true := by decide +kernel
set_option maxRecDepth 100000 in
theorem vm_Heap_whatOf : mj_bm y_Y m_Heap_whatOf = true := by decide +kernel
set_option maxRecDepth 100000 in
theorem vm_Machine_want : mj_bm y_Y m_Machine_want = true := by decide +kernel
set_option maxRecDepth 100000 in
theorem vm_Program_twoAt : mj_bm y_Y m_Program_twoAt = true := by decide +kernel
set_option maxRecDepth 100000 in
theorem vm_Machine_makeUnit : mj_bm y_Y m_Machine_makeUnit = true := by decide +kernel
set_option maxRecDepth 100000 in
theorem vm_Program_fieldsOf : mj_bm y_Y m_Program_fieldsOf = true := by decide +kernel
set_option maxRecDepth 100000 in
theorem vm_Program_fieldPlaces : mj_bm y_Y m_Program_fieldPlaces = true := by decide +kernel
set_option maxRecDepth 100000 in
theorem vm_Heap_putField : mj_bm y_Y m_Heap_putField = true := by decide +kernel
set_option maxRecDepth 100000 in
theorem vm_Machine_doLet : mj_bm y_Y m_Machine_doLet = true := by decide +kernel
set_option maxRecDepth 100000 in
theorem vm_Machine_makeArguments : mj_bm y_Y m_Machine_makeArguments = true := by decide +kernel
set_option maxRecDepth 100000 in
theorem vm_Machine_doConstructor : mj_bm y_Y m_Machine_doConstructor = true := by decide +kernel
set_option maxRecDepth 100000 in
theorem vm_Machine_makeWithArguments : mj_bm y_Y m_Machine_makeWithArguments = true := by decide +kernel
set_option maxRecDepth 100000 in
theorem vm_Heap_fieldsOf : mj_bm y_Y m_Heap_fieldsOf = true := by decide +kernel
set_option maxRecDepth 100000 in
theorem vm_Machine_useValue : mj_bm y_Y m_Machine_useValue = true := by decide +kernel
set_option maxRecDepth 100000 in
theorem vm_Heap_setTo : mj_bm y_Y m_Heap_setTo = true := by decide +kernel
set_option maxRecDepth 100000 in
theorem vm_Machine_callValue : mj_bm y_Y m_Machine_callValue = true := by decide +kernel
set_option maxRecDepth 100000 in
theorem vm_Machine_isCallable : mj_bm y_Y m_Machine_isCallable = true := by decide +kernel
set_option maxRecDepth 100000 in
theorem vm_Machine_takeStep : mj_bm y_Y m_Machine_takeStep = true := by decide +kernel
set_option maxRecDepth 100000 in
theorem vm_Heap_isFunction : mj_bm y_Y m_Heap_isFunction = true := by decide +kernel
set_option maxRecDepth 100000 in
theorem vm_Program_behindTerm : mj_bm y_Y m_Program_behindTerm = true := by decide +kernel
set_option maxRecDepth 100000 in
theorem vm_Machine_callWithRest : mj_bm y_Y m_Machine_callWithRest = true := by decide +kernel
set_option maxRecDepth 100000 in
theorem vm_Machine_choose : mj_bm y_Y m_Machine_choose = true := by decide +kernel
set_option maxRecDepth 100000 in
theorem vm_Heap_isConstructor : mj_bm y_Y m_Heap_isConstructor = true := by decide +kernel
set_option maxRecDepth 100000 in
theorem vm_Heap_tagOf : mj_bm y_Y m_Heap_tagOf = true := by decide +kernel
set_option maxRecDepth 100000 in
theorem vm_Heap_partsOf : mj_bm y_Y m_Heap_partsOf = true := by decide +kernel
set_option maxRecDepth 100000 in
theorem vm_Machine_doAlternative : mj_bm y_Y m_Machine_doAlternative = true := by decide +kernel
set_option maxRecDepth 100000 in
theorem vm_Machine_doSecond : mj_bm y_Y m_Machine_doSecond = true := by decide +kernel
set_option maxRecDepth 100000 in
theorem vm_Machine_operate : mj_bm y_Y m_Machine_operate = true := by decide +kernel
set_option maxRecDepth 100000 in
theorem vm_Machine_reckon : mj_bm y_Y m_Machine_reckon = true := by decide +kernel
set_option maxRecDepth 100000 in
theorem vm_Machine_apply : mj_bm y_Y m_Machine_apply = true := by decide +kernel
set_option maxRecDepth 100000 in
theorem vm_Machine_takenBy : mj_bm y_Y m_Machine_takenBy = true := by decide +kernel
set_option maxRecDepth 100000 in
theorem vm_Heap_unitOf : mj_bm y_Y m_Heap_unitOf = true := by decide +kernel
set_option maxRecDepth 100000 in
theorem vm_Heap_gotBy : mj_bm y_Y m_Heap_gotBy = true := by decide +kernel
set_option maxRecDepth 100000 in
theorem vm_Heap_selfOf : mj_bm y_Y m_Heap_selfOf = true := by decide +kernel
set_option maxRecDepth 100000 in
theorem vm_Machine_keepRest : mj_bm y_Y m_Machine_keepRest = true := by decide +kernel
set_option maxRecDepth 100000 in
theorem vm_Machine_outcome : mj_bm y_Y m_Machine_outcome = true := by decide +kernel
set_option maxRecDepth 100000 in
theorem vm_Main_told : mj_bm y_Y m_Main_told = true := by decide +kernel
set_option maxRecDepth 100000 in
theorem vm_Machine_resultNumber : mj_bm y_Y m_Machine_resultNumber = true := by decide +kernel
set_option maxRecDepth 100000 in
theorem vm_Machine_resultParts : mj_bm y_Y m_Machine_resultParts = true := by decide +kernel
set_option maxRecDepth 100000 in
theorem vm_Main_part : mj_bm y_Y m_Main_part = true := by decide +kernel
set_option maxRecDepth 100000 in
theorem vm_Machine_startPart : mj_bm y_Y m_Machine_startPart = true := by decide +kernel
set_option maxRecDepth 100000 in
theorem vm_Main_clear : mj_bm y_Y m_Main_clear = true := by decide +kernel
set_option maxRecDepth 100000 in
theorem vm_Model_init : mj_bm y_Y m_Model_init = true := by decide +kernel
set_option maxRecDepth 100000 in
theorem vm_Model_feed : mj_bm y_Y m_Model_feed = true := by decide +kernel
set_option maxRecDepth 100000 in
theorem vm_Model_put : mj_bm y_Y m_Model_put = true := by decide +kernel
set_option maxRecDepth 100000 in
theorem vm_Model_read : mj_bm y_Y m_Model_read = true := by decide +kernel
set_option maxRecDepth 100000 in
theorem vm_Model_parsed : mj_bm y_Y m_Model_parsed = true := by decide +kernel
set_option maxRecDepth 100000 in
theorem vm_Model_next : mj_bm y_Y m_Model_next = true := by decide +kernel
set_option maxRecDepth 100000 in
theorem vm_Model_at : mj_bm y_Y m_Model_at = true := by decide +kernel
set_option maxRecDepth 100000 in
theorem vm_Model_isLetter : mj_bm y_Y m_Model_isLetter = true := by decide +kernel
set_option maxRecDepth 100000 in
theorem vm_Model_isDigit : mj_bm y_Y m_Model_isDigit = true := by decide +kernel
set_option maxRecDepth 100000 in
theorem vm_Model_push : mj_bm y_Y m_Model_push = true := by decide +kernel
set_option maxRecDepth 100000 in
theorem vm_Model_term : mj_bm y_Y m_Model_term = true := by decide +kernel
set_option maxRecDepth 100000 in
theorem vm_Model_isAct : mj_bm y_Y m_Model_isAct = true := by decide +kernel
set_option maxRecDepth 100000 in
theorem vm_Model_node : mj_bm y_Y m_Model_node = true := by decide +kernel
set_option maxRecDepth 100000 in
theorem vm_Model_bind : mj_bm y_Y m_Model_bind = true := by decide +kernel
set_option maxRecDepth 100000 in
theorem vm_Model_sign : mj_bm y_Y m_Model_sign = true := by decide +kernel
set_option maxRecDepth 100000 in
theorem vm_Model_is : mj_bm y_Y m_Model_is = true := by decide +kernel
set_option maxRecDepth 100000 in
theorem vm_Model_make : mj_bm y_Y m_Model_make = true := by decide +kernel
set_option maxRecDepth 100000 in
theorem vm_Model_arguments : mj_bm y_Y m_Model_arguments = true := by decide +kernel
set_option maxRecDepth 100000 in
theorem vm_Model_parts : mj_bm y_Y m_Model_parts = true := by decide +kernel
set_option maxRecDepth 100000 in
theorem vm_Model_cases : mj_bm y_Y m_Model_cases = true := by decide +kernel
set_option maxRecDepth 100000 in
theorem vm_Model_definition : mj_bm y_Y m_Model_definition = true := by decide +kernel
set_option maxRecDepth 100000 in
theorem vm_Model_known : mj_bm y_Y m_Model_known = true := by decide +kernel
set_option maxRecDepth 100000 in
theorem vm_Model_finds : mj_bm y_Y m_Model_finds = true := by decide +kernel
set_option maxRecDepth 100000 in
theorem vm_Model_isUnit : mj_bm y_Y m_Model_isUnit = true := by decide +kernel
set_option maxRecDepth 100000 in
theorem vm_Model_isDelayed : mj_bm y_Y m_Model_isDelayed = true := by decide +kernel
set_option maxRecDepth 100000 in
theorem vm_Model_isOperand : mj_bm y_Y m_Model_isOperand = true := by decide +kernel
set_option maxRecDepth 100000 in
theorem vm_Model_captures : mj_bm y_Y m_Model_captures = true := by decide +kernel
set_option maxRecDepth 100000 in
theorem vm_Model_size : mj_bm y_Y m_Model_size = true := by decide +kernel
set_option maxRecDepth 100000 in
theorem vm_Model_write : mj_bm y_Y m_Model_write = true := by decide +kernel
set_option maxRecDepth 100000 in
theorem vm_Model_measure : mj_bm y_Y m_Model_measure = true := by decide +kernel
set_option maxRecDepth 100000 in
theorem vm_Model_one : mj_bm y_Y m_Model_one = true := by decide +kernel
set_option maxRecDepth 100000 in
theorem vm_Model_placeIn : mj_bm y_Y m_Model_placeIn = true := by decide +kernel
set_option maxRecDepth 100000 in
theorem vm_Model_local : mj_bm y_Y m_Model_local = true := by decide +kernel
set_option maxRecDepth 100000 in
theorem vm_Model_two : mj_bm y_Y m_Model_two = true := by decide +kernel
set_option maxRecDepth 100000 in
theorem vm_Model_head : mj_bm y_Y m_Model_head = true := by decide +kernel
set_option maxRecDepth 100000 in
theorem vm_Model_putPlace : mj_bm y_Y m_Model_putPlace = true := by decide +kernel
set_option maxRecDepth 100000 in
theorem vm_Model_byteAt : mj_bm y_Y m_Model_byteAt = true := by decide +kernel
set_option maxRecDepth 100000 in
theorem vm_Model_run : mj_bm y_Y m_Model_run = true := by decide +kernel
set_option maxRecDepth 100000 in
theorem vm_Model_goes : mj_bm y_Y m_Model_goes = true := by decide +kernel
set_option maxRecDepth 100000 in
theorem vm_Model_fails : mj_bm y_Y m_Model_fails = true := by decide +kernel
set_option maxRecDepth 100000 in
theorem vm_Model_finish : mj_bm y_Y m_Model_finish = true := by decide +kernel
set_option maxRecDepth 100000 in
theorem vm_Model_deliver : mj_bm y_Y m_Model_deliver = true := by decide +kernel
set_option maxRecDepth 100000 in
theorem vm_Model_step : mj_bm y_Y m_Model_step = true := by decide +kernel
set_option maxRecDepth 100000 in
theorem vm_Model_isFunction : mj_bm y_Y m_Model_isFunction = true := by decide +kernel
set_option maxRecDepth 100000 in
theorem vm_Model_give : mj_bm y_Y m_Model_give = true := by decide +kernel
set_option maxRecDepth 100000 in
theorem vm_Model_operand : mj_bm y_Y m_Model_operand = true := by decide +kernel
set_option maxRecDepth 100000 in
theorem vm_Model_named : mj_bm y_Y m_Model_named = true := by decide +kernel
set_option maxRecDepth 100000 in
theorem vm_Model_fetch : mj_bm y_Y m_Model_fetch = true := by decide +kernel
set_option maxRecDepth 100000 in
theorem vm_Model_makes : mj_bm y_Y m_Model_makes = true := by decide +kernel
set_option maxRecDepth 100000 in
theorem vm_Model_fresh : mj_bm y_Y m_Model_fresh = true := by decide +kernel
set_option maxRecDepth 100000 in
theorem vm_Model_cell : mj_bm y_Y m_Model_cell = true := by decide +kernel
set_option maxRecDepth 100000 in
theorem vm_Model_apply : mj_bm y_Y m_Model_apply = true := by decide +kernel
set_option maxRecDepth 100000 in
theorem vm_Model_takes : mj_bm y_Y m_Model_takes = true := by decide +kernel
set_option maxRecDepth 100000 in
theorem vm_Model_gives : mj_bm y_Y m_Model_gives = true := by decide +kernel
set_option maxRecDepth 100000 in
theorem vm_Model_waitFor : mj_bm y_Y m_Model_waitFor = true := by decide +kernel
set_option maxRecDepth 100000 in
theorem vm_Model_freeFrame : mj_bm y_Y m_Model_freeFrame = true := by decide +kernel
set_option maxRecDepth 100000 in
theorem vm_Model_choose : mj_bm y_Y m_Model_choose = true := by decide +kernel
set_option maxRecDepth 100000 in
theorem vm_Model_first : mj_bm y_Y m_Model_first = true := by decide +kernel
set_option maxRecDepth 100000 in
theorem vm_Model_reckon : mj_bm y_Y m_Model_reckon = true := by decide +kernel
set_option maxRecDepth 100000 in
theorem vm_Model_walk : mj_bm y_Y m_Model_walk = true := by decide +kernel
set_option maxRecDepth 100000 in
theorem vm_Model_wants : mj_bm y_Y m_Model_wants = true := by decide +kernel
set_option maxRecDepth 100000 in
theorem vm_Model_makeAll : mj_bm y_Y m_Model_makeAll = true := by decide +kernel
set_option maxRecDepth 100000 in
theorem vm_Model_result : mj_bm y_Y m_Model_result = true := by decide +kernel
set_option maxRecDepth 100000 in
theorem vm_Model_told : mj_bm y_Y m_Model_told = true := by decide +kernel
set_option maxRecDepth 100000 in
theorem vm_Model_part : mj_bm y_Y m_Model_part = true := by decide +kernel
set_option maxRecDepth 100000 in
theorem vm_Model_clear : mj_bm y_Y m_Model_clear = true := by decide +kernel
set_option maxRecDepth 100000 in
theorem vm_Arrays_copyOf0 : mj_bm y_Y m_Arrays_copyOf0 = true := by decide +kernel
set_option maxRecDepth 100000 in
theorem vm_String_indexOf0 : mj_bm y_Y m_String_indexOf0 = true := by decide +kernel
set_option maxRecDepth 100000 in
theorem vm_String_indexOf1 : mj_bm y_Y m_String_indexOf1 = true := by decide +kernel
set_option maxRecDepth 100000 in
theorem vm_String_isLatin1 : mj_bm y_Y m_String_isLatin1 = true := by decide +kernel
set_option maxRecDepth 100000 in
theorem vm_String_length : mj_bm y_Y m_String_length = true := by decide +kernel
set_option maxRecDepth 100000 in
theorem vm_String_coder : mj_bm y_Y m_String_coder = true := by decide +kernel
set_option maxRecDepth 100000 in
theorem vm_Latin1_indexOf : mj_bm y_Y m_Latin1_indexOf = true := by decide +kernel
set_option maxRecDepth 100000 in
theorem vm_Latin1_canEncode : mj_bm y_Y m_Latin1_canEncode = true := by decide +kernel
set_option maxRecDepth 100000 in
theorem vm_Latin1_indexOfChar : mj_bm y_Y m_Latin1_indexOfChar = true := by decide +kernel
set_option maxRecDepth 100000 in
theorem vm_List_init : mj_bm y_Y m_List_init = true := by decide +kernel
set_option maxRecDepth 100000 in
theorem vm_AList_init : mj_bm y_Y m_AList_init = true := by decide +kernel
set_option maxRecDepth 100000 in
theorem vm_AColl_init : mj_bm y_Y m_AColl_init = true := by decide +kernel
set_option maxRecDepth 100000 in
theorem vm_List_size : mj_bm y_Y m_List_size = true := by decide +kernel
set_option maxRecDepth 100000 in
theorem vm_List_add0 : mj_bm y_Y m_List_add0 = true := by decide +kernel
set_option maxRecDepth 100000 in
theorem vm_List_add1 : mj_bm y_Y m_List_add1 = true := by decide +kernel
set_option maxRecDepth 100000 in
theorem vm_List_grow0 : mj_bm y_Y m_List_grow0 = true := by decide +kernel
set_option maxRecDepth 100000 in
theorem vm_List_grow1 : mj_bm y_Y m_List_grow1 = true := by decide +kernel
set_option maxRecDepth 100000 in
theorem vm_Support_newLength : mj_bm y_Y m_Support_newLength = true := by decide +kernel
set_option maxRecDepth 100000 in
theorem vm_Arrays_copyOf1 : mj_bm y_Y m_Arrays_copyOf1 = true := by decide +kernel
set_option maxRecDepth 100000 in
theorem vm_Arrays_copyOf2 : mj_bm y_Y m_Arrays_copyOf2 = true := by decide +kernel
set_option maxRecDepth 100000 in
theorem vm_List_get : mj_bm y_Y m_List_get = true := by decide +kernel
set_option maxRecDepth 100000 in
theorem vm_Objects_checkIndex : mj_bm y_Y m_Objects_checkIndex = true := by decide +kernel
set_option maxRecDepth 100000 in
theorem vm_Pre_checkIndex : mj_bm y_Y m_Pre_checkIndex = true := by decide +kernel
set_option maxRecDepth 100000 in
theorem vm_List_elementData : mj_bm y_Y m_List_elementData = true := by decide +kernel
set_option maxRecDepth 100000 in
theorem vm_Law_law : mj_bm y_Y m_Law_law = true := by decide +kernel
