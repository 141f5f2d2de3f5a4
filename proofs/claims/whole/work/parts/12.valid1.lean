/-! the tables, decided: the bytes of the methods -/
set_option maxRecDepth 100000 in
theorem vi_Reader_readAlternative : mj_bi m_Reader_readAlternative = true := by decide +kernel
set_option maxRecDepth 100000 in
theorem vi_Reader_hasAlternative : mj_bi m_Reader_hasAlternative = true := by decide +kernel
set_option maxRecDepth 100000 in
theorem vi_Reader_readOperator : mj_bi m_Reader_readOperator = true := by decide +kernel
set_option maxRecDepth 100000 in
theorem vi_Reader_findDefinitions : mj_bi m_Reader_findDefinitions = true := by decide +kernel
set_option maxRecDepth 100000 in
theorem vi_Reader_mainUnit : mj_bi m_Reader_mainUnit = true := by decide +kernel
set_option maxRecDepth 100000 in
theorem vi_Writer_init : mj_bi m_Writer_init = true := by decide +kernel
set_option maxRecDepth 100000 in
theorem vi_Writer_writeUnits : mj_bi m_Writer_writeUnits = true := by decide +kernel
set_option maxRecDepth 100000 in
theorem vi_Program_addUnit : mj_bi m_Program_addUnit = true := by decide +kernel
set_option maxRecDepth 100000 in
theorem vi_Writer_writeHead : mj_bi m_Writer_writeHead = true := by decide +kernel
set_option maxRecDepth 100000 in
theorem vi_Program_add : mj_bi m_Program_add = true := by decide +kernel
set_option maxRecDepth 100000 in
theorem vi_Unit_whereOf : mj_bi m_Unit_whereOf = true := by decide +kernel
set_option maxRecDepth 100000 in
theorem vi_Unit_numberOf : mj_bi m_Unit_numberOf = true := by decide +kernel
set_option maxRecDepth 100000 in
theorem vi_Writer_writeTerm : mj_bi m_Writer_writeTerm = true := by decide +kernel
set_option maxRecDepth 100000 in
theorem vi_Writer_writeOperands : mj_bi m_Writer_writeOperands = true := by decide +kernel
set_option maxRecDepth 100000 in
theorem vi_Writer_writeParts : mj_bi m_Writer_writeParts = true := by decide +kernel
set_option maxRecDepth 100000 in
theorem vi_Writer_writeAlternatives : mj_bi m_Writer_writeAlternatives = true := by decide +kernel
set_option maxRecDepth 100000 in
theorem vi_Program_putLength : mj_bi m_Program_putLength = true := by decide +kernel
set_option maxRecDepth 100000 in
theorem vi_Program_endTerm : mj_bi m_Program_endTerm = true := by decide +kernel
set_option maxRecDepth 100000 in
theorem vi_Machine_forget : mj_bi m_Machine_forget = true := by decide +kernel
set_option maxRecDepth 100000 in
theorem vi_Main_size : mj_bi m_Main_size = true := by decide +kernel
set_option maxRecDepth 100000 in
theorem vi_Program_hasUnit : mj_bi m_Program_hasUnit = true := by decide +kernel
set_option maxRecDepth 100000 in
theorem vi_Program_unitLength : mj_bi m_Program_unitLength = true := by decide +kernel
set_option maxRecDepth 100000 in
theorem vi_Main_byteAt : mj_bi m_Main_byteAt = true := by decide +kernel
set_option maxRecDepth 100000 in
theorem vi_Program_unitStart : mj_bi m_Program_unitStart = true := by decide +kernel
set_option maxRecDepth 100000 in
theorem vi_Program_codeAt : mj_bi m_Program_codeAt = true := by decide +kernel
set_option maxRecDepth 100000 in
theorem vi_Main_run : mj_bi m_Main_run = true := by decide +kernel
set_option maxRecDepth 100000 in
theorem vi_Machine_start : mj_bi m_Machine_start = true := by decide +kernel
set_option maxRecDepth 100000 in
theorem vi_Heap_empty : mj_bi m_Heap_empty = true := by decide +kernel
set_option maxRecDepth 100000 in
theorem vi_Machine_standAt : mj_bi m_Machine_standAt = true := by decide +kernel
set_option maxRecDepth 100000 in
theorem vi_Machine_enter : mj_bi m_Machine_enter = true := by decide +kernel
set_option maxRecDepth 100000 in
theorem vi_Program_termOf : mj_bi m_Program_termOf = true := by decide +kernel
set_option maxRecDepth 100000 in
theorem vi_Machine_turnTo : mj_bi m_Machine_turnTo = true := by decide +kernel
set_option maxRecDepth 100000 in
theorem vi_Machine_go : mj_bi m_Machine_go = true := by decide +kernel
set_option maxRecDepth 100000 in
theorem vi_Machine_doTerm : mj_bi m_Machine_doTerm = true := by decide +kernel
set_option maxRecDepth 100000 in
theorem vi_Program_fourAt : mj_bi m_Program_fourAt = true := by decide +kernel
set_option maxRecDepth 100000 in
theorem vi_Heap_value : mj_bi m_Heap_value = true := by decide +kernel
set_option maxRecDepth 100000 in
theorem vi_Machine_give : mj_bi m_Machine_give = true := by decide +kernel
set_option maxRecDepth 100000 in
theorem vi_Machine_whatIsAt : mj_bi m_Machine_whatIsAt = true := by decide +kernel
set_option maxRecDepth 100000 in
theorem vi_Machine_boundAt : mj_bi m_Machine_boundAt = true := by decide +kernel
set_option maxRecDepth 100000 in
theorem vi_Row_longAt : mj_bi m_Row_longAt = true := by decide +kernel
set_option maxRecDepth 100000 in
theorem vi_Heap_field : mj_bi m_Heap_field = true := by decide +kernel
set_option maxRecDepth 100000 in
theorem vi_Program_definitionUnit : mj_bi m_Program_definitionUnit = true := by decide +kernel
set_option maxRecDepth 100000 in
theorem vi_Program_parametersOf : mj_bi m_Program_parametersOf = true := by decide +kernel
set_option maxRecDepth 100000 in
theorem vi_Heap_make : mj_bi m_Heap_make = true := by decide +kernel
set_option maxRecDepth 100000 in
theorem vi_Heap_put : mj_bi m_Heap_put = true := by decide +kernel
set_option maxRecDepth 100000 in
theorem vi_Machine_objectValue : mj_bi m_Machine_objectValue = true := by decide +kernel
set_option maxRecDepth 100000 in
theorem vi_Machine_fail : mj_bi m_Machine_fail = true := by decide +kernel
set_option maxRecDepth 100000 in
theorem vi_Machine_giveValueOf : mj_bi m_Machine_giveValueOf = true := by decide +kernel
set_option maxRecDepth 100000 in
theorem vi_Heap_objectKind : mj_bi m_Heap_objectKind = true := by decide +kernel
set_option maxRecDepth 100000 in
theorem vi_Heap_kindOf : mj_bi m_Heap_kindOf = true := by decide +kernel
set_option maxRecDepth 100000 in
theorem vi_Heap_numberOf : mj_bi m_Heap_numberOf = true := by decide +kernel
set_option maxRecDepth 100000 in
theorem vi_Heap_get : mj_bi m_Heap_get = true := by decide +kernel
set_option maxRecDepth 100000 in
theorem vi_Heap_settled : mj_bi m_Heap_settled = true := by decide +kernel
set_option maxRecDepth 100000 in
theorem vi_Machine_deepen : mj_bi m_Machine_deepen = true := by decide +kernel
set_option maxRecDepth 100000 in
theorem vi_Frame_copy : mj_bi m_Frame_copy = true := by decide +kernel
set_option maxRecDepth 100000 in
theorem vi_Heap_markUnderWay : mj_bi m_Heap_markUnderWay = true := by decide +kernel
set_option maxRecDepth 100000 in
theorem vi_Heap_whatOf : mj_bi m_Heap_whatOf = true := by decide +kernel
set_option maxRecDepth 100000 in
theorem vi_Machine_want : mj_bi m_Machine_want = true := by decide +kernel
set_option maxRecDepth 100000 in
theorem vi_Program_twoAt : mj_bi m_Program_twoAt = true := by decide +kernel
set_option maxRecDepth 100000 in
theorem vi_Machine_makeUnit : mj_bi m_Machine_makeUnit = true := by decide +kernel
set_option maxRecDepth 100000 in
theorem vi_Program_fieldsOf : mj_bi m_Program_fieldsOf = true := by decide +kernel
set_option maxRecDepth 100000 in
theorem vi_Program_fieldPlaces : mj_bi m_Program_fieldPlaces = true := by decide +kernel
set_option maxRecDepth 100000 in
theorem vi_Heap_putField : mj_bi m_Heap_putField = true := by decide +kernel
set_option maxRecDepth 100000 in
theorem vi_Machine_doLet : mj_bi m_Machine_doLet = true := by decide +kernel
set_option maxRecDepth 100000 in
theorem vi_Machine_makeArguments : mj_bi m_Machine_makeArguments = true := by decide +kernel
