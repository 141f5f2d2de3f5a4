/-! the tables, decided: the bytes of the methods -/
set_option maxRecDepth 100000 in
theorem vi_Machine_doConstructor : mj_bi m_Machine_doConstructor = true := by decide +kernel
set_option maxRecDepth 100000 in
theorem vi_Machine_makeWithArguments : mj_bi m_Machine_makeWithArguments = true := by decide +kernel
set_option maxRecDepth 100000 in
theorem vi_Heap_fieldsOf : mj_bi m_Heap_fieldsOf = true := by decide +kernel
set_option maxRecDepth 100000 in
theorem vi_Machine_useValue : mj_bi m_Machine_useValue = true := by decide +kernel
set_option maxRecDepth 100000 in
theorem vi_Heap_setTo : mj_bi m_Heap_setTo = true := by decide +kernel
set_option maxRecDepth 100000 in
theorem vi_Machine_callValue : mj_bi m_Machine_callValue = true := by decide +kernel
set_option maxRecDepth 100000 in
theorem vi_Machine_isCallable : mj_bi m_Machine_isCallable = true := by decide +kernel
set_option maxRecDepth 100000 in
theorem vi_Machine_takeStep : mj_bi m_Machine_takeStep = true := by decide +kernel
set_option maxRecDepth 100000 in
theorem vi_Heap_isFunction : mj_bi m_Heap_isFunction = true := by decide +kernel
set_option maxRecDepth 100000 in
theorem vi_Program_behindTerm : mj_bi m_Program_behindTerm = true := by decide +kernel
set_option maxRecDepth 100000 in
theorem vi_Machine_callWithRest : mj_bi m_Machine_callWithRest = true := by decide +kernel
set_option maxRecDepth 100000 in
theorem vi_Machine_choose : mj_bi m_Machine_choose = true := by decide +kernel
set_option maxRecDepth 100000 in
theorem vi_Heap_isConstructor : mj_bi m_Heap_isConstructor = true := by decide +kernel
set_option maxRecDepth 100000 in
theorem vi_Heap_tagOf : mj_bi m_Heap_tagOf = true := by decide +kernel
set_option maxRecDepth 100000 in
theorem vi_Heap_partsOf : mj_bi m_Heap_partsOf = true := by decide +kernel
set_option maxRecDepth 100000 in
theorem vi_Machine_doAlternative : mj_bi m_Machine_doAlternative = true := by decide +kernel
set_option maxRecDepth 100000 in
theorem vi_Machine_doSecond : mj_bi m_Machine_doSecond = true := by decide +kernel
set_option maxRecDepth 100000 in
theorem vi_Machine_operate : mj_bi m_Machine_operate = true := by decide +kernel
set_option maxRecDepth 100000 in
theorem vi_Machine_reckon : mj_bi m_Machine_reckon = true := by decide +kernel
set_option maxRecDepth 100000 in
theorem vi_Machine_apply : mj_bi m_Machine_apply = true := by decide +kernel
set_option maxRecDepth 100000 in
theorem vi_Machine_takenBy : mj_bi m_Machine_takenBy = true := by decide +kernel
set_option maxRecDepth 100000 in
theorem vi_Heap_unitOf : mj_bi m_Heap_unitOf = true := by decide +kernel
set_option maxRecDepth 100000 in
theorem vi_Heap_gotBy : mj_bi m_Heap_gotBy = true := by decide +kernel
set_option maxRecDepth 100000 in
theorem vi_Heap_selfOf : mj_bi m_Heap_selfOf = true := by decide +kernel
set_option maxRecDepth 100000 in
theorem vi_Machine_keepRest : mj_bi m_Machine_keepRest = true := by decide +kernel
set_option maxRecDepth 100000 in
theorem vi_Machine_outcome : mj_bi m_Machine_outcome = true := by decide +kernel
set_option maxRecDepth 100000 in
theorem vi_Main_told : mj_bi m_Main_told = true := by decide +kernel
set_option maxRecDepth 100000 in
theorem vi_Machine_resultNumber : mj_bi m_Machine_resultNumber = true := by decide +kernel
set_option maxRecDepth 100000 in
theorem vi_Machine_resultParts : mj_bi m_Machine_resultParts = true := by decide +kernel
set_option maxRecDepth 100000 in
theorem vi_Main_part : mj_bi m_Main_part = true := by decide +kernel
set_option maxRecDepth 100000 in
theorem vi_Machine_startPart : mj_bi m_Machine_startPart = true := by decide +kernel
set_option maxRecDepth 100000 in
theorem vi_Main_clear : mj_bi m_Main_clear = true := by decide +kernel
set_option maxRecDepth 100000 in
theorem vi_Model_init : mj_bi m_Model_init = true := by decide +kernel
set_option maxRecDepth 100000 in
theorem vi_Model_feed : mj_bi m_Model_feed = true := by decide +kernel
set_option maxRecDepth 100000 in
theorem vi_Model_put : mj_bi m_Model_put = true := by decide +kernel
set_option maxRecDepth 100000 in
theorem vi_Model_read : mj_bi m_Model_read = true := by decide +kernel
set_option maxRecDepth 100000 in
theorem vi_Model_parsed : mj_bi m_Model_parsed = true := by decide +kernel
set_option maxRecDepth 100000 in
theorem vi_Model_next : mj_bi m_Model_next = true := by decide +kernel
set_option maxRecDepth 100000 in
theorem vi_Model_at : mj_bi m_Model_at = true := by decide +kernel
set_option maxRecDepth 100000 in
theorem vi_Model_isLetter : mj_bi m_Model_isLetter = true := by decide +kernel
set_option maxRecDepth 100000 in
theorem vi_Model_isDigit : mj_bi m_Model_isDigit = true := by decide +kernel
set_option maxRecDepth 100000 in
theorem vi_Model_push : mj_bi m_Model_push = true := by decide +kernel
set_option maxRecDepth 100000 in
theorem vi_Model_term : mj_bi m_Model_term = true := by decide +kernel
