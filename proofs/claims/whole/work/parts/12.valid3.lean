/-! the tables, decided: the bytes of the methods -/
set_option maxRecDepth 100000 in
theorem vi_Model_isAct : mj_bi m_Model_isAct = true := by decide +kernel
set_option maxRecDepth 100000 in
theorem vi_Model_node : mj_bi m_Model_node = true := by decide +kernel
set_option maxRecDepth 100000 in
theorem vi_Model_bind : mj_bi m_Model_bind = true := by decide +kernel
set_option maxRecDepth 100000 in
theorem vi_Model_sign : mj_bi m_Model_sign = true := by decide +kernel
set_option maxRecDepth 100000 in
theorem vi_Model_is : mj_bi m_Model_is = true := by decide +kernel
set_option maxRecDepth 100000 in
theorem vi_Model_make : mj_bi m_Model_make = true := by decide +kernel
set_option maxRecDepth 100000 in
theorem vi_Model_arguments : mj_bi m_Model_arguments = true := by decide +kernel
set_option maxRecDepth 100000 in
theorem vi_Model_parts : mj_bi m_Model_parts = true := by decide +kernel
set_option maxRecDepth 100000 in
theorem vi_Model_cases : mj_bi m_Model_cases = true := by decide +kernel
set_option maxRecDepth 100000 in
theorem vi_Model_definition : mj_bi m_Model_definition = true := by decide +kernel
set_option maxRecDepth 100000 in
theorem vi_Model_known : mj_bi m_Model_known = true := by decide +kernel
set_option maxRecDepth 100000 in
theorem vi_Model_finds : mj_bi m_Model_finds = true := by decide +kernel
set_option maxRecDepth 100000 in
theorem vi_Model_isUnit : mj_bi m_Model_isUnit = true := by decide +kernel
set_option maxRecDepth 100000 in
theorem vi_Model_isDelayed : mj_bi m_Model_isDelayed = true := by decide +kernel
set_option maxRecDepth 100000 in
theorem vi_Model_isOperand : mj_bi m_Model_isOperand = true := by decide +kernel
set_option maxRecDepth 100000 in
theorem vi_Model_captures : mj_bi m_Model_captures = true := by decide +kernel
set_option maxRecDepth 100000 in
theorem vi_Model_size : mj_bi m_Model_size = true := by decide +kernel
set_option maxRecDepth 100000 in
theorem vi_Model_write : mj_bi m_Model_write = true := by decide +kernel
set_option maxRecDepth 100000 in
theorem vi_Model_measure : mj_bi m_Model_measure = true := by decide +kernel
set_option maxRecDepth 100000 in
theorem vi_Model_one : mj_bi m_Model_one = true := by decide +kernel
set_option maxRecDepth 100000 in
theorem vi_Model_placeIn : mj_bi m_Model_placeIn = true := by decide +kernel
set_option maxRecDepth 100000 in
theorem vi_Model_local : mj_bi m_Model_local = true := by decide +kernel
set_option maxRecDepth 100000 in
theorem vi_Model_two : mj_bi m_Model_two = true := by decide +kernel
set_option maxRecDepth 100000 in
theorem vi_Model_head : mj_bi m_Model_head = true := by decide +kernel
set_option maxRecDepth 100000 in
theorem vi_Model_putPlace : mj_bi m_Model_putPlace = true := by decide +kernel
set_option maxRecDepth 100000 in
theorem vi_Model_byteAt : mj_bi m_Model_byteAt = true := by decide +kernel
set_option maxRecDepth 100000 in
theorem vi_Model_run : mj_bi m_Model_run = true := by decide +kernel
set_option maxRecDepth 100000 in
theorem vi_Model_goes : mj_bi m_Model_goes = true := by decide +kernel
set_option maxRecDepth 100000 in
theorem vi_Model_fails : mj_bi m_Model_fails = true := by decide +kernel
set_option maxRecDepth 100000 in
theorem vi_Model_finish : mj_bi m_Model_finish = true := by decide +kernel
set_option maxRecDepth 100000 in
theorem vi_Model_deliver : mj_bi m_Model_deliver = true := by decide +kernel
