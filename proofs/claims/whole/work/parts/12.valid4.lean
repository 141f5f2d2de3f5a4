/-! the tables, decided: the bytes of the methods -/
set_option maxRecDepth 100000 in
theorem vi_Model_step : mj_bi m_Model_step = true := by decide +kernel
set_option maxRecDepth 100000 in
theorem vi_Model_isFunction : mj_bi m_Model_isFunction = true := by decide +kernel
set_option maxRecDepth 100000 in
theorem vi_Model_give : mj_bi m_Model_give = true := by decide +kernel
set_option maxRecDepth 100000 in
theorem vi_Model_operand : mj_bi m_Model_operand = true := by decide +kernel
set_option maxRecDepth 100000 in
theorem vi_Model_named : mj_bi m_Model_named = true := by decide +kernel
set_option maxRecDepth 100000 in
theorem vi_Model_fetch : mj_bi m_Model_fetch = true := by decide +kernel
set_option maxRecDepth 100000 in
theorem vi_Model_makes : mj_bi m_Model_makes = true := by decide +kernel
set_option maxRecDepth 100000 in
theorem vi_Model_fresh : mj_bi m_Model_fresh = true := by decide +kernel
set_option maxRecDepth 100000 in
theorem vi_Model_cell : mj_bi m_Model_cell = true := by decide +kernel
set_option maxRecDepth 100000 in
theorem vi_Model_apply : mj_bi m_Model_apply = true := by decide +kernel
set_option maxRecDepth 100000 in
theorem vi_Model_takes : mj_bi m_Model_takes = true := by decide +kernel
set_option maxRecDepth 100000 in
theorem vi_Model_gives : mj_bi m_Model_gives = true := by decide +kernel
set_option maxRecDepth 100000 in
theorem vi_Model_waitFor : mj_bi m_Model_waitFor = true := by decide +kernel
set_option maxRecDepth 100000 in
theorem vi_Model_freeFrame : mj_bi m_Model_freeFrame = true := by decide +kernel
set_option maxRecDepth 100000 in
theorem vi_Model_choose : mj_bi m_Model_choose = true := by decide +kernel
set_option maxRecDepth 100000 in
theorem vi_Model_first : mj_bi m_Model_first = true := by decide +kernel
set_option maxRecDepth 100000 in
theorem vi_Model_reckon : mj_bi m_Model_reckon = true := by decide +kernel
set_option maxRecDepth 100000 in
theorem vi_Model_walk : mj_bi m_Model_walk = true := by decide +kernel
set_option maxRecDepth 100000 in
theorem vi_Model_wants : mj_bi m_Model_wants = true := by decide +kernel
set_option maxRecDepth 100000 in
theorem vi_Model_makeAll : mj_bi m_Model_makeAll = true := by decide +kernel
set_option maxRecDepth 100000 in
theorem vi_Model_result : mj_bi m_Model_result = true := by decide +kernel
set_option maxRecDepth 100000 in
theorem vi_Model_told : mj_bi m_Model_told = true := by decide +kernel
set_option maxRecDepth 100000 in
theorem vi_Model_part : mj_bi m_Model_part = true := by decide +kernel
set_option maxRecDepth 100000 in
theorem vi_Model_clear : mj_bi m_Model_clear = true := by decide +kernel
