/-! places of words -/
set_option maxRecDepth 100000 in
theorem vp_Model_known : mj_wm y_Y m_Model_known = [(15, 119), (14, 33), (14, 34), (14, 36), (14, 39), (14, 40), (14, 48), (14, 49), (14, 32), (14, 47), (15, 120), (9, 8), (15, 122), (6, 1), (15, 124), (9, 8), (15, 126), (6, 2), (15, 136), (9, 8), (15, 138), (6, 5)].filterMap (fun q => (y_ch q.1)[q.2]?) := rfl
set_option maxRecDepth 100000 in
theorem vp_Model_known_g : (mj_wm y_Y m_Model_known).all mj_gw = true := rfl
set_option maxRecDepth 100000 in
theorem vp_Model_finds : mj_wm y_Y m_Model_finds = [(15, 123), (14, 35), (14, 36), (14, 37), (14, 38), (14, 41), (14, 44), (14, 45), (14, 46), (14, 43)].filterMap (fun q => (y_ch q.1)[q.2]?) := rfl
set_option maxRecDepth 100000 in
theorem vp_Model_finds_g : (mj_wm y_Y m_Model_finds).all mj_gw = true := rfl
set_option maxRecDepth 100000 in
theorem vp_Model_isUnit : mj_wm y_Y m_Model_isUnit = [(15, 127), (14, 33), (15, 128), (9, 8), (15, 130), (6, 3)].filterMap (fun q => (y_ch q.1)[q.2]?) := rfl
set_option maxRecDepth 100000 in
theorem vp_Model_isUnit_g : (mj_wm y_Y m_Model_isUnit).all mj_gw = true := rfl
set_option maxRecDepth 100000 in
theorem vp_Model_isDelayed : mj_wm y_Y m_Model_isDelayed = [(15, 131), (14, 33), (14, 36), (14, 45), (15, 132), (9, 8), (15, 134), (6, 4)].filterMap (fun q => (y_ch q.1)[q.2]?) := rfl
set_option maxRecDepth 100000 in
theorem vp_Model_isDelayed_g : (mj_wm y_Y m_Model_isDelayed).all mj_gw = true := rfl
set_option maxRecDepth 100000 in
theorem vp_Model_isOperand : mj_wm y_Y m_Model_isOperand = [(15, 135), (14, 33), (14, 36)].filterMap (fun q => (y_ch q.1)[q.2]?) := rfl
set_option maxRecDepth 100000 in
theorem vp_Model_isOperand_g : (mj_wm y_Y m_Model_isOperand).all mj_gw = true := rfl
set_option maxRecDepth 100000 in
theorem vp_Model_captures : mj_wm y_Y m_Model_captures = [(15, 139), (14, 33), (14, 39), (14, 45), (14, 46), (14, 50), (14, 51)].filterMap (fun q => (y_ch q.1)[q.2]?) := rfl
set_option maxRecDepth 100000 in
theorem vp_Model_captures_g : (mj_wm y_Y m_Model_captures).all mj_gw = true := rfl
set_option maxRecDepth 100000 in
theorem vp_Model_size : mj_wm y_Y m_Model_size = [(15, 143), (14, 47), (14, 31), (14, 61), (15, 144), (9, 8), (15, 146), (6, 6)].filterMap (fun q => (y_ch q.1)[q.2]?) := rfl
set_option maxRecDepth 100000 in
theorem vp_Model_size_g : (mj_wm y_Y m_Model_size).all mj_gw = true := rfl
set_option maxRecDepth 100000 in
theorem vp_Model_write : mj_wm y_Y m_Model_write = [(15, 147), (14, 33), (14, 36), (14, 38), (14, 39), (14, 40), (14, 48), (14, 49), (14, 50), (14, 51), (14, 61), (15, 132), (9, 8), (15, 134), (6, 4), (15, 124), (9, 8), (15, 126), (6, 2), (15, 152), (9, 8), (15, 154), (6, 8), (15, 156), (9, 8), (15, 158), (6, 9), (15, 148), (9, 8), (15, 150), (6, 7), (15, 164), (9, 8), (15, 166), (6, 11), (15, 168), (9, 8), (15, 170), (6, 12)].filterMap (fun q => (y_ch q.1)[q.2]?) := rfl
set_option maxRecDepth 100000 in
theorem vp_Model_write_g : (mj_wm y_Y m_Model_write).all mj_gw = true := rfl
set_option maxRecDepth 100000 in
theorem vp_Model_measure : mj_wm y_Y m_Model_measure = [(15, 151), (14, 33), (14, 39), (14, 62), (14, 32), (15, 132), (9, 8), (15, 134), (6, 4)].filterMap (fun q => (y_ch q.1)[q.2]?) := rfl
set_option maxRecDepth 100000 in
theorem vp_Model_measure_g : (mj_wm y_Y m_Model_measure).all mj_gw = true := rfl
set_option maxRecDepth 100000 in
theorem vp_Model_one : mj_wm y_Y m_Model_one = [(15, 155), (14, 60), (14, 61)].filterMap (fun q => (y_ch q.1)[q.2]?) := rfl
set_option maxRecDepth 100000 in
theorem vp_Model_one_g : (mj_wm y_Y m_Model_one).all mj_gw = true := rfl
set_option maxRecDepth 100000 in
theorem vp_Model_placeIn : mj_wm y_Y m_Model_placeIn = [(15, 159), (14, 40), (14, 49), (14, 50), (14, 51), (15, 160), (9, 8), (15, 162), (6, 10)].filterMap (fun q => (y_ch q.1)[q.2]?) := rfl
set_option maxRecDepth 100000 in
theorem vp_Model_placeIn_g : (mj_wm y_Y m_Model_placeIn).all mj_gw = true := rfl
set_option maxRecDepth 100000 in
theorem vp_Model_local : mj_wm y_Y m_Model_local = [(15, 163), (14, 36), (14, 38), (14, 40), (14, 48)].filterMap (fun q => (y_ch q.1)[q.2]?) := rfl
set_option maxRecDepth 100000 in
theorem vp_Model_local_g : (mj_wm y_Y m_Model_local).all mj_gw = true := rfl
set_option maxRecDepth 100000 in
theorem vp_Model_two : mj_wm y_Y m_Model_two = [(15, 167), (15, 152), (9, 8), (15, 154), (6, 8)].filterMap (fun q => (y_ch q.1)[q.2]?) := rfl
set_option maxRecDepth 100000 in
theorem vp_Model_two_g : (mj_wm y_Y m_Model_two).all mj_gw = true := rfl
set_option maxRecDepth 100000 in
theorem vp_Model_head : mj_wm y_Y m_Model_head = [(15, 171), (14, 33), (14, 35), (14, 36), (14, 38), (14, 39), (14, 62), (15, 152), (9, 8), (15, 154), (6, 8), (15, 164), (9, 8), (15, 166), (6, 11), (15, 172), (9, 8), (15, 174), (6, 13)].filterMap (fun q => (y_ch q.1)[q.2]?) := rfl
set_option maxRecDepth 100000 in
theorem vp_Model_head_g : (mj_wm y_Y m_Model_head).all mj_gw = true := rfl
set_option maxRecDepth 100000 in
theorem vp_Model_putPlace : mj_wm y_Y m_Model_putPlace = [(15, 175), (14, 45), (14, 46), (15, 152), (9, 8), (15, 154), (6, 8), (15, 156), (9, 8), (15, 158), (6, 9)].filterMap (fun q => (y_ch q.1)[q.2]?) := rfl
set_option maxRecDepth 100000 in
theorem vp_Model_putPlace_g : (mj_wm y_Y m_Model_putPlace).all mj_gw = true := rfl
set_option maxRecDepth 100000 in
theorem vp_Model_byteAt : mj_wm y_Y m_Model_byteAt = [(15, 179), (14, 60), (14, 47), (14, 31), (14, 61), (15, 144), (9, 8), (15, 146), (6, 6)].filterMap (fun q => (y_ch q.1)[q.2]?) := rfl
set_option maxRecDepth 100000 in
theorem vp_Model_byteAt_g : (mj_wm y_Y m_Model_byteAt).all mj_gw = true := rfl
set_option maxRecDepth 100000 in
theorem vp_Model_run : mj_wm y_Y m_Model_run = [(15, 183), (14, 35), (14, 38), (14, 44), (14, 82), (14, 83), (14, 43), (14, 31), (14, 68), (14, 71), (14, 79), (14, 98), (14, 86), (14, 67), (14, 65), (14, 64), (14, 66), (15, 184), (9, 8), (15, 186), (6, 14), (15, 192), (9, 8), (15, 194), (7, 0)].filterMap (fun q => (y_ch q.1)[q.2]?) := rfl
set_option maxRecDepth 100000 in
theorem vp_Model_run_g : (mj_wm y_Y m_Model_run).all mj_gw = true := rfl
set_option maxRecDepth 100000 in
theorem vp_Model_goes : mj_wm y_Y m_Model_goes = [(15, 187), (14, 97), (14, 99), (14, 96), (14, 67), (15, 188), (9, 8), (15, 190), (6, 15)].filterMap (fun q => (y_ch q.1)[q.2]?) := rfl
set_option maxRecDepth 100000 in
theorem vp_Model_goes_g : (mj_wm y_Y m_Model_goes).all mj_gw = true := rfl
set_option maxRecDepth 100000 in
theorem vp_Model_fails : mj_wm y_Y m_Model_fails = [(15, 191), (14, 68)].filterMap (fun q => (y_ch q.1)[q.2]?) := rfl
set_option maxRecDepth 100000 in
theorem vp_Model_fails_g : (mj_wm y_Y m_Model_fails).all mj_gw = true := rfl
set_option maxRecDepth 100000 in
theorem vp_Model_finish : mj_wm y_Y m_Model_finish = [(15, 195), (14, 63), (14, 68), (14, 86), (14, 96), (14, 100), (14, 101), (14, 69), (14, 70), (15, 196), (9, 8), (15, 198), (7, 1), (16, 28), (9, 8), (16, 30), (8, 3), (16, 40), (9, 8), (16, 42), (8, 6)].filterMap (fun q => (y_ch q.1)[q.2]?) := rfl
set_option maxRecDepth 100000 in
theorem vp_Model_finish_g : (mj_wm y_Y m_Model_finish).all mj_gw = true := rfl
set_option maxRecDepth 100000 in
theorem vp_Model_deliver : mj_wm y_Y m_Model_deliver = [(15, 199), (14, 35), (14, 39), (14, 76), (14, 77), (14, 78), (14, 87), (14, 88), (14, 89), (14, 90), (14, 91), (14, 92), (14, 93), (14, 94), (14, 95), (14, 103), (14, 104), (14, 68), (14, 98), (14, 86), (14, 99), (14, 100), (14, 101), (14, 102), (14, 66), (15, 188), (9, 8), (15, 190), (6, 15), (15, 208), (9, 8), (15, 210), (7, 4), (15, 200), (9, 8), (15, 202), (7, 2), (15, 204), (9, 8), (15, 206), (7, 3), (15, 236), (9, 8), (15, 238), (7, 11), (16, 16), (9, 8), (16, 18), (8, 0), (16, 20), (9, 8), (16, 22), (8, 1), (16, 24), (9, 8), (16, 26), (8, 2)].filterMap (fun q => (y_ch q.1)[q.2]?) := rfl
set_option maxRecDepth 100000 in
theorem vp_Model_deliver_g : (mj_wm y_Y m_Model_deliver).all mj_gw = true := rfl
set_option maxRecDepth 100000 in
theorem vp_Model_step : mj_wm y_Y m_Model_step = [(15, 203), (14, 65), (14, 64), (15, 188), (9, 8), (15, 190), (6, 15)].filterMap (fun q => (y_ch q.1)[q.2]?) := rfl
set_option maxRecDepth 100000 in
theorem vp_Model_step_g : (mj_wm y_Y m_Model_step).all mj_gw = true := rfl
set_option maxRecDepth 100000 in
theorem vp_Model_isFunction : mj_wm y_Y m_Model_isFunction = [(15, 207), (14, 72)].filterMap (fun q => (y_ch q.1)[q.2]?) := rfl
set_option maxRecDepth 100000 in
theorem vp_Model_isFunction_g : (mj_wm y_Y m_Model_isFunction).all mj_gw = true := rfl
set_option maxRecDepth 100000 in
theorem vp_Model_give : mj_wm y_Y m_Model_give = [(15, 211), (14, 39), (14, 103), (14, 104), (14, 68), (14, 105), (14, 106), (14, 102), (15, 212), (9, 8), (15, 214), (7, 5)].filterMap (fun q => (y_ch q.1)[q.2]?) := rfl
set_option maxRecDepth 100000 in
theorem vp_Model_give_g : (mj_wm y_Y m_Model_give).all mj_gw = true := rfl
set_option maxRecDepth 100000 in
theorem vp_Model_operand : mj_wm y_Y m_Model_operand = [(15, 215), (14, 33), (14, 35), (14, 105), (14, 106), (15, 128), (9, 8), (15, 130), (6, 3), (15, 216), (9, 8), (15, 218), (7, 6), (15, 228), (9, 8), (15, 230), (7, 9)].filterMap (fun q => (y_ch q.1)[q.2]?) := rfl
set_option maxRecDepth 100000 in
theorem vp_Model_operand_g : (mj_wm y_Y m_Model_operand).all mj_gw = true := rfl
set_option maxRecDepth 100000 in
theorem vp_Model_named : mj_wm y_Y m_Model_named = [(15, 219), (14, 38), (14, 40), (14, 44), (14, 45), (14, 46), (14, 82), (14, 71), (14, 105), (14, 106), (15, 156), (9, 8), (15, 158), (6, 9), (15, 220), (9, 8), (15, 222), (7, 7), (15, 224), (9, 8), (15, 226), (7, 8)].filterMap (fun q => (y_ch q.1)[q.2]?) := rfl
set_option maxRecDepth 100000 in
theorem vp_Model_named_g : (mj_wm y_Y m_Model_named).all mj_gw = true := rfl
set_option maxRecDepth 100000 in
theorem vp_Model_fetch : mj_wm y_Y m_Model_fetch = [(15, 223), (14, 74), (14, 80), (14, 81), (14, 83), (14, 84), (14, 85), (14, 98), (14, 105), (14, 106)].filterMap (fun q => (y_ch q.1)[q.2]?) := rfl
set_option maxRecDepth 100000 in
theorem vp_Model_fetch_g : (mj_wm y_Y m_Model_fetch).all mj_gw = true := rfl
set_option maxRecDepth 100000 in
theorem vp_Model_makes : mj_wm y_Y m_Model_makes = [(15, 227), (14, 72), (14, 73), (14, 74), (14, 75), (14, 76), (14, 71), (14, 79), (15, 188), (9, 8), (15, 190), (6, 15)].filterMap (fun q => (y_ch q.1)[q.2]?) := rfl
set_option maxRecDepth 100000 in
theorem vp_Model_makes_g : (mj_wm y_Y m_Model_makes).all mj_gw = true := rfl
set_option maxRecDepth 100000 in
theorem vp_Model_fresh : mj_wm y_Y m_Model_fresh = [(15, 231), (14, 33), (14, 36), (14, 40), (14, 49), (14, 50), (14, 51), (14, 84), (14, 85), (14, 71), (14, 98), (14, 105), (14, 106), (15, 156), (9, 8), (15, 158), (6, 9), (15, 220), (9, 8), (15, 222), (7, 7), (15, 224), (9, 8), (15, 226), (7, 8), (15, 232), (9, 8), (15, 234), (7, 10)].filterMap (fun q => (y_ch q.1)[q.2]?) := rfl
set_option maxRecDepth 100000 in
theorem vp_Model_fresh_g : (mj_wm y_Y m_Model_fresh).all mj_gw = true := rfl
set_option maxRecDepth 100000 in
theorem vp_Model_cell : mj_wm y_Y m_Model_cell = [(15, 235), (14, 75), (14, 80), (14, 81), (14, 71), (14, 79)].filterMap (fun q => (y_ch q.1)[q.2]?) := rfl
set_option maxRecDepth 100000 in
theorem vp_Model_cell_g : (mj_wm y_Y m_Model_cell).all mj_gw = true := rfl
set_option maxRecDepth 100000 in
theorem vp_Model_apply : mj_wm y_Y m_Model_apply = [(15, 239), (14, 44), (14, 48), (14, 72), (14, 73), (14, 74), (14, 75), (14, 80), (14, 81), (14, 83), (14, 84), (14, 85), (14, 89), (14, 93), (14, 94), (14, 95), (14, 103), (14, 104), (14, 71), (14, 98), (14, 86), (14, 99), (14, 100), (14, 101), (14, 102), (15, 224), (9, 8), (15, 226), (7, 8), (15, 232), (9, 8), (15, 234), (7, 10), (16, 4), (9, 8), (16, 6), (7, 13), (16, 8), (9, 8), (16, 10), (7, 14), (16, 12), (9, 8), (16, 14), (7, 15), (15, 184), (9, 8), (15, 186), (6, 14), (16, 0), (9, 8), (16, 2), (7, 12)].filterMap (fun q => (y_ch q.1)[q.2]?) := rfl
set_option maxRecDepth 100000 in
theorem vp_Model_apply_g : (mj_wm y_Y m_Model_apply).all mj_gw = true := rfl
set_option maxRecDepth 100000 in
theorem vp_Model_takes : mj_wm y_Y m_Model_takes = [(16, 3), (14, 38), (14, 44), (14, 48), (14, 72), (14, 73), (14, 74), (14, 75), (14, 80), (14, 81)].filterMap (fun q => (y_ch q.1)[q.2]?) := rfl
set_option maxRecDepth 100000 in
theorem vp_Model_takes_g : (mj_wm y_Y m_Model_takes).all mj_gw = true := rfl
set_option maxRecDepth 100000 in
theorem vp_Model_gives : mj_wm y_Y m_Model_gives = [(16, 7), (14, 96), (14, 100), (14, 101)].filterMap (fun q => (y_ch q.1)[q.2]?) := rfl
set_option maxRecDepth 100000 in
theorem vp_Model_gives_g : (mj_wm y_Y m_Model_gives).all mj_gw = true := rfl
set_option maxRecDepth 100000 in
theorem vp_Model_waitFor : mj_wm y_Y m_Model_waitFor = [(16, 11), (14, 87), (14, 88), (14, 89), (14, 90), (14, 98), (14, 86), (14, 97)].filterMap (fun q => (y_ch q.1)[q.2]?) := rfl
set_option maxRecDepth 100000 in
theorem vp_Model_waitFor_g : (mj_wm y_Y m_Model_waitFor).all mj_gw = true := rfl
set_option maxRecDepth 100000 in
theorem vp_Model_freeFrame : mj_wm y_Y m_Model_freeFrame = [(16, 15), (14, 89), (14, 86)].filterMap (fun q => (y_ch q.1)[q.2]?) := rfl
set_option maxRecDepth 100000 in
theorem vp_Model_freeFrame_g : (mj_wm y_Y m_Model_freeFrame).all mj_gw = true := rfl
set_option maxRecDepth 100000 in
theorem vp_Model_choose : mj_wm y_Y m_Model_choose = [(16, 19), (14, 35), (14, 38), (14, 39), (14, 72), (14, 73), (14, 74), (14, 75), (14, 80), (14, 81), (14, 84), (14, 85), (14, 98), (14, 100), (14, 101), (15, 160), (9, 8), (15, 162), (6, 10), (15, 188), (9, 8), (15, 190), (6, 15), (15, 184), (9, 8), (15, 186), (6, 14), (15, 111)].filterMap (fun q => (y_ch q.1)[q.2]?) := rfl
set_option maxRecDepth 100000 in
theorem vp_Model_choose_g : (mj_wm y_Y m_Model_choose).all mj_gw = true := rfl
set_option maxRecDepth 100000 in
theorem vp_Model_first : mj_wm y_Y m_Model_first = [(16, 23), (14, 35), (14, 39), (14, 91), (14, 92), (14, 86), (14, 97), (14, 100), (14, 101), (16, 8), (9, 8), (16, 10), (7, 14), (15, 184), (9, 8), (15, 186), (6, 14), (15, 200), (9, 8), (15, 202), (7, 2)].filterMap (fun q => (y_ch q.1)[q.2]?) := rfl
set_option maxRecDepth 100000 in
theorem vp_Model_first_g : (mj_wm y_Y m_Model_first).all mj_gw = true := rfl
set_option maxRecDepth 100000 in
theorem vp_Model_reckon : mj_wm y_Y m_Model_reckon = [(16, 27), (14, 100), (14, 101), (15, 188), (9, 8), (15, 190), (6, 15), (16, 4), (9, 8), (16, 6), (7, 13)].filterMap (fun q => (y_ch q.1)[q.2]?) := rfl
set_option maxRecDepth 100000 in
theorem vp_Model_reckon_g : (mj_wm y_Y m_Model_reckon).all mj_gw = true := rfl
set_option maxRecDepth 100000 in
theorem vp_Model_walk : mj_wm y_Y m_Model_walk = [(16, 31), (14, 33), (14, 35), (14, 39), (14, 84), (14, 85), (14, 68), (14, 98), (14, 105), (14, 106), (14, 97), (14, 99), (15, 160), (9, 8), (15, 162), (6, 10), (15, 188), (9, 8), (15, 190), (6, 15), (15, 216), (9, 8), (15, 218), (7, 6), (15, 228), (9, 8), (15, 230), (7, 9), (16, 4), (9, 8), (16, 6), (7, 13), (16, 8), (9, 8), (16, 10), (7, 14), (15, 184), (9, 8), (15, 186), (6, 14), (16, 32), (9, 8), (16, 34), (8, 4), (15, 212), (9, 8), (15, 214), (7, 5), (16, 36), (9, 8), (16, 38), (8, 5)].filterMap (fun q => (y_ch q.1)[q.2]?) := rfl
set_option maxRecDepth 100000 in
theorem vp_Model_walk_g : (mj_wm y_Y m_Model_walk).all mj_gw = true := rfl
set_option maxRecDepth 100000 in
theorem vp_Model_wants : mj_wm y_Y m_Model_wants = [(16, 35), (14, 33), (14, 48), (14, 72), (14, 73), (14, 76), (14, 77), (14, 78), (14, 83), (14, 89), (14, 91), (14, 98), (14, 86), (14, 99), (15, 188), (9, 8), (15, 190), (6, 15), (16, 4), (9, 8), (16, 6), (7, 13), (16, 8), (9, 8), (16, 10), (7, 14), (16, 12), (9, 8), (16, 14), (7, 15), (15, 184), (9, 8), (15, 186), (6, 14)].filterMap (fun q => (y_ch q.1)[q.2]?) := rfl
set_option maxRecDepth 100000 in
theorem vp_Model_wants_g : (mj_wm y_Y m_Model_wants).all mj_gw = true := rfl
set_option maxRecDepth 100000 in
theorem vp_Model_makeAll : mj_wm y_Y m_Model_makeAll = [(16, 39), (14, 35), (14, 39), (14, 103), (14, 104), (14, 68), (14, 71), (14, 102), (15, 224), (9, 8), (15, 226), (7, 8), (15, 232), (9, 8), (15, 234), (7, 10), (16, 4), (9, 8), (16, 6), (7, 13), (15, 208), (9, 8), (15, 210), (7, 4)].filterMap (fun q => (y_ch q.1)[q.2]?) := rfl
set_option maxRecDepth 100000 in
theorem vp_Model_makeAll_g : (mj_wm y_Y m_Model_makeAll).all mj_gw = true := rfl
set_option maxRecDepth 100000 in
theorem vp_Model_result : mj_wm y_Y m_Model_result = [(16, 43), (14, 68), (14, 69), (14, 70), (15, 204), (9, 8), (15, 206), (7, 3)].filterMap (fun q => (y_ch q.1)[q.2]?) := rfl
set_option maxRecDepth 100000 in
theorem vp_Model_result_g : (mj_wm y_Y m_Model_result).all mj_gw = true := rfl
set_option maxRecDepth 100000 in
theorem vp_Model_told : mj_wm y_Y m_Model_told = [(16, 47), (14, 72), (14, 73), (14, 75), (14, 63), (14, 68), (14, 71), (14, 67), (14, 65), (14, 66), (14, 69), (14, 70), (16, 0), (9, 8), (16, 2), (7, 12), (15, 204), (9, 8), (15, 206), (7, 3)].filterMap (fun q => (y_ch q.1)[q.2]?) := rfl
set_option maxRecDepth 100000 in
theorem vp_Model_told_g : (mj_wm y_Y m_Model_told).all mj_gw = true := rfl
set_option maxRecDepth 100000 in
theorem vp_Model_part : mj_wm y_Y m_Model_part = [(16, 51), (14, 72), (14, 74), (14, 75), (14, 80), (14, 81), (14, 63), (14, 68), (14, 98), (14, 86), (14, 99), (14, 69), (14, 70), (16, 32), (9, 8), (16, 34), (8, 4), (15, 192), (9, 8), (15, 194), (7, 0)].filterMap (fun q => (y_ch q.1)[q.2]?) := rfl
set_option maxRecDepth 100000 in
theorem vp_Model_part_g : (mj_wm y_Y m_Model_part).all mj_gw = true := rfl
set_option maxRecDepth 100000 in
theorem vp_Model_clear : mj_wm y_Y m_Model_clear = [(16, 55), (14, 26), (14, 31), (14, 63)].filterMap (fun q => (y_ch q.1)[q.2]?) := rfl
set_option maxRecDepth 100000 in
theorem vp_Model_clear_g : (mj_wm y_Y m_Model_clear).all mj_gw = true := rfl
set_option maxRecDepth 100000 in
theorem vp_Arrays_copyOf0 : mj_wm y_Y m_Arrays_copyOf0 = [(9, 239), (10, 8), (10, 10), (10, 9), (9, 10), (10, 7), (9, 43), (9, 3), (9, 44)].filterMap (fun q => (y_ch q.1)[q.2]?) := rfl
set_option maxRecDepth 100000 in
theorem vp_Arrays_copyOf0_g : (mj_wm y_Y m_Arrays_copyOf0).all mj_gw = true := rfl
set_option maxRecDepth 100000 in
theorem vp_String_indexOf0 : mj_wm y_Y m_String_indexOf0 = [(10, 203), (10, 204), (9, 17), (10, 205), (10, 206)].filterMap (fun q => (y_ch q.1)[q.2]?) := rfl
set_option maxRecDepth 100000 in
theorem vp_String_indexOf0_g : (mj_wm y_Y m_String_indexOf0).all mj_gw = true := rfl
set_option maxRecDepth 100000 in
theorem vp_String_indexOf1 : mj_wm y_Y m_String_indexOf1 = [(10, 207), (16, 76), (10, 208), (9, 17), (10, 209), (10, 210), (10, 214), (9, 17), (10, 215), (10, 216), (10, 222), (9, 18), (10, 223)].filterMap (fun q => (y_ch q.1)[q.2]?) := rfl
set_option maxRecDepth 100000 in
theorem vp_String_indexOf1_g : (mj_wm y_Y m_String_indexOf1).all mj_gw = true := rfl
set_option maxRecDepth 100000 in
theorem vp_String_isLatin1 : mj_wm y_Y m_String_isLatin1 = [(10, 211), (16, 75), (10, 212)].filterMap (fun q => (y_ch q.1)[q.2]?) := rfl
set_option maxRecDepth 100000 in
theorem vp_String_isLatin1_g : (mj_wm y_Y m_String_isLatin1).all mj_gw = true := rfl
set_option maxRecDepth 100000 in
theorem vp_String_length : mj_wm y_Y m_String_length = [(10, 217), (16, 76), (10, 218), (9, 17), (10, 219), (10, 220)].filterMap (fun q => (y_ch q.1)[q.2]?) := rfl
set_option maxRecDepth 100000 in
theorem vp_String_length_g : (mj_wm y_Y m_String_length).all mj_gw = true := rfl
set_option maxRecDepth 100000 in
theorem vp_String_coder : mj_wm y_Y m_String_coder = [(10, 221), (16, 75), (10, 212)].filterMap (fun q => (y_ch q.1)[q.2]?) := rfl
set_option maxRecDepth 100000 in
theorem vp_String_coder_g : (mj_wm y_Y m_String_coder).all mj_gw = true := rfl
set_option maxRecDepth 100000 in
theorem vp_Latin1_indexOf : mj_wm y_Y m_Latin1_indexOf = [(10, 224), (10, 229), (9, 43), (9, 3), (9, 44), (10, 225), (9, 18), (10, 226), (10, 228), (9, 46), (9, 3), (9, 47), (10, 230), (9, 18), (10, 231)].filterMap (fun q => (y_ch q.1)[q.2]?) := rfl
set_option maxRecDepth 100000 in
theorem vp_Latin1_indexOf_g : (mj_wm y_Y m_Latin1_indexOf).all mj_gw = true := rfl
set_option maxRecDepth 100000 in
theorem vp_Latin1_canEncode : mj_wm y_Y m_Latin1_canEncode = [(10, 227)].filterMap (fun q => (y_ch q.1)[q.2]?) := rfl
set_option maxRecDepth 100000 in
theorem vp_Latin1_canEncode_g : (mj_wm y_Y m_Latin1_canEncode).all mj_gw = true := rfl
set_option maxRecDepth 100000 in
theorem vp_Latin1_indexOfChar : mj_wm y_Y m_Latin1_indexOfChar = [(10, 232)].filterMap (fun q => (y_ch q.1)[q.2]?) := rfl
set_option maxRecDepth 100000 in
theorem vp_Latin1_indexOfChar_g : (mj_wm y_Y m_Latin1_indexOfChar).all mj_gw = true := rfl
set_option maxRecDepth 100000 in
theorem vp_List_init : mj_wm y_Y m_List_init = [(10, 70), (10, 80), (10, 71), (9, 14), (10, 72), (10, 78)].filterMap (fun q => (y_ch q.1)[q.2]?) := rfl
set_option maxRecDepth 100000 in
theorem vp_List_init_g : (mj_wm y_Y m_List_init).all mj_gw = true := rfl
set_option maxRecDepth 100000 in
theorem vp_AList_init : mj_wm y_Y m_AList_init = [(10, 73), (10, 82), (10, 74), (9, 13), (10, 75)].filterMap (fun q => (y_ch q.1)[q.2]?) := rfl
set_option maxRecDepth 100000 in
theorem vp_AList_init_g : (mj_wm y_Y m_AList_init).all mj_gw = true := rfl
set_option maxRecDepth 100000 in
theorem vp_AColl_init : mj_wm y_Y m_AColl_init = [(10, 76), (10, 77), (9, 33), (9, 34)].filterMap (fun q => (y_ch q.1)[q.2]?) := rfl
set_option maxRecDepth 100000 in
theorem vp_AColl_init_g : (mj_wm y_Y m_AColl_init).all mj_gw = true := rfl
set_option maxRecDepth 100000 in
theorem vp_List_size : mj_wm y_Y m_List_size = [(11, 69), (10, 81)].filterMap (fun q => (y_ch q.1)[q.2]?) := rfl
set_option maxRecDepth 100000 in
theorem vp_List_size_g : (mj_wm y_Y m_List_size).all mj_gw = true := rfl
set_option maxRecDepth 100000 in
theorem vp_List_add0 : mj_wm y_Y m_List_add0 = [(11, 115), (10, 80), (10, 81), (10, 83), (10, 84), (11, 116), (9, 15), (11, 118), (1, 10)].filterMap (fun q => (y_ch q.1)[q.2]?) := rfl
set_option maxRecDepth 100000 in
theorem vp_List_add0_g : (mj_wm y_Y m_List_add0).all mj_gw = true := rfl
set_option maxRecDepth 100000 in
theorem vp_List_add1 : mj_wm y_Y m_List_add1 = [(11, 119), (10, 81), (11, 120), (9, 15), (11, 122), (1, 11)].filterMap (fun q => (y_ch q.1)[q.2]?) := rfl
set_option maxRecDepth 100000 in
theorem vp_List_add1_g : (mj_wm y_Y m_List_add1).all mj_gw = true := rfl
set_option maxRecDepth 100000 in
theorem vp_List_grow0 : mj_wm y_Y m_List_grow0 = [(11, 123), (10, 81), (11, 124), (9, 15), (11, 126), (1, 12)].filterMap (fun q => (y_ch q.1)[q.2]?) := rfl
set_option maxRecDepth 100000 in
theorem vp_List_grow0_g : (mj_wm y_Y m_List_grow0).all mj_gw = true := rfl
set_option maxRecDepth 100000 in
theorem vp_List_grow1 : mj_wm y_Y m_List_grow1 = [(11, 127), (10, 80), (11, 136), (9, 9), (11, 137), (11, 128), (9, 23), (11, 129), (11, 163), (9, 46), (9, 3), (9, 47), (11, 164), (10, 78)].filterMap (fun q => (y_ch q.1)[q.2]?) := rfl
set_option maxRecDepth 100000 in
theorem vp_List_grow1_g : (mj_wm y_Y m_List_grow1).all mj_gw = true := rfl
set_option maxRecDepth 100000 in
theorem vp_Support_newLength : mj_wm y_Y m_Support_newLength = [(11, 130), (11, 131), (9, 46), (9, 3), (9, 47), (11, 132)].filterMap (fun q => (y_ch q.1)[q.2]?) := rfl
set_option maxRecDepth 100000 in
theorem vp_Support_newLength_g : (mj_wm y_Y m_Support_newLength).all mj_gw = true := rfl
set_option maxRecDepth 100000 in
theorem vp_Arrays_copyOf1 : mj_wm y_Y m_Arrays_copyOf1 = [(11, 138), (11, 139), (16, 60), (16, 59), (11, 140), (11, 156), (11, 157), (9, 9), (11, 158)].filterMap (fun q => (y_ch q.1)[q.2]?) := rfl
set_option maxRecDepth 100000 in
theorem vp_Arrays_copyOf1_g : (mj_wm y_Y m_Arrays_copyOf1).all mj_gw = true := rfl
set_option maxRecDepth 100000 in
theorem vp_Arrays_copyOf2 : mj_wm y_Y m_Arrays_copyOf2 = [(11, 159), (10, 8), (10, 10), (10, 9), (9, 10), (10, 7), (9, 43), (9, 3), (9, 44), (11, 162), (11, 160)].filterMap (fun q => (y_ch q.1)[q.2]?) := rfl
set_option maxRecDepth 100000 in
theorem vp_Arrays_copyOf2_g : (mj_wm y_Y m_Arrays_copyOf2).all mj_gw = true := rfl
set_option maxRecDepth 100000 in
theorem vp_List_get : mj_wm y_Y m_List_get = [(12, 85), (10, 81), (12, 86), (9, 25), (12, 87), (12, 92), (9, 15), (12, 93), (12, 94)].filterMap (fun q => (y_ch q.1)[q.2]?) := rfl
set_option maxRecDepth 100000 in
theorem vp_List_get_g : (mj_wm y_Y m_List_get).all mj_gw = true := rfl
set_option maxRecDepth 100000 in
theorem vp_Objects_checkIndex : mj_wm y_Y m_Objects_checkIndex = [(12, 88), (12, 89), (9, 20), (12, 90)].filterMap (fun q => (y_ch q.1)[q.2]?) := rfl
set_option maxRecDepth 100000 in
theorem vp_Objects_checkIndex_g : (mj_wm y_Y m_Objects_checkIndex).all mj_gw = true := rfl
set_option maxRecDepth 100000 in
theorem vp_Pre_checkIndex : mj_wm y_Y m_Pre_checkIndex = [(12, 91)].filterMap (fun q => (y_ch q.1)[q.2]?) := rfl
set_option maxRecDepth 100000 in
theorem vp_Pre_checkIndex_g : (mj_wm y_Y m_Pre_checkIndex).all mj_gw = true := rfl
set_option maxRecDepth 100000 in
theorem vp_List_elementData : mj_wm y_Y m_List_elementData = [(12, 95), (10, 80)].filterMap (fun q => (y_ch q.1)[q.2]?) := rfl
set_option maxRecDepth 100000 in
theorem vp_List_elementData_g : (mj_wm y_Y m_List_elementData).all mj_gw = true := rfl
set_option maxRecDepth 100000 in
theorem vp_Law_law : mj_wm y_Y m_Law_law = [(0, 0), (9, 29), (9, 1), (9, 30), (14, 17), (9, 8), (14, 18), (9, 225), (9, 1), (9, 226), (9, 227), (15, 35), (9, 8), (15, 36), (15, 37), (10, 11), (9, 1), (10, 12), (10, 13), (15, 43), (9, 8), (15, 44), (15, 45), (12, 168), (9, 1), (12, 169), (12, 170), (15, 140), (9, 8), (15, 141), (15, 142), (12, 181), (9, 1), (12, 182), (12, 183), (15, 176), (9, 8), (15, 177), (15, 178), (12, 193), (9, 1), (12, 194), (12, 195), (15, 180), (9, 8), (15, 181), (15, 182), (13, 231), (9, 1), (13, 232), (13, 233), (16, 44), (9, 8), (16, 45), (16, 46), (14, 3), (9, 1), (14, 4), (14, 5), (16, 48), (9, 8), (16, 49), (16, 50), (14, 11), (9, 1), (14, 12), (14, 13), (16, 52), (9, 8), (16, 53), (16, 54), (9, 27), (14, 15)].filterMap (fun q => (y_ch q.1)[q.2]?) := rfl
set_option maxRecDepth 100000 in
theorem vp_Law_law_g : (mj_wm y_Y m_Law_law).all mj_gw = true := rfl
set_option maxRecDepth 100000 in
theorem vc_Frame : mj_wC (y_cl.getD 0 ("", T_Row, 0)) = [(9, 84), (9, 6), (9, 101), (9, 103), (9, 105), (9, 107), (9, 109), (9, 111), (9, 113)].filterMap (fun q => (y_ch q.1)[q.2]?) := rfl
set_option maxRecDepth 100000 in
theorem vc_Frame_g : (mj_wC (y_cl.getD 0 ("", T_Row, 0))).all mj_gw = true := rfl
set_option maxRecDepth 100000 in
theorem vc_Heap : mj_wC (y_cl.getD 1 ("", T_Row, 0)) = [(9, 60), (9, 5), (9, 71), (9, 73), (9, 75), (9, 77)].filterMap (fun q => (y_ch q.1)[q.2]?) := rfl
set_option maxRecDepth 100000 in
theorem vc_Heap_g : (mj_wC (y_cl.getD 1 ("", T_Row, 0))).all mj_gw = true := rfl
set_option maxRecDepth 100000 in
theorem vc_Machine : mj_wC (y_cl.getD 2 ("", T_Row, 0)) = [(9, 54), (9, 4), (9, 177), (9, 179), (9, 181), (9, 183), (9, 185), (9, 187), (9, 189), (9, 191), (9, 193), (9, 195), (9, 197), (9, 199), (9, 201), (9, 203), (9, 205), (9, 207), (9, 209)].filterMap (fun q => (y_ch q.1)[q.2]?) := rfl
set_option maxRecDepth 100000 in
theorem vc_Machine_g : (mj_wC (y_cl.getD 2 ("", T_Row, 0))).all mj_gw = true := rfl
set_option maxRecDepth 100000 in
theorem vc_Pieces : mj_wC (y_cl.getD 3 ("", T_Row, 0)) = [(10, 18), (9, 12), (10, 39), (10, 41), (10, 43), (10, 45), (10, 47), (10, 49), (10, 51), (10, 53), (10, 55), (10, 57), (10, 59)].filterMap (fun q => (y_ch q.1)[q.2]?) := rfl
set_option maxRecDepth 100000 in
theorem vc_Pieces_g : (mj_wC (y_cl.getD 3 ("", T_Row, 0))).all mj_gw = true := rfl
set_option maxRecDepth 100000 in
theorem vc_Program : mj_wC (y_cl.getD 4 ("", T_Row, 0)) = [(9, 117), (9, 7), (9, 137), (9, 139), (9, 141), (9, 143), (9, 145), (9, 147), (9, 149), (9, 151), (9, 153)].filterMap (fun q => (y_ch q.1)[q.2]?) := rfl
set_option maxRecDepth 100000 in
theorem vc_Program_g : (mj_wC (y_cl.getD 4 ("", T_Row, 0))).all mj_gw = true := rfl
set_option maxRecDepth 100000 in
theorem vc_Reader : mj_wC (y_cl.getD 5 ("", T_Row, 0)) = [(10, 16), (9, 11), (10, 134), (10, 136), (10, 138), (10, 140), (10, 142), (10, 144), (10, 146), (10, 148)].filterMap (fun q => (y_ch q.1)[q.2]?) := rfl
set_option maxRecDepth 100000 in
theorem vc_Reader_g : (mj_wC (y_cl.getD 5 ("", T_Row, 0))).all mj_gw = true := rfl
set_option maxRecDepth 100000 in
theorem vc_Row : mj_wC (y_cl.getD 6 ("", T_Row, 0)) = [(9, 36), (9, 2), (9, 49)].filterMap (fun q => (y_ch q.1)[q.2]?) := rfl
set_option maxRecDepth 100000 in
theorem vc_Row_g : (mj_wC (y_cl.getD 6 ("", T_Row, 0))).all mj_gw = true := rfl
set_option maxRecDepth 100000 in
theorem vc_Scope : mj_wC (y_cl.getD 7 ("", T_Row, 0)) = [(10, 95), (9, 16), (10, 110), (10, 112), (10, 114), (10, 116), (10, 118), (10, 120)].filterMap (fun q => (y_ch q.1)[q.2]?) := rfl
set_option maxRecDepth 100000 in
theorem vc_Scope_g : (mj_wC (y_cl.getD 7 ("", T_Row, 0))).all mj_gw = true := rfl
set_option maxRecDepth 100000 in
theorem vc_Term : mj_wC (y_cl.getD 8 ("", T_Row, 0)) = [(11, 202), (9, 24), (11, 233), (11, 235), (11, 237), (11, 239), (12, 1), (12, 3), (12, 5), (12, 7), (12, 9)].filterMap (fun q => (y_ch q.1)[q.2]?) := rfl
set_option maxRecDepth 100000 in
theorem vc_Term_g : (mj_wC (y_cl.getD 8 ("", T_Row, 0))).all mj_gw = true := rfl
set_option maxRecDepth 100000 in
theorem vc_Unit : mj_wC (y_cl.getD 9 ("", T_Row, 0)) = [(11, 65), (9, 22), (11, 92), (11, 94), (11, 96), (11, 98), (11, 100), (11, 102), (11, 104), (11, 106), (11, 108)].filterMap (fun q => (y_ch q.1)[q.2]?) := rfl
set_option maxRecDepth 100000 in
theorem vc_Unit_g : (mj_wC (y_cl.getD 9 ("", T_Row, 0))).all mj_gw = true := rfl
set_option maxRecDepth 100000 in
theorem vc_Writer : mj_wC (y_cl.getD 10 ("", T_Row, 0)) = [(12, 103), (9, 26), (12, 109)].filterMap (fun q => (y_ch q.1)[q.2]?) := rfl
set_option maxRecDepth 100000 in
theorem vc_Writer_g : (mj_wC (y_cl.getD 10 ("", T_Row, 0))).all mj_gw = true := rfl
set_option maxRecDepth 100000 in
theorem vc_Main : mj_wC (y_cl.getD 11 ("", T_Row, 0)) = [(9, 28), (9, 1), (9, 216), (9, 218), (9, 220), (9, 222)].filterMap (fun q => (y_ch q.1)[q.2]?) := rfl
set_option maxRecDepth 100000 in
theorem vc_Main_g : (mj_wC (y_cl.getD 11 ("", T_Row, 0))).all mj_gw = true := rfl
set_option maxRecDepth 100000 in
theorem vc_Model : mj_wC (y_cl.getD 12 ("", T_Row, 0)) = [(14, 16), (9, 8), (14, 107), (14, 109), (14, 111), (14, 113), (14, 115), (14, 117), (14, 119), (14, 121), (14, 123), (14, 125), (14, 127), (14, 129), (14, 131), (14, 133), (14, 135), (14, 137), (14, 139), (14, 141), (14, 143), (14, 145), (14, 147), (14, 149), (14, 151), (14, 153), (14, 155), (14, 157), (14, 159), (14, 161), (14, 163), (14, 165), (14, 167), (14, 169), (14, 171), (14, 173), (14, 175), (14, 177), (14, 179), (14, 181), (14, 183), (14, 185), (14, 187), (14, 189), (14, 191), (14, 193), (14, 195), (14, 197), (14, 199), (14, 201), (14, 203), (14, 205), (14, 207), (14, 209), (14, 211), (14, 213), (14, 215), (14, 217), (14, 219), (14, 221), (14, 223), (14, 225), (14, 227), (14, 229), (14, 231), (14, 233), (14, 235), (14, 237), (14, 239), (15, 1), (15, 3), (15, 5), (15, 7), (15, 9), (15, 11), (15, 13), (15, 15), (15, 17), (15, 19), (15, 21), (15, 23), (15, 25), (15, 27), (15, 29), (15, 31)].filterMap (fun q => (y_ch q.1)[q.2]?) := rfl
set_option maxRecDepth 100000 in
theorem vc_Model_g : (mj_wC (y_cl.getD 12 ("", T_Row, 0))).all mj_gw = true := rfl
set_option maxRecDepth 100000 in
theorem vc_List : mj_wC (y_cl.getD 13 ("", T_Row, 0)) = [(10, 67), (9, 15), (10, 85), (10, 87), (10, 89)].filterMap (fun q => (y_ch q.1)[q.2]?) := rfl
set_option maxRecDepth 100000 in
theorem vc_List_g : (mj_wC (y_cl.getD 13 ("", T_Row, 0))).all mj_gw = true := rfl
set_option maxRecDepth 100000 in
theorem va_arr : y_ta.flatMap mj_wA = [(15, 34), (9, 52), (9, 83), (10, 103), (11, 161)].filterMap (fun q => (y_ch q.1)[q.2]?) := rfl
set_option maxRecDepth 100000 in
theorem va_arr_g : (y_ta.flatMap mj_wA).all mj_gw = true := rfl
set_option maxRecDepth 100000 in
theorem va_ob : mj_wO y_Y = [(16, 72), (16, 71)].filterMap (fun q => (y_ch q.1)[q.2]?) := rfl
set_option maxRecDepth 100000 in
theorem va_ob_g : (mj_wO y_Y).all mj_gw = true := rfl
