/-! places of words -/
set_option maxRecDepth 100000 in
theorem vp_Main_init : mj_wm y_Y m_Main_init = [(9, 31), (9, 212), (9, 213), (9, 214), (9, 215), (9, 32), (9, 33), (9, 34), (9, 37), (9, 2), (9, 38), (9, 55), (9, 4), (9, 56), (9, 35), (9, 53)].filterMap (fun q => (y_ch q.1)[q.2]?) := rfl
set_option maxRecDepth 100000 in
theorem vp_Main_init_g : (mj_wm y_Y m_Main_init).all mj_gw = true := rfl
set_option maxRecDepth 100000 in
theorem vp_Row_init : mj_wm y_Y m_Row_init = [(9, 39), (9, 48), (9, 40), (9, 33), (9, 34), (9, 42), (9, 43), (9, 3), (9, 44), (9, 45), (9, 46), (9, 3), (9, 47), (9, 41)].filterMap (fun q => (y_ch q.1)[q.2]?) := rfl
set_option maxRecDepth 100000 in
theorem vp_Row_init_g : (mj_wm y_Y m_Row_init).all mj_gw = true := rfl
set_option maxRecDepth 100000 in
theorem vp_Machine_init : mj_wm y_Y m_Machine_init = [(9, 57), (9, 156), (9, 164), (9, 165), (9, 166), (9, 167), (9, 168), (9, 169), (9, 58), (9, 33), (9, 34), (9, 61), (9, 5), (9, 62), (9, 81), (9, 2), (9, 38), (9, 85), (9, 6), (9, 86), (9, 118), (9, 7), (9, 119), (9, 59), (9, 80), (9, 82), (9, 116)].filterMap (fun q => (y_ch q.1)[q.2]?) := rfl
set_option maxRecDepth 100000 in
theorem vp_Machine_init_g : (mj_wm y_Y m_Machine_init).all mj_gw = true := rfl
set_option maxRecDepth 100000 in
theorem vp_Heap_init : mj_wm y_Y m_Heap_init = [(9, 63), (9, 69), (9, 64), (9, 33), (9, 34)].filterMap (fun q => (y_ch q.1)[q.2]?) := rfl
set_option maxRecDepth 100000 in
theorem vp_Heap_init_g : (mj_wm y_Y m_Heap_init).all mj_gw = true := rfl
set_option maxRecDepth 100000 in
theorem vp_Frame_init : mj_wm y_Y m_Frame_init = [(9, 87), (9, 88), (9, 33), (9, 34)].filterMap (fun q => (y_ch q.1)[q.2]?) := rfl
set_option maxRecDepth 100000 in
theorem vp_Frame_init_g : (mj_wm y_Y m_Frame_init).all mj_gw = true := rfl
set_option maxRecDepth 100000 in
theorem vp_Program_init : mj_wm y_Y m_Program_init = [(9, 120), (9, 136), (9, 124), (9, 131), (9, 132), (9, 133), (9, 134), (9, 135), (9, 121), (9, 33), (9, 34), (9, 123), (9, 2), (9, 38), (9, 122)].filterMap (fun q => (y_ch q.1)[q.2]?) := rfl
set_option maxRecDepth 100000 in
theorem vp_Program_init_g : (mj_wm y_Y m_Program_init).all mj_gw = true := rfl
set_option maxRecDepth 100000 in
theorem vp_Main_feed : mj_wm y_Y m_Main_feed = [(9, 228), (9, 214), (9, 229), (9, 1), (9, 231), (1, 0)].filterMap (fun q => (y_ch q.1)[q.2]?) := rfl
set_option maxRecDepth 100000 in
theorem vp_Main_feed_g : (mj_wm y_Y m_Main_feed).all mj_gw = true := rfl
set_option maxRecDepth 100000 in
theorem vp_Main_putOnTape : mj_wm y_Y m_Main_putOnTape = [(9, 232), (9, 212), (9, 214), (9, 233), (9, 2), (9, 234), (9, 235)].filterMap (fun q => (y_ch q.1)[q.2]?) := rfl
set_option maxRecDepth 100000 in
theorem vp_Main_putOnTape_g : (mj_wm y_Y m_Main_putOnTape).all mj_gw = true := rfl
set_option maxRecDepth 100000 in
theorem vp_Row_put : mj_wm y_Y m_Row_put = [(9, 236), (9, 48), (9, 42), (9, 43), (9, 3), (9, 44), (9, 45), (9, 46), (9, 3), (9, 47), (9, 237), (9, 9), (9, 238), (9, 41)].filterMap (fun q => (y_ch q.1)[q.2]?) := rfl
set_option maxRecDepth 100000 in
theorem vp_Row_put_g : (mj_wm y_Y m_Row_put).all mj_gw = true := rfl
set_option maxRecDepth 100000 in
theorem vp_Main_read : mj_wm y_Y m_Main_read = [(10, 14), (9, 212), (9, 213), (9, 214), (9, 215), (10, 129), (10, 126), (10, 124), (9, 128), (10, 19), (9, 12), (10, 20), (10, 62), (9, 11), (10, 63), (10, 151), (9, 11), (10, 152), (10, 153), (12, 97), (9, 11), (12, 98), (12, 99), (12, 101), (9, 7), (9, 119), (12, 104), (9, 26), (12, 105), (12, 112), (9, 26), (12, 113), (12, 114), (12, 164), (9, 4), (12, 165), (12, 166), (10, 15), (10, 17), (12, 96), (12, 102)].filterMap (fun q => (y_ch q.1)[q.2]?) := rfl
set_option maxRecDepth 100000 in
theorem vp_Main_read_g : (mj_wm y_Y m_Main_read).all mj_gw = true := rfl
set_option maxRecDepth 100000 in
theorem vp_Pieces_init : mj_wm y_Y m_Pieces_init = [(10, 21), (10, 25), (10, 26), (10, 27), (10, 28), (10, 29), (10, 22), (9, 33), (9, 34), (10, 24), (9, 2), (9, 38), (10, 23)].filterMap (fun q => (y_ch q.1)[q.2]?) := rfl
set_option maxRecDepth 100000 in
theorem vp_Pieces_init_g : (mj_wm y_Y m_Pieces_init).all mj_gw = true := rfl
set_option maxRecDepth 100000 in
theorem vp_Reader_init : mj_wm y_Y m_Reader_init = [(10, 64), (10, 130), (10, 123), (10, 125), (10, 128), (10, 131), (10, 132), (10, 133), (10, 65), (9, 33), (9, 34), (10, 68), (9, 15), (10, 69), (10, 93), (9, 2), (9, 38), (10, 96), (9, 16), (10, 97), (10, 66), (10, 92), (10, 94)].filterMap (fun q => (y_ch q.1)[q.2]?) := rfl
set_option maxRecDepth 100000 in
theorem vp_Reader_init_g : (mj_wm y_Y m_Reader_init).all mj_gw = true := rfl
set_option maxRecDepth 100000 in
theorem vp_Scope_init : mj_wm y_Y m_Scope_init = [(10, 98), (10, 104), (10, 105), (10, 106), (10, 107), (10, 99), (9, 33), (9, 34), (10, 101), (9, 2), (9, 38), (10, 100), (10, 102)].filterMap (fun q => (y_ch q.1)[q.2]?) := rfl
set_option maxRecDepth 100000 in
theorem vp_Scope_init_g : (mj_wm y_Y m_Scope_init).all mj_gw = true := rfl
set_option maxRecDepth 100000 in
theorem vp_Reader_readProgram : mj_wm y_Y m_Reader_readProgram = [(10, 154), (10, 130), (10, 128), (10, 155), (9, 12), (10, 156), (10, 157), (11, 42), (9, 12), (11, 43), (11, 44), (11, 47), (9, 11), (11, 49), (1, 6), (11, 174), (9, 11), (11, 176), (1, 14), (11, 56), (9, 11), (11, 58), (1, 8), (12, 78), (9, 11), (12, 80), (2, 12)].filterMap (fun q => (y_ch q.1)[q.2]?) := rfl
set_option maxRecDepth 100000 in
theorem vp_Reader_readProgram_g : (mj_wm y_Y m_Reader_readProgram).all mj_gw = true := rfl
set_option maxRecDepth 100000 in
theorem vp_Pieces_split : mj_wm y_Y m_Pieces_split = [(10, 158), (10, 25), (10, 26), (10, 30), (10, 159), (9, 12), (10, 161), (1, 1), (10, 163), (9, 2), (10, 164), (10, 165), (10, 170), (9, 12), (10, 172), (1, 2), (10, 184), (9, 12), (10, 186), (1, 4)].filterMap (fun q => (y_ch q.1)[q.2]?) := rfl
set_option maxRecDepth 100000 in
theorem vp_Pieces_split_g : (mj_wm y_Y m_Pieces_split).all mj_gw = true := rfl
set_option maxRecDepth 100000 in
theorem vp_Pieces_skipBlanks : mj_wm y_Y m_Pieces_skipBlanks = [(10, 162), (10, 25), (10, 26), (10, 30), (10, 163), (9, 2), (10, 164), (10, 165), (10, 167), (9, 12), (10, 168)].filterMap (fun q => (y_ch q.1)[q.2]?) := rfl
set_option maxRecDepth 100000 in
theorem vp_Pieces_skipBlanks_g : (mj_wm y_Y m_Pieces_skipBlanks).all mj_gw = true := rfl
set_option maxRecDepth 100000 in
theorem vp_Row_at : mj_wm y_Y m_Row_at = [(10, 166), (9, 48)].filterMap (fun q => (y_ch q.1)[q.2]?) := rfl
set_option maxRecDepth 100000 in
theorem vp_Row_at_g : (mj_wm y_Y m_Row_at).all mj_gw = true := rfl
set_option maxRecDepth 100000 in
theorem vp_Pieces_isBlank : mj_wm y_Y m_Pieces_isBlank = [(10, 169)].filterMap (fun q => (y_ch q.1)[q.2]?) := rfl
set_option maxRecDepth 100000 in
theorem vp_Pieces_isBlank_g : (mj_wm y_Y m_Pieces_isBlank).all mj_gw = true := rfl
set_option maxRecDepth 100000 in
theorem vp_Pieces_splitOne : mj_wm y_Y m_Pieces_splitOne = [(10, 173), (10, 30), (10, 184), (9, 12), (10, 186), (1, 4), (10, 174), (9, 12), (10, 175), (10, 177), (9, 12), (10, 179), (1, 3), (10, 189), (9, 12), (10, 190), (10, 192), (9, 12), (10, 194), (1, 5), (10, 200), (9, 17), (10, 201), (10, 202)].filterMap (fun q => (y_ch q.1)[q.2]?) := rfl
set_option maxRecDepth 100000 in
theorem vp_Pieces_splitOne_g : (mj_wm y_Y m_Pieces_splitOne).all mj_gw = true := rfl
set_option maxRecDepth 100000 in
theorem vp_Pieces_isLetter : mj_wm y_Y m_Pieces_isLetter = [(10, 176)].filterMap (fun q => (y_ch q.1)[q.2]?) := rfl
set_option maxRecDepth 100000 in
theorem vp_Pieces_isLetter_g : (mj_wm y_Y m_Pieces_isLetter).all mj_gw = true := rfl
set_option maxRecDepth 100000 in
theorem vp_Pieces_splitWord : mj_wm y_Y m_Pieces_splitWord = [(10, 180), (10, 25), (10, 26), (10, 30), (10, 163), (9, 2), (10, 164), (10, 165), (10, 184), (9, 12), (10, 186), (1, 4), (10, 174), (9, 12), (10, 175), (10, 181), (9, 12), (10, 182)].filterMap (fun q => (y_ch q.1)[q.2]?) := rfl
set_option maxRecDepth 100000 in
theorem vp_Pieces_splitWord_g : (mj_wm y_Y m_Pieces_splitWord).all mj_gw = true := rfl
set_option maxRecDepth 100000 in
theorem vp_Pieces_kindOfWord : mj_wm y_Y m_Pieces_kindOfWord = [(10, 183)].filterMap (fun q => (y_ch q.1)[q.2]?) := rfl
set_option maxRecDepth 100000 in
theorem vp_Pieces_kindOfWord_g : (mj_wm y_Y m_Pieces_kindOfWord).all mj_gw = true := rfl
set_option maxRecDepth 100000 in
theorem vp_Pieces_keep : mj_wm y_Y m_Pieces_keep = [(10, 187), (10, 27), (10, 28), (10, 29), (10, 31), (10, 188), (9, 2), (9, 234), (9, 235)].filterMap (fun q => (y_ch q.1)[q.2]?) := rfl
set_option maxRecDepth 100000 in
theorem vp_Pieces_keep_g : (mj_wm y_Y m_Pieces_keep).all mj_gw = true := rfl
set_option maxRecDepth 100000 in
theorem vp_Pieces_isDigit : mj_wm y_Y m_Pieces_isDigit = [(10, 191)].filterMap (fun q => (y_ch q.1)[q.2]?) := rfl
set_option maxRecDepth 100000 in
theorem vp_Pieces_isDigit_g : (mj_wm y_Y m_Pieces_isDigit).all mj_gw = true := rfl
set_option maxRecDepth 100000 in
theorem vp_Pieces_splitNumber : mj_wm y_Y m_Pieces_splitNumber = [(10, 195), (10, 25), (10, 26), (10, 30), (10, 163), (9, 2), (10, 164), (10, 165), (10, 184), (9, 12), (10, 186), (1, 4), (10, 189), (9, 12), (10, 190), (10, 196), (10, 197), (10, 198)].filterMap (fun q => (y_ch q.1)[q.2]?) := rfl
set_option maxRecDepth 100000 in
theorem vp_Pieces_splitNumber_g : (mj_wm y_Y m_Pieces_splitNumber).all mj_gw = true := rfl
set_option maxRecDepth 100000 in
theorem vp_Pieces_advance : mj_wm y_Y m_Pieces_advance = [(11, 45), (10, 27), (10, 28), (10, 29), (10, 32), (10, 33), (10, 35), (10, 37), (10, 31), (10, 163), (9, 2), (10, 164), (10, 165), (11, 46), (9, 43), (9, 3), (9, 44)].filterMap (fun q => (y_ch q.1)[q.2]?) := rfl
set_option maxRecDepth 100000 in
theorem vp_Pieces_advance_g : (mj_wm y_Y m_Pieces_advance).all mj_gw = true := rfl
set_option maxRecDepth 100000 in
theorem vp_Reader_readDefinition : mj_wm y_Y m_Reader_readDefinition = [(11, 50), (10, 130), (10, 125), (10, 131), (10, 132), (11, 81), (10, 34), (10, 38), (10, 127), (11, 79), (11, 88), (11, 42), (9, 12), (11, 43), (11, 44), (11, 56), (9, 11), (11, 58), (1, 8), (11, 51), (9, 11), (11, 53), (1, 7), (11, 60), (9, 11), (11, 62), (1, 9), (11, 169), (9, 2), (9, 234), (9, 235), (11, 170), (9, 11), (11, 172), (1, 13), (11, 197), (9, 11), (11, 199), (2, 1), (11, 193), (9, 11), (11, 195), (2, 0), (12, 50), (9, 16), (12, 51), (12, 52), (12, 42), (9, 16), (12, 43), (12, 44)].filterMap (fun q => (y_ch q.1)[q.2]?) := rfl
set_option maxRecDepth 100000 in
theorem vp_Reader_readDefinition_g : (mj_wm y_Y m_Reader_readDefinition).all mj_gw = true := rfl
set_option maxRecDepth 100000 in
theorem vp_Reader_definitionOf : mj_wm y_Y m_Reader_definitionOf = [(11, 54), (10, 132), (10, 127), (11, 55), (9, 2), (10, 164), (10, 165)].filterMap (fun q => (y_ch q.1)[q.2]?) := rfl
set_option maxRecDepth 100000 in
theorem vp_Reader_definitionOf_g : (mj_wm y_Y m_Reader_definitionOf).all mj_gw = true := rfl
set_option maxRecDepth 100000 in
theorem vp_Reader_refuse : mj_wm y_Y m_Reader_refuse = [(11, 59), (10, 130), (10, 128), (10, 36)].filterMap (fun q => (y_ch q.1)[q.2]?) := rfl
set_option maxRecDepth 100000 in
theorem vp_Reader_refuse_g : (mj_wm y_Y m_Reader_refuse).all mj_gw = true := rfl
set_option maxRecDepth 100000 in
theorem vp_Reader_openUnit : mj_wm y_Y m_Reader_openUnit = [(11, 63), (10, 123), (10, 131), (11, 66), (9, 15), (11, 67), (11, 68), (11, 112), (9, 15), (11, 113), (11, 114), (11, 70), (9, 22), (11, 71), (11, 165), (9, 16), (11, 166), (11, 167), (11, 64)].filterMap (fun q => (y_ch q.1)[q.2]?) := rfl
set_option maxRecDepth 100000 in
theorem vp_Reader_openUnit_g : (mj_wm y_Y m_Reader_openUnit).all mj_gw = true := rfl
set_option maxRecDepth 100000 in
theorem vp_Unit_init : mj_wm y_Y m_Unit_init = [(11, 72), (11, 76), (11, 78), (11, 89), (11, 90), (11, 91), (11, 73), (9, 33), (9, 34), (11, 75), (9, 2), (9, 38), (11, 74)].filterMap (fun q => (y_ch q.1)[q.2]?) := rfl
set_option maxRecDepth 100000 in
theorem vp_Unit_init_g : (mj_wm y_Y m_Unit_init).all mj_gw = true := rfl
set_option maxRecDepth 100000 in
theorem vp_Scope_enter : mj_wm y_Y m_Scope_enter = [(11, 168), (10, 107), (10, 108)].filterMap (fun q => (y_ch q.1)[q.2]?) := rfl
set_option maxRecDepth 100000 in
theorem vp_Scope_enter_g : (mj_wm y_Y m_Scope_enter).all mj_gw = true := rfl
set_option maxRecDepth 100000 in
theorem vp_Reader_bindNames : mj_wm y_Y m_Reader_bindNames = [(11, 173), (10, 130), (10, 131), (10, 34), (10, 38), (11, 42), (9, 12), (11, 43), (11, 44), (11, 174), (9, 11), (11, 176), (1, 14), (11, 56), (9, 11), (11, 58), (1, 8), (11, 193), (9, 11), (11, 195), (2, 0), (11, 184), (9, 16), (11, 185), (11, 186), (11, 178), (9, 16), (11, 179), (11, 180)].filterMap (fun q => (y_ch q.1)[q.2]?) := rfl
set_option maxRecDepth 100000 in
theorem vp_Reader_bindNames_g : (mj_wm y_Y m_Reader_bindNames).all mj_gw = true := rfl
set_option maxRecDepth 100000 in
theorem vp_Reader_goesOn : mj_wm y_Y m_Reader_goesOn = [(11, 177), (10, 130), (10, 128), (10, 34)].filterMap (fun q => (y_ch q.1)[q.2]?) := rfl
set_option maxRecDepth 100000 in
theorem vp_Reader_goesOn_g : (mj_wm y_Y m_Reader_goesOn).all mj_gw = true := rfl
set_option maxRecDepth 100000 in
theorem vp_Scope_isAmongLast : mj_wm y_Y m_Scope_isAmongLast = [(11, 181), (10, 104), (10, 109), (11, 182), (9, 46), (9, 3), (9, 47), (11, 183), (9, 2), (10, 164), (10, 165)].filterMap (fun q => (y_ch q.1)[q.2]?) := rfl
set_option maxRecDepth 100000 in
theorem vp_Scope_isAmongLast_g : (mj_wm y_Y m_Scope_isAmongLast).all mj_gw = true := rfl
set_option maxRecDepth 100000 in
theorem vp_Scope_bind : mj_wm y_Y m_Scope_bind = [(11, 187), (10, 104), (10, 105), (10, 106), (10, 108), (10, 109), (11, 83), (11, 188), (9, 16), (11, 190), (1, 15), (11, 192), (9, 2), (9, 234), (9, 235)].filterMap (fun q => (y_ch q.1)[q.2]?) := rfl
set_option maxRecDepth 100000 in
theorem vp_Scope_bind_g : (mj_wm y_Y m_Scope_bind).all mj_gw = true := rfl
set_option maxRecDepth 100000 in
theorem vp_Scope_unitAt : mj_wm y_Y m_Scope_unitAt = [(11, 191), (10, 107)].filterMap (fun q => (y_ch q.1)[q.2]?) := rfl
set_option maxRecDepth 100000 in
theorem vp_Scope_unitAt_g : (mj_wm y_Y m_Scope_unitAt).all mj_gw = true := rfl
set_option maxRecDepth 100000 in
theorem vp_Reader_take : mj_wm y_Y m_Reader_take = [(11, 196), (10, 130), (10, 128), (10, 34), (11, 42), (9, 12), (11, 43), (11, 44), (11, 56), (9, 11), (11, 58), (1, 8)].filterMap (fun q => (y_ch q.1)[q.2]?) := rfl
set_option maxRecDepth 100000 in
theorem vp_Reader_take_g : (mj_wm y_Y m_Reader_take).all mj_gw = true := rfl
set_option maxRecDepth 100000 in
theorem vp_Reader_readTerm : mj_wm y_Y m_Reader_readTerm = [(11, 200), (10, 130), (10, 128), (10, 131), (10, 133), (10, 34), (10, 38), (11, 217), (10, 36), (11, 212), (11, 42), (9, 12), (11, 43), (11, 44), (11, 56), (9, 11), (11, 58), (1, 8), (11, 203), (9, 11), (11, 204), (11, 206), (9, 24), (11, 207), (12, 12), (9, 16), (12, 13), (12, 14), (11, 112), (9, 15), (11, 113), (11, 114), (12, 26), (9, 11), (12, 28), (2, 3), (12, 30), (9, 11), (12, 32), (2, 4), (12, 46), (9, 11), (12, 48), (2, 6), (12, 54), (9, 11), (12, 56), (2, 7), (12, 58), (9, 11), (12, 60), (2, 8), (12, 62), (9, 11), (12, 64), (2, 9), (12, 74), (9, 11), (12, 76), (2, 11), (11, 201)].filterMap (fun q => (y_ch q.1)[q.2]?) := rfl
set_option maxRecDepth 100000 in
theorem vp_Reader_readTerm_g : (mj_wm y_Y m_Reader_readTerm).all mj_gw = true := rfl
set_option maxRecDepth 100000 in
theorem vp_Reader_kindOfTerm : mj_wm y_Y m_Reader_kindOfTerm = [(11, 205)].filterMap (fun q => (y_ch q.1)[q.2]?) := rfl
set_option maxRecDepth 100000 in
theorem vp_Reader_kindOfTerm_g : (mj_wm y_Y m_Reader_kindOfTerm).all mj_gw = true := rfl
set_option maxRecDepth 100000 in
theorem vp_Term_init : mj_wm y_Y m_Term_init = [(11, 208), (11, 210), (11, 213), (11, 215), (11, 209), (9, 33), (9, 34)].filterMap (fun q => (y_ch q.1)[q.2]?) := rfl
set_option maxRecDepth 100000 in
theorem vp_Term_init_g : (mj_wm y_Y m_Term_init).all mj_gw = true := rfl
set_option maxRecDepth 100000 in
theorem vp_Scope_resolve : mj_wm y_Y m_Scope_resolve = [(12, 15), (10, 105), (10, 106), (10, 108), (11, 218), (11, 221), (11, 188), (9, 16), (11, 190), (1, 15), (11, 183), (9, 2), (10, 164), (10, 165), (12, 16), (9, 16), (12, 18), (2, 2), (12, 20), (9, 22), (12, 21), (12, 22)].filterMap (fun q => (y_ch q.1)[q.2]?) := rfl
set_option maxRecDepth 100000 in
theorem vp_Scope_resolve_g : (mj_wm y_Y m_Scope_resolve).all mj_gw = true := rfl
set_option maxRecDepth 100000 in
theorem vp_Scope_bindingOf : mj_wm y_Y m_Scope_bindingOf = [(12, 19), (10, 104), (10, 109), (11, 183), (9, 2), (10, 164), (10, 165)].filterMap (fun q => (y_ch q.1)[q.2]?) := rfl
set_option maxRecDepth 100000 in
theorem vp_Scope_bindingOf_g : (mj_wm y_Y m_Scope_bindingOf).all mj_gw = true := rfl
set_option maxRecDepth 100000 in
theorem vp_Unit_fieldOf : mj_wm y_Y m_Unit_fieldOf = [(12, 23), (11, 89), (11, 90), (11, 91), (11, 84), (12, 24), (9, 2), (10, 164), (10, 165), (12, 25), (9, 2), (9, 234), (9, 235)].filterMap (fun q => (y_ch q.1)[q.2]?) := rfl
set_option maxRecDepth 100000 in
theorem vp_Unit_fieldOf_g : (mj_wm y_Y m_Unit_fieldOf).all mj_gw = true := rfl
set_option maxRecDepth 100000 in
theorem vp_Reader_takeNumber : mj_wm y_Y m_Reader_takeNumber = [(12, 29), (10, 130), (10, 38), (11, 56), (9, 11), (11, 58), (1, 8), (11, 193), (9, 11), (11, 195), (2, 0)].filterMap (fun q => (y_ch q.1)[q.2]?) := rfl
set_option maxRecDepth 100000 in
theorem vp_Reader_takeNumber_g : (mj_wm y_Y m_Reader_takeNumber).all mj_gw = true := rfl
set_option maxRecDepth 100000 in
theorem vp_Reader_readCall : mj_wm y_Y m_Reader_readCall = [(12, 33), (10, 130), (11, 42), (9, 12), (11, 43), (11, 44), (11, 174), (9, 11), (11, 176), (1, 14), (11, 56), (9, 11), (11, 58), (1, 8), (11, 197), (9, 11), (11, 199), (2, 1), (11, 193), (9, 11), (11, 195), (2, 0), (12, 34), (9, 24), (12, 35), (12, 36), (12, 38), (9, 11), (12, 40), (2, 5)].filterMap (fun q => (y_ch q.1)[q.2]?) := rfl
set_option maxRecDepth 100000 in
theorem vp_Reader_readCall_g : (mj_wm y_Y m_Reader_readCall).all mj_gw = true := rfl
set_option maxRecDepth 100000 in
theorem vp_Term_add : mj_wm y_Y m_Term_add = [(12, 37), (11, 232), (11, 226), (11, 229), (11, 224)].filterMap (fun q => (y_ch q.1)[q.2]?) := rfl
set_option maxRecDepth 100000 in
theorem vp_Term_add_g : (mj_wm y_Y m_Term_add).all mj_gw = true := rfl
set_option maxRecDepth 100000 in
theorem vp_Reader_readOperand : mj_wm y_Y m_Reader_readOperand = [(12, 41), (10, 130), (10, 128), (10, 131), (10, 34), (10, 38), (11, 79), (11, 88), (10, 36), (11, 60), (9, 11), (11, 62), (1, 9), (11, 197), (9, 11), (11, 199), (2, 1), (12, 42), (9, 16), (12, 43), (12, 44), (11, 206), (9, 24), (11, 207), (11, 201)].filterMap (fun q => (y_ch q.1)[q.2]?) := rfl
set_option maxRecDepth 100000 in
theorem vp_Reader_readOperand_g : (mj_wm y_Y m_Reader_readOperand).all mj_gw = true := rfl
set_option maxRecDepth 100000 in
theorem vp_Scope_leave : mj_wm y_Y m_Scope_leave = [(12, 45), (10, 108), (11, 182), (9, 46), (9, 3), (9, 47)].filterMap (fun q => (y_ch q.1)[q.2]?) := rfl
set_option maxRecDepth 100000 in
theorem vp_Scope_leave_g : (mj_wm y_Y m_Scope_leave).all mj_gw = true := rfl
set_option maxRecDepth 100000 in
theorem vp_Reader_readFunction : mj_wm y_Y m_Reader_readFunction = [(12, 49), (10, 130), (10, 131), (11, 81), (10, 34), (11, 79), (11, 88), (11, 217), (11, 42), (9, 12), (11, 43), (11, 44), (11, 56), (9, 11), (11, 58), (1, 8), (11, 60), (9, 11), (11, 62), (1, 9), (11, 170), (9, 11), (11, 172), (1, 13), (11, 197), (9, 11), (11, 199), (2, 1), (12, 50), (9, 16), (12, 51), (12, 52), (12, 42), (9, 16), (12, 43), (12, 44)].filterMap (fun q => (y_ch q.1)[q.2]?) := rfl
set_option maxRecDepth 100000 in
theorem vp_Reader_readFunction_g : (mj_wm y_Y m_Reader_readFunction).all mj_gw = true := rfl
set_option maxRecDepth 100000 in
theorem vp_Scope_unbind : mj_wm y_Y m_Scope_unbind = [(12, 53), (10, 108), (10, 109), (11, 83), (11, 182), (9, 46), (9, 3), (9, 47), (11, 188), (9, 16), (11, 190), (1, 15)].filterMap (fun q => (y_ch q.1)[q.2]?) := rfl
set_option maxRecDepth 100000 in
theorem vp_Scope_unbind_g : (mj_wm y_Y m_Scope_unbind).all mj_gw = true := rfl
set_option maxRecDepth 100000 in
theorem vp_Reader_readLet : mj_wm y_Y m_Reader_readLet = [(12, 57), (10, 130), (10, 131), (10, 38), (11, 42), (9, 12), (11, 43), (11, 44), (11, 197), (9, 11), (11, 199), (2, 1), (11, 193), (9, 11), (11, 195), (2, 0), (12, 50), (9, 16), (12, 51), (12, 52), (12, 34), (9, 24), (12, 35), (12, 36), (12, 38), (9, 11), (12, 40), (2, 5), (11, 184), (9, 16), (11, 185), (11, 186)].filterMap (fun q => (y_ch q.1)[q.2]?) := rfl
set_option maxRecDepth 100000 in
theorem vp_Reader_readLet_g : (mj_wm y_Y m_Reader_readLet).all mj_gw = true := rfl
set_option maxRecDepth 100000 in
theorem vp_Reader_readConstructor : mj_wm y_Y m_Reader_readConstructor = [(12, 61), (10, 130), (10, 128), (10, 34), (11, 217), (11, 42), (9, 12), (11, 43), (11, 44), (11, 174), (9, 11), (11, 176), (1, 14), (11, 56), (9, 11), (11, 58), (1, 8), (11, 193), (9, 11), (11, 195), (2, 0), (12, 26), (9, 11), (12, 28), (2, 3), (12, 34), (9, 24), (12, 35), (12, 36), (12, 38), (9, 11), (12, 40), (2, 5)].filterMap (fun q => (y_ch q.1)[q.2]?) := rfl
set_option maxRecDepth 100000 in
theorem vp_Reader_readConstructor_g : (mj_wm y_Y m_Reader_readConstructor).all mj_gw = true := rfl
set_option maxRecDepth 100000 in
theorem vp_Reader_readChoice : mj_wm y_Y m_Reader_readChoice = [(12, 65), (10, 130), (11, 217), (11, 42), (9, 12), (11, 43), (11, 44), (11, 174), (9, 11), (11, 176), (1, 14), (11, 56), (9, 11), (11, 58), (1, 8), (11, 197), (9, 11), (11, 199), (2, 1), (11, 193), (9, 11), (11, 195), (2, 0), (12, 34), (9, 24), (12, 35), (12, 36), (12, 66), (9, 11), (12, 68), (2, 10), (12, 70)].filterMap (fun q => (y_ch q.1)[q.2]?) := rfl
set_option maxRecDepth 100000 in
theorem vp_Reader_readChoice_g : (mj_wm y_Y m_Reader_readChoice).all mj_gw = true := rfl
set_option maxRecDepth 100000 in
theorem vp_Reader_readAlternative : mj_wm y_Y m_Reader_readAlternative = [(12, 69), (10, 130), (10, 131), (10, 34), (10, 38), (11, 217), (10, 36), (11, 223), (11, 56), (9, 11), (11, 58), (1, 8), (11, 170), (9, 11), (11, 172), (1, 13), (11, 197), (9, 11), (11, 199), (2, 1), (11, 193), (9, 11), (11, 195), (2, 0), (12, 50), (9, 16), (12, 51), (12, 52), (11, 206), (9, 24), (11, 207), (12, 26), (9, 11), (12, 28), (2, 3), (12, 34), (9, 24), (12, 35), (12, 36), (12, 71), (9, 11), (12, 72), (11, 201), (12, 70)].filterMap (fun q => (y_ch q.1)[q.2]?) := rfl
set_option maxRecDepth 100000 in
theorem vp_Reader_readAlternative_g : (mj_wm y_Y m_Reader_readAlternative).all mj_gw = true := rfl
set_option maxRecDepth 100000 in
theorem vp_Reader_hasAlternative : mj_wm y_Y m_Reader_hasAlternative = [(12, 73), (11, 217), (11, 212), (11, 228), (11, 231)].filterMap (fun q => (y_ch q.1)[q.2]?) := rfl
set_option maxRecDepth 100000 in
theorem vp_Reader_hasAlternative_g : (mj_wm y_Y m_Reader_hasAlternative).all mj_gw = true := rfl
set_option maxRecDepth 100000 in
theorem vp_Reader_readOperator : mj_wm y_Y m_Reader_readOperator = [(12, 77), (10, 130), (10, 34), (11, 217), (11, 42), (9, 12), (11, 43), (11, 44), (11, 197), (9, 11), (11, 199), (2, 1), (12, 34), (9, 24), (12, 35), (12, 36)].filterMap (fun q => (y_ch q.1)[q.2]?) := rfl
set_option maxRecDepth 100000 in
theorem vp_Reader_readOperator_g : (mj_wm y_Y m_Reader_readOperator).all mj_gw = true := rfl
set_option maxRecDepth 100000 in
theorem vp_Reader_findDefinitions : mj_wm y_Y m_Reader_findDefinitions = [(12, 81), (10, 128), (10, 133), (11, 217), (11, 214), (11, 220), (11, 51), (9, 11), (11, 53), (1, 7), (11, 66), (9, 15), (11, 67), (11, 68), (12, 82), (9, 15), (12, 83), (12, 84), (11, 201)].filterMap (fun q => (y_ch q.1)[q.2]?) := rfl
set_option maxRecDepth 100000 in
theorem vp_Reader_findDefinitions_g : (mj_wm y_Y m_Reader_findDefinitions).all mj_gw = true := rfl
set_option maxRecDepth 100000 in
theorem vp_Reader_mainUnit : mj_wm y_Y m_Reader_mainUnit = [(12, 100), (10, 123), (10, 125), (11, 81), (11, 51), (9, 11), (11, 53), (1, 7), (11, 55), (9, 2), (10, 164), (10, 165), (11, 66), (9, 15), (11, 67), (11, 68), (12, 82), (9, 15), (12, 83), (12, 84), (11, 64)].filterMap (fun q => (y_ch q.1)[q.2]?) := rfl
set_option maxRecDepth 100000 in
theorem vp_Reader_mainUnit_g : (mj_wm y_Y m_Reader_mainUnit).all mj_gw = true := rfl
set_option maxRecDepth 100000 in
theorem vp_Writer_init : mj_wm y_Y m_Writer_init = [(12, 106), (12, 108), (12, 107), (9, 33), (9, 34)].filterMap (fun q => (y_ch q.1)[q.2]?) := rfl
set_option maxRecDepth 100000 in
theorem vp_Writer_init_g : (mj_wm y_Y m_Writer_init).all mj_gw = true := rfl
set_option maxRecDepth 100000 in
theorem vp_Writer_writeUnits : mj_wm y_Y m_Writer_writeUnits = [(12, 115), (12, 108), (11, 87), (12, 116), (9, 15), (11, 67), (11, 68), (12, 117), (9, 15), (12, 83), (12, 84), (12, 119), (9, 7), (12, 120), (12, 121), (12, 124), (9, 26), (12, 126), (2, 13), (12, 140), (9, 26), (12, 142), (2, 14), (12, 118)].filterMap (fun q => (y_ch q.1)[q.2]?) := rfl
set_option maxRecDepth 100000 in
theorem vp_Writer_writeUnits_g : (mj_wm y_Y m_Writer_writeUnits).all mj_gw = true := rfl
set_option maxRecDepth 100000 in
theorem vp_Program_addUnit : mj_wm y_Y m_Program_addUnit = [(12, 122), (9, 133), (9, 134), (9, 135), (9, 127), (9, 129), (11, 85), (11, 80), (12, 123), (9, 2), (9, 234), (9, 235)].filterMap (fun q => (y_ch q.1)[q.2]?) := rfl
set_option maxRecDepth 100000 in
theorem vp_Program_addUnit_g : (mj_wm y_Y m_Program_addUnit).all mj_gw = true := rfl
set_option maxRecDepth 100000 in
theorem vp_Writer_writeHead : mj_wm y_Y m_Writer_writeHead = [(12, 127), (12, 108), (11, 77), (11, 86), (11, 82), (12, 128), (9, 7), (12, 129), (12, 130), (12, 132), (9, 22), (12, 133), (12, 134), (12, 136), (9, 22), (12, 137), (12, 138)].filterMap (fun q => (y_ch q.1)[q.2]?) := rfl
set_option maxRecDepth 100000 in
theorem vp_Writer_writeHead_g : (mj_wm y_Y m_Writer_writeHead).all mj_gw = true := rfl
set_option maxRecDepth 100000 in
theorem vp_Program_add : mj_wm y_Y m_Program_add = [(12, 131), (9, 131), (9, 129), (12, 123), (9, 2), (9, 234), (9, 235)].filterMap (fun q => (y_ch q.1)[q.2]?) := rfl
set_option maxRecDepth 100000 in
theorem vp_Program_add_g : (mj_wm y_Y m_Program_add).all mj_gw = true := rfl
set_option maxRecDepth 100000 in
theorem vp_Unit_whereOf : mj_wm y_Y m_Unit_whereOf = [(12, 135), (11, 90), (12, 24), (9, 2), (10, 164), (10, 165)].filterMap (fun q => (y_ch q.1)[q.2]?) := rfl
set_option maxRecDepth 100000 in
theorem vp_Unit_whereOf_g : (mj_wm y_Y m_Unit_whereOf).all mj_gw = true := rfl
set_option maxRecDepth 100000 in
theorem vp_Unit_numberOf : mj_wm y_Y m_Unit_numberOf = [(12, 139), (11, 91), (12, 24), (9, 2), (10, 164), (10, 165)].filterMap (fun q => (y_ch q.1)[q.2]?) := rfl
set_option maxRecDepth 100000 in
theorem vp_Unit_numberOf_g : (mj_wm y_Y m_Unit_numberOf).all mj_gw = true := rfl
set_option maxRecDepth 100000 in
theorem vp_Writer_writeTerm : mj_wm y_Y m_Writer_writeTerm = [(12, 143), (12, 108), (9, 130), (11, 211), (11, 216), (11, 219), (11, 225), (11, 227), (12, 128), (9, 7), (12, 129), (12, 130), (12, 144), (9, 26), (12, 146), (2, 15), (12, 148), (9, 26), (12, 150), (3, 0), (12, 160), (9, 7), (12, 161), (12, 162)].filterMap (fun q => (y_ch q.1)[q.2]?) := rfl
set_option maxRecDepth 100000 in
theorem vp_Writer_writeTerm_g : (mj_wm y_Y m_Writer_writeTerm).all mj_gw = true := rfl
set_option maxRecDepth 100000 in
theorem vp_Writer_writeOperands : mj_wm y_Y m_Writer_writeOperands = [(12, 147), (12, 108), (11, 211), (11, 216), (11, 219), (11, 230), (12, 128), (9, 7), (12, 129), (12, 130)].filterMap (fun q => (y_ch q.1)[q.2]?) := rfl
set_option maxRecDepth 100000 in
theorem vp_Writer_writeOperands_g : (mj_wm y_Y m_Writer_writeOperands).all mj_gw = true := rfl
set_option maxRecDepth 100000 in
theorem vp_Writer_writeParts : mj_wm y_Y m_Writer_writeParts = [(12, 151), (12, 108), (11, 211), (11, 216), (11, 225), (11, 230), (12, 140), (9, 26), (12, 142), (2, 14), (12, 128), (9, 7), (12, 129), (12, 130), (12, 144), (9, 26), (12, 146), (2, 15), (12, 152), (9, 26), (12, 154), (3, 1)].filterMap (fun q => (y_ch q.1)[q.2]?) := rfl
set_option maxRecDepth 100000 in
theorem vp_Writer_writeParts_g : (mj_wm y_Y m_Writer_writeParts).all mj_gw = true := rfl
set_option maxRecDepth 100000 in
theorem vp_Writer_writeAlternatives : mj_wm y_Y m_Writer_writeAlternatives = [(12, 155), (12, 108), (9, 130), (11, 216), (11, 227), (11, 230), (11, 222), (12, 140), (9, 26), (12, 142), (2, 14), (12, 128), (9, 7), (12, 129), (12, 130), (12, 156), (9, 7), (12, 157), (12, 158)].filterMap (fun q => (y_ch q.1)[q.2]?) := rfl
set_option maxRecDepth 100000 in
theorem vp_Writer_writeAlternatives_g : (mj_wm y_Y m_Writer_writeAlternatives).all mj_gw = true := rfl
set_option maxRecDepth 100000 in
theorem vp_Program_putLength : mj_wm y_Y m_Program_putLength = [(12, 159), (9, 131), (9, 129), (12, 123), (9, 2), (9, 234), (9, 235)].filterMap (fun q => (y_ch q.1)[q.2]?) := rfl
set_option maxRecDepth 100000 in
theorem vp_Program_putLength_g : (mj_wm y_Y m_Program_putLength).all mj_gw = true := rfl
set_option maxRecDepth 100000 in
theorem vp_Program_endTerm : mj_wm y_Y m_Program_endTerm = [(12, 163), (9, 132), (9, 129), (12, 123), (9, 2), (9, 234), (9, 235)].filterMap (fun q => (y_ch q.1)[q.2]?) := rfl
set_option maxRecDepth 100000 in
theorem vp_Program_endTerm_g : (mj_wm y_Y m_Program_endTerm).all mj_gw = true := rfl
set_option maxRecDepth 100000 in
theorem vp_Machine_forget : mj_wm y_Y m_Machine_forget = [(12, 167), (9, 158)].filterMap (fun q => (y_ch q.1)[q.2]?) := rfl
set_option maxRecDepth 100000 in
theorem vp_Machine_forget_g : (mj_wm y_Y m_Machine_forget).all mj_gw = true := rfl
set_option maxRecDepth 100000 in
theorem vp_Main_size : mj_wm y_Y m_Main_size = [(12, 171), (9, 215), (12, 172), (9, 7), (12, 173), (12, 174), (12, 176), (9, 7), (12, 177), (12, 178)].filterMap (fun q => (y_ch q.1)[q.2]?) := rfl
set_option maxRecDepth 100000 in
theorem vp_Main_size_g : (mj_wm y_Y m_Main_size).all mj_gw = true := rfl
set_option maxRecDepth 100000 in
theorem vp_Program_hasUnit : mj_wm y_Y m_Program_hasUnit = [(12, 175), (9, 127)].filterMap (fun q => (y_ch q.1)[q.2]?) := rfl
set_option maxRecDepth 100000 in
theorem vp_Program_hasUnit_g : (mj_wm y_Y m_Program_hasUnit).all mj_gw = true := rfl
set_option maxRecDepth 100000 in
theorem vp_Program_unitLength : mj_wm y_Y m_Program_unitLength = [(12, 179), (9, 133), (9, 127), (9, 129), (12, 180), (9, 2), (10, 164), (10, 165)].filterMap (fun q => (y_ch q.1)[q.2]?) := rfl
set_option maxRecDepth 100000 in
theorem vp_Program_unitLength_g : (mj_wm y_Y m_Program_unitLength).all mj_gw = true := rfl
set_option maxRecDepth 100000 in
theorem vp_Main_byteAt : mj_wm y_Y m_Main_byteAt = [(12, 184), (9, 215), (12, 172), (9, 7), (12, 173), (12, 174), (12, 176), (9, 7), (12, 177), (12, 178), (12, 185), (9, 7), (12, 186), (12, 187), (12, 189), (9, 7), (12, 190), (12, 191)].filterMap (fun q => (y_ch q.1)[q.2]?) := rfl
set_option maxRecDepth 100000 in
theorem vp_Main_byteAt_g : (mj_wm y_Y m_Main_byteAt).all mj_gw = true := rfl
set_option maxRecDepth 100000 in
theorem vp_Program_unitStart : mj_wm y_Y m_Program_unitStart = [(12, 188), (9, 133), (12, 180), (9, 2), (10, 164), (10, 165)].filterMap (fun q => (y_ch q.1)[q.2]?) := rfl
set_option maxRecDepth 100000 in
theorem vp_Program_unitStart_g : (mj_wm y_Y m_Program_unitStart).all mj_gw = true := rfl
set_option maxRecDepth 100000 in
theorem vp_Program_codeAt : mj_wm y_Y m_Program_codeAt = [(12, 192), (9, 131), (12, 180), (9, 2), (10, 164), (10, 165)].filterMap (fun q => (y_ch q.1)[q.2]?) := rfl
set_option maxRecDepth 100000 in
theorem vp_Program_codeAt_g : (mj_wm y_Y m_Program_codeAt).all mj_gw = true := rfl
set_option maxRecDepth 100000 in
theorem vp_Main_run : mj_wm y_Y m_Main_run = [(12, 196), (9, 213), (9, 215), (9, 126), (12, 197), (9, 4), (12, 198), (12, 199), (12, 223), (9, 4), (12, 224), (12, 225), (13, 227), (9, 4), (13, 228), (13, 229)].filterMap (fun q => (y_ch q.1)[q.2]?) := rfl
set_option maxRecDepth 100000 in
theorem vp_Main_run_g : (mj_wm y_Y m_Main_run).all mj_gw = true := rfl
set_option maxRecDepth 100000 in
theorem vp_Machine_start : mj_wm y_Y m_Machine_start = [(12, 200), (9, 156), (9, 166), (9, 169), (9, 158), (9, 170), (9, 160), (9, 162), (9, 125), (12, 201), (9, 5), (12, 202), (12, 203), (12, 206), (9, 2), (9, 234), (9, 235), (12, 207), (9, 4), (12, 209), (3, 2), (12, 211), (9, 4), (12, 213), (3, 3), (12, 205)].filterMap (fun q => (y_ch q.1)[q.2]?) := rfl
set_option maxRecDepth 100000 in
theorem vp_Machine_start_g : (mj_wm y_Y m_Machine_start).all mj_gw = true := rfl
set_option maxRecDepth 100000 in
theorem vp_Heap_empty : mj_wm y_Y m_Heap_empty = [(12, 204), (9, 65), (9, 67), (9, 70)].filterMap (fun q => (y_ch q.1)[q.2]?) := rfl
set_option maxRecDepth 100000 in
theorem vp_Heap_empty_g : (mj_wm y_Y m_Heap_empty).all mj_gw = true := rfl
set_option maxRecDepth 100000 in
theorem vp_Machine_standAt : mj_wm y_Y m_Machine_standAt = [(12, 210), (9, 168), (9, 175), (9, 174), (9, 172), (9, 171), (9, 95), (9, 97), (9, 99)].filterMap (fun q => (y_ch q.1)[q.2]?) := rfl
set_option maxRecDepth 100000 in
theorem vp_Machine_standAt_g : (mj_wm y_Y m_Machine_standAt).all mj_gw = true := rfl
set_option maxRecDepth 100000 in
theorem vp_Machine_enter : mj_wm y_Y m_Machine_enter = [(12, 214), (9, 168), (9, 169), (9, 95), (9, 97), (9, 99), (9, 91), (9, 93), (12, 219), (9, 4), (12, 221), (3, 4), (12, 215), (9, 7), (12, 216), (12, 217)].filterMap (fun q => (y_ch q.1)[q.2]?) := rfl
set_option maxRecDepth 100000 in
theorem vp_Machine_enter_g : (mj_wm y_Y m_Machine_enter).all mj_gw = true := rfl
set_option maxRecDepth 100000 in
theorem vp_Program_termOf : mj_wm y_Y m_Program_termOf = [(12, 218), (9, 133), (9, 134), (12, 180), (9, 2), (10, 164), (10, 165)].filterMap (fun q => (y_ch q.1)[q.2]?) := rfl
set_option maxRecDepth 100000 in
theorem vp_Program_termOf_g : (mj_wm y_Y m_Program_termOf).all mj_gw = true := rfl
set_option maxRecDepth 100000 in
theorem vp_Machine_turnTo : mj_wm y_Y m_Machine_turnTo = [(12, 222), (9, 175)].filterMap (fun q => (y_ch q.1)[q.2]?) := rfl
set_option maxRecDepth 100000 in
theorem vp_Machine_turnTo_g : (mj_wm y_Y m_Machine_turnTo).all mj_gw = true := rfl
