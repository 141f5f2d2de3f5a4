/-! places of words -/
set_option maxRecDepth 100000 in
theorem vp_Machine_go : mj_wm y_Y m_Machine_go = [(12, 226), (9, 175), (12, 228), (9, 4), (12, 230), (3, 5), (13, 135), (9, 4), (13, 137), (4, 5), (13, 203), (9, 4), (13, 205), (4, 14), (13, 44), (9, 4), (13, 46), (3, 11), (12, 227)].filterMap (fun q => (y_ch q.1)[q.2]?) := rfl
set_option maxRecDepth 100000 in
theorem vp_Machine_go_g : (mj_wm y_Y m_Machine_go).all mj_gw = true := rfl
set_option maxRecDepth 100000 in
theorem vp_Machine_doTerm : mj_wm y_Y m_Machine_doTerm = [(12, 231), (9, 168), (9, 169), (9, 91), (13, 48), (9, 4), (13, 50), (3, 12), (13, 44), (9, 4), (13, 46), (3, 11), (12, 232), (9, 7), (12, 190), (12, 191), (12, 233), (9, 7), (12, 234), (12, 235), (12, 237), (9, 5), (12, 238), (13, 1), (9, 4), (13, 3), (3, 6), (13, 5), (9, 4), (13, 7), (3, 7), (13, 90), (9, 4), (13, 92), (3, 15), (13, 94), (9, 7), (13, 95), (13, 96), (13, 98), (9, 4), (13, 100), (4, 0), (13, 115), (9, 4), (13, 117), (4, 1), (13, 123), (9, 4), (13, 125), (4, 3)].filterMap (fun q => (y_ch q.1)[q.2]?) := rfl
set_option maxRecDepth 100000 in
theorem vp_Machine_doTerm_g : (mj_wm y_Y m_Machine_doTerm).all mj_gw = true := rfl
set_option maxRecDepth 100000 in
theorem vp_Program_fourAt : mj_wm y_Y m_Program_fourAt = [(12, 236), (9, 131), (12, 180), (9, 2), (10, 164), (10, 165)].filterMap (fun q => (y_ch q.1)[q.2]?) := rfl
set_option maxRecDepth 100000 in
theorem vp_Program_fourAt_g : (mj_wm y_Y m_Program_fourAt).all mj_gw = true := rfl
set_option maxRecDepth 100000 in
theorem vp_Heap_value : mj_wm y_Y m_Heap_value = [(12, 239), (13, 0)].filterMap (fun q => (y_ch q.1)[q.2]?) := rfl
set_option maxRecDepth 100000 in
theorem vp_Heap_value_g : (mj_wm y_Y m_Heap_value).all mj_gw = true := rfl
set_option maxRecDepth 100000 in
theorem vp_Machine_give : mj_wm y_Y m_Machine_give = [(13, 4), (9, 176), (9, 175)].filterMap (fun q => (y_ch q.1)[q.2]?) := rfl
set_option maxRecDepth 100000 in
theorem vp_Machine_give_g : (mj_wm y_Y m_Machine_give).all mj_gw = true := rfl
set_option maxRecDepth 100000 in
theorem vp_Machine_whatIsAt : mj_wm y_Y m_Machine_whatIsAt = [(13, 8), (9, 156), (9, 166), (9, 169), (12, 206), (9, 2), (9, 234), (9, 235), (12, 232), (9, 7), (12, 190), (12, 191), (12, 237), (9, 5), (12, 238), (13, 9), (9, 4), (13, 11), (3, 8), (13, 21), (9, 7), (13, 22), (13, 23), (13, 25), (9, 7), (13, 26), (13, 27), (13, 29), (9, 2), (10, 164), (10, 165), (13, 30), (9, 5), (13, 31), (13, 32), (13, 40), (9, 4), (13, 42), (3, 10)].filterMap (fun q => (y_ch q.1)[q.2]?) := rfl
set_option maxRecDepth 100000 in
theorem vp_Machine_whatIsAt_g : (mj_wm y_Y m_Machine_whatIsAt).all mj_gw = true := rfl
set_option maxRecDepth 100000 in
theorem vp_Machine_boundAt : mj_wm y_Y m_Machine_boundAt = [(13, 12), (9, 156), (9, 164), (9, 168), (9, 95), (9, 93), (13, 17), (9, 5), (13, 18), (13, 19), (13, 13), (9, 2), (13, 14), (13, 15)].filterMap (fun q => (y_ch q.1)[q.2]?) := rfl
set_option maxRecDepth 100000 in
theorem vp_Machine_boundAt_g : (mj_wm y_Y m_Machine_boundAt).all mj_gw = true := rfl
set_option maxRecDepth 100000 in
theorem vp_Row_longAt : mj_wm y_Y m_Row_longAt = [(13, 16), (9, 48)].filterMap (fun q => (y_ch q.1)[q.2]?) := rfl
set_option maxRecDepth 100000 in
theorem vp_Row_longAt_g : (mj_wm y_Y m_Row_longAt).all mj_gw = true := rfl
set_option maxRecDepth 100000 in
theorem vp_Heap_field : mj_wm y_Y m_Heap_field = [(13, 20), (9, 69)].filterMap (fun q => (y_ch q.1)[q.2]?) := rfl
set_option maxRecDepth 100000 in
theorem vp_Heap_field_g : (mj_wm y_Y m_Heap_field).all mj_gw = true := rfl
set_option maxRecDepth 100000 in
theorem vp_Program_definitionUnit : mj_wm y_Y m_Program_definitionUnit = [(13, 24), (9, 136), (12, 180), (9, 2), (10, 164), (10, 165)].filterMap (fun q => (y_ch q.1)[q.2]?) := rfl
set_option maxRecDepth 100000 in
theorem vp_Program_definitionUnit_g : (mj_wm y_Y m_Program_definitionUnit).all mj_gw = true := rfl
set_option maxRecDepth 100000 in
theorem vp_Program_parametersOf : mj_wm y_Y m_Program_parametersOf = [(13, 28), (9, 135), (12, 180), (9, 2), (10, 164), (10, 165)].filterMap (fun q => (y_ch q.1)[q.2]?) := rfl
set_option maxRecDepth 100000 in
theorem vp_Program_parametersOf_g : (mj_wm y_Y m_Program_parametersOf).all mj_gw = true := rfl
set_option maxRecDepth 100000 in
theorem vp_Heap_make : mj_wm y_Y m_Heap_make = [(13, 33), (9, 69), (9, 65), (9, 70), (13, 34), (9, 46), (9, 3), (9, 47), (13, 35), (9, 9), (9, 238), (13, 36), (9, 5), (13, 38), (3, 9)].filterMap (fun q => (y_ch q.1)[q.2]?) := rfl
set_option maxRecDepth 100000 in
theorem vp_Heap_make_g : (mj_wm y_Y m_Heap_make).all mj_gw = true := rfl
set_option maxRecDepth 100000 in
theorem vp_Heap_put : mj_wm y_Y m_Heap_put = [(13, 39), (9, 69)].filterMap (fun q => (y_ch q.1)[q.2]?) := rfl
set_option maxRecDepth 100000 in
theorem vp_Heap_put_g : (mj_wm y_Y m_Heap_put).all mj_gw = true := rfl
set_option maxRecDepth 100000 in
theorem vp_Machine_objectValue : mj_wm y_Y m_Machine_objectValue = [(13, 43), (13, 44), (9, 4), (13, 46), (3, 11), (12, 237), (9, 5), (12, 238)].filterMap (fun q => (y_ch q.1)[q.2]?) := rfl
set_option maxRecDepth 100000 in
theorem vp_Machine_objectValue_g : (mj_wm y_Y m_Machine_objectValue).all mj_gw = true := rfl
set_option maxRecDepth 100000 in
theorem vp_Machine_fail : mj_wm y_Y m_Machine_fail = [(13, 47), (9, 175), (9, 174)].filterMap (fun q => (y_ch q.1)[q.2]?) := rfl
set_option maxRecDepth 100000 in
theorem vp_Machine_fail_g : (mj_wm y_Y m_Machine_fail).all mj_gw = true := rfl
set_option maxRecDepth 100000 in
theorem vp_Machine_giveValueOf : mj_wm y_Y m_Machine_giveValueOf = [(13, 51), (9, 156), (12, 211), (9, 4), (12, 213), (3, 3), (13, 66), (9, 5), (13, 60), (13, 44), (9, 4), (13, 46), (3, 11), (13, 1), (9, 4), (13, 3), (3, 6), (13, 72), (9, 4), (13, 74), (3, 14), (13, 52), (9, 5), (13, 53), (13, 54), (13, 67), (9, 5), (13, 68), (13, 69), (13, 81), (9, 5), (13, 82), (13, 83), (13, 86), (9, 5), (13, 87), (13, 88)].filterMap (fun q => (y_ch q.1)[q.2]?) := rfl
set_option maxRecDepth 100000 in
theorem vp_Machine_giveValueOf_g : (mj_wm y_Y m_Machine_giveValueOf).all mj_gw = true := rfl
set_option maxRecDepth 100000 in
theorem vp_Heap_objectKind : mj_wm y_Y m_Heap_objectKind = [(13, 55), (13, 62), (9, 5), (13, 64), (3, 13), (13, 56), (9, 5), (13, 57), (13, 59), (9, 5), (13, 60)].filterMap (fun q => (y_ch q.1)[q.2]?) := rfl
set_option maxRecDepth 100000 in
theorem vp_Heap_objectKind_g : (mj_wm y_Y m_Heap_objectKind).all mj_gw = true := rfl
set_option maxRecDepth 100000 in
theorem vp_Heap_kindOf : mj_wm y_Y m_Heap_kindOf = [(13, 58)].filterMap (fun q => (y_ch q.1)[q.2]?) := rfl
set_option maxRecDepth 100000 in
theorem vp_Heap_kindOf_g : (mj_wm y_Y m_Heap_kindOf).all mj_gw = true := rfl
set_option maxRecDepth 100000 in
theorem vp_Heap_numberOf : mj_wm y_Y m_Heap_numberOf = [(13, 61)].filterMap (fun q => (y_ch q.1)[q.2]?) := rfl
set_option maxRecDepth 100000 in
theorem vp_Heap_numberOf_g : (mj_wm y_Y m_Heap_numberOf).all mj_gw = true := rfl
set_option maxRecDepth 100000 in
theorem vp_Heap_get : mj_wm y_Y m_Heap_get = [(13, 65), (9, 69)].filterMap (fun q => (y_ch q.1)[q.2]?) := rfl
set_option maxRecDepth 100000 in
theorem vp_Heap_get_g : (mj_wm y_Y m_Heap_get).all mj_gw = true := rfl
set_option maxRecDepth 100000 in
theorem vp_Heap_settled : mj_wm y_Y m_Heap_settled = [(13, 70), (13, 62), (9, 5), (13, 64), (3, 13), (13, 59), (9, 5), (13, 60), (13, 71), (9, 5), (13, 53), (13, 54)].filterMap (fun q => (y_ch q.1)[q.2]?) := rfl
set_option maxRecDepth 100000 in
theorem vp_Heap_settled_g : (mj_wm y_Y m_Heap_settled).all mj_gw = true := rfl
set_option maxRecDepth 100000 in
theorem vp_Machine_deepen : mj_wm y_Y m_Machine_deepen = [(13, 75), (9, 167), (9, 168), (9, 162), (9, 172), (9, 171), (9, 97), (9, 99), (9, 89), (9, 100), (13, 44), (9, 4), (13, 46), (3, 11), (13, 76), (9, 6), (13, 77), (13, 78), (13, 80), (9, 46), (9, 3), (9, 47)].filterMap (fun q => (y_ch q.1)[q.2]?) := rfl
set_option maxRecDepth 100000 in
theorem vp_Machine_deepen_g : (mj_wm y_Y m_Machine_deepen).all mj_gw = true := rfl
set_option maxRecDepth 100000 in
theorem vp_Frame_copy : mj_wm y_Y m_Frame_copy = [(13, 79), (9, 90), (9, 92), (9, 94), (9, 96), (9, 98)].filterMap (fun q => (y_ch q.1)[q.2]?) := rfl
set_option maxRecDepth 100000 in
theorem vp_Frame_copy_g : (mj_wm y_Y m_Frame_copy).all mj_gw = true := rfl
set_option maxRecDepth 100000 in
theorem vp_Heap_markUnderWay : mj_wm y_Y m_Heap_markUnderWay = [(13, 84), (13, 36), (9, 5), (13, 38), (3, 9), (13, 85)].filterMap (fun q => (y_ch q.1)[q.2]?) := rfl
set_option maxRecDepth 100000 in
theorem vp_Heap_markUnderWay_g : (mj_wm y_Y m_Heap_markUnderWay).all mj_gw = true := rfl
set_option maxRecDepth 100000 in
theorem vp_Heap_whatOf : mj_wm y_Y m_Heap_whatOf = [(13, 89), (13, 62), (9, 5), (13, 64), (3, 13)].filterMap (fun q => (y_ch q.1)[q.2]?) := rfl
set_option maxRecDepth 100000 in
theorem vp_Heap_whatOf_g : (mj_wm y_Y m_Heap_whatOf).all mj_gw = true := rfl
set_option maxRecDepth 100000 in
theorem vp_Machine_want : mj_wm y_Y m_Machine_want = [(13, 93), (9, 168), (9, 91), (13, 72), (9, 4), (13, 74), (3, 14), (12, 219), (9, 4), (12, 221), (3, 4)].filterMap (fun q => (y_ch q.1)[q.2]?) := rfl
set_option maxRecDepth 100000 in
theorem vp_Machine_want_g : (mj_wm y_Y m_Machine_want).all mj_gw = true := rfl
set_option maxRecDepth 100000 in
theorem vp_Program_twoAt : mj_wm y_Y m_Program_twoAt = [(13, 97), (9, 131), (12, 180), (9, 2), (10, 164), (10, 165)].filterMap (fun q => (y_ch q.1)[q.2]?) := rfl
set_option maxRecDepth 100000 in
theorem vp_Program_twoAt_g : (mj_wm y_Y m_Program_twoAt).all mj_gw = true := rfl
set_option maxRecDepth 100000 in
theorem vp_Machine_makeUnit : mj_wm y_Y m_Machine_makeUnit = [(13, 101), (9, 156), (9, 164), (9, 168), (9, 169), (9, 97), (12, 206), (9, 2), (9, 234), (9, 235), (12, 232), (9, 7), (12, 190), (12, 191), (13, 9), (9, 4), (13, 11), (3, 8), (13, 30), (9, 5), (13, 31), (13, 32), (13, 40), (9, 4), (13, 42), (3, 10), (13, 102), (9, 7), (13, 103), (13, 104), (13, 106), (9, 7), (13, 107), (13, 108), (13, 110), (9, 7), (12, 186), (12, 187), (13, 111), (9, 5), (13, 112), (13, 113)].filterMap (fun q => (y_ch q.1)[q.2]?) := rfl
set_option maxRecDepth 100000 in
theorem vp_Machine_makeUnit_g : (mj_wm y_Y m_Machine_makeUnit).all mj_gw = true := rfl
set_option maxRecDepth 100000 in
theorem vp_Program_fieldsOf : mj_wm y_Y m_Program_fieldsOf = [(13, 105), (9, 134), (12, 180), (9, 2), (10, 164), (10, 165)].filterMap (fun q => (y_ch q.1)[q.2]?) := rfl
set_option maxRecDepth 100000 in
theorem vp_Program_fieldsOf_g : (mj_wm y_Y m_Program_fieldsOf).all mj_gw = true := rfl
set_option maxRecDepth 100000 in
theorem vp_Program_fieldPlaces : mj_wm y_Y m_Program_fieldPlaces = [(13, 109), (9, 133), (12, 180), (9, 2), (10, 164), (10, 165)].filterMap (fun q => (y_ch q.1)[q.2]?) := rfl
set_option maxRecDepth 100000 in
theorem vp_Program_fieldPlaces_g : (mj_wm y_Y m_Program_fieldPlaces).all mj_gw = true := rfl
set_option maxRecDepth 100000 in
theorem vp_Heap_putField : mj_wm y_Y m_Heap_putField = [(13, 114), (13, 36), (9, 5), (13, 38), (3, 9)].filterMap (fun q => (y_ch q.1)[q.2]?) := rfl
set_option maxRecDepth 100000 in
theorem vp_Heap_putField_g : (mj_wm y_Y m_Heap_putField).all mj_gw = true := rfl
set_option maxRecDepth 100000 in
theorem vp_Machine_doLet : mj_wm y_Y m_Machine_doLet = [(13, 118), (9, 164), (9, 165), (9, 168), (9, 97), (9, 91), (12, 206), (9, 2), (9, 234), (9, 235), (13, 13), (9, 2), (13, 14), (13, 15), (13, 119), (9, 4), (13, 121), (4, 2)].filterMap (fun q => (y_ch q.1)[q.2]?) := rfl
set_option maxRecDepth 100000 in
theorem vp_Machine_doLet_g : (mj_wm y_Y m_Machine_doLet).all mj_gw = true := rfl
set_option maxRecDepth 100000 in
theorem vp_Machine_makeArguments : mj_wm y_Y m_Machine_makeArguments = [(13, 122), (9, 165), (9, 169), (9, 175), (9, 173), (12, 206), (9, 2), (9, 234), (9, 235), (12, 232), (9, 7), (12, 190), (12, 191), (12, 233), (9, 7), (12, 234), (12, 235), (12, 237), (9, 5), (12, 238), (13, 5), (9, 4), (13, 7), (3, 7), (13, 94), (9, 7), (13, 95), (13, 96), (13, 98), (9, 4), (13, 100), (4, 0)].filterMap (fun q => (y_ch q.1)[q.2]?) := rfl
set_option maxRecDepth 100000 in
theorem vp_Machine_makeArguments_g : (mj_wm y_Y m_Machine_makeArguments).all mj_gw = true := rfl
set_option maxRecDepth 100000 in
theorem vp_Machine_doConstructor : mj_wm y_Y m_Machine_doConstructor = [(13, 126), (9, 169), (9, 175), (12, 232), (9, 7), (12, 190), (12, 191), (12, 237), (9, 5), (12, 238), (13, 1), (9, 4), (13, 3), (3, 6), (13, 94), (9, 7), (13, 95), (13, 96), (13, 119), (9, 4), (13, 121), (4, 2), (13, 127), (9, 4), (13, 129), (4, 4)].filterMap (fun q => (y_ch q.1)[q.2]?) := rfl
set_option maxRecDepth 100000 in
theorem vp_Machine_doConstructor_g : (mj_wm y_Y m_Machine_doConstructor).all mj_gw = true := rfl
set_option maxRecDepth 100000 in
theorem vp_Machine_makeWithArguments : mj_wm y_Y m_Machine_makeWithArguments = [(13, 130), (9, 156), (9, 165), (9, 173), (13, 17), (9, 5), (13, 18), (13, 19), (13, 30), (9, 5), (13, 31), (13, 32), (13, 40), (9, 4), (13, 42), (3, 10), (13, 13), (9, 2), (13, 14), (13, 15), (13, 111), (9, 5), (13, 112), (13, 113), (13, 131), (9, 5), (13, 132), (13, 133)].filterMap (fun q => (y_ch q.1)[q.2]?) := rfl
set_option maxRecDepth 100000 in
theorem vp_Machine_makeWithArguments_g : (mj_wm y_Y m_Machine_makeWithArguments).all mj_gw = true := rfl
set_option maxRecDepth 100000 in
theorem vp_Heap_fieldsOf : mj_wm y_Y m_Heap_fieldsOf = [(13, 134), (13, 62), (9, 5), (13, 64), (3, 13)].filterMap (fun q => (y_ch q.1)[q.2]?) := rfl
set_option maxRecDepth 100000 in
theorem vp_Heap_fieldsOf_g : (mj_wm y_Y m_Heap_fieldsOf).all mj_gw = true := rfl
set_option maxRecDepth 100000 in
theorem vp_Machine_useValue : mj_wm y_Y m_Machine_useValue = [(13, 138), (9, 156), (9, 167), (9, 168), (9, 169), (9, 176), (9, 175), (9, 171), (9, 91), (9, 89), (9, 100), (12, 232), (9, 7), (12, 190), (12, 191), (13, 76), (9, 6), (13, 77), (13, 78), (13, 139), (9, 5), (13, 140), (13, 141), (13, 144), (9, 4), (13, 146), (4, 6), (13, 164), (9, 4), (13, 166), (4, 9), (13, 168), (9, 4), (13, 170), (4, 10), (13, 191), (9, 4), (13, 193), (4, 12), (13, 195), (9, 4), (13, 197), (4, 13)].filterMap (fun q => (y_ch q.1)[q.2]?) := rfl
set_option maxRecDepth 100000 in
theorem vp_Machine_useValue_g : (mj_wm y_Y m_Machine_useValue).all mj_gw = true := rfl
set_option maxRecDepth 100000 in
theorem vp_Heap_setTo : mj_wm y_Y m_Heap_setTo = [(13, 142), (9, 67), (13, 36), (9, 5), (13, 38), (3, 9), (13, 143)].filterMap (fun q => (y_ch q.1)[q.2]?) := rfl
set_option maxRecDepth 100000 in
theorem vp_Heap_setTo_g : (mj_wm y_Y m_Heap_setTo).all mj_gw = true := rfl
set_option maxRecDepth 100000 in
theorem vp_Machine_callValue : mj_wm y_Y m_Machine_callValue = [(13, 147), (9, 168), (9, 169), (9, 91), (12, 232), (9, 7), (12, 190), (12, 191), (12, 219), (9, 4), (12, 221), (3, 4), (13, 119), (9, 4), (13, 121), (4, 2), (13, 148), (9, 4), (13, 150), (4, 7), (13, 160), (9, 7), (13, 161), (13, 162)].filterMap (fun q => (y_ch q.1)[q.2]?) := rfl
set_option maxRecDepth 100000 in
theorem vp_Machine_callValue_g : (mj_wm y_Y m_Machine_callValue).all mj_gw = true := rfl
set_option maxRecDepth 100000 in
theorem vp_Machine_isCallable : mj_wm y_Y m_Machine_isCallable = [(13, 151), (9, 156), (9, 176), (13, 44), (9, 4), (13, 46), (3, 11), (13, 156), (9, 5), (13, 157), (13, 158), (13, 152), (9, 4), (13, 154), (4, 8)].filterMap (fun q => (y_ch q.1)[q.2]?) := rfl
set_option maxRecDepth 100000 in
theorem vp_Machine_isCallable_g : (mj_wm y_Y m_Machine_isCallable).all mj_gw = true := rfl
set_option maxRecDepth 100000 in
theorem vp_Machine_takeStep : mj_wm y_Y m_Machine_takeStep = [(13, 155), (9, 170), (9, 160), (13, 44), (9, 4), (13, 46), (3, 11)].filterMap (fun q => (y_ch q.1)[q.2]?) := rfl
set_option maxRecDepth 100000 in
theorem vp_Machine_takeStep_g : (mj_wm y_Y m_Machine_takeStep).all mj_gw = true := rfl
set_option maxRecDepth 100000 in
theorem vp_Heap_isFunction : mj_wm y_Y m_Heap_isFunction = [(13, 159), (13, 56), (9, 5), (13, 57), (13, 71), (9, 5), (13, 53), (13, 54)].filterMap (fun q => (y_ch q.1)[q.2]?) := rfl
set_option maxRecDepth 100000 in
theorem vp_Heap_isFunction_g : (mj_wm y_Y m_Heap_isFunction).all mj_gw = true := rfl
set_option maxRecDepth 100000 in
theorem vp_Program_behindTerm : mj_wm y_Y m_Program_behindTerm = [(13, 163), (9, 132), (12, 180), (9, 2), (10, 164), (10, 165)].filterMap (fun q => (y_ch q.1)[q.2]?) := rfl
set_option maxRecDepth 100000 in
theorem vp_Program_behindTerm_g : (mj_wm y_Y m_Program_behindTerm).all mj_gw = true := rfl
set_option maxRecDepth 100000 in
theorem vp_Machine_callWithRest : mj_wm y_Y m_Machine_callWithRest = [(13, 167), (9, 164), (9, 165), (9, 168), (9, 99), (9, 173), (12, 206), (9, 2), (9, 234), (9, 235), (12, 219), (9, 4), (12, 221), (3, 4), (13, 13), (9, 2), (13, 14), (13, 15), (13, 148), (9, 4), (13, 150), (4, 7)].filterMap (fun q => (y_ch q.1)[q.2]?) := rfl
set_option maxRecDepth 100000 in
theorem vp_Machine_callWithRest_g : (mj_wm y_Y m_Machine_callWithRest).all mj_gw = true := rfl
set_option maxRecDepth 100000 in
theorem vp_Machine_choose : mj_wm y_Y m_Machine_choose = [(13, 171), (9, 156), (9, 168), (9, 169), (9, 176), (9, 91), (13, 44), (9, 4), (13, 46), (3, 11), (13, 176), (9, 5), (13, 177), (13, 178), (13, 181), (9, 5), (13, 182), (13, 183), (12, 232), (9, 7), (12, 190), (12, 191), (13, 94), (9, 7), (13, 95), (13, 96), (13, 160), (9, 7), (13, 161), (13, 162), (13, 152), (9, 4), (13, 154), (4, 8), (13, 172), (9, 5), (13, 173), (13, 174), (13, 187), (9, 4), (13, 189), (4, 11), (13, 186)].filterMap (fun q => (y_ch q.1)[q.2]?) := rfl
set_option maxRecDepth 100000 in
theorem vp_Machine_choose_g : (mj_wm y_Y m_Machine_choose).all mj_gw = true := rfl
set_option maxRecDepth 100000 in
theorem vp_Heap_isConstructor : mj_wm y_Y m_Heap_isConstructor = [(13, 175), (13, 56), (9, 5), (13, 57), (13, 71), (9, 5), (13, 53), (13, 54)].filterMap (fun q => (y_ch q.1)[q.2]?) := rfl
set_option maxRecDepth 100000 in
theorem vp_Heap_isConstructor_g : (mj_wm y_Y m_Heap_isConstructor).all mj_gw = true := rfl
set_option maxRecDepth 100000 in
theorem vp_Heap_tagOf : mj_wm y_Y m_Heap_tagOf = [(13, 179), (13, 56), (9, 5), (13, 57), (13, 59), (9, 5), (13, 60), (13, 180), (9, 5), (13, 87), (13, 88)].filterMap (fun q => (y_ch q.1)[q.2]?) := rfl
set_option maxRecDepth 100000 in
theorem vp_Heap_tagOf_g : (mj_wm y_Y m_Heap_tagOf).all mj_gw = true := rfl
set_option maxRecDepth 100000 in
theorem vp_Heap_partsOf : mj_wm y_Y m_Heap_partsOf = [(13, 184), (13, 59), (9, 5), (13, 60), (13, 71), (9, 5), (13, 53), (13, 54), (13, 185), (9, 5), (13, 132), (13, 133)].filterMap (fun q => (y_ch q.1)[q.2]?) := rfl
set_option maxRecDepth 100000 in
theorem vp_Heap_partsOf_g : (mj_wm y_Y m_Heap_partsOf).all mj_gw = true := rfl
set_option maxRecDepth 100000 in
theorem vp_Machine_doAlternative : mj_wm y_Y m_Machine_doAlternative = [(13, 190), (9, 156), (9, 164), (9, 168), (9, 176), (9, 97), (9, 91), (12, 206), (9, 2), (9, 234), (9, 235), (13, 66), (9, 5), (13, 60), (13, 17), (9, 5), (13, 18), (13, 19), (12, 219), (9, 4), (12, 221), (3, 4)].filterMap (fun q => (y_ch q.1)[q.2]?) := rfl
set_option maxRecDepth 100000 in
theorem vp_Machine_doAlternative_g : (mj_wm y_Y m_Machine_doAlternative).all mj_gw = true := rfl
set_option maxRecDepth 100000 in
theorem vp_Machine_doSecond : mj_wm y_Y m_Machine_doSecond = [(13, 194), (9, 168), (9, 169), (9, 176), (9, 91), (12, 232), (9, 7), (12, 190), (12, 191), (13, 90), (9, 4), (13, 92), (3, 15), (12, 219), (9, 4), (12, 221), (3, 4), (13, 160), (9, 7), (13, 161), (13, 162), (13, 152), (9, 4), (13, 154), (4, 8)].filterMap (fun q => (y_ch q.1)[q.2]?) := rfl
set_option maxRecDepth 100000 in
theorem vp_Machine_doSecond_g : (mj_wm y_Y m_Machine_doSecond).all mj_gw = true := rfl
set_option maxRecDepth 100000 in
theorem vp_Machine_operate : mj_wm y_Y m_Machine_operate = [(13, 198), (13, 66), (9, 5), (13, 60), (13, 44), (9, 4), (13, 46), (3, 11), (13, 199), (9, 5), (13, 57), (12, 237), (9, 5), (12, 238), (13, 1), (9, 4), (13, 3), (3, 6), (13, 152), (9, 4), (13, 154), (4, 8), (13, 200), (9, 4), (13, 201)].filterMap (fun q => (y_ch q.1)[q.2]?) := rfl
set_option maxRecDepth 100000 in
theorem vp_Machine_operate_g : (mj_wm y_Y m_Machine_operate).all mj_gw = true := rfl
set_option maxRecDepth 100000 in
theorem vp_Machine_reckon : mj_wm y_Y m_Machine_reckon = [(13, 202)].filterMap (fun q => (y_ch q.1)[q.2]?) := rfl
set_option maxRecDepth 100000 in
theorem vp_Machine_reckon_g : (mj_wm y_Y m_Machine_reckon).all mj_gw = true := rfl
set_option maxRecDepth 100000 in
theorem vp_Machine_apply : mj_wm y_Y m_Machine_apply = [(13, 206), (9, 156), (9, 164), (9, 165), (9, 168), (9, 176), (9, 99), (9, 173), (12, 206), (9, 2), (9, 234), (9, 235), (12, 211), (9, 4), (12, 213), (3, 3), (13, 66), (9, 5), (13, 60), (13, 17), (9, 5), (13, 18), (13, 19), (13, 207), (9, 4), (13, 209), (4, 15), (13, 1), (9, 4), (13, 3), (3, 6), (13, 13), (9, 2), (13, 14), (13, 15), (13, 127), (9, 4), (13, 129), (4, 4), (13, 211), (9, 5), (13, 212), (13, 213), (13, 215), (9, 5), (13, 216), (13, 217), (13, 219), (9, 5), (13, 220), (13, 221), (13, 223), (9, 4), (13, 225), (5, 0)].filterMap (fun q => (y_ch q.1)[q.2]?) := rfl
set_option maxRecDepth 100000 in
theorem vp_Machine_apply_g : (mj_wm y_Y m_Machine_apply).all mj_gw = true := rfl
set_option maxRecDepth 100000 in
theorem vp_Machine_takenBy : mj_wm y_Y m_Machine_takenBy = [(13, 210), (9, 156), (9, 169), (13, 25), (9, 7), (13, 26), (13, 27), (13, 211), (9, 5), (13, 212), (13, 213), (13, 215), (9, 5), (13, 216), (13, 217)].filterMap (fun q => (y_ch q.1)[q.2]?) := rfl
set_option maxRecDepth 100000 in
theorem vp_Machine_takenBy_g : (mj_wm y_Y m_Machine_takenBy).all mj_gw = true := rfl
set_option maxRecDepth 100000 in
theorem vp_Heap_unitOf : mj_wm y_Y m_Heap_unitOf = [(13, 214), (13, 56), (9, 5), (13, 57), (13, 59), (9, 5), (13, 60), (13, 180), (9, 5), (13, 87), (13, 88)].filterMap (fun q => (y_ch q.1)[q.2]?) := rfl
set_option maxRecDepth 100000 in
theorem vp_Heap_unitOf_g : (mj_wm y_Y m_Heap_unitOf).all mj_gw = true := rfl
set_option maxRecDepth 100000 in
theorem vp_Heap_gotBy : mj_wm y_Y m_Heap_gotBy = [(13, 218), (13, 59), (9, 5), (13, 60), (13, 71), (9, 5), (13, 53), (13, 54), (13, 185), (9, 5), (13, 132), (13, 133)].filterMap (fun q => (y_ch q.1)[q.2]?) := rfl
set_option maxRecDepth 100000 in
theorem vp_Heap_gotBy_g : (mj_wm y_Y m_Heap_gotBy).all mj_gw = true := rfl
set_option maxRecDepth 100000 in
theorem vp_Heap_selfOf : mj_wm y_Y m_Heap_selfOf = [(13, 222), (13, 62), (9, 5), (13, 64), (3, 13), (13, 59), (9, 5), (13, 60), (13, 71), (9, 5), (13, 53), (13, 54)].filterMap (fun q => (y_ch q.1)[q.2]?) := rfl
set_option maxRecDepth 100000 in
theorem vp_Heap_selfOf_g : (mj_wm y_Y m_Heap_selfOf).all mj_gw = true := rfl
set_option maxRecDepth 100000 in
theorem vp_Machine_keepRest : mj_wm y_Y m_Machine_keepRest = [(13, 226), (9, 164), (9, 165), (9, 168), (9, 97), (9, 99), (9, 173), (12, 206), (9, 2), (9, 234), (9, 235), (13, 72), (9, 4), (13, 74), (3, 14), (13, 13), (9, 2), (13, 14), (13, 15)].filterMap (fun q => (y_ch q.1)[q.2]?) := rfl
set_option maxRecDepth 100000 in
theorem vp_Machine_keepRest_g : (mj_wm y_Y m_Machine_keepRest).all mj_gw = true := rfl
set_option maxRecDepth 100000 in
theorem vp_Machine_outcome : mj_wm y_Y m_Machine_outcome = [(13, 230), (9, 156), (9, 176), (9, 174), (13, 199), (9, 5), (13, 57), (13, 156), (9, 5), (13, 157), (13, 158)].filterMap (fun q => (y_ch q.1)[q.2]?) := rfl
set_option maxRecDepth 100000 in
theorem vp_Machine_outcome_g : (mj_wm y_Y m_Machine_outcome).all mj_gw = true := rfl
set_option maxRecDepth 100000 in
theorem vp_Main_told : mj_wm y_Y m_Main_told = [(13, 234), (9, 213), (9, 159), (9, 161), (9, 157), (9, 66), (9, 68), (9, 163), (13, 235), (9, 4), (13, 236), (13, 237), (13, 239), (9, 4), (14, 0), (14, 1)].filterMap (fun q => (y_ch q.1)[q.2]?) := rfl
set_option maxRecDepth 100000 in
theorem vp_Main_told_g : (mj_wm y_Y m_Main_told).all mj_gw = true := rfl
set_option maxRecDepth 100000 in
theorem vp_Machine_resultNumber : mj_wm y_Y m_Machine_resultNumber = [(13, 238), (9, 156), (9, 176), (9, 174), (13, 66), (9, 5), (13, 60), (13, 199), (9, 5), (13, 57), (13, 156), (9, 5), (13, 157), (13, 158), (13, 207), (9, 4), (13, 209), (4, 15), (13, 176), (9, 5), (13, 177), (13, 178)].filterMap (fun q => (y_ch q.1)[q.2]?) := rfl
set_option maxRecDepth 100000 in
theorem vp_Machine_resultNumber_g : (mj_wm y_Y m_Machine_resultNumber).all mj_gw = true := rfl
set_option maxRecDepth 100000 in
theorem vp_Machine_resultParts : mj_wm y_Y m_Machine_resultParts = [(14, 2), (9, 156), (9, 176), (9, 174), (13, 181), (9, 5), (13, 182), (13, 183)].filterMap (fun q => (y_ch q.1)[q.2]?) := rfl
set_option maxRecDepth 100000 in
theorem vp_Machine_resultParts_g : (mj_wm y_Y m_Machine_resultParts).all mj_gw = true := rfl
set_option maxRecDepth 100000 in
theorem vp_Main_part : mj_wm y_Y m_Main_part = [(14, 6), (9, 213), (9, 159), (12, 223), (9, 4), (12, 224), (12, 225), (13, 227), (9, 4), (13, 228), (13, 229), (13, 239), (9, 4), (14, 0), (14, 1), (14, 7), (9, 4), (14, 8), (14, 9)].filterMap (fun q => (y_ch q.1)[q.2]?) := rfl
set_option maxRecDepth 100000 in
theorem vp_Main_part_g : (mj_wm y_Y m_Main_part).all mj_gw = true := rfl
set_option maxRecDepth 100000 in
theorem vp_Machine_startPart : mj_wm y_Y m_Machine_startPart = [(14, 10), (9, 156), (9, 176), (12, 207), (9, 4), (12, 209), (3, 2), (13, 66), (9, 5), (13, 60), (13, 17), (9, 5), (13, 18), (13, 19), (13, 48), (9, 4), (13, 50), (3, 12)].filterMap (fun q => (y_ch q.1)[q.2]?) := rfl
set_option maxRecDepth 100000 in
theorem vp_Machine_startPart_g : (mj_wm y_Y m_Machine_startPart).all mj_gw = true := rfl
set_option maxRecDepth 100000 in
theorem vp_Main_clear : mj_wm y_Y m_Main_clear = [(14, 14), (9, 213), (9, 214), (9, 215), (12, 164), (9, 4), (12, 165), (12, 166)].filterMap (fun q => (y_ch q.1)[q.2]?) := rfl
set_option maxRecDepth 100000 in
theorem vp_Main_clear_g : (mj_wm y_Y m_Main_clear).all mj_gw = true := rfl
set_option maxRecDepth 100000 in
theorem vp_Model_init : mj_wm y_Y m_Model_init = [(14, 19), (14, 25), (14, 27), (14, 29), (14, 33), (14, 34), (14, 35), (14, 36), (14, 37), (14, 38), (14, 39), (14, 40), (14, 41), (14, 44), (14, 45), (14, 46), (14, 48), (14, 49), (14, 50), (14, 51), (14, 57), (14, 58), (14, 59), (14, 60), (14, 62), (14, 72), (14, 73), (14, 74), (14, 75), (14, 76), (14, 77), (14, 78), (14, 80), (14, 81), (14, 82), (14, 83), (14, 84), (14, 85), (14, 87), (14, 88), (14, 89), (14, 90), (14, 91), (14, 92), (14, 93), (14, 94), (14, 95), (14, 103), (14, 104), (14, 20), (9, 33), (9, 34), (14, 21), (14, 22), (14, 23), (14, 24)].filterMap (fun q => (y_ch q.1)[q.2]?) := rfl
set_option maxRecDepth 100000 in
theorem vp_Model_init_g : (mj_wm y_Y m_Model_init).all mj_gw = true := rfl
set_option maxRecDepth 100000 in
theorem vp_Model_feed : mj_wm y_Y m_Model_feed = [(15, 38), (14, 26), (15, 39), (9, 8), (15, 41), (5, 1)].filterMap (fun q => (y_ch q.1)[q.2]?) := rfl
set_option maxRecDepth 100000 in
theorem vp_Model_feed_g : (mj_wm y_Y m_Model_feed).all mj_gw = true := rfl
set_option maxRecDepth 100000 in
theorem vp_Model_put : mj_wm y_Y m_Model_put = [(15, 42), (14, 25), (14, 26)].filterMap (fun q => (y_ch q.1)[q.2]?) := rfl
set_option maxRecDepth 100000 in
theorem vp_Model_put_g : (mj_wm y_Y m_Model_put).all mj_gw = true := rfl
set_option maxRecDepth 100000 in
theorem vp_Model_read : mj_wm y_Y m_Model_read = [(15, 46), (14, 25), (14, 27), (14, 29), (14, 26), (14, 28), (14, 47), (14, 30), (14, 31), (14, 63), (15, 47), (9, 8), (15, 49), (5, 2), (15, 116), (9, 8), (15, 118), (6, 0)].filterMap (fun q => (y_ch q.1)[q.2]?) := rfl
set_option maxRecDepth 100000 in
theorem vp_Model_read_g : (mj_wm y_Y m_Model_read).all mj_gw = true := rfl
set_option maxRecDepth 100000 in
theorem vp_Model_parsed : mj_wm y_Y m_Model_parsed = [(15, 50), (14, 57), (14, 58), (14, 59), (14, 54), (14, 53), (14, 56), (14, 32), (14, 42), (14, 43), (15, 51), (9, 8), (15, 53), (5, 3), (15, 68), (9, 8), (15, 70), (5, 5), (15, 72), (9, 8), (15, 74), (5, 6), (15, 87), (9, 8), (15, 89), (5, 9), (15, 99), (9, 8), (15, 101), (5, 12), (15, 103), (9, 8), (15, 105), (5, 13), (15, 107), (9, 8), (15, 109), (5, 14), (15, 112), (9, 8), (15, 114), (5, 15)].filterMap (fun q => (y_ch q.1)[q.2]?) := rfl
set_option maxRecDepth 100000 in
theorem vp_Model_parsed_g : (mj_wm y_Y m_Model_parsed).all mj_gw = true := rfl
set_option maxRecDepth 100000 in
theorem vp_Model_next : mj_wm y_Y m_Model_next = [(15, 54), (14, 28), (14, 54), (14, 53), (14, 52), (14, 55), (15, 55), (9, 8), (15, 57), (5, 4), (15, 59), (9, 8), (15, 60), (15, 62), (9, 8), (15, 63), (15, 65), (15, 66), (15, 67)].filterMap (fun q => (y_ch q.1)[q.2]?) := rfl
set_option maxRecDepth 100000 in
theorem vp_Model_next_g : (mj_wm y_Y m_Model_next).all mj_gw = true := rfl
set_option maxRecDepth 100000 in
theorem vp_Model_at : mj_wm y_Y m_Model_at = [(15, 58), (14, 27), (14, 28)].filterMap (fun q => (y_ch q.1)[q.2]?) := rfl
set_option maxRecDepth 100000 in
theorem vp_Model_at_g : (mj_wm y_Y m_Model_at).all mj_gw = true := rfl
set_option maxRecDepth 100000 in
theorem vp_Model_isLetter : mj_wm y_Y m_Model_isLetter = [(15, 61)].filterMap (fun q => (y_ch q.1)[q.2]?) := rfl
set_option maxRecDepth 100000 in
theorem vp_Model_isLetter_g : (mj_wm y_Y m_Model_isLetter).all mj_gw = true := rfl
set_option maxRecDepth 100000 in
theorem vp_Model_isDigit : mj_wm y_Y m_Model_isDigit = [(15, 64)].filterMap (fun q => (y_ch q.1)[q.2]?) := rfl
set_option maxRecDepth 100000 in
theorem vp_Model_isDigit_g : (mj_wm y_Y m_Model_isDigit).all mj_gw = true := rfl
set_option maxRecDepth 100000 in
theorem vp_Model_push : mj_wm y_Y m_Model_push = [(15, 71), (14, 57), (14, 58), (14, 59), (14, 56)].filterMap (fun q => (y_ch q.1)[q.2]?) := rfl
set_option maxRecDepth 100000 in
theorem vp_Model_push_g : (mj_wm y_Y m_Model_push).all mj_gw = true := rfl
set_option maxRecDepth 100000 in
theorem vp_Model_term : mj_wm y_Y m_Model_term = [(15, 75), (14, 33), (14, 35), (14, 52), (14, 55), (15, 51), (9, 8), (15, 53), (5, 3), (15, 68), (9, 8), (15, 70), (5, 5), (15, 87), (9, 8), (15, 89), (5, 9), (15, 79), (9, 8), (15, 81), (5, 7), (15, 83), (9, 8), (15, 85), (5, 8), (15, 76), (9, 8), (15, 77), (15, 95), (9, 8), (15, 97), (5, 11)].filterMap (fun q => (y_ch q.1)[q.2]?) := rfl
set_option maxRecDepth 100000 in
theorem vp_Model_term_g : (mj_wm y_Y m_Model_term).all mj_gw = true := rfl
set_option maxRecDepth 100000 in
theorem vp_Model_isAct : mj_wm y_Y m_Model_isAct = [(15, 78)].filterMap (fun q => (y_ch q.1)[q.2]?) := rfl
set_option maxRecDepth 100000 in
theorem vp_Model_isAct_g : (mj_wm y_Y m_Model_isAct).all mj_gw = true := rfl
set_option maxRecDepth 100000 in
theorem vp_Model_node : mj_wm y_Y m_Model_node = [(15, 82), (14, 33), (14, 34), (14, 35), (14, 36), (14, 37), (14, 38), (14, 53), (14, 32), (14, 42)].filterMap (fun q => (y_ch q.1)[q.2]?) := rfl
set_option maxRecDepth 100000 in
theorem vp_Model_node_g : (mj_wm y_Y m_Model_node).all mj_gw = true := rfl
set_option maxRecDepth 100000 in
theorem vp_Model_bind : mj_wm y_Y m_Model_bind = [(15, 86), (14, 37), (14, 38), (14, 41), (14, 52), (14, 55), (14, 42), (15, 51), (9, 8), (15, 53), (5, 3)].filterMap (fun q => (y_ch q.1)[q.2]?) := rfl
set_option maxRecDepth 100000 in
theorem vp_Model_bind_g : (mj_wm y_Y m_Model_bind).all mj_gw = true := rfl
set_option maxRecDepth 100000 in
theorem vp_Model_sign : mj_wm y_Y m_Model_sign = [(15, 90), (15, 51), (9, 8), (15, 53), (5, 3), (15, 91), (9, 8), (15, 93), (5, 10)].filterMap (fun q => (y_ch q.1)[q.2]?) := rfl
set_option maxRecDepth 100000 in
theorem vp_Model_sign_g : (mj_wm y_Y m_Model_sign).all mj_gw = true := rfl
set_option maxRecDepth 100000 in
theorem vp_Model_is : mj_wm y_Y m_Model_is = [(15, 94), (14, 52), (14, 55)].filterMap (fun q => (y_ch q.1)[q.2]?) := rfl
set_option maxRecDepth 100000 in
theorem vp_Model_is_g : (mj_wm y_Y m_Model_is).all mj_gw = true := rfl
set_option maxRecDepth 100000 in
theorem vp_Model_make : mj_wm y_Y m_Model_make = [(15, 98), (14, 35), (14, 52), (14, 55), (15, 51), (9, 8), (15, 53), (5, 3), (15, 68), (9, 8), (15, 70), (5, 5), (15, 91), (9, 8), (15, 93), (5, 10)].filterMap (fun q => (y_ch q.1)[q.2]?) := rfl
set_option maxRecDepth 100000 in
theorem vp_Model_make_g : (mj_wm y_Y m_Model_make).all mj_gw = true := rfl
set_option maxRecDepth 100000 in
theorem vp_Model_arguments : mj_wm y_Y m_Model_arguments = [(15, 102), (14, 35), (15, 51), (9, 8), (15, 53), (5, 3), (15, 68), (9, 8), (15, 70), (5, 5), (15, 91), (9, 8), (15, 93), (5, 10)].filterMap (fun q => (y_ch q.1)[q.2]?) := rfl
set_option maxRecDepth 100000 in
theorem vp_Model_arguments_g : (mj_wm y_Y m_Model_arguments).all mj_gw = true := rfl
set_option maxRecDepth 100000 in
theorem vp_Model_parts : mj_wm y_Y m_Model_parts = [(15, 106), (14, 35), (15, 51), (9, 8), (15, 53), (5, 3), (15, 68), (9, 8), (15, 70), (5, 5), (15, 91), (9, 8), (15, 93), (5, 10)].filterMap (fun q => (y_ch q.1)[q.2]?) := rfl
set_option maxRecDepth 100000 in
theorem vp_Model_parts_g : (mj_wm y_Y m_Model_parts).all mj_gw = true := rfl
set_option maxRecDepth 100000 in
theorem vp_Model_cases : mj_wm y_Y m_Model_cases = [(15, 110), (14, 33), (14, 35), (14, 36), (14, 52), (14, 55), (14, 32), (15, 51), (9, 8), (15, 53), (5, 3), (15, 68), (9, 8), (15, 70), (5, 5), (15, 87), (9, 8), (15, 89), (5, 9), (15, 91), (9, 8), (15, 93), (5, 10), (15, 79), (9, 8), (15, 81), (5, 7), (15, 83), (9, 8), (15, 85), (5, 8), (15, 111)].filterMap (fun q => (y_ch q.1)[q.2]?) := rfl
set_option maxRecDepth 100000 in
theorem vp_Model_cases_g : (mj_wm y_Y m_Model_cases).all mj_gw = true := rfl
set_option maxRecDepth 100000 in
theorem vp_Model_definition : mj_wm y_Y m_Model_definition = [(15, 115), (14, 35), (14, 44), (14, 52), (14, 55), (14, 43), (15, 51), (9, 8), (15, 53), (5, 3), (15, 68), (9, 8), (15, 70), (5, 5), (15, 87), (9, 8), (15, 89), (5, 9), (15, 79), (9, 8), (15, 81), (5, 7), (15, 83), (9, 8), (15, 85), (5, 8)].filterMap (fun q => (y_ch q.1)[q.2]?) := rfl
set_option maxRecDepth 100000 in
theorem vp_Model_definition_g : (mj_wm y_Y m_Model_definition).all mj_gw = true := rfl
