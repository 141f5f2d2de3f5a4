/-! the words of the tables, by their places in the claim's own -/
def y_big : List Cond := Cond.code x code maxLocals ret :: lw_tbl
set_option maxRecDepth 100000 in
theorem vp_Main_init : mj_pl y_big (mj_wm y_Y m_Main_init) [151, 332, 333, 334, 335, 152, 153, 154, 157, 122, 158, 175, 124, 176, 155, 173] = true := by decide +kernel
set_option maxRecDepth 100000 in
theorem vp_Row_init : mj_pl y_big (mj_wm y_Y m_Row_init) [159, 168, 160, 153, 154, 162, 163, 123, 164, 165, 166, 123, 167, 161] = true := by decide +kernel
set_option maxRecDepth 100000 in
theorem vp_Machine_init : mj_pl y_big (mj_wm y_Y m_Machine_init) [177, 276, 284, 285, 286, 287, 288, 289, 178, 153, 154, 181, 125, 182, 201, 122, 158, 205, 126, 206, 238, 127, 239, 179, 200, 202, 236] = true := by decide +kernel
set_option maxRecDepth 100000 in
theorem vp_Heap_init : mj_pl y_big (mj_wm y_Y m_Heap_init) [183, 189, 184, 153, 154] = true := by decide +kernel
set_option maxRecDepth 100000 in
theorem vp_Frame_init : mj_pl y_big (mj_wm y_Y m_Frame_init) [207, 208, 153, 154] = true := by decide +kernel
set_option maxRecDepth 100000 in
theorem vp_Program_init : mj_pl y_big (mj_wm y_Y m_Program_init) [240, 256, 244, 251, 252, 253, 254, 255, 241, 153, 154, 243, 122, 158, 242] = true := by decide +kernel
set_option maxRecDepth 100000 in
theorem vp_Main_feed : mj_pl y_big (mj_wm y_Y m_Main_feed) [348, 334, 349, 121, 351, 1] = true := by decide +kernel
set_option maxRecDepth 100000 in
theorem vp_Main_putOnTape : mj_pl y_big (mj_wm y_Y m_Main_putOnTape) [352, 332, 334, 353, 122, 354, 355] = true := by decide +kernel
set_option maxRecDepth 100000 in
theorem vp_Row_put : mj_pl y_big (mj_wm y_Y m_Row_put) [356, 168, 162, 163, 123, 164, 165, 166, 123, 167, 357, 129, 358, 161] = true := by decide +kernel
set_option maxRecDepth 100000 in
theorem vp_Main_read : mj_pl y_big (mj_wm y_Y m_Main_read) [374, 332, 333, 334, 335, 489, 486, 484, 248, 379, 132, 380, 422, 131, 423, 511, 131, 512, 513, 937, 131, 938, 939, 941, 127, 239, 944, 146, 945, 952, 146, 953, 954, 1004, 124, 1005, 1006, 375, 377, 936, 942] = true := by decide +kernel
set_option maxRecDepth 100000 in
theorem vp_Pieces_init : mj_pl y_big (mj_wm y_Y m_Pieces_init) [381, 385, 386, 387, 388, 389, 382, 153, 154, 384, 122, 158, 383] = true := by decide +kernel
set_option maxRecDepth 100000 in
theorem vp_Reader_init : mj_pl y_big (mj_wm y_Y m_Reader_init) [424, 490, 483, 485, 488, 491, 492, 493, 425, 153, 154, 428, 135, 429, 453, 122, 158, 456, 136, 457, 426, 452, 454] = true := by decide +kernel
set_option maxRecDepth 100000 in
theorem vp_Scope_init : mj_pl y_big (mj_wm y_Y m_Scope_init) [458, 464, 465, 466, 467, 459, 153, 154, 461, 122, 158, 460, 462] = true := by decide +kernel
set_option maxRecDepth 100000 in
theorem vp_Reader_readProgram : mj_pl y_big (mj_wm y_Y m_Reader_readProgram) [514, 490, 488, 515, 132, 516, 517, 642, 132, 643, 644, 647, 131, 649, 7, 774, 131, 776, 15, 656, 131, 658, 9, 918, 131, 920, 29] = true := by decide +kernel
set_option maxRecDepth 100000 in
theorem vp_Pieces_split : mj_pl y_big (mj_wm y_Y m_Pieces_split) [518, 385, 386, 390, 519, 132, 521, 2, 523, 122, 524, 525, 530, 132, 532, 3, 544, 132, 546, 5] = true := by decide +kernel
set_option maxRecDepth 100000 in
theorem vp_Pieces_skipBlanks : mj_pl y_big (mj_wm y_Y m_Pieces_skipBlanks) [522, 385, 386, 390, 523, 122, 524, 525, 527, 132, 528] = true := by decide +kernel
set_option maxRecDepth 100000 in
theorem vp_Row_at : mj_pl y_big (mj_wm y_Y m_Row_at) [526, 168] = true := by decide +kernel
set_option maxRecDepth 100000 in
theorem vp_Pieces_isBlank : mj_pl y_big (mj_wm y_Y m_Pieces_isBlank) [529] = true := by decide +kernel
set_option maxRecDepth 100000 in
theorem vp_Pieces_splitOne : mj_pl y_big (mj_wm y_Y m_Pieces_splitOne) [533, 390, 544, 132, 546, 5, 534, 132, 535, 537, 132, 539, 4, 549, 132, 550, 552, 132, 554, 6, 560, 137, 561, 562] = true := by decide +kernel
set_option maxRecDepth 100000 in
theorem vp_Pieces_isLetter : mj_pl y_big (mj_wm y_Y m_Pieces_isLetter) [536] = true := by decide +kernel
set_option maxRecDepth 100000 in
theorem vp_Pieces_splitWord : mj_pl y_big (mj_wm y_Y m_Pieces_splitWord) [540, 385, 386, 390, 523, 122, 524, 525, 544, 132, 546, 5, 534, 132, 535, 541, 132, 542] = true := by decide +kernel
set_option maxRecDepth 100000 in
theorem vp_Pieces_kindOfWord : mj_pl y_big (mj_wm y_Y m_Pieces_kindOfWord) [543] = true := by decide +kernel
set_option maxRecDepth 100000 in
theorem vp_Pieces_keep : mj_pl y_big (mj_wm y_Y m_Pieces_keep) [547, 387, 388, 389, 391, 548, 122, 354, 355] = true := by decide +kernel
set_option maxRecDepth 100000 in
theorem vp_Pieces_isDigit : mj_pl y_big (mj_wm y_Y m_Pieces_isDigit) [551] = true := by decide +kernel
set_option maxRecDepth 100000 in
theorem vp_Pieces_splitNumber : mj_pl y_big (mj_wm y_Y m_Pieces_splitNumber) [555, 385, 386, 390, 523, 122, 524, 525, 544, 132, 546, 5, 549, 132, 550, 556, 557, 558] = true := by decide +kernel
set_option maxRecDepth 100000 in
theorem vp_Pieces_advance : mj_pl y_big (mj_wm y_Y m_Pieces_advance) [645, 387, 388, 389, 392, 393, 395, 397, 391, 523, 122, 524, 525, 646, 163, 123, 164] = true := by decide +kernel
set_option maxRecDepth 100000 in
theorem vp_Reader_readDefinition : mj_pl y_big (mj_wm y_Y m_Reader_readDefinition) [650, 490, 485, 491, 492, 681, 394, 398, 487, 679, 688, 642, 132, 643, 644, 656, 131, 658, 9, 651, 131, 653, 8, 660, 131, 662, 10, 769, 122, 354, 355, 770, 131, 772, 14, 797, 131, 799, 18, 793, 131, 795, 17, 890, 136, 891, 892, 882, 136, 883, 884] = true := by decide +kernel
set_option maxRecDepth 100000 in
theorem vp_Reader_definitionOf : mj_pl y_big (mj_wm y_Y m_Reader_definitionOf) [654, 492, 487, 655, 122, 524, 525] = true := by decide +kernel
set_option maxRecDepth 100000 in
theorem vp_Reader_refuse : mj_pl y_big (mj_wm y_Y m_Reader_refuse) [659, 490, 488, 396] = true := by decide +kernel
set_option maxRecDepth 100000 in
theorem vp_Reader_openUnit : mj_pl y_big (mj_wm y_Y m_Reader_openUnit) [663, 483, 491, 666, 135, 667, 668, 712, 135, 713, 714, 670, 142, 671, 765, 136, 766, 767, 664] = true := by decide +kernel
set_option maxRecDepth 100000 in
theorem vp_Unit_init : mj_pl y_big (mj_wm y_Y m_Unit_init) [672, 676, 678, 689, 690, 691, 673, 153, 154, 675, 122, 158, 674] = true := by decide +kernel
set_option maxRecDepth 100000 in
theorem vp_Scope_enter : mj_pl y_big (mj_wm y_Y m_Scope_enter) [768, 467, 468] = true := by decide +kernel
set_option maxRecDepth 100000 in
theorem vp_Reader_bindNames : mj_pl y_big (mj_wm y_Y m_Reader_bindNames) [773, 490, 491, 394, 398, 642, 132, 643, 644, 774, 131, 776, 15, 656, 131, 658, 9, 793, 131, 795, 17, 784, 136, 785, 786, 778, 136, 779, 780] = true := by decide +kernel
set_option maxRecDepth 100000 in
theorem vp_Reader_goesOn : mj_pl y_big (mj_wm y_Y m_Reader_goesOn) [777, 490, 488, 394] = true := by decide +kernel
set_option maxRecDepth 100000 in
theorem vp_Scope_isAmongLast : mj_pl y_big (mj_wm y_Y m_Scope_isAmongLast) [781, 464, 469, 782, 166, 123, 167, 783, 122, 524, 525] = true := by decide +kernel
set_option maxRecDepth 100000 in
theorem vp_Scope_bind : mj_pl y_big (mj_wm y_Y m_Scope_bind) [787, 464, 465, 466, 468, 469, 683, 788, 136, 790, 16, 792, 122, 354, 355] = true := by decide +kernel
set_option maxRecDepth 100000 in
theorem vp_Scope_unitAt : mj_pl y_big (mj_wm y_Y m_Scope_unitAt) [791, 467] = true := by decide +kernel
set_option maxRecDepth 100000 in
theorem vp_Reader_take : mj_pl y_big (mj_wm y_Y m_Reader_take) [796, 490, 488, 394, 642, 132, 643, 644, 656, 131, 658, 9] = true := by decide +kernel
set_option maxRecDepth 100000 in
theorem vp_Reader_readTerm : mj_pl y_big (mj_wm y_Y m_Reader_readTerm) [800, 490, 488, 491, 493, 394, 398, 817, 396, 812, 642, 132, 643, 644, 656, 131, 658, 9, 803, 131, 804, 806, 144, 807, 852, 136, 853, 854, 712, 135, 713, 714, 866, 131, 868, 20, 870, 131, 872, 21, 886, 131, 888, 23, 894, 131, 896, 24, 898, 131, 900, 25, 902, 131, 904, 26, 914, 131, 916, 28, 801] = true := by decide +kernel
set_option maxRecDepth 100000 in
theorem vp_Reader_kindOfTerm : mj_pl y_big (mj_wm y_Y m_Reader_kindOfTerm) [805] = true := by decide +kernel
set_option maxRecDepth 100000 in
theorem vp_Term_init : mj_pl y_big (mj_wm y_Y m_Term_init) [808, 810, 813, 815, 809, 153, 154] = true := by decide +kernel
set_option maxRecDepth 100000 in
theorem vp_Scope_resolve : mj_pl y_big (mj_wm y_Y m_Scope_resolve) [855, 465, 466, 468, 818, 821, 788, 136, 790, 16, 783, 122, 524, 525, 856, 136, 858, 19, 860, 142, 861, 862] = true := by decide +kernel
set_option maxRecDepth 100000 in
theorem vp_Scope_bindingOf : mj_pl y_big (mj_wm y_Y m_Scope_bindingOf) [859, 464, 469, 783, 122, 524, 525] = true := by decide +kernel
set_option maxRecDepth 100000 in
theorem vp_Unit_fieldOf : mj_pl y_big (mj_wm y_Y m_Unit_fieldOf) [863, 689, 690, 691, 684, 864, 122, 524, 525, 865, 122, 354, 355] = true := by decide +kernel
set_option maxRecDepth 100000 in
theorem vp_Reader_takeNumber : mj_pl y_big (mj_wm y_Y m_Reader_takeNumber) [869, 490, 398, 656, 131, 658, 9, 793, 131, 795, 17] = true := by decide +kernel
set_option maxRecDepth 100000 in
theorem vp_Reader_readCall : mj_pl y_big (mj_wm y_Y m_Reader_readCall) [873, 490, 642, 132, 643, 644, 774, 131, 776, 15, 656, 131, 658, 9, 797, 131, 799, 18, 793, 131, 795, 17, 874, 144, 875, 876, 878, 131, 880, 22] = true := by decide +kernel
set_option maxRecDepth 100000 in
theorem vp_Term_add : mj_pl y_big (mj_wm y_Y m_Term_add) [877, 832, 826, 829, 824] = true := by decide +kernel
set_option maxRecDepth 100000 in
theorem vp_Reader_readOperand : mj_pl y_big (mj_wm y_Y m_Reader_readOperand) [881, 490, 488, 491, 394, 398, 679, 688, 396, 660, 131, 662, 10, 797, 131, 799, 18, 882, 136, 883, 884, 806, 144, 807, 801] = true := by decide +kernel
set_option maxRecDepth 100000 in
theorem vp_Scope_leave : mj_pl y_big (mj_wm y_Y m_Scope_leave) [885, 468, 782, 166, 123, 167] = true := by decide +kernel
set_option maxRecDepth 100000 in
theorem vp_Reader_readFunction : mj_pl y_big (mj_wm y_Y m_Reader_readFunction) [889, 490, 491, 681, 394, 679, 688, 817, 642, 132, 643, 644, 656, 131, 658, 9, 660, 131, 662, 10, 770, 131, 772, 14, 797, 131, 799, 18, 890, 136, 891, 892, 882, 136, 883, 884] = true := by decide +kernel
set_option maxRecDepth 100000 in
theorem vp_Scope_unbind : mj_pl y_big (mj_wm y_Y m_Scope_unbind) [893, 468, 469, 683, 782, 166, 123, 167, 788, 136, 790, 16] = true := by decide +kernel
set_option maxRecDepth 100000 in
theorem vp_Reader_readLet : mj_pl y_big (mj_wm y_Y m_Reader_readLet) [897, 490, 491, 398, 642, 132, 643, 644, 797, 131, 799, 18, 793, 131, 795, 17, 890, 136, 891, 892, 874, 144, 875, 876, 878, 131, 880, 22, 784, 136, 785, 786] = true := by decide +kernel
set_option maxRecDepth 100000 in
theorem vp_Reader_readConstructor : mj_pl y_big (mj_wm y_Y m_Reader_readConstructor) [901, 490, 488, 394, 817, 642, 132, 643, 644, 774, 131, 776, 15, 656, 131, 658, 9, 793, 131, 795, 17, 866, 131, 868, 20, 874, 144, 875, 876, 878, 131, 880, 22] = true := by decide +kernel
set_option maxRecDepth 100000 in
theorem vp_Reader_readChoice : mj_pl y_big (mj_wm y_Y m_Reader_readChoice) [905, 490, 817, 642, 132, 643, 644, 774, 131, 776, 15, 656, 131, 658, 9, 797, 131, 799, 18, 793, 131, 795, 17, 874, 144, 875, 876, 906, 131, 908, 27, 910] = true := by decide +kernel
set_option maxRecDepth 100000 in
theorem vp_Reader_readAlternative : mj_pl y_big (mj_wm y_Y m_Reader_readAlternative) [909, 490, 491, 394, 398, 817, 396, 823, 656, 131, 658, 9, 770, 131, 772, 14, 797, 131, 799, 18, 793, 131, 795, 17, 890, 136, 891, 892, 806, 144, 807, 866, 131, 868, 20, 874, 144, 875, 876, 911, 131, 912, 801, 910] = true := by decide +kernel
set_option maxRecDepth 100000 in
theorem vp_Reader_hasAlternative : mj_pl y_big (mj_wm y_Y m_Reader_hasAlternative) [913, 817, 812, 828, 831] = true := by decide +kernel
set_option maxRecDepth 100000 in
theorem vp_Reader_readOperator : mj_pl y_big (mj_wm y_Y m_Reader_readOperator) [917, 490, 394, 817, 642, 132, 643, 644, 797, 131, 799, 18, 874, 144, 875, 876] = true := by decide +kernel
set_option maxRecDepth 100000 in
theorem vp_Reader_findDefinitions : mj_pl y_big (mj_wm y_Y m_Reader_findDefinitions) [921, 488, 493, 817, 814, 820, 651, 131, 653, 8, 666, 135, 667, 668, 922, 135, 923, 924, 801] = true := by decide +kernel
set_option maxRecDepth 100000 in
theorem vp_Reader_mainUnit : mj_pl y_big (mj_wm y_Y m_Reader_mainUnit) [940, 483, 485, 681, 651, 131, 653, 8, 655, 122, 524, 525, 666, 135, 667, 668, 922, 135, 923, 924, 664] = true := by decide +kernel
set_option maxRecDepth 100000 in
theorem vp_Writer_init : mj_pl y_big (mj_wm y_Y m_Writer_init) [946, 948, 947, 153, 154] = true := by decide +kernel
set_option maxRecDepth 100000 in
theorem vp_Writer_writeUnits : mj_pl y_big (mj_wm y_Y m_Writer_writeUnits) [955, 948, 687, 956, 135, 667, 668, 957, 135, 923, 924, 959, 127, 960, 961, 964, 146, 966, 30, 980, 146, 982, 31, 958] = true := by decide +kernel
set_option maxRecDepth 100000 in
theorem vp_Program_addUnit : mj_pl y_big (mj_wm y_Y m_Program_addUnit) [962, 253, 254, 255, 247, 249, 685, 680, 963, 122, 354, 355] = true := by decide +kernel
set_option maxRecDepth 100000 in
theorem vp_Writer_writeHead : mj_pl y_big (mj_wm y_Y m_Writer_writeHead) [967, 948, 677, 686, 682, 968, 127, 969, 970, 972, 142, 973, 974, 976, 142, 977, 978] = true := by decide +kernel
set_option maxRecDepth 100000 in
theorem vp_Program_add : mj_pl y_big (mj_wm y_Y m_Program_add) [971, 251, 249, 963, 122, 354, 355] = true := by decide +kernel
set_option maxRecDepth 100000 in
theorem vp_Unit_whereOf : mj_pl y_big (mj_wm y_Y m_Unit_whereOf) [975, 690, 864, 122, 524, 525] = true := by decide +kernel
set_option maxRecDepth 100000 in
theorem vp_Unit_numberOf : mj_pl y_big (mj_wm y_Y m_Unit_numberOf) [979, 691, 864, 122, 524, 525] = true := by decide +kernel
set_option maxRecDepth 100000 in
theorem vp_Writer_writeTerm : mj_pl y_big (mj_wm y_Y m_Writer_writeTerm) [983, 948, 250, 811, 816, 819, 825, 827, 968, 127, 969, 970, 984, 146, 986, 32, 988, 146, 990, 33, 1000, 127, 1001, 1002] = true := by decide +kernel
set_option maxRecDepth 100000 in
theorem vp_Writer_writeOperands : mj_pl y_big (mj_wm y_Y m_Writer_writeOperands) [987, 948, 811, 816, 819, 830, 968, 127, 969, 970] = true := by decide +kernel
set_option maxRecDepth 100000 in
theorem vp_Writer_writeParts : mj_pl y_big (mj_wm y_Y m_Writer_writeParts) [991, 948, 811, 816, 825, 830, 980, 146, 982, 31, 968, 127, 969, 970, 984, 146, 986, 32, 992, 146, 994, 34] = true := by decide +kernel
set_option maxRecDepth 100000 in
theorem vp_Writer_writeAlternatives : mj_pl y_big (mj_wm y_Y m_Writer_writeAlternatives) [995, 948, 250, 816, 827, 830, 822, 980, 146, 982, 31, 968, 127, 969, 970, 996, 127, 997, 998] = true := by decide +kernel
set_option maxRecDepth 100000 in
theorem vp_Program_putLength : mj_pl y_big (mj_wm y_Y m_Program_putLength) [999, 251, 249, 963, 122, 354, 355] = true := by decide +kernel
set_option maxRecDepth 100000 in
theorem vp_Program_endTerm : mj_pl y_big (mj_wm y_Y m_Program_endTerm) [1003, 252, 249, 963, 122, 354, 355] = true := by decide +kernel
set_option maxRecDepth 100000 in
theorem vp_Machine_forget : mj_pl y_big (mj_wm y_Y m_Machine_forget) [1007, 278] = true := by decide +kernel
set_option maxRecDepth 100000 in
theorem vp_Main_size : mj_pl y_big (mj_wm y_Y m_Main_size) [1011, 335, 1012, 127, 1013, 1014, 1016, 127, 1017, 1018] = true := by decide +kernel
set_option maxRecDepth 100000 in
theorem vp_Program_hasUnit : mj_pl y_big (mj_wm y_Y m_Program_hasUnit) [1015, 247] = true := by decide +kernel
set_option maxRecDepth 100000 in
theorem vp_Program_unitLength : mj_pl y_big (mj_wm y_Y m_Program_unitLength) [1019, 253, 247, 249, 1020, 122, 524, 525] = true := by decide +kernel
set_option maxRecDepth 100000 in
theorem vp_Main_byteAt : mj_pl y_big (mj_wm y_Y m_Main_byteAt) [1024, 335, 1012, 127, 1013, 1014, 1016, 127, 1017, 1018, 1025, 127, 1026, 1027, 1029, 127, 1030, 1031] = true := by decide +kernel
set_option maxRecDepth 100000 in
theorem vp_Program_unitStart : mj_pl y_big (mj_wm y_Y m_Program_unitStart) [1028, 253, 1020, 122, 524, 525] = true := by decide +kernel
set_option maxRecDepth 100000 in
theorem vp_Program_codeAt : mj_pl y_big (mj_wm y_Y m_Program_codeAt) [1032, 251, 1020, 122, 524, 525] = true := by decide +kernel
set_option maxRecDepth 100000 in
theorem vp_Main_run : mj_pl y_big (mj_wm y_Y m_Main_run) [1036, 333, 335, 246, 1037, 124, 1038, 1039, 1063, 124, 1064, 1065, 1307, 124, 1308, 1309] = true := by decide +kernel
set_option maxRecDepth 100000 in
theorem vp_Machine_start : mj_pl y_big (mj_wm y_Y m_Machine_start) [1040, 276, 286, 289, 278, 290, 280, 282, 245, 1041, 125, 1042, 1043, 1046, 122, 354, 355, 1047, 124, 1049, 35, 1051, 124, 1053, 36, 1045] = true := by decide +kernel
set_option maxRecDepth 100000 in
theorem vp_Heap_empty : mj_pl y_big (mj_wm y_Y m_Heap_empty) [1044, 185, 187, 190] = true := by decide +kernel
set_option maxRecDepth 100000 in
theorem vp_Machine_standAt : mj_pl y_big (mj_wm y_Y m_Machine_standAt) [1050, 288, 295, 294, 292, 291, 215, 217, 219] = true := by decide +kernel
set_option maxRecDepth 100000 in
theorem vp_Machine_enter : mj_pl y_big (mj_wm y_Y m_Machine_enter) [1054, 288, 289, 215, 217, 219, 211, 213, 1059, 124, 1061, 37, 1055, 127, 1056, 1057] = true := by decide +kernel
set_option maxRecDepth 100000 in
theorem vp_Program_termOf : mj_pl y_big (mj_wm y_Y m_Program_termOf) [1058, 253, 254, 1020, 122, 524, 525] = true := by decide +kernel
set_option maxRecDepth 100000 in
theorem vp_Machine_turnTo : mj_pl y_big (mj_wm y_Y m_Machine_turnTo) [1062, 295] = true := by decide +kernel
set_option maxRecDepth 100000 in
theorem vp_Machine_go : mj_pl y_big (mj_wm y_Y m_Machine_go) [1066, 295, 1068, 124, 1070, 38, 1215, 124, 1217, 54, 1283, 124, 1285, 63, 1124, 124, 1126, 44, 1067] = true := by decide +kernel
set_option maxRecDepth 100000 in
theorem vp_Machine_doTerm : mj_pl y_big (mj_wm y_Y m_Machine_doTerm) [1071, 288, 289, 211, 1128, 124, 1130, 45, 1124, 124, 1126, 44, 1072, 127, 1030, 1031, 1073, 127, 1074, 1075, 1077, 125, 1078, 1081, 124, 1083, 39, 1085, 124, 1087, 40, 1170, 124, 1172, 48, 1174, 127, 1175, 1176, 1178, 124, 1180, 49, 1195, 124, 1197, 50, 1203, 124, 1205, 52] = true := by decide +kernel
set_option maxRecDepth 100000 in
theorem vp_Program_fourAt : mj_pl y_big (mj_wm y_Y m_Program_fourAt) [1076, 251, 1020, 122, 524, 525] = true := by decide +kernel
set_option maxRecDepth 100000 in
theorem vp_Heap_value : mj_pl y_big (mj_wm y_Y m_Heap_value) [1079, 1080] = true := by decide +kernel
set_option maxRecDepth 100000 in
theorem vp_Machine_give : mj_pl y_big (mj_wm y_Y m_Machine_give) [1084, 296, 295] = true := by decide +kernel
set_option maxRecDepth 100000 in
theorem vp_Machine_whatIsAt : mj_pl y_big (mj_wm y_Y m_Machine_whatIsAt) [1088, 276, 286, 289, 1046, 122, 354, 355, 1072, 127, 1030, 1031, 1077, 125, 1078, 1089, 124, 1091, 41, 1101, 127, 1102, 1103, 1105, 127, 1106, 1107, 1109, 122, 524, 525, 1110, 125, 1111, 1112, 1120, 124, 1122, 43] = true := by decide +kernel
set_option maxRecDepth 100000 in
theorem vp_Machine_boundAt : mj_pl y_big (mj_wm y_Y m_Machine_boundAt) [1092, 276, 284, 288, 215, 213, 1097, 125, 1098, 1099, 1093, 122, 1094, 1095] = true := by decide +kernel
set_option maxRecDepth 100000 in
theorem vp_Row_longAt : mj_pl y_big (mj_wm y_Y m_Row_longAt) [1096, 168] = true := by decide +kernel
set_option maxRecDepth 100000 in
theorem vp_Heap_field : mj_pl y_big (mj_wm y_Y m_Heap_field) [1100, 189] = true := by decide +kernel
set_option maxRecDepth 100000 in
theorem vp_Program_definitionUnit : mj_pl y_big (mj_wm y_Y m_Program_definitionUnit) [1104, 256, 1020, 122, 524, 525] = true := by decide +kernel
set_option maxRecDepth 100000 in
theorem vp_Program_parametersOf : mj_pl y_big (mj_wm y_Y m_Program_parametersOf) [1108, 255, 1020, 122, 524, 525] = true := by decide +kernel
set_option maxRecDepth 100000 in
theorem vp_Heap_make : mj_pl y_big (mj_wm y_Y m_Heap_make) [1113, 189, 185, 190, 1114, 166, 123, 167, 1115, 129, 358, 1116, 125, 1118, 42] = true := by decide +kernel
set_option maxRecDepth 100000 in
theorem vp_Heap_put : mj_pl y_big (mj_wm y_Y m_Heap_put) [1119, 189] = true := by decide +kernel
set_option maxRecDepth 100000 in
theorem vp_Machine_objectValue : mj_pl y_big (mj_wm y_Y m_Machine_objectValue) [1123, 1124, 124, 1126, 44, 1077, 125, 1078] = true := by decide +kernel
set_option maxRecDepth 100000 in
theorem vp_Machine_fail : mj_pl y_big (mj_wm y_Y m_Machine_fail) [1127, 295, 294] = true := by decide +kernel
set_option maxRecDepth 100000 in
theorem vp_Machine_giveValueOf : mj_pl y_big (mj_wm y_Y m_Machine_giveValueOf) [1131, 276, 1051, 124, 1053, 36, 1146, 125, 1140, 1124, 124, 1126, 44, 1081, 124, 1083, 39, 1152, 124, 1154, 47, 1132, 125, 1133, 1134, 1147, 125, 1148, 1149, 1161, 125, 1162, 1163, 1166, 125, 1167, 1168] = true := by decide +kernel
set_option maxRecDepth 100000 in
theorem vp_Heap_objectKind : mj_pl y_big (mj_wm y_Y m_Heap_objectKind) [1135, 1142, 125, 1144, 46, 1136, 125, 1137, 1139, 125, 1140] = true := by decide +kernel
set_option maxRecDepth 100000 in
theorem vp_Heap_kindOf : mj_pl y_big (mj_wm y_Y m_Heap_kindOf) [1138] = true := by decide +kernel
set_option maxRecDepth 100000 in
theorem vp_Heap_numberOf : mj_pl y_big (mj_wm y_Y m_Heap_numberOf) [1141] = true := by decide +kernel
set_option maxRecDepth 100000 in
theorem vp_Heap_get : mj_pl y_big (mj_wm y_Y m_Heap_get) [1145, 189] = true := by decide +kernel
set_option maxRecDepth 100000 in
theorem vp_Heap_settled : mj_pl y_big (mj_wm y_Y m_Heap_settled) [1150, 1142, 125, 1144, 46, 1139, 125, 1140, 1151, 125, 1133, 1134] = true := by decide +kernel
set_option maxRecDepth 100000 in
theorem vp_Machine_deepen : mj_pl y_big (mj_wm y_Y m_Machine_deepen) [1155, 287, 288, 282, 292, 291, 217, 219, 209, 220, 1124, 124, 1126, 44, 1156, 126, 1157, 1158, 1160, 166, 123, 167] = true := by decide +kernel
set_option maxRecDepth 100000 in
theorem vp_Frame_copy : mj_pl y_big (mj_wm y_Y m_Frame_copy) [1159, 210, 212, 214, 216, 218] = true := by decide +kernel
set_option maxRecDepth 100000 in
theorem vp_Heap_markUnderWay : mj_pl y_big (mj_wm y_Y m_Heap_markUnderWay) [1164, 1116, 125, 1118, 42, 1165] = true := by decide +kernel
set_option maxRecDepth 100000 in
theorem vp_Heap_whatOf : mj_pl y_big (mj_wm y_Y m_Heap_whatOf) [1169, 1142, 125, 1144, 46] = true := by decide +kernel
set_option maxRecDepth 100000 in
theorem vp_Machine_want : mj_pl y_big (mj_wm y_Y m_Machine_want) [1173, 288, 211, 1152, 124, 1154, 47, 1059, 124, 1061, 37] = true := by decide +kernel
set_option maxRecDepth 100000 in
theorem vp_Program_twoAt : mj_pl y_big (mj_wm y_Y m_Program_twoAt) [1177, 251, 1020, 122, 524, 525] = true := by decide +kernel
set_option maxRecDepth 100000 in
theorem vp_Machine_makeUnit : mj_pl y_big (mj_wm y_Y m_Machine_makeUnit) [1181, 276, 284, 288, 289, 217, 1046, 122, 354, 355, 1072, 127, 1030, 1031, 1089, 124, 1091, 41, 1110, 125, 1111, 1112, 1120, 124, 1122, 43, 1182, 127, 1183, 1184, 1186, 127, 1187, 1188, 1190, 127, 1026, 1027, 1191, 125, 1192, 1193] = true := by decide +kernel
set_option maxRecDepth 100000 in
theorem vp_Program_fieldsOf : mj_pl y_big (mj_wm y_Y m_Program_fieldsOf) [1185, 254, 1020, 122, 524, 525] = true := by decide +kernel
set_option maxRecDepth 100000 in
theorem vp_Program_fieldPlaces : mj_pl y_big (mj_wm y_Y m_Program_fieldPlaces) [1189, 253, 1020, 122, 524, 525] = true := by decide +kernel
set_option maxRecDepth 100000 in
theorem vp_Heap_putField : mj_pl y_big (mj_wm y_Y m_Heap_putField) [1194, 1116, 125, 1118, 42] = true := by decide +kernel
set_option maxRecDepth 100000 in
theorem vp_Machine_doLet : mj_pl y_big (mj_wm y_Y m_Machine_doLet) [1198, 284, 285, 288, 217, 211, 1046, 122, 354, 355, 1093, 122, 1094, 1095, 1199, 124, 1201, 51] = true := by decide +kernel
set_option maxRecDepth 100000 in
theorem vp_Machine_makeArguments : mj_pl y_big (mj_wm y_Y m_Machine_makeArguments) [1202, 285, 289, 295, 293, 1046, 122, 354, 355, 1072, 127, 1030, 1031, 1073, 127, 1074, 1075, 1077, 125, 1078, 1085, 124, 1087, 40, 1174, 127, 1175, 1176, 1178, 124, 1180, 49] = true := by decide +kernel
set_option maxRecDepth 100000 in
theorem vp_Machine_doConstructor : mj_pl y_big (mj_wm y_Y m_Machine_doConstructor) [1206, 289, 295, 1072, 127, 1030, 1031, 1077, 125, 1078, 1081, 124, 1083, 39, 1174, 127, 1175, 1176, 1199, 124, 1201, 51, 1207, 124, 1209, 53] = true := by decide +kernel
set_option maxRecDepth 100000 in
theorem vp_Machine_makeWithArguments : mj_pl y_big (mj_wm y_Y m_Machine_makeWithArguments) [1210, 276, 285, 293, 1097, 125, 1098, 1099, 1110, 125, 1111, 1112, 1120, 124, 1122, 43, 1093, 122, 1094, 1095, 1191, 125, 1192, 1193, 1211, 125, 1212, 1213] = true := by decide +kernel
set_option maxRecDepth 100000 in
theorem vp_Heap_fieldsOf : mj_pl y_big (mj_wm y_Y m_Heap_fieldsOf) [1214, 1142, 125, 1144, 46] = true := by decide +kernel
set_option maxRecDepth 100000 in
theorem vp_Machine_useValue : mj_pl y_big (mj_wm y_Y m_Machine_useValue) [1218, 276, 287, 288, 289, 296, 295, 291, 211, 209, 220, 1072, 127, 1030, 1031, 1156, 126, 1157, 1158, 1219, 125, 1220, 1221, 1224, 124, 1226, 55, 1244, 124, 1246, 58, 1248, 124, 1250, 59, 1271, 124, 1273, 61, 1275, 124, 1277, 62] = true := by decide +kernel
set_option maxRecDepth 100000 in
theorem vp_Heap_setTo : mj_pl y_big (mj_wm y_Y m_Heap_setTo) [1222, 187, 1116, 125, 1118, 42, 1223] = true := by decide +kernel
set_option maxRecDepth 100000 in
theorem vp_Machine_callValue : mj_pl y_big (mj_wm y_Y m_Machine_callValue) [1227, 288, 289, 211, 1072, 127, 1030, 1031, 1059, 124, 1061, 37, 1199, 124, 1201, 51, 1228, 124, 1230, 56, 1240, 127, 1241, 1242] = true := by decide +kernel
set_option maxRecDepth 100000 in
theorem vp_Machine_isCallable : mj_pl y_big (mj_wm y_Y m_Machine_isCallable) [1231, 276, 296, 1124, 124, 1126, 44, 1236, 125, 1237, 1238, 1232, 124, 1234, 57] = true := by decide +kernel
set_option maxRecDepth 100000 in
theorem vp_Machine_takeStep : mj_pl y_big (mj_wm y_Y m_Machine_takeStep) [1235, 290, 280, 1124, 124, 1126, 44] = true := by decide +kernel
set_option maxRecDepth 100000 in
theorem vp_Heap_isFunction : mj_pl y_big (mj_wm y_Y m_Heap_isFunction) [1239, 1136, 125, 1137, 1151, 125, 1133, 1134] = true := by decide +kernel
set_option maxRecDepth 100000 in
theorem vp_Program_behindTerm : mj_pl y_big (mj_wm y_Y m_Program_behindTerm) [1243, 252, 1020, 122, 524, 525] = true := by decide +kernel
set_option maxRecDepth 100000 in
theorem vp_Machine_callWithRest : mj_pl y_big (mj_wm y_Y m_Machine_callWithRest) [1247, 284, 285, 288, 219, 293, 1046, 122, 354, 355, 1059, 124, 1061, 37, 1093, 122, 1094, 1095, 1228, 124, 1230, 56] = true := by decide +kernel
set_option maxRecDepth 100000 in
theorem vp_Machine_choose : mj_pl y_big (mj_wm y_Y m_Machine_choose) [1251, 276, 288, 289, 296, 211, 1124, 124, 1126, 44, 1256, 125, 1257, 1258, 1261, 125, 1262, 1263, 1072, 127, 1030, 1031, 1174, 127, 1175, 1176, 1240, 127, 1241, 1242, 1232, 124, 1234, 57, 1252, 125, 1253, 1254, 1267, 124, 1269, 60, 1266] = true := by decide +kernel
set_option maxRecDepth 100000 in
theorem vp_Heap_isConstructor : mj_pl y_big (mj_wm y_Y m_Heap_isConstructor) [1255, 1136, 125, 1137, 1151, 125, 1133, 1134] = true := by decide +kernel
set_option maxRecDepth 100000 in
theorem vp_Heap_tagOf : mj_pl y_big (mj_wm y_Y m_Heap_tagOf) [1259, 1136, 125, 1137, 1139, 125, 1140, 1260, 125, 1167, 1168] = true := by decide +kernel
set_option maxRecDepth 100000 in
theorem vp_Heap_partsOf : mj_pl y_big (mj_wm y_Y m_Heap_partsOf) [1264, 1139, 125, 1140, 1151, 125, 1133, 1134, 1265, 125, 1212, 1213] = true := by decide +kernel
set_option maxRecDepth 100000 in
theorem vp_Machine_doAlternative : mj_pl y_big (mj_wm y_Y m_Machine_doAlternative) [1270, 276, 284, 288, 296, 217, 211, 1046, 122, 354, 355, 1146, 125, 1140, 1097, 125, 1098, 1099, 1059, 124, 1061, 37] = true := by decide +kernel
set_option maxRecDepth 100000 in
theorem vp_Machine_doSecond : mj_pl y_big (mj_wm y_Y m_Machine_doSecond) [1274, 288, 289, 296, 211, 1072, 127, 1030, 1031, 1170, 124, 1172, 48, 1059, 124, 1061, 37, 1240, 127, 1241, 1242, 1232, 124, 1234, 57] = true := by decide +kernel
set_option maxRecDepth 100000 in
theorem vp_Machine_operate : mj_pl y_big (mj_wm y_Y m_Machine_operate) [1278, 1146, 125, 1140, 1124, 124, 1126, 44, 1279, 125, 1137, 1077, 125, 1078, 1081, 124, 1083, 39, 1232, 124, 1234, 57, 1280, 124, 1281] = true := by decide +kernel
set_option maxRecDepth 100000 in
theorem vp_Machine_reckon : mj_pl y_big (mj_wm y_Y m_Machine_reckon) [1282] = true := by decide +kernel
set_option maxRecDepth 100000 in
theorem vp_Machine_apply : mj_pl y_big (mj_wm y_Y m_Machine_apply) [1286, 276, 284, 285, 288, 296, 219, 293, 1046, 122, 354, 355, 1051, 124, 1053, 36, 1146, 125, 1140, 1097, 125, 1098, 1099, 1287, 124, 1289, 64, 1081, 124, 1083, 39, 1093, 122, 1094, 1095, 1207, 124, 1209, 53, 1291, 125, 1292, 1293, 1295, 125, 1296, 1297, 1299, 125, 1300, 1301, 1303, 124, 1305, 65] = true := by decide +kernel
set_option maxRecDepth 100000 in
theorem vp_Machine_takenBy : mj_pl y_big (mj_wm y_Y m_Machine_takenBy) [1290, 276, 289, 1105, 127, 1106, 1107, 1291, 125, 1292, 1293, 1295, 125, 1296, 1297] = true := by decide +kernel
set_option maxRecDepth 100000 in
theorem vp_Heap_unitOf : mj_pl y_big (mj_wm y_Y m_Heap_unitOf) [1294, 1136, 125, 1137, 1139, 125, 1140, 1260, 125, 1167, 1168] = true := by decide +kernel
set_option maxRecDepth 100000 in
theorem vp_Heap_gotBy : mj_pl y_big (mj_wm y_Y m_Heap_gotBy) [1298, 1139, 125, 1140, 1151, 125, 1133, 1134, 1265, 125, 1212, 1213] = true := by decide +kernel
set_option maxRecDepth 100000 in
theorem vp_Heap_selfOf : mj_pl y_big (mj_wm y_Y m_Heap_selfOf) [1302, 1142, 125, 1144, 46, 1139, 125, 1140, 1151, 125, 1133, 1134] = true := by decide +kernel
set_option maxRecDepth 100000 in
theorem vp_Machine_keepRest : mj_pl y_big (mj_wm y_Y m_Machine_keepRest) [1306, 284, 285, 288, 217, 219, 293, 1046, 122, 354, 355, 1152, 124, 1154, 47, 1093, 122, 1094, 1095] = true := by decide +kernel
set_option maxRecDepth 100000 in
theorem vp_Machine_outcome : mj_pl y_big (mj_wm y_Y m_Machine_outcome) [1310, 276, 296, 294, 1279, 125, 1137, 1236, 125, 1237, 1238] = true := by decide +kernel
set_option maxRecDepth 100000 in
theorem vp_Main_told : mj_pl y_big (mj_wm y_Y m_Main_told) [1314, 333, 279, 281, 277, 186, 188, 283, 1315, 124, 1316, 1317, 1319, 124, 1320, 1321] = true := by decide +kernel
set_option maxRecDepth 100000 in
theorem vp_Machine_resultNumber : mj_pl y_big (mj_wm y_Y m_Machine_resultNumber) [1318, 276, 296, 294, 1146, 125, 1140, 1279, 125, 1137, 1236, 125, 1237, 1238, 1287, 124, 1289, 64, 1256, 125, 1257, 1258] = true := by decide +kernel
set_option maxRecDepth 100000 in
theorem vp_Machine_resultParts : mj_pl y_big (mj_wm y_Y m_Machine_resultParts) [1322, 276, 296, 294, 1261, 125, 1262, 1263] = true := by decide +kernel
set_option maxRecDepth 100000 in
theorem vp_Main_part : mj_pl y_big (mj_wm y_Y m_Main_part) [1326, 333, 279, 1063, 124, 1064, 1065, 1307, 124, 1308, 1309, 1319, 124, 1320, 1321, 1327, 124, 1328, 1329] = true := by decide +kernel
set_option maxRecDepth 100000 in
theorem vp_Machine_startPart : mj_pl y_big (mj_wm y_Y m_Machine_startPart) [1330, 276, 296, 1047, 124, 1049, 35, 1146, 125, 1140, 1097, 125, 1098, 1099, 1128, 124, 1130, 45] = true := by decide +kernel
set_option maxRecDepth 100000 in
theorem vp_Main_clear : mj_pl y_big (mj_wm y_Y m_Main_clear) [1334, 333, 334, 335, 1004, 124, 1005, 1006] = true := by decide +kernel
set_option maxRecDepth 100000 in
theorem vp_Model_init : mj_pl y_big (mj_wm y_Y m_Model_init) [1339, 1345, 1347, 1349, 1353, 1354, 1355, 1356, 1357, 1358, 1359, 1360, 1361, 1364, 1365, 1366, 1368, 1369, 1370, 1371, 1377, 1378, 1379, 1380, 1382, 1392, 1393, 1394, 1395, 1396, 1397, 1398, 1400, 1401, 1402, 1403, 1404, 1405, 1407, 1408, 1409, 1410, 1411, 1412, 1413, 1414, 1415, 1423, 1424, 1340, 153, 154, 1341, 1342, 1343, 1344] = true := by decide +kernel
set_option maxRecDepth 100000 in
theorem vp_Model_feed : mj_pl y_big (mj_wm y_Y m_Model_feed) [1598, 1346, 1599, 128, 1601, 66] = true := by decide +kernel
set_option maxRecDepth 100000 in
theorem vp_Model_put : mj_pl y_big (mj_wm y_Y m_Model_put) [1602, 1345, 1346] = true := by decide +kernel
set_option maxRecDepth 100000 in
theorem vp_Model_read : mj_pl y_big (mj_wm y_Y m_Model_read) [1606, 1345, 1347, 1349, 1346, 1348, 1367, 1350, 1351, 1383, 1607, 128, 1609, 67, 1676, 128, 1678, 81] = true := by decide +kernel
set_option maxRecDepth 100000 in
theorem vp_Model_parsed : mj_pl y_big (mj_wm y_Y m_Model_parsed) [1610, 1377, 1378, 1379, 1374, 1373, 1376, 1352, 1362, 1363, 1611, 128, 1613, 68, 1628, 128, 1630, 70, 1632, 128, 1634, 71, 1647, 128, 1649, 74, 1659, 128, 1661, 77, 1663, 128, 1665, 78, 1667, 128, 1669, 79, 1672, 128, 1674, 80] = true := by decide +kernel
set_option maxRecDepth 100000 in
theorem vp_Model_next : mj_pl y_big (mj_wm y_Y m_Model_next) [1614, 1348, 1374, 1373, 1372, 1375, 1615, 128, 1617, 69, 1619, 128, 1620, 1622, 128, 1623, 1625, 1626, 1627] = true := by decide +kernel
set_option maxRecDepth 100000 in
theorem vp_Model_at : mj_pl y_big (mj_wm y_Y m_Model_at) [1618, 1347, 1348] = true := by decide +kernel
set_option maxRecDepth 100000 in
theorem vp_Model_isLetter : mj_pl y_big (mj_wm y_Y m_Model_isLetter) [1621] = true := by decide +kernel
set_option maxRecDepth 100000 in
theorem vp_Model_isDigit : mj_pl y_big (mj_wm y_Y m_Model_isDigit) [1624] = true := by decide +kernel
set_option maxRecDepth 100000 in
theorem vp_Model_push : mj_pl y_big (mj_wm y_Y m_Model_push) [1631, 1377, 1378, 1379, 1376] = true := by decide +kernel
set_option maxRecDepth 100000 in
theorem vp_Model_term : mj_pl y_big (mj_wm y_Y m_Model_term) [1635, 1353, 1355, 1372, 1375, 1611, 128, 1613, 68, 1628, 128, 1630, 70, 1647, 128, 1649, 74, 1639, 128, 1641, 72, 1643, 128, 1645, 73, 1636, 128, 1637, 1655, 128, 1657, 76] = true := by decide +kernel
set_option maxRecDepth 100000 in
theorem vp_Model_isAct : mj_pl y_big (mj_wm y_Y m_Model_isAct) [1638] = true := by decide +kernel
set_option maxRecDepth 100000 in
theorem vp_Model_node : mj_pl y_big (mj_wm y_Y m_Model_node) [1642, 1353, 1354, 1355, 1356, 1357, 1358, 1373, 1352, 1362] = true := by decide +kernel
set_option maxRecDepth 100000 in
theorem vp_Model_bind : mj_pl y_big (mj_wm y_Y m_Model_bind) [1646, 1357, 1358, 1361, 1372, 1375, 1362, 1611, 128, 1613, 68] = true := by decide +kernel
set_option maxRecDepth 100000 in
theorem vp_Model_sign : mj_pl y_big (mj_wm y_Y m_Model_sign) [1650, 1611, 128, 1613, 68, 1651, 128, 1653, 75] = true := by decide +kernel
set_option maxRecDepth 100000 in
theorem vp_Model_is : mj_pl y_big (mj_wm y_Y m_Model_is) [1654, 1372, 1375] = true := by decide +kernel
set_option maxRecDepth 100000 in
theorem vp_Model_make : mj_pl y_big (mj_wm y_Y m_Model_make) [1658, 1355, 1372, 1375, 1611, 128, 1613, 68, 1628, 128, 1630, 70, 1651, 128, 1653, 75] = true := by decide +kernel
set_option maxRecDepth 100000 in
theorem vp_Model_arguments : mj_pl y_big (mj_wm y_Y m_Model_arguments) [1662, 1355, 1611, 128, 1613, 68, 1628, 128, 1630, 70, 1651, 128, 1653, 75] = true := by decide +kernel
set_option maxRecDepth 100000 in
theorem vp_Model_parts : mj_pl y_big (mj_wm y_Y m_Model_parts) [1666, 1355, 1611, 128, 1613, 68, 1628, 128, 1630, 70, 1651, 128, 1653, 75] = true := by decide +kernel
set_option maxRecDepth 100000 in
theorem vp_Model_cases : mj_pl y_big (mj_wm y_Y m_Model_cases) [1670, 1353, 1355, 1356, 1372, 1375, 1352, 1611, 128, 1613, 68, 1628, 128, 1630, 70, 1647, 128, 1649, 74, 1651, 128, 1653, 75, 1639, 128, 1641, 72, 1643, 128, 1645, 73, 1671] = true := by decide +kernel
set_option maxRecDepth 100000 in
theorem vp_Model_definition : mj_pl y_big (mj_wm y_Y m_Model_definition) [1675, 1355, 1364, 1372, 1375, 1363, 1611, 128, 1613, 68, 1628, 128, 1630, 70, 1647, 128, 1649, 74, 1639, 128, 1641, 72, 1643, 128, 1645, 73] = true := by decide +kernel
set_option maxRecDepth 100000 in
theorem vp_Model_known : mj_pl y_big (mj_wm y_Y m_Model_known) [1679, 1353, 1354, 1356, 1359, 1360, 1368, 1369, 1352, 1367, 1680, 128, 1682, 82, 1684, 128, 1686, 83, 1696, 128, 1698, 86] = true := by decide +kernel
set_option maxRecDepth 100000 in
theorem vp_Model_finds : mj_pl y_big (mj_wm y_Y m_Model_finds) [1683, 1355, 1356, 1357, 1358, 1361, 1364, 1365, 1366, 1363] = true := by decide +kernel
set_option maxRecDepth 100000 in
theorem vp_Model_isUnit : mj_pl y_big (mj_wm y_Y m_Model_isUnit) [1687, 1353, 1688, 128, 1690, 84] = true := by decide +kernel
set_option maxRecDepth 100000 in
theorem vp_Model_isDelayed : mj_pl y_big (mj_wm y_Y m_Model_isDelayed) [1691, 1353, 1356, 1365, 1692, 128, 1694, 85] = true := by decide +kernel
set_option maxRecDepth 100000 in
theorem vp_Model_isOperand : mj_pl y_big (mj_wm y_Y m_Model_isOperand) [1695, 1353, 1356] = true := by decide +kernel
set_option maxRecDepth 100000 in
theorem vp_Model_captures : mj_pl y_big (mj_wm y_Y m_Model_captures) [1699, 1353, 1359, 1365, 1366, 1370, 1371] = true := by decide +kernel
set_option maxRecDepth 100000 in
theorem vp_Model_size : mj_pl y_big (mj_wm y_Y m_Model_size) [1703, 1367, 1351, 1381, 1704, 128, 1706, 87] = true := by decide +kernel
set_option maxRecDepth 100000 in
theorem vp_Model_write : mj_pl y_big (mj_wm y_Y m_Model_write) [1707, 1353, 1356, 1358, 1359, 1360, 1368, 1369, 1370, 1371, 1381, 1692, 128, 1694, 85, 1684, 128, 1686, 83, 1712, 128, 1714, 89, 1716, 128, 1718, 90, 1708, 128, 1710, 88, 1724, 128, 1726, 92, 1728, 128, 1730, 93] = true := by decide +kernel
set_option maxRecDepth 100000 in
theorem vp_Model_measure : mj_pl y_big (mj_wm y_Y m_Model_measure) [1711, 1353, 1359, 1382, 1352, 1692, 128, 1694, 85] = true := by decide +kernel
set_option maxRecDepth 100000 in
theorem vp_Model_one : mj_pl y_big (mj_wm y_Y m_Model_one) [1715, 1380, 1381] = true := by decide +kernel
set_option maxRecDepth 100000 in
theorem vp_Model_placeIn : mj_pl y_big (mj_wm y_Y m_Model_placeIn) [1719, 1360, 1369, 1370, 1371, 1720, 128, 1722, 91] = true := by decide +kernel
set_option maxRecDepth 100000 in
theorem vp_Model_local : mj_pl y_big (mj_wm y_Y m_Model_local) [1723, 1356, 1358, 1360, 1368] = true := by decide +kernel
set_option maxRecDepth 100000 in
theorem vp_Model_two : mj_pl y_big (mj_wm y_Y m_Model_two) [1727, 1712, 128, 1714, 89] = true := by decide +kernel
set_option maxRecDepth 100000 in
theorem vp_Model_head : mj_pl y_big (mj_wm y_Y m_Model_head) [1731, 1353, 1355, 1356, 1358, 1359, 1382, 1712, 128, 1714, 89, 1724, 128, 1726, 92, 1732, 128, 1734, 94] = true := by decide +kernel
set_option maxRecDepth 100000 in
theorem vp_Model_putPlace : mj_pl y_big (mj_wm y_Y m_Model_putPlace) [1735, 1365, 1366, 1712, 128, 1714, 89, 1716, 128, 1718, 90] = true := by decide +kernel
set_option maxRecDepth 100000 in
theorem vp_Model_byteAt : mj_pl y_big (mj_wm y_Y m_Model_byteAt) [1739, 1380, 1367, 1351, 1381, 1704, 128, 1706, 87] = true := by decide +kernel
set_option maxRecDepth 100000 in
theorem vp_Model_run : mj_pl y_big (mj_wm y_Y m_Model_run) [1743, 1355, 1358, 1364, 1402, 1403, 1363, 1351, 1388, 1391, 1399, 1418, 1406, 1387, 1385, 1384, 1386, 1744, 128, 1746, 95, 1752, 128, 1754, 97] = true := by decide +kernel
set_option maxRecDepth 100000 in
theorem vp_Model_goes : mj_pl y_big (mj_wm y_Y m_Model_goes) [1747, 1417, 1419, 1416, 1387, 1748, 128, 1750, 96] = true := by decide +kernel
set_option maxRecDepth 100000 in
theorem vp_Model_fails : mj_pl y_big (mj_wm y_Y m_Model_fails) [1751, 1388] = true := by decide +kernel
set_option maxRecDepth 100000 in
theorem vp_Model_finish : mj_pl y_big (mj_wm y_Y m_Model_finish) [1755, 1383, 1388, 1406, 1416, 1420, 1421, 1389, 1390, 1756, 128, 1758, 98, 1828, 128, 1830, 116, 1840, 128, 1842, 119] = true := by decide +kernel
set_option maxRecDepth 100000 in
theorem vp_Model_deliver : mj_pl y_big (mj_wm y_Y m_Model_deliver) [1759, 1355, 1359, 1396, 1397, 1398, 1407, 1408, 1409, 1410, 1411, 1412, 1413, 1414, 1415, 1423, 1424, 1388, 1418, 1406, 1419, 1420, 1421, 1422, 1386, 1748, 128, 1750, 96, 1768, 128, 1770, 101, 1760, 128, 1762, 99, 1764, 128, 1766, 100, 1796, 128, 1798, 108, 1816, 128, 1818, 113, 1820, 128, 1822, 114, 1824, 128, 1826, 115] = true := by decide +kernel
set_option maxRecDepth 100000 in
theorem vp_Model_step : mj_pl y_big (mj_wm y_Y m_Model_step) [1763, 1385, 1384, 1748, 128, 1750, 96] = true := by decide +kernel
set_option maxRecDepth 100000 in
theorem vp_Model_isFunction : mj_pl y_big (mj_wm y_Y m_Model_isFunction) [1767, 1392] = true := by decide +kernel
set_option maxRecDepth 100000 in
theorem vp_Model_give : mj_pl y_big (mj_wm y_Y m_Model_give) [1771, 1359, 1423, 1424, 1388, 1425, 1426, 1422, 1772, 128, 1774, 102] = true := by decide +kernel
set_option maxRecDepth 100000 in
theorem vp_Model_operand : mj_pl y_big (mj_wm y_Y m_Model_operand) [1775, 1353, 1355, 1425, 1426, 1688, 128, 1690, 84, 1776, 128, 1778, 103, 1788, 128, 1790, 106] = true := by decide +kernel
set_option maxRecDepth 100000 in
theorem vp_Model_named : mj_pl y_big (mj_wm y_Y m_Model_named) [1779, 1358, 1360, 1364, 1365, 1366, 1402, 1391, 1425, 1426, 1716, 128, 1718, 90, 1780, 128, 1782, 104, 1784, 128, 1786, 105] = true := by decide +kernel
set_option maxRecDepth 100000 in
theorem vp_Model_fetch : mj_pl y_big (mj_wm y_Y m_Model_fetch) [1783, 1394, 1400, 1401, 1403, 1404, 1405, 1418, 1425, 1426] = true := by decide +kernel
set_option maxRecDepth 100000 in
theorem vp_Model_makes : mj_pl y_big (mj_wm y_Y m_Model_makes) [1787, 1392, 1393, 1394, 1395, 1396, 1391, 1399, 1748, 128, 1750, 96] = true := by decide +kernel
set_option maxRecDepth 100000 in
theorem vp_Model_fresh : mj_pl y_big (mj_wm y_Y m_Model_fresh) [1791, 1353, 1356, 1360, 1369, 1370, 1371, 1404, 1405, 1391, 1418, 1425, 1426, 1716, 128, 1718, 90, 1780, 128, 1782, 104, 1784, 128, 1786, 105, 1792, 128, 1794, 107] = true := by decide +kernel
set_option maxRecDepth 100000 in
theorem vp_Model_cell : mj_pl y_big (mj_wm y_Y m_Model_cell) [1795, 1395, 1400, 1401, 1391, 1399] = true := by decide +kernel
set_option maxRecDepth 100000 in
theorem vp_Model_apply : mj_pl y_big (mj_wm y_Y m_Model_apply) [1799, 1364, 1368, 1392, 1393, 1394, 1395, 1400, 1401, 1403, 1404, 1405, 1409, 1413, 1414, 1415, 1423, 1424, 1391, 1418, 1406, 1419, 1420, 1421, 1422, 1784, 128, 1786, 105, 1792, 128, 1794, 107, 1804, 128, 1806, 110, 1808, 128, 1810, 111, 1812, 128, 1814, 112, 1744, 128, 1746, 95, 1800, 128, 1802, 109] = true := by decide +kernel
set_option maxRecDepth 100000 in
theorem vp_Model_takes : mj_pl y_big (mj_wm y_Y m_Model_takes) [1803, 1358, 1364, 1368, 1392, 1393, 1394, 1395, 1400, 1401] = true := by decide +kernel
set_option maxRecDepth 100000 in
theorem vp_Model_gives : mj_pl y_big (mj_wm y_Y m_Model_gives) [1807, 1416, 1420, 1421] = true := by decide +kernel
set_option maxRecDepth 100000 in
theorem vp_Model_waitFor : mj_pl y_big (mj_wm y_Y m_Model_waitFor) [1811, 1407, 1408, 1409, 1410, 1418, 1406, 1417] = true := by decide +kernel
set_option maxRecDepth 100000 in
theorem vp_Model_freeFrame : mj_pl y_big (mj_wm y_Y m_Model_freeFrame) [1815, 1409, 1406] = true := by decide +kernel
set_option maxRecDepth 100000 in
theorem vp_Model_choose : mj_pl y_big (mj_wm y_Y m_Model_choose) [1819, 1355, 1358, 1359, 1392, 1393, 1394, 1395, 1400, 1401, 1404, 1405, 1418, 1420, 1421, 1720, 128, 1722, 91, 1748, 128, 1750, 96, 1744, 128, 1746, 95, 1671] = true := by decide +kernel
set_option maxRecDepth 100000 in
theorem vp_Model_first : mj_pl y_big (mj_wm y_Y m_Model_first) [1823, 1355, 1359, 1411, 1412, 1406, 1417, 1420, 1421, 1808, 128, 1810, 111, 1744, 128, 1746, 95, 1760, 128, 1762, 99] = true := by decide +kernel
set_option maxRecDepth 100000 in
theorem vp_Model_reckon : mj_pl y_big (mj_wm y_Y m_Model_reckon) [1827, 1420, 1421, 1748, 128, 1750, 96, 1804, 128, 1806, 110] = true := by decide +kernel
set_option maxRecDepth 100000 in
theorem vp_Model_walk : mj_pl y_big (mj_wm y_Y m_Model_walk) [1831, 1353, 1355, 1359, 1404, 1405, 1388, 1418, 1425, 1426, 1417, 1419, 1720, 128, 1722, 91, 1748, 128, 1750, 96, 1776, 128, 1778, 103, 1788, 128, 1790, 106, 1804, 128, 1806, 110, 1808, 128, 1810, 111, 1744, 128, 1746, 95, 1832, 128, 1834, 117, 1772, 128, 1774, 102, 1836, 128, 1838, 118] = true := by decide +kernel
set_option maxRecDepth 100000 in
theorem vp_Model_wants : mj_pl y_big (mj_wm y_Y m_Model_wants) [1835, 1353, 1368, 1392, 1393, 1396, 1397, 1398, 1403, 1409, 1411, 1418, 1406, 1419, 1748, 128, 1750, 96, 1804, 128, 1806, 110, 1808, 128, 1810, 111, 1812, 128, 1814, 112, 1744, 128, 1746, 95] = true := by decide +kernel
set_option maxRecDepth 100000 in
theorem vp_Model_makeAll : mj_pl y_big (mj_wm y_Y m_Model_makeAll) [1839, 1355, 1359, 1423, 1424, 1388, 1391, 1422, 1784, 128, 1786, 105, 1792, 128, 1794, 107, 1804, 128, 1806, 110, 1768, 128, 1770, 101] = true := by decide +kernel
set_option maxRecDepth 100000 in
theorem vp_Model_result : mj_pl y_big (mj_wm y_Y m_Model_result) [1843, 1388, 1389, 1390, 1764, 128, 1766, 100] = true := by decide +kernel
set_option maxRecDepth 100000 in
theorem vp_Model_told : mj_pl y_big (mj_wm y_Y m_Model_told) [1847, 1392, 1393, 1395, 1383, 1388, 1391, 1387, 1385, 1386, 1389, 1390, 1800, 128, 1802, 109, 1764, 128, 1766, 100] = true := by decide +kernel
set_option maxRecDepth 100000 in
theorem vp_Model_part : mj_pl y_big (mj_wm y_Y m_Model_part) [1851, 1392, 1394, 1395, 1400, 1401, 1383, 1388, 1418, 1406, 1419, 1389, 1390, 1832, 128, 1834, 117, 1752, 128, 1754, 97] = true := by decide +kernel
set_option maxRecDepth 100000 in
theorem vp_Model_clear : mj_pl y_big (mj_wm y_Y m_Model_clear) [1855, 1346, 1351, 1383] = true := by decide +kernel
set_option maxRecDepth 100000 in
theorem vp_Arrays_copyOf0 : mj_pl y_big (mj_wm y_Y m_Arrays_copyOf0) [359, 368, 370, 369, 130, 367, 163, 123, 164] = true := by decide +kernel
set_option maxRecDepth 100000 in
theorem vp_String_indexOf0 : mj_pl y_big (mj_wm y_Y m_String_indexOf0) [563, 564, 137, 565, 566] = true := by decide +kernel
set_option maxRecDepth 100000 in
theorem vp_String_indexOf1 : mj_pl y_big (mj_wm y_Y m_String_indexOf1) [567, 1876, 568, 137, 569, 570, 574, 137, 575, 576, 582, 138, 583] = true := by decide +kernel
set_option maxRecDepth 100000 in
theorem vp_String_isLatin1 : mj_pl y_big (mj_wm y_Y m_String_isLatin1) [571, 1875, 572] = true := by decide +kernel
set_option maxRecDepth 100000 in
theorem vp_String_length : mj_pl y_big (mj_wm y_Y m_String_length) [577, 1876, 578, 137, 579, 580] = true := by decide +kernel
set_option maxRecDepth 100000 in
theorem vp_String_coder : mj_pl y_big (mj_wm y_Y m_String_coder) [581, 1875, 572] = true := by decide +kernel
set_option maxRecDepth 100000 in
theorem vp_Latin1_indexOf : mj_pl y_big (mj_wm y_Y m_Latin1_indexOf) [584, 589, 163, 123, 164, 585, 138, 586, 588, 166, 123, 167, 590, 138, 591] = true := by decide +kernel
set_option maxRecDepth 100000 in
theorem vp_Latin1_canEncode : mj_pl y_big (mj_wm y_Y m_Latin1_canEncode) [587] = true := by decide +kernel
set_option maxRecDepth 100000 in
theorem vp_Latin1_indexOfChar : mj_pl y_big (mj_wm y_Y m_Latin1_indexOfChar) [592] = true := by decide +kernel
set_option maxRecDepth 100000 in
theorem vp_List_init : mj_pl y_big (mj_wm y_Y m_List_init) [430, 440, 431, 134, 432, 438] = true := by decide +kernel
set_option maxRecDepth 100000 in
theorem vp_AList_init : mj_pl y_big (mj_wm y_Y m_AList_init) [433, 442, 434, 133, 435] = true := by decide +kernel
set_option maxRecDepth 100000 in
theorem vp_AColl_init : mj_pl y_big (mj_wm y_Y m_AColl_init) [436, 437, 153, 154] = true := by decide +kernel
set_option maxRecDepth 100000 in
theorem vp_List_size : mj_pl y_big (mj_wm y_Y m_List_size) [669, 441] = true := by decide +kernel
set_option maxRecDepth 100000 in
theorem vp_List_add0 : mj_pl y_big (mj_wm y_Y m_List_add0) [715, 440, 441, 443, 444, 716, 135, 718, 11] = true := by decide +kernel
set_option maxRecDepth 100000 in
theorem vp_List_add1 : mj_pl y_big (mj_wm y_Y m_List_add1) [719, 441, 720, 135, 722, 12] = true := by decide +kernel
set_option maxRecDepth 100000 in
theorem vp_List_grow0 : mj_pl y_big (mj_wm y_Y m_List_grow0) [723, 441, 724, 135, 726, 13] = true := by decide +kernel
set_option maxRecDepth 100000 in
theorem vp_List_grow1 : mj_pl y_big (mj_wm y_Y m_List_grow1) [727, 440, 736, 129, 737, 728, 143, 729, 763, 166, 123, 167, 438] = true := by decide +kernel
set_option maxRecDepth 100000 in
theorem vp_Support_newLength : mj_pl y_big (mj_wm y_Y m_Support_newLength) [730, 731, 166, 123, 167, 732] = true := by decide +kernel
set_option maxRecDepth 100000 in
theorem vp_Arrays_copyOf1 : mj_pl y_big (mj_wm y_Y m_Arrays_copyOf1) [738, 757, 129, 758] = true := by decide +kernel
set_option maxRecDepth 100000 in
theorem vp_Arrays_copyOf2 : mj_pl y_big (mj_wm y_Y m_Arrays_copyOf2) [759, 368, 370, 369, 130, 367, 163, 123, 164] = true := by decide +kernel
set_option maxRecDepth 100000 in
theorem vp_List_get : mj_pl y_big (mj_wm y_Y m_List_get) [925, 441, 926, 145, 927, 932, 135, 933, 934] = true := by decide +kernel
set_option maxRecDepth 100000 in
theorem vp_Objects_checkIndex : mj_pl y_big (mj_wm y_Y m_Objects_checkIndex) [928, 929, 140, 930] = true := by decide +kernel
set_option maxRecDepth 100000 in
theorem vp_Pre_checkIndex : mj_pl y_big (mj_wm y_Y m_Pre_checkIndex) [931] = true := by decide +kernel
set_option maxRecDepth 100000 in
theorem vp_List_elementData : mj_pl y_big (mj_wm y_Y m_List_elementData) [935, 440] = true := by decide +kernel
set_option maxRecDepth 100000 in
theorem vp_Law_law : mj_pl y_big (mj_wm y_Y m_Law_law) [0, 149, 121, 150, 1337, 128, 1338, 345, 121, 346, 347, 1595, 128, 1596, 1597, 371, 121, 372, 373, 1603, 128, 1604, 1605, 1008, 121, 1009, 1010, 1700, 128, 1701, 1702, 1021, 121, 1022, 1023, 1736, 128, 1737, 1738, 1033, 121, 1034, 1035, 1740, 128, 1741, 1742, 1311, 121, 1312, 1313, 1844, 128, 1845, 1846, 1323, 121, 1324, 1325, 1848, 128, 1849, 1850, 1331, 121, 1332, 1333, 1852, 128, 1853, 1854, 147, 1335] = true := by decide +kernel
set_option maxRecDepth 100000 in
theorem vc_Frame : mj_pl y_big (mj_wC (y_cl.getD 0 ("", T_Row, 0))) [204, 126, 221, 223, 225, 227, 229, 231, 233] = true := by decide +kernel
set_option maxRecDepth 100000 in
theorem vc_Heap : mj_pl y_big (mj_wC (y_cl.getD 1 ("", T_Row, 0))) [180, 125, 191, 193, 195, 197] = true := by decide +kernel
set_option maxRecDepth 100000 in
theorem vc_Machine : mj_pl y_big (mj_wC (y_cl.getD 2 ("", T_Row, 0))) [174, 124, 297, 299, 301, 303, 305, 307, 309, 311, 313, 315, 317, 319, 321, 323, 325, 327, 329] = true := by decide +kernel
set_option maxRecDepth 100000 in
theorem vc_Pieces : mj_pl y_big (mj_wC (y_cl.getD 3 ("", T_Row, 0))) [378, 132, 399, 401, 403, 405, 407, 409, 411, 413, 415, 417, 419] = true := by decide +kernel
set_option maxRecDepth 100000 in
theorem vc_Program : mj_pl y_big (mj_wC (y_cl.getD 4 ("", T_Row, 0))) [237, 127, 257, 259, 261, 263, 265, 267, 269, 271, 273] = true := by decide +kernel
set_option maxRecDepth 100000 in
theorem vc_Reader : mj_pl y_big (mj_wC (y_cl.getD 5 ("", T_Row, 0))) [376, 131, 494, 496, 498, 500, 502, 504, 506, 508] = true := by decide +kernel
set_option maxRecDepth 100000 in
theorem vc_Row : mj_pl y_big (mj_wC (y_cl.getD 6 ("", T_Row, 0))) [156, 122, 169] = true := by decide +kernel
set_option maxRecDepth 100000 in
theorem vc_Scope : mj_pl y_big (mj_wC (y_cl.getD 7 ("", T_Row, 0))) [455, 136, 470, 472, 474, 476, 478, 480] = true := by decide +kernel
set_option maxRecDepth 100000 in
theorem vc_Term : mj_pl y_big (mj_wC (y_cl.getD 8 ("", T_Row, 0))) [802, 144, 833, 835, 837, 839, 841, 843, 845, 847, 849] = true := by decide +kernel
set_option maxRecDepth 100000 in
theorem vc_Unit : mj_pl y_big (mj_wC (y_cl.getD 9 ("", T_Row, 0))) [665, 142, 692, 694, 696, 698, 700, 702, 704, 706, 708] = true := by decide +kernel
set_option maxRecDepth 100000 in
theorem vc_Writer : mj_pl y_big (mj_wC (y_cl.getD 10 ("", T_Row, 0))) [943, 146, 949] = true := by decide +kernel
set_option maxRecDepth 100000 in
theorem vc_Main : mj_pl y_big (mj_wC (y_cl.getD 11 ("", T_Row, 0))) [148, 121, 336, 338, 340, 342] = true := by decide +kernel
set_option maxRecDepth 100000 in
theorem vc_Model : mj_pl y_big (mj_wC (y_cl.getD 12 ("", T_Row, 0))) [1336, 128, 1427, 1429, 1431, 1433, 1435, 1437, 1439, 1441, 1443, 1445, 1447, 1449, 1451, 1453, 1455, 1457, 1459, 1461, 1463, 1465, 1467, 1469, 1471, 1473, 1475, 1477, 1479, 1481, 1483, 1485, 1487, 1489, 1491, 1493, 1495, 1497, 1499, 1501, 1503, 1505, 1507, 1509, 1511, 1513, 1515, 1517, 1519, 1521, 1523, 1525, 1527, 1529, 1531, 1533, 1535, 1537, 1539, 1541, 1543, 1545, 1547, 1549, 1551, 1553, 1555, 1557, 1559, 1561, 1563, 1565, 1567, 1569, 1571, 1573, 1575, 1577, 1579, 1581, 1583, 1585, 1587, 1589, 1591] = true := by decide +kernel
set_option maxRecDepth 100000 in
theorem vc_List : mj_pl y_big (mj_wC (y_cl.getD 13 ("", T_Row, 0))) [427, 135, 445, 447, 449] = true := by decide +kernel
set_option maxRecDepth 100000 in
theorem va_arr : mj_pl y_big (y_ta.flatMap mj_wA) [1594, 172, 203, 463] = true := by decide +kernel
