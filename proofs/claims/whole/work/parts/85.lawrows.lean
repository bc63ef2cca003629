set_option maxRecDepth 20000 in
theorem ggL_law_X9_init_h : GoodIn wsL_law [Cond.code yX9_init cX9_init 2 none] := goodIn_r _ [8] (by decide +kernel) (by decide +kernel)
set_option maxRecDepth 20000 in
theorem ggL_law_X9_init_0 : GoodIn wsL_law wsX9_init_r1 := goodIn_r _ [9, 10, 11, 12, 13, 14, 15, 16, 17, 18, 19, 20, 21, 22, 23, 24, 25, 26, 27, 28, 29, 30, 31, 32] (by decide +kernel) (by decide +kernel)
set_option maxRecDepth 20000 in
theorem ggL_law_X9_init_1 : GoodIn wsL_law wsX9_init_r2 := goodIn_r _ [33, 34, 35, 36, 37, 38, 39, 40, 41, 42, 43, 44, 45, 46, 47, 48, 49, 50, 51, 52, 53, 54, 55, 56] (by decide +kernel) (by decide +kernel)
set_option maxRecDepth 20000 in
theorem ggL_law_X9_init_2 : GoodIn wsL_law wsX9_init_r3 := goodIn_r _ [57, 58, 59, 60, 61, 62, 63, 64, 65, 66, 67, 68, 69, 70, 71, 72, 73, 74, 75, 76, 77, 78, 79, 80] (by decide +kernel) (by decide +kernel)
set_option maxRecDepth 20000 in
theorem ggL_law_X9_init_3 : GoodIn wsL_law wsX9_init_r4 := goodIn_r _ [81, 82, 83, 84, 85, 86, 87, 88, 89, 90, 91, 92, 93, 94, 95, 96, 97, 98, 99, 100, 101, 102, 103, 104] (by decide +kernel) (by decide +kernel)
set_option maxRecDepth 20000 in
theorem ggL_law_X9_init_4 : GoodIn wsL_law wsX9_init_r5 := goodIn_r _ [105, 106, 107, 108, 109, 110, 111, 112, 113, 114, 115, 116, 117, 118, 119, 120, 121, 122, 123, 124] (by decide +kernel) (by decide +kernel)
set_option maxRecDepth 20000 in
theorem ggL_law_X9_init_5 : GoodIn wsL_law wsX70 := goodIn_r _ [1043, 1044, 1045, 1046, 1047, 1048, 1049] (by decide +kernel) (by decide +kernel)
set_option maxRecDepth 20000 in
theorem ggL_law_X9_init_6 : GoodIn wsL_law wsX90 := goodIn_r _ [1009, 1010, 1011, 1012, 1013, 1014, 1015, 1016, 1017] (by decide +kernel) (by decide +kernel)
set_option maxRecDepth 20000 in
theorem ggL_law_X9_init_7 : GoodIn wsL_law wsX80 := goodIn_r _ [1050, 1051, 1052, 1053, 1054, 1055, 1056] (by decide +kernel) (by decide +kernel)
set_option maxRecDepth 20000 in
theorem ggL_law_X9_init_8 : GoodIn wsL_law wsX50 := goodIn_r _ [1057, 1058, 1059, 1060, 1061] (by decide +kernel) (by decide +kernel)
set_option maxRecDepth 20000 in
theorem ggL_law_X9_init_9 : GoodIn wsL_law wsX60 := goodIn_r _ [1062, 1063, 1064, 1065, 1066] (by decide +kernel) (by decide +kernel)
set_option maxRecDepth 20000 in
theorem ggL_law_X9_init_10 : GoodIn wsL_law wsX10 := goodIn_r _ [1067, 1068, 1069, 1070] (by decide +kernel) (by decide +kernel)
set_option maxRecDepth 20000 in
theorem ggL_law_X9_init_11 : GoodIn wsL_law wsX20 := goodIn_r _ [1071, 1072, 1073, 1074, 1075] (by decide +kernel) (by decide +kernel)
set_option maxRecDepth 20000 in
theorem ggL_law_X9_init_12 : GoodIn wsL_law wsX40 := goodIn_r _ [1076, 1077, 1078, 1079, 1080, 1081, 1082, 1083] (by decide +kernel) (by decide +kernel)
set_option maxRecDepth 20000 in
theorem ggL_law_X9_init_13 : GoodIn wsL_law wsX30 := goodIn_r _ [1084, 1085, 1086] (by decide +kernel) (by decide +kernel)
theorem ggL_law_X9_init : GoodIn wsL_law wsX9_init := goodIn_app ggL_law_X9_init_h (goodIn_app (goodIn_app (goodIn_app (goodIn_app (goodIn_app (goodIn_app (goodIn_app (goodIn_app (goodIn_app (goodIn_app ggL_law_X9_init_0 (goodIn_app ggL_law_X9_init_1 (goodIn_app ggL_law_X9_init_2 (goodIn_app ggL_law_X9_init_3 ggL_law_X9_init_4)))) ggL_law_X9_init_5) ggL_law_X9_init_6) ggL_law_X9_init_7) ggL_law_X9_init_8) ggL_law_X9_init_9) ggL_law_X9_init_10) ggL_law_X9_init_11) ggL_law_X9_init_12) ggL_law_X9_init_13)
set_option maxRecDepth 20000 in
theorem gL_law_X9_init : GoodIn wsL_law (wsX9_init) := ggL_law_X9_init
set_option maxRecDepth 20000 in
theorem ggL_law_X10_init_h : GoodIn wsL_law [Cond.code yX10_init cX10_init 1 none] := goodIn_r _ [127] (by decide +kernel) (by decide +kernel)
set_option maxRecDepth 20000 in
theorem ggL_law_X10_init_0 : GoodIn wsL_law ([.methodLink RX10 1 objectInit, .instanceMethod objectInit, .code objectInit ⟨#[0xb1]⟩ 1 none, .arrayClass .int, .fieldLink RX10 7 "StageTruthsModel" "now" "[I", .fieldLink RX10 13 "StageTruthsModel" "history" "[I", .fieldLink RX10 16 "StageTruthsModel" "slot" "[I", .fieldLink RX10 19 "StageTruthsModel" "like" "[I", .fieldLink RX10 22 "StageTruthsModel" "leadsThen" "[I", .arrayClass .char, .fieldLink RX10 25 "StageTruthsModel" "text" "[C", .fieldLink RX10 29 "StageTruthsModel" "signs" "[I", .fieldLink RX10 32 "StageTruthsModel" "waiting" "[I", .fieldLink RX10 35 "StageTruthsModel" "stack" "[I", .fieldLink RX10 38 "StageTruthsModel" "op" "[I", .fieldLink RX10 41 "StageTruthsModel" "left" "[I", .fieldLink RX10 44 "StageTruthsModel" "right" "[I", .constant RX10 47 (91000), .fieldLink RX10 48 "StageTruthsModel" "where" "[I", .fieldLink RX10 51 "StageTruthsModel" "given" "[I", .fieldLink RX10 54 "StageTruthsModel" "goal" "[I", .fieldLink RX10 57 "StageTruthsModel" "phase" "[I", .fieldLink RX10 60 "StageTruthsModel" "option" "[I", .fieldLink RX10 63 "StageTruthsModel" "start" "[I"] : List Cond) := goodIn_r _ [128, 10, 11, 37, 129, 130, 131, 132, 133, 134, 135, 136, 137, 138, 139, 140, 141, 142, 143, 144, 145, 146, 147, 148] (by decide +kernel) (by decide +kernel)
set_option maxRecDepth 20000 in
theorem ggL_law_X10_init_1 : GoodIn wsL_law wsX100 := goodIn_r _ [1018, 1019, 1020, 1021, 1022, 1023, 1024, 1025, 1026, 1027, 1028, 1029, 1030, 1031, 1032, 1033, 1034, 1035, 1036, 1037, 1038, 1039, 1040, 1041, 1042] (by decide +kernel) (by decide +kernel)
theorem ggL_law_X10_init : GoodIn wsL_law wsX10_init := goodIn_app ggL_law_X10_init_h (goodIn_app ggL_law_X10_init_0 ggL_law_X10_init_1)
set_option maxRecDepth 20000 in
theorem gL_law_X10_init : GoodIn wsL_law (wsX10_init) := ggL_law_X10_init
set_option maxRecDepth 20000 in
theorem ggL_law_X9_addStage_h : GoodIn wsL_law [Cond.code yX9_addStage cX9_addStage 2 (some .int)] := goodIn_r _ [152] (by decide +kernel) (by decide +kernel)
set_option maxRecDepth 20000 in
theorem ggL_law_X9_addStage_0 : GoodIn wsL_law wsX9_addStage_r1 := goodIn_r _ [15, 153, 154, 155, 156, 14, 157, 36, 158, 159, 160, 2, 161, 17, 16, 162, 163, 164, 165, 38, 39, 41, 166, 167] (by decide +kernel) (by decide +kernel)
set_option maxRecDepth 20000 in
theorem ggL_law_X9_addStage_1 : GoodIn wsL_law wsX9_addStage_r2 := goodIn_r _ [168, 169, 170, 171, 172, 173, 174, 175] (by decide +kernel) (by decide +kernel)
set_option maxRecDepth 20000 in
theorem ggL_law_X9_addStage_2 : GoodIn wsL_law wsX90 := goodIn_r _ [1009, 1010, 1011, 1012, 1013, 1014, 1015, 1016, 1017] (by decide +kernel) (by decide +kernel)
set_option maxRecDepth 20000 in
theorem ggL_law_X9_addStage_3 : GoodIn wsL_law wsX70 := goodIn_r _ [1043, 1044, 1045, 1046, 1047, 1048, 1049] (by decide +kernel) (by decide +kernel)
theorem ggL_law_X9_addStage : GoodIn wsL_law wsX9_addStage := goodIn_app ggL_law_X9_addStage_h (goodIn_app (goodIn_app (goodIn_app ggL_law_X9_addStage_0 ggL_law_X9_addStage_1) ggL_law_X9_addStage_2) ggL_law_X9_addStage_3)
set_option maxRecDepth 20000 in
theorem gL_law_X9_addStage : GoodIn wsL_law (wsV RL 13 RX9 yX9_addStage wsX9_addStage) := goodIn_app (goodIn_of _ (by decide +kernel)) ggL_law_X9_addStage
set_option maxRecDepth 20000 in
theorem ggL_law_X10_addStage_h : GoodIn wsL_law [Cond.code yX10_addStage cX10_addStage 4 (some .int)] := goodIn_r _ [179] (by decide +kernel) (by decide +kernel)
set_option maxRecDepth 20000 in
theorem ggL_law_X10_addStage_0 : GoodIn wsL_law ([.fieldLink RX10 7 "StageTruthsModel" "now" "[I", .methodLink RX10 86 yX10_noStage, .instanceMethod yX10_noStage, .selects RX10 yX10_noStage yX10_noStage, .initialized RX10, .code yX10_noStage cX10_noStage 2 (some .boolean), .methodLink RX10 66 yX10_in, .static yX10_in, .code yX10_in cX10_in 3 (some .boolean), .methodLink RX10 89 yX10_record, .instanceMethod yX10_record, .selects RX10 yX10_record yX10_record, .code yX10_record cX10_record 2 none, .fieldLink RX10 74 "StageTruthsModel" "kept" "I", .fieldLink RX10 13 "StageTruthsModel" "history" "[I", .methodLink RX10 78 yX10_leadsTo, .instanceMethod yX10_leadsTo, .selects RX10 yX10_leadsTo yX10_leadsTo, .code yX10_leadsTo cX10_leadsTo 3 (some .boolean)] : List Cond) := goodIn_r _ [129, 180, 181, 182, 5, 183, 184, 185, 186, 187, 188, 189, 190, 191, 130, 192, 193, 194, 195] (by decide +kernel) (by decide +kernel)
set_option maxRecDepth 20000 in
theorem ggL_law_X10_addStage_1 : GoodIn wsL_law wsX100 := goodIn_r _ [1018, 1019, 1020, 1021, 1022, 1023, 1024, 1025, 1026, 1027, 1028, 1029, 1030, 1031, 1032, 1033, 1034, 1035, 1036, 1037, 1038, 1039, 1040, 1041, 1042] (by decide +kernel) (by decide +kernel)
theorem ggL_law_X10_addStage : GoodIn wsL_law wsX10_addStage := goodIn_app ggL_law_X10_addStage_h (goodIn_app ggL_law_X10_addStage_0 ggL_law_X10_addStage_1)
set_option maxRecDepth 20000 in
theorem gL_law_X10_addStage : GoodIn wsL_law (wsV RL 17 RX10 yX10_addStage wsX10_addStage) := goodIn_app (goodIn_of _ (by decide +kernel)) ggL_law_X10_addStage
set_option maxRecDepth 20000 in
theorem ggL_law_X9_lead_h : GoodIn wsL_law [Cond.code yX9_lead cX9_lead 4 (some .int)] := goodIn_r _ [199] (by decide +kernel) (by decide +kernel)
set_option maxRecDepth 20000 in
theorem ggL_law_X9_lead_0 : GoodIn wsL_law wsX9_lead_r1 := goodIn_r _ [15, 200, 154, 155, 156, 14, 157, 36, 201, 174, 2, 175, 158, 159, 160, 161, 17, 16, 162, 163, 164, 165, 38, 39] (by decide +kernel) (by decide +kernel)
set_option maxRecDepth 20000 in
theorem ggL_law_X9_lead_1 : GoodIn wsL_law wsX9_lead_r2 := goodIn_r _ [41, 202, 203, 204, 205, 206, 207, 208, 209, 210, 211, 212, 213, 214, 215, 216, 170, 171, 172, 173, 217, 218, 219, 220] (by decide +kernel) (by decide +kernel)
set_option maxRecDepth 20000 in
theorem ggL_law_X9_lead_2 : GoodIn wsL_law wsX90 := goodIn_r _ [1009, 1010, 1011, 1012, 1013, 1014, 1015, 1016, 1017] (by decide +kernel) (by decide +kernel)
set_option maxRecDepth 20000 in
theorem ggL_law_X9_lead_3 : GoodIn wsL_law wsX70 := goodIn_r _ [1043, 1044, 1045, 1046, 1047, 1048, 1049] (by decide +kernel) (by decide +kernel)
theorem ggL_law_X9_lead : GoodIn wsL_law wsX9_lead := goodIn_app ggL_law_X9_lead_h (goodIn_app (goodIn_app (goodIn_app ggL_law_X9_lead_0 ggL_law_X9_lead_1) ggL_law_X9_lead_2) ggL_law_X9_lead_3)
set_option maxRecDepth 20000 in
theorem gL_law_X9_lead : GoodIn wsL_law (wsV RL 18 RX9 yX9_lead wsX9_lead) := goodIn_app (goodIn_of _ (by decide +kernel)) ggL_law_X9_lead
set_option maxRecDepth 20000 in
theorem ggL_law_X10_lead_h : GoodIn wsL_law [Cond.code yX10_lead cX10_lead 7 (some .int)] := goodIn_r _ [224] (by decide +kernel) (by decide +kernel)
set_option maxRecDepth 20000 in
theorem ggL_law_X10_lead_0 : GoodIn wsL_law wsX10_lead_r1 := goodIn_r _ [129, 180, 181, 182, 5, 183, 184, 185, 186, 192, 193, 194, 195, 187, 188, 189, 190, 191, 130, 225, 226, 227, 228, 229] (by decide +kernel) (by decide +kernel)
set_option maxRecDepth 20000 in
theorem ggL_law_X10_lead_1 : GoodIn wsL_law wsX10_lead_r2 := goodIn_r _ [230, 231, 232, 233, 234, 235] (by decide +kernel) (by decide +kernel)
set_option maxRecDepth 20000 in
theorem ggL_law_X10_lead_2 : GoodIn wsL_law wsX100 := goodIn_r _ [1018, 1019, 1020, 1021, 1022, 1023, 1024, 1025, 1026, 1027, 1028, 1029, 1030, 1031, 1032, 1033, 1034, 1035, 1036, 1037, 1038, 1039, 1040, 1041, 1042] (by decide +kernel) (by decide +kernel)
theorem ggL_law_X10_lead : GoodIn wsL_law wsX10_lead := goodIn_app ggL_law_X10_lead_h (goodIn_app (goodIn_app ggL_law_X10_lead_0 ggL_law_X10_lead_1) ggL_law_X10_lead_2)
set_option maxRecDepth 20000 in
theorem gL_law_X10_lead : GoodIn wsL_law (wsV RL 22 RX10 yX10_lead wsX10_lead) := goodIn_app (goodIn_of _ (by decide +kernel)) ggL_law_X10_lead
set_option maxRecDepth 20000 in
theorem ggL_law_X9_learn_h : GoodIn wsL_law [Cond.code yX9_learn cX9_learn 3 (some .int)] := goodIn_r _ [239] (by decide +kernel) (by decide +kernel)
set_option maxRecDepth 20000 in
theorem ggL_law_X9_learn_0 : GoodIn wsL_law wsX9_learn_r1 := goodIn_r _ [15, 240, 200, 154, 155, 156, 14, 157, 36, 241, 242, 2, 243, 201, 174, 175, 158, 159, 160, 161, 17, 16, 162, 163] (by decide +kernel) (by decide +kernel)
set_option maxRecDepth 20000 in
theorem ggL_law_X9_learn_1 : GoodIn wsL_law wsX9_learn_r2 := goodIn_r _ [164, 165, 38, 39, 41, 244, 218, 219, 220, 245, 246, 247, 248] (by decide +kernel) (by decide +kernel)
set_option maxRecDepth 20000 in
theorem ggL_law_X9_learn_2 : GoodIn wsL_law wsX90 := goodIn_r _ [1009, 1010, 1011, 1012, 1013, 1014, 1015, 1016, 1017] (by decide +kernel) (by decide +kernel)
set_option maxRecDepth 20000 in
theorem ggL_law_X9_learn_3 : GoodIn wsL_law wsX70 := goodIn_r _ [1043, 1044, 1045, 1046, 1047, 1048, 1049] (by decide +kernel) (by decide +kernel)
theorem ggL_law_X9_learn : GoodIn wsL_law wsX9_learn := goodIn_app ggL_law_X9_learn_h (goodIn_app (goodIn_app (goodIn_app ggL_law_X9_learn_0 ggL_law_X9_learn_1) ggL_law_X9_learn_2) ggL_law_X9_learn_3)
set_option maxRecDepth 20000 in
theorem gL_law_X9_learn : GoodIn wsL_law (wsV RL 23 RX9 yX9_learn wsX9_learn) := goodIn_app (goodIn_of _ (by decide +kernel)) ggL_law_X9_learn
set_option maxRecDepth 20000 in
theorem ggL_law_X10_learn_h : GoodIn wsL_law [Cond.code yX10_learn cX10_learn 4 (some .int)] := goodIn_r _ [252] (by decide +kernel) (by decide +kernel)
set_option maxRecDepth 20000 in
theorem ggL_law_X10_learn_0 : GoodIn wsL_law ([.fieldLink RX10 7 "StageTruthsModel" "now" "[I", .methodLink RX10 86 yX10_noStage, .instanceMethod yX10_noStage, .selects RX10 yX10_noStage yX10_noStage, .initialized RX10, .code yX10_noStage cX10_noStage 2 (some .boolean), .methodLink RX10 66 yX10_in, .static yX10_in, .code yX10_in cX10_in 3 (some .boolean), .methodLink RX10 89 yX10_record, .instanceMethod yX10_record, .selects RX10 yX10_record yX10_record, .code yX10_record cX10_record 2 none, .fieldLink RX10 74 "StageTruthsModel" "kept" "I", .fieldLink RX10 13 "StageTruthsModel" "history" "[I", .methodLink RX10 78 yX10_leadsTo, .instanceMethod yX10_leadsTo, .selects RX10 yX10_leadsTo yX10_leadsTo, .code yX10_leadsTo cX10_leadsTo 3 (some .boolean), .methodLink RX10 99 yX10_knownAt, .instanceMethod yX10_knownAt, .selects RX10 yX10_knownAt yX10_knownAt, .code yX10_knownAt cX10_knownAt 4 (some .int)] : List Cond) := goodIn_r _ [129, 180, 181, 182, 5, 183, 184, 185, 186, 187, 188, 189, 190, 191, 130, 192, 193, 194, 195, 253, 254, 255, 256] (by decide +kernel) (by decide +kernel)
set_option maxRecDepth 20000 in
theorem ggL_law_X10_learn_1 : GoodIn wsL_law wsX100 := goodIn_r _ [1018, 1019, 1020, 1021, 1022, 1023, 1024, 1025, 1026, 1027, 1028, 1029, 1030, 1031, 1032, 1033, 1034, 1035, 1036, 1037, 1038, 1039, 1040, 1041, 1042] (by decide +kernel) (by decide +kernel)
theorem ggL_law_X10_learn : GoodIn wsL_law wsX10_learn := goodIn_app ggL_law_X10_learn_h (goodIn_app ggL_law_X10_learn_0 ggL_law_X10_learn_1)
set_option maxRecDepth 20000 in
theorem gL_law_X10_learn : GoodIn wsL_law (wsV RL 26 RX10 yX10_learn wsX10_learn) := goodIn_app (goodIn_of _ (by decide +kernel)) ggL_law_X10_learn
set_option maxRecDepth 20000 in
theorem ggL_law_X9_forget_h : GoodIn wsL_law [Cond.code yX9_forget cX9_forget 3 (some .int)] := goodIn_r _ [260] (by decide +kernel) (by decide +kernel)
set_option maxRecDepth 20000 in
theorem ggL_law_X9_forget_0 : GoodIn wsL_law wsX9_forget_r1 := goodIn_r _ [15, 240, 154, 155, 156, 14, 157, 36, 241, 242, 2, 243, 201, 174, 175, 158, 159, 160, 161, 17, 16, 162, 163, 164] (by decide +kernel) (by decide +kernel)
set_option maxRecDepth 20000 in
theorem ggL_law_X9_forget_1 : GoodIn wsL_law wsX9_forget_r2 := goodIn_r _ [165, 38, 39, 41, 261, 171, 172, 173, 262, 263, 264, 265, 245, 246, 247, 248] (by decide +kernel) (by decide +kernel)
set_option maxRecDepth 20000 in
theorem ggL_law_X9_forget_2 : GoodIn wsL_law wsX90 := goodIn_r _ [1009, 1010, 1011, 1012, 1013, 1014, 1015, 1016, 1017] (by decide +kernel) (by decide +kernel)
set_option maxRecDepth 20000 in
theorem ggL_law_X9_forget_3 : GoodIn wsL_law wsX70 := goodIn_r _ [1043, 1044, 1045, 1046, 1047, 1048, 1049] (by decide +kernel) (by decide +kernel)
theorem ggL_law_X9_forget : GoodIn wsL_law wsX9_forget := goodIn_app ggL_law_X9_forget_h (goodIn_app (goodIn_app (goodIn_app ggL_law_X9_forget_0 ggL_law_X9_forget_1) ggL_law_X9_forget_2) ggL_law_X9_forget_3)
set_option maxRecDepth 20000 in
theorem gL_law_X9_forget : GoodIn wsL_law (wsV RL 27 RX9 yX9_forget wsX9_forget) := goodIn_app (goodIn_of _ (by decide +kernel)) ggL_law_X9_forget
set_option maxRecDepth 20000 in
theorem ggL_law_X10_forget_h : GoodIn wsL_law [Cond.code yX10_forget cX10_forget 4 (some .int)] := goodIn_r _ [269] (by decide +kernel) (by decide +kernel)
set_option maxRecDepth 20000 in
theorem ggL_law_X10_forget_0 : GoodIn wsL_law ([.fieldLink RX10 7 "StageTruthsModel" "now" "[I", .methodLink RX10 86 yX10_noStage, .instanceMethod yX10_noStage, .selects RX10 yX10_noStage yX10_noStage, .initialized RX10, .code yX10_noStage cX10_noStage 2 (some .boolean), .methodLink RX10 66 yX10_in, .static yX10_in, .code yX10_in cX10_in 3 (some .boolean), .methodLink RX10 89 yX10_record, .instanceMethod yX10_record, .selects RX10 yX10_record yX10_record, .code yX10_record cX10_record 2 none, .fieldLink RX10 74 "StageTruthsModel" "kept" "I", .fieldLink RX10 13 "StageTruthsModel" "history" "[I", .methodLink RX10 78 yX10_leadsTo, .instanceMethod yX10_leadsTo, .selects RX10 yX10_leadsTo yX10_leadsTo, .code yX10_leadsTo cX10_leadsTo 3 (some .boolean), .methodLink RX10 99 yX10_knownAt, .instanceMethod yX10_knownAt, .selects RX10 yX10_knownAt yX10_knownAt, .code yX10_knownAt cX10_knownAt 4 (some .int)] : List Cond) := goodIn_r _ [129, 180, 181, 182, 5, 183, 184, 185, 186, 187, 188, 189, 190, 191, 130, 192, 193, 194, 195, 253, 254, 255, 256] (by decide +kernel) (by decide +kernel)
set_option maxRecDepth 20000 in
theorem ggL_law_X10_forget_1 : GoodIn wsL_law wsX100 := goodIn_r _ [1018, 1019, 1020, 1021, 1022, 1023, 1024, 1025, 1026, 1027, 1028, 1029, 1030, 1031, 1032, 1033, 1034, 1035, 1036, 1037, 1038, 1039, 1040, 1041, 1042] (by decide +kernel) (by decide +kernel)
theorem ggL_law_X10_forget : GoodIn wsL_law wsX10_forget := goodIn_app ggL_law_X10_forget_h (goodIn_app ggL_law_X10_forget_0 ggL_law_X10_forget_1)
set_option maxRecDepth 20000 in
theorem gL_law_X10_forget : GoodIn wsL_law (wsV RL 30 RX10 yX10_forget wsX10_forget) := goodIn_app (goodIn_of _ (by decide +kernel)) ggL_law_X10_forget
set_option maxRecDepth 20000 in
theorem ggL_law_X9_removeStage_h : GoodIn wsL_law [Cond.code yX9_removeStage cX9_removeStage 2 (some .int)] := goodIn_r _ [273] (by decide +kernel) (by decide +kernel)
set_option maxRecDepth 20000 in
theorem ggL_law_X9_removeStage_0 : GoodIn wsL_law wsX9_removeStage_r1 := goodIn_r _ [15, 153, 154, 155, 156, 14, 157, 36, 158, 159, 160, 2, 161, 17, 16, 162, 163, 164, 165, 38, 39, 41, 274, 275] (by decide +kernel) (by decide +kernel)
set_option maxRecDepth 20000 in
theorem ggL_law_X9_removeStage_1 : GoodIn wsL_law wsX9_removeStage_r2 := goodIn_r _ [276, 277] (by decide +kernel) (by decide +kernel)
set_option maxRecDepth 20000 in
theorem ggL_law_X9_removeStage_2 : GoodIn wsL_law wsX90 := goodIn_r _ [1009, 1010, 1011, 1012, 1013, 1014, 1015, 1016, 1017] (by decide +kernel) (by decide +kernel)
set_option maxRecDepth 20000 in
theorem ggL_law_X9_removeStage_3 : GoodIn wsL_law wsX70 := goodIn_r _ [1043, 1044, 1045, 1046, 1047, 1048, 1049] (by decide +kernel) (by decide +kernel)
theorem ggL_law_X9_removeStage : GoodIn wsL_law wsX9_removeStage := goodIn_app ggL_law_X9_removeStage_h (goodIn_app (goodIn_app (goodIn_app ggL_law_X9_removeStage_0 ggL_law_X9_removeStage_1) ggL_law_X9_removeStage_2) ggL_law_X9_removeStage_3)
set_option maxRecDepth 20000 in
theorem gL_law_X9_removeStage : GoodIn wsL_law (wsV RL 31 RX9 yX9_removeStage wsX9_removeStage) := goodIn_app (goodIn_of _ (by decide +kernel)) ggL_law_X9_removeStage
set_option maxRecDepth 20000 in
theorem ggL_law_X10_removeStage_h : GoodIn wsL_law [Cond.code yX10_removeStage cX10_removeStage 2 (some .int)] := goodIn_r _ [281] (by decide +kernel) (by decide +kernel)
set_option maxRecDepth 20000 in
theorem ggL_law_X10_removeStage_0 : GoodIn wsL_law ([.fieldLink RX10 7 "StageTruthsModel" "now" "[I", .methodLink RX10 86 yX10_noStage, .instanceMethod yX10_noStage, .selects RX10 yX10_noStage yX10_noStage, .initialized RX10, .code yX10_noStage cX10_noStage 2 (some .boolean), .methodLink RX10 66 yX10_in, .static yX10_in, .code yX10_in cX10_in 3 (some .boolean), .methodLink RX10 89 yX10_record, .instanceMethod yX10_record, .selects RX10 yX10_record yX10_record, .code yX10_record cX10_record 2 none, .fieldLink RX10 74 "StageTruthsModel" "kept" "I", .fieldLink RX10 13 "StageTruthsModel" "history" "[I", .methodLink RX10 106 yX10_removes, .instanceMethod yX10_removes, .selects RX10 yX10_removes yX10_removes, .code yX10_removes cX10_removes 4 none, .methodLink RX10 102 yX10_without, .static yX10_without, .code yX10_without cX10_without 3 (some .int)] : List Cond) := goodIn_r _ [129, 180, 181, 182, 5, 183, 184, 185, 186, 187, 188, 189, 190, 191, 130, 282, 283, 284, 285, 286, 287, 288] (by decide +kernel) (by decide +kernel)
set_option maxRecDepth 20000 in
theorem ggL_law_X10_removeStage_1 : GoodIn wsL_law wsX100 := goodIn_r _ [1018, 1019, 1020, 1021, 1022, 1023, 1024, 1025, 1026, 1027, 1028, 1029, 1030, 1031, 1032, 1033, 1034, 1035, 1036, 1037, 1038, 1039, 1040, 1041, 1042] (by decide +kernel) (by decide +kernel)
theorem ggL_law_X10_removeStage : GoodIn wsL_law wsX10_removeStage := goodIn_app ggL_law_X10_removeStage_h (goodIn_app ggL_law_X10_removeStage_0 ggL_law_X10_removeStage_1)
set_option maxRecDepth 20000 in
theorem gL_law_X10_removeStage : GoodIn wsL_law (wsV RL 34 RX10 yX10_removeStage wsX10_removeStage) := goodIn_app (goodIn_of _ (by decide +kernel)) ggL_law_X10_removeStage
set_option maxRecDepth 20000 in
theorem ggL_law_X9_shrink_h : GoodIn wsL_law [Cond.code yX9_shrink cX9_shrink 2 (some .int)] := goodIn_r _ [292] (by decide +kernel) (by decide +kernel)
set_option maxRecDepth 20000 in
theorem ggL_law_X9_shrink_0 : GoodIn wsL_law wsX9_shrink_r1 := goodIn_r _ [15, 153, 293, 294, 295, 14, 296, 36, 42, 43, 39, 38, 297, 298, 299, 300, 301, 302, 303, 304, 174, 2, 175, 305] (by decide +kernel) (by decide +kernel)
set_option maxRecDepth 20000 in
theorem ggL_law_X9_shrink_1 : GoodIn wsL_law wsX9_shrink_r2 := goodIn_r _ [306, 307, 308, 309, 310, 311, 312, 313, 314, 158, 159, 160, 161, 17, 16, 162, 163, 164, 165, 41, 315, 316, 317, 318] (by decide +kernel) (by decide +kernel)
set_option maxRecDepth 20000 in
theorem ggL_law_X9_shrink_2 : GoodIn wsL_law wsX9_shrink_r3 := goodIn_r _ [319, 275, 276, 277] (by decide +kernel) (by decide +kernel)
set_option maxRecDepth 20000 in
theorem ggL_law_X9_shrink_3 : GoodIn wsL_law wsX90 := goodIn_r _ [1009, 1010, 1011, 1012, 1013, 1014, 1015, 1016, 1017] (by decide +kernel) (by decide +kernel)
set_option maxRecDepth 20000 in
theorem ggL_law_X9_shrink_4 : GoodIn wsL_law wsX70 := goodIn_r _ [1043, 1044, 1045, 1046, 1047, 1048, 1049] (by decide +kernel) (by decide +kernel)
theorem ggL_law_X9_shrink : GoodIn wsL_law wsX9_shrink := goodIn_app ggL_law_X9_shrink_h (goodIn_app (goodIn_app (goodIn_app ggL_law_X9_shrink_0 (goodIn_app ggL_law_X9_shrink_1 ggL_law_X9_shrink_2)) ggL_law_X9_shrink_3) ggL_law_X9_shrink_4)
set_option maxRecDepth 20000 in
theorem gL_law_X9_shrink : GoodIn wsL_law (wsV RL 35 RX9 yX9_shrink wsX9_shrink) := goodIn_app (goodIn_of _ (by decide +kernel)) ggL_law_X9_shrink
set_option maxRecDepth 20000 in
theorem ggL_law_X10_shrink_h : GoodIn wsL_law [Cond.code yX10_shrink cX10_shrink 7 (some .int)] := goodIn_r _ [323] (by decide +kernel) (by decide +kernel)
set_option maxRecDepth 20000 in
theorem ggL_law_X10_shrink_0 : GoodIn wsL_law wsX10_shrink_r1 := goodIn_r _ [129, 132, 133, 324, 325, 326, 5, 327, 328, 329, 330, 331, 192, 193, 194, 195, 332, 333, 334, 187, 188, 189, 190, 191] (by decide +kernel) (by decide +kernel)
set_option maxRecDepth 20000 in
theorem ggL_law_X10_shrink_1 : GoodIn wsL_law wsX10_shrink_r2 := goodIn_r _ [130, 282, 283, 284, 285, 286, 287, 288, 229, 230, 231] (by decide +kernel) (by decide +kernel)
set_option maxRecDepth 20000 in
theorem ggL_law_X10_shrink_2 : GoodIn wsL_law wsX100 := goodIn_r _ [1018, 1019, 1020, 1021, 1022, 1023, 1024, 1025, 1026, 1027, 1028, 1029, 1030, 1031, 1032, 1033, 1034, 1035, 1036, 1037, 1038, 1039, 1040, 1041, 1042] (by decide +kernel) (by decide +kernel)
theorem ggL_law_X10_shrink : GoodIn wsL_law wsX10_shrink := goodIn_app ggL_law_X10_shrink_h (goodIn_app (goodIn_app ggL_law_X10_shrink_0 ggL_law_X10_shrink_1) ggL_law_X10_shrink_2)
set_option maxRecDepth 20000 in
theorem gL_law_X10_shrink : GoodIn wsL_law (wsV RL 39 RX10 yX10_shrink wsX10_shrink) := goodIn_app (goodIn_of _ (by decide +kernel)) ggL_law_X10_shrink
set_option maxRecDepth 20000 in
theorem ggL_law_X9_put_h : GoodIn wsL_law [Cond.code yX9_put cX9_put 5 (some .int)] := goodIn_r _ [338] (by decide +kernel) (by decide +kernel)
set_option maxRecDepth 20000 in
theorem ggL_law_X9_put_0 : GoodIn wsL_law wsX9_put_r1 := goodIn_r _ [23, 15, 339, 340, 341, 2, 342, 343, 344, 345, 22, 346, 51, 53, 54, 48, 49, 347, 348, 349, 350, 351, 352, 353] (by decide +kernel) (by decide +kernel)
set_option maxRecDepth 20000 in
theorem ggL_law_X9_put_1 : GoodIn wsL_law wsX9_put_r2 := goodIn_r _ [354, 50, 355, 356, 357, 358, 52, 359, 360, 361, 362, 363, 364, 365, 366, 367, 368, 369, 370, 371, 372, 373, 374, 375] (by decide +kernel) (by decide +kernel)
set_option maxRecDepth 20000 in
theorem ggL_law_X9_put_2 : GoodIn wsL_law wsX9_put_r3 := goodIn_r _ [376, 377, 378, 379, 380, 381, 382, 383, 384, 10, 11, 385, 386, 387, 388, 389, 37, 390, 391, 392, 393, 394, 395, 396] (by decide +kernel) (by decide +kernel)
set_option maxRecDepth 20000 in
theorem ggL_law_X9_put_3 : GoodIn wsL_law wsX9_put_r4 := goodIn_r _ [397, 398, 158, 159, 160, 161, 17, 16, 162, 163, 164, 14, 165, 36, 38, 39, 41, 399, 400, 401, 402, 31, 403, 404] (by decide +kernel) (by decide +kernel)
set_option maxRecDepth 20000 in
theorem ggL_law_X9_put_4 : GoodIn wsL_law wsX9_put_r5 := goodIn_r _ [405, 80, 406, 91, 96, 95, 174, 175, 407, 408, 409, 410, 411, 412, 413, 97, 414, 415, 416, 417, 418, 419, 93, 94] (by decide +kernel) (by decide +kernel)
set_option maxRecDepth 20000 in
theorem ggL_law_X9_put_5 : GoodIn wsL_law wsX9_put_r6 := goodIn_r _ [92, 420, 421, 422, 423, 424, 425, 426, 427, 428, 44, 429, 430, 431, 432, 246, 247, 248, 433, 434, 435, 436, 437, 438] (by decide +kernel) (by decide +kernel)
set_option maxRecDepth 20000 in
theorem ggL_law_X9_put_6 : GoodIn wsL_law wsX9_put_r7 := goodIn_r _ [439, 440] (by decide +kernel) (by decide +kernel)
set_option maxRecDepth 20000 in
theorem ggL_law_X9_put_7 : GoodIn wsL_law wsX90 := goodIn_r _ [1009, 1010, 1011, 1012, 1013, 1014, 1015, 1016, 1017] (by decide +kernel) (by decide +kernel)
set_option maxRecDepth 20000 in
theorem ggL_law_X9_put_8 : GoodIn wsL_law wsX70 := goodIn_r _ [1043, 1044, 1045, 1046, 1047, 1048, 1049] (by decide +kernel) (by decide +kernel)
set_option maxRecDepth 20000 in
theorem ggL_law_X9_put_9 : GoodIn wsL_law wsX80 := goodIn_r _ [1050, 1051, 1052, 1053, 1054, 1055, 1056] (by decide +kernel) (by decide +kernel)
set_option maxRecDepth 20000 in
theorem ggL_law_X9_put_10 : GoodIn wsL_law wsX00 := goodIn_r _ [1087, 1088] (by decide +kernel) (by decide +kernel)
set_option maxRecDepth 20000 in
theorem ggL_law_X9_put_11 : GoodIn wsL_law wsX40 := goodIn_r _ [1076, 1077, 1078, 1079, 1080, 1081, 1082, 1083] (by decide +kernel) (by decide +kernel)
theorem ggL_law_X9_put : GoodIn wsL_law wsX9_put := goodIn_app ggL_law_X9_put_h (goodIn_app (goodIn_app (goodIn_app (goodIn_app (goodIn_app (goodIn_app ggL_law_X9_put_0 (goodIn_app ggL_law_X9_put_1 (goodIn_app ggL_law_X9_put_2 (goodIn_app ggL_law_X9_put_3 (goodIn_app ggL_law_X9_put_4 (goodIn_app ggL_law_X9_put_5 ggL_law_X9_put_6)))))) ggL_law_X9_put_7) ggL_law_X9_put_8) ggL_law_X9_put_9) ggL_law_X9_put_10) ggL_law_X9_put_11)
set_option maxRecDepth 20000 in
theorem gL_law_X9_put : GoodIn wsL_law (wsV RL 40 RX9 yX9_put wsX9_put) := goodIn_app (goodIn_of _ (by decide +kernel)) ggL_law_X9_put
set_option maxRecDepth 20000 in
theorem ggL_law_X10_put_h : GoodIn wsL_law [Cond.code yX10_put cX10_put 2 (some .int)] := goodIn_r _ [444] (by decide +kernel) (by decide +kernel)
set_option maxRecDepth 20000 in
theorem ggL_law_X10_put_0 : GoodIn wsL_law wsX10_put_r1 := goodIn_r _ [445, 446, 447, 5, 448, 184, 185, 186, 449, 450, 451, 452, 453, 454, 455, 135, 456, 457, 458, 459, 137, 460, 461, 462] (by decide +kernel) (by decide +kernel)
set_option maxRecDepth 20000 in
theorem ggL_law_X10_put_1 : GoodIn wsL_law wsX10_put_r2 := goodIn_r _ [463, 136, 464, 465, 466, 467, 468, 469, 470, 471, 472, 473, 474, 475, 476, 477, 129, 187, 188, 189, 190, 191, 130, 478] (by decide +kernel) (by decide +kernel)
set_option maxRecDepth 20000 in
theorem ggL_law_X10_put_2 : GoodIn wsL_law wsX10_put_r3 := goodIn_r _ [479, 480, 481, 482, 483, 484, 485, 138, 253, 254, 255, 256, 486, 487, 488, 489] (by decide +kernel) (by decide +kernel)
set_option maxRecDepth 20000 in
theorem ggL_law_X10_put_3 : GoodIn wsL_law wsX100 := goodIn_r _ [1018, 1019, 1020, 1021, 1022, 1023, 1024, 1025, 1026, 1027, 1028, 1029, 1030, 1031, 1032, 1033, 1034, 1035, 1036, 1037, 1038, 1039, 1040, 1041, 1042] (by decide +kernel) (by decide +kernel)
theorem ggL_law_X10_put : GoodIn wsL_law wsX10_put := goodIn_app ggL_law_X10_put_h (goodIn_app (goodIn_app ggL_law_X10_put_0 (goodIn_app ggL_law_X10_put_1 ggL_law_X10_put_2)) ggL_law_X10_put_3)
set_option maxRecDepth 20000 in
theorem gL_law_X10_put : GoodIn wsL_law (wsV RL 43 RX10 yX10_put wsX10_put) := goodIn_app (goodIn_of _ (by decide +kernel)) ggL_law_X10_put
set_option maxRecDepth 20000 in
theorem ggL_law_X9_drop_h : GoodIn wsL_law [Cond.code yX9_drop cX9_drop 2 (some .int)] := goodIn_r _ [493] (by decide +kernel) (by decide +kernel)
set_option maxRecDepth 20000 in
theorem ggL_law_X9_drop_0 : GoodIn wsL_law wsX9_drop_r1 := goodIn_r _ [15, 339, 391, 392, 393, 2, 394, 340, 341, 342, 158, 159, 160, 161, 17, 16, 162, 163, 164, 14, 165, 36, 38, 39] (by decide +kernel) (by decide +kernel)
set_option maxRecDepth 20000 in
theorem ggL_law_X9_drop_1 : GoodIn wsL_law wsX9_drop_r2 := goodIn_r _ [41, 494, 495, 496, 497, 498, 207, 208, 209, 210, 211, 212] (by decide +kernel) (by decide +kernel)
set_option maxRecDepth 20000 in
theorem ggL_law_X9_drop_2 : GoodIn wsL_law wsX90 := goodIn_r _ [1009, 1010, 1011, 1012, 1013, 1014, 1015, 1016, 1017] (by decide +kernel) (by decide +kernel)
set_option maxRecDepth 20000 in
theorem ggL_law_X9_drop_3 : GoodIn wsL_law wsX70 := goodIn_r _ [1043, 1044, 1045, 1046, 1047, 1048, 1049] (by decide +kernel) (by decide +kernel)
theorem ggL_law_X9_drop : GoodIn wsL_law wsX9_drop := goodIn_app ggL_law_X9_drop_h (goodIn_app (goodIn_app (goodIn_app ggL_law_X9_drop_0 ggL_law_X9_drop_1) ggL_law_X9_drop_2) ggL_law_X9_drop_3)
set_option maxRecDepth 20000 in
theorem gL_law_X9_drop : GoodIn wsL_law (wsV RL 44 RX9 yX9_drop wsX9_drop) := goodIn_app (goodIn_of _ (by decide +kernel)) ggL_law_X9_drop
set_option maxRecDepth 20000 in
theorem ggL_law_X10_drop_h : GoodIn wsL_law [Cond.code yX10_drop cX10_drop 2 (some .int)] := goodIn_r _ [502] (by decide +kernel) (by decide +kernel)
set_option maxRecDepth 20000 in
theorem ggL_law_X10_drop_0 : GoodIn wsL_law wsX10_drop_r1 := goodIn_r _ [129, 503, 504, 505, 5, 506, 446, 447, 448, 184, 185, 186, 187, 188, 189, 190, 191, 130, 507, 508, 509, 510, 229, 230] (by decide +kernel) (by decide +kernel)
set_option maxRecDepth 20000 in
theorem ggL_law_X10_drop_1 : GoodIn wsL_law wsX10_drop_r2 := goodIn_r _ [231] (by decide +kernel) (by decide +kernel)
set_option maxRecDepth 20000 in
theorem ggL_law_X10_drop_2 : GoodIn wsL_law wsX100 := goodIn_r _ [1018, 1019, 1020, 1021, 1022, 1023, 1024, 1025, 1026, 1027, 1028, 1029, 1030, 1031, 1032, 1033, 1034, 1035, 1036, 1037, 1038, 1039, 1040, 1041, 1042] (by decide +kernel) (by decide +kernel)
theorem ggL_law_X10_drop : GoodIn wsL_law wsX10_drop := goodIn_app ggL_law_X10_drop_h (goodIn_app (goodIn_app ggL_law_X10_drop_0 ggL_law_X10_drop_1) ggL_law_X10_drop_2)
set_option maxRecDepth 20000 in
theorem gL_law_X10_drop : GoodIn wsL_law (wsV RL 47 RX10 yX10_drop wsX10_drop) := goodIn_app (goodIn_of _ (by decide +kernel)) ggL_law_X10_drop
set_option maxRecDepth 20000 in
theorem ggL_law_X9_join_h : GoodIn wsL_law [Cond.code yX9_join cX9_join 8 (some .int)] := goodIn_r _ [514] (by decide +kernel) (by decide +kernel)
set_option maxRecDepth 20000 in
theorem ggL_law_X9_join_0 : GoodIn wsL_law wsX9_join_r1 := goodIn_r _ [515, 15, 339, 391, 392, 393, 2, 394, 340, 341, 342, 516, 517, 380, 518, 389, 37, 390, 519, 379, 520, 382, 383, 384] (by decide +kernel) (by decide +kernel)
set_option maxRecDepth 20000 in
theorem ggL_law_X9_join_1 : GoodIn wsL_law wsX9_join_r2 := goodIn_r _ [10, 11, 385, 386, 365, 387, 388, 364, 366, 158, 159, 160, 161, 17, 16, 162, 163, 164, 14, 165, 36, 38, 39, 41] (by decide +kernel) (by decide +kernel)
set_option maxRecDepth 20000 in
theorem ggL_law_X9_join_2 : GoodIn wsL_law wsX9_join_r3 := goodIn_r _ [399, 400, 401, 402, 31, 403, 404, 405, 80, 406, 91, 96, 95, 174, 175, 407, 408, 409, 410, 411, 412, 413, 97, 414] (by decide +kernel) (by decide +kernel)
set_option maxRecDepth 20000 in
theorem ggL_law_X9_join_3 : GoodIn wsL_law wsX9_join_r4 := goodIn_r _ [415, 416, 417, 418, 419, 93, 94, 92, 420, 421, 422, 423, 424, 425, 426, 427, 428, 44, 429, 430, 431, 432, 246, 247] (by decide +kernel) (by decide +kernel)
set_option maxRecDepth 20000 in
theorem ggL_law_X9_join_4 : GoodIn wsL_law wsX9_join_r5 := goodIn_r _ [248, 433, 434, 435, 436, 437, 438, 439, 440] (by decide +kernel) (by decide +kernel)
set_option maxRecDepth 20000 in
theorem ggL_law_X9_join_5 : GoodIn wsL_law wsX00 := goodIn_r _ [1087, 1088] (by decide +kernel) (by decide +kernel)
set_option maxRecDepth 20000 in
theorem ggL_law_X9_join_6 : GoodIn wsL_law wsX90 := goodIn_r _ [1009, 1010, 1011, 1012, 1013, 1014, 1015, 1016, 1017] (by decide +kernel) (by decide +kernel)
set_option maxRecDepth 20000 in
theorem ggL_law_X9_join_7 : GoodIn wsL_law wsX70 := goodIn_r _ [1043, 1044, 1045, 1046, 1047, 1048, 1049] (by decide +kernel) (by decide +kernel)
set_option maxRecDepth 20000 in
theorem ggL_law_X9_join_8 : GoodIn wsL_law wsX40 := goodIn_r _ [1076, 1077, 1078, 1079, 1080, 1081, 1082, 1083] (by decide +kernel) (by decide +kernel)
theorem ggL_law_X9_join : GoodIn wsL_law wsX9_join := goodIn_app ggL_law_X9_join_h (goodIn_app (goodIn_app (goodIn_app (goodIn_app (goodIn_app ggL_law_X9_join_0 (goodIn_app ggL_law_X9_join_1 (goodIn_app ggL_law_X9_join_2 (goodIn_app ggL_law_X9_join_3 ggL_law_X9_join_4)))) ggL_law_X9_join_5) ggL_law_X9_join_6) ggL_law_X9_join_7) ggL_law_X9_join_8)
set_option maxRecDepth 20000 in
theorem gL_law_X9_join : GoodIn wsL_law (wsV RL 48 RX9 yX9_join wsX9_join) := goodIn_app (goodIn_of _ (by decide +kernel)) ggL_law_X9_join
set_option maxRecDepth 20000 in
theorem ggL_law_X10_join_h : GoodIn wsL_law [Cond.code yX10_join cX10_join 5 (some .int)] := goodIn_r _ [524] (by decide +kernel) (by decide +kernel)
set_option maxRecDepth 20000 in
theorem ggL_law_X10_join_0 : GoodIn wsL_law wsX10_join_r1 := goodIn_r _ [129, 453, 446, 447, 5, 448, 184, 185, 186, 503, 504, 505, 506, 187, 188, 189, 190, 191, 130, 525, 526, 527, 528, 460] (by decide +kernel) (by decide +kernel)
set_option maxRecDepth 20000 in
theorem ggL_law_X10_join_1 : GoodIn wsL_law wsX10_join_r2 := goodIn_r _ [461, 462, 463, 136, 478, 479, 480, 481, 482, 483, 484, 485, 138, 253, 254, 255, 256, 486, 487, 488, 489] (by decide +kernel) (by decide +kernel)
set_option maxRecDepth 20000 in
theorem ggL_law_X10_join_2 : GoodIn wsL_law wsX100 := goodIn_r _ [1018, 1019, 1020, 1021, 1022, 1023, 1024, 1025, 1026, 1027, 1028, 1029, 1030, 1031, 1032, 1033, 1034, 1035, 1036, 1037, 1038, 1039, 1040, 1041, 1042] (by decide +kernel) (by decide +kernel)
theorem ggL_law_X10_join : GoodIn wsL_law wsX10_join := goodIn_app ggL_law_X10_join_h (goodIn_app (goodIn_app ggL_law_X10_join_0 ggL_law_X10_join_1) ggL_law_X10_join_2)
set_option maxRecDepth 20000 in
theorem gL_law_X10_join : GoodIn wsL_law (wsV RL 52 RX10 yX10_join wsX10_join) := goodIn_app (goodIn_of _ (by decide +kernel)) ggL_law_X10_join
set_option maxRecDepth 20000 in
theorem ggL_law_X9_type : GoodIn wsL_law wsX9_type := goodIn_r _ [532, 23, 533, 534, 535, 536, 22, 537, 48, 49, 538, 539, 540, 1009, 1010, 1011, 1012, 1013, 1014, 1015, 1016, 1017, 1050, 1051, 1052, 1053, 1054, 1055, 1056] (by decide +kernel) (by decide +kernel)
set_option maxRecDepth 20000 in
theorem gL_law_X9_type : GoodIn wsL_law (wsV RL 53 RX9 yX9_type wsX9_type) := goodIn_app (goodIn_of _ (by decide +kernel)) ggL_law_X9_type
set_option maxRecDepth 20000 in
theorem ggL_law_X10_type : GoodIn wsL_law wsX10_type := goodIn_r _ [544, 455, 135, 1018, 1019, 1020, 1021, 1022, 1023, 1024, 1025, 1026, 1027, 1028, 1029, 1030, 1031, 1032, 1033, 1034, 1035, 1036, 1037, 1038, 1039, 1040, 1041, 1042] (by decide +kernel) (by decide +kernel)
set_option maxRecDepth 20000 in
theorem gL_law_X10_type : GoodIn wsL_law (wsV RL 57 RX10 yX10_type wsX10_type) := goodIn_app (goodIn_of _ (by decide +kernel)) ggL_law_X10_type
set_option maxRecDepth 20000 in
theorem ggL_law_X9_clearText : GoodIn wsL_law wsX9_clearText := goodIn_r _ [548, 23, 533, 1009, 1010, 1011, 1012, 1013, 1014, 1015, 1016, 1017, 1050, 1051, 1052, 1053, 1054, 1055, 1056] (by decide +kernel) (by decide +kernel)
set_option maxRecDepth 20000 in
theorem gL_law_X9_clearText : GoodIn wsL_law (wsV RL 58 RX9 yX9_clearText wsX9_clearText) := goodIn_app (goodIn_of _ (by decide +kernel)) ggL_law_X9_clearText
set_option maxRecDepth 20000 in
theorem ggL_law_X10_clearText : GoodIn wsL_law wsX10_clearText := goodIn_r _ [552, 455, 1018, 1019, 1020, 1021, 1022, 1023, 1024, 1025, 1026, 1027, 1028, 1029, 1030, 1031, 1032, 1033, 1034, 1035, 1036, 1037, 1038, 1039, 1040, 1041, 1042] (by decide +kernel) (by decide +kernel)
set_option maxRecDepth 20000 in
theorem gL_law_X10_clearText : GoodIn wsL_law (wsV RL 61 RX10 yX10_clearText wsX10_clearText) := goodIn_app (goodIn_of _ (by decide +kernel)) ggL_law_X10_clearText
set_option maxRecDepth 20000 in
theorem ggL_law_X9_undo : GoodIn wsL_law wsX9_undo := goodIn_r _ [556, 17, 15, 16, 162, 163, 164, 14, 165, 36, 38, 39, 41, 1009, 1010, 1011, 1012, 1013, 1014, 1015, 1016, 1017, 1043, 1044, 1045, 1046, 1047, 1048, 1049] (by decide +kernel) (by decide +kernel)
set_option maxRecDepth 20000 in
theorem gL_law_X9_undo : GoodIn wsL_law (wsV RL 62 RX9 yX9_undo wsX9_undo) := goodIn_app (goodIn_of _ (by decide +kernel)) ggL_law_X9_undo
set_option maxRecDepth 20000 in
theorem ggL_law_X10_undo : GoodIn wsL_law wsX10_undo := goodIn_r _ [560, 191, 129, 130, 1018, 1019, 1020, 1021, 1022, 1023, 1024, 1025, 1026, 1027, 1028, 1029, 1030, 1031, 1032, 1033, 1034, 1035, 1036, 1037, 1038, 1039, 1040, 1041, 1042] (by decide +kernel) (by decide +kernel)
set_option maxRecDepth 20000 in
theorem gL_law_X10_undo : GoodIn wsL_law (wsV RL 65 RX10 yX10_undo wsX10_undo) := goodIn_app (goodIn_of _ (by decide +kernel)) ggL_law_X10_undo
set_option maxRecDepth 20000 in
theorem ggL_law_X9_keep : GoodIn wsL_law wsX9_keep := goodIn_r _ [564, 18, 15, 19, 153, 162, 163, 164, 14, 165, 36, 38, 39, 41, 1009, 1010, 1011, 1012, 1013, 1014, 1015, 1016, 1017, 1043, 1044, 1045, 1046, 1047, 1048, 1049] (by decide +kernel) (by decide +kernel)
set_option maxRecDepth 20000 in
theorem gL_law_X9_keep : GoodIn wsL_law (wsV RL 66 RX9 yX9_keep wsX9_keep) := goodIn_app (goodIn_of _ (by decide +kernel)) ggL_law_X9_keep
set_option maxRecDepth 20000 in
theorem ggL_law_X10_keep : GoodIn wsL_law wsX10_keep := goodIn_r _ [568, 131, 129, 569, 1018, 1019, 1020, 1021, 1022, 1023, 1024, 1025, 1026, 1027, 1028, 1029, 1030, 1031, 1032, 1033, 1034, 1035, 1036, 1037, 1038, 1039, 1040, 1041, 1042] (by decide +kernel) (by decide +kernel)
set_option maxRecDepth 20000 in
theorem gL_law_X10_keep : GoodIn wsL_law (wsV RL 69 RX10 yX10_keep wsX10_keep) := goodIn_app (goodIn_of _ (by decide +kernel)) ggL_law_X10_keep
set_option maxRecDepth 20000 in
theorem ggL_law_X9_restore : GoodIn wsL_law wsX9_restore := goodIn_r _ [573, 19, 15, 18, 153, 158, 159, 160, 2, 161, 17, 16, 162, 163, 164, 14, 165, 36, 38, 39, 41, 1009, 1010, 1011, 1012, 1013, 1014, 1015, 1016, 1017, 1043, 1044, 1045, 1046, 1047, 1048, 1049] (by decide +kernel) (by decide +kernel)
set_option maxRecDepth 20000 in
theorem gL_law_X9_restore : GoodIn wsL_law (wsV RL 70 RX9 yX9_restore wsX9_restore) := goodIn_app (goodIn_of _ (by decide +kernel)) ggL_law_X9_restore
set_option maxRecDepth 20000 in
theorem ggL_law_X10_restore : GoodIn wsL_law wsX10_restore := goodIn_r _ [577, 569, 129, 131, 187, 188, 189, 5, 190, 191, 130, 1018, 1019, 1020, 1021, 1022, 1023, 1024, 1025, 1026, 1027, 1028, 1029, 1030, 1031, 1032, 1033, 1034, 1035, 1036, 1037, 1038, 1039, 1040, 1041, 1042] (by decide +kernel) (by decide +kernel)
set_option maxRecDepth 20000 in
theorem gL_law_X10_restore : GoodIn wsL_law (wsV RL 73 RX10 yX10_restore wsX10_restore) := goodIn_app (goodIn_of _ (by decide +kernel)) ggL_law_X10_restore
set_option maxRecDepth 20000 in
theorem ggL_law_X9_stage_h : GoodIn wsL_law [Cond.code yX9_stage cX9_stage 3 (some .int)] := goodIn_r _ [581] (by decide +kernel) (by decide +kernel)
set_option maxRecDepth 20000 in
theorem ggL_law_X9_stage_0 : GoodIn wsL_law wsX9_stage_r1 := goodIn_r _ [15, 200, 240, 582, 154, 155, 156, 14, 157, 36, 261, 171, 172, 173, 38, 293, 294, 295, 296, 42, 43, 39, 297, 298] (by decide +kernel) (by decide +kernel)
set_option maxRecDepth 20000 in
theorem ggL_law_X9_stage_1 : GoodIn wsL_law wsX9_stage_r2 := goodIn_r _ [299, 300, 301, 302, 303, 304, 174, 2, 175] (by decide +kernel) (by decide +kernel)
set_option maxRecDepth 20000 in
theorem ggL_law_X9_stage_2 : GoodIn wsL_law wsX90 := goodIn_r _ [1009, 1010, 1011, 1012, 1013, 1014, 1015, 1016, 1017] (by decide +kernel) (by decide +kernel)
set_option maxRecDepth 20000 in
theorem ggL_law_X9_stage_3 : GoodIn wsL_law wsX70 := goodIn_r _ [1043, 1044, 1045, 1046, 1047, 1048, 1049] (by decide +kernel) (by decide +kernel)
theorem ggL_law_X9_stage : GoodIn wsL_law wsX9_stage := goodIn_app ggL_law_X9_stage_h (goodIn_app (goodIn_app (goodIn_app ggL_law_X9_stage_0 ggL_law_X9_stage_1) ggL_law_X9_stage_2) ggL_law_X9_stage_3)
set_option maxRecDepth 20000 in
theorem gL_law_X9_stage : GoodIn wsL_law (wsV RL 74 RX9 yX9_stage wsX9_stage) := goodIn_app (goodIn_of _ (by decide +kernel)) ggL_law_X9_stage
set_option maxRecDepth 20000 in
theorem ggL_law_X10_stage_h : GoodIn wsL_law [Cond.code yX10_stage cX10_stage 3 (some .int)] := goodIn_r _ [586] (by decide +kernel) (by decide +kernel)
set_option maxRecDepth 20000 in
theorem ggL_law_X10_stage_0 : GoodIn wsL_law wsX10_stage_r1 := goodIn_r _ [129, 132, 180, 181, 182, 5, 183, 184, 185, 186, 232, 233, 234, 235, 192, 193, 194, 195, 324, 325, 326, 327, 328, 329] (by decide +kernel) (by decide +kernel)
set_option maxRecDepth 20000 in
theorem ggL_law_X10_stage_1 : GoodIn wsL_law wsX10_stage_r2 := goodIn_r _ [330, 331, 332, 333, 334] (by decide +kernel) (by decide +kernel)
set_option maxRecDepth 20000 in
theorem ggL_law_X10_stage_2 : GoodIn wsL_law wsX100 := goodIn_r _ [1018, 1019, 1020, 1021, 1022, 1023, 1024, 1025, 1026, 1027, 1028, 1029, 1030, 1031, 1032, 1033, 1034, 1035, 1036, 1037, 1038, 1039, 1040, 1041, 1042] (by decide +kernel) (by decide +kernel)
theorem ggL_law_X10_stage : GoodIn wsL_law wsX10_stage := goodIn_app ggL_law_X10_stage_h (goodIn_app (goodIn_app ggL_law_X10_stage_0 ggL_law_X10_stage_1) ggL_law_X10_stage_2)
set_option maxRecDepth 20000 in
theorem gL_law_X10_stage : GoodIn wsL_law (wsV RL 77 RX10 yX10_stage wsX10_stage) := goodIn_app (goodIn_of _ (by decide +kernel)) ggL_law_X10_stage
set_option maxRecDepth 20000 in
theorem ggL_law_X9_alike_h : GoodIn wsL_law [Cond.code yX9_alike cX9_alike 3 (some .int)] := goodIn_r _ [590] (by decide +kernel) (by decide +kernel)
set_option maxRecDepth 20000 in
theorem ggL_law_X9_alike_0 : GoodIn wsL_law wsX9_alike_r1 := goodIn_r _ [15, 582, 154, 155, 156, 14, 157, 36, 293, 294, 295, 296, 42, 43, 39, 38, 297, 298, 299, 300, 301, 302, 303, 304] (by decide +kernel) (by decide +kernel)
set_option maxRecDepth 20000 in
theorem ggL_law_X9_alike_1 : GoodIn wsL_law wsX9_alike_r2 := goodIn_r _ [174, 2, 175, 591, 309, 310] (by decide +kernel) (by decide +kernel)
set_option maxRecDepth 20000 in
theorem ggL_law_X9_alike_2 : GoodIn wsL_law wsX90 := goodIn_r _ [1009, 1010, 1011, 1012, 1013, 1014, 1015, 1016, 1017] (by decide +kernel) (by decide +kernel)
set_option maxRecDepth 20000 in
theorem ggL_law_X9_alike_3 : GoodIn wsL_law wsX70 := goodIn_r _ [1043, 1044, 1045, 1046, 1047, 1048, 1049] (by decide +kernel) (by decide +kernel)
theorem ggL_law_X9_alike : GoodIn wsL_law wsX9_alike := goodIn_app ggL_law_X9_alike_h (goodIn_app (goodIn_app (goodIn_app ggL_law_X9_alike_0 ggL_law_X9_alike_1) ggL_law_X9_alike_2) ggL_law_X9_alike_3)
set_option maxRecDepth 20000 in
theorem gL_law_X9_alike : GoodIn wsL_law (wsV RL 78 RX9 yX9_alike wsX9_alike) := goodIn_app (goodIn_of _ (by decide +kernel)) ggL_law_X9_alike
set_option maxRecDepth 20000 in
theorem ggL_law_X10_alike_h : GoodIn wsL_law [Cond.code yX10_alike cX10_alike 3 (some .int)] := goodIn_r _ [595] (by decide +kernel) (by decide +kernel)
set_option maxRecDepth 20000 in
theorem ggL_law_X10_alike_0 : GoodIn wsL_law ([.fieldLink RX10 19 "StageTruthsModel" "like" "[I", .methodLink RX10 86 yX10_noStage, .instanceMethod yX10_noStage, .selects RX10 yX10_noStage yX10_noStage, .initialized RX10, .code yX10_noStage cX10_noStage 2 (some .boolean), .fieldLink RX10 7 "StageTruthsModel" "now" "[I", .methodLink RX10 66 yX10_in, .static yX10_in, .code yX10_in cX10_in 3 (some .boolean), .methodLink RX10 113 yX10_findsLike, .instanceMethod yX10_findsLike, .selects RX10 yX10_findsLike yX10_findsLike, .code yX10_findsLike cX10_findsLike 5 none, .methodLink RX10 110 yX10_isMet, .instanceMethod yX10_isMet, .selects RX10 yX10_isMet yX10_isMet, .code yX10_isMet cX10_isMet 4 (some .boolean), .methodLink RX10 78 yX10_leadsTo, .instanceMethod yX10_leadsTo, .selects RX10 yX10_leadsTo yX10_leadsTo, .code yX10_leadsTo cX10_leadsTo 3 (some .boolean)] : List Cond) := goodIn_r _ [132, 180, 181, 182, 5, 183, 129, 184, 185, 186, 324, 325, 326, 327, 328, 329, 330, 331, 192, 193, 194, 195] (by decide +kernel) (by decide +kernel)
set_option maxRecDepth 20000 in
theorem ggL_law_X10_alike_1 : GoodIn wsL_law wsX100 := goodIn_r _ [1018, 1019, 1020, 1021, 1022, 1023, 1024, 1025, 1026, 1027, 1028, 1029, 1030, 1031, 1032, 1033, 1034, 1035, 1036, 1037, 1038, 1039, 1040, 1041, 1042] (by decide +kernel) (by decide +kernel)
theorem ggL_law_X10_alike : GoodIn wsL_law wsX10_alike := goodIn_app ggL_law_X10_alike_h (goodIn_app ggL_law_X10_alike_0 ggL_law_X10_alike_1)
set_option maxRecDepth 20000 in
theorem gL_law_X10_alike : GoodIn wsL_law (wsV RL 81 RX10 yX10_alike wsX10_alike) := goodIn_app (goodIn_of _ (by decide +kernel)) ggL_law_X10_alike
set_option maxRecDepth 20000 in
theorem ggL_law_X9_claim_h : GoodIn wsL_law [Cond.code yX9_claim cX9_claim 5 (some .int)] := goodIn_r _ [599] (by decide +kernel) (by decide +kernel)
set_option maxRecDepth 20000 in
theorem ggL_law_X9_claim_0 : GoodIn wsL_law wsX9_claim_r1 := goodIn_r _ [15, 31, 515, 27, 29, 391, 392, 393, 2, 394, 339, 340, 341, 342, 600, 601, 602, 603, 403, 404, 405, 80, 406, 91] (by decide +kernel) (by decide +kernel)
set_option maxRecDepth 20000 in
theorem ggL_law_X9_claim_1 : GoodIn wsL_law wsX9_claim_r2 := goodIn_r _ [96, 95, 174, 175, 407, 408, 409, 410, 411, 412, 413, 364, 365, 366, 97, 414, 415, 416, 417, 418, 419, 93, 94, 92] (by decide +kernel) (by decide +kernel)
set_option maxRecDepth 20000 in
theorem ggL_law_X9_claim_2 : GoodIn wsL_law wsX9_claim_r3 := goodIn_r _ [604, 605, 606, 61, 607, 83, 82, 608, 609, 610, 611, 81, 612, 613, 614, 615, 616, 86, 617, 618, 619, 26, 620, 70] (by decide +kernel) (by decide +kernel)
set_option maxRecDepth 20000 in
theorem ggL_law_X9_claim_3 : GoodIn wsL_law wsX9_claim_r4 := goodIn_r _ [71, 621, 622, 623, 69, 624, 103, 107, 420, 421, 422, 423, 424, 425, 426, 14, 427, 428, 44, 429, 430, 431, 432, 246] (by decide +kernel) (by decide +kernel)
set_option maxRecDepth 20000 in
theorem ggL_law_X9_claim_4 : GoodIn wsL_law wsX9_claim_r5 := goodIn_r _ [247, 248, 36, 39, 433, 434, 435, 436, 437, 438, 439, 440, 38, 625, 626, 627, 628, 629, 630, 631, 632, 633, 207, 208] (by decide +kernel) (by decide +kernel)
set_option maxRecDepth 20000 in
theorem ggL_law_X9_claim_5 : GoodIn wsL_law wsX9_claim_r6 := goodIn_r _ [209, 210, 211, 212, 634, 635, 636, 637, 638, 639, 640, 641, 66, 642, 643, 64, 644, 645, 646, 109, 647, 648, 113, 114] (by decide +kernel) (by decide +kernel)
set_option maxRecDepth 20000 in
theorem ggL_law_X9_claim_6 : GoodIn wsL_law wsX9_claim_r7 := goodIn_r _ [115, 649, 650, 651, 652, 62, 653, 654, 655, 656, 657, 658, 659, 660, 661, 662, 663, 664, 665, 666, 667, 668, 669, 670] (by decide +kernel) (by decide +kernel)
set_option maxRecDepth 20000 in
theorem ggL_law_X9_claim_7 : GoodIn wsL_law wsX9_claim_r8 := goodIn_r _ [671, 672, 673, 674, 675, 676, 677, 678, 679, 680, 681, 682, 683, 684, 685, 686, 687, 688, 689, 690, 691, 692, 693, 694] (by decide +kernel) (by decide +kernel)
set_option maxRecDepth 20000 in
theorem ggL_law_X9_claim_8 : GoodIn wsL_law wsX9_claim_r9 := goodIn_r _ [695, 696, 697, 698, 699, 700, 701, 702, 703, 704, 705, 706, 707, 708, 709, 710, 711, 712, 713, 714, 715, 716, 717, 718] (by decide +kernel) (by decide +kernel)
set_option maxRecDepth 20000 in
theorem ggL_law_X9_claim_9 : GoodIn wsL_law wsX9_claim_r10 := goodIn_r _ [719, 720, 721, 722, 723, 724, 725, 726, 727, 728, 729, 730, 731, 732, 733, 734, 735, 105, 106, 736, 737, 738, 739, 740] (by decide +kernel) (by decide +kernel)
set_option maxRecDepth 20000 in
theorem ggL_law_X9_claim_10 : GoodIn wsL_law wsX9_claim_r11 := goodIn_r _ [741, 591, 309, 310, 742, 743, 744, 745, 746, 747, 748, 749, 750, 751, 752, 753, 754, 755, 756, 757, 758, 98, 759] (by decide +kernel) (by decide +kernel)
set_option maxRecDepth 20000 in
theorem ggL_law_X9_claim_11 : GoodIn wsL_law wsX90 := goodIn_r _ [1009, 1010, 1011, 1012, 1013, 1014, 1015, 1016, 1017] (by decide +kernel) (by decide +kernel)
set_option maxRecDepth 20000 in
theorem ggL_law_X9_claim_12 : GoodIn wsL_law wsX00 := goodIn_r _ [1087, 1088] (by decide +kernel) (by decide +kernel)
set_option maxRecDepth 20000 in
theorem ggL_law_X9_claim_13 : GoodIn wsL_law wsX70 := goodIn_r _ [1043, 1044, 1045, 1046, 1047, 1048, 1049] (by decide +kernel) (by decide +kernel)
set_option maxRecDepth 20000 in
theorem ggL_law_X9_claim_14 : GoodIn wsL_law wsX40 := goodIn_r _ [1076, 1077, 1078, 1079, 1080, 1081, 1082, 1083] (by decide +kernel) (by decide +kernel)
set_option maxRecDepth 20000 in
theorem ggL_law_X9_claim_15 : GoodIn wsL_law wsX60 := goodIn_r _ [1062, 1063, 1064, 1065, 1066] (by decide +kernel) (by decide +kernel)
set_option maxRecDepth 20000 in
theorem ggL_law_X9_claim_16 : GoodIn wsL_law wsX50 := goodIn_r _ [1057, 1058, 1059, 1060, 1061] (by decide +kernel) (by decide +kernel)
set_option maxRecDepth 20000 in
theorem ggL_law_X9_claim_17 : GoodIn wsL_law wsX10 := goodIn_r _ [1067, 1068, 1069, 1070] (by decide +kernel) (by decide +kernel)
set_option maxRecDepth 20000 in
theorem ggL_law_X9_claim_18 : GoodIn wsL_law wsX20 := goodIn_r _ [1071, 1072, 1073, 1074, 1075] (by decide +kernel) (by decide +kernel)
set_option maxRecDepth 20000 in
theorem ggL_law_X9_claim_19 : GoodIn wsL_law wsX30 := goodIn_r _ [1084, 1085, 1086] (by decide +kernel) (by decide +kernel)
theorem ggL_law_X9_claim : GoodIn wsL_law wsX9_claim := goodIn_app ggL_law_X9_claim_h (goodIn_app (goodIn_app (goodIn_app (goodIn_app (goodIn_app (goodIn_app (goodIn_app (goodIn_app (goodIn_app (goodIn_app ggL_law_X9_claim_0 (goodIn_app ggL_law_X9_claim_1 (goodIn_app ggL_law_X9_claim_2 (goodIn_app ggL_law_X9_claim_3 (goodIn_app ggL_law_X9_claim_4 (goodIn_app ggL_law_X9_claim_5 (goodIn_app ggL_law_X9_claim_6 (goodIn_app ggL_law_X9_claim_7 (goodIn_app ggL_law_X9_claim_8 (goodIn_app ggL_law_X9_claim_9 ggL_law_X9_claim_10)))))))))) ggL_law_X9_claim_11) ggL_law_X9_claim_12) ggL_law_X9_claim_13) ggL_law_X9_claim_14) ggL_law_X9_claim_15) ggL_law_X9_claim_16) ggL_law_X9_claim_17) ggL_law_X9_claim_18) ggL_law_X9_claim_19)
set_option maxRecDepth 20000 in
theorem gL_law_X9_claim : GoodIn wsL_law (wsV RL 82 RX9 yX9_claim wsX9_claim) := goodIn_app (goodIn_of _ (by decide +kernel)) ggL_law_X9_claim
set_option maxRecDepth 20000 in
theorem ggL_law_X10_claim_h : GoodIn wsL_law [Cond.code yX10_claim cX10_claim 4 (some .int)] := goodIn_r _ [763] (by decide +kernel) (by decide +kernel)
set_option maxRecDepth 20000 in
theorem ggL_law_X10_claim_0 : GoodIn wsL_law wsX10_claim_r1 := goodIn_r _ [129, 503, 504, 505, 5, 506, 446, 447, 448, 184, 185, 186, 482, 483, 484, 485, 138, 253, 254, 255, 256, 486, 487, 488] (by decide +kernel) (by decide +kernel)
set_option maxRecDepth 20000 in
theorem ggL_law_X10_claim_1 : GoodIn wsL_law wsX10_claim_r2 := goodIn_r _ [489, 332, 333, 334, 764, 765, 766, 767, 768, 769, 770, 771, 148, 772, 773, 774, 775, 776, 777, 778, 779, 780, 781, 782] (by decide +kernel) (by decide +kernel)
set_option maxRecDepth 20000 in
theorem ggL_law_X10_claim_2 : GoodIn wsL_law wsX10_claim_r3 := goodIn_r _ [783, 784, 785, 786, 787, 144, 145, 788, 789, 790, 791, 792, 793, 794, 795, 796, 139, 140, 141, 797, 798, 799, 800, 143] (by decide +kernel) (by decide +kernel)
set_option maxRecDepth 20000 in
theorem ggL_law_X10_claim_3 : GoodIn wsL_law wsX10_claim_r4 := goodIn_r _ [801, 802, 803, 804, 805, 806, 807, 808, 809, 810, 811, 812, 813, 814, 815, 816, 817, 818, 819, 820, 821, 822, 823, 824] (by decide +kernel) (by decide +kernel)
set_option maxRecDepth 20000 in
theorem ggL_law_X10_claim_4 : GoodIn wsL_law wsX10_claim_r5 := goodIn_r _ [825, 826, 827, 828, 829, 830, 831, 832, 833, 834, 835, 836, 837, 838, 839, 840, 841, 842, 843, 844, 845, 846, 146, 847] (by decide +kernel) (by decide +kernel)
set_option maxRecDepth 20000 in
theorem ggL_law_X10_claim_5 : GoodIn wsL_law wsX10_claim_r6 := goodIn_r _ [848, 849, 850, 147, 851, 852, 853, 854, 855, 856, 857, 858, 859, 860, 861, 862, 863, 864, 865, 866, 867, 868, 869, 870] (by decide +kernel) (by decide +kernel)
set_option maxRecDepth 20000 in
theorem ggL_law_X10_claim_6 : GoodIn wsL_law wsX10_claim_r7 := goodIn_r _ [871, 872, 873, 874, 875, 876, 877, 878, 879, 880, 881, 882, 883, 884, 885, 886, 887, 888, 889, 890, 891, 892, 893, 894] (by decide +kernel) (by decide +kernel)
set_option maxRecDepth 20000 in
theorem ggL_law_X10_claim_7 : GoodIn wsL_law wsX10_claim_r8 := goodIn_r _ [895, 896, 897, 898, 507, 508, 509, 510, 899, 900, 901, 902, 903, 904, 905, 906] (by decide +kernel) (by decide +kernel)
set_option maxRecDepth 20000 in
theorem ggL_law_X10_claim_8 : GoodIn wsL_law wsX100 := goodIn_r _ [1018, 1019, 1020, 1021, 1022, 1023, 1024, 1025, 1026, 1027, 1028, 1029, 1030, 1031, 1032, 1033, 1034, 1035, 1036, 1037, 1038, 1039, 1040, 1041, 1042] (by decide +kernel) (by decide +kernel)
theorem ggL_law_X10_claim : GoodIn wsL_law wsX10_claim := goodIn_app ggL_law_X10_claim_h (goodIn_app (goodIn_app ggL_law_X10_claim_0 (goodIn_app ggL_law_X10_claim_1 (goodIn_app ggL_law_X10_claim_2 (goodIn_app ggL_law_X10_claim_3 (goodIn_app ggL_law_X10_claim_4 (goodIn_app ggL_law_X10_claim_5 (goodIn_app ggL_law_X10_claim_6 ggL_law_X10_claim_7))))))) ggL_law_X10_claim_8)
set_option maxRecDepth 20000 in
theorem gL_law_X10_claim : GoodIn wsL_law (wsV RL 85 RX10 yX10_claim wsX10_claim) := goodIn_app (goodIn_of _ (by decide +kernel)) ggL_law_X10_claim
set_option maxRecDepth 20000 in
theorem ggL_law_X9_holds_h : GoodIn wsL_law [Cond.code yX9_holds cX9_holds 3 (some .int)] := goodIn_r _ [910] (by decide +kernel) (by decide +kernel)
set_option maxRecDepth 20000 in
theorem ggL_law_X9_holds_0 : GoodIn wsL_law wsX9_holds_r1 := goodIn_r _ [15, 391, 392, 393, 2, 394, 339, 340, 341, 342, 154, 155, 156, 14, 157, 36, 399, 400, 401, 402, 31, 403, 404, 405] (by decide +kernel) (by decide +kernel)
set_option maxRecDepth 20000 in
theorem ggL_law_X9_holds_1 : GoodIn wsL_law wsX9_holds_r2 := goodIn_r _ [80, 406, 91, 96, 95, 174, 175, 407, 408, 409, 410, 411, 412, 413, 364, 365, 366, 97, 414, 415, 416, 417, 418, 419] (by decide +kernel) (by decide +kernel)
set_option maxRecDepth 20000 in
theorem ggL_law_X9_holds_2 : GoodIn wsL_law wsX9_holds_r3 := goodIn_r _ [93, 94, 92, 420, 421, 422, 423, 424, 425, 426, 427, 428, 44, 429, 430, 431, 432, 246, 247, 248, 39, 433, 434, 435] (by decide +kernel) (by decide +kernel)
set_option maxRecDepth 20000 in
theorem ggL_law_X9_holds_3 : GoodIn wsL_law wsX9_holds_r4 := goodIn_r _ [436, 437, 438, 439, 440, 38, 201, 591, 309, 310] (by decide +kernel) (by decide +kernel)
set_option maxRecDepth 20000 in
theorem ggL_law_X9_holds_4 : GoodIn wsL_law wsX90 := goodIn_r _ [1009, 1010, 1011, 1012, 1013, 1014, 1015, 1016, 1017] (by decide +kernel) (by decide +kernel)
set_option maxRecDepth 20000 in
theorem ggL_law_X9_holds_5 : GoodIn wsL_law wsX70 := goodIn_r _ [1043, 1044, 1045, 1046, 1047, 1048, 1049] (by decide +kernel) (by decide +kernel)
set_option maxRecDepth 20000 in
theorem ggL_law_X9_holds_6 : GoodIn wsL_law wsX40 := goodIn_r _ [1076, 1077, 1078, 1079, 1080, 1081, 1082, 1083] (by decide +kernel) (by decide +kernel)
set_option maxRecDepth 20000 in
theorem ggL_law_X9_holds_7 : GoodIn wsL_law wsX00 := goodIn_r _ [1087, 1088] (by decide +kernel) (by decide +kernel)
theorem ggL_law_X9_holds : GoodIn wsL_law wsX9_holds := goodIn_app ggL_law_X9_holds_h (goodIn_app (goodIn_app (goodIn_app (goodIn_app (goodIn_app ggL_law_X9_holds_0 (goodIn_app ggL_law_X9_holds_1 (goodIn_app ggL_law_X9_holds_2 ggL_law_X9_holds_3))) ggL_law_X9_holds_4) ggL_law_X9_holds_5) ggL_law_X9_holds_6) ggL_law_X9_holds_7)
set_option maxRecDepth 20000 in
theorem gL_law_X9_holds : GoodIn wsL_law (wsV RL 86 RX9 yX9_holds wsX9_holds) := goodIn_app (goodIn_of _ (by decide +kernel)) ggL_law_X9_holds
set_option maxRecDepth 20000 in
theorem ggL_law_X10_holds_h : GoodIn wsL_law [Cond.code yX10_holds cX10_holds 3 (some .int)] := goodIn_r _ [914] (by decide +kernel) (by decide +kernel)
set_option maxRecDepth 20000 in
theorem ggL_law_X10_holds_0 : GoodIn wsL_law wsX10_holds_r1 := goodIn_r _ [503, 504, 505, 5, 506, 129, 446, 447, 448, 184, 185, 186, 180, 181, 182, 183, 482, 483, 484, 485, 138, 253, 254, 255] (by decide +kernel) (by decide +kernel)
set_option maxRecDepth 20000 in
theorem ggL_law_X10_holds_1 : GoodIn wsL_law wsX10_holds_r2 := goodIn_r _ [256, 486, 487, 488, 489] (by decide +kernel) (by decide +kernel)
set_option maxRecDepth 20000 in
theorem ggL_law_X10_holds_2 : GoodIn wsL_law wsX100 := goodIn_r _ [1018, 1019, 1020, 1021, 1022, 1023, 1024, 1025, 1026, 1027, 1028, 1029, 1030, 1031, 1032, 1033, 1034, 1035, 1036, 1037, 1038, 1039, 1040, 1041, 1042] (by decide +kernel) (by decide +kernel)
theorem ggL_law_X10_holds : GoodIn wsL_law wsX10_holds := goodIn_app ggL_law_X10_holds_h (goodIn_app (goodIn_app ggL_law_X10_holds_0 ggL_law_X10_holds_1) ggL_law_X10_holds_2)
set_option maxRecDepth 20000 in
theorem gL_law_X10_holds : GoodIn wsL_law (wsV RL 89 RX10 yX10_holds wsX10_holds) := goodIn_app (goodIn_of _ (by decide +kernel)) ggL_law_X10_holds
set_option maxRecDepth 20000 in
theorem ggL_law_X9_follows_h : GoodIn wsL_law [Cond.code yX9_follows cX9_follows 4 (some .int)] := goodIn_r _ [918] (by decide +kernel) (by decide +kernel)
set_option maxRecDepth 20000 in
theorem ggL_law_X9_follows_0 : GoodIn wsL_law wsX9_follows_r1 := goodIn_r _ [27, 919, 920, 921, 2, 922, 15, 494, 495, 496, 14, 497, 41, 391, 392, 393, 394, 339, 340, 341, 342, 600, 601, 602] (by decide +kernel) (by decide +kernel)
set_option maxRecDepth 20000 in
theorem ggL_law_X9_follows_1 : GoodIn wsL_law wsX9_follows_r2 := goodIn_r _ [603, 31, 29, 403, 404, 405, 80, 406, 91, 96, 95, 174, 175, 407, 408, 409, 410, 411, 412, 413, 364, 365, 366, 97] (by decide +kernel) (by decide +kernel)
set_option maxRecDepth 20000 in
theorem ggL_law_X9_follows_2 : GoodIn wsL_law wsX9_follows_r3 := goodIn_r _ [414, 415, 416, 417, 418, 419, 93, 94, 92, 604, 605, 606, 61, 607, 83, 82, 608, 609, 610, 611, 81, 612, 613, 614] (by decide +kernel) (by decide +kernel)
set_option maxRecDepth 20000 in
theorem ggL_law_X9_follows_3 : GoodIn wsL_law wsX9_follows_r4 := goodIn_r _ [615, 616, 86, 617, 618, 619, 26, 620, 70, 71, 621, 622, 623, 69, 624, 103, 107, 638, 639, 640, 641, 66, 642, 643] (by decide +kernel) (by decide +kernel)
set_option maxRecDepth 20000 in
theorem ggL_law_X9_follows_4 : GoodIn wsL_law wsX9_follows_r5 := goodIn_r _ [64, 644, 645, 646, 109, 647, 648, 113, 114, 115, 649, 650, 651, 652, 62, 653, 654, 655, 656, 657, 658, 659, 660, 661] (by decide +kernel) (by decide +kernel)
set_option maxRecDepth 20000 in
theorem ggL_law_X9_follows_5 : GoodIn wsL_law wsX9_follows_r6 := goodIn_r _ [421, 422, 423, 662, 663, 664, 665, 666, 667, 668, 669, 670, 671, 672, 673, 674, 675, 676, 677, 678, 679, 680, 681, 682] (by decide +kernel) (by decide +kernel)
set_option maxRecDepth 20000 in
theorem ggL_law_X9_follows_6 : GoodIn wsL_law wsX9_follows_r7 := goodIn_r _ [683, 684, 685, 686, 687, 688, 689, 690, 691, 692, 693, 694, 695, 696, 697, 698, 699, 700, 701, 702, 703, 704, 705, 706] (by decide +kernel) (by decide +kernel)
set_option maxRecDepth 20000 in
theorem ggL_law_X9_follows_7 : GoodIn wsL_law wsX9_follows_r8 := goodIn_r _ [707, 708, 709, 710, 711, 712, 713, 714, 715, 716, 717, 718, 719, 720, 721, 722, 723, 724, 725, 726, 727, 728, 729, 730] (by decide +kernel) (by decide +kernel)
set_option maxRecDepth 20000 in
theorem ggL_law_X9_follows_8 : GoodIn wsL_law wsX9_follows_r9 := goodIn_r _ [731, 732, 733, 734, 735, 105, 106, 736, 737, 738, 739, 740, 741, 591, 309, 310] (by decide +kernel) (by decide +kernel)
set_option maxRecDepth 20000 in
theorem ggL_law_X9_follows_9 : GoodIn wsL_law wsX90 := goodIn_r _ [1009, 1010, 1011, 1012, 1013, 1014, 1015, 1016, 1017] (by decide +kernel) (by decide +kernel)
set_option maxRecDepth 20000 in
theorem ggL_law_X9_follows_10 : GoodIn wsL_law wsX70 := goodIn_r _ [1043, 1044, 1045, 1046, 1047, 1048, 1049] (by decide +kernel) (by decide +kernel)
set_option maxRecDepth 20000 in
theorem ggL_law_X9_follows_11 : GoodIn wsL_law wsX40 := goodIn_r _ [1076, 1077, 1078, 1079, 1080, 1081, 1082, 1083] (by decide +kernel) (by decide +kernel)
set_option maxRecDepth 20000 in
theorem ggL_law_X9_follows_12 : GoodIn wsL_law wsX00 := goodIn_r _ [1087, 1088] (by decide +kernel) (by decide +kernel)
set_option maxRecDepth 20000 in
theorem ggL_law_X9_follows_13 : GoodIn wsL_law wsX60 := goodIn_r _ [1062, 1063, 1064, 1065, 1066] (by decide +kernel) (by decide +kernel)
set_option maxRecDepth 20000 in
theorem ggL_law_X9_follows_14 : GoodIn wsL_law wsX50 := goodIn_r _ [1057, 1058, 1059, 1060, 1061] (by decide +kernel) (by decide +kernel)
set_option maxRecDepth 20000 in
theorem ggL_law_X9_follows_15 : GoodIn wsL_law wsX10 := goodIn_r _ [1067, 1068, 1069, 1070] (by decide +kernel) (by decide +kernel)
set_option maxRecDepth 20000 in
theorem ggL_law_X9_follows_16 : GoodIn wsL_law wsX20 := goodIn_r _ [1071, 1072, 1073, 1074, 1075] (by decide +kernel) (by decide +kernel)
set_option maxRecDepth 20000 in
theorem ggL_law_X9_follows_17 : GoodIn wsL_law wsX30 := goodIn_r _ [1084, 1085, 1086] (by decide +kernel) (by decide +kernel)
theorem ggL_law_X9_follows : GoodIn wsL_law wsX9_follows := goodIn_app ggL_law_X9_follows_h (goodIn_app (goodIn_app (goodIn_app (goodIn_app (goodIn_app (goodIn_app (goodIn_app (goodIn_app (goodIn_app (goodIn_app ggL_law_X9_follows_0 (goodIn_app ggL_law_X9_follows_1 (goodIn_app ggL_law_X9_follows_2 (goodIn_app ggL_law_X9_follows_3 (goodIn_app ggL_law_X9_follows_4 (goodIn_app ggL_law_X9_follows_5 (goodIn_app ggL_law_X9_follows_6 (goodIn_app ggL_law_X9_follows_7 ggL_law_X9_follows_8)))))))) ggL_law_X9_follows_9) ggL_law_X9_follows_10) ggL_law_X9_follows_11) ggL_law_X9_follows_12) ggL_law_X9_follows_13) ggL_law_X9_follows_14) ggL_law_X9_follows_15) ggL_law_X9_follows_16) ggL_law_X9_follows_17)
set_option maxRecDepth 20000 in
theorem gL_law_X9_follows : GoodIn wsL_law (wsV RL 90 RX9 yX9_follows wsX9_follows) := goodIn_app (goodIn_of _ (by decide +kernel)) ggL_law_X9_follows
set_option maxRecDepth 20000 in
theorem ggL_law_X10_follows_h : GoodIn wsL_law [Cond.code yX10_follows cX10_follows 3 (some .int)] := goodIn_r _ [926] (by decide +kernel) (by decide +kernel)
set_option maxRecDepth 20000 in
theorem ggL_law_X10_follows_0 : GoodIn wsL_law wsX10_follows_r1 := goodIn_r _ [895, 896, 897, 5, 898, 184, 185, 186, 507, 508, 509, 510, 503, 504, 505, 506, 129, 446, 447, 448, 780, 781, 782, 783] (by decide +kernel) (by decide +kernel)
set_option maxRecDepth 20000 in
theorem ggL_law_X10_follows_1 : GoodIn wsL_law wsX10_follows_r2 := goodIn_r _ [784, 785, 786, 787, 144, 145, 788, 789, 790, 791, 792, 793, 794, 795, 796, 139, 140, 141, 797, 798, 799, 800, 143, 801] (by decide +kernel) (by decide +kernel)
set_option maxRecDepth 20000 in
theorem ggL_law_X10_follows_2 : GoodIn wsL_law wsX10_follows_r3 := goodIn_r _ [802, 803, 804, 805, 806, 807, 808, 809, 810, 811, 812, 813, 814, 815, 816, 817, 818, 819, 820, 821, 822, 823, 824, 825] (by decide +kernel) (by decide +kernel)
set_option maxRecDepth 20000 in
theorem ggL_law_X10_follows_3 : GoodIn wsL_law wsX10_follows_r4 := goodIn_r _ [826, 138, 827, 828, 829, 830, 831, 832, 833, 834, 835, 836, 837, 838, 839, 840, 841, 842, 843, 844, 845, 846, 146, 847] (by decide +kernel) (by decide +kernel)
set_option maxRecDepth 20000 in
theorem ggL_law_X10_follows_4 : GoodIn wsL_law wsX10_follows_r5 := goodIn_r _ [848, 849, 850, 147, 851, 852, 853, 854, 855, 856, 857, 858, 859, 860, 861, 862, 863, 864, 865, 866, 867, 868, 869, 870] (by decide +kernel) (by decide +kernel)
set_option maxRecDepth 20000 in
theorem ggL_law_X10_follows_5 : GoodIn wsL_law wsX10_follows_r6 := goodIn_r _ [871, 872, 873, 874, 875, 876, 877, 878, 879, 880, 881, 882, 883, 884, 885, 886, 887, 888, 889, 890] (by decide +kernel) (by decide +kernel)
set_option maxRecDepth 20000 in
theorem ggL_law_X10_follows_6 : GoodIn wsL_law wsX100 := goodIn_r _ [1018, 1019, 1020, 1021, 1022, 1023, 1024, 1025, 1026, 1027, 1028, 1029, 1030, 1031, 1032, 1033, 1034, 1035, 1036, 1037, 1038, 1039, 1040, 1041, 1042] (by decide +kernel) (by decide +kernel)
theorem ggL_law_X10_follows : GoodIn wsL_law wsX10_follows := goodIn_app ggL_law_X10_follows_h (goodIn_app (goodIn_app ggL_law_X10_follows_0 (goodIn_app ggL_law_X10_follows_1 (goodIn_app ggL_law_X10_follows_2 (goodIn_app ggL_law_X10_follows_3 (goodIn_app ggL_law_X10_follows_4 ggL_law_X10_follows_5))))) ggL_law_X10_follows_6)
set_option maxRecDepth 20000 in
theorem gL_law_X10_follows : GoodIn wsL_law (wsV RL 93 RX10 yX10_follows wsX10_follows) := goodIn_app (goodIn_of _ (by decide +kernel)) ggL_law_X10_follows
set_option maxRecDepth 20000 in
theorem ggL_law_X9_followsPlainly_h : GoodIn wsL_law [Cond.code yX9_followsPlainly cX9_followsPlainly 4 (some .int)] := goodIn_r _ [930] (by decide +kernel) (by decide +kernel)
set_option maxRecDepth 20000 in
theorem ggL_law_X9_followsPlainly_0 : GoodIn wsL_law wsX9_followsPlainly_r1 := goodIn_r _ [29, 919, 920, 921, 2, 922, 15, 494, 495, 496, 14, 497, 41, 391, 392, 393, 394, 339, 340, 341, 342, 600, 601, 602] (by decide +kernel) (by decide +kernel)
set_option maxRecDepth 20000 in
theorem ggL_law_X9_followsPlainly_1 : GoodIn wsL_law wsX9_followsPlainly_r2 := goodIn_r _ [603, 31, 27, 403, 404, 405, 80, 406, 91, 96, 95, 174, 175, 407, 408, 409, 410, 411, 412, 413, 364, 365, 366, 97] (by decide +kernel) (by decide +kernel)
set_option maxRecDepth 20000 in
theorem ggL_law_X9_followsPlainly_2 : GoodIn wsL_law wsX9_followsPlainly_r3 := goodIn_r _ [414, 415, 416, 417, 418, 419, 93, 94, 92, 604, 605, 606, 61, 607, 83, 82, 608, 609, 610, 611, 81, 612, 613, 614] (by decide +kernel) (by decide +kernel)
set_option maxRecDepth 20000 in
theorem ggL_law_X9_followsPlainly_3 : GoodIn wsL_law wsX9_followsPlainly_r4 := goodIn_r _ [615, 616, 86, 617, 618, 619, 26, 620, 70, 71, 621, 622, 623, 69, 624, 103, 107, 742, 743, 744, 745, 746, 747, 748] (by decide +kernel) (by decide +kernel)
set_option maxRecDepth 20000 in
theorem ggL_law_X9_followsPlainly_4 : GoodIn wsL_law wsX9_followsPlainly_r5 := goodIn_r _ [749, 750, 751, 752, 753, 754, 421, 422, 423, 591, 309, 310] (by decide +kernel) (by decide +kernel)
set_option maxRecDepth 20000 in
theorem ggL_law_X9_followsPlainly_5 : GoodIn wsL_law wsX90 := goodIn_r _ [1009, 1010, 1011, 1012, 1013, 1014, 1015, 1016, 1017] (by decide +kernel) (by decide +kernel)
set_option maxRecDepth 20000 in
theorem ggL_law_X9_followsPlainly_6 : GoodIn wsL_law wsX70 := goodIn_r _ [1043, 1044, 1045, 1046, 1047, 1048, 1049] (by decide +kernel) (by decide +kernel)
set_option maxRecDepth 20000 in
theorem ggL_law_X9_followsPlainly_7 : GoodIn wsL_law wsX40 := goodIn_r _ [1076, 1077, 1078, 1079, 1080, 1081, 1082, 1083] (by decide +kernel) (by decide +kernel)
set_option maxRecDepth 20000 in
theorem ggL_law_X9_followsPlainly_8 : GoodIn wsL_law wsX00 := goodIn_r _ [1087, 1088] (by decide +kernel) (by decide +kernel)
set_option maxRecDepth 20000 in
theorem ggL_law_X9_followsPlainly_9 : GoodIn wsL_law wsX60 := goodIn_r _ [1062, 1063, 1064, 1065, 1066] (by decide +kernel) (by decide +kernel)
set_option maxRecDepth 20000 in
theorem ggL_law_X9_followsPlainly_10 : GoodIn wsL_law wsX50 := goodIn_r _ [1057, 1058, 1059, 1060, 1061] (by decide +kernel) (by decide +kernel)
set_option maxRecDepth 20000 in
theorem ggL_law_X9_followsPlainly_11 : GoodIn wsL_law wsX10 := goodIn_r _ [1067, 1068, 1069, 1070] (by decide +kernel) (by decide +kernel)
theorem ggL_law_X9_followsPlainly : GoodIn wsL_law wsX9_followsPlainly := goodIn_app ggL_law_X9_followsPlainly_h (goodIn_app (goodIn_app (goodIn_app (goodIn_app (goodIn_app (goodIn_app (goodIn_app (goodIn_app ggL_law_X9_followsPlainly_0 (goodIn_app ggL_law_X9_followsPlainly_1 (goodIn_app ggL_law_X9_followsPlainly_2 (goodIn_app ggL_law_X9_followsPlainly_3 ggL_law_X9_followsPlainly_4)))) ggL_law_X9_followsPlainly_5) ggL_law_X9_followsPlainly_6) ggL_law_X9_followsPlainly_7) ggL_law_X9_followsPlainly_8) ggL_law_X9_followsPlainly_9) ggL_law_X9_followsPlainly_10) ggL_law_X9_followsPlainly_11)
set_option maxRecDepth 20000 in
theorem gL_law_X9_followsPlainly : GoodIn wsL_law (wsV RL 94 RX9 yX9_followsPlainly wsX9_followsPlainly) := goodIn_app (goodIn_of _ (by decide +kernel)) ggL_law_X9_followsPlainly
set_option maxRecDepth 20000 in
theorem ggL_law_X10_followsPlainly_h : GoodIn wsL_law [Cond.code yX10_followsPlainly cX10_followsPlainly 3 (some .int)] := goodIn_r _ [894] (by decide +kernel) (by decide +kernel)
set_option maxRecDepth 20000 in
theorem ggL_law_X10_followsPlainly_0 : GoodIn wsL_law wsX10_followsPlainly_r1 := goodIn_r _ [895, 896, 897, 5, 898, 184, 185, 186, 507, 508, 509, 510, 503, 504, 505, 506, 129, 446, 447, 448, 784, 785, 786, 787] (by decide +kernel) (by decide +kernel)
set_option maxRecDepth 20000 in
theorem ggL_law_X10_followsPlainly_1 : GoodIn wsL_law wsX10_followsPlainly_r2 := goodIn_r _ [144, 145, 788, 789, 790, 791, 792, 793, 794, 795, 796, 139, 140, 141, 797, 798, 799, 800, 143, 801, 802, 803, 804, 805] (by decide +kernel) (by decide +kernel)
set_option maxRecDepth 20000 in
theorem ggL_law_X10_followsPlainly_2 : GoodIn wsL_law wsX10_followsPlainly_r3 := goodIn_r _ [806, 807, 808, 809, 810, 811, 812, 813, 814, 815, 816, 817, 818, 819, 820, 821, 822, 823, 824, 825, 826, 138, 827, 828] (by decide +kernel) (by decide +kernel)
set_option maxRecDepth 20000 in
theorem ggL_law_X10_followsPlainly_3 : GoodIn wsL_law wsX10_followsPlainly_r4 := goodIn_r _ [829, 830, 831, 832, 833, 834, 835, 836, 837, 838, 839, 840, 841, 842, 899, 900, 901, 902, 884, 885, 886, 863, 864, 865] (by decide +kernel) (by decide +kernel)
set_option maxRecDepth 20000 in
theorem ggL_law_X10_followsPlainly_4 : GoodIn wsL_law wsX10_followsPlainly_r5 := goodIn_r _ [866] (by decide +kernel) (by decide +kernel)
set_option maxRecDepth 20000 in
theorem ggL_law_X10_followsPlainly_5 : GoodIn wsL_law wsX100 := goodIn_r _ [1018, 1019, 1020, 1021, 1022, 1023, 1024, 1025, 1026, 1027, 1028, 1029, 1030, 1031, 1032, 1033, 1034, 1035, 1036, 1037, 1038, 1039, 1040, 1041, 1042] (by decide +kernel) (by decide +kernel)
theorem ggL_law_X10_followsPlainly : GoodIn wsL_law wsX10_followsPlainly := goodIn_app ggL_law_X10_followsPlainly_h (goodIn_app (goodIn_app ggL_law_X10_followsPlainly_0 (goodIn_app ggL_law_X10_followsPlainly_1 (goodIn_app ggL_law_X10_followsPlainly_2 (goodIn_app ggL_law_X10_followsPlainly_3 ggL_law_X10_followsPlainly_4)))) ggL_law_X10_followsPlainly_5)
set_option maxRecDepth 20000 in
theorem gL_law_X10_followsPlainly : GoodIn wsL_law (wsV RL 97 RX10 yX10_followsPlainly wsX10_followsPlainly) := goodIn_app (goodIn_of _ (by decide +kernel)) ggL_law_X10_followsPlainly
set_option maxRecDepth 20000 in
theorem ggL_law_X9_fewestStages_h : GoodIn wsL_law [Cond.code yX9_fewestStages cX9_fewestStages 5 (some .int)] := goodIn_r _ [935] (by decide +kernel) (by decide +kernel)
set_option maxRecDepth 20000 in
theorem ggL_law_X9_fewestStages_0 : GoodIn wsL_law wsX9_fewestStages_r1 := goodIn_r _ [29, 919, 920, 921, 2, 922, 15, 494, 495, 496, 14, 497, 41, 391, 392, 393, 394, 339, 340, 341, 342, 600, 601, 602] (by decide +kernel) (by decide +kernel)
set_option maxRecDepth 20000 in
theorem ggL_law_X9_fewestStages_1 : GoodIn wsL_law wsX9_fewestStages_r2 := goodIn_r _ [603, 31, 27, 403, 404, 405, 80, 406, 91, 96, 95, 174, 175, 407, 408, 409, 410, 411, 412, 413, 364, 365, 366, 97] (by decide +kernel) (by decide +kernel)
set_option maxRecDepth 20000 in
theorem ggL_law_X9_fewestStages_2 : GoodIn wsL_law wsX9_fewestStages_r3 := goodIn_r _ [414, 415, 416, 417, 418, 419, 93, 94, 92, 604, 605, 606, 61, 607, 83, 82, 608, 609, 610, 611, 81, 612, 613, 614] (by decide +kernel) (by decide +kernel)
set_option maxRecDepth 20000 in
theorem ggL_law_X9_fewestStages_3 : GoodIn wsL_law wsX9_fewestStages_r4 := goodIn_r _ [615, 616, 86, 617, 618, 619, 26, 620, 70, 71, 621, 622, 623, 69, 624, 103, 107, 936, 937, 938, 939, 84, 940, 743] (by decide +kernel) (by decide +kernel)
set_option maxRecDepth 20000 in
theorem ggL_law_X9_fewestStages_4 : GoodIn wsL_law wsX9_fewestStages_r5 := goodIn_r _ [744, 745, 746, 747, 748, 749, 750, 751, 752, 753, 754, 421, 422, 423, 941, 635, 636, 637, 942, 943, 944, 945, 946, 947] (by decide +kernel) (by decide +kernel)
set_option maxRecDepth 20000 in
theorem ggL_law_X9_fewestStages_5 : GoodIn wsL_law wsX9_fewestStages_r6 := goodIn_r _ [948, 949, 950, 951, 952, 85, 953, 954, 955, 956] (by decide +kernel) (by decide +kernel)
set_option maxRecDepth 20000 in
theorem ggL_law_X9_fewestStages_6 : GoodIn wsL_law wsX90 := goodIn_r _ [1009, 1010, 1011, 1012, 1013, 1014, 1015, 1016, 1017] (by decide +kernel) (by decide +kernel)
set_option maxRecDepth 20000 in
theorem ggL_law_X9_fewestStages_7 : GoodIn wsL_law wsX70 := goodIn_r _ [1043, 1044, 1045, 1046, 1047, 1048, 1049] (by decide +kernel) (by decide +kernel)
set_option maxRecDepth 20000 in
theorem ggL_law_X9_fewestStages_8 : GoodIn wsL_law wsX40 := goodIn_r _ [1076, 1077, 1078, 1079, 1080, 1081, 1082, 1083] (by decide +kernel) (by decide +kernel)
set_option maxRecDepth 20000 in
theorem ggL_law_X9_fewestStages_9 : GoodIn wsL_law wsX00 := goodIn_r _ [1087, 1088] (by decide +kernel) (by decide +kernel)
set_option maxRecDepth 20000 in
theorem ggL_law_X9_fewestStages_10 : GoodIn wsL_law wsX60 := goodIn_r _ [1062, 1063, 1064, 1065, 1066] (by decide +kernel) (by decide +kernel)
set_option maxRecDepth 20000 in
theorem ggL_law_X9_fewestStages_11 : GoodIn wsL_law wsX50 := goodIn_r _ [1057, 1058, 1059, 1060, 1061] (by decide +kernel) (by decide +kernel)
set_option maxRecDepth 20000 in
theorem ggL_law_X9_fewestStages_12 : GoodIn wsL_law wsX10 := goodIn_r _ [1067, 1068, 1069, 1070] (by decide +kernel) (by decide +kernel)
theorem ggL_law_X9_fewestStages : GoodIn wsL_law wsX9_fewestStages := goodIn_app ggL_law_X9_fewestStages_h (goodIn_app (goodIn_app (goodIn_app (goodIn_app (goodIn_app (goodIn_app (goodIn_app (goodIn_app ggL_law_X9_fewestStages_0 (goodIn_app ggL_law_X9_fewestStages_1 (goodIn_app ggL_law_X9_fewestStages_2 (goodIn_app ggL_law_X9_fewestStages_3 (goodIn_app ggL_law_X9_fewestStages_4 ggL_law_X9_fewestStages_5))))) ggL_law_X9_fewestStages_6) ggL_law_X9_fewestStages_7) ggL_law_X9_fewestStages_8) ggL_law_X9_fewestStages_9) ggL_law_X9_fewestStages_10) ggL_law_X9_fewestStages_11) ggL_law_X9_fewestStages_12)
set_option maxRecDepth 20000 in
theorem gL_law_X9_fewestStages : GoodIn wsL_law (wsV RL 98 RX9 yX9_fewestStages wsX9_fewestStages) := goodIn_app (goodIn_of _ (by decide +kernel)) ggL_law_X9_fewestStages
set_option maxRecDepth 20000 in
theorem ggL_law_X10_fewestStages_h : GoodIn wsL_law [Cond.code yX10_fewestStages cX10_fewestStages 3 (some .int)] := goodIn_r _ [960] (by decide +kernel) (by decide +kernel)
set_option maxRecDepth 20000 in
theorem ggL_law_X10_fewestStages_0 : GoodIn wsL_law wsX10_fewestStages_r1 := goodIn_r _ [895, 896, 897, 5, 898, 184, 185, 186, 507, 508, 509, 510, 503, 504, 505, 506, 129, 446, 447, 448, 784, 785, 786, 787] (by decide +kernel) (by decide +kernel)
set_option maxRecDepth 20000 in
theorem ggL_law_X10_fewestStages_1 : GoodIn wsL_law wsX10_fewestStages_r2 := goodIn_r _ [144, 145, 788, 789, 790, 791, 792, 793, 794, 795, 796, 139, 140, 141, 797, 798, 799, 800, 143, 801, 802, 803, 804, 805] (by decide +kernel) (by decide +kernel)
set_option maxRecDepth 20000 in
theorem ggL_law_X10_fewestStages_2 : GoodIn wsL_law wsX10_fewestStages_r3 := goodIn_r _ [806, 807, 808, 809, 810, 811, 812, 813, 814, 815, 816, 817, 818, 819, 820, 821, 822, 823, 824, 825, 826, 138, 827, 828] (by decide +kernel) (by decide +kernel)
set_option maxRecDepth 20000 in
theorem ggL_law_X10_fewestStages_3 : GoodIn wsL_law wsX10_fewestStages_r4 := goodIn_r _ [829, 830, 831, 832, 833, 834, 835, 836, 837, 838, 839, 840, 841, 842, 899, 900, 901, 902, 884, 885, 886, 863, 864, 865] (by decide +kernel) (by decide +kernel)
set_option maxRecDepth 20000 in
theorem ggL_law_X10_fewestStages_4 : GoodIn wsL_law wsX10_fewestStages_r5 := goodIn_r _ [866] (by decide +kernel) (by decide +kernel)
set_option maxRecDepth 20000 in
theorem ggL_law_X10_fewestStages_5 : GoodIn wsL_law wsX100 := goodIn_r _ [1018, 1019, 1020, 1021, 1022, 1023, 1024, 1025, 1026, 1027, 1028, 1029, 1030, 1031, 1032, 1033, 1034, 1035, 1036, 1037, 1038, 1039, 1040, 1041, 1042] (by decide +kernel) (by decide +kernel)
theorem ggL_law_X10_fewestStages : GoodIn wsL_law wsX10_fewestStages := goodIn_app ggL_law_X10_fewestStages_h (goodIn_app (goodIn_app ggL_law_X10_fewestStages_0 (goodIn_app ggL_law_X10_fewestStages_1 (goodIn_app ggL_law_X10_fewestStages_2 (goodIn_app ggL_law_X10_fewestStages_3 ggL_law_X10_fewestStages_4)))) ggL_law_X10_fewestStages_5)
set_option maxRecDepth 20000 in
theorem gL_law_X10_fewestStages : GoodIn wsL_law (wsV RL 101 RX10 yX10_fewestStages wsX10_fewestStages) := goodIn_app (goodIn_of _ (by decide +kernel)) ggL_law_X10_fewestStages
set_option maxRecDepth 20000 in
theorem ggL_law_X9_fewestPremises_h : GoodIn wsL_law [Cond.code yX9_fewestPremises cX9_fewestPremises 6 (some .int)] := goodIn_r _ [964] (by decide +kernel) (by decide +kernel)
set_option maxRecDepth 20000 in
theorem ggL_law_X9_fewestPremises_0 : GoodIn wsL_law wsX9_fewestPremises_r1 := goodIn_r _ [27, 919, 920, 921, 2, 922, 15, 494, 495, 496, 14, 497, 41, 391, 392, 393, 394, 339, 340, 341, 342, 600, 601, 602] (by decide +kernel) (by decide +kernel)
set_option maxRecDepth 20000 in
theorem ggL_law_X9_fewestPremises_1 : GoodIn wsL_law wsX9_fewestPremises_r2 := goodIn_r _ [603, 31, 29, 403, 404, 405, 80, 406, 91, 96, 95, 174, 175, 407, 408, 409, 410, 411, 412, 413, 364, 365, 366, 97] (by decide +kernel) (by decide +kernel)
set_option maxRecDepth 20000 in
theorem ggL_law_X9_fewestPremises_2 : GoodIn wsL_law wsX9_fewestPremises_r3 := goodIn_r _ [414, 415, 416, 417, 418, 419, 93, 94, 92, 604, 605, 606, 61, 607, 83, 82, 608, 609, 610, 611, 81, 612, 613, 614] (by decide +kernel) (by decide +kernel)
set_option maxRecDepth 20000 in
theorem ggL_law_X9_fewestPremises_3 : GoodIn wsL_law wsX9_fewestPremises_r4 := goodIn_r _ [615, 616, 86, 617, 618, 619, 26, 620, 70, 71, 621, 622, 623, 69, 624, 103, 107, 638, 639, 640, 641, 66, 642, 643] (by decide +kernel) (by decide +kernel)
set_option maxRecDepth 20000 in
theorem ggL_law_X9_fewestPremises_4 : GoodIn wsL_law wsX9_fewestPremises_r5 := goodIn_r _ [64, 644, 645, 646, 109, 647, 648, 113, 114, 115, 649, 650, 651, 652, 62, 653, 654, 655, 656, 657, 658, 659, 660, 661] (by decide +kernel) (by decide +kernel)
set_option maxRecDepth 20000 in
theorem ggL_law_X9_fewestPremises_5 : GoodIn wsL_law wsX9_fewestPremises_r6 := goodIn_r _ [421, 422, 423, 662, 663, 664, 665, 666, 667, 668, 669, 670, 671, 672, 673, 674, 675, 676, 677, 678, 679, 680, 681, 682] (by decide +kernel) (by decide +kernel)
set_option maxRecDepth 20000 in
theorem ggL_law_X9_fewestPremises_6 : GoodIn wsL_law wsX9_fewestPremises_r7 := goodIn_r _ [683, 684, 685, 686, 687, 688, 689, 690, 691, 692, 693, 694, 695, 696, 697, 698, 699, 700, 701, 702, 703, 704, 705, 706] (by decide +kernel) (by decide +kernel)
set_option maxRecDepth 20000 in
theorem ggL_law_X9_fewestPremises_7 : GoodIn wsL_law wsX9_fewestPremises_r8 := goodIn_r _ [707, 708, 709, 710, 711, 712, 713, 714, 715, 716, 717, 718, 719, 720, 721, 722, 723, 724, 725, 726, 727, 728, 729, 730] (by decide +kernel) (by decide +kernel)
set_option maxRecDepth 20000 in
theorem ggL_law_X9_fewestPremises_8 : GoodIn wsL_law wsX9_fewestPremises_r9 := goodIn_r _ [731, 732, 733, 734, 735, 105, 106, 736, 737, 738, 739, 740, 741, 498, 207, 208, 209, 210, 211, 212] (by decide +kernel) (by decide +kernel)
set_option maxRecDepth 20000 in
theorem ggL_law_X9_fewestPremises_9 : GoodIn wsL_law wsX90 := goodIn_r _ [1009, 1010, 1011, 1012, 1013, 1014, 1015, 1016, 1017] (by decide +kernel) (by decide +kernel)
set_option maxRecDepth 20000 in
theorem ggL_law_X9_fewestPremises_10 : GoodIn wsL_law wsX70 := goodIn_r _ [1043, 1044, 1045, 1046, 1047, 1048, 1049] (by decide +kernel) (by decide +kernel)
set_option maxRecDepth 20000 in
theorem ggL_law_X9_fewestPremises_11 : GoodIn wsL_law wsX40 := goodIn_r _ [1076, 1077, 1078, 1079, 1080, 1081, 1082, 1083] (by decide +kernel) (by decide +kernel)
set_option maxRecDepth 20000 in
theorem ggL_law_X9_fewestPremises_12 : GoodIn wsL_law wsX00 := goodIn_r _ [1087, 1088] (by decide +kernel) (by decide +kernel)
set_option maxRecDepth 20000 in
theorem ggL_law_X9_fewestPremises_13 : GoodIn wsL_law wsX60 := goodIn_r _ [1062, 1063, 1064, 1065, 1066] (by decide +kernel) (by decide +kernel)
set_option maxRecDepth 20000 in
theorem ggL_law_X9_fewestPremises_14 : GoodIn wsL_law wsX50 := goodIn_r _ [1057, 1058, 1059, 1060, 1061] (by decide +kernel) (by decide +kernel)
set_option maxRecDepth 20000 in
theorem ggL_law_X9_fewestPremises_15 : GoodIn wsL_law wsX10 := goodIn_r _ [1067, 1068, 1069, 1070] (by decide +kernel) (by decide +kernel)
set_option maxRecDepth 20000 in
theorem ggL_law_X9_fewestPremises_16 : GoodIn wsL_law wsX20 := goodIn_r _ [1071, 1072, 1073, 1074, 1075] (by decide +kernel) (by decide +kernel)
set_option maxRecDepth 20000 in
theorem ggL_law_X9_fewestPremises_17 : GoodIn wsL_law wsX30 := goodIn_r _ [1084, 1085, 1086] (by decide +kernel) (by decide +kernel)
theorem ggL_law_X9_fewestPremises : GoodIn wsL_law wsX9_fewestPremises := goodIn_app ggL_law_X9_fewestPremises_h (goodIn_app (goodIn_app (goodIn_app (goodIn_app (goodIn_app (goodIn_app (goodIn_app (goodIn_app (goodIn_app (goodIn_app ggL_law_X9_fewestPremises_0 (goodIn_app ggL_law_X9_fewestPremises_1 (goodIn_app ggL_law_X9_fewestPremises_2 (goodIn_app ggL_law_X9_fewestPremises_3 (goodIn_app ggL_law_X9_fewestPremises_4 (goodIn_app ggL_law_X9_fewestPremises_5 (goodIn_app ggL_law_X9_fewestPremises_6 (goodIn_app ggL_law_X9_fewestPremises_7 ggL_law_X9_fewestPremises_8)))))))) ggL_law_X9_fewestPremises_9) ggL_law_X9_fewestPremises_10) ggL_law_X9_fewestPremises_11) ggL_law_X9_fewestPremises_12) ggL_law_X9_fewestPremises_13) ggL_law_X9_fewestPremises_14) ggL_law_X9_fewestPremises_15) ggL_law_X9_fewestPremises_16) ggL_law_X9_fewestPremises_17)
set_option maxRecDepth 20000 in
theorem gL_law_X9_fewestPremises : GoodIn wsL_law (wsV RL 102 RX9 yX9_fewestPremises wsX9_fewestPremises) := goodIn_app (goodIn_of _ (by decide +kernel)) ggL_law_X9_fewestPremises
set_option maxRecDepth 20000 in
theorem ggL_law_X10_fewestPremises_h : GoodIn wsL_law [Cond.code yX10_fewestPremises cX10_fewestPremises 5 (some .int)] := goodIn_r _ [968] (by decide +kernel) (by decide +kernel)
set_option maxRecDepth 20000 in
theorem ggL_law_X10_fewestPremises_0 : GoodIn wsL_law wsX10_fewestPremises_r1 := goodIn_r _ [895, 896, 897, 5, 898, 184, 185, 186, 507, 508, 509, 510, 503, 504, 505, 506, 129, 446, 447, 448, 780, 781, 782, 783] (by decide +kernel) (by decide +kernel)
set_option maxRecDepth 20000 in
theorem ggL_law_X10_fewestPremises_1 : GoodIn wsL_law wsX10_fewestPremises_r2 := goodIn_r _ [784, 785, 786, 787, 144, 145, 788, 789, 790, 791, 792, 793, 794, 795, 796, 139, 140, 141, 797, 798, 799, 800, 143, 801] (by decide +kernel) (by decide +kernel)
set_option maxRecDepth 20000 in
theorem ggL_law_X10_fewestPremises_2 : GoodIn wsL_law wsX10_fewestPremises_r3 := goodIn_r _ [802, 803, 804, 805, 806, 807, 808, 809, 810, 811, 812, 813, 814, 815, 816, 817, 818, 819, 820, 821, 822, 823, 824, 825] (by decide +kernel) (by decide +kernel)
set_option maxRecDepth 20000 in
theorem ggL_law_X10_fewestPremises_3 : GoodIn wsL_law wsX10_fewestPremises_r4 := goodIn_r _ [826, 138, 827, 828, 829, 830, 831, 832, 833, 834, 835, 836, 837, 838, 839, 840, 841, 842, 843, 844, 845, 846, 146, 847] (by decide +kernel) (by decide +kernel)
set_option maxRecDepth 20000 in
theorem ggL_law_X10_fewestPremises_4 : GoodIn wsL_law wsX10_fewestPremises_r5 := goodIn_r _ [848, 849, 850, 147, 851, 852, 853, 854, 855, 856, 857, 858, 859, 860, 861, 862, 863, 864, 865, 866, 867, 868, 869, 870] (by decide +kernel) (by decide +kernel)
set_option maxRecDepth 20000 in
theorem ggL_law_X10_fewestPremises_5 : GoodIn wsL_law wsX10_fewestPremises_r6 := goodIn_r _ [871, 872, 873, 874, 875, 876, 877, 878, 879, 880, 881, 882, 883, 884, 885, 886, 887, 888, 889, 890, 229, 230, 231] (by decide +kernel) (by decide +kernel)
set_option maxRecDepth 20000 in
theorem ggL_law_X10_fewestPremises_6 : GoodIn wsL_law wsX100 := goodIn_r _ [1018, 1019, 1020, 1021, 1022, 1023, 1024, 1025, 1026, 1027, 1028, 1029, 1030, 1031, 1032, 1033, 1034, 1035, 1036, 1037, 1038, 1039, 1040, 1041, 1042] (by decide +kernel) (by decide +kernel)
theorem ggL_law_X10_fewestPremises : GoodIn wsL_law wsX10_fewestPremises := goodIn_app ggL_law_X10_fewestPremises_h (goodIn_app (goodIn_app ggL_law_X10_fewestPremises_0 (goodIn_app ggL_law_X10_fewestPremises_1 (goodIn_app ggL_law_X10_fewestPremises_2 (goodIn_app ggL_law_X10_fewestPremises_3 (goodIn_app ggL_law_X10_fewestPremises_4 ggL_law_X10_fewestPremises_5))))) ggL_law_X10_fewestPremises_6)
set_option maxRecDepth 20000 in
theorem gL_law_X10_fewestPremises : GoodIn wsL_law (wsV RL 105 RX10 yX10_fewestPremises wsX10_fewestPremises) := goodIn_app (goodIn_of _ (by decide +kernel)) ggL_law_X10_fewestPremises
set_option maxRecDepth 20000 in
theorem ggL_law_X9_relation_h : GoodIn wsL_law [Cond.code yX9_relation cX9_relation 5 (some .int)] := goodIn_r _ [972] (by decide +kernel) (by decide +kernel)
set_option maxRecDepth 20000 in
theorem ggL_law_X9_relation_0 : GoodIn wsL_law wsX9_relation_r1 := goodIn_r _ [27, 391, 392, 393, 2, 394, 15, 339, 340, 341, 342, 600, 601, 602, 603, 31, 29, 403, 404, 405, 80, 406, 91, 96] (by decide +kernel) (by decide +kernel)
set_option maxRecDepth 20000 in
theorem ggL_law_X9_relation_1 : GoodIn wsL_law wsX9_relation_r2 := goodIn_r _ [95, 174, 175, 407, 408, 409, 410, 411, 412, 413, 364, 365, 366, 97, 414, 415, 416, 417, 418, 419, 93, 94, 92, 604] (by decide +kernel) (by decide +kernel)
set_option maxRecDepth 20000 in
theorem ggL_law_X9_relation_2 : GoodIn wsL_law wsX9_relation_r3 := goodIn_r _ [605, 606, 61, 607, 83, 82, 608, 609, 610, 611, 81, 612, 613, 614, 615, 616, 86, 617, 618, 619, 26, 620, 70, 71] (by decide +kernel) (by decide +kernel)
set_option maxRecDepth 20000 in
theorem ggL_law_X9_relation_3 : GoodIn wsL_law wsX9_relation_r4 := goodIn_r _ [621, 622, 623, 69, 624, 103, 107, 638, 639, 640, 641, 66, 642, 643, 64, 644, 645, 646, 109, 647, 648, 113, 114, 115] (by decide +kernel) (by decide +kernel)
set_option maxRecDepth 20000 in
theorem ggL_law_X9_relation_4 : GoodIn wsL_law wsX9_relation_r5 := goodIn_r _ [649, 650, 651, 652, 62, 653, 654, 655, 656, 657, 658, 659, 660, 661, 421, 422, 423, 662, 663, 664, 665, 666, 667, 668] (by decide +kernel) (by decide +kernel)
set_option maxRecDepth 20000 in
theorem ggL_law_X9_relation_5 : GoodIn wsL_law wsX9_relation_r6 := goodIn_r _ [669, 670, 671, 672, 673, 674, 675, 676, 677, 678, 679, 680, 681, 682, 683, 684, 685, 686, 687, 688, 689, 690, 691, 692] (by decide +kernel) (by decide +kernel)
set_option maxRecDepth 20000 in
theorem ggL_law_X9_relation_6 : GoodIn wsL_law wsX9_relation_r7 := goodIn_r _ [693, 694, 695, 696, 697, 698, 699, 700, 701, 702, 703, 704, 705, 706, 707, 708, 709, 710, 711, 712, 713, 714, 715, 716] (by decide +kernel) (by decide +kernel)
set_option maxRecDepth 20000 in
theorem ggL_law_X9_relation_7 : GoodIn wsL_law wsX9_relation_r8 := goodIn_r _ [717, 718, 719, 720, 721, 722, 723, 724, 725, 726, 727, 728, 729, 730, 731, 732, 733, 734, 735, 105, 106, 736, 737, 738] (by decide +kernel) (by decide +kernel)
set_option maxRecDepth 20000 in
theorem ggL_law_X9_relation_8 : GoodIn wsL_law wsX9_relation_r9 := goodIn_r _ [739, 740, 741, 591, 309, 310] (by decide +kernel) (by decide +kernel)
set_option maxRecDepth 20000 in
theorem ggL_law_X9_relation_9 : GoodIn wsL_law wsX90 := goodIn_r _ [1009, 1010, 1011, 1012, 1013, 1014, 1015, 1016, 1017] (by decide +kernel) (by decide +kernel)
set_option maxRecDepth 20000 in
theorem ggL_law_X9_relation_10 : GoodIn wsL_law wsX70 := goodIn_r _ [1043, 1044, 1045, 1046, 1047, 1048, 1049] (by decide +kernel) (by decide +kernel)
set_option maxRecDepth 20000 in
theorem ggL_law_X9_relation_11 : GoodIn wsL_law wsX40 := goodIn_r _ [1076, 1077, 1078, 1079, 1080, 1081, 1082, 1083] (by decide +kernel) (by decide +kernel)
set_option maxRecDepth 20000 in
theorem ggL_law_X9_relation_12 : GoodIn wsL_law wsX00 := goodIn_r _ [1087, 1088] (by decide +kernel) (by decide +kernel)
set_option maxRecDepth 20000 in
theorem ggL_law_X9_relation_13 : GoodIn wsL_law wsX60 := goodIn_r _ [1062, 1063, 1064, 1065, 1066] (by decide +kernel) (by decide +kernel)
set_option maxRecDepth 20000 in
theorem ggL_law_X9_relation_14 : GoodIn wsL_law wsX50 := goodIn_r _ [1057, 1058, 1059, 1060, 1061] (by decide +kernel) (by decide +kernel)
set_option maxRecDepth 20000 in
theorem ggL_law_X9_relation_15 : GoodIn wsL_law wsX10 := goodIn_r _ [1067, 1068, 1069, 1070] (by decide +kernel) (by decide +kernel)
set_option maxRecDepth 20000 in
theorem ggL_law_X9_relation_16 : GoodIn wsL_law wsX20 := goodIn_r _ [1071, 1072, 1073, 1074, 1075] (by decide +kernel) (by decide +kernel)
set_option maxRecDepth 20000 in
theorem ggL_law_X9_relation_17 : GoodIn wsL_law wsX30 := goodIn_r _ [1084, 1085, 1086] (by decide +kernel) (by decide +kernel)
theorem ggL_law_X9_relation : GoodIn wsL_law wsX9_relation := goodIn_app ggL_law_X9_relation_h (goodIn_app (goodIn_app (goodIn_app (goodIn_app (goodIn_app (goodIn_app (goodIn_app (goodIn_app (goodIn_app (goodIn_app ggL_law_X9_relation_0 (goodIn_app ggL_law_X9_relation_1 (goodIn_app ggL_law_X9_relation_2 (goodIn_app ggL_law_X9_relation_3 (goodIn_app ggL_law_X9_relation_4 (goodIn_app ggL_law_X9_relation_5 (goodIn_app ggL_law_X9_relation_6 (goodIn_app ggL_law_X9_relation_7 ggL_law_X9_relation_8)))))))) ggL_law_X9_relation_9) ggL_law_X9_relation_10) ggL_law_X9_relation_11) ggL_law_X9_relation_12) ggL_law_X9_relation_13) ggL_law_X9_relation_14) ggL_law_X9_relation_15) ggL_law_X9_relation_16) ggL_law_X9_relation_17)
set_option maxRecDepth 20000 in
theorem gL_law_X9_relation : GoodIn wsL_law (wsV RL 106 RX9 yX9_relation wsX9_relation) := goodIn_app (goodIn_of _ (by decide +kernel)) ggL_law_X9_relation
set_option maxRecDepth 20000 in
theorem ggL_law_X10_relation_h : GoodIn wsL_law [Cond.code yX10_relation cX10_relation 3 (some .int)] := goodIn_r _ [976] (by decide +kernel) (by decide +kernel)
set_option maxRecDepth 20000 in
theorem ggL_law_X10_relation_0 : GoodIn wsL_law wsX10_relation_r1 := goodIn_r _ [503, 504, 505, 5, 506, 129, 446, 447, 448, 184, 185, 186, 780, 781, 782, 783, 784, 785, 786, 787, 144, 145, 788, 789] (by decide +kernel) (by decide +kernel)
set_option maxRecDepth 20000 in
theorem ggL_law_X10_relation_1 : GoodIn wsL_law wsX10_relation_r2 := goodIn_r _ [790, 791, 792, 793, 794, 795, 796, 139, 140, 141, 797, 798, 799, 800, 143, 801, 802, 803, 804, 805, 806, 807, 808, 809] (by decide +kernel) (by decide +kernel)
set_option maxRecDepth 20000 in
theorem ggL_law_X10_relation_2 : GoodIn wsL_law wsX10_relation_r3 := goodIn_r _ [810, 811, 812, 813, 814, 815, 816, 817, 818, 819, 820, 821, 822, 823, 824, 825, 826, 138, 827, 828, 829, 830, 831, 832] (by decide +kernel) (by decide +kernel)
set_option maxRecDepth 20000 in
theorem ggL_law_X10_relation_3 : GoodIn wsL_law wsX10_relation_r4 := goodIn_r _ [833, 834, 835, 836, 837, 838, 839, 840, 841, 842, 843, 844, 845, 846, 146, 847, 848, 849, 850, 147, 851, 852, 853, 854] (by decide +kernel) (by decide +kernel)
set_option maxRecDepth 20000 in
theorem ggL_law_X10_relation_4 : GoodIn wsL_law wsX10_relation_r5 := goodIn_r _ [855, 856, 857, 858, 859, 860, 861, 862, 863, 864, 865, 866, 867, 868, 869, 870, 871, 872, 873, 874, 875, 876, 877, 878] (by decide +kernel) (by decide +kernel)
set_option maxRecDepth 20000 in
theorem ggL_law_X10_relation_5 : GoodIn wsL_law wsX10_relation_r6 := goodIn_r _ [879, 880, 881, 882, 883, 884, 885, 886, 887, 888, 889, 890] (by decide +kernel) (by decide +kernel)
set_option maxRecDepth 20000 in
theorem ggL_law_X10_relation_6 : GoodIn wsL_law wsX100 := goodIn_r _ [1018, 1019, 1020, 1021, 1022, 1023, 1024, 1025, 1026, 1027, 1028, 1029, 1030, 1031, 1032, 1033, 1034, 1035, 1036, 1037, 1038, 1039, 1040, 1041, 1042] (by decide +kernel) (by decide +kernel)
theorem ggL_law_X10_relation : GoodIn wsL_law wsX10_relation := goodIn_app ggL_law_X10_relation_h (goodIn_app (goodIn_app ggL_law_X10_relation_0 (goodIn_app ggL_law_X10_relation_1 (goodIn_app ggL_law_X10_relation_2 (goodIn_app ggL_law_X10_relation_3 (goodIn_app ggL_law_X10_relation_4 ggL_law_X10_relation_5))))) ggL_law_X10_relation_6)
set_option maxRecDepth 20000 in
theorem gL_law_X10_relation : GoodIn wsL_law (wsV RL 109 RX10 yX10_relation wsX10_relation) := goodIn_app (goodIn_of _ (by decide +kernel)) ggL_law_X10_relation
set_option maxRecDepth 20000 in
theorem ggL_law_X9_count_h : GoodIn wsL_law [Cond.code yX9_count cX9_count 2 (some .int)] := goodIn_r _ [980] (by decide +kernel) (by decide +kernel)
set_option maxRecDepth 20000 in
theorem ggL_law_X9_count_0 : GoodIn wsL_law wsX9_count_r1 := goodIn_r _ [15, 153, 17, 23, 533, 202, 203, 204, 14, 205, 36, 38, 206, 207, 208, 209, 210, 211, 212, 494, 495, 496, 497, 41] (by decide +kernel) (by decide +kernel)
set_option maxRecDepth 20000 in
theorem ggL_law_X9_count_1 : GoodIn wsL_law wsX9_count_r2 := goodIn_r _ [498, 981, 982, 983, 984, 985, 986, 987, 988, 170, 171, 172, 173, 293, 294, 295, 296, 42, 43, 39, 297, 298, 299, 300] (by decide +kernel) (by decide +kernel)
set_option maxRecDepth 20000 in
theorem ggL_law_X9_count_2 : GoodIn wsL_law wsX9_count_r3 := goodIn_r _ [301, 302, 303, 304, 174, 2, 175, 305, 306, 307, 308, 309, 310, 989, 990, 991, 992] (by decide +kernel) (by decide +kernel)
set_option maxRecDepth 20000 in
theorem ggL_law_X9_count_3 : GoodIn wsL_law wsX90 := goodIn_r _ [1009, 1010, 1011, 1012, 1013, 1014, 1015, 1016, 1017] (by decide +kernel) (by decide +kernel)
set_option maxRecDepth 20000 in
theorem ggL_law_X9_count_4 : GoodIn wsL_law wsX70 := goodIn_r _ [1043, 1044, 1045, 1046, 1047, 1048, 1049] (by decide +kernel) (by decide +kernel)
set_option maxRecDepth 20000 in
theorem ggL_law_X9_count_5 : GoodIn wsL_law wsX80 := goodIn_r _ [1050, 1051, 1052, 1053, 1054, 1055, 1056] (by decide +kernel) (by decide +kernel)
theorem ggL_law_X9_count : GoodIn wsL_law wsX9_count := goodIn_app ggL_law_X9_count_h (goodIn_app (goodIn_app (goodIn_app (goodIn_app ggL_law_X9_count_0 (goodIn_app ggL_law_X9_count_1 ggL_law_X9_count_2)) ggL_law_X9_count_3) ggL_law_X9_count_4) ggL_law_X9_count_5)
set_option maxRecDepth 20000 in
theorem gL_law_X9_count : GoodIn wsL_law (wsV RL 110 RX9 yX9_count wsX9_count) := goodIn_app (goodIn_of _ (by decide +kernel)) ggL_law_X9_count
set_option maxRecDepth 20000 in
theorem ggL_law_X10_count_h : GoodIn wsL_law [Cond.code yX10_count cX10_count 2 (some .int)] := goodIn_r _ [996] (by decide +kernel) (by decide +kernel)
set_option maxRecDepth 20000 in
theorem ggL_law_X10_count_0 : GoodIn wsL_law wsX10_count_r1 := goodIn_r _ [129, 191, 455, 225, 226, 227, 5, 228, 229, 230, 231, 507, 508, 509, 510, 503, 504, 505, 506, 446, 447, 448, 184, 185] (by decide +kernel) (by decide +kernel)
set_option maxRecDepth 20000 in
theorem ggL_law_X10_count_1 : GoodIn wsL_law wsX10_count_r2 := goodIn_r _ [186, 997, 998, 999, 1000, 232, 233, 234, 235, 192, 193, 194, 195, 1001, 1002, 1003, 1004, 132, 324, 325, 326, 327, 328, 329] (by decide +kernel) (by decide +kernel)
set_option maxRecDepth 20000 in
theorem ggL_law_X10_count_2 : GoodIn wsL_law wsX10_count_r3 := goodIn_r _ [330, 331, 332, 333, 334, 1005, 1006, 1007, 1008] (by decide +kernel) (by decide +kernel)
set_option maxRecDepth 20000 in
theorem ggL_law_X10_count_3 : GoodIn wsL_law wsX100 := goodIn_r _ [1018, 1019, 1020, 1021, 1022, 1023, 1024, 1025, 1026, 1027, 1028, 1029, 1030, 1031, 1032, 1033, 1034, 1035, 1036, 1037, 1038, 1039, 1040, 1041, 1042] (by decide +kernel) (by decide +kernel)
theorem ggL_law_X10_count : GoodIn wsL_law wsX10_count := goodIn_app ggL_law_X10_count_h (goodIn_app (goodIn_app ggL_law_X10_count_0 (goodIn_app ggL_law_X10_count_1 ggL_law_X10_count_2)) ggL_law_X10_count_3)
set_option maxRecDepth 20000 in
theorem gL_law_X10_count : GoodIn wsL_law (wsV RL 113 RX10 yX10_count wsX10_count) := goodIn_app (goodIn_of _ (by decide +kernel)) ggL_law_X10_count
theorem dL_law_0 : decode cL_law 0 = .ok (.new 7, 3) := by decide +kernel
theorem dL_law_3 : decode cL_law 3 = .ok (.dup, 1) := by decide +kernel
theorem dL_law_4 : decode cL_law 4 = .ok (.invokespecial 9, 3) := by decide +kernel
theorem dL_law_7 : decode cL_law 7 = .ok (.astore_n 1, 1) := by decide +kernel
theorem dL_law_8 : decode cL_law 8 = .ok (.new 10, 3) := by decide +kernel
theorem dL_law_11 : decode cL_law 11 = .ok (.dup, 1) := by decide +kernel
theorem dL_law_12 : decode cL_law 12 = .ok (.invokespecial 12, 3) := by decide +kernel
theorem dL_law_15 : decode cL_law 15 = .ok (.astore_n 2, 1) := by decide +kernel
theorem dL_law_16 : decode cL_law 16 = .ok (.iconst 0, 1) := by decide +kernel
theorem dL_law_17 : decode cL_law 17 = .ok (.istore_n 3, 1) := by decide +kernel
theorem dL_law_18 : decode cL_law 18 = .ok (.iload_n 3, 1) := by decide +kernel
theorem dL_law_19 : decode cL_law 19 = .ok (.aload_n 0, 1) := by decide +kernel
theorem dL_law_20 : decode cL_law 20 = .ok (.arraylength, 1) := by decide +kernel
theorem dL_law_21 : decode cL_law 21 = .ok (.iconst 5, 1) := by decide +kernel
theorem dL_law_22 : decode cL_law 22 = .ok (.isub, 1) := by decide +kernel
theorem dL_law_23 : decode cL_law 23 = .ok (.if_icmp .gt 781, 3) := by decide +kernel
theorem dL_law_26 : decode cL_law 26 = .ok (.aload_n 0, 1) := by decide +kernel
theorem dL_law_27 : decode cL_law 27 = .ok (.iload_n 3, 1) := by decide +kernel
theorem dL_law_28 : decode cL_law 28 = .ok (.iaload, 1) := by decide +kernel
theorem dL_law_29 : decode cL_law 29 = .ok (.bipush 31, 2) := by decide +kernel
theorem dL_law_31 : decode cL_law 31 = .ok (.iand, 1) := by decide +kernel
theorem dL_law_32 : decode cL_law 32 = .ok (.tableswitch 766 0 23 #[112, 135, 168, 201, 234, 257, 270, 293, 316, 369, 394, 407, 420, 433, 446, 479, 512, 545, 578, 611, 644, 677, 710, 743], 112) := by decide +kernel
theorem dL_law_144 : decode cL_law 144 = .ok (.aload_n 1, 1) := by decide +kernel
theorem dL_law_145 : decode cL_law 145 = .ok (.aload_n 0, 1) := by decide +kernel
theorem dL_law_146 : decode cL_law 146 = .ok (.iload_n 3, 1) := by decide +kernel
theorem dL_law_147 : decode cL_law 147 = .ok (.iconst 1, 1) := by decide +kernel
theorem dL_law_148 : decode cL_law 148 = .ok (.iadd, 1) := by decide +kernel
theorem dL_law_149 : decode cL_law 149 = .ok (.iaload, 1) := by decide +kernel
theorem dL_law_150 : decode cL_law 150 = .ok (.invokevirtual 13, 3) := by decide +kernel
theorem dL_law_153 : decode cL_law 153 = .ok (.aload_n 2, 1) := by decide +kernel
theorem dL_law_154 : decode cL_law 154 = .ok (.aload_n 0, 1) := by decide +kernel
theorem dL_law_155 : decode cL_law 155 = .ok (.iload_n 3, 1) := by decide +kernel
theorem dL_law_156 : decode cL_law 156 = .ok (.iconst 1, 1) := by decide +kernel
theorem dL_law_157 : decode cL_law 157 = .ok (.iadd, 1) := by decide +kernel
theorem dL_law_158 : decode cL_law 158 = .ok (.iaload, 1) := by decide +kernel
theorem dL_law_159 : decode cL_law 159 = .ok (.invokevirtual 17, 3) := by decide +kernel
theorem dL_law_162 : decode cL_law 162 = .ok (.if_icmp .eq 636, 3) := by decide +kernel
theorem dL_law_165 : decode cL_law 165 = .ok (.iconst 0, 1) := by decide +kernel
theorem dL_law_166 : decode cL_law 166 = .ok (.ireturn, 1) := by decide +kernel
theorem dL_law_167 : decode cL_law 167 = .ok (.aload_n 1, 1) := by decide +kernel
theorem dL_law_168 : decode cL_law 168 = .ok (.aload_n 0, 1) := by decide +kernel
theorem dL_law_169 : decode cL_law 169 = .ok (.iload_n 3, 1) := by decide +kernel
theorem dL_law_170 : decode cL_law 170 = .ok (.iconst 1, 1) := by decide +kernel
theorem dL_law_171 : decode cL_law 171 = .ok (.iadd, 1) := by decide +kernel
theorem dL_law_172 : decode cL_law 172 = .ok (.iaload, 1) := by decide +kernel
theorem dL_law_173 : decode cL_law 173 = .ok (.aload_n 0, 1) := by decide +kernel
theorem dL_law_174 : decode cL_law 174 = .ok (.iload_n 3, 1) := by decide +kernel
theorem dL_law_175 : decode cL_law 175 = .ok (.iconst 2, 1) := by decide +kernel
theorem dL_law_176 : decode cL_law 176 = .ok (.iadd, 1) := by decide +kernel
theorem dL_law_177 : decode cL_law 177 = .ok (.iaload, 1) := by decide +kernel
theorem dL_law_178 : decode cL_law 178 = .ok (.invokevirtual 18, 3) := by decide +kernel
theorem dL_law_181 : decode cL_law 181 = .ok (.aload_n 2, 1) := by decide +kernel
theorem dL_law_182 : decode cL_law 182 = .ok (.aload_n 0, 1) := by decide +kernel
theorem dL_law_183 : decode cL_law 183 = .ok (.iload_n 3, 1) := by decide +kernel
theorem dL_law_184 : decode cL_law 184 = .ok (.iconst 1, 1) := by decide +kernel
theorem dL_law_185 : decode cL_law 185 = .ok (.iadd, 1) := by decide +kernel
theorem dL_law_186 : decode cL_law 186 = .ok (.iaload, 1) := by decide +kernel
theorem dL_law_187 : decode cL_law 187 = .ok (.aload_n 0, 1) := by decide +kernel
theorem dL_law_188 : decode cL_law 188 = .ok (.iload_n 3, 1) := by decide +kernel
theorem dL_law_189 : decode cL_law 189 = .ok (.iconst 2, 1) := by decide +kernel
theorem dL_law_190 : decode cL_law 190 = .ok (.iadd, 1) := by decide +kernel
theorem dL_law_191 : decode cL_law 191 = .ok (.iaload, 1) := by decide +kernel
theorem dL_law_192 : decode cL_law 192 = .ok (.invokevirtual 22, 3) := by decide +kernel
theorem dL_law_195 : decode cL_law 195 = .ok (.if_icmp .eq 603, 3) := by decide +kernel
theorem dL_law_198 : decode cL_law 198 = .ok (.iconst 0, 1) := by decide +kernel
theorem dL_law_199 : decode cL_law 199 = .ok (.ireturn, 1) := by decide +kernel
theorem dL_law_200 : decode cL_law 200 = .ok (.aload_n 1, 1) := by decide +kernel
theorem dL_law_201 : decode cL_law 201 = .ok (.aload_n 0, 1) := by decide +kernel
theorem dL_law_202 : decode cL_law 202 = .ok (.iload_n 3, 1) := by decide +kernel
theorem dL_law_203 : decode cL_law 203 = .ok (.iconst 1, 1) := by decide +kernel
theorem dL_law_204 : decode cL_law 204 = .ok (.iadd, 1) := by decide +kernel
theorem dL_law_205 : decode cL_law 205 = .ok (.iaload, 1) := by decide +kernel
theorem dL_law_206 : decode cL_law 206 = .ok (.aload_n 0, 1) := by decide +kernel
theorem dL_law_207 : decode cL_law 207 = .ok (.iload_n 3, 1) := by decide +kernel
theorem dL_law_208 : decode cL_law 208 = .ok (.iconst 2, 1) := by decide +kernel
theorem dL_law_209 : decode cL_law 209 = .ok (.iadd, 1) := by decide +kernel
theorem dL_law_210 : decode cL_law 210 = .ok (.iaload, 1) := by decide +kernel
theorem dL_law_211 : decode cL_law 211 = .ok (.invokevirtual 23, 3) := by decide +kernel
theorem dL_law_214 : decode cL_law 214 = .ok (.aload_n 2, 1) := by decide +kernel
theorem dL_law_215 : decode cL_law 215 = .ok (.aload_n 0, 1) := by decide +kernel
theorem dL_law_216 : decode cL_law 216 = .ok (.iload_n 3, 1) := by decide +kernel
theorem dL_law_217 : decode cL_law 217 = .ok (.iconst 1, 1) := by decide +kernel
theorem dL_law_218 : decode cL_law 218 = .ok (.iadd, 1) := by decide +kernel
theorem dL_law_219 : decode cL_law 219 = .ok (.iaload, 1) := by decide +kernel
theorem dL_law_220 : decode cL_law 220 = .ok (.aload_n 0, 1) := by decide +kernel
theorem dL_law_221 : decode cL_law 221 = .ok (.iload_n 3, 1) := by decide +kernel
theorem dL_law_222 : decode cL_law 222 = .ok (.iconst 2, 1) := by decide +kernel
theorem dL_law_223 : decode cL_law 223 = .ok (.iadd, 1) := by decide +kernel
theorem dL_law_224 : decode cL_law 224 = .ok (.iaload, 1) := by decide +kernel
theorem dL_law_225 : decode cL_law 225 = .ok (.invokevirtual 26, 3) := by decide +kernel
theorem dL_law_228 : decode cL_law 228 = .ok (.if_icmp .eq 570, 3) := by decide +kernel
theorem dL_law_231 : decode cL_law 231 = .ok (.iconst 0, 1) := by decide +kernel
theorem dL_law_232 : decode cL_law 232 = .ok (.ireturn, 1) := by decide +kernel
theorem dL_law_233 : decode cL_law 233 = .ok (.aload_n 1, 1) := by decide +kernel
theorem dL_law_234 : decode cL_law 234 = .ok (.aload_n 0, 1) := by decide +kernel
theorem dL_law_235 : decode cL_law 235 = .ok (.iload_n 3, 1) := by decide +kernel
theorem dL_law_236 : decode cL_law 236 = .ok (.iconst 1, 1) := by decide +kernel
theorem dL_law_237 : decode cL_law 237 = .ok (.iadd, 1) := by decide +kernel
theorem dL_law_238 : decode cL_law 238 = .ok (.iaload, 1) := by decide +kernel
theorem dL_law_239 : decode cL_law 239 = .ok (.aload_n 0, 1) := by decide +kernel
theorem dL_law_240 : decode cL_law 240 = .ok (.iload_n 3, 1) := by decide +kernel
theorem dL_law_241 : decode cL_law 241 = .ok (.iconst 2, 1) := by decide +kernel
theorem dL_law_242 : decode cL_law 242 = .ok (.iadd, 1) := by decide +kernel
theorem dL_law_243 : decode cL_law 243 = .ok (.iaload, 1) := by decide +kernel
theorem dL_law_244 : decode cL_law 244 = .ok (.invokevirtual 27, 3) := by decide +kernel
theorem dL_law_247 : decode cL_law 247 = .ok (.aload_n 2, 1) := by decide +kernel
theorem dL_law_248 : decode cL_law 248 = .ok (.aload_n 0, 1) := by decide +kernel
theorem dL_law_249 : decode cL_law 249 = .ok (.iload_n 3, 1) := by decide +kernel
theorem dL_law_250 : decode cL_law 250 = .ok (.iconst 1, 1) := by decide +kernel
theorem dL_law_251 : decode cL_law 251 = .ok (.iadd, 1) := by decide +kernel
theorem dL_law_252 : decode cL_law 252 = .ok (.iaload, 1) := by decide +kernel
theorem dL_law_253 : decode cL_law 253 = .ok (.aload_n 0, 1) := by decide +kernel
theorem dL_law_254 : decode cL_law 254 = .ok (.iload_n 3, 1) := by decide +kernel
theorem dL_law_255 : decode cL_law 255 = .ok (.iconst 2, 1) := by decide +kernel
theorem dL_law_256 : decode cL_law 256 = .ok (.iadd, 1) := by decide +kernel
theorem dL_law_257 : decode cL_law 257 = .ok (.iaload, 1) := by decide +kernel
theorem dL_law_258 : decode cL_law 258 = .ok (.invokevirtual 30, 3) := by decide +kernel
theorem dL_law_261 : decode cL_law 261 = .ok (.if_icmp .eq 537, 3) := by decide +kernel
theorem dL_law_264 : decode cL_law 264 = .ok (.iconst 0, 1) := by decide +kernel
theorem dL_law_265 : decode cL_law 265 = .ok (.ireturn, 1) := by decide +kernel
theorem dL_law_266 : decode cL_law 266 = .ok (.aload_n 1, 1) := by decide +kernel
theorem dL_law_267 : decode cL_law 267 = .ok (.aload_n 0, 1) := by decide +kernel
theorem dL_law_268 : decode cL_law 268 = .ok (.iload_n 3, 1) := by decide +kernel
theorem dL_law_269 : decode cL_law 269 = .ok (.iconst 1, 1) := by decide +kernel
theorem dL_law_270 : decode cL_law 270 = .ok (.iadd, 1) := by decide +kernel
theorem dL_law_271 : decode cL_law 271 = .ok (.iaload, 1) := by decide +kernel
theorem dL_law_272 : decode cL_law 272 = .ok (.invokevirtual 31, 3) := by decide +kernel
theorem dL_law_275 : decode cL_law 275 = .ok (.aload_n 2, 1) := by decide +kernel
theorem dL_law_276 : decode cL_law 276 = .ok (.aload_n 0, 1) := by decide +kernel
theorem dL_law_277 : decode cL_law 277 = .ok (.iload_n 3, 1) := by decide +kernel
theorem dL_law_278 : decode cL_law 278 = .ok (.iconst 1, 1) := by decide +kernel
theorem dL_law_279 : decode cL_law 279 = .ok (.iadd, 1) := by decide +kernel
theorem dL_law_280 : decode cL_law 280 = .ok (.iaload, 1) := by decide +kernel
theorem dL_law_281 : decode cL_law 281 = .ok (.invokevirtual 34, 3) := by decide +kernel
theorem dL_law_284 : decode cL_law 284 = .ok (.if_icmp .eq 514, 3) := by decide +kernel
theorem dL_law_287 : decode cL_law 287 = .ok (.iconst 0, 1) := by decide +kernel
theorem dL_law_288 : decode cL_law 288 = .ok (.ireturn, 1) := by decide +kernel
theorem dL_law_289 : decode cL_law 289 = .ok (.aload_n 1, 1) := by decide +kernel
theorem dL_law_290 : decode cL_law 290 = .ok (.invokevirtual 35, 3) := by decide +kernel
theorem dL_law_293 : decode cL_law 293 = .ok (.aload_n 2, 1) := by decide +kernel
theorem dL_law_294 : decode cL_law 294 = .ok (.invokevirtual 39, 3) := by decide +kernel
theorem dL_law_297 : decode cL_law 297 = .ok (.if_icmp .eq 501, 3) := by decide +kernel
theorem dL_law_300 : decode cL_law 300 = .ok (.iconst 0, 1) := by decide +kernel
theorem dL_law_301 : decode cL_law 301 = .ok (.ireturn, 1) := by decide +kernel
theorem dL_law_302 : decode cL_law 302 = .ok (.aload_n 1, 1) := by decide +kernel
theorem dL_law_303 : decode cL_law 303 = .ok (.aload_n 0, 1) := by decide +kernel
theorem dL_law_304 : decode cL_law 304 = .ok (.iload_n 3, 1) := by decide +kernel
theorem dL_law_305 : decode cL_law 305 = .ok (.iconst 1, 1) := by decide +kernel
theorem dL_law_306 : decode cL_law 306 = .ok (.iadd, 1) := by decide +kernel
theorem dL_law_307 : decode cL_law 307 = .ok (.iaload, 1) := by decide +kernel
theorem dL_law_308 : decode cL_law 308 = .ok (.invokevirtual 40, 3) := by decide +kernel
theorem dL_law_311 : decode cL_law 311 = .ok (.aload_n 2, 1) := by decide +kernel
theorem dL_law_312 : decode cL_law 312 = .ok (.aload_n 0, 1) := by decide +kernel
theorem dL_law_313 : decode cL_law 313 = .ok (.iload_n 3, 1) := by decide +kernel
theorem dL_law_314 : decode cL_law 314 = .ok (.iconst 1, 1) := by decide +kernel
theorem dL_law_315 : decode cL_law 315 = .ok (.iadd, 1) := by decide +kernel
theorem dL_law_316 : decode cL_law 316 = .ok (.iaload, 1) := by decide +kernel
theorem dL_law_317 : decode cL_law 317 = .ok (.invokevirtual 43, 3) := by decide +kernel
theorem dL_law_320 : decode cL_law 320 = .ok (.if_icmp .eq 478, 3) := by decide +kernel
theorem dL_law_323 : decode cL_law 323 = .ok (.iconst 0, 1) := by decide +kernel
theorem dL_law_324 : decode cL_law 324 = .ok (.ireturn, 1) := by decide +kernel
theorem dL_law_325 : decode cL_law 325 = .ok (.aload_n 1, 1) := by decide +kernel
theorem dL_law_326 : decode cL_law 326 = .ok (.aload_n 0, 1) := by decide +kernel
theorem dL_law_327 : decode cL_law 327 = .ok (.iload_n 3, 1) := by decide +kernel
theorem dL_law_328 : decode cL_law 328 = .ok (.iconst 1, 1) := by decide +kernel
theorem dL_law_329 : decode cL_law 329 = .ok (.iadd, 1) := by decide +kernel
theorem dL_law_330 : decode cL_law 330 = .ok (.iaload, 1) := by decide +kernel
theorem dL_law_331 : decode cL_law 331 = .ok (.invokevirtual 44, 3) := by decide +kernel
theorem dL_law_334 : decode cL_law 334 = .ok (.aload_n 2, 1) := by decide +kernel
theorem dL_law_335 : decode cL_law 335 = .ok (.aload_n 0, 1) := by decide +kernel
theorem dL_law_336 : decode cL_law 336 = .ok (.iload_n 3, 1) := by decide +kernel
theorem dL_law_337 : decode cL_law 337 = .ok (.iconst 1, 1) := by decide +kernel
theorem dL_law_338 : decode cL_law 338 = .ok (.iadd, 1) := by decide +kernel
theorem dL_law_339 : decode cL_law 339 = .ok (.iaload, 1) := by decide +kernel
theorem dL_law_340 : decode cL_law 340 = .ok (.invokevirtual 47, 3) := by decide +kernel
theorem dL_law_343 : decode cL_law 343 = .ok (.if_icmp .eq 455, 3) := by decide +kernel
theorem dL_law_346 : decode cL_law 346 = .ok (.iconst 0, 1) := by decide +kernel
theorem dL_law_347 : decode cL_law 347 = .ok (.ireturn, 1) := by decide +kernel
theorem dL_law_348 : decode cL_law 348 = .ok (.aload_n 1, 1) := by decide +kernel
theorem dL_law_349 : decode cL_law 349 = .ok (.aload_n 0, 1) := by decide +kernel
theorem dL_law_350 : decode cL_law 350 = .ok (.iload_n 3, 1) := by decide +kernel
theorem dL_law_351 : decode cL_law 351 = .ok (.iconst 1, 1) := by decide +kernel
theorem dL_law_352 : decode cL_law 352 = .ok (.iadd, 1) := by decide +kernel
theorem dL_law_353 : decode cL_law 353 = .ok (.iaload, 1) := by decide +kernel
theorem dL_law_354 : decode cL_law 354 = .ok (.aload_n 0, 1) := by decide +kernel
theorem dL_law_355 : decode cL_law 355 = .ok (.iload_n 3, 1) := by decide +kernel
theorem dL_law_356 : decode cL_law 356 = .ok (.iconst 2, 1) := by decide +kernel
theorem dL_law_357 : decode cL_law 357 = .ok (.iadd, 1) := by decide +kernel
theorem dL_law_358 : decode cL_law 358 = .ok (.iaload, 1) := by decide +kernel
theorem dL_law_359 : decode cL_law 359 = .ok (.aload_n 0, 1) := by decide +kernel
theorem dL_law_360 : decode cL_law 360 = .ok (.iload_n 3, 1) := by decide +kernel
theorem dL_law_361 : decode cL_law 361 = .ok (.iconst 3, 1) := by decide +kernel
theorem dL_law_362 : decode cL_law 362 = .ok (.iadd, 1) := by decide +kernel
theorem dL_law_363 : decode cL_law 363 = .ok (.iaload, 1) := by decide +kernel
theorem dL_law_364 : decode cL_law 364 = .ok (.aload_n 0, 1) := by decide +kernel
theorem dL_law_365 : decode cL_law 365 = .ok (.iload_n 3, 1) := by decide +kernel
theorem dL_law_366 : decode cL_law 366 = .ok (.iconst 4, 1) := by decide +kernel
theorem dL_law_367 : decode cL_law 367 = .ok (.iadd, 1) := by decide +kernel
theorem dL_law_368 : decode cL_law 368 = .ok (.iaload, 1) := by decide +kernel
theorem dL_law_369 : decode cL_law 369 = .ok (.invokevirtual 48, 3) := by decide +kernel
theorem dL_law_372 : decode cL_law 372 = .ok (.aload_n 2, 1) := by decide +kernel
theorem dL_law_373 : decode cL_law 373 = .ok (.aload_n 0, 1) := by decide +kernel
theorem dL_law_374 : decode cL_law 374 = .ok (.iload_n 3, 1) := by decide +kernel
theorem dL_law_375 : decode cL_law 375 = .ok (.iconst 1, 1) := by decide +kernel
theorem dL_law_376 : decode cL_law 376 = .ok (.iadd, 1) := by decide +kernel
theorem dL_law_377 : decode cL_law 377 = .ok (.iaload, 1) := by decide +kernel
theorem dL_law_378 : decode cL_law 378 = .ok (.aload_n 0, 1) := by decide +kernel
theorem dL_law_379 : decode cL_law 379 = .ok (.iload_n 3, 1) := by decide +kernel
theorem dL_law_380 : decode cL_law 380 = .ok (.iconst 2, 1) := by decide +kernel
theorem dL_law_381 : decode cL_law 381 = .ok (.iadd, 1) := by decide +kernel
theorem dL_law_382 : decode cL_law 382 = .ok (.iaload, 1) := by decide +kernel
theorem dL_law_383 : decode cL_law 383 = .ok (.aload_n 0, 1) := by decide +kernel
theorem dL_law_384 : decode cL_law 384 = .ok (.iload_n 3, 1) := by decide +kernel
theorem dL_law_385 : decode cL_law 385 = .ok (.iconst 3, 1) := by decide +kernel
theorem dL_law_386 : decode cL_law 386 = .ok (.iadd, 1) := by decide +kernel
theorem dL_law_387 : decode cL_law 387 = .ok (.iaload, 1) := by decide +kernel
theorem dL_law_388 : decode cL_law 388 = .ok (.aload_n 0, 1) := by decide +kernel
theorem dL_law_389 : decode cL_law 389 = .ok (.iload_n 3, 1) := by decide +kernel
theorem dL_law_390 : decode cL_law 390 = .ok (.iconst 4, 1) := by decide +kernel
theorem dL_law_391 : decode cL_law 391 = .ok (.iadd, 1) := by decide +kernel
theorem dL_law_392 : decode cL_law 392 = .ok (.iaload, 1) := by decide +kernel
theorem dL_law_393 : decode cL_law 393 = .ok (.invokevirtual 52, 3) := by decide +kernel
theorem dL_law_396 : decode cL_law 396 = .ok (.if_icmp .eq 402, 3) := by decide +kernel
theorem dL_law_399 : decode cL_law 399 = .ok (.iconst 0, 1) := by decide +kernel
theorem dL_law_400 : decode cL_law 400 = .ok (.ireturn, 1) := by decide +kernel
theorem dL_law_401 : decode cL_law 401 = .ok (.aload_n 1, 1) := by decide +kernel
theorem dL_law_402 : decode cL_law 402 = .ok (.aload_n 0, 1) := by decide +kernel
theorem dL_law_403 : decode cL_law 403 = .ok (.iload_n 3, 1) := by decide +kernel
theorem dL_law_404 : decode cL_law 404 = .ok (.iconst 1, 1) := by decide +kernel
theorem dL_law_405 : decode cL_law 405 = .ok (.iadd, 1) := by decide +kernel
theorem dL_law_406 : decode cL_law 406 = .ok (.iaload, 1) := by decide +kernel
theorem dL_law_407 : decode cL_law 407 = .ok (.i2c, 1) := by decide +kernel
theorem dL_law_408 : decode cL_law 408 = .ok (.invokevirtual 53, 3) := by decide +kernel
theorem dL_law_411 : decode cL_law 411 = .ok (.aload_n 2, 1) := by decide +kernel
theorem dL_law_412 : decode cL_law 412 = .ok (.aload_n 0, 1) := by decide +kernel
theorem dL_law_413 : decode cL_law 413 = .ok (.iload_n 3, 1) := by decide +kernel
theorem dL_law_414 : decode cL_law 414 = .ok (.iconst 1, 1) := by decide +kernel
theorem dL_law_415 : decode cL_law 415 = .ok (.iadd, 1) := by decide +kernel
theorem dL_law_416 : decode cL_law 416 = .ok (.iaload, 1) := by decide +kernel
theorem dL_law_417 : decode cL_law 417 = .ok (.i2c, 1) := by decide +kernel
theorem dL_law_418 : decode cL_law 418 = .ok (.invokevirtual 57, 3) := by decide +kernel
theorem dL_law_421 : decode cL_law 421 = .ok (.if_icmp .eq 377, 3) := by decide +kernel
theorem dL_law_424 : decode cL_law 424 = .ok (.iconst 0, 1) := by decide +kernel
theorem dL_law_425 : decode cL_law 425 = .ok (.ireturn, 1) := by decide +kernel
theorem dL_law_426 : decode cL_law 426 = .ok (.aload_n 1, 1) := by decide +kernel
theorem dL_law_427 : decode cL_law 427 = .ok (.invokevirtual 58, 3) := by decide +kernel
theorem dL_law_430 : decode cL_law 430 = .ok (.aload_n 2, 1) := by decide +kernel
theorem dL_law_431 : decode cL_law 431 = .ok (.invokevirtual 61, 3) := by decide +kernel
theorem dL_law_434 : decode cL_law 434 = .ok (.if_icmp .eq 364, 3) := by decide +kernel
theorem dL_law_437 : decode cL_law 437 = .ok (.iconst 0, 1) := by decide +kernel
theorem dL_law_438 : decode cL_law 438 = .ok (.ireturn, 1) := by decide +kernel
theorem dL_law_439 : decode cL_law 439 = .ok (.aload_n 1, 1) := by decide +kernel
theorem dL_law_440 : decode cL_law 440 = .ok (.invokevirtual 62, 3) := by decide +kernel
theorem dL_law_443 : decode cL_law 443 = .ok (.aload_n 2, 1) := by decide +kernel
theorem dL_law_444 : decode cL_law 444 = .ok (.invokevirtual 65, 3) := by decide +kernel
theorem dL_law_447 : decode cL_law 447 = .ok (.if_icmp .eq 351, 3) := by decide +kernel
theorem dL_law_450 : decode cL_law 450 = .ok (.iconst 0, 1) := by decide +kernel
theorem dL_law_451 : decode cL_law 451 = .ok (.ireturn, 1) := by decide +kernel
theorem dL_law_452 : decode cL_law 452 = .ok (.aload_n 1, 1) := by decide +kernel
theorem dL_law_453 : decode cL_law 453 = .ok (.invokevirtual 66, 3) := by decide +kernel
theorem dL_law_456 : decode cL_law 456 = .ok (.aload_n 2, 1) := by decide +kernel
theorem dL_law_457 : decode cL_law 457 = .ok (.invokevirtual 69, 3) := by decide +kernel
theorem dL_law_460 : decode cL_law 460 = .ok (.if_icmp .eq 338, 3) := by decide +kernel
theorem dL_law_463 : decode cL_law 463 = .ok (.iconst 0, 1) := by decide +kernel
theorem dL_law_464 : decode cL_law 464 = .ok (.ireturn, 1) := by decide +kernel
theorem dL_law_465 : decode cL_law 465 = .ok (.aload_n 1, 1) := by decide +kernel
theorem dL_law_466 : decode cL_law 466 = .ok (.invokevirtual 70, 3) := by decide +kernel
theorem dL_law_469 : decode cL_law 469 = .ok (.aload_n 2, 1) := by decide +kernel
theorem dL_law_470 : decode cL_law 470 = .ok (.invokevirtual 73, 3) := by decide +kernel
theorem dL_law_473 : decode cL_law 473 = .ok (.if_icmp .eq 325, 3) := by decide +kernel
theorem dL_law_476 : decode cL_law 476 = .ok (.iconst 0, 1) := by decide +kernel
theorem dL_law_477 : decode cL_law 477 = .ok (.ireturn, 1) := by decide +kernel
theorem dL_law_478 : decode cL_law 478 = .ok (.aload_n 1, 1) := by decide +kernel
theorem dL_law_479 : decode cL_law 479 = .ok (.aload_n 0, 1) := by decide +kernel
theorem dL_law_480 : decode cL_law 480 = .ok (.iload_n 3, 1) := by decide +kernel
theorem dL_law_481 : decode cL_law 481 = .ok (.iconst 1, 1) := by decide +kernel
theorem dL_law_482 : decode cL_law 482 = .ok (.iadd, 1) := by decide +kernel
theorem dL_law_483 : decode cL_law 483 = .ok (.iaload, 1) := by decide +kernel
theorem dL_law_484 : decode cL_law 484 = .ok (.aload_n 0, 1) := by decide +kernel
theorem dL_law_485 : decode cL_law 485 = .ok (.iload_n 3, 1) := by decide +kernel
theorem dL_law_486 : decode cL_law 486 = .ok (.iconst 2, 1) := by decide +kernel
theorem dL_law_487 : decode cL_law 487 = .ok (.iadd, 1) := by decide +kernel
theorem dL_law_488 : decode cL_law 488 = .ok (.iaload, 1) := by decide +kernel
theorem dL_law_489 : decode cL_law 489 = .ok (.invokevirtual 74, 3) := by decide +kernel
theorem dL_law_492 : decode cL_law 492 = .ok (.aload_n 2, 1) := by decide +kernel
theorem dL_law_493 : decode cL_law 493 = .ok (.aload_n 0, 1) := by decide +kernel
theorem dL_law_494 : decode cL_law 494 = .ok (.iload_n 3, 1) := by decide +kernel
theorem dL_law_495 : decode cL_law 495 = .ok (.iconst 1, 1) := by decide +kernel
theorem dL_law_496 : decode cL_law 496 = .ok (.iadd, 1) := by decide +kernel
theorem dL_law_497 : decode cL_law 497 = .ok (.iaload, 1) := by decide +kernel
theorem dL_law_498 : decode cL_law 498 = .ok (.aload_n 0, 1) := by decide +kernel
theorem dL_law_499 : decode cL_law 499 = .ok (.iload_n 3, 1) := by decide +kernel
theorem dL_law_500 : decode cL_law 500 = .ok (.iconst 2, 1) := by decide +kernel
theorem dL_law_501 : decode cL_law 501 = .ok (.iadd, 1) := by decide +kernel
theorem dL_law_502 : decode cL_law 502 = .ok (.iaload, 1) := by decide +kernel
theorem dL_law_503 : decode cL_law 503 = .ok (.invokevirtual 77, 3) := by decide +kernel
theorem dL_law_506 : decode cL_law 506 = .ok (.if_icmp .eq 292, 3) := by decide +kernel
theorem dL_law_509 : decode cL_law 509 = .ok (.iconst 0, 1) := by decide +kernel
theorem dL_law_510 : decode cL_law 510 = .ok (.ireturn, 1) := by decide +kernel
theorem dL_law_511 : decode cL_law 511 = .ok (.aload_n 1, 1) := by decide +kernel
theorem dL_law_512 : decode cL_law 512 = .ok (.aload_n 0, 1) := by decide +kernel
theorem dL_law_513 : decode cL_law 513 = .ok (.iload_n 3, 1) := by decide +kernel
theorem dL_law_514 : decode cL_law 514 = .ok (.iconst 1, 1) := by decide +kernel
theorem dL_law_515 : decode cL_law 515 = .ok (.iadd, 1) := by decide +kernel
theorem dL_law_516 : decode cL_law 516 = .ok (.iaload, 1) := by decide +kernel
theorem dL_law_517 : decode cL_law 517 = .ok (.aload_n 0, 1) := by decide +kernel
theorem dL_law_518 : decode cL_law 518 = .ok (.iload_n 3, 1) := by decide +kernel
theorem dL_law_519 : decode cL_law 519 = .ok (.iconst 2, 1) := by decide +kernel
theorem dL_law_520 : decode cL_law 520 = .ok (.iadd, 1) := by decide +kernel
theorem dL_law_521 : decode cL_law 521 = .ok (.iaload, 1) := by decide +kernel
theorem dL_law_522 : decode cL_law 522 = .ok (.invokevirtual 78, 3) := by decide +kernel
theorem dL_law_525 : decode cL_law 525 = .ok (.aload_n 2, 1) := by decide +kernel
theorem dL_law_526 : decode cL_law 526 = .ok (.aload_n 0, 1) := by decide +kernel
theorem dL_law_527 : decode cL_law 527 = .ok (.iload_n 3, 1) := by decide +kernel
theorem dL_law_528 : decode cL_law 528 = .ok (.iconst 1, 1) := by decide +kernel
theorem dL_law_529 : decode cL_law 529 = .ok (.iadd, 1) := by decide +kernel
theorem dL_law_530 : decode cL_law 530 = .ok (.iaload, 1) := by decide +kernel
theorem dL_law_531 : decode cL_law 531 = .ok (.aload_n 0, 1) := by decide +kernel
theorem dL_law_532 : decode cL_law 532 = .ok (.iload_n 3, 1) := by decide +kernel
theorem dL_law_533 : decode cL_law 533 = .ok (.iconst 2, 1) := by decide +kernel
theorem dL_law_534 : decode cL_law 534 = .ok (.iadd, 1) := by decide +kernel
theorem dL_law_535 : decode cL_law 535 = .ok (.iaload, 1) := by decide +kernel
theorem dL_law_536 : decode cL_law 536 = .ok (.invokevirtual 81, 3) := by decide +kernel
theorem dL_law_539 : decode cL_law 539 = .ok (.if_icmp .eq 259, 3) := by decide +kernel
theorem dL_law_542 : decode cL_law 542 = .ok (.iconst 0, 1) := by decide +kernel
theorem dL_law_543 : decode cL_law 543 = .ok (.ireturn, 1) := by decide +kernel
theorem dL_law_544 : decode cL_law 544 = .ok (.aload_n 1, 1) := by decide +kernel
theorem dL_law_545 : decode cL_law 545 = .ok (.aload_n 0, 1) := by decide +kernel
theorem dL_law_546 : decode cL_law 546 = .ok (.iload_n 3, 1) := by decide +kernel
theorem dL_law_547 : decode cL_law 547 = .ok (.iconst 1, 1) := by decide +kernel
theorem dL_law_548 : decode cL_law 548 = .ok (.iadd, 1) := by decide +kernel
theorem dL_law_549 : decode cL_law 549 = .ok (.iaload, 1) := by decide +kernel
theorem dL_law_550 : decode cL_law 550 = .ok (.aload_n 0, 1) := by decide +kernel
theorem dL_law_551 : decode cL_law 551 = .ok (.iload_n 3, 1) := by decide +kernel
theorem dL_law_552 : decode cL_law 552 = .ok (.iconst 2, 1) := by decide +kernel
theorem dL_law_553 : decode cL_law 553 = .ok (.iadd, 1) := by decide +kernel
theorem dL_law_554 : decode cL_law 554 = .ok (.iaload, 1) := by decide +kernel
theorem dL_law_555 : decode cL_law 555 = .ok (.invokevirtual 82, 3) := by decide +kernel
theorem dL_law_558 : decode cL_law 558 = .ok (.aload_n 2, 1) := by decide +kernel
theorem dL_law_559 : decode cL_law 559 = .ok (.aload_n 0, 1) := by decide +kernel
theorem dL_law_560 : decode cL_law 560 = .ok (.iload_n 3, 1) := by decide +kernel
theorem dL_law_561 : decode cL_law 561 = .ok (.iconst 1, 1) := by decide +kernel
theorem dL_law_562 : decode cL_law 562 = .ok (.iadd, 1) := by decide +kernel
theorem dL_law_563 : decode cL_law 563 = .ok (.iaload, 1) := by decide +kernel
theorem dL_law_564 : decode cL_law 564 = .ok (.aload_n 0, 1) := by decide +kernel
theorem dL_law_565 : decode cL_law 565 = .ok (.iload_n 3, 1) := by decide +kernel
theorem dL_law_566 : decode cL_law 566 = .ok (.iconst 2, 1) := by decide +kernel
theorem dL_law_567 : decode cL_law 567 = .ok (.iadd, 1) := by decide +kernel
theorem dL_law_568 : decode cL_law 568 = .ok (.iaload, 1) := by decide +kernel
theorem dL_law_569 : decode cL_law 569 = .ok (.invokevirtual 85, 3) := by decide +kernel
theorem dL_law_572 : decode cL_law 572 = .ok (.if_icmp .eq 226, 3) := by decide +kernel
theorem dL_law_575 : decode cL_law 575 = .ok (.iconst 0, 1) := by decide +kernel
theorem dL_law_576 : decode cL_law 576 = .ok (.ireturn, 1) := by decide +kernel
theorem dL_law_577 : decode cL_law 577 = .ok (.aload_n 1, 1) := by decide +kernel
theorem dL_law_578 : decode cL_law 578 = .ok (.aload_n 0, 1) := by decide +kernel
theorem dL_law_579 : decode cL_law 579 = .ok (.iload_n 3, 1) := by decide +kernel
theorem dL_law_580 : decode cL_law 580 = .ok (.iconst 1, 1) := by decide +kernel
theorem dL_law_581 : decode cL_law 581 = .ok (.iadd, 1) := by decide +kernel
theorem dL_law_582 : decode cL_law 582 = .ok (.iaload, 1) := by decide +kernel
theorem dL_law_583 : decode cL_law 583 = .ok (.aload_n 0, 1) := by decide +kernel
theorem dL_law_584 : decode cL_law 584 = .ok (.iload_n 3, 1) := by decide +kernel
theorem dL_law_585 : decode cL_law 585 = .ok (.iconst 2, 1) := by decide +kernel
theorem dL_law_586 : decode cL_law 586 = .ok (.iadd, 1) := by decide +kernel
theorem dL_law_587 : decode cL_law 587 = .ok (.iaload, 1) := by decide +kernel
theorem dL_law_588 : decode cL_law 588 = .ok (.invokevirtual 86, 3) := by decide +kernel
theorem dL_law_591 : decode cL_law 591 = .ok (.aload_n 2, 1) := by decide +kernel
theorem dL_law_592 : decode cL_law 592 = .ok (.aload_n 0, 1) := by decide +kernel
theorem dL_law_593 : decode cL_law 593 = .ok (.iload_n 3, 1) := by decide +kernel
theorem dL_law_594 : decode cL_law 594 = .ok (.iconst 1, 1) := by decide +kernel
theorem dL_law_595 : decode cL_law 595 = .ok (.iadd, 1) := by decide +kernel
theorem dL_law_596 : decode cL_law 596 = .ok (.iaload, 1) := by decide +kernel
theorem dL_law_597 : decode cL_law 597 = .ok (.aload_n 0, 1) := by decide +kernel
theorem dL_law_598 : decode cL_law 598 = .ok (.iload_n 3, 1) := by decide +kernel
theorem dL_law_599 : decode cL_law 599 = .ok (.iconst 2, 1) := by decide +kernel
theorem dL_law_600 : decode cL_law 600 = .ok (.iadd, 1) := by decide +kernel
theorem dL_law_601 : decode cL_law 601 = .ok (.iaload, 1) := by decide +kernel
theorem dL_law_602 : decode cL_law 602 = .ok (.invokevirtual 89, 3) := by decide +kernel
theorem dL_law_605 : decode cL_law 605 = .ok (.if_icmp .eq 193, 3) := by decide +kernel
theorem dL_law_608 : decode cL_law 608 = .ok (.iconst 0, 1) := by decide +kernel
theorem dL_law_609 : decode cL_law 609 = .ok (.ireturn, 1) := by decide +kernel
theorem dL_law_610 : decode cL_law 610 = .ok (.aload_n 1, 1) := by decide +kernel
theorem dL_law_611 : decode cL_law 611 = .ok (.aload_n 0, 1) := by decide +kernel
theorem dL_law_612 : decode cL_law 612 = .ok (.iload_n 3, 1) := by decide +kernel
theorem dL_law_613 : decode cL_law 613 = .ok (.iconst 1, 1) := by decide +kernel
theorem dL_law_614 : decode cL_law 614 = .ok (.iadd, 1) := by decide +kernel
theorem dL_law_615 : decode cL_law 615 = .ok (.iaload, 1) := by decide +kernel
theorem dL_law_616 : decode cL_law 616 = .ok (.aload_n 0, 1) := by decide +kernel
theorem dL_law_617 : decode cL_law 617 = .ok (.iload_n 3, 1) := by decide +kernel
theorem dL_law_618 : decode cL_law 618 = .ok (.iconst 2, 1) := by decide +kernel
theorem dL_law_619 : decode cL_law 619 = .ok (.iadd, 1) := by decide +kernel
theorem dL_law_620 : decode cL_law 620 = .ok (.iaload, 1) := by decide +kernel
theorem dL_law_621 : decode cL_law 621 = .ok (.invokevirtual 90, 3) := by decide +kernel
theorem dL_law_624 : decode cL_law 624 = .ok (.aload_n 2, 1) := by decide +kernel
theorem dL_law_625 : decode cL_law 625 = .ok (.aload_n 0, 1) := by decide +kernel
theorem dL_law_626 : decode cL_law 626 = .ok (.iload_n 3, 1) := by decide +kernel
theorem dL_law_627 : decode cL_law 627 = .ok (.iconst 1, 1) := by decide +kernel
theorem dL_law_628 : decode cL_law 628 = .ok (.iadd, 1) := by decide +kernel
theorem dL_law_629 : decode cL_law 629 = .ok (.iaload, 1) := by decide +kernel
theorem dL_law_630 : decode cL_law 630 = .ok (.aload_n 0, 1) := by decide +kernel
theorem dL_law_631 : decode cL_law 631 = .ok (.iload_n 3, 1) := by decide +kernel
theorem dL_law_632 : decode cL_law 632 = .ok (.iconst 2, 1) := by decide +kernel
theorem dL_law_633 : decode cL_law 633 = .ok (.iadd, 1) := by decide +kernel
theorem dL_law_634 : decode cL_law 634 = .ok (.iaload, 1) := by decide +kernel
theorem dL_law_635 : decode cL_law 635 = .ok (.invokevirtual 93, 3) := by decide +kernel
theorem dL_law_638 : decode cL_law 638 = .ok (.if_icmp .eq 160, 3) := by decide +kernel
theorem dL_law_641 : decode cL_law 641 = .ok (.iconst 0, 1) := by decide +kernel
theorem dL_law_642 : decode cL_law 642 = .ok (.ireturn, 1) := by decide +kernel
theorem dL_law_643 : decode cL_law 643 = .ok (.aload_n 1, 1) := by decide +kernel
theorem dL_law_644 : decode cL_law 644 = .ok (.aload_n 0, 1) := by decide +kernel
theorem dL_law_645 : decode cL_law 645 = .ok (.iload_n 3, 1) := by decide +kernel
theorem dL_law_646 : decode cL_law 646 = .ok (.iconst 1, 1) := by decide +kernel
theorem dL_law_647 : decode cL_law 647 = .ok (.iadd, 1) := by decide +kernel
theorem dL_law_648 : decode cL_law 648 = .ok (.iaload, 1) := by decide +kernel
theorem dL_law_649 : decode cL_law 649 = .ok (.aload_n 0, 1) := by decide +kernel
theorem dL_law_650 : decode cL_law 650 = .ok (.iload_n 3, 1) := by decide +kernel
theorem dL_law_651 : decode cL_law 651 = .ok (.iconst 2, 1) := by decide +kernel
theorem dL_law_652 : decode cL_law 652 = .ok (.iadd, 1) := by decide +kernel
theorem dL_law_653 : decode cL_law 653 = .ok (.iaload, 1) := by decide +kernel
theorem dL_law_654 : decode cL_law 654 = .ok (.invokevirtual 94, 3) := by decide +kernel
theorem dL_law_657 : decode cL_law 657 = .ok (.aload_n 2, 1) := by decide +kernel
theorem dL_law_658 : decode cL_law 658 = .ok (.aload_n 0, 1) := by decide +kernel
theorem dL_law_659 : decode cL_law 659 = .ok (.iload_n 3, 1) := by decide +kernel
theorem dL_law_660 : decode cL_law 660 = .ok (.iconst 1, 1) := by decide +kernel
theorem dL_law_661 : decode cL_law 661 = .ok (.iadd, 1) := by decide +kernel
theorem dL_law_662 : decode cL_law 662 = .ok (.iaload, 1) := by decide +kernel
theorem dL_law_663 : decode cL_law 663 = .ok (.aload_n 0, 1) := by decide +kernel
theorem dL_law_664 : decode cL_law 664 = .ok (.iload_n 3, 1) := by decide +kernel
theorem dL_law_665 : decode cL_law 665 = .ok (.iconst 2, 1) := by decide +kernel
theorem dL_law_666 : decode cL_law 666 = .ok (.iadd, 1) := by decide +kernel
theorem dL_law_667 : decode cL_law 667 = .ok (.iaload, 1) := by decide +kernel
theorem dL_law_668 : decode cL_law 668 = .ok (.invokevirtual 97, 3) := by decide +kernel
theorem dL_law_671 : decode cL_law 671 = .ok (.if_icmp .eq 127, 3) := by decide +kernel
theorem dL_law_674 : decode cL_law 674 = .ok (.iconst 0, 1) := by decide +kernel
theorem dL_law_675 : decode cL_law 675 = .ok (.ireturn, 1) := by decide +kernel
theorem dL_law_676 : decode cL_law 676 = .ok (.aload_n 1, 1) := by decide +kernel
theorem dL_law_677 : decode cL_law 677 = .ok (.aload_n 0, 1) := by decide +kernel
theorem dL_law_678 : decode cL_law 678 = .ok (.iload_n 3, 1) := by decide +kernel
theorem dL_law_679 : decode cL_law 679 = .ok (.iconst 1, 1) := by decide +kernel
theorem dL_law_680 : decode cL_law 680 = .ok (.iadd, 1) := by decide +kernel
theorem dL_law_681 : decode cL_law 681 = .ok (.iaload, 1) := by decide +kernel
theorem dL_law_682 : decode cL_law 682 = .ok (.aload_n 0, 1) := by decide +kernel
theorem dL_law_683 : decode cL_law 683 = .ok (.iload_n 3, 1) := by decide +kernel
theorem dL_law_684 : decode cL_law 684 = .ok (.iconst 2, 1) := by decide +kernel
theorem dL_law_685 : decode cL_law 685 = .ok (.iadd, 1) := by decide +kernel
theorem dL_law_686 : decode cL_law 686 = .ok (.iaload, 1) := by decide +kernel
theorem dL_law_687 : decode cL_law 687 = .ok (.invokevirtual 98, 3) := by decide +kernel
theorem dL_law_690 : decode cL_law 690 = .ok (.aload_n 2, 1) := by decide +kernel
theorem dL_law_691 : decode cL_law 691 = .ok (.aload_n 0, 1) := by decide +kernel
theorem dL_law_692 : decode cL_law 692 = .ok (.iload_n 3, 1) := by decide +kernel
theorem dL_law_693 : decode cL_law 693 = .ok (.iconst 1, 1) := by decide +kernel
theorem dL_law_694 : decode cL_law 694 = .ok (.iadd, 1) := by decide +kernel
theorem dL_law_695 : decode cL_law 695 = .ok (.iaload, 1) := by decide +kernel
theorem dL_law_696 : decode cL_law 696 = .ok (.aload_n 0, 1) := by decide +kernel
theorem dL_law_697 : decode cL_law 697 = .ok (.iload_n 3, 1) := by decide +kernel
theorem dL_law_698 : decode cL_law 698 = .ok (.iconst 2, 1) := by decide +kernel
theorem dL_law_699 : decode cL_law 699 = .ok (.iadd, 1) := by decide +kernel
theorem dL_law_700 : decode cL_law 700 = .ok (.iaload, 1) := by decide +kernel
theorem dL_law_701 : decode cL_law 701 = .ok (.invokevirtual 101, 3) := by decide +kernel
theorem dL_law_704 : decode cL_law 704 = .ok (.if_icmp .eq 94, 3) := by decide +kernel
theorem dL_law_707 : decode cL_law 707 = .ok (.iconst 0, 1) := by decide +kernel
theorem dL_law_708 : decode cL_law 708 = .ok (.ireturn, 1) := by decide +kernel
theorem dL_law_709 : decode cL_law 709 = .ok (.aload_n 1, 1) := by decide +kernel
theorem dL_law_710 : decode cL_law 710 = .ok (.aload_n 0, 1) := by decide +kernel
theorem dL_law_711 : decode cL_law 711 = .ok (.iload_n 3, 1) := by decide +kernel
theorem dL_law_712 : decode cL_law 712 = .ok (.iconst 1, 1) := by decide +kernel
theorem dL_law_713 : decode cL_law 713 = .ok (.iadd, 1) := by decide +kernel
theorem dL_law_714 : decode cL_law 714 = .ok (.iaload, 1) := by decide +kernel
theorem dL_law_715 : decode cL_law 715 = .ok (.aload_n 0, 1) := by decide +kernel
theorem dL_law_716 : decode cL_law 716 = .ok (.iload_n 3, 1) := by decide +kernel
theorem dL_law_717 : decode cL_law 717 = .ok (.iconst 2, 1) := by decide +kernel
theorem dL_law_718 : decode cL_law 718 = .ok (.iadd, 1) := by decide +kernel
theorem dL_law_719 : decode cL_law 719 = .ok (.iaload, 1) := by decide +kernel
theorem dL_law_720 : decode cL_law 720 = .ok (.invokevirtual 102, 3) := by decide +kernel
theorem dL_law_723 : decode cL_law 723 = .ok (.aload_n 2, 1) := by decide +kernel
theorem dL_law_724 : decode cL_law 724 = .ok (.aload_n 0, 1) := by decide +kernel
theorem dL_law_725 : decode cL_law 725 = .ok (.iload_n 3, 1) := by decide +kernel
theorem dL_law_726 : decode cL_law 726 = .ok (.iconst 1, 1) := by decide +kernel
theorem dL_law_727 : decode cL_law 727 = .ok (.iadd, 1) := by decide +kernel
theorem dL_law_728 : decode cL_law 728 = .ok (.iaload, 1) := by decide +kernel
theorem dL_law_729 : decode cL_law 729 = .ok (.aload_n 0, 1) := by decide +kernel
theorem dL_law_730 : decode cL_law 730 = .ok (.iload_n 3, 1) := by decide +kernel
theorem dL_law_731 : decode cL_law 731 = .ok (.iconst 2, 1) := by decide +kernel
theorem dL_law_732 : decode cL_law 732 = .ok (.iadd, 1) := by decide +kernel
theorem dL_law_733 : decode cL_law 733 = .ok (.iaload, 1) := by decide +kernel
theorem dL_law_734 : decode cL_law 734 = .ok (.invokevirtual 105, 3) := by decide +kernel
theorem dL_law_737 : decode cL_law 737 = .ok (.if_icmp .eq 61, 3) := by decide +kernel
theorem dL_law_740 : decode cL_law 740 = .ok (.iconst 0, 1) := by decide +kernel
theorem dL_law_741 : decode cL_law 741 = .ok (.ireturn, 1) := by decide +kernel
theorem dL_law_742 : decode cL_law 742 = .ok (.aload_n 1, 1) := by decide +kernel
theorem dL_law_743 : decode cL_law 743 = .ok (.aload_n 0, 1) := by decide +kernel
theorem dL_law_744 : decode cL_law 744 = .ok (.iload_n 3, 1) := by decide +kernel
theorem dL_law_745 : decode cL_law 745 = .ok (.iconst 1, 1) := by decide +kernel
theorem dL_law_746 : decode cL_law 746 = .ok (.iadd, 1) := by decide +kernel
theorem dL_law_747 : decode cL_law 747 = .ok (.iaload, 1) := by decide +kernel
theorem dL_law_748 : decode cL_law 748 = .ok (.aload_n 0, 1) := by decide +kernel
theorem dL_law_749 : decode cL_law 749 = .ok (.iload_n 3, 1) := by decide +kernel
theorem dL_law_750 : decode cL_law 750 = .ok (.iconst 2, 1) := by decide +kernel
theorem dL_law_751 : decode cL_law 751 = .ok (.iadd, 1) := by decide +kernel
theorem dL_law_752 : decode cL_law 752 = .ok (.iaload, 1) := by decide +kernel
theorem dL_law_753 : decode cL_law 753 = .ok (.invokevirtual 106, 3) := by decide +kernel
theorem dL_law_756 : decode cL_law 756 = .ok (.aload_n 2, 1) := by decide +kernel
theorem dL_law_757 : decode cL_law 757 = .ok (.aload_n 0, 1) := by decide +kernel
theorem dL_law_758 : decode cL_law 758 = .ok (.iload_n 3, 1) := by decide +kernel
theorem dL_law_759 : decode cL_law 759 = .ok (.iconst 1, 1) := by decide +kernel
theorem dL_law_760 : decode cL_law 760 = .ok (.iadd, 1) := by decide +kernel
theorem dL_law_761 : decode cL_law 761 = .ok (.iaload, 1) := by decide +kernel
theorem dL_law_762 : decode cL_law 762 = .ok (.aload_n 0, 1) := by decide +kernel
theorem dL_law_763 : decode cL_law 763 = .ok (.iload_n 3, 1) := by decide +kernel
theorem dL_law_764 : decode cL_law 764 = .ok (.iconst 2, 1) := by decide +kernel
theorem dL_law_765 : decode cL_law 765 = .ok (.iadd, 1) := by decide +kernel
theorem dL_law_766 : decode cL_law 766 = .ok (.iaload, 1) := by decide +kernel
theorem dL_law_767 : decode cL_law 767 = .ok (.invokevirtual 109, 3) := by decide +kernel
theorem dL_law_770 : decode cL_law 770 = .ok (.if_icmp .eq 28, 3) := by decide +kernel
theorem dL_law_773 : decode cL_law 773 = .ok (.iconst 0, 1) := by decide +kernel
theorem dL_law_774 : decode cL_law 774 = .ok (.ireturn, 1) := by decide +kernel
theorem dL_law_775 : decode cL_law 775 = .ok (.aload_n 1, 1) := by decide +kernel
theorem dL_law_776 : decode cL_law 776 = .ok (.aload_n 0, 1) := by decide +kernel
theorem dL_law_777 : decode cL_law 777 = .ok (.iload_n 3, 1) := by decide +kernel
theorem dL_law_778 : decode cL_law 778 = .ok (.iconst 1, 1) := by decide +kernel
theorem dL_law_779 : decode cL_law 779 = .ok (.iadd, 1) := by decide +kernel
theorem dL_law_780 : decode cL_law 780 = .ok (.iaload, 1) := by decide +kernel
theorem dL_law_781 : decode cL_law 781 = .ok (.invokevirtual 110, 3) := by decide +kernel
theorem dL_law_784 : decode cL_law 784 = .ok (.aload_n 2, 1) := by decide +kernel
theorem dL_law_785 : decode cL_law 785 = .ok (.aload_n 0, 1) := by decide +kernel
theorem dL_law_786 : decode cL_law 786 = .ok (.iload_n 3, 1) := by decide +kernel
theorem dL_law_787 : decode cL_law 787 = .ok (.iconst 1, 1) := by decide +kernel
theorem dL_law_788 : decode cL_law 788 = .ok (.iadd, 1) := by decide +kernel
theorem dL_law_789 : decode cL_law 789 = .ok (.iaload, 1) := by decide +kernel
theorem dL_law_790 : decode cL_law 790 = .ok (.invokevirtual 113, 3) := by decide +kernel
theorem dL_law_793 : decode cL_law 793 = .ok (.if_icmp .eq 5, 3) := by decide +kernel
theorem dL_law_796 : decode cL_law 796 = .ok (.iconst 0, 1) := by decide +kernel
theorem dL_law_797 : decode cL_law 797 = .ok (.ireturn, 1) := by decide +kernel
theorem dL_law_798 : decode cL_law 798 = .ok (.iinc 3 5, 3) := by decide +kernel
theorem dL_law_801 : decode cL_law 801 = .ok (.goto (-783), 3) := by decide +kernel
theorem dL_law_804 : decode cL_law 804 = .ok (.iconst 1, 1) := by decide +kernel
theorem dL_law_805 : decode cL_law 805 = .ok (.ireturn, 1) := by decide +kernel
