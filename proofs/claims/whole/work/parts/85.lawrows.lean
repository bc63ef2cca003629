set_option maxRecDepth 20000 in
theorem ggL_law_X9_init_h : GoodIn wsL_law [Cond.code yX9_init cX9_init 2 none] := goodIn_r _ [8] (by decide +kernel) (by decide +kernel)
set_option maxRecDepth 20000 in
theorem ggL_law_X9_init_0 : GoodIn wsL_law wsX9_init_r1 := goodIn_r _ [9, 10, 11, 12, 13, 14, 15, 16, 17, 18, 19, 20, 21, 22, 23, 24, 25, 26, 27, 28, 29, 30, 31, 32] (by decide +kernel) (by decide +kernel)
set_option maxRecDepth 20000 in
theorem ggL_law_X9_init_1 : GoodIn wsL_law wsX9_init_r2 := goodIn_r _ [33, 34, 35, 36, 37, 38, 39, 40, 41, 42, 43, 44, 45, 46, 47, 48, 49, 50, 51, 52, 53, 54, 55, 56] (by decide +kernel) (by decide +kernel)
set_option maxRecDepth 20000 in
theorem ggL_law_X9_init_2 : GoodIn wsL_law wsX9_init_r3 := goodIn_r _ [57, 58, 59, 60, 61, 62, 63, 64, 65, 66, 67, 68, 69, 70, 71, 72, 73, 74, 75, 76, 77, 78, 79, 80] (by decide +kernel) (by decide +kernel)
set_option maxRecDepth 20000 in
theorem ggL_law_X9_init_3 : GoodIn wsL_law wsX9_init_r4 := goodIn_r _ [81, 82, 83, 84, 85, 86, 87, 88, 89, 90, 91, 92, 93, 94, 95, 96, 97, 98, 99, 100, 101, 102, 103, 104] (by decide +kernel) (by decide +kernel)
set_option maxRecDepth 20000 in
theorem ggL_law_X9_init_4 : GoodIn wsL_law wsX9_init_r5 := goodIn_r _ [105, 106, 107, 108, 109, 110, 111, 112, 113, 114, 115, 116, 117, 118, 119, 120, 121, 122, 123, 124, 125, 126, 127, 128] (by decide +kernel) (by decide +kernel)
set_option maxRecDepth 20000 in
theorem ggL_law_X9_init_5 : GoodIn wsL_law wsX9_init_r6 := goodIn_r _ [129, 130, 131, 132, 133, 134, 135] (by decide +kernel) (by decide +kernel)
set_option maxRecDepth 20000 in
theorem ggL_law_X9_init_6 : GoodIn wsL_law wsX70 := goodIn_r _ [1130, 1131, 1132, 1133, 1134, 1135, 1136] (by decide +kernel) (by decide +kernel)
set_option maxRecDepth 20000 in
theorem ggL_law_X9_init_7 : GoodIn wsL_law wsX90 := goodIn_r _ [1096, 1097, 1098, 1099, 1100, 1101, 1102, 1103, 1104] (by decide +kernel) (by decide +kernel)
set_option maxRecDepth 20000 in
theorem ggL_law_X9_init_8 : GoodIn wsL_law wsX80 := goodIn_r _ [1137, 1138, 1139, 1140, 1141, 1142, 1143] (by decide +kernel) (by decide +kernel)
set_option maxRecDepth 20000 in
theorem ggL_law_X9_init_9 : GoodIn wsL_law wsX50 := goodIn_r _ [1144, 1145, 1146, 1147, 1148, 1149, 1150, 1151, 1152, 1153] (by decide +kernel) (by decide +kernel)
set_option maxRecDepth 20000 in
theorem ggL_law_X9_init_10 : GoodIn wsL_law wsX60 := goodIn_r _ [1154, 1155, 1156, 1157, 1158] (by decide +kernel) (by decide +kernel)
set_option maxRecDepth 20000 in
theorem ggL_law_X9_init_11 : GoodIn wsL_law wsX20 := goodIn_r _ [1159, 1160, 1161, 1162, 1163] (by decide +kernel) (by decide +kernel)
set_option maxRecDepth 20000 in
theorem ggL_law_X9_init_12 : GoodIn wsL_law wsX30 := goodIn_r _ [1164] (by decide +kernel) (by decide +kernel)
set_option maxRecDepth 20000 in
theorem ggL_law_X9_init_13 : GoodIn wsL_law wsX10 := goodIn_r _ [1165, 1166, 1167, 1168] (by decide +kernel) (by decide +kernel)
set_option maxRecDepth 20000 in
theorem ggL_law_X9_init_14 : GoodIn wsL_law wsX40 := goodIn_r _ [1169, 1170, 1171, 1172, 1173, 1174, 1175, 1176] (by decide +kernel) (by decide +kernel)
theorem ggL_law_X9_init : GoodIn wsL_law wsX9_init := goodIn_app ggL_law_X9_init_h (goodIn_app (goodIn_app (goodIn_app (goodIn_app (goodIn_app (goodIn_app (goodIn_app (goodIn_app (goodIn_app (goodIn_app ggL_law_X9_init_0 (goodIn_app ggL_law_X9_init_1 (goodIn_app ggL_law_X9_init_2 (goodIn_app ggL_law_X9_init_3 (goodIn_app ggL_law_X9_init_4 ggL_law_X9_init_5))))) ggL_law_X9_init_6) ggL_law_X9_init_7) ggL_law_X9_init_8) ggL_law_X9_init_9) ggL_law_X9_init_10) ggL_law_X9_init_11) ggL_law_X9_init_12) ggL_law_X9_init_13) ggL_law_X9_init_14)
set_option maxRecDepth 20000 in
theorem gL_law_X9_init : GoodIn wsL_law (wsX9_init) := ggL_law_X9_init
set_option maxRecDepth 20000 in
theorem ggL_law_X10_init_h : GoodIn wsL_law [Cond.code yX10_init cX10_init 1 none] := goodIn_r _ [138] (by decide +kernel) (by decide +kernel)
set_option maxRecDepth 20000 in
theorem ggL_law_X10_init_0 : GoodIn wsL_law ([.methodLink RX10 1 objectInit, .instanceMethod objectInit, .code objectInit ⟨#[0xb1]⟩ 1 none, .arrayClass .int, .fieldLink RX10 7 "StageTruthsModel" "now" "[I", .fieldLink RX10 13 "StageTruthsModel" "history" "[I", .fieldLink RX10 16 "StageTruthsModel" "slot" "[I", .fieldLink RX10 19 "StageTruthsModel" "like" "[I", .fieldLink RX10 22 "StageTruthsModel" "leadsThen" "[I", .arrayClass .char, .fieldLink RX10 25 "StageTruthsModel" "text" "[C", .fieldLink RX10 29 "StageTruthsModel" "signs" "[I", .fieldLink RX10 32 "StageTruthsModel" "waiting" "[I", .fieldLink RX10 35 "StageTruthsModel" "stack" "[I", .fieldLink RX10 38 "StageTruthsModel" "op" "[I", .fieldLink RX10 41 "StageTruthsModel" "left" "[I", .fieldLink RX10 44 "StageTruthsModel" "right" "[I", .constant RX10 47 (91000), .fieldLink RX10 48 "StageTruthsModel" "where" "[I", .fieldLink RX10 51 "StageTruthsModel" "given" "[I", .fieldLink RX10 54 "StageTruthsModel" "goal" "[I", .fieldLink RX10 57 "StageTruthsModel" "phase" "[I", .fieldLink RX10 60 "StageTruthsModel" "option" "[I", .fieldLink RX10 63 "StageTruthsModel" "start" "[I"] : List Cond) := goodIn_r _ [139, 10, 11, 37, 140, 141, 142, 143, 144, 145, 146, 147, 148, 149, 150, 151, 152, 153, 154, 155, 156, 157, 158, 159] (by decide +kernel) (by decide +kernel)
set_option maxRecDepth 20000 in
theorem ggL_law_X10_init_1 : GoodIn wsL_law wsX100 := goodIn_r _ [1105, 1106, 1107, 1108, 1109, 1110, 1111, 1112, 1113, 1114, 1115, 1116, 1117, 1118, 1119, 1120, 1121, 1122, 1123, 1124, 1125, 1126, 1127, 1128, 1129] (by decide +kernel) (by decide +kernel)
theorem ggL_law_X10_init : GoodIn wsL_law wsX10_init := goodIn_app ggL_law_X10_init_h (goodIn_app ggL_law_X10_init_0 ggL_law_X10_init_1)
set_option maxRecDepth 20000 in
theorem gL_law_X10_init : GoodIn wsL_law (wsX10_init) := ggL_law_X10_init
set_option maxRecDepth 20000 in
theorem ggL_law_X9_addStage_h : GoodIn wsL_law [Cond.code yX9_addStage cX9_addStage 2 (some .int)] := goodIn_r _ [163] (by decide +kernel) (by decide +kernel)
set_option maxRecDepth 20000 in
theorem ggL_law_X9_addStage_0 : GoodIn wsL_law wsX9_addStage_r1 := goodIn_r _ [15, 164, 165, 166, 167, 14, 168, 36, 169, 170, 171, 2, 172, 17, 16, 173, 174, 175, 176, 38, 39, 41, 177, 178] (by decide +kernel) (by decide +kernel)
set_option maxRecDepth 20000 in
theorem ggL_law_X9_addStage_1 : GoodIn wsL_law wsX9_addStage_r2 := goodIn_r _ [179, 180, 181, 182, 183, 184, 185, 186] (by decide +kernel) (by decide +kernel)
set_option maxRecDepth 20000 in
theorem ggL_law_X9_addStage_2 : GoodIn wsL_law wsX90 := goodIn_r _ [1096, 1097, 1098, 1099, 1100, 1101, 1102, 1103, 1104] (by decide +kernel) (by decide +kernel)
set_option maxRecDepth 20000 in
theorem ggL_law_X9_addStage_3 : GoodIn wsL_law wsX70 := goodIn_r _ [1130, 1131, 1132, 1133, 1134, 1135, 1136] (by decide +kernel) (by decide +kernel)
theorem ggL_law_X9_addStage : GoodIn wsL_law wsX9_addStage := goodIn_app ggL_law_X9_addStage_h (goodIn_app (goodIn_app (goodIn_app ggL_law_X9_addStage_0 ggL_law_X9_addStage_1) ggL_law_X9_addStage_2) ggL_law_X9_addStage_3)
set_option maxRecDepth 20000 in
theorem gL_law_X9_addStage : GoodIn wsL_law (wsV RL 13 RX9 yX9_addStage wsX9_addStage) := goodIn_app (goodIn_of _ (by decide +kernel)) ggL_law_X9_addStage
set_option maxRecDepth 20000 in
theorem ggL_law_X10_addStage_h : GoodIn wsL_law [Cond.code yX10_addStage cX10_addStage 4 (some .int)] := goodIn_r _ [190] (by decide +kernel) (by decide +kernel)
set_option maxRecDepth 20000 in
theorem ggL_law_X10_addStage_0 : GoodIn wsL_law ([.fieldLink RX10 7 "StageTruthsModel" "now" "[I", .methodLink RX10 86 yX10_noStage, .instanceMethod yX10_noStage, .selects RX10 yX10_noStage yX10_noStage, .initialized RX10, .code yX10_noStage cX10_noStage 2 (some .boolean), .methodLink RX10 66 yX10_in, .static yX10_in, .code yX10_in cX10_in 3 (some .boolean), .methodLink RX10 89 yX10_record, .instanceMethod yX10_record, .selects RX10 yX10_record yX10_record, .code yX10_record cX10_record 2 none, .fieldLink RX10 74 "StageTruthsModel" "kept" "I", .fieldLink RX10 13 "StageTruthsModel" "history" "[I", .methodLink RX10 78 yX10_leadsTo, .instanceMethod yX10_leadsTo, .selects RX10 yX10_leadsTo yX10_leadsTo, .code yX10_leadsTo cX10_leadsTo 3 (some .boolean)] : List Cond) := goodIn_r _ [140, 191, 192, 193, 5, 194, 195, 196, 197, 198, 199, 200, 201, 202, 141, 203, 204, 205, 206] (by decide +kernel) (by decide +kernel)
set_option maxRecDepth 20000 in
theorem ggL_law_X10_addStage_1 : GoodIn wsL_law wsX100 := goodIn_r _ [1105, 1106, 1107, 1108, 1109, 1110, 1111, 1112, 1113, 1114, 1115, 1116, 1117, 1118, 1119, 1120, 1121, 1122, 1123, 1124, 1125, 1126, 1127, 1128, 1129] (by decide +kernel) (by decide +kernel)
theorem ggL_law_X10_addStage : GoodIn wsL_law wsX10_addStage := goodIn_app ggL_law_X10_addStage_h (goodIn_app ggL_law_X10_addStage_0 ggL_law_X10_addStage_1)
set_option maxRecDepth 20000 in
theorem gL_law_X10_addStage : GoodIn wsL_law (wsV RL 17 RX10 yX10_addStage wsX10_addStage) := goodIn_app (goodIn_of _ (by decide +kernel)) ggL_law_X10_addStage
set_option maxRecDepth 20000 in
theorem ggL_law_X9_lead_h : GoodIn wsL_law [Cond.code yX9_lead cX9_lead 4 (some .int)] := goodIn_r _ [210] (by decide +kernel) (by decide +kernel)
set_option maxRecDepth 20000 in
theorem ggL_law_X9_lead_0 : GoodIn wsL_law wsX9_lead_r1 := goodIn_r _ [15, 211, 165, 166, 167, 14, 168, 36, 212, 185, 2, 186, 169, 170, 171, 172, 17, 16, 173, 174, 175, 176, 38, 39] (by decide +kernel) (by decide +kernel)
set_option maxRecDepth 20000 in
theorem ggL_law_X9_lead_1 : GoodIn wsL_law wsX9_lead_r2 := goodIn_r _ [41, 213, 214, 215, 216, 217, 218, 219, 220, 221, 222, 223, 224, 225, 226, 227, 181, 182, 183, 184, 228, 229, 230, 231] (by decide +kernel) (by decide +kernel)
set_option maxRecDepth 20000 in
theorem ggL_law_X9_lead_2 : GoodIn wsL_law wsX90 := goodIn_r _ [1096, 1097, 1098, 1099, 1100, 1101, 1102, 1103, 1104] (by decide +kernel) (by decide +kernel)
set_option maxRecDepth 20000 in
theorem ggL_law_X9_lead_3 : GoodIn wsL_law wsX70 := goodIn_r _ [1130, 1131, 1132, 1133, 1134, 1135, 1136] (by decide +kernel) (by decide +kernel)
theorem ggL_law_X9_lead : GoodIn wsL_law wsX9_lead := goodIn_app ggL_law_X9_lead_h (goodIn_app (goodIn_app (goodIn_app ggL_law_X9_lead_0 ggL_law_X9_lead_1) ggL_law_X9_lead_2) ggL_law_X9_lead_3)
set_option maxRecDepth 20000 in
theorem gL_law_X9_lead : GoodIn wsL_law (wsV RL 18 RX9 yX9_lead wsX9_lead) := goodIn_app (goodIn_of _ (by decide +kernel)) ggL_law_X9_lead
set_option maxRecDepth 20000 in
theorem ggL_law_X10_lead_h : GoodIn wsL_law [Cond.code yX10_lead cX10_lead 7 (some .int)] := goodIn_r _ [235] (by decide +kernel) (by decide +kernel)
set_option maxRecDepth 20000 in
theorem ggL_law_X10_lead_0 : GoodIn wsL_law wsX10_lead_r1 := goodIn_r _ [140, 191, 192, 193, 5, 194, 195, 196, 197, 203, 204, 205, 206, 198, 199, 200, 201, 202, 141, 236, 237, 238, 239, 240] (by decide +kernel) (by decide +kernel)
set_option maxRecDepth 20000 in
theorem ggL_law_X10_lead_1 : GoodIn wsL_law wsX10_lead_r2 := goodIn_r _ [241, 242, 243, 244, 245, 246] (by decide +kernel) (by decide +kernel)
set_option maxRecDepth 20000 in
theorem ggL_law_X10_lead_2 : GoodIn wsL_law wsX100 := goodIn_r _ [1105, 1106, 1107, 1108, 1109, 1110, 1111, 1112, 1113, 1114, 1115, 1116, 1117, 1118, 1119, 1120, 1121, 1122, 1123, 1124, 1125, 1126, 1127, 1128, 1129] (by decide +kernel) (by decide +kernel)
theorem ggL_law_X10_lead : GoodIn wsL_law wsX10_lead := goodIn_app ggL_law_X10_lead_h (goodIn_app (goodIn_app ggL_law_X10_lead_0 ggL_law_X10_lead_1) ggL_law_X10_lead_2)
set_option maxRecDepth 20000 in
theorem gL_law_X10_lead : GoodIn wsL_law (wsV RL 22 RX10 yX10_lead wsX10_lead) := goodIn_app (goodIn_of _ (by decide +kernel)) ggL_law_X10_lead
set_option maxRecDepth 20000 in
theorem ggL_law_X9_learn_h : GoodIn wsL_law [Cond.code yX9_learn cX9_learn 3 (some .int)] := goodIn_r _ [250] (by decide +kernel) (by decide +kernel)
set_option maxRecDepth 20000 in
theorem ggL_law_X9_learn_0 : GoodIn wsL_law wsX9_learn_r1 := goodIn_r _ [15, 251, 211, 165, 166, 167, 14, 168, 36, 252, 253, 2, 254, 212, 185, 186, 169, 170, 171, 172, 17, 16, 173, 174] (by decide +kernel) (by decide +kernel)
set_option maxRecDepth 20000 in
theorem ggL_law_X9_learn_1 : GoodIn wsL_law wsX9_learn_r2 := goodIn_r _ [175, 176, 38, 39, 41, 255, 229, 230, 231, 256, 257, 258, 259] (by decide +kernel) (by decide +kernel)
set_option maxRecDepth 20000 in
theorem ggL_law_X9_learn_2 : GoodIn wsL_law wsX90 := goodIn_r _ [1096, 1097, 1098, 1099, 1100, 1101, 1102, 1103, 1104] (by decide +kernel) (by decide +kernel)
set_option maxRecDepth 20000 in
theorem ggL_law_X9_learn_3 : GoodIn wsL_law wsX70 := goodIn_r _ [1130, 1131, 1132, 1133, 1134, 1135, 1136] (by decide +kernel) (by decide +kernel)
theorem ggL_law_X9_learn : GoodIn wsL_law wsX9_learn := goodIn_app ggL_law_X9_learn_h (goodIn_app (goodIn_app (goodIn_app ggL_law_X9_learn_0 ggL_law_X9_learn_1) ggL_law_X9_learn_2) ggL_law_X9_learn_3)
set_option maxRecDepth 20000 in
theorem gL_law_X9_learn : GoodIn wsL_law (wsV RL 23 RX9 yX9_learn wsX9_learn) := goodIn_app (goodIn_of _ (by decide +kernel)) ggL_law_X9_learn
set_option maxRecDepth 20000 in
theorem ggL_law_X10_learn_h : GoodIn wsL_law [Cond.code yX10_learn cX10_learn 4 (some .int)] := goodIn_r _ [263] (by decide +kernel) (by decide +kernel)
set_option maxRecDepth 20000 in
theorem ggL_law_X10_learn_0 : GoodIn wsL_law ([.fieldLink RX10 7 "StageTruthsModel" "now" "[I", .methodLink RX10 86 yX10_noStage, .instanceMethod yX10_noStage, .selects RX10 yX10_noStage yX10_noStage, .initialized RX10, .code yX10_noStage cX10_noStage 2 (some .boolean), .methodLink RX10 66 yX10_in, .static yX10_in, .code yX10_in cX10_in 3 (some .boolean), .methodLink RX10 89 yX10_record, .instanceMethod yX10_record, .selects RX10 yX10_record yX10_record, .code yX10_record cX10_record 2 none, .fieldLink RX10 74 "StageTruthsModel" "kept" "I", .fieldLink RX10 13 "StageTruthsModel" "history" "[I", .methodLink RX10 78 yX10_leadsTo, .instanceMethod yX10_leadsTo, .selects RX10 yX10_leadsTo yX10_leadsTo, .code yX10_leadsTo cX10_leadsTo 3 (some .boolean), .methodLink RX10 99 yX10_knownAt, .instanceMethod yX10_knownAt, .selects RX10 yX10_knownAt yX10_knownAt, .code yX10_knownAt cX10_knownAt 4 (some .int)] : List Cond) := goodIn_r _ [140, 191, 192, 193, 5, 194, 195, 196, 197, 198, 199, 200, 201, 202, 141, 203, 204, 205, 206, 264, 265, 266, 267] (by decide +kernel) (by decide +kernel)
set_option maxRecDepth 20000 in
theorem ggL_law_X10_learn_1 : GoodIn wsL_law wsX100 := goodIn_r _ [1105, 1106, 1107, 1108, 1109, 1110, 1111, 1112, 1113, 1114, 1115, 1116, 1117, 1118, 1119, 1120, 1121, 1122, 1123, 1124, 1125, 1126, 1127, 1128, 1129] (by decide +kernel) (by decide +kernel)
theorem ggL_law_X10_learn : GoodIn wsL_law wsX10_learn := goodIn_app ggL_law_X10_learn_h (goodIn_app ggL_law_X10_learn_0 ggL_law_X10_learn_1)
set_option maxRecDepth 20000 in
theorem gL_law_X10_learn : GoodIn wsL_law (wsV RL 26 RX10 yX10_learn wsX10_learn) := goodIn_app (goodIn_of _ (by decide +kernel)) ggL_law_X10_learn
set_option maxRecDepth 20000 in
theorem ggL_law_X9_forget_h : GoodIn wsL_law [Cond.code yX9_forget cX9_forget 3 (some .int)] := goodIn_r _ [271] (by decide +kernel) (by decide +kernel)
set_option maxRecDepth 20000 in
theorem ggL_law_X9_forget_0 : GoodIn wsL_law wsX9_forget_r1 := goodIn_r _ [15, 251, 165, 166, 167, 14, 168, 36, 252, 253, 2, 254, 212, 185, 186, 169, 170, 171, 172, 17, 16, 173, 174, 175] (by decide +kernel) (by decide +kernel)
set_option maxRecDepth 20000 in
theorem ggL_law_X9_forget_1 : GoodIn wsL_law wsX9_forget_r2 := goodIn_r _ [176, 38, 39, 41, 272, 182, 183, 184, 273, 274, 275, 276, 256, 257, 258, 259] (by decide +kernel) (by decide +kernel)
set_option maxRecDepth 20000 in
theorem ggL_law_X9_forget_2 : GoodIn wsL_law wsX90 := goodIn_r _ [1096, 1097, 1098, 1099, 1100, 1101, 1102, 1103, 1104] (by decide +kernel) (by decide +kernel)
set_option maxRecDepth 20000 in
theorem ggL_law_X9_forget_3 : GoodIn wsL_law wsX70 := goodIn_r _ [1130, 1131, 1132, 1133, 1134, 1135, 1136] (by decide +kernel) (by decide +kernel)
theorem ggL_law_X9_forget : GoodIn wsL_law wsX9_forget := goodIn_app ggL_law_X9_forget_h (goodIn_app (goodIn_app (goodIn_app ggL_law_X9_forget_0 ggL_law_X9_forget_1) ggL_law_X9_forget_2) ggL_law_X9_forget_3)
set_option maxRecDepth 20000 in
theorem gL_law_X9_forget : GoodIn wsL_law (wsV RL 27 RX9 yX9_forget wsX9_forget) := goodIn_app (goodIn_of _ (by decide +kernel)) ggL_law_X9_forget
set_option maxRecDepth 20000 in
theorem ggL_law_X10_forget_h : GoodIn wsL_law [Cond.code yX10_forget cX10_forget 4 (some .int)] := goodIn_r _ [280] (by decide +kernel) (by decide +kernel)
set_option maxRecDepth 20000 in
theorem ggL_law_X10_forget_0 : GoodIn wsL_law ([.fieldLink RX10 7 "StageTruthsModel" "now" "[I", .methodLink RX10 86 yX10_noStage, .instanceMethod yX10_noStage, .selects RX10 yX10_noStage yX10_noStage, .initialized RX10, .code yX10_noStage cX10_noStage 2 (some .boolean), .methodLink RX10 66 yX10_in, .static yX10_in, .code yX10_in cX10_in 3 (some .boolean), .methodLink RX10 89 yX10_record, .instanceMethod yX10_record, .selects RX10 yX10_record yX10_record, .code yX10_record cX10_record 2 none, .fieldLink RX10 74 "StageTruthsModel" "kept" "I", .fieldLink RX10 13 "StageTruthsModel" "history" "[I", .methodLink RX10 78 yX10_leadsTo, .instanceMethod yX10_leadsTo, .selects RX10 yX10_leadsTo yX10_leadsTo, .code yX10_leadsTo cX10_leadsTo 3 (some .boolean), .methodLink RX10 99 yX10_knownAt, .instanceMethod yX10_knownAt, .selects RX10 yX10_knownAt yX10_knownAt, .code yX10_knownAt cX10_knownAt 4 (some .int)] : List Cond) := goodIn_r _ [140, 191, 192, 193, 5, 194, 195, 196, 197, 198, 199, 200, 201, 202, 141, 203, 204, 205, 206, 264, 265, 266, 267] (by decide +kernel) (by decide +kernel)
set_option maxRecDepth 20000 in
theorem ggL_law_X10_forget_1 : GoodIn wsL_law wsX100 := goodIn_r _ [1105, 1106, 1107, 1108, 1109, 1110, 1111, 1112, 1113, 1114, 1115, 1116, 1117, 1118, 1119, 1120, 1121, 1122, 1123, 1124, 1125, 1126, 1127, 1128, 1129] (by decide +kernel) (by decide +kernel)
theorem ggL_law_X10_forget : GoodIn wsL_law wsX10_forget := goodIn_app ggL_law_X10_forget_h (goodIn_app ggL_law_X10_forget_0 ggL_law_X10_forget_1)
set_option maxRecDepth 20000 in
theorem gL_law_X10_forget : GoodIn wsL_law (wsV RL 30 RX10 yX10_forget wsX10_forget) := goodIn_app (goodIn_of _ (by decide +kernel)) ggL_law_X10_forget
set_option maxRecDepth 20000 in
theorem ggL_law_X9_removeStage_h : GoodIn wsL_law [Cond.code yX9_removeStage cX9_removeStage 2 (some .int)] := goodIn_r _ [284] (by decide +kernel) (by decide +kernel)
set_option maxRecDepth 20000 in
theorem ggL_law_X9_removeStage_0 : GoodIn wsL_law wsX9_removeStage_r1 := goodIn_r _ [15, 164, 165, 166, 167, 14, 168, 36, 169, 170, 171, 2, 172, 17, 16, 173, 174, 175, 176, 38, 39, 41, 285, 286] (by decide +kernel) (by decide +kernel)
set_option maxRecDepth 20000 in
theorem ggL_law_X9_removeStage_1 : GoodIn wsL_law wsX9_removeStage_r2 := goodIn_r _ [287, 288] (by decide +kernel) (by decide +kernel)
set_option maxRecDepth 20000 in
theorem ggL_law_X9_removeStage_2 : GoodIn wsL_law wsX90 := goodIn_r _ [1096, 1097, 1098, 1099, 1100, 1101, 1102, 1103, 1104] (by decide +kernel) (by decide +kernel)
set_option maxRecDepth 20000 in
theorem ggL_law_X9_removeStage_3 : GoodIn wsL_law wsX70 := goodIn_r _ [1130, 1131, 1132, 1133, 1134, 1135, 1136] (by decide +kernel) (by decide +kernel)
theorem ggL_law_X9_removeStage : GoodIn wsL_law wsX9_removeStage := goodIn_app ggL_law_X9_removeStage_h (goodIn_app (goodIn_app (goodIn_app ggL_law_X9_removeStage_0 ggL_law_X9_removeStage_1) ggL_law_X9_removeStage_2) ggL_law_X9_removeStage_3)
set_option maxRecDepth 20000 in
theorem gL_law_X9_removeStage : GoodIn wsL_law (wsV RL 31 RX9 yX9_removeStage wsX9_removeStage) := goodIn_app (goodIn_of _ (by decide +kernel)) ggL_law_X9_removeStage
set_option maxRecDepth 20000 in
theorem ggL_law_X10_removeStage_h : GoodIn wsL_law [Cond.code yX10_removeStage cX10_removeStage 2 (some .int)] := goodIn_r _ [292] (by decide +kernel) (by decide +kernel)
set_option maxRecDepth 20000 in
theorem ggL_law_X10_removeStage_0 : GoodIn wsL_law ([.fieldLink RX10 7 "StageTruthsModel" "now" "[I", .methodLink RX10 86 yX10_noStage, .instanceMethod yX10_noStage, .selects RX10 yX10_noStage yX10_noStage, .initialized RX10, .code yX10_noStage cX10_noStage 2 (some .boolean), .methodLink RX10 66 yX10_in, .static yX10_in, .code yX10_in cX10_in 3 (some .boolean), .methodLink RX10 89 yX10_record, .instanceMethod yX10_record, .selects RX10 yX10_record yX10_record, .code yX10_record cX10_record 2 none, .fieldLink RX10 74 "StageTruthsModel" "kept" "I", .fieldLink RX10 13 "StageTruthsModel" "history" "[I", .methodLink RX10 106 yX10_removes, .instanceMethod yX10_removes, .selects RX10 yX10_removes yX10_removes, .code yX10_removes cX10_removes 4 none, .methodLink RX10 102 yX10_without, .static yX10_without, .code yX10_without cX10_without 3 (some .int)] : List Cond) := goodIn_r _ [140, 191, 192, 193, 5, 194, 195, 196, 197, 198, 199, 200, 201, 202, 141, 293, 294, 295, 296, 297, 298, 299] (by decide +kernel) (by decide +kernel)
set_option maxRecDepth 20000 in
theorem ggL_law_X10_removeStage_1 : GoodIn wsL_law wsX100 := goodIn_r _ [1105, 1106, 1107, 1108, 1109, 1110, 1111, 1112, 1113, 1114, 1115, 1116, 1117, 1118, 1119, 1120, 1121, 1122, 1123, 1124, 1125, 1126, 1127, 1128, 1129] (by decide +kernel) (by decide +kernel)
theorem ggL_law_X10_removeStage : GoodIn wsL_law wsX10_removeStage := goodIn_app ggL_law_X10_removeStage_h (goodIn_app ggL_law_X10_removeStage_0 ggL_law_X10_removeStage_1)
set_option maxRecDepth 20000 in
theorem gL_law_X10_removeStage : GoodIn wsL_law (wsV RL 34 RX10 yX10_removeStage wsX10_removeStage) := goodIn_app (goodIn_of _ (by decide +kernel)) ggL_law_X10_removeStage
set_option maxRecDepth 20000 in
theorem ggL_law_X9_shrink_h : GoodIn wsL_law [Cond.code yX9_shrink cX9_shrink 2 (some .int)] := goodIn_r _ [303] (by decide +kernel) (by decide +kernel)
set_option maxRecDepth 20000 in
theorem ggL_law_X9_shrink_0 : GoodIn wsL_law wsX9_shrink_r1 := goodIn_r _ [15, 164, 304, 305, 306, 14, 307, 36, 42, 43, 39, 38, 308, 309, 310, 311, 312, 313, 314, 315, 185, 2, 186, 316] (by decide +kernel) (by decide +kernel)
set_option maxRecDepth 20000 in
theorem ggL_law_X9_shrink_1 : GoodIn wsL_law wsX9_shrink_r2 := goodIn_r _ [317, 318, 319, 320, 321, 322, 323, 324, 325, 169, 170, 171, 172, 17, 16, 173, 174, 175, 176, 41, 326, 327, 328, 329] (by decide +kernel) (by decide +kernel)
set_option maxRecDepth 20000 in
theorem ggL_law_X9_shrink_2 : GoodIn wsL_law wsX9_shrink_r3 := goodIn_r _ [330, 286, 287, 288] (by decide +kernel) (by decide +kernel)
set_option maxRecDepth 20000 in
theorem ggL_law_X9_shrink_3 : GoodIn wsL_law wsX90 := goodIn_r _ [1096, 1097, 1098, 1099, 1100, 1101, 1102, 1103, 1104] (by decide +kernel) (by decide +kernel)
set_option maxRecDepth 20000 in
theorem ggL_law_X9_shrink_4 : GoodIn wsL_law wsX70 := goodIn_r _ [1130, 1131, 1132, 1133, 1134, 1135, 1136] (by decide +kernel) (by decide +kernel)
theorem ggL_law_X9_shrink : GoodIn wsL_law wsX9_shrink := goodIn_app ggL_law_X9_shrink_h (goodIn_app (goodIn_app (goodIn_app ggL_law_X9_shrink_0 (goodIn_app ggL_law_X9_shrink_1 ggL_law_X9_shrink_2)) ggL_law_X9_shrink_3) ggL_law_X9_shrink_4)
set_option maxRecDepth 20000 in
theorem gL_law_X9_shrink : GoodIn wsL_law (wsV RL 35 RX9 yX9_shrink wsX9_shrink) := goodIn_app (goodIn_of _ (by decide +kernel)) ggL_law_X9_shrink
set_option maxRecDepth 20000 in
theorem ggL_law_X10_shrink_h : GoodIn wsL_law [Cond.code yX10_shrink cX10_shrink 7 (some .int)] := goodIn_r _ [334] (by decide +kernel) (by decide +kernel)
set_option maxRecDepth 20000 in
theorem ggL_law_X10_shrink_0 : GoodIn wsL_law wsX10_shrink_r1 := goodIn_r _ [140, 143, 144, 335, 336, 337, 5, 338, 339, 340, 341, 342, 203, 204, 205, 206, 343, 344, 345, 198, 199, 200, 201, 202] (by decide +kernel) (by decide +kernel)
set_option maxRecDepth 20000 in
theorem ggL_law_X10_shrink_1 : GoodIn wsL_law wsX10_shrink_r2 := goodIn_r _ [141, 293, 294, 295, 296, 297, 298, 299, 240, 241, 242] (by decide +kernel) (by decide +kernel)
set_option maxRecDepth 20000 in
theorem ggL_law_X10_shrink_2 : GoodIn wsL_law wsX100 := goodIn_r _ [1105, 1106, 1107, 1108, 1109, 1110, 1111, 1112, 1113, 1114, 1115, 1116, 1117, 1118, 1119, 1120, 1121, 1122, 1123, 1124, 1125, 1126, 1127, 1128, 1129] (by decide +kernel) (by decide +kernel)
theorem ggL_law_X10_shrink : GoodIn wsL_law wsX10_shrink := goodIn_app ggL_law_X10_shrink_h (goodIn_app (goodIn_app ggL_law_X10_shrink_0 ggL_law_X10_shrink_1) ggL_law_X10_shrink_2)
set_option maxRecDepth 20000 in
theorem gL_law_X10_shrink : GoodIn wsL_law (wsV RL 39 RX10 yX10_shrink wsX10_shrink) := goodIn_app (goodIn_of _ (by decide +kernel)) ggL_law_X10_shrink
set_option maxRecDepth 20000 in
theorem ggL_law_X9_put_h : GoodIn wsL_law [Cond.code yX9_put cX9_put 5 (some .int)] := goodIn_r _ [349] (by decide +kernel) (by decide +kernel)
set_option maxRecDepth 20000 in
theorem ggL_law_X9_put_0 : GoodIn wsL_law wsX9_put_r1 := goodIn_r _ [23, 15, 350, 351, 352, 2, 353, 354, 355, 356, 22, 357, 51, 53, 54, 48, 49, 358, 359, 360, 361, 362, 363, 364] (by decide +kernel) (by decide +kernel)
set_option maxRecDepth 20000 in
theorem ggL_law_X9_put_1 : GoodIn wsL_law wsX9_put_r2 := goodIn_r _ [365, 50, 366, 367, 368, 369, 52, 370, 371, 372, 373, 374, 121, 122, 123, 375, 376, 377, 378, 379, 380, 381, 382, 383] (by decide +kernel) (by decide +kernel)
set_option maxRecDepth 20000 in
theorem ggL_law_X9_put_2 : GoodIn wsL_law wsX9_put_r3 := goodIn_r _ [384, 385, 386, 387, 388, 389, 390, 391, 392, 10, 11, 393, 394, 395, 396, 397, 37, 398, 399, 400, 401, 402, 403, 404] (by decide +kernel) (by decide +kernel)
set_option maxRecDepth 20000 in
theorem ggL_law_X9_put_3 : GoodIn wsL_law wsX9_put_r4 := goodIn_r _ [405, 406, 169, 170, 171, 172, 17, 16, 173, 174, 175, 14, 176, 36, 38, 39, 41, 407, 408, 409, 410, 31, 411, 412] (by decide +kernel) (by decide +kernel)
set_option maxRecDepth 20000 in
theorem ggL_law_X9_put_4 : GoodIn wsL_law wsX9_put_r5 := goodIn_r _ [413, 87, 414, 98, 103, 102, 185, 186, 415, 416, 417, 418, 419, 420, 421, 104, 422, 423, 424, 425, 426, 427, 100, 101] (by decide +kernel) (by decide +kernel)
set_option maxRecDepth 20000 in
theorem ggL_law_X9_put_5 : GoodIn wsL_law wsX9_put_r6 := goodIn_r _ [99, 428, 429, 430, 431, 432, 433, 434, 435, 436, 44, 437, 438, 439, 440, 257, 258, 259, 441, 442, 443, 444, 445, 446] (by decide +kernel) (by decide +kernel)
set_option maxRecDepth 20000 in
theorem ggL_law_X9_put_6 : GoodIn wsL_law wsX9_put_r7 := goodIn_r _ [447, 448] (by decide +kernel) (by decide +kernel)
set_option maxRecDepth 20000 in
theorem ggL_law_X9_put_7 : GoodIn wsL_law wsX90 := goodIn_r _ [1096, 1097, 1098, 1099, 1100, 1101, 1102, 1103, 1104] (by decide +kernel) (by decide +kernel)
set_option maxRecDepth 20000 in
theorem ggL_law_X9_put_8 : GoodIn wsL_law wsX70 := goodIn_r _ [1130, 1131, 1132, 1133, 1134, 1135, 1136] (by decide +kernel) (by decide +kernel)
set_option maxRecDepth 20000 in
theorem ggL_law_X9_put_9 : GoodIn wsL_law wsX80 := goodIn_r _ [1137, 1138, 1139, 1140, 1141, 1142, 1143] (by decide +kernel) (by decide +kernel)
set_option maxRecDepth 20000 in
theorem ggL_law_X9_put_10 : GoodIn wsL_law wsX00 := goodIn_r _ [1177, 1178] (by decide +kernel) (by decide +kernel)
set_option maxRecDepth 20000 in
theorem ggL_law_X9_put_11 : GoodIn wsL_law wsX40 := goodIn_r _ [1169, 1170, 1171, 1172, 1173, 1174, 1175, 1176] (by decide +kernel) (by decide +kernel)
theorem ggL_law_X9_put : GoodIn wsL_law wsX9_put := goodIn_app ggL_law_X9_put_h (goodIn_app (goodIn_app (goodIn_app (goodIn_app (goodIn_app (goodIn_app ggL_law_X9_put_0 (goodIn_app ggL_law_X9_put_1 (goodIn_app ggL_law_X9_put_2 (goodIn_app ggL_law_X9_put_3 (goodIn_app ggL_law_X9_put_4 (goodIn_app ggL_law_X9_put_5 ggL_law_X9_put_6)))))) ggL_law_X9_put_7) ggL_law_X9_put_8) ggL_law_X9_put_9) ggL_law_X9_put_10) ggL_law_X9_put_11)
set_option maxRecDepth 20000 in
theorem gL_law_X9_put : GoodIn wsL_law (wsV RL 40 RX9 yX9_put wsX9_put) := goodIn_app (goodIn_of _ (by decide +kernel)) ggL_law_X9_put
set_option maxRecDepth 20000 in
theorem ggL_law_X10_put_h : GoodIn wsL_law [Cond.code yX10_put cX10_put 2 (some .int)] := goodIn_r _ [452] (by decide +kernel) (by decide +kernel)
set_option maxRecDepth 20000 in
theorem ggL_law_X10_put_0 : GoodIn wsL_law wsX10_put_r1 := goodIn_r _ [453, 454, 455, 5, 456, 195, 196, 197, 457, 458, 459, 460, 461, 462, 463, 146, 464, 465, 466, 467, 148, 468, 469, 470] (by decide +kernel) (by decide +kernel)
set_option maxRecDepth 20000 in
theorem ggL_law_X10_put_1 : GoodIn wsL_law wsX10_put_r2 := goodIn_r _ [471, 147, 472, 473, 474, 475, 476, 477, 478, 479, 480, 481, 482, 483, 484, 485, 140, 198, 199, 200, 201, 202, 141, 486] (by decide +kernel) (by decide +kernel)
set_option maxRecDepth 20000 in
theorem ggL_law_X10_put_2 : GoodIn wsL_law wsX10_put_r3 := goodIn_r _ [487, 488, 489, 490, 491, 492, 493, 149, 264, 265, 266, 267, 494, 495, 496, 497] (by decide +kernel) (by decide +kernel)
set_option maxRecDepth 20000 in
theorem ggL_law_X10_put_3 : GoodIn wsL_law wsX100 := goodIn_r _ [1105, 1106, 1107, 1108, 1109, 1110, 1111, 1112, 1113, 1114, 1115, 1116, 1117, 1118, 1119, 1120, 1121, 1122, 1123, 1124, 1125, 1126, 1127, 1128, 1129] (by decide +kernel) (by decide +kernel)
theorem ggL_law_X10_put : GoodIn wsL_law wsX10_put := goodIn_app ggL_law_X10_put_h (goodIn_app (goodIn_app ggL_law_X10_put_0 (goodIn_app ggL_law_X10_put_1 ggL_law_X10_put_2)) ggL_law_X10_put_3)
set_option maxRecDepth 20000 in
theorem gL_law_X10_put : GoodIn wsL_law (wsV RL 43 RX10 yX10_put wsX10_put) := goodIn_app (goodIn_of _ (by decide +kernel)) ggL_law_X10_put
set_option maxRecDepth 20000 in
theorem ggL_law_X9_drop_h : GoodIn wsL_law [Cond.code yX9_drop cX9_drop 2 (some .int)] := goodIn_r _ [501] (by decide +kernel) (by decide +kernel)
set_option maxRecDepth 20000 in
theorem ggL_law_X9_drop_0 : GoodIn wsL_law wsX9_drop_r1 := goodIn_r _ [15, 350, 399, 400, 401, 2, 402, 351, 352, 353, 169, 170, 171, 172, 17, 16, 173, 174, 175, 14, 176, 36, 38, 39] (by decide +kernel) (by decide +kernel)
set_option maxRecDepth 20000 in
theorem ggL_law_X9_drop_1 : GoodIn wsL_law wsX9_drop_r2 := goodIn_r _ [41, 502, 503, 504, 505, 506, 218, 219, 220, 221, 222, 223] (by decide +kernel) (by decide +kernel)
set_option maxRecDepth 20000 in
theorem ggL_law_X9_drop_2 : GoodIn wsL_law wsX90 := goodIn_r _ [1096, 1097, 1098, 1099, 1100, 1101, 1102, 1103, 1104] (by decide +kernel) (by decide +kernel)
set_option maxRecDepth 20000 in
theorem ggL_law_X9_drop_3 : GoodIn wsL_law wsX70 := goodIn_r _ [1130, 1131, 1132, 1133, 1134, 1135, 1136] (by decide +kernel) (by decide +kernel)
theorem ggL_law_X9_drop : GoodIn wsL_law wsX9_drop := goodIn_app ggL_law_X9_drop_h (goodIn_app (goodIn_app (goodIn_app ggL_law_X9_drop_0 ggL_law_X9_drop_1) ggL_law_X9_drop_2) ggL_law_X9_drop_3)
set_option maxRecDepth 20000 in
theorem gL_law_X9_drop : GoodIn wsL_law (wsV RL 44 RX9 yX9_drop wsX9_drop) := goodIn_app (goodIn_of _ (by decide +kernel)) ggL_law_X9_drop
set_option maxRecDepth 20000 in
theorem ggL_law_X10_drop_h : GoodIn wsL_law [Cond.code yX10_drop cX10_drop 2 (some .int)] := goodIn_r _ [510] (by decide +kernel) (by decide +kernel)
set_option maxRecDepth 20000 in
theorem ggL_law_X10_drop_0 : GoodIn wsL_law wsX10_drop_r1 := goodIn_r _ [140, 511, 512, 513, 5, 514, 454, 455, 456, 195, 196, 197, 198, 199, 200, 201, 202, 141, 515, 516, 517, 518, 240, 241] (by decide +kernel) (by decide +kernel)
set_option maxRecDepth 20000 in
theorem ggL_law_X10_drop_1 : GoodIn wsL_law wsX10_drop_r2 := goodIn_r _ [242] (by decide +kernel) (by decide +kernel)
set_option maxRecDepth 20000 in
theorem ggL_law_X10_drop_2 : GoodIn wsL_law wsX100 := goodIn_r _ [1105, 1106, 1107, 1108, 1109, 1110, 1111, 1112, 1113, 1114, 1115, 1116, 1117, 1118, 1119, 1120, 1121, 1122, 1123, 1124, 1125, 1126, 1127, 1128, 1129] (by decide +kernel) (by decide +kernel)
theorem ggL_law_X10_drop : GoodIn wsL_law wsX10_drop := goodIn_app ggL_law_X10_drop_h (goodIn_app (goodIn_app ggL_law_X10_drop_0 ggL_law_X10_drop_1) ggL_law_X10_drop_2)
set_option maxRecDepth 20000 in
theorem gL_law_X10_drop : GoodIn wsL_law (wsV RL 47 RX10 yX10_drop wsX10_drop) := goodIn_app (goodIn_of _ (by decide +kernel)) ggL_law_X10_drop
set_option maxRecDepth 20000 in
theorem ggL_law_X9_join_h : GoodIn wsL_law [Cond.code yX9_join cX9_join 8 (some .int)] := goodIn_r _ [522] (by decide +kernel) (by decide +kernel)
set_option maxRecDepth 20000 in
theorem ggL_law_X9_join_0 : GoodIn wsL_law wsX9_join_r1 := goodIn_r _ [523, 15, 350, 399, 400, 401, 2, 402, 351, 352, 353, 524, 525, 388, 526, 397, 37, 398, 527, 387, 528, 390, 391, 392] (by decide +kernel) (by decide +kernel)
set_option maxRecDepth 20000 in
theorem ggL_law_X9_join_1 : GoodIn wsL_law wsX9_join_r2 := goodIn_r _ [10, 11, 393, 394, 122, 395, 396, 121, 123, 169, 170, 171, 172, 17, 16, 173, 174, 175, 14, 176, 36, 38, 39, 41] (by decide +kernel) (by decide +kernel)
set_option maxRecDepth 20000 in
theorem ggL_law_X9_join_2 : GoodIn wsL_law wsX9_join_r3 := goodIn_r _ [407, 408, 409, 410, 31, 411, 412, 413, 87, 414, 98, 103, 102, 185, 186, 415, 416, 417, 418, 419, 420, 421, 104, 422] (by decide +kernel) (by decide +kernel)
set_option maxRecDepth 20000 in
theorem ggL_law_X9_join_3 : GoodIn wsL_law wsX9_join_r4 := goodIn_r _ [423, 424, 425, 426, 427, 100, 101, 99, 428, 429, 430, 431, 432, 433, 434, 435, 436, 44, 437, 438, 439, 440, 257, 258] (by decide +kernel) (by decide +kernel)
set_option maxRecDepth 20000 in
theorem ggL_law_X9_join_4 : GoodIn wsL_law wsX9_join_r5 := goodIn_r _ [259, 441, 442, 443, 444, 445, 446, 447, 448] (by decide +kernel) (by decide +kernel)
set_option maxRecDepth 20000 in
theorem ggL_law_X9_join_5 : GoodIn wsL_law wsX00 := goodIn_r _ [1177, 1178] (by decide +kernel) (by decide +kernel)
set_option maxRecDepth 20000 in
theorem ggL_law_X9_join_6 : GoodIn wsL_law wsX90 := goodIn_r _ [1096, 1097, 1098, 1099, 1100, 1101, 1102, 1103, 1104] (by decide +kernel) (by decide +kernel)
set_option maxRecDepth 20000 in
theorem ggL_law_X9_join_7 : GoodIn wsL_law wsX70 := goodIn_r _ [1130, 1131, 1132, 1133, 1134, 1135, 1136] (by decide +kernel) (by decide +kernel)
set_option maxRecDepth 20000 in
theorem ggL_law_X9_join_8 : GoodIn wsL_law wsX40 := goodIn_r _ [1169, 1170, 1171, 1172, 1173, 1174, 1175, 1176] (by decide +kernel) (by decide +kernel)
theorem ggL_law_X9_join : GoodIn wsL_law wsX9_join := goodIn_app ggL_law_X9_join_h (goodIn_app (goodIn_app (goodIn_app (goodIn_app (goodIn_app ggL_law_X9_join_0 (goodIn_app ggL_law_X9_join_1 (goodIn_app ggL_law_X9_join_2 (goodIn_app ggL_law_X9_join_3 ggL_law_X9_join_4)))) ggL_law_X9_join_5) ggL_law_X9_join_6) ggL_law_X9_join_7) ggL_law_X9_join_8)
set_option maxRecDepth 20000 in
theorem gL_law_X9_join : GoodIn wsL_law (wsV RL 48 RX9 yX9_join wsX9_join) := goodIn_app (goodIn_of _ (by decide +kernel)) ggL_law_X9_join
set_option maxRecDepth 20000 in
theorem ggL_law_X10_join_h : GoodIn wsL_law [Cond.code yX10_join cX10_join 5 (some .int)] := goodIn_r _ [532] (by decide +kernel) (by decide +kernel)
set_option maxRecDepth 20000 in
theorem ggL_law_X10_join_0 : GoodIn wsL_law wsX10_join_r1 := goodIn_r _ [140, 461, 454, 455, 5, 456, 195, 196, 197, 511, 512, 513, 514, 198, 199, 200, 201, 202, 141, 533, 534, 535, 536, 468] (by decide +kernel) (by decide +kernel)
set_option maxRecDepth 20000 in
theorem ggL_law_X10_join_1 : GoodIn wsL_law wsX10_join_r2 := goodIn_r _ [469, 470, 471, 147, 486, 487, 488, 489, 490, 491, 492, 493, 149, 264, 265, 266, 267, 494, 495, 496, 497] (by decide +kernel) (by decide +kernel)
set_option maxRecDepth 20000 in
theorem ggL_law_X10_join_2 : GoodIn wsL_law wsX100 := goodIn_r _ [1105, 1106, 1107, 1108, 1109, 1110, 1111, 1112, 1113, 1114, 1115, 1116, 1117, 1118, 1119, 1120, 1121, 1122, 1123, 1124, 1125, 1126, 1127, 1128, 1129] (by decide +kernel) (by decide +kernel)
theorem ggL_law_X10_join : GoodIn wsL_law wsX10_join := goodIn_app ggL_law_X10_join_h (goodIn_app (goodIn_app ggL_law_X10_join_0 ggL_law_X10_join_1) ggL_law_X10_join_2)
set_option maxRecDepth 20000 in
theorem gL_law_X10_join : GoodIn wsL_law (wsV RL 52 RX10 yX10_join wsX10_join) := goodIn_app (goodIn_of _ (by decide +kernel)) ggL_law_X10_join
set_option maxRecDepth 20000 in
theorem ggL_law_X9_type : GoodIn wsL_law wsX9_type := goodIn_r _ [540, 23, 541, 542, 543, 544, 22, 545, 48, 49, 546, 547, 548, 1096, 1097, 1098, 1099, 1100, 1101, 1102, 1103, 1104, 1137, 1138, 1139, 1140, 1141, 1142, 1143] (by decide +kernel) (by decide +kernel)
set_option maxRecDepth 20000 in
theorem gL_law_X9_type : GoodIn wsL_law (wsV RL 53 RX9 yX9_type wsX9_type) := goodIn_app (goodIn_of _ (by decide +kernel)) ggL_law_X9_type
set_option maxRecDepth 20000 in
theorem ggL_law_X10_type : GoodIn wsL_law wsX10_type := goodIn_r _ [552, 463, 146, 1105, 1106, 1107, 1108, 1109, 1110, 1111, 1112, 1113, 1114, 1115, 1116, 1117, 1118, 1119, 1120, 1121, 1122, 1123, 1124, 1125, 1126, 1127, 1128, 1129] (by decide +kernel) (by decide +kernel)
set_option maxRecDepth 20000 in
theorem gL_law_X10_type : GoodIn wsL_law (wsV RL 57 RX10 yX10_type wsX10_type) := goodIn_app (goodIn_of _ (by decide +kernel)) ggL_law_X10_type
set_option maxRecDepth 20000 in
theorem ggL_law_X9_clearText : GoodIn wsL_law wsX9_clearText := goodIn_r _ [556, 23, 541, 1096, 1097, 1098, 1099, 1100, 1101, 1102, 1103, 1104, 1137, 1138, 1139, 1140, 1141, 1142, 1143] (by decide +kernel) (by decide +kernel)
set_option maxRecDepth 20000 in
theorem gL_law_X9_clearText : GoodIn wsL_law (wsV RL 58 RX9 yX9_clearText wsX9_clearText) := goodIn_app (goodIn_of _ (by decide +kernel)) ggL_law_X9_clearText
set_option maxRecDepth 20000 in
theorem ggL_law_X10_clearText : GoodIn wsL_law wsX10_clearText := goodIn_r _ [560, 463, 1105, 1106, 1107, 1108, 1109, 1110, 1111, 1112, 1113, 1114, 1115, 1116, 1117, 1118, 1119, 1120, 1121, 1122, 1123, 1124, 1125, 1126, 1127, 1128, 1129] (by decide +kernel) (by decide +kernel)
set_option maxRecDepth 20000 in
theorem gL_law_X10_clearText : GoodIn wsL_law (wsV RL 61 RX10 yX10_clearText wsX10_clearText) := goodIn_app (goodIn_of _ (by decide +kernel)) ggL_law_X10_clearText
set_option maxRecDepth 20000 in
theorem ggL_law_X9_undo : GoodIn wsL_law wsX9_undo := goodIn_r _ [564, 17, 15, 16, 173, 174, 175, 14, 176, 36, 38, 39, 41, 1096, 1097, 1098, 1099, 1100, 1101, 1102, 1103, 1104, 1130, 1131, 1132, 1133, 1134, 1135, 1136] (by decide +kernel) (by decide +kernel)
set_option maxRecDepth 20000 in
theorem gL_law_X9_undo : GoodIn wsL_law (wsV RL 62 RX9 yX9_undo wsX9_undo) := goodIn_app (goodIn_of _ (by decide +kernel)) ggL_law_X9_undo
set_option maxRecDepth 20000 in
theorem ggL_law_X10_undo : GoodIn wsL_law wsX10_undo := goodIn_r _ [568, 202, 140, 141, 1105, 1106, 1107, 1108, 1109, 1110, 1111, 1112, 1113, 1114, 1115, 1116, 1117, 1118, 1119, 1120, 1121, 1122, 1123, 1124, 1125, 1126, 1127, 1128, 1129] (by decide +kernel) (by decide +kernel)
set_option maxRecDepth 20000 in
theorem gL_law_X10_undo : GoodIn wsL_law (wsV RL 65 RX10 yX10_undo wsX10_undo) := goodIn_app (goodIn_of _ (by decide +kernel)) ggL_law_X10_undo
set_option maxRecDepth 20000 in
theorem ggL_law_X9_keep : GoodIn wsL_law wsX9_keep := goodIn_r _ [572, 18, 15, 19, 164, 173, 174, 175, 14, 176, 36, 38, 39, 41, 1096, 1097, 1098, 1099, 1100, 1101, 1102, 1103, 1104, 1130, 1131, 1132, 1133, 1134, 1135, 1136] (by decide +kernel) (by decide +kernel)
set_option maxRecDepth 20000 in
theorem gL_law_X9_keep : GoodIn wsL_law (wsV RL 66 RX9 yX9_keep wsX9_keep) := goodIn_app (goodIn_of _ (by decide +kernel)) ggL_law_X9_keep
set_option maxRecDepth 20000 in
theorem ggL_law_X10_keep : GoodIn wsL_law wsX10_keep := goodIn_r _ [576, 142, 140, 577, 1105, 1106, 1107, 1108, 1109, 1110, 1111, 1112, 1113, 1114, 1115, 1116, 1117, 1118, 1119, 1120, 1121, 1122, 1123, 1124, 1125, 1126, 1127, 1128, 1129] (by decide +kernel) (by decide +kernel)
set_option maxRecDepth 20000 in
theorem gL_law_X10_keep : GoodIn wsL_law (wsV RL 69 RX10 yX10_keep wsX10_keep) := goodIn_app (goodIn_of _ (by decide +kernel)) ggL_law_X10_keep
set_option maxRecDepth 20000 in
theorem ggL_law_X9_restore : GoodIn wsL_law wsX9_restore := goodIn_r _ [581, 19, 15, 18, 164, 169, 170, 171, 2, 172, 17, 16, 173, 174, 175, 14, 176, 36, 38, 39, 41, 1096, 1097, 1098, 1099, 1100, 1101, 1102, 1103, 1104, 1130, 1131, 1132, 1133, 1134, 1135, 1136] (by decide +kernel) (by decide +kernel)
set_option maxRecDepth 20000 in
theorem gL_law_X9_restore : GoodIn wsL_law (wsV RL 70 RX9 yX9_restore wsX9_restore) := goodIn_app (goodIn_of _ (by decide +kernel)) ggL_law_X9_restore
set_option maxRecDepth 20000 in
theorem ggL_law_X10_restore : GoodIn wsL_law wsX10_restore := goodIn_r _ [585, 577, 140, 142, 198, 199, 200, 5, 201, 202, 141, 1105, 1106, 1107, 1108, 1109, 1110, 1111, 1112, 1113, 1114, 1115, 1116, 1117, 1118, 1119, 1120, 1121, 1122, 1123, 1124, 1125, 1126, 1127, 1128, 1129] (by decide +kernel) (by decide +kernel)
set_option maxRecDepth 20000 in
theorem gL_law_X10_restore : GoodIn wsL_law (wsV RL 73 RX10 yX10_restore wsX10_restore) := goodIn_app (goodIn_of _ (by decide +kernel)) ggL_law_X10_restore
set_option maxRecDepth 20000 in
theorem ggL_law_X9_stage_h : GoodIn wsL_law [Cond.code yX9_stage cX9_stage 3 (some .int)] := goodIn_r _ [589] (by decide +kernel) (by decide +kernel)
set_option maxRecDepth 20000 in
theorem ggL_law_X9_stage_0 : GoodIn wsL_law wsX9_stage_r1 := goodIn_r _ [15, 211, 251, 590, 165, 166, 167, 14, 168, 36, 272, 182, 183, 184, 38, 304, 305, 306, 307, 42, 43, 39, 308, 309] (by decide +kernel) (by decide +kernel)
set_option maxRecDepth 20000 in
theorem ggL_law_X9_stage_1 : GoodIn wsL_law wsX9_stage_r2 := goodIn_r _ [310, 311, 312, 313, 314, 315, 185, 2, 186] (by decide +kernel) (by decide +kernel)
set_option maxRecDepth 20000 in
theorem ggL_law_X9_stage_2 : GoodIn wsL_law wsX90 := goodIn_r _ [1096, 1097, 1098, 1099, 1100, 1101, 1102, 1103, 1104] (by decide +kernel) (by decide +kernel)
set_option maxRecDepth 20000 in
theorem ggL_law_X9_stage_3 : GoodIn wsL_law wsX70 := goodIn_r _ [1130, 1131, 1132, 1133, 1134, 1135, 1136] (by decide +kernel) (by decide +kernel)
theorem ggL_law_X9_stage : GoodIn wsL_law wsX9_stage := goodIn_app ggL_law_X9_stage_h (goodIn_app (goodIn_app (goodIn_app ggL_law_X9_stage_0 ggL_law_X9_stage_1) ggL_law_X9_stage_2) ggL_law_X9_stage_3)
set_option maxRecDepth 20000 in
theorem gL_law_X9_stage : GoodIn wsL_law (wsV RL 74 RX9 yX9_stage wsX9_stage) := goodIn_app (goodIn_of _ (by decide +kernel)) ggL_law_X9_stage
set_option maxRecDepth 20000 in
theorem ggL_law_X10_stage_h : GoodIn wsL_law [Cond.code yX10_stage cX10_stage 3 (some .int)] := goodIn_r _ [594] (by decide +kernel) (by decide +kernel)
set_option maxRecDepth 20000 in
theorem ggL_law_X10_stage_0 : GoodIn wsL_law wsX10_stage_r1 := goodIn_r _ [140, 143, 191, 192, 193, 5, 194, 195, 196, 197, 243, 244, 245, 246, 203, 204, 205, 206, 335, 336, 337, 338, 339, 340] (by decide +kernel) (by decide +kernel)
set_option maxRecDepth 20000 in
theorem ggL_law_X10_stage_1 : GoodIn wsL_law wsX10_stage_r2 := goodIn_r _ [341, 342, 343, 344, 345] (by decide +kernel) (by decide +kernel)
set_option maxRecDepth 20000 in
theorem ggL_law_X10_stage_2 : GoodIn wsL_law wsX100 := goodIn_r _ [1105, 1106, 1107, 1108, 1109, 1110, 1111, 1112, 1113, 1114, 1115, 1116, 1117, 1118, 1119, 1120, 1121, 1122, 1123, 1124, 1125, 1126, 1127, 1128, 1129] (by decide +kernel) (by decide +kernel)
theorem ggL_law_X10_stage : GoodIn wsL_law wsX10_stage := goodIn_app ggL_law_X10_stage_h (goodIn_app (goodIn_app ggL_law_X10_stage_0 ggL_law_X10_stage_1) ggL_law_X10_stage_2)
set_option maxRecDepth 20000 in
theorem gL_law_X10_stage : GoodIn wsL_law (wsV RL 77 RX10 yX10_stage wsX10_stage) := goodIn_app (goodIn_of _ (by decide +kernel)) ggL_law_X10_stage
set_option maxRecDepth 20000 in
theorem ggL_law_X9_alike_h : GoodIn wsL_law [Cond.code yX9_alike cX9_alike 3 (some .int)] := goodIn_r _ [598] (by decide +kernel) (by decide +kernel)
set_option maxRecDepth 20000 in
theorem ggL_law_X9_alike_0 : GoodIn wsL_law wsX9_alike_r1 := goodIn_r _ [15, 590, 165, 166, 167, 14, 168, 36, 304, 305, 306, 307, 42, 43, 39, 38, 308, 309, 310, 311, 312, 313, 314, 315] (by decide +kernel) (by decide +kernel)
set_option maxRecDepth 20000 in
theorem ggL_law_X9_alike_1 : GoodIn wsL_law wsX9_alike_r2 := goodIn_r _ [185, 2, 186, 599, 320, 321] (by decide +kernel) (by decide +kernel)
set_option maxRecDepth 20000 in
theorem ggL_law_X9_alike_2 : GoodIn wsL_law wsX90 := goodIn_r _ [1096, 1097, 1098, 1099, 1100, 1101, 1102, 1103, 1104] (by decide +kernel) (by decide +kernel)
set_option maxRecDepth 20000 in
theorem ggL_law_X9_alike_3 : GoodIn wsL_law wsX70 := goodIn_r _ [1130, 1131, 1132, 1133, 1134, 1135, 1136] (by decide +kernel) (by decide +kernel)
theorem ggL_law_X9_alike : GoodIn wsL_law wsX9_alike := goodIn_app ggL_law_X9_alike_h (goodIn_app (goodIn_app (goodIn_app ggL_law_X9_alike_0 ggL_law_X9_alike_1) ggL_law_X9_alike_2) ggL_law_X9_alike_3)
set_option maxRecDepth 20000 in
theorem gL_law_X9_alike : GoodIn wsL_law (wsV RL 78 RX9 yX9_alike wsX9_alike) := goodIn_app (goodIn_of _ (by decide +kernel)) ggL_law_X9_alike
set_option maxRecDepth 20000 in
theorem ggL_law_X10_alike_h : GoodIn wsL_law [Cond.code yX10_alike cX10_alike 3 (some .int)] := goodIn_r _ [603] (by decide +kernel) (by decide +kernel)
set_option maxRecDepth 20000 in
theorem ggL_law_X10_alike_0 : GoodIn wsL_law ([.fieldLink RX10 19 "StageTruthsModel" "like" "[I", .methodLink RX10 86 yX10_noStage, .instanceMethod yX10_noStage, .selects RX10 yX10_noStage yX10_noStage, .initialized RX10, .code yX10_noStage cX10_noStage 2 (some .boolean), .fieldLink RX10 7 "StageTruthsModel" "now" "[I", .methodLink RX10 66 yX10_in, .static yX10_in, .code yX10_in cX10_in 3 (some .boolean), .methodLink RX10 113 yX10_findsLike, .instanceMethod yX10_findsLike, .selects RX10 yX10_findsLike yX10_findsLike, .code yX10_findsLike cX10_findsLike 5 none, .methodLink RX10 110 yX10_isMet, .instanceMethod yX10_isMet, .selects RX10 yX10_isMet yX10_isMet, .code yX10_isMet cX10_isMet 4 (some .boolean), .methodLink RX10 78 yX10_leadsTo, .instanceMethod yX10_leadsTo, .selects RX10 yX10_leadsTo yX10_leadsTo, .code yX10_leadsTo cX10_leadsTo 3 (some .boolean)] : List Cond) := goodIn_r _ [143, 191, 192, 193, 5, 194, 140, 195, 196, 197, 335, 336, 337, 338, 339, 340, 341, 342, 203, 204, 205, 206] (by decide +kernel) (by decide +kernel)
set_option maxRecDepth 20000 in
theorem ggL_law_X10_alike_1 : GoodIn wsL_law wsX100 := goodIn_r _ [1105, 1106, 1107, 1108, 1109, 1110, 1111, 1112, 1113, 1114, 1115, 1116, 1117, 1118, 1119, 1120, 1121, 1122, 1123, 1124, 1125, 1126, 1127, 1128, 1129] (by decide +kernel) (by decide +kernel)
theorem ggL_law_X10_alike : GoodIn wsL_law wsX10_alike := goodIn_app ggL_law_X10_alike_h (goodIn_app ggL_law_X10_alike_0 ggL_law_X10_alike_1)
set_option maxRecDepth 20000 in
theorem gL_law_X10_alike : GoodIn wsL_law (wsV RL 81 RX10 yX10_alike wsX10_alike) := goodIn_app (goodIn_of _ (by decide +kernel)) ggL_law_X10_alike
set_option maxRecDepth 20000 in
theorem ggL_law_X9_claim_h : GoodIn wsL_law [Cond.code yX9_claim cX9_claim 5 (some .int)] := goodIn_r _ [607] (by decide +kernel) (by decide +kernel)
set_option maxRecDepth 20000 in
theorem ggL_law_X9_claim_0 : GoodIn wsL_law wsX9_claim_r1 := goodIn_r _ [15, 31, 523, 27, 29, 399, 400, 401, 2, 402, 350, 351, 352, 353, 608, 609, 610, 611, 411, 412, 413, 87, 414, 98] (by decide +kernel) (by decide +kernel)
set_option maxRecDepth 20000 in
theorem ggL_law_X9_claim_1 : GoodIn wsL_law wsX9_claim_r2 := goodIn_r _ [103, 102, 185, 186, 415, 416, 417, 418, 419, 420, 421, 121, 122, 123, 104, 422, 423, 424, 425, 426, 427, 100, 101, 99] (by decide +kernel) (by decide +kernel)
set_option maxRecDepth 20000 in
theorem ggL_law_X9_claim_2 : GoodIn wsL_law wsX9_claim_r3 := goodIn_r _ [612, 613, 614, 60, 615, 90, 89, 616, 617, 618, 619, 88, 620, 621, 622, 623, 624, 93, 625, 626, 627, 26, 628, 79] (by decide +kernel) (by decide +kernel)
set_option maxRecDepth 20000 in
theorem ggL_law_X9_claim_3 : GoodIn wsL_law wsX9_claim_r4 := goodIn_r _ [80, 629, 630, 631, 78, 632, 130, 134, 428, 429, 430, 431, 432, 433, 434, 14, 435, 436, 44, 437, 438, 439, 440, 257] (by decide +kernel) (by decide +kernel)
set_option maxRecDepth 20000 in
theorem ggL_law_X9_claim_4 : GoodIn wsL_law wsX9_claim_r5 := goodIn_r _ [258, 259, 36, 39, 441, 442, 443, 444, 445, 446, 447, 448, 38, 633, 634, 635, 636, 637, 638, 639, 640, 641, 218, 219] (by decide +kernel) (by decide +kernel)
set_option maxRecDepth 20000 in
theorem ggL_law_X9_claim_5 : GoodIn wsL_law wsX9_claim_r6 := goodIn_r _ [220, 221, 222, 223, 642, 643, 644, 645, 646, 647, 648, 649, 67, 68, 75, 63, 650, 651, 652, 66, 653, 110, 112, 654] (by decide +kernel) (by decide +kernel)
set_option maxRecDepth 20000 in
theorem ggL_law_X9_claim_6 : GoodIn wsL_law wsX9_claim_r7 := goodIn_r _ [655, 656, 657, 113, 658, 659, 660, 71, 661, 125, 662, 663, 664, 665, 666, 61, 667, 668, 669, 670, 671, 672, 673, 674] (by decide +kernel) (by decide +kernel)
set_option maxRecDepth 20000 in
theorem ggL_law_X9_claim_7 : GoodIn wsL_law wsX9_claim_r8 := goodIn_r _ [114, 675, 676, 677, 678, 679, 680, 681, 682, 683, 684, 685, 686, 687, 688, 689, 690, 691, 692, 693, 694, 695, 696, 697] (by decide +kernel) (by decide +kernel)
set_option maxRecDepth 20000 in
theorem ggL_law_X9_claim_8 : GoodIn wsL_law wsX9_claim_r9 := goodIn_r _ [698, 72, 74, 73, 699, 700, 701, 702, 703, 704, 705, 706, 707, 708, 709, 710, 711, 712, 713, 714, 715, 716, 717, 718] (by decide +kernel) (by decide +kernel)
set_option maxRecDepth 20000 in
theorem ggL_law_X9_claim_9 : GoodIn wsL_law wsX9_claim_r10 := goodIn_r _ [719, 720, 721, 722, 723, 724, 725, 726, 727, 728, 729, 730, 731, 732, 733, 734, 735, 736, 737, 738, 739, 740, 741, 742] (by decide +kernel) (by decide +kernel)
set_option maxRecDepth 20000 in
theorem ggL_law_X9_claim_10 : GoodIn wsL_law wsX9_claim_r11 := goodIn_r _ [743, 744, 745, 746, 747, 748, 749, 750, 751, 752, 753, 754, 755, 756, 133, 757, 758, 759, 760, 761, 762, 763, 764, 115] (by decide +kernel) (by decide +kernel)
set_option maxRecDepth 20000 in
theorem ggL_law_X9_claim_11 : GoodIn wsL_law wsX9_claim_r12 := goodIn_r _ [765, 766, 767, 768, 769, 770, 771, 772, 773, 774, 775, 776, 777, 778, 779, 780, 781, 782, 783, 784, 785, 786, 787, 788] (by decide +kernel) (by decide +kernel)
set_option maxRecDepth 20000 in
theorem ggL_law_X9_claim_12 : GoodIn wsL_law wsX9_claim_r13 := goodIn_r _ [789, 790, 791, 792, 793, 794, 795, 796, 797, 798, 799, 800, 801, 802, 803, 804, 805, 806, 807, 808, 809, 810, 811, 812] (by decide +kernel) (by decide +kernel)
set_option maxRecDepth 20000 in
theorem ggL_law_X9_claim_13 : GoodIn wsL_law wsX9_claim_r14 := goodIn_r _ [813, 814, 815, 132, 816, 817, 818, 819, 820, 821, 599, 320, 321, 822, 823, 824, 825, 826, 827, 828, 829, 830, 831, 832] (by decide +kernel) (by decide +kernel)
set_option maxRecDepth 20000 in
theorem ggL_law_X9_claim_14 : GoodIn wsL_law wsX9_claim_r15 := goodIn_r _ [833, 834, 835, 836, 837, 838, 105, 839] (by decide +kernel) (by decide +kernel)
set_option maxRecDepth 20000 in
theorem ggL_law_X9_claim_15 : GoodIn wsL_law wsX90 := goodIn_r _ [1096, 1097, 1098, 1099, 1100, 1101, 1102, 1103, 1104] (by decide +kernel) (by decide +kernel)
set_option maxRecDepth 20000 in
theorem ggL_law_X9_claim_16 : GoodIn wsL_law wsX00 := goodIn_r _ [1177, 1178] (by decide +kernel) (by decide +kernel)
set_option maxRecDepth 20000 in
theorem ggL_law_X9_claim_17 : GoodIn wsL_law wsX70 := goodIn_r _ [1130, 1131, 1132, 1133, 1134, 1135, 1136] (by decide +kernel) (by decide +kernel)
set_option maxRecDepth 20000 in
theorem ggL_law_X9_claim_18 : GoodIn wsL_law wsX40 := goodIn_r _ [1169, 1170, 1171, 1172, 1173, 1174, 1175, 1176] (by decide +kernel) (by decide +kernel)
set_option maxRecDepth 20000 in
theorem ggL_law_X9_claim_19 : GoodIn wsL_law wsX60 := goodIn_r _ [1154, 1155, 1156, 1157, 1158] (by decide +kernel) (by decide +kernel)
set_option maxRecDepth 20000 in
theorem ggL_law_X9_claim_20 : GoodIn wsL_law wsX50 := goodIn_r _ [1144, 1145, 1146, 1147, 1148, 1149, 1150, 1151, 1152, 1153] (by decide +kernel) (by decide +kernel)
set_option maxRecDepth 20000 in
theorem ggL_law_X9_claim_21 : GoodIn wsL_law wsX10 := goodIn_r _ [1165, 1166, 1167, 1168] (by decide +kernel) (by decide +kernel)
set_option maxRecDepth 20000 in
theorem ggL_law_X9_claim_22 : GoodIn wsL_law wsX20 := goodIn_r _ [1159, 1160, 1161, 1162, 1163] (by decide +kernel) (by decide +kernel)
set_option maxRecDepth 20000 in
theorem ggL_law_X9_claim_23 : GoodIn wsL_law wsX30 := goodIn_r _ [1164] (by decide +kernel) (by decide +kernel)
theorem ggL_law_X9_claim : GoodIn wsL_law wsX9_claim := goodIn_app ggL_law_X9_claim_h (goodIn_app (goodIn_app (goodIn_app (goodIn_app (goodIn_app (goodIn_app (goodIn_app (goodIn_app (goodIn_app (goodIn_app ggL_law_X9_claim_0 (goodIn_app ggL_law_X9_claim_1 (goodIn_app ggL_law_X9_claim_2 (goodIn_app ggL_law_X9_claim_3 (goodIn_app ggL_law_X9_claim_4 (goodIn_app ggL_law_X9_claim_5 (goodIn_app ggL_law_X9_claim_6 (goodIn_app ggL_law_X9_claim_7 (goodIn_app ggL_law_X9_claim_8 (goodIn_app ggL_law_X9_claim_9 (goodIn_app ggL_law_X9_claim_10 (goodIn_app ggL_law_X9_claim_11 (goodIn_app ggL_law_X9_claim_12 (goodIn_app ggL_law_X9_claim_13 ggL_law_X9_claim_14)))))))))))))) ggL_law_X9_claim_15) ggL_law_X9_claim_16) ggL_law_X9_claim_17) ggL_law_X9_claim_18) ggL_law_X9_claim_19) ggL_law_X9_claim_20) ggL_law_X9_claim_21) ggL_law_X9_claim_22) ggL_law_X9_claim_23)
set_option maxRecDepth 20000 in
theorem gL_law_X9_claim : GoodIn wsL_law (wsV RL 82 RX9 yX9_claim wsX9_claim) := goodIn_app (goodIn_of _ (by decide +kernel)) ggL_law_X9_claim
set_option maxRecDepth 20000 in
theorem ggL_law_X10_claim_h : GoodIn wsL_law [Cond.code yX10_claim cX10_claim 4 (some .int)] := goodIn_r _ [843] (by decide +kernel) (by decide +kernel)
set_option maxRecDepth 20000 in
theorem ggL_law_X10_claim_0 : GoodIn wsL_law wsX10_claim_r1 := goodIn_r _ [140, 511, 512, 513, 5, 514, 454, 455, 456, 195, 196, 197, 490, 491, 492, 493, 149, 264, 265, 266, 267, 494, 495, 496] (by decide +kernel) (by decide +kernel)
set_option maxRecDepth 20000 in
theorem ggL_law_X10_claim_1 : GoodIn wsL_law wsX10_claim_r2 := goodIn_r _ [497, 343, 344, 345, 844, 845, 846, 847, 848, 849, 850, 851, 159, 852, 853, 854, 855, 856, 857, 858, 859, 860, 861, 862] (by decide +kernel) (by decide +kernel)
set_option maxRecDepth 20000 in
theorem ggL_law_X10_claim_2 : GoodIn wsL_law wsX10_claim_r3 := goodIn_r _ [863, 864, 865, 866, 867, 155, 156, 868, 869, 870, 871, 872, 873, 874, 875, 876, 150, 151, 152, 877, 878, 879, 880, 154] (by decide +kernel) (by decide +kernel)
set_option maxRecDepth 20000 in
theorem ggL_law_X10_claim_3 : GoodIn wsL_law wsX10_claim_r4 := goodIn_r _ [881, 882, 883, 884, 885, 886, 887, 888, 889, 890, 891, 892, 893, 894, 895, 896, 897, 898, 899, 900, 901, 902, 903, 904] (by decide +kernel) (by decide +kernel)
set_option maxRecDepth 20000 in
theorem ggL_law_X10_claim_4 : GoodIn wsL_law wsX10_claim_r5 := goodIn_r _ [905, 906, 907, 908, 909, 910, 911, 912, 913, 914, 915, 916, 917, 918, 919, 920, 921, 922, 923, 924, 925, 926, 157, 927] (by decide +kernel) (by decide +kernel)
set_option maxRecDepth 20000 in
theorem ggL_law_X10_claim_5 : GoodIn wsL_law wsX10_claim_r6 := goodIn_r _ [928, 929, 930, 158, 931, 932, 933, 934, 935, 936, 937, 938, 939, 940, 941, 942, 943, 944, 945, 946, 947, 948, 949, 950] (by decide +kernel) (by decide +kernel)
set_option maxRecDepth 20000 in
theorem ggL_law_X10_claim_6 : GoodIn wsL_law wsX10_claim_r7 := goodIn_r _ [951, 952, 953, 954, 955, 956, 957, 958, 959, 960, 961, 962, 963, 964, 965, 966, 967, 968, 969, 970, 971, 972, 973, 974] (by decide +kernel) (by decide +kernel)
set_option maxRecDepth 20000 in
theorem ggL_law_X10_claim_7 : GoodIn wsL_law wsX10_claim_r8 := goodIn_r _ [975, 976, 977, 978, 515, 516, 517, 518, 979, 980, 981, 982, 983, 984, 985, 986] (by decide +kernel) (by decide +kernel)
set_option maxRecDepth 20000 in
theorem ggL_law_X10_claim_8 : GoodIn wsL_law wsX100 := goodIn_r _ [1105, 1106, 1107, 1108, 1109, 1110, 1111, 1112, 1113, 1114, 1115, 1116, 1117, 1118, 1119, 1120, 1121, 1122, 1123, 1124, 1125, 1126, 1127, 1128, 1129] (by decide +kernel) (by decide +kernel)
theorem ggL_law_X10_claim : GoodIn wsL_law wsX10_claim := goodIn_app ggL_law_X10_claim_h (goodIn_app (goodIn_app ggL_law_X10_claim_0 (goodIn_app ggL_law_X10_claim_1 (goodIn_app ggL_law_X10_claim_2 (goodIn_app ggL_law_X10_claim_3 (goodIn_app ggL_law_X10_claim_4 (goodIn_app ggL_law_X10_claim_5 (goodIn_app ggL_law_X10_claim_6 ggL_law_X10_claim_7))))))) ggL_law_X10_claim_8)
set_option maxRecDepth 20000 in
theorem gL_law_X10_claim : GoodIn wsL_law (wsV RL 85 RX10 yX10_claim wsX10_claim) := goodIn_app (goodIn_of _ (by decide +kernel)) ggL_law_X10_claim
set_option maxRecDepth 20000 in
theorem ggL_law_X9_holds_h : GoodIn wsL_law [Cond.code yX9_holds cX9_holds 3 (some .int)] := goodIn_r _ [990] (by decide +kernel) (by decide +kernel)
set_option maxRecDepth 20000 in
theorem ggL_law_X9_holds_0 : GoodIn wsL_law wsX9_holds_r1 := goodIn_r _ [15, 399, 400, 401, 2, 402, 350, 351, 352, 353, 165, 166, 167, 14, 168, 36, 407, 408, 409, 410, 31, 411, 412, 413] (by decide +kernel) (by decide +kernel)
set_option maxRecDepth 20000 in
theorem ggL_law_X9_holds_1 : GoodIn wsL_law wsX9_holds_r2 := goodIn_r _ [87, 414, 98, 103, 102, 185, 186, 415, 416, 417, 418, 419, 420, 421, 121, 122, 123, 104, 422, 423, 424, 425, 426, 427] (by decide +kernel) (by decide +kernel)
set_option maxRecDepth 20000 in
theorem ggL_law_X9_holds_2 : GoodIn wsL_law wsX9_holds_r3 := goodIn_r _ [100, 101, 99, 428, 429, 430, 431, 432, 433, 434, 435, 436, 44, 437, 438, 439, 440, 257, 258, 259, 39, 441, 442, 443] (by decide +kernel) (by decide +kernel)
set_option maxRecDepth 20000 in
theorem ggL_law_X9_holds_3 : GoodIn wsL_law wsX9_holds_r4 := goodIn_r _ [444, 445, 446, 447, 448, 38, 212, 599, 320, 321] (by decide +kernel) (by decide +kernel)
set_option maxRecDepth 20000 in
theorem ggL_law_X9_holds_4 : GoodIn wsL_law wsX90 := goodIn_r _ [1096, 1097, 1098, 1099, 1100, 1101, 1102, 1103, 1104] (by decide +kernel) (by decide +kernel)
set_option maxRecDepth 20000 in
theorem ggL_law_X9_holds_5 : GoodIn wsL_law wsX70 := goodIn_r _ [1130, 1131, 1132, 1133, 1134, 1135, 1136] (by decide +kernel) (by decide +kernel)
set_option maxRecDepth 20000 in
theorem ggL_law_X9_holds_6 : GoodIn wsL_law wsX40 := goodIn_r _ [1169, 1170, 1171, 1172, 1173, 1174, 1175, 1176] (by decide +kernel) (by decide +kernel)
set_option maxRecDepth 20000 in
theorem ggL_law_X9_holds_7 : GoodIn wsL_law wsX00 := goodIn_r _ [1177, 1178] (by decide +kernel) (by decide +kernel)
theorem ggL_law_X9_holds : GoodIn wsL_law wsX9_holds := goodIn_app ggL_law_X9_holds_h (goodIn_app (goodIn_app (goodIn_app (goodIn_app (goodIn_app ggL_law_X9_holds_0 (goodIn_app ggL_law_X9_holds_1 (goodIn_app ggL_law_X9_holds_2 ggL_law_X9_holds_3))) ggL_law_X9_holds_4) ggL_law_X9_holds_5) ggL_law_X9_holds_6) ggL_law_X9_holds_7)
set_option maxRecDepth 20000 in
theorem gL_law_X9_holds : GoodIn wsL_law (wsV RL 86 RX9 yX9_holds wsX9_holds) := goodIn_app (goodIn_of _ (by decide +kernel)) ggL_law_X9_holds
set_option maxRecDepth 20000 in
theorem ggL_law_X10_holds_h : GoodIn wsL_law [Cond.code yX10_holds cX10_holds 3 (some .int)] := goodIn_r _ [994] (by decide +kernel) (by decide +kernel)
set_option maxRecDepth 20000 in
theorem ggL_law_X10_holds_0 : GoodIn wsL_law wsX10_holds_r1 := goodIn_r _ [511, 512, 513, 5, 514, 140, 454, 455, 456, 195, 196, 197, 191, 192, 193, 194, 490, 491, 492, 493, 149, 264, 265, 266] (by decide +kernel) (by decide +kernel)
set_option maxRecDepth 20000 in
theorem ggL_law_X10_holds_1 : GoodIn wsL_law wsX10_holds_r2 := goodIn_r _ [267, 494, 495, 496, 497] (by decide +kernel) (by decide +kernel)
set_option maxRecDepth 20000 in
theorem ggL_law_X10_holds_2 : GoodIn wsL_law wsX100 := goodIn_r _ [1105, 1106, 1107, 1108, 1109, 1110, 1111, 1112, 1113, 1114, 1115, 1116, 1117, 1118, 1119, 1120, 1121, 1122, 1123, 1124, 1125, 1126, 1127, 1128, 1129] (by decide +kernel) (by decide +kernel)
theorem ggL_law_X10_holds : GoodIn wsL_law wsX10_holds := goodIn_app ggL_law_X10_holds_h (goodIn_app (goodIn_app ggL_law_X10_holds_0 ggL_law_X10_holds_1) ggL_law_X10_holds_2)
set_option maxRecDepth 20000 in
theorem gL_law_X10_holds : GoodIn wsL_law (wsV RL 89 RX10 yX10_holds wsX10_holds) := goodIn_app (goodIn_of _ (by decide +kernel)) ggL_law_X10_holds
set_option maxRecDepth 20000 in
theorem ggL_law_X9_follows_h : GoodIn wsL_law [Cond.code yX9_follows cX9_follows 4 (some .int)] := goodIn_r _ [998] (by decide +kernel) (by decide +kernel)
set_option maxRecDepth 20000 in
theorem ggL_law_X9_follows_0 : GoodIn wsL_law wsX9_follows_r1 := goodIn_r _ [27, 999, 1000, 1001, 2, 1002, 15, 502, 503, 504, 14, 505, 41, 399, 400, 401, 402, 350, 351, 352, 353, 608, 609, 610] (by decide +kernel) (by decide +kernel)
set_option maxRecDepth 20000 in
theorem ggL_law_X9_follows_1 : GoodIn wsL_law wsX9_follows_r2 := goodIn_r _ [611, 31, 29, 411, 412, 413, 87, 414, 98, 103, 102, 185, 186, 415, 416, 417, 418, 419, 420, 421, 121, 122, 123, 104] (by decide +kernel) (by decide +kernel)
set_option maxRecDepth 20000 in
theorem ggL_law_X9_follows_2 : GoodIn wsL_law wsX9_follows_r3 := goodIn_r _ [422, 423, 424, 425, 426, 427, 100, 101, 99, 612, 613, 614, 60, 615, 90, 89, 616, 617, 618, 619, 88, 620, 621, 622] (by decide +kernel) (by decide +kernel)
set_option maxRecDepth 20000 in
theorem ggL_law_X9_follows_3 : GoodIn wsL_law wsX9_follows_r4 := goodIn_r _ [623, 624, 93, 625, 626, 627, 26, 628, 79, 80, 629, 630, 631, 78, 632, 130, 134, 646, 647, 648, 649, 67, 68, 75] (by decide +kernel) (by decide +kernel)
set_option maxRecDepth 20000 in
theorem ggL_law_X9_follows_4 : GoodIn wsL_law wsX9_follows_r5 := goodIn_r _ [63, 650, 651, 652, 66, 653, 110, 112, 654, 655, 656, 657, 113, 658, 659, 660, 71, 661, 125, 662, 663, 664, 665, 666] (by decide +kernel) (by decide +kernel)
set_option maxRecDepth 20000 in
theorem ggL_law_X9_follows_5 : GoodIn wsL_law wsX9_follows_r6 := goodIn_r _ [61, 667, 668, 669, 670, 671, 672, 673, 674, 114, 675, 676, 677, 678, 679, 680, 681, 682, 683, 684, 685, 686, 687, 688] (by decide +kernel) (by decide +kernel)
set_option maxRecDepth 20000 in
theorem ggL_law_X9_follows_6 : GoodIn wsL_law wsX9_follows_r7 := goodIn_r _ [689, 690, 691, 429, 430, 431, 692, 693, 694, 695, 696, 697, 698, 72, 74, 73, 699, 700, 701, 702, 703, 704, 705, 706] (by decide +kernel) (by decide +kernel)
set_option maxRecDepth 20000 in
theorem ggL_law_X9_follows_7 : GoodIn wsL_law wsX9_follows_r8 := goodIn_r _ [707, 708, 709, 710, 711, 712, 713, 714, 715, 716, 717, 718, 719, 720, 721, 722, 723, 724, 725, 726, 727, 728, 729, 730] (by decide +kernel) (by decide +kernel)
set_option maxRecDepth 20000 in
theorem ggL_law_X9_follows_8 : GoodIn wsL_law wsX9_follows_r9 := goodIn_r _ [731, 732, 733, 734, 735, 736, 737, 738, 739, 740, 741, 742, 743, 744, 745, 746, 747, 748, 749, 750, 751, 752, 753, 754] (by decide +kernel) (by decide +kernel)
set_option maxRecDepth 20000 in
theorem ggL_law_X9_follows_9 : GoodIn wsL_law wsX9_follows_r10 := goodIn_r _ [755, 756, 133, 757, 758, 759, 760, 761, 762, 763, 764, 115, 765, 766, 767, 768, 769, 770, 771, 772, 773, 774, 775, 776] (by decide +kernel) (by decide +kernel)
set_option maxRecDepth 20000 in
theorem ggL_law_X9_follows_10 : GoodIn wsL_law wsX9_follows_r11 := goodIn_r _ [777, 778, 779, 780, 781, 782, 783, 784, 785, 786, 787, 788, 789, 790, 791, 792, 793, 794, 795, 796, 797, 798, 799, 800] (by decide +kernel) (by decide +kernel)
set_option maxRecDepth 20000 in
theorem ggL_law_X9_follows_11 : GoodIn wsL_law wsX9_follows_r12 := goodIn_r _ [801, 802, 803, 804, 805, 806, 807, 808, 809, 810, 811, 812, 813, 814, 815, 132, 816, 817, 818, 819, 820, 821, 599, 320] (by decide +kernel) (by decide +kernel)
set_option maxRecDepth 20000 in
theorem ggL_law_X9_follows_12 : GoodIn wsL_law wsX9_follows_r13 := goodIn_r _ [321] (by decide +kernel) (by decide +kernel)
set_option maxRecDepth 20000 in
theorem ggL_law_X9_follows_13 : GoodIn wsL_law wsX90 := goodIn_r _ [1096, 1097, 1098, 1099, 1100, 1101, 1102, 1103, 1104] (by decide +kernel) (by decide +kernel)
set_option maxRecDepth 20000 in
theorem ggL_law_X9_follows_14 : GoodIn wsL_law wsX70 := goodIn_r _ [1130, 1131, 1132, 1133, 1134, 1135, 1136] (by decide +kernel) (by decide +kernel)
set_option maxRecDepth 20000 in
theorem ggL_law_X9_follows_15 : GoodIn wsL_law wsX40 := goodIn_r _ [1169, 1170, 1171, 1172, 1173, 1174, 1175, 1176] (by decide +kernel) (by decide +kernel)
set_option maxRecDepth 20000 in
theorem ggL_law_X9_follows_16 : GoodIn wsL_law wsX00 := goodIn_r _ [1177, 1178] (by decide +kernel) (by decide +kernel)
set_option maxRecDepth 20000 in
theorem ggL_law_X9_follows_17 : GoodIn wsL_law wsX60 := goodIn_r _ [1154, 1155, 1156, 1157, 1158] (by decide +kernel) (by decide +kernel)
set_option maxRecDepth 20000 in
theorem ggL_law_X9_follows_18 : GoodIn wsL_law wsX50 := goodIn_r _ [1144, 1145, 1146, 1147, 1148, 1149, 1150, 1151, 1152, 1153] (by decide +kernel) (by decide +kernel)
set_option maxRecDepth 20000 in
theorem ggL_law_X9_follows_19 : GoodIn wsL_law wsX10 := goodIn_r _ [1165, 1166, 1167, 1168] (by decide +kernel) (by decide +kernel)
set_option maxRecDepth 20000 in
theorem ggL_law_X9_follows_20 : GoodIn wsL_law wsX20 := goodIn_r _ [1159, 1160, 1161, 1162, 1163] (by decide +kernel) (by decide +kernel)
set_option maxRecDepth 20000 in
theorem ggL_law_X9_follows_21 : GoodIn wsL_law wsX30 := goodIn_r _ [1164] (by decide +kernel) (by decide +kernel)
theorem ggL_law_X9_follows : GoodIn wsL_law wsX9_follows := goodIn_app ggL_law_X9_follows_h (goodIn_app (goodIn_app (goodIn_app (goodIn_app (goodIn_app (goodIn_app (goodIn_app (goodIn_app (goodIn_app (goodIn_app ggL_law_X9_follows_0 (goodIn_app ggL_law_X9_follows_1 (goodIn_app ggL_law_X9_follows_2 (goodIn_app ggL_law_X9_follows_3 (goodIn_app ggL_law_X9_follows_4 (goodIn_app ggL_law_X9_follows_5 (goodIn_app ggL_law_X9_follows_6 (goodIn_app ggL_law_X9_follows_7 (goodIn_app ggL_law_X9_follows_8 (goodIn_app ggL_law_X9_follows_9 (goodIn_app ggL_law_X9_follows_10 (goodIn_app ggL_law_X9_follows_11 ggL_law_X9_follows_12)))))))))))) ggL_law_X9_follows_13) ggL_law_X9_follows_14) ggL_law_X9_follows_15) ggL_law_X9_follows_16) ggL_law_X9_follows_17) ggL_law_X9_follows_18) ggL_law_X9_follows_19) ggL_law_X9_follows_20) ggL_law_X9_follows_21)
set_option maxRecDepth 20000 in
theorem gL_law_X9_follows : GoodIn wsL_law (wsV RL 90 RX9 yX9_follows wsX9_follows) := goodIn_app (goodIn_of _ (by decide +kernel)) ggL_law_X9_follows
set_option maxRecDepth 20000 in
theorem ggL_law_X10_follows_h : GoodIn wsL_law [Cond.code yX10_follows cX10_follows 3 (some .int)] := goodIn_r _ [1006] (by decide +kernel) (by decide +kernel)
set_option maxRecDepth 20000 in
theorem ggL_law_X10_follows_0 : GoodIn wsL_law wsX10_follows_r1 := goodIn_r _ [975, 976, 977, 5, 978, 195, 196, 197, 515, 516, 517, 518, 511, 512, 513, 514, 140, 454, 455, 456, 860, 861, 862, 863] (by decide +kernel) (by decide +kernel)
set_option maxRecDepth 20000 in
theorem ggL_law_X10_follows_1 : GoodIn wsL_law wsX10_follows_r2 := goodIn_r _ [864, 865, 866, 867, 155, 156, 868, 869, 870, 871, 872, 873, 874, 875, 876, 150, 151, 152, 877, 878, 879, 880, 154, 881] (by decide +kernel) (by decide +kernel)
set_option maxRecDepth 20000 in
theorem ggL_law_X10_follows_2 : GoodIn wsL_law wsX10_follows_r3 := goodIn_r _ [882, 883, 884, 885, 886, 887, 888, 889, 890, 891, 892, 893, 894, 895, 896, 897, 898, 899, 900, 901, 902, 903, 904, 905] (by decide +kernel) (by decide +kernel)
set_option maxRecDepth 20000 in
theorem ggL_law_X10_follows_3 : GoodIn wsL_law wsX10_follows_r4 := goodIn_r _ [906, 149, 907, 908, 909, 910, 911, 912, 913, 914, 915, 916, 917, 918, 919, 920, 921, 922, 923, 924, 925, 926, 157, 927] (by decide +kernel) (by decide +kernel)
set_option maxRecDepth 20000 in
theorem ggL_law_X10_follows_4 : GoodIn wsL_law wsX10_follows_r5 := goodIn_r _ [928, 929, 930, 158, 931, 932, 933, 934, 935, 936, 937, 938, 939, 940, 941, 942, 943, 944, 945, 946, 947, 948, 949, 950] (by decide +kernel) (by decide +kernel)
set_option maxRecDepth 20000 in
theorem ggL_law_X10_follows_5 : GoodIn wsL_law wsX10_follows_r6 := goodIn_r _ [951, 952, 953, 954, 955, 956, 957, 958, 959, 960, 961, 962, 963, 964, 965, 966, 967, 968, 969, 970] (by decide +kernel) (by decide +kernel)
set_option maxRecDepth 20000 in
theorem ggL_law_X10_follows_6 : GoodIn wsL_law wsX100 := goodIn_r _ [1105, 1106, 1107, 1108, 1109, 1110, 1111, 1112, 1113, 1114, 1115, 1116, 1117, 1118, 1119, 1120, 1121, 1122, 1123, 1124, 1125, 1126, 1127, 1128, 1129] (by decide +kernel) (by decide +kernel)
theorem ggL_law_X10_follows : GoodIn wsL_law wsX10_follows := goodIn_app ggL_law_X10_follows_h (goodIn_app (goodIn_app ggL_law_X10_follows_0 (goodIn_app ggL_law_X10_follows_1 (goodIn_app ggL_law_X10_follows_2 (goodIn_app ggL_law_X10_follows_3 (goodIn_app ggL_law_X10_follows_4 ggL_law_X10_follows_5))))) ggL_law_X10_follows_6)
set_option maxRecDepth 20000 in
theorem gL_law_X10_follows : GoodIn wsL_law (wsV RL 93 RX10 yX10_follows wsX10_follows) := goodIn_app (goodIn_of _ (by decide +kernel)) ggL_law_X10_follows
set_option maxRecDepth 20000 in
theorem ggL_law_X9_followsPlainly_h : GoodIn wsL_law [Cond.code yX9_followsPlainly cX9_followsPlainly 4 (some .int)] := goodIn_r _ [1010] (by decide +kernel) (by decide +kernel)
set_option maxRecDepth 20000 in
theorem ggL_law_X9_followsPlainly_0 : GoodIn wsL_law wsX9_followsPlainly_r1 := goodIn_r _ [29, 999, 1000, 1001, 2, 1002, 15, 502, 503, 504, 14, 505, 41, 399, 400, 401, 402, 350, 351, 352, 353, 608, 609, 610] (by decide +kernel) (by decide +kernel)
set_option maxRecDepth 20000 in
theorem ggL_law_X9_followsPlainly_1 : GoodIn wsL_law wsX9_followsPlainly_r2 := goodIn_r _ [611, 31, 27, 411, 412, 413, 87, 414, 98, 103, 102, 185, 186, 415, 416, 417, 418, 419, 420, 421, 121, 122, 123, 104] (by decide +kernel) (by decide +kernel)
set_option maxRecDepth 20000 in
theorem ggL_law_X9_followsPlainly_2 : GoodIn wsL_law wsX9_followsPlainly_r3 := goodIn_r _ [422, 423, 424, 425, 426, 427, 100, 101, 99, 612, 613, 614, 60, 615, 90, 89, 616, 617, 618, 619, 88, 620, 621, 622] (by decide +kernel) (by decide +kernel)
set_option maxRecDepth 20000 in
theorem ggL_law_X9_followsPlainly_3 : GoodIn wsL_law wsX9_followsPlainly_r4 := goodIn_r _ [623, 624, 93, 625, 626, 627, 26, 628, 79, 80, 629, 630, 631, 78, 632, 130, 134, 822, 823, 824, 825, 826, 827, 828] (by decide +kernel) (by decide +kernel)
set_option maxRecDepth 20000 in
theorem ggL_law_X9_followsPlainly_4 : GoodIn wsL_law wsX9_followsPlainly_r5 := goodIn_r _ [829, 830, 831, 832, 833, 834, 429, 430, 431, 599, 320, 321] (by decide +kernel) (by decide +kernel)
set_option maxRecDepth 20000 in
theorem ggL_law_X9_followsPlainly_5 : GoodIn wsL_law wsX90 := goodIn_r _ [1096, 1097, 1098, 1099, 1100, 1101, 1102, 1103, 1104] (by decide +kernel) (by decide +kernel)
set_option maxRecDepth 20000 in
theorem ggL_law_X9_followsPlainly_6 : GoodIn wsL_law wsX70 := goodIn_r _ [1130, 1131, 1132, 1133, 1134, 1135, 1136] (by decide +kernel) (by decide +kernel)
set_option maxRecDepth 20000 in
theorem ggL_law_X9_followsPlainly_7 : GoodIn wsL_law wsX40 := goodIn_r _ [1169, 1170, 1171, 1172, 1173, 1174, 1175, 1176] (by decide +kernel) (by decide +kernel)
set_option maxRecDepth 20000 in
theorem ggL_law_X9_followsPlainly_8 : GoodIn wsL_law wsX00 := goodIn_r _ [1177, 1178] (by decide +kernel) (by decide +kernel)
set_option maxRecDepth 20000 in
theorem ggL_law_X9_followsPlainly_9 : GoodIn wsL_law wsX60 := goodIn_r _ [1154, 1155, 1156, 1157, 1158] (by decide +kernel) (by decide +kernel)
set_option maxRecDepth 20000 in
theorem ggL_law_X9_followsPlainly_10 : GoodIn wsL_law wsX50 := goodIn_r _ [1144, 1145, 1146, 1147, 1148, 1149, 1150, 1151, 1152, 1153] (by decide +kernel) (by decide +kernel)
set_option maxRecDepth 20000 in
theorem ggL_law_X9_followsPlainly_11 : GoodIn wsL_law wsX10 := goodIn_r _ [1165, 1166, 1167, 1168] (by decide +kernel) (by decide +kernel)
theorem ggL_law_X9_followsPlainly : GoodIn wsL_law wsX9_followsPlainly := goodIn_app ggL_law_X9_followsPlainly_h (goodIn_app (goodIn_app (goodIn_app (goodIn_app (goodIn_app (goodIn_app (goodIn_app (goodIn_app ggL_law_X9_followsPlainly_0 (goodIn_app ggL_law_X9_followsPlainly_1 (goodIn_app ggL_law_X9_followsPlainly_2 (goodIn_app ggL_law_X9_followsPlainly_3 ggL_law_X9_followsPlainly_4)))) ggL_law_X9_followsPlainly_5) ggL_law_X9_followsPlainly_6) ggL_law_X9_followsPlainly_7) ggL_law_X9_followsPlainly_8) ggL_law_X9_followsPlainly_9) ggL_law_X9_followsPlainly_10) ggL_law_X9_followsPlainly_11)
set_option maxRecDepth 20000 in
theorem gL_law_X9_followsPlainly : GoodIn wsL_law (wsV RL 94 RX9 yX9_followsPlainly wsX9_followsPlainly) := goodIn_app (goodIn_of _ (by decide +kernel)) ggL_law_X9_followsPlainly
set_option maxRecDepth 20000 in
theorem ggL_law_X10_followsPlainly_h : GoodIn wsL_law [Cond.code yX10_followsPlainly cX10_followsPlainly 3 (some .int)] := goodIn_r _ [974] (by decide +kernel) (by decide +kernel)
set_option maxRecDepth 20000 in
theorem ggL_law_X10_followsPlainly_0 : GoodIn wsL_law wsX10_followsPlainly_r1 := goodIn_r _ [975, 976, 977, 5, 978, 195, 196, 197, 515, 516, 517, 518, 511, 512, 513, 514, 140, 454, 455, 456, 864, 865, 866, 867] (by decide +kernel) (by decide +kernel)
set_option maxRecDepth 20000 in
theorem ggL_law_X10_followsPlainly_1 : GoodIn wsL_law wsX10_followsPlainly_r2 := goodIn_r _ [155, 156, 868, 869, 870, 871, 872, 873, 874, 875, 876, 150, 151, 152, 877, 878, 879, 880, 154, 881, 882, 883, 884, 885] (by decide +kernel) (by decide +kernel)
set_option maxRecDepth 20000 in
theorem ggL_law_X10_followsPlainly_2 : GoodIn wsL_law wsX10_followsPlainly_r3 := goodIn_r _ [886, 887, 888, 889, 890, 891, 892, 893, 894, 895, 896, 897, 898, 899, 900, 901, 902, 903, 904, 905, 906, 149, 907, 908] (by decide +kernel) (by decide +kernel)
set_option maxRecDepth 20000 in
theorem ggL_law_X10_followsPlainly_3 : GoodIn wsL_law wsX10_followsPlainly_r4 := goodIn_r _ [909, 910, 911, 912, 913, 914, 915, 916, 917, 918, 919, 920, 921, 922, 979, 980, 981, 982, 964, 965, 966, 943, 944, 945] (by decide +kernel) (by decide +kernel)
set_option maxRecDepth 20000 in
theorem ggL_law_X10_followsPlainly_4 : GoodIn wsL_law wsX10_followsPlainly_r5 := goodIn_r _ [946] (by decide +kernel) (by decide +kernel)
set_option maxRecDepth 20000 in
theorem ggL_law_X10_followsPlainly_5 : GoodIn wsL_law wsX100 := goodIn_r _ [1105, 1106, 1107, 1108, 1109, 1110, 1111, 1112, 1113, 1114, 1115, 1116, 1117, 1118, 1119, 1120, 1121, 1122, 1123, 1124, 1125, 1126, 1127, 1128, 1129] (by decide +kernel) (by decide +kernel)
theorem ggL_law_X10_followsPlainly : GoodIn wsL_law wsX10_followsPlainly := goodIn_app ggL_law_X10_followsPlainly_h (goodIn_app (goodIn_app ggL_law_X10_followsPlainly_0 (goodIn_app ggL_law_X10_followsPlainly_1 (goodIn_app ggL_law_X10_followsPlainly_2 (goodIn_app ggL_law_X10_followsPlainly_3 ggL_law_X10_followsPlainly_4)))) ggL_law_X10_followsPlainly_5)
set_option maxRecDepth 20000 in
theorem gL_law_X10_followsPlainly : GoodIn wsL_law (wsV RL 97 RX10 yX10_followsPlainly wsX10_followsPlainly) := goodIn_app (goodIn_of _ (by decide +kernel)) ggL_law_X10_followsPlainly
set_option maxRecDepth 20000 in
theorem ggL_law_X9_fewestStages_h : GoodIn wsL_law [Cond.code yX9_fewestStages cX9_fewestStages 4 (some .int)] := goodIn_r _ [1015] (by decide +kernel) (by decide +kernel)
set_option maxRecDepth 20000 in
theorem ggL_law_X9_fewestStages_0 : GoodIn wsL_law wsX9_fewestStages_r1 := goodIn_r _ [29, 27, 999, 1000, 1001, 2, 1002, 15, 502, 503, 504, 14, 505, 41, 399, 400, 401, 402, 350, 351, 352, 353, 608, 609] (by decide +kernel) (by decide +kernel)
set_option maxRecDepth 20000 in
theorem ggL_law_X9_fewestStages_1 : GoodIn wsL_law wsX9_fewestStages_r2 := goodIn_r _ [610, 611, 31, 411, 412, 413, 87, 414, 98, 103, 102, 185, 186, 415, 416, 417, 418, 419, 420, 421, 121, 122, 123, 104] (by decide +kernel) (by decide +kernel)
set_option maxRecDepth 20000 in
theorem ggL_law_X9_fewestStages_2 : GoodIn wsL_law wsX9_fewestStages_r3 := goodIn_r _ [422, 423, 424, 425, 426, 427, 100, 101, 99, 612, 613, 614, 60, 615, 90, 89, 616, 617, 618, 619, 88, 620, 621, 622] (by decide +kernel) (by decide +kernel)
set_option maxRecDepth 20000 in
theorem ggL_law_X9_fewestStages_3 : GoodIn wsL_law wsX9_fewestStages_r4 := goodIn_r _ [623, 624, 93, 625, 626, 627, 26, 628, 79, 80, 629, 630, 631, 78, 632, 130, 134, 822, 823, 824, 825, 826, 827, 828] (by decide +kernel) (by decide +kernel)
set_option maxRecDepth 20000 in
theorem ggL_law_X9_fewestStages_4 : GoodIn wsL_law wsX9_fewestStages_r5 := goodIn_r _ [829, 830, 831, 832, 833, 834, 429, 430, 431, 1016, 1017, 1018, 1019, 91, 1020, 1021, 1022, 1023, 1024, 643, 644, 645, 1025, 1026] (by decide +kernel) (by decide +kernel)
set_option maxRecDepth 20000 in
theorem ggL_law_X9_fewestStages_5 : GoodIn wsL_law wsX9_fewestStages_r6 := goodIn_r _ [1027, 1028, 1029, 1030, 1031, 646, 647, 648, 649, 67, 68, 75, 63, 650, 651, 652, 66, 653, 110, 112, 654, 655, 656, 657] (by decide +kernel) (by decide +kernel)
set_option maxRecDepth 20000 in
theorem ggL_law_X9_fewestStages_6 : GoodIn wsL_law wsX9_fewestStages_r7 := goodIn_r _ [113, 658, 659, 660, 71, 661, 125, 662, 663, 664, 665, 666, 61, 667, 668, 669, 670, 671, 672, 673, 674, 114, 675, 676] (by decide +kernel) (by decide +kernel)
set_option maxRecDepth 20000 in
theorem ggL_law_X9_fewestStages_7 : GoodIn wsL_law wsX9_fewestStages_r8 := goodIn_r _ [677, 678, 679, 680, 681, 682, 683, 684, 685, 686, 687, 688, 689, 690, 691, 692, 693, 694, 695, 696, 697, 698, 72, 74] (by decide +kernel) (by decide +kernel)
set_option maxRecDepth 20000 in
theorem ggL_law_X9_fewestStages_8 : GoodIn wsL_law wsX9_fewestStages_r9 := goodIn_r _ [73, 699, 700, 701, 702, 703, 704, 705, 706, 707, 708, 709, 710, 711, 712, 713, 714, 715, 716, 717, 718, 719, 720, 721] (by decide +kernel) (by decide +kernel)
set_option maxRecDepth 20000 in
theorem ggL_law_X9_fewestStages_9 : GoodIn wsL_law wsX9_fewestStages_r10 := goodIn_r _ [722, 723, 724, 725, 726, 727, 728, 729, 730, 731, 732, 733, 734, 735, 736, 737, 738, 739, 740, 741, 742, 743, 744, 745] (by decide +kernel) (by decide +kernel)
set_option maxRecDepth 20000 in
theorem ggL_law_X9_fewestStages_10 : GoodIn wsL_law wsX9_fewestStages_r11 := goodIn_r _ [746, 747, 748, 749, 750, 751, 752, 753, 754, 755, 756, 133, 757, 758, 759, 760, 761, 762, 763, 764, 115, 765, 766, 767] (by decide +kernel) (by decide +kernel)
set_option maxRecDepth 20000 in
theorem ggL_law_X9_fewestStages_11 : GoodIn wsL_law wsX9_fewestStages_r12 := goodIn_r _ [768, 769, 770, 771, 772, 773, 774, 775, 776, 777, 778, 779, 780, 781, 782, 783, 784, 785, 786, 787, 788, 789, 790, 791] (by decide +kernel) (by decide +kernel)
set_option maxRecDepth 20000 in
theorem ggL_law_X9_fewestStages_12 : GoodIn wsL_law wsX9_fewestStages_r13 := goodIn_r _ [792, 793, 794, 795, 796, 797, 798, 799, 800, 801, 802, 803, 804, 805, 806, 807, 808, 809, 810, 811, 812, 813, 814, 815] (by decide +kernel) (by decide +kernel)
set_option maxRecDepth 20000 in
theorem ggL_law_X9_fewestStages_13 : GoodIn wsL_law wsX9_fewestStages_r14 := goodIn_r _ [132, 816, 817, 818, 819, 820, 821, 1032, 1033, 1034, 1035, 1036, 1037, 1038, 1039, 92, 1040, 1041, 1042, 1043] (by decide +kernel) (by decide +kernel)
set_option maxRecDepth 20000 in
theorem ggL_law_X9_fewestStages_14 : GoodIn wsL_law wsX90 := goodIn_r _ [1096, 1097, 1098, 1099, 1100, 1101, 1102, 1103, 1104] (by decide +kernel) (by decide +kernel)
set_option maxRecDepth 20000 in
theorem ggL_law_X9_fewestStages_15 : GoodIn wsL_law wsX70 := goodIn_r _ [1130, 1131, 1132, 1133, 1134, 1135, 1136] (by decide +kernel) (by decide +kernel)
set_option maxRecDepth 20000 in
theorem ggL_law_X9_fewestStages_16 : GoodIn wsL_law wsX40 := goodIn_r _ [1169, 1170, 1171, 1172, 1173, 1174, 1175, 1176] (by decide +kernel) (by decide +kernel)
set_option maxRecDepth 20000 in
theorem ggL_law_X9_fewestStages_17 : GoodIn wsL_law wsX00 := goodIn_r _ [1177, 1178] (by decide +kernel) (by decide +kernel)
set_option maxRecDepth 20000 in
theorem ggL_law_X9_fewestStages_18 : GoodIn wsL_law wsX60 := goodIn_r _ [1154, 1155, 1156, 1157, 1158] (by decide +kernel) (by decide +kernel)
set_option maxRecDepth 20000 in
theorem ggL_law_X9_fewestStages_19 : GoodIn wsL_law wsX50 := goodIn_r _ [1144, 1145, 1146, 1147, 1148, 1149, 1150, 1151, 1152, 1153] (by decide +kernel) (by decide +kernel)
set_option maxRecDepth 20000 in
theorem ggL_law_X9_fewestStages_20 : GoodIn wsL_law wsX10 := goodIn_r _ [1165, 1166, 1167, 1168] (by decide +kernel) (by decide +kernel)
set_option maxRecDepth 20000 in
theorem ggL_law_X9_fewestStages_21 : GoodIn wsL_law wsX20 := goodIn_r _ [1159, 1160, 1161, 1162, 1163] (by decide +kernel) (by decide +kernel)
set_option maxRecDepth 20000 in
theorem ggL_law_X9_fewestStages_22 : GoodIn wsL_law wsX30 := goodIn_r _ [1164] (by decide +kernel) (by decide +kernel)
theorem ggL_law_X9_fewestStages : GoodIn wsL_law wsX9_fewestStages := goodIn_app ggL_law_X9_fewestStages_h (goodIn_app (goodIn_app (goodIn_app (goodIn_app (goodIn_app (goodIn_app (goodIn_app (goodIn_app (goodIn_app (goodIn_app ggL_law_X9_fewestStages_0 (goodIn_app ggL_law_X9_fewestStages_1 (goodIn_app ggL_law_X9_fewestStages_2 (goodIn_app ggL_law_X9_fewestStages_3 (goodIn_app ggL_law_X9_fewestStages_4 (goodIn_app ggL_law_X9_fewestStages_5 (goodIn_app ggL_law_X9_fewestStages_6 (goodIn_app ggL_law_X9_fewestStages_7 (goodIn_app ggL_law_X9_fewestStages_8 (goodIn_app ggL_law_X9_fewestStages_9 (goodIn_app ggL_law_X9_fewestStages_10 (goodIn_app ggL_law_X9_fewestStages_11 (goodIn_app ggL_law_X9_fewestStages_12 ggL_law_X9_fewestStages_13))))))))))))) ggL_law_X9_fewestStages_14) ggL_law_X9_fewestStages_15) ggL_law_X9_fewestStages_16) ggL_law_X9_fewestStages_17) ggL_law_X9_fewestStages_18) ggL_law_X9_fewestStages_19) ggL_law_X9_fewestStages_20) ggL_law_X9_fewestStages_21) ggL_law_X9_fewestStages_22)
set_option maxRecDepth 20000 in
theorem gL_law_X9_fewestStages : GoodIn wsL_law (wsV RL 98 RX9 yX9_fewestStages wsX9_fewestStages) := goodIn_app (goodIn_of _ (by decide +kernel)) ggL_law_X9_fewestStages
set_option maxRecDepth 20000 in
theorem ggL_law_X10_fewestStages_h : GoodIn wsL_law [Cond.code yX10_fewestStages cX10_fewestStages 3 (some .int)] := goodIn_r _ [1047] (by decide +kernel) (by decide +kernel)
set_option maxRecDepth 20000 in
theorem ggL_law_X10_fewestStages_0 : GoodIn wsL_law wsX10_fewestStages_r1 := goodIn_r _ [975, 976, 977, 5, 978, 195, 196, 197, 515, 516, 517, 518, 511, 512, 513, 514, 140, 454, 455, 456, 864, 865, 866, 867] (by decide +kernel) (by decide +kernel)
set_option maxRecDepth 20000 in
theorem ggL_law_X10_fewestStages_1 : GoodIn wsL_law wsX10_fewestStages_r2 := goodIn_r _ [155, 156, 868, 869, 870, 871, 872, 873, 874, 875, 876, 150, 151, 152, 877, 878, 879, 880, 154, 881, 882, 883, 884, 885] (by decide +kernel) (by decide +kernel)
set_option maxRecDepth 20000 in
theorem ggL_law_X10_fewestStages_2 : GoodIn wsL_law wsX10_fewestStages_r3 := goodIn_r _ [886, 887, 888, 889, 890, 891, 892, 893, 894, 895, 896, 897, 898, 899, 900, 901, 902, 903, 904, 905, 906, 149, 907, 908] (by decide +kernel) (by decide +kernel)
set_option maxRecDepth 20000 in
theorem ggL_law_X10_fewestStages_3 : GoodIn wsL_law wsX10_fewestStages_r4 := goodIn_r _ [909, 910, 911, 912, 913, 914, 915, 916, 917, 918, 919, 920, 921, 922, 979, 980, 981, 982, 964, 965, 966, 943, 944, 945] (by decide +kernel) (by decide +kernel)
set_option maxRecDepth 20000 in
theorem ggL_law_X10_fewestStages_4 : GoodIn wsL_law wsX10_fewestStages_r5 := goodIn_r _ [946] (by decide +kernel) (by decide +kernel)
set_option maxRecDepth 20000 in
theorem ggL_law_X10_fewestStages_5 : GoodIn wsL_law wsX100 := goodIn_r _ [1105, 1106, 1107, 1108, 1109, 1110, 1111, 1112, 1113, 1114, 1115, 1116, 1117, 1118, 1119, 1120, 1121, 1122, 1123, 1124, 1125, 1126, 1127, 1128, 1129] (by decide +kernel) (by decide +kernel)
theorem ggL_law_X10_fewestStages : GoodIn wsL_law wsX10_fewestStages := goodIn_app ggL_law_X10_fewestStages_h (goodIn_app (goodIn_app ggL_law_X10_fewestStages_0 (goodIn_app ggL_law_X10_fewestStages_1 (goodIn_app ggL_law_X10_fewestStages_2 (goodIn_app ggL_law_X10_fewestStages_3 ggL_law_X10_fewestStages_4)))) ggL_law_X10_fewestStages_5)
set_option maxRecDepth 20000 in
theorem gL_law_X10_fewestStages : GoodIn wsL_law (wsV RL 101 RX10 yX10_fewestStages wsX10_fewestStages) := goodIn_app (goodIn_of _ (by decide +kernel)) ggL_law_X10_fewestStages
set_option maxRecDepth 20000 in
theorem ggL_law_X9_fewestPremises_h : GoodIn wsL_law [Cond.code yX9_fewestPremises cX9_fewestPremises 6 (some .int)] := goodIn_r _ [1051] (by decide +kernel) (by decide +kernel)
set_option maxRecDepth 20000 in
theorem ggL_law_X9_fewestPremises_0 : GoodIn wsL_law wsX9_fewestPremises_r1 := goodIn_r _ [27, 999, 1000, 1001, 2, 1002, 15, 502, 503, 504, 14, 505, 41, 399, 400, 401, 402, 350, 351, 352, 353, 608, 609, 610] (by decide +kernel) (by decide +kernel)
set_option maxRecDepth 20000 in
theorem ggL_law_X9_fewestPremises_1 : GoodIn wsL_law wsX9_fewestPremises_r2 := goodIn_r _ [611, 31, 29, 411, 412, 413, 87, 414, 98, 103, 102, 185, 186, 415, 416, 417, 418, 419, 420, 421, 121, 122, 123, 104] (by decide +kernel) (by decide +kernel)
set_option maxRecDepth 20000 in
theorem ggL_law_X9_fewestPremises_2 : GoodIn wsL_law wsX9_fewestPremises_r3 := goodIn_r _ [422, 423, 424, 425, 426, 427, 100, 101, 99, 612, 613, 614, 60, 615, 90, 89, 616, 617, 618, 619, 88, 620, 621, 622] (by decide +kernel) (by decide +kernel)
set_option maxRecDepth 20000 in
theorem ggL_law_X9_fewestPremises_3 : GoodIn wsL_law wsX9_fewestPremises_r4 := goodIn_r _ [623, 624, 93, 625, 626, 627, 26, 628, 79, 80, 629, 630, 631, 78, 632, 130, 134, 646, 647, 648, 649, 67, 68, 75] (by decide +kernel) (by decide +kernel)
set_option maxRecDepth 20000 in
theorem ggL_law_X9_fewestPremises_4 : GoodIn wsL_law wsX9_fewestPremises_r5 := goodIn_r _ [63, 650, 651, 652, 66, 653, 110, 112, 654, 655, 656, 657, 113, 658, 659, 660, 71, 661, 125, 662, 663, 664, 665, 666] (by decide +kernel) (by decide +kernel)
set_option maxRecDepth 20000 in
theorem ggL_law_X9_fewestPremises_5 : GoodIn wsL_law wsX9_fewestPremises_r6 := goodIn_r _ [61, 667, 668, 669, 670, 671, 672, 673, 674, 114, 675, 676, 677, 678, 679, 680, 681, 682, 683, 684, 685, 686, 687, 688] (by decide +kernel) (by decide +kernel)
set_option maxRecDepth 20000 in
theorem ggL_law_X9_fewestPremises_6 : GoodIn wsL_law wsX9_fewestPremises_r7 := goodIn_r _ [689, 690, 691, 429, 430, 431, 692, 693, 694, 695, 696, 697, 698, 72, 74, 73, 699, 700, 701, 702, 703, 704, 705, 706] (by decide +kernel) (by decide +kernel)
set_option maxRecDepth 20000 in
theorem ggL_law_X9_fewestPremises_7 : GoodIn wsL_law wsX9_fewestPremises_r8 := goodIn_r _ [707, 708, 709, 710, 711, 712, 713, 714, 715, 716, 717, 718, 719, 720, 721, 722, 723, 724, 725, 726, 727, 728, 729, 730] (by decide +kernel) (by decide +kernel)
set_option maxRecDepth 20000 in
theorem ggL_law_X9_fewestPremises_8 : GoodIn wsL_law wsX9_fewestPremises_r9 := goodIn_r _ [731, 732, 733, 734, 735, 736, 737, 738, 739, 740, 741, 742, 743, 744, 745, 746, 747, 748, 749, 750, 751, 752, 753, 754] (by decide +kernel) (by decide +kernel)
set_option maxRecDepth 20000 in
theorem ggL_law_X9_fewestPremises_9 : GoodIn wsL_law wsX9_fewestPremises_r10 := goodIn_r _ [755, 756, 133, 757, 758, 759, 760, 761, 762, 763, 764, 115, 765, 766, 767, 768, 769, 770, 771, 772, 773, 774, 775, 776] (by decide +kernel) (by decide +kernel)
set_option maxRecDepth 20000 in
theorem ggL_law_X9_fewestPremises_10 : GoodIn wsL_law wsX9_fewestPremises_r11 := goodIn_r _ [777, 778, 779, 780, 781, 782, 783, 784, 785, 786, 787, 788, 789, 790, 791, 792, 793, 794, 795, 796, 797, 798, 799, 800] (by decide +kernel) (by decide +kernel)
set_option maxRecDepth 20000 in
theorem ggL_law_X9_fewestPremises_11 : GoodIn wsL_law wsX9_fewestPremises_r12 := goodIn_r _ [801, 802, 803, 804, 805, 806, 807, 808, 809, 810, 811, 812, 813, 814, 815, 132, 816, 817, 818, 819, 820, 821, 506, 218] (by decide +kernel) (by decide +kernel)
set_option maxRecDepth 20000 in
theorem ggL_law_X9_fewestPremises_12 : GoodIn wsL_law wsX9_fewestPremises_r13 := goodIn_r _ [219, 220, 221, 222, 223] (by decide +kernel) (by decide +kernel)
set_option maxRecDepth 20000 in
theorem ggL_law_X9_fewestPremises_13 : GoodIn wsL_law wsX90 := goodIn_r _ [1096, 1097, 1098, 1099, 1100, 1101, 1102, 1103, 1104] (by decide +kernel) (by decide +kernel)
set_option maxRecDepth 20000 in
theorem ggL_law_X9_fewestPremises_14 : GoodIn wsL_law wsX70 := goodIn_r _ [1130, 1131, 1132, 1133, 1134, 1135, 1136] (by decide +kernel) (by decide +kernel)
set_option maxRecDepth 20000 in
theorem ggL_law_X9_fewestPremises_15 : GoodIn wsL_law wsX40 := goodIn_r _ [1169, 1170, 1171, 1172, 1173, 1174, 1175, 1176] (by decide +kernel) (by decide +kernel)
set_option maxRecDepth 20000 in
theorem ggL_law_X9_fewestPremises_16 : GoodIn wsL_law wsX00 := goodIn_r _ [1177, 1178] (by decide +kernel) (by decide +kernel)
set_option maxRecDepth 20000 in
theorem ggL_law_X9_fewestPremises_17 : GoodIn wsL_law wsX60 := goodIn_r _ [1154, 1155, 1156, 1157, 1158] (by decide +kernel) (by decide +kernel)
set_option maxRecDepth 20000 in
theorem ggL_law_X9_fewestPremises_18 : GoodIn wsL_law wsX50 := goodIn_r _ [1144, 1145, 1146, 1147, 1148, 1149, 1150, 1151, 1152, 1153] (by decide +kernel) (by decide +kernel)
set_option maxRecDepth 20000 in
theorem ggL_law_X9_fewestPremises_19 : GoodIn wsL_law wsX10 := goodIn_r _ [1165, 1166, 1167, 1168] (by decide +kernel) (by decide +kernel)
set_option maxRecDepth 20000 in
theorem ggL_law_X9_fewestPremises_20 : GoodIn wsL_law wsX20 := goodIn_r _ [1159, 1160, 1161, 1162, 1163] (by decide +kernel) (by decide +kernel)
set_option maxRecDepth 20000 in
theorem ggL_law_X9_fewestPremises_21 : GoodIn wsL_law wsX30 := goodIn_r _ [1164] (by decide +kernel) (by decide +kernel)
theorem ggL_law_X9_fewestPremises : GoodIn wsL_law wsX9_fewestPremises := goodIn_app ggL_law_X9_fewestPremises_h (goodIn_app (goodIn_app (goodIn_app (goodIn_app (goodIn_app (goodIn_app (goodIn_app (goodIn_app (goodIn_app (goodIn_app ggL_law_X9_fewestPremises_0 (goodIn_app ggL_law_X9_fewestPremises_1 (goodIn_app ggL_law_X9_fewestPremises_2 (goodIn_app ggL_law_X9_fewestPremises_3 (goodIn_app ggL_law_X9_fewestPremises_4 (goodIn_app ggL_law_X9_fewestPremises_5 (goodIn_app ggL_law_X9_fewestPremises_6 (goodIn_app ggL_law_X9_fewestPremises_7 (goodIn_app ggL_law_X9_fewestPremises_8 (goodIn_app ggL_law_X9_fewestPremises_9 (goodIn_app ggL_law_X9_fewestPremises_10 (goodIn_app ggL_law_X9_fewestPremises_11 ggL_law_X9_fewestPremises_12)))))))))))) ggL_law_X9_fewestPremises_13) ggL_law_X9_fewestPremises_14) ggL_law_X9_fewestPremises_15) ggL_law_X9_fewestPremises_16) ggL_law_X9_fewestPremises_17) ggL_law_X9_fewestPremises_18) ggL_law_X9_fewestPremises_19) ggL_law_X9_fewestPremises_20) ggL_law_X9_fewestPremises_21)
set_option maxRecDepth 20000 in
theorem gL_law_X9_fewestPremises : GoodIn wsL_law (wsV RL 102 RX9 yX9_fewestPremises wsX9_fewestPremises) := goodIn_app (goodIn_of _ (by decide +kernel)) ggL_law_X9_fewestPremises
set_option maxRecDepth 20000 in
theorem ggL_law_X10_fewestPremises_h : GoodIn wsL_law [Cond.code yX10_fewestPremises cX10_fewestPremises 5 (some .int)] := goodIn_r _ [1055] (by decide +kernel) (by decide +kernel)
set_option maxRecDepth 20000 in
theorem ggL_law_X10_fewestPremises_0 : GoodIn wsL_law wsX10_fewestPremises_r1 := goodIn_r _ [975, 976, 977, 5, 978, 195, 196, 197, 515, 516, 517, 518, 511, 512, 513, 514, 140, 454, 455, 456, 860, 861, 862, 863] (by decide +kernel) (by decide +kernel)
set_option maxRecDepth 20000 in
theorem ggL_law_X10_fewestPremises_1 : GoodIn wsL_law wsX10_fewestPremises_r2 := goodIn_r _ [864, 865, 866, 867, 155, 156, 868, 869, 870, 871, 872, 873, 874, 875, 876, 150, 151, 152, 877, 878, 879, 880, 154, 881] (by decide +kernel) (by decide +kernel)
set_option maxRecDepth 20000 in
theorem ggL_law_X10_fewestPremises_2 : GoodIn wsL_law wsX10_fewestPremises_r3 := goodIn_r _ [882, 883, 884, 885, 886, 887, 888, 889, 890, 891, 892, 893, 894, 895, 896, 897, 898, 899, 900, 901, 902, 903, 904, 905] (by decide +kernel) (by decide +kernel)
set_option maxRecDepth 20000 in
theorem ggL_law_X10_fewestPremises_3 : GoodIn wsL_law wsX10_fewestPremises_r4 := goodIn_r _ [906, 149, 907, 908, 909, 910, 911, 912, 913, 914, 915, 916, 917, 918, 919, 920, 921, 922, 923, 924, 925, 926, 157, 927] (by decide +kernel) (by decide +kernel)
set_option maxRecDepth 20000 in
theorem ggL_law_X10_fewestPremises_4 : GoodIn wsL_law wsX10_fewestPremises_r5 := goodIn_r _ [928, 929, 930, 158, 931, 932, 933, 934, 935, 936, 937, 938, 939, 940, 941, 942, 943, 944, 945, 946, 947, 948, 949, 950] (by decide +kernel) (by decide +kernel)
set_option maxRecDepth 20000 in
theorem ggL_law_X10_fewestPremises_5 : GoodIn wsL_law wsX10_fewestPremises_r6 := goodIn_r _ [951, 952, 953, 954, 955, 956, 957, 958, 959, 960, 961, 962, 963, 964, 965, 966, 967, 968, 969, 970, 240, 241, 242] (by decide +kernel) (by decide +kernel)
set_option maxRecDepth 20000 in
theorem ggL_law_X10_fewestPremises_6 : GoodIn wsL_law wsX100 := goodIn_r _ [1105, 1106, 1107, 1108, 1109, 1110, 1111, 1112, 1113, 1114, 1115, 1116, 1117, 1118, 1119, 1120, 1121, 1122, 1123, 1124, 1125, 1126, 1127, 1128, 1129] (by decide +kernel) (by decide +kernel)
theorem ggL_law_X10_fewestPremises : GoodIn wsL_law wsX10_fewestPremises := goodIn_app ggL_law_X10_fewestPremises_h (goodIn_app (goodIn_app ggL_law_X10_fewestPremises_0 (goodIn_app ggL_law_X10_fewestPremises_1 (goodIn_app ggL_law_X10_fewestPremises_2 (goodIn_app ggL_law_X10_fewestPremises_3 (goodIn_app ggL_law_X10_fewestPremises_4 ggL_law_X10_fewestPremises_5))))) ggL_law_X10_fewestPremises_6)
set_option maxRecDepth 20000 in
theorem gL_law_X10_fewestPremises : GoodIn wsL_law (wsV RL 105 RX10 yX10_fewestPremises wsX10_fewestPremises) := goodIn_app (goodIn_of _ (by decide +kernel)) ggL_law_X10_fewestPremises
set_option maxRecDepth 20000 in
theorem ggL_law_X9_relation_h : GoodIn wsL_law [Cond.code yX9_relation cX9_relation 5 (some .int)] := goodIn_r _ [1059] (by decide +kernel) (by decide +kernel)
set_option maxRecDepth 20000 in
theorem ggL_law_X9_relation_0 : GoodIn wsL_law wsX9_relation_r1 := goodIn_r _ [27, 399, 400, 401, 2, 402, 15, 350, 351, 352, 353, 608, 609, 610, 611, 31, 29, 411, 412, 413, 87, 414, 98, 103] (by decide +kernel) (by decide +kernel)
set_option maxRecDepth 20000 in
theorem ggL_law_X9_relation_1 : GoodIn wsL_law wsX9_relation_r2 := goodIn_r _ [102, 185, 186, 415, 416, 417, 418, 419, 420, 421, 121, 122, 123, 104, 422, 423, 424, 425, 426, 427, 100, 101, 99, 612] (by decide +kernel) (by decide +kernel)
set_option maxRecDepth 20000 in
theorem ggL_law_X9_relation_2 : GoodIn wsL_law wsX9_relation_r3 := goodIn_r _ [613, 614, 60, 615, 90, 89, 616, 617, 618, 619, 88, 620, 621, 622, 623, 624, 93, 625, 626, 627, 26, 628, 79, 80] (by decide +kernel) (by decide +kernel)
set_option maxRecDepth 20000 in
theorem ggL_law_X9_relation_3 : GoodIn wsL_law wsX9_relation_r4 := goodIn_r _ [629, 630, 631, 78, 632, 130, 134, 646, 647, 648, 649, 67, 68, 75, 63, 650, 651, 652, 66, 653, 110, 112, 654, 655] (by decide +kernel) (by decide +kernel)
set_option maxRecDepth 20000 in
theorem ggL_law_X9_relation_4 : GoodIn wsL_law wsX9_relation_r5 := goodIn_r _ [656, 657, 113, 658, 659, 660, 71, 661, 125, 662, 663, 664, 665, 666, 61, 667, 668, 669, 670, 671, 672, 673, 674, 114] (by decide +kernel) (by decide +kernel)
set_option maxRecDepth 20000 in
theorem ggL_law_X9_relation_5 : GoodIn wsL_law wsX9_relation_r6 := goodIn_r _ [675, 676, 677, 678, 679, 680, 681, 682, 683, 684, 685, 686, 687, 688, 689, 690, 691, 429, 430, 431, 692, 693, 694, 695] (by decide +kernel) (by decide +kernel)
set_option maxRecDepth 20000 in
theorem ggL_law_X9_relation_6 : GoodIn wsL_law wsX9_relation_r7 := goodIn_r _ [696, 697, 698, 72, 74, 73, 699, 700, 701, 702, 703, 704, 705, 706, 707, 708, 709, 710, 711, 712, 713, 714, 715, 716] (by decide +kernel) (by decide +kernel)
set_option maxRecDepth 20000 in
theorem ggL_law_X9_relation_7 : GoodIn wsL_law wsX9_relation_r8 := goodIn_r _ [717, 718, 719, 720, 721, 722, 723, 724, 725, 726, 727, 728, 729, 730, 731, 732, 733, 734, 735, 736, 737, 738, 739, 740] (by decide +kernel) (by decide +kernel)
set_option maxRecDepth 20000 in
theorem ggL_law_X9_relation_8 : GoodIn wsL_law wsX9_relation_r9 := goodIn_r _ [741, 742, 743, 744, 745, 746, 747, 748, 749, 750, 751, 752, 753, 754, 755, 756, 133, 757, 758, 759, 760, 761, 762, 763] (by decide +kernel) (by decide +kernel)
set_option maxRecDepth 20000 in
theorem ggL_law_X9_relation_9 : GoodIn wsL_law wsX9_relation_r10 := goodIn_r _ [764, 115, 765, 766, 767, 768, 769, 770, 771, 772, 773, 774, 775, 776, 777, 778, 779, 780, 781, 782, 783, 784, 785, 786] (by decide +kernel) (by decide +kernel)
set_option maxRecDepth 20000 in
theorem ggL_law_X9_relation_10 : GoodIn wsL_law wsX9_relation_r11 := goodIn_r _ [787, 788, 789, 790, 791, 792, 793, 794, 795, 796, 797, 798, 799, 800, 801, 802, 803, 804, 805, 806, 807, 808, 809, 810] (by decide +kernel) (by decide +kernel)
set_option maxRecDepth 20000 in
theorem ggL_law_X9_relation_11 : GoodIn wsL_law wsX9_relation_r12 := goodIn_r _ [811, 812, 813, 814, 815, 132, 816, 817, 818, 819, 820, 821, 599, 320, 321] (by decide +kernel) (by decide +kernel)
set_option maxRecDepth 20000 in
theorem ggL_law_X9_relation_12 : GoodIn wsL_law wsX90 := goodIn_r _ [1096, 1097, 1098, 1099, 1100, 1101, 1102, 1103, 1104] (by decide +kernel) (by decide +kernel)
set_option maxRecDepth 20000 in
theorem ggL_law_X9_relation_13 : GoodIn wsL_law wsX70 := goodIn_r _ [1130, 1131, 1132, 1133, 1134, 1135, 1136] (by decide +kernel) (by decide +kernel)
set_option maxRecDepth 20000 in
theorem ggL_law_X9_relation_14 : GoodIn wsL_law wsX40 := goodIn_r _ [1169, 1170, 1171, 1172, 1173, 1174, 1175, 1176] (by decide +kernel) (by decide +kernel)
set_option maxRecDepth 20000 in
theorem ggL_law_X9_relation_15 : GoodIn wsL_law wsX00 := goodIn_r _ [1177, 1178] (by decide +kernel) (by decide +kernel)
set_option maxRecDepth 20000 in
theorem ggL_law_X9_relation_16 : GoodIn wsL_law wsX60 := goodIn_r _ [1154, 1155, 1156, 1157, 1158] (by decide +kernel) (by decide +kernel)
set_option maxRecDepth 20000 in
theorem ggL_law_X9_relation_17 : GoodIn wsL_law wsX50 := goodIn_r _ [1144, 1145, 1146, 1147, 1148, 1149, 1150, 1151, 1152, 1153] (by decide +kernel) (by decide +kernel)
set_option maxRecDepth 20000 in
theorem ggL_law_X9_relation_18 : GoodIn wsL_law wsX10 := goodIn_r _ [1165, 1166, 1167, 1168] (by decide +kernel) (by decide +kernel)
set_option maxRecDepth 20000 in
theorem ggL_law_X9_relation_19 : GoodIn wsL_law wsX20 := goodIn_r _ [1159, 1160, 1161, 1162, 1163] (by decide +kernel) (by decide +kernel)
set_option maxRecDepth 20000 in
theorem ggL_law_X9_relation_20 : GoodIn wsL_law wsX30 := goodIn_r _ [1164] (by decide +kernel) (by decide +kernel)
theorem ggL_law_X9_relation : GoodIn wsL_law wsX9_relation := goodIn_app ggL_law_X9_relation_h (goodIn_app (goodIn_app (goodIn_app (goodIn_app (goodIn_app (goodIn_app (goodIn_app (goodIn_app (goodIn_app (goodIn_app ggL_law_X9_relation_0 (goodIn_app ggL_law_X9_relation_1 (goodIn_app ggL_law_X9_relation_2 (goodIn_app ggL_law_X9_relation_3 (goodIn_app ggL_law_X9_relation_4 (goodIn_app ggL_law_X9_relation_5 (goodIn_app ggL_law_X9_relation_6 (goodIn_app ggL_law_X9_relation_7 (goodIn_app ggL_law_X9_relation_8 (goodIn_app ggL_law_X9_relation_9 (goodIn_app ggL_law_X9_relation_10 ggL_law_X9_relation_11))))))))))) ggL_law_X9_relation_12) ggL_law_X9_relation_13) ggL_law_X9_relation_14) ggL_law_X9_relation_15) ggL_law_X9_relation_16) ggL_law_X9_relation_17) ggL_law_X9_relation_18) ggL_law_X9_relation_19) ggL_law_X9_relation_20)
set_option maxRecDepth 20000 in
theorem gL_law_X9_relation : GoodIn wsL_law (wsV RL 106 RX9 yX9_relation wsX9_relation) := goodIn_app (goodIn_of _ (by decide +kernel)) ggL_law_X9_relation
set_option maxRecDepth 20000 in
theorem ggL_law_X10_relation_h : GoodIn wsL_law [Cond.code yX10_relation cX10_relation 3 (some .int)] := goodIn_r _ [1063] (by decide +kernel) (by decide +kernel)
set_option maxRecDepth 20000 in
theorem ggL_law_X10_relation_0 : GoodIn wsL_law wsX10_relation_r1 := goodIn_r _ [511, 512, 513, 5, 514, 140, 454, 455, 456, 195, 196, 197, 860, 861, 862, 863, 864, 865, 866, 867, 155, 156, 868, 869] (by decide +kernel) (by decide +kernel)
set_option maxRecDepth 20000 in
theorem ggL_law_X10_relation_1 : GoodIn wsL_law wsX10_relation_r2 := goodIn_r _ [870, 871, 872, 873, 874, 875, 876, 150, 151, 152, 877, 878, 879, 880, 154, 881, 882, 883, 884, 885, 886, 887, 888, 889] (by decide +kernel) (by decide +kernel)
set_option maxRecDepth 20000 in
theorem ggL_law_X10_relation_2 : GoodIn wsL_law wsX10_relation_r3 := goodIn_r _ [890, 891, 892, 893, 894, 895, 896, 897, 898, 899, 900, 901, 902, 903, 904, 905, 906, 149, 907, 908, 909, 910, 911, 912] (by decide +kernel) (by decide +kernel)
set_option maxRecDepth 20000 in
theorem ggL_law_X10_relation_3 : GoodIn wsL_law wsX10_relation_r4 := goodIn_r _ [913, 914, 915, 916, 917, 918, 919, 920, 921, 922, 923, 924, 925, 926, 157, 927, 928, 929, 930, 158, 931, 932, 933, 934] (by decide +kernel) (by decide +kernel)
set_option maxRecDepth 20000 in
theorem ggL_law_X10_relation_4 : GoodIn wsL_law wsX10_relation_r5 := goodIn_r _ [935, 936, 937, 938, 939, 940, 941, 942, 943, 944, 945, 946, 947, 948, 949, 950, 951, 952, 953, 954, 955, 956, 957, 958] (by decide +kernel) (by decide +kernel)
set_option maxRecDepth 20000 in
theorem ggL_law_X10_relation_5 : GoodIn wsL_law wsX10_relation_r6 := goodIn_r _ [959, 960, 961, 962, 963, 964, 965, 966, 967, 968, 969, 970] (by decide +kernel) (by decide +kernel)
set_option maxRecDepth 20000 in
theorem ggL_law_X10_relation_6 : GoodIn wsL_law wsX100 := goodIn_r _ [1105, 1106, 1107, 1108, 1109, 1110, 1111, 1112, 1113, 1114, 1115, 1116, 1117, 1118, 1119, 1120, 1121, 1122, 1123, 1124, 1125, 1126, 1127, 1128, 1129] (by decide +kernel) (by decide +kernel)
theorem ggL_law_X10_relation : GoodIn wsL_law wsX10_relation := goodIn_app ggL_law_X10_relation_h (goodIn_app (goodIn_app ggL_law_X10_relation_0 (goodIn_app ggL_law_X10_relation_1 (goodIn_app ggL_law_X10_relation_2 (goodIn_app ggL_law_X10_relation_3 (goodIn_app ggL_law_X10_relation_4 ggL_law_X10_relation_5))))) ggL_law_X10_relation_6)
set_option maxRecDepth 20000 in
theorem gL_law_X10_relation : GoodIn wsL_law (wsV RL 109 RX10 yX10_relation wsX10_relation) := goodIn_app (goodIn_of _ (by decide +kernel)) ggL_law_X10_relation
set_option maxRecDepth 20000 in
theorem ggL_law_X9_count_h : GoodIn wsL_law [Cond.code yX9_count cX9_count 2 (some .int)] := goodIn_r _ [1067] (by decide +kernel) (by decide +kernel)
set_option maxRecDepth 20000 in
theorem ggL_law_X9_count_0 : GoodIn wsL_law wsX9_count_r1 := goodIn_r _ [15, 164, 17, 23, 541, 213, 214, 215, 14, 216, 36, 38, 217, 218, 219, 220, 221, 222, 223, 502, 503, 504, 505, 41] (by decide +kernel) (by decide +kernel)
set_option maxRecDepth 20000 in
theorem ggL_law_X9_count_1 : GoodIn wsL_law wsX9_count_r2 := goodIn_r _ [506, 1068, 1069, 1070, 1071, 1072, 1073, 1074, 1075, 181, 182, 183, 184, 304, 305, 306, 307, 42, 43, 39, 308, 309, 310, 311] (by decide +kernel) (by decide +kernel)
set_option maxRecDepth 20000 in
theorem ggL_law_X9_count_2 : GoodIn wsL_law wsX9_count_r3 := goodIn_r _ [312, 313, 314, 315, 185, 2, 186, 316, 317, 318, 319, 320, 321, 1076, 1077, 1078, 1079] (by decide +kernel) (by decide +kernel)
set_option maxRecDepth 20000 in
theorem ggL_law_X9_count_3 : GoodIn wsL_law wsX90 := goodIn_r _ [1096, 1097, 1098, 1099, 1100, 1101, 1102, 1103, 1104] (by decide +kernel) (by decide +kernel)
set_option maxRecDepth 20000 in
theorem ggL_law_X9_count_4 : GoodIn wsL_law wsX70 := goodIn_r _ [1130, 1131, 1132, 1133, 1134, 1135, 1136] (by decide +kernel) (by decide +kernel)
set_option maxRecDepth 20000 in
theorem ggL_law_X9_count_5 : GoodIn wsL_law wsX80 := goodIn_r _ [1137, 1138, 1139, 1140, 1141, 1142, 1143] (by decide +kernel) (by decide +kernel)
theorem ggL_law_X9_count : GoodIn wsL_law wsX9_count := goodIn_app ggL_law_X9_count_h (goodIn_app (goodIn_app (goodIn_app (goodIn_app ggL_law_X9_count_0 (goodIn_app ggL_law_X9_count_1 ggL_law_X9_count_2)) ggL_law_X9_count_3) ggL_law_X9_count_4) ggL_law_X9_count_5)
set_option maxRecDepth 20000 in
theorem gL_law_X9_count : GoodIn wsL_law (wsV RL 110 RX9 yX9_count wsX9_count) := goodIn_app (goodIn_of _ (by decide +kernel)) ggL_law_X9_count
set_option maxRecDepth 20000 in
theorem ggL_law_X10_count_h : GoodIn wsL_law [Cond.code yX10_count cX10_count 2 (some .int)] := goodIn_r _ [1083] (by decide +kernel) (by decide +kernel)
set_option maxRecDepth 20000 in
theorem ggL_law_X10_count_0 : GoodIn wsL_law wsX10_count_r1 := goodIn_r _ [140, 202, 463, 236, 237, 238, 5, 239, 240, 241, 242, 515, 516, 517, 518, 511, 512, 513, 514, 454, 455, 456, 195, 196] (by decide +kernel) (by decide +kernel)
set_option maxRecDepth 20000 in
theorem ggL_law_X10_count_1 : GoodIn wsL_law wsX10_count_r2 := goodIn_r _ [197, 1084, 1085, 1086, 1087, 243, 244, 245, 246, 203, 204, 205, 206, 1088, 1089, 1090, 1091, 143, 335, 336, 337, 338, 339, 340] (by decide +kernel) (by decide +kernel)
set_option maxRecDepth 20000 in
theorem ggL_law_X10_count_2 : GoodIn wsL_law wsX10_count_r3 := goodIn_r _ [341, 342, 343, 344, 345, 1092, 1093, 1094, 1095] (by decide +kernel) (by decide +kernel)
set_option maxRecDepth 20000 in
theorem ggL_law_X10_count_3 : GoodIn wsL_law wsX100 := goodIn_r _ [1105, 1106, 1107, 1108, 1109, 1110, 1111, 1112, 1113, 1114, 1115, 1116, 1117, 1118, 1119, 1120, 1121, 1122, 1123, 1124, 1125, 1126, 1127, 1128, 1129] (by decide +kernel) (by decide +kernel)
theorem ggL_law_X10_count : GoodIn wsL_law wsX10_count := goodIn_app ggL_law_X10_count_h (goodIn_app (goodIn_app ggL_law_X10_count_0 (goodIn_app ggL_law_X10_count_1 ggL_law_X10_count_2)) ggL_law_X10_count_3)
set_option maxRecDepth 20000 in
theorem gL_law_X10_count : GoodIn wsL_law (wsV RL 113 RX10 yX10_count wsX10_count) := goodIn_app (goodIn_of _ (by decide +kernel)) ggL_law_X10_count
theorem dL_law_0 : decode cL_law 0 = .ok (.new 7, 3) := by decide +kernel
theorem dL_law_3 : decode cL_law 3 = .ok (.dup, 1) := by decide +kernel
theorem dL_law_4 : decode cL_law 4 = .ok (.invokespecial 9, 3) := by decide +kernel
theorem dL_law_7 : decode cL_law 7 = .ok (.astore_n 1, 1) := by decide +kernel
theorem dL_law_8 : decode cL_law 8 = .ok (.new 10, 3) := by decide +kernel
theorem dL_law_11 : decode cL_law 11 = .ok (.dup, 1) := by decide +kernel
theorem dL_law_12 : decode cL_law 12 = .ok (.invokespecial 12, 3) := by decide +kernel
theorem dL_law_15 : decode cL_law 15 = .ok (.astore_n 2, 1) := by decide +kernel
theorem dL_law_16 : decode cL_law 16 = .ok (.iconst 0, 1) := by decide +kernel
theorem dL_law_17 : decode cL_law 17 = .ok (.istore_n 3, 1) := by decide +kernel
theorem dL_law_18 : decode cL_law 18 = .ok (.iload_n 3, 1) := by decide +kernel
theorem dL_law_19 : decode cL_law 19 = .ok (.aload_n 0, 1) := by decide +kernel
theorem dL_law_20 : decode cL_law 20 = .ok (.arraylength, 1) := by decide +kernel
theorem dL_law_21 : decode cL_law 21 = .ok (.iconst 5, 1) := by decide +kernel
theorem dL_law_22 : decode cL_law 22 = .ok (.isub, 1) := by decide +kernel
theorem dL_law_23 : decode cL_law 23 = .ok (.if_icmp .gt 781, 3) := by decide +kernel
theorem dL_law_26 : decode cL_law 26 = .ok (.aload_n 0, 1) := by decide +kernel
theorem dL_law_27 : decode cL_law 27 = .ok (.iload_n 3, 1) := by decide +kernel
theorem dL_law_28 : decode cL_law 28 = .ok (.iaload, 1) := by decide +kernel
theorem dL_law_29 : decode cL_law 29 = .ok (.bipush 31, 2) := by decide +kernel
theorem dL_law_31 : decode cL_law 31 = .ok (.iand, 1) := by decide +kernel
theorem dL_law_32 : decode cL_law 32 = .ok (.tableswitch 766 0 23 #[112, 135, 168, 201, 234, 257, 270, 293, 316, 369, 394, 407, 420, 433, 446, 479, 512, 545, 578, 611, 644, 677, 710, 743], 112) := by decide +kernel
theorem dL_law_144 : decode cL_law 144 = .ok (.aload_n 1, 1) := by decide +kernel
theorem dL_law_145 : decode cL_law 145 = .ok (.aload_n 0, 1) := by decide +kernel
theorem dL_law_146 : decode cL_law 146 = .ok (.iload_n 3, 1) := by decide +kernel
theorem dL_law_147 : decode cL_law 147 = .ok (.iconst 1, 1) := by decide +kernel
theorem dL_law_148 : decode cL_law 148 = .ok (.iadd, 1) := by decide +kernel
theorem dL_law_149 : decode cL_law 149 = .ok (.iaload, 1) := by decide +kernel
theorem dL_law_150 : decode cL_law 150 = .ok (.invokevirtual 13, 3) := by decide +kernel
theorem dL_law_153 : decode cL_law 153 = .ok (.aload_n 2, 1) := by decide +kernel
theorem dL_law_154 : decode cL_law 154 = .ok (.aload_n 0, 1) := by decide +kernel
theorem dL_law_155 : decode cL_law 155 = .ok (.iload_n 3, 1) := by decide +kernel
theorem dL_law_156 : decode cL_law 156 = .ok (.iconst 1, 1) := by decide +kernel
theorem dL_law_157 : decode cL_law 157 = .ok (.iadd, 1) := by decide +kernel
theorem dL_law_158 : decode cL_law 158 = .ok (.iaload, 1) := by decide +kernel
theorem dL_law_159 : decode cL_law 159 = .ok (.invokevirtual 17, 3) := by decide +kernel
theorem dL_law_162 : decode cL_law 162 = .ok (.if_icmp .eq 636, 3) := by decide +kernel
theorem dL_law_165 : decode cL_law 165 = .ok (.iconst 0, 1) := by decide +kernel
theorem dL_law_166 : decode cL_law 166 = .ok (.ireturn, 1) := by decide +kernel
theorem dL_law_167 : decode cL_law 167 = .ok (.aload_n 1, 1) := by decide +kernel
theorem dL_law_168 : decode cL_law 168 = .ok (.aload_n 0, 1) := by decide +kernel
theorem dL_law_169 : decode cL_law 169 = .ok (.iload_n 3, 1) := by decide +kernel
theorem dL_law_170 : decode cL_law 170 = .ok (.iconst 1, 1) := by decide +kernel
theorem dL_law_171 : decode cL_law 171 = .ok (.iadd, 1) := by decide +kernel
theorem dL_law_172 : decode cL_law 172 = .ok (.iaload, 1) := by decide +kernel
theorem dL_law_173 : decode cL_law 173 = .ok (.aload_n 0, 1) := by decide +kernel
theorem dL_law_174 : decode cL_law 174 = .ok (.iload_n 3, 1) := by decide +kernel
theorem dL_law_175 : decode cL_law 175 = .ok (.iconst 2, 1) := by decide +kernel
theorem dL_law_176 : decode cL_law 176 = .ok (.iadd, 1) := by decide +kernel
theorem dL_law_177 : decode cL_law 177 = .ok (.iaload, 1) := by decide +kernel
theorem dL_law_178 : decode cL_law 178 = .ok (.invokevirtual 18, 3) := by decide +kernel
theorem dL_law_181 : decode cL_law 181 = .ok (.aload_n 2, 1) := by decide +kernel
theorem dL_law_182 : decode cL_law 182 = .ok (.aload_n 0, 1) := by decide +kernel
theorem dL_law_183 : decode cL_law 183 = .ok (.iload_n 3, 1) := by decide +kernel
theorem dL_law_184 : decode cL_law 184 = .ok (.iconst 1, 1) := by decide +kernel
theorem dL_law_185 : decode cL_law 185 = .ok (.iadd, 1) := by decide +kernel
theorem dL_law_186 : decode cL_law 186 = .ok (.iaload, 1) := by decide +kernel
theorem dL_law_187 : decode cL_law 187 = .ok (.aload_n 0, 1) := by decide +kernel
theorem dL_law_188 : decode cL_law 188 = .ok (.iload_n 3, 1) := by decide +kernel
theorem dL_law_189 : decode cL_law 189 = .ok (.iconst 2, 1) := by decide +kernel
theorem dL_law_190 : decode cL_law 190 = .ok (.iadd, 1) := by decide +kernel
theorem dL_law_191 : decode cL_law 191 = .ok (.iaload, 1) := by decide +kernel
theorem dL_law_192 : decode cL_law 192 = .ok (.invokevirtual 22, 3) := by decide +kernel
theorem dL_law_195 : decode cL_law 195 = .ok (.if_icmp .eq 603, 3) := by decide +kernel
theorem dL_law_198 : decode cL_law 198 = .ok (.iconst 0, 1) := by decide +kernel
theorem dL_law_199 : decode cL_law 199 = .ok (.ireturn, 1) := by decide +kernel
theorem dL_law_200 : decode cL_law 200 = .ok (.aload_n 1, 1) := by decide +kernel
theorem dL_law_201 : decode cL_law 201 = .ok (.aload_n 0, 1) := by decide +kernel
theorem dL_law_202 : decode cL_law 202 = .ok (.iload_n 3, 1) := by decide +kernel
theorem dL_law_203 : decode cL_law 203 = .ok (.iconst 1, 1) := by decide +kernel
theorem dL_law_204 : decode cL_law 204 = .ok (.iadd, 1) := by decide +kernel
theorem dL_law_205 : decode cL_law 205 = .ok (.iaload, 1) := by decide +kernel
theorem dL_law_206 : decode cL_law 206 = .ok (.aload_n 0, 1) := by decide +kernel
theorem dL_law_207 : decode cL_law 207 = .ok (.iload_n 3, 1) := by decide +kernel
theorem dL_law_208 : decode cL_law 208 = .ok (.iconst 2, 1) := by decide +kernel
theorem dL_law_209 : decode cL_law 209 = .ok (.iadd, 1) := by decide +kernel
theorem dL_law_210 : decode cL_law 210 = .ok (.iaload, 1) := by decide +kernel
theorem dL_law_211 : decode cL_law 211 = .ok (.invokevirtual 23, 3) := by decide +kernel
theorem dL_law_214 : decode cL_law 214 = .ok (.aload_n 2, 1) := by decide +kernel
theorem dL_law_215 : decode cL_law 215 = .ok (.aload_n 0, 1) := by decide +kernel
theorem dL_law_216 : decode cL_law 216 = .ok (.iload_n 3, 1) := by decide +kernel
theorem dL_law_217 : decode cL_law 217 = .ok (.iconst 1, 1) := by decide +kernel
theorem dL_law_218 : decode cL_law 218 = .ok (.iadd, 1) := by decide +kernel
theorem dL_law_219 : decode cL_law 219 = .ok (.iaload, 1) := by decide +kernel
theorem dL_law_220 : decode cL_law 220 = .ok (.aload_n 0, 1) := by decide +kernel
theorem dL_law_221 : decode cL_law 221 = .ok (.iload_n 3, 1) := by decide +kernel
theorem dL_law_222 : decode cL_law 222 = .ok (.iconst 2, 1) := by decide +kernel
theorem dL_law_223 : decode cL_law 223 = .ok (.iadd, 1) := by decide +kernel
theorem dL_law_224 : decode cL_law 224 = .ok (.iaload, 1) := by decide +kernel
theorem dL_law_225 : decode cL_law 225 = .ok (.invokevirtual 26, 3) := by decide +kernel
theorem dL_law_228 : decode cL_law 228 = .ok (.if_icmp .eq 570, 3) := by decide +kernel
theorem dL_law_231 : decode cL_law 231 = .ok (.iconst 0, 1) := by decide +kernel
theorem dL_law_232 : decode cL_law 232 = .ok (.ireturn, 1) := by decide +kernel
theorem dL_law_233 : decode cL_law 233 = .ok (.aload_n 1, 1) := by decide +kernel
theorem dL_law_234 : decode cL_law 234 = .ok (.aload_n 0, 1) := by decide +kernel
theorem dL_law_235 : decode cL_law 235 = .ok (.iload_n 3, 1) := by decide +kernel
theorem dL_law_236 : decode cL_law 236 = .ok (.iconst 1, 1) := by decide +kernel
theorem dL_law_237 : decode cL_law 237 = .ok (.iadd, 1) := by decide +kernel
theorem dL_law_238 : decode cL_law 238 = .ok (.iaload, 1) := by decide +kernel
theorem dL_law_239 : decode cL_law 239 = .ok (.aload_n 0, 1) := by decide +kernel
theorem dL_law_240 : decode cL_law 240 = .ok (.iload_n 3, 1) := by decide +kernel
theorem dL_law_241 : decode cL_law 241 = .ok (.iconst 2, 1) := by decide +kernel
theorem dL_law_242 : decode cL_law 242 = .ok (.iadd, 1) := by decide +kernel
theorem dL_law_243 : decode cL_law 243 = .ok (.iaload, 1) := by decide +kernel
theorem dL_law_244 : decode cL_law 244 = .ok (.invokevirtual 27, 3) := by decide +kernel
theorem dL_law_247 : decode cL_law 247 = .ok (.aload_n 2, 1) := by decide +kernel
theorem dL_law_248 : decode cL_law 248 = .ok (.aload_n 0, 1) := by decide +kernel
theorem dL_law_249 : decode cL_law 249 = .ok (.iload_n 3, 1) := by decide +kernel
theorem dL_law_250 : decode cL_law 250 = .ok (.iconst 1, 1) := by decide +kernel
theorem dL_law_251 : decode cL_law 251 = .ok (.iadd, 1) := by decide +kernel
theorem dL_law_252 : decode cL_law 252 = .ok (.iaload, 1) := by decide +kernel
theorem dL_law_253 : decode cL_law 253 = .ok (.aload_n 0, 1) := by decide +kernel
theorem dL_law_254 : decode cL_law 254 = .ok (.iload_n 3, 1) := by decide +kernel
theorem dL_law_255 : decode cL_law 255 = .ok (.iconst 2, 1) := by decide +kernel
theorem dL_law_256 : decode cL_law 256 = .ok (.iadd, 1) := by decide +kernel
theorem dL_law_257 : decode cL_law 257 = .ok (.iaload, 1) := by decide +kernel
theorem dL_law_258 : decode cL_law 258 = .ok (.invokevirtual 30, 3) := by decide +kernel
theorem dL_law_261 : decode cL_law 261 = .ok (.if_icmp .eq 537, 3) := by decide +kernel
theorem dL_law_264 : decode cL_law 264 = .ok (.iconst 0, 1) := by decide +kernel
theorem dL_law_265 : decode cL_law 265 = .ok (.ireturn, 1) := by decide +kernel
theorem dL_law_266 : decode cL_law 266 = .ok (.aload_n 1, 1) := by decide +kernel
theorem dL_law_267 : decode cL_law 267 = .ok (.aload_n 0, 1) := by decide +kernel
theorem dL_law_268 : decode cL_law 268 = .ok (.iload_n 3, 1) := by decide +kernel
theorem dL_law_269 : decode cL_law 269 = .ok (.iconst 1, 1) := by decide +kernel
theorem dL_law_270 : decode cL_law 270 = .ok (.iadd, 1) := by decide +kernel
theorem dL_law_271 : decode cL_law 271 = .ok (.iaload, 1) := by decide +kernel
theorem dL_law_272 : decode cL_law 272 = .ok (.invokevirtual 31, 3) := by decide +kernel
theorem dL_law_275 : decode cL_law 275 = .ok (.aload_n 2, 1) := by decide +kernel
theorem dL_law_276 : decode cL_law 276 = .ok (.aload_n 0, 1) := by decide +kernel
theorem dL_law_277 : decode cL_law 277 = .ok (.iload_n 3, 1) := by decide +kernel
theorem dL_law_278 : decode cL_law 278 = .ok (.iconst 1, 1) := by decide +kernel
theorem dL_law_279 : decode cL_law 279 = .ok (.iadd, 1) := by decide +kernel
theorem dL_law_280 : decode cL_law 280 = .ok (.iaload, 1) := by decide +kernel
theorem dL_law_281 : decode cL_law 281 = .ok (.invokevirtual 34, 3) := by decide +kernel
theorem dL_law_284 : decode cL_law 284 = .ok (.if_icmp .eq 514, 3) := by decide +kernel
theorem dL_law_287 : decode cL_law 287 = .ok (.iconst 0, 1) := by decide +kernel
theorem dL_law_288 : decode cL_law 288 = .ok (.ireturn, 1) := by decide +kernel
theorem dL_law_289 : decode cL_law 289 = .ok (.aload_n 1, 1) := by decide +kernel
theorem dL_law_290 : decode cL_law 290 = .ok (.invokevirtual 35, 3) := by decide +kernel
theorem dL_law_293 : decode cL_law 293 = .ok (.aload_n 2, 1) := by decide +kernel
theorem dL_law_294 : decode cL_law 294 = .ok (.invokevirtual 39, 3) := by decide +kernel
theorem dL_law_297 : decode cL_law 297 = .ok (.if_icmp .eq 501, 3) := by decide +kernel
theorem dL_law_300 : decode cL_law 300 = .ok (.iconst 0, 1) := by decide +kernel
theorem dL_law_301 : decode cL_law 301 = .ok (.ireturn, 1) := by decide +kernel
theorem dL_law_302 : decode cL_law 302 = .ok (.aload_n 1, 1) := by decide +kernel
theorem dL_law_303 : decode cL_law 303 = .ok (.aload_n 0, 1) := by decide +kernel
theorem dL_law_304 : decode cL_law 304 = .ok (.iload_n 3, 1) := by decide +kernel
theorem dL_law_305 : decode cL_law 305 = .ok (.iconst 1, 1) := by decide +kernel
theorem dL_law_306 : decode cL_law 306 = .ok (.iadd, 1) := by decide +kernel
theorem dL_law_307 : decode cL_law 307 = .ok (.iaload, 1) := by decide +kernel
theorem dL_law_308 : decode cL_law 308 = .ok (.invokevirtual 40, 3) := by decide +kernel
theorem dL_law_311 : decode cL_law 311 = .ok (.aload_n 2, 1) := by decide +kernel
theorem dL_law_312 : decode cL_law 312 = .ok (.aload_n 0, 1) := by decide +kernel
theorem dL_law_313 : decode cL_law 313 = .ok (.iload_n 3, 1) := by decide +kernel
theorem dL_law_314 : decode cL_law 314 = .ok (.iconst 1, 1) := by decide +kernel
theorem dL_law_315 : decode cL_law 315 = .ok (.iadd, 1) := by decide +kernel
theorem dL_law_316 : decode cL_law 316 = .ok (.iaload, 1) := by decide +kernel
theorem dL_law_317 : decode cL_law 317 = .ok (.invokevirtual 43, 3) := by decide +kernel
theorem dL_law_320 : decode cL_law 320 = .ok (.if_icmp .eq 478, 3) := by decide +kernel
theorem dL_law_323 : decode cL_law 323 = .ok (.iconst 0, 1) := by decide +kernel
theorem dL_law_324 : decode cL_law 324 = .ok (.ireturn, 1) := by decide +kernel
theorem dL_law_325 : decode cL_law 325 = .ok (.aload_n 1, 1) := by decide +kernel
theorem dL_law_326 : decode cL_law 326 = .ok (.aload_n 0, 1) := by decide +kernel
theorem dL_law_327 : decode cL_law 327 = .ok (.iload_n 3, 1) := by decide +kernel
theorem dL_law_328 : decode cL_law 328 = .ok (.iconst 1, 1) := by decide +kernel
theorem dL_law_329 : decode cL_law 329 = .ok (.iadd, 1) := by decide +kernel
theorem dL_law_330 : decode cL_law 330 = .ok (.iaload, 1) := by decide +kernel
theorem dL_law_331 : decode cL_law 331 = .ok (.invokevirtual 44, 3) := by decide +kernel
theorem dL_law_334 : decode cL_law 334 = .ok (.aload_n 2, 1) := by decide +kernel
theorem dL_law_335 : decode cL_law 335 = .ok (.aload_n 0, 1) := by decide +kernel
theorem dL_law_336 : decode cL_law 336 = .ok (.iload_n 3, 1) := by decide +kernel
theorem dL_law_337 : decode cL_law 337 = .ok (.iconst 1, 1) := by decide +kernel
theorem dL_law_338 : decode cL_law 338 = .ok (.iadd, 1) := by decide +kernel
theorem dL_law_339 : decode cL_law 339 = .ok (.iaload, 1) := by decide +kernel
theorem dL_law_340 : decode cL_law 340 = .ok (.invokevirtual 47, 3) := by decide +kernel
theorem dL_law_343 : decode cL_law 343 = .ok (.if_icmp .eq 455, 3) := by decide +kernel
theorem dL_law_346 : decode cL_law 346 = .ok (.iconst 0, 1) := by decide +kernel
theorem dL_law_347 : decode cL_law 347 = .ok (.ireturn, 1) := by decide +kernel
theorem dL_law_348 : decode cL_law 348 = .ok (.aload_n 1, 1) := by decide +kernel
theorem dL_law_349 : decode cL_law 349 = .ok (.aload_n 0, 1) := by decide +kernel
theorem dL_law_350 : decode cL_law 350 = .ok (.iload_n 3, 1) := by decide +kernel
theorem dL_law_351 : decode cL_law 351 = .ok (.iconst 1, 1) := by decide +kernel
theorem dL_law_352 : decode cL_law 352 = .ok (.iadd, 1) := by decide +kernel
theorem dL_law_353 : decode cL_law 353 = .ok (.iaload, 1) := by decide +kernel
theorem dL_law_354 : decode cL_law 354 = .ok (.aload_n 0, 1) := by decide +kernel
theorem dL_law_355 : decode cL_law 355 = .ok (.iload_n 3, 1) := by decide +kernel
theorem dL_law_356 : decode cL_law 356 = .ok (.iconst 2, 1) := by decide +kernel
theorem dL_law_357 : decode cL_law 357 = .ok (.iadd, 1) := by decide +kernel
theorem dL_law_358 : decode cL_law 358 = .ok (.iaload, 1) := by decide +kernel
theorem dL_law_359 : decode cL_law 359 = .ok (.aload_n 0, 1) := by decide +kernel
theorem dL_law_360 : decode cL_law 360 = .ok (.iload_n 3, 1) := by decide +kernel
theorem dL_law_361 : decode cL_law 361 = .ok (.iconst 3, 1) := by decide +kernel
theorem dL_law_362 : decode cL_law 362 = .ok (.iadd, 1) := by decide +kernel
theorem dL_law_363 : decode cL_law 363 = .ok (.iaload, 1) := by decide +kernel
theorem dL_law_364 : decode cL_law 364 = .ok (.aload_n 0, 1) := by decide +kernel
theorem dL_law_365 : decode cL_law 365 = .ok (.iload_n 3, 1) := by decide +kernel
theorem dL_law_366 : decode cL_law 366 = .ok (.iconst 4, 1) := by decide +kernel
theorem dL_law_367 : decode cL_law 367 = .ok (.iadd, 1) := by decide +kernel
theorem dL_law_368 : decode cL_law 368 = .ok (.iaload, 1) := by decide +kernel
theorem dL_law_369 : decode cL_law 369 = .ok (.invokevirtual 48, 3) := by decide +kernel
theorem dL_law_372 : decode cL_law 372 = .ok (.aload_n 2, 1) := by decide +kernel
theorem dL_law_373 : decode cL_law 373 = .ok (.aload_n 0, 1) := by decide +kernel
theorem dL_law_374 : decode cL_law 374 = .ok (.iload_n 3, 1) := by decide +kernel
theorem dL_law_375 : decode cL_law 375 = .ok (.iconst 1, 1) := by decide +kernel
theorem dL_law_376 : decode cL_law 376 = .ok (.iadd, 1) := by decide +kernel
theorem dL_law_377 : decode cL_law 377 = .ok (.iaload, 1) := by decide +kernel
theorem dL_law_378 : decode cL_law 378 = .ok (.aload_n 0, 1) := by decide +kernel
theorem dL_law_379 : decode cL_law 379 = .ok (.iload_n 3, 1) := by decide +kernel
theorem dL_law_380 : decode cL_law 380 = .ok (.iconst 2, 1) := by decide +kernel
theorem dL_law_381 : decode cL_law 381 = .ok (.iadd, 1) := by decide +kernel
theorem dL_law_382 : decode cL_law 382 = .ok (.iaload, 1) := by decide +kernel
theorem dL_law_383 : decode cL_law 383 = .ok (.aload_n 0, 1) := by decide +kernel
theorem dL_law_384 : decode cL_law 384 = .ok (.iload_n 3, 1) := by decide +kernel
theorem dL_law_385 : decode cL_law 385 = .ok (.iconst 3, 1) := by decide +kernel
theorem dL_law_386 : decode cL_law 386 = .ok (.iadd, 1) := by decide +kernel
theorem dL_law_387 : decode cL_law 387 = .ok (.iaload, 1) := by decide +kernel
theorem dL_law_388 : decode cL_law 388 = .ok (.aload_n 0, 1) := by decide +kernel
theorem dL_law_389 : decode cL_law 389 = .ok (.iload_n 3, 1) := by decide +kernel
theorem dL_law_390 : decode cL_law 390 = .ok (.iconst 4, 1) := by decide +kernel
theorem dL_law_391 : decode cL_law 391 = .ok (.iadd, 1) := by decide +kernel
theorem dL_law_392 : decode cL_law 392 = .ok (.iaload, 1) := by decide +kernel
theorem dL_law_393 : decode cL_law 393 = .ok (.invokevirtual 52, 3) := by decide +kernel
theorem dL_law_396 : decode cL_law 396 = .ok (.if_icmp .eq 402, 3) := by decide +kernel
theorem dL_law_399 : decode cL_law 399 = .ok (.iconst 0, 1) := by decide +kernel
theorem dL_law_400 : decode cL_law 400 = .ok (.ireturn, 1) := by decide +kernel
theorem dL_law_401 : decode cL_law 401 = .ok (.aload_n 1, 1) := by decide +kernel
theorem dL_law_402 : decode cL_law 402 = .ok (.aload_n 0, 1) := by decide +kernel
theorem dL_law_403 : decode cL_law 403 = .ok (.iload_n 3, 1) := by decide +kernel
theorem dL_law_404 : decode cL_law 404 = .ok (.iconst 1, 1) := by decide +kernel
theorem dL_law_405 : decode cL_law 405 = .ok (.iadd, 1) := by decide +kernel
theorem dL_law_406 : decode cL_law 406 = .ok (.iaload, 1) := by decide +kernel
theorem dL_law_407 : decode cL_law 407 = .ok (.i2c, 1) := by decide +kernel
theorem dL_law_408 : decode cL_law 408 = .ok (.invokevirtual 53, 3) := by decide +kernel
theorem dL_law_411 : decode cL_law 411 = .ok (.aload_n 2, 1) := by decide +kernel
theorem dL_law_412 : decode cL_law 412 = .ok (.aload_n 0, 1) := by decide +kernel
theorem dL_law_413 : decode cL_law 413 = .ok (.iload_n 3, 1) := by decide +kernel
theorem dL_law_414 : decode cL_law 414 = .ok (.iconst 1, 1) := by decide +kernel
theorem dL_law_415 : decode cL_law 415 = .ok (.iadd, 1) := by decide +kernel
theorem dL_law_416 : decode cL_law 416 = .ok (.iaload, 1) := by decide +kernel
theorem dL_law_417 : decode cL_law 417 = .ok (.i2c, 1) := by decide +kernel
theorem dL_law_418 : decode cL_law 418 = .ok (.invokevirtual 57, 3) := by decide +kernel
theorem dL_law_421 : decode cL_law 421 = .ok (.if_icmp .eq 377, 3) := by decide +kernel
theorem dL_law_424 : decode cL_law 424 = .ok (.iconst 0, 1) := by decide +kernel
theorem dL_law_425 : decode cL_law 425 = .ok (.ireturn, 1) := by decide +kernel
theorem dL_law_426 : decode cL_law 426 = .ok (.aload_n 1, 1) := by decide +kernel
theorem dL_law_427 : decode cL_law 427 = .ok (.invokevirtual 58, 3) := by decide +kernel
theorem dL_law_430 : decode cL_law 430 = .ok (.aload_n 2, 1) := by decide +kernel
theorem dL_law_431 : decode cL_law 431 = .ok (.invokevirtual 61, 3) := by decide +kernel
theorem dL_law_434 : decode cL_law 434 = .ok (.if_icmp .eq 364, 3) := by decide +kernel
theorem dL_law_437 : decode cL_law 437 = .ok (.iconst 0, 1) := by decide +kernel
theorem dL_law_438 : decode cL_law 438 = .ok (.ireturn, 1) := by decide +kernel
theorem dL_law_439 : decode cL_law 439 = .ok (.aload_n 1, 1) := by decide +kernel
theorem dL_law_440 : decode cL_law 440 = .ok (.invokevirtual 62, 3) := by decide +kernel
theorem dL_law_443 : decode cL_law 443 = .ok (.aload_n 2, 1) := by decide +kernel
theorem dL_law_444 : decode cL_law 444 = .ok (.invokevirtual 65, 3) := by decide +kernel
theorem dL_law_447 : decode cL_law 447 = .ok (.if_icmp .eq 351, 3) := by decide +kernel
theorem dL_law_450 : decode cL_law 450 = .ok (.iconst 0, 1) := by decide +kernel
theorem dL_law_451 : decode cL_law 451 = .ok (.ireturn, 1) := by decide +kernel
theorem dL_law_452 : decode cL_law 452 = .ok (.aload_n 1, 1) := by decide +kernel
theorem dL_law_453 : decode cL_law 453 = .ok (.invokevirtual 66, 3) := by decide +kernel
theorem dL_law_456 : decode cL_law 456 = .ok (.aload_n 2, 1) := by decide +kernel
theorem dL_law_457 : decode cL_law 457 = .ok (.invokevirtual 69, 3) := by decide +kernel
theorem dL_law_460 : decode cL_law 460 = .ok (.if_icmp .eq 338, 3) := by decide +kernel
theorem dL_law_463 : decode cL_law 463 = .ok (.iconst 0, 1) := by decide +kernel
theorem dL_law_464 : decode cL_law 464 = .ok (.ireturn, 1) := by decide +kernel
theorem dL_law_465 : decode cL_law 465 = .ok (.aload_n 1, 1) := by decide +kernel
theorem dL_law_466 : decode cL_law 466 = .ok (.invokevirtual 70, 3) := by decide +kernel
theorem dL_law_469 : decode cL_law 469 = .ok (.aload_n 2, 1) := by decide +kernel
theorem dL_law_470 : decode cL_law 470 = .ok (.invokevirtual 73, 3) := by decide +kernel
theorem dL_law_473 : decode cL_law 473 = .ok (.if_icmp .eq 325, 3) := by decide +kernel
theorem dL_law_476 : decode cL_law 476 = .ok (.iconst 0, 1) := by decide +kernel
theorem dL_law_477 : decode cL_law 477 = .ok (.ireturn, 1) := by decide +kernel
theorem dL_law_478 : decode cL_law 478 = .ok (.aload_n 1, 1) := by decide +kernel
theorem dL_law_479 : decode cL_law 479 = .ok (.aload_n 0, 1) := by decide +kernel
theorem dL_law_480 : decode cL_law 480 = .ok (.iload_n 3, 1) := by decide +kernel
theorem dL_law_481 : decode cL_law 481 = .ok (.iconst 1, 1) := by decide +kernel
theorem dL_law_482 : decode cL_law 482 = .ok (.iadd, 1) := by decide +kernel
theorem dL_law_483 : decode cL_law 483 = .ok (.iaload, 1) := by decide +kernel
theorem dL_law_484 : decode cL_law 484 = .ok (.aload_n 0, 1) := by decide +kernel
theorem dL_law_485 : decode cL_law 485 = .ok (.iload_n 3, 1) := by decide +kernel
theorem dL_law_486 : decode cL_law 486 = .ok (.iconst 2, 1) := by decide +kernel
theorem dL_law_487 : decode cL_law 487 = .ok (.iadd, 1) := by decide +kernel
theorem dL_law_488 : decode cL_law 488 = .ok (.iaload, 1) := by decide +kernel
theorem dL_law_489 : decode cL_law 489 = .ok (.invokevirtual 74, 3) := by decide +kernel
theorem dL_law_492 : decode cL_law 492 = .ok (.aload_n 2, 1) := by decide +kernel
theorem dL_law_493 : decode cL_law 493 = .ok (.aload_n 0, 1) := by decide +kernel
theorem dL_law_494 : decode cL_law 494 = .ok (.iload_n 3, 1) := by decide +kernel
theorem dL_law_495 : decode cL_law 495 = .ok (.iconst 1, 1) := by decide +kernel
theorem dL_law_496 : decode cL_law 496 = .ok (.iadd, 1) := by decide +kernel
theorem dL_law_497 : decode cL_law 497 = .ok (.iaload, 1) := by decide +kernel
theorem dL_law_498 : decode cL_law 498 = .ok (.aload_n 0, 1) := by decide +kernel
theorem dL_law_499 : decode cL_law 499 = .ok (.iload_n 3, 1) := by decide +kernel
theorem dL_law_500 : decode cL_law 500 = .ok (.iconst 2, 1) := by decide +kernel
theorem dL_law_501 : decode cL_law 501 = .ok (.iadd, 1) := by decide +kernel
theorem dL_law_502 : decode cL_law 502 = .ok (.iaload, 1) := by decide +kernel
theorem dL_law_503 : decode cL_law 503 = .ok (.invokevirtual 77, 3) := by decide +kernel
theorem dL_law_506 : decode cL_law 506 = .ok (.if_icmp .eq 292, 3) := by decide +kernel
theorem dL_law_509 : decode cL_law 509 = .ok (.iconst 0, 1) := by decide +kernel
theorem dL_law_510 : decode cL_law 510 = .ok (.ireturn, 1) := by decide +kernel
theorem dL_law_511 : decode cL_law 511 = .ok (.aload_n 1, 1) := by decide +kernel
theorem dL_law_512 : decode cL_law 512 = .ok (.aload_n 0, 1) := by decide +kernel
theorem dL_law_513 : decode cL_law 513 = .ok (.iload_n 3, 1) := by decide +kernel
theorem dL_law_514 : decode cL_law 514 = .ok (.iconst 1, 1) := by decide +kernel
theorem dL_law_515 : decode cL_law 515 = .ok (.iadd, 1) := by decide +kernel
theorem dL_law_516 : decode cL_law 516 = .ok (.iaload, 1) := by decide +kernel
theorem dL_law_517 : decode cL_law 517 = .ok (.aload_n 0, 1) := by decide +kernel
theorem dL_law_518 : decode cL_law 518 = .ok (.iload_n 3, 1) := by decide +kernel
theorem dL_law_519 : decode cL_law 519 = .ok (.iconst 2, 1) := by decide +kernel
theorem dL_law_520 : decode cL_law 520 = .ok (.iadd, 1) := by decide +kernel
theorem dL_law_521 : decode cL_law 521 = .ok (.iaload, 1) := by decide +kernel
theorem dL_law_522 : decode cL_law 522 = .ok (.invokevirtual 78, 3) := by decide +kernel
theorem dL_law_525 : decode cL_law 525 = .ok (.aload_n 2, 1) := by decide +kernel
theorem dL_law_526 : decode cL_law 526 = .ok (.aload_n 0, 1) := by decide +kernel
theorem dL_law_527 : decode cL_law 527 = .ok (.iload_n 3, 1) := by decide +kernel
theorem dL_law_528 : decode cL_law 528 = .ok (.iconst 1, 1) := by decide +kernel
theorem dL_law_529 : decode cL_law 529 = .ok (.iadd, 1) := by decide +kernel
theorem dL_law_530 : decode cL_law 530 = .ok (.iaload, 1) := by decide +kernel
theorem dL_law_531 : decode cL_law 531 = .ok (.aload_n 0, 1) := by decide +kernel
theorem dL_law_532 : decode cL_law 532 = .ok (.iload_n 3, 1) := by decide +kernel
theorem dL_law_533 : decode cL_law 533 = .ok (.iconst 2, 1) := by decide +kernel
theorem dL_law_534 : decode cL_law 534 = .ok (.iadd, 1) := by decide +kernel
theorem dL_law_535 : decode cL_law 535 = .ok (.iaload, 1) := by decide +kernel
theorem dL_law_536 : decode cL_law 536 = .ok (.invokevirtual 81, 3) := by decide +kernel
theorem dL_law_539 : decode cL_law 539 = .ok (.if_icmp .eq 259, 3) := by decide +kernel
theorem dL_law_542 : decode cL_law 542 = .ok (.iconst 0, 1) := by decide +kernel
theorem dL_law_543 : decode cL_law 543 = .ok (.ireturn, 1) := by decide +kernel
theorem dL_law_544 : decode cL_law 544 = .ok (.aload_n 1, 1) := by decide +kernel
theorem dL_law_545 : decode cL_law 545 = .ok (.aload_n 0, 1) := by decide +kernel
theorem dL_law_546 : decode cL_law 546 = .ok (.iload_n 3, 1) := by decide +kernel
theorem dL_law_547 : decode cL_law 547 = .ok (.iconst 1, 1) := by decide +kernel
theorem dL_law_548 : decode cL_law 548 = .ok (.iadd, 1) := by decide +kernel
theorem dL_law_549 : decode cL_law 549 = .ok (.iaload, 1) := by decide +kernel
theorem dL_law_550 : decode cL_law 550 = .ok (.aload_n 0, 1) := by decide +kernel
theorem dL_law_551 : decode cL_law 551 = .ok (.iload_n 3, 1) := by decide +kernel
theorem dL_law_552 : decode cL_law 552 = .ok (.iconst 2, 1) := by decide +kernel
theorem dL_law_553 : decode cL_law 553 = .ok (.iadd, 1) := by decide +kernel
theorem dL_law_554 : decode cL_law 554 = .ok (.iaload, 1) := by decide +kernel
theorem dL_law_555 : decode cL_law 555 = .ok (.invokevirtual 82, 3) := by decide +kernel
theorem dL_law_558 : decode cL_law 558 = .ok (.aload_n 2, 1) := by decide +kernel
theorem dL_law_559 : decode cL_law 559 = .ok (.aload_n 0, 1) := by decide +kernel
theorem dL_law_560 : decode cL_law 560 = .ok (.iload_n 3, 1) := by decide +kernel
theorem dL_law_561 : decode cL_law 561 = .ok (.iconst 1, 1) := by decide +kernel
theorem dL_law_562 : decode cL_law 562 = .ok (.iadd, 1) := by decide +kernel
theorem dL_law_563 : decode cL_law 563 = .ok (.iaload, 1) := by decide +kernel
theorem dL_law_564 : decode cL_law 564 = .ok (.aload_n 0, 1) := by decide +kernel
theorem dL_law_565 : decode cL_law 565 = .ok (.iload_n 3, 1) := by decide +kernel
theorem dL_law_566 : decode cL_law 566 = .ok (.iconst 2, 1) := by decide +kernel
theorem dL_law_567 : decode cL_law 567 = .ok (.iadd, 1) := by decide +kernel
theorem dL_law_568 : decode cL_law 568 = .ok (.iaload, 1) := by decide +kernel
theorem dL_law_569 : decode cL_law 569 = .ok (.invokevirtual 85, 3) := by decide +kernel
theorem dL_law_572 : decode cL_law 572 = .ok (.if_icmp .eq 226, 3) := by decide +kernel
theorem dL_law_575 : decode cL_law 575 = .ok (.iconst 0, 1) := by decide +kernel
theorem dL_law_576 : decode cL_law 576 = .ok (.ireturn, 1) := by decide +kernel
theorem dL_law_577 : decode cL_law 577 = .ok (.aload_n 1, 1) := by decide +kernel
theorem dL_law_578 : decode cL_law 578 = .ok (.aload_n 0, 1) := by decide +kernel
theorem dL_law_579 : decode cL_law 579 = .ok (.iload_n 3, 1) := by decide +kernel
theorem dL_law_580 : decode cL_law 580 = .ok (.iconst 1, 1) := by decide +kernel
theorem dL_law_581 : decode cL_law 581 = .ok (.iadd, 1) := by decide +kernel
theorem dL_law_582 : decode cL_law 582 = .ok (.iaload, 1) := by decide +kernel
theorem dL_law_583 : decode cL_law 583 = .ok (.aload_n 0, 1) := by decide +kernel
theorem dL_law_584 : decode cL_law 584 = .ok (.iload_n 3, 1) := by decide +kernel
theorem dL_law_585 : decode cL_law 585 = .ok (.iconst 2, 1) := by decide +kernel
theorem dL_law_586 : decode cL_law 586 = .ok (.iadd, 1) := by decide +kernel
theorem dL_law_587 : decode cL_law 587 = .ok (.iaload, 1) := by decide +kernel
theorem dL_law_588 : decode cL_law 588 = .ok (.invokevirtual 86, 3) := by decide +kernel
theorem dL_law_591 : decode cL_law 591 = .ok (.aload_n 2, 1) := by decide +kernel
theorem dL_law_592 : decode cL_law 592 = .ok (.aload_n 0, 1) := by decide +kernel
theorem dL_law_593 : decode cL_law 593 = .ok (.iload_n 3, 1) := by decide +kernel
theorem dL_law_594 : decode cL_law 594 = .ok (.iconst 1, 1) := by decide +kernel
theorem dL_law_595 : decode cL_law 595 = .ok (.iadd, 1) := by decide +kernel
theorem dL_law_596 : decode cL_law 596 = .ok (.iaload, 1) := by decide +kernel
theorem dL_law_597 : decode cL_law 597 = .ok (.aload_n 0, 1) := by decide +kernel
theorem dL_law_598 : decode cL_law 598 = .ok (.iload_n 3, 1) := by decide +kernel
theorem dL_law_599 : decode cL_law 599 = .ok (.iconst 2, 1) := by decide +kernel
theorem dL_law_600 : decode cL_law 600 = .ok (.iadd, 1) := by decide +kernel
theorem dL_law_601 : decode cL_law 601 = .ok (.iaload, 1) := by decide +kernel
theorem dL_law_602 : decode cL_law 602 = .ok (.invokevirtual 89, 3) := by decide +kernel
theorem dL_law_605 : decode cL_law 605 = .ok (.if_icmp .eq 193, 3) := by decide +kernel
theorem dL_law_608 : decode cL_law 608 = .ok (.iconst 0, 1) := by decide +kernel
theorem dL_law_609 : decode cL_law 609 = .ok (.ireturn, 1) := by decide +kernel
theorem dL_law_610 : decode cL_law 610 = .ok (.aload_n 1, 1) := by decide +kernel
theorem dL_law_611 : decode cL_law 611 = .ok (.aload_n 0, 1) := by decide +kernel
theorem dL_law_612 : decode cL_law 612 = .ok (.iload_n 3, 1) := by decide +kernel
theorem dL_law_613 : decode cL_law 613 = .ok (.iconst 1, 1) := by decide +kernel
theorem dL_law_614 : decode cL_law 614 = .ok (.iadd, 1) := by decide +kernel
theorem dL_law_615 : decode cL_law 615 = .ok (.iaload, 1) := by decide +kernel
theorem dL_law_616 : decode cL_law 616 = .ok (.aload_n 0, 1) := by decide +kernel
theorem dL_law_617 : decode cL_law 617 = .ok (.iload_n 3, 1) := by decide +kernel
theorem dL_law_618 : decode cL_law 618 = .ok (.iconst 2, 1) := by decide +kernel
theorem dL_law_619 : decode cL_law 619 = .ok (.iadd, 1) := by decide +kernel
theorem dL_law_620 : decode cL_law 620 = .ok (.iaload, 1) := by decide +kernel
theorem dL_law_621 : decode cL_law 621 = .ok (.invokevirtual 90, 3) := by decide +kernel
theorem dL_law_624 : decode cL_law 624 = .ok (.aload_n 2, 1) := by decide +kernel
theorem dL_law_625 : decode cL_law 625 = .ok (.aload_n 0, 1) := by decide +kernel
theorem dL_law_626 : decode cL_law 626 = .ok (.iload_n 3, 1) := by decide +kernel
theorem dL_law_627 : decode cL_law 627 = .ok (.iconst 1, 1) := by decide +kernel
theorem dL_law_628 : decode cL_law 628 = .ok (.iadd, 1) := by decide +kernel
theorem dL_law_629 : decode cL_law 629 = .ok (.iaload, 1) := by decide +kernel
theorem dL_law_630 : decode cL_law 630 = .ok (.aload_n 0, 1) := by decide +kernel
theorem dL_law_631 : decode cL_law 631 = .ok (.iload_n 3, 1) := by decide +kernel
theorem dL_law_632 : decode cL_law 632 = .ok (.iconst 2, 1) := by decide +kernel
theorem dL_law_633 : decode cL_law 633 = .ok (.iadd, 1) := by decide +kernel
theorem dL_law_634 : decode cL_law 634 = .ok (.iaload, 1) := by decide +kernel
theorem dL_law_635 : decode cL_law 635 = .ok (.invokevirtual 93, 3) := by decide +kernel
theorem dL_law_638 : decode cL_law 638 = .ok (.if_icmp .eq 160, 3) := by decide +kernel
theorem dL_law_641 : decode cL_law 641 = .ok (.iconst 0, 1) := by decide +kernel
theorem dL_law_642 : decode cL_law 642 = .ok (.ireturn, 1) := by decide +kernel
theorem dL_law_643 : decode cL_law 643 = .ok (.aload_n 1, 1) := by decide +kernel
theorem dL_law_644 : decode cL_law 644 = .ok (.aload_n 0, 1) := by decide +kernel
theorem dL_law_645 : decode cL_law 645 = .ok (.iload_n 3, 1) := by decide +kernel
theorem dL_law_646 : decode cL_law 646 = .ok (.iconst 1, 1) := by decide +kernel
theorem dL_law_647 : decode cL_law 647 = .ok (.iadd, 1) := by decide +kernel
theorem dL_law_648 : decode cL_law 648 = .ok (.iaload, 1) := by decide +kernel
theorem dL_law_649 : decode cL_law 649 = .ok (.aload_n 0, 1) := by decide +kernel
theorem dL_law_650 : decode cL_law 650 = .ok (.iload_n 3, 1) := by decide +kernel
theorem dL_law_651 : decode cL_law 651 = .ok (.iconst 2, 1) := by decide +kernel
theorem dL_law_652 : decode cL_law 652 = .ok (.iadd, 1) := by decide +kernel
theorem dL_law_653 : decode cL_law 653 = .ok (.iaload, 1) := by decide +kernel
theorem dL_law_654 : decode cL_law 654 = .ok (.invokevirtual 94, 3) := by decide +kernel
theorem dL_law_657 : decode cL_law 657 = .ok (.aload_n 2, 1) := by decide +kernel
theorem dL_law_658 : decode cL_law 658 = .ok (.aload_n 0, 1) := by decide +kernel
theorem dL_law_659 : decode cL_law 659 = .ok (.iload_n 3, 1) := by decide +kernel
theorem dL_law_660 : decode cL_law 660 = .ok (.iconst 1, 1) := by decide +kernel
theorem dL_law_661 : decode cL_law 661 = .ok (.iadd, 1) := by decide +kernel
theorem dL_law_662 : decode cL_law 662 = .ok (.iaload, 1) := by decide +kernel
theorem dL_law_663 : decode cL_law 663 = .ok (.aload_n 0, 1) := by decide +kernel
theorem dL_law_664 : decode cL_law 664 = .ok (.iload_n 3, 1) := by decide +kernel
theorem dL_law_665 : decode cL_law 665 = .ok (.iconst 2, 1) := by decide +kernel
theorem dL_law_666 : decode cL_law 666 = .ok (.iadd, 1) := by decide +kernel
theorem dL_law_667 : decode cL_law 667 = .ok (.iaload, 1) := by decide +kernel
theorem dL_law_668 : decode cL_law 668 = .ok (.invokevirtual 97, 3) := by decide +kernel
theorem dL_law_671 : decode cL_law 671 = .ok (.if_icmp .eq 127, 3) := by decide +kernel
theorem dL_law_674 : decode cL_law 674 = .ok (.iconst 0, 1) := by decide +kernel
theorem dL_law_675 : decode cL_law 675 = .ok (.ireturn, 1) := by decide +kernel
theorem dL_law_676 : decode cL_law 676 = .ok (.aload_n 1, 1) := by decide +kernel
theorem dL_law_677 : decode cL_law 677 = .ok (.aload_n 0, 1) := by decide +kernel
theorem dL_law_678 : decode cL_law 678 = .ok (.iload_n 3, 1) := by decide +kernel
theorem dL_law_679 : decode cL_law 679 = .ok (.iconst 1, 1) := by decide +kernel
theorem dL_law_680 : decode cL_law 680 = .ok (.iadd, 1) := by decide +kernel
theorem dL_law_681 : decode cL_law 681 = .ok (.iaload, 1) := by decide +kernel
theorem dL_law_682 : decode cL_law 682 = .ok (.aload_n 0, 1) := by decide +kernel
theorem dL_law_683 : decode cL_law 683 = .ok (.iload_n 3, 1) := by decide +kernel
theorem dL_law_684 : decode cL_law 684 = .ok (.iconst 2, 1) := by decide +kernel
theorem dL_law_685 : decode cL_law 685 = .ok (.iadd, 1) := by decide +kernel
theorem dL_law_686 : decode cL_law 686 = .ok (.iaload, 1) := by decide +kernel
theorem dL_law_687 : decode cL_law 687 = .ok (.invokevirtual 98, 3) := by decide +kernel
theorem dL_law_690 : decode cL_law 690 = .ok (.aload_n 2, 1) := by decide +kernel
theorem dL_law_691 : decode cL_law 691 = .ok (.aload_n 0, 1) := by decide +kernel
theorem dL_law_692 : decode cL_law 692 = .ok (.iload_n 3, 1) := by decide +kernel
theorem dL_law_693 : decode cL_law 693 = .ok (.iconst 1, 1) := by decide +kernel
theorem dL_law_694 : decode cL_law 694 = .ok (.iadd, 1) := by decide +kernel
theorem dL_law_695 : decode cL_law 695 = .ok (.iaload, 1) := by decide +kernel
theorem dL_law_696 : decode cL_law 696 = .ok (.aload_n 0, 1) := by decide +kernel
theorem dL_law_697 : decode cL_law 697 = .ok (.iload_n 3, 1) := by decide +kernel
theorem dL_law_698 : decode cL_law 698 = .ok (.iconst 2, 1) := by decide +kernel
theorem dL_law_699 : decode cL_law 699 = .ok (.iadd, 1) := by decide +kernel
theorem dL_law_700 : decode cL_law 700 = .ok (.iaload, 1) := by decide +kernel
theorem dL_law_701 : decode cL_law 701 = .ok (.invokevirtual 101, 3) := by decide +kernel
theorem dL_law_704 : decode cL_law 704 = .ok (.if_icmp .eq 94, 3) := by decide +kernel
theorem dL_law_707 : decode cL_law 707 = .ok (.iconst 0, 1) := by decide +kernel
theorem dL_law_708 : decode cL_law 708 = .ok (.ireturn, 1) := by decide +kernel
theorem dL_law_709 : decode cL_law 709 = .ok (.aload_n 1, 1) := by decide +kernel
theorem dL_law_710 : decode cL_law 710 = .ok (.aload_n 0, 1) := by decide +kernel
theorem dL_law_711 : decode cL_law 711 = .ok (.iload_n 3, 1) := by decide +kernel
theorem dL_law_712 : decode cL_law 712 = .ok (.iconst 1, 1) := by decide +kernel
theorem dL_law_713 : decode cL_law 713 = .ok (.iadd, 1) := by decide +kernel
theorem dL_law_714 : decode cL_law 714 = .ok (.iaload, 1) := by decide +kernel
theorem dL_law_715 : decode cL_law 715 = .ok (.aload_n 0, 1) := by decide +kernel
theorem dL_law_716 : decode cL_law 716 = .ok (.iload_n 3, 1) := by decide +kernel
theorem dL_law_717 : decode cL_law 717 = .ok (.iconst 2, 1) := by decide +kernel
theorem dL_law_718 : decode cL_law 718 = .ok (.iadd, 1) := by decide +kernel
theorem dL_law_719 : decode cL_law 719 = .ok (.iaload, 1) := by decide +kernel
theorem dL_law_720 : decode cL_law 720 = .ok (.invokevirtual 102, 3) := by decide +kernel
theorem dL_law_723 : decode cL_law 723 = .ok (.aload_n 2, 1) := by decide +kernel
theorem dL_law_724 : decode cL_law 724 = .ok (.aload_n 0, 1) := by decide +kernel
theorem dL_law_725 : decode cL_law 725 = .ok (.iload_n 3, 1) := by decide +kernel
theorem dL_law_726 : decode cL_law 726 = .ok (.iconst 1, 1) := by decide +kernel
theorem dL_law_727 : decode cL_law 727 = .ok (.iadd, 1) := by decide +kernel
theorem dL_law_728 : decode cL_law 728 = .ok (.iaload, 1) := by decide +kernel
theorem dL_law_729 : decode cL_law 729 = .ok (.aload_n 0, 1) := by decide +kernel
theorem dL_law_730 : decode cL_law 730 = .ok (.iload_n 3, 1) := by decide +kernel
theorem dL_law_731 : decode cL_law 731 = .ok (.iconst 2, 1) := by decide +kernel
theorem dL_law_732 : decode cL_law 732 = .ok (.iadd, 1) := by decide +kernel
theorem dL_law_733 : decode cL_law 733 = .ok (.iaload, 1) := by decide +kernel
theorem dL_law_734 : decode cL_law 734 = .ok (.invokevirtual 105, 3) := by decide +kernel
theorem dL_law_737 : decode cL_law 737 = .ok (.if_icmp .eq 61, 3) := by decide +kernel
theorem dL_law_740 : decode cL_law 740 = .ok (.iconst 0, 1) := by decide +kernel
theorem dL_law_741 : decode cL_law 741 = .ok (.ireturn, 1) := by decide +kernel
theorem dL_law_742 : decode cL_law 742 = .ok (.aload_n 1, 1) := by decide +kernel
theorem dL_law_743 : decode cL_law 743 = .ok (.aload_n 0, 1) := by decide +kernel
theorem dL_law_744 : decode cL_law 744 = .ok (.iload_n 3, 1) := by decide +kernel
theorem dL_law_745 : decode cL_law 745 = .ok (.iconst 1, 1) := by decide +kernel
theorem dL_law_746 : decode cL_law 746 = .ok (.iadd, 1) := by decide +kernel
theorem dL_law_747 : decode cL_law 747 = .ok (.iaload, 1) := by decide +kernel
theorem dL_law_748 : decode cL_law 748 = .ok (.aload_n 0, 1) := by decide +kernel
theorem dL_law_749 : decode cL_law 749 = .ok (.iload_n 3, 1) := by decide +kernel
theorem dL_law_750 : decode cL_law 750 = .ok (.iconst 2, 1) := by decide +kernel
theorem dL_law_751 : decode cL_law 751 = .ok (.iadd, 1) := by decide +kernel
theorem dL_law_752 : decode cL_law 752 = .ok (.iaload, 1) := by decide +kernel
theorem dL_law_753 : decode cL_law 753 = .ok (.invokevirtual 106, 3) := by decide +kernel
theorem dL_law_756 : decode cL_law 756 = .ok (.aload_n 2, 1) := by decide +kernel
theorem dL_law_757 : decode cL_law 757 = .ok (.aload_n 0, 1) := by decide +kernel
theorem dL_law_758 : decode cL_law 758 = .ok (.iload_n 3, 1) := by decide +kernel
theorem dL_law_759 : decode cL_law 759 = .ok (.iconst 1, 1) := by decide +kernel
theorem dL_law_760 : decode cL_law 760 = .ok (.iadd, 1) := by decide +kernel
theorem dL_law_761 : decode cL_law 761 = .ok (.iaload, 1) := by decide +kernel
theorem dL_law_762 : decode cL_law 762 = .ok (.aload_n 0, 1) := by decide +kernel
theorem dL_law_763 : decode cL_law 763 = .ok (.iload_n 3, 1) := by decide +kernel
theorem dL_law_764 : decode cL_law 764 = .ok (.iconst 2, 1) := by decide +kernel
theorem dL_law_765 : decode cL_law 765 = .ok (.iadd, 1) := by decide +kernel
theorem dL_law_766 : decode cL_law 766 = .ok (.iaload, 1) := by decide +kernel
theorem dL_law_767 : decode cL_law 767 = .ok (.invokevirtual 109, 3) := by decide +kernel
theorem dL_law_770 : decode cL_law 770 = .ok (.if_icmp .eq 28, 3) := by decide +kernel
theorem dL_law_773 : decode cL_law 773 = .ok (.iconst 0, 1) := by decide +kernel
theorem dL_law_774 : decode cL_law 774 = .ok (.ireturn, 1) := by decide +kernel
theorem dL_law_775 : decode cL_law 775 = .ok (.aload_n 1, 1) := by decide +kernel
theorem dL_law_776 : decode cL_law 776 = .ok (.aload_n 0, 1) := by decide +kernel
theorem dL_law_777 : decode cL_law 777 = .ok (.iload_n 3, 1) := by decide +kernel
theorem dL_law_778 : decode cL_law 778 = .ok (.iconst 1, 1) := by decide +kernel
theorem dL_law_779 : decode cL_law 779 = .ok (.iadd, 1) := by decide +kernel
theorem dL_law_780 : decode cL_law 780 = .ok (.iaload, 1) := by decide +kernel
theorem dL_law_781 : decode cL_law 781 = .ok (.invokevirtual 110, 3) := by decide +kernel
theorem dL_law_784 : decode cL_law 784 = .ok (.aload_n 2, 1) := by decide +kernel
theorem dL_law_785 : decode cL_law 785 = .ok (.aload_n 0, 1) := by decide +kernel
theorem dL_law_786 : decode cL_law 786 = .ok (.iload_n 3, 1) := by decide +kernel
theorem dL_law_787 : decode cL_law 787 = .ok (.iconst 1, 1) := by decide +kernel
theorem dL_law_788 : decode cL_law 788 = .ok (.iadd, 1) := by decide +kernel
theorem dL_law_789 : decode cL_law 789 = .ok (.iaload, 1) := by decide +kernel
theorem dL_law_790 : decode cL_law 790 = .ok (.invokevirtual 113, 3) := by decide +kernel
theorem dL_law_793 : decode cL_law 793 = .ok (.if_icmp .eq 5, 3) := by decide +kernel
theorem dL_law_796 : decode cL_law 796 = .ok (.iconst 0, 1) := by decide +kernel
theorem dL_law_797 : decode cL_law 797 = .ok (.ireturn, 1) := by decide +kernel
theorem dL_law_798 : decode cL_law 798 = .ok (.iinc 3 5, 3) := by decide +kernel
theorem dL_law_801 : decode cL_law 801 = .ok (.goto (-783), 3) := by decide +kernel
theorem dL_law_804 : decode cL_law 804 = .ok (.iconst 1, 1) := by decide +kernel
theorem dL_law_805 : decode cL_law 805 = .ok (.ireturn, 1) := by decide +kernel
