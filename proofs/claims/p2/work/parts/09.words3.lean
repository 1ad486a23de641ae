theorem jwM_L_179 : Cond.methodLink RL 179 yX10_lay ∈ jT := jT_in (List.mem_append_right _ (List.mem_of_getElem? (i := 1035) (by decide +kernel))) rfl
theorem jwN_X10_lay : Cond.instanceMethod yX10_lay ∈ jT := jT_in (List.mem_append_right _ (List.mem_of_getElem? (i := 1036) (by decide +kernel))) rfl
theorem jwX_X10_lay : Cond.selects RX10 yX10_lay yX10_lay ∈ jT := jT_in (List.mem_append_right _ (List.mem_of_getElem? (i := 1037) (by decide +kernel))) rfl
set_option maxRecDepth 100000 in
theorem jwO_X10_lay : Cond.code (mX10_lay).1 (mX10_lay).2.1 (mX10_lay).2.2.1 (mX10_lay).2.2.2 ∈ jT := jT_in (List.mem_append_right _ (List.mem_of_getElem? (i := 1038) rfl)) rfl
theorem jwM_X10_343 : Cond.methodLink RX10 343 yX10_findSlot ∈ jT := jT_in (List.mem_append_right _ (List.mem_of_getElem? (i := 1039) (by decide +kernel))) rfl
theorem jwN_X10_findSlot : Cond.instanceMethod yX10_findSlot ∈ jT := jT_in (List.mem_append_right _ (List.mem_of_getElem? (i := 1041) (by decide +kernel))) rfl
set_option maxRecDepth 100000 in
theorem jwO_X10_findSlot : Cond.code (mX10_findSlot).1 (mX10_findSlot).2.1 (mX10_findSlot).2.2.1 (mX10_findSlot).2.2.2 ∈ jT := jT_in (List.mem_append_right _ (List.mem_of_getElem? (i := 1042) rfl)) rfl
theorem jwM_X10_350 : Cond.methodLink RX10 350 yX10_layMaster ∈ jT := jT_in (List.mem_append_right _ (List.mem_of_getElem? (i := 1043) (by decide +kernel))) rfl
theorem jwN_X10_layMaster : Cond.instanceMethod yX10_layMaster ∈ jT := jT_in (List.mem_append_right _ (List.mem_of_getElem? (i := 1045) (by decide +kernel))) rfl
set_option maxRecDepth 100000 in
theorem jwO_X10_layMaster : Cond.code (mX10_layMaster).1 (mX10_layMaster).2.1 (mX10_layMaster).2.2.1 (mX10_layMaster).2.2.2 ∈ jT := jT_in (List.mem_append_right _ (List.mem_of_getElem? (i := 1046) rfl)) rfl
theorem jwM_X10_364 : Cond.methodLink RX10 364 yX2_become ∈ jT := jT_in (List.mem_append_right _ (List.mem_of_getElem? (i := 1047) (by decide +kernel))) rfl
theorem jwM_X10_354 : Cond.methodLink RX10 354 yX10_laySheet ∈ jT := jT_in (List.mem_append_right _ (List.mem_of_getElem? (i := 1048) (by decide +kernel))) rfl
theorem jwN_X10_laySheet : Cond.instanceMethod yX10_laySheet ∈ jT := jT_in (List.mem_append_right _ (List.mem_of_getElem? (i := 1050) (by decide +kernel))) rfl
set_option maxRecDepth 100000 in
theorem jwO_X10_laySheet : Cond.code (mX10_laySheet).1 (mX10_laySheet).2.1 (mX10_laySheet).2.2.1 (mX10_laySheet).2.2.2 ∈ jT := jT_in (List.mem_append_right _ (List.mem_of_getElem? (i := 1051) rfl)) rfl
theorem jwM_X10_371 : Cond.methodLink RX10 371 yX6_become ∈ jT := jT_in (List.mem_append_right _ (List.mem_of_getElem? (i := 1052) (by decide +kernel))) rfl
theorem jwN_X6_become : Cond.instanceMethod yX6_become ∈ jT := jT_in (List.mem_append_right _ (List.mem_of_getElem? (i := 1053) (by decide +kernel))) rfl
theorem jwX_X6_become : Cond.selects RX6 yX6_become yX6_become ∈ jT := jT_in (List.mem_append_right _ (List.mem_of_getElem? (i := 1054) (by decide +kernel))) rfl
set_option maxRecDepth 100000 in
theorem jwO_X6_become : Cond.code (mX6_become).1 (mX6_become).2.1 (mX6_become).2.2.1 (mX6_become).2.2.2 ∈ jT := jT_in (List.mem_append_right _ (List.mem_of_getElem? (i := 1055) rfl)) rfl
theorem jwM_X6_22 : Cond.methodLink RX6 22 arraycopyName ∈ jT := jT_in (List.mem_append_right _ (List.mem_of_getElem? (i := 1056) (by decide +kernel))) rfl
theorem jwM_L_183 : Cond.methodLink RL 183 yX10_ask ∈ jT := jT_in (List.mem_append_right _ (List.mem_of_getElem? (i := 1057) (by decide +kernel))) rfl
theorem jwN_X10_ask : Cond.instanceMethod yX10_ask ∈ jT := jT_in (List.mem_append_right _ (List.mem_of_getElem? (i := 1058) (by decide +kernel))) rfl
theorem jwX_X10_ask : Cond.selects RX10 yX10_ask yX10_ask ∈ jT := jT_in (List.mem_append_right _ (List.mem_of_getElem? (i := 1059) (by decide +kernel))) rfl
set_option maxRecDepth 100000 in
theorem jwO_X10_ask : Cond.code (mX10_ask).1 (mX10_ask).2.1 (mX10_ask).2.2.1 (mX10_ask).2.2.2 ∈ jT := jT_in (List.mem_append_right _ (List.mem_of_getElem? (i := 1060) rfl)) rfl
theorem jwM_L_187 : Cond.methodLink RL 187 yX10_item ∈ jT := jT_in (List.mem_append_right _ (List.mem_of_getElem? (i := 1061) (by decide +kernel))) rfl
theorem jwN_X10_item : Cond.instanceMethod yX10_item ∈ jT := jT_in (List.mem_append_right _ (List.mem_of_getElem? (i := 1062) (by decide +kernel))) rfl
theorem jwX_X10_item : Cond.selects RX10 yX10_item yX10_item ∈ jT := jT_in (List.mem_append_right _ (List.mem_of_getElem? (i := 1063) (by decide +kernel))) rfl
set_option maxRecDepth 100000 in
theorem jwO_X10_item : Cond.code (mX10_item).1 (mX10_item).2.1 (mX10_item).2.2.1 (mX10_item).2.2.2 ∈ jT := jT_in (List.mem_append_right _ (List.mem_of_getElem? (i := 1064) rfl)) rfl
theorem jwM_L_191 : Cond.methodLink RL 191 yX10_rest ∈ jT := jT_in (List.mem_append_right _ (List.mem_of_getElem? (i := 1065) (by decide +kernel))) rfl
theorem jwN_X10_rest : Cond.instanceMethod yX10_rest ∈ jT := jT_in (List.mem_append_right _ (List.mem_of_getElem? (i := 1066) (by decide +kernel))) rfl
theorem jwX_X10_rest : Cond.selects RX10 yX10_rest yX10_rest ∈ jT := jT_in (List.mem_append_right _ (List.mem_of_getElem? (i := 1067) (by decide +kernel))) rfl
set_option maxRecDepth 100000 in
theorem jwO_X10_rest : Cond.code (mX10_rest).1 (mX10_rest).2.1 (mX10_rest).2.2.1 (mX10_rest).2.2.2 ∈ jT := jT_in (List.mem_append_right _ (List.mem_of_getElem? (i := 1068) rfl)) rfl
theorem jwM_L_195 : Cond.methodLink RL 195 yX10_tell ∈ jT := jT_in (List.mem_append_right _ (List.mem_of_getElem? (i := 1069) (by decide +kernel))) rfl
theorem jwN_X10_tell : Cond.instanceMethod yX10_tell ∈ jT := jT_in (List.mem_append_right _ (List.mem_of_getElem? (i := 1070) (by decide +kernel))) rfl
theorem jwX_X10_tell : Cond.selects RX10 yX10_tell yX10_tell ∈ jT := jT_in (List.mem_append_right _ (List.mem_of_getElem? (i := 1071) (by decide +kernel))) rfl
set_option maxRecDepth 100000 in
theorem jwO_X10_tell : Cond.code (mX10_tell).1 (mX10_tell).2.1 (mX10_tell).2.2.1 (mX10_tell).2.2.2 ∈ jT := jT_in (List.mem_append_right _ (List.mem_of_getElem? (i := 1072) rfl)) rfl
theorem jwM_L_199 : Cond.methodLink RL 199 yX10_check ∈ jT := jT_in (List.mem_append_right _ (List.mem_of_getElem? (i := 1073) (by decide +kernel))) rfl
theorem jwN_X10_check : Cond.instanceMethod yX10_check ∈ jT := jT_in (List.mem_append_right _ (List.mem_of_getElem? (i := 1074) (by decide +kernel))) rfl
theorem jwX_X10_check : Cond.selects RX10 yX10_check yX10_check ∈ jT := jT_in (List.mem_append_right _ (List.mem_of_getElem? (i := 1075) (by decide +kernel))) rfl
set_option maxRecDepth 100000 in
theorem jwO_X10_check : Cond.code (mX10_check).1 (mX10_check).2.1 (mX10_check).2.2.1 (mX10_check).2.2.2 ∈ jT := jT_in (List.mem_append_right _ (List.mem_of_getElem? (i := 1076) rfl)) rfl
theorem jwM_X10_380 : Cond.methodLink RX10 380 yX0_liveYear ∈ jT := jT_in (List.mem_append_right _ (List.mem_of_getElem? (i := 1077) (by decide +kernel))) rfl
theorem jwM_X10_383 : Cond.methodLink RX10 383 yX10_isWaiting ∈ jT := jT_in (List.mem_append_right _ (List.mem_of_getElem? (i := 1078) (by decide +kernel))) rfl
theorem jwN_X10_isWaiting : Cond.instanceMethod yX10_isWaiting ∈ jT := jT_in (List.mem_append_right _ (List.mem_of_getElem? (i := 1080) (by decide +kernel))) rfl
set_option maxRecDepth 100000 in
theorem jwO_X10_isWaiting : Cond.code (mX10_isWaiting).1 (mX10_isWaiting).2.1 (mX10_isWaiting).2.2.1 (mX10_isWaiting).2.2.2 ∈ jT := jT_in (List.mem_append_right _ (List.mem_of_getElem? (i := 1081) rfl)) rfl
theorem jwM_X10_387 : Cond.methodLink RX10 387 yX0_agesTogether ∈ jT := jT_in (List.mem_append_right _ (List.mem_of_getElem? (i := 1082) (by decide +kernel))) rfl
theorem jwN_X0_agesTogether : Cond.instanceMethod yX0_agesTogether ∈ jT := jT_in (List.mem_append_right _ (List.mem_of_getElem? (i := 1083) (by decide +kernel))) rfl
theorem jwX_X0_agesTogether : Cond.selects RX0 yX0_agesTogether yX0_agesTogether ∈ jT := jT_in (List.mem_append_right _ (List.mem_of_getElem? (i := 1084) (by decide +kernel))) rfl
set_option maxRecDepth 100000 in
theorem jwO_X0_agesTogether : Cond.code (mX0_agesTogether).1 (mX0_agesTogether).2.1 (mX0_agesTogether).2.2.1 (mX0_agesTogether).2.2.2 ∈ jT := jT_in (List.mem_append_right _ (List.mem_of_getElem? (i := 1085) rfl)) rfl
theorem jwM_L_203 : Cond.methodLink RL 203 yX10_keep ∈ jT := jT_in (List.mem_append_right _ (List.mem_of_getElem? (i := 1086) (by decide +kernel))) rfl
theorem jwN_X10_keep : Cond.instanceMethod yX10_keep ∈ jT := jT_in (List.mem_append_right _ (List.mem_of_getElem? (i := 1087) (by decide +kernel))) rfl
theorem jwX_X10_keep : Cond.selects RX10 yX10_keep yX10_keep ∈ jT := jT_in (List.mem_append_right _ (List.mem_of_getElem? (i := 1088) (by decide +kernel))) rfl
set_option maxRecDepth 100000 in
theorem jwO_X10_keep : Cond.code (mX10_keep).1 (mX10_keep).2.1 (mX10_keep).2.2.1 (mX10_keep).2.2.2 ∈ jT := jT_in (List.mem_append_right _ (List.mem_of_getElem? (i := 1089) rfl)) rfl
theorem jwM_X10_390 : Cond.methodLink RX10 390 yX3_become ∈ jT := jT_in (List.mem_append_right _ (List.mem_of_getElem? (i := 1090) (by decide +kernel))) rfl
theorem jwN_X3_become : Cond.instanceMethod yX3_become ∈ jT := jT_in (List.mem_append_right _ (List.mem_of_getElem? (i := 1091) (by decide +kernel))) rfl
theorem jwX_X3_become : Cond.selects RX3 yX3_become yX3_become ∈ jT := jT_in (List.mem_append_right _ (List.mem_of_getElem? (i := 1092) (by decide +kernel))) rfl
set_option maxRecDepth 100000 in
theorem jwO_X3_become : Cond.code (mX3_become).1 (mX3_become).2.1 (mX3_become).2.2.1 (mX3_become).2.2.2 ∈ jT := jT_in (List.mem_append_right _ (List.mem_of_getElem? (i := 1093) rfl)) rfl
theorem jwM_X3_42 : Cond.methodLink RX3 42 yX0_become ∈ jT := jT_in (List.mem_append_right _ (List.mem_of_getElem? (i := 1094) (by decide +kernel))) rfl
theorem jwM_X3_46 : Cond.methodLink RX3 46 yX4_become ∈ jT := jT_in (List.mem_append_right _ (List.mem_of_getElem? (i := 1095) (by decide +kernel))) rfl
theorem jwN_X4_become : Cond.instanceMethod yX4_become ∈ jT := jT_in (List.mem_append_right _ (List.mem_of_getElem? (i := 1096) (by decide +kernel))) rfl
theorem jwX_X4_become : Cond.selects RX4 yX4_become yX4_become ∈ jT := jT_in (List.mem_append_right _ (List.mem_of_getElem? (i := 1097) (by decide +kernel))) rfl
set_option maxRecDepth 100000 in
theorem jwO_X4_become : Cond.code (mX4_become).1 (mX4_become).2.1 (mX4_become).2.2.1 (mX4_become).2.2.2 ∈ jT := jT_in (List.mem_append_right _ (List.mem_of_getElem? (i := 1098) rfl)) rfl
theorem jwM_X4_21 : Cond.methodLink RX4 21 arraycopyName ∈ jT := jT_in (List.mem_append_right _ (List.mem_of_getElem? (i := 1099) (by decide +kernel))) rfl
theorem jwM_X3_49 : Cond.methodLink RX3 49 yX1_become ∈ jT := jT_in (List.mem_append_right _ (List.mem_of_getElem? (i := 1100) (by decide +kernel))) rfl
theorem jwN_X1_become : Cond.instanceMethod yX1_become ∈ jT := jT_in (List.mem_append_right _ (List.mem_of_getElem? (i := 1101) (by decide +kernel))) rfl
theorem jwX_X1_become : Cond.selects RX1 yX1_become yX1_become ∈ jT := jT_in (List.mem_append_right _ (List.mem_of_getElem? (i := 1102) (by decide +kernel))) rfl
set_option maxRecDepth 100000 in
theorem jwO_X1_become : Cond.code (mX1_become).1 (mX1_become).2.1 (mX1_become).2.2.1 (mX1_become).2.2.2 ∈ jT := jT_in (List.mem_append_right _ (List.mem_of_getElem? (i := 1103) rfl)) rfl
theorem jwM_X1_34 : Cond.methodLink RX1 34 arraycopyName ∈ jT := jT_in (List.mem_append_right _ (List.mem_of_getElem? (i := 1104) (by decide +kernel))) rfl
theorem jwM_X3_52 : Cond.methodLink RX3 52 arraycopyName ∈ jT := jT_in (List.mem_append_right _ (List.mem_of_getElem? (i := 1105) (by decide +kernel))) rfl
theorem jwM_L_207 : Cond.methodLink RL 207 yX10_back ∈ jT := jT_in (List.mem_append_right _ (List.mem_of_getElem? (i := 1106) (by decide +kernel))) rfl
theorem jwN_X10_back : Cond.instanceMethod yX10_back ∈ jT := jT_in (List.mem_append_right _ (List.mem_of_getElem? (i := 1107) (by decide +kernel))) rfl
theorem jwX_X10_back : Cond.selects RX10 yX10_back yX10_back ∈ jT := jT_in (List.mem_append_right _ (List.mem_of_getElem? (i := 1108) (by decide +kernel))) rfl
set_option maxRecDepth 100000 in
theorem jwO_X10_back : Cond.code (mX10_back).1 (mX10_back).2.1 (mX10_back).2.2.1 (mX10_back).2.2.2 ∈ jT := jT_in (List.mem_append_right _ (List.mem_of_getElem? (i := 1109) rfl)) rfl
theorem jwM_L_211 : Cond.methodLink RL 211 yX10_count ∈ jT := jT_in (List.mem_append_right _ (List.mem_of_getElem? (i := 1110) (by decide +kernel))) rfl
theorem jwN_X10_count : Cond.instanceMethod yX10_count ∈ jT := jT_in (List.mem_append_right _ (List.mem_of_getElem? (i := 1111) (by decide +kernel))) rfl
theorem jwX_X10_count : Cond.selects RX10 yX10_count yX10_count ∈ jT := jT_in (List.mem_append_right _ (List.mem_of_getElem? (i := 1112) (by decide +kernel))) rfl
set_option maxRecDepth 100000 in
theorem jwO_X10_count : Cond.code (mX10_count).1 (mX10_count).2.1 (mX10_count).2.2.1 (mX10_count).2.2.2 ∈ jT := jT_in (List.mem_append_right _ (List.mem_of_getElem? (i := 1113) rfl)) rfl
theorem jwK_L_10 : Cond.classLink RL 10 RX11 ∈ jT := jT_in (List.mem_append_right _ (List.mem_of_getElem? (i := 1114) (by decide +kernel))) rfl
theorem jwI_X11 : Cond.instantiable RX11 36 ∈ jT := jT_in (List.mem_append_right _ (List.mem_of_getElem? (i := 1115) (by decide +kernel))) rfl
theorem jwM_L_12 : Cond.methodLink RL 12 yX11_init ∈ jT := jT_in (List.mem_append_right _ (List.mem_of_getElem? (i := 1116) (by decide +kernel))) rfl
theorem jwN_X11_init : Cond.instanceMethod yX11_init ∈ jT := jT_in (List.mem_append_right _ (List.mem_of_getElem? (i := 1117) (by decide +kernel))) rfl
set_option maxRecDepth 100000 in
theorem jwO_X11_init : Cond.code (mX11_init).1 (mX11_init).2.1 (mX11_init).2.2.1 (mX11_init).2.2.2 ∈ jT := jT_in (List.mem_append_right _ (List.mem_of_getElem? (i := 1118) rfl)) rfl
theorem jwM_X11_1 : Cond.methodLink RX11 1 Lib.objectInit ∈ jT := jT_in (List.mem_append_right _ (List.mem_of_getElem? (i := 1119) (by decide +kernel))) rfl
theorem jwF_X11_7 : Cond.fieldLink RX11 7 RX11 "s" "[I" ∈ jT := jT_in (List.mem_append_right _ (List.mem_of_getElem? (i := 1120) (by decide +kernel))) rfl
theorem jwF_X11_13 : Cond.fieldLink RX11 13 RX11 "image" "[I" ∈ jT := jT_in (List.mem_append_right _ (List.mem_of_getElem? (i := 1121) (by decide +kernel))) rfl
theorem jwF_X11_16 : Cond.fieldLink RX11 16 RX11 "aside" "[I" ∈ jT := jT_in (List.mem_append_right _ (List.mem_of_getElem? (i := 1122) (by decide +kernel))) rfl
theorem jwF_X11_337 : Cond.fieldLink RX11 337 RX11 "hasImage" "Z" ∈ jT := jT_in (List.mem_append_right _ (List.mem_of_getElem? (i := 1123) (by decide +kernel))) rfl
theorem jwF_X11_19 : Cond.fieldLink RX11 19 RX11 "tSort" "[I" ∈ jT := jT_in (List.mem_append_right _ (List.mem_of_getElem? (i := 1124) (by decide +kernel))) rfl
theorem jwF_X11_22 : Cond.fieldLink RX11 22 RX11 "tSize" "[I" ∈ jT := jT_in (List.mem_append_right _ (List.mem_of_getElem? (i := 1125) (by decide +kernel))) rfl
theorem jwF_X11_25 : Cond.fieldLink RX11 25 RX11 "tNumber" "[I" ∈ jT := jT_in (List.mem_append_right _ (List.mem_of_getElem? (i := 1126) (by decide +kernel))) rfl
theorem jwF_X11_28 : Cond.fieldLink RX11 28 RX11 "held" "[I" ∈ jT := jT_in (List.mem_append_right _ (List.mem_of_getElem? (i := 1127) (by decide +kernel))) rfl
theorem jwF_X11_31 : Cond.fieldLink RX11 31 RX11 "heldNumber" "[I" ∈ jT := jT_in (List.mem_append_right _ (List.mem_of_getElem? (i := 1128) (by decide +kernel))) rfl
theorem jwF_X11_34 : Cond.fieldLink RX11 34 RX11 "heldWorth" "[I" ∈ jT := jT_in (List.mem_append_right _ (List.mem_of_getElem? (i := 1129) (by decide +kernel))) rfl
theorem jwF_X11_37 : Cond.fieldLink RX11 37 RX11 "heldSize" "[I" ∈ jT := jT_in (List.mem_append_right _ (List.mem_of_getElem? (i := 1130) (by decide +kernel))) rfl
theorem jwF_X11_40 : Cond.fieldLink RX11 40 RX11 "heldRow" "[I" ∈ jT := jT_in (List.mem_append_right _ (List.mem_of_getElem? (i := 1131) (by decide +kernel))) rfl
theorem jwF_X11_43 : Cond.fieldLink RX11 43 RX11 "far" "[I" ∈ jT := jT_in (List.mem_append_right _ (List.mem_of_getElem? (i := 1132) (by decide +kernel))) rfl
theorem jwF_X11_46 : Cond.fieldLink RX11 46 RX11 "close" "[I" ∈ jT := jT_in (List.mem_append_right _ (List.mem_of_getElem? (i := 1133) (by decide +kernel))) rfl
theorem jwF_X11_49 : Cond.fieldLink RX11 49 RX11 "way" "[I" ∈ jT := jT_in (List.mem_append_right _ (List.mem_of_getElem? (i := 1134) (by decide +kernel))) rfl
theorem jwF_X11_176 : Cond.fieldLink RX11 176 RX11 "soonDays" "I" ∈ jT := jT_in (List.mem_append_right _ (List.mem_of_getElem? (i := 1135) (by decide +kernel))) rfl
theorem jwF_X11_180 : Cond.fieldLink RX11 180 RX11 "soonCoins" "I" ∈ jT := jT_in (List.mem_append_right _ (List.mem_of_getElem? (i := 1136) (by decide +kernel))) rfl
theorem jwF_X11_183 : Cond.fieldLink RX11 183 RX11 "soonFirst" "I" ∈ jT := jT_in (List.mem_append_right _ (List.mem_of_getElem? (i := 1137) (by decide +kernel))) rfl
theorem jwF_X11_52 : Cond.fieldLink RX11 52 RX11 "tape" "[I" ∈ jT := jT_in (List.mem_append_right _ (List.mem_of_getElem? (i := 1138) (by decide +kernel))) rfl
theorem jwF_X11_214 : Cond.fieldLink RX11 214 RX11 "taped" "I" ∈ jT := jT_in (List.mem_append_right _ (List.mem_of_getElem? (i := 1139) (by decide +kernel))) rfl
theorem jwF_X11_231 : Cond.fieldLink RX11 231 RX11 "begin" "I" ∈ jT := jT_in (List.mem_append_right _ (List.mem_of_getElem? (i := 1140) (by decide +kernel))) rfl
theorem jwF_X11_225 : Cond.fieldLink RX11 225 RX11 "behind" "I" ∈ jT := jT_in (List.mem_append_right _ (List.mem_of_getElem? (i := 1141) (by decide +kernel))) rfl
theorem jwF_X11_228 : Cond.fieldLink RX11 228 RX11 "token" "I" ∈ jT := jT_in (List.mem_append_right _ (List.mem_of_getElem? (i := 1142) (by decide +kernel))) rfl
theorem jwF_X11_243 : Cond.fieldLink RX11 243 RX11 "number" "I" ∈ jT := jT_in (List.mem_append_right _ (List.mem_of_getElem? (i := 1143) (by decide +kernel))) rfl
theorem jwF_X11_237 : Cond.fieldLink RX11 237 RX11 "letter" "I" ∈ jT := jT_in (List.mem_append_right _ (List.mem_of_getElem? (i := 1144) (by decide +kernel))) rfl
theorem jwF_X11_290 : Cond.fieldLink RX11 290 RX11 "deep" "I" ∈ jT := jT_in (List.mem_append_right _ (List.mem_of_getElem? (i := 1145) (by decide +kernel))) rfl
theorem jwF_X11_287 : Cond.fieldLink RX11 287 RX11 "turned" "I" ∈ jT := jT_in (List.mem_append_right _ (List.mem_of_getElem? (i := 1146) (by decide +kernel))) rfl
theorem jwF_X11_253 : Cond.fieldLink RX11 253 RX11 "laid" "I" ∈ jT := jT_in (List.mem_append_right _ (List.mem_of_getElem? (i := 1147) (by decide +kernel))) rfl
theorem jwF_X11_250 : Cond.fieldLink RX11 250 RX11 "laidAt" "I" ∈ jT := jT_in (List.mem_append_right _ (List.mem_of_getElem? (i := 1148) (by decide +kernel))) rfl
theorem jwF_X11_281 : Cond.fieldLink RX11 281 RX11 "said" "I" ∈ jT := jT_in (List.mem_append_right _ (List.mem_of_getElem? (i := 1149) (by decide +kernel))) rfl
theorem jwF_X11_55 : Cond.fieldLink RX11 55 RX11 "named" "[I" ∈ jT := jT_in (List.mem_append_right _ (List.mem_of_getElem? (i := 1150) (by decide +kernel))) rfl
theorem jwF_X11_58 : Cond.fieldLink RX11 58 RX11 "pile" "[I" ∈ jT := jT_in (List.mem_append_right _ (List.mem_of_getElem? (i := 1151) (by decide +kernel))) rfl
theorem jwF_X11_61 : Cond.fieldLink RX11 61 RX11 "carried" "[I" ∈ jT := jT_in (List.mem_append_right _ (List.mem_of_getElem? (i := 1152) (by decide +kernel))) rfl
theorem jwF_X11_64 : Cond.fieldLink RX11 64 RX11 "waits" "[I" ∈ jT := jT_in (List.mem_append_right _ (List.mem_of_getElem? (i := 1153) (by decide +kernel))) rfl
theorem jwF_X11_332 : Cond.fieldLink RX11 332 RX11 "waiting" "I" ∈ jT := jT_in (List.mem_append_right _ (List.mem_of_getElem? (i := 1154) (by decide +kernel))) rfl
theorem jwF_X11_67 : Cond.fieldLink RX11 67 RX11 "rowDue" "[I" ∈ jT := jT_in (List.mem_append_right _ (List.mem_of_getElem? (i := 1155) (by decide +kernel))) rfl
theorem jwY_X11_s : Cond.laysFinal RX11 RX11 "s" "[I" ∈ jT := jT_in (List.mem_append_right _ (List.mem_of_getElem? (i := 1156) (by decide +kernel))) rfl
theorem jwY_X11_image : Cond.laysFinal RX11 RX11 "image" "[I" ∈ jT := jT_in (List.mem_append_right _ (List.mem_of_getElem? (i := 1158) (by decide +kernel))) rfl
theorem jwY_X11_aside : Cond.laysFinal RX11 RX11 "aside" "[I" ∈ jT := jT_in (List.mem_append_right _ (List.mem_of_getElem? (i := 1160) (by decide +kernel))) rfl
theorem jwY_X11_hasImage : Cond.lays RX11 RX11 "hasImage" "Z" ∈ jT := jT_in (List.mem_append_right _ (List.mem_of_getElem? (i := 1162) (by decide +kernel))) rfl
theorem jwY_X11_tSort : Cond.laysFinal RX11 RX11 "tSort" "[I" ∈ jT := jT_in (List.mem_append_right _ (List.mem_of_getElem? (i := 1164) (by decide +kernel))) rfl
theorem jwY_X11_tSize : Cond.laysFinal RX11 RX11 "tSize" "[I" ∈ jT := jT_in (List.mem_append_right _ (List.mem_of_getElem? (i := 1166) (by decide +kernel))) rfl
theorem jwY_X11_tNumber : Cond.laysFinal RX11 RX11 "tNumber" "[I" ∈ jT := jT_in (List.mem_append_right _ (List.mem_of_getElem? (i := 1168) (by decide +kernel))) rfl
theorem jwY_X11_held : Cond.laysFinal RX11 RX11 "held" "[I" ∈ jT := jT_in (List.mem_append_right _ (List.mem_of_getElem? (i := 1170) (by decide +kernel))) rfl
theorem jwY_X11_heldNumber : Cond.laysFinal RX11 RX11 "heldNumber" "[I" ∈ jT := jT_in (List.mem_append_right _ (List.mem_of_getElem? (i := 1172) (by decide +kernel))) rfl
theorem jwY_X11_heldWorth : Cond.laysFinal RX11 RX11 "heldWorth" "[I" ∈ jT := jT_in (List.mem_append_right _ (List.mem_of_getElem? (i := 1174) (by decide +kernel))) rfl
theorem jwY_X11_heldSize : Cond.laysFinal RX11 RX11 "heldSize" "[I" ∈ jT := jT_in (List.mem_append_right _ (List.mem_of_getElem? (i := 1176) (by decide +kernel))) rfl
theorem jwY_X11_heldRow : Cond.laysFinal RX11 RX11 "heldRow" "[I" ∈ jT := jT_in (List.mem_append_right _ (List.mem_of_getElem? (i := 1178) (by decide +kernel))) rfl
theorem jwY_X11_far : Cond.laysFinal RX11 RX11 "far" "[I" ∈ jT := jT_in (List.mem_append_right _ (List.mem_of_getElem? (i := 1180) (by decide +kernel))) rfl
theorem jwY_X11_close : Cond.laysFinal RX11 RX11 "close" "[I" ∈ jT := jT_in (List.mem_append_right _ (List.mem_of_getElem? (i := 1182) (by decide +kernel))) rfl
theorem jwY_X11_way : Cond.laysFinal RX11 RX11 "way" "[I" ∈ jT := jT_in (List.mem_append_right _ (List.mem_of_getElem? (i := 1184) (by decide +kernel))) rfl
theorem jwY_X11_soonDays : Cond.lays RX11 RX11 "soonDays" "I" ∈ jT := jT_in (List.mem_append_right _ (List.mem_of_getElem? (i := 1186) (by decide +kernel))) rfl
theorem jwY_X11_soonCoins : Cond.lays RX11 RX11 "soonCoins" "I" ∈ jT := jT_in (List.mem_append_right _ (List.mem_of_getElem? (i := 1188) (by decide +kernel))) rfl
theorem jwY_X11_soonFirst : Cond.lays RX11 RX11 "soonFirst" "I" ∈ jT := jT_in (List.mem_append_right _ (List.mem_of_getElem? (i := 1190) (by decide +kernel))) rfl
theorem jwY_X11_tape : Cond.laysFinal RX11 RX11 "tape" "[I" ∈ jT := jT_in (List.mem_append_right _ (List.mem_of_getElem? (i := 1192) (by decide +kernel))) rfl
theorem jwY_X11_taped : Cond.lays RX11 RX11 "taped" "I" ∈ jT := jT_in (List.mem_append_right _ (List.mem_of_getElem? (i := 1194) (by decide +kernel))) rfl
theorem jwY_X11_begin : Cond.lays RX11 RX11 "begin" "I" ∈ jT := jT_in (List.mem_append_right _ (List.mem_of_getElem? (i := 1196) (by decide +kernel))) rfl
theorem jwY_X11_behind : Cond.lays RX11 RX11 "behind" "I" ∈ jT := jT_in (List.mem_append_right _ (List.mem_of_getElem? (i := 1198) (by decide +kernel))) rfl
theorem jwY_X11_token : Cond.lays RX11 RX11 "token" "I" ∈ jT := jT_in (List.mem_append_right _ (List.mem_of_getElem? (i := 1200) (by decide +kernel))) rfl
theorem jwY_X11_number : Cond.lays RX11 RX11 "number" "I" ∈ jT := jT_in (List.mem_append_right _ (List.mem_of_getElem? (i := 1202) (by decide +kernel))) rfl
theorem jwY_X11_letter : Cond.lays RX11 RX11 "letter" "I" ∈ jT := jT_in (List.mem_append_right _ (List.mem_of_getElem? (i := 1204) (by decide +kernel))) rfl
theorem jwY_X11_deep : Cond.lays RX11 RX11 "deep" "I" ∈ jT := jT_in (List.mem_append_right _ (List.mem_of_getElem? (i := 1206) (by decide +kernel))) rfl
theorem jwY_X11_turned : Cond.lays RX11 RX11 "turned" "I" ∈ jT := jT_in (List.mem_append_right _ (List.mem_of_getElem? (i := 1208) (by decide +kernel))) rfl
theorem jwY_X11_laid : Cond.lays RX11 RX11 "laid" "I" ∈ jT := jT_in (List.mem_append_right _ (List.mem_of_getElem? (i := 1210) (by decide +kernel))) rfl
theorem jwY_X11_laidAt : Cond.lays RX11 RX11 "laidAt" "I" ∈ jT := jT_in (List.mem_append_right _ (List.mem_of_getElem? (i := 1212) (by decide +kernel))) rfl
theorem jwY_X11_said : Cond.lays RX11 RX11 "said" "I" ∈ jT := jT_in (List.mem_append_right _ (List.mem_of_getElem? (i := 1214) (by decide +kernel))) rfl
theorem jwY_X11_named : Cond.laysFinal RX11 RX11 "named" "[I" ∈ jT := jT_in (List.mem_append_right _ (List.mem_of_getElem? (i := 1216) (by decide +kernel))) rfl
theorem jwY_X11_pile : Cond.laysFinal RX11 RX11 "pile" "[I" ∈ jT := jT_in (List.mem_append_right _ (List.mem_of_getElem? (i := 1218) (by decide +kernel))) rfl
theorem jwY_X11_carried : Cond.laysFinal RX11 RX11 "carried" "[I" ∈ jT := jT_in (List.mem_append_right _ (List.mem_of_getElem? (i := 1220) (by decide +kernel))) rfl
theorem jwY_X11_waits : Cond.laysFinal RX11 RX11 "waits" "[I" ∈ jT := jT_in (List.mem_append_right _ (List.mem_of_getElem? (i := 1222) (by decide +kernel))) rfl
theorem jwY_X11_waiting : Cond.lays RX11 RX11 "waiting" "I" ∈ jT := jT_in (List.mem_append_right _ (List.mem_of_getElem? (i := 1224) (by decide +kernel))) rfl
theorem jwY_X11_rowDue : Cond.laysFinal RX11 RX11 "rowDue" "[I" ∈ jT := jT_in (List.mem_append_right _ (List.mem_of_getElem? (i := 1226) (by decide +kernel))) rfl
theorem jwM_L_17 : Cond.methodLink RL 17 yX11_master ∈ jT := jT_in (List.mem_append_right _ (List.mem_of_getElem? (i := 1229) (by decide +kernel))) rfl
theorem jwN_X11_master : Cond.instanceMethod yX11_master ∈ jT := jT_in (List.mem_append_right _ (List.mem_of_getElem? (i := 1230) (by decide +kernel))) rfl
theorem jwX_X11_master : Cond.selects RX11 yX11_master yX11_master ∈ jT := jT_in (List.mem_append_right _ (List.mem_of_getElem? (i := 1231) (by decide +kernel))) rfl
set_option maxRecDepth 100000 in
theorem jwO_X11_master : Cond.code (mX11_master).1 (mX11_master).2.1 (mX11_master).2.2.1 (mX11_master).2.2.2 ∈ jT := jT_in (List.mem_append_right _ (List.mem_of_getElem? (i := 1232) rfl)) rfl
theorem jwL_X11_76 : Cond.constantLong RX11 76 5 ∈ jT := jT_in (List.mem_append_right _ (List.mem_of_getElem? (i := 1233) (by decide +kernel))) rfl
theorem jwM_X11_71 : Cond.methodLink RX11 71 yX11_isIn ∈ jT := jT_in (List.mem_append_right _ (List.mem_of_getElem? (i := 1234) (by decide +kernel))) rfl
theorem jwS_X11_isIn : Cond.static yX11_isIn ∈ jT := jT_in (List.mem_append_right _ (List.mem_of_getElem? (i := 1235) (by decide +kernel))) rfl
set_option maxRecDepth 100000 in
theorem jwO_X11_isIn : Cond.code (mX11_isIn).1 (mX11_isIn).2.1 (mX11_isIn).2.2.1 (mX11_isIn).2.2.2 ∈ jT := jT_in (List.mem_append_right _ (List.mem_of_getElem? (i := 1236) rfl)) rfl
theorem jwM_X11_78 : Cond.methodLink RX11 78 yX11_isTown ∈ jT := jT_in (List.mem_append_right _ (List.mem_of_getElem? (i := 1237) (by decide +kernel))) rfl
theorem jwS_X11_isTown : Cond.static yX11_isTown ∈ jT := jT_in (List.mem_append_right _ (List.mem_of_getElem? (i := 1238) (by decide +kernel))) rfl
set_option maxRecDepth 100000 in
theorem jwO_X11_isTown : Cond.code (mX11_isTown).1 (mX11_isTown).2.1 (mX11_isTown).2.2.1 (mX11_isTown).2.2.2 ∈ jT := jT_in (List.mem_append_right _ (List.mem_of_getElem? (i := 1239) rfl)) rfl
theorem jwM_X11_82 : Cond.methodLink RX11 82 yX11_isGesture ∈ jT := jT_in (List.mem_append_right _ (List.mem_of_getElem? (i := 1240) (by decide +kernel))) rfl
theorem jwS_X11_isGesture : Cond.static yX11_isGesture ∈ jT := jT_in (List.mem_append_right _ (List.mem_of_getElem? (i := 1241) (by decide +kernel))) rfl
set_option maxRecDepth 100000 in
theorem jwO_X11_isGesture : Cond.code (mX11_isGesture).1 (mX11_isGesture).2.1 (mX11_isGesture).2.2.1 (mX11_isGesture).2.2.2 ∈ jT := jT_in (List.mem_append_right _ (List.mem_of_getElem? (i := 1242) rfl)) rfl
theorem jwL_X11_85 : Cond.constantLong RX11 85 99 ∈ jT := jT_in (List.mem_append_right _ (List.mem_of_getElem? (i := 1243) (by decide +kernel))) rfl
theorem jwC_X11_87 : Cond.constant RX11 87 (-1000000001) ∈ jT := jT_in (List.mem_append_right _ (List.mem_of_getElem? (i := 1244) (by decide +kernel))) rfl
theorem jwC_X11_88 : Cond.constant RX11 88 (-1000000003) ∈ jT := jT_in (List.mem_append_right _ (List.mem_of_getElem? (i := 1245) (by decide +kernel))) rfl
theorem jwM_X11_89 : Cond.methodLink RX11 89 yX11_comes ∈ jT := jT_in (List.mem_append_right _ (List.mem_of_getElem? (i := 1246) (by decide +kernel))) rfl
theorem jwN_X11_comes : Cond.instanceMethod yX11_comes ∈ jT := jT_in (List.mem_append_right _ (List.mem_of_getElem? (i := 1248) (by decide +kernel))) rfl
set_option maxRecDepth 100000 in
theorem jwO_X11_comes : Cond.code (mX11_comes).1 (mX11_comes).2.1 (mX11_comes).2.2.1 (mX11_comes).2.2.2 ∈ jT := jT_in (List.mem_append_right _ (List.mem_of_getElem? (i := 1249) rfl)) rfl
theorem jwM_L_22 : Cond.methodLink RL 22 yX11_told ∈ jT := jT_in (List.mem_append_right _ (List.mem_of_getElem? (i := 1250) (by decide +kernel))) rfl
theorem jwN_X11_told : Cond.instanceMethod yX11_told ∈ jT := jT_in (List.mem_append_right _ (List.mem_of_getElem? (i := 1251) (by decide +kernel))) rfl
theorem jwX_X11_told : Cond.selects RX11 yX11_told yX11_told ∈ jT := jT_in (List.mem_append_right _ (List.mem_of_getElem? (i := 1252) (by decide +kernel))) rfl
set_option maxRecDepth 100000 in
theorem jwO_X11_told : Cond.code (mX11_told).1 (mX11_told).2.1 (mX11_told).2.2.1 (mX11_told).2.2.2 ∈ jT := jT_in (List.mem_append_right _ (List.mem_of_getElem? (i := 1253) rfl)) rfl
theorem jwM_X11_111 : Cond.methodLink RX11 111 yX11_isMaster ∈ jT := jT_in (List.mem_append_right _ (List.mem_of_getElem? (i := 1254) (by decide +kernel))) rfl
theorem jwN_X11_isMaster : Cond.instanceMethod yX11_isMaster ∈ jT := jT_in (List.mem_append_right _ (List.mem_of_getElem? (i := 1256) (by decide +kernel))) rfl
set_option maxRecDepth 100000 in
theorem jwO_X11_isMaster : Cond.code (mX11_isMaster).1 (mX11_isMaster).2.1 (mX11_isMaster).2.2.1 (mX11_isMaster).2.2.2 ∈ jT := jT_in (List.mem_append_right _ (List.mem_of_getElem? (i := 1257) rfl)) rfl
theorem jwL_X11_114 : Cond.constantLong RX11 114 9 ∈ jT := jT_in (List.mem_append_right _ (List.mem_of_getElem? (i := 1258) (by decide +kernel))) rfl
theorem jwM_X11_97 : Cond.methodLink RX11 97 yX11_of ∈ jT := jT_in (List.mem_append_right _ (List.mem_of_getElem? (i := 1259) (by decide +kernel))) rfl
theorem jwN_X11_of : Cond.instanceMethod yX11_of ∈ jT := jT_in (List.mem_append_right _ (List.mem_of_getElem? (i := 1261) (by decide +kernel))) rfl
set_option maxRecDepth 100000 in
theorem jwO_X11_of : Cond.code (mX11_of).1 (mX11_of).2.1 (mX11_of).2.2.1 (mX11_of).2.2.2 ∈ jT := jT_in (List.mem_append_right _ (List.mem_of_getElem? (i := 1262) rfl)) rfl
theorem jwM_X11_108 : Cond.methodLink RX11 108 yX11_manyIn ∈ jT := jT_in (List.mem_append_right _ (List.mem_of_getElem? (i := 1263) (by decide +kernel))) rfl
theorem jwS_X11_manyIn : Cond.static yX11_manyIn ∈ jT := jT_in (List.mem_append_right _ (List.mem_of_getElem? (i := 1264) (by decide +kernel))) rfl
set_option maxRecDepth 100000 in
theorem jwO_X11_manyIn : Cond.code (mX11_manyIn).1 (mX11_manyIn).2.1 (mX11_manyIn).2.2.1 (mX11_manyIn).2.2.2 ∈ jT := jT_in (List.mem_append_right _ (List.mem_of_getElem? (i := 1265) rfl)) rfl
theorem jwM_X11_116 : Cond.methodLink RX11 116 yX11_takes ∈ jT := jT_in (List.mem_append_right _ (List.mem_of_getElem? (i := 1266) (by decide +kernel))) rfl
theorem jwN_X11_takes : Cond.instanceMethod yX11_takes ∈ jT := jT_in (List.mem_append_right _ (List.mem_of_getElem? (i := 1268) (by decide +kernel))) rfl
set_option maxRecDepth 100000 in
theorem jwO_X11_takes : Cond.code (mX11_takes).1 (mX11_takes).2.1 (mX11_takes).2.2.1 (mX11_takes).2.2.2 ∈ jT := jT_in (List.mem_append_right _ (List.mem_of_getElem? (i := 1269) rfl)) rfl
theorem jwM_X11_93 : Cond.methodLink RX11 93 yX11_counts ∈ jT := jT_in (List.mem_append_right _ (List.mem_of_getElem? (i := 1270) (by decide +kernel))) rfl
theorem jwN_X11_counts : Cond.instanceMethod yX11_counts ∈ jT := jT_in (List.mem_append_right _ (List.mem_of_getElem? (i := 1272) (by decide +kernel))) rfl
set_option maxRecDepth 100000 in
theorem jwO_X11_counts : Cond.code (mX11_counts).1 (mX11_counts).2.1 (mX11_counts).2.2.1 (mX11_counts).2.2.2 ∈ jT := jT_in (List.mem_append_right _ (List.mem_of_getElem? (i := 1273) rfl)) rfl
theorem jwM_X11_296 : Cond.methodLink RX11 296 yX11_textAt ∈ jT := jT_in (List.mem_append_right _ (List.mem_of_getElem? (i := 1274) (by decide +kernel))) rfl
theorem jwN_X11_textAt : Cond.instanceMethod yX11_textAt ∈ jT := jT_in (List.mem_append_right _ (List.mem_of_getElem? (i := 1276) (by decide +kernel))) rfl
set_option maxRecDepth 100000 in
theorem jwO_X11_textAt : Cond.code (mX11_textAt).1 (mX11_textAt).2.1 (mX11_textAt).2.2.1 (mX11_textAt).2.2.2 ∈ jT := jT_in (List.mem_append_right _ (List.mem_of_getElem? (i := 1277) rfl)) rfl
theorem jwM_X11_101 : Cond.methodLink RX11 101 yX11_worked ∈ jT := jT_in (List.mem_append_right _ (List.mem_of_getElem? (i := 1278) (by decide +kernel))) rfl
theorem jwN_X11_worked : Cond.instanceMethod yX11_worked ∈ jT := jT_in (List.mem_append_right _ (List.mem_of_getElem? (i := 1280) (by decide +kernel))) rfl
set_option maxRecDepth 100000 in
theorem jwO_X11_worked : Cond.code (mX11_worked).1 (mX11_worked).2.1 (mX11_worked).2.2.1 (mX11_worked).2.2.2 ∈ jT := jT_in (List.mem_append_right _ (List.mem_of_getElem? (i := 1281) rfl)) rfl
theorem jwM_X11_311 : Cond.methodLink RX11 311 yX11_joined ∈ jT := jT_in (List.mem_append_right _ (List.mem_of_getElem? (i := 1282) (by decide +kernel))) rfl
theorem jwS_X11_joined : Cond.static yX11_joined ∈ jT := jT_in (List.mem_append_right _ (List.mem_of_getElem? (i := 1283) (by decide +kernel))) rfl
set_option maxRecDepth 100000 in
theorem jwO_X11_joined : Cond.code (mX11_joined).1 (mX11_joined).2.1 (mX11_joined).2.2.1 (mX11_joined).2.2.2 ∈ jT := jT_in (List.mem_append_right _ (List.mem_of_getElem? (i := 1284) rfl)) rfl
theorem jwM_X11_104 : Cond.methodLink RX11 104 yX11_within ∈ jT := jT_in (List.mem_append_right _ (List.mem_of_getElem? (i := 1285) (by decide +kernel))) rfl
theorem jwS_X11_within : Cond.static yX11_within ∈ jT := jT_in (List.mem_append_right _ (List.mem_of_getElem? (i := 1286) (by decide +kernel))) rfl
set_option maxRecDepth 100000 in
theorem jwO_X11_within : Cond.code (mX11_within).1 (mX11_within).2.1 (mX11_within).2.2.1 (mX11_within).2.2.2 ∈ jT := jT_in (List.mem_append_right _ (List.mem_of_getElem? (i := 1287) rfl)) rfl
theorem jwM_X11_119 : Cond.methodLink RX11 119 yX11_worth ∈ jT := jT_in (List.mem_append_right _ (List.mem_of_getElem? (i := 1288) (by decide +kernel))) rfl
theorem jwN_X11_worth : Cond.instanceMethod yX11_worth ∈ jT := jT_in (List.mem_append_right _ (List.mem_of_getElem? (i := 1290) (by decide +kernel))) rfl
set_option maxRecDepth 100000 in
theorem jwO_X11_worth : Cond.code (mX11_worth).1 (mX11_worth).2.1 (mX11_worth).2.2.1 (mX11_worth).2.2.2 ∈ jT := jT_in (List.mem_append_right _ (List.mem_of_getElem? (i := 1291) rfl)) rfl
theorem jwM_X11_122 : Cond.methodLink RX11 122 yX11_teaches ∈ jT := jT_in (List.mem_append_right _ (List.mem_of_getElem? (i := 1292) (by decide +kernel))) rfl
theorem jwN_X11_teaches : Cond.instanceMethod yX11_teaches ∈ jT := jT_in (List.mem_append_right _ (List.mem_of_getElem? (i := 1294) (by decide +kernel))) rfl
set_option maxRecDepth 100000 in
theorem jwO_X11_teaches : Cond.code (mX11_teaches).1 (mX11_teaches).2.1 (mX11_teaches).2.2.1 (mX11_teaches).2.2.2 ∈ jT := jT_in (List.mem_append_right _ (List.mem_of_getElem? (i := 1295) rfl)) rfl
theorem jwM_L_26 : Cond.methodLink RL 26 yX11_as ∈ jT := jT_in (List.mem_append_right _ (List.mem_of_getElem? (i := 1296) (by decide +kernel))) rfl
theorem jwN_X11_as : Cond.instanceMethod yX11_as ∈ jT := jT_in (List.mem_append_right _ (List.mem_of_getElem? (i := 1297) (by decide +kernel))) rfl
theorem jwX_X11_as : Cond.selects RX11 yX11_as yX11_as ∈ jT := jT_in (List.mem_append_right _ (List.mem_of_getElem? (i := 1298) (by decide +kernel))) rfl
set_option maxRecDepth 100000 in
theorem jwO_X11_as : Cond.code (mX11_as).1 (mX11_as).2.1 (mX11_as).2.2.1 (mX11_as).2.2.2 ∈ jT := jT_in (List.mem_append_right _ (List.mem_of_getElem? (i := 1299) rfl)) rfl
theorem jwM_X11_126 : Cond.methodLink RX11 126 yX11_isOf ∈ jT := jT_in (List.mem_append_right _ (List.mem_of_getElem? (i := 1300) (by decide +kernel))) rfl
theorem jwS_X11_isOf : Cond.static yX11_isOf ∈ jT := jT_in (List.mem_append_right _ (List.mem_of_getElem? (i := 1301) (by decide +kernel))) rfl
set_option maxRecDepth 100000 in
theorem jwO_X11_isOf : Cond.code (mX11_isOf).1 (mX11_isOf).2.1 (mX11_isOf).2.2.1 (mX11_isOf).2.2.2 ∈ jT := jT_in (List.mem_append_right _ (List.mem_of_getElem? (i := 1302) rfl)) rfl
theorem jwC_X11_129 : Cond.constant RX11 129 (-1000000012) ∈ jT := jT_in (List.mem_append_right _ (List.mem_of_getElem? (i := 1303) (by decide +kernel))) rfl
theorem jwM_L_30 : Cond.methodLink RL 30 yX11_turns ∈ jT := jT_in (List.mem_append_right _ (List.mem_of_getElem? (i := 1304) (by decide +kernel))) rfl
theorem jwN_X11_turns : Cond.instanceMethod yX11_turns ∈ jT := jT_in (List.mem_append_right _ (List.mem_of_getElem? (i := 1305) (by decide +kernel))) rfl
theorem jwX_X11_turns : Cond.selects RX11 yX11_turns yX11_turns ∈ jT := jT_in (List.mem_append_right _ (List.mem_of_getElem? (i := 1306) (by decide +kernel))) rfl
set_option maxRecDepth 100000 in
theorem jwO_X11_turns : Cond.code (mX11_turns).1 (mX11_turns).2.1 (mX11_turns).2.2.1 (mX11_turns).2.2.2 ∈ jT := jT_in (List.mem_append_right _ (List.mem_of_getElem? (i := 1307) rfl)) rfl
theorem jwM_X11_130 : Cond.methodLink RX11 130 yX11_becomes ∈ jT := jT_in (List.mem_append_right _ (List.mem_of_getElem? (i := 1308) (by decide +kernel))) rfl
theorem jwN_X11_becomes : Cond.instanceMethod yX11_becomes ∈ jT := jT_in (List.mem_append_right _ (List.mem_of_getElem? (i := 1310) (by decide +kernel))) rfl
set_option maxRecDepth 100000 in
theorem jwO_X11_becomes : Cond.code (mX11_becomes).1 (mX11_becomes).2.1 (mX11_becomes).2.2.1 (mX11_becomes).2.2.2 ∈ jT := jT_in (List.mem_append_right _ (List.mem_of_getElem? (i := 1311) rfl)) rfl
theorem jwM_L_35 : Cond.methodLink RL 35 yX11_set ∈ jT := jT_in (List.mem_append_right _ (List.mem_of_getElem? (i := 1312) (by decide +kernel))) rfl
theorem jwN_X11_set : Cond.instanceMethod yX11_set ∈ jT := jT_in (List.mem_append_right _ (List.mem_of_getElem? (i := 1313) (by decide +kernel))) rfl
theorem jwX_X11_set : Cond.selects RX11 yX11_set yX11_set ∈ jT := jT_in (List.mem_append_right _ (List.mem_of_getElem? (i := 1314) (by decide +kernel))) rfl
set_option maxRecDepth 100000 in
theorem jwO_X11_set : Cond.code (mX11_set).1 (mX11_set).2.1 (mX11_set).2.2.1 (mX11_set).2.2.2 ∈ jT := jT_in (List.mem_append_right _ (List.mem_of_getElem? (i := 1315) rfl)) rfl
theorem jwL_X11_133 : Cond.constantLong RX11 133 4 ∈ jT := jT_in (List.mem_append_right _ (List.mem_of_getElem? (i := 1316) (by decide +kernel))) rfl
theorem jwL_X11_135 : Cond.constantLong RX11 135 6 ∈ jT := jT_in (List.mem_append_right _ (List.mem_of_getElem? (i := 1317) (by decide +kernel))) rfl
theorem jwM_L_39 : Cond.methodLink RL 39 yX11_bars ∈ jT := jT_in (List.mem_append_right _ (List.mem_of_getElem? (i := 1318) (by decide +kernel))) rfl
theorem jwN_X11_bars : Cond.instanceMethod yX11_bars ∈ jT := jT_in (List.mem_append_right _ (List.mem_of_getElem? (i := 1319) (by decide +kernel))) rfl
theorem jwX_X11_bars : Cond.selects RX11 yX11_bars yX11_bars ∈ jT := jT_in (List.mem_append_right _ (List.mem_of_getElem? (i := 1320) (by decide +kernel))) rfl
set_option maxRecDepth 100000 in
theorem jwO_X11_bars : Cond.code (mX11_bars).1 (mX11_bars).2.1 (mX11_bars).2.2.1 (mX11_bars).2.2.2 ∈ jT := jT_in (List.mem_append_right _ (List.mem_of_getElem? (i := 1321) rfl)) rfl
theorem jwM_L_43 : Cond.methodLink RL 43 yX11_road ∈ jT := jT_in (List.mem_append_right _ (List.mem_of_getElem? (i := 1322) (by decide +kernel))) rfl
theorem jwN_X11_road : Cond.instanceMethod yX11_road ∈ jT := jT_in (List.mem_append_right _ (List.mem_of_getElem? (i := 1323) (by decide +kernel))) rfl
theorem jwX_X11_road : Cond.selects RX11 yX11_road yX11_road ∈ jT := jT_in (List.mem_append_right _ (List.mem_of_getElem? (i := 1324) (by decide +kernel))) rfl
set_option maxRecDepth 100000 in
theorem jwO_X11_road : Cond.code (mX11_road).1 (mX11_road).2.1 (mX11_road).2.2.1 (mX11_road).2.2.2 ∈ jT := jT_in (List.mem_append_right _ (List.mem_of_getElem? (i := 1325) rfl)) rfl
theorem jwM_L_47 : Cond.methodLink RL 47 yX11_far ∈ jT := jT_in (List.mem_append_right _ (List.mem_of_getElem? (i := 1326) (by decide +kernel))) rfl
theorem jwN_X11_far : Cond.instanceMethod yX11_far ∈ jT := jT_in (List.mem_append_right _ (List.mem_of_getElem? (i := 1327) (by decide +kernel))) rfl
theorem jwX_X11_far : Cond.selects RX11 yX11_far yX11_far ∈ jT := jT_in (List.mem_append_right _ (List.mem_of_getElem? (i := 1328) (by decide +kernel))) rfl
set_option maxRecDepth 100000 in
theorem jwO_X11_far : Cond.code (mX11_far).1 (mX11_far).2.1 (mX11_far).2.2.1 (mX11_far).2.2.2 ∈ jT := jT_in (List.mem_append_right _ (List.mem_of_getElem? (i := 1329) rfl)) rfl
theorem jwM_X11_137 : Cond.methodLink RX11 137 yX11_findFar ∈ jT := jT_in (List.mem_append_right _ (List.mem_of_getElem? (i := 1330) (by decide +kernel))) rfl
theorem jwN_X11_findFar : Cond.instanceMethod yX11_findFar ∈ jT := jT_in (List.mem_append_right _ (List.mem_of_getElem? (i := 1332) (by decide +kernel))) rfl
set_option maxRecDepth 100000 in
theorem jwO_X11_findFar : Cond.code (mX11_findFar).1 (mX11_findFar).2.1 (mX11_findFar).2.2.1 (mX11_findFar).2.2.2 ∈ jT := jT_in (List.mem_append_right _ (List.mem_of_getElem? (i := 1333) rfl)) rfl
theorem jwC_X11_70 : Cond.constant RX11 70 (-1000000005) ∈ jT := jT_in (List.mem_append_right _ (List.mem_of_getElem? (i := 1334) (by decide +kernel))) rfl
theorem jwM_L_52 : Cond.methodLink RL 52 yX11_deal ∈ jT := jT_in (List.mem_append_right _ (List.mem_of_getElem? (i := 1335) (by decide +kernel))) rfl
theorem jwN_X11_deal : Cond.instanceMethod yX11_deal ∈ jT := jT_in (List.mem_append_right _ (List.mem_of_getElem? (i := 1336) (by decide +kernel))) rfl
theorem jwX_X11_deal : Cond.selects RX11 yX11_deal yX11_deal ∈ jT := jT_in (List.mem_append_right _ (List.mem_of_getElem? (i := 1337) (by decide +kernel))) rfl
set_option maxRecDepth 100000 in
theorem jwO_X11_deal : Cond.code (mX11_deal).1 (mX11_deal).2.1 (mX11_deal).2.2.1 (mX11_deal).2.2.2 ∈ jT := jT_in (List.mem_append_right _ (List.mem_of_getElem? (i := 1338) rfl)) rfl
theorem jwM_X11_140 : Cond.methodLink RX11 140 yX11_drawn ∈ jT := jT_in (List.mem_append_right _ (List.mem_of_getElem? (i := 1339) (by decide +kernel))) rfl
theorem jwN_X11_drawn : Cond.instanceMethod yX11_drawn ∈ jT := jT_in (List.mem_append_right _ (List.mem_of_getElem? (i := 1341) (by decide +kernel))) rfl
set_option maxRecDepth 100000 in
theorem jwO_X11_drawn : Cond.code (mX11_drawn).1 (mX11_drawn).2.1 (mX11_drawn).2.2.1 (mX11_drawn).2.2.2 ∈ jT := jT_in (List.mem_append_right _ (List.mem_of_getElem? (i := 1342) rfl)) rfl
theorem jwC_X11_75 : Cond.constant RX11 75 1103515245 ∈ jT := jT_in (List.mem_append_right _ (List.mem_of_getElem? (i := 1343) (by decide +kernel))) rfl
theorem jwM_L_56 : Cond.methodLink RL 56 yX11_seed ∈ jT := jT_in (List.mem_append_right _ (List.mem_of_getElem? (i := 1344) (by decide +kernel))) rfl
theorem jwN_X11_seed : Cond.instanceMethod yX11_seed ∈ jT := jT_in (List.mem_append_right _ (List.mem_of_getElem? (i := 1345) (by decide +kernel))) rfl
theorem jwX_X11_seed : Cond.selects RX11 yX11_seed yX11_seed ∈ jT := jT_in (List.mem_append_right _ (List.mem_of_getElem? (i := 1346) (by decide +kernel))) rfl
set_option maxRecDepth 100000 in
theorem jwO_X11_seed : Cond.code (mX11_seed).1 (mX11_seed).2.1 (mX11_seed).2.2.1 (mX11_seed).2.2.2 ∈ jT := jT_in (List.mem_append_right _ (List.mem_of_getElem? (i := 1347) rfl)) rfl
theorem jwM_L_60 : Cond.methodLink RL 60 yX11_apprentice ∈ jT := jT_in (List.mem_append_right _ (List.mem_of_getElem? (i := 1348) (by decide +kernel))) rfl
theorem jwN_X11_apprentice : Cond.instanceMethod yX11_apprentice ∈ jT := jT_in (List.mem_append_right _ (List.mem_of_getElem? (i := 1349) (by decide +kernel))) rfl
theorem jwX_X11_apprentice : Cond.selects RX11 yX11_apprentice yX11_apprentice ∈ jT := jT_in (List.mem_append_right _ (List.mem_of_getElem? (i := 1350) (by decide +kernel))) rfl
set_option maxRecDepth 100000 in
theorem jwO_X11_apprentice : Cond.code (mX11_apprentice).1 (mX11_apprentice).2.1 (mX11_apprentice).2.2.1 (mX11_apprentice).2.2.2 ∈ jT := jT_in (List.mem_append_right _ (List.mem_of_getElem? (i := 1351) rfl)) rfl
theorem jwL_X11_144 : Cond.constantLong RX11 144 3 ∈ jT := jT_in (List.mem_append_right _ (List.mem_of_getElem? (i := 1352) (by decide +kernel))) rfl
theorem jwM_L_64 : Cond.methodLink RL 64 yX11_has ∈ jT := jT_in (List.mem_append_right _ (List.mem_of_getElem? (i := 1353) (by decide +kernel))) rfl
theorem jwN_X11_has : Cond.instanceMethod yX11_has ∈ jT := jT_in (List.mem_append_right _ (List.mem_of_getElem? (i := 1354) (by decide +kernel))) rfl
theorem jwX_X11_has : Cond.selects RX11 yX11_has yX11_has ∈ jT := jT_in (List.mem_append_right _ (List.mem_of_getElem? (i := 1355) (by decide +kernel))) rfl
set_option maxRecDepth 100000 in
theorem jwO_X11_has : Cond.code (mX11_has).1 (mX11_has).2.1 (mX11_has).2.2.1 (mX11_has).2.2.2 ∈ jT := jT_in (List.mem_append_right _ (List.mem_of_getElem? (i := 1356) rfl)) rfl
theorem jwL_X11_146 : Cond.constantLong RX11 146 2 ∈ jT := jT_in (List.mem_append_right _ (List.mem_of_getElem? (i := 1357) (by decide +kernel))) rfl
theorem jwL_X11_148 : Cond.constantLong RX11 148 9999 ∈ jT := jT_in (List.mem_append_right _ (List.mem_of_getElem? (i := 1358) (by decide +kernel))) rfl
theorem jwM_L_68 : Cond.methodLink RL 68 yX11_knows ∈ jT := jT_in (List.mem_append_right _ (List.mem_of_getElem? (i := 1359) (by decide +kernel))) rfl
theorem jwN_X11_knows : Cond.instanceMethod yX11_knows ∈ jT := jT_in (List.mem_append_right _ (List.mem_of_getElem? (i := 1360) (by decide +kernel))) rfl
theorem jwX_X11_knows : Cond.selects RX11 yX11_knows yX11_knows ∈ jT := jT_in (List.mem_append_right _ (List.mem_of_getElem? (i := 1361) (by decide +kernel))) rfl
set_option maxRecDepth 100000 in
theorem jwO_X11_knows : Cond.code (mX11_knows).1 (mX11_knows).2.1 (mX11_knows).2.2.1 (mX11_knows).2.2.2 ∈ jT := jT_in (List.mem_append_right _ (List.mem_of_getElem? (i := 1362) rfl)) rfl
theorem jwM_X11_150 : Cond.methodLink RX11 150 yX11_doesKnow ∈ jT := jT_in (List.mem_append_right _ (List.mem_of_getElem? (i := 1363) (by decide +kernel))) rfl
theorem jwN_X11_doesKnow : Cond.instanceMethod yX11_doesKnow ∈ jT := jT_in (List.mem_append_right _ (List.mem_of_getElem? (i := 1365) (by decide +kernel))) rfl
set_option maxRecDepth 100000 in
theorem jwO_X11_doesKnow : Cond.code (mX11_doesKnow).1 (mX11_doesKnow).2.1 (mX11_doesKnow).2.2.1 (mX11_doesKnow).2.2.2 ∈ jT := jT_in (List.mem_append_right _ (List.mem_of_getElem? (i := 1366) rfl)) rfl
theorem jwC_X11_153 : Cond.constant RX11 153 (-1000000002) ∈ jT := jT_in (List.mem_append_right _ (List.mem_of_getElem? (i := 1367) (by decide +kernel))) rfl
theorem jwM_L_72 : Cond.methodLink RL 72 yX11_go ∈ jT := jT_in (List.mem_append_right _ (List.mem_of_getElem? (i := 1368) (by decide +kernel))) rfl
theorem jwN_X11_go : Cond.instanceMethod yX11_go ∈ jT := jT_in (List.mem_append_right _ (List.mem_of_getElem? (i := 1369) (by decide +kernel))) rfl
theorem jwX_X11_go : Cond.selects RX11 yX11_go yX11_go ∈ jT := jT_in (List.mem_append_right _ (List.mem_of_getElem? (i := 1370) (by decide +kernel))) rfl
set_option maxRecDepth 100000 in
theorem jwO_X11_go : Cond.code (mX11_go).1 (mX11_go).2.1 (mX11_go).2.2.1 (mX11_go).2.2.2 ∈ jT := jT_in (List.mem_append_right _ (List.mem_of_getElem? (i := 1371) rfl)) rfl
theorem jwM_X11_154 : Cond.methodLink RX11 154 yX11_goesBy ∈ jT := jT_in (List.mem_append_right _ (List.mem_of_getElem? (i := 1372) (by decide +kernel))) rfl
theorem jwN_X11_goesBy : Cond.instanceMethod yX11_goesBy ∈ jT := jT_in (List.mem_append_right _ (List.mem_of_getElem? (i := 1374) (by decide +kernel))) rfl
set_option maxRecDepth 100000 in
theorem jwO_X11_goesBy : Cond.code (mX11_goesBy).1 (mX11_goesBy).2.1 (mX11_goesBy).2.2.1 (mX11_goesBy).2.2.2 ∈ jT := jT_in (List.mem_append_right _ (List.mem_of_getElem? (i := 1375) rfl)) rfl
theorem jwM_L_76 : Cond.methodLink RL 76 yX11_learn ∈ jT := jT_in (List.mem_append_right _ (List.mem_of_getElem? (i := 1376) (by decide +kernel))) rfl
theorem jwN_X11_learn : Cond.instanceMethod yX11_learn ∈ jT := jT_in (List.mem_append_right _ (List.mem_of_getElem? (i := 1377) (by decide +kernel))) rfl
theorem jwX_X11_learn : Cond.selects RX11 yX11_learn yX11_learn ∈ jT := jT_in (List.mem_append_right _ (List.mem_of_getElem? (i := 1378) (by decide +kernel))) rfl
set_option maxRecDepth 100000 in
theorem jwO_X11_learn : Cond.code (mX11_learn).1 (mX11_learn).2.1 (mX11_learn).2.2.1 (mX11_learn).2.2.2 ∈ jT := jT_in (List.mem_append_right _ (List.mem_of_getElem? (i := 1379) rfl)) rfl
theorem jwM_X11_161 : Cond.methodLink RX11 161 yX11_canLearn ∈ jT := jT_in (List.mem_append_right _ (List.mem_of_getElem? (i := 1380) (by decide +kernel))) rfl
theorem jwN_X11_canLearn : Cond.instanceMethod yX11_canLearn ∈ jT := jT_in (List.mem_append_right _ (List.mem_of_getElem? (i := 1382) (by decide +kernel))) rfl
set_option maxRecDepth 100000 in
theorem jwO_X11_canLearn : Cond.code (mX11_canLearn).1 (mX11_canLearn).2.1 (mX11_canLearn).2.2.1 (mX11_canLearn).2.2.2 ∈ jT := jT_in (List.mem_append_right _ (List.mem_of_getElem? (i := 1383) rfl)) rfl
theorem jwM_X11_164 : Cond.methodLink RX11 164 yX11_learns ∈ jT := jT_in (List.mem_append_right _ (List.mem_of_getElem? (i := 1384) (by decide +kernel))) rfl
theorem jwN_X11_learns : Cond.instanceMethod yX11_learns ∈ jT := jT_in (List.mem_append_right _ (List.mem_of_getElem? (i := 1386) (by decide +kernel))) rfl
set_option maxRecDepth 100000 in
theorem jwO_X11_learns : Cond.code (mX11_learns).1 (mX11_learns).2.1 (mX11_learns).2.2.1 (mX11_learns).2.2.2 ∈ jT := jT_in (List.mem_append_right _ (List.mem_of_getElem? (i := 1387) rfl)) rfl
theorem jwM_X11_158 : Cond.methodLink RX11 158 yX11_behindLesson ∈ jT := jT_in (List.mem_append_right _ (List.mem_of_getElem? (i := 1388) (by decide +kernel))) rfl
theorem jwN_X11_behindLesson : Cond.instanceMethod yX11_behindLesson ∈ jT := jT_in (List.mem_append_right _ (List.mem_of_getElem? (i := 1390) (by decide +kernel))) rfl
set_option maxRecDepth 100000 in
theorem jwO_X11_behindLesson : Cond.code (mX11_behindLesson).1 (mX11_behindLesson).2.1 (mX11_behindLesson).2.2.1 (mX11_behindLesson).2.2.2 ∈ jT := jT_in (List.mem_append_right _ (List.mem_of_getElem? (i := 1391) rfl)) rfl
theorem jwM_L_80 : Cond.methodLink RL 80 yX11_use ∈ jT := jT_in (List.mem_append_right _ (List.mem_of_getElem? (i := 1392) (by decide +kernel))) rfl
theorem jwN_X11_use : Cond.instanceMethod yX11_use ∈ jT := jT_in (List.mem_append_right _ (List.mem_of_getElem? (i := 1393) (by decide +kernel))) rfl
theorem jwX_X11_use : Cond.selects RX11 yX11_use yX11_use ∈ jT := jT_in (List.mem_append_right _ (List.mem_of_getElem? (i := 1394) (by decide +kernel))) rfl
set_option maxRecDepth 100000 in
theorem jwO_X11_use : Cond.code (mX11_use).1 (mX11_use).2.1 (mX11_use).2.2.1 (mX11_use).2.2.2 ∈ jT := jT_in (List.mem_append_right _ (List.mem_of_getElem? (i := 1395) rfl)) rfl
theorem jwM_X11_167 : Cond.methodLink RX11 167 yX11_uses ∈ jT := jT_in (List.mem_append_right _ (List.mem_of_getElem? (i := 1396) (by decide +kernel))) rfl
theorem jwN_X11_uses : Cond.instanceMethod yX11_uses ∈ jT := jT_in (List.mem_append_right _ (List.mem_of_getElem? (i := 1398) (by decide +kernel))) rfl
set_option maxRecDepth 100000 in
theorem jwO_X11_uses : Cond.code (mX11_uses).1 (mX11_uses).2.1 (mX11_uses).2.2.1 (mX11_uses).2.2.2 ∈ jT := jT_in (List.mem_append_right _ (List.mem_of_getElem? (i := 1399) rfl)) rfl
theorem jwM_L_84 : Cond.methodLink RL 84 yX11_rests ∈ jT := jT_in (List.mem_append_right _ (List.mem_of_getElem? (i := 1400) (by decide +kernel))) rfl
theorem jwN_X11_rests : Cond.instanceMethod yX11_rests ∈ jT := jT_in (List.mem_append_right _ (List.mem_of_getElem? (i := 1401) (by decide +kernel))) rfl
theorem jwX_X11_rests : Cond.selects RX11 yX11_rests yX11_rests ∈ jT := jT_in (List.mem_append_right _ (List.mem_of_getElem? (i := 1402) (by decide +kernel))) rfl
set_option maxRecDepth 100000 in
theorem jwO_X11_rests : Cond.code (mX11_rests).1 (mX11_rests).2.1 (mX11_rests).2.2.1 (mX11_rests).2.2.2 ∈ jT := jT_in (List.mem_append_right _ (List.mem_of_getElem? (i := 1403) rfl)) rfl
theorem jwL_X11_170 : Cond.constantLong RX11 170 100 ∈ jT := jT_in (List.mem_append_right _ (List.mem_of_getElem? (i := 1404) (by decide +kernel))) rfl
theorem jwM_L_88 : Cond.methodLink RL 88 yX11_wants ∈ jT := jT_in (List.mem_append_right _ (List.mem_of_getElem? (i := 1405) (by decide +kernel))) rfl
theorem jwN_X11_wants : Cond.instanceMethod yX11_wants ∈ jT := jT_in (List.mem_append_right _ (List.mem_of_getElem? (i := 1406) (by decide +kernel))) rfl
theorem jwX_X11_wants : Cond.selects RX11 yX11_wants yX11_wants ∈ jT := jT_in (List.mem_append_right _ (List.mem_of_getElem? (i := 1407) (by decide +kernel))) rfl
set_option maxRecDepth 100000 in
theorem jwO_X11_wants : Cond.code (mX11_wants).1 (mX11_wants).2.1 (mX11_wants).2.2.1 (mX11_wants).2.2.2 ∈ jT := jT_in (List.mem_append_right _ (List.mem_of_getElem? (i := 1408) rfl)) rfl
theorem jwM_L_93 : Cond.methodLink RL 93 yX11_clear ∈ jT := jT_in (List.mem_append_right _ (List.mem_of_getElem? (i := 1409) (by decide +kernel))) rfl
theorem jwN_X11_clear : Cond.instanceMethod yX11_clear ∈ jT := jT_in (List.mem_append_right _ (List.mem_of_getElem? (i := 1410) (by decide +kernel))) rfl
theorem jwX_X11_clear : Cond.selects RX11 yX11_clear yX11_clear ∈ jT := jT_in (List.mem_append_right _ (List.mem_of_getElem? (i := 1411) (by decide +kernel))) rfl
set_option maxRecDepth 100000 in
theorem jwO_X11_clear : Cond.code (mX11_clear).1 (mX11_clear).2.1 (mX11_clear).2.2.1 (mX11_clear).2.2.2 ∈ jT := jT_in (List.mem_append_right _ (List.mem_of_getElem? (i := 1412) rfl)) rfl
theorem jwM_L_97 : Cond.methodLink RL 97 yX11_made ∈ jT := jT_in (List.mem_append_right _ (List.mem_of_getElem? (i := 1413) (by decide +kernel))) rfl
theorem jwN_X11_made : Cond.instanceMethod yX11_made ∈ jT := jT_in (List.mem_append_right _ (List.mem_of_getElem? (i := 1414) (by decide +kernel))) rfl
theorem jwX_X11_made : Cond.selects RX11 yX11_made yX11_made ∈ jT := jT_in (List.mem_append_right _ (List.mem_of_getElem? (i := 1415) (by decide +kernel))) rfl
set_option maxRecDepth 100000 in
theorem jwO_X11_made : Cond.code (mX11_made).1 (mX11_made).2.1 (mX11_made).2.2.1 (mX11_made).2.2.2 ∈ jT := jT_in (List.mem_append_right _ (List.mem_of_getElem? (i := 1416) rfl)) rfl
theorem jwM_X11_172 : Cond.methodLink RX11 172 yX11_can ∈ jT := jT_in (List.mem_append_right _ (List.mem_of_getElem? (i := 1417) (by decide +kernel))) rfl
theorem jwN_X11_can : Cond.instanceMethod yX11_can ∈ jT := jT_in (List.mem_append_right _ (List.mem_of_getElem? (i := 1419) (by decide +kernel))) rfl
set_option maxRecDepth 100000 in
theorem jwO_X11_can : Cond.code (mX11_can).1 (mX11_can).2.1 (mX11_can).2.2.1 (mX11_can).2.2.2 ∈ jT := jT_in (List.mem_append_right _ (List.mem_of_getElem? (i := 1420) rfl)) rfl
theorem jwM_L_101 : Cond.methodLink RL 101 yX11_soonest ∈ jT := jT_in (List.mem_append_right _ (List.mem_of_getElem? (i := 1421) (by decide +kernel))) rfl
theorem jwN_X11_soonest : Cond.instanceMethod yX11_soonest ∈ jT := jT_in (List.mem_append_right _ (List.mem_of_getElem? (i := 1422) (by decide +kernel))) rfl
theorem jwX_X11_soonest : Cond.selects RX11 yX11_soonest yX11_soonest ∈ jT := jT_in (List.mem_append_right _ (List.mem_of_getElem? (i := 1423) (by decide +kernel))) rfl
set_option maxRecDepth 100000 in
theorem jwO_X11_soonest : Cond.code (mX11_soonest).1 (mX11_soonest).2.1 (mX11_soonest).2.2.1 (mX11_soonest).2.2.2 ∈ jT := jT_in (List.mem_append_right _ (List.mem_of_getElem? (i := 1424) rfl)) rfl
theorem jwM_X11_195 : Cond.methodLink RX11 195 yX11_findSoonest ∈ jT := jT_in (List.mem_append_right _ (List.mem_of_getElem? (i := 1425) (by decide +kernel))) rfl
theorem jwN_X11_findSoonest : Cond.instanceMethod yX11_findSoonest ∈ jT := jT_in (List.mem_append_right _ (List.mem_of_getElem? (i := 1427) (by decide +kernel))) rfl
set_option maxRecDepth 100000 in
theorem jwO_X11_findSoonest : Cond.code (mX11_findSoonest).1 (mX11_findSoonest).2.1 (mX11_findSoonest).2.2.1 (mX11_findSoonest).2.2.2 ∈ jT := jT_in (List.mem_append_right _ (List.mem_of_getElem? (i := 1428) rfl)) rfl
theorem jwM_X11_186 : Cond.methodLink RX11 186 yX11_laysBy ∈ jT := jT_in (List.mem_append_right _ (List.mem_of_getElem? (i := 1429) (by decide +kernel))) rfl
theorem jwN_X11_laysBy : Cond.instanceMethod yX11_laysBy ∈ jT := jT_in (List.mem_append_right _ (List.mem_of_getElem? (i := 1431) (by decide +kernel))) rfl
set_option maxRecDepth 100000 in
theorem jwO_X11_laysBy : Cond.code (mX11_laysBy).1 (mX11_laysBy).2.1 (mX11_laysBy).2.2.1 (mX11_laysBy).2.2.2 ∈ jT := jT_in (List.mem_append_right _ (List.mem_of_getElem? (i := 1432) rfl)) rfl
theorem jwM_X11_189 : Cond.methodLink RX11 189 yX11_goesWay ∈ jT := jT_in (List.mem_append_right _ (List.mem_of_getElem? (i := 1433) (by decide +kernel))) rfl
theorem jwN_X11_goesWay : Cond.instanceMethod yX11_goesWay ∈ jT := jT_in (List.mem_append_right _ (List.mem_of_getElem? (i := 1435) (by decide +kernel))) rfl
set_option maxRecDepth 100000 in
theorem jwO_X11_goesWay : Cond.code (mX11_goesWay).1 (mX11_goesWay).2.1 (mX11_goesWay).2.2.1 (mX11_goesWay).2.2.2 ∈ jT := jT_in (List.mem_append_right _ (List.mem_of_getElem? (i := 1436) rfl)) rfl
theorem jwM_X11_192 : Cond.methodLink RX11 192 yX11_laysBack ∈ jT := jT_in (List.mem_append_right _ (List.mem_of_getElem? (i := 1437) (by decide +kernel))) rfl
theorem jwN_X11_laysBack : Cond.instanceMethod yX11_laysBack ∈ jT := jT_in (List.mem_append_right _ (List.mem_of_getElem? (i := 1439) (by decide +kernel))) rfl
set_option maxRecDepth 100000 in
theorem jwO_X11_laysBack : Cond.code (mX11_laysBack).1 (mX11_laysBack).2.1 (mX11_laysBack).2.2.1 (mX11_laysBack).2.2.2 ∈ jT := jT_in (List.mem_append_right _ (List.mem_of_getElem? (i := 1440) rfl)) rfl
theorem jwM_L_105 : Cond.methodLink RL 105 yX11_together ∈ jT := jT_in (List.mem_append_right _ (List.mem_of_getElem? (i := 1441) (by decide +kernel))) rfl
theorem jwN_X11_together : Cond.instanceMethod yX11_together ∈ jT := jT_in (List.mem_append_right _ (List.mem_of_getElem? (i := 1442) (by decide +kernel))) rfl
theorem jwX_X11_together : Cond.selects RX11 yX11_together yX11_together ∈ jT := jT_in (List.mem_append_right _ (List.mem_of_getElem? (i := 1443) (by decide +kernel))) rfl
set_option maxRecDepth 100000 in
theorem jwO_X11_together : Cond.code (mX11_together).1 (mX11_together).2.1 (mX11_together).2.2.1 (mX11_together).2.2.2 ∈ jT := jT_in (List.mem_append_right _ (List.mem_of_getElem? (i := 1444) rfl)) rfl
theorem jwL_X11_198 : Cond.constantLong RX11 198 1023 ∈ jT := jT_in (List.mem_append_right _ (List.mem_of_getElem? (i := 1445) (by decide +kernel))) rfl
theorem jwM_X11_200 : Cond.methodLink RX11 200 yX11_areTogether ∈ jT := jT_in (List.mem_append_right _ (List.mem_of_getElem? (i := 1446) (by decide +kernel))) rfl
theorem jwN_X11_areTogether : Cond.instanceMethod yX11_areTogether ∈ jT := jT_in (List.mem_append_right _ (List.mem_of_getElem? (i := 1448) (by decide +kernel))) rfl
set_option maxRecDepth 100000 in
theorem jwO_X11_areTogether : Cond.code (mX11_areTogether).1 (mX11_areTogether).2.1 (mX11_areTogether).2.2.1 (mX11_areTogether).2.2.2 ∈ jT := jT_in (List.mem_append_right _ (List.mem_of_getElem? (i := 1449) rfl)) rfl
theorem jwM_L_109 : Cond.methodLink RL 109 yX11_never ∈ jT := jT_in (List.mem_append_right _ (List.mem_of_getElem? (i := 1450) (by decide +kernel))) rfl
theorem jwN_X11_never : Cond.instanceMethod yX11_never ∈ jT := jT_in (List.mem_append_right _ (List.mem_of_getElem? (i := 1451) (by decide +kernel))) rfl
theorem jwX_X11_never : Cond.selects RX11 yX11_never yX11_never ∈ jT := jT_in (List.mem_append_right _ (List.mem_of_getElem? (i := 1452) (by decide +kernel))) rfl
set_option maxRecDepth 100000 in
theorem jwO_X11_never : Cond.code (mX11_never).1 (mX11_never).2.1 (mX11_never).2.2.1 (mX11_never).2.2.2 ∈ jT := jT_in (List.mem_append_right _ (List.mem_of_getElem? (i := 1453) rfl)) rfl
theorem jwM_X11_203 : Cond.methodLink RX11 203 yX11_taughtNow ∈ jT := jT_in (List.mem_append_right _ (List.mem_of_getElem? (i := 1454) (by decide +kernel))) rfl
theorem jwN_X11_taughtNow : Cond.instanceMethod yX11_taughtNow ∈ jT := jT_in (List.mem_append_right _ (List.mem_of_getElem? (i := 1456) (by decide +kernel))) rfl
set_option maxRecDepth 100000 in
theorem jwO_X11_taughtNow : Cond.code (mX11_taughtNow).1 (mX11_taughtNow).2.1 (mX11_taughtNow).2.2.1 (mX11_taughtNow).2.2.2 ∈ jT := jT_in (List.mem_append_right _ (List.mem_of_getElem? (i := 1457) rfl)) rfl
theorem jwM_L_113 : Cond.methodLink RL 113 yX11_last ∈ jT := jT_in (List.mem_append_right _ (List.mem_of_getElem? (i := 1458) (by decide +kernel))) rfl
theorem jwN_X11_last : Cond.instanceMethod yX11_last ∈ jT := jT_in (List.mem_append_right _ (List.mem_of_getElem? (i := 1459) (by decide +kernel))) rfl
theorem jwX_X11_last : Cond.selects RX11 yX11_last yX11_last ∈ jT := jT_in (List.mem_append_right _ (List.mem_of_getElem? (i := 1460) (by decide +kernel))) rfl
set_option maxRecDepth 100000 in
theorem jwO_X11_last : Cond.code (mX11_last).1 (mX11_last).2.1 (mX11_last).2.2.1 (mX11_last).2.2.2 ∈ jT := jT_in (List.mem_append_right _ (List.mem_of_getElem? (i := 1461) rfl)) rfl
theorem jwM_L_117 : Cond.methodLink RL 117 yX11_years ∈ jT := jT_in (List.mem_append_right _ (List.mem_of_getElem? (i := 1462) (by decide +kernel))) rfl
theorem jwN_X11_years : Cond.instanceMethod yX11_years ∈ jT := jT_in (List.mem_append_right _ (List.mem_of_getElem? (i := 1463) (by decide +kernel))) rfl
theorem jwX_X11_years : Cond.selects RX11 yX11_years yX11_years ∈ jT := jT_in (List.mem_append_right _ (List.mem_of_getElem? (i := 1464) (by decide +kernel))) rfl
set_option maxRecDepth 100000 in
theorem jwO_X11_years : Cond.code (mX11_years).1 (mX11_years).2.1 (mX11_years).2.2.1 (mX11_years).2.2.2 ∈ jT := jT_in (List.mem_append_right _ (List.mem_of_getElem? (i := 1465) rfl)) rfl
theorem jwL_X11_206 : Cond.constantLong RX11 206 60 ∈ jT := jT_in (List.mem_append_right _ (List.mem_of_getElem? (i := 1466) (by decide +kernel))) rfl
theorem jwM_X11_208 : Cond.methodLink RX11 208 yX11_year ∈ jT := jT_in (List.mem_append_right _ (List.mem_of_getElem? (i := 1467) (by decide +kernel))) rfl
theorem jwN_X11_year : Cond.instanceMethod yX11_year ∈ jT := jT_in (List.mem_append_right _ (List.mem_of_getElem? (i := 1469) (by decide +kernel))) rfl
set_option maxRecDepth 100000 in
theorem jwO_X11_year : Cond.code (mX11_year).1 (mX11_year).2.1 (mX11_year).2.2.1 (mX11_year).2.2.2 ∈ jT := jT_in (List.mem_append_right _ (List.mem_of_getElem? (i := 1470) rfl)) rfl
theorem jwM_L_121 : Cond.methodLink RL 121 yX11_gone ∈ jT := jT_in (List.mem_append_right _ (List.mem_of_getElem? (i := 1471) (by decide +kernel))) rfl
theorem jwN_X11_gone : Cond.instanceMethod yX11_gone ∈ jT := jT_in (List.mem_append_right _ (List.mem_of_getElem? (i := 1472) (by decide +kernel))) rfl
theorem jwX_X11_gone : Cond.selects RX11 yX11_gone yX11_gone ∈ jT := jT_in (List.mem_append_right _ (List.mem_of_getElem? (i := 1473) (by decide +kernel))) rfl
set_option maxRecDepth 100000 in
theorem jwO_X11_gone : Cond.code (mX11_gone).1 (mX11_gone).2.1 (mX11_gone).2.2.1 (mX11_gone).2.2.2 ∈ jT := jT_in (List.mem_append_right _ (List.mem_of_getElem? (i := 1474) rfl)) rfl
theorem jwM_L_125 : Cond.methodLink RL 125 yX11_fresh ∈ jT := jT_in (List.mem_append_right _ (List.mem_of_getElem? (i := 1475) (by decide +kernel))) rfl
theorem jwN_X11_fresh : Cond.instanceMethod yX11_fresh ∈ jT := jT_in (List.mem_append_right _ (List.mem_of_getElem? (i := 1476) (by decide +kernel))) rfl
theorem jwX_X11_fresh : Cond.selects RX11 yX11_fresh yX11_fresh ∈ jT := jT_in (List.mem_append_right _ (List.mem_of_getElem? (i := 1477) (by decide +kernel))) rfl
set_option maxRecDepth 100000 in
theorem jwO_X11_fresh : Cond.code (mX11_fresh).1 (mX11_fresh).2.1 (mX11_fresh).2.2.1 (mX11_fresh).2.2.2 ∈ jT := jT_in (List.mem_append_right _ (List.mem_of_getElem? (i := 1478) rfl)) rfl
theorem jwM_X11_211 : Cond.methodLink RX11 211 yX11_farFrom ∈ jT := jT_in (List.mem_append_right _ (List.mem_of_getElem? (i := 1479) (by decide +kernel))) rfl
theorem jwN_X11_farFrom : Cond.instanceMethod yX11_farFrom ∈ jT := jT_in (List.mem_append_right _ (List.mem_of_getElem? (i := 1481) (by decide +kernel))) rfl
set_option maxRecDepth 100000 in
theorem jwO_X11_farFrom : Cond.code (mX11_farFrom).1 (mX11_farFrom).2.1 (mX11_farFrom).2.2.1 (mX11_farFrom).2.2.2 ∈ jT := jT_in (List.mem_append_right _ (List.mem_of_getElem? (i := 1482) rfl)) rfl
theorem jwM_L_133 : Cond.methodLink RL 133 yX11_fame ∈ jT := jT_in (List.mem_append_right _ (List.mem_of_getElem? (i := 1483) (by decide +kernel))) rfl
theorem jwN_X11_fame : Cond.instanceMethod yX11_fame ∈ jT := jT_in (List.mem_append_right _ (List.mem_of_getElem? (i := 1484) (by decide +kernel))) rfl
theorem jwX_X11_fame : Cond.selects RX11 yX11_fame yX11_fame ∈ jT := jT_in (List.mem_append_right _ (List.mem_of_getElem? (i := 1485) (by decide +kernel))) rfl
set_option maxRecDepth 100000 in
theorem jwO_X11_fame : Cond.code (mX11_fame).1 (mX11_fame).2.1 (mX11_fame).2.2.1 (mX11_fame).2.2.2 ∈ jT := jT_in (List.mem_append_right _ (List.mem_of_getElem? (i := 1486) rfl)) rfl
theorem jwM_L_137 : Cond.methodLink RL 137 yX11_fine ∈ jT := jT_in (List.mem_append_right _ (List.mem_of_getElem? (i := 1487) (by decide +kernel))) rfl
theorem jwN_X11_fine : Cond.instanceMethod yX11_fine ∈ jT := jT_in (List.mem_append_right _ (List.mem_of_getElem? (i := 1488) (by decide +kernel))) rfl
theorem jwX_X11_fine : Cond.selects RX11 yX11_fine yX11_fine ∈ jT := jT_in (List.mem_append_right _ (List.mem_of_getElem? (i := 1489) (by decide +kernel))) rfl
set_option maxRecDepth 100000 in
theorem jwO_X11_fine : Cond.code (mX11_fine).1 (mX11_fine).2.1 (mX11_fine).2.2.1 (mX11_fine).2.2.2 ∈ jT := jT_in (List.mem_append_right _ (List.mem_of_getElem? (i := 1490) rfl)) rfl
theorem jwM_L_141 : Cond.methodLink RL 141 yX11_feed ∈ jT := jT_in (List.mem_append_right _ (List.mem_of_getElem? (i := 1491) (by decide +kernel))) rfl
theorem jwN_X11_feed : Cond.instanceMethod yX11_feed ∈ jT := jT_in (List.mem_append_right _ (List.mem_of_getElem? (i := 1492) (by decide +kernel))) rfl
theorem jwX_X11_feed : Cond.selects RX11 yX11_feed yX11_feed ∈ jT := jT_in (List.mem_append_right _ (List.mem_of_getElem? (i := 1493) (by decide +kernel))) rfl
set_option maxRecDepth 100000 in
theorem jwO_X11_feed : Cond.code (mX11_feed).1 (mX11_feed).2.1 (mX11_feed).2.2.1 (mX11_feed).2.2.2 ∈ jT := jT_in (List.mem_append_right _ (List.mem_of_getElem? (i := 1494) rfl)) rfl
theorem jwM_L_145 : Cond.methodLink RL 145 yX11_trim ∈ jT := jT_in (List.mem_append_right _ (List.mem_of_getElem? (i := 1495) (by decide +kernel))) rfl
theorem jwN_X11_trim : Cond.instanceMethod yX11_trim ∈ jT := jT_in (List.mem_append_right _ (List.mem_of_getElem? (i := 1496) (by decide +kernel))) rfl
theorem jwX_X11_trim : Cond.selects RX11 yX11_trim yX11_trim ∈ jT := jT_in (List.mem_append_right _ (List.mem_of_getElem? (i := 1497) (by decide +kernel))) rfl
set_option maxRecDepth 100000 in
theorem jwO_X11_trim : Cond.code (mX11_trim).1 (mX11_trim).2.1 (mX11_trim).2.2.1 (mX11_trim).2.2.2 ∈ jT := jT_in (List.mem_append_right _ (List.mem_of_getElem? (i := 1498) rfl)) rfl
theorem jwM_L_149 : Cond.methodLink RL 149 yX11_text ∈ jT := jT_in (List.mem_append_right _ (List.mem_of_getElem? (i := 1499) (by decide +kernel))) rfl
theorem jwN_X11_text : Cond.instanceMethod yX11_text ∈ jT := jT_in (List.mem_append_right _ (List.mem_of_getElem? (i := 1500) (by decide +kernel))) rfl
theorem jwX_X11_text : Cond.selects RX11 yX11_text yX11_text ∈ jT := jT_in (List.mem_append_right _ (List.mem_of_getElem? (i := 1501) (by decide +kernel))) rfl
set_option maxRecDepth 100000 in
theorem jwO_X11_text : Cond.code (mX11_text).1 (mX11_text).2.1 (mX11_text).2.2.1 (mX11_text).2.2.2 ∈ jT := jT_in (List.mem_append_right _ (List.mem_of_getElem? (i := 1502) rfl)) rfl
theorem jwM_X11_302 : Cond.methodLink RX11 302 yX11_parse ∈ jT := jT_in (List.mem_append_right _ (List.mem_of_getElem? (i := 1503) (by decide +kernel))) rfl
theorem jwN_X11_parse : Cond.instanceMethod yX11_parse ∈ jT := jT_in (List.mem_append_right _ (List.mem_of_getElem? (i := 1505) (by decide +kernel))) rfl
set_option maxRecDepth 100000 in
theorem jwO_X11_parse : Cond.code (mX11_parse).1 (mX11_parse).2.1 (mX11_parse).2.2.1 (mX11_parse).2.2.2 ∈ jT := jT_in (List.mem_append_right _ (List.mem_of_getElem? (i := 1506) rfl)) rfl
theorem jwM_X11_262 : Cond.methodLink RX11 262 yX11_nextToken ∈ jT := jT_in (List.mem_append_right _ (List.mem_of_getElem? (i := 1507) (by decide +kernel))) rfl
theorem jwN_X11_nextToken : Cond.instanceMethod yX11_nextToken ∈ jT := jT_in (List.mem_append_right _ (List.mem_of_getElem? (i := 1509) (by decide +kernel))) rfl
set_option maxRecDepth 100000 in
theorem jwO_X11_nextToken : Cond.code (mX11_nextToken).1 (mX11_nextToken).2.1 (mX11_nextToken).2.2.1 (mX11_nextToken).2.2.2 ∈ jT := jT_in (List.mem_append_right _ (List.mem_of_getElem? (i := 1510) rfl)) rfl
theorem jwM_X11_234 : Cond.methodLink RX11 234 yX11_isLetter ∈ jT := jT_in (List.mem_append_right _ (List.mem_of_getElem? (i := 1511) (by decide +kernel))) rfl
theorem jwN_X11_isLetter : Cond.instanceMethod yX11_isLetter ∈ jT := jT_in (List.mem_append_right _ (List.mem_of_getElem? (i := 1513) (by decide +kernel))) rfl
set_option maxRecDepth 100000 in
theorem jwO_X11_isLetter : Cond.code (mX11_isLetter).1 (mX11_isLetter).2.1 (mX11_isLetter).2.2.1 (mX11_isLetter).2.2.2 ∈ jT := jT_in (List.mem_append_right _ (List.mem_of_getElem? (i := 1514) rfl)) rfl
theorem jwL_X11_217 : Cond.constantLong RX11 217 97 ∈ jT := jT_in (List.mem_append_right _ (List.mem_of_getElem? (i := 1515) (by decide +kernel))) rfl
theorem jwL_X11_219 : Cond.constantLong RX11 219 122 ∈ jT := jT_in (List.mem_append_right _ (List.mem_of_getElem? (i := 1516) (by decide +kernel))) rfl
theorem jwM_X11_240 : Cond.methodLink RX11 240 yX11_isDigit ∈ jT := jT_in (List.mem_append_right _ (List.mem_of_getElem? (i := 1517) (by decide +kernel))) rfl
theorem jwN_X11_isDigit : Cond.instanceMethod yX11_isDigit ∈ jT := jT_in (List.mem_append_right _ (List.mem_of_getElem? (i := 1519) (by decide +kernel))) rfl
set_option maxRecDepth 100000 in
theorem jwO_X11_isDigit : Cond.code (mX11_isDigit).1 (mX11_isDigit).2.1 (mX11_isDigit).2.2.1 (mX11_isDigit).2.2.2 ∈ jT := jT_in (List.mem_append_right _ (List.mem_of_getElem? (i := 1520) rfl)) rfl
theorem jwL_X11_221 : Cond.constantLong RX11 221 48 ∈ jT := jT_in (List.mem_append_right _ (List.mem_of_getElem? (i := 1521) (by decide +kernel))) rfl
theorem jwL_X11_223 : Cond.constantLong RX11 223 57 ∈ jT := jT_in (List.mem_append_right _ (List.mem_of_getElem? (i := 1522) (by decide +kernel))) rfl
theorem jwM_X11_299 : Cond.methodLink RX11 299 yX11_key ∈ jT := jT_in (List.mem_append_right _ (List.mem_of_getElem? (i := 1523) (by decide +kernel))) rfl
theorem jwN_X11_key : Cond.instanceMethod yX11_key ∈ jT := jT_in (List.mem_append_right _ (List.mem_of_getElem? (i := 1525) (by decide +kernel))) rfl
set_option maxRecDepth 100000 in
theorem jwO_X11_key : Cond.code (mX11_key).1 (mX11_key).2.1 (mX11_key).2.2.1 (mX11_key).2.2.2 ∈ jT := jT_in (List.mem_append_right _ (List.mem_of_getElem? (i := 1526) rfl)) rfl
theorem jwM_X11_246 : Cond.methodLink RX11 246 yX11_isWordAt ∈ jT := jT_in (List.mem_append_right _ (List.mem_of_getElem? (i := 1527) (by decide +kernel))) rfl
theorem jwN_X11_isWordAt : Cond.instanceMethod yX11_isWordAt ∈ jT := jT_in (List.mem_append_right _ (List.mem_of_getElem? (i := 1529) (by decide +kernel))) rfl
set_option maxRecDepth 100000 in
theorem jwO_X11_isWordAt : Cond.code (mX11_isWordAt).1 (mX11_isWordAt).2.1 (mX11_isWordAt).2.2.1 (mX11_isWordAt).2.2.2 ∈ jT := jT_in (List.mem_append_right _ (List.mem_of_getElem? (i := 1530) rfl)) rfl
theorem jwM_X11_293 : Cond.methodLink RX11 293 yX11_either ∈ jT := jT_in (List.mem_append_right _ (List.mem_of_getElem? (i := 1531) (by decide +kernel))) rfl
theorem jwN_X11_either : Cond.instanceMethod yX11_either ∈ jT := jT_in (List.mem_append_right _ (List.mem_of_getElem? (i := 1533) (by decide +kernel))) rfl
set_option maxRecDepth 100000 in
theorem jwO_X11_either : Cond.code (mX11_either).1 (mX11_either).2.1 (mX11_either).2.2.1 (mX11_either).2.2.2 ∈ jT := jT_in (List.mem_append_right _ (List.mem_of_getElem? (i := 1534) rfl)) rfl
theorem jwM_X11_256 : Cond.methodLink RX11 256 yX11_both ∈ jT := jT_in (List.mem_append_right _ (List.mem_of_getElem? (i := 1535) (by decide +kernel))) rfl
theorem jwN_X11_both : Cond.instanceMethod yX11_both ∈ jT := jT_in (List.mem_append_right _ (List.mem_of_getElem? (i := 1537) (by decide +kernel))) rfl
set_option maxRecDepth 100000 in
theorem jwO_X11_both : Cond.code (mX11_both).1 (mX11_both).2.1 (mX11_both).2.2.1 (mX11_both).2.2.2 ∈ jT := jT_in (List.mem_append_right _ (List.mem_of_getElem? (i := 1538) rfl)) rfl
theorem jwM_X11_269 : Cond.methodLink RX11 269 yX11_test ∈ jT := jT_in (List.mem_append_right _ (List.mem_of_getElem? (i := 1539) (by decide +kernel))) rfl
theorem jwN_X11_test : Cond.instanceMethod yX11_test ∈ jT := jT_in (List.mem_append_right _ (List.mem_of_getElem? (i := 1541) (by decide +kernel))) rfl
set_option maxRecDepth 100000 in
theorem jwO_X11_test : Cond.code (mX11_test).1 (mX11_test).2.1 (mX11_test).2.2.1 (mX11_test).2.2.2 ∈ jT := jT_in (List.mem_append_right _ (List.mem_of_getElem? (i := 1542) rfl)) rfl
theorem jwM_X11_272 : Cond.methodLink RX11 272 yX11_sum ∈ jT := jT_in (List.mem_append_right _ (List.mem_of_getElem? (i := 1543) (by decide +kernel))) rfl
theorem jwN_X11_sum : Cond.instanceMethod yX11_sum ∈ jT := jT_in (List.mem_append_right _ (List.mem_of_getElem? (i := 1545) (by decide +kernel))) rfl
set_option maxRecDepth 100000 in
theorem jwO_X11_sum : Cond.code (mX11_sum).1 (mX11_sum).2.1 (mX11_sum).2.2.1 (mX11_sum).2.2.2 ∈ jT := jT_in (List.mem_append_right _ (List.mem_of_getElem? (i := 1546) rfl)) rfl
theorem jwM_X11_275 : Cond.methodLink RX11 275 yX11_term ∈ jT := jT_in (List.mem_append_right _ (List.mem_of_getElem? (i := 1547) (by decide +kernel))) rfl
theorem jwN_X11_term : Cond.instanceMethod yX11_term ∈ jT := jT_in (List.mem_append_right _ (List.mem_of_getElem? (i := 1549) (by decide +kernel))) rfl
set_option maxRecDepth 100000 in
theorem jwO_X11_term : Cond.code (mX11_term).1 (mX11_term).2.1 (mX11_term).2.2.1 (mX11_term).2.2.2 ∈ jT := jT_in (List.mem_append_right _ (List.mem_of_getElem? (i := 1550) rfl)) rfl
theorem jwM_X11_278 : Cond.methodLink RX11 278 yX11_part0 ∈ jT := jT_in (List.mem_append_right _ (List.mem_of_getElem? (i := 1551) (by decide +kernel))) rfl
theorem jwN_X11_part0 : Cond.instanceMethod yX11_part0 ∈ jT := jT_in (List.mem_append_right _ (List.mem_of_getElem? (i := 1553) (by decide +kernel))) rfl
set_option maxRecDepth 100000 in
theorem jwO_X11_part0 : Cond.code (mX11_part0).1 (mX11_part0).2.1 (mX11_part0).2.2.1 (mX11_part0).2.2.2 ∈ jT := jT_in (List.mem_append_right _ (List.mem_of_getElem? (i := 1554) rfl)) rfl
theorem jwM_X11_265 : Cond.methodLink RX11 265 yX11_step ∈ jT := jT_in (List.mem_append_right _ (List.mem_of_getElem? (i := 1555) (by decide +kernel))) rfl
theorem jwN_X11_step : Cond.instanceMethod yX11_step ∈ jT := jT_in (List.mem_append_right _ (List.mem_of_getElem? (i := 1557) (by decide +kernel))) rfl
set_option maxRecDepth 100000 in
theorem jwO_X11_step : Cond.code (mX11_step).1 (mX11_step).2.1 (mX11_step).2.2.1 (mX11_step).2.2.2 ∈ jT := jT_in (List.mem_append_right _ (List.mem_of_getElem? (i := 1558) rfl)) rfl
theorem jwM_X11_284 : Cond.methodLink RX11 284 yX11_isName ∈ jT := jT_in (List.mem_append_right _ (List.mem_of_getElem? (i := 1559) (by decide +kernel))) rfl
theorem jwS_X11_isName : Cond.static yX11_isName ∈ jT := jT_in (List.mem_append_right _ (List.mem_of_getElem? (i := 1560) (by decide +kernel))) rfl
set_option maxRecDepth 100000 in
theorem jwO_X11_isName : Cond.code (mX11_isName).1 (mX11_isName).2.1 (mX11_isName).2.2.1 (mX11_isName).2.2.2 ∈ jT := jT_in (List.mem_append_right _ (List.mem_of_getElem? (i := 1561) rfl)) rfl
theorem jwM_X11_259 : Cond.methodLink RX11 259 yX11_isSign ∈ jT := jT_in (List.mem_append_right _ (List.mem_of_getElem? (i := 1562) (by decide +kernel))) rfl
theorem jwN_X11_isSign : Cond.instanceMethod yX11_isSign ∈ jT := jT_in (List.mem_append_right _ (List.mem_of_getElem? (i := 1564) (by decide +kernel))) rfl
set_option maxRecDepth 100000 in
theorem jwO_X11_isSign : Cond.code (mX11_isSign).1 (mX11_isSign).2.1 (mX11_isSign).2.2.1 (mX11_isSign).2.2.2 ∈ jT := jT_in (List.mem_append_right _ (List.mem_of_getElem? (i := 1565) rfl)) rfl
theorem jwM_L_153 : Cond.methodLink RL 153 yX11_textTold ∈ jT := jT_in (List.mem_append_right _ (List.mem_of_getElem? (i := 1566) (by decide +kernel))) rfl
