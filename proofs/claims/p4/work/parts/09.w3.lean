section
theorem jwM_L_179 : Cond.methodLink RL 179 yX10_lay ∈ jT := jT_in (List.mem_append_right _ (jm_5 (List.mem_of_getElem? (i := 75) (by decide +kernel)))) rfl
theorem jwN_X10_lay : Cond.instanceMethod yX10_lay ∈ jT := jT_in (List.mem_append_right _ (jm_5 (List.mem_of_getElem? (i := 76) (by decide +kernel)))) rfl
theorem jwX_X10_lay : Cond.selects RX10 yX10_lay yX10_lay ∈ jT := jT_in (List.mem_append_right _ (jm_5 (List.mem_of_getElem? (i := 77) (by decide +kernel)))) rfl
set_option maxRecDepth 100000 in
theorem jwO_X10_lay : Cond.code (mX10_lay).1 (mX10_lay).2.1 (mX10_lay).2.2.1 (mX10_lay).2.2.2 ∈ jT := jT_in (List.mem_append_right _ (jm_5 (List.mem_of_getElem? (i := 78) rfl))) rfl
theorem jwM_X10_343 : Cond.methodLink RX10 343 yX10_findSlot ∈ jT := jT_in (List.mem_append_right _ (jm_5 (List.mem_of_getElem? (i := 79) (by decide +kernel)))) rfl
theorem jwN_X10_findSlot : Cond.instanceMethod yX10_findSlot ∈ jT := jT_in (List.mem_append_right _ (jm_5 (List.mem_of_getElem? (i := 81) (by decide +kernel)))) rfl
set_option maxRecDepth 100000 in
theorem jwO_X10_findSlot : Cond.code (mX10_findSlot).1 (mX10_findSlot).2.1 (mX10_findSlot).2.2.1 (mX10_findSlot).2.2.2 ∈ jT := jT_in (List.mem_append_right _ (jm_5 (List.mem_of_getElem? (i := 82) rfl))) rfl
theorem jwM_X10_350 : Cond.methodLink RX10 350 yX10_layMaster ∈ jT := jT_in (List.mem_append_right _ (jm_5 (List.mem_of_getElem? (i := 83) (by decide +kernel)))) rfl
theorem jwN_X10_layMaster : Cond.instanceMethod yX10_layMaster ∈ jT := jT_in (List.mem_append_right _ (jm_5 (List.mem_of_getElem? (i := 85) (by decide +kernel)))) rfl
set_option maxRecDepth 100000 in
theorem jwO_X10_layMaster : Cond.code (mX10_layMaster).1 (mX10_layMaster).2.1 (mX10_layMaster).2.2.1 (mX10_layMaster).2.2.2 ∈ jT := jT_in (List.mem_append_right _ (jm_5 (List.mem_of_getElem? (i := 86) rfl))) rfl
theorem jwM_X10_364 : Cond.methodLink RX10 364 yX2_become ∈ jT := jT_in (List.mem_append_right _ (jm_5 (List.mem_of_getElem? (i := 87) (by decide +kernel)))) rfl
theorem jwM_X10_354 : Cond.methodLink RX10 354 yX10_laySheet ∈ jT := jT_in (List.mem_append_right _ (jm_5 (List.mem_of_getElem? (i := 88) (by decide +kernel)))) rfl
theorem jwN_X10_laySheet : Cond.instanceMethod yX10_laySheet ∈ jT := jT_in (List.mem_append_right _ (jm_5 (List.mem_of_getElem? (i := 90) (by decide +kernel)))) rfl
set_option maxRecDepth 100000 in
theorem jwO_X10_laySheet : Cond.code (mX10_laySheet).1 (mX10_laySheet).2.1 (mX10_laySheet).2.2.1 (mX10_laySheet).2.2.2 ∈ jT := jT_in (List.mem_append_right _ (jm_5 (List.mem_of_getElem? (i := 91) rfl))) rfl
theorem jwM_X10_371 : Cond.methodLink RX10 371 yX6_become ∈ jT := jT_in (List.mem_append_right _ (jm_5 (List.mem_of_getElem? (i := 92) (by decide +kernel)))) rfl
theorem jwN_X6_become : Cond.instanceMethod yX6_become ∈ jT := jT_in (List.mem_append_right _ (jm_5 (List.mem_of_getElem? (i := 93) (by decide +kernel)))) rfl
theorem jwX_X6_become : Cond.selects RX6 yX6_become yX6_become ∈ jT := jT_in (List.mem_append_right _ (jm_5 (List.mem_of_getElem? (i := 94) (by decide +kernel)))) rfl
set_option maxRecDepth 100000 in
theorem jwO_X6_become : Cond.code (mX6_become).1 (mX6_become).2.1 (mX6_become).2.2.1 (mX6_become).2.2.2 ∈ jT := jT_in (List.mem_append_right _ (jm_5 (List.mem_of_getElem? (i := 95) rfl))) rfl
theorem jwM_X6_22 : Cond.methodLink RX6 22 arraycopyName ∈ jT := jT_in (List.mem_append_right _ (jm_5 (List.mem_of_getElem? (i := 96) (by decide +kernel)))) rfl
theorem jwM_L_183 : Cond.methodLink RL 183 yX10_ask ∈ jT := jT_in (List.mem_append_right _ (jm_5 (List.mem_of_getElem? (i := 97) (by decide +kernel)))) rfl
theorem jwN_X10_ask : Cond.instanceMethod yX10_ask ∈ jT := jT_in (List.mem_append_right _ (jm_5 (List.mem_of_getElem? (i := 98) (by decide +kernel)))) rfl
theorem jwX_X10_ask : Cond.selects RX10 yX10_ask yX10_ask ∈ jT := jT_in (List.mem_append_right _ (jm_5 (List.mem_of_getElem? (i := 99) (by decide +kernel)))) rfl
set_option maxRecDepth 100000 in
theorem jwO_X10_ask : Cond.code (mX10_ask).1 (mX10_ask).2.1 (mX10_ask).2.2.1 (mX10_ask).2.2.2 ∈ jT := jT_in (List.mem_append_right _ (jm_5 (List.mem_of_getElem? (i := 100) rfl))) rfl
theorem jwM_L_187 : Cond.methodLink RL 187 yX10_item ∈ jT := jT_in (List.mem_append_right _ (jm_5 (List.mem_of_getElem? (i := 101) (by decide +kernel)))) rfl
theorem jwN_X10_item : Cond.instanceMethod yX10_item ∈ jT := jT_in (List.mem_append_right _ (jm_5 (List.mem_of_getElem? (i := 102) (by decide +kernel)))) rfl
theorem jwX_X10_item : Cond.selects RX10 yX10_item yX10_item ∈ jT := jT_in (List.mem_append_right _ (jm_5 (List.mem_of_getElem? (i := 103) (by decide +kernel)))) rfl
set_option maxRecDepth 100000 in
theorem jwO_X10_item : Cond.code (mX10_item).1 (mX10_item).2.1 (mX10_item).2.2.1 (mX10_item).2.2.2 ∈ jT := jT_in (List.mem_append_right _ (jm_5 (List.mem_of_getElem? (i := 104) rfl))) rfl
theorem jwM_L_191 : Cond.methodLink RL 191 yX10_rest ∈ jT := jT_in (List.mem_append_right _ (jm_5 (List.mem_of_getElem? (i := 105) (by decide +kernel)))) rfl
theorem jwN_X10_rest : Cond.instanceMethod yX10_rest ∈ jT := jT_in (List.mem_append_right _ (jm_5 (List.mem_of_getElem? (i := 106) (by decide +kernel)))) rfl
theorem jwX_X10_rest : Cond.selects RX10 yX10_rest yX10_rest ∈ jT := jT_in (List.mem_append_right _ (jm_5 (List.mem_of_getElem? (i := 107) (by decide +kernel)))) rfl
set_option maxRecDepth 100000 in
theorem jwO_X10_rest : Cond.code (mX10_rest).1 (mX10_rest).2.1 (mX10_rest).2.2.1 (mX10_rest).2.2.2 ∈ jT := jT_in (List.mem_append_right _ (jm_5 (List.mem_of_getElem? (i := 108) rfl))) rfl
theorem jwM_L_195 : Cond.methodLink RL 195 yX10_tell ∈ jT := jT_in (List.mem_append_right _ (jm_5 (List.mem_of_getElem? (i := 109) (by decide +kernel)))) rfl
theorem jwN_X10_tell : Cond.instanceMethod yX10_tell ∈ jT := jT_in (List.mem_append_right _ (jm_5 (List.mem_of_getElem? (i := 110) (by decide +kernel)))) rfl
theorem jwX_X10_tell : Cond.selects RX10 yX10_tell yX10_tell ∈ jT := jT_in (List.mem_append_right _ (jm_5 (List.mem_of_getElem? (i := 111) (by decide +kernel)))) rfl
set_option maxRecDepth 100000 in
theorem jwO_X10_tell : Cond.code (mX10_tell).1 (mX10_tell).2.1 (mX10_tell).2.2.1 (mX10_tell).2.2.2 ∈ jT := jT_in (List.mem_append_right _ (jm_5 (List.mem_of_getElem? (i := 112) rfl))) rfl
theorem jwM_L_199 : Cond.methodLink RL 199 yX10_check ∈ jT := jT_in (List.mem_append_right _ (jm_5 (List.mem_of_getElem? (i := 113) (by decide +kernel)))) rfl
theorem jwN_X10_check : Cond.instanceMethod yX10_check ∈ jT := jT_in (List.mem_append_right _ (jm_5 (List.mem_of_getElem? (i := 114) (by decide +kernel)))) rfl
theorem jwX_X10_check : Cond.selects RX10 yX10_check yX10_check ∈ jT := jT_in (List.mem_append_right _ (jm_5 (List.mem_of_getElem? (i := 115) (by decide +kernel)))) rfl
set_option maxRecDepth 100000 in
theorem jwO_X10_check : Cond.code (mX10_check).1 (mX10_check).2.1 (mX10_check).2.2.1 (mX10_check).2.2.2 ∈ jT := jT_in (List.mem_append_right _ (jm_5 (List.mem_of_getElem? (i := 116) rfl))) rfl
theorem jwM_X10_380 : Cond.methodLink RX10 380 yX0_liveYear ∈ jT := jT_in (List.mem_append_right _ (jm_5 (List.mem_of_getElem? (i := 117) (by decide +kernel)))) rfl
theorem jwM_X10_383 : Cond.methodLink RX10 383 yX10_isWaiting ∈ jT := jT_in (List.mem_append_right _ (jm_5 (List.mem_of_getElem? (i := 118) (by decide +kernel)))) rfl
theorem jwN_X10_isWaiting : Cond.instanceMethod yX10_isWaiting ∈ jT := jT_in (List.mem_append_right _ (jm_5 (List.mem_of_getElem? (i := 120) (by decide +kernel)))) rfl
set_option maxRecDepth 100000 in
theorem jwO_X10_isWaiting : Cond.code (mX10_isWaiting).1 (mX10_isWaiting).2.1 (mX10_isWaiting).2.2.1 (mX10_isWaiting).2.2.2 ∈ jT := jT_in (List.mem_append_right _ (jm_5 (List.mem_of_getElem? (i := 121) rfl))) rfl
theorem jwM_X10_387 : Cond.methodLink RX10 387 yX0_agesTogether ∈ jT := jT_in (List.mem_append_right _ (jm_5 (List.mem_of_getElem? (i := 122) (by decide +kernel)))) rfl
theorem jwN_X0_agesTogether : Cond.instanceMethod yX0_agesTogether ∈ jT := jT_in (List.mem_append_right _ (jm_5 (List.mem_of_getElem? (i := 123) (by decide +kernel)))) rfl
theorem jwX_X0_agesTogether : Cond.selects RX0 yX0_agesTogether yX0_agesTogether ∈ jT := jT_in (List.mem_append_right _ (jm_5 (List.mem_of_getElem? (i := 124) (by decide +kernel)))) rfl
set_option maxRecDepth 100000 in
theorem jwO_X0_agesTogether : Cond.code (mX0_agesTogether).1 (mX0_agesTogether).2.1 (mX0_agesTogether).2.2.1 (mX0_agesTogether).2.2.2 ∈ jT := jT_in (List.mem_append_right _ (jm_5 (List.mem_of_getElem? (i := 125) rfl))) rfl
theorem jwM_L_203 : Cond.methodLink RL 203 yX10_keep ∈ jT := jT_in (List.mem_append_right _ (jm_5 (List.mem_of_getElem? (i := 126) (by decide +kernel)))) rfl
theorem jwN_X10_keep : Cond.instanceMethod yX10_keep ∈ jT := jT_in (List.mem_append_right _ (jm_5 (List.mem_of_getElem? (i := 127) (by decide +kernel)))) rfl
theorem jwX_X10_keep : Cond.selects RX10 yX10_keep yX10_keep ∈ jT := jT_in (List.mem_append_right _ (jm_5 (List.mem_of_getElem? (i := 128) (by decide +kernel)))) rfl
set_option maxRecDepth 100000 in
theorem jwO_X10_keep : Cond.code (mX10_keep).1 (mX10_keep).2.1 (mX10_keep).2.2.1 (mX10_keep).2.2.2 ∈ jT := jT_in (List.mem_append_right _ (jm_5 (List.mem_of_getElem? (i := 129) rfl))) rfl
theorem jwM_X10_390 : Cond.methodLink RX10 390 yX3_become ∈ jT := jT_in (List.mem_append_right _ (jm_5 (List.mem_of_getElem? (i := 130) (by decide +kernel)))) rfl
theorem jwN_X3_become : Cond.instanceMethod yX3_become ∈ jT := jT_in (List.mem_append_right _ (jm_5 (List.mem_of_getElem? (i := 131) (by decide +kernel)))) rfl
theorem jwX_X3_become : Cond.selects RX3 yX3_become yX3_become ∈ jT := jT_in (List.mem_append_right _ (jm_5 (List.mem_of_getElem? (i := 132) (by decide +kernel)))) rfl
set_option maxRecDepth 100000 in
theorem jwO_X3_become : Cond.code (mX3_become).1 (mX3_become).2.1 (mX3_become).2.2.1 (mX3_become).2.2.2 ∈ jT := jT_in (List.mem_append_right _ (jm_5 (List.mem_of_getElem? (i := 133) rfl))) rfl
theorem jwM_X3_42 : Cond.methodLink RX3 42 yX0_become ∈ jT := jT_in (List.mem_append_right _ (jm_5 (List.mem_of_getElem? (i := 134) (by decide +kernel)))) rfl
theorem jwM_X3_46 : Cond.methodLink RX3 46 yX4_become ∈ jT := jT_in (List.mem_append_right _ (jm_5 (List.mem_of_getElem? (i := 135) (by decide +kernel)))) rfl
theorem jwN_X4_become : Cond.instanceMethod yX4_become ∈ jT := jT_in (List.mem_append_right _ (jm_5 (List.mem_of_getElem? (i := 136) (by decide +kernel)))) rfl
theorem jwX_X4_become : Cond.selects RX4 yX4_become yX4_become ∈ jT := jT_in (List.mem_append_right _ (jm_5 (List.mem_of_getElem? (i := 137) (by decide +kernel)))) rfl
set_option maxRecDepth 100000 in
theorem jwO_X4_become : Cond.code (mX4_become).1 (mX4_become).2.1 (mX4_become).2.2.1 (mX4_become).2.2.2 ∈ jT := jT_in (List.mem_append_right _ (jm_5 (List.mem_of_getElem? (i := 138) rfl))) rfl
theorem jwM_X4_21 : Cond.methodLink RX4 21 arraycopyName ∈ jT := jT_in (List.mem_append_right _ (jm_5 (List.mem_of_getElem? (i := 139) (by decide +kernel)))) rfl
theorem jwM_X3_49 : Cond.methodLink RX3 49 yX1_become ∈ jT := jT_in (List.mem_append_right _ (jm_5 (List.mem_of_getElem? (i := 140) (by decide +kernel)))) rfl
theorem jwN_X1_become : Cond.instanceMethod yX1_become ∈ jT := jT_in (List.mem_append_right _ (jm_5 (List.mem_of_getElem? (i := 141) (by decide +kernel)))) rfl
theorem jwX_X1_become : Cond.selects RX1 yX1_become yX1_become ∈ jT := jT_in (List.mem_append_right _ (jm_5 (List.mem_of_getElem? (i := 142) (by decide +kernel)))) rfl
set_option maxRecDepth 100000 in
theorem jwO_X1_become : Cond.code (mX1_become).1 (mX1_become).2.1 (mX1_become).2.2.1 (mX1_become).2.2.2 ∈ jT := jT_in (List.mem_append_right _ (jm_5 (List.mem_of_getElem? (i := 143) rfl))) rfl
theorem jwM_X1_34 : Cond.methodLink RX1 34 arraycopyName ∈ jT := jT_in (List.mem_append_right _ (jm_5 (List.mem_of_getElem? (i := 144) (by decide +kernel)))) rfl
theorem jwM_X3_52 : Cond.methodLink RX3 52 arraycopyName ∈ jT := jT_in (List.mem_append_right _ (jm_5 (List.mem_of_getElem? (i := 145) (by decide +kernel)))) rfl
theorem jwM_L_207 : Cond.methodLink RL 207 yX10_back ∈ jT := jT_in (List.mem_append_right _ (jm_5 (List.mem_of_getElem? (i := 146) (by decide +kernel)))) rfl
theorem jwN_X10_back : Cond.instanceMethod yX10_back ∈ jT := jT_in (List.mem_append_right _ (jm_5 (List.mem_of_getElem? (i := 147) (by decide +kernel)))) rfl
theorem jwX_X10_back : Cond.selects RX10 yX10_back yX10_back ∈ jT := jT_in (List.mem_append_right _ (jm_5 (List.mem_of_getElem? (i := 148) (by decide +kernel)))) rfl
set_option maxRecDepth 100000 in
theorem jwO_X10_back : Cond.code (mX10_back).1 (mX10_back).2.1 (mX10_back).2.2.1 (mX10_back).2.2.2 ∈ jT := jT_in (List.mem_append_right _ (jm_5 (List.mem_of_getElem? (i := 149) rfl))) rfl
theorem jwM_L_211 : Cond.methodLink RL 211 yX10_count ∈ jT := jT_in (List.mem_append_right _ (jm_5 (List.mem_of_getElem? (i := 150) (by decide +kernel)))) rfl
theorem jwN_X10_count : Cond.instanceMethod yX10_count ∈ jT := jT_in (List.mem_append_right _ (jm_5 (List.mem_of_getElem? (i := 151) (by decide +kernel)))) rfl
theorem jwX_X10_count : Cond.selects RX10 yX10_count yX10_count ∈ jT := jT_in (List.mem_append_right _ (jm_5 (List.mem_of_getElem? (i := 152) (by decide +kernel)))) rfl
set_option maxRecDepth 100000 in
theorem jwO_X10_count : Cond.code (mX10_count).1 (mX10_count).2.1 (mX10_count).2.2.1 (mX10_count).2.2.2 ∈ jT := jT_in (List.mem_append_right _ (jm_5 (List.mem_of_getElem? (i := 153) rfl))) rfl
theorem jwK_L_10 : Cond.classLink RL 10 RX11 ∈ jT := jT_in (List.mem_append_right _ (jm_5 (List.mem_of_getElem? (i := 154) (by decide +kernel)))) rfl
theorem jwI_X11 : Cond.instantiable RX11 36 ∈ jT := jT_in (List.mem_append_right _ (jm_5 (List.mem_of_getElem? (i := 155) (by decide +kernel)))) rfl
theorem jwM_L_12 : Cond.methodLink RL 12 yX11_init ∈ jT := jT_in (List.mem_append_right _ (jm_5 (List.mem_of_getElem? (i := 156) (by decide +kernel)))) rfl
theorem jwN_X11_init : Cond.instanceMethod yX11_init ∈ jT := jT_in (List.mem_append_right _ (jm_5 (List.mem_of_getElem? (i := 157) (by decide +kernel)))) rfl
set_option maxRecDepth 100000 in
theorem jwO_X11_init : Cond.code (mX11_init).1 (mX11_init).2.1 (mX11_init).2.2.1 (mX11_init).2.2.2 ∈ jT := jT_in (List.mem_append_right _ (jm_5 (List.mem_of_getElem? (i := 158) rfl))) rfl
theorem jwM_X11_1 : Cond.methodLink RX11 1 Lib.objectInit ∈ jT := jT_in (List.mem_append_right _ (jm_5 (List.mem_of_getElem? (i := 159) (by decide +kernel)))) rfl
theorem jwF_X11_7 : Cond.fieldLink RX11 7 RX11 "s" "[I" ∈ jT := jT_in (List.mem_append_right _ (jm_5 (List.mem_of_getElem? (i := 160) (by decide +kernel)))) rfl
theorem jwF_X11_13 : Cond.fieldLink RX11 13 RX11 "image" "[I" ∈ jT := jT_in (List.mem_append_right _ (jm_5 (List.mem_of_getElem? (i := 161) (by decide +kernel)))) rfl
theorem jwF_X11_16 : Cond.fieldLink RX11 16 RX11 "aside" "[I" ∈ jT := jT_in (List.mem_append_right _ (jm_5 (List.mem_of_getElem? (i := 162) (by decide +kernel)))) rfl
theorem jwF_X11_337 : Cond.fieldLink RX11 337 RX11 "hasImage" "Z" ∈ jT := jT_in (List.mem_append_right _ (jm_5 (List.mem_of_getElem? (i := 163) (by decide +kernel)))) rfl
theorem jwF_X11_19 : Cond.fieldLink RX11 19 RX11 "tSort" "[I" ∈ jT := jT_in (List.mem_append_right _ (jm_5 (List.mem_of_getElem? (i := 164) (by decide +kernel)))) rfl
theorem jwF_X11_22 : Cond.fieldLink RX11 22 RX11 "tSize" "[I" ∈ jT := jT_in (List.mem_append_right _ (jm_5 (List.mem_of_getElem? (i := 165) (by decide +kernel)))) rfl
theorem jwF_X11_25 : Cond.fieldLink RX11 25 RX11 "tNumber" "[I" ∈ jT := jT_in (List.mem_append_right _ (jm_5 (List.mem_of_getElem? (i := 166) (by decide +kernel)))) rfl
theorem jwF_X11_28 : Cond.fieldLink RX11 28 RX11 "held" "[I" ∈ jT := jT_in (List.mem_append_right _ (jm_5 (List.mem_of_getElem? (i := 167) (by decide +kernel)))) rfl
theorem jwF_X11_31 : Cond.fieldLink RX11 31 RX11 "heldNumber" "[I" ∈ jT := jT_in (List.mem_append_right _ (jm_5 (List.mem_of_getElem? (i := 168) (by decide +kernel)))) rfl
theorem jwF_X11_34 : Cond.fieldLink RX11 34 RX11 "heldWorth" "[I" ∈ jT := jT_in (List.mem_append_right _ (jm_5 (List.mem_of_getElem? (i := 169) (by decide +kernel)))) rfl
theorem jwF_X11_37 : Cond.fieldLink RX11 37 RX11 "heldSize" "[I" ∈ jT := jT_in (List.mem_append_right _ (jm_5 (List.mem_of_getElem? (i := 170) (by decide +kernel)))) rfl
theorem jwF_X11_40 : Cond.fieldLink RX11 40 RX11 "heldRow" "[I" ∈ jT := jT_in (List.mem_append_right _ (jm_5 (List.mem_of_getElem? (i := 171) (by decide +kernel)))) rfl
theorem jwF_X11_43 : Cond.fieldLink RX11 43 RX11 "far" "[I" ∈ jT := jT_in (List.mem_append_right _ (jm_5 (List.mem_of_getElem? (i := 172) (by decide +kernel)))) rfl
theorem jwF_X11_46 : Cond.fieldLink RX11 46 RX11 "close" "[I" ∈ jT := jT_in (List.mem_append_right _ (jm_5 (List.mem_of_getElem? (i := 173) (by decide +kernel)))) rfl
theorem jwF_X11_49 : Cond.fieldLink RX11 49 RX11 "way" "[I" ∈ jT := jT_in (List.mem_append_right _ (jm_5 (List.mem_of_getElem? (i := 174) (by decide +kernel)))) rfl
theorem jwF_X11_176 : Cond.fieldLink RX11 176 RX11 "soonDays" "I" ∈ jT := jT_in (List.mem_append_right _ (jm_5 (List.mem_of_getElem? (i := 175) (by decide +kernel)))) rfl
theorem jwF_X11_180 : Cond.fieldLink RX11 180 RX11 "soonCoins" "I" ∈ jT := jT_in (List.mem_append_right _ (jm_5 (List.mem_of_getElem? (i := 176) (by decide +kernel)))) rfl
theorem jwF_X11_183 : Cond.fieldLink RX11 183 RX11 "soonFirst" "I" ∈ jT := jT_in (List.mem_append_right _ (jm_5 (List.mem_of_getElem? (i := 177) (by decide +kernel)))) rfl
theorem jwF_X11_52 : Cond.fieldLink RX11 52 RX11 "tape" "[I" ∈ jT := jT_in (List.mem_append_right _ (jm_5 (List.mem_of_getElem? (i := 178) (by decide +kernel)))) rfl
theorem jwF_X11_214 : Cond.fieldLink RX11 214 RX11 "taped" "I" ∈ jT := jT_in (List.mem_append_right _ (jm_5 (List.mem_of_getElem? (i := 179) (by decide +kernel)))) rfl
theorem jwF_X11_231 : Cond.fieldLink RX11 231 RX11 "begin" "I" ∈ jT := jT_in (List.mem_append_right _ (jm_5 (List.mem_of_getElem? (i := 180) (by decide +kernel)))) rfl
theorem jwF_X11_225 : Cond.fieldLink RX11 225 RX11 "behind" "I" ∈ jT := jT_in (List.mem_append_right _ (jm_5 (List.mem_of_getElem? (i := 181) (by decide +kernel)))) rfl
theorem jwF_X11_228 : Cond.fieldLink RX11 228 RX11 "token" "I" ∈ jT := jT_in (List.mem_append_right _ (jm_5 (List.mem_of_getElem? (i := 182) (by decide +kernel)))) rfl
theorem jwF_X11_243 : Cond.fieldLink RX11 243 RX11 "number" "I" ∈ jT := jT_in (List.mem_append_right _ (jm_5 (List.mem_of_getElem? (i := 183) (by decide +kernel)))) rfl
theorem jwF_X11_237 : Cond.fieldLink RX11 237 RX11 "letter" "I" ∈ jT := jT_in (List.mem_append_right _ (jm_5 (List.mem_of_getElem? (i := 184) (by decide +kernel)))) rfl
theorem jwF_X11_290 : Cond.fieldLink RX11 290 RX11 "deep" "I" ∈ jT := jT_in (List.mem_append_right _ (jm_5 (List.mem_of_getElem? (i := 185) (by decide +kernel)))) rfl
theorem jwF_X11_287 : Cond.fieldLink RX11 287 RX11 "turned" "I" ∈ jT := jT_in (List.mem_append_right _ (jm_5 (List.mem_of_getElem? (i := 186) (by decide +kernel)))) rfl
theorem jwF_X11_253 : Cond.fieldLink RX11 253 RX11 "laid" "I" ∈ jT := jT_in (List.mem_append_right _ (jm_5 (List.mem_of_getElem? (i := 187) (by decide +kernel)))) rfl
theorem jwF_X11_250 : Cond.fieldLink RX11 250 RX11 "laidAt" "I" ∈ jT := jT_in (List.mem_append_right _ (jm_5 (List.mem_of_getElem? (i := 188) (by decide +kernel)))) rfl
theorem jwF_X11_281 : Cond.fieldLink RX11 281 RX11 "said" "I" ∈ jT := jT_in (List.mem_append_right _ (jm_5 (List.mem_of_getElem? (i := 189) (by decide +kernel)))) rfl
theorem jwF_X11_55 : Cond.fieldLink RX11 55 RX11 "named" "[I" ∈ jT := jT_in (List.mem_append_right _ (jm_5 (List.mem_of_getElem? (i := 190) (by decide +kernel)))) rfl
theorem jwF_X11_58 : Cond.fieldLink RX11 58 RX11 "pile" "[I" ∈ jT := jT_in (List.mem_append_right _ (jm_5 (List.mem_of_getElem? (i := 191) (by decide +kernel)))) rfl
theorem jwF_X11_61 : Cond.fieldLink RX11 61 RX11 "carried" "[I" ∈ jT := jT_in (List.mem_append_right _ (jm_5 (List.mem_of_getElem? (i := 192) (by decide +kernel)))) rfl
theorem jwF_X11_64 : Cond.fieldLink RX11 64 RX11 "waits" "[I" ∈ jT := jT_in (List.mem_append_right _ (jm_5 (List.mem_of_getElem? (i := 193) (by decide +kernel)))) rfl
theorem jwF_X11_332 : Cond.fieldLink RX11 332 RX11 "waiting" "I" ∈ jT := jT_in (List.mem_append_right _ (jm_5 (List.mem_of_getElem? (i := 194) (by decide +kernel)))) rfl
theorem jwF_X11_67 : Cond.fieldLink RX11 67 RX11 "rowDue" "[I" ∈ jT := jT_in (List.mem_append_right _ (jm_5 (List.mem_of_getElem? (i := 195) (by decide +kernel)))) rfl
theorem jwY_X11_s : Cond.laysFinal RX11 RX11 "s" "[I" ∈ jT := jT_in (List.mem_append_right _ (jm_5 (List.mem_of_getElem? (i := 196) (by decide +kernel)))) rfl
theorem jwY_X11_image : Cond.laysFinal RX11 RX11 "image" "[I" ∈ jT := jT_in (List.mem_append_right _ (jm_5 (List.mem_of_getElem? (i := 198) (by decide +kernel)))) rfl
theorem jwY_X11_aside : Cond.laysFinal RX11 RX11 "aside" "[I" ∈ jT := jT_in (List.mem_append_right _ (jm_5 (List.mem_of_getElem? (i := 200) (by decide +kernel)))) rfl
theorem jwY_X11_hasImage : Cond.lays RX11 RX11 "hasImage" "Z" ∈ jT := jT_in (List.mem_append_right _ (jm_5 (List.mem_of_getElem? (i := 202) (by decide +kernel)))) rfl
theorem jwY_X11_tSort : Cond.laysFinal RX11 RX11 "tSort" "[I" ∈ jT := jT_in (List.mem_append_right _ (jm_5 (List.mem_of_getElem? (i := 204) (by decide +kernel)))) rfl
theorem jwY_X11_tSize : Cond.laysFinal RX11 RX11 "tSize" "[I" ∈ jT := jT_in (List.mem_append_right _ (jm_5 (List.mem_of_getElem? (i := 206) (by decide +kernel)))) rfl
theorem jwY_X11_tNumber : Cond.laysFinal RX11 RX11 "tNumber" "[I" ∈ jT := jT_in (List.mem_append_right _ (jm_5 (List.mem_of_getElem? (i := 208) (by decide +kernel)))) rfl
theorem jwY_X11_held : Cond.laysFinal RX11 RX11 "held" "[I" ∈ jT := jT_in (List.mem_append_right _ (jm_5 (List.mem_of_getElem? (i := 210) (by decide +kernel)))) rfl
theorem jwY_X11_heldNumber : Cond.laysFinal RX11 RX11 "heldNumber" "[I" ∈ jT := jT_in (List.mem_append_right _ (jm_5 (List.mem_of_getElem? (i := 212) (by decide +kernel)))) rfl
theorem jwY_X11_heldWorth : Cond.laysFinal RX11 RX11 "heldWorth" "[I" ∈ jT := jT_in (List.mem_append_right _ (jm_5 (List.mem_of_getElem? (i := 214) (by decide +kernel)))) rfl
theorem jwY_X11_heldSize : Cond.laysFinal RX11 RX11 "heldSize" "[I" ∈ jT := jT_in (List.mem_append_right _ (jm_5 (List.mem_of_getElem? (i := 216) (by decide +kernel)))) rfl
theorem jwY_X11_heldRow : Cond.laysFinal RX11 RX11 "heldRow" "[I" ∈ jT := jT_in (List.mem_append_right _ (jm_5 (List.mem_of_getElem? (i := 218) (by decide +kernel)))) rfl
theorem jwY_X11_far : Cond.laysFinal RX11 RX11 "far" "[I" ∈ jT := jT_in (List.mem_append_right _ (jm_5 (List.mem_of_getElem? (i := 220) (by decide +kernel)))) rfl
theorem jwY_X11_close : Cond.laysFinal RX11 RX11 "close" "[I" ∈ jT := jT_in (List.mem_append_right _ (jm_5 (List.mem_of_getElem? (i := 222) (by decide +kernel)))) rfl
theorem jwY_X11_way : Cond.laysFinal RX11 RX11 "way" "[I" ∈ jT := jT_in (List.mem_append_right _ (jm_5 (List.mem_of_getElem? (i := 224) (by decide +kernel)))) rfl
theorem jwY_X11_soonDays : Cond.lays RX11 RX11 "soonDays" "I" ∈ jT := jT_in (List.mem_append_right _ (jm_5 (List.mem_of_getElem? (i := 226) (by decide +kernel)))) rfl
theorem jwY_X11_soonCoins : Cond.lays RX11 RX11 "soonCoins" "I" ∈ jT := jT_in (List.mem_append_right _ (jm_5 (List.mem_of_getElem? (i := 228) (by decide +kernel)))) rfl
theorem jwY_X11_soonFirst : Cond.lays RX11 RX11 "soonFirst" "I" ∈ jT := jT_in (List.mem_append_right _ (jm_5 (List.mem_of_getElem? (i := 230) (by decide +kernel)))) rfl
theorem jwY_X11_tape : Cond.laysFinal RX11 RX11 "tape" "[I" ∈ jT := jT_in (List.mem_append_right _ (jm_5 (List.mem_of_getElem? (i := 232) (by decide +kernel)))) rfl
theorem jwY_X11_taped : Cond.lays RX11 RX11 "taped" "I" ∈ jT := jT_in (List.mem_append_right _ (jm_5 (List.mem_of_getElem? (i := 234) (by decide +kernel)))) rfl
theorem jwY_X11_begin : Cond.lays RX11 RX11 "begin" "I" ∈ jT := jT_in (List.mem_append_right _ (jm_5 (List.mem_of_getElem? (i := 236) (by decide +kernel)))) rfl
theorem jwY_X11_behind : Cond.lays RX11 RX11 "behind" "I" ∈ jT := jT_in (List.mem_append_right _ (jm_5 (List.mem_of_getElem? (i := 238) (by decide +kernel)))) rfl
theorem jwY_X11_token : Cond.lays RX11 RX11 "token" "I" ∈ jT := jT_in (List.mem_append_right _ (jm_6 (List.mem_of_getElem? (i := 0) (by decide +kernel)))) rfl
theorem jwY_X11_number : Cond.lays RX11 RX11 "number" "I" ∈ jT := jT_in (List.mem_append_right _ (jm_6 (List.mem_of_getElem? (i := 2) (by decide +kernel)))) rfl
theorem jwY_X11_letter : Cond.lays RX11 RX11 "letter" "I" ∈ jT := jT_in (List.mem_append_right _ (jm_6 (List.mem_of_getElem? (i := 4) (by decide +kernel)))) rfl
theorem jwY_X11_deep : Cond.lays RX11 RX11 "deep" "I" ∈ jT := jT_in (List.mem_append_right _ (jm_6 (List.mem_of_getElem? (i := 6) (by decide +kernel)))) rfl
theorem jwY_X11_turned : Cond.lays RX11 RX11 "turned" "I" ∈ jT := jT_in (List.mem_append_right _ (jm_6 (List.mem_of_getElem? (i := 8) (by decide +kernel)))) rfl
theorem jwY_X11_laid : Cond.lays RX11 RX11 "laid" "I" ∈ jT := jT_in (List.mem_append_right _ (jm_6 (List.mem_of_getElem? (i := 10) (by decide +kernel)))) rfl
theorem jwY_X11_laidAt : Cond.lays RX11 RX11 "laidAt" "I" ∈ jT := jT_in (List.mem_append_right _ (jm_6 (List.mem_of_getElem? (i := 12) (by decide +kernel)))) rfl
theorem jwY_X11_said : Cond.lays RX11 RX11 "said" "I" ∈ jT := jT_in (List.mem_append_right _ (jm_6 (List.mem_of_getElem? (i := 14) (by decide +kernel)))) rfl
theorem jwY_X11_named : Cond.laysFinal RX11 RX11 "named" "[I" ∈ jT := jT_in (List.mem_append_right _ (jm_6 (List.mem_of_getElem? (i := 16) (by decide +kernel)))) rfl
theorem jwY_X11_pile : Cond.laysFinal RX11 RX11 "pile" "[I" ∈ jT := jT_in (List.mem_append_right _ (jm_6 (List.mem_of_getElem? (i := 18) (by decide +kernel)))) rfl
theorem jwY_X11_carried : Cond.laysFinal RX11 RX11 "carried" "[I" ∈ jT := jT_in (List.mem_append_right _ (jm_6 (List.mem_of_getElem? (i := 20) (by decide +kernel)))) rfl
theorem jwY_X11_waits : Cond.laysFinal RX11 RX11 "waits" "[I" ∈ jT := jT_in (List.mem_append_right _ (jm_6 (List.mem_of_getElem? (i := 22) (by decide +kernel)))) rfl
theorem jwY_X11_waiting : Cond.lays RX11 RX11 "waiting" "I" ∈ jT := jT_in (List.mem_append_right _ (jm_6 (List.mem_of_getElem? (i := 24) (by decide +kernel)))) rfl
theorem jwY_X11_rowDue : Cond.laysFinal RX11 RX11 "rowDue" "[I" ∈ jT := jT_in (List.mem_append_right _ (jm_6 (List.mem_of_getElem? (i := 26) (by decide +kernel)))) rfl
theorem jwM_L_17 : Cond.methodLink RL 17 yX11_master ∈ jT := jT_in (List.mem_append_right _ (jm_6 (List.mem_of_getElem? (i := 29) (by decide +kernel)))) rfl
theorem jwN_X11_master : Cond.instanceMethod yX11_master ∈ jT := jT_in (List.mem_append_right _ (jm_6 (List.mem_of_getElem? (i := 30) (by decide +kernel)))) rfl
theorem jwX_X11_master : Cond.selects RX11 yX11_master yX11_master ∈ jT := jT_in (List.mem_append_right _ (jm_6 (List.mem_of_getElem? (i := 31) (by decide +kernel)))) rfl
set_option maxRecDepth 100000 in
theorem jwO_X11_master : Cond.code (mX11_master).1 (mX11_master).2.1 (mX11_master).2.2.1 (mX11_master).2.2.2 ∈ jT := jT_in (List.mem_append_right _ (jm_6 (List.mem_of_getElem? (i := 32) rfl))) rfl
theorem jwL_X11_76 : Cond.constantLong RX11 76 5 ∈ jT := jT_in (List.mem_append_right _ (jm_6 (List.mem_of_getElem? (i := 33) (by decide +kernel)))) rfl
theorem jwM_X11_71 : Cond.methodLink RX11 71 yX11_isIn ∈ jT := jT_in (List.mem_append_right _ (jm_6 (List.mem_of_getElem? (i := 34) (by decide +kernel)))) rfl
theorem jwS_X11_isIn : Cond.static yX11_isIn ∈ jT := jT_in (List.mem_append_right _ (jm_6 (List.mem_of_getElem? (i := 35) (by decide +kernel)))) rfl
set_option maxRecDepth 100000 in
theorem jwO_X11_isIn : Cond.code (mX11_isIn).1 (mX11_isIn).2.1 (mX11_isIn).2.2.1 (mX11_isIn).2.2.2 ∈ jT := jT_in (List.mem_append_right _ (jm_6 (List.mem_of_getElem? (i := 36) rfl))) rfl
theorem jwM_X11_78 : Cond.methodLink RX11 78 yX11_isTown ∈ jT := jT_in (List.mem_append_right _ (jm_6 (List.mem_of_getElem? (i := 37) (by decide +kernel)))) rfl
theorem jwS_X11_isTown : Cond.static yX11_isTown ∈ jT := jT_in (List.mem_append_right _ (jm_6 (List.mem_of_getElem? (i := 38) (by decide +kernel)))) rfl
set_option maxRecDepth 100000 in
theorem jwO_X11_isTown : Cond.code (mX11_isTown).1 (mX11_isTown).2.1 (mX11_isTown).2.2.1 (mX11_isTown).2.2.2 ∈ jT := jT_in (List.mem_append_right _ (jm_6 (List.mem_of_getElem? (i := 39) rfl))) rfl
theorem jwM_X11_82 : Cond.methodLink RX11 82 yX11_isGesture ∈ jT := jT_in (List.mem_append_right _ (jm_6 (List.mem_of_getElem? (i := 40) (by decide +kernel)))) rfl
theorem jwS_X11_isGesture : Cond.static yX11_isGesture ∈ jT := jT_in (List.mem_append_right _ (jm_6 (List.mem_of_getElem? (i := 41) (by decide +kernel)))) rfl
set_option maxRecDepth 100000 in
theorem jwO_X11_isGesture : Cond.code (mX11_isGesture).1 (mX11_isGesture).2.1 (mX11_isGesture).2.2.1 (mX11_isGesture).2.2.2 ∈ jT := jT_in (List.mem_append_right _ (jm_6 (List.mem_of_getElem? (i := 42) rfl))) rfl
theorem jwL_X11_85 : Cond.constantLong RX11 85 99 ∈ jT := jT_in (List.mem_append_right _ (jm_6 (List.mem_of_getElem? (i := 43) (by decide +kernel)))) rfl
theorem jwC_X11_87 : Cond.constant RX11 87 (-1000000001) ∈ jT := jT_in (List.mem_append_right _ (jm_6 (List.mem_of_getElem? (i := 44) (by decide +kernel)))) rfl
theorem jwC_X11_88 : Cond.constant RX11 88 (-1000000003) ∈ jT := jT_in (List.mem_append_right _ (jm_6 (List.mem_of_getElem? (i := 45) (by decide +kernel)))) rfl
theorem jwM_X11_89 : Cond.methodLink RX11 89 yX11_comes ∈ jT := jT_in (List.mem_append_right _ (jm_6 (List.mem_of_getElem? (i := 46) (by decide +kernel)))) rfl
theorem jwN_X11_comes : Cond.instanceMethod yX11_comes ∈ jT := jT_in (List.mem_append_right _ (jm_6 (List.mem_of_getElem? (i := 48) (by decide +kernel)))) rfl
set_option maxRecDepth 100000 in
theorem jwO_X11_comes : Cond.code (mX11_comes).1 (mX11_comes).2.1 (mX11_comes).2.2.1 (mX11_comes).2.2.2 ∈ jT := jT_in (List.mem_append_right _ (jm_6 (List.mem_of_getElem? (i := 49) rfl))) rfl
theorem jwM_L_22 : Cond.methodLink RL 22 yX11_told ∈ jT := jT_in (List.mem_append_right _ (jm_6 (List.mem_of_getElem? (i := 50) (by decide +kernel)))) rfl
theorem jwN_X11_told : Cond.instanceMethod yX11_told ∈ jT := jT_in (List.mem_append_right _ (jm_6 (List.mem_of_getElem? (i := 51) (by decide +kernel)))) rfl
theorem jwX_X11_told : Cond.selects RX11 yX11_told yX11_told ∈ jT := jT_in (List.mem_append_right _ (jm_6 (List.mem_of_getElem? (i := 52) (by decide +kernel)))) rfl
set_option maxRecDepth 100000 in
theorem jwO_X11_told : Cond.code (mX11_told).1 (mX11_told).2.1 (mX11_told).2.2.1 (mX11_told).2.2.2 ∈ jT := jT_in (List.mem_append_right _ (jm_6 (List.mem_of_getElem? (i := 53) rfl))) rfl
theorem jwM_X11_111 : Cond.methodLink RX11 111 yX11_isMaster ∈ jT := jT_in (List.mem_append_right _ (jm_6 (List.mem_of_getElem? (i := 54) (by decide +kernel)))) rfl
theorem jwN_X11_isMaster : Cond.instanceMethod yX11_isMaster ∈ jT := jT_in (List.mem_append_right _ (jm_6 (List.mem_of_getElem? (i := 56) (by decide +kernel)))) rfl
set_option maxRecDepth 100000 in
theorem jwO_X11_isMaster : Cond.code (mX11_isMaster).1 (mX11_isMaster).2.1 (mX11_isMaster).2.2.1 (mX11_isMaster).2.2.2 ∈ jT := jT_in (List.mem_append_right _ (jm_6 (List.mem_of_getElem? (i := 57) rfl))) rfl
theorem jwL_X11_114 : Cond.constantLong RX11 114 9 ∈ jT := jT_in (List.mem_append_right _ (jm_6 (List.mem_of_getElem? (i := 58) (by decide +kernel)))) rfl
theorem jwM_X11_97 : Cond.methodLink RX11 97 yX11_of ∈ jT := jT_in (List.mem_append_right _ (jm_6 (List.mem_of_getElem? (i := 59) (by decide +kernel)))) rfl
theorem jwN_X11_of : Cond.instanceMethod yX11_of ∈ jT := jT_in (List.mem_append_right _ (jm_6 (List.mem_of_getElem? (i := 61) (by decide +kernel)))) rfl
set_option maxRecDepth 100000 in
theorem jwO_X11_of : Cond.code (mX11_of).1 (mX11_of).2.1 (mX11_of).2.2.1 (mX11_of).2.2.2 ∈ jT := jT_in (List.mem_append_right _ (jm_6 (List.mem_of_getElem? (i := 62) rfl))) rfl
theorem jwM_X11_108 : Cond.methodLink RX11 108 yX11_manyIn ∈ jT := jT_in (List.mem_append_right _ (jm_6 (List.mem_of_getElem? (i := 63) (by decide +kernel)))) rfl
theorem jwS_X11_manyIn : Cond.static yX11_manyIn ∈ jT := jT_in (List.mem_append_right _ (jm_6 (List.mem_of_getElem? (i := 64) (by decide +kernel)))) rfl
set_option maxRecDepth 100000 in
theorem jwO_X11_manyIn : Cond.code (mX11_manyIn).1 (mX11_manyIn).2.1 (mX11_manyIn).2.2.1 (mX11_manyIn).2.2.2 ∈ jT := jT_in (List.mem_append_right _ (jm_6 (List.mem_of_getElem? (i := 65) rfl))) rfl
theorem jwM_X11_116 : Cond.methodLink RX11 116 yX11_takes ∈ jT := jT_in (List.mem_append_right _ (jm_6 (List.mem_of_getElem? (i := 66) (by decide +kernel)))) rfl
theorem jwN_X11_takes : Cond.instanceMethod yX11_takes ∈ jT := jT_in (List.mem_append_right _ (jm_6 (List.mem_of_getElem? (i := 68) (by decide +kernel)))) rfl
set_option maxRecDepth 100000 in
theorem jwO_X11_takes : Cond.code (mX11_takes).1 (mX11_takes).2.1 (mX11_takes).2.2.1 (mX11_takes).2.2.2 ∈ jT := jT_in (List.mem_append_right _ (jm_6 (List.mem_of_getElem? (i := 69) rfl))) rfl
theorem jwM_X11_93 : Cond.methodLink RX11 93 yX11_counts ∈ jT := jT_in (List.mem_append_right _ (jm_6 (List.mem_of_getElem? (i := 70) (by decide +kernel)))) rfl
theorem jwN_X11_counts : Cond.instanceMethod yX11_counts ∈ jT := jT_in (List.mem_append_right _ (jm_6 (List.mem_of_getElem? (i := 72) (by decide +kernel)))) rfl
set_option maxRecDepth 100000 in
theorem jwO_X11_counts : Cond.code (mX11_counts).1 (mX11_counts).2.1 (mX11_counts).2.2.1 (mX11_counts).2.2.2 ∈ jT := jT_in (List.mem_append_right _ (jm_6 (List.mem_of_getElem? (i := 73) rfl))) rfl
theorem jwM_X11_296 : Cond.methodLink RX11 296 yX11_textAt ∈ jT := jT_in (List.mem_append_right _ (jm_6 (List.mem_of_getElem? (i := 74) (by decide +kernel)))) rfl
theorem jwN_X11_textAt : Cond.instanceMethod yX11_textAt ∈ jT := jT_in (List.mem_append_right _ (jm_6 (List.mem_of_getElem? (i := 76) (by decide +kernel)))) rfl
set_option maxRecDepth 100000 in
theorem jwO_X11_textAt : Cond.code (mX11_textAt).1 (mX11_textAt).2.1 (mX11_textAt).2.2.1 (mX11_textAt).2.2.2 ∈ jT := jT_in (List.mem_append_right _ (jm_6 (List.mem_of_getElem? (i := 77) rfl))) rfl
theorem jwM_X11_101 : Cond.methodLink RX11 101 yX11_worked ∈ jT := jT_in (List.mem_append_right _ (jm_6 (List.mem_of_getElem? (i := 78) (by decide +kernel)))) rfl
theorem jwN_X11_worked : Cond.instanceMethod yX11_worked ∈ jT := jT_in (List.mem_append_right _ (jm_6 (List.mem_of_getElem? (i := 80) (by decide +kernel)))) rfl
set_option maxRecDepth 100000 in
theorem jwO_X11_worked : Cond.code (mX11_worked).1 (mX11_worked).2.1 (mX11_worked).2.2.1 (mX11_worked).2.2.2 ∈ jT := jT_in (List.mem_append_right _ (jm_6 (List.mem_of_getElem? (i := 81) rfl))) rfl
theorem jwM_X11_311 : Cond.methodLink RX11 311 yX11_joined ∈ jT := jT_in (List.mem_append_right _ (jm_6 (List.mem_of_getElem? (i := 82) (by decide +kernel)))) rfl
theorem jwS_X11_joined : Cond.static yX11_joined ∈ jT := jT_in (List.mem_append_right _ (jm_6 (List.mem_of_getElem? (i := 83) (by decide +kernel)))) rfl
set_option maxRecDepth 100000 in
theorem jwO_X11_joined : Cond.code (mX11_joined).1 (mX11_joined).2.1 (mX11_joined).2.2.1 (mX11_joined).2.2.2 ∈ jT := jT_in (List.mem_append_right _ (jm_6 (List.mem_of_getElem? (i := 84) rfl))) rfl
theorem jwM_X11_104 : Cond.methodLink RX11 104 yX11_within ∈ jT := jT_in (List.mem_append_right _ (jm_6 (List.mem_of_getElem? (i := 85) (by decide +kernel)))) rfl
theorem jwS_X11_within : Cond.static yX11_within ∈ jT := jT_in (List.mem_append_right _ (jm_6 (List.mem_of_getElem? (i := 86) (by decide +kernel)))) rfl
set_option maxRecDepth 100000 in
theorem jwO_X11_within : Cond.code (mX11_within).1 (mX11_within).2.1 (mX11_within).2.2.1 (mX11_within).2.2.2 ∈ jT := jT_in (List.mem_append_right _ (jm_6 (List.mem_of_getElem? (i := 87) rfl))) rfl
theorem jwM_X11_119 : Cond.methodLink RX11 119 yX11_worth ∈ jT := jT_in (List.mem_append_right _ (jm_6 (List.mem_of_getElem? (i := 88) (by decide +kernel)))) rfl
theorem jwN_X11_worth : Cond.instanceMethod yX11_worth ∈ jT := jT_in (List.mem_append_right _ (jm_6 (List.mem_of_getElem? (i := 90) (by decide +kernel)))) rfl
set_option maxRecDepth 100000 in
theorem jwO_X11_worth : Cond.code (mX11_worth).1 (mX11_worth).2.1 (mX11_worth).2.2.1 (mX11_worth).2.2.2 ∈ jT := jT_in (List.mem_append_right _ (jm_6 (List.mem_of_getElem? (i := 91) rfl))) rfl
theorem jwM_X11_122 : Cond.methodLink RX11 122 yX11_teaches ∈ jT := jT_in (List.mem_append_right _ (jm_6 (List.mem_of_getElem? (i := 92) (by decide +kernel)))) rfl
theorem jwN_X11_teaches : Cond.instanceMethod yX11_teaches ∈ jT := jT_in (List.mem_append_right _ (jm_6 (List.mem_of_getElem? (i := 94) (by decide +kernel)))) rfl
set_option maxRecDepth 100000 in
theorem jwO_X11_teaches : Cond.code (mX11_teaches).1 (mX11_teaches).2.1 (mX11_teaches).2.2.1 (mX11_teaches).2.2.2 ∈ jT := jT_in (List.mem_append_right _ (jm_6 (List.mem_of_getElem? (i := 95) rfl))) rfl
theorem jwM_L_26 : Cond.methodLink RL 26 yX11_as ∈ jT := jT_in (List.mem_append_right _ (jm_6 (List.mem_of_getElem? (i := 96) (by decide +kernel)))) rfl
theorem jwN_X11_as : Cond.instanceMethod yX11_as ∈ jT := jT_in (List.mem_append_right _ (jm_6 (List.mem_of_getElem? (i := 97) (by decide +kernel)))) rfl
theorem jwX_X11_as : Cond.selects RX11 yX11_as yX11_as ∈ jT := jT_in (List.mem_append_right _ (jm_6 (List.mem_of_getElem? (i := 98) (by decide +kernel)))) rfl
set_option maxRecDepth 100000 in
theorem jwO_X11_as : Cond.code (mX11_as).1 (mX11_as).2.1 (mX11_as).2.2.1 (mX11_as).2.2.2 ∈ jT := jT_in (List.mem_append_right _ (jm_6 (List.mem_of_getElem? (i := 99) rfl))) rfl
theorem jwM_X11_126 : Cond.methodLink RX11 126 yX11_isOf ∈ jT := jT_in (List.mem_append_right _ (jm_6 (List.mem_of_getElem? (i := 100) (by decide +kernel)))) rfl
theorem jwS_X11_isOf : Cond.static yX11_isOf ∈ jT := jT_in (List.mem_append_right _ (jm_6 (List.mem_of_getElem? (i := 101) (by decide +kernel)))) rfl
set_option maxRecDepth 100000 in
theorem jwO_X11_isOf : Cond.code (mX11_isOf).1 (mX11_isOf).2.1 (mX11_isOf).2.2.1 (mX11_isOf).2.2.2 ∈ jT := jT_in (List.mem_append_right _ (jm_6 (List.mem_of_getElem? (i := 102) rfl))) rfl
theorem jwC_X11_129 : Cond.constant RX11 129 (-1000000012) ∈ jT := jT_in (List.mem_append_right _ (jm_6 (List.mem_of_getElem? (i := 103) (by decide +kernel)))) rfl
theorem jwM_L_30 : Cond.methodLink RL 30 yX11_turns ∈ jT := jT_in (List.mem_append_right _ (jm_6 (List.mem_of_getElem? (i := 104) (by decide +kernel)))) rfl
theorem jwN_X11_turns : Cond.instanceMethod yX11_turns ∈ jT := jT_in (List.mem_append_right _ (jm_6 (List.mem_of_getElem? (i := 105) (by decide +kernel)))) rfl
theorem jwX_X11_turns : Cond.selects RX11 yX11_turns yX11_turns ∈ jT := jT_in (List.mem_append_right _ (jm_6 (List.mem_of_getElem? (i := 106) (by decide +kernel)))) rfl
set_option maxRecDepth 100000 in
theorem jwO_X11_turns : Cond.code (mX11_turns).1 (mX11_turns).2.1 (mX11_turns).2.2.1 (mX11_turns).2.2.2 ∈ jT := jT_in (List.mem_append_right _ (jm_6 (List.mem_of_getElem? (i := 107) rfl))) rfl
theorem jwM_X11_130 : Cond.methodLink RX11 130 yX11_becomes ∈ jT := jT_in (List.mem_append_right _ (jm_6 (List.mem_of_getElem? (i := 108) (by decide +kernel)))) rfl
theorem jwN_X11_becomes : Cond.instanceMethod yX11_becomes ∈ jT := jT_in (List.mem_append_right _ (jm_6 (List.mem_of_getElem? (i := 110) (by decide +kernel)))) rfl
set_option maxRecDepth 100000 in
theorem jwO_X11_becomes : Cond.code (mX11_becomes).1 (mX11_becomes).2.1 (mX11_becomes).2.2.1 (mX11_becomes).2.2.2 ∈ jT := jT_in (List.mem_append_right _ (jm_6 (List.mem_of_getElem? (i := 111) rfl))) rfl
theorem jwM_L_35 : Cond.methodLink RL 35 yX11_set ∈ jT := jT_in (List.mem_append_right _ (jm_6 (List.mem_of_getElem? (i := 112) (by decide +kernel)))) rfl
theorem jwN_X11_set : Cond.instanceMethod yX11_set ∈ jT := jT_in (List.mem_append_right _ (jm_6 (List.mem_of_getElem? (i := 113) (by decide +kernel)))) rfl
theorem jwX_X11_set : Cond.selects RX11 yX11_set yX11_set ∈ jT := jT_in (List.mem_append_right _ (jm_6 (List.mem_of_getElem? (i := 114) (by decide +kernel)))) rfl
set_option maxRecDepth 100000 in
theorem jwO_X11_set : Cond.code (mX11_set).1 (mX11_set).2.1 (mX11_set).2.2.1 (mX11_set).2.2.2 ∈ jT := jT_in (List.mem_append_right _ (jm_6 (List.mem_of_getElem? (i := 115) rfl))) rfl
theorem jwL_X11_133 : Cond.constantLong RX11 133 4 ∈ jT := jT_in (List.mem_append_right _ (jm_6 (List.mem_of_getElem? (i := 116) (by decide +kernel)))) rfl
theorem jwL_X11_135 : Cond.constantLong RX11 135 6 ∈ jT := jT_in (List.mem_append_right _ (jm_6 (List.mem_of_getElem? (i := 117) (by decide +kernel)))) rfl
theorem jwM_L_39 : Cond.methodLink RL 39 yX11_bars ∈ jT := jT_in (List.mem_append_right _ (jm_6 (List.mem_of_getElem? (i := 118) (by decide +kernel)))) rfl
theorem jwN_X11_bars : Cond.instanceMethod yX11_bars ∈ jT := jT_in (List.mem_append_right _ (jm_6 (List.mem_of_getElem? (i := 119) (by decide +kernel)))) rfl
theorem jwX_X11_bars : Cond.selects RX11 yX11_bars yX11_bars ∈ jT := jT_in (List.mem_append_right _ (jm_6 (List.mem_of_getElem? (i := 120) (by decide +kernel)))) rfl
set_option maxRecDepth 100000 in
theorem jwO_X11_bars : Cond.code (mX11_bars).1 (mX11_bars).2.1 (mX11_bars).2.2.1 (mX11_bars).2.2.2 ∈ jT := jT_in (List.mem_append_right _ (jm_6 (List.mem_of_getElem? (i := 121) rfl))) rfl
theorem jwM_L_43 : Cond.methodLink RL 43 yX11_road ∈ jT := jT_in (List.mem_append_right _ (jm_6 (List.mem_of_getElem? (i := 122) (by decide +kernel)))) rfl
theorem jwN_X11_road : Cond.instanceMethod yX11_road ∈ jT := jT_in (List.mem_append_right _ (jm_6 (List.mem_of_getElem? (i := 123) (by decide +kernel)))) rfl
theorem jwX_X11_road : Cond.selects RX11 yX11_road yX11_road ∈ jT := jT_in (List.mem_append_right _ (jm_6 (List.mem_of_getElem? (i := 124) (by decide +kernel)))) rfl
set_option maxRecDepth 100000 in
theorem jwO_X11_road : Cond.code (mX11_road).1 (mX11_road).2.1 (mX11_road).2.2.1 (mX11_road).2.2.2 ∈ jT := jT_in (List.mem_append_right _ (jm_6 (List.mem_of_getElem? (i := 125) rfl))) rfl
theorem jwM_L_47 : Cond.methodLink RL 47 yX11_far ∈ jT := jT_in (List.mem_append_right _ (jm_6 (List.mem_of_getElem? (i := 126) (by decide +kernel)))) rfl
theorem jwN_X11_far : Cond.instanceMethod yX11_far ∈ jT := jT_in (List.mem_append_right _ (jm_6 (List.mem_of_getElem? (i := 127) (by decide +kernel)))) rfl
theorem jwX_X11_far : Cond.selects RX11 yX11_far yX11_far ∈ jT := jT_in (List.mem_append_right _ (jm_6 (List.mem_of_getElem? (i := 128) (by decide +kernel)))) rfl
set_option maxRecDepth 100000 in
theorem jwO_X11_far : Cond.code (mX11_far).1 (mX11_far).2.1 (mX11_far).2.2.1 (mX11_far).2.2.2 ∈ jT := jT_in (List.mem_append_right _ (jm_6 (List.mem_of_getElem? (i := 129) rfl))) rfl
theorem jwM_X11_137 : Cond.methodLink RX11 137 yX11_findFar ∈ jT := jT_in (List.mem_append_right _ (jm_6 (List.mem_of_getElem? (i := 130) (by decide +kernel)))) rfl
theorem jwN_X11_findFar : Cond.instanceMethod yX11_findFar ∈ jT := jT_in (List.mem_append_right _ (jm_6 (List.mem_of_getElem? (i := 132) (by decide +kernel)))) rfl
set_option maxRecDepth 100000 in
theorem jwO_X11_findFar : Cond.code (mX11_findFar).1 (mX11_findFar).2.1 (mX11_findFar).2.2.1 (mX11_findFar).2.2.2 ∈ jT := jT_in (List.mem_append_right _ (jm_6 (List.mem_of_getElem? (i := 133) rfl))) rfl
theorem jwC_X11_70 : Cond.constant RX11 70 (-1000000005) ∈ jT := jT_in (List.mem_append_right _ (jm_6 (List.mem_of_getElem? (i := 134) (by decide +kernel)))) rfl
theorem jwM_L_52 : Cond.methodLink RL 52 yX11_deal ∈ jT := jT_in (List.mem_append_right _ (jm_6 (List.mem_of_getElem? (i := 135) (by decide +kernel)))) rfl
theorem jwN_X11_deal : Cond.instanceMethod yX11_deal ∈ jT := jT_in (List.mem_append_right _ (jm_6 (List.mem_of_getElem? (i := 136) (by decide +kernel)))) rfl
theorem jwX_X11_deal : Cond.selects RX11 yX11_deal yX11_deal ∈ jT := jT_in (List.mem_append_right _ (jm_6 (List.mem_of_getElem? (i := 137) (by decide +kernel)))) rfl
set_option maxRecDepth 100000 in
theorem jwO_X11_deal : Cond.code (mX11_deal).1 (mX11_deal).2.1 (mX11_deal).2.2.1 (mX11_deal).2.2.2 ∈ jT := jT_in (List.mem_append_right _ (jm_6 (List.mem_of_getElem? (i := 138) rfl))) rfl
theorem jwM_X11_140 : Cond.methodLink RX11 140 yX11_drawn ∈ jT := jT_in (List.mem_append_right _ (jm_6 (List.mem_of_getElem? (i := 139) (by decide +kernel)))) rfl
theorem jwN_X11_drawn : Cond.instanceMethod yX11_drawn ∈ jT := jT_in (List.mem_append_right _ (jm_6 (List.mem_of_getElem? (i := 141) (by decide +kernel)))) rfl
set_option maxRecDepth 100000 in
theorem jwO_X11_drawn : Cond.code (mX11_drawn).1 (mX11_drawn).2.1 (mX11_drawn).2.2.1 (mX11_drawn).2.2.2 ∈ jT := jT_in (List.mem_append_right _ (jm_6 (List.mem_of_getElem? (i := 142) rfl))) rfl
theorem jwC_X11_75 : Cond.constant RX11 75 1103515245 ∈ jT := jT_in (List.mem_append_right _ (jm_6 (List.mem_of_getElem? (i := 143) (by decide +kernel)))) rfl
theorem jwM_L_56 : Cond.methodLink RL 56 yX11_seed ∈ jT := jT_in (List.mem_append_right _ (jm_6 (List.mem_of_getElem? (i := 144) (by decide +kernel)))) rfl
theorem jwN_X11_seed : Cond.instanceMethod yX11_seed ∈ jT := jT_in (List.mem_append_right _ (jm_6 (List.mem_of_getElem? (i := 145) (by decide +kernel)))) rfl
theorem jwX_X11_seed : Cond.selects RX11 yX11_seed yX11_seed ∈ jT := jT_in (List.mem_append_right _ (jm_6 (List.mem_of_getElem? (i := 146) (by decide +kernel)))) rfl
set_option maxRecDepth 100000 in
theorem jwO_X11_seed : Cond.code (mX11_seed).1 (mX11_seed).2.1 (mX11_seed).2.2.1 (mX11_seed).2.2.2 ∈ jT := jT_in (List.mem_append_right _ (jm_6 (List.mem_of_getElem? (i := 147) rfl))) rfl
theorem jwM_L_60 : Cond.methodLink RL 60 yX11_apprentice ∈ jT := jT_in (List.mem_append_right _ (jm_6 (List.mem_of_getElem? (i := 148) (by decide +kernel)))) rfl
theorem jwN_X11_apprentice : Cond.instanceMethod yX11_apprentice ∈ jT := jT_in (List.mem_append_right _ (jm_6 (List.mem_of_getElem? (i := 149) (by decide +kernel)))) rfl
theorem jwX_X11_apprentice : Cond.selects RX11 yX11_apprentice yX11_apprentice ∈ jT := jT_in (List.mem_append_right _ (jm_6 (List.mem_of_getElem? (i := 150) (by decide +kernel)))) rfl
set_option maxRecDepth 100000 in
theorem jwO_X11_apprentice : Cond.code (mX11_apprentice).1 (mX11_apprentice).2.1 (mX11_apprentice).2.2.1 (mX11_apprentice).2.2.2 ∈ jT := jT_in (List.mem_append_right _ (jm_6 (List.mem_of_getElem? (i := 151) rfl))) rfl
theorem jwL_X11_144 : Cond.constantLong RX11 144 3 ∈ jT := jT_in (List.mem_append_right _ (jm_6 (List.mem_of_getElem? (i := 152) (by decide +kernel)))) rfl
theorem jwM_L_64 : Cond.methodLink RL 64 yX11_has ∈ jT := jT_in (List.mem_append_right _ (jm_6 (List.mem_of_getElem? (i := 153) (by decide +kernel)))) rfl
theorem jwN_X11_has : Cond.instanceMethod yX11_has ∈ jT := jT_in (List.mem_append_right _ (jm_6 (List.mem_of_getElem? (i := 154) (by decide +kernel)))) rfl
theorem jwX_X11_has : Cond.selects RX11 yX11_has yX11_has ∈ jT := jT_in (List.mem_append_right _ (jm_6 (List.mem_of_getElem? (i := 155) (by decide +kernel)))) rfl
set_option maxRecDepth 100000 in
theorem jwO_X11_has : Cond.code (mX11_has).1 (mX11_has).2.1 (mX11_has).2.2.1 (mX11_has).2.2.2 ∈ jT := jT_in (List.mem_append_right _ (jm_6 (List.mem_of_getElem? (i := 156) rfl))) rfl
theorem jwL_X11_146 : Cond.constantLong RX11 146 2 ∈ jT := jT_in (List.mem_append_right _ (jm_6 (List.mem_of_getElem? (i := 157) (by decide +kernel)))) rfl
theorem jwL_X11_148 : Cond.constantLong RX11 148 9999 ∈ jT := jT_in (List.mem_append_right _ (jm_6 (List.mem_of_getElem? (i := 158) (by decide +kernel)))) rfl
theorem jwM_L_68 : Cond.methodLink RL 68 yX11_knows ∈ jT := jT_in (List.mem_append_right _ (jm_6 (List.mem_of_getElem? (i := 159) (by decide +kernel)))) rfl
theorem jwN_X11_knows : Cond.instanceMethod yX11_knows ∈ jT := jT_in (List.mem_append_right _ (jm_6 (List.mem_of_getElem? (i := 160) (by decide +kernel)))) rfl
theorem jwX_X11_knows : Cond.selects RX11 yX11_knows yX11_knows ∈ jT := jT_in (List.mem_append_right _ (jm_6 (List.mem_of_getElem? (i := 161) (by decide +kernel)))) rfl
set_option maxRecDepth 100000 in
theorem jwO_X11_knows : Cond.code (mX11_knows).1 (mX11_knows).2.1 (mX11_knows).2.2.1 (mX11_knows).2.2.2 ∈ jT := jT_in (List.mem_append_right _ (jm_6 (List.mem_of_getElem? (i := 162) rfl))) rfl
theorem jwM_X11_150 : Cond.methodLink RX11 150 yX11_doesKnow ∈ jT := jT_in (List.mem_append_right _ (jm_6 (List.mem_of_getElem? (i := 163) (by decide +kernel)))) rfl
theorem jwN_X11_doesKnow : Cond.instanceMethod yX11_doesKnow ∈ jT := jT_in (List.mem_append_right _ (jm_6 (List.mem_of_getElem? (i := 165) (by decide +kernel)))) rfl
set_option maxRecDepth 100000 in
theorem jwO_X11_doesKnow : Cond.code (mX11_doesKnow).1 (mX11_doesKnow).2.1 (mX11_doesKnow).2.2.1 (mX11_doesKnow).2.2.2 ∈ jT := jT_in (List.mem_append_right _ (jm_6 (List.mem_of_getElem? (i := 166) rfl))) rfl
theorem jwC_X11_153 : Cond.constant RX11 153 (-1000000002) ∈ jT := jT_in (List.mem_append_right _ (jm_6 (List.mem_of_getElem? (i := 167) (by decide +kernel)))) rfl
theorem jwM_L_72 : Cond.methodLink RL 72 yX11_go ∈ jT := jT_in (List.mem_append_right _ (jm_6 (List.mem_of_getElem? (i := 168) (by decide +kernel)))) rfl
theorem jwN_X11_go : Cond.instanceMethod yX11_go ∈ jT := jT_in (List.mem_append_right _ (jm_6 (List.mem_of_getElem? (i := 169) (by decide +kernel)))) rfl
theorem jwX_X11_go : Cond.selects RX11 yX11_go yX11_go ∈ jT := jT_in (List.mem_append_right _ (jm_6 (List.mem_of_getElem? (i := 170) (by decide +kernel)))) rfl
set_option maxRecDepth 100000 in
theorem jwO_X11_go : Cond.code (mX11_go).1 (mX11_go).2.1 (mX11_go).2.2.1 (mX11_go).2.2.2 ∈ jT := jT_in (List.mem_append_right _ (jm_6 (List.mem_of_getElem? (i := 171) rfl))) rfl
theorem jwM_X11_154 : Cond.methodLink RX11 154 yX11_goesBy ∈ jT := jT_in (List.mem_append_right _ (jm_6 (List.mem_of_getElem? (i := 172) (by decide +kernel)))) rfl
theorem jwN_X11_goesBy : Cond.instanceMethod yX11_goesBy ∈ jT := jT_in (List.mem_append_right _ (jm_6 (List.mem_of_getElem? (i := 174) (by decide +kernel)))) rfl
set_option maxRecDepth 100000 in
theorem jwO_X11_goesBy : Cond.code (mX11_goesBy).1 (mX11_goesBy).2.1 (mX11_goesBy).2.2.1 (mX11_goesBy).2.2.2 ∈ jT := jT_in (List.mem_append_right _ (jm_6 (List.mem_of_getElem? (i := 175) rfl))) rfl
theorem jwM_L_76 : Cond.methodLink RL 76 yX11_learn ∈ jT := jT_in (List.mem_append_right _ (jm_6 (List.mem_of_getElem? (i := 176) (by decide +kernel)))) rfl
theorem jwN_X11_learn : Cond.instanceMethod yX11_learn ∈ jT := jT_in (List.mem_append_right _ (jm_6 (List.mem_of_getElem? (i := 177) (by decide +kernel)))) rfl
theorem jwX_X11_learn : Cond.selects RX11 yX11_learn yX11_learn ∈ jT := jT_in (List.mem_append_right _ (jm_6 (List.mem_of_getElem? (i := 178) (by decide +kernel)))) rfl
set_option maxRecDepth 100000 in
theorem jwO_X11_learn : Cond.code (mX11_learn).1 (mX11_learn).2.1 (mX11_learn).2.2.1 (mX11_learn).2.2.2 ∈ jT := jT_in (List.mem_append_right _ (jm_6 (List.mem_of_getElem? (i := 179) rfl))) rfl
theorem jwM_X11_161 : Cond.methodLink RX11 161 yX11_canLearn ∈ jT := jT_in (List.mem_append_right _ (jm_6 (List.mem_of_getElem? (i := 180) (by decide +kernel)))) rfl
theorem jwN_X11_canLearn : Cond.instanceMethod yX11_canLearn ∈ jT := jT_in (List.mem_append_right _ (jm_6 (List.mem_of_getElem? (i := 182) (by decide +kernel)))) rfl
set_option maxRecDepth 100000 in
theorem jwO_X11_canLearn : Cond.code (mX11_canLearn).1 (mX11_canLearn).2.1 (mX11_canLearn).2.2.1 (mX11_canLearn).2.2.2 ∈ jT := jT_in (List.mem_append_right _ (jm_6 (List.mem_of_getElem? (i := 183) rfl))) rfl
theorem jwM_X11_164 : Cond.methodLink RX11 164 yX11_learns ∈ jT := jT_in (List.mem_append_right _ (jm_6 (List.mem_of_getElem? (i := 184) (by decide +kernel)))) rfl
theorem jwN_X11_learns : Cond.instanceMethod yX11_learns ∈ jT := jT_in (List.mem_append_right _ (jm_6 (List.mem_of_getElem? (i := 186) (by decide +kernel)))) rfl
set_option maxRecDepth 100000 in
theorem jwO_X11_learns : Cond.code (mX11_learns).1 (mX11_learns).2.1 (mX11_learns).2.2.1 (mX11_learns).2.2.2 ∈ jT := jT_in (List.mem_append_right _ (jm_6 (List.mem_of_getElem? (i := 187) rfl))) rfl
theorem jwM_X11_158 : Cond.methodLink RX11 158 yX11_behindLesson ∈ jT := jT_in (List.mem_append_right _ (jm_6 (List.mem_of_getElem? (i := 188) (by decide +kernel)))) rfl
theorem jwN_X11_behindLesson : Cond.instanceMethod yX11_behindLesson ∈ jT := jT_in (List.mem_append_right _ (jm_6 (List.mem_of_getElem? (i := 190) (by decide +kernel)))) rfl
set_option maxRecDepth 100000 in
theorem jwO_X11_behindLesson : Cond.code (mX11_behindLesson).1 (mX11_behindLesson).2.1 (mX11_behindLesson).2.2.1 (mX11_behindLesson).2.2.2 ∈ jT := jT_in (List.mem_append_right _ (jm_6 (List.mem_of_getElem? (i := 191) rfl))) rfl
theorem jwM_L_80 : Cond.methodLink RL 80 yX11_use ∈ jT := jT_in (List.mem_append_right _ (jm_6 (List.mem_of_getElem? (i := 192) (by decide +kernel)))) rfl
theorem jwN_X11_use : Cond.instanceMethod yX11_use ∈ jT := jT_in (List.mem_append_right _ (jm_6 (List.mem_of_getElem? (i := 193) (by decide +kernel)))) rfl
theorem jwX_X11_use : Cond.selects RX11 yX11_use yX11_use ∈ jT := jT_in (List.mem_append_right _ (jm_6 (List.mem_of_getElem? (i := 194) (by decide +kernel)))) rfl
set_option maxRecDepth 100000 in
theorem jwO_X11_use : Cond.code (mX11_use).1 (mX11_use).2.1 (mX11_use).2.2.1 (mX11_use).2.2.2 ∈ jT := jT_in (List.mem_append_right _ (jm_6 (List.mem_of_getElem? (i := 195) rfl))) rfl
theorem jwM_X11_167 : Cond.methodLink RX11 167 yX11_uses ∈ jT := jT_in (List.mem_append_right _ (jm_6 (List.mem_of_getElem? (i := 196) (by decide +kernel)))) rfl
theorem jwN_X11_uses : Cond.instanceMethod yX11_uses ∈ jT := jT_in (List.mem_append_right _ (jm_6 (List.mem_of_getElem? (i := 198) (by decide +kernel)))) rfl
set_option maxRecDepth 100000 in
theorem jwO_X11_uses : Cond.code (mX11_uses).1 (mX11_uses).2.1 (mX11_uses).2.2.1 (mX11_uses).2.2.2 ∈ jT := jT_in (List.mem_append_right _ (jm_6 (List.mem_of_getElem? (i := 199) rfl))) rfl
theorem jwM_L_84 : Cond.methodLink RL 84 yX11_rests ∈ jT := jT_in (List.mem_append_right _ (jm_6 (List.mem_of_getElem? (i := 200) (by decide +kernel)))) rfl
theorem jwN_X11_rests : Cond.instanceMethod yX11_rests ∈ jT := jT_in (List.mem_append_right _ (jm_6 (List.mem_of_getElem? (i := 201) (by decide +kernel)))) rfl
theorem jwX_X11_rests : Cond.selects RX11 yX11_rests yX11_rests ∈ jT := jT_in (List.mem_append_right _ (jm_6 (List.mem_of_getElem? (i := 202) (by decide +kernel)))) rfl
set_option maxRecDepth 100000 in
theorem jwO_X11_rests : Cond.code (mX11_rests).1 (mX11_rests).2.1 (mX11_rests).2.2.1 (mX11_rests).2.2.2 ∈ jT := jT_in (List.mem_append_right _ (jm_6 (List.mem_of_getElem? (i := 203) rfl))) rfl
theorem jwL_X11_170 : Cond.constantLong RX11 170 100 ∈ jT := jT_in (List.mem_append_right _ (jm_6 (List.mem_of_getElem? (i := 204) (by decide +kernel)))) rfl
theorem jwM_L_88 : Cond.methodLink RL 88 yX11_wants ∈ jT := jT_in (List.mem_append_right _ (jm_6 (List.mem_of_getElem? (i := 205) (by decide +kernel)))) rfl
theorem jwN_X11_wants : Cond.instanceMethod yX11_wants ∈ jT := jT_in (List.mem_append_right _ (jm_6 (List.mem_of_getElem? (i := 206) (by decide +kernel)))) rfl
theorem jwX_X11_wants : Cond.selects RX11 yX11_wants yX11_wants ∈ jT := jT_in (List.mem_append_right _ (jm_6 (List.mem_of_getElem? (i := 207) (by decide +kernel)))) rfl
set_option maxRecDepth 100000 in
theorem jwO_X11_wants : Cond.code (mX11_wants).1 (mX11_wants).2.1 (mX11_wants).2.2.1 (mX11_wants).2.2.2 ∈ jT := jT_in (List.mem_append_right _ (jm_6 (List.mem_of_getElem? (i := 208) rfl))) rfl
theorem jwM_L_93 : Cond.methodLink RL 93 yX11_clear ∈ jT := jT_in (List.mem_append_right _ (jm_6 (List.mem_of_getElem? (i := 209) (by decide +kernel)))) rfl
theorem jwN_X11_clear : Cond.instanceMethod yX11_clear ∈ jT := jT_in (List.mem_append_right _ (jm_6 (List.mem_of_getElem? (i := 210) (by decide +kernel)))) rfl
theorem jwX_X11_clear : Cond.selects RX11 yX11_clear yX11_clear ∈ jT := jT_in (List.mem_append_right _ (jm_6 (List.mem_of_getElem? (i := 211) (by decide +kernel)))) rfl
set_option maxRecDepth 100000 in
theorem jwO_X11_clear : Cond.code (mX11_clear).1 (mX11_clear).2.1 (mX11_clear).2.2.1 (mX11_clear).2.2.2 ∈ jT := jT_in (List.mem_append_right _ (jm_6 (List.mem_of_getElem? (i := 212) rfl))) rfl
theorem jwM_L_97 : Cond.methodLink RL 97 yX11_made ∈ jT := jT_in (List.mem_append_right _ (jm_6 (List.mem_of_getElem? (i := 213) (by decide +kernel)))) rfl
theorem jwN_X11_made : Cond.instanceMethod yX11_made ∈ jT := jT_in (List.mem_append_right _ (jm_6 (List.mem_of_getElem? (i := 214) (by decide +kernel)))) rfl
theorem jwX_X11_made : Cond.selects RX11 yX11_made yX11_made ∈ jT := jT_in (List.mem_append_right _ (jm_6 (List.mem_of_getElem? (i := 215) (by decide +kernel)))) rfl
set_option maxRecDepth 100000 in
theorem jwO_X11_made : Cond.code (mX11_made).1 (mX11_made).2.1 (mX11_made).2.2.1 (mX11_made).2.2.2 ∈ jT := jT_in (List.mem_append_right _ (jm_6 (List.mem_of_getElem? (i := 216) rfl))) rfl
theorem jwM_X11_172 : Cond.methodLink RX11 172 yX11_can ∈ jT := jT_in (List.mem_append_right _ (jm_6 (List.mem_of_getElem? (i := 217) (by decide +kernel)))) rfl
theorem jwN_X11_can : Cond.instanceMethod yX11_can ∈ jT := jT_in (List.mem_append_right _ (jm_6 (List.mem_of_getElem? (i := 219) (by decide +kernel)))) rfl
set_option maxRecDepth 100000 in
theorem jwO_X11_can : Cond.code (mX11_can).1 (mX11_can).2.1 (mX11_can).2.2.1 (mX11_can).2.2.2 ∈ jT := jT_in (List.mem_append_right _ (jm_6 (List.mem_of_getElem? (i := 220) rfl))) rfl
theorem jwM_L_101 : Cond.methodLink RL 101 yX11_soonest ∈ jT := jT_in (List.mem_append_right _ (jm_6 (List.mem_of_getElem? (i := 221) (by decide +kernel)))) rfl
theorem jwN_X11_soonest : Cond.instanceMethod yX11_soonest ∈ jT := jT_in (List.mem_append_right _ (jm_6 (List.mem_of_getElem? (i := 222) (by decide +kernel)))) rfl
theorem jwX_X11_soonest : Cond.selects RX11 yX11_soonest yX11_soonest ∈ jT := jT_in (List.mem_append_right _ (jm_6 (List.mem_of_getElem? (i := 223) (by decide +kernel)))) rfl
set_option maxRecDepth 100000 in
theorem jwO_X11_soonest : Cond.code (mX11_soonest).1 (mX11_soonest).2.1 (mX11_soonest).2.2.1 (mX11_soonest).2.2.2 ∈ jT := jT_in (List.mem_append_right _ (jm_6 (List.mem_of_getElem? (i := 224) rfl))) rfl
theorem jwM_X11_195 : Cond.methodLink RX11 195 yX11_findSoonest ∈ jT := jT_in (List.mem_append_right _ (jm_6 (List.mem_of_getElem? (i := 225) (by decide +kernel)))) rfl
theorem jwN_X11_findSoonest : Cond.instanceMethod yX11_findSoonest ∈ jT := jT_in (List.mem_append_right _ (jm_6 (List.mem_of_getElem? (i := 227) (by decide +kernel)))) rfl
set_option maxRecDepth 100000 in
theorem jwO_X11_findSoonest : Cond.code (mX11_findSoonest).1 (mX11_findSoonest).2.1 (mX11_findSoonest).2.2.1 (mX11_findSoonest).2.2.2 ∈ jT := jT_in (List.mem_append_right _ (jm_6 (List.mem_of_getElem? (i := 228) rfl))) rfl
theorem jwM_X11_186 : Cond.methodLink RX11 186 yX11_laysBy ∈ jT := jT_in (List.mem_append_right _ (jm_6 (List.mem_of_getElem? (i := 229) (by decide +kernel)))) rfl
theorem jwN_X11_laysBy : Cond.instanceMethod yX11_laysBy ∈ jT := jT_in (List.mem_append_right _ (jm_6 (List.mem_of_getElem? (i := 231) (by decide +kernel)))) rfl
set_option maxRecDepth 100000 in
theorem jwO_X11_laysBy : Cond.code (mX11_laysBy).1 (mX11_laysBy).2.1 (mX11_laysBy).2.2.1 (mX11_laysBy).2.2.2 ∈ jT := jT_in (List.mem_append_right _ (jm_6 (List.mem_of_getElem? (i := 232) rfl))) rfl
theorem jwM_X11_189 : Cond.methodLink RX11 189 yX11_goesWay ∈ jT := jT_in (List.mem_append_right _ (jm_6 (List.mem_of_getElem? (i := 233) (by decide +kernel)))) rfl
theorem jwN_X11_goesWay : Cond.instanceMethod yX11_goesWay ∈ jT := jT_in (List.mem_append_right _ (jm_6 (List.mem_of_getElem? (i := 235) (by decide +kernel)))) rfl
set_option maxRecDepth 100000 in
theorem jwO_X11_goesWay : Cond.code (mX11_goesWay).1 (mX11_goesWay).2.1 (mX11_goesWay).2.2.1 (mX11_goesWay).2.2.2 ∈ jT := jT_in (List.mem_append_right _ (jm_6 (List.mem_of_getElem? (i := 236) rfl))) rfl
theorem jwM_X11_192 : Cond.methodLink RX11 192 yX11_laysBack ∈ jT := jT_in (List.mem_append_right _ (jm_6 (List.mem_of_getElem? (i := 237) (by decide +kernel)))) rfl
theorem jwN_X11_laysBack : Cond.instanceMethod yX11_laysBack ∈ jT := jT_in (List.mem_append_right _ (jm_6 (List.mem_of_getElem? (i := 239) (by decide +kernel)))) rfl
set_option maxRecDepth 100000 in
theorem jwO_X11_laysBack : Cond.code (mX11_laysBack).1 (mX11_laysBack).2.1 (mX11_laysBack).2.2.1 (mX11_laysBack).2.2.2 ∈ jT := jT_in (List.mem_append_right _ (jm_7 (List.mem_of_getElem? (i := 0) rfl))) rfl
theorem jwM_L_105 : Cond.methodLink RL 105 yX11_together ∈ jT := jT_in (List.mem_append_right _ (jm_7 (List.mem_of_getElem? (i := 1) (by decide +kernel)))) rfl
theorem jwN_X11_together : Cond.instanceMethod yX11_together ∈ jT := jT_in (List.mem_append_right _ (jm_7 (List.mem_of_getElem? (i := 2) (by decide +kernel)))) rfl
theorem jwX_X11_together : Cond.selects RX11 yX11_together yX11_together ∈ jT := jT_in (List.mem_append_right _ (jm_7 (List.mem_of_getElem? (i := 3) (by decide +kernel)))) rfl
set_option maxRecDepth 100000 in
theorem jwO_X11_together : Cond.code (mX11_together).1 (mX11_together).2.1 (mX11_together).2.2.1 (mX11_together).2.2.2 ∈ jT := jT_in (List.mem_append_right _ (jm_7 (List.mem_of_getElem? (i := 4) rfl))) rfl
theorem jwL_X11_198 : Cond.constantLong RX11 198 1023 ∈ jT := jT_in (List.mem_append_right _ (jm_7 (List.mem_of_getElem? (i := 5) (by decide +kernel)))) rfl
theorem jwM_X11_200 : Cond.methodLink RX11 200 yX11_areTogether ∈ jT := jT_in (List.mem_append_right _ (jm_7 (List.mem_of_getElem? (i := 6) (by decide +kernel)))) rfl
theorem jwN_X11_areTogether : Cond.instanceMethod yX11_areTogether ∈ jT := jT_in (List.mem_append_right _ (jm_7 (List.mem_of_getElem? (i := 8) (by decide +kernel)))) rfl
set_option maxRecDepth 100000 in
theorem jwO_X11_areTogether : Cond.code (mX11_areTogether).1 (mX11_areTogether).2.1 (mX11_areTogether).2.2.1 (mX11_areTogether).2.2.2 ∈ jT := jT_in (List.mem_append_right _ (jm_7 (List.mem_of_getElem? (i := 9) rfl))) rfl
theorem jwM_L_109 : Cond.methodLink RL 109 yX11_never ∈ jT := jT_in (List.mem_append_right _ (jm_7 (List.mem_of_getElem? (i := 10) (by decide +kernel)))) rfl
theorem jwN_X11_never : Cond.instanceMethod yX11_never ∈ jT := jT_in (List.mem_append_right _ (jm_7 (List.mem_of_getElem? (i := 11) (by decide +kernel)))) rfl
theorem jwX_X11_never : Cond.selects RX11 yX11_never yX11_never ∈ jT := jT_in (List.mem_append_right _ (jm_7 (List.mem_of_getElem? (i := 12) (by decide +kernel)))) rfl
set_option maxRecDepth 100000 in
theorem jwO_X11_never : Cond.code (mX11_never).1 (mX11_never).2.1 (mX11_never).2.2.1 (mX11_never).2.2.2 ∈ jT := jT_in (List.mem_append_right _ (jm_7 (List.mem_of_getElem? (i := 13) rfl))) rfl
theorem jwM_X11_203 : Cond.methodLink RX11 203 yX11_taughtNow ∈ jT := jT_in (List.mem_append_right _ (jm_7 (List.mem_of_getElem? (i := 14) (by decide +kernel)))) rfl
theorem jwN_X11_taughtNow : Cond.instanceMethod yX11_taughtNow ∈ jT := jT_in (List.mem_append_right _ (jm_7 (List.mem_of_getElem? (i := 16) (by decide +kernel)))) rfl
set_option maxRecDepth 100000 in
theorem jwO_X11_taughtNow : Cond.code (mX11_taughtNow).1 (mX11_taughtNow).2.1 (mX11_taughtNow).2.2.1 (mX11_taughtNow).2.2.2 ∈ jT := jT_in (List.mem_append_right _ (jm_7 (List.mem_of_getElem? (i := 17) rfl))) rfl
theorem jwM_L_113 : Cond.methodLink RL 113 yX11_last ∈ jT := jT_in (List.mem_append_right _ (jm_7 (List.mem_of_getElem? (i := 18) (by decide +kernel)))) rfl
theorem jwN_X11_last : Cond.instanceMethod yX11_last ∈ jT := jT_in (List.mem_append_right _ (jm_7 (List.mem_of_getElem? (i := 19) (by decide +kernel)))) rfl
theorem jwX_X11_last : Cond.selects RX11 yX11_last yX11_last ∈ jT := jT_in (List.mem_append_right _ (jm_7 (List.mem_of_getElem? (i := 20) (by decide +kernel)))) rfl
set_option maxRecDepth 100000 in
theorem jwO_X11_last : Cond.code (mX11_last).1 (mX11_last).2.1 (mX11_last).2.2.1 (mX11_last).2.2.2 ∈ jT := jT_in (List.mem_append_right _ (jm_7 (List.mem_of_getElem? (i := 21) rfl))) rfl
theorem jwM_L_117 : Cond.methodLink RL 117 yX11_years ∈ jT := jT_in (List.mem_append_right _ (jm_7 (List.mem_of_getElem? (i := 22) (by decide +kernel)))) rfl
theorem jwN_X11_years : Cond.instanceMethod yX11_years ∈ jT := jT_in (List.mem_append_right _ (jm_7 (List.mem_of_getElem? (i := 23) (by decide +kernel)))) rfl
theorem jwX_X11_years : Cond.selects RX11 yX11_years yX11_years ∈ jT := jT_in (List.mem_append_right _ (jm_7 (List.mem_of_getElem? (i := 24) (by decide +kernel)))) rfl
set_option maxRecDepth 100000 in
theorem jwO_X11_years : Cond.code (mX11_years).1 (mX11_years).2.1 (mX11_years).2.2.1 (mX11_years).2.2.2 ∈ jT := jT_in (List.mem_append_right _ (jm_7 (List.mem_of_getElem? (i := 25) rfl))) rfl
theorem jwL_X11_206 : Cond.constantLong RX11 206 60 ∈ jT := jT_in (List.mem_append_right _ (jm_7 (List.mem_of_getElem? (i := 26) (by decide +kernel)))) rfl
theorem jwM_X11_208 : Cond.methodLink RX11 208 yX11_year ∈ jT := jT_in (List.mem_append_right _ (jm_7 (List.mem_of_getElem? (i := 27) (by decide +kernel)))) rfl
theorem jwN_X11_year : Cond.instanceMethod yX11_year ∈ jT := jT_in (List.mem_append_right _ (jm_7 (List.mem_of_getElem? (i := 29) (by decide +kernel)))) rfl
set_option maxRecDepth 100000 in
theorem jwO_X11_year : Cond.code (mX11_year).1 (mX11_year).2.1 (mX11_year).2.2.1 (mX11_year).2.2.2 ∈ jT := jT_in (List.mem_append_right _ (jm_7 (List.mem_of_getElem? (i := 30) rfl))) rfl
theorem jwM_L_121 : Cond.methodLink RL 121 yX11_gone ∈ jT := jT_in (List.mem_append_right _ (jm_7 (List.mem_of_getElem? (i := 31) (by decide +kernel)))) rfl
theorem jwN_X11_gone : Cond.instanceMethod yX11_gone ∈ jT := jT_in (List.mem_append_right _ (jm_7 (List.mem_of_getElem? (i := 32) (by decide +kernel)))) rfl
theorem jwX_X11_gone : Cond.selects RX11 yX11_gone yX11_gone ∈ jT := jT_in (List.mem_append_right _ (jm_7 (List.mem_of_getElem? (i := 33) (by decide +kernel)))) rfl
set_option maxRecDepth 100000 in
theorem jwO_X11_gone : Cond.code (mX11_gone).1 (mX11_gone).2.1 (mX11_gone).2.2.1 (mX11_gone).2.2.2 ∈ jT := jT_in (List.mem_append_right _ (jm_7 (List.mem_of_getElem? (i := 34) rfl))) rfl
theorem jwM_L_125 : Cond.methodLink RL 125 yX11_fresh ∈ jT := jT_in (List.mem_append_right _ (jm_7 (List.mem_of_getElem? (i := 35) (by decide +kernel)))) rfl
theorem jwN_X11_fresh : Cond.instanceMethod yX11_fresh ∈ jT := jT_in (List.mem_append_right _ (jm_7 (List.mem_of_getElem? (i := 36) (by decide +kernel)))) rfl
theorem jwX_X11_fresh : Cond.selects RX11 yX11_fresh yX11_fresh ∈ jT := jT_in (List.mem_append_right _ (jm_7 (List.mem_of_getElem? (i := 37) (by decide +kernel)))) rfl
set_option maxRecDepth 100000 in
theorem jwO_X11_fresh : Cond.code (mX11_fresh).1 (mX11_fresh).2.1 (mX11_fresh).2.2.1 (mX11_fresh).2.2.2 ∈ jT := jT_in (List.mem_append_right _ (jm_7 (List.mem_of_getElem? (i := 38) rfl))) rfl
theorem jwM_X11_211 : Cond.methodLink RX11 211 yX11_farFrom ∈ jT := jT_in (List.mem_append_right _ (jm_7 (List.mem_of_getElem? (i := 39) (by decide +kernel)))) rfl
theorem jwN_X11_farFrom : Cond.instanceMethod yX11_farFrom ∈ jT := jT_in (List.mem_append_right _ (jm_7 (List.mem_of_getElem? (i := 41) (by decide +kernel)))) rfl
set_option maxRecDepth 100000 in
theorem jwO_X11_farFrom : Cond.code (mX11_farFrom).1 (mX11_farFrom).2.1 (mX11_farFrom).2.2.1 (mX11_farFrom).2.2.2 ∈ jT := jT_in (List.mem_append_right _ (jm_7 (List.mem_of_getElem? (i := 42) rfl))) rfl
theorem jwM_L_133 : Cond.methodLink RL 133 yX11_fame ∈ jT := jT_in (List.mem_append_right _ (jm_7 (List.mem_of_getElem? (i := 43) (by decide +kernel)))) rfl
theorem jwN_X11_fame : Cond.instanceMethod yX11_fame ∈ jT := jT_in (List.mem_append_right _ (jm_7 (List.mem_of_getElem? (i := 44) (by decide +kernel)))) rfl
theorem jwX_X11_fame : Cond.selects RX11 yX11_fame yX11_fame ∈ jT := jT_in (List.mem_append_right _ (jm_7 (List.mem_of_getElem? (i := 45) (by decide +kernel)))) rfl
set_option maxRecDepth 100000 in
theorem jwO_X11_fame : Cond.code (mX11_fame).1 (mX11_fame).2.1 (mX11_fame).2.2.1 (mX11_fame).2.2.2 ∈ jT := jT_in (List.mem_append_right _ (jm_7 (List.mem_of_getElem? (i := 46) rfl))) rfl
theorem jwM_L_137 : Cond.methodLink RL 137 yX11_fine ∈ jT := jT_in (List.mem_append_right _ (jm_7 (List.mem_of_getElem? (i := 47) (by decide +kernel)))) rfl
theorem jwN_X11_fine : Cond.instanceMethod yX11_fine ∈ jT := jT_in (List.mem_append_right _ (jm_7 (List.mem_of_getElem? (i := 48) (by decide +kernel)))) rfl
theorem jwX_X11_fine : Cond.selects RX11 yX11_fine yX11_fine ∈ jT := jT_in (List.mem_append_right _ (jm_7 (List.mem_of_getElem? (i := 49) (by decide +kernel)))) rfl
set_option maxRecDepth 100000 in
theorem jwO_X11_fine : Cond.code (mX11_fine).1 (mX11_fine).2.1 (mX11_fine).2.2.1 (mX11_fine).2.2.2 ∈ jT := jT_in (List.mem_append_right _ (jm_7 (List.mem_of_getElem? (i := 50) rfl))) rfl
theorem jwM_L_141 : Cond.methodLink RL 141 yX11_feed ∈ jT := jT_in (List.mem_append_right _ (jm_7 (List.mem_of_getElem? (i := 51) (by decide +kernel)))) rfl
theorem jwN_X11_feed : Cond.instanceMethod yX11_feed ∈ jT := jT_in (List.mem_append_right _ (jm_7 (List.mem_of_getElem? (i := 52) (by decide +kernel)))) rfl
theorem jwX_X11_feed : Cond.selects RX11 yX11_feed yX11_feed ∈ jT := jT_in (List.mem_append_right _ (jm_7 (List.mem_of_getElem? (i := 53) (by decide +kernel)))) rfl
set_option maxRecDepth 100000 in
theorem jwO_X11_feed : Cond.code (mX11_feed).1 (mX11_feed).2.1 (mX11_feed).2.2.1 (mX11_feed).2.2.2 ∈ jT := jT_in (List.mem_append_right _ (jm_7 (List.mem_of_getElem? (i := 54) rfl))) rfl
theorem jwM_L_145 : Cond.methodLink RL 145 yX11_trim ∈ jT := jT_in (List.mem_append_right _ (jm_7 (List.mem_of_getElem? (i := 55) (by decide +kernel)))) rfl
theorem jwN_X11_trim : Cond.instanceMethod yX11_trim ∈ jT := jT_in (List.mem_append_right _ (jm_7 (List.mem_of_getElem? (i := 56) (by decide +kernel)))) rfl
theorem jwX_X11_trim : Cond.selects RX11 yX11_trim yX11_trim ∈ jT := jT_in (List.mem_append_right _ (jm_7 (List.mem_of_getElem? (i := 57) (by decide +kernel)))) rfl
set_option maxRecDepth 100000 in
theorem jwO_X11_trim : Cond.code (mX11_trim).1 (mX11_trim).2.1 (mX11_trim).2.2.1 (mX11_trim).2.2.2 ∈ jT := jT_in (List.mem_append_right _ (jm_7 (List.mem_of_getElem? (i := 58) rfl))) rfl
theorem jwM_L_149 : Cond.methodLink RL 149 yX11_text ∈ jT := jT_in (List.mem_append_right _ (jm_7 (List.mem_of_getElem? (i := 59) (by decide +kernel)))) rfl
theorem jwN_X11_text : Cond.instanceMethod yX11_text ∈ jT := jT_in (List.mem_append_right _ (jm_7 (List.mem_of_getElem? (i := 60) (by decide +kernel)))) rfl
theorem jwX_X11_text : Cond.selects RX11 yX11_text yX11_text ∈ jT := jT_in (List.mem_append_right _ (jm_7 (List.mem_of_getElem? (i := 61) (by decide +kernel)))) rfl
set_option maxRecDepth 100000 in
theorem jwO_X11_text : Cond.code (mX11_text).1 (mX11_text).2.1 (mX11_text).2.2.1 (mX11_text).2.2.2 ∈ jT := jT_in (List.mem_append_right _ (jm_7 (List.mem_of_getElem? (i := 62) rfl))) rfl
theorem jwM_X11_302 : Cond.methodLink RX11 302 yX11_parse ∈ jT := jT_in (List.mem_append_right _ (jm_7 (List.mem_of_getElem? (i := 63) (by decide +kernel)))) rfl
theorem jwN_X11_parse : Cond.instanceMethod yX11_parse ∈ jT := jT_in (List.mem_append_right _ (jm_7 (List.mem_of_getElem? (i := 65) (by decide +kernel)))) rfl
set_option maxRecDepth 100000 in
theorem jwO_X11_parse : Cond.code (mX11_parse).1 (mX11_parse).2.1 (mX11_parse).2.2.1 (mX11_parse).2.2.2 ∈ jT := jT_in (List.mem_append_right _ (jm_7 (List.mem_of_getElem? (i := 66) rfl))) rfl
theorem jwM_X11_262 : Cond.methodLink RX11 262 yX11_nextToken ∈ jT := jT_in (List.mem_append_right _ (jm_7 (List.mem_of_getElem? (i := 67) (by decide +kernel)))) rfl
theorem jwN_X11_nextToken : Cond.instanceMethod yX11_nextToken ∈ jT := jT_in (List.mem_append_right _ (jm_7 (List.mem_of_getElem? (i := 69) (by decide +kernel)))) rfl
set_option maxRecDepth 100000 in
theorem jwO_X11_nextToken : Cond.code (mX11_nextToken).1 (mX11_nextToken).2.1 (mX11_nextToken).2.2.1 (mX11_nextToken).2.2.2 ∈ jT := jT_in (List.mem_append_right _ (jm_7 (List.mem_of_getElem? (i := 70) rfl))) rfl
theorem jwM_X11_234 : Cond.methodLink RX11 234 yX11_isLetter ∈ jT := jT_in (List.mem_append_right _ (jm_7 (List.mem_of_getElem? (i := 71) (by decide +kernel)))) rfl
theorem jwN_X11_isLetter : Cond.instanceMethod yX11_isLetter ∈ jT := jT_in (List.mem_append_right _ (jm_7 (List.mem_of_getElem? (i := 73) (by decide +kernel)))) rfl
set_option maxRecDepth 100000 in
theorem jwO_X11_isLetter : Cond.code (mX11_isLetter).1 (mX11_isLetter).2.1 (mX11_isLetter).2.2.1 (mX11_isLetter).2.2.2 ∈ jT := jT_in (List.mem_append_right _ (jm_7 (List.mem_of_getElem? (i := 74) rfl))) rfl
theorem jwL_X11_217 : Cond.constantLong RX11 217 97 ∈ jT := jT_in (List.mem_append_right _ (jm_7 (List.mem_of_getElem? (i := 75) (by decide +kernel)))) rfl
theorem jwL_X11_219 : Cond.constantLong RX11 219 122 ∈ jT := jT_in (List.mem_append_right _ (jm_7 (List.mem_of_getElem? (i := 76) (by decide +kernel)))) rfl
theorem jwM_X11_240 : Cond.methodLink RX11 240 yX11_isDigit ∈ jT := jT_in (List.mem_append_right _ (jm_7 (List.mem_of_getElem? (i := 77) (by decide +kernel)))) rfl
theorem jwN_X11_isDigit : Cond.instanceMethod yX11_isDigit ∈ jT := jT_in (List.mem_append_right _ (jm_7 (List.mem_of_getElem? (i := 79) (by decide +kernel)))) rfl
set_option maxRecDepth 100000 in
theorem jwO_X11_isDigit : Cond.code (mX11_isDigit).1 (mX11_isDigit).2.1 (mX11_isDigit).2.2.1 (mX11_isDigit).2.2.2 ∈ jT := jT_in (List.mem_append_right _ (jm_7 (List.mem_of_getElem? (i := 80) rfl))) rfl
theorem jwL_X11_221 : Cond.constantLong RX11 221 48 ∈ jT := jT_in (List.mem_append_right _ (jm_7 (List.mem_of_getElem? (i := 81) (by decide +kernel)))) rfl
theorem jwL_X11_223 : Cond.constantLong RX11 223 57 ∈ jT := jT_in (List.mem_append_right _ (jm_7 (List.mem_of_getElem? (i := 82) (by decide +kernel)))) rfl
theorem jwM_X11_299 : Cond.methodLink RX11 299 yX11_key ∈ jT := jT_in (List.mem_append_right _ (jm_7 (List.mem_of_getElem? (i := 83) (by decide +kernel)))) rfl
theorem jwN_X11_key : Cond.instanceMethod yX11_key ∈ jT := jT_in (List.mem_append_right _ (jm_7 (List.mem_of_getElem? (i := 85) (by decide +kernel)))) rfl
set_option maxRecDepth 100000 in
theorem jwO_X11_key : Cond.code (mX11_key).1 (mX11_key).2.1 (mX11_key).2.2.1 (mX11_key).2.2.2 ∈ jT := jT_in (List.mem_append_right _ (jm_7 (List.mem_of_getElem? (i := 86) rfl))) rfl
theorem jwM_X11_246 : Cond.methodLink RX11 246 yX11_isWordAt ∈ jT := jT_in (List.mem_append_right _ (jm_7 (List.mem_of_getElem? (i := 87) (by decide +kernel)))) rfl
theorem jwN_X11_isWordAt : Cond.instanceMethod yX11_isWordAt ∈ jT := jT_in (List.mem_append_right _ (jm_7 (List.mem_of_getElem? (i := 89) (by decide +kernel)))) rfl
set_option maxRecDepth 100000 in
theorem jwO_X11_isWordAt : Cond.code (mX11_isWordAt).1 (mX11_isWordAt).2.1 (mX11_isWordAt).2.2.1 (mX11_isWordAt).2.2.2 ∈ jT := jT_in (List.mem_append_right _ (jm_7 (List.mem_of_getElem? (i := 90) rfl))) rfl
theorem jwM_X11_293 : Cond.methodLink RX11 293 yX11_either ∈ jT := jT_in (List.mem_append_right _ (jm_7 (List.mem_of_getElem? (i := 91) (by decide +kernel)))) rfl
theorem jwN_X11_either : Cond.instanceMethod yX11_either ∈ jT := jT_in (List.mem_append_right _ (jm_7 (List.mem_of_getElem? (i := 93) (by decide +kernel)))) rfl
set_option maxRecDepth 100000 in
theorem jwO_X11_either : Cond.code (mX11_either).1 (mX11_either).2.1 (mX11_either).2.2.1 (mX11_either).2.2.2 ∈ jT := jT_in (List.mem_append_right _ (jm_7 (List.mem_of_getElem? (i := 94) rfl))) rfl
theorem jwM_X11_256 : Cond.methodLink RX11 256 yX11_both ∈ jT := jT_in (List.mem_append_right _ (jm_7 (List.mem_of_getElem? (i := 95) (by decide +kernel)))) rfl
theorem jwN_X11_both : Cond.instanceMethod yX11_both ∈ jT := jT_in (List.mem_append_right _ (jm_7 (List.mem_of_getElem? (i := 97) (by decide +kernel)))) rfl
set_option maxRecDepth 100000 in
theorem jwO_X11_both : Cond.code (mX11_both).1 (mX11_both).2.1 (mX11_both).2.2.1 (mX11_both).2.2.2 ∈ jT := jT_in (List.mem_append_right _ (jm_7 (List.mem_of_getElem? (i := 98) rfl))) rfl
theorem jwM_X11_269 : Cond.methodLink RX11 269 yX11_test ∈ jT := jT_in (List.mem_append_right _ (jm_7 (List.mem_of_getElem? (i := 99) (by decide +kernel)))) rfl
theorem jwN_X11_test : Cond.instanceMethod yX11_test ∈ jT := jT_in (List.mem_append_right _ (jm_7 (List.mem_of_getElem? (i := 101) (by decide +kernel)))) rfl
set_option maxRecDepth 100000 in
theorem jwO_X11_test : Cond.code (mX11_test).1 (mX11_test).2.1 (mX11_test).2.2.1 (mX11_test).2.2.2 ∈ jT := jT_in (List.mem_append_right _ (jm_7 (List.mem_of_getElem? (i := 102) rfl))) rfl
theorem jwM_X11_272 : Cond.methodLink RX11 272 yX11_sum ∈ jT := jT_in (List.mem_append_right _ (jm_7 (List.mem_of_getElem? (i := 103) (by decide +kernel)))) rfl
theorem jwN_X11_sum : Cond.instanceMethod yX11_sum ∈ jT := jT_in (List.mem_append_right _ (jm_7 (List.mem_of_getElem? (i := 105) (by decide +kernel)))) rfl
set_option maxRecDepth 100000 in
theorem jwO_X11_sum : Cond.code (mX11_sum).1 (mX11_sum).2.1 (mX11_sum).2.2.1 (mX11_sum).2.2.2 ∈ jT := jT_in (List.mem_append_right _ (jm_7 (List.mem_of_getElem? (i := 106) rfl))) rfl
theorem jwM_X11_275 : Cond.methodLink RX11 275 yX11_term ∈ jT := jT_in (List.mem_append_right _ (jm_7 (List.mem_of_getElem? (i := 107) (by decide +kernel)))) rfl
theorem jwN_X11_term : Cond.instanceMethod yX11_term ∈ jT := jT_in (List.mem_append_right _ (jm_7 (List.mem_of_getElem? (i := 109) (by decide +kernel)))) rfl
set_option maxRecDepth 100000 in
theorem jwO_X11_term : Cond.code (mX11_term).1 (mX11_term).2.1 (mX11_term).2.2.1 (mX11_term).2.2.2 ∈ jT := jT_in (List.mem_append_right _ (jm_7 (List.mem_of_getElem? (i := 110) rfl))) rfl
theorem jwM_X11_278 : Cond.methodLink RX11 278 yX11_part0 ∈ jT := jT_in (List.mem_append_right _ (jm_7 (List.mem_of_getElem? (i := 111) (by decide +kernel)))) rfl
theorem jwN_X11_part0 : Cond.instanceMethod yX11_part0 ∈ jT := jT_in (List.mem_append_right _ (jm_7 (List.mem_of_getElem? (i := 113) (by decide +kernel)))) rfl
set_option maxRecDepth 100000 in
theorem jwO_X11_part0 : Cond.code (mX11_part0).1 (mX11_part0).2.1 (mX11_part0).2.2.1 (mX11_part0).2.2.2 ∈ jT := jT_in (List.mem_append_right _ (jm_7 (List.mem_of_getElem? (i := 114) rfl))) rfl
theorem jwM_X11_265 : Cond.methodLink RX11 265 yX11_step ∈ jT := jT_in (List.mem_append_right _ (jm_7 (List.mem_of_getElem? (i := 115) (by decide +kernel)))) rfl
theorem jwN_X11_step : Cond.instanceMethod yX11_step ∈ jT := jT_in (List.mem_append_right _ (jm_7 (List.mem_of_getElem? (i := 117) (by decide +kernel)))) rfl
set_option maxRecDepth 100000 in
theorem jwO_X11_step : Cond.code (mX11_step).1 (mX11_step).2.1 (mX11_step).2.2.1 (mX11_step).2.2.2 ∈ jT := jT_in (List.mem_append_right _ (jm_7 (List.mem_of_getElem? (i := 118) rfl))) rfl
theorem jwM_X11_284 : Cond.methodLink RX11 284 yX11_isName ∈ jT := jT_in (List.mem_append_right _ (jm_7 (List.mem_of_getElem? (i := 119) (by decide +kernel)))) rfl
theorem jwS_X11_isName : Cond.static yX11_isName ∈ jT := jT_in (List.mem_append_right _ (jm_7 (List.mem_of_getElem? (i := 120) (by decide +kernel)))) rfl
set_option maxRecDepth 100000 in
theorem jwO_X11_isName : Cond.code (mX11_isName).1 (mX11_isName).2.1 (mX11_isName).2.2.1 (mX11_isName).2.2.2 ∈ jT := jT_in (List.mem_append_right _ (jm_7 (List.mem_of_getElem? (i := 121) rfl))) rfl
theorem jwM_X11_259 : Cond.methodLink RX11 259 yX11_isSign ∈ jT := jT_in (List.mem_append_right _ (jm_7 (List.mem_of_getElem? (i := 122) (by decide +kernel)))) rfl
theorem jwN_X11_isSign : Cond.instanceMethod yX11_isSign ∈ jT := jT_in (List.mem_append_right _ (jm_7 (List.mem_of_getElem? (i := 124) (by decide +kernel)))) rfl
set_option maxRecDepth 100000 in
theorem jwO_X11_isSign : Cond.code (mX11_isSign).1 (mX11_isSign).2.1 (mX11_isSign).2.2.1 (mX11_isSign).2.2.2 ∈ jT := jT_in (List.mem_append_right _ (jm_7 (List.mem_of_getElem? (i := 125) rfl))) rfl
theorem jwM_L_153 : Cond.methodLink RL 153 yX11_textTold ∈ jT := jT_in (List.mem_append_right _ (jm_7 (List.mem_of_getElem? (i := 126) (by decide +kernel)))) rfl
end
section
theorem jwN_X11_textTold : Cond.instanceMethod yX11_textTold ∈ jT := jT_in (List.mem_append_right _ (jm_7 (List.mem_of_getElem? (i := 127) (by decide +kernel)))) rfl
theorem jwX_X11_textTold : Cond.selects RX11 yX11_textTold yX11_textTold ∈ jT := jT_in (List.mem_append_right _ (jm_7 (List.mem_of_getElem? (i := 128) (by decide +kernel)))) rfl
set_option maxRecDepth 100000 in
theorem jwO_X11_textTold : Cond.code (mX11_textTold).1 (mX11_textTold).2.1 (mX11_textTold).2.2.1 (mX11_textTold).2.2.2 ∈ jT := jT_in (List.mem_append_right _ (jm_7 (List.mem_of_getElem? (i := 129) rfl))) rfl
theorem jwM_X11_305 : Cond.methodLink RX11 305 yX11_isText ∈ jT := jT_in (List.mem_append_right _ (jm_7 (List.mem_of_getElem? (i := 130) (by decide +kernel)))) rfl
theorem jwN_X11_isText : Cond.instanceMethod yX11_isText ∈ jT := jT_in (List.mem_append_right _ (jm_7 (List.mem_of_getElem? (i := 132) (by decide +kernel)))) rfl
set_option maxRecDepth 100000 in
theorem jwO_X11_isText : Cond.code (mX11_isText).1 (mX11_isText).2.1 (mX11_isText).2.2.1 (mX11_isText).2.2.2 ∈ jT := jT_in (List.mem_append_right _ (jm_7 (List.mem_of_getElem? (i := 133) rfl))) rfl
theorem jwM_L_157 : Cond.methodLink RL 157 yX11_why ∈ jT := jT_in (List.mem_append_right _ (jm_7 (List.mem_of_getElem? (i := 134) (by decide +kernel)))) rfl
theorem jwN_X11_why : Cond.instanceMethod yX11_why ∈ jT := jT_in (List.mem_append_right _ (jm_7 (List.mem_of_getElem? (i := 135) (by decide +kernel)))) rfl
theorem jwX_X11_why : Cond.selects RX11 yX11_why yX11_why ∈ jT := jT_in (List.mem_append_right _ (jm_7 (List.mem_of_getElem? (i := 136) (by decide +kernel)))) rfl
set_option maxRecDepth 100000 in
theorem jwO_X11_why : Cond.code (mX11_why).1 (mX11_why).2.1 (mX11_why).2.2.1 (mX11_why).2.2.2 ∈ jT := jT_in (List.mem_append_right _ (jm_7 (List.mem_of_getElem? (i := 137) rfl))) rfl
theorem jwM_X11_308 : Cond.methodLink RX11 308 yX11_orNone ∈ jT := jT_in (List.mem_append_right _ (jm_7 (List.mem_of_getElem? (i := 138) (by decide +kernel)))) rfl
theorem jwS_X11_orNone : Cond.static yX11_orNone ∈ jT := jT_in (List.mem_append_right _ (jm_7 (List.mem_of_getElem? (i := 139) (by decide +kernel)))) rfl
set_option maxRecDepth 100000 in
theorem jwO_X11_orNone : Cond.code (mX11_orNone).1 (mX11_orNone).2.1 (mX11_orNone).2.2.1 (mX11_orNone).2.2.2 ∈ jT := jT_in (List.mem_append_right _ (jm_7 (List.mem_of_getElem? (i := 140) rfl))) rfl
theorem jwM_L_161 : Cond.methodLink RL 161 yX11_sheet ∈ jT := jT_in (List.mem_append_right _ (jm_7 (List.mem_of_getElem? (i := 141) (by decide +kernel)))) rfl
theorem jwN_X11_sheet : Cond.instanceMethod yX11_sheet ∈ jT := jT_in (List.mem_append_right _ (jm_7 (List.mem_of_getElem? (i := 142) (by decide +kernel)))) rfl
theorem jwX_X11_sheet : Cond.selects RX11 yX11_sheet yX11_sheet ∈ jT := jT_in (List.mem_append_right _ (jm_7 (List.mem_of_getElem? (i := 143) (by decide +kernel)))) rfl
set_option maxRecDepth 100000 in
theorem jwO_X11_sheet : Cond.code (mX11_sheet).1 (mX11_sheet).2.1 (mX11_sheet).2.2.1 (mX11_sheet).2.2.2 ∈ jT := jT_in (List.mem_append_right _ (jm_7 (List.mem_of_getElem? (i := 144) rfl))) rfl
theorem jwM_X11_314 : Cond.methodLink RX11 314 yX11_isSheet ∈ jT := jT_in (List.mem_append_right _ (jm_7 (List.mem_of_getElem? (i := 145) (by decide +kernel)))) rfl
theorem jwS_X11_isSheet : Cond.static yX11_isSheet ∈ jT := jT_in (List.mem_append_right _ (jm_7 (List.mem_of_getElem? (i := 146) (by decide +kernel)))) rfl
set_option maxRecDepth 100000 in
theorem jwO_X11_isSheet : Cond.code (mX11_isSheet).1 (mX11_isSheet).2.1 (mX11_isSheet).2.2.1 (mX11_isSheet).2.2.2 ∈ jT := jT_in (List.mem_append_right _ (jm_7 (List.mem_of_getElem? (i := 147) rfl))) rfl
theorem jwL_X11_317 : Cond.constantLong RX11 317 (-1) ∈ jT := jT_in (List.mem_append_right _ (jm_7 (List.mem_of_getElem? (i := 148) (by decide +kernel)))) rfl
theorem jwC_X11_319 : Cond.constant RX11 319 (-1000000014) ∈ jT := jT_in (List.mem_append_right _ (jm_7 (List.mem_of_getElem? (i := 149) (by decide +kernel)))) rfl
theorem jwM_L_165 : Cond.methodLink RL 165 yX11_mark ∈ jT := jT_in (List.mem_append_right _ (jm_7 (List.mem_of_getElem? (i := 150) (by decide +kernel)))) rfl
theorem jwN_X11_mark : Cond.instanceMethod yX11_mark ∈ jT := jT_in (List.mem_append_right _ (jm_7 (List.mem_of_getElem? (i := 151) (by decide +kernel)))) rfl
theorem jwX_X11_mark : Cond.selects RX11 yX11_mark yX11_mark ∈ jT := jT_in (List.mem_append_right _ (jm_7 (List.mem_of_getElem? (i := 152) (by decide +kernel)))) rfl
set_option maxRecDepth 100000 in
theorem jwO_X11_mark : Cond.code (mX11_mark).1 (mX11_mark).2.1 (mX11_mark).2.2.1 (mX11_mark).2.2.2 ∈ jT := jT_in (List.mem_append_right _ (jm_7 (List.mem_of_getElem? (i := 153) rfl))) rfl
theorem jwC_X11_320 : Cond.constant RX11 320 (-1000000011) ∈ jT := jT_in (List.mem_append_right _ (jm_7 (List.mem_of_getElem? (i := 154) (by decide +kernel)))) rfl
theorem jwC_X11_321 : Cond.constant RX11 321 (-1000000013) ∈ jT := jT_in (List.mem_append_right _ (jm_7 (List.mem_of_getElem? (i := 155) (by decide +kernel)))) rfl
theorem jwL_X11_322 : Cond.constantLong RX11 322 (-99999) ∈ jT := jT_in (List.mem_append_right _ (jm_7 (List.mem_of_getElem? (i := 156) (by decide +kernel)))) rfl
theorem jwL_X11_324 : Cond.constantLong RX11 324 99999 ∈ jT := jT_in (List.mem_append_right _ (jm_7 (List.mem_of_getElem? (i := 157) (by decide +kernel)))) rfl
theorem jwM_L_169 : Cond.methodLink RL 169 yX11_pour ∈ jT := jT_in (List.mem_append_right _ (jm_7 (List.mem_of_getElem? (i := 158) (by decide +kernel)))) rfl
theorem jwN_X11_pour : Cond.instanceMethod yX11_pour ∈ jT := jT_in (List.mem_append_right _ (jm_7 (List.mem_of_getElem? (i := 159) (by decide +kernel)))) rfl
theorem jwX_X11_pour : Cond.selects RX11 yX11_pour yX11_pour ∈ jT := jT_in (List.mem_append_right _ (jm_7 (List.mem_of_getElem? (i := 160) (by decide +kernel)))) rfl
set_option maxRecDepth 100000 in
theorem jwO_X11_pour : Cond.code (mX11_pour).1 (mX11_pour).2.1 (mX11_pour).2.2.1 (mX11_pour).2.2.2 ∈ jT := jT_in (List.mem_append_right _ (jm_7 (List.mem_of_getElem? (i := 161) rfl))) rfl
theorem jwM_L_173 : Cond.methodLink RL 173 yX11_reads ∈ jT := jT_in (List.mem_append_right _ (jm_7 (List.mem_of_getElem? (i := 162) (by decide +kernel)))) rfl
theorem jwN_X11_reads : Cond.instanceMethod yX11_reads ∈ jT := jT_in (List.mem_append_right _ (jm_7 (List.mem_of_getElem? (i := 163) (by decide +kernel)))) rfl
theorem jwX_X11_reads : Cond.selects RX11 yX11_reads yX11_reads ∈ jT := jT_in (List.mem_append_right _ (jm_7 (List.mem_of_getElem? (i := 164) (by decide +kernel)))) rfl
set_option maxRecDepth 100000 in
theorem jwO_X11_reads : Cond.code (mX11_reads).1 (mX11_reads).2.1 (mX11_reads).2.2.1 (mX11_reads).2.2.2 ∈ jT := jT_in (List.mem_append_right _ (jm_7 (List.mem_of_getElem? (i := 165) rfl))) rfl
theorem jwM_L_129 : Cond.methodLink RL 129 yX11_cut ∈ jT := jT_in (List.mem_append_right _ (jm_7 (List.mem_of_getElem? (i := 166) (by decide +kernel)))) rfl
theorem jwN_X11_cut : Cond.instanceMethod yX11_cut ∈ jT := jT_in (List.mem_append_right _ (jm_7 (List.mem_of_getElem? (i := 167) (by decide +kernel)))) rfl
theorem jwX_X11_cut : Cond.selects RX11 yX11_cut yX11_cut ∈ jT := jT_in (List.mem_append_right _ (jm_7 (List.mem_of_getElem? (i := 168) (by decide +kernel)))) rfl
set_option maxRecDepth 100000 in
theorem jwO_X11_cut : Cond.code (mX11_cut).1 (mX11_cut).2.1 (mX11_cut).2.2.1 (mX11_cut).2.2.2 ∈ jT := jT_in (List.mem_append_right _ (jm_7 (List.mem_of_getElem? (i := 169) rfl))) rfl
theorem jwM_X11_326 : Cond.methodLink RX11 326 yX11_off ∈ jT := jT_in (List.mem_append_right _ (jm_7 (List.mem_of_getElem? (i := 170) (by decide +kernel)))) rfl
theorem jwS_X11_off : Cond.static yX11_off ∈ jT := jT_in (List.mem_append_right _ (jm_7 (List.mem_of_getElem? (i := 171) (by decide +kernel)))) rfl
set_option maxRecDepth 100000 in
theorem jwO_X11_off : Cond.code (mX11_off).1 (mX11_off).2.1 (mX11_off).2.2.1 (mX11_off).2.2.2 ∈ jT := jT_in (List.mem_append_right _ (jm_7 (List.mem_of_getElem? (i := 172) rfl))) rfl
theorem jwM_L_178 : Cond.methodLink RL 178 yX11_copy ∈ jT := jT_in (List.mem_append_right _ (jm_7 (List.mem_of_getElem? (i := 173) (by decide +kernel)))) rfl
theorem jwN_X11_copy : Cond.instanceMethod yX11_copy ∈ jT := jT_in (List.mem_append_right _ (jm_7 (List.mem_of_getElem? (i := 174) (by decide +kernel)))) rfl
theorem jwX_X11_copy : Cond.selects RX11 yX11_copy yX11_copy ∈ jT := jT_in (List.mem_append_right _ (jm_7 (List.mem_of_getElem? (i := 175) (by decide +kernel)))) rfl
set_option maxRecDepth 100000 in
theorem jwO_X11_copy : Cond.code (mX11_copy).1 (mX11_copy).2.1 (mX11_copy).2.2.1 (mX11_copy).2.2.2 ∈ jT := jT_in (List.mem_append_right _ (jm_7 (List.mem_of_getElem? (i := 176) rfl))) rfl
theorem jwM_L_182 : Cond.methodLink RL 182 yX11_lay ∈ jT := jT_in (List.mem_append_right _ (jm_7 (List.mem_of_getElem? (i := 177) (by decide +kernel)))) rfl
theorem jwN_X11_lay : Cond.instanceMethod yX11_lay ∈ jT := jT_in (List.mem_append_right _ (jm_7 (List.mem_of_getElem? (i := 178) (by decide +kernel)))) rfl
theorem jwX_X11_lay : Cond.selects RX11 yX11_lay yX11_lay ∈ jT := jT_in (List.mem_append_right _ (jm_7 (List.mem_of_getElem? (i := 179) (by decide +kernel)))) rfl
set_option maxRecDepth 100000 in
theorem jwO_X11_lay : Cond.code (mX11_lay).1 (mX11_lay).2.1 (mX11_lay).2.2.1 (mX11_lay).2.2.2 ∈ jT := jT_in (List.mem_append_right _ (jm_7 (List.mem_of_getElem? (i := 180) rfl))) rfl
theorem jwM_X11_329 : Cond.methodLink RX11 329 yX11_isSlot ∈ jT := jT_in (List.mem_append_right _ (jm_7 (List.mem_of_getElem? (i := 181) (by decide +kernel)))) rfl
theorem jwS_X11_isSlot : Cond.static yX11_isSlot ∈ jT := jT_in (List.mem_append_right _ (jm_7 (List.mem_of_getElem? (i := 182) (by decide +kernel)))) rfl
set_option maxRecDepth 100000 in
theorem jwO_X11_isSlot : Cond.code (mX11_isSlot).1 (mX11_isSlot).2.1 (mX11_isSlot).2.2.1 (mX11_isSlot).2.2.2 ∈ jT := jT_in (List.mem_append_right _ (jm_7 (List.mem_of_getElem? (i := 183) rfl))) rfl
theorem jwM_L_186 : Cond.methodLink RL 186 yX11_ask ∈ jT := jT_in (List.mem_append_right _ (jm_7 (List.mem_of_getElem? (i := 184) (by decide +kernel)))) rfl
theorem jwN_X11_ask : Cond.instanceMethod yX11_ask ∈ jT := jT_in (List.mem_append_right _ (jm_7 (List.mem_of_getElem? (i := 185) (by decide +kernel)))) rfl
theorem jwX_X11_ask : Cond.selects RX11 yX11_ask yX11_ask ∈ jT := jT_in (List.mem_append_right _ (jm_7 (List.mem_of_getElem? (i := 186) (by decide +kernel)))) rfl
set_option maxRecDepth 100000 in
theorem jwO_X11_ask : Cond.code (mX11_ask).1 (mX11_ask).2.1 (mX11_ask).2.2.1 (mX11_ask).2.2.2 ∈ jT := jT_in (List.mem_append_right _ (jm_7 (List.mem_of_getElem? (i := 187) rfl))) rfl
theorem jwM_L_190 : Cond.methodLink RL 190 yX11_item ∈ jT := jT_in (List.mem_append_right _ (jm_7 (List.mem_of_getElem? (i := 188) (by decide +kernel)))) rfl
theorem jwN_X11_item : Cond.instanceMethod yX11_item ∈ jT := jT_in (List.mem_append_right _ (jm_7 (List.mem_of_getElem? (i := 189) (by decide +kernel)))) rfl
theorem jwX_X11_item : Cond.selects RX11 yX11_item yX11_item ∈ jT := jT_in (List.mem_append_right _ (jm_7 (List.mem_of_getElem? (i := 190) (by decide +kernel)))) rfl
set_option maxRecDepth 100000 in
theorem jwO_X11_item : Cond.code (mX11_item).1 (mX11_item).2.1 (mX11_item).2.2.1 (mX11_item).2.2.2 ∈ jT := jT_in (List.mem_append_right _ (jm_7 (List.mem_of_getElem? (i := 191) rfl))) rfl
theorem jwM_L_194 : Cond.methodLink RL 194 yX11_rest ∈ jT := jT_in (List.mem_append_right _ (jm_7 (List.mem_of_getElem? (i := 192) (by decide +kernel)))) rfl
theorem jwN_X11_rest : Cond.instanceMethod yX11_rest ∈ jT := jT_in (List.mem_append_right _ (jm_7 (List.mem_of_getElem? (i := 193) (by decide +kernel)))) rfl
theorem jwX_X11_rest : Cond.selects RX11 yX11_rest yX11_rest ∈ jT := jT_in (List.mem_append_right _ (jm_7 (List.mem_of_getElem? (i := 194) (by decide +kernel)))) rfl
set_option maxRecDepth 100000 in
theorem jwO_X11_rest : Cond.code (mX11_rest).1 (mX11_rest).2.1 (mX11_rest).2.2.1 (mX11_rest).2.2.2 ∈ jT := jT_in (List.mem_append_right _ (jm_7 (List.mem_of_getElem? (i := 195) rfl))) rfl
theorem jwM_L_198 : Cond.methodLink RL 198 yX11_tell ∈ jT := jT_in (List.mem_append_right _ (jm_7 (List.mem_of_getElem? (i := 196) (by decide +kernel)))) rfl
theorem jwN_X11_tell : Cond.instanceMethod yX11_tell ∈ jT := jT_in (List.mem_append_right _ (jm_7 (List.mem_of_getElem? (i := 197) (by decide +kernel)))) rfl
theorem jwX_X11_tell : Cond.selects RX11 yX11_tell yX11_tell ∈ jT := jT_in (List.mem_append_right _ (jm_7 (List.mem_of_getElem? (i := 198) (by decide +kernel)))) rfl
set_option maxRecDepth 100000 in
theorem jwO_X11_tell : Cond.code (mX11_tell).1 (mX11_tell).2.1 (mX11_tell).2.2.1 (mX11_tell).2.2.2 ∈ jT := jT_in (List.mem_append_right _ (jm_7 (List.mem_of_getElem? (i := 199) rfl))) rfl
theorem jwM_L_202 : Cond.methodLink RL 202 yX11_check ∈ jT := jT_in (List.mem_append_right _ (jm_7 (List.mem_of_getElem? (i := 200) (by decide +kernel)))) rfl
theorem jwN_X11_check : Cond.instanceMethod yX11_check ∈ jT := jT_in (List.mem_append_right _ (jm_7 (List.mem_of_getElem? (i := 201) (by decide +kernel)))) rfl
theorem jwX_X11_check : Cond.selects RX11 yX11_check yX11_check ∈ jT := jT_in (List.mem_append_right _ (jm_7 (List.mem_of_getElem? (i := 202) (by decide +kernel)))) rfl
set_option maxRecDepth 100000 in
theorem jwO_X11_check : Cond.code (mX11_check).1 (mX11_check).2.1 (mX11_check).2.2.1 (mX11_check).2.2.2 ∈ jT := jT_in (List.mem_append_right _ (jm_7 (List.mem_of_getElem? (i := 203) rfl))) rfl
theorem jwL_X11_335 : Cond.constantLong RX11 335 30 ∈ jT := jT_in (List.mem_append_right _ (jm_7 (List.mem_of_getElem? (i := 204) (by decide +kernel)))) rfl
theorem jwM_X11_341 : Cond.methodLink RX11 341 yX11_setAside ∈ jT := jT_in (List.mem_append_right _ (jm_7 (List.mem_of_getElem? (i := 205) (by decide +kernel)))) rfl
theorem jwN_X11_setAside : Cond.instanceMethod yX11_setAside ∈ jT := jT_in (List.mem_append_right _ (jm_7 (List.mem_of_getElem? (i := 207) (by decide +kernel)))) rfl
set_option maxRecDepth 100000 in
theorem jwO_X11_setAside : Cond.code (mX11_setAside).1 (mX11_setAside).2.1 (mX11_setAside).2.2.1 (mX11_setAside).2.2.2 ∈ jT := jT_in (List.mem_append_right _ (jm_7 (List.mem_of_getElem? (i := 208) rfl))) rfl
theorem jwM_X11_345 : Cond.methodLink RX11 345 yX11_allOf ∈ jT := jT_in (List.mem_append_right _ (jm_7 (List.mem_of_getElem? (i := 209) (by decide +kernel)))) rfl
theorem jwN_X11_allOf : Cond.instanceMethod yX11_allOf ∈ jT := jT_in (List.mem_append_right _ (jm_7 (List.mem_of_getElem? (i := 211) (by decide +kernel)))) rfl
set_option maxRecDepth 100000 in
theorem jwO_X11_allOf : Cond.code (mX11_allOf).1 (mX11_allOf).2.1 (mX11_allOf).2.2.1 (mX11_allOf).2.2.2 ∈ jT := jT_in (List.mem_append_right _ (jm_7 (List.mem_of_getElem? (i := 212) rfl))) rfl
theorem jwM_L_206 : Cond.methodLink RL 206 yX11_keep ∈ jT := jT_in (List.mem_append_right _ (jm_7 (List.mem_of_getElem? (i := 213) (by decide +kernel)))) rfl
theorem jwN_X11_keep : Cond.instanceMethod yX11_keep ∈ jT := jT_in (List.mem_append_right _ (jm_7 (List.mem_of_getElem? (i := 214) (by decide +kernel)))) rfl
theorem jwX_X11_keep : Cond.selects RX11 yX11_keep yX11_keep ∈ jT := jT_in (List.mem_append_right _ (jm_7 (List.mem_of_getElem? (i := 215) (by decide +kernel)))) rfl
set_option maxRecDepth 100000 in
theorem jwO_X11_keep : Cond.code (mX11_keep).1 (mX11_keep).2.1 (mX11_keep).2.2.1 (mX11_keep).2.2.2 ∈ jT := jT_in (List.mem_append_right _ (jm_7 (List.mem_of_getElem? (i := 216) rfl))) rfl
theorem jwM_L_210 : Cond.methodLink RL 210 yX11_back ∈ jT := jT_in (List.mem_append_right _ (jm_7 (List.mem_of_getElem? (i := 217) (by decide +kernel)))) rfl
theorem jwN_X11_back : Cond.instanceMethod yX11_back ∈ jT := jT_in (List.mem_append_right _ (jm_7 (List.mem_of_getElem? (i := 218) (by decide +kernel)))) rfl
theorem jwX_X11_back : Cond.selects RX11 yX11_back yX11_back ∈ jT := jT_in (List.mem_append_right _ (jm_7 (List.mem_of_getElem? (i := 219) (by decide +kernel)))) rfl
set_option maxRecDepth 100000 in
theorem jwO_X11_back : Cond.code (mX11_back).1 (mX11_back).2.1 (mX11_back).2.2.1 (mX11_back).2.2.2 ∈ jT := jT_in (List.mem_append_right _ (jm_7 (List.mem_of_getElem? (i := 220) rfl))) rfl
theorem jwM_L_214 : Cond.methodLink RL 214 yX11_count ∈ jT := jT_in (List.mem_append_right _ (jm_7 (List.mem_of_getElem? (i := 221) (by decide +kernel)))) rfl
theorem jwN_X11_count : Cond.instanceMethod yX11_count ∈ jT := jT_in (List.mem_append_right _ (jm_7 (List.mem_of_getElem? (i := 222) (by decide +kernel)))) rfl
theorem jwX_X11_count : Cond.selects RX11 yX11_count yX11_count ∈ jT := jT_in (List.mem_append_right _ (jm_7 (List.mem_of_getElem? (i := 223) (by decide +kernel)))) rfl
set_option maxRecDepth 100000 in
theorem jwO_X11_count : Cond.code (mX11_count).1 (mX11_count).2.1 (mX11_count).2.2.1 (mX11_count).2.2.2 ∈ jT := jT_in (List.mem_append_right _ (jm_7 (List.mem_of_getElem? (i := 224) rfl))) rfl
theorem jwF_J0_9 : Cond.fieldLink RJ0 9 RJ0 "value" "[B" ∈ jT := jT_in (List.mem_append_right _ (jm_7 (List.mem_of_getElem? (i := 225) (by decide +kernel)))) rfl
theorem jwF_J0_15 : Cond.fieldLink RJ0 15 RJ0 "coder" "B" ∈ jT := jT_in (List.mem_append_right _ (jm_7 (List.mem_of_getElem? (i := 226) (by decide +kernel)))) rfl
theorem jwX_X4_measure : Cond.selects RX4 yX4_measure yX4_measure ∈ jT := jT_in (List.mem_append_left _ (List.mem_of_getElem? (i := 0) (by decide +kernel))) rfl
theorem jwX_X0_draw : Cond.selects RX0 yX0_draw yX0_draw ∈ jT := jT_in (List.mem_append_left _ (List.mem_of_getElem? (i := 1) (by decide +kernel))) rfl
theorem jwX_X5_goOn : Cond.selects RX5 yX5_goOn yX5_goOn ∈ jT := jT_in (List.mem_append_left _ (List.mem_of_getElem? (i := 2) (by decide +kernel))) rfl
theorem jwX_X5_offer : Cond.selects RX5 yX5_offer yX5_offer ∈ jT := jT_in (List.mem_append_left _ (List.mem_of_getElem? (i := 3) (by decide +kernel))) rfl
theorem jwX_X5_isBetter : Cond.selects RX5 yX5_isBetter yX5_isBetter ∈ jT := jT_in (List.mem_append_left _ (List.mem_of_getElem? (i := 4) (by decide +kernel))) rfl
theorem jwX_X5_tryMaster : Cond.selects RX5 yX5_tryMaster yX5_tryMaster ∈ jT := jT_in (List.mem_append_left _ (List.mem_of_getElem? (i := 5) (by decide +kernel))) rfl
theorem jwX_X5_keptOf : Cond.selects RX5 yX5_keptOf yX5_keptOf ∈ jT := jT_in (List.mem_append_left _ (List.mem_of_getElem? (i := 6) (by decide +kernel))) rfl
theorem jwX_X5_daysTaken : Cond.selects RX5 yX5_daysTaken yX5_daysTaken ∈ jT := jT_in (List.mem_append_left _ (List.mem_of_getElem? (i := 7) (by decide +kernel))) rfl
theorem jwX_X10_findSheet : Cond.selects RX10 yX10_findSheet yX10_findSheet ∈ jT := jT_in (List.mem_append_left _ (List.mem_of_getElem? (i := 8) (by decide +kernel))) rfl
theorem jwX_X8_step : Cond.selects RX8 yX8_step yX8_step ∈ jT := jT_in (List.mem_append_left _ (List.mem_of_getElem? (i := 9) (by decide +kernel))) rfl
theorem jwX_X8_byteAt : Cond.selects RX8 yX8_byteAt yX8_byteAt ∈ jT := jT_in (List.mem_append_left _ (List.mem_of_getElem? (i := 10) (by decide +kernel))) rfl
theorem jwX_X8_sortAt : Cond.selects RX8 yX8_sortAt yX8_sortAt ∈ jT := jT_in (List.mem_append_left _ (List.mem_of_getElem? (i := 11) (by decide +kernel))) rfl
theorem jwX_X8_keyInHand : Cond.selects RX8 yX8_keyInHand yX8_keyInHand ∈ jT := jT_in (List.mem_append_left _ (List.mem_of_getElem? (i := 12) (by decide +kernel))) rfl
theorem jwX_X8_isWordInHand : Cond.selects RX8 yX8_isWordInHand yX8_isWordInHand ∈ jT := jT_in (List.mem_append_left _ (List.mem_of_getElem? (i := 13) (by decide +kernel))) rfl
theorem jwX_X8_readsChain : Cond.selects RX8 yX8_readsChain yX8_readsChain ∈ jT := jT_in (List.mem_append_left _ (List.mem_of_getElem? (i := 14) (by decide +kernel))) rfl
theorem jwX_X8_readsPiece : Cond.selects RX8 yX8_readsPiece yX8_readsPiece ∈ jT := jT_in (List.mem_append_left _ (List.mem_of_getElem? (i := 15) (by decide +kernel))) rfl
theorem jwX_X8_readsOperand : Cond.selects RX8 yX8_readsOperand yX8_readsOperand ∈ jT := jT_in (List.mem_append_left _ (List.mem_of_getElem? (i := 16) (by decide +kernel))) rfl
theorem jwX_X8_numberInHand : Cond.selects RX8 yX8_numberInHand yX8_numberInHand ∈ jT := jT_in (List.mem_append_left _ (List.mem_of_getElem? (i := 17) (by decide +kernel))) rfl
theorem jwX_X8_nameInHand : Cond.selects RX8 yX8_nameInHand yX8_nameInHand ∈ jT := jT_in (List.mem_append_left _ (List.mem_of_getElem? (i := 18) (by decide +kernel))) rfl
theorem jwX_X8_write : Cond.selects RX8 yX8_write yX8_write ∈ jT := jT_in (List.mem_append_left _ (List.mem_of_getElem? (i := 19) (by decide +kernel))) rfl
theorem jwX_X8_isInHand : Cond.selects RX8 yX8_isInHand yX8_isInHand ∈ jT := jT_in (List.mem_append_left _ (List.mem_of_getElem? (i := 20) (by decide +kernel))) rfl
theorem jwX_X8_levelInHand : Cond.selects RX8 yX8_levelInHand yX8_levelInHand ∈ jT := jT_in (List.mem_append_left _ (List.mem_of_getElem? (i := 21) (by decide +kernel))) rfl
theorem jwX_X10_findSlot : Cond.selects RX10 yX10_findSlot yX10_findSlot ∈ jT := jT_in (List.mem_append_left _ (List.mem_of_getElem? (i := 22) (by decide +kernel))) rfl
theorem jwX_X10_layMaster : Cond.selects RX10 yX10_layMaster yX10_layMaster ∈ jT := jT_in (List.mem_append_left _ (List.mem_of_getElem? (i := 23) (by decide +kernel))) rfl
theorem jwX_X10_laySheet : Cond.selects RX10 yX10_laySheet yX10_laySheet ∈ jT := jT_in (List.mem_append_left _ (List.mem_of_getElem? (i := 24) (by decide +kernel))) rfl
theorem jwX_X10_isWaiting : Cond.selects RX10 yX10_isWaiting yX10_isWaiting ∈ jT := jT_in (List.mem_append_left _ (List.mem_of_getElem? (i := 25) (by decide +kernel))) rfl
theorem jwX_X11_comes : Cond.selects RX11 yX11_comes yX11_comes ∈ jT := jT_in (List.mem_append_left _ (List.mem_of_getElem? (i := 26) (by decide +kernel))) rfl
theorem jwX_X11_isMaster : Cond.selects RX11 yX11_isMaster yX11_isMaster ∈ jT := jT_in (List.mem_append_left _ (List.mem_of_getElem? (i := 27) (by decide +kernel))) rfl
theorem jwX_X11_of : Cond.selects RX11 yX11_of yX11_of ∈ jT := jT_in (List.mem_append_left _ (List.mem_of_getElem? (i := 28) (by decide +kernel))) rfl
theorem jwX_X11_takes : Cond.selects RX11 yX11_takes yX11_takes ∈ jT := jT_in (List.mem_append_left _ (List.mem_of_getElem? (i := 29) (by decide +kernel))) rfl
theorem jwX_X11_counts : Cond.selects RX11 yX11_counts yX11_counts ∈ jT := jT_in (List.mem_append_left _ (List.mem_of_getElem? (i := 30) (by decide +kernel))) rfl
theorem jwX_X11_textAt : Cond.selects RX11 yX11_textAt yX11_textAt ∈ jT := jT_in (List.mem_append_left _ (List.mem_of_getElem? (i := 31) (by decide +kernel))) rfl
theorem jwX_X11_worked : Cond.selects RX11 yX11_worked yX11_worked ∈ jT := jT_in (List.mem_append_left _ (List.mem_of_getElem? (i := 32) (by decide +kernel))) rfl
theorem jwX_X11_worth : Cond.selects RX11 yX11_worth yX11_worth ∈ jT := jT_in (List.mem_append_left _ (List.mem_of_getElem? (i := 33) (by decide +kernel))) rfl
theorem jwX_X11_teaches : Cond.selects RX11 yX11_teaches yX11_teaches ∈ jT := jT_in (List.mem_append_left _ (List.mem_of_getElem? (i := 34) (by decide +kernel))) rfl
theorem jwX_X11_becomes : Cond.selects RX11 yX11_becomes yX11_becomes ∈ jT := jT_in (List.mem_append_left _ (List.mem_of_getElem? (i := 35) (by decide +kernel))) rfl
theorem jwX_X11_findFar : Cond.selects RX11 yX11_findFar yX11_findFar ∈ jT := jT_in (List.mem_append_left _ (List.mem_of_getElem? (i := 36) (by decide +kernel))) rfl
theorem jwX_X11_drawn : Cond.selects RX11 yX11_drawn yX11_drawn ∈ jT := jT_in (List.mem_append_left _ (List.mem_of_getElem? (i := 37) (by decide +kernel))) rfl
theorem jwX_X11_doesKnow : Cond.selects RX11 yX11_doesKnow yX11_doesKnow ∈ jT := jT_in (List.mem_append_left _ (List.mem_of_getElem? (i := 38) (by decide +kernel))) rfl
theorem jwX_X11_goesBy : Cond.selects RX11 yX11_goesBy yX11_goesBy ∈ jT := jT_in (List.mem_append_left _ (List.mem_of_getElem? (i := 39) (by decide +kernel))) rfl
theorem jwX_X11_canLearn : Cond.selects RX11 yX11_canLearn yX11_canLearn ∈ jT := jT_in (List.mem_append_left _ (List.mem_of_getElem? (i := 40) (by decide +kernel))) rfl
theorem jwX_X11_learns : Cond.selects RX11 yX11_learns yX11_learns ∈ jT := jT_in (List.mem_append_left _ (List.mem_of_getElem? (i := 41) (by decide +kernel))) rfl
theorem jwX_X11_behindLesson : Cond.selects RX11 yX11_behindLesson yX11_behindLesson ∈ jT := jT_in (List.mem_append_left _ (List.mem_of_getElem? (i := 42) (by decide +kernel))) rfl
theorem jwX_X11_uses : Cond.selects RX11 yX11_uses yX11_uses ∈ jT := jT_in (List.mem_append_left _ (List.mem_of_getElem? (i := 43) (by decide +kernel))) rfl
theorem jwX_X11_can : Cond.selects RX11 yX11_can yX11_can ∈ jT := jT_in (List.mem_append_left _ (List.mem_of_getElem? (i := 44) (by decide +kernel))) rfl
theorem jwX_X11_findSoonest : Cond.selects RX11 yX11_findSoonest yX11_findSoonest ∈ jT := jT_in (List.mem_append_left _ (List.mem_of_getElem? (i := 45) (by decide +kernel))) rfl
theorem jwX_X11_laysBy : Cond.selects RX11 yX11_laysBy yX11_laysBy ∈ jT := jT_in (List.mem_append_left _ (List.mem_of_getElem? (i := 46) (by decide +kernel))) rfl
theorem jwX_X11_goesWay : Cond.selects RX11 yX11_goesWay yX11_goesWay ∈ jT := jT_in (List.mem_append_left _ (List.mem_of_getElem? (i := 47) (by decide +kernel))) rfl
theorem jwX_X11_laysBack : Cond.selects RX11 yX11_laysBack yX11_laysBack ∈ jT := jT_in (List.mem_append_left _ (List.mem_of_getElem? (i := 48) (by decide +kernel))) rfl
theorem jwX_X11_areTogether : Cond.selects RX11 yX11_areTogether yX11_areTogether ∈ jT := jT_in (List.mem_append_left _ (List.mem_of_getElem? (i := 49) (by decide +kernel))) rfl
theorem jwX_X11_taughtNow : Cond.selects RX11 yX11_taughtNow yX11_taughtNow ∈ jT := jT_in (List.mem_append_left _ (List.mem_of_getElem? (i := 50) (by decide +kernel))) rfl
theorem jwX_X11_year : Cond.selects RX11 yX11_year yX11_year ∈ jT := jT_in (List.mem_append_left _ (List.mem_of_getElem? (i := 51) (by decide +kernel))) rfl
theorem jwX_X11_farFrom : Cond.selects RX11 yX11_farFrom yX11_farFrom ∈ jT := jT_in (List.mem_append_left _ (List.mem_of_getElem? (i := 52) (by decide +kernel))) rfl
theorem jwX_X11_parse : Cond.selects RX11 yX11_parse yX11_parse ∈ jT := jT_in (List.mem_append_left _ (List.mem_of_getElem? (i := 53) (by decide +kernel))) rfl
theorem jwX_X11_nextToken : Cond.selects RX11 yX11_nextToken yX11_nextToken ∈ jT := jT_in (List.mem_append_left _ (List.mem_of_getElem? (i := 54) (by decide +kernel))) rfl
theorem jwX_X11_isLetter : Cond.selects RX11 yX11_isLetter yX11_isLetter ∈ jT := jT_in (List.mem_append_left _ (List.mem_of_getElem? (i := 55) (by decide +kernel))) rfl
theorem jwX_X11_isDigit : Cond.selects RX11 yX11_isDigit yX11_isDigit ∈ jT := jT_in (List.mem_append_left _ (List.mem_of_getElem? (i := 56) (by decide +kernel))) rfl
theorem jwX_X11_key : Cond.selects RX11 yX11_key yX11_key ∈ jT := jT_in (List.mem_append_left _ (List.mem_of_getElem? (i := 57) (by decide +kernel))) rfl
theorem jwX_X11_isWordAt : Cond.selects RX11 yX11_isWordAt yX11_isWordAt ∈ jT := jT_in (List.mem_append_left _ (List.mem_of_getElem? (i := 58) (by decide +kernel))) rfl
theorem jwX_X11_either : Cond.selects RX11 yX11_either yX11_either ∈ jT := jT_in (List.mem_append_left _ (List.mem_of_getElem? (i := 59) (by decide +kernel))) rfl
theorem jwX_X11_both : Cond.selects RX11 yX11_both yX11_both ∈ jT := jT_in (List.mem_append_left _ (List.mem_of_getElem? (i := 60) (by decide +kernel))) rfl
theorem jwX_X11_test : Cond.selects RX11 yX11_test yX11_test ∈ jT := jT_in (List.mem_append_left _ (List.mem_of_getElem? (i := 61) (by decide +kernel))) rfl
theorem jwX_X11_sum : Cond.selects RX11 yX11_sum yX11_sum ∈ jT := jT_in (List.mem_append_left _ (List.mem_of_getElem? (i := 62) (by decide +kernel))) rfl
theorem jwX_X11_term : Cond.selects RX11 yX11_term yX11_term ∈ jT := jT_in (List.mem_append_left _ (List.mem_of_getElem? (i := 63) (by decide +kernel))) rfl
theorem jwX_X11_part0 : Cond.selects RX11 yX11_part0 yX11_part0 ∈ jT := jT_in (List.mem_append_left _ (List.mem_of_getElem? (i := 64) (by decide +kernel))) rfl
theorem jwX_X11_step : Cond.selects RX11 yX11_step yX11_step ∈ jT := jT_in (List.mem_append_left _ (List.mem_of_getElem? (i := 65) (by decide +kernel))) rfl
theorem jwX_X11_isSign : Cond.selects RX11 yX11_isSign yX11_isSign ∈ jT := jT_in (List.mem_append_left _ (List.mem_of_getElem? (i := 66) (by decide +kernel))) rfl
theorem jwX_X11_isText : Cond.selects RX11 yX11_isText yX11_isText ∈ jT := jT_in (List.mem_append_left _ (List.mem_of_getElem? (i := 67) (by decide +kernel))) rfl
theorem jwX_X11_setAside : Cond.selects RX11 yX11_setAside yX11_setAside ∈ jT := jT_in (List.mem_append_left _ (List.mem_of_getElem? (i := 68) (by decide +kernel))) rfl
theorem jwX_X11_allOf : Cond.selects RX11 yX11_allOf yX11_allOf ∈ jT := jT_in (List.mem_append_left _ (List.mem_of_getElem? (i := 69) (by decide +kernel))) rfl
end
