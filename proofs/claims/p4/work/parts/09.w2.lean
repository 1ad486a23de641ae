section
set_option maxRecDepth 100000 in
theorem jwM_L_73 : Cond.methodLink RL 73 yX10_learn ∈ jT := jT_in (List.mem_append_right _ (jm_3 (List.mem_of_getElem? (i := 66) rfl))) rfl
set_option maxRecDepth 100000 in
theorem jwN_X10_learn : Cond.instanceMethod yX10_learn ∈ jT := jT_in (List.mem_append_right _ (jm_3 (List.mem_of_getElem? (i := 67) rfl))) rfl
set_option maxRecDepth 100000 in
theorem jwX_X10_learn : Cond.selects RX10 yX10_learn yX10_learn ∈ jT := jT_in (List.mem_append_right _ (jm_3 (List.mem_of_getElem? (i := 68) rfl))) rfl
set_option maxRecDepth 100000 in
theorem jwO_X10_learn : Cond.code (mX10_learn).1 (mX10_learn).2.1 (mX10_learn).2.2.1 (mX10_learn).2.2.2 ∈ jT := jT_in (List.mem_append_right _ (jm_3 (List.mem_of_getElem? (i := 69) rfl))) rfl
set_option maxRecDepth 100000 in
theorem jwM_X10_198 : Cond.methodLink RX10 198 yX1_canLearnOf ∈ jT := jT_in (List.mem_append_right _ (jm_3 (List.mem_of_getElem? (i := 70) rfl))) rfl
set_option maxRecDepth 100000 in
theorem jwN_X1_canLearnOf : Cond.instanceMethod yX1_canLearnOf ∈ jT := jT_in (List.mem_append_right _ (jm_3 (List.mem_of_getElem? (i := 71) rfl))) rfl
set_option maxRecDepth 100000 in
theorem jwX_X1_canLearnOf : Cond.selects RX1 yX1_canLearnOf yX1_canLearnOf ∈ jT := jT_in (List.mem_append_right _ (jm_3 (List.mem_of_getElem? (i := 72) rfl))) rfl
set_option maxRecDepth 100000 in
theorem jwO_X1_canLearnOf : Cond.code (mX1_canLearnOf).1 (mX1_canLearnOf).2.1 (mX1_canLearnOf).2.2.1 (mX1_canLearnOf).2.2.2 ∈ jT := jT_in (List.mem_append_right _ (jm_3 (List.mem_of_getElem? (i := 73) rfl))) rfl
set_option maxRecDepth 100000 in
theorem jwM_X1_63 : Cond.methodLink RX1 63 yX2_teaches ∈ jT := jT_in (List.mem_append_right _ (jm_3 (List.mem_of_getElem? (i := 74) rfl))) rfl
set_option maxRecDepth 100000 in
theorem jwM_X10_202 : Cond.methodLink RX10 202 yX1_learnOf ∈ jT := jT_in (List.mem_append_right _ (jm_3 (List.mem_of_getElem? (i := 75) rfl))) rfl
set_option maxRecDepth 100000 in
theorem jwN_X1_learnOf : Cond.instanceMethod yX1_learnOf ∈ jT := jT_in (List.mem_append_right _ (jm_3 (List.mem_of_getElem? (i := 76) rfl))) rfl
set_option maxRecDepth 100000 in
theorem jwX_X1_learnOf : Cond.selects RX1 yX1_learnOf yX1_learnOf ∈ jT := jT_in (List.mem_append_right _ (jm_3 (List.mem_of_getElem? (i := 77) rfl))) rfl
set_option maxRecDepth 100000 in
theorem jwO_X1_learnOf : Cond.code (mX1_learnOf).1 (mX1_learnOf).2.1 (mX1_learnOf).2.2.1 (mX1_learnOf).2.2.2 ∈ jT := jT_in (List.mem_append_right _ (jm_3 (List.mem_of_getElem? (i := 78) rfl))) rfl
set_option maxRecDepth 100000 in
theorem jwM_X1_72 : Cond.methodLink RX1 72 yX1_passDays ∈ jT := jT_in (List.mem_append_right _ (jm_3 (List.mem_of_getElem? (i := 79) rfl))) rfl
set_option maxRecDepth 100000 in
theorem jwM_X1_76 : Cond.methodLink RX1 76 yX2_unlearnt ∈ jT := jT_in (List.mem_append_right _ (jm_3 (List.mem_of_getElem? (i := 80) rfl))) rfl
set_option maxRecDepth 100000 in
theorem jwN_X2_unlearnt : Cond.instanceMethod yX2_unlearnt ∈ jT := jT_in (List.mem_append_right _ (jm_3 (List.mem_of_getElem? (i := 81) rfl))) rfl
set_option maxRecDepth 100000 in
theorem jwX_X2_unlearnt : Cond.selects RX2 yX2_unlearnt yX2_unlearnt ∈ jT := jT_in (List.mem_append_right _ (jm_3 (List.mem_of_getElem? (i := 82) rfl))) rfl
set_option maxRecDepth 100000 in
theorem jwO_X2_unlearnt : Cond.code (mX2_unlearnt).1 (mX2_unlearnt).2.1 (mX2_unlearnt).2.2.1 (mX2_unlearnt).2.2.2 ∈ jT := jT_in (List.mem_append_right _ (jm_3 (List.mem_of_getElem? (i := 83) rfl))) rfl
set_option maxRecDepth 100000 in
theorem jwM_L_77 : Cond.methodLink RL 77 yX10_use ∈ jT := jT_in (List.mem_append_right _ (jm_3 (List.mem_of_getElem? (i := 84) rfl))) rfl
set_option maxRecDepth 100000 in
theorem jwN_X10_use : Cond.instanceMethod yX10_use ∈ jT := jT_in (List.mem_append_right _ (jm_3 (List.mem_of_getElem? (i := 85) rfl))) rfl
set_option maxRecDepth 100000 in
theorem jwX_X10_use : Cond.selects RX10 yX10_use yX10_use ∈ jT := jT_in (List.mem_append_right _ (jm_3 (List.mem_of_getElem? (i := 86) rfl))) rfl
set_option maxRecDepth 100000 in
theorem jwO_X10_use : Cond.code (mX10_use).1 (mX10_use).2.1 (mX10_use).2.2.1 (mX10_use).2.2.2 ∈ jT := jT_in (List.mem_append_right _ (jm_3 (List.mem_of_getElem? (i := 87) rfl))) rfl
set_option maxRecDepth 100000 in
theorem jwM_X10_206 : Cond.methodLink RX10 206 yX1_practise ∈ jT := jT_in (List.mem_append_right _ (jm_3 (List.mem_of_getElem? (i := 88) rfl))) rfl
set_option maxRecDepth 100000 in
theorem jwN_X1_practise : Cond.instanceMethod yX1_practise ∈ jT := jT_in (List.mem_append_right _ (jm_3 (List.mem_of_getElem? (i := 89) rfl))) rfl
set_option maxRecDepth 100000 in
theorem jwX_X1_practise : Cond.selects RX1 yX1_practise yX1_practise ∈ jT := jT_in (List.mem_append_right _ (jm_3 (List.mem_of_getElem? (i := 90) rfl))) rfl
set_option maxRecDepth 100000 in
theorem jwO_X1_practise : Cond.code (mX1_practise).1 (mX1_practise).2.1 (mX1_practise).2.2.1 (mX1_practise).2.2.2 ∈ jT := jT_in (List.mem_append_right _ (jm_3 (List.mem_of_getElem? (i := 91) rfl))) rfl
set_option maxRecDepth 100000 in
theorem jwM_L_81 : Cond.methodLink RL 81 yX10_rests ∈ jT := jT_in (List.mem_append_right _ (jm_3 (List.mem_of_getElem? (i := 92) rfl))) rfl
set_option maxRecDepth 100000 in
theorem jwN_X10_rests : Cond.instanceMethod yX10_rests ∈ jT := jT_in (List.mem_append_right _ (jm_3 (List.mem_of_getElem? (i := 93) rfl))) rfl
set_option maxRecDepth 100000 in
theorem jwX_X10_rests : Cond.selects RX10 yX10_rests yX10_rests ∈ jT := jT_in (List.mem_append_right _ (jm_3 (List.mem_of_getElem? (i := 94) rfl))) rfl
set_option maxRecDepth 100000 in
theorem jwO_X10_rests : Cond.code (mX10_rests).1 (mX10_rests).2.1 (mX10_rests).2.2.1 (mX10_rests).2.2.2 ∈ jT := jT_in (List.mem_append_right _ (jm_3 (List.mem_of_getElem? (i := 95) rfl))) rfl
set_option maxRecDepth 100000 in
theorem jwM_L_85 : Cond.methodLink RL 85 yX10_wants ∈ jT := jT_in (List.mem_append_right _ (jm_3 (List.mem_of_getElem? (i := 96) rfl))) rfl
set_option maxRecDepth 100000 in
theorem jwN_X10_wants : Cond.instanceMethod yX10_wants ∈ jT := jT_in (List.mem_append_right _ (jm_3 (List.mem_of_getElem? (i := 97) rfl))) rfl
set_option maxRecDepth 100000 in
theorem jwX_X10_wants : Cond.selects RX10 yX10_wants yX10_wants ∈ jT := jT_in (List.mem_append_right _ (jm_3 (List.mem_of_getElem? (i := 98) rfl))) rfl
set_option maxRecDepth 100000 in
theorem jwO_X10_wants : Cond.code (mX10_wants).1 (mX10_wants).2.1 (mX10_wants).2.2.1 (mX10_wants).2.2.2 ∈ jT := jT_in (List.mem_append_right _ (jm_3 (List.mem_of_getElem? (i := 99) rfl))) rfl
set_option maxRecDepth 100000 in
theorem jwM_X10_209 : Cond.methodLink RX10 209 yX3_addWish ∈ jT := jT_in (List.mem_append_right _ (jm_3 (List.mem_of_getElem? (i := 100) rfl))) rfl
set_option maxRecDepth 100000 in
theorem jwN_X3_addWish : Cond.instanceMethod yX3_addWish ∈ jT := jT_in (List.mem_append_right _ (jm_3 (List.mem_of_getElem? (i := 101) rfl))) rfl
set_option maxRecDepth 100000 in
theorem jwX_X3_addWish : Cond.selects RX3 yX3_addWish yX3_addWish ∈ jT := jT_in (List.mem_append_right _ (jm_3 (List.mem_of_getElem? (i := 102) rfl))) rfl
set_option maxRecDepth 100000 in
theorem jwO_X3_addWish : Cond.code (mX3_addWish).1 (mX3_addWish).2.1 (mX3_addWish).2.2.1 (mX3_addWish).2.2.2 ∈ jT := jT_in (List.mem_append_right _ (jm_3 (List.mem_of_getElem? (i := 103) rfl))) rfl
set_option maxRecDepth 100000 in
theorem jwM_L_89 : Cond.methodLink RL 89 yX10_clear ∈ jT := jT_in (List.mem_append_right _ (jm_3 (List.mem_of_getElem? (i := 104) rfl))) rfl
set_option maxRecDepth 100000 in
theorem jwN_X10_clear : Cond.instanceMethod yX10_clear ∈ jT := jT_in (List.mem_append_right _ (jm_3 (List.mem_of_getElem? (i := 105) rfl))) rfl
set_option maxRecDepth 100000 in
theorem jwX_X10_clear : Cond.selects RX10 yX10_clear yX10_clear ∈ jT := jT_in (List.mem_append_right _ (jm_3 (List.mem_of_getElem? (i := 106) rfl))) rfl
set_option maxRecDepth 100000 in
theorem jwO_X10_clear : Cond.code (mX10_clear).1 (mX10_clear).2.1 (mX10_clear).2.2.1 (mX10_clear).2.2.2 ∈ jT := jT_in (List.mem_append_right _ (jm_3 (List.mem_of_getElem? (i := 107) rfl))) rfl
set_option maxRecDepth 100000 in
theorem jwM_L_94 : Cond.methodLink RL 94 yX10_made ∈ jT := jT_in (List.mem_append_right _ (jm_3 (List.mem_of_getElem? (i := 108) rfl))) rfl
set_option maxRecDepth 100000 in
theorem jwN_X10_made : Cond.instanceMethod yX10_made ∈ jT := jT_in (List.mem_append_right _ (jm_3 (List.mem_of_getElem? (i := 109) rfl))) rfl
set_option maxRecDepth 100000 in
theorem jwX_X10_made : Cond.selects RX10 yX10_made yX10_made ∈ jT := jT_in (List.mem_append_right _ (jm_3 (List.mem_of_getElem? (i := 110) rfl))) rfl
set_option maxRecDepth 100000 in
theorem jwO_X10_made : Cond.code (mX10_made).1 (mX10_made).2.1 (mX10_made).2.2.1 (mX10_made).2.2.2 ∈ jT := jT_in (List.mem_append_right _ (jm_3 (List.mem_of_getElem? (i := 111) rfl))) rfl
set_option maxRecDepth 100000 in
theorem jwM_X10_215 : Cond.methodLink RX10 215 yX3_canMakeChair ∈ jT := jT_in (List.mem_append_right _ (jm_3 (List.mem_of_getElem? (i := 112) rfl))) rfl
set_option maxRecDepth 100000 in
theorem jwN_X3_canMakeChair : Cond.instanceMethod yX3_canMakeChair ∈ jT := jT_in (List.mem_append_right _ (jm_3 (List.mem_of_getElem? (i := 113) rfl))) rfl
set_option maxRecDepth 100000 in
theorem jwX_X3_canMakeChair : Cond.selects RX3 yX3_canMakeChair yX3_canMakeChair ∈ jT := jT_in (List.mem_append_right _ (jm_3 (List.mem_of_getElem? (i := 114) rfl))) rfl
set_option maxRecDepth 100000 in
theorem jwO_X3_canMakeChair : Cond.code (mX3_canMakeChair).1 (mX3_canMakeChair).2.1 (mX3_canMakeChair).2.2.1 (mX3_canMakeChair).2.2.2 ∈ jT := jT_in (List.mem_append_right _ (jm_3 (List.mem_of_getElem? (i := 115) rfl))) rfl
set_option maxRecDepth 100000 in
theorem jwM_X3_69 : Cond.methodLink RX3 69 yX3_wishedSet ∈ jT := jT_in (List.mem_append_right _ (jm_3 (List.mem_of_getElem? (i := 116) rfl))) rfl
set_option maxRecDepth 100000 in
theorem jwN_X3_wishedSet : Cond.instanceMethod yX3_wishedSet ∈ jT := jT_in (List.mem_append_right _ (jm_3 (List.mem_of_getElem? (i := 117) rfl))) rfl
set_option maxRecDepth 100000 in
theorem jwX_X3_wishedSet : Cond.selects RX3 yX3_wishedSet yX3_wishedSet ∈ jT := jT_in (List.mem_append_right _ (jm_3 (List.mem_of_getElem? (i := 118) rfl))) rfl
set_option maxRecDepth 100000 in
theorem jwO_X3_wishedSet : Cond.code (mX3_wishedSet).1 (mX3_wishedSet).2.1 (mX3_wishedSet).2.2.1 (mX3_wishedSet).2.2.2 ∈ jT := jT_in (List.mem_append_right _ (jm_3 (List.mem_of_getElem? (i := 119) rfl))) rfl
set_option maxRecDepth 100000 in
theorem jwM_X10_219 : Cond.methodLink RX10 219 yX3_makeChair ∈ jT := jT_in (List.mem_append_right _ (jm_3 (List.mem_of_getElem? (i := 120) rfl))) rfl
set_option maxRecDepth 100000 in
theorem jwN_X3_makeChair : Cond.instanceMethod yX3_makeChair ∈ jT := jT_in (List.mem_append_right _ (jm_3 (List.mem_of_getElem? (i := 121) rfl))) rfl
set_option maxRecDepth 100000 in
theorem jwX_X3_makeChair : Cond.selects RX3 yX3_makeChair yX3_makeChair ∈ jT := jT_in (List.mem_append_right _ (jm_3 (List.mem_of_getElem? (i := 122) rfl))) rfl
set_option maxRecDepth 100000 in
theorem jwO_X3_makeChair : Cond.code (mX3_makeChair).1 (mX3_makeChair).2.1 (mX3_makeChair).2.2.1 (mX3_makeChair).2.2.2 ∈ jT := jT_in (List.mem_append_right _ (jm_3 (List.mem_of_getElem? (i := 123) rfl))) rfl
set_option maxRecDepth 100000 in
theorem jwM_X3_76 : Cond.methodLink RX3 76 yX1_practise ∈ jT := jT_in (List.mem_append_right _ (jm_3 (List.mem_of_getElem? (i := 124) rfl))) rfl
set_option maxRecDepth 100000 in
theorem jwM_L_98 : Cond.methodLink RL 98 yX10_soonest ∈ jT := jT_in (List.mem_append_right _ (jm_3 (List.mem_of_getElem? (i := 125) rfl))) rfl
set_option maxRecDepth 100000 in
theorem jwN_X10_soonest : Cond.instanceMethod yX10_soonest ∈ jT := jT_in (List.mem_append_right _ (jm_3 (List.mem_of_getElem? (i := 126) rfl))) rfl
set_option maxRecDepth 100000 in
theorem jwX_X10_soonest : Cond.selects RX10 yX10_soonest yX10_soonest ∈ jT := jT_in (List.mem_append_right _ (jm_3 (List.mem_of_getElem? (i := 127) rfl))) rfl
set_option maxRecDepth 100000 in
theorem jwO_X10_soonest : Cond.code (mX10_soonest).1 (mX10_soonest).2.1 (mX10_soonest).2.2.1 (mX10_soonest).2.2.2 ∈ jT := jT_in (List.mem_append_right _ (jm_3 (List.mem_of_getElem? (i := 128) rfl))) rfl
set_option maxRecDepth 100000 in
theorem jwM_X10_222 : Cond.methodLink RX10 222 yX5_finds ∈ jT := jT_in (List.mem_append_right _ (jm_3 (List.mem_of_getElem? (i := 129) rfl))) rfl
set_option maxRecDepth 100000 in
theorem jwN_X5_finds : Cond.instanceMethod yX5_finds ∈ jT := jT_in (List.mem_append_right _ (jm_3 (List.mem_of_getElem? (i := 130) rfl))) rfl
set_option maxRecDepth 100000 in
theorem jwX_X5_finds : Cond.selects RX5 yX5_finds yX5_finds ∈ jT := jT_in (List.mem_append_right _ (jm_3 (List.mem_of_getElem? (i := 131) rfl))) rfl
set_option maxRecDepth 100000 in
theorem jwO_X5_finds : Cond.code (mX5_finds).1 (mX5_finds).2.1 (mX5_finds).2.2.1 (mX5_finds).2.2.2 ∈ jT := jT_in (List.mem_append_right _ (jm_3 (List.mem_of_getElem? (i := 132) rfl))) rfl
set_option maxRecDepth 100000 in
theorem jwC_X5_33 : Cond.constant RX5 33 1000000000 ∈ jT := jT_in (List.mem_append_right _ (jm_3 (List.mem_of_getElem? (i := 133) rfl))) rfl
set_option maxRecDepth 100000 in
theorem jwM_X5_44 : Cond.methodLink RX5 44 yX3_wishedSet ∈ jT := jT_in (List.mem_append_right _ (jm_3 (List.mem_of_getElem? (i := 134) rfl))) rfl
set_option maxRecDepth 100000 in
theorem jwM_X5_57 : Cond.methodLink RX5 57 yX0_taught ∈ jT := jT_in (List.mem_append_right _ (jm_3 (List.mem_of_getElem? (i := 135) rfl))) rfl
set_option maxRecDepth 100000 in
theorem jwN_X0_taught : Cond.instanceMethod yX0_taught ∈ jT := jT_in (List.mem_append_right _ (jm_3 (List.mem_of_getElem? (i := 136) rfl))) rfl
set_option maxRecDepth 100000 in
theorem jwX_X0_taught : Cond.selects RX0 yX0_taught yX0_taught ∈ jT := jT_in (List.mem_append_right _ (jm_3 (List.mem_of_getElem? (i := 137) rfl))) rfl
set_option maxRecDepth 100000 in
theorem jwO_X0_taught : Cond.code (mX0_taught).1 (mX0_taught).2.1 (mX0_taught).2.2.1 (mX0_taught).2.2.2 ∈ jT := jT_in (List.mem_append_right _ (jm_3 (List.mem_of_getElem? (i := 138) rfl))) rfl
set_option maxRecDepth 100000 in
theorem jwM_X0_46 : Cond.methodLink RX0 46 yX0_find ∈ jT := jT_in (List.mem_append_right _ (jm_3 (List.mem_of_getElem? (i := 139) rfl))) rfl
set_option maxRecDepth 100000 in
theorem jwC_X5_78 : Cond.constant RX5 78 (-1000000005) ∈ jT := jT_in (List.mem_append_right _ (jm_3 (List.mem_of_getElem? (i := 140) rfl))) rfl
set_option maxRecDepth 100000 in
theorem jwM_X5_79 : Cond.methodLink RX5 79 yX5_goOn ∈ jT := jT_in (List.mem_append_right _ (jm_3 (List.mem_of_getElem? (i := 141) rfl))) rfl
set_option maxRecDepth 100000 in
theorem jwN_X5_goOn : Cond.instanceMethod yX5_goOn ∈ jT := jT_in (List.mem_append_right _ (jm_3 (List.mem_of_getElem? (i := 143) rfl))) rfl
set_option maxRecDepth 100000 in
theorem jwO_X5_goOn : Cond.code (mX5_goOn).1 (mX5_goOn).2.1 (mX5_goOn).2.2.1 (mX5_goOn).2.2.2 ∈ jT := jT_in (List.mem_append_right _ (jm_3 (List.mem_of_getElem? (i := 144) rfl))) rfl
set_option maxRecDepth 100000 in
theorem jwM_X5_87 : Cond.methodLink RX5 87 yX5_offer ∈ jT := jT_in (List.mem_append_right _ (jm_3 (List.mem_of_getElem? (i := 146) rfl))) rfl
set_option maxRecDepth 100000 in
theorem jwN_X5_offer : Cond.instanceMethod yX5_offer ∈ jT := jT_in (List.mem_append_right _ (jm_3 (List.mem_of_getElem? (i := 148) rfl))) rfl
set_option maxRecDepth 100000 in
theorem jwO_X5_offer : Cond.code (mX5_offer).1 (mX5_offer).2.1 (mX5_offer).2.2.1 (mX5_offer).2.2.2 ∈ jT := jT_in (List.mem_append_right _ (jm_3 (List.mem_of_getElem? (i := 149) rfl))) rfl
set_option maxRecDepth 100000 in
theorem jwM_X5_156 : Cond.methodLink RX5 156 yX5_isBetter ∈ jT := jT_in (List.mem_append_right _ (jm_3 (List.mem_of_getElem? (i := 150) rfl))) rfl
set_option maxRecDepth 100000 in
theorem jwN_X5_isBetter : Cond.instanceMethod yX5_isBetter ∈ jT := jT_in (List.mem_append_right _ (jm_3 (List.mem_of_getElem? (i := 152) rfl))) rfl
set_option maxRecDepth 100000 in
theorem jwO_X5_isBetter : Cond.code (mX5_isBetter).1 (mX5_isBetter).2.1 (mX5_isBetter).2.2.1 (mX5_isBetter).2.2.2 ∈ jT := jT_in (List.mem_append_right _ (jm_3 (List.mem_of_getElem? (i := 153) rfl))) rfl
set_option maxRecDepth 100000 in
theorem jwM_X5_91 : Cond.methodLink RX5 91 yJ6_bitCount_0f7a4 ∈ jT := jT_in (List.mem_append_right _ (jm_3 (List.mem_of_getElem? (i := 154) rfl))) rfl
set_option maxRecDepth 100000 in
theorem jwM_X5_100 : Cond.methodLink RX5 100 yX0_find ∈ jT := jT_in (List.mem_append_right _ (jm_3 (List.mem_of_getElem? (i := 155) rfl))) rfl
set_option maxRecDepth 100000 in
theorem jwM_X5_109 : Cond.methodLink RX5 109 yX5_tryMaster ∈ jT := jT_in (List.mem_append_right _ (jm_3 (List.mem_of_getElem? (i := 156) rfl))) rfl
set_option maxRecDepth 100000 in
theorem jwN_X5_tryMaster : Cond.instanceMethod yX5_tryMaster ∈ jT := jT_in (List.mem_append_right _ (jm_3 (List.mem_of_getElem? (i := 158) rfl))) rfl
set_option maxRecDepth 100000 in
theorem jwO_X5_tryMaster : Cond.code (mX5_tryMaster).1 (mX5_tryMaster).2.1 (mX5_tryMaster).2.2.1 (mX5_tryMaster).2.2.2 ∈ jT := jT_in (List.mem_append_right _ (jm_3 (List.mem_of_getElem? (i := 159) rfl))) rfl
set_option maxRecDepth 100000 in
theorem jwM_X5_119 : Cond.methodLink RX5 119 yX4_fewest ∈ jT := jT_in (List.mem_append_right _ (jm_3 (List.mem_of_getElem? (i := 160) rfl))) rfl
set_option maxRecDepth 100000 in
theorem jwM_X5_128 : Cond.methodLink RX5 128 yX5_keptOf ∈ jT := jT_in (List.mem_append_right _ (jm_3 (List.mem_of_getElem? (i := 161) rfl))) rfl
set_option maxRecDepth 100000 in
theorem jwN_X5_keptOf : Cond.instanceMethod yX5_keptOf ∈ jT := jT_in (List.mem_append_right _ (jm_3 (List.mem_of_getElem? (i := 163) rfl))) rfl
set_option maxRecDepth 100000 in
theorem jwO_X5_keptOf : Cond.code (mX5_keptOf).1 (mX5_keptOf).2.1 (mX5_keptOf).2.2.1 (mX5_keptOf).2.2.2 ∈ jT := jT_in (List.mem_append_right _ (jm_3 (List.mem_of_getElem? (i := 164) rfl))) rfl
set_option maxRecDepth 100000 in
theorem jwM_X5_142 : Cond.methodLink RX5 142 yX2_teaches ∈ jT := jT_in (List.mem_append_right _ (jm_3 (List.mem_of_getElem? (i := 165) rfl))) rfl
set_option maxRecDepth 100000 in
theorem jwM_X5_146 : Cond.methodLink RX5 146 yX5_daysTaken ∈ jT := jT_in (List.mem_append_right _ (jm_3 (List.mem_of_getElem? (i := 166) rfl))) rfl
set_option maxRecDepth 100000 in
theorem jwN_X5_daysTaken : Cond.instanceMethod yX5_daysTaken ∈ jT := jT_in (List.mem_append_right _ (jm_3 (List.mem_of_getElem? (i := 168) rfl))) rfl
set_option maxRecDepth 100000 in
theorem jwO_X5_daysTaken : Cond.code (mX5_daysTaken).1 (mX5_daysTaken).2.1 (mX5_daysTaken).2.2.1 (mX5_daysTaken).2.2.2 ∈ jT := jT_in (List.mem_append_right _ (jm_3 (List.mem_of_getElem? (i := 169) rfl))) rfl
set_option maxRecDepth 100000 in
theorem jwM_X5_153 : Cond.methodLink RX5 153 yX3_daysTaken ∈ jT := jT_in (List.mem_append_right _ (jm_3 (List.mem_of_getElem? (i := 170) rfl))) rfl
set_option maxRecDepth 100000 in
theorem jwM_X5_150 : Cond.methodLink RX5 150 yX2_unlearnt ∈ jT := jT_in (List.mem_append_right _ (jm_3 (List.mem_of_getElem? (i := 171) rfl))) rfl
set_option maxRecDepth 100000 in
theorem jwM_L_102 : Cond.methodLink RL 102 yX10_together ∈ jT := jT_in (List.mem_append_right _ (jm_3 (List.mem_of_getElem? (i := 172) rfl))) rfl
set_option maxRecDepth 100000 in
theorem jwN_X10_together : Cond.instanceMethod yX10_together ∈ jT := jT_in (List.mem_append_right _ (jm_3 (List.mem_of_getElem? (i := 173) rfl))) rfl
set_option maxRecDepth 100000 in
theorem jwX_X10_together : Cond.selects RX10 yX10_together yX10_together ∈ jT := jT_in (List.mem_append_right _ (jm_3 (List.mem_of_getElem? (i := 174) rfl))) rfl
set_option maxRecDepth 100000 in
theorem jwO_X10_together : Cond.code (mX10_together).1 (mX10_together).2.1 (mX10_together).2.2.1 (mX10_together).2.2.2 ∈ jT := jT_in (List.mem_append_right _ (jm_3 (List.mem_of_getElem? (i := 175) rfl))) rfl
set_option maxRecDepth 100000 in
theorem jwM_X10_235 : Cond.methodLink RX10 235 yX0_canBringTogether ∈ jT := jT_in (List.mem_append_right _ (jm_3 (List.mem_of_getElem? (i := 176) rfl))) rfl
set_option maxRecDepth 100000 in
theorem jwN_X0_canBringTogether : Cond.instanceMethod yX0_canBringTogether ∈ jT := jT_in (List.mem_append_right _ (jm_3 (List.mem_of_getElem? (i := 177) rfl))) rfl
set_option maxRecDepth 100000 in
theorem jwX_X0_canBringTogether : Cond.selects RX0 yX0_canBringTogether yX0_canBringTogether ∈ jT := jT_in (List.mem_append_right _ (jm_3 (List.mem_of_getElem? (i := 178) rfl))) rfl
set_option maxRecDepth 100000 in
theorem jwO_X0_canBringTogether : Cond.code (mX0_canBringTogether).1 (mX0_canBringTogether).2.1 (mX0_canBringTogether).2.2.1 (mX0_canBringTogether).2.2.2 ∈ jT := jT_in (List.mem_append_right _ (jm_3 (List.mem_of_getElem? (i := 179) rfl))) rfl
set_option maxRecDepth 100000 in
theorem jwM_X0_70 : Cond.methodLink RX0 70 yX0_leadsTo ∈ jT := jT_in (List.mem_append_right _ (jm_3 (List.mem_of_getElem? (i := 180) rfl))) rfl
set_option maxRecDepth 100000 in
theorem jwS_X0_leadsTo : Cond.static yX0_leadsTo ∈ jT := jT_in (List.mem_append_right _ (jm_3 (List.mem_of_getElem? (i := 181) rfl))) rfl
set_option maxRecDepth 100000 in
theorem jwO_X0_leadsTo : Cond.code (mX0_leadsTo).1 (mX0_leadsTo).2.1 (mX0_leadsTo).2.2.1 (mX0_leadsTo).2.2.2 ∈ jT := jT_in (List.mem_append_right _ (jm_3 (List.mem_of_getElem? (i := 182) rfl))) rfl
set_option maxRecDepth 100000 in
theorem jwM_X0_74 : Cond.methodLink RX0 74 yJ6_bitCount_0f7a4 ∈ jT := jT_in (List.mem_append_right _ (jm_3 (List.mem_of_getElem? (i := 183) rfl))) rfl
set_option maxRecDepth 100000 in
theorem jwM_X0_80 : Cond.methodLink RX0 80 yX0_helps ∈ jT := jT_in (List.mem_append_right _ (jm_3 (List.mem_of_getElem? (i := 184) rfl))) rfl
set_option maxRecDepth 100000 in
theorem jwS_X0_helps : Cond.static yX0_helps ∈ jT := jT_in (List.mem_append_right _ (jm_3 (List.mem_of_getElem? (i := 185) rfl))) rfl
set_option maxRecDepth 100000 in
theorem jwO_X0_helps : Cond.code (mX0_helps).1 (mX0_helps).2.1 (mX0_helps).2.2.1 (mX0_helps).2.2.2 ∈ jT := jT_in (List.mem_append_right _ (jm_3 (List.mem_of_getElem? (i := 186) rfl))) rfl
set_option maxRecDepth 100000 in
theorem jwM_X0_84 : Cond.methodLink RX0 84 yX2_teaches ∈ jT := jT_in (List.mem_append_right _ (jm_3 (List.mem_of_getElem? (i := 187) rfl))) rfl
set_option maxRecDepth 100000 in
theorem jwM_X0_88 : Cond.methodLink RX0 88 yX2_unlearnt ∈ jT := jT_in (List.mem_append_right _ (jm_3 (List.mem_of_getElem? (i := 188) rfl))) rfl
set_option maxRecDepth 100000 in
theorem jwM_L_106 : Cond.methodLink RL 106 yX10_never ∈ jT := jT_in (List.mem_append_right _ (jm_3 (List.mem_of_getElem? (i := 189) rfl))) rfl
set_option maxRecDepth 100000 in
theorem jwN_X10_never : Cond.instanceMethod yX10_never ∈ jT := jT_in (List.mem_append_right _ (jm_3 (List.mem_of_getElem? (i := 190) rfl))) rfl
set_option maxRecDepth 100000 in
theorem jwX_X10_never : Cond.selects RX10 yX10_never yX10_never ∈ jT := jT_in (List.mem_append_right _ (jm_3 (List.mem_of_getElem? (i := 191) rfl))) rfl
set_option maxRecDepth 100000 in
theorem jwO_X10_never : Cond.code (mX10_never).1 (mX10_never).2.1 (mX10_never).2.2.1 (mX10_never).2.2.2 ∈ jT := jT_in (List.mem_append_right _ (jm_3 (List.mem_of_getElem? (i := 192) rfl))) rfl
set_option maxRecDepth 100000 in
theorem jwM_X10_238 : Cond.methodLink RX10 238 yX0_taught ∈ jT := jT_in (List.mem_append_right _ (jm_3 (List.mem_of_getElem? (i := 193) rfl))) rfl
set_option maxRecDepth 100000 in
theorem jwM_L_110 : Cond.methodLink RL 110 yX10_last ∈ jT := jT_in (List.mem_append_right _ (jm_3 (List.mem_of_getElem? (i := 194) rfl))) rfl
set_option maxRecDepth 100000 in
theorem jwN_X10_last : Cond.instanceMethod yX10_last ∈ jT := jT_in (List.mem_append_right _ (jm_3 (List.mem_of_getElem? (i := 195) rfl))) rfl
set_option maxRecDepth 100000 in
theorem jwX_X10_last : Cond.selects RX10 yX10_last yX10_last ∈ jT := jT_in (List.mem_append_right _ (jm_3 (List.mem_of_getElem? (i := 196) rfl))) rfl
set_option maxRecDepth 100000 in
theorem jwO_X10_last : Cond.code (mX10_last).1 (mX10_last).2.1 (mX10_last).2.2.1 (mX10_last).2.2.2 ∈ jT := jT_in (List.mem_append_right _ (jm_3 (List.mem_of_getElem? (i := 197) rfl))) rfl
set_option maxRecDepth 100000 in
theorem jwM_X10_241 : Cond.methodLink RX10 241 yX0_onlyTeacher ∈ jT := jT_in (List.mem_append_right _ (jm_3 (List.mem_of_getElem? (i := 198) rfl))) rfl
set_option maxRecDepth 100000 in
theorem jwN_X0_onlyTeacher : Cond.instanceMethod yX0_onlyTeacher ∈ jT := jT_in (List.mem_append_right _ (jm_3 (List.mem_of_getElem? (i := 199) rfl))) rfl
set_option maxRecDepth 100000 in
theorem jwX_X0_onlyTeacher : Cond.selects RX0 yX0_onlyTeacher yX0_onlyTeacher ∈ jT := jT_in (List.mem_append_right _ (jm_3 (List.mem_of_getElem? (i := 200) rfl))) rfl
set_option maxRecDepth 100000 in
theorem jwO_X0_onlyTeacher : Cond.code (mX0_onlyTeacher).1 (mX0_onlyTeacher).2.1 (mX0_onlyTeacher).2.2.1 (mX0_onlyTeacher).2.2.2 ∈ jT := jT_in (List.mem_append_right _ (jm_3 (List.mem_of_getElem? (i := 201) rfl))) rfl
set_option maxRecDepth 100000 in
theorem jwC_X0_69 : Cond.constant RX0 69 (-1000000005) ∈ jT := jT_in (List.mem_append_right _ (jm_3 (List.mem_of_getElem? (i := 202) rfl))) rfl
set_option maxRecDepth 100000 in
theorem jwM_L_114 : Cond.methodLink RL 114 yX10_years ∈ jT := jT_in (List.mem_append_right _ (jm_3 (List.mem_of_getElem? (i := 203) rfl))) rfl
set_option maxRecDepth 100000 in
theorem jwN_X10_years : Cond.instanceMethod yX10_years ∈ jT := jT_in (List.mem_append_right _ (jm_3 (List.mem_of_getElem? (i := 204) rfl))) rfl
set_option maxRecDepth 100000 in
theorem jwX_X10_years : Cond.selects RX10 yX10_years yX10_years ∈ jT := jT_in (List.mem_append_right _ (jm_3 (List.mem_of_getElem? (i := 205) rfl))) rfl
set_option maxRecDepth 100000 in
theorem jwO_X10_years : Cond.code (mX10_years).1 (mX10_years).2.1 (mX10_years).2.2.1 (mX10_years).2.2.2 ∈ jT := jT_in (List.mem_append_right _ (jm_3 (List.mem_of_getElem? (i := 206) rfl))) rfl
set_option maxRecDepth 100000 in
theorem jwM_X10_244 : Cond.methodLink RX10 244 yX0_countDead ∈ jT := jT_in (List.mem_append_right _ (jm_3 (List.mem_of_getElem? (i := 207) rfl))) rfl
set_option maxRecDepth 100000 in
theorem jwN_X0_countDead : Cond.instanceMethod yX0_countDead ∈ jT := jT_in (List.mem_append_right _ (jm_3 (List.mem_of_getElem? (i := 208) rfl))) rfl
set_option maxRecDepth 100000 in
theorem jwX_X0_countDead : Cond.selects RX0 yX0_countDead yX0_countDead ∈ jT := jT_in (List.mem_append_right _ (jm_3 (List.mem_of_getElem? (i := 209) rfl))) rfl
set_option maxRecDepth 100000 in
theorem jwO_X0_countDead : Cond.code (mX0_countDead).1 (mX0_countDead).2.1 (mX0_countDead).2.2.1 (mX0_countDead).2.2.2 ∈ jT := jT_in (List.mem_append_right _ (jm_3 (List.mem_of_getElem? (i := 210) rfl))) rfl
set_option maxRecDepth 100000 in
theorem jwM_X10_247 : Cond.methodLink RX10 247 yX0_liveYears ∈ jT := jT_in (List.mem_append_right _ (jm_3 (List.mem_of_getElem? (i := 211) rfl))) rfl
set_option maxRecDepth 100000 in
theorem jwN_X0_liveYears : Cond.instanceMethod yX0_liveYears ∈ jT := jT_in (List.mem_append_right _ (jm_3 (List.mem_of_getElem? (i := 212) rfl))) rfl
set_option maxRecDepth 100000 in
theorem jwX_X0_liveYears : Cond.selects RX0 yX0_liveYears yX0_liveYears ∈ jT := jT_in (List.mem_append_right _ (jm_3 (List.mem_of_getElem? (i := 213) rfl))) rfl
set_option maxRecDepth 100000 in
theorem jwO_X0_liveYears : Cond.code (mX0_liveYears).1 (mX0_liveYears).2.1 (mX0_liveYears).2.2.1 (mX0_liveYears).2.2.2 ∈ jT := jT_in (List.mem_append_right _ (jm_3 (List.mem_of_getElem? (i := 214) rfl))) rfl
set_option maxRecDepth 100000 in
theorem jwM_X0_63 : Cond.methodLink RX0 63 yX0_liveYear ∈ jT := jT_in (List.mem_append_right _ (jm_3 (List.mem_of_getElem? (i := 215) rfl))) rfl
set_option maxRecDepth 100000 in
theorem jwN_X0_liveYear : Cond.instanceMethod yX0_liveYear ∈ jT := jT_in (List.mem_append_right _ (jm_3 (List.mem_of_getElem? (i := 216) rfl))) rfl
set_option maxRecDepth 100000 in
theorem jwX_X0_liveYear : Cond.selects RX0 yX0_liveYear yX0_liveYear ∈ jT := jT_in (List.mem_append_right _ (jm_3 (List.mem_of_getElem? (i := 217) rfl))) rfl
set_option maxRecDepth 100000 in
theorem jwO_X0_liveYear : Cond.code (mX0_liveYear).1 (mX0_liveYear).2.1 (mX0_liveYear).2.2.1 (mX0_liveYear).2.2.2 ∈ jT := jT_in (List.mem_append_right _ (jm_3 (List.mem_of_getElem? (i := 218) rfl))) rfl
set_option maxRecDepth 100000 in
theorem jwM_X0_57 : Cond.methodLink RX0 57 Lib.Math.min.name ∈ jT := jT_in (List.mem_append_right _ (jm_3 (List.mem_of_getElem? (i := 219) rfl))) rfl
set_option maxRecDepth 100000 in
theorem jwM_L_118 : Cond.methodLink RL 118 yX10_gone ∈ jT := jT_in (List.mem_append_right _ (jm_3 (List.mem_of_getElem? (i := 220) rfl))) rfl
set_option maxRecDepth 100000 in
theorem jwN_X10_gone : Cond.instanceMethod yX10_gone ∈ jT := jT_in (List.mem_append_right _ (jm_3 (List.mem_of_getElem? (i := 221) rfl))) rfl
set_option maxRecDepth 100000 in
theorem jwX_X10_gone : Cond.selects RX10 yX10_gone yX10_gone ∈ jT := jT_in (List.mem_append_right _ (jm_3 (List.mem_of_getElem? (i := 222) rfl))) rfl
set_option maxRecDepth 100000 in
theorem jwO_X10_gone : Cond.code (mX10_gone).1 (mX10_gone).2.1 (mX10_gone).2.2.1 (mX10_gone).2.2.2 ∈ jT := jT_in (List.mem_append_right _ (jm_3 (List.mem_of_getElem? (i := 223) rfl))) rfl
set_option maxRecDepth 100000 in
theorem jwM_X10_250 : Cond.methodLink RX10 250 yX0_become ∈ jT := jT_in (List.mem_append_right _ (jm_3 (List.mem_of_getElem? (i := 224) rfl))) rfl
set_option maxRecDepth 100000 in
theorem jwN_X0_become : Cond.instanceMethod yX0_become ∈ jT := jT_in (List.mem_append_right _ (jm_3 (List.mem_of_getElem? (i := 225) rfl))) rfl
set_option maxRecDepth 100000 in
theorem jwX_X0_become : Cond.selects RX0 yX0_become yX0_become ∈ jT := jT_in (List.mem_append_right _ (jm_3 (List.mem_of_getElem? (i := 226) rfl))) rfl
set_option maxRecDepth 100000 in
theorem jwO_X0_become : Cond.code (mX0_become).1 (mX0_become).2.1 (mX0_become).2.2.1 (mX0_become).2.2.2 ∈ jT := jT_in (List.mem_append_right _ (jm_3 (List.mem_of_getElem? (i := 227) rfl))) rfl
set_option maxRecDepth 100000 in
theorem jwM_X0_25 : Cond.methodLink RX0 25 yX2_become ∈ jT := jT_in (List.mem_append_right _ (jm_3 (List.mem_of_getElem? (i := 228) rfl))) rfl
set_option maxRecDepth 100000 in
theorem jwN_X2_become : Cond.instanceMethod yX2_become ∈ jT := jT_in (List.mem_append_right _ (jm_3 (List.mem_of_getElem? (i := 229) rfl))) rfl
set_option maxRecDepth 100000 in
theorem jwX_X2_become : Cond.selects RX2 yX2_become yX2_become ∈ jT := jT_in (List.mem_append_right _ (jm_3 (List.mem_of_getElem? (i := 230) rfl))) rfl
set_option maxRecDepth 100000 in
theorem jwO_X2_become : Cond.code (mX2_become).1 (mX2_become).2.1 (mX2_become).2.2.1 (mX2_become).2.2.2 ∈ jT := jT_in (List.mem_append_right _ (jm_3 (List.mem_of_getElem? (i := 231) rfl))) rfl
set_option maxRecDepth 100000 in
theorem jwM_L_122 : Cond.methodLink RL 122 yX10_fresh ∈ jT := jT_in (List.mem_append_right _ (jm_3 (List.mem_of_getElem? (i := 232) rfl))) rfl
set_option maxRecDepth 100000 in
theorem jwN_X10_fresh : Cond.instanceMethod yX10_fresh ∈ jT := jT_in (List.mem_append_right _ (jm_3 (List.mem_of_getElem? (i := 233) rfl))) rfl
set_option maxRecDepth 100000 in
theorem jwX_X10_fresh : Cond.selects RX10 yX10_fresh yX10_fresh ∈ jT := jT_in (List.mem_append_right _ (jm_3 (List.mem_of_getElem? (i := 234) rfl))) rfl
set_option maxRecDepth 100000 in
theorem jwO_X10_fresh : Cond.code (mX10_fresh).1 (mX10_fresh).2.1 (mX10_fresh).2.2.1 (mX10_fresh).2.2.2 ∈ jT := jT_in (List.mem_append_right _ (jm_3 (List.mem_of_getElem? (i := 235) rfl))) rfl
set_option maxRecDepth 100000 in
theorem jwM_X10_254 : Cond.methodLink RX10 254 yX3_waysToMasters ∈ jT := jT_in (List.mem_append_right _ (jm_3 (List.mem_of_getElem? (i := 236) rfl))) rfl
set_option maxRecDepth 100000 in
theorem jwN_X3_waysToMasters : Cond.instanceMethod yX3_waysToMasters ∈ jT := jT_in (List.mem_append_right _ (jm_3 (List.mem_of_getElem? (i := 237) rfl))) rfl
set_option maxRecDepth 100000 in
theorem jwX_X3_waysToMasters : Cond.selects RX3 yX3_waysToMasters yX3_waysToMasters ∈ jT := jT_in (List.mem_append_right _ (jm_3 (List.mem_of_getElem? (i := 238) rfl))) rfl
set_option maxRecDepth 100000 in
theorem jwO_X3_waysToMasters : Cond.code (mX3_waysToMasters).1 (mX3_waysToMasters).2.1 (mX3_waysToMasters).2.2.1 (mX3_waysToMasters).2.2.2 ∈ jT := jT_in (List.mem_append_right _ (jm_3 (List.mem_of_getElem? (i := 239) rfl))) rfl
set_option maxRecDepth 100000 in
theorem jwM_X3_127 : Cond.methodLink RX3 127 yX0_find ∈ jT := jT_in (List.mem_append_right _ (jm_4 (List.mem_of_getElem? (i := 0) rfl))) rfl
set_option maxRecDepth 100000 in
theorem jwM_X3_138 : Cond.methodLink RX3 138 yX4_fewest ∈ jT := jT_in (List.mem_append_right _ (jm_4 (List.mem_of_getElem? (i := 1) rfl))) rfl
set_option maxRecDepth 100000 in
theorem jwM_L_126 : Cond.methodLink RL 126 yX10_cut ∈ jT := jT_in (List.mem_append_right _ (jm_4 (List.mem_of_getElem? (i := 2) rfl))) rfl
set_option maxRecDepth 100000 in
theorem jwN_X10_cut : Cond.instanceMethod yX10_cut ∈ jT := jT_in (List.mem_append_right _ (jm_4 (List.mem_of_getElem? (i := 3) rfl))) rfl
set_option maxRecDepth 100000 in
theorem jwX_X10_cut : Cond.selects RX10 yX10_cut yX10_cut ∈ jT := jT_in (List.mem_append_right _ (jm_4 (List.mem_of_getElem? (i := 4) rfl))) rfl
set_option maxRecDepth 100000 in
theorem jwO_X10_cut : Cond.code (mX10_cut).1 (mX10_cut).2.1 (mX10_cut).2.2.1 (mX10_cut).2.2.2 ∈ jT := jT_in (List.mem_append_right _ (jm_4 (List.mem_of_getElem? (i := 5) rfl))) rfl
set_option maxRecDepth 100000 in
theorem jwM_X10_257 : Cond.methodLink RX10 257 yX10_findSheet ∈ jT := jT_in (List.mem_append_right _ (jm_4 (List.mem_of_getElem? (i := 6) rfl))) rfl
set_option maxRecDepth 100000 in
theorem jwN_X10_findSheet : Cond.instanceMethod yX10_findSheet ∈ jT := jT_in (List.mem_append_right _ (jm_4 (List.mem_of_getElem? (i := 8) rfl))) rfl
set_option maxRecDepth 100000 in
theorem jwO_X10_findSheet : Cond.code (mX10_findSheet).1 (mX10_findSheet).2.1 (mX10_findSheet).2.2.1 (mX10_findSheet).2.2.2 ∈ jT := jT_in (List.mem_append_right _ (jm_4 (List.mem_of_getElem? (i := 9) rfl))) rfl
set_option maxRecDepth 100000 in
theorem jwC_X10_264 : Cond.constant RX10 264 (-1000000011) ∈ jT := jT_in (List.mem_append_right _ (jm_4 (List.mem_of_getElem? (i := 10) rfl))) rfl
set_option maxRecDepth 100000 in
theorem jwC_X10_265 : Cond.constant RX10 265 1000000000 ∈ jT := jT_in (List.mem_append_right _ (jm_4 (List.mem_of_getElem? (i := 11) rfl))) rfl
set_option maxRecDepth 100000 in
theorem jwM_X10_266 : Cond.methodLink RX10 266 yX3_apart ∈ jT := jT_in (List.mem_append_right _ (jm_4 (List.mem_of_getElem? (i := 12) rfl))) rfl
set_option maxRecDepth 100000 in
theorem jwN_X3_apart : Cond.instanceMethod yX3_apart ∈ jT := jT_in (List.mem_append_right _ (jm_4 (List.mem_of_getElem? (i := 13) rfl))) rfl
set_option maxRecDepth 100000 in
theorem jwX_X3_apart : Cond.selects RX3 yX3_apart yX3_apart ∈ jT := jT_in (List.mem_append_right _ (jm_4 (List.mem_of_getElem? (i := 14) rfl))) rfl
set_option maxRecDepth 100000 in
theorem jwO_X3_apart : Cond.code (mX3_apart).1 (mX3_apart).2.1 (mX3_apart).2.2.1 (mX3_apart).2.2.2 ∈ jT := jT_in (List.mem_append_right _ (jm_4 (List.mem_of_getElem? (i := 15) rfl))) rfl
set_option maxRecDepth 100000 in
theorem jwM_X3_144 : Cond.methodLink RX3 144 yX6_isNumber ∈ jT := jT_in (List.mem_append_right _ (jm_4 (List.mem_of_getElem? (i := 16) rfl))) rfl
set_option maxRecDepth 100000 in
theorem jwN_X6_isNumber : Cond.instanceMethod yX6_isNumber ∈ jT := jT_in (List.mem_append_right _ (jm_4 (List.mem_of_getElem? (i := 17) rfl))) rfl
set_option maxRecDepth 100000 in
theorem jwX_X6_isNumber : Cond.selects RX6 yX6_isNumber yX6_isNumber ∈ jT := jT_in (List.mem_append_right _ (jm_4 (List.mem_of_getElem? (i := 18) rfl))) rfl
set_option maxRecDepth 100000 in
theorem jwO_X6_isNumber : Cond.code (mX6_isNumber).1 (mX6_isNumber).2.1 (mX6_isNumber).2.2.1 (mX6_isNumber).2.2.2 ∈ jT := jT_in (List.mem_append_right _ (jm_4 (List.mem_of_getElem? (i := 19) rfl))) rfl
set_option maxRecDepth 100000 in
theorem jwM_X6_32 : Cond.methodLink RX6 32 yX6_hasPlace ∈ jT := jT_in (List.mem_append_right _ (jm_4 (List.mem_of_getElem? (i := 20) rfl))) rfl
set_option maxRecDepth 100000 in
theorem jwN_X6_hasPlace : Cond.instanceMethod yX6_hasPlace ∈ jT := jT_in (List.mem_append_right _ (jm_4 (List.mem_of_getElem? (i := 21) rfl))) rfl
set_option maxRecDepth 100000 in
theorem jwX_X6_hasPlace : Cond.selects RX6 yX6_hasPlace yX6_hasPlace ∈ jT := jT_in (List.mem_append_right _ (jm_4 (List.mem_of_getElem? (i := 22) rfl))) rfl
set_option maxRecDepth 100000 in
theorem jwO_X6_hasPlace : Cond.code (mX6_hasPlace).1 (mX6_hasPlace).2.1 (mX6_hasPlace).2.2.1 (mX6_hasPlace).2.2.2 ∈ jT := jT_in (List.mem_append_right _ (jm_4 (List.mem_of_getElem? (i := 23) rfl))) rfl
set_option maxRecDepth 100000 in
theorem jwC_X6_36 : Cond.constant RX6 36 (-1000000005) ∈ jT := jT_in (List.mem_append_right _ (jm_4 (List.mem_of_getElem? (i := 25) rfl))) rfl
set_option maxRecDepth 100000 in
theorem jwM_X3_147 : Cond.methodLink RX3 147 yX3_daysTaken ∈ jT := jT_in (List.mem_append_right _ (jm_4 (List.mem_of_getElem? (i := 26) rfl))) rfl
set_option maxRecDepth 100000 in
theorem jwM_X3_154 : Cond.methodLink RX3 154 Lib.Math.abs.name ∈ jT := jT_in (List.mem_append_right _ (jm_4 (List.mem_of_getElem? (i := 27) rfl))) rfl
set_option maxRecDepth 100000 in
theorem jwS_abs : Cond.static Lib.Math.abs.name ∈ jT := jT_in (List.mem_append_right _ (jm_4 (List.mem_of_getElem? (i := 28) rfl))) rfl
set_option maxRecDepth 100000 in
theorem jwO_abs : Cond.code Lib.Math.abs.name Lib.Math.abs.code 1 (some .int) ∈ jT := jT_in (List.mem_append_right _ (jm_4 (List.mem_of_getElem? (i := 29) rfl))) rfl
set_option maxRecDepth 100000 in
theorem jwM_L_130 : Cond.methodLink RL 130 yX10_fame ∈ jT := jT_in (List.mem_append_right _ (jm_4 (List.mem_of_getElem? (i := 30) rfl))) rfl
set_option maxRecDepth 100000 in
theorem jwN_X10_fame : Cond.instanceMethod yX10_fame ∈ jT := jT_in (List.mem_append_right _ (jm_4 (List.mem_of_getElem? (i := 31) rfl))) rfl
set_option maxRecDepth 100000 in
theorem jwX_X10_fame : Cond.selects RX10 yX10_fame yX10_fame ∈ jT := jT_in (List.mem_append_right _ (jm_4 (List.mem_of_getElem? (i := 32) rfl))) rfl
set_option maxRecDepth 100000 in
theorem jwO_X10_fame : Cond.code (mX10_fame).1 (mX10_fame).2.1 (mX10_fame).2.2.1 (mX10_fame).2.2.2 ∈ jT := jT_in (List.mem_append_right _ (jm_4 (List.mem_of_getElem? (i := 33) rfl))) rfl
set_option maxRecDepth 100000 in
theorem jwM_X10_270 : Cond.methodLink RX10 270 yX3_fameOf ∈ jT := jT_in (List.mem_append_right _ (jm_4 (List.mem_of_getElem? (i := 34) rfl))) rfl
set_option maxRecDepth 100000 in
theorem jwN_X3_fameOf : Cond.instanceMethod yX3_fameOf ∈ jT := jT_in (List.mem_append_right _ (jm_4 (List.mem_of_getElem? (i := 35) rfl))) rfl
set_option maxRecDepth 100000 in
theorem jwX_X3_fameOf : Cond.selects RX3 yX3_fameOf yX3_fameOf ∈ jT := jT_in (List.mem_append_right _ (jm_4 (List.mem_of_getElem? (i := 36) rfl))) rfl
set_option maxRecDepth 100000 in
theorem jwO_X3_fameOf : Cond.code (mX3_fameOf).1 (mX3_fameOf).2.1 (mX3_fameOf).2.2.1 (mX3_fameOf).2.2.2 ∈ jT := jT_in (List.mem_append_right _ (jm_4 (List.mem_of_getElem? (i := 37) rfl))) rfl
set_option maxRecDepth 100000 in
theorem jwM_L_134 : Cond.methodLink RL 134 yX10_fine ∈ jT := jT_in (List.mem_append_right _ (jm_4 (List.mem_of_getElem? (i := 38) rfl))) rfl
set_option maxRecDepth 100000 in
theorem jwN_X10_fine : Cond.instanceMethod yX10_fine ∈ jT := jT_in (List.mem_append_right _ (jm_4 (List.mem_of_getElem? (i := 39) rfl))) rfl
set_option maxRecDepth 100000 in
theorem jwX_X10_fine : Cond.selects RX10 yX10_fine yX10_fine ∈ jT := jT_in (List.mem_append_right _ (jm_4 (List.mem_of_getElem? (i := 40) rfl))) rfl
set_option maxRecDepth 100000 in
theorem jwO_X10_fine : Cond.code (mX10_fine).1 (mX10_fine).2.1 (mX10_fine).2.2.1 (mX10_fine).2.2.2 ∈ jT := jT_in (List.mem_append_right _ (jm_4 (List.mem_of_getElem? (i := 41) rfl))) rfl
set_option maxRecDepth 100000 in
theorem jwM_X10_274 : Cond.methodLink RX10 274 yX3_fineNow ∈ jT := jT_in (List.mem_append_right _ (jm_4 (List.mem_of_getElem? (i := 42) rfl))) rfl
set_option maxRecDepth 100000 in
theorem jwN_X3_fineNow : Cond.instanceMethod yX3_fineNow ∈ jT := jT_in (List.mem_append_right _ (jm_4 (List.mem_of_getElem? (i := 43) rfl))) rfl
set_option maxRecDepth 100000 in
theorem jwX_X3_fineNow : Cond.selects RX3 yX3_fineNow yX3_fineNow ∈ jT := jT_in (List.mem_append_right _ (jm_4 (List.mem_of_getElem? (i := 44) rfl))) rfl
set_option maxRecDepth 100000 in
theorem jwO_X3_fineNow : Cond.code (mX3_fineNow).1 (mX3_fineNow).2.1 (mX3_fineNow).2.2.1 (mX3_fineNow).2.2.2 ∈ jT := jT_in (List.mem_append_right _ (jm_4 (List.mem_of_getElem? (i := 45) rfl))) rfl
set_option maxRecDepth 100000 in
theorem jwM_L_138 : Cond.methodLink RL 138 yX10_feed ∈ jT := jT_in (List.mem_append_right _ (jm_4 (List.mem_of_getElem? (i := 46) rfl))) rfl
set_option maxRecDepth 100000 in
theorem jwN_X10_feed : Cond.instanceMethod yX10_feed ∈ jT := jT_in (List.mem_append_right _ (jm_4 (List.mem_of_getElem? (i := 47) rfl))) rfl
set_option maxRecDepth 100000 in
theorem jwX_X10_feed : Cond.selects RX10 yX10_feed yX10_feed ∈ jT := jT_in (List.mem_append_right _ (jm_4 (List.mem_of_getElem? (i := 48) rfl))) rfl
set_option maxRecDepth 100000 in
theorem jwO_X10_feed : Cond.code (mX10_feed).1 (mX10_feed).2.1 (mX10_feed).2.2.1 (mX10_feed).2.2.2 ∈ jT := jT_in (List.mem_append_right _ (jm_4 (List.mem_of_getElem? (i := 49) rfl))) rfl
set_option maxRecDepth 100000 in
theorem jwM_X10_278 : Cond.methodLink RX10 278 yX8_addNumber ∈ jT := jT_in (List.mem_append_right _ (jm_4 (List.mem_of_getElem? (i := 50) rfl))) rfl
set_option maxRecDepth 100000 in
theorem jwN_X8_addNumber : Cond.instanceMethod yX8_addNumber ∈ jT := jT_in (List.mem_append_right _ (jm_4 (List.mem_of_getElem? (i := 51) rfl))) rfl
set_option maxRecDepth 100000 in
theorem jwX_X8_addNumber : Cond.selects RX8 yX8_addNumber yX8_addNumber ∈ jT := jT_in (List.mem_append_right _ (jm_4 (List.mem_of_getElem? (i := 52) rfl))) rfl
set_option maxRecDepth 100000 in
theorem jwO_X8_addNumber : Cond.code (mX8_addNumber).1 (mX8_addNumber).2.1 (mX8_addNumber).2.2.1 (mX8_addNumber).2.2.2 ∈ jT := jT_in (List.mem_append_right _ (jm_4 (List.mem_of_getElem? (i := 53) rfl))) rfl
set_option maxRecDepth 100000 in
theorem jwM_L_142 : Cond.methodLink RL 142 yX10_trim ∈ jT := jT_in (List.mem_append_right _ (jm_4 (List.mem_of_getElem? (i := 55) rfl))) rfl
set_option maxRecDepth 100000 in
theorem jwN_X10_trim : Cond.instanceMethod yX10_trim ∈ jT := jT_in (List.mem_append_right _ (jm_4 (List.mem_of_getElem? (i := 56) rfl))) rfl
set_option maxRecDepth 100000 in
theorem jwX_X10_trim : Cond.selects RX10 yX10_trim yX10_trim ∈ jT := jT_in (List.mem_append_right _ (jm_4 (List.mem_of_getElem? (i := 57) rfl))) rfl
set_option maxRecDepth 100000 in
theorem jwO_X10_trim : Cond.code (mX10_trim).1 (mX10_trim).2.1 (mX10_trim).2.2.1 (mX10_trim).2.2.2 ∈ jT := jT_in (List.mem_append_right _ (jm_4 (List.mem_of_getElem? (i := 58) rfl))) rfl
set_option maxRecDepth 100000 in
theorem jwM_L_146 : Cond.methodLink RL 146 yX10_text ∈ jT := jT_in (List.mem_append_right _ (jm_4 (List.mem_of_getElem? (i := 59) rfl))) rfl
set_option maxRecDepth 100000 in
theorem jwN_X10_text : Cond.instanceMethod yX10_text ∈ jT := jT_in (List.mem_append_right _ (jm_4 (List.mem_of_getElem? (i := 60) rfl))) rfl
set_option maxRecDepth 100000 in
theorem jwX_X10_text : Cond.selects RX10 yX10_text yX10_text ∈ jT := jT_in (List.mem_append_right _ (jm_4 (List.mem_of_getElem? (i := 61) rfl))) rfl
set_option maxRecDepth 100000 in
theorem jwO_X10_text : Cond.code (mX10_text).1 (mX10_text).2.1 (mX10_text).2.2.1 (mX10_text).2.2.2 ∈ jT := jT_in (List.mem_append_right _ (jm_4 (List.mem_of_getElem? (i := 62) rfl))) rfl
set_option maxRecDepth 100000 in
theorem jwM_X10_281 : Cond.methodLink RX10 281 yX8_isText ∈ jT := jT_in (List.mem_append_right _ (jm_4 (List.mem_of_getElem? (i := 63) rfl))) rfl
set_option maxRecDepth 100000 in
theorem jwN_X8_isText : Cond.instanceMethod yX8_isText ∈ jT := jT_in (List.mem_append_right _ (jm_4 (List.mem_of_getElem? (i := 64) rfl))) rfl
set_option maxRecDepth 100000 in
theorem jwX_X8_isText : Cond.selects RX8 yX8_isText yX8_isText ∈ jT := jT_in (List.mem_append_right _ (jm_4 (List.mem_of_getElem? (i := 65) rfl))) rfl
set_option maxRecDepth 100000 in
theorem jwO_X8_isText : Cond.code (mX8_isText).1 (mX8_isText).2.1 (mX8_isText).2.2.1 (mX8_isText).2.2.2 ∈ jT := jT_in (List.mem_append_right _ (jm_4 (List.mem_of_getElem? (i := 66) rfl))) rfl
set_option maxRecDepth 100000 in
theorem jwM_X8_38 : Cond.methodLink RX8 38 yX8_step ∈ jT := jT_in (List.mem_append_right _ (jm_4 (List.mem_of_getElem? (i := 67) rfl))) rfl
set_option maxRecDepth 100000 in
theorem jwN_X8_step : Cond.instanceMethod yX8_step ∈ jT := jT_in (List.mem_append_right _ (jm_4 (List.mem_of_getElem? (i := 69) rfl))) rfl
set_option maxRecDepth 100000 in
theorem jwO_X8_step : Cond.code (mX8_step).1 (mX8_step).2.1 (mX8_step).2.2.1 (mX8_step).2.2.2 ∈ jT := jT_in (List.mem_append_right _ (jm_4 (List.mem_of_getElem? (i := 70) rfl))) rfl
set_option maxRecDepth 100000 in
theorem jwM_X8_66 : Cond.methodLink RX8 66 yX8_byteAt ∈ jT := jT_in (List.mem_append_right _ (jm_4 (List.mem_of_getElem? (i := 71) rfl))) rfl
set_option maxRecDepth 100000 in
theorem jwN_X8_byteAt : Cond.instanceMethod yX8_byteAt ∈ jT := jT_in (List.mem_append_right _ (jm_4 (List.mem_of_getElem? (i := 73) rfl))) rfl
set_option maxRecDepth 100000 in
theorem jwO_X8_byteAt : Cond.code (mX8_byteAt).1 (mX8_byteAt).2.1 (mX8_byteAt).2.2.1 (mX8_byteAt).2.2.2 ∈ jT := jT_in (List.mem_append_right _ (jm_4 (List.mem_of_getElem? (i := 74) rfl))) rfl
set_option maxRecDepth 100000 in
theorem jwM_X8_70 : Cond.methodLink RX8 70 yX8_sortAt ∈ jT := jT_in (List.mem_append_right _ (jm_4 (List.mem_of_getElem? (i := 75) rfl))) rfl
set_option maxRecDepth 100000 in
theorem jwN_X8_sortAt : Cond.instanceMethod yX8_sortAt ∈ jT := jT_in (List.mem_append_right _ (jm_4 (List.mem_of_getElem? (i := 77) rfl))) rfl
set_option maxRecDepth 100000 in
theorem jwO_X8_sortAt : Cond.code (mX8_sortAt).1 (mX8_sortAt).2.1 (mX8_sortAt).2.2.1 (mX8_sortAt).2.2.2 ∈ jT := jT_in (List.mem_append_right _ (jm_4 (List.mem_of_getElem? (i := 78) rfl))) rfl
set_option maxRecDepth 100000 in
theorem jwM_X8_41 : Cond.methodLink RX8 41 yX8_keyInHand ∈ jT := jT_in (List.mem_append_right _ (jm_4 (List.mem_of_getElem? (i := 79) rfl))) rfl
set_option maxRecDepth 100000 in
theorem jwN_X8_keyInHand : Cond.instanceMethod yX8_keyInHand ∈ jT := jT_in (List.mem_append_right _ (jm_4 (List.mem_of_getElem? (i := 81) rfl))) rfl
set_option maxRecDepth 100000 in
theorem jwO_X8_keyInHand : Cond.code (mX8_keyInHand).1 (mX8_keyInHand).2.1 (mX8_keyInHand).2.2.1 (mX8_keyInHand).2.2.2 ∈ jT := jT_in (List.mem_append_right _ (jm_4 (List.mem_of_getElem? (i := 82) rfl))) rfl
set_option maxRecDepth 100000 in
theorem jwM_X8_77 : Cond.methodLink RX8 77 yX8_wordOf ∈ jT := jT_in (List.mem_append_right _ (jm_4 (List.mem_of_getElem? (i := 83) rfl))) rfl
set_option maxRecDepth 100000 in
theorem jwS_X8_wordOf : Cond.static yX8_wordOf ∈ jT := jT_in (List.mem_append_right _ (jm_4 (List.mem_of_getElem? (i := 84) rfl))) rfl
set_option maxRecDepth 100000 in
theorem jwO_X8_wordOf : Cond.code (mX8_wordOf).1 (mX8_wordOf).2.1 (mX8_wordOf).2.2.1 (mX8_wordOf).2.2.2 ∈ jT := jT_in (List.mem_append_right _ (jm_4 (List.mem_of_getElem? (i := 85) rfl))) rfl
set_option maxRecDepth 100000 in
theorem jwM_X8_81 : Cond.methodLink RX8 81 yX8_isWordInHand ∈ jT := jT_in (List.mem_append_right _ (jm_4 (List.mem_of_getElem? (i := 89) rfl))) rfl
set_option maxRecDepth 100000 in
theorem jwN_X8_isWordInHand : Cond.instanceMethod yX8_isWordInHand ∈ jT := jT_in (List.mem_append_right _ (jm_4 (List.mem_of_getElem? (i := 91) rfl))) rfl
set_option maxRecDepth 100000 in
theorem jwO_X8_isWordInHand : Cond.code (mX8_isWordInHand).1 (mX8_isWordInHand).2.1 (mX8_isWordInHand).2.2.1 (mX8_isWordInHand).2.2.2 ∈ jT := jT_in (List.mem_append_right _ (jm_4 (List.mem_of_getElem? (i := 92) rfl))) rfl
set_option maxRecDepth 100000 in
theorem jwM_X8_85 : Cond.methodLink RX8 85 yJ0_length_8abf5 ∈ jT := jT_in (List.mem_append_right _ (jm_4 (List.mem_of_getElem? (i := 93) rfl))) rfl
set_option maxRecDepth 100000 in
theorem jwN_J0_length_8abf5 : Cond.instanceMethod yJ0_length_8abf5 ∈ jT := jT_in (List.mem_append_right _ (jm_4 (List.mem_of_getElem? (i := 94) rfl))) rfl
set_option maxRecDepth 100000 in
theorem jwX_J0_length_8abf5 : Cond.selects RJ0 yJ0_length_8abf5 yJ0_length_8abf5 ∈ jT := jT_in (List.mem_append_right _ (jm_4 (List.mem_of_getElem? (i := 95) rfl))) rfl
set_option maxRecDepth 100000 in
theorem jwO_J0_length_8abf5 : Cond.code (mJ0_length_8abf5).1 (mJ0_length_8abf5).2.1 (mJ0_length_8abf5).2.2.1 (mJ0_length_8abf5).2.2.2 ∈ jT := jT_in (List.mem_append_right _ (jm_4 (List.mem_of_getElem? (i := 96) rfl))) rfl
set_option maxRecDepth 100000 in
theorem jwM_J0_335 : Cond.methodLink RJ0 335 yJ0_coder_7d493 ∈ jT := jT_in (List.mem_append_right _ (jm_4 (List.mem_of_getElem? (i := 97) rfl))) rfl
set_option maxRecDepth 100000 in
theorem jwN_J0_coder_7d493 : Cond.instanceMethod yJ0_coder_7d493 ∈ jT := jT_in (List.mem_append_right _ (jm_4 (List.mem_of_getElem? (i := 98) rfl))) rfl
set_option maxRecDepth 100000 in
theorem jwX_J0_coder_7d493 : Cond.selects RJ0 yJ0_coder_7d493 yJ0_coder_7d493 ∈ jT := jT_in (List.mem_append_right _ (jm_4 (List.mem_of_getElem? (i := 99) rfl))) rfl
set_option maxRecDepth 100000 in
theorem jwO_J0_coder_7d493 : Cond.code (mJ0_coder_7d493).1 (mJ0_coder_7d493).2.1 (mJ0_coder_7d493).2.2.1 (mJ0_coder_7d493).2.2.2 ∈ jT := jT_in (List.mem_append_right _ (jm_4 (List.mem_of_getElem? (i := 100) rfl))) rfl
set_option maxRecDepth 100000 in
theorem jwF_J0_38 : Cond.fieldLink RJ0 38 RJ0 "COMPACT_STRINGS" "Z" ∈ jT := jT_in (List.mem_append_right _ (jm_4 (List.mem_of_getElem? (i := 101) rfl))) rfl
set_option maxRecDepth 100000 in
theorem jwM_X8_90 : Cond.methodLink RX8 90 yJ0_charAt_5068e ∈ jT := jT_in (List.mem_append_right _ (jm_4 (List.mem_of_getElem? (i := 103) rfl))) rfl
set_option maxRecDepth 100000 in
theorem jwN_J0_charAt_5068e : Cond.instanceMethod yJ0_charAt_5068e ∈ jT := jT_in (List.mem_append_right _ (jm_4 (List.mem_of_getElem? (i := 104) rfl))) rfl
set_option maxRecDepth 100000 in
theorem jwX_J0_charAt_5068e : Cond.selects RJ0 yJ0_charAt_5068e yJ0_charAt_5068e ∈ jT := jT_in (List.mem_append_right _ (jm_4 (List.mem_of_getElem? (i := 105) rfl))) rfl
set_option maxRecDepth 100000 in
theorem jwO_J0_charAt_5068e : Cond.code (mJ0_charAt_5068e).1 (mJ0_charAt_5068e).2.1 (mJ0_charAt_5068e).2.2.1 (mJ0_charAt_5068e).2.2.2 ∈ jT := jT_in (List.mem_append_right _ (jm_4 (List.mem_of_getElem? (i := 106) rfl))) rfl
set_option maxRecDepth 100000 in
theorem jwM_J0_492 : Cond.methodLink RJ0 492 yJ0_isLatin1_aae02 ∈ jT := jT_in (List.mem_append_right _ (jm_4 (List.mem_of_getElem? (i := 107) rfl))) rfl
set_option maxRecDepth 100000 in
theorem jwN_J0_isLatin1_aae02 : Cond.instanceMethod yJ0_isLatin1_aae02 ∈ jT := jT_in (List.mem_append_right _ (jm_4 (List.mem_of_getElem? (i := 108) rfl))) rfl
set_option maxRecDepth 100000 in
theorem jwX_J0_isLatin1_aae02 : Cond.selects RJ0 yJ0_isLatin1_aae02 yJ0_isLatin1_aae02 ∈ jT := jT_in (List.mem_append_right _ (jm_4 (List.mem_of_getElem? (i := 109) rfl))) rfl
set_option maxRecDepth 100000 in
theorem jwO_J0_isLatin1_aae02 : Cond.code (mJ0_isLatin1_aae02).1 (mJ0_isLatin1_aae02).2.1 (mJ0_isLatin1_aae02).2.2.1 (mJ0_isLatin1_aae02).2.2.2 ∈ jT := jT_in (List.mem_append_right _ (jm_4 (List.mem_of_getElem? (i := 110) rfl))) rfl
set_option maxRecDepth 100000 in
theorem jwM_J0_495 : Cond.methodLink RJ0 495 yJ1_charAt_3b067 ∈ jT := jT_in (List.mem_append_right _ (jm_4 (List.mem_of_getElem? (i := 111) rfl))) rfl
set_option maxRecDepth 100000 in
theorem jwS_J1_charAt_3b067 : Cond.static yJ1_charAt_3b067 ∈ jT := jT_in (List.mem_append_right _ (jm_4 (List.mem_of_getElem? (i := 112) rfl))) rfl
set_option maxRecDepth 100000 in
theorem jwO_J1_charAt_3b067 : Cond.code (mJ1_charAt_3b067).1 (mJ1_charAt_3b067).2.1 (mJ1_charAt_3b067).2.2.1 (mJ1_charAt_3b067).2.2.2 ∈ jT := jT_in (List.mem_append_right _ (jm_4 (List.mem_of_getElem? (i := 113) rfl))) rfl
set_option maxRecDepth 100000 in
theorem jwM_J1_9 : Cond.methodLink RJ1 9 yJ0_checkIndex_df160 ∈ jT := jT_in (List.mem_append_right _ (jm_4 (List.mem_of_getElem? (i := 114) rfl))) rfl
set_option maxRecDepth 100000 in
theorem jwS_J0_checkIndex_df160 : Cond.static yJ0_checkIndex_df160 ∈ jT := jT_in (List.mem_append_right _ (jm_4 (List.mem_of_getElem? (i := 115) rfl))) rfl
set_option maxRecDepth 100000 in
theorem jwO_J0_checkIndex_df160 : Cond.code (mJ0_checkIndex_df160).1 (mJ0_checkIndex_df160).2.1 (mJ0_checkIndex_df160).2.2.1 (mJ0_checkIndex_df160).2.2.2 ∈ jT := jT_in (List.mem_append_right _ (jm_4 (List.mem_of_getElem? (i := 116) rfl))) rfl
set_option maxRecDepth 100000 in
theorem jwF_J0_1053 : Cond.fieldLink RJ0 1053 RJ3 "SIOOBE_FORMATTER" "Ljava/util/function/BiFunction;" ∈ jT := jT_in (List.mem_append_right _ (jm_4 (List.mem_of_getElem? (i := 117) rfl))) rfl
set_option maxRecDepth 100000 in
theorem jwM_J0_1059 : Cond.methodLink RJ0 1059 yJ3_checkIndex_8e157 ∈ jT := jT_in (List.mem_append_right _ (jm_4 (List.mem_of_getElem? (i := 119) rfl))) rfl
set_option maxRecDepth 100000 in
theorem jwS_J3_checkIndex_8e157 : Cond.static yJ3_checkIndex_8e157 ∈ jT := jT_in (List.mem_append_right _ (jm_4 (List.mem_of_getElem? (i := 120) rfl))) rfl
set_option maxRecDepth 100000 in
theorem jwO_J3_checkIndex_8e157 : Cond.code (mJ3_checkIndex_8e157).1 (mJ3_checkIndex_8e157).2.1 (mJ3_checkIndex_8e157).2.2.1 (mJ3_checkIndex_8e157).2.2.2 ∈ jT := jT_in (List.mem_append_right _ (jm_4 (List.mem_of_getElem? (i := 121) rfl))) rfl
set_option maxRecDepth 100000 in
theorem jwM_X8_48 : Cond.methodLink RX8 48 yX8_readsChain ∈ jT := jT_in (List.mem_append_right _ (jm_4 (List.mem_of_getElem? (i := 141) rfl))) rfl
set_option maxRecDepth 100000 in
theorem jwN_X8_readsChain : Cond.instanceMethod yX8_readsChain ∈ jT := jT_in (List.mem_append_right _ (jm_4 (List.mem_of_getElem? (i := 143) rfl))) rfl
set_option maxRecDepth 100000 in
theorem jwO_X8_readsChain : Cond.code (mX8_readsChain).1 (mX8_readsChain).2.1 (mX8_readsChain).2.2.1 (mX8_readsChain).2.2.2 ∈ jT := jT_in (List.mem_append_right _ (jm_4 (List.mem_of_getElem? (i := 144) rfl))) rfl
set_option maxRecDepth 100000 in
theorem jwM_X8_106 : Cond.methodLink RX8 106 yX8_readsPiece ∈ jT := jT_in (List.mem_append_right _ (jm_4 (List.mem_of_getElem? (i := 145) rfl))) rfl
set_option maxRecDepth 100000 in
theorem jwN_X8_readsPiece : Cond.instanceMethod yX8_readsPiece ∈ jT := jT_in (List.mem_append_right _ (jm_4 (List.mem_of_getElem? (i := 147) rfl))) rfl
set_option maxRecDepth 100000 in
theorem jwO_X8_readsPiece : Cond.code (mX8_readsPiece).1 (mX8_readsPiece).2.1 (mX8_readsPiece).2.2.1 (mX8_readsPiece).2.2.2 ∈ jT := jT_in (List.mem_append_right _ (jm_4 (List.mem_of_getElem? (i := 148) rfl))) rfl
set_option maxRecDepth 100000 in
theorem jwM_X8_116 : Cond.methodLink RX8 116 yX8_readsOperand ∈ jT := jT_in (List.mem_append_right _ (jm_4 (List.mem_of_getElem? (i := 149) rfl))) rfl
set_option maxRecDepth 100000 in
theorem jwN_X8_readsOperand : Cond.instanceMethod yX8_readsOperand ∈ jT := jT_in (List.mem_append_right _ (jm_4 (List.mem_of_getElem? (i := 151) rfl))) rfl
set_option maxRecDepth 100000 in
theorem jwO_X8_readsOperand : Cond.code (mX8_readsOperand).1 (mX8_readsOperand).2.1 (mX8_readsOperand).2.2.1 (mX8_readsOperand).2.2.2 ∈ jT := jT_in (List.mem_append_right _ (jm_4 (List.mem_of_getElem? (i := 152) rfl))) rfl
set_option maxRecDepth 100000 in
theorem jwM_X8_124 : Cond.methodLink RX8 124 yX8_numberInHand ∈ jT := jT_in (List.mem_append_right _ (jm_4 (List.mem_of_getElem? (i := 153) rfl))) rfl
set_option maxRecDepth 100000 in
theorem jwN_X8_numberInHand : Cond.instanceMethod yX8_numberInHand ∈ jT := jT_in (List.mem_append_right _ (jm_4 (List.mem_of_getElem? (i := 155) rfl))) rfl
set_option maxRecDepth 100000 in
theorem jwO_X8_numberInHand : Cond.code (mX8_numberInHand).1 (mX8_numberInHand).2.1 (mX8_numberInHand).2.2.1 (mX8_numberInHand).2.2.2 ∈ jT := jT_in (List.mem_append_right _ (jm_4 (List.mem_of_getElem? (i := 156) rfl))) rfl
set_option maxRecDepth 100000 in
theorem jwM_X8_127 : Cond.methodLink RX8 127 yX8_nameInHand ∈ jT := jT_in (List.mem_append_right _ (jm_4 (List.mem_of_getElem? (i := 157) rfl))) rfl
set_option maxRecDepth 100000 in
theorem jwN_X8_nameInHand : Cond.instanceMethod yX8_nameInHand ∈ jT := jT_in (List.mem_append_right _ (jm_4 (List.mem_of_getElem? (i := 159) rfl))) rfl
set_option maxRecDepth 100000 in
theorem jwO_X8_nameInHand : Cond.code (mX8_nameInHand).1 (mX8_nameInHand).2.1 (mX8_nameInHand).2.2.1 (mX8_nameInHand).2.2.2 ∈ jT := jT_in (List.mem_append_right _ (jm_4 (List.mem_of_getElem? (i := 160) rfl))) rfl
set_option maxRecDepth 100000 in
theorem jwM_X8_130 : Cond.methodLink RX8 130 yX8_namesOf ∈ jT := jT_in (List.mem_append_right _ (jm_4 (List.mem_of_getElem? (i := 161) rfl))) rfl
set_option maxRecDepth 100000 in
theorem jwS_X8_namesOf : Cond.static yX8_namesOf ∈ jT := jT_in (List.mem_append_right _ (jm_4 (List.mem_of_getElem? (i := 162) rfl))) rfl
set_option maxRecDepth 100000 in
theorem jwO_X8_namesOf : Cond.code (mX8_namesOf).1 (mX8_namesOf).2.1 (mX8_namesOf).2.2.1 (mX8_namesOf).2.2.2 ∈ jT := jT_in (List.mem_append_right _ (jm_4 (List.mem_of_getElem? (i := 163) rfl))) rfl
set_option maxRecDepth 100000 in
theorem jwM_X8_133 : Cond.methodLink RX8 133 yJ0_indexOf_0f7a4 ∈ jT := jT_in (List.mem_append_right _ (jm_4 (List.mem_of_getElem? (i := 167) rfl))) rfl
set_option maxRecDepth 100000 in
theorem jwN_J0_indexOf_0f7a4 : Cond.instanceMethod yJ0_indexOf_0f7a4 ∈ jT := jT_in (List.mem_append_right _ (jm_4 (List.mem_of_getElem? (i := 168) rfl))) rfl
set_option maxRecDepth 100000 in
theorem jwX_J0_indexOf_0f7a4 : Cond.selects RJ0 yJ0_indexOf_0f7a4 yJ0_indexOf_0f7a4 ∈ jT := jT_in (List.mem_append_right _ (jm_4 (List.mem_of_getElem? (i := 169) rfl))) rfl
set_option maxRecDepth 100000 in
theorem jwO_J0_indexOf_0f7a4 : Cond.code (mJ0_indexOf_0f7a4).1 (mJ0_indexOf_0f7a4).2.1 (mJ0_indexOf_0f7a4).2.2.1 (mJ0_indexOf_0f7a4).2.2.2 ∈ jT := jT_in (List.mem_append_right _ (jm_4 (List.mem_of_getElem? (i := 170) rfl))) rfl
set_option maxRecDepth 100000 in
theorem jwM_J0_633 : Cond.methodLink RJ0 633 yJ0_indexOf_7cf53 ∈ jT := jT_in (List.mem_append_right _ (jm_4 (List.mem_of_getElem? (i := 171) rfl))) rfl
set_option maxRecDepth 100000 in
theorem jwN_J0_indexOf_7cf53 : Cond.instanceMethod yJ0_indexOf_7cf53 ∈ jT := jT_in (List.mem_append_right _ (jm_4 (List.mem_of_getElem? (i := 172) rfl))) rfl
set_option maxRecDepth 100000 in
theorem jwX_J0_indexOf_7cf53 : Cond.selects RJ0 yJ0_indexOf_7cf53 yJ0_indexOf_7cf53 ∈ jT := jT_in (List.mem_append_right _ (jm_4 (List.mem_of_getElem? (i := 173) rfl))) rfl
set_option maxRecDepth 100000 in
theorem jwO_J0_indexOf_7cf53 : Cond.code (mJ0_indexOf_7cf53).1 (mJ0_indexOf_7cf53).2.1 (mJ0_indexOf_7cf53).2.2.1 (mJ0_indexOf_7cf53).2.2.2 ∈ jT := jT_in (List.mem_append_right _ (jm_4 (List.mem_of_getElem? (i := 174) rfl))) rfl
set_option maxRecDepth 100000 in
theorem jwM_J0_505 : Cond.methodLink RJ0 505 yJ0_length_8abf5 ∈ jT := jT_in (List.mem_append_right _ (jm_4 (List.mem_of_getElem? (i := 175) rfl))) rfl
set_option maxRecDepth 100000 in
theorem jwM_J0_637 : Cond.methodLink RJ0 637 yJ1_indexOf_4cfef ∈ jT := jT_in (List.mem_append_right _ (jm_4 (List.mem_of_getElem? (i := 176) rfl))) rfl
set_option maxRecDepth 100000 in
theorem jwS_J1_indexOf_4cfef : Cond.static yJ1_indexOf_4cfef ∈ jT := jT_in (List.mem_append_right _ (jm_4 (List.mem_of_getElem? (i := 177) rfl))) rfl
set_option maxRecDepth 100000 in
theorem jwO_J1_indexOf_4cfef : Cond.code (mJ1_indexOf_4cfef).1 (mJ1_indexOf_4cfef).2.1 (mJ1_indexOf_4cfef).2.2.1 (mJ1_indexOf_4cfef).2.2.2 ∈ jT := jT_in (List.mem_append_right _ (jm_4 (List.mem_of_getElem? (i := 178) rfl))) rfl
set_option maxRecDepth 100000 in
theorem jwM_J1_88 : Cond.methodLink RJ1 88 yJ1_canEncode_9a6ad ∈ jT := jT_in (List.mem_append_right _ (jm_4 (List.mem_of_getElem? (i := 179) rfl))) rfl
set_option maxRecDepth 100000 in
theorem jwS_J1_canEncode_9a6ad : Cond.static yJ1_canEncode_9a6ad ∈ jT := jT_in (List.mem_append_right _ (jm_4 (List.mem_of_getElem? (i := 180) rfl))) rfl
set_option maxRecDepth 100000 in
theorem jwO_J1_canEncode_9a6ad : Cond.code (mJ1_canEncode_9a6ad).1 (mJ1_canEncode_9a6ad).2.1 (mJ1_canEncode_9a6ad).2.2.1 (mJ1_canEncode_9a6ad).2.2.2 ∈ jT := jT_in (List.mem_append_right _ (jm_4 (List.mem_of_getElem? (i := 181) rfl))) rfl
set_option maxRecDepth 100000 in
theorem jwM_J1_92 : Cond.methodLink RJ1 92 Lib.Math.max.name ∈ jT := jT_in (List.mem_append_right _ (jm_4 (List.mem_of_getElem? (i := 182) rfl))) rfl
set_option maxRecDepth 100000 in
theorem jwM_J1_38 : Cond.methodLink RJ1 38 Lib.Math.min.name ∈ jT := jT_in (List.mem_append_right _ (jm_4 (List.mem_of_getElem? (i := 183) rfl))) rfl
set_option maxRecDepth 100000 in
theorem jwM_J1_95 : Cond.methodLink RJ1 95 yJ1_indexOfChar_4cfef ∈ jT := jT_in (List.mem_append_right _ (jm_4 (List.mem_of_getElem? (i := 184) rfl))) rfl
set_option maxRecDepth 100000 in
theorem jwS_J1_indexOfChar_4cfef : Cond.static yJ1_indexOfChar_4cfef ∈ jT := jT_in (List.mem_append_right _ (jm_4 (List.mem_of_getElem? (i := 185) rfl))) rfl
set_option maxRecDepth 100000 in
theorem jwO_J1_indexOfChar_4cfef : Cond.code (mJ1_indexOfChar_4cfef).1 (mJ1_indexOfChar_4cfef).2.1 (mJ1_indexOfChar_4cfef).2.2.1 (mJ1_indexOfChar_4cfef).2.2.2 ∈ jT := jT_in (List.mem_append_right _ (jm_4 (List.mem_of_getElem? (i := 186) rfl))) rfl
set_option maxRecDepth 100000 in
theorem jwM_X8_112 : Cond.methodLink RX8 112 yX8_write ∈ jT := jT_in (List.mem_append_right _ (jm_4 (List.mem_of_getElem? (i := 222) rfl))) rfl
set_option maxRecDepth 100000 in
theorem jwN_X8_write : Cond.instanceMethod yX8_write ∈ jT := jT_in (List.mem_append_right _ (jm_4 (List.mem_of_getElem? (i := 224) rfl))) rfl
set_option maxRecDepth 100000 in
theorem jwO_X8_write : Cond.code (mX8_write).1 (mX8_write).2.1 (mX8_write).2.2.1 (mX8_write).2.2.2 ∈ jT := jT_in (List.mem_append_right _ (jm_4 (List.mem_of_getElem? (i := 225) rfl))) rfl
set_option maxRecDepth 100000 in
theorem jwM_X8_120 : Cond.methodLink RX8 120 yX8_isInHand ∈ jT := jT_in (List.mem_append_right _ (jm_4 (List.mem_of_getElem? (i := 226) rfl))) rfl
set_option maxRecDepth 100000 in
theorem jwN_X8_isInHand : Cond.instanceMethod yX8_isInHand ∈ jT := jT_in (List.mem_append_right _ (jm_4 (List.mem_of_getElem? (i := 228) rfl))) rfl
set_option maxRecDepth 100000 in
theorem jwO_X8_isInHand : Cond.code (mX8_isInHand).1 (mX8_isInHand).2.1 (mX8_isInHand).2.2.1 (mX8_isInHand).2.2.2 ∈ jT := jT_in (List.mem_append_right _ (jm_4 (List.mem_of_getElem? (i := 229) rfl))) rfl
set_option maxRecDepth 100000 in
theorem jwM_X8_109 : Cond.methodLink RX8 109 yX8_levelInHand ∈ jT := jT_in (List.mem_append_right _ (jm_4 (List.mem_of_getElem? (i := 230) rfl))) rfl
set_option maxRecDepth 100000 in
theorem jwN_X8_levelInHand : Cond.instanceMethod yX8_levelInHand ∈ jT := jT_in (List.mem_append_right _ (jm_4 (List.mem_of_getElem? (i := 232) rfl))) rfl
set_option maxRecDepth 100000 in
theorem jwO_X8_levelInHand : Cond.code (mX8_levelInHand).1 (mX8_levelInHand).2.1 (mX8_levelInHand).2.2.1 (mX8_levelInHand).2.2.2 ∈ jT := jT_in (List.mem_append_right _ (jm_4 (List.mem_of_getElem? (i := 233) rfl))) rfl
set_option maxRecDepth 100000 in
theorem jwM_X10_290 : Cond.methodLink RX10 290 yX8_textRead ∈ jT := jT_in (List.mem_append_right _ (jm_4 (List.mem_of_getElem? (i := 234) rfl))) rfl
set_option maxRecDepth 100000 in
theorem jwN_X8_textRead : Cond.instanceMethod yX8_textRead ∈ jT := jT_in (List.mem_append_right _ (jm_4 (List.mem_of_getElem? (i := 235) rfl))) rfl
set_option maxRecDepth 100000 in
theorem jwX_X8_textRead : Cond.selects RX8 yX8_textRead yX8_textRead ∈ jT := jT_in (List.mem_append_right _ (jm_4 (List.mem_of_getElem? (i := 236) rfl))) rfl
set_option maxRecDepth 100000 in
theorem jwO_X8_textRead : Cond.code (mX8_textRead).1 (mX8_textRead).2.1 (mX8_textRead).2.2.1 (mX8_textRead).2.2.2 ∈ jT := jT_in (List.mem_append_right _ (jm_4 (List.mem_of_getElem? (i := 237) rfl))) rfl
set_option maxRecDepth 100000 in
theorem jwM_X8_52 : Cond.methodLink RX8 52 arraycopyName ∈ jT := jT_in (List.mem_append_right _ (jm_4 (List.mem_of_getElem? (i := 238) rfl))) rfl
set_option maxRecDepth 100000 in
theorem jwS_copy : Cond.static arraycopyName ∈ jT := jT_in (List.mem_append_right _ (jm_4 (List.mem_of_getElem? (i := 239) rfl))) rfl
set_option maxRecDepth 100000 in
theorem jwV_copy : Cond.native arraycopyName ∈ jT := jT_in (List.mem_append_right _ (jm_5 (List.mem_of_getElem? (i := 0) rfl))) rfl
set_option maxRecDepth 100000 in
theorem jwK_X8_58 : Cond.classLink RX8 58 RX9 ∈ jT := jT_in (List.mem_append_right _ (jm_5 (List.mem_of_getElem? (i := 1) rfl))) rfl
set_option maxRecDepth 100000 in
theorem jwI_X9 : Cond.instantiable RX9 4 ∈ jT := jT_in (List.mem_append_right _ (jm_5 (List.mem_of_getElem? (i := 2) rfl))) rfl
set_option maxRecDepth 100000 in
theorem jwM_X8_60 : Cond.methodLink RX8 60 yX9_init ∈ jT := jT_in (List.mem_append_right _ (jm_5 (List.mem_of_getElem? (i := 3) rfl))) rfl
set_option maxRecDepth 100000 in
theorem jwN_X9_init : Cond.instanceMethod yX9_init ∈ jT := jT_in (List.mem_append_right _ (jm_5 (List.mem_of_getElem? (i := 4) rfl))) rfl
set_option maxRecDepth 100000 in
theorem jwO_X9_init : Cond.code (mX9_init).1 (mX9_init).2.1 (mX9_init).2.2.1 (mX9_init).2.2.2 ∈ jT := jT_in (List.mem_append_right _ (jm_5 (List.mem_of_getElem? (i := 5) rfl))) rfl
set_option maxRecDepth 100000 in
theorem jwM_X9_3 : Cond.methodLink RX9 3 Lib.objectInit ∈ jT := jT_in (List.mem_append_right _ (jm_5 (List.mem_of_getElem? (i := 6) rfl))) rfl
set_option maxRecDepth 100000 in
theorem jwM_X9_22 : Cond.methodLink RX9 22 Lib.Math.max.name ∈ jT := jT_in (List.mem_append_right _ (jm_5 (List.mem_of_getElem? (i := 7) rfl))) rfl
set_option maxRecDepth 100000 in
theorem jwF_X9_9 : Cond.fieldLink RX9 9 RX9 "key" "I" ∈ jT := jT_in (List.mem_append_right _ (jm_5 (List.mem_of_getElem? (i := 8) rfl))) rfl
set_option maxRecDepth 100000 in
theorem jwF_X3_80 : Cond.fieldLink RX3 80 RX9 "key" "I" ∈ jT := jT_in (List.mem_append_right _ (jm_5 (List.mem_of_getElem? (i := 9) rfl))) rfl
set_option maxRecDepth 100000 in
theorem jwF_X10_302 : Cond.fieldLink RX10 302 RX9 "key" "I" ∈ jT := jT_in (List.mem_append_right _ (jm_5 (List.mem_of_getElem? (i := 10) rfl))) rfl
set_option maxRecDepth 100000 in
theorem jwF_X9_15 : Cond.fieldLink RX9 15 RX9 "operands" "I" ∈ jT := jT_in (List.mem_append_right _ (jm_5 (List.mem_of_getElem? (i := 11) rfl))) rfl
set_option maxRecDepth 100000 in
theorem jwF_X10_307 : Cond.fieldLink RX10 307 RX9 "operands" "I" ∈ jT := jT_in (List.mem_append_right _ (jm_5 (List.mem_of_getElem? (i := 12) rfl))) rfl
set_option maxRecDepth 100000 in
theorem jwF_X9_18 : Cond.fieldLink RX9 18 RX9 "code" "[I" ∈ jT := jT_in (List.mem_append_right _ (jm_5 (List.mem_of_getElem? (i := 13) rfl))) rfl
set_option maxRecDepth 100000 in
theorem jwF_X9_28 : Cond.fieldLink RX9 28 RX9 "stack" "[I" ∈ jT := jT_in (List.mem_append_right _ (jm_5 (List.mem_of_getElem? (i := 14) rfl))) rfl
set_option maxRecDepth 100000 in
theorem jwY_X9_key : Cond.laysFinal RX9 RX9 "key" "I" ∈ jT := jT_in (List.mem_append_right _ (jm_5 (List.mem_of_getElem? (i := 15) rfl))) rfl
set_option maxRecDepth 100000 in
theorem jwY_X9_operands : Cond.laysFinal RX9 RX9 "operands" "I" ∈ jT := jT_in (List.mem_append_right _ (jm_5 (List.mem_of_getElem? (i := 17) rfl))) rfl
set_option maxRecDepth 100000 in
theorem jwY_X9_code : Cond.laysFinal RX9 RX9 "code" "[I" ∈ jT := jT_in (List.mem_append_right _ (jm_5 (List.mem_of_getElem? (i := 19) rfl))) rfl
set_option maxRecDepth 100000 in
theorem jwY_X9_stack : Cond.laysFinal RX9 RX9 "stack" "[I" ∈ jT := jT_in (List.mem_append_right _ (jm_5 (List.mem_of_getElem? (i := 21) rfl))) rfl
set_option maxRecDepth 100000 in
theorem jwM_X10_294 : Cond.methodLink RX10 294 yX3_addText ∈ jT := jT_in (List.mem_append_right _ (jm_5 (List.mem_of_getElem? (i := 25) rfl))) rfl
set_option maxRecDepth 100000 in
theorem jwN_X3_addText : Cond.instanceMethod yX3_addText ∈ jT := jT_in (List.mem_append_right _ (jm_5 (List.mem_of_getElem? (i := 26) rfl))) rfl
set_option maxRecDepth 100000 in
theorem jwX_X3_addText : Cond.selects RX3 yX3_addText yX3_addText ∈ jT := jT_in (List.mem_append_right _ (jm_5 (List.mem_of_getElem? (i := 27) rfl))) rfl
set_option maxRecDepth 100000 in
theorem jwO_X3_addText : Cond.code (mX3_addText).1 (mX3_addText).2.1 (mX3_addText).2.2.1 (mX3_addText).2.2.2 ∈ jT := jT_in (List.mem_append_right _ (jm_5 (List.mem_of_getElem? (i := 28) rfl))) rfl
set_option maxRecDepth 100000 in
theorem jwM_L_150 : Cond.methodLink RL 150 yX10_textTold ∈ jT := jT_in (List.mem_append_right _ (jm_5 (List.mem_of_getElem? (i := 29) rfl))) rfl
set_option maxRecDepth 100000 in
theorem jwN_X10_textTold : Cond.instanceMethod yX10_textTold ∈ jT := jT_in (List.mem_append_right _ (jm_5 (List.mem_of_getElem? (i := 30) rfl))) rfl
set_option maxRecDepth 100000 in
theorem jwX_X10_textTold : Cond.selects RX10 yX10_textTold yX10_textTold ∈ jT := jT_in (List.mem_append_right _ (jm_5 (List.mem_of_getElem? (i := 31) rfl))) rfl
set_option maxRecDepth 100000 in
theorem jwO_X10_textTold : Cond.code (mX10_textTold).1 (mX10_textTold).2.1 (mX10_textTold).2.2.1 (mX10_textTold).2.2.2 ∈ jT := jT_in (List.mem_append_right _ (jm_5 (List.mem_of_getElem? (i := 32) rfl))) rfl
set_option maxRecDepth 100000 in
theorem jwM_X10_298 : Cond.methodLink RX10 298 yX3_findText ∈ jT := jT_in (List.mem_append_right _ (jm_5 (List.mem_of_getElem? (i := 33) rfl))) rfl
set_option maxRecDepth 100000 in
theorem jwM_L_154 : Cond.methodLink RL 154 yX10_why ∈ jT := jT_in (List.mem_append_right _ (jm_5 (List.mem_of_getElem? (i := 34) rfl))) rfl
set_option maxRecDepth 100000 in
theorem jwN_X10_why : Cond.instanceMethod yX10_why ∈ jT := jT_in (List.mem_append_right _ (jm_5 (List.mem_of_getElem? (i := 35) rfl))) rfl
set_option maxRecDepth 100000 in
theorem jwX_X10_why : Cond.selects RX10 yX10_why yX10_why ∈ jT := jT_in (List.mem_append_right _ (jm_5 (List.mem_of_getElem? (i := 36) rfl))) rfl
set_option maxRecDepth 100000 in
theorem jwO_X10_why : Cond.code (mX10_why).1 (mX10_why).2.1 (mX10_why).2.2.1 (mX10_why).2.2.2 ∈ jT := jT_in (List.mem_append_right _ (jm_5 (List.mem_of_getElem? (i := 37) rfl))) rfl
set_option maxRecDepth 100000 in
theorem jwM_X10_310 : Cond.methodLink RX10 310 yX3_numberOfLaw ∈ jT := jT_in (List.mem_append_right _ (jm_5 (List.mem_of_getElem? (i := 38) rfl))) rfl
set_option maxRecDepth 100000 in
theorem jwM_L_158 : Cond.methodLink RL 158 yX10_sheet ∈ jT := jT_in (List.mem_append_right _ (jm_5 (List.mem_of_getElem? (i := 39) rfl))) rfl
set_option maxRecDepth 100000 in
theorem jwN_X10_sheet : Cond.instanceMethod yX10_sheet ∈ jT := jT_in (List.mem_append_right _ (jm_5 (List.mem_of_getElem? (i := 40) rfl))) rfl
set_option maxRecDepth 100000 in
theorem jwX_X10_sheet : Cond.selects RX10 yX10_sheet yX10_sheet ∈ jT := jT_in (List.mem_append_right _ (jm_5 (List.mem_of_getElem? (i := 41) rfl))) rfl
set_option maxRecDepth 100000 in
theorem jwO_X10_sheet : Cond.code (mX10_sheet).1 (mX10_sheet).2.1 (mX10_sheet).2.2.1 (mX10_sheet).2.2.2 ∈ jT := jT_in (List.mem_append_right _ (jm_5 (List.mem_of_getElem? (i := 42) rfl))) rfl
set_option maxRecDepth 100000 in
theorem jwM_X10_313 : Cond.methodLink RX10 313 yX6_begin ∈ jT := jT_in (List.mem_append_right _ (jm_5 (List.mem_of_getElem? (i := 43) rfl))) rfl
set_option maxRecDepth 100000 in
theorem jwN_X6_begin : Cond.instanceMethod yX6_begin ∈ jT := jT_in (List.mem_append_right _ (jm_5 (List.mem_of_getElem? (i := 44) rfl))) rfl
set_option maxRecDepth 100000 in
theorem jwX_X6_begin : Cond.selects RX6 yX6_begin yX6_begin ∈ jT := jT_in (List.mem_append_right _ (jm_5 (List.mem_of_getElem? (i := 45) rfl))) rfl
set_option maxRecDepth 100000 in
theorem jwO_X6_begin : Cond.code (mX6_begin).1 (mX6_begin).2.1 (mX6_begin).2.2.1 (mX6_begin).2.2.2 ∈ jT := jT_in (List.mem_append_right _ (jm_5 (List.mem_of_getElem? (i := 46) rfl))) rfl
set_option maxRecDepth 100000 in
theorem jwC_X10_317 : Cond.constant RX10 317 (-1000000014) ∈ jT := jT_in (List.mem_append_right _ (jm_5 (List.mem_of_getElem? (i := 47) rfl))) rfl
set_option maxRecDepth 100000 in
theorem jwM_L_162 : Cond.methodLink RL 162 yX10_mark ∈ jT := jT_in (List.mem_append_right _ (jm_5 (List.mem_of_getElem? (i := 48) rfl))) rfl
set_option maxRecDepth 100000 in
theorem jwN_X10_mark : Cond.instanceMethod yX10_mark ∈ jT := jT_in (List.mem_append_right _ (jm_5 (List.mem_of_getElem? (i := 49) rfl))) rfl
set_option maxRecDepth 100000 in
theorem jwX_X10_mark : Cond.selects RX10 yX10_mark yX10_mark ∈ jT := jT_in (List.mem_append_right _ (jm_5 (List.mem_of_getElem? (i := 50) rfl))) rfl
set_option maxRecDepth 100000 in
theorem jwO_X10_mark : Cond.code (mX10_mark).1 (mX10_mark).2.1 (mX10_mark).2.2.1 (mX10_mark).2.2.2 ∈ jT := jT_in (List.mem_append_right _ (jm_5 (List.mem_of_getElem? (i := 51) rfl))) rfl
set_option maxRecDepth 100000 in
theorem jwM_X10_318 : Cond.methodLink RX10 318 yX6_hasPlace ∈ jT := jT_in (List.mem_append_right _ (jm_5 (List.mem_of_getElem? (i := 52) rfl))) rfl
set_option maxRecDepth 100000 in
theorem jwC_X10_321 : Cond.constant RX10 321 (-1000000013) ∈ jT := jT_in (List.mem_append_right _ (jm_5 (List.mem_of_getElem? (i := 53) rfl))) rfl
set_option maxRecDepth 100000 in
theorem jwC_X10_325 : Cond.constant RX10 325 (-99999) ∈ jT := jT_in (List.mem_append_right _ (jm_5 (List.mem_of_getElem? (i := 54) rfl))) rfl
set_option maxRecDepth 100000 in
theorem jwC_X10_326 : Cond.constant RX10 326 99999 ∈ jT := jT_in (List.mem_append_right _ (jm_5 (List.mem_of_getElem? (i := 55) rfl))) rfl
set_option maxRecDepth 100000 in
theorem jwM_L_166 : Cond.methodLink RL 166 yX10_pour ∈ jT := jT_in (List.mem_append_right _ (jm_5 (List.mem_of_getElem? (i := 56) rfl))) rfl
set_option maxRecDepth 100000 in
theorem jwN_X10_pour : Cond.instanceMethod yX10_pour ∈ jT := jT_in (List.mem_append_right _ (jm_5 (List.mem_of_getElem? (i := 57) rfl))) rfl
set_option maxRecDepth 100000 in
theorem jwX_X10_pour : Cond.selects RX10 yX10_pour yX10_pour ∈ jT := jT_in (List.mem_append_right _ (jm_5 (List.mem_of_getElem? (i := 58) rfl))) rfl
set_option maxRecDepth 100000 in
theorem jwO_X10_pour : Cond.code (mX10_pour).1 (mX10_pour).2.1 (mX10_pour).2.2.1 (mX10_pour).2.2.2 ∈ jT := jT_in (List.mem_append_right _ (jm_5 (List.mem_of_getElem? (i := 59) rfl))) rfl
set_option maxRecDepth 100000 in
theorem jwM_X10_328 : Cond.methodLink RX10 328 yX6_isNumber ∈ jT := jT_in (List.mem_append_right _ (jm_5 (List.mem_of_getElem? (i := 60) rfl))) rfl
set_option maxRecDepth 100000 in
theorem jwM_X10_331 : Cond.methodLink RX10 331 Lib.Math.max.name ∈ jT := jT_in (List.mem_append_right _ (jm_5 (List.mem_of_getElem? (i := 61) rfl))) rfl
set_option maxRecDepth 100000 in
theorem jwM_L_170 : Cond.methodLink RL 170 yX10_reads ∈ jT := jT_in (List.mem_append_right _ (jm_5 (List.mem_of_getElem? (i := 62) rfl))) rfl
set_option maxRecDepth 100000 in
theorem jwN_X10_reads : Cond.instanceMethod yX10_reads ∈ jT := jT_in (List.mem_append_right _ (jm_5 (List.mem_of_getElem? (i := 63) rfl))) rfl
set_option maxRecDepth 100000 in
theorem jwX_X10_reads : Cond.selects RX10 yX10_reads yX10_reads ∈ jT := jT_in (List.mem_append_right _ (jm_5 (List.mem_of_getElem? (i := 64) rfl))) rfl
set_option maxRecDepth 100000 in
theorem jwO_X10_reads : Cond.code (mX10_reads).1 (mX10_reads).2.1 (mX10_reads).2.2.1 (mX10_reads).2.2.2 ∈ jT := jT_in (List.mem_append_right _ (jm_5 (List.mem_of_getElem? (i := 65) rfl))) rfl
set_option maxRecDepth 100000 in
theorem jwM_L_174 : Cond.methodLink RL 174 yX10_copy ∈ jT := jT_in (List.mem_append_right _ (jm_5 (List.mem_of_getElem? (i := 66) rfl))) rfl
set_option maxRecDepth 100000 in
theorem jwN_X10_copy : Cond.instanceMethod yX10_copy ∈ jT := jT_in (List.mem_append_right _ (jm_5 (List.mem_of_getElem? (i := 67) rfl))) rfl
set_option maxRecDepth 100000 in
theorem jwX_X10_copy : Cond.selects RX10 yX10_copy yX10_copy ∈ jT := jT_in (List.mem_append_right _ (jm_5 (List.mem_of_getElem? (i := 68) rfl))) rfl
set_option maxRecDepth 100000 in
theorem jwO_X10_copy : Cond.code (mX10_copy).1 (mX10_copy).2.1 (mX10_copy).2.2.1 (mX10_copy).2.2.2 ∈ jT := jT_in (List.mem_append_right _ (jm_5 (List.mem_of_getElem? (i := 69) rfl))) rfl
set_option maxRecDepth 100000 in
theorem jwM_X10_334 : Cond.methodLink RX10 334 yX6_hasPlaces ∈ jT := jT_in (List.mem_append_right _ (jm_5 (List.mem_of_getElem? (i := 70) rfl))) rfl
set_option maxRecDepth 100000 in
theorem jwN_X6_hasPlaces : Cond.instanceMethod yX6_hasPlaces ∈ jT := jT_in (List.mem_append_right _ (jm_5 (List.mem_of_getElem? (i := 71) rfl))) rfl
set_option maxRecDepth 100000 in
theorem jwX_X6_hasPlaces : Cond.selects RX6 yX6_hasPlaces yX6_hasPlaces ∈ jT := jT_in (List.mem_append_right _ (jm_5 (List.mem_of_getElem? (i := 72) rfl))) rfl
set_option maxRecDepth 100000 in
theorem jwO_X6_hasPlaces : Cond.code (mX6_hasPlaces).1 (mX6_hasPlaces).2.1 (mX6_hasPlaces).2.2.1 (mX6_hasPlaces).2.2.2 ∈ jT := jT_in (List.mem_append_right _ (jm_5 (List.mem_of_getElem? (i := 73) rfl))) rfl
set_option maxRecDepth 100000 in
theorem jwM_X10_337 : Cond.methodLink RX10 337 arraycopyName ∈ jT := jT_in (List.mem_append_right _ (jm_5 (List.mem_of_getElem? (i := 74) rfl))) rfl
end
