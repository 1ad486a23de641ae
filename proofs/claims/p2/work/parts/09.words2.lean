theorem jwM_L_73 : Cond.methodLink RL 73 yX10_learn ∈ jT := jT_in (List.mem_append_right _ (List.mem_of_getElem? (i := 546) (by decide +kernel))) rfl
theorem jwN_X10_learn : Cond.instanceMethod yX10_learn ∈ jT := jT_in (List.mem_append_right _ (List.mem_of_getElem? (i := 547) (by decide +kernel))) rfl
theorem jwX_X10_learn : Cond.selects RX10 yX10_learn yX10_learn ∈ jT := jT_in (List.mem_append_right _ (List.mem_of_getElem? (i := 548) (by decide +kernel))) rfl
set_option maxRecDepth 100000 in
theorem jwO_X10_learn : Cond.code (mX10_learn).1 (mX10_learn).2.1 (mX10_learn).2.2.1 (mX10_learn).2.2.2 ∈ jT := jT_in (List.mem_append_right _ (List.mem_of_getElem? (i := 549) rfl)) rfl
theorem jwM_X10_198 : Cond.methodLink RX10 198 yX1_canLearnOf ∈ jT := jT_in (List.mem_append_right _ (List.mem_of_getElem? (i := 550) (by decide +kernel))) rfl
theorem jwN_X1_canLearnOf : Cond.instanceMethod yX1_canLearnOf ∈ jT := jT_in (List.mem_append_right _ (List.mem_of_getElem? (i := 551) (by decide +kernel))) rfl
theorem jwX_X1_canLearnOf : Cond.selects RX1 yX1_canLearnOf yX1_canLearnOf ∈ jT := jT_in (List.mem_append_right _ (List.mem_of_getElem? (i := 552) (by decide +kernel))) rfl
set_option maxRecDepth 100000 in
theorem jwO_X1_canLearnOf : Cond.code (mX1_canLearnOf).1 (mX1_canLearnOf).2.1 (mX1_canLearnOf).2.2.1 (mX1_canLearnOf).2.2.2 ∈ jT := jT_in (List.mem_append_right _ (List.mem_of_getElem? (i := 553) rfl)) rfl
theorem jwM_X1_63 : Cond.methodLink RX1 63 yX2_teaches ∈ jT := jT_in (List.mem_append_right _ (List.mem_of_getElem? (i := 554) (by decide +kernel))) rfl
theorem jwM_X10_202 : Cond.methodLink RX10 202 yX1_learnOf ∈ jT := jT_in (List.mem_append_right _ (List.mem_of_getElem? (i := 555) (by decide +kernel))) rfl
theorem jwN_X1_learnOf : Cond.instanceMethod yX1_learnOf ∈ jT := jT_in (List.mem_append_right _ (List.mem_of_getElem? (i := 556) (by decide +kernel))) rfl
theorem jwX_X1_learnOf : Cond.selects RX1 yX1_learnOf yX1_learnOf ∈ jT := jT_in (List.mem_append_right _ (List.mem_of_getElem? (i := 557) (by decide +kernel))) rfl
set_option maxRecDepth 100000 in
theorem jwO_X1_learnOf : Cond.code (mX1_learnOf).1 (mX1_learnOf).2.1 (mX1_learnOf).2.2.1 (mX1_learnOf).2.2.2 ∈ jT := jT_in (List.mem_append_right _ (List.mem_of_getElem? (i := 558) rfl)) rfl
theorem jwM_X1_72 : Cond.methodLink RX1 72 yX1_passDays ∈ jT := jT_in (List.mem_append_right _ (List.mem_of_getElem? (i := 559) (by decide +kernel))) rfl
theorem jwM_X1_76 : Cond.methodLink RX1 76 yX2_unlearnt ∈ jT := jT_in (List.mem_append_right _ (List.mem_of_getElem? (i := 560) (by decide +kernel))) rfl
theorem jwN_X2_unlearnt : Cond.instanceMethod yX2_unlearnt ∈ jT := jT_in (List.mem_append_right _ (List.mem_of_getElem? (i := 561) (by decide +kernel))) rfl
theorem jwX_X2_unlearnt : Cond.selects RX2 yX2_unlearnt yX2_unlearnt ∈ jT := jT_in (List.mem_append_right _ (List.mem_of_getElem? (i := 562) (by decide +kernel))) rfl
set_option maxRecDepth 100000 in
theorem jwO_X2_unlearnt : Cond.code (mX2_unlearnt).1 (mX2_unlearnt).2.1 (mX2_unlearnt).2.2.1 (mX2_unlearnt).2.2.2 ∈ jT := jT_in (List.mem_append_right _ (List.mem_of_getElem? (i := 563) rfl)) rfl
theorem jwM_L_77 : Cond.methodLink RL 77 yX10_use ∈ jT := jT_in (List.mem_append_right _ (List.mem_of_getElem? (i := 564) (by decide +kernel))) rfl
theorem jwN_X10_use : Cond.instanceMethod yX10_use ∈ jT := jT_in (List.mem_append_right _ (List.mem_of_getElem? (i := 565) (by decide +kernel))) rfl
theorem jwX_X10_use : Cond.selects RX10 yX10_use yX10_use ∈ jT := jT_in (List.mem_append_right _ (List.mem_of_getElem? (i := 566) (by decide +kernel))) rfl
set_option maxRecDepth 100000 in
theorem jwO_X10_use : Cond.code (mX10_use).1 (mX10_use).2.1 (mX10_use).2.2.1 (mX10_use).2.2.2 ∈ jT := jT_in (List.mem_append_right _ (List.mem_of_getElem? (i := 567) rfl)) rfl
theorem jwM_X10_206 : Cond.methodLink RX10 206 yX1_practise ∈ jT := jT_in (List.mem_append_right _ (List.mem_of_getElem? (i := 568) (by decide +kernel))) rfl
theorem jwN_X1_practise : Cond.instanceMethod yX1_practise ∈ jT := jT_in (List.mem_append_right _ (List.mem_of_getElem? (i := 569) (by decide +kernel))) rfl
theorem jwX_X1_practise : Cond.selects RX1 yX1_practise yX1_practise ∈ jT := jT_in (List.mem_append_right _ (List.mem_of_getElem? (i := 570) (by decide +kernel))) rfl
set_option maxRecDepth 100000 in
theorem jwO_X1_practise : Cond.code (mX1_practise).1 (mX1_practise).2.1 (mX1_practise).2.2.1 (mX1_practise).2.2.2 ∈ jT := jT_in (List.mem_append_right _ (List.mem_of_getElem? (i := 571) rfl)) rfl
theorem jwM_L_81 : Cond.methodLink RL 81 yX10_rests ∈ jT := jT_in (List.mem_append_right _ (List.mem_of_getElem? (i := 572) (by decide +kernel))) rfl
theorem jwN_X10_rests : Cond.instanceMethod yX10_rests ∈ jT := jT_in (List.mem_append_right _ (List.mem_of_getElem? (i := 573) (by decide +kernel))) rfl
theorem jwX_X10_rests : Cond.selects RX10 yX10_rests yX10_rests ∈ jT := jT_in (List.mem_append_right _ (List.mem_of_getElem? (i := 574) (by decide +kernel))) rfl
set_option maxRecDepth 100000 in
theorem jwO_X10_rests : Cond.code (mX10_rests).1 (mX10_rests).2.1 (mX10_rests).2.2.1 (mX10_rests).2.2.2 ∈ jT := jT_in (List.mem_append_right _ (List.mem_of_getElem? (i := 575) rfl)) rfl
theorem jwM_L_85 : Cond.methodLink RL 85 yX10_wants ∈ jT := jT_in (List.mem_append_right _ (List.mem_of_getElem? (i := 576) (by decide +kernel))) rfl
theorem jwN_X10_wants : Cond.instanceMethod yX10_wants ∈ jT := jT_in (List.mem_append_right _ (List.mem_of_getElem? (i := 577) (by decide +kernel))) rfl
theorem jwX_X10_wants : Cond.selects RX10 yX10_wants yX10_wants ∈ jT := jT_in (List.mem_append_right _ (List.mem_of_getElem? (i := 578) (by decide +kernel))) rfl
set_option maxRecDepth 100000 in
theorem jwO_X10_wants : Cond.code (mX10_wants).1 (mX10_wants).2.1 (mX10_wants).2.2.1 (mX10_wants).2.2.2 ∈ jT := jT_in (List.mem_append_right _ (List.mem_of_getElem? (i := 579) rfl)) rfl
theorem jwM_X10_209 : Cond.methodLink RX10 209 yX3_addWish ∈ jT := jT_in (List.mem_append_right _ (List.mem_of_getElem? (i := 580) (by decide +kernel))) rfl
theorem jwN_X3_addWish : Cond.instanceMethod yX3_addWish ∈ jT := jT_in (List.mem_append_right _ (List.mem_of_getElem? (i := 581) (by decide +kernel))) rfl
theorem jwX_X3_addWish : Cond.selects RX3 yX3_addWish yX3_addWish ∈ jT := jT_in (List.mem_append_right _ (List.mem_of_getElem? (i := 582) (by decide +kernel))) rfl
set_option maxRecDepth 100000 in
theorem jwO_X3_addWish : Cond.code (mX3_addWish).1 (mX3_addWish).2.1 (mX3_addWish).2.2.1 (mX3_addWish).2.2.2 ∈ jT := jT_in (List.mem_append_right _ (List.mem_of_getElem? (i := 583) rfl)) rfl
theorem jwM_L_89 : Cond.methodLink RL 89 yX10_clear ∈ jT := jT_in (List.mem_append_right _ (List.mem_of_getElem? (i := 584) (by decide +kernel))) rfl
theorem jwN_X10_clear : Cond.instanceMethod yX10_clear ∈ jT := jT_in (List.mem_append_right _ (List.mem_of_getElem? (i := 585) (by decide +kernel))) rfl
theorem jwX_X10_clear : Cond.selects RX10 yX10_clear yX10_clear ∈ jT := jT_in (List.mem_append_right _ (List.mem_of_getElem? (i := 586) (by decide +kernel))) rfl
set_option maxRecDepth 100000 in
theorem jwO_X10_clear : Cond.code (mX10_clear).1 (mX10_clear).2.1 (mX10_clear).2.2.1 (mX10_clear).2.2.2 ∈ jT := jT_in (List.mem_append_right _ (List.mem_of_getElem? (i := 587) rfl)) rfl
theorem jwM_L_94 : Cond.methodLink RL 94 yX10_made ∈ jT := jT_in (List.mem_append_right _ (List.mem_of_getElem? (i := 588) (by decide +kernel))) rfl
theorem jwN_X10_made : Cond.instanceMethod yX10_made ∈ jT := jT_in (List.mem_append_right _ (List.mem_of_getElem? (i := 589) (by decide +kernel))) rfl
theorem jwX_X10_made : Cond.selects RX10 yX10_made yX10_made ∈ jT := jT_in (List.mem_append_right _ (List.mem_of_getElem? (i := 590) (by decide +kernel))) rfl
set_option maxRecDepth 100000 in
theorem jwO_X10_made : Cond.code (mX10_made).1 (mX10_made).2.1 (mX10_made).2.2.1 (mX10_made).2.2.2 ∈ jT := jT_in (List.mem_append_right _ (List.mem_of_getElem? (i := 591) rfl)) rfl
theorem jwM_X10_215 : Cond.methodLink RX10 215 yX3_canMakeChair ∈ jT := jT_in (List.mem_append_right _ (List.mem_of_getElem? (i := 592) (by decide +kernel))) rfl
theorem jwN_X3_canMakeChair : Cond.instanceMethod yX3_canMakeChair ∈ jT := jT_in (List.mem_append_right _ (List.mem_of_getElem? (i := 593) (by decide +kernel))) rfl
theorem jwX_X3_canMakeChair : Cond.selects RX3 yX3_canMakeChair yX3_canMakeChair ∈ jT := jT_in (List.mem_append_right _ (List.mem_of_getElem? (i := 594) (by decide +kernel))) rfl
set_option maxRecDepth 100000 in
theorem jwO_X3_canMakeChair : Cond.code (mX3_canMakeChair).1 (mX3_canMakeChair).2.1 (mX3_canMakeChair).2.2.1 (mX3_canMakeChair).2.2.2 ∈ jT := jT_in (List.mem_append_right _ (List.mem_of_getElem? (i := 595) rfl)) rfl
theorem jwM_X3_69 : Cond.methodLink RX3 69 yX3_wishedSet ∈ jT := jT_in (List.mem_append_right _ (List.mem_of_getElem? (i := 596) (by decide +kernel))) rfl
theorem jwN_X3_wishedSet : Cond.instanceMethod yX3_wishedSet ∈ jT := jT_in (List.mem_append_right _ (List.mem_of_getElem? (i := 597) (by decide +kernel))) rfl
theorem jwX_X3_wishedSet : Cond.selects RX3 yX3_wishedSet yX3_wishedSet ∈ jT := jT_in (List.mem_append_right _ (List.mem_of_getElem? (i := 598) (by decide +kernel))) rfl
set_option maxRecDepth 100000 in
theorem jwO_X3_wishedSet : Cond.code (mX3_wishedSet).1 (mX3_wishedSet).2.1 (mX3_wishedSet).2.2.1 (mX3_wishedSet).2.2.2 ∈ jT := jT_in (List.mem_append_right _ (List.mem_of_getElem? (i := 599) rfl)) rfl
theorem jwM_X10_219 : Cond.methodLink RX10 219 yX3_makeChair ∈ jT := jT_in (List.mem_append_right _ (List.mem_of_getElem? (i := 600) (by decide +kernel))) rfl
theorem jwN_X3_makeChair : Cond.instanceMethod yX3_makeChair ∈ jT := jT_in (List.mem_append_right _ (List.mem_of_getElem? (i := 601) (by decide +kernel))) rfl
theorem jwX_X3_makeChair : Cond.selects RX3 yX3_makeChair yX3_makeChair ∈ jT := jT_in (List.mem_append_right _ (List.mem_of_getElem? (i := 602) (by decide +kernel))) rfl
set_option maxRecDepth 100000 in
theorem jwO_X3_makeChair : Cond.code (mX3_makeChair).1 (mX3_makeChair).2.1 (mX3_makeChair).2.2.1 (mX3_makeChair).2.2.2 ∈ jT := jT_in (List.mem_append_right _ (List.mem_of_getElem? (i := 603) rfl)) rfl
theorem jwM_X3_76 : Cond.methodLink RX3 76 yX1_practise ∈ jT := jT_in (List.mem_append_right _ (List.mem_of_getElem? (i := 604) (by decide +kernel))) rfl
theorem jwM_L_98 : Cond.methodLink RL 98 yX10_soonest ∈ jT := jT_in (List.mem_append_right _ (List.mem_of_getElem? (i := 605) (by decide +kernel))) rfl
theorem jwN_X10_soonest : Cond.instanceMethod yX10_soonest ∈ jT := jT_in (List.mem_append_right _ (List.mem_of_getElem? (i := 606) (by decide +kernel))) rfl
theorem jwX_X10_soonest : Cond.selects RX10 yX10_soonest yX10_soonest ∈ jT := jT_in (List.mem_append_right _ (List.mem_of_getElem? (i := 607) (by decide +kernel))) rfl
set_option maxRecDepth 100000 in
theorem jwO_X10_soonest : Cond.code (mX10_soonest).1 (mX10_soonest).2.1 (mX10_soonest).2.2.1 (mX10_soonest).2.2.2 ∈ jT := jT_in (List.mem_append_right _ (List.mem_of_getElem? (i := 608) rfl)) rfl
theorem jwM_X10_222 : Cond.methodLink RX10 222 yX5_finds ∈ jT := jT_in (List.mem_append_right _ (List.mem_of_getElem? (i := 609) (by decide +kernel))) rfl
theorem jwN_X5_finds : Cond.instanceMethod yX5_finds ∈ jT := jT_in (List.mem_append_right _ (List.mem_of_getElem? (i := 610) (by decide +kernel))) rfl
theorem jwX_X5_finds : Cond.selects RX5 yX5_finds yX5_finds ∈ jT := jT_in (List.mem_append_right _ (List.mem_of_getElem? (i := 611) (by decide +kernel))) rfl
set_option maxRecDepth 100000 in
theorem jwO_X5_finds : Cond.code (mX5_finds).1 (mX5_finds).2.1 (mX5_finds).2.2.1 (mX5_finds).2.2.2 ∈ jT := jT_in (List.mem_append_right _ (List.mem_of_getElem? (i := 612) rfl)) rfl
theorem jwC_X5_33 : Cond.constant RX5 33 1000000000 ∈ jT := jT_in (List.mem_append_right _ (List.mem_of_getElem? (i := 613) (by decide +kernel))) rfl
theorem jwM_X5_44 : Cond.methodLink RX5 44 yX3_wishedSet ∈ jT := jT_in (List.mem_append_right _ (List.mem_of_getElem? (i := 614) (by decide +kernel))) rfl
theorem jwM_X5_57 : Cond.methodLink RX5 57 yX0_taught ∈ jT := jT_in (List.mem_append_right _ (List.mem_of_getElem? (i := 615) (by decide +kernel))) rfl
theorem jwN_X0_taught : Cond.instanceMethod yX0_taught ∈ jT := jT_in (List.mem_append_right _ (List.mem_of_getElem? (i := 616) (by decide +kernel))) rfl
theorem jwX_X0_taught : Cond.selects RX0 yX0_taught yX0_taught ∈ jT := jT_in (List.mem_append_right _ (List.mem_of_getElem? (i := 617) (by decide +kernel))) rfl
set_option maxRecDepth 100000 in
theorem jwO_X0_taught : Cond.code (mX0_taught).1 (mX0_taught).2.1 (mX0_taught).2.2.1 (mX0_taught).2.2.2 ∈ jT := jT_in (List.mem_append_right _ (List.mem_of_getElem? (i := 618) rfl)) rfl
theorem jwM_X0_46 : Cond.methodLink RX0 46 yX0_find ∈ jT := jT_in (List.mem_append_right _ (List.mem_of_getElem? (i := 619) (by decide +kernel))) rfl
theorem jwC_X5_78 : Cond.constant RX5 78 (-1000000005) ∈ jT := jT_in (List.mem_append_right _ (List.mem_of_getElem? (i := 620) (by decide +kernel))) rfl
theorem jwM_X5_79 : Cond.methodLink RX5 79 yX5_goOn ∈ jT := jT_in (List.mem_append_right _ (List.mem_of_getElem? (i := 621) (by decide +kernel))) rfl
theorem jwN_X5_goOn : Cond.instanceMethod yX5_goOn ∈ jT := jT_in (List.mem_append_right _ (List.mem_of_getElem? (i := 623) (by decide +kernel))) rfl
set_option maxRecDepth 100000 in
theorem jwO_X5_goOn : Cond.code (mX5_goOn).1 (mX5_goOn).2.1 (mX5_goOn).2.2.1 (mX5_goOn).2.2.2 ∈ jT := jT_in (List.mem_append_right _ (List.mem_of_getElem? (i := 624) rfl)) rfl
theorem jwM_X5_87 : Cond.methodLink RX5 87 yX5_offer ∈ jT := jT_in (List.mem_append_right _ (List.mem_of_getElem? (i := 626) (by decide +kernel))) rfl
theorem jwN_X5_offer : Cond.instanceMethod yX5_offer ∈ jT := jT_in (List.mem_append_right _ (List.mem_of_getElem? (i := 628) (by decide +kernel))) rfl
set_option maxRecDepth 100000 in
theorem jwO_X5_offer : Cond.code (mX5_offer).1 (mX5_offer).2.1 (mX5_offer).2.2.1 (mX5_offer).2.2.2 ∈ jT := jT_in (List.mem_append_right _ (List.mem_of_getElem? (i := 629) rfl)) rfl
theorem jwM_X5_156 : Cond.methodLink RX5 156 yX5_isBetter ∈ jT := jT_in (List.mem_append_right _ (List.mem_of_getElem? (i := 630) (by decide +kernel))) rfl
theorem jwN_X5_isBetter : Cond.instanceMethod yX5_isBetter ∈ jT := jT_in (List.mem_append_right _ (List.mem_of_getElem? (i := 632) (by decide +kernel))) rfl
set_option maxRecDepth 100000 in
theorem jwO_X5_isBetter : Cond.code (mX5_isBetter).1 (mX5_isBetter).2.1 (mX5_isBetter).2.2.1 (mX5_isBetter).2.2.2 ∈ jT := jT_in (List.mem_append_right _ (List.mem_of_getElem? (i := 633) rfl)) rfl
theorem jwM_X5_91 : Cond.methodLink RX5 91 yJ6_bitCount_0f7a4 ∈ jT := jT_in (List.mem_append_right _ (List.mem_of_getElem? (i := 634) (by decide +kernel))) rfl
theorem jwM_X5_100 : Cond.methodLink RX5 100 yX0_find ∈ jT := jT_in (List.mem_append_right _ (List.mem_of_getElem? (i := 635) (by decide +kernel))) rfl
theorem jwM_X5_109 : Cond.methodLink RX5 109 yX5_tryMaster ∈ jT := jT_in (List.mem_append_right _ (List.mem_of_getElem? (i := 636) (by decide +kernel))) rfl
theorem jwN_X5_tryMaster : Cond.instanceMethod yX5_tryMaster ∈ jT := jT_in (List.mem_append_right _ (List.mem_of_getElem? (i := 638) (by decide +kernel))) rfl
set_option maxRecDepth 100000 in
theorem jwO_X5_tryMaster : Cond.code (mX5_tryMaster).1 (mX5_tryMaster).2.1 (mX5_tryMaster).2.2.1 (mX5_tryMaster).2.2.2 ∈ jT := jT_in (List.mem_append_right _ (List.mem_of_getElem? (i := 639) rfl)) rfl
theorem jwM_X5_119 : Cond.methodLink RX5 119 yX4_fewest ∈ jT := jT_in (List.mem_append_right _ (List.mem_of_getElem? (i := 640) (by decide +kernel))) rfl
theorem jwM_X5_128 : Cond.methodLink RX5 128 yX5_keptOf ∈ jT := jT_in (List.mem_append_right _ (List.mem_of_getElem? (i := 641) (by decide +kernel))) rfl
theorem jwN_X5_keptOf : Cond.instanceMethod yX5_keptOf ∈ jT := jT_in (List.mem_append_right _ (List.mem_of_getElem? (i := 643) (by decide +kernel))) rfl
set_option maxRecDepth 100000 in
theorem jwO_X5_keptOf : Cond.code (mX5_keptOf).1 (mX5_keptOf).2.1 (mX5_keptOf).2.2.1 (mX5_keptOf).2.2.2 ∈ jT := jT_in (List.mem_append_right _ (List.mem_of_getElem? (i := 644) rfl)) rfl
theorem jwM_X5_142 : Cond.methodLink RX5 142 yX2_teaches ∈ jT := jT_in (List.mem_append_right _ (List.mem_of_getElem? (i := 645) (by decide +kernel))) rfl
theorem jwM_X5_146 : Cond.methodLink RX5 146 yX5_daysTaken ∈ jT := jT_in (List.mem_append_right _ (List.mem_of_getElem? (i := 646) (by decide +kernel))) rfl
theorem jwN_X5_daysTaken : Cond.instanceMethod yX5_daysTaken ∈ jT := jT_in (List.mem_append_right _ (List.mem_of_getElem? (i := 648) (by decide +kernel))) rfl
set_option maxRecDepth 100000 in
theorem jwO_X5_daysTaken : Cond.code (mX5_daysTaken).1 (mX5_daysTaken).2.1 (mX5_daysTaken).2.2.1 (mX5_daysTaken).2.2.2 ∈ jT := jT_in (List.mem_append_right _ (List.mem_of_getElem? (i := 649) rfl)) rfl
theorem jwM_X5_153 : Cond.methodLink RX5 153 yX3_daysTaken ∈ jT := jT_in (List.mem_append_right _ (List.mem_of_getElem? (i := 650) (by decide +kernel))) rfl
theorem jwM_X5_150 : Cond.methodLink RX5 150 yX2_unlearnt ∈ jT := jT_in (List.mem_append_right _ (List.mem_of_getElem? (i := 651) (by decide +kernel))) rfl
theorem jwM_L_102 : Cond.methodLink RL 102 yX10_together ∈ jT := jT_in (List.mem_append_right _ (List.mem_of_getElem? (i := 652) (by decide +kernel))) rfl
theorem jwN_X10_together : Cond.instanceMethod yX10_together ∈ jT := jT_in (List.mem_append_right _ (List.mem_of_getElem? (i := 653) (by decide +kernel))) rfl
theorem jwX_X10_together : Cond.selects RX10 yX10_together yX10_together ∈ jT := jT_in (List.mem_append_right _ (List.mem_of_getElem? (i := 654) (by decide +kernel))) rfl
set_option maxRecDepth 100000 in
theorem jwO_X10_together : Cond.code (mX10_together).1 (mX10_together).2.1 (mX10_together).2.2.1 (mX10_together).2.2.2 ∈ jT := jT_in (List.mem_append_right _ (List.mem_of_getElem? (i := 655) rfl)) rfl
theorem jwM_X10_235 : Cond.methodLink RX10 235 yX0_canBringTogether ∈ jT := jT_in (List.mem_append_right _ (List.mem_of_getElem? (i := 656) (by decide +kernel))) rfl
theorem jwN_X0_canBringTogether : Cond.instanceMethod yX0_canBringTogether ∈ jT := jT_in (List.mem_append_right _ (List.mem_of_getElem? (i := 657) (by decide +kernel))) rfl
theorem jwX_X0_canBringTogether : Cond.selects RX0 yX0_canBringTogether yX0_canBringTogether ∈ jT := jT_in (List.mem_append_right _ (List.mem_of_getElem? (i := 658) (by decide +kernel))) rfl
set_option maxRecDepth 100000 in
theorem jwO_X0_canBringTogether : Cond.code (mX0_canBringTogether).1 (mX0_canBringTogether).2.1 (mX0_canBringTogether).2.2.1 (mX0_canBringTogether).2.2.2 ∈ jT := jT_in (List.mem_append_right _ (List.mem_of_getElem? (i := 659) rfl)) rfl
theorem jwM_X0_70 : Cond.methodLink RX0 70 yX0_leadsTo ∈ jT := jT_in (List.mem_append_right _ (List.mem_of_getElem? (i := 660) (by decide +kernel))) rfl
theorem jwS_X0_leadsTo : Cond.static yX0_leadsTo ∈ jT := jT_in (List.mem_append_right _ (List.mem_of_getElem? (i := 661) (by decide +kernel))) rfl
set_option maxRecDepth 100000 in
theorem jwO_X0_leadsTo : Cond.code (mX0_leadsTo).1 (mX0_leadsTo).2.1 (mX0_leadsTo).2.2.1 (mX0_leadsTo).2.2.2 ∈ jT := jT_in (List.mem_append_right _ (List.mem_of_getElem? (i := 662) rfl)) rfl
theorem jwM_X0_74 : Cond.methodLink RX0 74 yJ6_bitCount_0f7a4 ∈ jT := jT_in (List.mem_append_right _ (List.mem_of_getElem? (i := 663) (by decide +kernel))) rfl
theorem jwM_X0_80 : Cond.methodLink RX0 80 yX0_helps ∈ jT := jT_in (List.mem_append_right _ (List.mem_of_getElem? (i := 664) (by decide +kernel))) rfl
theorem jwS_X0_helps : Cond.static yX0_helps ∈ jT := jT_in (List.mem_append_right _ (List.mem_of_getElem? (i := 665) (by decide +kernel))) rfl
set_option maxRecDepth 100000 in
theorem jwO_X0_helps : Cond.code (mX0_helps).1 (mX0_helps).2.1 (mX0_helps).2.2.1 (mX0_helps).2.2.2 ∈ jT := jT_in (List.mem_append_right _ (List.mem_of_getElem? (i := 666) rfl)) rfl
theorem jwM_X0_84 : Cond.methodLink RX0 84 yX2_teaches ∈ jT := jT_in (List.mem_append_right _ (List.mem_of_getElem? (i := 667) (by decide +kernel))) rfl
theorem jwM_X0_88 : Cond.methodLink RX0 88 yX2_unlearnt ∈ jT := jT_in (List.mem_append_right _ (List.mem_of_getElem? (i := 668) (by decide +kernel))) rfl
theorem jwM_L_106 : Cond.methodLink RL 106 yX10_never ∈ jT := jT_in (List.mem_append_right _ (List.mem_of_getElem? (i := 669) (by decide +kernel))) rfl
theorem jwN_X10_never : Cond.instanceMethod yX10_never ∈ jT := jT_in (List.mem_append_right _ (List.mem_of_getElem? (i := 670) (by decide +kernel))) rfl
theorem jwX_X10_never : Cond.selects RX10 yX10_never yX10_never ∈ jT := jT_in (List.mem_append_right _ (List.mem_of_getElem? (i := 671) (by decide +kernel))) rfl
set_option maxRecDepth 100000 in
theorem jwO_X10_never : Cond.code (mX10_never).1 (mX10_never).2.1 (mX10_never).2.2.1 (mX10_never).2.2.2 ∈ jT := jT_in (List.mem_append_right _ (List.mem_of_getElem? (i := 672) rfl)) rfl
theorem jwM_X10_238 : Cond.methodLink RX10 238 yX0_taught ∈ jT := jT_in (List.mem_append_right _ (List.mem_of_getElem? (i := 673) (by decide +kernel))) rfl
theorem jwM_L_110 : Cond.methodLink RL 110 yX10_last ∈ jT := jT_in (List.mem_append_right _ (List.mem_of_getElem? (i := 674) (by decide +kernel))) rfl
theorem jwN_X10_last : Cond.instanceMethod yX10_last ∈ jT := jT_in (List.mem_append_right _ (List.mem_of_getElem? (i := 675) (by decide +kernel))) rfl
theorem jwX_X10_last : Cond.selects RX10 yX10_last yX10_last ∈ jT := jT_in (List.mem_append_right _ (List.mem_of_getElem? (i := 676) (by decide +kernel))) rfl
set_option maxRecDepth 100000 in
theorem jwO_X10_last : Cond.code (mX10_last).1 (mX10_last).2.1 (mX10_last).2.2.1 (mX10_last).2.2.2 ∈ jT := jT_in (List.mem_append_right _ (List.mem_of_getElem? (i := 677) rfl)) rfl
theorem jwM_X10_241 : Cond.methodLink RX10 241 yX0_onlyTeacher ∈ jT := jT_in (List.mem_append_right _ (List.mem_of_getElem? (i := 678) (by decide +kernel))) rfl
theorem jwN_X0_onlyTeacher : Cond.instanceMethod yX0_onlyTeacher ∈ jT := jT_in (List.mem_append_right _ (List.mem_of_getElem? (i := 679) (by decide +kernel))) rfl
theorem jwX_X0_onlyTeacher : Cond.selects RX0 yX0_onlyTeacher yX0_onlyTeacher ∈ jT := jT_in (List.mem_append_right _ (List.mem_of_getElem? (i := 680) (by decide +kernel))) rfl
set_option maxRecDepth 100000 in
theorem jwO_X0_onlyTeacher : Cond.code (mX0_onlyTeacher).1 (mX0_onlyTeacher).2.1 (mX0_onlyTeacher).2.2.1 (mX0_onlyTeacher).2.2.2 ∈ jT := jT_in (List.mem_append_right _ (List.mem_of_getElem? (i := 681) rfl)) rfl
theorem jwC_X0_69 : Cond.constant RX0 69 (-1000000005) ∈ jT := jT_in (List.mem_append_right _ (List.mem_of_getElem? (i := 682) (by decide +kernel))) rfl
theorem jwM_L_114 : Cond.methodLink RL 114 yX10_years ∈ jT := jT_in (List.mem_append_right _ (List.mem_of_getElem? (i := 683) (by decide +kernel))) rfl
theorem jwN_X10_years : Cond.instanceMethod yX10_years ∈ jT := jT_in (List.mem_append_right _ (List.mem_of_getElem? (i := 684) (by decide +kernel))) rfl
theorem jwX_X10_years : Cond.selects RX10 yX10_years yX10_years ∈ jT := jT_in (List.mem_append_right _ (List.mem_of_getElem? (i := 685) (by decide +kernel))) rfl
set_option maxRecDepth 100000 in
theorem jwO_X10_years : Cond.code (mX10_years).1 (mX10_years).2.1 (mX10_years).2.2.1 (mX10_years).2.2.2 ∈ jT := jT_in (List.mem_append_right _ (List.mem_of_getElem? (i := 686) rfl)) rfl
theorem jwM_X10_244 : Cond.methodLink RX10 244 yX0_countDead ∈ jT := jT_in (List.mem_append_right _ (List.mem_of_getElem? (i := 687) (by decide +kernel))) rfl
theorem jwN_X0_countDead : Cond.instanceMethod yX0_countDead ∈ jT := jT_in (List.mem_append_right _ (List.mem_of_getElem? (i := 688) (by decide +kernel))) rfl
theorem jwX_X0_countDead : Cond.selects RX0 yX0_countDead yX0_countDead ∈ jT := jT_in (List.mem_append_right _ (List.mem_of_getElem? (i := 689) (by decide +kernel))) rfl
set_option maxRecDepth 100000 in
theorem jwO_X0_countDead : Cond.code (mX0_countDead).1 (mX0_countDead).2.1 (mX0_countDead).2.2.1 (mX0_countDead).2.2.2 ∈ jT := jT_in (List.mem_append_right _ (List.mem_of_getElem? (i := 690) rfl)) rfl
theorem jwM_X10_247 : Cond.methodLink RX10 247 yX0_liveYears ∈ jT := jT_in (List.mem_append_right _ (List.mem_of_getElem? (i := 691) (by decide +kernel))) rfl
theorem jwN_X0_liveYears : Cond.instanceMethod yX0_liveYears ∈ jT := jT_in (List.mem_append_right _ (List.mem_of_getElem? (i := 692) (by decide +kernel))) rfl
theorem jwX_X0_liveYears : Cond.selects RX0 yX0_liveYears yX0_liveYears ∈ jT := jT_in (List.mem_append_right _ (List.mem_of_getElem? (i := 693) (by decide +kernel))) rfl
set_option maxRecDepth 100000 in
theorem jwO_X0_liveYears : Cond.code (mX0_liveYears).1 (mX0_liveYears).2.1 (mX0_liveYears).2.2.1 (mX0_liveYears).2.2.2 ∈ jT := jT_in (List.mem_append_right _ (List.mem_of_getElem? (i := 694) rfl)) rfl
theorem jwM_X0_63 : Cond.methodLink RX0 63 yX0_liveYear ∈ jT := jT_in (List.mem_append_right _ (List.mem_of_getElem? (i := 695) (by decide +kernel))) rfl
theorem jwN_X0_liveYear : Cond.instanceMethod yX0_liveYear ∈ jT := jT_in (List.mem_append_right _ (List.mem_of_getElem? (i := 696) (by decide +kernel))) rfl
theorem jwX_X0_liveYear : Cond.selects RX0 yX0_liveYear yX0_liveYear ∈ jT := jT_in (List.mem_append_right _ (List.mem_of_getElem? (i := 697) (by decide +kernel))) rfl
set_option maxRecDepth 100000 in
theorem jwO_X0_liveYear : Cond.code (mX0_liveYear).1 (mX0_liveYear).2.1 (mX0_liveYear).2.2.1 (mX0_liveYear).2.2.2 ∈ jT := jT_in (List.mem_append_right _ (List.mem_of_getElem? (i := 698) rfl)) rfl
theorem jwM_X0_57 : Cond.methodLink RX0 57 Lib.Math.min.name ∈ jT := jT_in (List.mem_append_right _ (List.mem_of_getElem? (i := 699) (by decide +kernel))) rfl
theorem jwM_L_118 : Cond.methodLink RL 118 yX10_gone ∈ jT := jT_in (List.mem_append_right _ (List.mem_of_getElem? (i := 700) (by decide +kernel))) rfl
theorem jwN_X10_gone : Cond.instanceMethod yX10_gone ∈ jT := jT_in (List.mem_append_right _ (List.mem_of_getElem? (i := 701) (by decide +kernel))) rfl
theorem jwX_X10_gone : Cond.selects RX10 yX10_gone yX10_gone ∈ jT := jT_in (List.mem_append_right _ (List.mem_of_getElem? (i := 702) (by decide +kernel))) rfl
set_option maxRecDepth 100000 in
theorem jwO_X10_gone : Cond.code (mX10_gone).1 (mX10_gone).2.1 (mX10_gone).2.2.1 (mX10_gone).2.2.2 ∈ jT := jT_in (List.mem_append_right _ (List.mem_of_getElem? (i := 703) rfl)) rfl
theorem jwM_X10_250 : Cond.methodLink RX10 250 yX0_become ∈ jT := jT_in (List.mem_append_right _ (List.mem_of_getElem? (i := 704) (by decide +kernel))) rfl
theorem jwN_X0_become : Cond.instanceMethod yX0_become ∈ jT := jT_in (List.mem_append_right _ (List.mem_of_getElem? (i := 705) (by decide +kernel))) rfl
theorem jwX_X0_become : Cond.selects RX0 yX0_become yX0_become ∈ jT := jT_in (List.mem_append_right _ (List.mem_of_getElem? (i := 706) (by decide +kernel))) rfl
set_option maxRecDepth 100000 in
theorem jwO_X0_become : Cond.code (mX0_become).1 (mX0_become).2.1 (mX0_become).2.2.1 (mX0_become).2.2.2 ∈ jT := jT_in (List.mem_append_right _ (List.mem_of_getElem? (i := 707) rfl)) rfl
theorem jwM_X0_25 : Cond.methodLink RX0 25 yX2_become ∈ jT := jT_in (List.mem_append_right _ (List.mem_of_getElem? (i := 708) (by decide +kernel))) rfl
theorem jwN_X2_become : Cond.instanceMethod yX2_become ∈ jT := jT_in (List.mem_append_right _ (List.mem_of_getElem? (i := 709) (by decide +kernel))) rfl
theorem jwX_X2_become : Cond.selects RX2 yX2_become yX2_become ∈ jT := jT_in (List.mem_append_right _ (List.mem_of_getElem? (i := 710) (by decide +kernel))) rfl
set_option maxRecDepth 100000 in
theorem jwO_X2_become : Cond.code (mX2_become).1 (mX2_become).2.1 (mX2_become).2.2.1 (mX2_become).2.2.2 ∈ jT := jT_in (List.mem_append_right _ (List.mem_of_getElem? (i := 711) rfl)) rfl
theorem jwM_L_122 : Cond.methodLink RL 122 yX10_fresh ∈ jT := jT_in (List.mem_append_right _ (List.mem_of_getElem? (i := 712) (by decide +kernel))) rfl
theorem jwN_X10_fresh : Cond.instanceMethod yX10_fresh ∈ jT := jT_in (List.mem_append_right _ (List.mem_of_getElem? (i := 713) (by decide +kernel))) rfl
theorem jwX_X10_fresh : Cond.selects RX10 yX10_fresh yX10_fresh ∈ jT := jT_in (List.mem_append_right _ (List.mem_of_getElem? (i := 714) (by decide +kernel))) rfl
set_option maxRecDepth 100000 in
theorem jwO_X10_fresh : Cond.code (mX10_fresh).1 (mX10_fresh).2.1 (mX10_fresh).2.2.1 (mX10_fresh).2.2.2 ∈ jT := jT_in (List.mem_append_right _ (List.mem_of_getElem? (i := 715) rfl)) rfl
theorem jwM_X10_254 : Cond.methodLink RX10 254 yX3_waysToMasters ∈ jT := jT_in (List.mem_append_right _ (List.mem_of_getElem? (i := 716) (by decide +kernel))) rfl
theorem jwN_X3_waysToMasters : Cond.instanceMethod yX3_waysToMasters ∈ jT := jT_in (List.mem_append_right _ (List.mem_of_getElem? (i := 717) (by decide +kernel))) rfl
theorem jwX_X3_waysToMasters : Cond.selects RX3 yX3_waysToMasters yX3_waysToMasters ∈ jT := jT_in (List.mem_append_right _ (List.mem_of_getElem? (i := 718) (by decide +kernel))) rfl
set_option maxRecDepth 100000 in
theorem jwO_X3_waysToMasters : Cond.code (mX3_waysToMasters).1 (mX3_waysToMasters).2.1 (mX3_waysToMasters).2.2.1 (mX3_waysToMasters).2.2.2 ∈ jT := jT_in (List.mem_append_right _ (List.mem_of_getElem? (i := 719) rfl)) rfl
theorem jwM_X3_127 : Cond.methodLink RX3 127 yX0_find ∈ jT := jT_in (List.mem_append_right _ (List.mem_of_getElem? (i := 720) (by decide +kernel))) rfl
theorem jwM_X3_138 : Cond.methodLink RX3 138 yX4_fewest ∈ jT := jT_in (List.mem_append_right _ (List.mem_of_getElem? (i := 721) (by decide +kernel))) rfl
theorem jwM_L_126 : Cond.methodLink RL 126 yX10_cut ∈ jT := jT_in (List.mem_append_right _ (List.mem_of_getElem? (i := 722) (by decide +kernel))) rfl
theorem jwN_X10_cut : Cond.instanceMethod yX10_cut ∈ jT := jT_in (List.mem_append_right _ (List.mem_of_getElem? (i := 723) (by decide +kernel))) rfl
theorem jwX_X10_cut : Cond.selects RX10 yX10_cut yX10_cut ∈ jT := jT_in (List.mem_append_right _ (List.mem_of_getElem? (i := 724) (by decide +kernel))) rfl
set_option maxRecDepth 100000 in
theorem jwO_X10_cut : Cond.code (mX10_cut).1 (mX10_cut).2.1 (mX10_cut).2.2.1 (mX10_cut).2.2.2 ∈ jT := jT_in (List.mem_append_right _ (List.mem_of_getElem? (i := 725) rfl)) rfl
theorem jwM_X10_257 : Cond.methodLink RX10 257 yX10_findSheet ∈ jT := jT_in (List.mem_append_right _ (List.mem_of_getElem? (i := 726) (by decide +kernel))) rfl
theorem jwN_X10_findSheet : Cond.instanceMethod yX10_findSheet ∈ jT := jT_in (List.mem_append_right _ (List.mem_of_getElem? (i := 728) (by decide +kernel))) rfl
set_option maxRecDepth 100000 in
theorem jwO_X10_findSheet : Cond.code (mX10_findSheet).1 (mX10_findSheet).2.1 (mX10_findSheet).2.2.1 (mX10_findSheet).2.2.2 ∈ jT := jT_in (List.mem_append_right _ (List.mem_of_getElem? (i := 729) rfl)) rfl
theorem jwC_X10_264 : Cond.constant RX10 264 (-1000000011) ∈ jT := jT_in (List.mem_append_right _ (List.mem_of_getElem? (i := 730) (by decide +kernel))) rfl
theorem jwC_X10_265 : Cond.constant RX10 265 1000000000 ∈ jT := jT_in (List.mem_append_right _ (List.mem_of_getElem? (i := 731) (by decide +kernel))) rfl
theorem jwM_X10_266 : Cond.methodLink RX10 266 yX3_apart ∈ jT := jT_in (List.mem_append_right _ (List.mem_of_getElem? (i := 732) (by decide +kernel))) rfl
theorem jwN_X3_apart : Cond.instanceMethod yX3_apart ∈ jT := jT_in (List.mem_append_right _ (List.mem_of_getElem? (i := 733) (by decide +kernel))) rfl
theorem jwX_X3_apart : Cond.selects RX3 yX3_apart yX3_apart ∈ jT := jT_in (List.mem_append_right _ (List.mem_of_getElem? (i := 734) (by decide +kernel))) rfl
set_option maxRecDepth 100000 in
theorem jwO_X3_apart : Cond.code (mX3_apart).1 (mX3_apart).2.1 (mX3_apart).2.2.1 (mX3_apart).2.2.2 ∈ jT := jT_in (List.mem_append_right _ (List.mem_of_getElem? (i := 735) rfl)) rfl
theorem jwM_X3_144 : Cond.methodLink RX3 144 yX6_isNumber ∈ jT := jT_in (List.mem_append_right _ (List.mem_of_getElem? (i := 736) (by decide +kernel))) rfl
theorem jwN_X6_isNumber : Cond.instanceMethod yX6_isNumber ∈ jT := jT_in (List.mem_append_right _ (List.mem_of_getElem? (i := 737) (by decide +kernel))) rfl
theorem jwX_X6_isNumber : Cond.selects RX6 yX6_isNumber yX6_isNumber ∈ jT := jT_in (List.mem_append_right _ (List.mem_of_getElem? (i := 738) (by decide +kernel))) rfl
set_option maxRecDepth 100000 in
theorem jwO_X6_isNumber : Cond.code (mX6_isNumber).1 (mX6_isNumber).2.1 (mX6_isNumber).2.2.1 (mX6_isNumber).2.2.2 ∈ jT := jT_in (List.mem_append_right _ (List.mem_of_getElem? (i := 739) rfl)) rfl
theorem jwM_X6_32 : Cond.methodLink RX6 32 yX6_hasPlace ∈ jT := jT_in (List.mem_append_right _ (List.mem_of_getElem? (i := 740) (by decide +kernel))) rfl
theorem jwN_X6_hasPlace : Cond.instanceMethod yX6_hasPlace ∈ jT := jT_in (List.mem_append_right _ (List.mem_of_getElem? (i := 741) (by decide +kernel))) rfl
theorem jwX_X6_hasPlace : Cond.selects RX6 yX6_hasPlace yX6_hasPlace ∈ jT := jT_in (List.mem_append_right _ (List.mem_of_getElem? (i := 742) (by decide +kernel))) rfl
set_option maxRecDepth 100000 in
theorem jwO_X6_hasPlace : Cond.code (mX6_hasPlace).1 (mX6_hasPlace).2.1 (mX6_hasPlace).2.2.1 (mX6_hasPlace).2.2.2 ∈ jT := jT_in (List.mem_append_right _ (List.mem_of_getElem? (i := 743) rfl)) rfl
theorem jwC_X6_36 : Cond.constant RX6 36 (-1000000005) ∈ jT := jT_in (List.mem_append_right _ (List.mem_of_getElem? (i := 745) (by decide +kernel))) rfl
theorem jwM_X3_147 : Cond.methodLink RX3 147 yX3_daysTaken ∈ jT := jT_in (List.mem_append_right _ (List.mem_of_getElem? (i := 746) (by decide +kernel))) rfl
theorem jwM_X3_154 : Cond.methodLink RX3 154 Lib.Math.abs.name ∈ jT := jT_in (List.mem_append_right _ (List.mem_of_getElem? (i := 747) (by decide +kernel))) rfl
theorem jwS_abs : Cond.static Lib.Math.abs.name ∈ jT := jT_in (List.mem_append_right _ (List.mem_of_getElem? (i := 748) (by decide +kernel))) rfl
theorem jwO_abs : Cond.code Lib.Math.abs.name Lib.Math.abs.code 1 (some .int) ∈ jT := jT_in (List.mem_append_right _ (List.mem_of_getElem? (i := 749) (by decide +kernel))) rfl
set_option maxRecDepth 100000 in
theorem jwO_J9_abs_0f7a4 : Cond.code (mJ9_abs_0f7a4).1 (mJ9_abs_0f7a4).2.1 (mJ9_abs_0f7a4).2.2.1 (mJ9_abs_0f7a4).2.2.2 ∈ jT := jT_in (List.mem_append_right _ (List.mem_of_getElem? (i := 749) rfl)) rfl
theorem jwM_L_130 : Cond.methodLink RL 130 yX10_fame ∈ jT := jT_in (List.mem_append_right _ (List.mem_of_getElem? (i := 750) (by decide +kernel))) rfl
theorem jwN_X10_fame : Cond.instanceMethod yX10_fame ∈ jT := jT_in (List.mem_append_right _ (List.mem_of_getElem? (i := 751) (by decide +kernel))) rfl
theorem jwX_X10_fame : Cond.selects RX10 yX10_fame yX10_fame ∈ jT := jT_in (List.mem_append_right _ (List.mem_of_getElem? (i := 752) (by decide +kernel))) rfl
set_option maxRecDepth 100000 in
theorem jwO_X10_fame : Cond.code (mX10_fame).1 (mX10_fame).2.1 (mX10_fame).2.2.1 (mX10_fame).2.2.2 ∈ jT := jT_in (List.mem_append_right _ (List.mem_of_getElem? (i := 753) rfl)) rfl
theorem jwM_X10_270 : Cond.methodLink RX10 270 yX3_fameOf ∈ jT := jT_in (List.mem_append_right _ (List.mem_of_getElem? (i := 754) (by decide +kernel))) rfl
theorem jwN_X3_fameOf : Cond.instanceMethod yX3_fameOf ∈ jT := jT_in (List.mem_append_right _ (List.mem_of_getElem? (i := 755) (by decide +kernel))) rfl
theorem jwX_X3_fameOf : Cond.selects RX3 yX3_fameOf yX3_fameOf ∈ jT := jT_in (List.mem_append_right _ (List.mem_of_getElem? (i := 756) (by decide +kernel))) rfl
set_option maxRecDepth 100000 in
theorem jwO_X3_fameOf : Cond.code (mX3_fameOf).1 (mX3_fameOf).2.1 (mX3_fameOf).2.2.1 (mX3_fameOf).2.2.2 ∈ jT := jT_in (List.mem_append_right _ (List.mem_of_getElem? (i := 757) rfl)) rfl
theorem jwM_L_134 : Cond.methodLink RL 134 yX10_fine ∈ jT := jT_in (List.mem_append_right _ (List.mem_of_getElem? (i := 758) (by decide +kernel))) rfl
theorem jwN_X10_fine : Cond.instanceMethod yX10_fine ∈ jT := jT_in (List.mem_append_right _ (List.mem_of_getElem? (i := 759) (by decide +kernel))) rfl
theorem jwX_X10_fine : Cond.selects RX10 yX10_fine yX10_fine ∈ jT := jT_in (List.mem_append_right _ (List.mem_of_getElem? (i := 760) (by decide +kernel))) rfl
set_option maxRecDepth 100000 in
theorem jwO_X10_fine : Cond.code (mX10_fine).1 (mX10_fine).2.1 (mX10_fine).2.2.1 (mX10_fine).2.2.2 ∈ jT := jT_in (List.mem_append_right _ (List.mem_of_getElem? (i := 761) rfl)) rfl
theorem jwM_X10_274 : Cond.methodLink RX10 274 yX3_fineNow ∈ jT := jT_in (List.mem_append_right _ (List.mem_of_getElem? (i := 762) (by decide +kernel))) rfl
theorem jwN_X3_fineNow : Cond.instanceMethod yX3_fineNow ∈ jT := jT_in (List.mem_append_right _ (List.mem_of_getElem? (i := 763) (by decide +kernel))) rfl
theorem jwX_X3_fineNow : Cond.selects RX3 yX3_fineNow yX3_fineNow ∈ jT := jT_in (List.mem_append_right _ (List.mem_of_getElem? (i := 764) (by decide +kernel))) rfl
set_option maxRecDepth 100000 in
theorem jwO_X3_fineNow : Cond.code (mX3_fineNow).1 (mX3_fineNow).2.1 (mX3_fineNow).2.2.1 (mX3_fineNow).2.2.2 ∈ jT := jT_in (List.mem_append_right _ (List.mem_of_getElem? (i := 765) rfl)) rfl
theorem jwM_L_138 : Cond.methodLink RL 138 yX10_feed ∈ jT := jT_in (List.mem_append_right _ (List.mem_of_getElem? (i := 766) (by decide +kernel))) rfl
theorem jwN_X10_feed : Cond.instanceMethod yX10_feed ∈ jT := jT_in (List.mem_append_right _ (List.mem_of_getElem? (i := 767) (by decide +kernel))) rfl
theorem jwX_X10_feed : Cond.selects RX10 yX10_feed yX10_feed ∈ jT := jT_in (List.mem_append_right _ (List.mem_of_getElem? (i := 768) (by decide +kernel))) rfl
set_option maxRecDepth 100000 in
theorem jwO_X10_feed : Cond.code (mX10_feed).1 (mX10_feed).2.1 (mX10_feed).2.2.1 (mX10_feed).2.2.2 ∈ jT := jT_in (List.mem_append_right _ (List.mem_of_getElem? (i := 769) rfl)) rfl
theorem jwM_X10_278 : Cond.methodLink RX10 278 yX8_addNumber ∈ jT := jT_in (List.mem_append_right _ (List.mem_of_getElem? (i := 770) (by decide +kernel))) rfl
theorem jwN_X8_addNumber : Cond.instanceMethod yX8_addNumber ∈ jT := jT_in (List.mem_append_right _ (List.mem_of_getElem? (i := 771) (by decide +kernel))) rfl
theorem jwX_X8_addNumber : Cond.selects RX8 yX8_addNumber yX8_addNumber ∈ jT := jT_in (List.mem_append_right _ (List.mem_of_getElem? (i := 772) (by decide +kernel))) rfl
set_option maxRecDepth 100000 in
theorem jwO_X8_addNumber : Cond.code (mX8_addNumber).1 (mX8_addNumber).2.1 (mX8_addNumber).2.2.1 (mX8_addNumber).2.2.2 ∈ jT := jT_in (List.mem_append_right _ (List.mem_of_getElem? (i := 773) rfl)) rfl
theorem jwM_L_142 : Cond.methodLink RL 142 yX10_trim ∈ jT := jT_in (List.mem_append_right _ (List.mem_of_getElem? (i := 775) (by decide +kernel))) rfl
theorem jwN_X10_trim : Cond.instanceMethod yX10_trim ∈ jT := jT_in (List.mem_append_right _ (List.mem_of_getElem? (i := 776) (by decide +kernel))) rfl
theorem jwX_X10_trim : Cond.selects RX10 yX10_trim yX10_trim ∈ jT := jT_in (List.mem_append_right _ (List.mem_of_getElem? (i := 777) (by decide +kernel))) rfl
set_option maxRecDepth 100000 in
theorem jwO_X10_trim : Cond.code (mX10_trim).1 (mX10_trim).2.1 (mX10_trim).2.2.1 (mX10_trim).2.2.2 ∈ jT := jT_in (List.mem_append_right _ (List.mem_of_getElem? (i := 778) rfl)) rfl
theorem jwM_L_146 : Cond.methodLink RL 146 yX10_text ∈ jT := jT_in (List.mem_append_right _ (List.mem_of_getElem? (i := 779) (by decide +kernel))) rfl
theorem jwN_X10_text : Cond.instanceMethod yX10_text ∈ jT := jT_in (List.mem_append_right _ (List.mem_of_getElem? (i := 780) (by decide +kernel))) rfl
theorem jwX_X10_text : Cond.selects RX10 yX10_text yX10_text ∈ jT := jT_in (List.mem_append_right _ (List.mem_of_getElem? (i := 781) (by decide +kernel))) rfl
set_option maxRecDepth 100000 in
theorem jwO_X10_text : Cond.code (mX10_text).1 (mX10_text).2.1 (mX10_text).2.2.1 (mX10_text).2.2.2 ∈ jT := jT_in (List.mem_append_right _ (List.mem_of_getElem? (i := 782) rfl)) rfl
theorem jwM_X10_281 : Cond.methodLink RX10 281 yX8_isText ∈ jT := jT_in (List.mem_append_right _ (List.mem_of_getElem? (i := 783) (by decide +kernel))) rfl
theorem jwN_X8_isText : Cond.instanceMethod yX8_isText ∈ jT := jT_in (List.mem_append_right _ (List.mem_of_getElem? (i := 784) (by decide +kernel))) rfl
theorem jwX_X8_isText : Cond.selects RX8 yX8_isText yX8_isText ∈ jT := jT_in (List.mem_append_right _ (List.mem_of_getElem? (i := 785) (by decide +kernel))) rfl
set_option maxRecDepth 100000 in
theorem jwO_X8_isText : Cond.code (mX8_isText).1 (mX8_isText).2.1 (mX8_isText).2.2.1 (mX8_isText).2.2.2 ∈ jT := jT_in (List.mem_append_right _ (List.mem_of_getElem? (i := 786) rfl)) rfl
theorem jwM_X8_38 : Cond.methodLink RX8 38 yX8_step ∈ jT := jT_in (List.mem_append_right _ (List.mem_of_getElem? (i := 787) (by decide +kernel))) rfl
theorem jwN_X8_step : Cond.instanceMethod yX8_step ∈ jT := jT_in (List.mem_append_right _ (List.mem_of_getElem? (i := 789) (by decide +kernel))) rfl
set_option maxRecDepth 100000 in
theorem jwO_X8_step : Cond.code (mX8_step).1 (mX8_step).2.1 (mX8_step).2.2.1 (mX8_step).2.2.2 ∈ jT := jT_in (List.mem_append_right _ (List.mem_of_getElem? (i := 790) rfl)) rfl
theorem jwM_X8_66 : Cond.methodLink RX8 66 yX8_byteAt ∈ jT := jT_in (List.mem_append_right _ (List.mem_of_getElem? (i := 791) (by decide +kernel))) rfl
theorem jwN_X8_byteAt : Cond.instanceMethod yX8_byteAt ∈ jT := jT_in (List.mem_append_right _ (List.mem_of_getElem? (i := 793) (by decide +kernel))) rfl
set_option maxRecDepth 100000 in
theorem jwO_X8_byteAt : Cond.code (mX8_byteAt).1 (mX8_byteAt).2.1 (mX8_byteAt).2.2.1 (mX8_byteAt).2.2.2 ∈ jT := jT_in (List.mem_append_right _ (List.mem_of_getElem? (i := 794) rfl)) rfl
theorem jwM_X8_70 : Cond.methodLink RX8 70 yX8_sortAt ∈ jT := jT_in (List.mem_append_right _ (List.mem_of_getElem? (i := 795) (by decide +kernel))) rfl
theorem jwN_X8_sortAt : Cond.instanceMethod yX8_sortAt ∈ jT := jT_in (List.mem_append_right _ (List.mem_of_getElem? (i := 797) (by decide +kernel))) rfl
set_option maxRecDepth 100000 in
theorem jwO_X8_sortAt : Cond.code (mX8_sortAt).1 (mX8_sortAt).2.1 (mX8_sortAt).2.2.1 (mX8_sortAt).2.2.2 ∈ jT := jT_in (List.mem_append_right _ (List.mem_of_getElem? (i := 798) rfl)) rfl
theorem jwM_X8_41 : Cond.methodLink RX8 41 yX8_keyInHand ∈ jT := jT_in (List.mem_append_right _ (List.mem_of_getElem? (i := 799) (by decide +kernel))) rfl
theorem jwN_X8_keyInHand : Cond.instanceMethod yX8_keyInHand ∈ jT := jT_in (List.mem_append_right _ (List.mem_of_getElem? (i := 801) (by decide +kernel))) rfl
set_option maxRecDepth 100000 in
theorem jwO_X8_keyInHand : Cond.code (mX8_keyInHand).1 (mX8_keyInHand).2.1 (mX8_keyInHand).2.2.1 (mX8_keyInHand).2.2.2 ∈ jT := jT_in (List.mem_append_right _ (List.mem_of_getElem? (i := 802) rfl)) rfl
theorem jwM_X8_77 : Cond.methodLink RX8 77 yX8_wordOf ∈ jT := jT_in (List.mem_append_right _ (List.mem_of_getElem? (i := 803) (by decide +kernel))) rfl
theorem jwS_X8_wordOf : Cond.static yX8_wordOf ∈ jT := jT_in (List.mem_append_right _ (List.mem_of_getElem? (i := 804) (by decide +kernel))) rfl
set_option maxRecDepth 100000 in
theorem jwO_X8_wordOf : Cond.code (mX8_wordOf).1 (mX8_wordOf).2.1 (mX8_wordOf).2.2.1 (mX8_wordOf).2.2.2 ∈ jT := jT_in (List.mem_append_right _ (List.mem_of_getElem? (i := 805) rfl)) rfl
theorem jwM_X8_81 : Cond.methodLink RX8 81 yX8_isWordInHand ∈ jT := jT_in (List.mem_append_right _ (List.mem_of_getElem? (i := 809) (by decide +kernel))) rfl
theorem jwN_X8_isWordInHand : Cond.instanceMethod yX8_isWordInHand ∈ jT := jT_in (List.mem_append_right _ (List.mem_of_getElem? (i := 811) (by decide +kernel))) rfl
set_option maxRecDepth 100000 in
theorem jwO_X8_isWordInHand : Cond.code (mX8_isWordInHand).1 (mX8_isWordInHand).2.1 (mX8_isWordInHand).2.2.1 (mX8_isWordInHand).2.2.2 ∈ jT := jT_in (List.mem_append_right _ (List.mem_of_getElem? (i := 812) rfl)) rfl
theorem jwM_X8_85 : Cond.methodLink RX8 85 yJ0_length_8abf5 ∈ jT := jT_in (List.mem_append_right _ (List.mem_of_getElem? (i := 813) (by decide +kernel))) rfl
theorem jwN_J0_length_8abf5 : Cond.instanceMethod yJ0_length_8abf5 ∈ jT := jT_in (List.mem_append_right _ (List.mem_of_getElem? (i := 814) (by decide +kernel))) rfl
theorem jwX_J0_length_8abf5 : Cond.selects RJ0 yJ0_length_8abf5 yJ0_length_8abf5 ∈ jT := jT_in (List.mem_append_right _ (List.mem_of_getElem? (i := 815) (by decide +kernel))) rfl
set_option maxRecDepth 100000 in
theorem jwO_J0_length_8abf5 : Cond.code (mJ0_length_8abf5).1 (mJ0_length_8abf5).2.1 (mJ0_length_8abf5).2.2.1 (mJ0_length_8abf5).2.2.2 ∈ jT := jT_in (List.mem_append_right _ (List.mem_of_getElem? (i := 816) rfl)) rfl
theorem jwM_J0_335 : Cond.methodLink RJ0 335 yJ0_coder_7d493 ∈ jT := jT_in (List.mem_append_right _ (List.mem_of_getElem? (i := 817) (by decide +kernel))) rfl
theorem jwN_J0_coder_7d493 : Cond.instanceMethod yJ0_coder_7d493 ∈ jT := jT_in (List.mem_append_right _ (List.mem_of_getElem? (i := 818) (by decide +kernel))) rfl
theorem jwX_J0_coder_7d493 : Cond.selects RJ0 yJ0_coder_7d493 yJ0_coder_7d493 ∈ jT := jT_in (List.mem_append_right _ (List.mem_of_getElem? (i := 819) (by decide +kernel))) rfl
set_option maxRecDepth 100000 in
theorem jwO_J0_coder_7d493 : Cond.code (mJ0_coder_7d493).1 (mJ0_coder_7d493).2.1 (mJ0_coder_7d493).2.2.1 (mJ0_coder_7d493).2.2.2 ∈ jT := jT_in (List.mem_append_right _ (List.mem_of_getElem? (i := 820) rfl)) rfl
theorem jwF_J0_38 : Cond.fieldLink RJ0 38 RJ0 "COMPACT_STRINGS" "Z" ∈ jT := jT_in (List.mem_append_right _ (List.mem_of_getElem? (i := 821) (by decide +kernel))) rfl
theorem jwM_X8_90 : Cond.methodLink RX8 90 yJ0_charAt_5068e ∈ jT := jT_in (List.mem_append_right _ (List.mem_of_getElem? (i := 823) (by decide +kernel))) rfl
theorem jwN_J0_charAt_5068e : Cond.instanceMethod yJ0_charAt_5068e ∈ jT := jT_in (List.mem_append_right _ (List.mem_of_getElem? (i := 824) (by decide +kernel))) rfl
theorem jwX_J0_charAt_5068e : Cond.selects RJ0 yJ0_charAt_5068e yJ0_charAt_5068e ∈ jT := jT_in (List.mem_append_right _ (List.mem_of_getElem? (i := 825) (by decide +kernel))) rfl
set_option maxRecDepth 100000 in
theorem jwO_J0_charAt_5068e : Cond.code (mJ0_charAt_5068e).1 (mJ0_charAt_5068e).2.1 (mJ0_charAt_5068e).2.2.1 (mJ0_charAt_5068e).2.2.2 ∈ jT := jT_in (List.mem_append_right _ (List.mem_of_getElem? (i := 826) rfl)) rfl
theorem jwM_J0_492 : Cond.methodLink RJ0 492 yJ0_isLatin1_aae02 ∈ jT := jT_in (List.mem_append_right _ (List.mem_of_getElem? (i := 827) (by decide +kernel))) rfl
theorem jwN_J0_isLatin1_aae02 : Cond.instanceMethod yJ0_isLatin1_aae02 ∈ jT := jT_in (List.mem_append_right _ (List.mem_of_getElem? (i := 828) (by decide +kernel))) rfl
theorem jwX_J0_isLatin1_aae02 : Cond.selects RJ0 yJ0_isLatin1_aae02 yJ0_isLatin1_aae02 ∈ jT := jT_in (List.mem_append_right _ (List.mem_of_getElem? (i := 829) (by decide +kernel))) rfl
set_option maxRecDepth 100000 in
theorem jwO_J0_isLatin1_aae02 : Cond.code (mJ0_isLatin1_aae02).1 (mJ0_isLatin1_aae02).2.1 (mJ0_isLatin1_aae02).2.2.1 (mJ0_isLatin1_aae02).2.2.2 ∈ jT := jT_in (List.mem_append_right _ (List.mem_of_getElem? (i := 830) rfl)) rfl
theorem jwM_J0_495 : Cond.methodLink RJ0 495 yJ1_charAt_3b067 ∈ jT := jT_in (List.mem_append_right _ (List.mem_of_getElem? (i := 831) (by decide +kernel))) rfl
theorem jwS_J1_charAt_3b067 : Cond.static yJ1_charAt_3b067 ∈ jT := jT_in (List.mem_append_right _ (List.mem_of_getElem? (i := 832) (by decide +kernel))) rfl
set_option maxRecDepth 100000 in
theorem jwO_J1_charAt_3b067 : Cond.code (mJ1_charAt_3b067).1 (mJ1_charAt_3b067).2.1 (mJ1_charAt_3b067).2.2.1 (mJ1_charAt_3b067).2.2.2 ∈ jT := jT_in (List.mem_append_right _ (List.mem_of_getElem? (i := 833) rfl)) rfl
theorem jwM_J1_9 : Cond.methodLink RJ1 9 yJ0_checkIndex_df160 ∈ jT := jT_in (List.mem_append_right _ (List.mem_of_getElem? (i := 834) (by decide +kernel))) rfl
theorem jwS_J0_checkIndex_df160 : Cond.static yJ0_checkIndex_df160 ∈ jT := jT_in (List.mem_append_right _ (List.mem_of_getElem? (i := 835) (by decide +kernel))) rfl
set_option maxRecDepth 100000 in
theorem jwO_J0_checkIndex_df160 : Cond.code (mJ0_checkIndex_df160).1 (mJ0_checkIndex_df160).2.1 (mJ0_checkIndex_df160).2.2.1 (mJ0_checkIndex_df160).2.2.2 ∈ jT := jT_in (List.mem_append_right _ (List.mem_of_getElem? (i := 836) rfl)) rfl
theorem jwF_J0_1053 : Cond.fieldLink RJ0 1053 RJ3 "SIOOBE_FORMATTER" "Ljava/util/function/BiFunction;" ∈ jT := jT_in (List.mem_append_right _ (List.mem_of_getElem? (i := 837) (by decide +kernel))) rfl
theorem jwM_J0_1059 : Cond.methodLink RJ0 1059 yJ3_checkIndex_8e157 ∈ jT := jT_in (List.mem_append_right _ (List.mem_of_getElem? (i := 839) (by decide +kernel))) rfl
theorem jwS_J3_checkIndex_8e157 : Cond.static yJ3_checkIndex_8e157 ∈ jT := jT_in (List.mem_append_right _ (List.mem_of_getElem? (i := 840) (by decide +kernel))) rfl
set_option maxRecDepth 100000 in
theorem jwO_J3_checkIndex_8e157 : Cond.code (mJ3_checkIndex_8e157).1 (mJ3_checkIndex_8e157).2.1 (mJ3_checkIndex_8e157).2.2.1 (mJ3_checkIndex_8e157).2.2.2 ∈ jT := jT_in (List.mem_append_right _ (List.mem_of_getElem? (i := 841) rfl)) rfl
theorem jwM_J0_498 : Cond.methodLink RJ0 498 yJ2_charAt_3b067 ∈ jT := jT_in (List.mem_append_right _ (List.mem_of_getElem? (i := 842) (by decide +kernel))) rfl
theorem jwS_J2_charAt_3b067 : Cond.static yJ2_charAt_3b067 ∈ jT := jT_in (List.mem_append_right _ (List.mem_of_getElem? (i := 843) (by decide +kernel))) rfl
set_option maxRecDepth 100000 in
theorem jwO_J2_charAt_3b067 : Cond.code (mJ2_charAt_3b067).1 (mJ2_charAt_3b067).2.1 (mJ2_charAt_3b067).2.2.1 (mJ2_charAt_3b067).2.2.2 ∈ jT := jT_in (List.mem_append_right _ (List.mem_of_getElem? (i := 844) rfl)) rfl
theorem jwM_J2_67 : Cond.methodLink RJ2 67 yJ2_checkIndex_2214a ∈ jT := jT_in (List.mem_append_right _ (List.mem_of_getElem? (i := 845) (by decide +kernel))) rfl
theorem jwS_J2_checkIndex_2214a : Cond.static yJ2_checkIndex_2214a ∈ jT := jT_in (List.mem_append_right _ (List.mem_of_getElem? (i := 846) (by decide +kernel))) rfl
set_option maxRecDepth 100000 in
theorem jwO_J2_checkIndex_2214a : Cond.code (mJ2_checkIndex_2214a).1 (mJ2_checkIndex_2214a).2.1 (mJ2_checkIndex_2214a).2.2.1 (mJ2_checkIndex_2214a).2.2.2 ∈ jT := jT_in (List.mem_append_right _ (List.mem_of_getElem? (i := 847) rfl)) rfl
theorem jwM_J2_48 : Cond.methodLink RJ2 48 yJ2_length_9d52b ∈ jT := jT_in (List.mem_append_right _ (List.mem_of_getElem? (i := 848) (by decide +kernel))) rfl
theorem jwS_J2_length_9d52b : Cond.static yJ2_length_9d52b ∈ jT := jT_in (List.mem_append_right _ (List.mem_of_getElem? (i := 849) (by decide +kernel))) rfl
set_option maxRecDepth 100000 in
theorem jwO_J2_length_9d52b : Cond.code (mJ2_length_9d52b).1 (mJ2_length_9d52b).2.1 (mJ2_length_9d52b).2.2.1 (mJ2_length_9d52b).2.2.2 ∈ jT := jT_in (List.mem_append_right _ (List.mem_of_getElem? (i := 850) rfl)) rfl
theorem jwM_J2_414 : Cond.methodLink RJ2 414 yJ0_checkIndex_df160 ∈ jT := jT_in (List.mem_append_right _ (List.mem_of_getElem? (i := 851) (by decide +kernel))) rfl
theorem jwM_J2_71 : Cond.methodLink RJ2 71 yJ2_getChar_3b067 ∈ jT := jT_in (List.mem_append_right _ (List.mem_of_getElem? (i := 852) (by decide +kernel))) rfl
theorem jwS_J2_getChar_3b067 : Cond.static yJ2_getChar_3b067 ∈ jT := jT_in (List.mem_append_right _ (List.mem_of_getElem? (i := 853) (by decide +kernel))) rfl
set_option maxRecDepth 100000 in
theorem jwO_J2_getChar_3b067 : Cond.code (mJ2_getChar_3b067).1 (mJ2_getChar_3b067).2.1 (mJ2_getChar_3b067).2.2.1 (mJ2_getChar_3b067).2.2.2 ∈ jT := jT_in (List.mem_append_right _ (List.mem_of_getElem? (i := 854) rfl)) rfl
theorem jwF_J2_44 : Cond.fieldLink RJ2 44 RJ2 "$assertionsDisabled" "Z" ∈ jT := jT_in (List.mem_append_right _ (List.mem_of_getElem? (i := 855) (by decide +kernel))) rfl
theorem jwF_J2_59 : Cond.fieldLink RJ2 59 RJ2 "HI_BYTE_SHIFT" "I" ∈ jT := jT_in (List.mem_append_right _ (List.mem_of_getElem? (i := 857) (by decide +kernel))) rfl
theorem jwF_J2_63 : Cond.fieldLink RJ2 63 RJ2 "LO_BYTE_SHIFT" "I" ∈ jT := jT_in (List.mem_append_right _ (List.mem_of_getElem? (i := 859) (by decide +kernel))) rfl
theorem jwM_X8_48 : Cond.methodLink RX8 48 yX8_readsChain ∈ jT := jT_in (List.mem_append_right _ (List.mem_of_getElem? (i := 861) (by decide +kernel))) rfl
theorem jwN_X8_readsChain : Cond.instanceMethod yX8_readsChain ∈ jT := jT_in (List.mem_append_right _ (List.mem_of_getElem? (i := 863) (by decide +kernel))) rfl
set_option maxRecDepth 100000 in
theorem jwO_X8_readsChain : Cond.code (mX8_readsChain).1 (mX8_readsChain).2.1 (mX8_readsChain).2.2.1 (mX8_readsChain).2.2.2 ∈ jT := jT_in (List.mem_append_right _ (List.mem_of_getElem? (i := 864) rfl)) rfl
theorem jwM_X8_106 : Cond.methodLink RX8 106 yX8_readsPiece ∈ jT := jT_in (List.mem_append_right _ (List.mem_of_getElem? (i := 865) (by decide +kernel))) rfl
theorem jwN_X8_readsPiece : Cond.instanceMethod yX8_readsPiece ∈ jT := jT_in (List.mem_append_right _ (List.mem_of_getElem? (i := 867) (by decide +kernel))) rfl
set_option maxRecDepth 100000 in
theorem jwO_X8_readsPiece : Cond.code (mX8_readsPiece).1 (mX8_readsPiece).2.1 (mX8_readsPiece).2.2.1 (mX8_readsPiece).2.2.2 ∈ jT := jT_in (List.mem_append_right _ (List.mem_of_getElem? (i := 868) rfl)) rfl
theorem jwM_X8_116 : Cond.methodLink RX8 116 yX8_readsOperand ∈ jT := jT_in (List.mem_append_right _ (List.mem_of_getElem? (i := 869) (by decide +kernel))) rfl
theorem jwN_X8_readsOperand : Cond.instanceMethod yX8_readsOperand ∈ jT := jT_in (List.mem_append_right _ (List.mem_of_getElem? (i := 871) (by decide +kernel))) rfl
set_option maxRecDepth 100000 in
theorem jwO_X8_readsOperand : Cond.code (mX8_readsOperand).1 (mX8_readsOperand).2.1 (mX8_readsOperand).2.2.1 (mX8_readsOperand).2.2.2 ∈ jT := jT_in (List.mem_append_right _ (List.mem_of_getElem? (i := 872) rfl)) rfl
theorem jwM_X8_124 : Cond.methodLink RX8 124 yX8_numberInHand ∈ jT := jT_in (List.mem_append_right _ (List.mem_of_getElem? (i := 873) (by decide +kernel))) rfl
theorem jwN_X8_numberInHand : Cond.instanceMethod yX8_numberInHand ∈ jT := jT_in (List.mem_append_right _ (List.mem_of_getElem? (i := 875) (by decide +kernel))) rfl
set_option maxRecDepth 100000 in
theorem jwO_X8_numberInHand : Cond.code (mX8_numberInHand).1 (mX8_numberInHand).2.1 (mX8_numberInHand).2.2.1 (mX8_numberInHand).2.2.2 ∈ jT := jT_in (List.mem_append_right _ (List.mem_of_getElem? (i := 876) rfl)) rfl
theorem jwM_X8_127 : Cond.methodLink RX8 127 yX8_nameInHand ∈ jT := jT_in (List.mem_append_right _ (List.mem_of_getElem? (i := 877) (by decide +kernel))) rfl
theorem jwN_X8_nameInHand : Cond.instanceMethod yX8_nameInHand ∈ jT := jT_in (List.mem_append_right _ (List.mem_of_getElem? (i := 879) (by decide +kernel))) rfl
set_option maxRecDepth 100000 in
theorem jwO_X8_nameInHand : Cond.code (mX8_nameInHand).1 (mX8_nameInHand).2.1 (mX8_nameInHand).2.2.1 (mX8_nameInHand).2.2.2 ∈ jT := jT_in (List.mem_append_right _ (List.mem_of_getElem? (i := 880) rfl)) rfl
theorem jwM_X8_130 : Cond.methodLink RX8 130 yX8_namesOf ∈ jT := jT_in (List.mem_append_right _ (List.mem_of_getElem? (i := 881) (by decide +kernel))) rfl
theorem jwS_X8_namesOf : Cond.static yX8_namesOf ∈ jT := jT_in (List.mem_append_right _ (List.mem_of_getElem? (i := 882) (by decide +kernel))) rfl
set_option maxRecDepth 100000 in
theorem jwO_X8_namesOf : Cond.code (mX8_namesOf).1 (mX8_namesOf).2.1 (mX8_namesOf).2.2.1 (mX8_namesOf).2.2.2 ∈ jT := jT_in (List.mem_append_right _ (List.mem_of_getElem? (i := 883) rfl)) rfl
theorem jwM_X8_133 : Cond.methodLink RX8 133 yJ0_indexOf_0f7a4 ∈ jT := jT_in (List.mem_append_right _ (List.mem_of_getElem? (i := 887) (by decide +kernel))) rfl
theorem jwN_J0_indexOf_0f7a4 : Cond.instanceMethod yJ0_indexOf_0f7a4 ∈ jT := jT_in (List.mem_append_right _ (List.mem_of_getElem? (i := 888) (by decide +kernel))) rfl
theorem jwX_J0_indexOf_0f7a4 : Cond.selects RJ0 yJ0_indexOf_0f7a4 yJ0_indexOf_0f7a4 ∈ jT := jT_in (List.mem_append_right _ (List.mem_of_getElem? (i := 889) (by decide +kernel))) rfl
set_option maxRecDepth 100000 in
theorem jwO_J0_indexOf_0f7a4 : Cond.code (mJ0_indexOf_0f7a4).1 (mJ0_indexOf_0f7a4).2.1 (mJ0_indexOf_0f7a4).2.2.1 (mJ0_indexOf_0f7a4).2.2.2 ∈ jT := jT_in (List.mem_append_right _ (List.mem_of_getElem? (i := 890) rfl)) rfl
theorem jwM_J0_633 : Cond.methodLink RJ0 633 yJ0_indexOf_7cf53 ∈ jT := jT_in (List.mem_append_right _ (List.mem_of_getElem? (i := 891) (by decide +kernel))) rfl
theorem jwN_J0_indexOf_7cf53 : Cond.instanceMethod yJ0_indexOf_7cf53 ∈ jT := jT_in (List.mem_append_right _ (List.mem_of_getElem? (i := 892) (by decide +kernel))) rfl
theorem jwX_J0_indexOf_7cf53 : Cond.selects RJ0 yJ0_indexOf_7cf53 yJ0_indexOf_7cf53 ∈ jT := jT_in (List.mem_append_right _ (List.mem_of_getElem? (i := 893) (by decide +kernel))) rfl
set_option maxRecDepth 100000 in
theorem jwO_J0_indexOf_7cf53 : Cond.code (mJ0_indexOf_7cf53).1 (mJ0_indexOf_7cf53).2.1 (mJ0_indexOf_7cf53).2.2.1 (mJ0_indexOf_7cf53).2.2.2 ∈ jT := jT_in (List.mem_append_right _ (List.mem_of_getElem? (i := 894) rfl)) rfl
theorem jwM_J0_505 : Cond.methodLink RJ0 505 yJ0_length_8abf5 ∈ jT := jT_in (List.mem_append_right _ (List.mem_of_getElem? (i := 895) (by decide +kernel))) rfl
theorem jwM_J0_637 : Cond.methodLink RJ0 637 yJ1_indexOf_4cfef ∈ jT := jT_in (List.mem_append_right _ (List.mem_of_getElem? (i := 896) (by decide +kernel))) rfl
theorem jwS_J1_indexOf_4cfef : Cond.static yJ1_indexOf_4cfef ∈ jT := jT_in (List.mem_append_right _ (List.mem_of_getElem? (i := 897) (by decide +kernel))) rfl
set_option maxRecDepth 100000 in
theorem jwO_J1_indexOf_4cfef : Cond.code (mJ1_indexOf_4cfef).1 (mJ1_indexOf_4cfef).2.1 (mJ1_indexOf_4cfef).2.2.1 (mJ1_indexOf_4cfef).2.2.2 ∈ jT := jT_in (List.mem_append_right _ (List.mem_of_getElem? (i := 898) rfl)) rfl
theorem jwM_J1_88 : Cond.methodLink RJ1 88 yJ1_canEncode_9a6ad ∈ jT := jT_in (List.mem_append_right _ (List.mem_of_getElem? (i := 899) (by decide +kernel))) rfl
theorem jwS_J1_canEncode_9a6ad : Cond.static yJ1_canEncode_9a6ad ∈ jT := jT_in (List.mem_append_right _ (List.mem_of_getElem? (i := 900) (by decide +kernel))) rfl
set_option maxRecDepth 100000 in
theorem jwO_J1_canEncode_9a6ad : Cond.code (mJ1_canEncode_9a6ad).1 (mJ1_canEncode_9a6ad).2.1 (mJ1_canEncode_9a6ad).2.2.1 (mJ1_canEncode_9a6ad).2.2.2 ∈ jT := jT_in (List.mem_append_right _ (List.mem_of_getElem? (i := 901) rfl)) rfl
theorem jwM_J1_92 : Cond.methodLink RJ1 92 Lib.Math.max.name ∈ jT := jT_in (List.mem_append_right _ (List.mem_of_getElem? (i := 902) (by decide +kernel))) rfl
theorem jwM_J1_38 : Cond.methodLink RJ1 38 Lib.Math.min.name ∈ jT := jT_in (List.mem_append_right _ (List.mem_of_getElem? (i := 903) (by decide +kernel))) rfl
theorem jwM_J1_95 : Cond.methodLink RJ1 95 yJ1_indexOfChar_4cfef ∈ jT := jT_in (List.mem_append_right _ (List.mem_of_getElem? (i := 904) (by decide +kernel))) rfl
theorem jwS_J1_indexOfChar_4cfef : Cond.static yJ1_indexOfChar_4cfef ∈ jT := jT_in (List.mem_append_right _ (List.mem_of_getElem? (i := 905) (by decide +kernel))) rfl
set_option maxRecDepth 100000 in
theorem jwO_J1_indexOfChar_4cfef : Cond.code (mJ1_indexOfChar_4cfef).1 (mJ1_indexOfChar_4cfef).2.1 (mJ1_indexOfChar_4cfef).2.2.1 (mJ1_indexOfChar_4cfef).2.2.2 ∈ jT := jT_in (List.mem_append_right _ (List.mem_of_getElem? (i := 906) rfl)) rfl
theorem jwM_J0_640 : Cond.methodLink RJ0 640 yJ2_indexOf_4cfef ∈ jT := jT_in (List.mem_append_right _ (List.mem_of_getElem? (i := 907) (by decide +kernel))) rfl
theorem jwS_J2_indexOf_4cfef : Cond.static yJ2_indexOf_4cfef ∈ jT := jT_in (List.mem_append_right _ (List.mem_of_getElem? (i := 908) (by decide +kernel))) rfl
set_option maxRecDepth 100000 in
theorem jwO_J2_indexOf_4cfef : Cond.code (mJ2_indexOf_4cfef).1 (mJ2_indexOf_4cfef).2.1 (mJ2_indexOf_4cfef).2.2.1 (mJ2_indexOf_4cfef).2.2.2 ∈ jT := jT_in (List.mem_append_right _ (List.mem_of_getElem? (i := 909) rfl)) rfl
theorem jwM_J2_224 : Cond.methodLink RJ2 224 Lib.Math.max.name ∈ jT := jT_in (List.mem_append_right _ (List.mem_of_getElem? (i := 910) (by decide +kernel))) rfl
theorem jwM_J2_183 : Cond.methodLink RJ2 183 Lib.Math.min.name ∈ jT := jT_in (List.mem_append_right _ (List.mem_of_getElem? (i := 911) (by decide +kernel))) rfl
theorem jwC_J2_227 : Cond.constant RJ2 227 65536 ∈ jT := jT_in (List.mem_append_right _ (List.mem_of_getElem? (i := 912) (by decide +kernel))) rfl
theorem jwM_J2_228 : Cond.methodLink RJ2 228 yJ2_indexOfChar_4cfef ∈ jT := jT_in (List.mem_append_right _ (List.mem_of_getElem? (i := 913) (by decide +kernel))) rfl
theorem jwS_J2_indexOfChar_4cfef : Cond.static yJ2_indexOfChar_4cfef ∈ jT := jT_in (List.mem_append_right _ (List.mem_of_getElem? (i := 914) (by decide +kernel))) rfl
set_option maxRecDepth 100000 in
theorem jwO_J2_indexOfChar_4cfef : Cond.code (mJ2_indexOfChar_4cfef).1 (mJ2_indexOfChar_4cfef).2.1 (mJ2_indexOfChar_4cfef).2.2.1 (mJ2_indexOfChar_4cfef).2.2.2 ∈ jT := jT_in (List.mem_append_right _ (List.mem_of_getElem? (i := 915) rfl)) rfl
theorem jwM_J2_96 : Cond.methodLink RJ2 96 yJ2_checkBoundsBeginEnd_d044e ∈ jT := jT_in (List.mem_append_right _ (List.mem_of_getElem? (i := 916) (by decide +kernel))) rfl
theorem jwS_J2_checkBoundsBeginEnd_d044e : Cond.static yJ2_checkBoundsBeginEnd_d044e ∈ jT := jT_in (List.mem_append_right _ (List.mem_of_getElem? (i := 917) (by decide +kernel))) rfl
set_option maxRecDepth 100000 in
theorem jwO_J2_checkBoundsBeginEnd_d044e : Cond.code (mJ2_checkBoundsBeginEnd_d044e).1 (mJ2_checkBoundsBeginEnd_d044e).2.1 (mJ2_checkBoundsBeginEnd_d044e).2.2.1 (mJ2_checkBoundsBeginEnd_d044e).2.2.2 ∈ jT := jT_in (List.mem_append_right _ (List.mem_of_getElem? (i := 918) rfl)) rfl
theorem jwM_J2_241 : Cond.methodLink RJ2 241 yJ0_checkBoundsBeginEnd_23922 ∈ jT := jT_in (List.mem_append_right _ (List.mem_of_getElem? (i := 919) (by decide +kernel))) rfl
theorem jwS_J0_checkBoundsBeginEnd_23922 : Cond.static yJ0_checkBoundsBeginEnd_23922 ∈ jT := jT_in (List.mem_append_right _ (List.mem_of_getElem? (i := 920) (by decide +kernel))) rfl
set_option maxRecDepth 100000 in
theorem jwO_J0_checkBoundsBeginEnd_23922 : Cond.code (mJ0_checkBoundsBeginEnd_23922).1 (mJ0_checkBoundsBeginEnd_23922).2.1 (mJ0_checkBoundsBeginEnd_23922).2.2.1 (mJ0_checkBoundsBeginEnd_23922).2.2.2 ∈ jT := jT_in (List.mem_append_right _ (List.mem_of_getElem? (i := 921) rfl)) rfl
theorem jwM_J0_1062 : Cond.methodLink RJ0 1062 yJ3_checkFromToIndex_8c36e ∈ jT := jT_in (List.mem_append_right _ (List.mem_of_getElem? (i := 922) (by decide +kernel))) rfl
theorem jwS_J3_checkFromToIndex_8c36e : Cond.static yJ3_checkFromToIndex_8c36e ∈ jT := jT_in (List.mem_append_right _ (List.mem_of_getElem? (i := 923) (by decide +kernel))) rfl
set_option maxRecDepth 100000 in
theorem jwO_J3_checkFromToIndex_8c36e : Cond.code (mJ3_checkFromToIndex_8c36e).1 (mJ3_checkFromToIndex_8c36e).2.1 (mJ3_checkFromToIndex_8c36e).2.2.1 (mJ3_checkFromToIndex_8c36e).2.2.2 ∈ jT := jT_in (List.mem_append_right _ (List.mem_of_getElem? (i := 924) rfl)) rfl
theorem jwM_J2_244 : Cond.methodLink RJ2 244 yJ2_indexOfCharUnsafe_4cfef ∈ jT := jT_in (List.mem_append_right _ (List.mem_of_getElem? (i := 925) (by decide +kernel))) rfl
theorem jwS_J2_indexOfCharUnsafe_4cfef : Cond.static yJ2_indexOfCharUnsafe_4cfef ∈ jT := jT_in (List.mem_append_right _ (List.mem_of_getElem? (i := 926) (by decide +kernel))) rfl
set_option maxRecDepth 100000 in
theorem jwO_J2_indexOfCharUnsafe_4cfef : Cond.code (mJ2_indexOfCharUnsafe_4cfef).1 (mJ2_indexOfCharUnsafe_4cfef).2.1 (mJ2_indexOfCharUnsafe_4cfef).2.2.1 (mJ2_indexOfCharUnsafe_4cfef).2.2.2 ∈ jT := jT_in (List.mem_append_right _ (List.mem_of_getElem? (i := 927) rfl)) rfl
theorem jwM_J2_232 : Cond.methodLink RJ2 232 yJ2_indexOfSupplementary_4cfef ∈ jT := jT_in (List.mem_append_right _ (List.mem_of_getElem? (i := 928) (by decide +kernel))) rfl
theorem jwS_J2_indexOfSupplementary_4cfef : Cond.static yJ2_indexOfSupplementary_4cfef ∈ jT := jT_in (List.mem_append_right _ (List.mem_of_getElem? (i := 929) (by decide +kernel))) rfl
set_option maxRecDepth 100000 in
theorem jwO_J2_indexOfSupplementary_4cfef : Cond.code (mJ2_indexOfSupplementary_4cfef).1 (mJ2_indexOfSupplementary_4cfef).2.1 (mJ2_indexOfSupplementary_4cfef).2.2.1 (mJ2_indexOfSupplementary_4cfef).2.2.2 ∈ jT := jT_in (List.mem_append_right _ (List.mem_of_getElem? (i := 930) rfl)) rfl
theorem jwM_J2_164 : Cond.methodLink RJ2 164 yJ11_isValidCodePoint_9a6ad ∈ jT := jT_in (List.mem_append_right _ (List.mem_of_getElem? (i := 931) (by decide +kernel))) rfl
theorem jwS_J11_isValidCodePoint_9a6ad : Cond.static yJ11_isValidCodePoint_9a6ad ∈ jT := jT_in (List.mem_append_right _ (List.mem_of_getElem? (i := 932) (by decide +kernel))) rfl
set_option maxRecDepth 100000 in
theorem jwO_J11_isValidCodePoint_9a6ad : Cond.code (mJ11_isValidCodePoint_9a6ad).1 (mJ11_isValidCodePoint_9a6ad).2.1 (mJ11_isValidCodePoint_9a6ad).2.2.1 (mJ11_isValidCodePoint_9a6ad).2.2.2 ∈ jT := jT_in (List.mem_append_right _ (List.mem_of_getElem? (i := 933) rfl)) rfl
theorem jwM_J2_157 : Cond.methodLink RJ2 157 yJ11_highSurrogate_5068e ∈ jT := jT_in (List.mem_append_right _ (List.mem_of_getElem? (i := 934) (by decide +kernel))) rfl
theorem jwS_J11_highSurrogate_5068e : Cond.static yJ11_highSurrogate_5068e ∈ jT := jT_in (List.mem_append_right _ (List.mem_of_getElem? (i := 935) (by decide +kernel))) rfl
set_option maxRecDepth 100000 in
theorem jwO_J11_highSurrogate_5068e : Cond.code (mJ11_highSurrogate_5068e).1 (mJ11_highSurrogate_5068e).2.1 (mJ11_highSurrogate_5068e).2.2.1 (mJ11_highSurrogate_5068e).2.2.2 ∈ jT := jT_in (List.mem_append_right _ (List.mem_of_getElem? (i := 936) rfl)) rfl
theorem jwC_J11_110 : Cond.constant RJ11 110 55232 ∈ jT := jT_in (List.mem_append_right _ (List.mem_of_getElem? (i := 937) (by decide +kernel))) rfl
theorem jwM_J2_161 : Cond.methodLink RJ2 161 yJ11_lowSurrogate_5068e ∈ jT := jT_in (List.mem_append_right _ (List.mem_of_getElem? (i := 938) (by decide +kernel))) rfl
theorem jwS_J11_lowSurrogate_5068e : Cond.static yJ11_lowSurrogate_5068e ∈ jT := jT_in (List.mem_append_right _ (List.mem_of_getElem? (i := 939) (by decide +kernel))) rfl
set_option maxRecDepth 100000 in
theorem jwO_J11_lowSurrogate_5068e : Cond.code (mJ11_lowSurrogate_5068e).1 (mJ11_lowSurrogate_5068e).2.1 (mJ11_lowSurrogate_5068e).2.2.1 (mJ11_lowSurrogate_5068e).2.2.2 ∈ jT := jT_in (List.mem_append_right _ (List.mem_of_getElem? (i := 940) rfl)) rfl
theorem jwC_J11_76 : Cond.constant RJ11 76 56320 ∈ jT := jT_in (List.mem_append_right _ (List.mem_of_getElem? (i := 941) (by decide +kernel))) rfl
theorem jwM_X8_112 : Cond.methodLink RX8 112 yX8_write ∈ jT := jT_in (List.mem_append_right _ (List.mem_of_getElem? (i := 942) (by decide +kernel))) rfl
theorem jwN_X8_write : Cond.instanceMethod yX8_write ∈ jT := jT_in (List.mem_append_right _ (List.mem_of_getElem? (i := 944) (by decide +kernel))) rfl
set_option maxRecDepth 100000 in
theorem jwO_X8_write : Cond.code (mX8_write).1 (mX8_write).2.1 (mX8_write).2.2.1 (mX8_write).2.2.2 ∈ jT := jT_in (List.mem_append_right _ (List.mem_of_getElem? (i := 945) rfl)) rfl
theorem jwM_X8_120 : Cond.methodLink RX8 120 yX8_isInHand ∈ jT := jT_in (List.mem_append_right _ (List.mem_of_getElem? (i := 946) (by decide +kernel))) rfl
theorem jwN_X8_isInHand : Cond.instanceMethod yX8_isInHand ∈ jT := jT_in (List.mem_append_right _ (List.mem_of_getElem? (i := 948) (by decide +kernel))) rfl
set_option maxRecDepth 100000 in
theorem jwO_X8_isInHand : Cond.code (mX8_isInHand).1 (mX8_isInHand).2.1 (mX8_isInHand).2.2.1 (mX8_isInHand).2.2.2 ∈ jT := jT_in (List.mem_append_right _ (List.mem_of_getElem? (i := 949) rfl)) rfl
theorem jwM_X8_109 : Cond.methodLink RX8 109 yX8_levelInHand ∈ jT := jT_in (List.mem_append_right _ (List.mem_of_getElem? (i := 950) (by decide +kernel))) rfl
theorem jwN_X8_levelInHand : Cond.instanceMethod yX8_levelInHand ∈ jT := jT_in (List.mem_append_right _ (List.mem_of_getElem? (i := 952) (by decide +kernel))) rfl
set_option maxRecDepth 100000 in
theorem jwO_X8_levelInHand : Cond.code (mX8_levelInHand).1 (mX8_levelInHand).2.1 (mX8_levelInHand).2.2.1 (mX8_levelInHand).2.2.2 ∈ jT := jT_in (List.mem_append_right _ (List.mem_of_getElem? (i := 953) rfl)) rfl
theorem jwM_X10_290 : Cond.methodLink RX10 290 yX8_textRead ∈ jT := jT_in (List.mem_append_right _ (List.mem_of_getElem? (i := 954) (by decide +kernel))) rfl
theorem jwN_X8_textRead : Cond.instanceMethod yX8_textRead ∈ jT := jT_in (List.mem_append_right _ (List.mem_of_getElem? (i := 955) (by decide +kernel))) rfl
theorem jwX_X8_textRead : Cond.selects RX8 yX8_textRead yX8_textRead ∈ jT := jT_in (List.mem_append_right _ (List.mem_of_getElem? (i := 956) (by decide +kernel))) rfl
set_option maxRecDepth 100000 in
theorem jwO_X8_textRead : Cond.code (mX8_textRead).1 (mX8_textRead).2.1 (mX8_textRead).2.2.1 (mX8_textRead).2.2.2 ∈ jT := jT_in (List.mem_append_right _ (List.mem_of_getElem? (i := 957) rfl)) rfl
theorem jwM_X8_52 : Cond.methodLink RX8 52 arraycopyName ∈ jT := jT_in (List.mem_append_right _ (List.mem_of_getElem? (i := 958) (by decide +kernel))) rfl
theorem jwS_copy : Cond.static arraycopyName ∈ jT := jT_in (List.mem_append_right _ (List.mem_of_getElem? (i := 959) (by decide +kernel))) rfl
theorem jwV_copy : Cond.native arraycopyName ∈ jT := jT_in (List.mem_append_right _ (List.mem_of_getElem? (i := 960) (by decide +kernel))) rfl
theorem jwK_X8_58 : Cond.classLink RX8 58 RX9 ∈ jT := jT_in (List.mem_append_right _ (List.mem_of_getElem? (i := 961) (by decide +kernel))) rfl
theorem jwI_X9 : Cond.instantiable RX9 4 ∈ jT := jT_in (List.mem_append_right _ (List.mem_of_getElem? (i := 962) (by decide +kernel))) rfl
theorem jwM_X8_60 : Cond.methodLink RX8 60 yX9_init ∈ jT := jT_in (List.mem_append_right _ (List.mem_of_getElem? (i := 963) (by decide +kernel))) rfl
theorem jwN_X9_init : Cond.instanceMethod yX9_init ∈ jT := jT_in (List.mem_append_right _ (List.mem_of_getElem? (i := 964) (by decide +kernel))) rfl
set_option maxRecDepth 100000 in
theorem jwO_X9_init : Cond.code (mX9_init).1 (mX9_init).2.1 (mX9_init).2.2.1 (mX9_init).2.2.2 ∈ jT := jT_in (List.mem_append_right _ (List.mem_of_getElem? (i := 965) rfl)) rfl
theorem jwM_X9_3 : Cond.methodLink RX9 3 Lib.objectInit ∈ jT := jT_in (List.mem_append_right _ (List.mem_of_getElem? (i := 966) (by decide +kernel))) rfl
theorem jwM_X9_22 : Cond.methodLink RX9 22 Lib.Math.max.name ∈ jT := jT_in (List.mem_append_right _ (List.mem_of_getElem? (i := 967) (by decide +kernel))) rfl
theorem jwF_X9_9 : Cond.fieldLink RX9 9 RX9 "key" "I" ∈ jT := jT_in (List.mem_append_right _ (List.mem_of_getElem? (i := 968) (by decide +kernel))) rfl
theorem jwF_X3_80 : Cond.fieldLink RX3 80 RX9 "key" "I" ∈ jT := jT_in (List.mem_append_right _ (List.mem_of_getElem? (i := 969) (by decide +kernel))) rfl
theorem jwF_X10_302 : Cond.fieldLink RX10 302 RX9 "key" "I" ∈ jT := jT_in (List.mem_append_right _ (List.mem_of_getElem? (i := 970) (by decide +kernel))) rfl
theorem jwF_X9_15 : Cond.fieldLink RX9 15 RX9 "operands" "I" ∈ jT := jT_in (List.mem_append_right _ (List.mem_of_getElem? (i := 971) (by decide +kernel))) rfl
theorem jwF_X10_307 : Cond.fieldLink RX10 307 RX9 "operands" "I" ∈ jT := jT_in (List.mem_append_right _ (List.mem_of_getElem? (i := 972) (by decide +kernel))) rfl
theorem jwF_X9_18 : Cond.fieldLink RX9 18 RX9 "code" "[I" ∈ jT := jT_in (List.mem_append_right _ (List.mem_of_getElem? (i := 973) (by decide +kernel))) rfl
theorem jwF_X9_28 : Cond.fieldLink RX9 28 RX9 "stack" "[I" ∈ jT := jT_in (List.mem_append_right _ (List.mem_of_getElem? (i := 974) (by decide +kernel))) rfl
theorem jwY_X9_key : Cond.laysFinal RX9 RX9 "key" "I" ∈ jT := jT_in (List.mem_append_right _ (List.mem_of_getElem? (i := 975) (by decide +kernel))) rfl
theorem jwY_X9_operands : Cond.laysFinal RX9 RX9 "operands" "I" ∈ jT := jT_in (List.mem_append_right _ (List.mem_of_getElem? (i := 977) (by decide +kernel))) rfl
theorem jwY_X9_code : Cond.laysFinal RX9 RX9 "code" "[I" ∈ jT := jT_in (List.mem_append_right _ (List.mem_of_getElem? (i := 979) (by decide +kernel))) rfl
theorem jwY_X9_stack : Cond.laysFinal RX9 RX9 "stack" "[I" ∈ jT := jT_in (List.mem_append_right _ (List.mem_of_getElem? (i := 981) (by decide +kernel))) rfl
theorem jwM_X10_294 : Cond.methodLink RX10 294 yX3_addText ∈ jT := jT_in (List.mem_append_right _ (List.mem_of_getElem? (i := 985) (by decide +kernel))) rfl
theorem jwN_X3_addText : Cond.instanceMethod yX3_addText ∈ jT := jT_in (List.mem_append_right _ (List.mem_of_getElem? (i := 986) (by decide +kernel))) rfl
theorem jwX_X3_addText : Cond.selects RX3 yX3_addText yX3_addText ∈ jT := jT_in (List.mem_append_right _ (List.mem_of_getElem? (i := 987) (by decide +kernel))) rfl
set_option maxRecDepth 100000 in
theorem jwO_X3_addText : Cond.code (mX3_addText).1 (mX3_addText).2.1 (mX3_addText).2.2.1 (mX3_addText).2.2.2 ∈ jT := jT_in (List.mem_append_right _ (List.mem_of_getElem? (i := 988) rfl)) rfl
theorem jwM_L_150 : Cond.methodLink RL 150 yX10_textTold ∈ jT := jT_in (List.mem_append_right _ (List.mem_of_getElem? (i := 989) (by decide +kernel))) rfl
theorem jwN_X10_textTold : Cond.instanceMethod yX10_textTold ∈ jT := jT_in (List.mem_append_right _ (List.mem_of_getElem? (i := 990) (by decide +kernel))) rfl
theorem jwX_X10_textTold : Cond.selects RX10 yX10_textTold yX10_textTold ∈ jT := jT_in (List.mem_append_right _ (List.mem_of_getElem? (i := 991) (by decide +kernel))) rfl
set_option maxRecDepth 100000 in
theorem jwO_X10_textTold : Cond.code (mX10_textTold).1 (mX10_textTold).2.1 (mX10_textTold).2.2.1 (mX10_textTold).2.2.2 ∈ jT := jT_in (List.mem_append_right _ (List.mem_of_getElem? (i := 992) rfl)) rfl
theorem jwM_X10_298 : Cond.methodLink RX10 298 yX3_findText ∈ jT := jT_in (List.mem_append_right _ (List.mem_of_getElem? (i := 993) (by decide +kernel))) rfl
theorem jwM_L_154 : Cond.methodLink RL 154 yX10_why ∈ jT := jT_in (List.mem_append_right _ (List.mem_of_getElem? (i := 994) (by decide +kernel))) rfl
theorem jwN_X10_why : Cond.instanceMethod yX10_why ∈ jT := jT_in (List.mem_append_right _ (List.mem_of_getElem? (i := 995) (by decide +kernel))) rfl
theorem jwX_X10_why : Cond.selects RX10 yX10_why yX10_why ∈ jT := jT_in (List.mem_append_right _ (List.mem_of_getElem? (i := 996) (by decide +kernel))) rfl
set_option maxRecDepth 100000 in
theorem jwO_X10_why : Cond.code (mX10_why).1 (mX10_why).2.1 (mX10_why).2.2.1 (mX10_why).2.2.2 ∈ jT := jT_in (List.mem_append_right _ (List.mem_of_getElem? (i := 997) rfl)) rfl
theorem jwM_X10_310 : Cond.methodLink RX10 310 yX3_numberOfLaw ∈ jT := jT_in (List.mem_append_right _ (List.mem_of_getElem? (i := 998) (by decide +kernel))) rfl
theorem jwM_L_158 : Cond.methodLink RL 158 yX10_sheet ∈ jT := jT_in (List.mem_append_right _ (List.mem_of_getElem? (i := 999) (by decide +kernel))) rfl
theorem jwN_X10_sheet : Cond.instanceMethod yX10_sheet ∈ jT := jT_in (List.mem_append_right _ (List.mem_of_getElem? (i := 1000) (by decide +kernel))) rfl
theorem jwX_X10_sheet : Cond.selects RX10 yX10_sheet yX10_sheet ∈ jT := jT_in (List.mem_append_right _ (List.mem_of_getElem? (i := 1001) (by decide +kernel))) rfl
set_option maxRecDepth 100000 in
theorem jwO_X10_sheet : Cond.code (mX10_sheet).1 (mX10_sheet).2.1 (mX10_sheet).2.2.1 (mX10_sheet).2.2.2 ∈ jT := jT_in (List.mem_append_right _ (List.mem_of_getElem? (i := 1002) rfl)) rfl
theorem jwM_X10_313 : Cond.methodLink RX10 313 yX6_begin ∈ jT := jT_in (List.mem_append_right _ (List.mem_of_getElem? (i := 1003) (by decide +kernel))) rfl
theorem jwN_X6_begin : Cond.instanceMethod yX6_begin ∈ jT := jT_in (List.mem_append_right _ (List.mem_of_getElem? (i := 1004) (by decide +kernel))) rfl
theorem jwX_X6_begin : Cond.selects RX6 yX6_begin yX6_begin ∈ jT := jT_in (List.mem_append_right _ (List.mem_of_getElem? (i := 1005) (by decide +kernel))) rfl
set_option maxRecDepth 100000 in
theorem jwO_X6_begin : Cond.code (mX6_begin).1 (mX6_begin).2.1 (mX6_begin).2.2.1 (mX6_begin).2.2.2 ∈ jT := jT_in (List.mem_append_right _ (List.mem_of_getElem? (i := 1006) rfl)) rfl
theorem jwC_X10_317 : Cond.constant RX10 317 (-1000000014) ∈ jT := jT_in (List.mem_append_right _ (List.mem_of_getElem? (i := 1007) (by decide +kernel))) rfl
theorem jwM_L_162 : Cond.methodLink RL 162 yX10_mark ∈ jT := jT_in (List.mem_append_right _ (List.mem_of_getElem? (i := 1008) (by decide +kernel))) rfl
theorem jwN_X10_mark : Cond.instanceMethod yX10_mark ∈ jT := jT_in (List.mem_append_right _ (List.mem_of_getElem? (i := 1009) (by decide +kernel))) rfl
theorem jwX_X10_mark : Cond.selects RX10 yX10_mark yX10_mark ∈ jT := jT_in (List.mem_append_right _ (List.mem_of_getElem? (i := 1010) (by decide +kernel))) rfl
set_option maxRecDepth 100000 in
theorem jwO_X10_mark : Cond.code (mX10_mark).1 (mX10_mark).2.1 (mX10_mark).2.2.1 (mX10_mark).2.2.2 ∈ jT := jT_in (List.mem_append_right _ (List.mem_of_getElem? (i := 1011) rfl)) rfl
theorem jwM_X10_318 : Cond.methodLink RX10 318 yX6_hasPlace ∈ jT := jT_in (List.mem_append_right _ (List.mem_of_getElem? (i := 1012) (by decide +kernel))) rfl
theorem jwC_X10_321 : Cond.constant RX10 321 (-1000000013) ∈ jT := jT_in (List.mem_append_right _ (List.mem_of_getElem? (i := 1013) (by decide +kernel))) rfl
theorem jwC_X10_325 : Cond.constant RX10 325 (-99999) ∈ jT := jT_in (List.mem_append_right _ (List.mem_of_getElem? (i := 1014) (by decide +kernel))) rfl
theorem jwC_X10_326 : Cond.constant RX10 326 99999 ∈ jT := jT_in (List.mem_append_right _ (List.mem_of_getElem? (i := 1015) (by decide +kernel))) rfl
theorem jwM_L_166 : Cond.methodLink RL 166 yX10_pour ∈ jT := jT_in (List.mem_append_right _ (List.mem_of_getElem? (i := 1016) (by decide +kernel))) rfl
theorem jwN_X10_pour : Cond.instanceMethod yX10_pour ∈ jT := jT_in (List.mem_append_right _ (List.mem_of_getElem? (i := 1017) (by decide +kernel))) rfl
theorem jwX_X10_pour : Cond.selects RX10 yX10_pour yX10_pour ∈ jT := jT_in (List.mem_append_right _ (List.mem_of_getElem? (i := 1018) (by decide +kernel))) rfl
set_option maxRecDepth 100000 in
theorem jwO_X10_pour : Cond.code (mX10_pour).1 (mX10_pour).2.1 (mX10_pour).2.2.1 (mX10_pour).2.2.2 ∈ jT := jT_in (List.mem_append_right _ (List.mem_of_getElem? (i := 1019) rfl)) rfl
theorem jwM_X10_328 : Cond.methodLink RX10 328 yX6_isNumber ∈ jT := jT_in (List.mem_append_right _ (List.mem_of_getElem? (i := 1020) (by decide +kernel))) rfl
theorem jwM_X10_331 : Cond.methodLink RX10 331 Lib.Math.max.name ∈ jT := jT_in (List.mem_append_right _ (List.mem_of_getElem? (i := 1021) (by decide +kernel))) rfl
theorem jwM_L_170 : Cond.methodLink RL 170 yX10_reads ∈ jT := jT_in (List.mem_append_right _ (List.mem_of_getElem? (i := 1022) (by decide +kernel))) rfl
theorem jwN_X10_reads : Cond.instanceMethod yX10_reads ∈ jT := jT_in (List.mem_append_right _ (List.mem_of_getElem? (i := 1023) (by decide +kernel))) rfl
theorem jwX_X10_reads : Cond.selects RX10 yX10_reads yX10_reads ∈ jT := jT_in (List.mem_append_right _ (List.mem_of_getElem? (i := 1024) (by decide +kernel))) rfl
set_option maxRecDepth 100000 in
theorem jwO_X10_reads : Cond.code (mX10_reads).1 (mX10_reads).2.1 (mX10_reads).2.2.1 (mX10_reads).2.2.2 ∈ jT := jT_in (List.mem_append_right _ (List.mem_of_getElem? (i := 1025) rfl)) rfl
theorem jwM_L_174 : Cond.methodLink RL 174 yX10_copy ∈ jT := jT_in (List.mem_append_right _ (List.mem_of_getElem? (i := 1026) (by decide +kernel))) rfl
theorem jwN_X10_copy : Cond.instanceMethod yX10_copy ∈ jT := jT_in (List.mem_append_right _ (List.mem_of_getElem? (i := 1027) (by decide +kernel))) rfl
theorem jwX_X10_copy : Cond.selects RX10 yX10_copy yX10_copy ∈ jT := jT_in (List.mem_append_right _ (List.mem_of_getElem? (i := 1028) (by decide +kernel))) rfl
set_option maxRecDepth 100000 in
theorem jwO_X10_copy : Cond.code (mX10_copy).1 (mX10_copy).2.1 (mX10_copy).2.2.1 (mX10_copy).2.2.2 ∈ jT := jT_in (List.mem_append_right _ (List.mem_of_getElem? (i := 1029) rfl)) rfl
theorem jwM_X10_334 : Cond.methodLink RX10 334 yX6_hasPlaces ∈ jT := jT_in (List.mem_append_right _ (List.mem_of_getElem? (i := 1030) (by decide +kernel))) rfl
theorem jwN_X6_hasPlaces : Cond.instanceMethod yX6_hasPlaces ∈ jT := jT_in (List.mem_append_right _ (List.mem_of_getElem? (i := 1031) (by decide +kernel))) rfl
theorem jwX_X6_hasPlaces : Cond.selects RX6 yX6_hasPlaces yX6_hasPlaces ∈ jT := jT_in (List.mem_append_right _ (List.mem_of_getElem? (i := 1032) (by decide +kernel))) rfl
set_option maxRecDepth 100000 in
theorem jwO_X6_hasPlaces : Cond.code (mX6_hasPlaces).1 (mX6_hasPlaces).2.1 (mX6_hasPlaces).2.2.1 (mX6_hasPlaces).2.2.2 ∈ jT := jT_in (List.mem_append_right _ (List.mem_of_getElem? (i := 1033) rfl)) rfl
theorem jwM_X10_337 : Cond.methodLink RX10 337 arraycopyName ∈ jT := jT_in (List.mem_append_right _ (List.mem_of_getElem? (i := 1034) (by decide +kernel))) rfl
