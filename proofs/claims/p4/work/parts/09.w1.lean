section
theorem jwZ_X10 : Cond.initialized RX10 ∈ jT := jT_in (List.mem_append_right _ (jm_1 (List.mem_of_getElem? (i := 1) (by decide +kernel)))) rfl
theorem jwZ_X3 : Cond.initialized RX3 ∈ jT := jT_in (List.mem_append_right _ (jm_1 (List.mem_of_getElem? (i := 2) (by decide +kernel)))) rfl
theorem jwZ_X0 : Cond.initialized RX0 ∈ jT := jT_in (List.mem_append_right _ (jm_1 (List.mem_of_getElem? (i := 3) (by decide +kernel)))) rfl
theorem jwZ_X2 : Cond.initialized RX2 ∈ jT := jT_in (List.mem_append_right _ (jm_1 (List.mem_of_getElem? (i := 4) (by decide +kernel)))) rfl
theorem jwZ_X4 : Cond.initialized RX4 ∈ jT := jT_in (List.mem_append_right _ (jm_1 (List.mem_of_getElem? (i := 5) (by decide +kernel)))) rfl
theorem jwZ_J9 : Cond.initialized RJ9 ∈ jT := jT_in (List.mem_append_right _ (jm_1 (List.mem_of_getElem? (i := 6) (by decide +kernel)))) rfl
theorem jwZ_X1 : Cond.initialized RX1 ∈ jT := jT_in (List.mem_append_right _ (jm_1 (List.mem_of_getElem? (i := 7) (by decide +kernel)))) rfl
theorem jwZ_X5 : Cond.initialized RX5 ∈ jT := jT_in (List.mem_append_right _ (jm_1 (List.mem_of_getElem? (i := 8) (by decide +kernel)))) rfl
theorem jwZ_X8 : Cond.initialized RX8 ∈ jT := jT_in (List.mem_append_right _ (jm_1 (List.mem_of_getElem? (i := 9) (by decide +kernel)))) rfl
theorem jwZ_X6 : Cond.initialized RX6 ∈ jT := jT_in (List.mem_append_right _ (jm_1 (List.mem_of_getElem? (i := 10) (by decide +kernel)))) rfl
theorem jwZ_X7 : Cond.initialized RX7 ∈ jT := jT_in (List.mem_append_right _ (jm_1 (List.mem_of_getElem? (i := 11) (by decide +kernel)))) rfl
theorem jwZ_X11 : Cond.initialized RX11 ∈ jT := jT_in (List.mem_append_right _ (jm_1 (List.mem_of_getElem? (i := 12) (by decide +kernel)))) rfl
theorem jwZ_J6 : Cond.initialized RJ6 ∈ jT := jT_in (List.mem_append_right _ (jm_1 (List.mem_of_getElem? (i := 13) (by decide +kernel)))) rfl
theorem jwZ_X9 : Cond.initialized RX9 ∈ jT := jT_in (List.mem_append_right _ (jm_1 (List.mem_of_getElem? (i := 14) (by decide +kernel)))) rfl
theorem jwZ_J0 : Cond.initialized RJ0 ∈ jT := jT_in (List.mem_append_right _ (jm_1 (List.mem_of_getElem? (i := 15) (by decide +kernel)))) rfl
theorem jwZ_J1 : Cond.initialized RJ1 ∈ jT := jT_in (List.mem_append_right _ (jm_1 (List.mem_of_getElem? (i := 16) (by decide +kernel)))) rfl
theorem jwZ_J3 : Cond.initialized RJ3 ∈ jT := jT_in (List.mem_append_right _ (jm_1 (List.mem_of_getElem? (i := 17) (by decide +kernel)))) rfl
theorem jwZ_J10 : Cond.initialized RJ10 ∈ jT := jT_in (List.mem_append_right _ (jm_1 (List.mem_of_getElem? (i := 20) (by decide +kernel)))) rfl
theorem jwK_L_7 : Cond.classLink RL 7 RX10 ∈ jT := jT_in (List.mem_append_right _ (jm_1 (List.mem_of_getElem? (i := 21) (by decide +kernel)))) rfl
theorem jwI_X10 : Cond.instantiable RX10 10 ∈ jT := jT_in (List.mem_append_right _ (jm_1 (List.mem_of_getElem? (i := 22) (by decide +kernel)))) rfl
theorem jwM_L_9 : Cond.methodLink RL 9 yX10_init ∈ jT := jT_in (List.mem_append_right _ (jm_1 (List.mem_of_getElem? (i := 23) (by decide +kernel)))) rfl
theorem jwN_X10_init : Cond.instanceMethod yX10_init ∈ jT := jT_in (List.mem_append_right _ (jm_1 (List.mem_of_getElem? (i := 24) (by decide +kernel)))) rfl
set_option maxRecDepth 100000 in
theorem jwO_X10_init : Cond.code (mX10_init).1 (mX10_init).2.1 (mX10_init).2.2.1 (mX10_init).2.2.2 ∈ jT := jT_in (List.mem_append_right _ (jm_1 (List.mem_of_getElem? (i := 25) rfl))) rfl
theorem jwM_X10_3 : Cond.methodLink RX10 3 Lib.objectInit ∈ jT := jT_in (List.mem_append_right _ (jm_1 (List.mem_of_getElem? (i := 26) (by decide +kernel)))) rfl
theorem jwN_obj : Cond.instanceMethod Lib.objectInit ∈ jT := jT_in (List.mem_append_right _ (jm_1 (List.mem_of_getElem? (i := 27) (by decide +kernel)))) rfl
theorem jwO_obj : Cond.code Lib.objectInit ⟨#[0xb1]⟩ 1 none ∈ jT := jT_in (List.mem_append_right _ (jm_1 (List.mem_of_getElem? (i := 28) (by decide +kernel)))) rfl
theorem jwK_X10_9 : Cond.classLink RX10 9 RX3 ∈ jT := jT_in (List.mem_append_right _ (jm_1 (List.mem_of_getElem? (i := 29) (by decide +kernel)))) rfl
theorem jwI_X3 : Cond.instantiable RX3 7 ∈ jT := jT_in (List.mem_append_right _ (jm_1 (List.mem_of_getElem? (i := 30) (by decide +kernel)))) rfl
theorem jwN_X3_init : Cond.instanceMethod yX3_init ∈ jT := jT_in (List.mem_append_right _ (jm_1 (List.mem_of_getElem? (i := 32) (by decide +kernel)))) rfl
set_option maxRecDepth 100000 in
theorem jwO_X3_init : Cond.code (mX3_init).1 (mX3_init).2.1 (mX3_init).2.2.1 (mX3_init).2.2.2 ∈ jT := jT_in (List.mem_append_right _ (jm_1 (List.mem_of_getElem? (i := 33) rfl))) rfl
theorem jwM_X3_3 : Cond.methodLink RX3 3 Lib.objectInit ∈ jT := jT_in (List.mem_append_right _ (jm_1 (List.mem_of_getElem? (i := 34) (by decide +kernel)))) rfl
theorem jwK_X3_9 : Cond.classLink RX3 9 RX0 ∈ jT := jT_in (List.mem_append_right _ (jm_1 (List.mem_of_getElem? (i := 35) (by decide +kernel)))) rfl
theorem jwI_X0 : Cond.instantiable RX0 3 ∈ jT := jT_in (List.mem_append_right _ (jm_1 (List.mem_of_getElem? (i := 36) (by decide +kernel)))) rfl
theorem jwM_X3_11 : Cond.methodLink RX3 11 yX0_init ∈ jT := jT_in (List.mem_append_right _ (jm_1 (List.mem_of_getElem? (i := 37) (by decide +kernel)))) rfl
theorem jwN_X0_init : Cond.instanceMethod yX0_init ∈ jT := jT_in (List.mem_append_right _ (jm_1 (List.mem_of_getElem? (i := 38) (by decide +kernel)))) rfl
set_option maxRecDepth 100000 in
theorem jwO_X0_init : Cond.code (mX0_init).1 (mX0_init).2.1 (mX0_init).2.2.1 (mX0_init).2.2.2 ∈ jT := jT_in (List.mem_append_right _ (jm_1 (List.mem_of_getElem? (i := 39) rfl))) rfl
theorem jwM_X0_3 : Cond.methodLink RX0 3 Lib.objectInit ∈ jT := jT_in (List.mem_append_right _ (jm_1 (List.mem_of_getElem? (i := 40) (by decide +kernel)))) rfl
theorem jwK_X0_9 : Cond.classLink RX0 9 RX2 ∈ jT := jT_in (List.mem_append_right _ (jm_1 (List.mem_of_getElem? (i := 41) (by decide +kernel)))) rfl
theorem jwI_X2 : Cond.instantiable RX2 7 ∈ jT := jT_in (List.mem_append_right _ (jm_1 (List.mem_of_getElem? (i := 43) (by decide +kernel)))) rfl
theorem jwN_X2_init : Cond.instanceMethod yX2_init ∈ jT := jT_in (List.mem_append_right _ (jm_1 (List.mem_of_getElem? (i := 45) (by decide +kernel)))) rfl
set_option maxRecDepth 100000 in
theorem jwO_X2_init : Cond.code (mX2_init).1 (mX2_init).2.1 (mX2_init).2.2.1 (mX2_init).2.2.2 ∈ jT := jT_in (List.mem_append_right _ (jm_1 (List.mem_of_getElem? (i := 46) rfl))) rfl
theorem jwM_X2_3 : Cond.methodLink RX2 3 Lib.objectInit ∈ jT := jT_in (List.mem_append_right _ (jm_1 (List.mem_of_getElem? (i := 47) (by decide +kernel)))) rfl
theorem jwF_X2_9 : Cond.fieldLink RX2 9 RX2 "kind" "I" ∈ jT := jT_in (List.mem_append_right _ (jm_1 (List.mem_of_getElem? (i := 48) (by decide +kernel)))) rfl
theorem jwF_X10_83 : Cond.fieldLink RX10 83 RX2 "kind" "I" ∈ jT := jT_in (List.mem_append_right _ (jm_1 (List.mem_of_getElem? (i := 49) (by decide +kernel)))) rfl
theorem jwF_X2_15 : Cond.fieldLink RX2 15 RX2 "town" "I" ∈ jT := jT_in (List.mem_append_right _ (jm_1 (List.mem_of_getElem? (i := 50) (by decide +kernel)))) rfl
theorem jwF_X10_88 : Cond.fieldLink RX10 88 RX2 "town" "I" ∈ jT := jT_in (List.mem_append_right _ (jm_1 (List.mem_of_getElem? (i := 51) (by decide +kernel)))) rfl
theorem jwF_X5_117 : Cond.fieldLink RX5 117 RX2 "town" "I" ∈ jT := jT_in (List.mem_append_right _ (jm_1 (List.mem_of_getElem? (i := 52) (by decide +kernel)))) rfl
theorem jwF_X1_54 : Cond.fieldLink RX1 54 RX2 "town" "I" ∈ jT := jT_in (List.mem_append_right _ (jm_1 (List.mem_of_getElem? (i := 53) (by decide +kernel)))) rfl
theorem jwF_X3_135 : Cond.fieldLink RX3 135 RX2 "town" "I" ∈ jT := jT_in (List.mem_append_right _ (jm_1 (List.mem_of_getElem? (i := 54) (by decide +kernel)))) rfl
theorem jwF_X2_18 : Cond.fieldLink RX2 18 RX2 "gesture" "I" ∈ jT := jT_in (List.mem_append_right _ (jm_1 (List.mem_of_getElem? (i := 55) (by decide +kernel)))) rfl
theorem jwF_X10_91 : Cond.fieldLink RX10 91 RX2 "gesture" "I" ∈ jT := jT_in (List.mem_append_right _ (jm_1 (List.mem_of_getElem? (i := 56) (by decide +kernel)))) rfl
theorem jwF_X5_104 : Cond.fieldLink RX5 104 RX2 "gesture" "I" ∈ jT := jT_in (List.mem_append_right _ (jm_1 (List.mem_of_getElem? (i := 57) (by decide +kernel)))) rfl
theorem jwF_X1_66 : Cond.fieldLink RX1 66 RX2 "gesture" "I" ∈ jT := jT_in (List.mem_append_right _ (jm_1 (List.mem_of_getElem? (i := 58) (by decide +kernel)))) rfl
theorem jwF_X3_91 : Cond.fieldLink RX3 91 RX2 "gesture" "I" ∈ jT := jT_in (List.mem_append_right _ (jm_1 (List.mem_of_getElem? (i := 59) (by decide +kernel)))) rfl
theorem jwF_X0_66 : Cond.fieldLink RX0 66 RX2 "gesture" "I" ∈ jT := jT_in (List.mem_append_right _ (jm_1 (List.mem_of_getElem? (i := 60) (by decide +kernel)))) rfl
theorem jwF_X2_24 : Cond.fieldLink RX2 24 RX2 "bars" "I" ∈ jT := jT_in (List.mem_append_right _ (jm_1 (List.mem_of_getElem? (i := 61) (by decide +kernel)))) rfl
theorem jwF_X10_94 : Cond.fieldLink RX10 94 RX2 "bars" "I" ∈ jT := jT_in (List.mem_append_right _ (jm_1 (List.mem_of_getElem? (i := 62) (by decide +kernel)))) rfl
theorem jwF_X2_21 : Cond.fieldLink RX2 21 RX2 "fee" "I" ∈ jT := jT_in (List.mem_append_right _ (jm_1 (List.mem_of_getElem? (i := 63) (by decide +kernel)))) rfl
theorem jwF_X10_97 : Cond.fieldLink RX10 97 RX2 "fee" "I" ∈ jT := jT_in (List.mem_append_right _ (jm_1 (List.mem_of_getElem? (i := 64) (by decide +kernel)))) rfl
theorem jwF_X5_132 : Cond.fieldLink RX5 132 RX2 "fee" "I" ∈ jT := jT_in (List.mem_append_right _ (jm_1 (List.mem_of_getElem? (i := 65) (by decide +kernel)))) rfl
theorem jwF_X1_69 : Cond.fieldLink RX1 69 RX2 "fee" "I" ∈ jT := jT_in (List.mem_append_right _ (jm_1 (List.mem_of_getElem? (i := 66) (by decide +kernel)))) rfl
theorem jwF_X3_115 : Cond.fieldLink RX3 115 RX2 "fee" "I" ∈ jT := jT_in (List.mem_append_right _ (jm_1 (List.mem_of_getElem? (i := 67) (by decide +kernel)))) rfl
theorem jwF_X2_27 : Cond.fieldLink RX2 27 RX2 "age" "I" ∈ jT := jT_in (List.mem_append_right _ (jm_1 (List.mem_of_getElem? (i := 68) (by decide +kernel)))) rfl
theorem jwF_X10_100 : Cond.fieldLink RX10 100 RX2 "age" "I" ∈ jT := jT_in (List.mem_append_right _ (jm_1 (List.mem_of_getElem? (i := 69) (by decide +kernel)))) rfl
theorem jwF_X0_54 : Cond.fieldLink RX0 54 RX2 "age" "I" ∈ jT := jT_in (List.mem_append_right _ (jm_1 (List.mem_of_getElem? (i := 70) (by decide +kernel)))) rfl
theorem jwF_X3_96 : Cond.fieldLink RX3 96 RX2 "age" "I" ∈ jT := jT_in (List.mem_append_right _ (jm_1 (List.mem_of_getElem? (i := 71) (by decide +kernel)))) rfl
theorem jwF_X2_30 : Cond.fieldLink RX2 30 RX2 "dead" "Z" ∈ jT := jT_in (List.mem_append_right _ (jm_1 (List.mem_of_getElem? (i := 72) (by decide +kernel)))) rfl
theorem jwF_X10_103 : Cond.fieldLink RX10 103 RX2 "dead" "Z" ∈ jT := jT_in (List.mem_append_right _ (jm_1 (List.mem_of_getElem? (i := 73) (by decide +kernel)))) rfl
theorem jwF_X5_135 : Cond.fieldLink RX5 135 RX2 "dead" "Z" ∈ jT := jT_in (List.mem_append_right _ (jm_1 (List.mem_of_getElem? (i := 74) (by decide +kernel)))) rfl
theorem jwF_X1_59 : Cond.fieldLink RX1 59 RX2 "dead" "Z" ∈ jT := jT_in (List.mem_append_right _ (jm_1 (List.mem_of_getElem? (i := 75) (by decide +kernel)))) rfl
theorem jwF_X0_50 : Cond.fieldLink RX0 50 RX2 "dead" "Z" ∈ jT := jT_in (List.mem_append_right _ (jm_1 (List.mem_of_getElem? (i := 76) (by decide +kernel)))) rfl
theorem jwF_X3_131 : Cond.fieldLink RX3 131 RX2 "dead" "Z" ∈ jT := jT_in (List.mem_append_right _ (jm_1 (List.mem_of_getElem? (i := 77) (by decide +kernel)))) rfl
theorem jwY_X2_kind : Cond.lays RX2 RX2 "kind" "I" ∈ jT := jT_in (List.mem_append_right _ (jm_1 (List.mem_of_getElem? (i := 78) (by decide +kernel)))) rfl
theorem jwY_X2_town : Cond.lays RX2 RX2 "town" "I" ∈ jT := jT_in (List.mem_append_right _ (jm_1 (List.mem_of_getElem? (i := 80) (by decide +kernel)))) rfl
theorem jwY_X2_gesture : Cond.lays RX2 RX2 "gesture" "I" ∈ jT := jT_in (List.mem_append_right _ (jm_1 (List.mem_of_getElem? (i := 82) (by decide +kernel)))) rfl
theorem jwY_X2_bars : Cond.lays RX2 RX2 "bars" "I" ∈ jT := jT_in (List.mem_append_right _ (jm_1 (List.mem_of_getElem? (i := 84) (by decide +kernel)))) rfl
theorem jwY_X2_fee : Cond.lays RX2 RX2 "fee" "I" ∈ jT := jT_in (List.mem_append_right _ (jm_1 (List.mem_of_getElem? (i := 86) (by decide +kernel)))) rfl
theorem jwY_X2_age : Cond.lays RX2 RX2 "age" "I" ∈ jT := jT_in (List.mem_append_right _ (jm_1 (List.mem_of_getElem? (i := 88) (by decide +kernel)))) rfl
theorem jwY_X2_dead : Cond.lays RX2 RX2 "dead" "Z" ∈ jT := jT_in (List.mem_append_right _ (jm_1 (List.mem_of_getElem? (i := 90) (by decide +kernel)))) rfl
theorem jwF_X0_11 : Cond.fieldLink RX0 11 RX0 "masters" "[LNineMasters$Master;" ∈ jT := jT_in (List.mem_append_right _ (jm_1 (List.mem_of_getElem? (i := 93) (by decide +kernel)))) rfl
theorem jwF_X0_22 : Cond.fieldLink RX0 22 RX0 "size" "I" ∈ jT := jT_in (List.mem_append_right _ (jm_1 (List.mem_of_getElem? (i := 94) (by decide +kernel)))) rfl
theorem jwF_X10_66 : Cond.fieldLink RX10 66 RX0 "size" "I" ∈ jT := jT_in (List.mem_append_right _ (jm_1 (List.mem_of_getElem? (i := 95) (by decide +kernel)))) rfl
theorem jwF_X5_97 : Cond.fieldLink RX5 97 RX0 "size" "I" ∈ jT := jT_in (List.mem_append_right _ (jm_1 (List.mem_of_getElem? (i := 96) (by decide +kernel)))) rfl
theorem jwF_X3_124 : Cond.fieldLink RX3 124 RX0 "size" "I" ∈ jT := jT_in (List.mem_append_right _ (jm_1 (List.mem_of_getElem? (i := 97) (by decide +kernel)))) rfl
theorem jwF_X0_17 : Cond.fieldLink RX0 17 RX0 "z" "I" ∈ jT := jT_in (List.mem_append_right _ (jm_1 (List.mem_of_getElem? (i := 98) (by decide +kernel)))) rfl
theorem jwF_X10_169 : Cond.fieldLink RX10 169 RX0 "z" "I" ∈ jT := jT_in (List.mem_append_right _ (jm_1 (List.mem_of_getElem? (i := 99) (by decide +kernel)))) rfl
theorem jwY_X0_masters : Cond.laysFinal RX0 RX0 "masters" "[LNineMasters$Master;" ∈ jT := jT_in (List.mem_append_right _ (jm_1 (List.mem_of_getElem? (i := 100) (by decide +kernel)))) rfl
theorem jwY_X0_size : Cond.lays RX0 RX0 "size" "I" ∈ jT := jT_in (List.mem_append_right _ (jm_1 (List.mem_of_getElem? (i := 102) (by decide +kernel)))) rfl
theorem jwY_X0_z : Cond.lays RX0 RX0 "z" "I" ∈ jT := jT_in (List.mem_append_right _ (jm_1 (List.mem_of_getElem? (i := 104) (by decide +kernel)))) rfl
theorem jwK_X3_18 : Cond.classLink RX3 18 RX4 ∈ jT := jT_in (List.mem_append_right _ (jm_1 (List.mem_of_getElem? (i := 107) (by decide +kernel)))) rfl
theorem jwI_X4 : Cond.instantiable RX4 2 ∈ jT := jT_in (List.mem_append_right _ (jm_1 (List.mem_of_getElem? (i := 108) (by decide +kernel)))) rfl
theorem jwM_X3_20 : Cond.methodLink RX3 20 yX4_init ∈ jT := jT_in (List.mem_append_right _ (jm_1 (List.mem_of_getElem? (i := 109) (by decide +kernel)))) rfl
theorem jwN_X4_init : Cond.instanceMethod yX4_init ∈ jT := jT_in (List.mem_append_right _ (jm_1 (List.mem_of_getElem? (i := 110) (by decide +kernel)))) rfl
set_option maxRecDepth 100000 in
theorem jwO_X4_init : Cond.code (mX4_init).1 (mX4_init).2.1 (mX4_init).2.2.1 (mX4_init).2.2.2 ∈ jT := jT_in (List.mem_append_right _ (jm_1 (List.mem_of_getElem? (i := 111) rfl))) rfl
theorem jwM_X4_3 : Cond.methodLink RX4 3 Lib.objectInit ∈ jT := jT_in (List.mem_append_right _ (jm_1 (List.mem_of_getElem? (i := 112) (by decide +kernel)))) rfl
theorem jwM_X4_18 : Cond.methodLink RX4 18 yX4_measure ∈ jT := jT_in (List.mem_append_right _ (jm_1 (List.mem_of_getElem? (i := 113) (by decide +kernel)))) rfl
theorem jwN_X4_measure : Cond.instanceMethod yX4_measure ∈ jT := jT_in (List.mem_append_right _ (jm_1 (List.mem_of_getElem? (i := 115) (by decide +kernel)))) rfl
set_option maxRecDepth 100000 in
theorem jwO_X4_measure : Cond.code (mX4_measure).1 (mX4_measure).2.1 (mX4_measure).2.2.1 (mX4_measure).2.2.2 ∈ jT := jT_in (List.mem_append_right _ (jm_1 (List.mem_of_getElem? (i := 116) rfl))) rfl
theorem jwM_X4_31 : Cond.methodLink RX4 31 Lib.Math.min.name ∈ jT := jT_in (List.mem_append_right _ (jm_1 (List.mem_of_getElem? (i := 117) (by decide +kernel)))) rfl
theorem jwS_min : Cond.static Lib.Math.min.name ∈ jT := jT_in (List.mem_append_right _ (jm_1 (List.mem_of_getElem? (i := 118) (by decide +kernel)))) rfl
theorem jwO_min : Cond.code Lib.Math.min.name Lib.Math.min.code 2 (some .int) ∈ jT := jT_in (List.mem_append_right _ (jm_1 (List.mem_of_getElem? (i := 119) (by decide +kernel)))) rfl
theorem jwF_X4_9 : Cond.fieldLink RX4 9 RX4 "days" "[I" ∈ jT := jT_in (List.mem_append_right _ (jm_1 (List.mem_of_getElem? (i := 120) (by decide +kernel)))) rfl
theorem jwF_X4_15 : Cond.fieldLink RX4 15 RX4 "ways" "[I" ∈ jT := jT_in (List.mem_append_right _ (jm_1 (List.mem_of_getElem? (i := 121) (by decide +kernel)))) rfl
theorem jwY_X4_days : Cond.laysFinal RX4 RX4 "days" "[I" ∈ jT := jT_in (List.mem_append_right _ (jm_1 (List.mem_of_getElem? (i := 122) (by decide +kernel)))) rfl
theorem jwY_X4_ways : Cond.laysFinal RX4 RX4 "ways" "[I" ∈ jT := jT_in (List.mem_append_right _ (jm_1 (List.mem_of_getElem? (i := 124) (by decide +kernel)))) rfl
theorem jwA : Cond.arrayClass .int ∈ jT := jT_in (List.mem_append_right _ (jm_1 (List.mem_of_getElem? (i := 127) (by decide +kernel)))) rfl
theorem jwK_X3_25 : Cond.classLink RX3 25 RX1 ∈ jT := jT_in (List.mem_append_right _ (jm_1 (List.mem_of_getElem? (i := 128) (by decide +kernel)))) rfl
theorem jwI_X1 : Cond.instantiable RX1 7 ∈ jT := jT_in (List.mem_append_right _ (jm_1 (List.mem_of_getElem? (i := 129) (by decide +kernel)))) rfl
theorem jwN_X1_init : Cond.instanceMethod yX1_init ∈ jT := jT_in (List.mem_append_right _ (jm_1 (List.mem_of_getElem? (i := 131) (by decide +kernel)))) rfl
set_option maxRecDepth 100000 in
theorem jwO_X1_init : Cond.code (mX1_init).1 (mX1_init).2.1 (mX1_init).2.2.1 (mX1_init).2.2.2 ∈ jT := jT_in (List.mem_append_right _ (jm_1 (List.mem_of_getElem? (i := 132) rfl))) rfl
theorem jwM_X1_3 : Cond.methodLink RX1 3 Lib.objectInit ∈ jT := jT_in (List.mem_append_right _ (jm_1 (List.mem_of_getElem? (i := 133) (by decide +kernel)))) rfl
theorem jwF_X1_22 : Cond.fieldLink RX1 22 RX1 "at" "I" ∈ jT := jT_in (List.mem_append_right _ (jm_1 (List.mem_of_getElem? (i := 134) (by decide +kernel)))) rfl
theorem jwF_X5_73 : Cond.fieldLink RX5 73 RX1 "at" "I" ∈ jT := jT_in (List.mem_append_right _ (jm_1 (List.mem_of_getElem? (i := 135) (by decide +kernel)))) rfl
theorem jwF_X10_172 : Cond.fieldLink RX10 172 RX1 "at" "I" ∈ jT := jT_in (List.mem_append_right _ (jm_1 (List.mem_of_getElem? (i := 136) (by decide +kernel)))) rfl
theorem jwF_X1_25 : Cond.fieldLink RX1 25 RX1 "knows" "I" ∈ jT := jT_in (List.mem_append_right _ (jm_1 (List.mem_of_getElem? (i := 137) (by decide +kernel)))) rfl
theorem jwF_X5_76 : Cond.fieldLink RX5 76 RX1 "knows" "I" ∈ jT := jT_in (List.mem_append_right _ (jm_1 (List.mem_of_getElem? (i := 138) (by decide +kernel)))) rfl
theorem jwF_X10_107 : Cond.fieldLink RX10 107 RX1 "knows" "I" ∈ jT := jT_in (List.mem_append_right _ (jm_1 (List.mem_of_getElem? (i := 139) (by decide +kernel)))) rfl
theorem jwF_X3_73 : Cond.fieldLink RX3 73 RX1 "knows" "I" ∈ jT := jT_in (List.mem_append_right _ (jm_1 (List.mem_of_getElem? (i := 140) (by decide +kernel)))) rfl
theorem jwF_X1_9 : Cond.fieldLink RX1 9 RX1 "coins" "I" ∈ jT := jT_in (List.mem_append_right _ (jm_1 (List.mem_of_getElem? (i := 141) (by decide +kernel)))) rfl
theorem jwF_X5_139 : Cond.fieldLink RX5 139 RX1 "coins" "I" ∈ jT := jT_in (List.mem_append_right _ (jm_1 (List.mem_of_getElem? (i := 142) (by decide +kernel)))) rfl
theorem jwF_X3_118 : Cond.fieldLink RX3 118 RX1 "coins" "I" ∈ jT := jT_in (List.mem_append_right _ (jm_1 (List.mem_of_getElem? (i := 143) (by decide +kernel)))) rfl
theorem jwF_X10_175 : Cond.fieldLink RX10 175 RX1 "coins" "I" ∈ jT := jT_in (List.mem_append_right _ (jm_1 (List.mem_of_getElem? (i := 144) (by decide +kernel)))) rfl
theorem jwF_X1_28 : Cond.fieldLink RX1 28 RX1 "forgets" "I" ∈ jT := jT_in (List.mem_append_right _ (jm_1 (List.mem_of_getElem? (i := 145) (by decide +kernel)))) rfl
theorem jwF_X5_125 : Cond.fieldLink RX5 125 RX1 "forgets" "I" ∈ jT := jT_in (List.mem_append_right _ (jm_1 (List.mem_of_getElem? (i := 146) (by decide +kernel)))) rfl
theorem jwF_X10_178 : Cond.fieldLink RX10 178 RX1 "forgets" "I" ∈ jT := jT_in (List.mem_append_right _ (jm_1 (List.mem_of_getElem? (i := 147) (by decide +kernel)))) rfl
theorem jwF_X1_31 : Cond.fieldLink RX1 31 RX1 "day" "I" ∈ jT := jT_in (List.mem_append_right _ (jm_1 (List.mem_of_getElem? (i := 148) (by decide +kernel)))) rfl
theorem jwF_X3_121 : Cond.fieldLink RX3 121 RX1 "day" "I" ∈ jT := jT_in (List.mem_append_right _ (jm_1 (List.mem_of_getElem? (i := 149) (by decide +kernel)))) rfl
theorem jwF_X10_195 : Cond.fieldLink RX10 195 RX1 "day" "I" ∈ jT := jT_in (List.mem_append_right _ (jm_1 (List.mem_of_getElem? (i := 150) (by decide +kernel)))) rfl
theorem jwF_X1_15 : Cond.fieldLink RX1 15 RX1 "from" "[I" ∈ jT := jT_in (List.mem_append_right _ (jm_1 (List.mem_of_getElem? (i := 151) (by decide +kernel)))) rfl
theorem jwF_X10_185 : Cond.fieldLink RX10 185 RX1 "from" "[I" ∈ jT := jT_in (List.mem_append_right _ (jm_1 (List.mem_of_getElem? (i := 152) (by decide +kernel)))) rfl
theorem jwF_X1_19 : Cond.fieldLink RX1 19 RX1 "rested" "[I" ∈ jT := jT_in (List.mem_append_right _ (jm_1 (List.mem_of_getElem? (i := 153) (by decide +kernel)))) rfl
theorem jwF_X5_68 : Cond.fieldLink RX5 68 RX1 "rested" "[I" ∈ jT := jT_in (List.mem_append_right _ (jm_1 (List.mem_of_getElem? (i := 154) (by decide +kernel)))) rfl
theorem jwF_X10_188 : Cond.fieldLink RX10 188 RX1 "rested" "[I" ∈ jT := jT_in (List.mem_append_right _ (jm_1 (List.mem_of_getElem? (i := 155) (by decide +kernel)))) rfl
theorem jwY_X1_at : Cond.lays RX1 RX1 "at" "I" ∈ jT := jT_in (List.mem_append_right _ (jm_1 (List.mem_of_getElem? (i := 156) (by decide +kernel)))) rfl
theorem jwY_X1_knows : Cond.lays RX1 RX1 "knows" "I" ∈ jT := jT_in (List.mem_append_right _ (jm_1 (List.mem_of_getElem? (i := 158) (by decide +kernel)))) rfl
theorem jwY_X1_coins : Cond.lays RX1 RX1 "coins" "I" ∈ jT := jT_in (List.mem_append_right _ (jm_1 (List.mem_of_getElem? (i := 160) (by decide +kernel)))) rfl
theorem jwY_X1_forgets : Cond.lays RX1 RX1 "forgets" "I" ∈ jT := jT_in (List.mem_append_right _ (jm_1 (List.mem_of_getElem? (i := 162) (by decide +kernel)))) rfl
theorem jwY_X1_day : Cond.lays RX1 RX1 "day" "I" ∈ jT := jT_in (List.mem_append_right _ (jm_1 (List.mem_of_getElem? (i := 164) (by decide +kernel)))) rfl
theorem jwY_X1_from : Cond.laysFinal RX1 RX1 "from" "[I" ∈ jT := jT_in (List.mem_append_right _ (jm_1 (List.mem_of_getElem? (i := 166) (by decide +kernel)))) rfl
theorem jwY_X1_rested : Cond.laysFinal RX1 RX1 "rested" "[I" ∈ jT := jT_in (List.mem_append_right _ (jm_1 (List.mem_of_getElem? (i := 168) (by decide +kernel)))) rfl
theorem jwK_X3_36 : Cond.classLink RX3 36 RX9 ∈ jT := jT_in (List.mem_append_right _ (jm_1 (List.mem_of_getElem? (i := 171) (by decide +kernel)))) rfl
theorem jwF_X3_12 : Cond.fieldLink RX3 12 RX3 "guild" "LNineMasters$Guild;" ∈ jT := jT_in (List.mem_append_right _ (jm_1 (List.mem_of_getElem? (i := 173) (by decide +kernel)))) rfl
theorem jwF_X5_53 : Cond.fieldLink RX5 53 RX3 "guild" "LNineMasters$Guild;" ∈ jT := jT_in (List.mem_append_right _ (jm_1 (List.mem_of_getElem? (i := 174) (by decide +kernel)))) rfl
theorem jwF_X10_63 : Cond.fieldLink RX10 63 RX3 "guild" "LNineMasters$Guild;" ∈ jT := jT_in (List.mem_append_right _ (jm_1 (List.mem_of_getElem? (i := 175) (by decide +kernel)))) rfl
theorem jwF_X3_21 : Cond.fieldLink RX3 21 RX3 "roads" "LNineMasters$Roads;" ∈ jT := jT_in (List.mem_append_right _ (jm_1 (List.mem_of_getElem? (i := 176) (by decide +kernel)))) rfl
theorem jwF_X5_113 : Cond.fieldLink RX5 113 RX3 "roads" "LNineMasters$Roads;" ∈ jT := jT_in (List.mem_append_right _ (jm_1 (List.mem_of_getElem? (i := 177) (by decide +kernel)))) rfl
theorem jwF_X10_143 : Cond.fieldLink RX10 143 RX3 "roads" "LNineMasters$Roads;" ∈ jT := jT_in (List.mem_append_right _ (jm_1 (List.mem_of_getElem? (i := 178) (by decide +kernel)))) rfl
theorem jwF_X3_28 : Cond.fieldLink RX3 28 RX3 "learner" "LNineMasters$Learner;" ∈ jT := jT_in (List.mem_append_right _ (jm_1 (List.mem_of_getElem? (i := 179) (by decide +kernel)))) rfl
theorem jwF_X5_64 : Cond.fieldLink RX5 64 RX3 "learner" "LNineMasters$Learner;" ∈ jT := jT_in (List.mem_append_right _ (jm_1 (List.mem_of_getElem? (i := 180) (by decide +kernel)))) rfl
theorem jwF_X10_79 : Cond.fieldLink RX10 79 RX3 "learner" "LNineMasters$Learner;" ∈ jT := jT_in (List.mem_append_right _ (jm_1 (List.mem_of_getElem? (i := 181) (by decide +kernel)))) rfl
theorem jwF_X3_32 : Cond.fieldLink RX3 32 RX3 "wished" "[I" ∈ jT := jT_in (List.mem_append_right _ (jm_1 (List.mem_of_getElem? (i := 182) (by decide +kernel)))) rfl
theorem jwF_X3_58 : Cond.fieldLink RX3 58 RX3 "wishes" "I" ∈ jT := jT_in (List.mem_append_right _ (jm_1 (List.mem_of_getElem? (i := 183) (by decide +kernel)))) rfl
theorem jwF_X10_212 : Cond.fieldLink RX10 212 RX3 "wishes" "I" ∈ jT := jT_in (List.mem_append_right _ (jm_1 (List.mem_of_getElem? (i := 184) (by decide +kernel)))) rfl
theorem jwF_X3_38 : Cond.fieldLink RX3 38 RX3 "texts" "[LNineMasters$Text;" ∈ jT := jT_in (List.mem_append_right _ (jm_1 (List.mem_of_getElem? (i := 185) (by decide +kernel)))) rfl
theorem jwF_X3_62 : Cond.fieldLink RX3 62 RX3 "textCount" "I" ∈ jT := jT_in (List.mem_append_right _ (jm_1 (List.mem_of_getElem? (i := 186) (by decide +kernel)))) rfl
theorem jwF_X10_287 : Cond.fieldLink RX10 287 RX3 "textCount" "I" ∈ jT := jT_in (List.mem_append_right _ (jm_1 (List.mem_of_getElem? (i := 187) (by decide +kernel)))) rfl
theorem jwY_X3_guild : Cond.laysFinal RX3 RX3 "guild" "LNineMasters$Guild;" ∈ jT := jT_in (List.mem_append_right _ (jm_1 (List.mem_of_getElem? (i := 188) (by decide +kernel)))) rfl
theorem jwY_X3_roads : Cond.laysFinal RX3 RX3 "roads" "LNineMasters$Roads;" ∈ jT := jT_in (List.mem_append_right _ (jm_1 (List.mem_of_getElem? (i := 190) (by decide +kernel)))) rfl
theorem jwY_X3_learner : Cond.laysFinal RX3 RX3 "learner" "LNineMasters$Learner;" ∈ jT := jT_in (List.mem_append_right _ (jm_1 (List.mem_of_getElem? (i := 192) (by decide +kernel)))) rfl
theorem jwY_X3_wished : Cond.laysFinal RX3 RX3 "wished" "[I" ∈ jT := jT_in (List.mem_append_right _ (jm_1 (List.mem_of_getElem? (i := 194) (by decide +kernel)))) rfl
theorem jwY_X3_wishes : Cond.lays RX3 RX3 "wishes" "I" ∈ jT := jT_in (List.mem_append_right _ (jm_1 (List.mem_of_getElem? (i := 196) (by decide +kernel)))) rfl
theorem jwY_X3_texts : Cond.laysFinal RX3 RX3 "texts" "[LNineMasters$Text;" ∈ jT := jT_in (List.mem_append_right _ (jm_1 (List.mem_of_getElem? (i := 198) (by decide +kernel)))) rfl
theorem jwY_X3_textCount : Cond.lays RX3 RX3 "textCount" "I" ∈ jT := jT_in (List.mem_append_right _ (jm_1 (List.mem_of_getElem? (i := 200) (by decide +kernel)))) rfl
theorem jwK_X10_19 : Cond.classLink RX10 19 RX0 ∈ jT := jT_in (List.mem_append_right _ (jm_1 (List.mem_of_getElem? (i := 203) (by decide +kernel)))) rfl
theorem jwM_X10_21 : Cond.methodLink RX10 21 yX0_init ∈ jT := jT_in (List.mem_append_right _ (jm_1 (List.mem_of_getElem? (i := 204) (by decide +kernel)))) rfl
theorem jwK_X10_26 : Cond.classLink RX10 26 RX5 ∈ jT := jT_in (List.mem_append_right _ (jm_1 (List.mem_of_getElem? (i := 205) (by decide +kernel)))) rfl
theorem jwI_X5 : Cond.instantiable RX5 12 ∈ jT := jT_in (List.mem_append_right _ (jm_1 (List.mem_of_getElem? (i := 206) (by decide +kernel)))) rfl
theorem jwN_X5_init : Cond.instanceMethod yX5_init ∈ jT := jT_in (List.mem_append_right _ (jm_1 (List.mem_of_getElem? (i := 208) (by decide +kernel)))) rfl
set_option maxRecDepth 100000 in
theorem jwO_X5_init : Cond.code (mX5_init).1 (mX5_init).2.1 (mX5_init).2.2.1 (mX5_init).2.2.2 ∈ jT := jT_in (List.mem_append_right _ (jm_1 (List.mem_of_getElem? (i := 209) rfl))) rfl
theorem jwM_X5_3 : Cond.methodLink RX5 3 Lib.objectInit ∈ jT := jT_in (List.mem_append_right _ (jm_1 (List.mem_of_getElem? (i := 210) (by decide +kernel)))) rfl
theorem jwF_X5_11 : Cond.fieldLink RX5 11 RX5 "town" "[I" ∈ jT := jT_in (List.mem_append_right _ (jm_1 (List.mem_of_getElem? (i := 211) (by decide +kernel)))) rfl
theorem jwF_X5_15 : Cond.fieldLink RX5 15 RX5 "knows" "[I" ∈ jT := jT_in (List.mem_append_right _ (jm_1 (List.mem_of_getElem? (i := 212) (by decide +kernel)))) rfl
theorem jwF_X5_18 : Cond.fieldLink RX5 18 RX5 "days" "[I" ∈ jT := jT_in (List.mem_append_right _ (jm_1 (List.mem_of_getElem? (i := 213) (by decide +kernel)))) rfl
theorem jwF_X5_21 : Cond.fieldLink RX5 21 RX5 "paid" "[I" ∈ jT := jT_in (List.mem_append_right _ (jm_1 (List.mem_of_getElem? (i := 214) (by decide +kernel)))) rfl
theorem jwF_X5_24 : Cond.fieldLink RX5 24 RX5 "first" "[I" ∈ jT := jT_in (List.mem_append_right _ (jm_1 (List.mem_of_getElem? (i := 215) (by decide +kernel)))) rfl
theorem jwF_X5_27 : Cond.fieldLink RX5 27 RX5 "since" "[I" ∈ jT := jT_in (List.mem_append_right _ (jm_1 (List.mem_of_getElem? (i := 216) (by decide +kernel)))) rfl
theorem jwF_X5_30 : Cond.fieldLink RX5 30 RX5 "daysKnown" "[I" ∈ jT := jT_in (List.mem_append_right _ (jm_1 (List.mem_of_getElem? (i := 217) (by decide +kernel)))) rfl
theorem jwF_X5_50 : Cond.fieldLink RX5 50 RX5 "wanted" "I" ∈ jT := jT_in (List.mem_append_right _ (jm_1 (List.mem_of_getElem? (i := 218) (by decide +kernel)))) rfl
theorem jwF_X5_62 : Cond.fieldLink RX5 62 RX5 "taught" "I" ∈ jT := jT_in (List.mem_append_right _ (jm_1 (List.mem_of_getElem? (i := 219) (by decide +kernel)))) rfl
theorem jwF_X5_34 : Cond.fieldLink RX5 34 RX5 "bestDays" "I" ∈ jT := jT_in (List.mem_append_right _ (jm_1 (List.mem_of_getElem? (i := 220) (by decide +kernel)))) rfl
theorem jwF_X10_226 : Cond.fieldLink RX10 226 RX5 "bestDays" "I" ∈ jT := jT_in (List.mem_append_right _ (jm_1 (List.mem_of_getElem? (i := 221) (by decide +kernel)))) rfl
theorem jwF_X5_38 : Cond.fieldLink RX5 38 RX5 "bestCoins" "I" ∈ jT := jT_in (List.mem_append_right _ (jm_1 (List.mem_of_getElem? (i := 222) (by decide +kernel)))) rfl
theorem jwF_X10_229 : Cond.fieldLink RX10 229 RX5 "bestCoins" "I" ∈ jT := jT_in (List.mem_append_right _ (jm_1 (List.mem_of_getElem? (i := 223) (by decide +kernel)))) rfl
theorem jwF_X5_41 : Cond.fieldLink RX5 41 RX5 "bestFirst" "I" ∈ jT := jT_in (List.mem_append_right _ (jm_1 (List.mem_of_getElem? (i := 224) (by decide +kernel)))) rfl
theorem jwF_X10_232 : Cond.fieldLink RX10 232 RX5 "bestFirst" "I" ∈ jT := jT_in (List.mem_append_right _ (jm_1 (List.mem_of_getElem? (i := 225) (by decide +kernel)))) rfl
theorem jwY_X5_town : Cond.laysFinal RX5 RX5 "town" "[I" ∈ jT := jT_in (List.mem_append_right _ (jm_1 (List.mem_of_getElem? (i := 226) (by decide +kernel)))) rfl
theorem jwY_X5_knows : Cond.laysFinal RX5 RX5 "knows" "[I" ∈ jT := jT_in (List.mem_append_right _ (jm_1 (List.mem_of_getElem? (i := 228) (by decide +kernel)))) rfl
theorem jwY_X5_days : Cond.laysFinal RX5 RX5 "days" "[I" ∈ jT := jT_in (List.mem_append_right _ (jm_1 (List.mem_of_getElem? (i := 230) (by decide +kernel)))) rfl
theorem jwY_X5_paid : Cond.laysFinal RX5 RX5 "paid" "[I" ∈ jT := jT_in (List.mem_append_right _ (jm_1 (List.mem_of_getElem? (i := 232) (by decide +kernel)))) rfl
theorem jwY_X5_first : Cond.laysFinal RX5 RX5 "first" "[I" ∈ jT := jT_in (List.mem_append_right _ (jm_1 (List.mem_of_getElem? (i := 234) (by decide +kernel)))) rfl
theorem jwY_X5_since : Cond.laysFinal RX5 RX5 "since" "[I" ∈ jT := jT_in (List.mem_append_right _ (jm_1 (List.mem_of_getElem? (i := 236) (by decide +kernel)))) rfl
theorem jwY_X5_daysKnown : Cond.laysFinal RX5 RX5 "daysKnown" "[I" ∈ jT := jT_in (List.mem_append_right _ (jm_1 (List.mem_of_getElem? (i := 238) (by decide +kernel)))) rfl
theorem jwY_X5_wanted : Cond.lays RX5 RX5 "wanted" "I" ∈ jT := jT_in (List.mem_append_right _ (jm_2 (List.mem_of_getElem? (i := 0) (by decide +kernel)))) rfl
theorem jwY_X5_taught : Cond.lays RX5 RX5 "taught" "I" ∈ jT := jT_in (List.mem_append_right _ (jm_2 (List.mem_of_getElem? (i := 2) (by decide +kernel)))) rfl
theorem jwY_X5_bestDays : Cond.lays RX5 RX5 "bestDays" "I" ∈ jT := jT_in (List.mem_append_right _ (jm_2 (List.mem_of_getElem? (i := 4) (by decide +kernel)))) rfl
theorem jwY_X5_bestCoins : Cond.lays RX5 RX5 "bestCoins" "I" ∈ jT := jT_in (List.mem_append_right _ (jm_2 (List.mem_of_getElem? (i := 6) (by decide +kernel)))) rfl
theorem jwY_X5_bestFirst : Cond.lays RX5 RX5 "bestFirst" "I" ∈ jT := jT_in (List.mem_append_right _ (jm_2 (List.mem_of_getElem? (i := 8) (by decide +kernel)))) rfl
theorem jwK_X10_33 : Cond.classLink RX10 33 RX8 ∈ jT := jT_in (List.mem_append_right _ (jm_2 (List.mem_of_getElem? (i := 11) (by decide +kernel)))) rfl
theorem jwI_X8 : Cond.instantiable RX8 10 ∈ jT := jT_in (List.mem_append_right _ (jm_2 (List.mem_of_getElem? (i := 12) (by decide +kernel)))) rfl
theorem jwN_X8_init : Cond.instanceMethod yX8_init ∈ jT := jT_in (List.mem_append_right _ (jm_2 (List.mem_of_getElem? (i := 14) (by decide +kernel)))) rfl
set_option maxRecDepth 100000 in
theorem jwO_X8_init : Cond.code (mX8_init).1 (mX8_init).2.1 (mX8_init).2.2.1 (mX8_init).2.2.2 ∈ jT := jT_in (List.mem_append_right _ (jm_2 (List.mem_of_getElem? (i := 15) rfl))) rfl
theorem jwM_X8_3 : Cond.methodLink RX8 3 Lib.objectInit ∈ jT := jT_in (List.mem_append_right _ (jm_2 (List.mem_of_getElem? (i := 16) (by decide +kernel)))) rfl
theorem jwF_X8_9 : Cond.fieldLink RX8 9 RX8 "bytes" "[I" ∈ jT := jT_in (List.mem_append_right _ (jm_2 (List.mem_of_getElem? (i := 17) (by decide +kernel)))) rfl
theorem jwF_X8_18 : Cond.fieldLink RX8 18 RX8 "size" "I" ∈ jT := jT_in (List.mem_append_right _ (jm_2 (List.mem_of_getElem? (i := 18) (by decide +kernel)))) rfl
theorem jwF_X10_277 : Cond.fieldLink RX10 277 RX8 "size" "I" ∈ jT := jT_in (List.mem_append_right _ (jm_2 (List.mem_of_getElem? (i := 19) (by decide +kernel)))) rfl
theorem jwF_X8_63 : Cond.fieldLink RX8 63 RX8 "start" "I" ∈ jT := jT_in (List.mem_append_right _ (jm_2 (List.mem_of_getElem? (i := 20) (by decide +kernel)))) rfl
theorem jwF_X10_284 : Cond.fieldLink RX10 284 RX8 "start" "I" ∈ jT := jT_in (List.mem_append_right _ (jm_2 (List.mem_of_getElem? (i := 21) (by decide +kernel)))) rfl
theorem jwF_X8_26 : Cond.fieldLink RX8 26 RX8 "end" "I" ∈ jT := jT_in (List.mem_append_right _ (jm_2 (List.mem_of_getElem? (i := 22) (by decide +kernel)))) rfl
theorem jwF_X8_29 : Cond.fieldLink RX8 29 RX8 "sort" "I" ∈ jT := jT_in (List.mem_append_right _ (jm_2 (List.mem_of_getElem? (i := 23) (by decide +kernel)))) rfl
theorem jwF_X8_73 : Cond.fieldLink RX8 73 RX8 "needsBlank" "Z" ∈ jT := jT_in (List.mem_append_right _ (jm_2 (List.mem_of_getElem? (i := 24) (by decide +kernel)))) rfl
theorem jwF_X8_45 : Cond.fieldLink RX8 45 RX8 "key" "I" ∈ jT := jT_in (List.mem_append_right _ (jm_2 (List.mem_of_getElem? (i := 25) (by decide +kernel)))) rfl
theorem jwF_X8_32 : Cond.fieldLink RX8 32 RX8 "operands" "I" ∈ jT := jT_in (List.mem_append_right _ (jm_2 (List.mem_of_getElem? (i := 26) (by decide +kernel)))) rfl
theorem jwF_X8_15 : Cond.fieldLink RX8 15 RX8 "code" "[I" ∈ jT := jT_in (List.mem_append_right _ (jm_2 (List.mem_of_getElem? (i := 27) (by decide +kernel)))) rfl
theorem jwF_X8_35 : Cond.fieldLink RX8 35 RX8 "codeSize" "I" ∈ jT := jT_in (List.mem_append_right _ (jm_2 (List.mem_of_getElem? (i := 28) (by decide +kernel)))) rfl
theorem jwY_X8_bytes : Cond.laysFinal RX8 RX8 "bytes" "[I" ∈ jT := jT_in (List.mem_append_right _ (jm_2 (List.mem_of_getElem? (i := 29) (by decide +kernel)))) rfl
theorem jwY_X8_size : Cond.lays RX8 RX8 "size" "I" ∈ jT := jT_in (List.mem_append_right _ (jm_2 (List.mem_of_getElem? (i := 31) (by decide +kernel)))) rfl
theorem jwY_X8_start : Cond.lays RX8 RX8 "start" "I" ∈ jT := jT_in (List.mem_append_right _ (jm_2 (List.mem_of_getElem? (i := 33) (by decide +kernel)))) rfl
theorem jwY_X8_end : Cond.lays RX8 RX8 "end" "I" ∈ jT := jT_in (List.mem_append_right _ (jm_2 (List.mem_of_getElem? (i := 35) (by decide +kernel)))) rfl
theorem jwY_X8_sort : Cond.lays RX8 RX8 "sort" "I" ∈ jT := jT_in (List.mem_append_right _ (jm_2 (List.mem_of_getElem? (i := 37) (by decide +kernel)))) rfl
theorem jwY_X8_needsBlank : Cond.lays RX8 RX8 "needsBlank" "Z" ∈ jT := jT_in (List.mem_append_right _ (jm_2 (List.mem_of_getElem? (i := 39) (by decide +kernel)))) rfl
theorem jwY_X8_key : Cond.lays RX8 RX8 "key" "I" ∈ jT := jT_in (List.mem_append_right _ (jm_2 (List.mem_of_getElem? (i := 41) (by decide +kernel)))) rfl
theorem jwY_X8_operands : Cond.lays RX8 RX8 "operands" "I" ∈ jT := jT_in (List.mem_append_right _ (jm_2 (List.mem_of_getElem? (i := 43) (by decide +kernel)))) rfl
theorem jwY_X8_code : Cond.laysFinal RX8 RX8 "code" "[I" ∈ jT := jT_in (List.mem_append_right _ (jm_2 (List.mem_of_getElem? (i := 45) (by decide +kernel)))) rfl
theorem jwY_X8_codeSize : Cond.lays RX8 RX8 "codeSize" "I" ∈ jT := jT_in (List.mem_append_right _ (jm_2 (List.mem_of_getElem? (i := 47) (by decide +kernel)))) rfl
theorem jwK_X10_40 : Cond.classLink RX10 40 RX6 ∈ jT := jT_in (List.mem_append_right _ (jm_2 (List.mem_of_getElem? (i := 50) (by decide +kernel)))) rfl
theorem jwK_X10_46 : Cond.classLink RX10 46 RX7 ∈ jT := jT_in (List.mem_append_right _ (jm_2 (List.mem_of_getElem? (i := 52) (by decide +kernel)))) rfl
theorem jwI_X6 : Cond.instantiable RX6 3 ∈ jT := jT_in (List.mem_append_right _ (jm_2 (List.mem_of_getElem? (i := 54) (by decide +kernel)))) rfl
theorem jwN_X6_init : Cond.instanceMethod yX6_init ∈ jT := jT_in (List.mem_append_right _ (jm_2 (List.mem_of_getElem? (i := 56) (by decide +kernel)))) rfl
set_option maxRecDepth 100000 in
theorem jwO_X6_init : Cond.code (mX6_init).1 (mX6_init).2.1 (mX6_init).2.2.1 (mX6_init).2.2.2 ∈ jT := jT_in (List.mem_append_right _ (jm_2 (List.mem_of_getElem? (i := 57) rfl))) rfl
theorem jwM_X6_3 : Cond.methodLink RX6 3 Lib.objectInit ∈ jT := jT_in (List.mem_append_right _ (jm_2 (List.mem_of_getElem? (i := 58) (by decide +kernel)))) rfl
theorem jwF_X6_9 : Cond.fieldLink RX6 9 RX6 "sort" "I" ∈ jT := jT_in (List.mem_append_right _ (jm_2 (List.mem_of_getElem? (i := 59) (by decide +kernel)))) rfl
theorem jwF_X10_261 : Cond.fieldLink RX10 261 RX6 "sort" "I" ∈ jT := jT_in (List.mem_append_right _ (jm_2 (List.mem_of_getElem? (i := 60) (by decide +kernel)))) rfl
theorem jwF_X6_19 : Cond.fieldLink RX6 19 RX6 "size" "I" ∈ jT := jT_in (List.mem_append_right _ (jm_2 (List.mem_of_getElem? (i := 61) (by decide +kernel)))) rfl
theorem jwF_X3_141 : Cond.fieldLink RX3 141 RX6 "size" "I" ∈ jT := jT_in (List.mem_append_right _ (jm_2 (List.mem_of_getElem? (i := 62) (by decide +kernel)))) rfl
theorem jwF_X10_327 : Cond.fieldLink RX10 327 RX6 "size" "I" ∈ jT := jT_in (List.mem_append_right _ (jm_2 (List.mem_of_getElem? (i := 63) (by decide +kernel)))) rfl
theorem jwF_X6_15 : Cond.fieldLink RX6 15 RX6 "places" "[I" ∈ jT := jT_in (List.mem_append_right _ (jm_2 (List.mem_of_getElem? (i := 64) (by decide +kernel)))) rfl
theorem jwF_X3_151 : Cond.fieldLink RX3 151 RX6 "places" "[I" ∈ jT := jT_in (List.mem_append_right _ (jm_2 (List.mem_of_getElem? (i := 65) (by decide +kernel)))) rfl
theorem jwF_X10_322 : Cond.fieldLink RX10 322 RX6 "places" "[I" ∈ jT := jT_in (List.mem_append_right _ (jm_2 (List.mem_of_getElem? (i := 66) (by decide +kernel)))) rfl
theorem jwY_X6_sort : Cond.lays RX6 RX6 "sort" "I" ∈ jT := jT_in (List.mem_append_right _ (jm_2 (List.mem_of_getElem? (i := 67) (by decide +kernel)))) rfl
theorem jwY_X6_size : Cond.lays RX6 RX6 "size" "I" ∈ jT := jT_in (List.mem_append_right _ (jm_2 (List.mem_of_getElem? (i := 69) (by decide +kernel)))) rfl
theorem jwY_X6_places : Cond.laysFinal RX6 RX6 "places" "[I" ∈ jT := jT_in (List.mem_append_right _ (jm_2 (List.mem_of_getElem? (i := 71) (by decide +kernel)))) rfl
theorem jwI_X7 : Cond.instantiable RX7 4 ∈ jT := jT_in (List.mem_append_right _ (jm_2 (List.mem_of_getElem? (i := 74) (by decide +kernel)))) rfl
theorem jwN_X7_init : Cond.instanceMethod yX7_init ∈ jT := jT_in (List.mem_append_right _ (jm_2 (List.mem_of_getElem? (i := 76) (by decide +kernel)))) rfl
set_option maxRecDepth 100000 in
theorem jwO_X7_init : Cond.code (mX7_init).1 (mX7_init).2.1 (mX7_init).2.2.1 (mX7_init).2.2.2 ∈ jT := jT_in (List.mem_append_right _ (jm_2 (List.mem_of_getElem? (i := 77) rfl))) rfl
theorem jwM_X7_3 : Cond.methodLink RX7 3 Lib.objectInit ∈ jT := jT_in (List.mem_append_right _ (jm_2 (List.mem_of_getElem? (i := 78) (by decide +kernel)))) rfl
theorem jwK_X7_15 : Cond.classLink RX7 15 RX2 ∈ jT := jT_in (List.mem_append_right _ (jm_2 (List.mem_of_getElem? (i := 79) (by decide +kernel)))) rfl
theorem jwK_X7_22 : Cond.classLink RX7 22 RX6 ∈ jT := jT_in (List.mem_append_right _ (jm_2 (List.mem_of_getElem? (i := 81) (by decide +kernel)))) rfl
theorem jwF_X7_9 : Cond.fieldLink RX7 9 RX7 "thing" "I" ∈ jT := jT_in (List.mem_append_right _ (jm_2 (List.mem_of_getElem? (i := 83) (by decide +kernel)))) rfl
theorem jwF_X10_347 : Cond.fieldLink RX10 347 RX7 "thing" "I" ∈ jT := jT_in (List.mem_append_right _ (jm_2 (List.mem_of_getElem? (i := 84) (by decide +kernel)))) rfl
theorem jwF_X7_18 : Cond.fieldLink RX7 18 RX7 "master" "LNineMasters$Master;" ∈ jT := jT_in (List.mem_append_right _ (jm_2 (List.mem_of_getElem? (i := 85) (by decide +kernel)))) rfl
theorem jwF_X10_360 : Cond.fieldLink RX10 360 RX7 "master" "LNineMasters$Master;" ∈ jT := jT_in (List.mem_append_right _ (jm_2 (List.mem_of_getElem? (i := 86) (by decide +kernel)))) rfl
theorem jwF_X7_25 : Cond.fieldLink RX7 25 RX7 "sheet" "LNineMasters$Sheet;" ∈ jT := jT_in (List.mem_append_right _ (jm_2 (List.mem_of_getElem? (i := 87) (by decide +kernel)))) rfl
theorem jwF_X10_367 : Cond.fieldLink RX10 367 RX7 "sheet" "LNineMasters$Sheet;" ∈ jT := jT_in (List.mem_append_right _ (jm_2 (List.mem_of_getElem? (i := 88) (by decide +kernel)))) rfl
theorem jwF_X10_357 : Cond.fieldLink RX10 357 RX7 "number" "I" ∈ jT := jT_in (List.mem_append_right _ (jm_2 (List.mem_of_getElem? (i := 89) (by decide +kernel)))) rfl
theorem jwY_X7_thing : Cond.lays RX7 RX7 "thing" "I" ∈ jT := jT_in (List.mem_append_right _ (jm_2 (List.mem_of_getElem? (i := 90) (by decide +kernel)))) rfl
theorem jwY_X7_master : Cond.laysFinal RX7 RX7 "master" "LNineMasters$Master;" ∈ jT := jT_in (List.mem_append_right _ (jm_2 (List.mem_of_getElem? (i := 92) (by decide +kernel)))) rfl
theorem jwY_X7_sheet : Cond.laysFinal RX7 RX7 "sheet" "LNineMasters$Sheet;" ∈ jT := jT_in (List.mem_append_right _ (jm_2 (List.mem_of_getElem? (i := 94) (by decide +kernel)))) rfl
theorem jwY_X7_number : Cond.lays RX7 RX7 "number" "I" ∈ jT := jT_in (List.mem_append_right _ (jm_2 (List.mem_of_getElem? (i := 96) (by decide +kernel)))) rfl
theorem jwF_X10_12 : Cond.fieldLink RX10 12 RX10 "realm" "LNineMasters$Realm;" ∈ jT := jT_in (List.mem_append_right _ (jm_2 (List.mem_of_getElem? (i := 99) (by decide +kernel)))) rfl
theorem jwF_X10_16 : Cond.fieldLink RX10 16 RX10 "image" "LNineMasters$Realm;" ∈ jT := jT_in (List.mem_append_right _ (jm_2 (List.mem_of_getElem? (i := 100) (by decide +kernel)))) rfl
theorem jwF_X10_377 : Cond.fieldLink RX10 377 RX10 "imageKept" "Z" ∈ jT := jT_in (List.mem_append_right _ (jm_2 (List.mem_of_getElem? (i := 101) (by decide +kernel)))) rfl
theorem jwF_X10_22 : Cond.fieldLink RX10 22 RX10 "thought" "LNineMasters$Guild;" ∈ jT := jT_in (List.mem_append_right _ (jm_2 (List.mem_of_getElem? (i := 102) (by decide +kernel)))) rfl
theorem jwF_X10_29 : Cond.fieldLink RX10 29 RX10 "search" "LNineMasters$Search;" ∈ jT := jT_in (List.mem_append_right _ (jm_2 (List.mem_of_getElem? (i := 103) (by decide +kernel)))) rfl
theorem jwF_X10_36 : Cond.fieldLink RX10 36 RX10 "tape" "LNineMasters$Tape;" ∈ jT := jT_in (List.mem_append_right _ (jm_2 (List.mem_of_getElem? (i := 104) (by decide +kernel)))) rfl
theorem jwF_X10_42 : Cond.fieldLink RX10 42 RX10 "sheets" "[LNineMasters$Sheet;" ∈ jT := jT_in (List.mem_append_right _ (jm_2 (List.mem_of_getElem? (i := 105) (by decide +kernel)))) rfl
theorem jwF_X10_48 : Cond.fieldLink RX10 48 RX10 "slots" "[LNineMasters$Slot;" ∈ jT := jT_in (List.mem_append_right _ (jm_2 (List.mem_of_getElem? (i := 106) (by decide +kernel)))) rfl
theorem jwF_X10_52 : Cond.fieldLink RX10 52 RX10 "waiting" "[I" ∈ jT := jT_in (List.mem_append_right _ (jm_2 (List.mem_of_getElem? (i := 107) (by decide +kernel)))) rfl
theorem jwF_X10_374 : Cond.fieldLink RX10 374 RX10 "waits" "I" ∈ jT := jT_in (List.mem_append_right _ (jm_2 (List.mem_of_getElem? (i := 108) (by decide +kernel)))) rfl
theorem jwY_X10_realm : Cond.laysFinal RX10 RX10 "realm" "LNineMasters$Realm;" ∈ jT := jT_in (List.mem_append_right _ (jm_2 (List.mem_of_getElem? (i := 109) (by decide +kernel)))) rfl
theorem jwY_X10_image : Cond.laysFinal RX10 RX10 "image" "LNineMasters$Realm;" ∈ jT := jT_in (List.mem_append_right _ (jm_2 (List.mem_of_getElem? (i := 111) (by decide +kernel)))) rfl
theorem jwY_X10_imageKept : Cond.lays RX10 RX10 "imageKept" "Z" ∈ jT := jT_in (List.mem_append_right _ (jm_2 (List.mem_of_getElem? (i := 113) (by decide +kernel)))) rfl
theorem jwY_X10_thought : Cond.laysFinal RX10 RX10 "thought" "LNineMasters$Guild;" ∈ jT := jT_in (List.mem_append_right _ (jm_2 (List.mem_of_getElem? (i := 115) (by decide +kernel)))) rfl
theorem jwY_X10_search : Cond.laysFinal RX10 RX10 "search" "LNineMasters$Search;" ∈ jT := jT_in (List.mem_append_right _ (jm_2 (List.mem_of_getElem? (i := 117) (by decide +kernel)))) rfl
theorem jwY_X10_tape : Cond.laysFinal RX10 RX10 "tape" "LNineMasters$Tape;" ∈ jT := jT_in (List.mem_append_right _ (jm_2 (List.mem_of_getElem? (i := 119) (by decide +kernel)))) rfl
theorem jwY_X10_sheets : Cond.laysFinal RX10 RX10 "sheets" "[LNineMasters$Sheet;" ∈ jT := jT_in (List.mem_append_right _ (jm_2 (List.mem_of_getElem? (i := 121) (by decide +kernel)))) rfl
theorem jwY_X10_slots : Cond.laysFinal RX10 RX10 "slots" "[LNineMasters$Slot;" ∈ jT := jT_in (List.mem_append_right _ (jm_2 (List.mem_of_getElem? (i := 123) (by decide +kernel)))) rfl
theorem jwY_X10_waiting : Cond.laysFinal RX10 RX10 "waiting" "[I" ∈ jT := jT_in (List.mem_append_right _ (jm_2 (List.mem_of_getElem? (i := 125) (by decide +kernel)))) rfl
theorem jwY_X10_waits : Cond.lays RX10 RX10 "waits" "I" ∈ jT := jT_in (List.mem_append_right _ (jm_2 (List.mem_of_getElem? (i := 127) (by decide +kernel)))) rfl
theorem jwM_L_13 : Cond.methodLink RL 13 yX10_master ∈ jT := jT_in (List.mem_append_right _ (jm_2 (List.mem_of_getElem? (i := 130) (by decide +kernel)))) rfl
theorem jwN_X10_master : Cond.instanceMethod yX10_master ∈ jT := jT_in (List.mem_append_right _ (jm_2 (List.mem_of_getElem? (i := 131) (by decide +kernel)))) rfl
theorem jwX_X10_master : Cond.selects RX10 yX10_master yX10_master ∈ jT := jT_in (List.mem_append_right _ (jm_2 (List.mem_of_getElem? (i := 132) (by decide +kernel)))) rfl
set_option maxRecDepth 100000 in
theorem jwO_X10_master : Cond.code (mX10_master).1 (mX10_master).2.1 (mX10_master).2.2.1 (mX10_master).2.2.2 ∈ jT := jT_in (List.mem_append_right _ (jm_2 (List.mem_of_getElem? (i := 133) rfl))) rfl
theorem jwM_X10_58 : Cond.methodLink RX10 58 yX10_within ∈ jT := jT_in (List.mem_append_right _ (jm_2 (List.mem_of_getElem? (i := 134) (by decide +kernel)))) rfl
theorem jwS_X10_within : Cond.static yX10_within ∈ jT := jT_in (List.mem_append_right _ (jm_2 (List.mem_of_getElem? (i := 135) (by decide +kernel)))) rfl
set_option maxRecDepth 100000 in
theorem jwO_X10_within : Cond.code (mX10_within).1 (mX10_within).2.1 (mX10_within).2.2.1 (mX10_within).2.2.2 ∈ jT := jT_in (List.mem_append_right _ (jm_2 (List.mem_of_getElem? (i := 136) rfl))) rfl
theorem jwC_X10_62 : Cond.constant RX10 62 (-1000000001) ∈ jT := jT_in (List.mem_append_right _ (jm_2 (List.mem_of_getElem? (i := 137) (by decide +kernel)))) rfl
theorem jwM_X10_70 : Cond.methodLink RX10 70 yX0_join ∈ jT := jT_in (List.mem_append_right _ (jm_2 (List.mem_of_getElem? (i := 138) (by decide +kernel)))) rfl
theorem jwN_X0_join : Cond.instanceMethod yX0_join ∈ jT := jT_in (List.mem_append_right _ (jm_2 (List.mem_of_getElem? (i := 139) (by decide +kernel)))) rfl
theorem jwX_X0_join : Cond.selects RX0 yX0_join yX0_join ∈ jT := jT_in (List.mem_append_right _ (jm_2 (List.mem_of_getElem? (i := 140) (by decide +kernel)))) rfl
set_option maxRecDepth 100000 in
theorem jwO_X0_join : Cond.code (mX0_join).1 (mX0_join).2.1 (mX0_join).2.2.1 (mX0_join).2.2.2 ∈ jT := jT_in (List.mem_append_right _ (jm_2 (List.mem_of_getElem? (i := 141) rfl))) rfl
theorem jwM_X0_33 : Cond.methodLink RX0 33 yX2_begin ∈ jT := jT_in (List.mem_append_right _ (jm_2 (List.mem_of_getElem? (i := 143) (by decide +kernel)))) rfl
theorem jwN_X2_begin : Cond.instanceMethod yX2_begin ∈ jT := jT_in (List.mem_append_right _ (jm_2 (List.mem_of_getElem? (i := 144) (by decide +kernel)))) rfl
theorem jwX_X2_begin : Cond.selects RX2 yX2_begin yX2_begin ∈ jT := jT_in (List.mem_append_right _ (jm_2 (List.mem_of_getElem? (i := 145) (by decide +kernel)))) rfl
set_option maxRecDepth 100000 in
theorem jwO_X2_begin : Cond.code (mX2_begin).1 (mX2_begin).2.1 (mX2_begin).2.2.1 (mX2_begin).2.2.2 ∈ jT := jT_in (List.mem_append_right _ (jm_2 (List.mem_of_getElem? (i := 146) rfl))) rfl
theorem jwC_X10_74 : Cond.constant RX10 74 (-1000000003) ∈ jT := jT_in (List.mem_append_right _ (jm_2 (List.mem_of_getElem? (i := 147) (by decide +kernel)))) rfl
theorem jwM_L_18 : Cond.methodLink RL 18 yX10_told ∈ jT := jT_in (List.mem_append_right _ (jm_2 (List.mem_of_getElem? (i := 148) (by decide +kernel)))) rfl
theorem jwN_X10_told : Cond.instanceMethod yX10_told ∈ jT := jT_in (List.mem_append_right _ (jm_2 (List.mem_of_getElem? (i := 149) (by decide +kernel)))) rfl
theorem jwX_X10_told : Cond.selects RX10 yX10_told yX10_told ∈ jT := jT_in (List.mem_append_right _ (jm_2 (List.mem_of_getElem? (i := 150) (by decide +kernel)))) rfl
set_option maxRecDepth 100000 in
theorem jwO_X10_told : Cond.code (mX10_told).1 (mX10_told).2.1 (mX10_told).2.2.1 (mX10_told).2.2.2 ∈ jT := jT_in (List.mem_append_right _ (jm_2 (List.mem_of_getElem? (i := 151) rfl))) rfl
theorem jwM_X10_75 : Cond.methodLink RX10 75 yX0_find ∈ jT := jT_in (List.mem_append_right _ (jm_2 (List.mem_of_getElem? (i := 152) (by decide +kernel)))) rfl
theorem jwN_X0_find : Cond.instanceMethod yX0_find ∈ jT := jT_in (List.mem_append_right _ (jm_2 (List.mem_of_getElem? (i := 153) (by decide +kernel)))) rfl
theorem jwX_X0_find : Cond.selects RX0 yX0_find yX0_find ∈ jT := jT_in (List.mem_append_right _ (jm_2 (List.mem_of_getElem? (i := 154) (by decide +kernel)))) rfl
set_option maxRecDepth 100000 in
theorem jwO_X0_find : Cond.code (mX0_find).1 (mX0_find).2.1 (mX0_find).2.2.1 (mX0_find).2.2.2 ∈ jT := jT_in (List.mem_append_right _ (jm_2 (List.mem_of_getElem? (i := 155) rfl))) rfl
theorem jwM_X10_112 : Cond.methodLink RX10 112 yJ6_bitCount_0f7a4 ∈ jT := jT_in (List.mem_append_right _ (jm_2 (List.mem_of_getElem? (i := 156) (by decide +kernel)))) rfl
theorem jwS_J6_bitCount_0f7a4 : Cond.static yJ6_bitCount_0f7a4 ∈ jT := jT_in (List.mem_append_right _ (jm_2 (List.mem_of_getElem? (i := 157) (by decide +kernel)))) rfl
set_option maxRecDepth 100000 in
theorem jwO_J6_bitCount_0f7a4 : Cond.code (mJ6_bitCount_0f7a4).1 (mJ6_bitCount_0f7a4).2.1 (mJ6_bitCount_0f7a4).2.2.1 (mJ6_bitCount_0f7a4).2.2.2 ∈ jT := jT_in (List.mem_append_right _ (jm_2 (List.mem_of_getElem? (i := 158) rfl))) rfl
theorem jwC_J6_265 : Cond.constant RJ6 265 1431655765 ∈ jT := jT_in (List.mem_append_right _ (jm_2 (List.mem_of_getElem? (i := 159) (by decide +kernel)))) rfl
theorem jwC_J6_266 : Cond.constant RJ6 266 858993459 ∈ jT := jT_in (List.mem_append_right _ (jm_2 (List.mem_of_getElem? (i := 160) (by decide +kernel)))) rfl
theorem jwC_J6_267 : Cond.constant RJ6 267 252645135 ∈ jT := jT_in (List.mem_append_right _ (jm_2 (List.mem_of_getElem? (i := 161) (by decide +kernel)))) rfl
theorem jwM_X10_118 : Cond.methodLink RX10 118 yX3_daysTaken ∈ jT := jT_in (List.mem_append_right _ (jm_2 (List.mem_of_getElem? (i := 162) (by decide +kernel)))) rfl
theorem jwN_X3_daysTaken : Cond.instanceMethod yX3_daysTaken ∈ jT := jT_in (List.mem_append_right _ (jm_2 (List.mem_of_getElem? (i := 163) (by decide +kernel)))) rfl
theorem jwX_X3_daysTaken : Cond.selects RX3 yX3_daysTaken yX3_daysTaken ∈ jT := jT_in (List.mem_append_right _ (jm_2 (List.mem_of_getElem? (i := 164) (by decide +kernel)))) rfl
set_option maxRecDepth 100000 in
theorem jwO_X3_daysTaken : Cond.code (mX3_daysTaken).1 (mX3_daysTaken).2.1 (mX3_daysTaken).2.2.1 (mX3_daysTaken).2.2.2 ∈ jT := jT_in (List.mem_append_right _ (jm_2 (List.mem_of_getElem? (i := 165) rfl))) rfl
theorem jwM_X3_83 : Cond.methodLink RX3 83 yX3_numberOfLaw ∈ jT := jT_in (List.mem_append_right _ (jm_2 (List.mem_of_getElem? (i := 166) (by decide +kernel)))) rfl
theorem jwN_X3_numberOfLaw : Cond.instanceMethod yX3_numberOfLaw ∈ jT := jT_in (List.mem_append_right _ (jm_2 (List.mem_of_getElem? (i := 167) (by decide +kernel)))) rfl
theorem jwX_X3_numberOfLaw : Cond.selects RX3 yX3_numberOfLaw yX3_numberOfLaw ∈ jT := jT_in (List.mem_append_right _ (jm_2 (List.mem_of_getElem? (i := 168) (by decide +kernel)))) rfl
set_option maxRecDepth 100000 in
theorem jwO_X3_numberOfLaw : Cond.code (mX3_numberOfLaw).1 (mX3_numberOfLaw).2.1 (mX3_numberOfLaw).2.2.1 (mX3_numberOfLaw).2.2.2 ∈ jT := jT_in (List.mem_append_right _ (jm_2 (List.mem_of_getElem? (i := 169) rfl))) rfl
theorem jwM_X3_87 : Cond.methodLink RX3 87 yX3_findText ∈ jT := jT_in (List.mem_append_right _ (jm_2 (List.mem_of_getElem? (i := 170) (by decide +kernel)))) rfl
theorem jwN_X3_findText : Cond.instanceMethod yX3_findText ∈ jT := jT_in (List.mem_append_right _ (jm_2 (List.mem_of_getElem? (i := 171) (by decide +kernel)))) rfl
theorem jwX_X3_findText : Cond.selects RX3 yX3_findText yX3_findText ∈ jT := jT_in (List.mem_append_right _ (jm_2 (List.mem_of_getElem? (i := 172) (by decide +kernel)))) rfl
set_option maxRecDepth 100000 in
theorem jwO_X3_findText : Cond.code (mX3_findText).1 (mX3_findText).2.1 (mX3_findText).2.2.1 (mX3_findText).2.2.2 ∈ jT := jT_in (List.mem_append_right _ (jm_2 (List.mem_of_getElem? (i := 173) rfl))) rfl
theorem jwM_X3_99 : Cond.methodLink RX3 99 yX9_workOut ∈ jT := jT_in (List.mem_append_right _ (jm_2 (List.mem_of_getElem? (i := 175) (by decide +kernel)))) rfl
theorem jwN_X9_workOut : Cond.instanceMethod yX9_workOut ∈ jT := jT_in (List.mem_append_right _ (jm_2 (List.mem_of_getElem? (i := 176) (by decide +kernel)))) rfl
theorem jwX_X9_workOut : Cond.selects RX9 yX9_workOut yX9_workOut ∈ jT := jT_in (List.mem_append_right _ (jm_2 (List.mem_of_getElem? (i := 177) (by decide +kernel)))) rfl
set_option maxRecDepth 100000 in
theorem jwO_X9_workOut : Cond.code (mX9_workOut).1 (mX9_workOut).2.1 (mX9_workOut).2.2.1 (mX9_workOut).2.2.2 ∈ jT := jT_in (List.mem_append_right _ (jm_2 (List.mem_of_getElem? (i := 178) rfl))) rfl
theorem jwM_X9_35 : Cond.methodLink RX9 35 yX9_valueOf ∈ jT := jT_in (List.mem_append_right _ (jm_2 (List.mem_of_getElem? (i := 180) (by decide +kernel)))) rfl
theorem jwS_X9_valueOf : Cond.static yX9_valueOf ∈ jT := jT_in (List.mem_append_right _ (jm_2 (List.mem_of_getElem? (i := 181) (by decide +kernel)))) rfl
set_option maxRecDepth 100000 in
theorem jwO_X9_valueOf : Cond.code (mX9_valueOf).1 (mX9_valueOf).2.1 (mX9_valueOf).2.2.1 (mX9_valueOf).2.2.2 ∈ jT := jT_in (List.mem_append_right _ (jm_2 (List.mem_of_getElem? (i := 182) rfl))) rfl
theorem jwM_X9_39 : Cond.methodLink RX9 39 yX9_joined ∈ jT := jT_in (List.mem_append_right _ (jm_2 (List.mem_of_getElem? (i := 183) (by decide +kernel)))) rfl
theorem jwS_X9_joined : Cond.static yX9_joined ∈ jT := jT_in (List.mem_append_right _ (jm_2 (List.mem_of_getElem? (i := 184) (by decide +kernel)))) rfl
set_option maxRecDepth 100000 in
theorem jwO_X9_joined : Cond.code (mX9_joined).1 (mX9_joined).2.1 (mX9_joined).2.2.1 (mX9_joined).2.2.2 ∈ jT := jT_in (List.mem_append_right _ (jm_2 (List.mem_of_getElem? (i := 185) rfl))) rfl
theorem jwM_X3_103 : Cond.methodLink RX3 103 Lib.Math.min.name ∈ jT := jT_in (List.mem_append_right _ (jm_2 (List.mem_of_getElem? (i := 186) (by decide +kernel)))) rfl
theorem jwM_X3_109 : Cond.methodLink RX3 109 Lib.Math.max.name ∈ jT := jT_in (List.mem_append_right _ (jm_2 (List.mem_of_getElem? (i := 187) (by decide +kernel)))) rfl
theorem jwS_max : Cond.static Lib.Math.max.name ∈ jT := jT_in (List.mem_append_right _ (jm_2 (List.mem_of_getElem? (i := 188) (by decide +kernel)))) rfl
theorem jwO_max : Cond.code Lib.Math.max.name Lib.Math.max.code 2 (some .int) ∈ jT := jT_in (List.mem_append_right _ (jm_2 (List.mem_of_getElem? (i := 189) (by decide +kernel)))) rfl
theorem jwM_X3_112 : Cond.methodLink RX3 112 yX2_daysFrom ∈ jT := jT_in (List.mem_append_right _ (jm_2 (List.mem_of_getElem? (i := 190) (by decide +kernel)))) rfl
theorem jwN_X2_daysFrom : Cond.instanceMethod yX2_daysFrom ∈ jT := jT_in (List.mem_append_right _ (jm_2 (List.mem_of_getElem? (i := 191) (by decide +kernel)))) rfl
theorem jwX_X2_daysFrom : Cond.selects RX2 yX2_daysFrom yX2_daysFrom ∈ jT := jT_in (List.mem_append_right _ (jm_2 (List.mem_of_getElem? (i := 192) (by decide +kernel)))) rfl
set_option maxRecDepth 100000 in
theorem jwO_X2_daysFrom : Cond.code (mX2_daysFrom).1 (mX2_daysFrom).2.1 (mX2_daysFrom).2.2.1 (mX2_daysFrom).2.2.2 ∈ jT := jT_in (List.mem_append_right _ (jm_2 (List.mem_of_getElem? (i := 193) rfl))) rfl
theorem jwM_X2_42 : Cond.methodLink RX2 42 Lib.Math.max.name ∈ jT := jT_in (List.mem_append_right _ (jm_2 (List.mem_of_getElem? (i := 194) (by decide +kernel)))) rfl
theorem jwM_X10_122 : Cond.methodLink RX10 122 yX2_teaches ∈ jT := jT_in (List.mem_append_right _ (jm_2 (List.mem_of_getElem? (i := 195) (by decide +kernel)))) rfl
theorem jwN_X2_teaches : Cond.instanceMethod yX2_teaches ∈ jT := jT_in (List.mem_append_right _ (jm_2 (List.mem_of_getElem? (i := 196) (by decide +kernel)))) rfl
theorem jwX_X2_teaches : Cond.selects RX2 yX2_teaches yX2_teaches ∈ jT := jT_in (List.mem_append_right _ (jm_2 (List.mem_of_getElem? (i := 197) (by decide +kernel)))) rfl
set_option maxRecDepth 100000 in
theorem jwO_X2_teaches : Cond.code (mX2_teaches).1 (mX2_teaches).2.1 (mX2_teaches).2.2.1 (mX2_teaches).2.2.2 ∈ jT := jT_in (List.mem_append_right _ (jm_2 (List.mem_of_getElem? (i := 198) rfl))) rfl
theorem jwM_X2_48 : Cond.methodLink RX2 48 yJ6_bitCount_0f7a4 ∈ jT := jT_in (List.mem_append_right _ (jm_2 (List.mem_of_getElem? (i := 199) (by decide +kernel)))) rfl
theorem jwM_X10_126 : Cond.methodLink RX10 126 yX2_worth ∈ jT := jT_in (List.mem_append_right _ (jm_2 (List.mem_of_getElem? (i := 200) (by decide +kernel)))) rfl
theorem jwN_X2_worth : Cond.instanceMethod yX2_worth ∈ jT := jT_in (List.mem_append_right _ (jm_2 (List.mem_of_getElem? (i := 201) (by decide +kernel)))) rfl
theorem jwX_X2_worth : Cond.selects RX2 yX2_worth yX2_worth ∈ jT := jT_in (List.mem_append_right _ (jm_2 (List.mem_of_getElem? (i := 202) (by decide +kernel)))) rfl
set_option maxRecDepth 100000 in
theorem jwO_X2_worth : Cond.code (mX2_worth).1 (mX2_worth).2.1 (mX2_worth).2.2.1 (mX2_worth).2.2.2 ∈ jT := jT_in (List.mem_append_right _ (jm_2 (List.mem_of_getElem? (i := 203) rfl))) rfl
theorem jwM_L_23 : Cond.methodLink RL 23 yX10_as ∈ jT := jT_in (List.mem_append_right _ (jm_2 (List.mem_of_getElem? (i := 204) (by decide +kernel)))) rfl
theorem jwN_X10_as : Cond.instanceMethod yX10_as ∈ jT := jT_in (List.mem_append_right _ (jm_2 (List.mem_of_getElem? (i := 205) (by decide +kernel)))) rfl
theorem jwX_X10_as : Cond.selects RX10 yX10_as yX10_as ∈ jT := jT_in (List.mem_append_right _ (jm_2 (List.mem_of_getElem? (i := 206) (by decide +kernel)))) rfl
set_option maxRecDepth 100000 in
theorem jwO_X10_as : Cond.code (mX10_as).1 (mX10_as).2.1 (mX10_as).2.2.1 (mX10_as).2.2.2 ∈ jT := jT_in (List.mem_append_right _ (jm_2 (List.mem_of_getElem? (i := 207) rfl))) rfl
theorem jwM_X10_130 : Cond.methodLink RX10 130 yX2_isOf ∈ jT := jT_in (List.mem_append_right _ (jm_2 (List.mem_of_getElem? (i := 208) (by decide +kernel)))) rfl
theorem jwN_X2_isOf : Cond.instanceMethod yX2_isOf ∈ jT := jT_in (List.mem_append_right _ (jm_2 (List.mem_of_getElem? (i := 209) (by decide +kernel)))) rfl
theorem jwX_X2_isOf : Cond.selects RX2 yX2_isOf yX2_isOf ∈ jT := jT_in (List.mem_append_right _ (jm_2 (List.mem_of_getElem? (i := 210) (by decide +kernel)))) rfl
set_option maxRecDepth 100000 in
theorem jwO_X2_isOf : Cond.code (mX2_isOf).1 (mX2_isOf).2.1 (mX2_isOf).2.2.1 (mX2_isOf).2.2.2 ∈ jT := jT_in (List.mem_append_right _ (jm_2 (List.mem_of_getElem? (i := 211) rfl))) rfl
theorem jwC_X10_133 : Cond.constant RX10 133 (-1000000012) ∈ jT := jT_in (List.mem_append_right _ (jm_2 (List.mem_of_getElem? (i := 215) (by decide +kernel)))) rfl
theorem jwM_L_27 : Cond.methodLink RL 27 yX10_turns ∈ jT := jT_in (List.mem_append_right _ (jm_2 (List.mem_of_getElem? (i := 216) (by decide +kernel)))) rfl
theorem jwN_X10_turns : Cond.instanceMethod yX10_turns ∈ jT := jT_in (List.mem_append_right _ (jm_2 (List.mem_of_getElem? (i := 217) (by decide +kernel)))) rfl
theorem jwX_X10_turns : Cond.selects RX10 yX10_turns yX10_turns ∈ jT := jT_in (List.mem_append_right _ (jm_2 (List.mem_of_getElem? (i := 218) (by decide +kernel)))) rfl
set_option maxRecDepth 100000 in
theorem jwO_X10_turns : Cond.code (mX10_turns).1 (mX10_turns).2.1 (mX10_turns).2.2.1 (mX10_turns).2.2.2 ∈ jT := jT_in (List.mem_append_right _ (jm_2 (List.mem_of_getElem? (i := 219) rfl))) rfl
theorem jwM_L_31 : Cond.methodLink RL 31 yX10_set ∈ jT := jT_in (List.mem_append_right _ (jm_2 (List.mem_of_getElem? (i := 220) (by decide +kernel)))) rfl
theorem jwN_X10_set : Cond.instanceMethod yX10_set ∈ jT := jT_in (List.mem_append_right _ (jm_2 (List.mem_of_getElem? (i := 221) (by decide +kernel)))) rfl
theorem jwX_X10_set : Cond.selects RX10 yX10_set yX10_set ∈ jT := jT_in (List.mem_append_right _ (jm_2 (List.mem_of_getElem? (i := 222) (by decide +kernel)))) rfl
set_option maxRecDepth 100000 in
theorem jwO_X10_set : Cond.code (mX10_set).1 (mX10_set).2.1 (mX10_set).2.2.1 (mX10_set).2.2.2 ∈ jT := jT_in (List.mem_append_right _ (jm_2 (List.mem_of_getElem? (i := 223) rfl))) rfl
theorem jwM_X10_134 : Cond.methodLink RX10 134 yX10_setFee ∈ jT := jT_in (List.mem_append_right _ (jm_2 (List.mem_of_getElem? (i := 224) (by decide +kernel)))) rfl
theorem jwS_X10_setFee : Cond.static yX10_setFee ∈ jT := jT_in (List.mem_append_right _ (jm_2 (List.mem_of_getElem? (i := 225) (by decide +kernel)))) rfl
set_option maxRecDepth 100000 in
theorem jwO_X10_setFee : Cond.code (mX10_setFee).1 (mX10_setFee).2.1 (mX10_setFee).2.2.1 (mX10_setFee).2.2.2 ∈ jT := jT_in (List.mem_append_right _ (jm_2 (List.mem_of_getElem? (i := 226) rfl))) rfl
theorem jwM_X10_137 : Cond.methodLink RX10 137 yX10_setAge ∈ jT := jT_in (List.mem_append_right _ (jm_2 (List.mem_of_getElem? (i := 227) (by decide +kernel)))) rfl
theorem jwS_X10_setAge : Cond.static yX10_setAge ∈ jT := jT_in (List.mem_append_right _ (jm_2 (List.mem_of_getElem? (i := 228) (by decide +kernel)))) rfl
set_option maxRecDepth 100000 in
theorem jwO_X10_setAge : Cond.code (mX10_setAge).1 (mX10_setAge).2.1 (mX10_setAge).2.2.1 (mX10_setAge).2.2.2 ∈ jT := jT_in (List.mem_append_right _ (jm_2 (List.mem_of_getElem? (i := 229) rfl))) rfl
theorem jwM_X10_140 : Cond.methodLink RX10 140 yX10_setDead ∈ jT := jT_in (List.mem_append_right _ (jm_2 (List.mem_of_getElem? (i := 230) (by decide +kernel)))) rfl
theorem jwS_X10_setDead : Cond.static yX10_setDead ∈ jT := jT_in (List.mem_append_right _ (jm_2 (List.mem_of_getElem? (i := 231) (by decide +kernel)))) rfl
set_option maxRecDepth 100000 in
theorem jwO_X10_setDead : Cond.code (mX10_setDead).1 (mX10_setDead).2.1 (mX10_setDead).2.2.1 (mX10_setDead).2.2.2 ∈ jT := jT_in (List.mem_append_right _ (jm_2 (List.mem_of_getElem? (i := 232) rfl))) rfl
theorem jwM_L_36 : Cond.methodLink RL 36 yX10_bars ∈ jT := jT_in (List.mem_append_right _ (jm_2 (List.mem_of_getElem? (i := 233) (by decide +kernel)))) rfl
theorem jwN_X10_bars : Cond.instanceMethod yX10_bars ∈ jT := jT_in (List.mem_append_right _ (jm_2 (List.mem_of_getElem? (i := 234) (by decide +kernel)))) rfl
theorem jwX_X10_bars : Cond.selects RX10 yX10_bars yX10_bars ∈ jT := jT_in (List.mem_append_right _ (jm_2 (List.mem_of_getElem? (i := 235) (by decide +kernel)))) rfl
set_option maxRecDepth 100000 in
theorem jwO_X10_bars : Cond.code (mX10_bars).1 (mX10_bars).2.1 (mX10_bars).2.2.1 (mX10_bars).2.2.2 ∈ jT := jT_in (List.mem_append_right _ (jm_2 (List.mem_of_getElem? (i := 236) rfl))) rfl
theorem jwM_L_40 : Cond.methodLink RL 40 yX10_road ∈ jT := jT_in (List.mem_append_right _ (jm_2 (List.mem_of_getElem? (i := 237) (by decide +kernel)))) rfl
theorem jwN_X10_road : Cond.instanceMethod yX10_road ∈ jT := jT_in (List.mem_append_right _ (jm_2 (List.mem_of_getElem? (i := 238) (by decide +kernel)))) rfl
theorem jwX_X10_road : Cond.selects RX10 yX10_road yX10_road ∈ jT := jT_in (List.mem_append_right _ (jm_2 (List.mem_of_getElem? (i := 239) (by decide +kernel)))) rfl
set_option maxRecDepth 100000 in
theorem jwO_X10_road : Cond.code (mX10_road).1 (mX10_road).2.1 (mX10_road).2.2.1 (mX10_road).2.2.2 ∈ jT := jT_in (List.mem_append_right _ (jm_3 (List.mem_of_getElem? (i := 0) rfl))) rfl
theorem jwM_X10_147 : Cond.methodLink RX10 147 yX4_direct ∈ jT := jT_in (List.mem_append_right _ (jm_3 (List.mem_of_getElem? (i := 1) (by decide +kernel)))) rfl
theorem jwN_X4_direct : Cond.instanceMethod yX4_direct ∈ jT := jT_in (List.mem_append_right _ (jm_3 (List.mem_of_getElem? (i := 2) (by decide +kernel)))) rfl
theorem jwX_X4_direct : Cond.selects RX4 yX4_direct yX4_direct ∈ jT := jT_in (List.mem_append_right _ (jm_3 (List.mem_of_getElem? (i := 3) (by decide +kernel)))) rfl
set_option maxRecDepth 100000 in
theorem jwO_X4_direct : Cond.code (mX4_direct).1 (mX4_direct).2.1 (mX4_direct).2.2.1 (mX4_direct).2.2.2 ∈ jT := jT_in (List.mem_append_right _ (jm_3 (List.mem_of_getElem? (i := 4) rfl))) rfl
theorem jwM_X10_153 : Cond.methodLink RX10 153 yX4_build ∈ jT := jT_in (List.mem_append_right _ (jm_3 (List.mem_of_getElem? (i := 6) (by decide +kernel)))) rfl
theorem jwN_X4_build : Cond.instanceMethod yX4_build ∈ jT := jT_in (List.mem_append_right _ (jm_3 (List.mem_of_getElem? (i := 7) (by decide +kernel)))) rfl
theorem jwX_X4_build : Cond.selects RX4 yX4_build yX4_build ∈ jT := jT_in (List.mem_append_right _ (jm_3 (List.mem_of_getElem? (i := 8) (by decide +kernel)))) rfl
set_option maxRecDepth 100000 in
theorem jwO_X4_build : Cond.code (mX4_build).1 (mX4_build).2.1 (mX4_build).2.2.1 (mX4_build).2.2.2 ∈ jT := jT_in (List.mem_append_right _ (jm_3 (List.mem_of_getElem? (i := 9) rfl))) rfl
theorem jwM_L_44 : Cond.methodLink RL 44 yX10_far ∈ jT := jT_in (List.mem_append_right _ (jm_3 (List.mem_of_getElem? (i := 10) (by decide +kernel)))) rfl
theorem jwN_X10_far : Cond.instanceMethod yX10_far ∈ jT := jT_in (List.mem_append_right _ (jm_3 (List.mem_of_getElem? (i := 11) (by decide +kernel)))) rfl
theorem jwX_X10_far : Cond.selects RX10 yX10_far yX10_far ∈ jT := jT_in (List.mem_append_right _ (jm_3 (List.mem_of_getElem? (i := 12) (by decide +kernel)))) rfl
set_option maxRecDepth 100000 in
theorem jwO_X10_far : Cond.code (mX10_far).1 (mX10_far).2.1 (mX10_far).2.2.1 (mX10_far).2.2.2 ∈ jT := jT_in (List.mem_append_right _ (jm_3 (List.mem_of_getElem? (i := 13) rfl))) rfl
theorem jwM_X10_157 : Cond.methodLink RX10 157 yX4_fewest ∈ jT := jT_in (List.mem_append_right _ (jm_3 (List.mem_of_getElem? (i := 14) (by decide +kernel)))) rfl
theorem jwN_X4_fewest : Cond.instanceMethod yX4_fewest ∈ jT := jT_in (List.mem_append_right _ (jm_3 (List.mem_of_getElem? (i := 15) (by decide +kernel)))) rfl
theorem jwX_X4_fewest : Cond.selects RX4 yX4_fewest yX4_fewest ∈ jT := jT_in (List.mem_append_right _ (jm_3 (List.mem_of_getElem? (i := 16) (by decide +kernel)))) rfl
set_option maxRecDepth 100000 in
theorem jwO_X4_fewest : Cond.code (mX4_fewest).1 (mX4_fewest).2.1 (mX4_fewest).2.2.1 (mX4_fewest).2.2.2 ∈ jT := jT_in (List.mem_append_right _ (jm_3 (List.mem_of_getElem? (i := 17) rfl))) rfl
theorem jwC_X10_160 : Cond.constant RX10 160 (-1000000005) ∈ jT := jT_in (List.mem_append_right _ (jm_3 (List.mem_of_getElem? (i := 18) (by decide +kernel)))) rfl
theorem jwM_L_48 : Cond.methodLink RL 48 yX10_deal ∈ jT := jT_in (List.mem_append_right _ (jm_3 (List.mem_of_getElem? (i := 19) (by decide +kernel)))) rfl
theorem jwN_X10_deal : Cond.instanceMethod yX10_deal ∈ jT := jT_in (List.mem_append_right _ (jm_3 (List.mem_of_getElem? (i := 20) (by decide +kernel)))) rfl
theorem jwX_X10_deal : Cond.selects RX10 yX10_deal yX10_deal ∈ jT := jT_in (List.mem_append_right _ (jm_3 (List.mem_of_getElem? (i := 21) (by decide +kernel)))) rfl
set_option maxRecDepth 100000 in
theorem jwO_X10_deal : Cond.code (mX10_deal).1 (mX10_deal).2.1 (mX10_deal).2.2.1 (mX10_deal).2.2.2 ∈ jT := jT_in (List.mem_append_right _ (jm_3 (List.mem_of_getElem? (i := 22) rfl))) rfl
theorem jwM_X10_161 : Cond.methodLink RX10 161 Lib.Math.min.name ∈ jT := jT_in (List.mem_append_right _ (jm_3 (List.mem_of_getElem? (i := 23) (by decide +kernel)))) rfl
theorem jwM_X10_166 : Cond.methodLink RX10 166 yX0_joinByLot ∈ jT := jT_in (List.mem_append_right _ (jm_3 (List.mem_of_getElem? (i := 24) (by decide +kernel)))) rfl
theorem jwN_X0_joinByLot : Cond.instanceMethod yX0_joinByLot ∈ jT := jT_in (List.mem_append_right _ (jm_3 (List.mem_of_getElem? (i := 25) (by decide +kernel)))) rfl
theorem jwX_X0_joinByLot : Cond.selects RX0 yX0_joinByLot yX0_joinByLot ∈ jT := jT_in (List.mem_append_right _ (jm_3 (List.mem_of_getElem? (i := 26) (by decide +kernel)))) rfl
set_option maxRecDepth 100000 in
theorem jwO_X0_joinByLot : Cond.code (mX0_joinByLot).1 (mX0_joinByLot).2.1 (mX0_joinByLot).2.2.1 (mX0_joinByLot).2.2.2 ∈ jT := jT_in (List.mem_append_right _ (jm_3 (List.mem_of_getElem? (i := 27) rfl))) rfl
theorem jwM_X0_37 : Cond.methodLink RX0 37 yX0_draw ∈ jT := jT_in (List.mem_append_right _ (jm_3 (List.mem_of_getElem? (i := 28) (by decide +kernel)))) rfl
theorem jwN_X0_draw : Cond.instanceMethod yX0_draw ∈ jT := jT_in (List.mem_append_right _ (jm_3 (List.mem_of_getElem? (i := 30) (by decide +kernel)))) rfl
set_option maxRecDepth 100000 in
theorem jwO_X0_draw : Cond.code (mX0_draw).1 (mX0_draw).2.1 (mX0_draw).2.2.1 (mX0_draw).2.2.2 ∈ jT := jT_in (List.mem_append_right _ (jm_3 (List.mem_of_getElem? (i := 31) rfl))) rfl
theorem jwC_X0_45 : Cond.constant RX0 45 1103515245 ∈ jT := jT_in (List.mem_append_right _ (jm_3 (List.mem_of_getElem? (i := 32) (by decide +kernel)))) rfl
theorem jwM_X0_41 : Cond.methodLink RX0 41 yX0_join ∈ jT := jT_in (List.mem_append_right _ (jm_3 (List.mem_of_getElem? (i := 33) (by decide +kernel)))) rfl
theorem jwM_L_53 : Cond.methodLink RL 53 yX10_seed ∈ jT := jT_in (List.mem_append_right _ (jm_3 (List.mem_of_getElem? (i := 34) (by decide +kernel)))) rfl
theorem jwN_X10_seed : Cond.instanceMethod yX10_seed ∈ jT := jT_in (List.mem_append_right _ (jm_3 (List.mem_of_getElem? (i := 35) (by decide +kernel)))) rfl
theorem jwX_X10_seed : Cond.selects RX10 yX10_seed yX10_seed ∈ jT := jT_in (List.mem_append_right _ (jm_3 (List.mem_of_getElem? (i := 36) (by decide +kernel)))) rfl
set_option maxRecDepth 100000 in
theorem jwO_X10_seed : Cond.code (mX10_seed).1 (mX10_seed).2.1 (mX10_seed).2.2.1 (mX10_seed).2.2.2 ∈ jT := jT_in (List.mem_append_right _ (jm_3 (List.mem_of_getElem? (i := 37) rfl))) rfl
theorem jwM_L_57 : Cond.methodLink RL 57 yX10_apprentice ∈ jT := jT_in (List.mem_append_right _ (jm_3 (List.mem_of_getElem? (i := 38) (by decide +kernel)))) rfl
theorem jwN_X10_apprentice : Cond.instanceMethod yX10_apprentice ∈ jT := jT_in (List.mem_append_right _ (jm_3 (List.mem_of_getElem? (i := 39) (by decide +kernel)))) rfl
theorem jwX_X10_apprentice : Cond.selects RX10 yX10_apprentice yX10_apprentice ∈ jT := jT_in (List.mem_append_right _ (jm_3 (List.mem_of_getElem? (i := 40) (by decide +kernel)))) rfl
set_option maxRecDepth 100000 in
theorem jwO_X10_apprentice : Cond.code (mX10_apprentice).1 (mX10_apprentice).2.1 (mX10_apprentice).2.2.1 (mX10_apprentice).2.2.2 ∈ jT := jT_in (List.mem_append_right _ (jm_3 (List.mem_of_getElem? (i := 41) rfl))) rfl
theorem jwM_L_61 : Cond.methodLink RL 61 yX10_has ∈ jT := jT_in (List.mem_append_right _ (jm_3 (List.mem_of_getElem? (i := 42) (by decide +kernel)))) rfl
theorem jwN_X10_has : Cond.instanceMethod yX10_has ∈ jT := jT_in (List.mem_append_right _ (jm_3 (List.mem_of_getElem? (i := 43) (by decide +kernel)))) rfl
theorem jwX_X10_has : Cond.selects RX10 yX10_has yX10_has ∈ jT := jT_in (List.mem_append_right _ (jm_3 (List.mem_of_getElem? (i := 44) (by decide +kernel)))) rfl
set_option maxRecDepth 100000 in
theorem jwO_X10_has : Cond.code (mX10_has).1 (mX10_has).2.1 (mX10_has).2.2.1 (mX10_has).2.2.2 ∈ jT := jT_in (List.mem_append_right _ (jm_3 (List.mem_of_getElem? (i := 45) rfl))) rfl
theorem jwM_L_65 : Cond.methodLink RL 65 yX10_knows ∈ jT := jT_in (List.mem_append_right _ (jm_3 (List.mem_of_getElem? (i := 46) (by decide +kernel)))) rfl
theorem jwN_X10_knows : Cond.instanceMethod yX10_knows ∈ jT := jT_in (List.mem_append_right _ (jm_3 (List.mem_of_getElem? (i := 47) (by decide +kernel)))) rfl
theorem jwX_X10_knows : Cond.selects RX10 yX10_knows yX10_knows ∈ jT := jT_in (List.mem_append_right _ (jm_3 (List.mem_of_getElem? (i := 48) (by decide +kernel)))) rfl
set_option maxRecDepth 100000 in
theorem jwO_X10_knows : Cond.code (mX10_knows).1 (mX10_knows).2.1 (mX10_knows).2.2.1 (mX10_knows).2.2.2 ∈ jT := jT_in (List.mem_append_right _ (jm_3 (List.mem_of_getElem? (i := 49) rfl))) rfl
theorem jwM_X10_181 : Cond.methodLink RX10 181 yX1_isAble ∈ jT := jT_in (List.mem_append_right _ (jm_3 (List.mem_of_getElem? (i := 50) (by decide +kernel)))) rfl
theorem jwN_X1_isAble : Cond.instanceMethod yX1_isAble ∈ jT := jT_in (List.mem_append_right _ (jm_3 (List.mem_of_getElem? (i := 51) (by decide +kernel)))) rfl
theorem jwX_X1_isAble : Cond.selects RX1 yX1_isAble yX1_isAble ∈ jT := jT_in (List.mem_append_right _ (jm_3 (List.mem_of_getElem? (i := 52) (by decide +kernel)))) rfl
set_option maxRecDepth 100000 in
theorem jwO_X1_isAble : Cond.code (mX1_isAble).1 (mX1_isAble).2.1 (mX1_isAble).2.2.1 (mX1_isAble).2.2.2 ∈ jT := jT_in (List.mem_append_right _ (jm_3 (List.mem_of_getElem? (i := 53) rfl))) rfl
theorem jwC_X10_184 : Cond.constant RX10 184 (-1000000002) ∈ jT := jT_in (List.mem_append_right _ (jm_3 (List.mem_of_getElem? (i := 55) (by decide +kernel)))) rfl
theorem jwM_L_69 : Cond.methodLink RL 69 yX10_go ∈ jT := jT_in (List.mem_append_right _ (jm_3 (List.mem_of_getElem? (i := 56) (by decide +kernel)))) rfl
theorem jwN_X10_go : Cond.instanceMethod yX10_go ∈ jT := jT_in (List.mem_append_right _ (jm_3 (List.mem_of_getElem? (i := 57) (by decide +kernel)))) rfl
theorem jwX_X10_go : Cond.selects RX10 yX10_go yX10_go ∈ jT := jT_in (List.mem_append_right _ (jm_3 (List.mem_of_getElem? (i := 58) (by decide +kernel)))) rfl
set_option maxRecDepth 100000 in
theorem jwO_X10_go : Cond.code (mX10_go).1 (mX10_go).2.1 (mX10_go).2.2.1 (mX10_go).2.2.2 ∈ jT := jT_in (List.mem_append_right _ (jm_3 (List.mem_of_getElem? (i := 59) rfl))) rfl
theorem jwM_X10_191 : Cond.methodLink RX10 191 yX1_passDays ∈ jT := jT_in (List.mem_append_right _ (jm_3 (List.mem_of_getElem? (i := 60) (by decide +kernel)))) rfl
theorem jwN_X1_passDays : Cond.instanceMethod yX1_passDays ∈ jT := jT_in (List.mem_append_right _ (jm_3 (List.mem_of_getElem? (i := 61) (by decide +kernel)))) rfl
theorem jwX_X1_passDays : Cond.selects RX1 yX1_passDays yX1_passDays ∈ jT := jT_in (List.mem_append_right _ (jm_3 (List.mem_of_getElem? (i := 62) (by decide +kernel)))) rfl
set_option maxRecDepth 100000 in
theorem jwO_X1_passDays : Cond.code (mX1_passDays).1 (mX1_passDays).2.1 (mX1_passDays).2.2.1 (mX1_passDays).2.2.2 ∈ jT := jT_in (List.mem_append_right _ (jm_3 (List.mem_of_getElem? (i := 63) rfl))) rfl
theorem jwM_X1_44 : Cond.methodLink RX1 44 Lib.Math.min.name ∈ jT := jT_in (List.mem_append_right _ (jm_3 (List.mem_of_getElem? (i := 64) (by decide +kernel)))) rfl
theorem jwM_X1_50 : Cond.methodLink RX1 50 yX1_isAble ∈ jT := jT_in (List.mem_append_right _ (jm_3 (List.mem_of_getElem? (i := 65) (by decide +kernel)))) rfl
end
