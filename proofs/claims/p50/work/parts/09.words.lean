section
/-! THE WORDS, in the order of the printed pieces -/
def kws (l : List Cond) : Prop := ∀ w, w ∈ l → w ∈ tables_1
section kWs
variable {a : Cond} {r : List Cond} {P : Prop}
theorem kw_g (h : kws (a :: r)) (hg : goodWord a = true) (k : kws r → P) : a ∈ jT ∧ P := ⟨jT_in (List.mem_append_right _ (h a List.mem_cons_self)) hg, k (fun w hw => h w (List.mem_cons_of_mem _ hw))⟩
theorem kw_s (h : kws (a :: r)) (k : kws r → P) : P := k (fun w hw => h w (List.mem_cons_of_mem _ hw))
end kWs
theorem kw0_1 : kws (tables_1_1.drop 0) := fun w h => jm_1 h
set_option maxRecDepth 100000 in
theorem kw1_1 : (Cond.initialized RX10 ∈ jT) ∧ (Cond.initialized RX3 ∈ jT) ∧ (Cond.initialized RX0 ∈ jT) ∧ (Cond.initialized RX2 ∈ jT) ∧ (Cond.initialized RX4 ∈ jT) ∧ (Cond.initialized RJ9 ∈ jT) ∧ (Cond.initialized RX1 ∈ jT) ∧ (Cond.initialized RX5 ∈ jT) ∧ (Cond.initialized RX8 ∈ jT) ∧ (Cond.initialized RX6 ∈ jT) ∧ (Cond.initialized RX7 ∈ jT) ∧ (Cond.initialized RX11 ∈ jT) ∧ (Cond.initialized RJ6 ∈ jT) ∧ (Cond.initialized RX9 ∈ jT) ∧ (Cond.initialized RJ0 ∈ jT) ∧ kws (tables_1_1.drop 16) := kw_s kw0_1 fun h => kw_g h rfl fun h => kw_g h rfl fun h => kw_g h rfl fun h => kw_g h rfl fun h => kw_g h rfl fun h => kw_g h rfl fun h => kw_g h rfl fun h => kw_g h rfl fun h => kw_g h rfl fun h => kw_g h rfl fun h => kw_g h rfl fun h => kw_g h rfl fun h => kw_g h rfl fun h => kw_g h rfl fun h => kw_g h rfl fun h => h
theorem jwZ_X10 : Cond.initialized RX10 ∈ jT := kw1_1.1
theorem jwZ_X3 : Cond.initialized RX3 ∈ jT := kw1_1.2.1
theorem jwZ_X0 : Cond.initialized RX0 ∈ jT := kw1_1.2.2.1
theorem jwZ_X2 : Cond.initialized RX2 ∈ jT := kw1_1.2.2.2.1
theorem jwZ_X4 : Cond.initialized RX4 ∈ jT := kw1_1.2.2.2.2.1
theorem jwZ_J9 : Cond.initialized RJ9 ∈ jT := kw1_1.2.2.2.2.2.1
theorem jwZ_X1 : Cond.initialized RX1 ∈ jT := kw1_1.2.2.2.2.2.2.1
theorem jwZ_X5 : Cond.initialized RX5 ∈ jT := kw1_1.2.2.2.2.2.2.2.1
theorem jwZ_X8 : Cond.initialized RX8 ∈ jT := kw1_1.2.2.2.2.2.2.2.2.1
theorem jwZ_X6 : Cond.initialized RX6 ∈ jT := kw1_1.2.2.2.2.2.2.2.2.2.1
theorem jwZ_X7 : Cond.initialized RX7 ∈ jT := kw1_1.2.2.2.2.2.2.2.2.2.2.1
theorem jwZ_X11 : Cond.initialized RX11 ∈ jT := kw1_1.2.2.2.2.2.2.2.2.2.2.2.1
theorem jwZ_J6 : Cond.initialized RJ6 ∈ jT := kw1_1.2.2.2.2.2.2.2.2.2.2.2.2.1
theorem jwZ_X9 : Cond.initialized RX9 ∈ jT := kw1_1.2.2.2.2.2.2.2.2.2.2.2.2.2.1
theorem jwZ_J0 : Cond.initialized RJ0 ∈ jT := kw1_1.2.2.2.2.2.2.2.2.2.2.2.2.2.2.1
set_option maxRecDepth 100000 in
theorem kw1_2 : (Cond.initialized RJ1 ∈ jT) ∧ (Cond.initialized RJ3 ∈ jT) ∧ (Cond.initialized RJ10 ∈ jT) ∧ (Cond.classLink RL 7 RX10 ∈ jT) ∧ (Cond.instantiable RX10 10 ∈ jT) ∧ (Cond.methodLink RL 9 yX10_init ∈ jT) ∧ (Cond.instanceMethod yX10_init ∈ jT) ∧ (Cond.code (mX10_init).1 (mX10_init).2.1 (mX10_init).2.2.1 (mX10_init).2.2.2 ∈ jT) ∧ (Cond.methodLink RX10 3 Lib.objectInit ∈ jT) ∧ (Cond.instanceMethod Lib.objectInit ∈ jT) ∧ (Cond.code Lib.objectInit ⟨#[0xb1]⟩ 1 none ∈ jT) ∧ (Cond.classLink RX10 9 RX3 ∈ jT) ∧ (Cond.instantiable RX3 7 ∈ jT) ∧ kws (tables_1_1.drop 32) := kw_g kw1_1.2.2.2.2.2.2.2.2.2.2.2.2.2.2.2 rfl fun h => kw_g h rfl fun h => kw_s h fun h => kw_s h fun h => kw_g h rfl fun h => kw_g h rfl fun h => kw_g h rfl fun h => kw_g h rfl fun h => kw_g h rfl fun h => kw_g h rfl fun h => kw_g h rfl fun h => kw_g h rfl fun h => kw_g h rfl fun h => kw_g h rfl fun h => kw_g h rfl fun h => kw_s h fun h => h
theorem jwZ_J1 : Cond.initialized RJ1 ∈ jT := kw1_2.1
theorem jwZ_J3 : Cond.initialized RJ3 ∈ jT := kw1_2.2.1
theorem jwZ_J10 : Cond.initialized RJ10 ∈ jT := kw1_2.2.2.1
theorem jwK_L_7 : Cond.classLink RL 7 RX10 ∈ jT := kw1_2.2.2.2.1
theorem jwI_X10 : Cond.instantiable RX10 10 ∈ jT := kw1_2.2.2.2.2.1
theorem jwM_L_9 : Cond.methodLink RL 9 yX10_init ∈ jT := kw1_2.2.2.2.2.2.1
theorem jwN_X10_init : Cond.instanceMethod yX10_init ∈ jT := kw1_2.2.2.2.2.2.2.1
theorem jwO_X10_init : Cond.code (mX10_init).1 (mX10_init).2.1 (mX10_init).2.2.1 (mX10_init).2.2.2 ∈ jT := kw1_2.2.2.2.2.2.2.2.1
theorem jwM_X10_3 : Cond.methodLink RX10 3 Lib.objectInit ∈ jT := kw1_2.2.2.2.2.2.2.2.2.1
theorem jwN_obj : Cond.instanceMethod Lib.objectInit ∈ jT := kw1_2.2.2.2.2.2.2.2.2.2.1
theorem jwO_obj : Cond.code Lib.objectInit ⟨#[0xb1]⟩ 1 none ∈ jT := kw1_2.2.2.2.2.2.2.2.2.2.2.1
theorem jwK_X10_9 : Cond.classLink RX10 9 RX3 ∈ jT := kw1_2.2.2.2.2.2.2.2.2.2.2.2.1
theorem jwI_X3 : Cond.instantiable RX3 7 ∈ jT := kw1_2.2.2.2.2.2.2.2.2.2.2.2.2.1
set_option maxRecDepth 100000 in
theorem kw1_3 : (Cond.instanceMethod yX3_init ∈ jT) ∧ (Cond.code (mX3_init).1 (mX3_init).2.1 (mX3_init).2.2.1 (mX3_init).2.2.2 ∈ jT) ∧ (Cond.methodLink RX3 3 Lib.objectInit ∈ jT) ∧ (Cond.classLink RX3 9 RX0 ∈ jT) ∧ (Cond.instantiable RX0 3 ∈ jT) ∧ (Cond.methodLink RX3 11 yX0_init ∈ jT) ∧ (Cond.instanceMethod yX0_init ∈ jT) ∧ (Cond.code (mX0_init).1 (mX0_init).2.1 (mX0_init).2.2.1 (mX0_init).2.2.2 ∈ jT) ∧ (Cond.methodLink RX0 3 Lib.objectInit ∈ jT) ∧ (Cond.classLink RX0 9 RX2 ∈ jT) ∧ (Cond.instantiable RX2 7 ∈ jT) ∧ (Cond.instanceMethod yX2_init ∈ jT) ∧ (Cond.code (mX2_init).1 (mX2_init).2.1 (mX2_init).2.2.1 (mX2_init).2.2.2 ∈ jT) ∧ (Cond.methodLink RX2 3 Lib.objectInit ∈ jT) ∧ kws (tables_1_1.drop 48) := kw_g kw1_2.2.2.2.2.2.2.2.2.2.2.2.2.2 rfl fun h => kw_g h rfl fun h => kw_g h rfl fun h => kw_g h rfl fun h => kw_g h rfl fun h => kw_g h rfl fun h => kw_g h rfl fun h => kw_g h rfl fun h => kw_g h rfl fun h => kw_g h rfl fun h => kw_s h fun h => kw_g h rfl fun h => kw_s h fun h => kw_g h rfl fun h => kw_g h rfl fun h => kw_g h rfl fun h => h
theorem jwN_X3_init : Cond.instanceMethod yX3_init ∈ jT := kw1_3.1
theorem jwO_X3_init : Cond.code (mX3_init).1 (mX3_init).2.1 (mX3_init).2.2.1 (mX3_init).2.2.2 ∈ jT := kw1_3.2.1
theorem jwM_X3_3 : Cond.methodLink RX3 3 Lib.objectInit ∈ jT := kw1_3.2.2.1
theorem jwK_X3_9 : Cond.classLink RX3 9 RX0 ∈ jT := kw1_3.2.2.2.1
theorem jwI_X0 : Cond.instantiable RX0 3 ∈ jT := kw1_3.2.2.2.2.1
theorem jwM_X3_11 : Cond.methodLink RX3 11 yX0_init ∈ jT := kw1_3.2.2.2.2.2.1
theorem jwN_X0_init : Cond.instanceMethod yX0_init ∈ jT := kw1_3.2.2.2.2.2.2.1
theorem jwO_X0_init : Cond.code (mX0_init).1 (mX0_init).2.1 (mX0_init).2.2.1 (mX0_init).2.2.2 ∈ jT := kw1_3.2.2.2.2.2.2.2.1
theorem jwM_X0_3 : Cond.methodLink RX0 3 Lib.objectInit ∈ jT := kw1_3.2.2.2.2.2.2.2.2.1
theorem jwK_X0_9 : Cond.classLink RX0 9 RX2 ∈ jT := kw1_3.2.2.2.2.2.2.2.2.2.1
theorem jwI_X2 : Cond.instantiable RX2 7 ∈ jT := kw1_3.2.2.2.2.2.2.2.2.2.2.1
theorem jwN_X2_init : Cond.instanceMethod yX2_init ∈ jT := kw1_3.2.2.2.2.2.2.2.2.2.2.2.1
theorem jwO_X2_init : Cond.code (mX2_init).1 (mX2_init).2.1 (mX2_init).2.2.1 (mX2_init).2.2.2 ∈ jT := kw1_3.2.2.2.2.2.2.2.2.2.2.2.2.1
theorem jwM_X2_3 : Cond.methodLink RX2 3 Lib.objectInit ∈ jT := kw1_3.2.2.2.2.2.2.2.2.2.2.2.2.2.1
set_option maxRecDepth 100000 in
theorem kw1_4 : (Cond.fieldLink RX2 9 RX2 "kind" "I" ∈ jT) ∧ (Cond.fieldLink RX10 83 RX2 "kind" "I" ∈ jT) ∧ (Cond.fieldLink RX2 15 RX2 "town" "I" ∈ jT) ∧ (Cond.fieldLink RX10 88 RX2 "town" "I" ∈ jT) ∧ (Cond.fieldLink RX5 117 RX2 "town" "I" ∈ jT) ∧ (Cond.fieldLink RX1 54 RX2 "town" "I" ∈ jT) ∧ (Cond.fieldLink RX3 135 RX2 "town" "I" ∈ jT) ∧ (Cond.fieldLink RX2 18 RX2 "gesture" "I" ∈ jT) ∧ (Cond.fieldLink RX10 91 RX2 "gesture" "I" ∈ jT) ∧ (Cond.fieldLink RX5 104 RX2 "gesture" "I" ∈ jT) ∧ (Cond.fieldLink RX1 66 RX2 "gesture" "I" ∈ jT) ∧ (Cond.fieldLink RX3 91 RX2 "gesture" "I" ∈ jT) ∧ (Cond.fieldLink RX0 66 RX2 "gesture" "I" ∈ jT) ∧ (Cond.fieldLink RX2 24 RX2 "bars" "I" ∈ jT) ∧ (Cond.fieldLink RX10 94 RX2 "bars" "I" ∈ jT) ∧ (Cond.fieldLink RX2 21 RX2 "fee" "I" ∈ jT) ∧ kws (tables_1_1.drop 64) := kw_g kw1_3.2.2.2.2.2.2.2.2.2.2.2.2.2.2 rfl fun h => kw_g h rfl fun h => kw_g h rfl fun h => kw_g h rfl fun h => kw_g h rfl fun h => kw_g h rfl fun h => kw_g h rfl fun h => kw_g h rfl fun h => kw_g h rfl fun h => kw_g h rfl fun h => kw_g h rfl fun h => kw_g h rfl fun h => kw_g h rfl fun h => kw_g h rfl fun h => kw_g h rfl fun h => kw_g h rfl fun h => h
theorem jwF_X2_9 : Cond.fieldLink RX2 9 RX2 "kind" "I" ∈ jT := kw1_4.1
theorem jwF_X10_83 : Cond.fieldLink RX10 83 RX2 "kind" "I" ∈ jT := kw1_4.2.1
theorem jwF_X2_15 : Cond.fieldLink RX2 15 RX2 "town" "I" ∈ jT := kw1_4.2.2.1
theorem jwF_X10_88 : Cond.fieldLink RX10 88 RX2 "town" "I" ∈ jT := kw1_4.2.2.2.1
theorem jwF_X5_117 : Cond.fieldLink RX5 117 RX2 "town" "I" ∈ jT := kw1_4.2.2.2.2.1
theorem jwF_X1_54 : Cond.fieldLink RX1 54 RX2 "town" "I" ∈ jT := kw1_4.2.2.2.2.2.1
theorem jwF_X3_135 : Cond.fieldLink RX3 135 RX2 "town" "I" ∈ jT := kw1_4.2.2.2.2.2.2.1
theorem jwF_X2_18 : Cond.fieldLink RX2 18 RX2 "gesture" "I" ∈ jT := kw1_4.2.2.2.2.2.2.2.1
theorem jwF_X10_91 : Cond.fieldLink RX10 91 RX2 "gesture" "I" ∈ jT := kw1_4.2.2.2.2.2.2.2.2.1
theorem jwF_X5_104 : Cond.fieldLink RX5 104 RX2 "gesture" "I" ∈ jT := kw1_4.2.2.2.2.2.2.2.2.2.1
theorem jwF_X1_66 : Cond.fieldLink RX1 66 RX2 "gesture" "I" ∈ jT := kw1_4.2.2.2.2.2.2.2.2.2.2.1
theorem jwF_X3_91 : Cond.fieldLink RX3 91 RX2 "gesture" "I" ∈ jT := kw1_4.2.2.2.2.2.2.2.2.2.2.2.1
theorem jwF_X0_66 : Cond.fieldLink RX0 66 RX2 "gesture" "I" ∈ jT := kw1_4.2.2.2.2.2.2.2.2.2.2.2.2.1
theorem jwF_X2_24 : Cond.fieldLink RX2 24 RX2 "bars" "I" ∈ jT := kw1_4.2.2.2.2.2.2.2.2.2.2.2.2.2.1
theorem jwF_X10_94 : Cond.fieldLink RX10 94 RX2 "bars" "I" ∈ jT := kw1_4.2.2.2.2.2.2.2.2.2.2.2.2.2.2.1
theorem jwF_X2_21 : Cond.fieldLink RX2 21 RX2 "fee" "I" ∈ jT := kw1_4.2.2.2.2.2.2.2.2.2.2.2.2.2.2.2.1
set_option maxRecDepth 100000 in
theorem kw1_5 : (Cond.fieldLink RX10 97 RX2 "fee" "I" ∈ jT) ∧ (Cond.fieldLink RX5 132 RX2 "fee" "I" ∈ jT) ∧ (Cond.fieldLink RX1 69 RX2 "fee" "I" ∈ jT) ∧ (Cond.fieldLink RX3 115 RX2 "fee" "I" ∈ jT) ∧ (Cond.fieldLink RX2 27 RX2 "age" "I" ∈ jT) ∧ (Cond.fieldLink RX10 100 RX2 "age" "I" ∈ jT) ∧ (Cond.fieldLink RX0 54 RX2 "age" "I" ∈ jT) ∧ (Cond.fieldLink RX3 96 RX2 "age" "I" ∈ jT) ∧ (Cond.fieldLink RX2 30 RX2 "dead" "Z" ∈ jT) ∧ (Cond.fieldLink RX10 103 RX2 "dead" "Z" ∈ jT) ∧ (Cond.fieldLink RX5 135 RX2 "dead" "Z" ∈ jT) ∧ (Cond.fieldLink RX1 59 RX2 "dead" "Z" ∈ jT) ∧ (Cond.fieldLink RX0 50 RX2 "dead" "Z" ∈ jT) ∧ (Cond.fieldLink RX3 131 RX2 "dead" "Z" ∈ jT) ∧ (Cond.lays RX2 RX2 "kind" "I" ∈ jT) ∧ kws (tables_1_1.drop 80) := kw_g kw1_4.2.2.2.2.2.2.2.2.2.2.2.2.2.2.2.2 rfl fun h => kw_g h rfl fun h => kw_g h rfl fun h => kw_g h rfl fun h => kw_g h rfl fun h => kw_g h rfl fun h => kw_g h rfl fun h => kw_g h rfl fun h => kw_g h rfl fun h => kw_g h rfl fun h => kw_g h rfl fun h => kw_g h rfl fun h => kw_g h rfl fun h => kw_g h rfl fun h => kw_g h rfl fun h => kw_s h fun h => h
theorem jwF_X10_97 : Cond.fieldLink RX10 97 RX2 "fee" "I" ∈ jT := kw1_5.1
theorem jwF_X5_132 : Cond.fieldLink RX5 132 RX2 "fee" "I" ∈ jT := kw1_5.2.1
theorem jwF_X1_69 : Cond.fieldLink RX1 69 RX2 "fee" "I" ∈ jT := kw1_5.2.2.1
theorem jwF_X3_115 : Cond.fieldLink RX3 115 RX2 "fee" "I" ∈ jT := kw1_5.2.2.2.1
theorem jwF_X2_27 : Cond.fieldLink RX2 27 RX2 "age" "I" ∈ jT := kw1_5.2.2.2.2.1
theorem jwF_X10_100 : Cond.fieldLink RX10 100 RX2 "age" "I" ∈ jT := kw1_5.2.2.2.2.2.1
theorem jwF_X0_54 : Cond.fieldLink RX0 54 RX2 "age" "I" ∈ jT := kw1_5.2.2.2.2.2.2.1
theorem jwF_X3_96 : Cond.fieldLink RX3 96 RX2 "age" "I" ∈ jT := kw1_5.2.2.2.2.2.2.2.1
theorem jwF_X2_30 : Cond.fieldLink RX2 30 RX2 "dead" "Z" ∈ jT := kw1_5.2.2.2.2.2.2.2.2.1
theorem jwF_X10_103 : Cond.fieldLink RX10 103 RX2 "dead" "Z" ∈ jT := kw1_5.2.2.2.2.2.2.2.2.2.1
theorem jwF_X5_135 : Cond.fieldLink RX5 135 RX2 "dead" "Z" ∈ jT := kw1_5.2.2.2.2.2.2.2.2.2.2.1
theorem jwF_X1_59 : Cond.fieldLink RX1 59 RX2 "dead" "Z" ∈ jT := kw1_5.2.2.2.2.2.2.2.2.2.2.2.1
theorem jwF_X0_50 : Cond.fieldLink RX0 50 RX2 "dead" "Z" ∈ jT := kw1_5.2.2.2.2.2.2.2.2.2.2.2.2.1
theorem jwF_X3_131 : Cond.fieldLink RX3 131 RX2 "dead" "Z" ∈ jT := kw1_5.2.2.2.2.2.2.2.2.2.2.2.2.2.1
theorem jwY_X2_kind : Cond.lays RX2 RX2 "kind" "I" ∈ jT := kw1_5.2.2.2.2.2.2.2.2.2.2.2.2.2.2.1
set_option maxRecDepth 100000 in
theorem kw1_6 : (Cond.lays RX2 RX2 "town" "I" ∈ jT) ∧ (Cond.lays RX2 RX2 "gesture" "I" ∈ jT) ∧ (Cond.lays RX2 RX2 "bars" "I" ∈ jT) ∧ (Cond.lays RX2 RX2 "fee" "I" ∈ jT) ∧ (Cond.lays RX2 RX2 "age" "I" ∈ jT) ∧ (Cond.lays RX2 RX2 "dead" "Z" ∈ jT) ∧ (Cond.fieldLink RX0 11 RX0 "masters" "[LNineMasters$Master;" ∈ jT) ∧ (Cond.fieldLink RX0 22 RX0 "size" "I" ∈ jT) ∧ (Cond.fieldLink RX10 66 RX0 "size" "I" ∈ jT) ∧ kws (tables_1_1.drop 96) := kw_g kw1_5.2.2.2.2.2.2.2.2.2.2.2.2.2.2.2 rfl fun h => kw_s h fun h => kw_g h rfl fun h => kw_s h fun h => kw_g h rfl fun h => kw_s h fun h => kw_g h rfl fun h => kw_s h fun h => kw_g h rfl fun h => kw_s h fun h => kw_g h rfl fun h => kw_s h fun h => kw_s h fun h => kw_g h rfl fun h => kw_g h rfl fun h => kw_g h rfl fun h => h
theorem jwY_X2_town : Cond.lays RX2 RX2 "town" "I" ∈ jT := kw1_6.1
theorem jwY_X2_gesture : Cond.lays RX2 RX2 "gesture" "I" ∈ jT := kw1_6.2.1
theorem jwY_X2_bars : Cond.lays RX2 RX2 "bars" "I" ∈ jT := kw1_6.2.2.1
theorem jwY_X2_fee : Cond.lays RX2 RX2 "fee" "I" ∈ jT := kw1_6.2.2.2.1
theorem jwY_X2_age : Cond.lays RX2 RX2 "age" "I" ∈ jT := kw1_6.2.2.2.2.1
theorem jwY_X2_dead : Cond.lays RX2 RX2 "dead" "Z" ∈ jT := kw1_6.2.2.2.2.2.1
theorem jwF_X0_11 : Cond.fieldLink RX0 11 RX0 "masters" "[LNineMasters$Master;" ∈ jT := kw1_6.2.2.2.2.2.2.1
theorem jwF_X0_22 : Cond.fieldLink RX0 22 RX0 "size" "I" ∈ jT := kw1_6.2.2.2.2.2.2.2.1
theorem jwF_X10_66 : Cond.fieldLink RX10 66 RX0 "size" "I" ∈ jT := kw1_6.2.2.2.2.2.2.2.2.1
set_option maxRecDepth 100000 in
theorem kw1_7 : (Cond.fieldLink RX5 97 RX0 "size" "I" ∈ jT) ∧ (Cond.fieldLink RX3 124 RX0 "size" "I" ∈ jT) ∧ (Cond.fieldLink RX0 17 RX0 "z" "I" ∈ jT) ∧ (Cond.fieldLink RX10 169 RX0 "z" "I" ∈ jT) ∧ (Cond.laysFinal RX0 RX0 "masters" "[LNineMasters$Master;" ∈ jT) ∧ (Cond.lays RX0 RX0 "size" "I" ∈ jT) ∧ (Cond.lays RX0 RX0 "z" "I" ∈ jT) ∧ (Cond.classLink RX3 18 RX4 ∈ jT) ∧ (Cond.instantiable RX4 2 ∈ jT) ∧ (Cond.methodLink RX3 20 yX4_init ∈ jT) ∧ (Cond.instanceMethod yX4_init ∈ jT) ∧ (Cond.code (mX4_init).1 (mX4_init).2.1 (mX4_init).2.2.1 (mX4_init).2.2.2 ∈ jT) ∧ kws (tables_1_1.drop 112) := kw_g kw1_6.2.2.2.2.2.2.2.2.2 rfl fun h => kw_g h rfl fun h => kw_g h rfl fun h => kw_g h rfl fun h => kw_g h rfl fun h => kw_s h fun h => kw_g h rfl fun h => kw_s h fun h => kw_g h rfl fun h => kw_s h fun h => kw_s h fun h => kw_g h rfl fun h => kw_g h rfl fun h => kw_g h rfl fun h => kw_g h rfl fun h => kw_g h rfl fun h => h
theorem jwF_X5_97 : Cond.fieldLink RX5 97 RX0 "size" "I" ∈ jT := kw1_7.1
theorem jwF_X3_124 : Cond.fieldLink RX3 124 RX0 "size" "I" ∈ jT := kw1_7.2.1
theorem jwF_X0_17 : Cond.fieldLink RX0 17 RX0 "z" "I" ∈ jT := kw1_7.2.2.1
theorem jwF_X10_169 : Cond.fieldLink RX10 169 RX0 "z" "I" ∈ jT := kw1_7.2.2.2.1
theorem jwY_X0_masters : Cond.laysFinal RX0 RX0 "masters" "[LNineMasters$Master;" ∈ jT := kw1_7.2.2.2.2.1
theorem jwY_X0_size : Cond.lays RX0 RX0 "size" "I" ∈ jT := kw1_7.2.2.2.2.2.1
theorem jwY_X0_z : Cond.lays RX0 RX0 "z" "I" ∈ jT := kw1_7.2.2.2.2.2.2.1
theorem jwK_X3_18 : Cond.classLink RX3 18 RX4 ∈ jT := kw1_7.2.2.2.2.2.2.2.1
theorem jwI_X4 : Cond.instantiable RX4 2 ∈ jT := kw1_7.2.2.2.2.2.2.2.2.1
theorem jwM_X3_20 : Cond.methodLink RX3 20 yX4_init ∈ jT := kw1_7.2.2.2.2.2.2.2.2.2.1
theorem jwN_X4_init : Cond.instanceMethod yX4_init ∈ jT := kw1_7.2.2.2.2.2.2.2.2.2.2.1
theorem jwO_X4_init : Cond.code (mX4_init).1 (mX4_init).2.1 (mX4_init).2.2.1 (mX4_init).2.2.2 ∈ jT := kw1_7.2.2.2.2.2.2.2.2.2.2.2.1
set_option maxRecDepth 100000 in
theorem kw1_8 : (Cond.methodLink RX4 3 Lib.objectInit ∈ jT) ∧ (Cond.methodLink RX4 18 yX4_measure ∈ jT) ∧ (Cond.instanceMethod yX4_measure ∈ jT) ∧ (Cond.code (mX4_measure).1 (mX4_measure).2.1 (mX4_measure).2.2.1 (mX4_measure).2.2.2 ∈ jT) ∧ (Cond.methodLink RX4 31 Lib.Math.min.name ∈ jT) ∧ (Cond.static Lib.Math.min.name ∈ jT) ∧ (Cond.code Lib.Math.min.name Lib.Math.min.code 2 (some .int) ∈ jT) ∧ (Cond.fieldLink RX4 9 RX4 "days" "[I" ∈ jT) ∧ (Cond.fieldLink RX4 15 RX4 "ways" "[I" ∈ jT) ∧ (Cond.laysFinal RX4 RX4 "days" "[I" ∈ jT) ∧ (Cond.laysFinal RX4 RX4 "ways" "[I" ∈ jT) ∧ (Cond.arrayClass .int ∈ jT) ∧ kws (tables_1_1.drop 128) := kw_g kw1_7.2.2.2.2.2.2.2.2.2.2.2.2 rfl fun h => kw_g h rfl fun h => kw_s h fun h => kw_g h rfl fun h => kw_g h rfl fun h => kw_g h rfl fun h => kw_g h rfl fun h => kw_g h rfl fun h => kw_g h rfl fun h => kw_g h rfl fun h => kw_g h rfl fun h => kw_s h fun h => kw_g h rfl fun h => kw_s h fun h => kw_s h fun h => kw_g h rfl fun h => h
theorem jwM_X4_3 : Cond.methodLink RX4 3 Lib.objectInit ∈ jT := kw1_8.1
theorem jwM_X4_18 : Cond.methodLink RX4 18 yX4_measure ∈ jT := kw1_8.2.1
theorem jwN_X4_measure : Cond.instanceMethod yX4_measure ∈ jT := kw1_8.2.2.1
theorem jwO_X4_measure : Cond.code (mX4_measure).1 (mX4_measure).2.1 (mX4_measure).2.2.1 (mX4_measure).2.2.2 ∈ jT := kw1_8.2.2.2.1
theorem jwM_X4_31 : Cond.methodLink RX4 31 Lib.Math.min.name ∈ jT := kw1_8.2.2.2.2.1
theorem jwS_min : Cond.static Lib.Math.min.name ∈ jT := kw1_8.2.2.2.2.2.1
theorem jwO_min : Cond.code Lib.Math.min.name Lib.Math.min.code 2 (some .int) ∈ jT := kw1_8.2.2.2.2.2.2.1
theorem jwF_X4_9 : Cond.fieldLink RX4 9 RX4 "days" "[I" ∈ jT := kw1_8.2.2.2.2.2.2.2.1
theorem jwF_X4_15 : Cond.fieldLink RX4 15 RX4 "ways" "[I" ∈ jT := kw1_8.2.2.2.2.2.2.2.2.1
theorem jwY_X4_days : Cond.laysFinal RX4 RX4 "days" "[I" ∈ jT := kw1_8.2.2.2.2.2.2.2.2.2.1
theorem jwY_X4_ways : Cond.laysFinal RX4 RX4 "ways" "[I" ∈ jT := kw1_8.2.2.2.2.2.2.2.2.2.2.1
theorem jwA : Cond.arrayClass .int ∈ jT := kw1_8.2.2.2.2.2.2.2.2.2.2.2.1
set_option maxRecDepth 100000 in
theorem kw1_9 : (Cond.classLink RX3 25 RX1 ∈ jT) ∧ (Cond.instantiable RX1 7 ∈ jT) ∧ (Cond.instanceMethod yX1_init ∈ jT) ∧ (Cond.code (mX1_init).1 (mX1_init).2.1 (mX1_init).2.2.1 (mX1_init).2.2.2 ∈ jT) ∧ (Cond.methodLink RX1 3 Lib.objectInit ∈ jT) ∧ (Cond.fieldLink RX1 22 RX1 "at" "I" ∈ jT) ∧ (Cond.fieldLink RX5 73 RX1 "at" "I" ∈ jT) ∧ (Cond.fieldLink RX10 172 RX1 "at" "I" ∈ jT) ∧ (Cond.fieldLink RX1 25 RX1 "knows" "I" ∈ jT) ∧ (Cond.fieldLink RX5 76 RX1 "knows" "I" ∈ jT) ∧ (Cond.fieldLink RX10 107 RX1 "knows" "I" ∈ jT) ∧ (Cond.fieldLink RX3 73 RX1 "knows" "I" ∈ jT) ∧ (Cond.fieldLink RX1 9 RX1 "coins" "I" ∈ jT) ∧ (Cond.fieldLink RX5 139 RX1 "coins" "I" ∈ jT) ∧ (Cond.fieldLink RX3 118 RX1 "coins" "I" ∈ jT) ∧ kws (tables_1_1.drop 144) := kw_g kw1_8.2.2.2.2.2.2.2.2.2.2.2.2 rfl fun h => kw_g h rfl fun h => kw_s h fun h => kw_g h rfl fun h => kw_g h rfl fun h => kw_g h rfl fun h => kw_g h rfl fun h => kw_g h rfl fun h => kw_g h rfl fun h => kw_g h rfl fun h => kw_g h rfl fun h => kw_g h rfl fun h => kw_g h rfl fun h => kw_g h rfl fun h => kw_g h rfl fun h => kw_g h rfl fun h => h
theorem jwK_X3_25 : Cond.classLink RX3 25 RX1 ∈ jT := kw1_9.1
theorem jwI_X1 : Cond.instantiable RX1 7 ∈ jT := kw1_9.2.1
theorem jwN_X1_init : Cond.instanceMethod yX1_init ∈ jT := kw1_9.2.2.1
theorem jwO_X1_init : Cond.code (mX1_init).1 (mX1_init).2.1 (mX1_init).2.2.1 (mX1_init).2.2.2 ∈ jT := kw1_9.2.2.2.1
theorem jwM_X1_3 : Cond.methodLink RX1 3 Lib.objectInit ∈ jT := kw1_9.2.2.2.2.1
theorem jwF_X1_22 : Cond.fieldLink RX1 22 RX1 "at" "I" ∈ jT := kw1_9.2.2.2.2.2.1
theorem jwF_X5_73 : Cond.fieldLink RX5 73 RX1 "at" "I" ∈ jT := kw1_9.2.2.2.2.2.2.1
theorem jwF_X10_172 : Cond.fieldLink RX10 172 RX1 "at" "I" ∈ jT := kw1_9.2.2.2.2.2.2.2.1
theorem jwF_X1_25 : Cond.fieldLink RX1 25 RX1 "knows" "I" ∈ jT := kw1_9.2.2.2.2.2.2.2.2.1
theorem jwF_X5_76 : Cond.fieldLink RX5 76 RX1 "knows" "I" ∈ jT := kw1_9.2.2.2.2.2.2.2.2.2.1
theorem jwF_X10_107 : Cond.fieldLink RX10 107 RX1 "knows" "I" ∈ jT := kw1_9.2.2.2.2.2.2.2.2.2.2.1
theorem jwF_X3_73 : Cond.fieldLink RX3 73 RX1 "knows" "I" ∈ jT := kw1_9.2.2.2.2.2.2.2.2.2.2.2.1
theorem jwF_X1_9 : Cond.fieldLink RX1 9 RX1 "coins" "I" ∈ jT := kw1_9.2.2.2.2.2.2.2.2.2.2.2.2.1
theorem jwF_X5_139 : Cond.fieldLink RX5 139 RX1 "coins" "I" ∈ jT := kw1_9.2.2.2.2.2.2.2.2.2.2.2.2.2.1
theorem jwF_X3_118 : Cond.fieldLink RX3 118 RX1 "coins" "I" ∈ jT := kw1_9.2.2.2.2.2.2.2.2.2.2.2.2.2.2.1
set_option maxRecDepth 100000 in
theorem kw1_10 : (Cond.fieldLink RX10 175 RX1 "coins" "I" ∈ jT) ∧ (Cond.fieldLink RX1 28 RX1 "forgets" "I" ∈ jT) ∧ (Cond.fieldLink RX5 125 RX1 "forgets" "I" ∈ jT) ∧ (Cond.fieldLink RX10 178 RX1 "forgets" "I" ∈ jT) ∧ (Cond.fieldLink RX1 31 RX1 "day" "I" ∈ jT) ∧ (Cond.fieldLink RX3 121 RX1 "day" "I" ∈ jT) ∧ (Cond.fieldLink RX10 195 RX1 "day" "I" ∈ jT) ∧ (Cond.fieldLink RX1 15 RX1 "from" "[I" ∈ jT) ∧ (Cond.fieldLink RX10 185 RX1 "from" "[I" ∈ jT) ∧ (Cond.fieldLink RX1 19 RX1 "rested" "[I" ∈ jT) ∧ (Cond.fieldLink RX5 68 RX1 "rested" "[I" ∈ jT) ∧ (Cond.fieldLink RX10 188 RX1 "rested" "[I" ∈ jT) ∧ (Cond.lays RX1 RX1 "at" "I" ∈ jT) ∧ (Cond.lays RX1 RX1 "knows" "I" ∈ jT) ∧ kws (tables_1_1.drop 160) := kw_g kw1_9.2.2.2.2.2.2.2.2.2.2.2.2.2.2.2 rfl fun h => kw_g h rfl fun h => kw_g h rfl fun h => kw_g h rfl fun h => kw_g h rfl fun h => kw_g h rfl fun h => kw_g h rfl fun h => kw_g h rfl fun h => kw_g h rfl fun h => kw_g h rfl fun h => kw_g h rfl fun h => kw_g h rfl fun h => kw_g h rfl fun h => kw_s h fun h => kw_g h rfl fun h => kw_s h fun h => h
theorem jwF_X10_175 : Cond.fieldLink RX10 175 RX1 "coins" "I" ∈ jT := kw1_10.1
theorem jwF_X1_28 : Cond.fieldLink RX1 28 RX1 "forgets" "I" ∈ jT := kw1_10.2.1
theorem jwF_X5_125 : Cond.fieldLink RX5 125 RX1 "forgets" "I" ∈ jT := kw1_10.2.2.1
theorem jwF_X10_178 : Cond.fieldLink RX10 178 RX1 "forgets" "I" ∈ jT := kw1_10.2.2.2.1
theorem jwF_X1_31 : Cond.fieldLink RX1 31 RX1 "day" "I" ∈ jT := kw1_10.2.2.2.2.1
theorem jwF_X3_121 : Cond.fieldLink RX3 121 RX1 "day" "I" ∈ jT := kw1_10.2.2.2.2.2.1
theorem jwF_X10_195 : Cond.fieldLink RX10 195 RX1 "day" "I" ∈ jT := kw1_10.2.2.2.2.2.2.1
theorem jwF_X1_15 : Cond.fieldLink RX1 15 RX1 "from" "[I" ∈ jT := kw1_10.2.2.2.2.2.2.2.1
theorem jwF_X10_185 : Cond.fieldLink RX10 185 RX1 "from" "[I" ∈ jT := kw1_10.2.2.2.2.2.2.2.2.1
theorem jwF_X1_19 : Cond.fieldLink RX1 19 RX1 "rested" "[I" ∈ jT := kw1_10.2.2.2.2.2.2.2.2.2.1
theorem jwF_X5_68 : Cond.fieldLink RX5 68 RX1 "rested" "[I" ∈ jT := kw1_10.2.2.2.2.2.2.2.2.2.2.1
theorem jwF_X10_188 : Cond.fieldLink RX10 188 RX1 "rested" "[I" ∈ jT := kw1_10.2.2.2.2.2.2.2.2.2.2.2.1
theorem jwY_X1_at : Cond.lays RX1 RX1 "at" "I" ∈ jT := kw1_10.2.2.2.2.2.2.2.2.2.2.2.2.1
theorem jwY_X1_knows : Cond.lays RX1 RX1 "knows" "I" ∈ jT := kw1_10.2.2.2.2.2.2.2.2.2.2.2.2.2.1
set_option maxRecDepth 100000 in
theorem kw1_11 : (Cond.lays RX1 RX1 "coins" "I" ∈ jT) ∧ (Cond.lays RX1 RX1 "forgets" "I" ∈ jT) ∧ (Cond.lays RX1 RX1 "day" "I" ∈ jT) ∧ (Cond.laysFinal RX1 RX1 "from" "[I" ∈ jT) ∧ (Cond.laysFinal RX1 RX1 "rested" "[I" ∈ jT) ∧ (Cond.classLink RX3 36 RX9 ∈ jT) ∧ (Cond.fieldLink RX3 12 RX3 "guild" "LNineMasters$Guild;" ∈ jT) ∧ (Cond.fieldLink RX5 53 RX3 "guild" "LNineMasters$Guild;" ∈ jT) ∧ (Cond.fieldLink RX10 63 RX3 "guild" "LNineMasters$Guild;" ∈ jT) ∧ kws (tables_1_1.drop 176) := kw_g kw1_10.2.2.2.2.2.2.2.2.2.2.2.2.2.2 rfl fun h => kw_s h fun h => kw_g h rfl fun h => kw_s h fun h => kw_g h rfl fun h => kw_s h fun h => kw_g h rfl fun h => kw_s h fun h => kw_g h rfl fun h => kw_s h fun h => kw_s h fun h => kw_g h rfl fun h => kw_s h fun h => kw_g h rfl fun h => kw_g h rfl fun h => kw_g h rfl fun h => h
theorem jwY_X1_coins : Cond.lays RX1 RX1 "coins" "I" ∈ jT := kw1_11.1
theorem jwY_X1_forgets : Cond.lays RX1 RX1 "forgets" "I" ∈ jT := kw1_11.2.1
theorem jwY_X1_day : Cond.lays RX1 RX1 "day" "I" ∈ jT := kw1_11.2.2.1
theorem jwY_X1_from : Cond.laysFinal RX1 RX1 "from" "[I" ∈ jT := kw1_11.2.2.2.1
theorem jwY_X1_rested : Cond.laysFinal RX1 RX1 "rested" "[I" ∈ jT := kw1_11.2.2.2.2.1
theorem jwK_X3_36 : Cond.classLink RX3 36 RX9 ∈ jT := kw1_11.2.2.2.2.2.1
theorem jwF_X3_12 : Cond.fieldLink RX3 12 RX3 "guild" "LNineMasters$Guild;" ∈ jT := kw1_11.2.2.2.2.2.2.1
theorem jwF_X5_53 : Cond.fieldLink RX5 53 RX3 "guild" "LNineMasters$Guild;" ∈ jT := kw1_11.2.2.2.2.2.2.2.1
theorem jwF_X10_63 : Cond.fieldLink RX10 63 RX3 "guild" "LNineMasters$Guild;" ∈ jT := kw1_11.2.2.2.2.2.2.2.2.1
set_option maxRecDepth 100000 in
theorem kw1_12 : (Cond.fieldLink RX3 21 RX3 "roads" "LNineMasters$Roads;" ∈ jT) ∧ (Cond.fieldLink RX5 113 RX3 "roads" "LNineMasters$Roads;" ∈ jT) ∧ (Cond.fieldLink RX10 143 RX3 "roads" "LNineMasters$Roads;" ∈ jT) ∧ (Cond.fieldLink RX3 28 RX3 "learner" "LNineMasters$Learner;" ∈ jT) ∧ (Cond.fieldLink RX5 64 RX3 "learner" "LNineMasters$Learner;" ∈ jT) ∧ (Cond.fieldLink RX10 79 RX3 "learner" "LNineMasters$Learner;" ∈ jT) ∧ (Cond.fieldLink RX3 32 RX3 "wished" "[I" ∈ jT) ∧ (Cond.fieldLink RX3 58 RX3 "wishes" "I" ∈ jT) ∧ (Cond.fieldLink RX10 212 RX3 "wishes" "I" ∈ jT) ∧ (Cond.fieldLink RX3 38 RX3 "texts" "[LNineMasters$Text;" ∈ jT) ∧ (Cond.fieldLink RX3 62 RX3 "textCount" "I" ∈ jT) ∧ (Cond.fieldLink RX10 287 RX3 "textCount" "I" ∈ jT) ∧ (Cond.laysFinal RX3 RX3 "guild" "LNineMasters$Guild;" ∈ jT) ∧ (Cond.laysFinal RX3 RX3 "roads" "LNineMasters$Roads;" ∈ jT) ∧ kws (tables_1_1.drop 192) := kw_g kw1_11.2.2.2.2.2.2.2.2.2 rfl fun h => kw_g h rfl fun h => kw_g h rfl fun h => kw_g h rfl fun h => kw_g h rfl fun h => kw_g h rfl fun h => kw_g h rfl fun h => kw_g h rfl fun h => kw_g h rfl fun h => kw_g h rfl fun h => kw_g h rfl fun h => kw_g h rfl fun h => kw_g h rfl fun h => kw_s h fun h => kw_g h rfl fun h => kw_s h fun h => h
theorem jwF_X3_21 : Cond.fieldLink RX3 21 RX3 "roads" "LNineMasters$Roads;" ∈ jT := kw1_12.1
theorem jwF_X5_113 : Cond.fieldLink RX5 113 RX3 "roads" "LNineMasters$Roads;" ∈ jT := kw1_12.2.1
theorem jwF_X10_143 : Cond.fieldLink RX10 143 RX3 "roads" "LNineMasters$Roads;" ∈ jT := kw1_12.2.2.1
theorem jwF_X3_28 : Cond.fieldLink RX3 28 RX3 "learner" "LNineMasters$Learner;" ∈ jT := kw1_12.2.2.2.1
theorem jwF_X5_64 : Cond.fieldLink RX5 64 RX3 "learner" "LNineMasters$Learner;" ∈ jT := kw1_12.2.2.2.2.1
theorem jwF_X10_79 : Cond.fieldLink RX10 79 RX3 "learner" "LNineMasters$Learner;" ∈ jT := kw1_12.2.2.2.2.2.1
theorem jwF_X3_32 : Cond.fieldLink RX3 32 RX3 "wished" "[I" ∈ jT := kw1_12.2.2.2.2.2.2.1
theorem jwF_X3_58 : Cond.fieldLink RX3 58 RX3 "wishes" "I" ∈ jT := kw1_12.2.2.2.2.2.2.2.1
theorem jwF_X10_212 : Cond.fieldLink RX10 212 RX3 "wishes" "I" ∈ jT := kw1_12.2.2.2.2.2.2.2.2.1
theorem jwF_X3_38 : Cond.fieldLink RX3 38 RX3 "texts" "[LNineMasters$Text;" ∈ jT := kw1_12.2.2.2.2.2.2.2.2.2.1
theorem jwF_X3_62 : Cond.fieldLink RX3 62 RX3 "textCount" "I" ∈ jT := kw1_12.2.2.2.2.2.2.2.2.2.2.1
theorem jwF_X10_287 : Cond.fieldLink RX10 287 RX3 "textCount" "I" ∈ jT := kw1_12.2.2.2.2.2.2.2.2.2.2.2.1
theorem jwY_X3_guild : Cond.laysFinal RX3 RX3 "guild" "LNineMasters$Guild;" ∈ jT := kw1_12.2.2.2.2.2.2.2.2.2.2.2.2.1
theorem jwY_X3_roads : Cond.laysFinal RX3 RX3 "roads" "LNineMasters$Roads;" ∈ jT := kw1_12.2.2.2.2.2.2.2.2.2.2.2.2.2.1
set_option maxRecDepth 100000 in
theorem kw1_13 : (Cond.laysFinal RX3 RX3 "learner" "LNineMasters$Learner;" ∈ jT) ∧ (Cond.laysFinal RX3 RX3 "wished" "[I" ∈ jT) ∧ (Cond.lays RX3 RX3 "wishes" "I" ∈ jT) ∧ (Cond.laysFinal RX3 RX3 "texts" "[LNineMasters$Text;" ∈ jT) ∧ (Cond.lays RX3 RX3 "textCount" "I" ∈ jT) ∧ (Cond.classLink RX10 19 RX0 ∈ jT) ∧ (Cond.methodLink RX10 21 yX0_init ∈ jT) ∧ (Cond.classLink RX10 26 RX5 ∈ jT) ∧ (Cond.instantiable RX5 12 ∈ jT) ∧ kws (tables_1_1.drop 208) := kw_g kw1_12.2.2.2.2.2.2.2.2.2.2.2.2.2.2 rfl fun h => kw_s h fun h => kw_g h rfl fun h => kw_s h fun h => kw_g h rfl fun h => kw_s h fun h => kw_g h rfl fun h => kw_s h fun h => kw_g h rfl fun h => kw_s h fun h => kw_s h fun h => kw_g h rfl fun h => kw_g h rfl fun h => kw_g h rfl fun h => kw_g h rfl fun h => kw_s h fun h => h
theorem jwY_X3_learner : Cond.laysFinal RX3 RX3 "learner" "LNineMasters$Learner;" ∈ jT := kw1_13.1
theorem jwY_X3_wished : Cond.laysFinal RX3 RX3 "wished" "[I" ∈ jT := kw1_13.2.1
theorem jwY_X3_wishes : Cond.lays RX3 RX3 "wishes" "I" ∈ jT := kw1_13.2.2.1
theorem jwY_X3_texts : Cond.laysFinal RX3 RX3 "texts" "[LNineMasters$Text;" ∈ jT := kw1_13.2.2.2.1
theorem jwY_X3_textCount : Cond.lays RX3 RX3 "textCount" "I" ∈ jT := kw1_13.2.2.2.2.1
theorem jwK_X10_19 : Cond.classLink RX10 19 RX0 ∈ jT := kw1_13.2.2.2.2.2.1
theorem jwM_X10_21 : Cond.methodLink RX10 21 yX0_init ∈ jT := kw1_13.2.2.2.2.2.2.1
theorem jwK_X10_26 : Cond.classLink RX10 26 RX5 ∈ jT := kw1_13.2.2.2.2.2.2.2.1
theorem jwI_X5 : Cond.instantiable RX5 12 ∈ jT := kw1_13.2.2.2.2.2.2.2.2.1
set_option maxRecDepth 100000 in
theorem kw1_14 : (Cond.instanceMethod yX5_init ∈ jT) ∧ (Cond.code (mX5_init).1 (mX5_init).2.1 (mX5_init).2.2.1 (mX5_init).2.2.2 ∈ jT) ∧ (Cond.methodLink RX5 3 Lib.objectInit ∈ jT) ∧ (Cond.fieldLink RX5 11 RX5 "town" "[I" ∈ jT) ∧ (Cond.fieldLink RX5 15 RX5 "knows" "[I" ∈ jT) ∧ (Cond.fieldLink RX5 18 RX5 "days" "[I" ∈ jT) ∧ (Cond.fieldLink RX5 21 RX5 "paid" "[I" ∈ jT) ∧ (Cond.fieldLink RX5 24 RX5 "first" "[I" ∈ jT) ∧ (Cond.fieldLink RX5 27 RX5 "since" "[I" ∈ jT) ∧ (Cond.fieldLink RX5 30 RX5 "daysKnown" "[I" ∈ jT) ∧ (Cond.fieldLink RX5 50 RX5 "wanted" "I" ∈ jT) ∧ (Cond.fieldLink RX5 62 RX5 "taught" "I" ∈ jT) ∧ (Cond.fieldLink RX5 34 RX5 "bestDays" "I" ∈ jT) ∧ (Cond.fieldLink RX10 226 RX5 "bestDays" "I" ∈ jT) ∧ (Cond.fieldLink RX5 38 RX5 "bestCoins" "I" ∈ jT) ∧ (Cond.fieldLink RX10 229 RX5 "bestCoins" "I" ∈ jT) ∧ kws (tables_1_1.drop 224) := kw_g kw1_13.2.2.2.2.2.2.2.2.2 rfl fun h => kw_g h rfl fun h => kw_g h rfl fun h => kw_g h rfl fun h => kw_g h rfl fun h => kw_g h rfl fun h => kw_g h rfl fun h => kw_g h rfl fun h => kw_g h rfl fun h => kw_g h rfl fun h => kw_g h rfl fun h => kw_g h rfl fun h => kw_g h rfl fun h => kw_g h rfl fun h => kw_g h rfl fun h => kw_g h rfl fun h => h
theorem jwN_X5_init : Cond.instanceMethod yX5_init ∈ jT := kw1_14.1
theorem jwO_X5_init : Cond.code (mX5_init).1 (mX5_init).2.1 (mX5_init).2.2.1 (mX5_init).2.2.2 ∈ jT := kw1_14.2.1
theorem jwM_X5_3 : Cond.methodLink RX5 3 Lib.objectInit ∈ jT := kw1_14.2.2.1
theorem jwF_X5_11 : Cond.fieldLink RX5 11 RX5 "town" "[I" ∈ jT := kw1_14.2.2.2.1
theorem jwF_X5_15 : Cond.fieldLink RX5 15 RX5 "knows" "[I" ∈ jT := kw1_14.2.2.2.2.1
theorem jwF_X5_18 : Cond.fieldLink RX5 18 RX5 "days" "[I" ∈ jT := kw1_14.2.2.2.2.2.1
theorem jwF_X5_21 : Cond.fieldLink RX5 21 RX5 "paid" "[I" ∈ jT := kw1_14.2.2.2.2.2.2.1
theorem jwF_X5_24 : Cond.fieldLink RX5 24 RX5 "first" "[I" ∈ jT := kw1_14.2.2.2.2.2.2.2.1
theorem jwF_X5_27 : Cond.fieldLink RX5 27 RX5 "since" "[I" ∈ jT := kw1_14.2.2.2.2.2.2.2.2.1
theorem jwF_X5_30 : Cond.fieldLink RX5 30 RX5 "daysKnown" "[I" ∈ jT := kw1_14.2.2.2.2.2.2.2.2.2.1
theorem jwF_X5_50 : Cond.fieldLink RX5 50 RX5 "wanted" "I" ∈ jT := kw1_14.2.2.2.2.2.2.2.2.2.2.1
theorem jwF_X5_62 : Cond.fieldLink RX5 62 RX5 "taught" "I" ∈ jT := kw1_14.2.2.2.2.2.2.2.2.2.2.2.1
theorem jwF_X5_34 : Cond.fieldLink RX5 34 RX5 "bestDays" "I" ∈ jT := kw1_14.2.2.2.2.2.2.2.2.2.2.2.2.1
theorem jwF_X10_226 : Cond.fieldLink RX10 226 RX5 "bestDays" "I" ∈ jT := kw1_14.2.2.2.2.2.2.2.2.2.2.2.2.2.1
theorem jwF_X5_38 : Cond.fieldLink RX5 38 RX5 "bestCoins" "I" ∈ jT := kw1_14.2.2.2.2.2.2.2.2.2.2.2.2.2.2.1
theorem jwF_X10_229 : Cond.fieldLink RX10 229 RX5 "bestCoins" "I" ∈ jT := kw1_14.2.2.2.2.2.2.2.2.2.2.2.2.2.2.2.1
set_option maxRecDepth 100000 in
theorem kw1_15 : (Cond.fieldLink RX5 41 RX5 "bestFirst" "I" ∈ jT) ∧ (Cond.fieldLink RX10 232 RX5 "bestFirst" "I" ∈ jT) ∧ (Cond.laysFinal RX5 RX5 "town" "[I" ∈ jT) ∧ (Cond.laysFinal RX5 RX5 "knows" "[I" ∈ jT) ∧ (Cond.laysFinal RX5 RX5 "days" "[I" ∈ jT) ∧ (Cond.laysFinal RX5 RX5 "paid" "[I" ∈ jT) ∧ (Cond.laysFinal RX5 RX5 "first" "[I" ∈ jT) ∧ (Cond.laysFinal RX5 RX5 "since" "[I" ∈ jT) ∧ (Cond.laysFinal RX5 RX5 "daysKnown" "[I" ∈ jT) ∧ kws (tables_1_1.drop 240) := kw_g kw1_14.2.2.2.2.2.2.2.2.2.2.2.2.2.2.2.2 rfl fun h => kw_g h rfl fun h => kw_g h rfl fun h => kw_s h fun h => kw_g h rfl fun h => kw_s h fun h => kw_g h rfl fun h => kw_s h fun h => kw_g h rfl fun h => kw_s h fun h => kw_g h rfl fun h => kw_s h fun h => kw_g h rfl fun h => kw_s h fun h => kw_g h rfl fun h => kw_s h fun h => h
theorem jwF_X5_41 : Cond.fieldLink RX5 41 RX5 "bestFirst" "I" ∈ jT := kw1_15.1
theorem jwF_X10_232 : Cond.fieldLink RX10 232 RX5 "bestFirst" "I" ∈ jT := kw1_15.2.1
theorem jwY_X5_town : Cond.laysFinal RX5 RX5 "town" "[I" ∈ jT := kw1_15.2.2.1
theorem jwY_X5_knows : Cond.laysFinal RX5 RX5 "knows" "[I" ∈ jT := kw1_15.2.2.2.1
theorem jwY_X5_days : Cond.laysFinal RX5 RX5 "days" "[I" ∈ jT := kw1_15.2.2.2.2.1
theorem jwY_X5_paid : Cond.laysFinal RX5 RX5 "paid" "[I" ∈ jT := kw1_15.2.2.2.2.2.1
theorem jwY_X5_first : Cond.laysFinal RX5 RX5 "first" "[I" ∈ jT := kw1_15.2.2.2.2.2.2.1
theorem jwY_X5_since : Cond.laysFinal RX5 RX5 "since" "[I" ∈ jT := kw1_15.2.2.2.2.2.2.2.1
theorem jwY_X5_daysKnown : Cond.laysFinal RX5 RX5 "daysKnown" "[I" ∈ jT := kw1_15.2.2.2.2.2.2.2.2.1
theorem kw0_2 : kws (tables_1_2.drop 0) := fun w h => jm_2 h
set_option maxRecDepth 100000 in
theorem kw2_1 : (Cond.lays RX5 RX5 "wanted" "I" ∈ jT) ∧ (Cond.lays RX5 RX5 "taught" "I" ∈ jT) ∧ (Cond.lays RX5 RX5 "bestDays" "I" ∈ jT) ∧ (Cond.lays RX5 RX5 "bestCoins" "I" ∈ jT) ∧ (Cond.lays RX5 RX5 "bestFirst" "I" ∈ jT) ∧ (Cond.classLink RX10 33 RX8 ∈ jT) ∧ (Cond.instantiable RX8 10 ∈ jT) ∧ (Cond.instanceMethod yX8_init ∈ jT) ∧ (Cond.code (mX8_init).1 (mX8_init).2.1 (mX8_init).2.2.1 (mX8_init).2.2.2 ∈ jT) ∧ kws (tables_1_2.drop 16) := kw_g kw0_2 rfl fun h => kw_s h fun h => kw_g h rfl fun h => kw_s h fun h => kw_g h rfl fun h => kw_s h fun h => kw_g h rfl fun h => kw_s h fun h => kw_g h rfl fun h => kw_s h fun h => kw_s h fun h => kw_g h rfl fun h => kw_g h rfl fun h => kw_s h fun h => kw_g h rfl fun h => kw_g h rfl fun h => h
theorem jwY_X5_wanted : Cond.lays RX5 RX5 "wanted" "I" ∈ jT := kw2_1.1
theorem jwY_X5_taught : Cond.lays RX5 RX5 "taught" "I" ∈ jT := kw2_1.2.1
theorem jwY_X5_bestDays : Cond.lays RX5 RX5 "bestDays" "I" ∈ jT := kw2_1.2.2.1
theorem jwY_X5_bestCoins : Cond.lays RX5 RX5 "bestCoins" "I" ∈ jT := kw2_1.2.2.2.1
theorem jwY_X5_bestFirst : Cond.lays RX5 RX5 "bestFirst" "I" ∈ jT := kw2_1.2.2.2.2.1
theorem jwK_X10_33 : Cond.classLink RX10 33 RX8 ∈ jT := kw2_1.2.2.2.2.2.1
theorem jwI_X8 : Cond.instantiable RX8 10 ∈ jT := kw2_1.2.2.2.2.2.2.1
theorem jwN_X8_init : Cond.instanceMethod yX8_init ∈ jT := kw2_1.2.2.2.2.2.2.2.1
theorem jwO_X8_init : Cond.code (mX8_init).1 (mX8_init).2.1 (mX8_init).2.2.1 (mX8_init).2.2.2 ∈ jT := kw2_1.2.2.2.2.2.2.2.2.1
set_option maxRecDepth 100000 in
theorem kw2_2 : (Cond.methodLink RX8 3 Lib.objectInit ∈ jT) ∧ (Cond.fieldLink RX8 9 RX8 "bytes" "[I" ∈ jT) ∧ (Cond.fieldLink RX8 18 RX8 "size" "I" ∈ jT) ∧ (Cond.fieldLink RX10 277 RX8 "size" "I" ∈ jT) ∧ (Cond.fieldLink RX8 63 RX8 "start" "I" ∈ jT) ∧ (Cond.fieldLink RX10 284 RX8 "start" "I" ∈ jT) ∧ (Cond.fieldLink RX8 26 RX8 "end" "I" ∈ jT) ∧ (Cond.fieldLink RX8 29 RX8 "sort" "I" ∈ jT) ∧ (Cond.fieldLink RX8 73 RX8 "needsBlank" "Z" ∈ jT) ∧ (Cond.fieldLink RX8 45 RX8 "key" "I" ∈ jT) ∧ (Cond.fieldLink RX8 32 RX8 "operands" "I" ∈ jT) ∧ (Cond.fieldLink RX8 15 RX8 "code" "[I" ∈ jT) ∧ (Cond.fieldLink RX8 35 RX8 "codeSize" "I" ∈ jT) ∧ (Cond.laysFinal RX8 RX8 "bytes" "[I" ∈ jT) ∧ (Cond.lays RX8 RX8 "size" "I" ∈ jT) ∧ kws (tables_1_2.drop 32) := kw_g kw2_1.2.2.2.2.2.2.2.2.2 rfl fun h => kw_g h rfl fun h => kw_g h rfl fun h => kw_g h rfl fun h => kw_g h rfl fun h => kw_g h rfl fun h => kw_g h rfl fun h => kw_g h rfl fun h => kw_g h rfl fun h => kw_g h rfl fun h => kw_g h rfl fun h => kw_g h rfl fun h => kw_g h rfl fun h => kw_g h rfl fun h => kw_s h fun h => kw_g h rfl fun h => h
theorem jwM_X8_3 : Cond.methodLink RX8 3 Lib.objectInit ∈ jT := kw2_2.1
theorem jwF_X8_9 : Cond.fieldLink RX8 9 RX8 "bytes" "[I" ∈ jT := kw2_2.2.1
theorem jwF_X8_18 : Cond.fieldLink RX8 18 RX8 "size" "I" ∈ jT := kw2_2.2.2.1
theorem jwF_X10_277 : Cond.fieldLink RX10 277 RX8 "size" "I" ∈ jT := kw2_2.2.2.2.1
theorem jwF_X8_63 : Cond.fieldLink RX8 63 RX8 "start" "I" ∈ jT := kw2_2.2.2.2.2.1
theorem jwF_X10_284 : Cond.fieldLink RX10 284 RX8 "start" "I" ∈ jT := kw2_2.2.2.2.2.2.1
theorem jwF_X8_26 : Cond.fieldLink RX8 26 RX8 "end" "I" ∈ jT := kw2_2.2.2.2.2.2.2.1
theorem jwF_X8_29 : Cond.fieldLink RX8 29 RX8 "sort" "I" ∈ jT := kw2_2.2.2.2.2.2.2.2.1
theorem jwF_X8_73 : Cond.fieldLink RX8 73 RX8 "needsBlank" "Z" ∈ jT := kw2_2.2.2.2.2.2.2.2.2.1
theorem jwF_X8_45 : Cond.fieldLink RX8 45 RX8 "key" "I" ∈ jT := kw2_2.2.2.2.2.2.2.2.2.2.1
theorem jwF_X8_32 : Cond.fieldLink RX8 32 RX8 "operands" "I" ∈ jT := kw2_2.2.2.2.2.2.2.2.2.2.2.1
theorem jwF_X8_15 : Cond.fieldLink RX8 15 RX8 "code" "[I" ∈ jT := kw2_2.2.2.2.2.2.2.2.2.2.2.2.1
theorem jwF_X8_35 : Cond.fieldLink RX8 35 RX8 "codeSize" "I" ∈ jT := kw2_2.2.2.2.2.2.2.2.2.2.2.2.2.1
theorem jwY_X8_bytes : Cond.laysFinal RX8 RX8 "bytes" "[I" ∈ jT := kw2_2.2.2.2.2.2.2.2.2.2.2.2.2.2.1
theorem jwY_X8_size : Cond.lays RX8 RX8 "size" "I" ∈ jT := kw2_2.2.2.2.2.2.2.2.2.2.2.2.2.2.2.1
set_option maxRecDepth 100000 in
theorem kw2_3 : (Cond.lays RX8 RX8 "start" "I" ∈ jT) ∧ (Cond.lays RX8 RX8 "end" "I" ∈ jT) ∧ (Cond.lays RX8 RX8 "sort" "I" ∈ jT) ∧ (Cond.lays RX8 RX8 "needsBlank" "Z" ∈ jT) ∧ (Cond.lays RX8 RX8 "key" "I" ∈ jT) ∧ (Cond.lays RX8 RX8 "operands" "I" ∈ jT) ∧ (Cond.laysFinal RX8 RX8 "code" "[I" ∈ jT) ∧ (Cond.lays RX8 RX8 "codeSize" "I" ∈ jT) ∧ kws (tables_1_2.drop 48) := kw_s kw2_2.2.2.2.2.2.2.2.2.2.2.2.2.2.2.2 fun h => kw_g h rfl fun h => kw_s h fun h => kw_g h rfl fun h => kw_s h fun h => kw_g h rfl fun h => kw_s h fun h => kw_g h rfl fun h => kw_s h fun h => kw_g h rfl fun h => kw_s h fun h => kw_g h rfl fun h => kw_s h fun h => kw_g h rfl fun h => kw_s h fun h => kw_g h rfl fun h => h
theorem jwY_X8_start : Cond.lays RX8 RX8 "start" "I" ∈ jT := kw2_3.1
theorem jwY_X8_end : Cond.lays RX8 RX8 "end" "I" ∈ jT := kw2_3.2.1
theorem jwY_X8_sort : Cond.lays RX8 RX8 "sort" "I" ∈ jT := kw2_3.2.2.1
theorem jwY_X8_needsBlank : Cond.lays RX8 RX8 "needsBlank" "Z" ∈ jT := kw2_3.2.2.2.1
theorem jwY_X8_key : Cond.lays RX8 RX8 "key" "I" ∈ jT := kw2_3.2.2.2.2.1
theorem jwY_X8_operands : Cond.lays RX8 RX8 "operands" "I" ∈ jT := kw2_3.2.2.2.2.2.1
theorem jwY_X8_code : Cond.laysFinal RX8 RX8 "code" "[I" ∈ jT := kw2_3.2.2.2.2.2.2.1
theorem jwY_X8_codeSize : Cond.lays RX8 RX8 "codeSize" "I" ∈ jT := kw2_3.2.2.2.2.2.2.2.1
set_option maxRecDepth 100000 in
theorem kw2_4 : (Cond.classLink RX10 40 RX6 ∈ jT) ∧ (Cond.classLink RX10 46 RX7 ∈ jT) ∧ (Cond.instantiable RX6 3 ∈ jT) ∧ (Cond.instanceMethod yX6_init ∈ jT) ∧ (Cond.code (mX6_init).1 (mX6_init).2.1 (mX6_init).2.2.1 (mX6_init).2.2.2 ∈ jT) ∧ (Cond.methodLink RX6 3 Lib.objectInit ∈ jT) ∧ (Cond.fieldLink RX6 9 RX6 "sort" "I" ∈ jT) ∧ (Cond.fieldLink RX10 261 RX6 "sort" "I" ∈ jT) ∧ (Cond.fieldLink RX6 19 RX6 "size" "I" ∈ jT) ∧ (Cond.fieldLink RX3 141 RX6 "size" "I" ∈ jT) ∧ (Cond.fieldLink RX10 327 RX6 "size" "I" ∈ jT) ∧ kws (tables_1_2.drop 64) := kw_s kw2_3.2.2.2.2.2.2.2.2 fun h => kw_s h fun h => kw_g h rfl fun h => kw_s h fun h => kw_g h rfl fun h => kw_s h fun h => kw_g h rfl fun h => kw_s h fun h => kw_g h rfl fun h => kw_g h rfl fun h => kw_g h rfl fun h => kw_g h rfl fun h => kw_g h rfl fun h => kw_g h rfl fun h => kw_g h rfl fun h => kw_g h rfl fun h => h
theorem jwK_X10_40 : Cond.classLink RX10 40 RX6 ∈ jT := kw2_4.1
theorem jwK_X10_46 : Cond.classLink RX10 46 RX7 ∈ jT := kw2_4.2.1
theorem jwI_X6 : Cond.instantiable RX6 3 ∈ jT := kw2_4.2.2.1
theorem jwN_X6_init : Cond.instanceMethod yX6_init ∈ jT := kw2_4.2.2.2.1
theorem jwO_X6_init : Cond.code (mX6_init).1 (mX6_init).2.1 (mX6_init).2.2.1 (mX6_init).2.2.2 ∈ jT := kw2_4.2.2.2.2.1
theorem jwM_X6_3 : Cond.methodLink RX6 3 Lib.objectInit ∈ jT := kw2_4.2.2.2.2.2.1
theorem jwF_X6_9 : Cond.fieldLink RX6 9 RX6 "sort" "I" ∈ jT := kw2_4.2.2.2.2.2.2.1
theorem jwF_X10_261 : Cond.fieldLink RX10 261 RX6 "sort" "I" ∈ jT := kw2_4.2.2.2.2.2.2.2.1
theorem jwF_X6_19 : Cond.fieldLink RX6 19 RX6 "size" "I" ∈ jT := kw2_4.2.2.2.2.2.2.2.2.1
theorem jwF_X3_141 : Cond.fieldLink RX3 141 RX6 "size" "I" ∈ jT := kw2_4.2.2.2.2.2.2.2.2.2.1
theorem jwF_X10_327 : Cond.fieldLink RX10 327 RX6 "size" "I" ∈ jT := kw2_4.2.2.2.2.2.2.2.2.2.2.1
set_option maxRecDepth 100000 in
theorem kw2_5 : (Cond.fieldLink RX6 15 RX6 "places" "[I" ∈ jT) ∧ (Cond.fieldLink RX3 151 RX6 "places" "[I" ∈ jT) ∧ (Cond.fieldLink RX10 322 RX6 "places" "[I" ∈ jT) ∧ (Cond.lays RX6 RX6 "sort" "I" ∈ jT) ∧ (Cond.lays RX6 RX6 "size" "I" ∈ jT) ∧ (Cond.laysFinal RX6 RX6 "places" "[I" ∈ jT) ∧ (Cond.instantiable RX7 4 ∈ jT) ∧ (Cond.instanceMethod yX7_init ∈ jT) ∧ (Cond.code (mX7_init).1 (mX7_init).2.1 (mX7_init).2.2.1 (mX7_init).2.2.2 ∈ jT) ∧ (Cond.methodLink RX7 3 Lib.objectInit ∈ jT) ∧ (Cond.classLink RX7 15 RX2 ∈ jT) ∧ kws (tables_1_2.drop 80) := kw_g kw2_4.2.2.2.2.2.2.2.2.2.2.2 rfl fun h => kw_g h rfl fun h => kw_g h rfl fun h => kw_g h rfl fun h => kw_s h fun h => kw_g h rfl fun h => kw_s h fun h => kw_g h rfl fun h => kw_s h fun h => kw_s h fun h => kw_g h rfl fun h => kw_s h fun h => kw_g h rfl fun h => kw_g h rfl fun h => kw_g h rfl fun h => kw_g h rfl fun h => h
theorem jwF_X6_15 : Cond.fieldLink RX6 15 RX6 "places" "[I" ∈ jT := kw2_5.1
theorem jwF_X3_151 : Cond.fieldLink RX3 151 RX6 "places" "[I" ∈ jT := kw2_5.2.1
theorem jwF_X10_322 : Cond.fieldLink RX10 322 RX6 "places" "[I" ∈ jT := kw2_5.2.2.1
theorem jwY_X6_sort : Cond.lays RX6 RX6 "sort" "I" ∈ jT := kw2_5.2.2.2.1
theorem jwY_X6_size : Cond.lays RX6 RX6 "size" "I" ∈ jT := kw2_5.2.2.2.2.1
theorem jwY_X6_places : Cond.laysFinal RX6 RX6 "places" "[I" ∈ jT := kw2_5.2.2.2.2.2.1
theorem jwI_X7 : Cond.instantiable RX7 4 ∈ jT := kw2_5.2.2.2.2.2.2.1
theorem jwN_X7_init : Cond.instanceMethod yX7_init ∈ jT := kw2_5.2.2.2.2.2.2.2.1
theorem jwO_X7_init : Cond.code (mX7_init).1 (mX7_init).2.1 (mX7_init).2.2.1 (mX7_init).2.2.2 ∈ jT := kw2_5.2.2.2.2.2.2.2.2.1
theorem jwM_X7_3 : Cond.methodLink RX7 3 Lib.objectInit ∈ jT := kw2_5.2.2.2.2.2.2.2.2.2.1
theorem jwK_X7_15 : Cond.classLink RX7 15 RX2 ∈ jT := kw2_5.2.2.2.2.2.2.2.2.2.2.1
set_option maxRecDepth 100000 in
theorem kw2_6 : (Cond.classLink RX7 22 RX6 ∈ jT) ∧ (Cond.fieldLink RX7 9 RX7 "thing" "I" ∈ jT) ∧ (Cond.fieldLink RX10 347 RX7 "thing" "I" ∈ jT) ∧ (Cond.fieldLink RX7 18 RX7 "master" "LNineMasters$Master;" ∈ jT) ∧ (Cond.fieldLink RX10 360 RX7 "master" "LNineMasters$Master;" ∈ jT) ∧ (Cond.fieldLink RX7 25 RX7 "sheet" "LNineMasters$Sheet;" ∈ jT) ∧ (Cond.fieldLink RX10 367 RX7 "sheet" "LNineMasters$Sheet;" ∈ jT) ∧ (Cond.fieldLink RX10 357 RX7 "number" "I" ∈ jT) ∧ (Cond.lays RX7 RX7 "thing" "I" ∈ jT) ∧ (Cond.laysFinal RX7 RX7 "master" "LNineMasters$Master;" ∈ jT) ∧ (Cond.laysFinal RX7 RX7 "sheet" "LNineMasters$Sheet;" ∈ jT) ∧ kws (tables_1_2.drop 96) := kw_s kw2_5.2.2.2.2.2.2.2.2.2.2.2 fun h => kw_g h rfl fun h => kw_s h fun h => kw_g h rfl fun h => kw_g h rfl fun h => kw_g h rfl fun h => kw_g h rfl fun h => kw_g h rfl fun h => kw_g h rfl fun h => kw_g h rfl fun h => kw_g h rfl fun h => kw_s h fun h => kw_g h rfl fun h => kw_s h fun h => kw_g h rfl fun h => kw_s h fun h => h
theorem jwK_X7_22 : Cond.classLink RX7 22 RX6 ∈ jT := kw2_6.1
theorem jwF_X7_9 : Cond.fieldLink RX7 9 RX7 "thing" "I" ∈ jT := kw2_6.2.1
theorem jwF_X10_347 : Cond.fieldLink RX10 347 RX7 "thing" "I" ∈ jT := kw2_6.2.2.1
theorem jwF_X7_18 : Cond.fieldLink RX7 18 RX7 "master" "LNineMasters$Master;" ∈ jT := kw2_6.2.2.2.1
theorem jwF_X10_360 : Cond.fieldLink RX10 360 RX7 "master" "LNineMasters$Master;" ∈ jT := kw2_6.2.2.2.2.1
theorem jwF_X7_25 : Cond.fieldLink RX7 25 RX7 "sheet" "LNineMasters$Sheet;" ∈ jT := kw2_6.2.2.2.2.2.1
theorem jwF_X10_367 : Cond.fieldLink RX10 367 RX7 "sheet" "LNineMasters$Sheet;" ∈ jT := kw2_6.2.2.2.2.2.2.1
theorem jwF_X10_357 : Cond.fieldLink RX10 357 RX7 "number" "I" ∈ jT := kw2_6.2.2.2.2.2.2.2.1
theorem jwY_X7_thing : Cond.lays RX7 RX7 "thing" "I" ∈ jT := kw2_6.2.2.2.2.2.2.2.2.1
theorem jwY_X7_master : Cond.laysFinal RX7 RX7 "master" "LNineMasters$Master;" ∈ jT := kw2_6.2.2.2.2.2.2.2.2.2.1
theorem jwY_X7_sheet : Cond.laysFinal RX7 RX7 "sheet" "LNineMasters$Sheet;" ∈ jT := kw2_6.2.2.2.2.2.2.2.2.2.2.1
set_option maxRecDepth 100000 in
theorem kw2_7 : (Cond.lays RX7 RX7 "number" "I" ∈ jT) ∧ (Cond.fieldLink RX10 12 RX10 "realm" "LNineMasters$Realm;" ∈ jT) ∧ (Cond.fieldLink RX10 16 RX10 "image" "LNineMasters$Realm;" ∈ jT) ∧ (Cond.fieldLink RX10 377 RX10 "imageKept" "Z" ∈ jT) ∧ (Cond.fieldLink RX10 22 RX10 "thought" "LNineMasters$Guild;" ∈ jT) ∧ (Cond.fieldLink RX10 29 RX10 "search" "LNineMasters$Search;" ∈ jT) ∧ (Cond.fieldLink RX10 36 RX10 "tape" "LNineMasters$Tape;" ∈ jT) ∧ (Cond.fieldLink RX10 42 RX10 "sheets" "[LNineMasters$Sheet;" ∈ jT) ∧ (Cond.fieldLink RX10 48 RX10 "slots" "[LNineMasters$Slot;" ∈ jT) ∧ (Cond.fieldLink RX10 52 RX10 "waiting" "[I" ∈ jT) ∧ (Cond.fieldLink RX10 374 RX10 "waits" "I" ∈ jT) ∧ (Cond.laysFinal RX10 RX10 "realm" "LNineMasters$Realm;" ∈ jT) ∧ (Cond.laysFinal RX10 RX10 "image" "LNineMasters$Realm;" ∈ jT) ∧ kws (tables_1_2.drop 112) := kw_g kw2_6.2.2.2.2.2.2.2.2.2.2.2 rfl fun h => kw_s h fun h => kw_s h fun h => kw_g h rfl fun h => kw_g h rfl fun h => kw_g h rfl fun h => kw_g h rfl fun h => kw_g h rfl fun h => kw_g h rfl fun h => kw_g h rfl fun h => kw_g h rfl fun h => kw_g h rfl fun h => kw_g h rfl fun h => kw_g h rfl fun h => kw_s h fun h => kw_g h rfl fun h => h
theorem jwY_X7_number : Cond.lays RX7 RX7 "number" "I" ∈ jT := kw2_7.1
theorem jwF_X10_12 : Cond.fieldLink RX10 12 RX10 "realm" "LNineMasters$Realm;" ∈ jT := kw2_7.2.1
theorem jwF_X10_16 : Cond.fieldLink RX10 16 RX10 "image" "LNineMasters$Realm;" ∈ jT := kw2_7.2.2.1
theorem jwF_X10_377 : Cond.fieldLink RX10 377 RX10 "imageKept" "Z" ∈ jT := kw2_7.2.2.2.1
theorem jwF_X10_22 : Cond.fieldLink RX10 22 RX10 "thought" "LNineMasters$Guild;" ∈ jT := kw2_7.2.2.2.2.1
theorem jwF_X10_29 : Cond.fieldLink RX10 29 RX10 "search" "LNineMasters$Search;" ∈ jT := kw2_7.2.2.2.2.2.1
theorem jwF_X10_36 : Cond.fieldLink RX10 36 RX10 "tape" "LNineMasters$Tape;" ∈ jT := kw2_7.2.2.2.2.2.2.1
theorem jwF_X10_42 : Cond.fieldLink RX10 42 RX10 "sheets" "[LNineMasters$Sheet;" ∈ jT := kw2_7.2.2.2.2.2.2.2.1
theorem jwF_X10_48 : Cond.fieldLink RX10 48 RX10 "slots" "[LNineMasters$Slot;" ∈ jT := kw2_7.2.2.2.2.2.2.2.2.1
theorem jwF_X10_52 : Cond.fieldLink RX10 52 RX10 "waiting" "[I" ∈ jT := kw2_7.2.2.2.2.2.2.2.2.2.1
theorem jwF_X10_374 : Cond.fieldLink RX10 374 RX10 "waits" "I" ∈ jT := kw2_7.2.2.2.2.2.2.2.2.2.2.1
theorem jwY_X10_realm : Cond.laysFinal RX10 RX10 "realm" "LNineMasters$Realm;" ∈ jT := kw2_7.2.2.2.2.2.2.2.2.2.2.2.1
theorem jwY_X10_image : Cond.laysFinal RX10 RX10 "image" "LNineMasters$Realm;" ∈ jT := kw2_7.2.2.2.2.2.2.2.2.2.2.2.2.1
set_option maxRecDepth 100000 in
theorem kw2_8 : (Cond.lays RX10 RX10 "imageKept" "Z" ∈ jT) ∧ (Cond.laysFinal RX10 RX10 "thought" "LNineMasters$Guild;" ∈ jT) ∧ (Cond.laysFinal RX10 RX10 "search" "LNineMasters$Search;" ∈ jT) ∧ (Cond.laysFinal RX10 RX10 "tape" "LNineMasters$Tape;" ∈ jT) ∧ (Cond.laysFinal RX10 RX10 "sheets" "[LNineMasters$Sheet;" ∈ jT) ∧ (Cond.laysFinal RX10 RX10 "slots" "[LNineMasters$Slot;" ∈ jT) ∧ (Cond.laysFinal RX10 RX10 "waiting" "[I" ∈ jT) ∧ (Cond.lays RX10 RX10 "waits" "I" ∈ jT) ∧ kws (tables_1_2.drop 128) := kw_s kw2_7.2.2.2.2.2.2.2.2.2.2.2.2.2 fun h => kw_g h rfl fun h => kw_s h fun h => kw_g h rfl fun h => kw_s h fun h => kw_g h rfl fun h => kw_s h fun h => kw_g h rfl fun h => kw_s h fun h => kw_g h rfl fun h => kw_s h fun h => kw_g h rfl fun h => kw_s h fun h => kw_g h rfl fun h => kw_s h fun h => kw_g h rfl fun h => h
theorem jwY_X10_imageKept : Cond.lays RX10 RX10 "imageKept" "Z" ∈ jT := kw2_8.1
theorem jwY_X10_thought : Cond.laysFinal RX10 RX10 "thought" "LNineMasters$Guild;" ∈ jT := kw2_8.2.1
theorem jwY_X10_search : Cond.laysFinal RX10 RX10 "search" "LNineMasters$Search;" ∈ jT := kw2_8.2.2.1
theorem jwY_X10_tape : Cond.laysFinal RX10 RX10 "tape" "LNineMasters$Tape;" ∈ jT := kw2_8.2.2.2.1
theorem jwY_X10_sheets : Cond.laysFinal RX10 RX10 "sheets" "[LNineMasters$Sheet;" ∈ jT := kw2_8.2.2.2.2.1
theorem jwY_X10_slots : Cond.laysFinal RX10 RX10 "slots" "[LNineMasters$Slot;" ∈ jT := kw2_8.2.2.2.2.2.1
theorem jwY_X10_waiting : Cond.laysFinal RX10 RX10 "waiting" "[I" ∈ jT := kw2_8.2.2.2.2.2.2.1
theorem jwY_X10_waits : Cond.lays RX10 RX10 "waits" "I" ∈ jT := kw2_8.2.2.2.2.2.2.2.1
set_option maxRecDepth 100000 in
theorem kw2_9 : (Cond.methodLink RL 13 yX10_master ∈ jT) ∧ (Cond.instanceMethod yX10_master ∈ jT) ∧ (Cond.selects RX10 yX10_master yX10_master ∈ jT) ∧ (Cond.code (mX10_master).1 (mX10_master).2.1 (mX10_master).2.2.1 (mX10_master).2.2.2 ∈ jT) ∧ (Cond.methodLink RX10 58 yX10_within ∈ jT) ∧ (Cond.static yX10_within ∈ jT) ∧ (Cond.code (mX10_within).1 (mX10_within).2.1 (mX10_within).2.2.1 (mX10_within).2.2.2 ∈ jT) ∧ (Cond.constant RX10 62 (-1000000001) ∈ jT) ∧ (Cond.methodLink RX10 70 yX0_join ∈ jT) ∧ (Cond.instanceMethod yX0_join ∈ jT) ∧ (Cond.selects RX0 yX0_join yX0_join ∈ jT) ∧ (Cond.code (mX0_join).1 (mX0_join).2.1 (mX0_join).2.2.1 (mX0_join).2.2.2 ∈ jT) ∧ (Cond.methodLink RX0 33 yX2_begin ∈ jT) ∧ kws (tables_1_2.drop 144) := kw_s kw2_8.2.2.2.2.2.2.2.2 fun h => kw_s h fun h => kw_g h rfl fun h => kw_g h rfl fun h => kw_g h rfl fun h => kw_g h rfl fun h => kw_g h rfl fun h => kw_g h rfl fun h => kw_g h rfl fun h => kw_g h rfl fun h => kw_g h rfl fun h => kw_g h rfl fun h => kw_g h rfl fun h => kw_g h rfl fun h => kw_s h fun h => kw_g h rfl fun h => h
theorem jwM_L_13 : Cond.methodLink RL 13 yX10_master ∈ jT := kw2_9.1
theorem jwN_X10_master : Cond.instanceMethod yX10_master ∈ jT := kw2_9.2.1
theorem jwX_X10_master : Cond.selects RX10 yX10_master yX10_master ∈ jT := kw2_9.2.2.1
theorem jwO_X10_master : Cond.code (mX10_master).1 (mX10_master).2.1 (mX10_master).2.2.1 (mX10_master).2.2.2 ∈ jT := kw2_9.2.2.2.1
theorem jwM_X10_58 : Cond.methodLink RX10 58 yX10_within ∈ jT := kw2_9.2.2.2.2.1
theorem jwS_X10_within : Cond.static yX10_within ∈ jT := kw2_9.2.2.2.2.2.1
theorem jwO_X10_within : Cond.code (mX10_within).1 (mX10_within).2.1 (mX10_within).2.2.1 (mX10_within).2.2.2 ∈ jT := kw2_9.2.2.2.2.2.2.1
theorem jwC_X10_62 : Cond.constant RX10 62 (-1000000001) ∈ jT := kw2_9.2.2.2.2.2.2.2.1
theorem jwM_X10_70 : Cond.methodLink RX10 70 yX0_join ∈ jT := kw2_9.2.2.2.2.2.2.2.2.1
theorem jwN_X0_join : Cond.instanceMethod yX0_join ∈ jT := kw2_9.2.2.2.2.2.2.2.2.2.1
theorem jwX_X0_join : Cond.selects RX0 yX0_join yX0_join ∈ jT := kw2_9.2.2.2.2.2.2.2.2.2.2.1
theorem jwO_X0_join : Cond.code (mX0_join).1 (mX0_join).2.1 (mX0_join).2.2.1 (mX0_join).2.2.2 ∈ jT := kw2_9.2.2.2.2.2.2.2.2.2.2.2.1
theorem jwM_X0_33 : Cond.methodLink RX0 33 yX2_begin ∈ jT := kw2_9.2.2.2.2.2.2.2.2.2.2.2.2.1
set_option maxRecDepth 100000 in
theorem kw2_10 : (Cond.instanceMethod yX2_begin ∈ jT) ∧ (Cond.selects RX2 yX2_begin yX2_begin ∈ jT) ∧ (Cond.code (mX2_begin).1 (mX2_begin).2.1 (mX2_begin).2.2.1 (mX2_begin).2.2.2 ∈ jT) ∧ (Cond.constant RX10 74 (-1000000003) ∈ jT) ∧ (Cond.methodLink RL 18 yX10_told ∈ jT) ∧ (Cond.instanceMethod yX10_told ∈ jT) ∧ (Cond.selects RX10 yX10_told yX10_told ∈ jT) ∧ (Cond.code (mX10_told).1 (mX10_told).2.1 (mX10_told).2.2.1 (mX10_told).2.2.2 ∈ jT) ∧ (Cond.methodLink RX10 75 yX0_find ∈ jT) ∧ (Cond.instanceMethod yX0_find ∈ jT) ∧ (Cond.selects RX0 yX0_find yX0_find ∈ jT) ∧ (Cond.code (mX0_find).1 (mX0_find).2.1 (mX0_find).2.2.1 (mX0_find).2.2.2 ∈ jT) ∧ (Cond.methodLink RX10 112 yJ6_bitCount_0f7a4 ∈ jT) ∧ (Cond.static yJ6_bitCount_0f7a4 ∈ jT) ∧ (Cond.code (mJ6_bitCount_0f7a4).1 (mJ6_bitCount_0f7a4).2.1 (mJ6_bitCount_0f7a4).2.2.1 (mJ6_bitCount_0f7a4).2.2.2 ∈ jT) ∧ (Cond.constant RJ6 265 1431655765 ∈ jT) ∧ kws (tables_1_2.drop 160) := kw_g kw2_9.2.2.2.2.2.2.2.2.2.2.2.2.2 rfl fun h => kw_g h rfl fun h => kw_g h rfl fun h => kw_g h rfl fun h => kw_g h rfl fun h => kw_g h rfl fun h => kw_g h rfl fun h => kw_g h rfl fun h => kw_g h rfl fun h => kw_g h rfl fun h => kw_g h rfl fun h => kw_g h rfl fun h => kw_g h rfl fun h => kw_g h rfl fun h => kw_g h rfl fun h => kw_g h rfl fun h => h
theorem jwN_X2_begin : Cond.instanceMethod yX2_begin ∈ jT := kw2_10.1
theorem jwX_X2_begin : Cond.selects RX2 yX2_begin yX2_begin ∈ jT := kw2_10.2.1
theorem jwO_X2_begin : Cond.code (mX2_begin).1 (mX2_begin).2.1 (mX2_begin).2.2.1 (mX2_begin).2.2.2 ∈ jT := kw2_10.2.2.1
theorem jwC_X10_74 : Cond.constant RX10 74 (-1000000003) ∈ jT := kw2_10.2.2.2.1
theorem jwM_L_18 : Cond.methodLink RL 18 yX10_told ∈ jT := kw2_10.2.2.2.2.1
theorem jwN_X10_told : Cond.instanceMethod yX10_told ∈ jT := kw2_10.2.2.2.2.2.1
theorem jwX_X10_told : Cond.selects RX10 yX10_told yX10_told ∈ jT := kw2_10.2.2.2.2.2.2.1
theorem jwO_X10_told : Cond.code (mX10_told).1 (mX10_told).2.1 (mX10_told).2.2.1 (mX10_told).2.2.2 ∈ jT := kw2_10.2.2.2.2.2.2.2.1
theorem jwM_X10_75 : Cond.methodLink RX10 75 yX0_find ∈ jT := kw2_10.2.2.2.2.2.2.2.2.1
theorem jwN_X0_find : Cond.instanceMethod yX0_find ∈ jT := kw2_10.2.2.2.2.2.2.2.2.2.1
theorem jwX_X0_find : Cond.selects RX0 yX0_find yX0_find ∈ jT := kw2_10.2.2.2.2.2.2.2.2.2.2.1
theorem jwO_X0_find : Cond.code (mX0_find).1 (mX0_find).2.1 (mX0_find).2.2.1 (mX0_find).2.2.2 ∈ jT := kw2_10.2.2.2.2.2.2.2.2.2.2.2.1
theorem jwM_X10_112 : Cond.methodLink RX10 112 yJ6_bitCount_0f7a4 ∈ jT := kw2_10.2.2.2.2.2.2.2.2.2.2.2.2.1
theorem jwS_J6_bitCount_0f7a4 : Cond.static yJ6_bitCount_0f7a4 ∈ jT := kw2_10.2.2.2.2.2.2.2.2.2.2.2.2.2.1
theorem jwO_J6_bitCount_0f7a4 : Cond.code (mJ6_bitCount_0f7a4).1 (mJ6_bitCount_0f7a4).2.1 (mJ6_bitCount_0f7a4).2.2.1 (mJ6_bitCount_0f7a4).2.2.2 ∈ jT := kw2_10.2.2.2.2.2.2.2.2.2.2.2.2.2.2.1
theorem jwC_J6_265 : Cond.constant RJ6 265 1431655765 ∈ jT := kw2_10.2.2.2.2.2.2.2.2.2.2.2.2.2.2.2.1
set_option maxRecDepth 100000 in
theorem kw2_11 : (Cond.constant RJ6 266 858993459 ∈ jT) ∧ (Cond.constant RJ6 267 252645135 ∈ jT) ∧ (Cond.methodLink RX10 118 yX3_daysTaken ∈ jT) ∧ (Cond.instanceMethod yX3_daysTaken ∈ jT) ∧ (Cond.selects RX3 yX3_daysTaken yX3_daysTaken ∈ jT) ∧ (Cond.code (mX3_daysTaken).1 (mX3_daysTaken).2.1 (mX3_daysTaken).2.2.1 (mX3_daysTaken).2.2.2 ∈ jT) ∧ (Cond.methodLink RX3 83 yX3_numberOfLaw ∈ jT) ∧ (Cond.instanceMethod yX3_numberOfLaw ∈ jT) ∧ (Cond.selects RX3 yX3_numberOfLaw yX3_numberOfLaw ∈ jT) ∧ (Cond.code (mX3_numberOfLaw).1 (mX3_numberOfLaw).2.1 (mX3_numberOfLaw).2.2.1 (mX3_numberOfLaw).2.2.2 ∈ jT) ∧ (Cond.methodLink RX3 87 yX3_findText ∈ jT) ∧ (Cond.instanceMethod yX3_findText ∈ jT) ∧ (Cond.selects RX3 yX3_findText yX3_findText ∈ jT) ∧ (Cond.code (mX3_findText).1 (mX3_findText).2.1 (mX3_findText).2.2.1 (mX3_findText).2.2.2 ∈ jT) ∧ (Cond.methodLink RX3 99 yX9_workOut ∈ jT) ∧ kws (tables_1_2.drop 176) := kw_g kw2_10.2.2.2.2.2.2.2.2.2.2.2.2.2.2.2.2 rfl fun h => kw_g h rfl fun h => kw_g h rfl fun h => kw_g h rfl fun h => kw_g h rfl fun h => kw_g h rfl fun h => kw_g h rfl fun h => kw_g h rfl fun h => kw_g h rfl fun h => kw_g h rfl fun h => kw_g h rfl fun h => kw_g h rfl fun h => kw_g h rfl fun h => kw_g h rfl fun h => kw_s h fun h => kw_g h rfl fun h => h
theorem jwC_J6_266 : Cond.constant RJ6 266 858993459 ∈ jT := kw2_11.1
theorem jwC_J6_267 : Cond.constant RJ6 267 252645135 ∈ jT := kw2_11.2.1
theorem jwM_X10_118 : Cond.methodLink RX10 118 yX3_daysTaken ∈ jT := kw2_11.2.2.1
theorem jwN_X3_daysTaken : Cond.instanceMethod yX3_daysTaken ∈ jT := kw2_11.2.2.2.1
theorem jwX_X3_daysTaken : Cond.selects RX3 yX3_daysTaken yX3_daysTaken ∈ jT := kw2_11.2.2.2.2.1
theorem jwO_X3_daysTaken : Cond.code (mX3_daysTaken).1 (mX3_daysTaken).2.1 (mX3_daysTaken).2.2.1 (mX3_daysTaken).2.2.2 ∈ jT := kw2_11.2.2.2.2.2.1
theorem jwM_X3_83 : Cond.methodLink RX3 83 yX3_numberOfLaw ∈ jT := kw2_11.2.2.2.2.2.2.1
theorem jwN_X3_numberOfLaw : Cond.instanceMethod yX3_numberOfLaw ∈ jT := kw2_11.2.2.2.2.2.2.2.1
theorem jwX_X3_numberOfLaw : Cond.selects RX3 yX3_numberOfLaw yX3_numberOfLaw ∈ jT := kw2_11.2.2.2.2.2.2.2.2.1
theorem jwO_X3_numberOfLaw : Cond.code (mX3_numberOfLaw).1 (mX3_numberOfLaw).2.1 (mX3_numberOfLaw).2.2.1 (mX3_numberOfLaw).2.2.2 ∈ jT := kw2_11.2.2.2.2.2.2.2.2.2.1
theorem jwM_X3_87 : Cond.methodLink RX3 87 yX3_findText ∈ jT := kw2_11.2.2.2.2.2.2.2.2.2.2.1
theorem jwN_X3_findText : Cond.instanceMethod yX3_findText ∈ jT := kw2_11.2.2.2.2.2.2.2.2.2.2.2.1
theorem jwX_X3_findText : Cond.selects RX3 yX3_findText yX3_findText ∈ jT := kw2_11.2.2.2.2.2.2.2.2.2.2.2.2.1
theorem jwO_X3_findText : Cond.code (mX3_findText).1 (mX3_findText).2.1 (mX3_findText).2.2.1 (mX3_findText).2.2.2 ∈ jT := kw2_11.2.2.2.2.2.2.2.2.2.2.2.2.2.1
theorem jwM_X3_99 : Cond.methodLink RX3 99 yX9_workOut ∈ jT := kw2_11.2.2.2.2.2.2.2.2.2.2.2.2.2.2.1
set_option maxRecDepth 100000 in
theorem kw2_12 : (Cond.instanceMethod yX9_workOut ∈ jT) ∧ (Cond.selects RX9 yX9_workOut yX9_workOut ∈ jT) ∧ (Cond.code (mX9_workOut).1 (mX9_workOut).2.1 (mX9_workOut).2.2.1 (mX9_workOut).2.2.2 ∈ jT) ∧ (Cond.methodLink RX9 35 yX9_valueOf ∈ jT) ∧ (Cond.static yX9_valueOf ∈ jT) ∧ (Cond.code (mX9_valueOf).1 (mX9_valueOf).2.1 (mX9_valueOf).2.2.1 (mX9_valueOf).2.2.2 ∈ jT) ∧ (Cond.methodLink RX9 39 yX9_joined ∈ jT) ∧ (Cond.static yX9_joined ∈ jT) ∧ (Cond.code (mX9_joined).1 (mX9_joined).2.1 (mX9_joined).2.2.1 (mX9_joined).2.2.2 ∈ jT) ∧ (Cond.methodLink RX3 103 Lib.Math.min.name ∈ jT) ∧ (Cond.methodLink RX3 109 Lib.Math.max.name ∈ jT) ∧ (Cond.static Lib.Math.max.name ∈ jT) ∧ (Cond.code Lib.Math.max.name Lib.Math.max.code 2 (some .int) ∈ jT) ∧ (Cond.methodLink RX3 112 yX2_daysFrom ∈ jT) ∧ (Cond.instanceMethod yX2_daysFrom ∈ jT) ∧ kws (tables_1_2.drop 192) := kw_g kw2_11.2.2.2.2.2.2.2.2.2.2.2.2.2.2.2 rfl fun h => kw_g h rfl fun h => kw_g h rfl fun h => kw_s h fun h => kw_g h rfl fun h => kw_g h rfl fun h => kw_g h rfl fun h => kw_g h rfl fun h => kw_g h rfl fun h => kw_g h rfl fun h => kw_g h rfl fun h => kw_g h rfl fun h => kw_g h rfl fun h => kw_g h rfl fun h => kw_g h rfl fun h => kw_g h rfl fun h => h
theorem jwN_X9_workOut : Cond.instanceMethod yX9_workOut ∈ jT := kw2_12.1
theorem jwX_X9_workOut : Cond.selects RX9 yX9_workOut yX9_workOut ∈ jT := kw2_12.2.1
theorem jwO_X9_workOut : Cond.code (mX9_workOut).1 (mX9_workOut).2.1 (mX9_workOut).2.2.1 (mX9_workOut).2.2.2 ∈ jT := kw2_12.2.2.1
theorem jwM_X9_35 : Cond.methodLink RX9 35 yX9_valueOf ∈ jT := kw2_12.2.2.2.1
theorem jwS_X9_valueOf : Cond.static yX9_valueOf ∈ jT := kw2_12.2.2.2.2.1
theorem jwO_X9_valueOf : Cond.code (mX9_valueOf).1 (mX9_valueOf).2.1 (mX9_valueOf).2.2.1 (mX9_valueOf).2.2.2 ∈ jT := kw2_12.2.2.2.2.2.1
theorem jwM_X9_39 : Cond.methodLink RX9 39 yX9_joined ∈ jT := kw2_12.2.2.2.2.2.2.1
theorem jwS_X9_joined : Cond.static yX9_joined ∈ jT := kw2_12.2.2.2.2.2.2.2.1
theorem jwO_X9_joined : Cond.code (mX9_joined).1 (mX9_joined).2.1 (mX9_joined).2.2.1 (mX9_joined).2.2.2 ∈ jT := kw2_12.2.2.2.2.2.2.2.2.1
theorem jwM_X3_103 : Cond.methodLink RX3 103 Lib.Math.min.name ∈ jT := kw2_12.2.2.2.2.2.2.2.2.2.1
theorem jwM_X3_109 : Cond.methodLink RX3 109 Lib.Math.max.name ∈ jT := kw2_12.2.2.2.2.2.2.2.2.2.2.1
theorem jwS_max : Cond.static Lib.Math.max.name ∈ jT := kw2_12.2.2.2.2.2.2.2.2.2.2.2.1
theorem jwO_max : Cond.code Lib.Math.max.name Lib.Math.max.code 2 (some .int) ∈ jT := kw2_12.2.2.2.2.2.2.2.2.2.2.2.2.1
theorem jwM_X3_112 : Cond.methodLink RX3 112 yX2_daysFrom ∈ jT := kw2_12.2.2.2.2.2.2.2.2.2.2.2.2.2.1
theorem jwN_X2_daysFrom : Cond.instanceMethod yX2_daysFrom ∈ jT := kw2_12.2.2.2.2.2.2.2.2.2.2.2.2.2.2.1
set_option maxRecDepth 100000 in
theorem kw2_13 : (Cond.selects RX2 yX2_daysFrom yX2_daysFrom ∈ jT) ∧ (Cond.code (mX2_daysFrom).1 (mX2_daysFrom).2.1 (mX2_daysFrom).2.2.1 (mX2_daysFrom).2.2.2 ∈ jT) ∧ (Cond.methodLink RX2 42 Lib.Math.max.name ∈ jT) ∧ (Cond.methodLink RX10 122 yX2_teaches ∈ jT) ∧ (Cond.instanceMethod yX2_teaches ∈ jT) ∧ (Cond.selects RX2 yX2_teaches yX2_teaches ∈ jT) ∧ (Cond.code (mX2_teaches).1 (mX2_teaches).2.1 (mX2_teaches).2.2.1 (mX2_teaches).2.2.2 ∈ jT) ∧ (Cond.methodLink RX2 48 yJ6_bitCount_0f7a4 ∈ jT) ∧ (Cond.methodLink RX10 126 yX2_worth ∈ jT) ∧ (Cond.instanceMethod yX2_worth ∈ jT) ∧ (Cond.selects RX2 yX2_worth yX2_worth ∈ jT) ∧ (Cond.code (mX2_worth).1 (mX2_worth).2.1 (mX2_worth).2.2.1 (mX2_worth).2.2.2 ∈ jT) ∧ (Cond.methodLink RL 23 yX10_as ∈ jT) ∧ (Cond.instanceMethod yX10_as ∈ jT) ∧ (Cond.selects RX10 yX10_as yX10_as ∈ jT) ∧ (Cond.code (mX10_as).1 (mX10_as).2.1 (mX10_as).2.2.1 (mX10_as).2.2.2 ∈ jT) ∧ kws (tables_1_2.drop 208) := kw_g kw2_12.2.2.2.2.2.2.2.2.2.2.2.2.2.2.2 rfl fun h => kw_g h rfl fun h => kw_g h rfl fun h => kw_g h rfl fun h => kw_g h rfl fun h => kw_g h rfl fun h => kw_g h rfl fun h => kw_g h rfl fun h => kw_g h rfl fun h => kw_g h rfl fun h => kw_g h rfl fun h => kw_g h rfl fun h => kw_g h rfl fun h => kw_g h rfl fun h => kw_g h rfl fun h => kw_g h rfl fun h => h
theorem jwX_X2_daysFrom : Cond.selects RX2 yX2_daysFrom yX2_daysFrom ∈ jT := kw2_13.1
theorem jwO_X2_daysFrom : Cond.code (mX2_daysFrom).1 (mX2_daysFrom).2.1 (mX2_daysFrom).2.2.1 (mX2_daysFrom).2.2.2 ∈ jT := kw2_13.2.1
theorem jwM_X2_42 : Cond.methodLink RX2 42 Lib.Math.max.name ∈ jT := kw2_13.2.2.1
theorem jwM_X10_122 : Cond.methodLink RX10 122 yX2_teaches ∈ jT := kw2_13.2.2.2.1
theorem jwN_X2_teaches : Cond.instanceMethod yX2_teaches ∈ jT := kw2_13.2.2.2.2.1
theorem jwX_X2_teaches : Cond.selects RX2 yX2_teaches yX2_teaches ∈ jT := kw2_13.2.2.2.2.2.1
theorem jwO_X2_teaches : Cond.code (mX2_teaches).1 (mX2_teaches).2.1 (mX2_teaches).2.2.1 (mX2_teaches).2.2.2 ∈ jT := kw2_13.2.2.2.2.2.2.1
theorem jwM_X2_48 : Cond.methodLink RX2 48 yJ6_bitCount_0f7a4 ∈ jT := kw2_13.2.2.2.2.2.2.2.1
theorem jwM_X10_126 : Cond.methodLink RX10 126 yX2_worth ∈ jT := kw2_13.2.2.2.2.2.2.2.2.1
theorem jwN_X2_worth : Cond.instanceMethod yX2_worth ∈ jT := kw2_13.2.2.2.2.2.2.2.2.2.1
theorem jwX_X2_worth : Cond.selects RX2 yX2_worth yX2_worth ∈ jT := kw2_13.2.2.2.2.2.2.2.2.2.2.1
theorem jwO_X2_worth : Cond.code (mX2_worth).1 (mX2_worth).2.1 (mX2_worth).2.2.1 (mX2_worth).2.2.2 ∈ jT := kw2_13.2.2.2.2.2.2.2.2.2.2.2.1
theorem jwM_L_23 : Cond.methodLink RL 23 yX10_as ∈ jT := kw2_13.2.2.2.2.2.2.2.2.2.2.2.2.1
theorem jwN_X10_as : Cond.instanceMethod yX10_as ∈ jT := kw2_13.2.2.2.2.2.2.2.2.2.2.2.2.2.1
theorem jwX_X10_as : Cond.selects RX10 yX10_as yX10_as ∈ jT := kw2_13.2.2.2.2.2.2.2.2.2.2.2.2.2.2.1
theorem jwO_X10_as : Cond.code (mX10_as).1 (mX10_as).2.1 (mX10_as).2.2.1 (mX10_as).2.2.2 ∈ jT := kw2_13.2.2.2.2.2.2.2.2.2.2.2.2.2.2.2.1
set_option maxRecDepth 100000 in
theorem kw2_14 : (Cond.methodLink RX10 130 yX2_isOf ∈ jT) ∧ (Cond.instanceMethod yX2_isOf ∈ jT) ∧ (Cond.selects RX2 yX2_isOf yX2_isOf ∈ jT) ∧ (Cond.code (mX2_isOf).1 (mX2_isOf).2.1 (mX2_isOf).2.2.1 (mX2_isOf).2.2.2 ∈ jT) ∧ (Cond.constant RX10 133 (-1000000012) ∈ jT) ∧ (Cond.methodLink RL 27 yX10_turns ∈ jT) ∧ (Cond.instanceMethod yX10_turns ∈ jT) ∧ (Cond.selects RX10 yX10_turns yX10_turns ∈ jT) ∧ (Cond.code (mX10_turns).1 (mX10_turns).2.1 (mX10_turns).2.2.1 (mX10_turns).2.2.2 ∈ jT) ∧ (Cond.methodLink RL 31 yX10_set ∈ jT) ∧ (Cond.instanceMethod yX10_set ∈ jT) ∧ (Cond.selects RX10 yX10_set yX10_set ∈ jT) ∧ (Cond.code (mX10_set).1 (mX10_set).2.1 (mX10_set).2.2.1 (mX10_set).2.2.2 ∈ jT) ∧ kws (tables_1_2.drop 224) := kw_g kw2_13.2.2.2.2.2.2.2.2.2.2.2.2.2.2.2.2 rfl fun h => kw_g h rfl fun h => kw_g h rfl fun h => kw_g h rfl fun h => kw_s h fun h => kw_s h fun h => kw_s h fun h => kw_g h rfl fun h => kw_g h rfl fun h => kw_g h rfl fun h => kw_g h rfl fun h => kw_g h rfl fun h => kw_g h rfl fun h => kw_g h rfl fun h => kw_g h rfl fun h => kw_g h rfl fun h => h
theorem jwM_X10_130 : Cond.methodLink RX10 130 yX2_isOf ∈ jT := kw2_14.1
theorem jwN_X2_isOf : Cond.instanceMethod yX2_isOf ∈ jT := kw2_14.2.1
theorem jwX_X2_isOf : Cond.selects RX2 yX2_isOf yX2_isOf ∈ jT := kw2_14.2.2.1
theorem jwO_X2_isOf : Cond.code (mX2_isOf).1 (mX2_isOf).2.1 (mX2_isOf).2.2.1 (mX2_isOf).2.2.2 ∈ jT := kw2_14.2.2.2.1
theorem jwC_X10_133 : Cond.constant RX10 133 (-1000000012) ∈ jT := kw2_14.2.2.2.2.1
theorem jwM_L_27 : Cond.methodLink RL 27 yX10_turns ∈ jT := kw2_14.2.2.2.2.2.1
theorem jwN_X10_turns : Cond.instanceMethod yX10_turns ∈ jT := kw2_14.2.2.2.2.2.2.1
theorem jwX_X10_turns : Cond.selects RX10 yX10_turns yX10_turns ∈ jT := kw2_14.2.2.2.2.2.2.2.1
theorem jwO_X10_turns : Cond.code (mX10_turns).1 (mX10_turns).2.1 (mX10_turns).2.2.1 (mX10_turns).2.2.2 ∈ jT := kw2_14.2.2.2.2.2.2.2.2.1
theorem jwM_L_31 : Cond.methodLink RL 31 yX10_set ∈ jT := kw2_14.2.2.2.2.2.2.2.2.2.1
theorem jwN_X10_set : Cond.instanceMethod yX10_set ∈ jT := kw2_14.2.2.2.2.2.2.2.2.2.2.1
theorem jwX_X10_set : Cond.selects RX10 yX10_set yX10_set ∈ jT := kw2_14.2.2.2.2.2.2.2.2.2.2.2.1
theorem jwO_X10_set : Cond.code (mX10_set).1 (mX10_set).2.1 (mX10_set).2.2.1 (mX10_set).2.2.2 ∈ jT := kw2_14.2.2.2.2.2.2.2.2.2.2.2.2.1
set_option maxRecDepth 100000 in
theorem kw2_15 : (Cond.methodLink RX10 134 yX10_setFee ∈ jT) ∧ (Cond.static yX10_setFee ∈ jT) ∧ (Cond.code (mX10_setFee).1 (mX10_setFee).2.1 (mX10_setFee).2.2.1 (mX10_setFee).2.2.2 ∈ jT) ∧ (Cond.methodLink RX10 137 yX10_setAge ∈ jT) ∧ (Cond.static yX10_setAge ∈ jT) ∧ (Cond.code (mX10_setAge).1 (mX10_setAge).2.1 (mX10_setAge).2.2.1 (mX10_setAge).2.2.2 ∈ jT) ∧ (Cond.methodLink RX10 140 yX10_setDead ∈ jT) ∧ (Cond.static yX10_setDead ∈ jT) ∧ (Cond.code (mX10_setDead).1 (mX10_setDead).2.1 (mX10_setDead).2.2.1 (mX10_setDead).2.2.2 ∈ jT) ∧ (Cond.methodLink RL 36 yX10_bars ∈ jT) ∧ (Cond.instanceMethod yX10_bars ∈ jT) ∧ (Cond.selects RX10 yX10_bars yX10_bars ∈ jT) ∧ (Cond.code (mX10_bars).1 (mX10_bars).2.1 (mX10_bars).2.2.1 (mX10_bars).2.2.2 ∈ jT) ∧ (Cond.methodLink RL 40 yX10_road ∈ jT) ∧ (Cond.instanceMethod yX10_road ∈ jT) ∧ (Cond.selects RX10 yX10_road yX10_road ∈ jT) ∧ kws (tables_1_2.drop 240) := kw_g kw2_14.2.2.2.2.2.2.2.2.2.2.2.2.2 rfl fun h => kw_g h rfl fun h => kw_g h rfl fun h => kw_g h rfl fun h => kw_g h rfl fun h => kw_g h rfl fun h => kw_g h rfl fun h => kw_g h rfl fun h => kw_g h rfl fun h => kw_g h rfl fun h => kw_g h rfl fun h => kw_g h rfl fun h => kw_g h rfl fun h => kw_g h rfl fun h => kw_g h rfl fun h => kw_g h rfl fun h => h
theorem jwM_X10_134 : Cond.methodLink RX10 134 yX10_setFee ∈ jT := kw2_15.1
theorem jwS_X10_setFee : Cond.static yX10_setFee ∈ jT := kw2_15.2.1
theorem jwO_X10_setFee : Cond.code (mX10_setFee).1 (mX10_setFee).2.1 (mX10_setFee).2.2.1 (mX10_setFee).2.2.2 ∈ jT := kw2_15.2.2.1
theorem jwM_X10_137 : Cond.methodLink RX10 137 yX10_setAge ∈ jT := kw2_15.2.2.2.1
theorem jwS_X10_setAge : Cond.static yX10_setAge ∈ jT := kw2_15.2.2.2.2.1
theorem jwO_X10_setAge : Cond.code (mX10_setAge).1 (mX10_setAge).2.1 (mX10_setAge).2.2.1 (mX10_setAge).2.2.2 ∈ jT := kw2_15.2.2.2.2.2.1
theorem jwM_X10_140 : Cond.methodLink RX10 140 yX10_setDead ∈ jT := kw2_15.2.2.2.2.2.2.1
theorem jwS_X10_setDead : Cond.static yX10_setDead ∈ jT := kw2_15.2.2.2.2.2.2.2.1
theorem jwO_X10_setDead : Cond.code (mX10_setDead).1 (mX10_setDead).2.1 (mX10_setDead).2.2.1 (mX10_setDead).2.2.2 ∈ jT := kw2_15.2.2.2.2.2.2.2.2.1
theorem jwM_L_36 : Cond.methodLink RL 36 yX10_bars ∈ jT := kw2_15.2.2.2.2.2.2.2.2.2.1
theorem jwN_X10_bars : Cond.instanceMethod yX10_bars ∈ jT := kw2_15.2.2.2.2.2.2.2.2.2.2.1
theorem jwX_X10_bars : Cond.selects RX10 yX10_bars yX10_bars ∈ jT := kw2_15.2.2.2.2.2.2.2.2.2.2.2.1
theorem jwO_X10_bars : Cond.code (mX10_bars).1 (mX10_bars).2.1 (mX10_bars).2.2.1 (mX10_bars).2.2.2 ∈ jT := kw2_15.2.2.2.2.2.2.2.2.2.2.2.2.1
theorem jwM_L_40 : Cond.methodLink RL 40 yX10_road ∈ jT := kw2_15.2.2.2.2.2.2.2.2.2.2.2.2.2.1
theorem jwN_X10_road : Cond.instanceMethod yX10_road ∈ jT := kw2_15.2.2.2.2.2.2.2.2.2.2.2.2.2.2.1
theorem jwX_X10_road : Cond.selects RX10 yX10_road yX10_road ∈ jT := kw2_15.2.2.2.2.2.2.2.2.2.2.2.2.2.2.2.1
theorem kw0_3 : kws (tables_1_3.drop 0) := fun w h => jm_3 h
set_option maxRecDepth 100000 in
theorem kw3_1 : (Cond.code (mX10_road).1 (mX10_road).2.1 (mX10_road).2.2.1 (mX10_road).2.2.2 ∈ jT) ∧ (Cond.methodLink RX10 147 yX4_direct ∈ jT) ∧ (Cond.instanceMethod yX4_direct ∈ jT) ∧ (Cond.selects RX4 yX4_direct yX4_direct ∈ jT) ∧ (Cond.code (mX4_direct).1 (mX4_direct).2.1 (mX4_direct).2.2.1 (mX4_direct).2.2.2 ∈ jT) ∧ (Cond.methodLink RX10 153 yX4_build ∈ jT) ∧ (Cond.instanceMethod yX4_build ∈ jT) ∧ (Cond.selects RX4 yX4_build yX4_build ∈ jT) ∧ (Cond.code (mX4_build).1 (mX4_build).2.1 (mX4_build).2.2.1 (mX4_build).2.2.2 ∈ jT) ∧ (Cond.methodLink RL 44 yX10_far ∈ jT) ∧ (Cond.instanceMethod yX10_far ∈ jT) ∧ (Cond.selects RX10 yX10_far yX10_far ∈ jT) ∧ (Cond.code (mX10_far).1 (mX10_far).2.1 (mX10_far).2.2.1 (mX10_far).2.2.2 ∈ jT) ∧ (Cond.methodLink RX10 157 yX4_fewest ∈ jT) ∧ (Cond.instanceMethod yX4_fewest ∈ jT) ∧ kws (tables_1_3.drop 16) := kw_g kw0_3 rfl fun h => kw_g h rfl fun h => kw_g h rfl fun h => kw_g h rfl fun h => kw_g h rfl fun h => kw_s h fun h => kw_g h rfl fun h => kw_g h rfl fun h => kw_g h rfl fun h => kw_g h rfl fun h => kw_g h rfl fun h => kw_g h rfl fun h => kw_g h rfl fun h => kw_g h rfl fun h => kw_g h rfl fun h => kw_g h rfl fun h => h
theorem jwO_X10_road : Cond.code (mX10_road).1 (mX10_road).2.1 (mX10_road).2.2.1 (mX10_road).2.2.2 ∈ jT := kw3_1.1
theorem jwM_X10_147 : Cond.methodLink RX10 147 yX4_direct ∈ jT := kw3_1.2.1
theorem jwN_X4_direct : Cond.instanceMethod yX4_direct ∈ jT := kw3_1.2.2.1
theorem jwX_X4_direct : Cond.selects RX4 yX4_direct yX4_direct ∈ jT := kw3_1.2.2.2.1
theorem jwO_X4_direct : Cond.code (mX4_direct).1 (mX4_direct).2.1 (mX4_direct).2.2.1 (mX4_direct).2.2.2 ∈ jT := kw3_1.2.2.2.2.1
theorem jwM_X10_153 : Cond.methodLink RX10 153 yX4_build ∈ jT := kw3_1.2.2.2.2.2.1
theorem jwN_X4_build : Cond.instanceMethod yX4_build ∈ jT := kw3_1.2.2.2.2.2.2.1
theorem jwX_X4_build : Cond.selects RX4 yX4_build yX4_build ∈ jT := kw3_1.2.2.2.2.2.2.2.1
theorem jwO_X4_build : Cond.code (mX4_build).1 (mX4_build).2.1 (mX4_build).2.2.1 (mX4_build).2.2.2 ∈ jT := kw3_1.2.2.2.2.2.2.2.2.1
theorem jwM_L_44 : Cond.methodLink RL 44 yX10_far ∈ jT := kw3_1.2.2.2.2.2.2.2.2.2.1
theorem jwN_X10_far : Cond.instanceMethod yX10_far ∈ jT := kw3_1.2.2.2.2.2.2.2.2.2.2.1
theorem jwX_X10_far : Cond.selects RX10 yX10_far yX10_far ∈ jT := kw3_1.2.2.2.2.2.2.2.2.2.2.2.1
theorem jwO_X10_far : Cond.code (mX10_far).1 (mX10_far).2.1 (mX10_far).2.2.1 (mX10_far).2.2.2 ∈ jT := kw3_1.2.2.2.2.2.2.2.2.2.2.2.2.1
theorem jwM_X10_157 : Cond.methodLink RX10 157 yX4_fewest ∈ jT := kw3_1.2.2.2.2.2.2.2.2.2.2.2.2.2.1
theorem jwN_X4_fewest : Cond.instanceMethod yX4_fewest ∈ jT := kw3_1.2.2.2.2.2.2.2.2.2.2.2.2.2.2.1
set_option maxRecDepth 100000 in
theorem kw3_2 : (Cond.selects RX4 yX4_fewest yX4_fewest ∈ jT) ∧ (Cond.code (mX4_fewest).1 (mX4_fewest).2.1 (mX4_fewest).2.2.1 (mX4_fewest).2.2.2 ∈ jT) ∧ (Cond.constant RX10 160 (-1000000005) ∈ jT) ∧ (Cond.methodLink RL 48 yX10_deal ∈ jT) ∧ (Cond.instanceMethod yX10_deal ∈ jT) ∧ (Cond.selects RX10 yX10_deal yX10_deal ∈ jT) ∧ (Cond.code (mX10_deal).1 (mX10_deal).2.1 (mX10_deal).2.2.1 (mX10_deal).2.2.2 ∈ jT) ∧ (Cond.methodLink RX10 161 Lib.Math.min.name ∈ jT) ∧ (Cond.methodLink RX10 166 yX0_joinByLot ∈ jT) ∧ (Cond.instanceMethod yX0_joinByLot ∈ jT) ∧ (Cond.selects RX0 yX0_joinByLot yX0_joinByLot ∈ jT) ∧ (Cond.code (mX0_joinByLot).1 (mX0_joinByLot).2.1 (mX0_joinByLot).2.2.1 (mX0_joinByLot).2.2.2 ∈ jT) ∧ (Cond.methodLink RX0 37 yX0_draw ∈ jT) ∧ (Cond.instanceMethod yX0_draw ∈ jT) ∧ (Cond.code (mX0_draw).1 (mX0_draw).2.1 (mX0_draw).2.2.1 (mX0_draw).2.2.2 ∈ jT) ∧ kws (tables_1_3.drop 32) := kw_g kw3_1.2.2.2.2.2.2.2.2.2.2.2.2.2.2.2 rfl fun h => kw_g h rfl fun h => kw_g h rfl fun h => kw_g h rfl fun h => kw_g h rfl fun h => kw_g h rfl fun h => kw_g h rfl fun h => kw_g h rfl fun h => kw_g h rfl fun h => kw_g h rfl fun h => kw_g h rfl fun h => kw_g h rfl fun h => kw_g h rfl fun h => kw_s h fun h => kw_g h rfl fun h => kw_g h rfl fun h => h
theorem jwX_X4_fewest : Cond.selects RX4 yX4_fewest yX4_fewest ∈ jT := kw3_2.1
theorem jwO_X4_fewest : Cond.code (mX4_fewest).1 (mX4_fewest).2.1 (mX4_fewest).2.2.1 (mX4_fewest).2.2.2 ∈ jT := kw3_2.2.1
theorem jwC_X10_160 : Cond.constant RX10 160 (-1000000005) ∈ jT := kw3_2.2.2.1
theorem jwM_L_48 : Cond.methodLink RL 48 yX10_deal ∈ jT := kw3_2.2.2.2.1
theorem jwN_X10_deal : Cond.instanceMethod yX10_deal ∈ jT := kw3_2.2.2.2.2.1
theorem jwX_X10_deal : Cond.selects RX10 yX10_deal yX10_deal ∈ jT := kw3_2.2.2.2.2.2.1
theorem jwO_X10_deal : Cond.code (mX10_deal).1 (mX10_deal).2.1 (mX10_deal).2.2.1 (mX10_deal).2.2.2 ∈ jT := kw3_2.2.2.2.2.2.2.1
theorem jwM_X10_161 : Cond.methodLink RX10 161 Lib.Math.min.name ∈ jT := kw3_2.2.2.2.2.2.2.2.1
theorem jwM_X10_166 : Cond.methodLink RX10 166 yX0_joinByLot ∈ jT := kw3_2.2.2.2.2.2.2.2.2.1
theorem jwN_X0_joinByLot : Cond.instanceMethod yX0_joinByLot ∈ jT := kw3_2.2.2.2.2.2.2.2.2.2.1
theorem jwX_X0_joinByLot : Cond.selects RX0 yX0_joinByLot yX0_joinByLot ∈ jT := kw3_2.2.2.2.2.2.2.2.2.2.2.1
theorem jwO_X0_joinByLot : Cond.code (mX0_joinByLot).1 (mX0_joinByLot).2.1 (mX0_joinByLot).2.2.1 (mX0_joinByLot).2.2.2 ∈ jT := kw3_2.2.2.2.2.2.2.2.2.2.2.2.1
theorem jwM_X0_37 : Cond.methodLink RX0 37 yX0_draw ∈ jT := kw3_2.2.2.2.2.2.2.2.2.2.2.2.2.1
theorem jwN_X0_draw : Cond.instanceMethod yX0_draw ∈ jT := kw3_2.2.2.2.2.2.2.2.2.2.2.2.2.2.1
theorem jwO_X0_draw : Cond.code (mX0_draw).1 (mX0_draw).2.1 (mX0_draw).2.2.1 (mX0_draw).2.2.2 ∈ jT := kw3_2.2.2.2.2.2.2.2.2.2.2.2.2.2.2.1
set_option maxRecDepth 100000 in
theorem kw3_3 : (Cond.constant RX0 45 1103515245 ∈ jT) ∧ (Cond.methodLink RX0 41 yX0_join ∈ jT) ∧ (Cond.methodLink RL 53 yX10_seed ∈ jT) ∧ (Cond.instanceMethod yX10_seed ∈ jT) ∧ (Cond.selects RX10 yX10_seed yX10_seed ∈ jT) ∧ (Cond.code (mX10_seed).1 (mX10_seed).2.1 (mX10_seed).2.2.1 (mX10_seed).2.2.2 ∈ jT) ∧ (Cond.methodLink RL 57 yX10_apprentice ∈ jT) ∧ (Cond.instanceMethod yX10_apprentice ∈ jT) ∧ (Cond.selects RX10 yX10_apprentice yX10_apprentice ∈ jT) ∧ (Cond.code (mX10_apprentice).1 (mX10_apprentice).2.1 (mX10_apprentice).2.2.1 (mX10_apprentice).2.2.2 ∈ jT) ∧ (Cond.methodLink RL 61 yX10_has ∈ jT) ∧ (Cond.instanceMethod yX10_has ∈ jT) ∧ (Cond.selects RX10 yX10_has yX10_has ∈ jT) ∧ (Cond.code (mX10_has).1 (mX10_has).2.1 (mX10_has).2.2.1 (mX10_has).2.2.2 ∈ jT) ∧ (Cond.methodLink RL 65 yX10_knows ∈ jT) ∧ (Cond.instanceMethod yX10_knows ∈ jT) ∧ kws (tables_1_3.drop 48) := kw_g kw3_2.2.2.2.2.2.2.2.2.2.2.2.2.2.2.2 rfl fun h => kw_g h rfl fun h => kw_g h rfl fun h => kw_g h rfl fun h => kw_g h rfl fun h => kw_g h rfl fun h => kw_g h rfl fun h => kw_g h rfl fun h => kw_g h rfl fun h => kw_g h rfl fun h => kw_g h rfl fun h => kw_g h rfl fun h => kw_g h rfl fun h => kw_g h rfl fun h => kw_g h rfl fun h => kw_g h rfl fun h => h
theorem jwC_X0_45 : Cond.constant RX0 45 1103515245 ∈ jT := kw3_3.1
theorem jwM_X0_41 : Cond.methodLink RX0 41 yX0_join ∈ jT := kw3_3.2.1
theorem jwM_L_53 : Cond.methodLink RL 53 yX10_seed ∈ jT := kw3_3.2.2.1
theorem jwN_X10_seed : Cond.instanceMethod yX10_seed ∈ jT := kw3_3.2.2.2.1
theorem jwX_X10_seed : Cond.selects RX10 yX10_seed yX10_seed ∈ jT := kw3_3.2.2.2.2.1
theorem jwO_X10_seed : Cond.code (mX10_seed).1 (mX10_seed).2.1 (mX10_seed).2.2.1 (mX10_seed).2.2.2 ∈ jT := kw3_3.2.2.2.2.2.1
theorem jwM_L_57 : Cond.methodLink RL 57 yX10_apprentice ∈ jT := kw3_3.2.2.2.2.2.2.1
theorem jwN_X10_apprentice : Cond.instanceMethod yX10_apprentice ∈ jT := kw3_3.2.2.2.2.2.2.2.1
theorem jwX_X10_apprentice : Cond.selects RX10 yX10_apprentice yX10_apprentice ∈ jT := kw3_3.2.2.2.2.2.2.2.2.1
theorem jwO_X10_apprentice : Cond.code (mX10_apprentice).1 (mX10_apprentice).2.1 (mX10_apprentice).2.2.1 (mX10_apprentice).2.2.2 ∈ jT := kw3_3.2.2.2.2.2.2.2.2.2.1
theorem jwM_L_61 : Cond.methodLink RL 61 yX10_has ∈ jT := kw3_3.2.2.2.2.2.2.2.2.2.2.1
theorem jwN_X10_has : Cond.instanceMethod yX10_has ∈ jT := kw3_3.2.2.2.2.2.2.2.2.2.2.2.1
theorem jwX_X10_has : Cond.selects RX10 yX10_has yX10_has ∈ jT := kw3_3.2.2.2.2.2.2.2.2.2.2.2.2.1
theorem jwO_X10_has : Cond.code (mX10_has).1 (mX10_has).2.1 (mX10_has).2.2.1 (mX10_has).2.2.2 ∈ jT := kw3_3.2.2.2.2.2.2.2.2.2.2.2.2.2.1
theorem jwM_L_65 : Cond.methodLink RL 65 yX10_knows ∈ jT := kw3_3.2.2.2.2.2.2.2.2.2.2.2.2.2.2.1
theorem jwN_X10_knows : Cond.instanceMethod yX10_knows ∈ jT := kw3_3.2.2.2.2.2.2.2.2.2.2.2.2.2.2.2.1
set_option maxRecDepth 100000 in
theorem kw3_4 : (Cond.selects RX10 yX10_knows yX10_knows ∈ jT) ∧ (Cond.code (mX10_knows).1 (mX10_knows).2.1 (mX10_knows).2.2.1 (mX10_knows).2.2.2 ∈ jT) ∧ (Cond.methodLink RX10 181 yX1_isAble ∈ jT) ∧ (Cond.instanceMethod yX1_isAble ∈ jT) ∧ (Cond.selects RX1 yX1_isAble yX1_isAble ∈ jT) ∧ (Cond.code (mX1_isAble).1 (mX1_isAble).2.1 (mX1_isAble).2.2.1 (mX1_isAble).2.2.2 ∈ jT) ∧ (Cond.constant RX10 184 (-1000000002) ∈ jT) ∧ (Cond.methodLink RL 69 yX10_go ∈ jT) ∧ (Cond.instanceMethod yX10_go ∈ jT) ∧ (Cond.selects RX10 yX10_go yX10_go ∈ jT) ∧ (Cond.code (mX10_go).1 (mX10_go).2.1 (mX10_go).2.2.1 (mX10_go).2.2.2 ∈ jT) ∧ (Cond.methodLink RX10 191 yX1_passDays ∈ jT) ∧ (Cond.instanceMethod yX1_passDays ∈ jT) ∧ (Cond.selects RX1 yX1_passDays yX1_passDays ∈ jT) ∧ (Cond.code (mX1_passDays).1 (mX1_passDays).2.1 (mX1_passDays).2.2.1 (mX1_passDays).2.2.2 ∈ jT) ∧ kws (tables_1_3.drop 64) := kw_g kw3_3.2.2.2.2.2.2.2.2.2.2.2.2.2.2.2.2 rfl fun h => kw_g h rfl fun h => kw_g h rfl fun h => kw_g h rfl fun h => kw_g h rfl fun h => kw_g h rfl fun h => kw_s h fun h => kw_g h rfl fun h => kw_g h rfl fun h => kw_g h rfl fun h => kw_g h rfl fun h => kw_g h rfl fun h => kw_g h rfl fun h => kw_g h rfl fun h => kw_g h rfl fun h => kw_g h rfl fun h => h
theorem jwX_X10_knows : Cond.selects RX10 yX10_knows yX10_knows ∈ jT := kw3_4.1
theorem jwO_X10_knows : Cond.code (mX10_knows).1 (mX10_knows).2.1 (mX10_knows).2.2.1 (mX10_knows).2.2.2 ∈ jT := kw3_4.2.1
theorem jwM_X10_181 : Cond.methodLink RX10 181 yX1_isAble ∈ jT := kw3_4.2.2.1
theorem jwN_X1_isAble : Cond.instanceMethod yX1_isAble ∈ jT := kw3_4.2.2.2.1
theorem jwX_X1_isAble : Cond.selects RX1 yX1_isAble yX1_isAble ∈ jT := kw3_4.2.2.2.2.1
theorem jwO_X1_isAble : Cond.code (mX1_isAble).1 (mX1_isAble).2.1 (mX1_isAble).2.2.1 (mX1_isAble).2.2.2 ∈ jT := kw3_4.2.2.2.2.2.1
theorem jwC_X10_184 : Cond.constant RX10 184 (-1000000002) ∈ jT := kw3_4.2.2.2.2.2.2.1
theorem jwM_L_69 : Cond.methodLink RL 69 yX10_go ∈ jT := kw3_4.2.2.2.2.2.2.2.1
theorem jwN_X10_go : Cond.instanceMethod yX10_go ∈ jT := kw3_4.2.2.2.2.2.2.2.2.1
theorem jwX_X10_go : Cond.selects RX10 yX10_go yX10_go ∈ jT := kw3_4.2.2.2.2.2.2.2.2.2.1
theorem jwO_X10_go : Cond.code (mX10_go).1 (mX10_go).2.1 (mX10_go).2.2.1 (mX10_go).2.2.2 ∈ jT := kw3_4.2.2.2.2.2.2.2.2.2.2.1
theorem jwM_X10_191 : Cond.methodLink RX10 191 yX1_passDays ∈ jT := kw3_4.2.2.2.2.2.2.2.2.2.2.2.1
theorem jwN_X1_passDays : Cond.instanceMethod yX1_passDays ∈ jT := kw3_4.2.2.2.2.2.2.2.2.2.2.2.2.1
theorem jwX_X1_passDays : Cond.selects RX1 yX1_passDays yX1_passDays ∈ jT := kw3_4.2.2.2.2.2.2.2.2.2.2.2.2.2.1
theorem jwO_X1_passDays : Cond.code (mX1_passDays).1 (mX1_passDays).2.1 (mX1_passDays).2.2.1 (mX1_passDays).2.2.2 ∈ jT := kw3_4.2.2.2.2.2.2.2.2.2.2.2.2.2.2.1
set_option maxRecDepth 100000 in
theorem kw3_5 : (Cond.methodLink RX1 44 Lib.Math.min.name ∈ jT) ∧ (Cond.methodLink RX1 50 yX1_isAble ∈ jT) ∧ (Cond.methodLink RL 73 yX10_learn ∈ jT) ∧ (Cond.instanceMethod yX10_learn ∈ jT) ∧ (Cond.selects RX10 yX10_learn yX10_learn ∈ jT) ∧ (Cond.code (mX10_learn).1 (mX10_learn).2.1 (mX10_learn).2.2.1 (mX10_learn).2.2.2 ∈ jT) ∧ (Cond.methodLink RX10 198 yX1_canLearnOf ∈ jT) ∧ (Cond.instanceMethod yX1_canLearnOf ∈ jT) ∧ (Cond.selects RX1 yX1_canLearnOf yX1_canLearnOf ∈ jT) ∧ (Cond.code (mX1_canLearnOf).1 (mX1_canLearnOf).2.1 (mX1_canLearnOf).2.2.1 (mX1_canLearnOf).2.2.2 ∈ jT) ∧ (Cond.methodLink RX1 63 yX2_teaches ∈ jT) ∧ (Cond.methodLink RX10 202 yX1_learnOf ∈ jT) ∧ (Cond.instanceMethod yX1_learnOf ∈ jT) ∧ (Cond.selects RX1 yX1_learnOf yX1_learnOf ∈ jT) ∧ (Cond.code (mX1_learnOf).1 (mX1_learnOf).2.1 (mX1_learnOf).2.2.1 (mX1_learnOf).2.2.2 ∈ jT) ∧ (Cond.methodLink RX1 72 yX1_passDays ∈ jT) ∧ kws (tables_1_3.drop 80) := kw_g kw3_4.2.2.2.2.2.2.2.2.2.2.2.2.2.2.2 rfl fun h => kw_g h rfl fun h => kw_g h rfl fun h => kw_g h rfl fun h => kw_g h rfl fun h => kw_g h rfl fun h => kw_g h rfl fun h => kw_g h rfl fun h => kw_g h rfl fun h => kw_g h rfl fun h => kw_g h rfl fun h => kw_g h rfl fun h => kw_g h rfl fun h => kw_g h rfl fun h => kw_g h rfl fun h => kw_g h rfl fun h => h
theorem jwM_X1_44 : Cond.methodLink RX1 44 Lib.Math.min.name ∈ jT := kw3_5.1
theorem jwM_X1_50 : Cond.methodLink RX1 50 yX1_isAble ∈ jT := kw3_5.2.1
theorem jwM_L_73 : Cond.methodLink RL 73 yX10_learn ∈ jT := kw3_5.2.2.1
theorem jwN_X10_learn : Cond.instanceMethod yX10_learn ∈ jT := kw3_5.2.2.2.1
theorem jwX_X10_learn : Cond.selects RX10 yX10_learn yX10_learn ∈ jT := kw3_5.2.2.2.2.1
theorem jwO_X10_learn : Cond.code (mX10_learn).1 (mX10_learn).2.1 (mX10_learn).2.2.1 (mX10_learn).2.2.2 ∈ jT := kw3_5.2.2.2.2.2.1
theorem jwM_X10_198 : Cond.methodLink RX10 198 yX1_canLearnOf ∈ jT := kw3_5.2.2.2.2.2.2.1
theorem jwN_X1_canLearnOf : Cond.instanceMethod yX1_canLearnOf ∈ jT := kw3_5.2.2.2.2.2.2.2.1
theorem jwX_X1_canLearnOf : Cond.selects RX1 yX1_canLearnOf yX1_canLearnOf ∈ jT := kw3_5.2.2.2.2.2.2.2.2.1
theorem jwO_X1_canLearnOf : Cond.code (mX1_canLearnOf).1 (mX1_canLearnOf).2.1 (mX1_canLearnOf).2.2.1 (mX1_canLearnOf).2.2.2 ∈ jT := kw3_5.2.2.2.2.2.2.2.2.2.1
theorem jwM_X1_63 : Cond.methodLink RX1 63 yX2_teaches ∈ jT := kw3_5.2.2.2.2.2.2.2.2.2.2.1
theorem jwM_X10_202 : Cond.methodLink RX10 202 yX1_learnOf ∈ jT := kw3_5.2.2.2.2.2.2.2.2.2.2.2.1
theorem jwN_X1_learnOf : Cond.instanceMethod yX1_learnOf ∈ jT := kw3_5.2.2.2.2.2.2.2.2.2.2.2.2.1
theorem jwX_X1_learnOf : Cond.selects RX1 yX1_learnOf yX1_learnOf ∈ jT := kw3_5.2.2.2.2.2.2.2.2.2.2.2.2.2.1
theorem jwO_X1_learnOf : Cond.code (mX1_learnOf).1 (mX1_learnOf).2.1 (mX1_learnOf).2.2.1 (mX1_learnOf).2.2.2 ∈ jT := kw3_5.2.2.2.2.2.2.2.2.2.2.2.2.2.2.1
theorem jwM_X1_72 : Cond.methodLink RX1 72 yX1_passDays ∈ jT := kw3_5.2.2.2.2.2.2.2.2.2.2.2.2.2.2.2.1
set_option maxRecDepth 100000 in
theorem kw3_6 : (Cond.methodLink RX1 76 yX2_unlearnt ∈ jT) ∧ (Cond.instanceMethod yX2_unlearnt ∈ jT) ∧ (Cond.selects RX2 yX2_unlearnt yX2_unlearnt ∈ jT) ∧ (Cond.code (mX2_unlearnt).1 (mX2_unlearnt).2.1 (mX2_unlearnt).2.2.1 (mX2_unlearnt).2.2.2 ∈ jT) ∧ (Cond.methodLink RL 77 yX10_use ∈ jT) ∧ (Cond.instanceMethod yX10_use ∈ jT) ∧ (Cond.selects RX10 yX10_use yX10_use ∈ jT) ∧ (Cond.code (mX10_use).1 (mX10_use).2.1 (mX10_use).2.2.1 (mX10_use).2.2.2 ∈ jT) ∧ (Cond.methodLink RX10 206 yX1_practise ∈ jT) ∧ (Cond.instanceMethod yX1_practise ∈ jT) ∧ (Cond.selects RX1 yX1_practise yX1_practise ∈ jT) ∧ (Cond.code (mX1_practise).1 (mX1_practise).2.1 (mX1_practise).2.2.1 (mX1_practise).2.2.2 ∈ jT) ∧ (Cond.methodLink RL 81 yX10_rests ∈ jT) ∧ (Cond.instanceMethod yX10_rests ∈ jT) ∧ (Cond.selects RX10 yX10_rests yX10_rests ∈ jT) ∧ (Cond.code (mX10_rests).1 (mX10_rests).2.1 (mX10_rests).2.2.1 (mX10_rests).2.2.2 ∈ jT) ∧ kws (tables_1_3.drop 96) := kw_g kw3_5.2.2.2.2.2.2.2.2.2.2.2.2.2.2.2.2 rfl fun h => kw_g h rfl fun h => kw_g h rfl fun h => kw_g h rfl fun h => kw_g h rfl fun h => kw_g h rfl fun h => kw_g h rfl fun h => kw_g h rfl fun h => kw_g h rfl fun h => kw_g h rfl fun h => kw_g h rfl fun h => kw_g h rfl fun h => kw_g h rfl fun h => kw_g h rfl fun h => kw_g h rfl fun h => kw_g h rfl fun h => h
theorem jwM_X1_76 : Cond.methodLink RX1 76 yX2_unlearnt ∈ jT := kw3_6.1
theorem jwN_X2_unlearnt : Cond.instanceMethod yX2_unlearnt ∈ jT := kw3_6.2.1
theorem jwX_X2_unlearnt : Cond.selects RX2 yX2_unlearnt yX2_unlearnt ∈ jT := kw3_6.2.2.1
theorem jwO_X2_unlearnt : Cond.code (mX2_unlearnt).1 (mX2_unlearnt).2.1 (mX2_unlearnt).2.2.1 (mX2_unlearnt).2.2.2 ∈ jT := kw3_6.2.2.2.1
theorem jwM_L_77 : Cond.methodLink RL 77 yX10_use ∈ jT := kw3_6.2.2.2.2.1
theorem jwN_X10_use : Cond.instanceMethod yX10_use ∈ jT := kw3_6.2.2.2.2.2.1
theorem jwX_X10_use : Cond.selects RX10 yX10_use yX10_use ∈ jT := kw3_6.2.2.2.2.2.2.1
theorem jwO_X10_use : Cond.code (mX10_use).1 (mX10_use).2.1 (mX10_use).2.2.1 (mX10_use).2.2.2 ∈ jT := kw3_6.2.2.2.2.2.2.2.1
theorem jwM_X10_206 : Cond.methodLink RX10 206 yX1_practise ∈ jT := kw3_6.2.2.2.2.2.2.2.2.1
theorem jwN_X1_practise : Cond.instanceMethod yX1_practise ∈ jT := kw3_6.2.2.2.2.2.2.2.2.2.1
theorem jwX_X1_practise : Cond.selects RX1 yX1_practise yX1_practise ∈ jT := kw3_6.2.2.2.2.2.2.2.2.2.2.1
theorem jwO_X1_practise : Cond.code (mX1_practise).1 (mX1_practise).2.1 (mX1_practise).2.2.1 (mX1_practise).2.2.2 ∈ jT := kw3_6.2.2.2.2.2.2.2.2.2.2.2.1
theorem jwM_L_81 : Cond.methodLink RL 81 yX10_rests ∈ jT := kw3_6.2.2.2.2.2.2.2.2.2.2.2.2.1
theorem jwN_X10_rests : Cond.instanceMethod yX10_rests ∈ jT := kw3_6.2.2.2.2.2.2.2.2.2.2.2.2.2.1
theorem jwX_X10_rests : Cond.selects RX10 yX10_rests yX10_rests ∈ jT := kw3_6.2.2.2.2.2.2.2.2.2.2.2.2.2.2.1
theorem jwO_X10_rests : Cond.code (mX10_rests).1 (mX10_rests).2.1 (mX10_rests).2.2.1 (mX10_rests).2.2.2 ∈ jT := kw3_6.2.2.2.2.2.2.2.2.2.2.2.2.2.2.2.1
set_option maxRecDepth 100000 in
theorem kw3_7 : (Cond.methodLink RL 85 yX10_wants ∈ jT) ∧ (Cond.instanceMethod yX10_wants ∈ jT) ∧ (Cond.selects RX10 yX10_wants yX10_wants ∈ jT) ∧ (Cond.code (mX10_wants).1 (mX10_wants).2.1 (mX10_wants).2.2.1 (mX10_wants).2.2.2 ∈ jT) ∧ (Cond.methodLink RX10 209 yX3_addWish ∈ jT) ∧ (Cond.instanceMethod yX3_addWish ∈ jT) ∧ (Cond.selects RX3 yX3_addWish yX3_addWish ∈ jT) ∧ (Cond.code (mX3_addWish).1 (mX3_addWish).2.1 (mX3_addWish).2.2.1 (mX3_addWish).2.2.2 ∈ jT) ∧ (Cond.methodLink RL 89 yX10_clear ∈ jT) ∧ (Cond.instanceMethod yX10_clear ∈ jT) ∧ (Cond.selects RX10 yX10_clear yX10_clear ∈ jT) ∧ (Cond.code (mX10_clear).1 (mX10_clear).2.1 (mX10_clear).2.2.1 (mX10_clear).2.2.2 ∈ jT) ∧ (Cond.methodLink RL 94 yX10_made ∈ jT) ∧ (Cond.instanceMethod yX10_made ∈ jT) ∧ (Cond.selects RX10 yX10_made yX10_made ∈ jT) ∧ (Cond.code (mX10_made).1 (mX10_made).2.1 (mX10_made).2.2.1 (mX10_made).2.2.2 ∈ jT) ∧ kws (tables_1_3.drop 112) := kw_g kw3_6.2.2.2.2.2.2.2.2.2.2.2.2.2.2.2.2 rfl fun h => kw_g h rfl fun h => kw_g h rfl fun h => kw_g h rfl fun h => kw_g h rfl fun h => kw_g h rfl fun h => kw_g h rfl fun h => kw_g h rfl fun h => kw_g h rfl fun h => kw_g h rfl fun h => kw_g h rfl fun h => kw_g h rfl fun h => kw_g h rfl fun h => kw_g h rfl fun h => kw_g h rfl fun h => kw_g h rfl fun h => h
theorem jwM_L_85 : Cond.methodLink RL 85 yX10_wants ∈ jT := kw3_7.1
theorem jwN_X10_wants : Cond.instanceMethod yX10_wants ∈ jT := kw3_7.2.1
theorem jwX_X10_wants : Cond.selects RX10 yX10_wants yX10_wants ∈ jT := kw3_7.2.2.1
theorem jwO_X10_wants : Cond.code (mX10_wants).1 (mX10_wants).2.1 (mX10_wants).2.2.1 (mX10_wants).2.2.2 ∈ jT := kw3_7.2.2.2.1
theorem jwM_X10_209 : Cond.methodLink RX10 209 yX3_addWish ∈ jT := kw3_7.2.2.2.2.1
theorem jwN_X3_addWish : Cond.instanceMethod yX3_addWish ∈ jT := kw3_7.2.2.2.2.2.1
theorem jwX_X3_addWish : Cond.selects RX3 yX3_addWish yX3_addWish ∈ jT := kw3_7.2.2.2.2.2.2.1
theorem jwO_X3_addWish : Cond.code (mX3_addWish).1 (mX3_addWish).2.1 (mX3_addWish).2.2.1 (mX3_addWish).2.2.2 ∈ jT := kw3_7.2.2.2.2.2.2.2.1
theorem jwM_L_89 : Cond.methodLink RL 89 yX10_clear ∈ jT := kw3_7.2.2.2.2.2.2.2.2.1
theorem jwN_X10_clear : Cond.instanceMethod yX10_clear ∈ jT := kw3_7.2.2.2.2.2.2.2.2.2.1
theorem jwX_X10_clear : Cond.selects RX10 yX10_clear yX10_clear ∈ jT := kw3_7.2.2.2.2.2.2.2.2.2.2.1
theorem jwO_X10_clear : Cond.code (mX10_clear).1 (mX10_clear).2.1 (mX10_clear).2.2.1 (mX10_clear).2.2.2 ∈ jT := kw3_7.2.2.2.2.2.2.2.2.2.2.2.1
theorem jwM_L_94 : Cond.methodLink RL 94 yX10_made ∈ jT := kw3_7.2.2.2.2.2.2.2.2.2.2.2.2.1
theorem jwN_X10_made : Cond.instanceMethod yX10_made ∈ jT := kw3_7.2.2.2.2.2.2.2.2.2.2.2.2.2.1
theorem jwX_X10_made : Cond.selects RX10 yX10_made yX10_made ∈ jT := kw3_7.2.2.2.2.2.2.2.2.2.2.2.2.2.2.1
theorem jwO_X10_made : Cond.code (mX10_made).1 (mX10_made).2.1 (mX10_made).2.2.1 (mX10_made).2.2.2 ∈ jT := kw3_7.2.2.2.2.2.2.2.2.2.2.2.2.2.2.2.1
set_option maxRecDepth 100000 in
theorem kw3_8 : (Cond.methodLink RX10 215 yX3_canMakeChair ∈ jT) ∧ (Cond.instanceMethod yX3_canMakeChair ∈ jT) ∧ (Cond.selects RX3 yX3_canMakeChair yX3_canMakeChair ∈ jT) ∧ (Cond.code (mX3_canMakeChair).1 (mX3_canMakeChair).2.1 (mX3_canMakeChair).2.2.1 (mX3_canMakeChair).2.2.2 ∈ jT) ∧ (Cond.methodLink RX3 69 yX3_wishedSet ∈ jT) ∧ (Cond.instanceMethod yX3_wishedSet ∈ jT) ∧ (Cond.selects RX3 yX3_wishedSet yX3_wishedSet ∈ jT) ∧ (Cond.code (mX3_wishedSet).1 (mX3_wishedSet).2.1 (mX3_wishedSet).2.2.1 (mX3_wishedSet).2.2.2 ∈ jT) ∧ (Cond.methodLink RX10 219 yX3_makeChair ∈ jT) ∧ (Cond.instanceMethod yX3_makeChair ∈ jT) ∧ (Cond.selects RX3 yX3_makeChair yX3_makeChair ∈ jT) ∧ (Cond.code (mX3_makeChair).1 (mX3_makeChair).2.1 (mX3_makeChair).2.2.1 (mX3_makeChair).2.2.2 ∈ jT) ∧ (Cond.methodLink RX3 76 yX1_practise ∈ jT) ∧ (Cond.methodLink RL 98 yX10_soonest ∈ jT) ∧ (Cond.instanceMethod yX10_soonest ∈ jT) ∧ (Cond.selects RX10 yX10_soonest yX10_soonest ∈ jT) ∧ kws (tables_1_3.drop 128) := kw_g kw3_7.2.2.2.2.2.2.2.2.2.2.2.2.2.2.2.2 rfl fun h => kw_g h rfl fun h => kw_g h rfl fun h => kw_g h rfl fun h => kw_g h rfl fun h => kw_g h rfl fun h => kw_g h rfl fun h => kw_g h rfl fun h => kw_g h rfl fun h => kw_g h rfl fun h => kw_g h rfl fun h => kw_g h rfl fun h => kw_g h rfl fun h => kw_g h rfl fun h => kw_g h rfl fun h => kw_g h rfl fun h => h
theorem jwM_X10_215 : Cond.methodLink RX10 215 yX3_canMakeChair ∈ jT := kw3_8.1
theorem jwN_X3_canMakeChair : Cond.instanceMethod yX3_canMakeChair ∈ jT := kw3_8.2.1
theorem jwX_X3_canMakeChair : Cond.selects RX3 yX3_canMakeChair yX3_canMakeChair ∈ jT := kw3_8.2.2.1
theorem jwO_X3_canMakeChair : Cond.code (mX3_canMakeChair).1 (mX3_canMakeChair).2.1 (mX3_canMakeChair).2.2.1 (mX3_canMakeChair).2.2.2 ∈ jT := kw3_8.2.2.2.1
theorem jwM_X3_69 : Cond.methodLink RX3 69 yX3_wishedSet ∈ jT := kw3_8.2.2.2.2.1
theorem jwN_X3_wishedSet : Cond.instanceMethod yX3_wishedSet ∈ jT := kw3_8.2.2.2.2.2.1
theorem jwX_X3_wishedSet : Cond.selects RX3 yX3_wishedSet yX3_wishedSet ∈ jT := kw3_8.2.2.2.2.2.2.1
theorem jwO_X3_wishedSet : Cond.code (mX3_wishedSet).1 (mX3_wishedSet).2.1 (mX3_wishedSet).2.2.1 (mX3_wishedSet).2.2.2 ∈ jT := kw3_8.2.2.2.2.2.2.2.1
theorem jwM_X10_219 : Cond.methodLink RX10 219 yX3_makeChair ∈ jT := kw3_8.2.2.2.2.2.2.2.2.1
theorem jwN_X3_makeChair : Cond.instanceMethod yX3_makeChair ∈ jT := kw3_8.2.2.2.2.2.2.2.2.2.1
theorem jwX_X3_makeChair : Cond.selects RX3 yX3_makeChair yX3_makeChair ∈ jT := kw3_8.2.2.2.2.2.2.2.2.2.2.1
theorem jwO_X3_makeChair : Cond.code (mX3_makeChair).1 (mX3_makeChair).2.1 (mX3_makeChair).2.2.1 (mX3_makeChair).2.2.2 ∈ jT := kw3_8.2.2.2.2.2.2.2.2.2.2.2.1
theorem jwM_X3_76 : Cond.methodLink RX3 76 yX1_practise ∈ jT := kw3_8.2.2.2.2.2.2.2.2.2.2.2.2.1
theorem jwM_L_98 : Cond.methodLink RL 98 yX10_soonest ∈ jT := kw3_8.2.2.2.2.2.2.2.2.2.2.2.2.2.1
theorem jwN_X10_soonest : Cond.instanceMethod yX10_soonest ∈ jT := kw3_8.2.2.2.2.2.2.2.2.2.2.2.2.2.2.1
theorem jwX_X10_soonest : Cond.selects RX10 yX10_soonest yX10_soonest ∈ jT := kw3_8.2.2.2.2.2.2.2.2.2.2.2.2.2.2.2.1
set_option maxRecDepth 100000 in
theorem kw3_9 : (Cond.code (mX10_soonest).1 (mX10_soonest).2.1 (mX10_soonest).2.2.1 (mX10_soonest).2.2.2 ∈ jT) ∧ (Cond.methodLink RX10 222 yX5_finds ∈ jT) ∧ (Cond.instanceMethod yX5_finds ∈ jT) ∧ (Cond.selects RX5 yX5_finds yX5_finds ∈ jT) ∧ (Cond.code (mX5_finds).1 (mX5_finds).2.1 (mX5_finds).2.2.1 (mX5_finds).2.2.2 ∈ jT) ∧ (Cond.constant RX5 33 1000000000 ∈ jT) ∧ (Cond.methodLink RX5 44 yX3_wishedSet ∈ jT) ∧ (Cond.methodLink RX5 57 yX0_taught ∈ jT) ∧ (Cond.instanceMethod yX0_taught ∈ jT) ∧ (Cond.selects RX0 yX0_taught yX0_taught ∈ jT) ∧ (Cond.code (mX0_taught).1 (mX0_taught).2.1 (mX0_taught).2.2.1 (mX0_taught).2.2.2 ∈ jT) ∧ (Cond.methodLink RX0 46 yX0_find ∈ jT) ∧ (Cond.constant RX5 78 (-1000000005) ∈ jT) ∧ (Cond.methodLink RX5 79 yX5_goOn ∈ jT) ∧ (Cond.instanceMethod yX5_goOn ∈ jT) ∧ kws (tables_1_3.drop 144) := kw_g kw3_8.2.2.2.2.2.2.2.2.2.2.2.2.2.2.2.2 rfl fun h => kw_g h rfl fun h => kw_g h rfl fun h => kw_g h rfl fun h => kw_g h rfl fun h => kw_g h rfl fun h => kw_g h rfl fun h => kw_g h rfl fun h => kw_g h rfl fun h => kw_g h rfl fun h => kw_g h rfl fun h => kw_g h rfl fun h => kw_g h rfl fun h => kw_g h rfl fun h => kw_s h fun h => kw_g h rfl fun h => h
theorem jwO_X10_soonest : Cond.code (mX10_soonest).1 (mX10_soonest).2.1 (mX10_soonest).2.2.1 (mX10_soonest).2.2.2 ∈ jT := kw3_9.1
theorem jwM_X10_222 : Cond.methodLink RX10 222 yX5_finds ∈ jT := kw3_9.2.1
theorem jwN_X5_finds : Cond.instanceMethod yX5_finds ∈ jT := kw3_9.2.2.1
theorem jwX_X5_finds : Cond.selects RX5 yX5_finds yX5_finds ∈ jT := kw3_9.2.2.2.1
theorem jwO_X5_finds : Cond.code (mX5_finds).1 (mX5_finds).2.1 (mX5_finds).2.2.1 (mX5_finds).2.2.2 ∈ jT := kw3_9.2.2.2.2.1
theorem jwC_X5_33 : Cond.constant RX5 33 1000000000 ∈ jT := kw3_9.2.2.2.2.2.1
theorem jwM_X5_44 : Cond.methodLink RX5 44 yX3_wishedSet ∈ jT := kw3_9.2.2.2.2.2.2.1
theorem jwM_X5_57 : Cond.methodLink RX5 57 yX0_taught ∈ jT := kw3_9.2.2.2.2.2.2.2.1
theorem jwN_X0_taught : Cond.instanceMethod yX0_taught ∈ jT := kw3_9.2.2.2.2.2.2.2.2.1
theorem jwX_X0_taught : Cond.selects RX0 yX0_taught yX0_taught ∈ jT := kw3_9.2.2.2.2.2.2.2.2.2.1
theorem jwO_X0_taught : Cond.code (mX0_taught).1 (mX0_taught).2.1 (mX0_taught).2.2.1 (mX0_taught).2.2.2 ∈ jT := kw3_9.2.2.2.2.2.2.2.2.2.2.1
theorem jwM_X0_46 : Cond.methodLink RX0 46 yX0_find ∈ jT := kw3_9.2.2.2.2.2.2.2.2.2.2.2.1
theorem jwC_X5_78 : Cond.constant RX5 78 (-1000000005) ∈ jT := kw3_9.2.2.2.2.2.2.2.2.2.2.2.2.1
theorem jwM_X5_79 : Cond.methodLink RX5 79 yX5_goOn ∈ jT := kw3_9.2.2.2.2.2.2.2.2.2.2.2.2.2.1
theorem jwN_X5_goOn : Cond.instanceMethod yX5_goOn ∈ jT := kw3_9.2.2.2.2.2.2.2.2.2.2.2.2.2.2.1
set_option maxRecDepth 100000 in
theorem kw3_10 : (Cond.code (mX5_goOn).1 (mX5_goOn).2.1 (mX5_goOn).2.2.1 (mX5_goOn).2.2.2 ∈ jT) ∧ (Cond.methodLink RX5 87 yX5_offer ∈ jT) ∧ (Cond.instanceMethod yX5_offer ∈ jT) ∧ (Cond.code (mX5_offer).1 (mX5_offer).2.1 (mX5_offer).2.2.1 (mX5_offer).2.2.2 ∈ jT) ∧ (Cond.methodLink RX5 156 yX5_isBetter ∈ jT) ∧ (Cond.instanceMethod yX5_isBetter ∈ jT) ∧ (Cond.code (mX5_isBetter).1 (mX5_isBetter).2.1 (mX5_isBetter).2.2.1 (mX5_isBetter).2.2.2 ∈ jT) ∧ (Cond.methodLink RX5 91 yJ6_bitCount_0f7a4 ∈ jT) ∧ (Cond.methodLink RX5 100 yX0_find ∈ jT) ∧ (Cond.methodLink RX5 109 yX5_tryMaster ∈ jT) ∧ (Cond.instanceMethod yX5_tryMaster ∈ jT) ∧ (Cond.code (mX5_tryMaster).1 (mX5_tryMaster).2.1 (mX5_tryMaster).2.2.1 (mX5_tryMaster).2.2.2 ∈ jT) ∧ kws (tables_1_3.drop 160) := kw_g kw3_9.2.2.2.2.2.2.2.2.2.2.2.2.2.2.2 rfl fun h => kw_s h fun h => kw_g h rfl fun h => kw_s h fun h => kw_g h rfl fun h => kw_g h rfl fun h => kw_g h rfl fun h => kw_s h fun h => kw_g h rfl fun h => kw_g h rfl fun h => kw_g h rfl fun h => kw_g h rfl fun h => kw_g h rfl fun h => kw_s h fun h => kw_g h rfl fun h => kw_g h rfl fun h => h
theorem jwO_X5_goOn : Cond.code (mX5_goOn).1 (mX5_goOn).2.1 (mX5_goOn).2.2.1 (mX5_goOn).2.2.2 ∈ jT := kw3_10.1
theorem jwM_X5_87 : Cond.methodLink RX5 87 yX5_offer ∈ jT := kw3_10.2.1
theorem jwN_X5_offer : Cond.instanceMethod yX5_offer ∈ jT := kw3_10.2.2.1
theorem jwO_X5_offer : Cond.code (mX5_offer).1 (mX5_offer).2.1 (mX5_offer).2.2.1 (mX5_offer).2.2.2 ∈ jT := kw3_10.2.2.2.1
theorem jwM_X5_156 : Cond.methodLink RX5 156 yX5_isBetter ∈ jT := kw3_10.2.2.2.2.1
theorem jwN_X5_isBetter : Cond.instanceMethod yX5_isBetter ∈ jT := kw3_10.2.2.2.2.2.1
theorem jwO_X5_isBetter : Cond.code (mX5_isBetter).1 (mX5_isBetter).2.1 (mX5_isBetter).2.2.1 (mX5_isBetter).2.2.2 ∈ jT := kw3_10.2.2.2.2.2.2.1
theorem jwM_X5_91 : Cond.methodLink RX5 91 yJ6_bitCount_0f7a4 ∈ jT := kw3_10.2.2.2.2.2.2.2.1
theorem jwM_X5_100 : Cond.methodLink RX5 100 yX0_find ∈ jT := kw3_10.2.2.2.2.2.2.2.2.1
theorem jwM_X5_109 : Cond.methodLink RX5 109 yX5_tryMaster ∈ jT := kw3_10.2.2.2.2.2.2.2.2.2.1
theorem jwN_X5_tryMaster : Cond.instanceMethod yX5_tryMaster ∈ jT := kw3_10.2.2.2.2.2.2.2.2.2.2.1
theorem jwO_X5_tryMaster : Cond.code (mX5_tryMaster).1 (mX5_tryMaster).2.1 (mX5_tryMaster).2.2.1 (mX5_tryMaster).2.2.2 ∈ jT := kw3_10.2.2.2.2.2.2.2.2.2.2.2.1
set_option maxRecDepth 100000 in
theorem kw3_11 : (Cond.methodLink RX5 119 yX4_fewest ∈ jT) ∧ (Cond.methodLink RX5 128 yX5_keptOf ∈ jT) ∧ (Cond.instanceMethod yX5_keptOf ∈ jT) ∧ (Cond.code (mX5_keptOf).1 (mX5_keptOf).2.1 (mX5_keptOf).2.2.1 (mX5_keptOf).2.2.2 ∈ jT) ∧ (Cond.methodLink RX5 142 yX2_teaches ∈ jT) ∧ (Cond.methodLink RX5 146 yX5_daysTaken ∈ jT) ∧ (Cond.instanceMethod yX5_daysTaken ∈ jT) ∧ (Cond.code (mX5_daysTaken).1 (mX5_daysTaken).2.1 (mX5_daysTaken).2.2.1 (mX5_daysTaken).2.2.2 ∈ jT) ∧ (Cond.methodLink RX5 153 yX3_daysTaken ∈ jT) ∧ (Cond.methodLink RX5 150 yX2_unlearnt ∈ jT) ∧ (Cond.methodLink RL 102 yX10_together ∈ jT) ∧ (Cond.instanceMethod yX10_together ∈ jT) ∧ (Cond.selects RX10 yX10_together yX10_together ∈ jT) ∧ (Cond.code (mX10_together).1 (mX10_together).2.1 (mX10_together).2.2.1 (mX10_together).2.2.2 ∈ jT) ∧ kws (tables_1_3.drop 176) := kw_g kw3_10.2.2.2.2.2.2.2.2.2.2.2.2 rfl fun h => kw_g h rfl fun h => kw_s h fun h => kw_g h rfl fun h => kw_g h rfl fun h => kw_g h rfl fun h => kw_g h rfl fun h => kw_s h fun h => kw_g h rfl fun h => kw_g h rfl fun h => kw_g h rfl fun h => kw_g h rfl fun h => kw_g h rfl fun h => kw_g h rfl fun h => kw_g h rfl fun h => kw_g h rfl fun h => h
theorem jwM_X5_119 : Cond.methodLink RX5 119 yX4_fewest ∈ jT := kw3_11.1
theorem jwM_X5_128 : Cond.methodLink RX5 128 yX5_keptOf ∈ jT := kw3_11.2.1
theorem jwN_X5_keptOf : Cond.instanceMethod yX5_keptOf ∈ jT := kw3_11.2.2.1
theorem jwO_X5_keptOf : Cond.code (mX5_keptOf).1 (mX5_keptOf).2.1 (mX5_keptOf).2.2.1 (mX5_keptOf).2.2.2 ∈ jT := kw3_11.2.2.2.1
theorem jwM_X5_142 : Cond.methodLink RX5 142 yX2_teaches ∈ jT := kw3_11.2.2.2.2.1
theorem jwM_X5_146 : Cond.methodLink RX5 146 yX5_daysTaken ∈ jT := kw3_11.2.2.2.2.2.1
theorem jwN_X5_daysTaken : Cond.instanceMethod yX5_daysTaken ∈ jT := kw3_11.2.2.2.2.2.2.1
theorem jwO_X5_daysTaken : Cond.code (mX5_daysTaken).1 (mX5_daysTaken).2.1 (mX5_daysTaken).2.2.1 (mX5_daysTaken).2.2.2 ∈ jT := kw3_11.2.2.2.2.2.2.2.1
theorem jwM_X5_153 : Cond.methodLink RX5 153 yX3_daysTaken ∈ jT := kw3_11.2.2.2.2.2.2.2.2.1
theorem jwM_X5_150 : Cond.methodLink RX5 150 yX2_unlearnt ∈ jT := kw3_11.2.2.2.2.2.2.2.2.2.1
theorem jwM_L_102 : Cond.methodLink RL 102 yX10_together ∈ jT := kw3_11.2.2.2.2.2.2.2.2.2.2.1
theorem jwN_X10_together : Cond.instanceMethod yX10_together ∈ jT := kw3_11.2.2.2.2.2.2.2.2.2.2.2.1
theorem jwX_X10_together : Cond.selects RX10 yX10_together yX10_together ∈ jT := kw3_11.2.2.2.2.2.2.2.2.2.2.2.2.1
theorem jwO_X10_together : Cond.code (mX10_together).1 (mX10_together).2.1 (mX10_together).2.2.1 (mX10_together).2.2.2 ∈ jT := kw3_11.2.2.2.2.2.2.2.2.2.2.2.2.2.1
set_option maxRecDepth 100000 in
theorem kw3_12 : (Cond.methodLink RX10 235 yX0_canBringTogether ∈ jT) ∧ (Cond.instanceMethod yX0_canBringTogether ∈ jT) ∧ (Cond.selects RX0 yX0_canBringTogether yX0_canBringTogether ∈ jT) ∧ (Cond.code (mX0_canBringTogether).1 (mX0_canBringTogether).2.1 (mX0_canBringTogether).2.2.1 (mX0_canBringTogether).2.2.2 ∈ jT) ∧ (Cond.methodLink RX0 70 yX0_leadsTo ∈ jT) ∧ (Cond.static yX0_leadsTo ∈ jT) ∧ (Cond.code (mX0_leadsTo).1 (mX0_leadsTo).2.1 (mX0_leadsTo).2.2.1 (mX0_leadsTo).2.2.2 ∈ jT) ∧ (Cond.methodLink RX0 74 yJ6_bitCount_0f7a4 ∈ jT) ∧ (Cond.methodLink RX0 80 yX0_helps ∈ jT) ∧ (Cond.static yX0_helps ∈ jT) ∧ (Cond.code (mX0_helps).1 (mX0_helps).2.1 (mX0_helps).2.2.1 (mX0_helps).2.2.2 ∈ jT) ∧ (Cond.methodLink RX0 84 yX2_teaches ∈ jT) ∧ (Cond.methodLink RX0 88 yX2_unlearnt ∈ jT) ∧ (Cond.methodLink RL 106 yX10_never ∈ jT) ∧ (Cond.instanceMethod yX10_never ∈ jT) ∧ (Cond.selects RX10 yX10_never yX10_never ∈ jT) ∧ kws (tables_1_3.drop 192) := kw_g kw3_11.2.2.2.2.2.2.2.2.2.2.2.2.2.2 rfl fun h => kw_g h rfl fun h => kw_g h rfl fun h => kw_g h rfl fun h => kw_g h rfl fun h => kw_g h rfl fun h => kw_g h rfl fun h => kw_g h rfl fun h => kw_g h rfl fun h => kw_g h rfl fun h => kw_g h rfl fun h => kw_g h rfl fun h => kw_g h rfl fun h => kw_g h rfl fun h => kw_g h rfl fun h => kw_g h rfl fun h => h
theorem jwM_X10_235 : Cond.methodLink RX10 235 yX0_canBringTogether ∈ jT := kw3_12.1
theorem jwN_X0_canBringTogether : Cond.instanceMethod yX0_canBringTogether ∈ jT := kw3_12.2.1
theorem jwX_X0_canBringTogether : Cond.selects RX0 yX0_canBringTogether yX0_canBringTogether ∈ jT := kw3_12.2.2.1
theorem jwO_X0_canBringTogether : Cond.code (mX0_canBringTogether).1 (mX0_canBringTogether).2.1 (mX0_canBringTogether).2.2.1 (mX0_canBringTogether).2.2.2 ∈ jT := kw3_12.2.2.2.1
theorem jwM_X0_70 : Cond.methodLink RX0 70 yX0_leadsTo ∈ jT := kw3_12.2.2.2.2.1
theorem jwS_X0_leadsTo : Cond.static yX0_leadsTo ∈ jT := kw3_12.2.2.2.2.2.1
theorem jwO_X0_leadsTo : Cond.code (mX0_leadsTo).1 (mX0_leadsTo).2.1 (mX0_leadsTo).2.2.1 (mX0_leadsTo).2.2.2 ∈ jT := kw3_12.2.2.2.2.2.2.1
theorem jwM_X0_74 : Cond.methodLink RX0 74 yJ6_bitCount_0f7a4 ∈ jT := kw3_12.2.2.2.2.2.2.2.1
theorem jwM_X0_80 : Cond.methodLink RX0 80 yX0_helps ∈ jT := kw3_12.2.2.2.2.2.2.2.2.1
theorem jwS_X0_helps : Cond.static yX0_helps ∈ jT := kw3_12.2.2.2.2.2.2.2.2.2.1
theorem jwO_X0_helps : Cond.code (mX0_helps).1 (mX0_helps).2.1 (mX0_helps).2.2.1 (mX0_helps).2.2.2 ∈ jT := kw3_12.2.2.2.2.2.2.2.2.2.2.1
theorem jwM_X0_84 : Cond.methodLink RX0 84 yX2_teaches ∈ jT := kw3_12.2.2.2.2.2.2.2.2.2.2.2.1
theorem jwM_X0_88 : Cond.methodLink RX0 88 yX2_unlearnt ∈ jT := kw3_12.2.2.2.2.2.2.2.2.2.2.2.2.1
theorem jwM_L_106 : Cond.methodLink RL 106 yX10_never ∈ jT := kw3_12.2.2.2.2.2.2.2.2.2.2.2.2.2.1
theorem jwN_X10_never : Cond.instanceMethod yX10_never ∈ jT := kw3_12.2.2.2.2.2.2.2.2.2.2.2.2.2.2.1
theorem jwX_X10_never : Cond.selects RX10 yX10_never yX10_never ∈ jT := kw3_12.2.2.2.2.2.2.2.2.2.2.2.2.2.2.2.1
set_option maxRecDepth 100000 in
theorem kw3_13 : (Cond.code (mX10_never).1 (mX10_never).2.1 (mX10_never).2.2.1 (mX10_never).2.2.2 ∈ jT) ∧ (Cond.methodLink RX10 238 yX0_taught ∈ jT) ∧ (Cond.methodLink RL 110 yX10_last ∈ jT) ∧ (Cond.instanceMethod yX10_last ∈ jT) ∧ (Cond.selects RX10 yX10_last yX10_last ∈ jT) ∧ (Cond.code (mX10_last).1 (mX10_last).2.1 (mX10_last).2.2.1 (mX10_last).2.2.2 ∈ jT) ∧ (Cond.methodLink RX10 241 yX0_onlyTeacher ∈ jT) ∧ (Cond.instanceMethod yX0_onlyTeacher ∈ jT) ∧ (Cond.selects RX0 yX0_onlyTeacher yX0_onlyTeacher ∈ jT) ∧ (Cond.code (mX0_onlyTeacher).1 (mX0_onlyTeacher).2.1 (mX0_onlyTeacher).2.2.1 (mX0_onlyTeacher).2.2.2 ∈ jT) ∧ (Cond.constant RX0 69 (-1000000005) ∈ jT) ∧ (Cond.methodLink RL 114 yX10_years ∈ jT) ∧ (Cond.instanceMethod yX10_years ∈ jT) ∧ (Cond.selects RX10 yX10_years yX10_years ∈ jT) ∧ (Cond.code (mX10_years).1 (mX10_years).2.1 (mX10_years).2.2.1 (mX10_years).2.2.2 ∈ jT) ∧ (Cond.methodLink RX10 244 yX0_countDead ∈ jT) ∧ kws (tables_1_3.drop 208) := kw_g kw3_12.2.2.2.2.2.2.2.2.2.2.2.2.2.2.2.2 rfl fun h => kw_g h rfl fun h => kw_g h rfl fun h => kw_g h rfl fun h => kw_g h rfl fun h => kw_g h rfl fun h => kw_g h rfl fun h => kw_g h rfl fun h => kw_g h rfl fun h => kw_g h rfl fun h => kw_g h rfl fun h => kw_g h rfl fun h => kw_g h rfl fun h => kw_g h rfl fun h => kw_g h rfl fun h => kw_g h rfl fun h => h
theorem jwO_X10_never : Cond.code (mX10_never).1 (mX10_never).2.1 (mX10_never).2.2.1 (mX10_never).2.2.2 ∈ jT := kw3_13.1
theorem jwM_X10_238 : Cond.methodLink RX10 238 yX0_taught ∈ jT := kw3_13.2.1
theorem jwM_L_110 : Cond.methodLink RL 110 yX10_last ∈ jT := kw3_13.2.2.1
theorem jwN_X10_last : Cond.instanceMethod yX10_last ∈ jT := kw3_13.2.2.2.1
theorem jwX_X10_last : Cond.selects RX10 yX10_last yX10_last ∈ jT := kw3_13.2.2.2.2.1
theorem jwO_X10_last : Cond.code (mX10_last).1 (mX10_last).2.1 (mX10_last).2.2.1 (mX10_last).2.2.2 ∈ jT := kw3_13.2.2.2.2.2.1
theorem jwM_X10_241 : Cond.methodLink RX10 241 yX0_onlyTeacher ∈ jT := kw3_13.2.2.2.2.2.2.1
theorem jwN_X0_onlyTeacher : Cond.instanceMethod yX0_onlyTeacher ∈ jT := kw3_13.2.2.2.2.2.2.2.1
theorem jwX_X0_onlyTeacher : Cond.selects RX0 yX0_onlyTeacher yX0_onlyTeacher ∈ jT := kw3_13.2.2.2.2.2.2.2.2.1
theorem jwO_X0_onlyTeacher : Cond.code (mX0_onlyTeacher).1 (mX0_onlyTeacher).2.1 (mX0_onlyTeacher).2.2.1 (mX0_onlyTeacher).2.2.2 ∈ jT := kw3_13.2.2.2.2.2.2.2.2.2.1
theorem jwC_X0_69 : Cond.constant RX0 69 (-1000000005) ∈ jT := kw3_13.2.2.2.2.2.2.2.2.2.2.1
theorem jwM_L_114 : Cond.methodLink RL 114 yX10_years ∈ jT := kw3_13.2.2.2.2.2.2.2.2.2.2.2.1
theorem jwN_X10_years : Cond.instanceMethod yX10_years ∈ jT := kw3_13.2.2.2.2.2.2.2.2.2.2.2.2.1
theorem jwX_X10_years : Cond.selects RX10 yX10_years yX10_years ∈ jT := kw3_13.2.2.2.2.2.2.2.2.2.2.2.2.2.1
theorem jwO_X10_years : Cond.code (mX10_years).1 (mX10_years).2.1 (mX10_years).2.2.1 (mX10_years).2.2.2 ∈ jT := kw3_13.2.2.2.2.2.2.2.2.2.2.2.2.2.2.1
theorem jwM_X10_244 : Cond.methodLink RX10 244 yX0_countDead ∈ jT := kw3_13.2.2.2.2.2.2.2.2.2.2.2.2.2.2.2.1
set_option maxRecDepth 100000 in
theorem kw3_14 : (Cond.instanceMethod yX0_countDead ∈ jT) ∧ (Cond.selects RX0 yX0_countDead yX0_countDead ∈ jT) ∧ (Cond.code (mX0_countDead).1 (mX0_countDead).2.1 (mX0_countDead).2.2.1 (mX0_countDead).2.2.2 ∈ jT) ∧ (Cond.methodLink RX10 247 yX0_liveYears ∈ jT) ∧ (Cond.instanceMethod yX0_liveYears ∈ jT) ∧ (Cond.selects RX0 yX0_liveYears yX0_liveYears ∈ jT) ∧ (Cond.code (mX0_liveYears).1 (mX0_liveYears).2.1 (mX0_liveYears).2.2.1 (mX0_liveYears).2.2.2 ∈ jT) ∧ (Cond.methodLink RX0 63 yX0_liveYear ∈ jT) ∧ (Cond.instanceMethod yX0_liveYear ∈ jT) ∧ (Cond.selects RX0 yX0_liveYear yX0_liveYear ∈ jT) ∧ (Cond.code (mX0_liveYear).1 (mX0_liveYear).2.1 (mX0_liveYear).2.2.1 (mX0_liveYear).2.2.2 ∈ jT) ∧ (Cond.methodLink RX0 57 Lib.Math.min.name ∈ jT) ∧ (Cond.methodLink RL 118 yX10_gone ∈ jT) ∧ (Cond.instanceMethod yX10_gone ∈ jT) ∧ (Cond.selects RX10 yX10_gone yX10_gone ∈ jT) ∧ (Cond.code (mX10_gone).1 (mX10_gone).2.1 (mX10_gone).2.2.1 (mX10_gone).2.2.2 ∈ jT) ∧ kws (tables_1_3.drop 224) := kw_g kw3_13.2.2.2.2.2.2.2.2.2.2.2.2.2.2.2.2 rfl fun h => kw_g h rfl fun h => kw_g h rfl fun h => kw_g h rfl fun h => kw_g h rfl fun h => kw_g h rfl fun h => kw_g h rfl fun h => kw_g h rfl fun h => kw_g h rfl fun h => kw_g h rfl fun h => kw_g h rfl fun h => kw_g h rfl fun h => kw_g h rfl fun h => kw_g h rfl fun h => kw_g h rfl fun h => kw_g h rfl fun h => h
theorem jwN_X0_countDead : Cond.instanceMethod yX0_countDead ∈ jT := kw3_14.1
theorem jwX_X0_countDead : Cond.selects RX0 yX0_countDead yX0_countDead ∈ jT := kw3_14.2.1
theorem jwO_X0_countDead : Cond.code (mX0_countDead).1 (mX0_countDead).2.1 (mX0_countDead).2.2.1 (mX0_countDead).2.2.2 ∈ jT := kw3_14.2.2.1
theorem jwM_X10_247 : Cond.methodLink RX10 247 yX0_liveYears ∈ jT := kw3_14.2.2.2.1
theorem jwN_X0_liveYears : Cond.instanceMethod yX0_liveYears ∈ jT := kw3_14.2.2.2.2.1
theorem jwX_X0_liveYears : Cond.selects RX0 yX0_liveYears yX0_liveYears ∈ jT := kw3_14.2.2.2.2.2.1
theorem jwO_X0_liveYears : Cond.code (mX0_liveYears).1 (mX0_liveYears).2.1 (mX0_liveYears).2.2.1 (mX0_liveYears).2.2.2 ∈ jT := kw3_14.2.2.2.2.2.2.1
theorem jwM_X0_63 : Cond.methodLink RX0 63 yX0_liveYear ∈ jT := kw3_14.2.2.2.2.2.2.2.1
theorem jwN_X0_liveYear : Cond.instanceMethod yX0_liveYear ∈ jT := kw3_14.2.2.2.2.2.2.2.2.1
theorem jwX_X0_liveYear : Cond.selects RX0 yX0_liveYear yX0_liveYear ∈ jT := kw3_14.2.2.2.2.2.2.2.2.2.1
theorem jwO_X0_liveYear : Cond.code (mX0_liveYear).1 (mX0_liveYear).2.1 (mX0_liveYear).2.2.1 (mX0_liveYear).2.2.2 ∈ jT := kw3_14.2.2.2.2.2.2.2.2.2.2.1
theorem jwM_X0_57 : Cond.methodLink RX0 57 Lib.Math.min.name ∈ jT := kw3_14.2.2.2.2.2.2.2.2.2.2.2.1
theorem jwM_L_118 : Cond.methodLink RL 118 yX10_gone ∈ jT := kw3_14.2.2.2.2.2.2.2.2.2.2.2.2.1
theorem jwN_X10_gone : Cond.instanceMethod yX10_gone ∈ jT := kw3_14.2.2.2.2.2.2.2.2.2.2.2.2.2.1
theorem jwX_X10_gone : Cond.selects RX10 yX10_gone yX10_gone ∈ jT := kw3_14.2.2.2.2.2.2.2.2.2.2.2.2.2.2.1
theorem jwO_X10_gone : Cond.code (mX10_gone).1 (mX10_gone).2.1 (mX10_gone).2.2.1 (mX10_gone).2.2.2 ∈ jT := kw3_14.2.2.2.2.2.2.2.2.2.2.2.2.2.2.2.1
set_option maxRecDepth 100000 in
theorem kw3_15 : (Cond.methodLink RX10 250 yX0_become ∈ jT) ∧ (Cond.instanceMethod yX0_become ∈ jT) ∧ (Cond.selects RX0 yX0_become yX0_become ∈ jT) ∧ (Cond.code (mX0_become).1 (mX0_become).2.1 (mX0_become).2.2.1 (mX0_become).2.2.2 ∈ jT) ∧ (Cond.methodLink RX0 25 yX2_become ∈ jT) ∧ (Cond.instanceMethod yX2_become ∈ jT) ∧ (Cond.selects RX2 yX2_become yX2_become ∈ jT) ∧ (Cond.code (mX2_become).1 (mX2_become).2.1 (mX2_become).2.2.1 (mX2_become).2.2.2 ∈ jT) ∧ (Cond.methodLink RL 122 yX10_fresh ∈ jT) ∧ (Cond.instanceMethod yX10_fresh ∈ jT) ∧ (Cond.selects RX10 yX10_fresh yX10_fresh ∈ jT) ∧ (Cond.code (mX10_fresh).1 (mX10_fresh).2.1 (mX10_fresh).2.2.1 (mX10_fresh).2.2.2 ∈ jT) ∧ (Cond.methodLink RX10 254 yX3_waysToMasters ∈ jT) ∧ (Cond.instanceMethod yX3_waysToMasters ∈ jT) ∧ (Cond.selects RX3 yX3_waysToMasters yX3_waysToMasters ∈ jT) ∧ (Cond.code (mX3_waysToMasters).1 (mX3_waysToMasters).2.1 (mX3_waysToMasters).2.2.1 (mX3_waysToMasters).2.2.2 ∈ jT) ∧ kws (tables_1_3.drop 240) := kw_g kw3_14.2.2.2.2.2.2.2.2.2.2.2.2.2.2.2.2 rfl fun h => kw_g h rfl fun h => kw_g h rfl fun h => kw_g h rfl fun h => kw_g h rfl fun h => kw_g h rfl fun h => kw_g h rfl fun h => kw_g h rfl fun h => kw_g h rfl fun h => kw_g h rfl fun h => kw_g h rfl fun h => kw_g h rfl fun h => kw_g h rfl fun h => kw_g h rfl fun h => kw_g h rfl fun h => kw_g h rfl fun h => h
theorem jwM_X10_250 : Cond.methodLink RX10 250 yX0_become ∈ jT := kw3_15.1
theorem jwN_X0_become : Cond.instanceMethod yX0_become ∈ jT := kw3_15.2.1
theorem jwX_X0_become : Cond.selects RX0 yX0_become yX0_become ∈ jT := kw3_15.2.2.1
theorem jwO_X0_become : Cond.code (mX0_become).1 (mX0_become).2.1 (mX0_become).2.2.1 (mX0_become).2.2.2 ∈ jT := kw3_15.2.2.2.1
theorem jwM_X0_25 : Cond.methodLink RX0 25 yX2_become ∈ jT := kw3_15.2.2.2.2.1
theorem jwN_X2_become : Cond.instanceMethod yX2_become ∈ jT := kw3_15.2.2.2.2.2.1
theorem jwX_X2_become : Cond.selects RX2 yX2_become yX2_become ∈ jT := kw3_15.2.2.2.2.2.2.1
theorem jwO_X2_become : Cond.code (mX2_become).1 (mX2_become).2.1 (mX2_become).2.2.1 (mX2_become).2.2.2 ∈ jT := kw3_15.2.2.2.2.2.2.2.1
theorem jwM_L_122 : Cond.methodLink RL 122 yX10_fresh ∈ jT := kw3_15.2.2.2.2.2.2.2.2.1
theorem jwN_X10_fresh : Cond.instanceMethod yX10_fresh ∈ jT := kw3_15.2.2.2.2.2.2.2.2.2.1
theorem jwX_X10_fresh : Cond.selects RX10 yX10_fresh yX10_fresh ∈ jT := kw3_15.2.2.2.2.2.2.2.2.2.2.1
theorem jwO_X10_fresh : Cond.code (mX10_fresh).1 (mX10_fresh).2.1 (mX10_fresh).2.2.1 (mX10_fresh).2.2.2 ∈ jT := kw3_15.2.2.2.2.2.2.2.2.2.2.2.1
theorem jwM_X10_254 : Cond.methodLink RX10 254 yX3_waysToMasters ∈ jT := kw3_15.2.2.2.2.2.2.2.2.2.2.2.2.1
theorem jwN_X3_waysToMasters : Cond.instanceMethod yX3_waysToMasters ∈ jT := kw3_15.2.2.2.2.2.2.2.2.2.2.2.2.2.1
theorem jwX_X3_waysToMasters : Cond.selects RX3 yX3_waysToMasters yX3_waysToMasters ∈ jT := kw3_15.2.2.2.2.2.2.2.2.2.2.2.2.2.2.1
theorem jwO_X3_waysToMasters : Cond.code (mX3_waysToMasters).1 (mX3_waysToMasters).2.1 (mX3_waysToMasters).2.2.1 (mX3_waysToMasters).2.2.2 ∈ jT := kw3_15.2.2.2.2.2.2.2.2.2.2.2.2.2.2.2.1
theorem kw0_4 : kws (tables_1_4.drop 0) := fun w h => jm_4 h
set_option maxRecDepth 100000 in
theorem kw4_1 : (Cond.methodLink RX3 127 yX0_find ∈ jT) ∧ (Cond.methodLink RX3 138 yX4_fewest ∈ jT) ∧ (Cond.methodLink RL 126 yX10_cut ∈ jT) ∧ (Cond.instanceMethod yX10_cut ∈ jT) ∧ (Cond.selects RX10 yX10_cut yX10_cut ∈ jT) ∧ (Cond.code (mX10_cut).1 (mX10_cut).2.1 (mX10_cut).2.2.1 (mX10_cut).2.2.2 ∈ jT) ∧ (Cond.methodLink RX10 257 yX10_findSheet ∈ jT) ∧ (Cond.instanceMethod yX10_findSheet ∈ jT) ∧ (Cond.code (mX10_findSheet).1 (mX10_findSheet).2.1 (mX10_findSheet).2.2.1 (mX10_findSheet).2.2.2 ∈ jT) ∧ (Cond.constant RX10 264 (-1000000011) ∈ jT) ∧ (Cond.constant RX10 265 1000000000 ∈ jT) ∧ (Cond.methodLink RX10 266 yX3_apart ∈ jT) ∧ (Cond.instanceMethod yX3_apart ∈ jT) ∧ (Cond.selects RX3 yX3_apart yX3_apart ∈ jT) ∧ (Cond.code (mX3_apart).1 (mX3_apart).2.1 (mX3_apart).2.2.1 (mX3_apart).2.2.2 ∈ jT) ∧ kws (tables_1_4.drop 16) := kw_g kw0_4 rfl fun h => kw_g h rfl fun h => kw_g h rfl fun h => kw_g h rfl fun h => kw_g h rfl fun h => kw_g h rfl fun h => kw_g h rfl fun h => kw_s h fun h => kw_g h rfl fun h => kw_g h rfl fun h => kw_g h rfl fun h => kw_g h rfl fun h => kw_g h rfl fun h => kw_g h rfl fun h => kw_g h rfl fun h => kw_g h rfl fun h => h
theorem jwM_X3_127 : Cond.methodLink RX3 127 yX0_find ∈ jT := kw4_1.1
theorem jwM_X3_138 : Cond.methodLink RX3 138 yX4_fewest ∈ jT := kw4_1.2.1
theorem jwM_L_126 : Cond.methodLink RL 126 yX10_cut ∈ jT := kw4_1.2.2.1
theorem jwN_X10_cut : Cond.instanceMethod yX10_cut ∈ jT := kw4_1.2.2.2.1
theorem jwX_X10_cut : Cond.selects RX10 yX10_cut yX10_cut ∈ jT := kw4_1.2.2.2.2.1
theorem jwO_X10_cut : Cond.code (mX10_cut).1 (mX10_cut).2.1 (mX10_cut).2.2.1 (mX10_cut).2.2.2 ∈ jT := kw4_1.2.2.2.2.2.1
theorem jwM_X10_257 : Cond.methodLink RX10 257 yX10_findSheet ∈ jT := kw4_1.2.2.2.2.2.2.1
theorem jwN_X10_findSheet : Cond.instanceMethod yX10_findSheet ∈ jT := kw4_1.2.2.2.2.2.2.2.1
theorem jwO_X10_findSheet : Cond.code (mX10_findSheet).1 (mX10_findSheet).2.1 (mX10_findSheet).2.2.1 (mX10_findSheet).2.2.2 ∈ jT := kw4_1.2.2.2.2.2.2.2.2.1
theorem jwC_X10_264 : Cond.constant RX10 264 (-1000000011) ∈ jT := kw4_1.2.2.2.2.2.2.2.2.2.1
theorem jwC_X10_265 : Cond.constant RX10 265 1000000000 ∈ jT := kw4_1.2.2.2.2.2.2.2.2.2.2.1
theorem jwM_X10_266 : Cond.methodLink RX10 266 yX3_apart ∈ jT := kw4_1.2.2.2.2.2.2.2.2.2.2.2.1
theorem jwN_X3_apart : Cond.instanceMethod yX3_apart ∈ jT := kw4_1.2.2.2.2.2.2.2.2.2.2.2.2.1
theorem jwX_X3_apart : Cond.selects RX3 yX3_apart yX3_apart ∈ jT := kw4_1.2.2.2.2.2.2.2.2.2.2.2.2.2.1
theorem jwO_X3_apart : Cond.code (mX3_apart).1 (mX3_apart).2.1 (mX3_apart).2.2.1 (mX3_apart).2.2.2 ∈ jT := kw4_1.2.2.2.2.2.2.2.2.2.2.2.2.2.2.1
set_option maxRecDepth 100000 in
theorem kw4_2 : (Cond.methodLink RX3 144 yX6_isNumber ∈ jT) ∧ (Cond.instanceMethod yX6_isNumber ∈ jT) ∧ (Cond.selects RX6 yX6_isNumber yX6_isNumber ∈ jT) ∧ (Cond.code (mX6_isNumber).1 (mX6_isNumber).2.1 (mX6_isNumber).2.2.1 (mX6_isNumber).2.2.2 ∈ jT) ∧ (Cond.methodLink RX6 32 yX6_hasPlace ∈ jT) ∧ (Cond.instanceMethod yX6_hasPlace ∈ jT) ∧ (Cond.selects RX6 yX6_hasPlace yX6_hasPlace ∈ jT) ∧ (Cond.code (mX6_hasPlace).1 (mX6_hasPlace).2.1 (mX6_hasPlace).2.2.1 (mX6_hasPlace).2.2.2 ∈ jT) ∧ (Cond.constant RX6 36 (-1000000005) ∈ jT) ∧ (Cond.methodLink RX3 147 yX3_daysTaken ∈ jT) ∧ (Cond.methodLink RX3 154 Lib.Math.abs.name ∈ jT) ∧ (Cond.static Lib.Math.abs.name ∈ jT) ∧ (Cond.code Lib.Math.abs.name Lib.Math.abs.code 1 (some .int) ∈ jT) ∧ (Cond.methodLink RL 130 yX10_fame ∈ jT) ∧ (Cond.instanceMethod yX10_fame ∈ jT) ∧ kws (tables_1_4.drop 32) := kw_g kw4_1.2.2.2.2.2.2.2.2.2.2.2.2.2.2.2 rfl fun h => kw_g h rfl fun h => kw_g h rfl fun h => kw_g h rfl fun h => kw_g h rfl fun h => kw_g h rfl fun h => kw_g h rfl fun h => kw_g h rfl fun h => kw_s h fun h => kw_g h rfl fun h => kw_g h rfl fun h => kw_g h rfl fun h => kw_g h rfl fun h => kw_g h rfl fun h => kw_g h rfl fun h => kw_g h rfl fun h => h
theorem jwM_X3_144 : Cond.methodLink RX3 144 yX6_isNumber ∈ jT := kw4_2.1
theorem jwN_X6_isNumber : Cond.instanceMethod yX6_isNumber ∈ jT := kw4_2.2.1
theorem jwX_X6_isNumber : Cond.selects RX6 yX6_isNumber yX6_isNumber ∈ jT := kw4_2.2.2.1
theorem jwO_X6_isNumber : Cond.code (mX6_isNumber).1 (mX6_isNumber).2.1 (mX6_isNumber).2.2.1 (mX6_isNumber).2.2.2 ∈ jT := kw4_2.2.2.2.1
theorem jwM_X6_32 : Cond.methodLink RX6 32 yX6_hasPlace ∈ jT := kw4_2.2.2.2.2.1
theorem jwN_X6_hasPlace : Cond.instanceMethod yX6_hasPlace ∈ jT := kw4_2.2.2.2.2.2.1
theorem jwX_X6_hasPlace : Cond.selects RX6 yX6_hasPlace yX6_hasPlace ∈ jT := kw4_2.2.2.2.2.2.2.1
theorem jwO_X6_hasPlace : Cond.code (mX6_hasPlace).1 (mX6_hasPlace).2.1 (mX6_hasPlace).2.2.1 (mX6_hasPlace).2.2.2 ∈ jT := kw4_2.2.2.2.2.2.2.2.1
theorem jwC_X6_36 : Cond.constant RX6 36 (-1000000005) ∈ jT := kw4_2.2.2.2.2.2.2.2.2.1
theorem jwM_X3_147 : Cond.methodLink RX3 147 yX3_daysTaken ∈ jT := kw4_2.2.2.2.2.2.2.2.2.2.1
theorem jwM_X3_154 : Cond.methodLink RX3 154 Lib.Math.abs.name ∈ jT := kw4_2.2.2.2.2.2.2.2.2.2.2.1
theorem jwS_abs : Cond.static Lib.Math.abs.name ∈ jT := kw4_2.2.2.2.2.2.2.2.2.2.2.2.1
theorem jwO_abs : Cond.code Lib.Math.abs.name Lib.Math.abs.code 1 (some .int) ∈ jT := kw4_2.2.2.2.2.2.2.2.2.2.2.2.2.1
theorem jwM_L_130 : Cond.methodLink RL 130 yX10_fame ∈ jT := kw4_2.2.2.2.2.2.2.2.2.2.2.2.2.2.1
theorem jwN_X10_fame : Cond.instanceMethod yX10_fame ∈ jT := kw4_2.2.2.2.2.2.2.2.2.2.2.2.2.2.2.1
set_option maxRecDepth 100000 in
theorem kw4_3 : (Cond.selects RX10 yX10_fame yX10_fame ∈ jT) ∧ (Cond.code (mX10_fame).1 (mX10_fame).2.1 (mX10_fame).2.2.1 (mX10_fame).2.2.2 ∈ jT) ∧ (Cond.methodLink RX10 270 yX3_fameOf ∈ jT) ∧ (Cond.instanceMethod yX3_fameOf ∈ jT) ∧ (Cond.selects RX3 yX3_fameOf yX3_fameOf ∈ jT) ∧ (Cond.code (mX3_fameOf).1 (mX3_fameOf).2.1 (mX3_fameOf).2.2.1 (mX3_fameOf).2.2.2 ∈ jT) ∧ (Cond.methodLink RL 134 yX10_fine ∈ jT) ∧ (Cond.instanceMethod yX10_fine ∈ jT) ∧ (Cond.selects RX10 yX10_fine yX10_fine ∈ jT) ∧ (Cond.code (mX10_fine).1 (mX10_fine).2.1 (mX10_fine).2.2.1 (mX10_fine).2.2.2 ∈ jT) ∧ (Cond.methodLink RX10 274 yX3_fineNow ∈ jT) ∧ (Cond.instanceMethod yX3_fineNow ∈ jT) ∧ (Cond.selects RX3 yX3_fineNow yX3_fineNow ∈ jT) ∧ (Cond.code (mX3_fineNow).1 (mX3_fineNow).2.1 (mX3_fineNow).2.2.1 (mX3_fineNow).2.2.2 ∈ jT) ∧ (Cond.methodLink RL 138 yX10_feed ∈ jT) ∧ (Cond.instanceMethod yX10_feed ∈ jT) ∧ kws (tables_1_4.drop 48) := kw_g kw4_2.2.2.2.2.2.2.2.2.2.2.2.2.2.2.2 rfl fun h => kw_g h rfl fun h => kw_g h rfl fun h => kw_g h rfl fun h => kw_g h rfl fun h => kw_g h rfl fun h => kw_g h rfl fun h => kw_g h rfl fun h => kw_g h rfl fun h => kw_g h rfl fun h => kw_g h rfl fun h => kw_g h rfl fun h => kw_g h rfl fun h => kw_g h rfl fun h => kw_g h rfl fun h => kw_g h rfl fun h => h
theorem jwX_X10_fame : Cond.selects RX10 yX10_fame yX10_fame ∈ jT := kw4_3.1
theorem jwO_X10_fame : Cond.code (mX10_fame).1 (mX10_fame).2.1 (mX10_fame).2.2.1 (mX10_fame).2.2.2 ∈ jT := kw4_3.2.1
theorem jwM_X10_270 : Cond.methodLink RX10 270 yX3_fameOf ∈ jT := kw4_3.2.2.1
theorem jwN_X3_fameOf : Cond.instanceMethod yX3_fameOf ∈ jT := kw4_3.2.2.2.1
theorem jwX_X3_fameOf : Cond.selects RX3 yX3_fameOf yX3_fameOf ∈ jT := kw4_3.2.2.2.2.1
theorem jwO_X3_fameOf : Cond.code (mX3_fameOf).1 (mX3_fameOf).2.1 (mX3_fameOf).2.2.1 (mX3_fameOf).2.2.2 ∈ jT := kw4_3.2.2.2.2.2.1
theorem jwM_L_134 : Cond.methodLink RL 134 yX10_fine ∈ jT := kw4_3.2.2.2.2.2.2.1
theorem jwN_X10_fine : Cond.instanceMethod yX10_fine ∈ jT := kw4_3.2.2.2.2.2.2.2.1
theorem jwX_X10_fine : Cond.selects RX10 yX10_fine yX10_fine ∈ jT := kw4_3.2.2.2.2.2.2.2.2.1
theorem jwO_X10_fine : Cond.code (mX10_fine).1 (mX10_fine).2.1 (mX10_fine).2.2.1 (mX10_fine).2.2.2 ∈ jT := kw4_3.2.2.2.2.2.2.2.2.2.1
theorem jwM_X10_274 : Cond.methodLink RX10 274 yX3_fineNow ∈ jT := kw4_3.2.2.2.2.2.2.2.2.2.2.1
theorem jwN_X3_fineNow : Cond.instanceMethod yX3_fineNow ∈ jT := kw4_3.2.2.2.2.2.2.2.2.2.2.2.1
theorem jwX_X3_fineNow : Cond.selects RX3 yX3_fineNow yX3_fineNow ∈ jT := kw4_3.2.2.2.2.2.2.2.2.2.2.2.2.1
theorem jwO_X3_fineNow : Cond.code (mX3_fineNow).1 (mX3_fineNow).2.1 (mX3_fineNow).2.2.1 (mX3_fineNow).2.2.2 ∈ jT := kw4_3.2.2.2.2.2.2.2.2.2.2.2.2.2.1
theorem jwM_L_138 : Cond.methodLink RL 138 yX10_feed ∈ jT := kw4_3.2.2.2.2.2.2.2.2.2.2.2.2.2.2.1
theorem jwN_X10_feed : Cond.instanceMethod yX10_feed ∈ jT := kw4_3.2.2.2.2.2.2.2.2.2.2.2.2.2.2.2.1
set_option maxRecDepth 100000 in
theorem kw4_4 : (Cond.selects RX10 yX10_feed yX10_feed ∈ jT) ∧ (Cond.code (mX10_feed).1 (mX10_feed).2.1 (mX10_feed).2.2.1 (mX10_feed).2.2.2 ∈ jT) ∧ (Cond.methodLink RX10 278 yX8_addNumber ∈ jT) ∧ (Cond.instanceMethod yX8_addNumber ∈ jT) ∧ (Cond.selects RX8 yX8_addNumber yX8_addNumber ∈ jT) ∧ (Cond.code (mX8_addNumber).1 (mX8_addNumber).2.1 (mX8_addNumber).2.2.1 (mX8_addNumber).2.2.2 ∈ jT) ∧ (Cond.methodLink RL 142 yX10_trim ∈ jT) ∧ (Cond.instanceMethod yX10_trim ∈ jT) ∧ (Cond.selects RX10 yX10_trim yX10_trim ∈ jT) ∧ (Cond.code (mX10_trim).1 (mX10_trim).2.1 (mX10_trim).2.2.1 (mX10_trim).2.2.2 ∈ jT) ∧ (Cond.methodLink RL 146 yX10_text ∈ jT) ∧ (Cond.instanceMethod yX10_text ∈ jT) ∧ (Cond.selects RX10 yX10_text yX10_text ∈ jT) ∧ (Cond.code (mX10_text).1 (mX10_text).2.1 (mX10_text).2.2.1 (mX10_text).2.2.2 ∈ jT) ∧ (Cond.methodLink RX10 281 yX8_isText ∈ jT) ∧ kws (tables_1_4.drop 64) := kw_g kw4_3.2.2.2.2.2.2.2.2.2.2.2.2.2.2.2.2 rfl fun h => kw_g h rfl fun h => kw_g h rfl fun h => kw_g h rfl fun h => kw_g h rfl fun h => kw_g h rfl fun h => kw_s h fun h => kw_g h rfl fun h => kw_g h rfl fun h => kw_g h rfl fun h => kw_g h rfl fun h => kw_g h rfl fun h => kw_g h rfl fun h => kw_g h rfl fun h => kw_g h rfl fun h => kw_g h rfl fun h => h
theorem jwX_X10_feed : Cond.selects RX10 yX10_feed yX10_feed ∈ jT := kw4_4.1
theorem jwO_X10_feed : Cond.code (mX10_feed).1 (mX10_feed).2.1 (mX10_feed).2.2.1 (mX10_feed).2.2.2 ∈ jT := kw4_4.2.1
theorem jwM_X10_278 : Cond.methodLink RX10 278 yX8_addNumber ∈ jT := kw4_4.2.2.1
theorem jwN_X8_addNumber : Cond.instanceMethod yX8_addNumber ∈ jT := kw4_4.2.2.2.1
theorem jwX_X8_addNumber : Cond.selects RX8 yX8_addNumber yX8_addNumber ∈ jT := kw4_4.2.2.2.2.1
theorem jwO_X8_addNumber : Cond.code (mX8_addNumber).1 (mX8_addNumber).2.1 (mX8_addNumber).2.2.1 (mX8_addNumber).2.2.2 ∈ jT := kw4_4.2.2.2.2.2.1
theorem jwM_L_142 : Cond.methodLink RL 142 yX10_trim ∈ jT := kw4_4.2.2.2.2.2.2.1
theorem jwN_X10_trim : Cond.instanceMethod yX10_trim ∈ jT := kw4_4.2.2.2.2.2.2.2.1
theorem jwX_X10_trim : Cond.selects RX10 yX10_trim yX10_trim ∈ jT := kw4_4.2.2.2.2.2.2.2.2.1
theorem jwO_X10_trim : Cond.code (mX10_trim).1 (mX10_trim).2.1 (mX10_trim).2.2.1 (mX10_trim).2.2.2 ∈ jT := kw4_4.2.2.2.2.2.2.2.2.2.1
theorem jwM_L_146 : Cond.methodLink RL 146 yX10_text ∈ jT := kw4_4.2.2.2.2.2.2.2.2.2.2.1
theorem jwN_X10_text : Cond.instanceMethod yX10_text ∈ jT := kw4_4.2.2.2.2.2.2.2.2.2.2.2.1
theorem jwX_X10_text : Cond.selects RX10 yX10_text yX10_text ∈ jT := kw4_4.2.2.2.2.2.2.2.2.2.2.2.2.1
theorem jwO_X10_text : Cond.code (mX10_text).1 (mX10_text).2.1 (mX10_text).2.2.1 (mX10_text).2.2.2 ∈ jT := kw4_4.2.2.2.2.2.2.2.2.2.2.2.2.2.1
theorem jwM_X10_281 : Cond.methodLink RX10 281 yX8_isText ∈ jT := kw4_4.2.2.2.2.2.2.2.2.2.2.2.2.2.2.1
set_option maxRecDepth 100000 in
theorem kw4_5 : (Cond.instanceMethod yX8_isText ∈ jT) ∧ (Cond.selects RX8 yX8_isText yX8_isText ∈ jT) ∧ (Cond.code (mX8_isText).1 (mX8_isText).2.1 (mX8_isText).2.2.1 (mX8_isText).2.2.2 ∈ jT) ∧ (Cond.methodLink RX8 38 yX8_step ∈ jT) ∧ (Cond.instanceMethod yX8_step ∈ jT) ∧ (Cond.code (mX8_step).1 (mX8_step).2.1 (mX8_step).2.2.1 (mX8_step).2.2.2 ∈ jT) ∧ (Cond.methodLink RX8 66 yX8_byteAt ∈ jT) ∧ (Cond.instanceMethod yX8_byteAt ∈ jT) ∧ (Cond.code (mX8_byteAt).1 (mX8_byteAt).2.1 (mX8_byteAt).2.2.1 (mX8_byteAt).2.2.2 ∈ jT) ∧ (Cond.methodLink RX8 70 yX8_sortAt ∈ jT) ∧ (Cond.instanceMethod yX8_sortAt ∈ jT) ∧ (Cond.code (mX8_sortAt).1 (mX8_sortAt).2.1 (mX8_sortAt).2.2.1 (mX8_sortAt).2.2.2 ∈ jT) ∧ (Cond.methodLink RX8 41 yX8_keyInHand ∈ jT) ∧ kws (tables_1_4.drop 80) := kw_g kw4_4.2.2.2.2.2.2.2.2.2.2.2.2.2.2.2 rfl fun h => kw_g h rfl fun h => kw_g h rfl fun h => kw_g h rfl fun h => kw_s h fun h => kw_g h rfl fun h => kw_g h rfl fun h => kw_g h rfl fun h => kw_s h fun h => kw_g h rfl fun h => kw_g h rfl fun h => kw_g h rfl fun h => kw_s h fun h => kw_g h rfl fun h => kw_g h rfl fun h => kw_g h rfl fun h => h
theorem jwN_X8_isText : Cond.instanceMethod yX8_isText ∈ jT := kw4_5.1
theorem jwX_X8_isText : Cond.selects RX8 yX8_isText yX8_isText ∈ jT := kw4_5.2.1
theorem jwO_X8_isText : Cond.code (mX8_isText).1 (mX8_isText).2.1 (mX8_isText).2.2.1 (mX8_isText).2.2.2 ∈ jT := kw4_5.2.2.1
theorem jwM_X8_38 : Cond.methodLink RX8 38 yX8_step ∈ jT := kw4_5.2.2.2.1
theorem jwN_X8_step : Cond.instanceMethod yX8_step ∈ jT := kw4_5.2.2.2.2.1
theorem jwO_X8_step : Cond.code (mX8_step).1 (mX8_step).2.1 (mX8_step).2.2.1 (mX8_step).2.2.2 ∈ jT := kw4_5.2.2.2.2.2.1
theorem jwM_X8_66 : Cond.methodLink RX8 66 yX8_byteAt ∈ jT := kw4_5.2.2.2.2.2.2.1
theorem jwN_X8_byteAt : Cond.instanceMethod yX8_byteAt ∈ jT := kw4_5.2.2.2.2.2.2.2.1
theorem jwO_X8_byteAt : Cond.code (mX8_byteAt).1 (mX8_byteAt).2.1 (mX8_byteAt).2.2.1 (mX8_byteAt).2.2.2 ∈ jT := kw4_5.2.2.2.2.2.2.2.2.1
theorem jwM_X8_70 : Cond.methodLink RX8 70 yX8_sortAt ∈ jT := kw4_5.2.2.2.2.2.2.2.2.2.1
theorem jwN_X8_sortAt : Cond.instanceMethod yX8_sortAt ∈ jT := kw4_5.2.2.2.2.2.2.2.2.2.2.1
theorem jwO_X8_sortAt : Cond.code (mX8_sortAt).1 (mX8_sortAt).2.1 (mX8_sortAt).2.2.1 (mX8_sortAt).2.2.2 ∈ jT := kw4_5.2.2.2.2.2.2.2.2.2.2.2.1
theorem jwM_X8_41 : Cond.methodLink RX8 41 yX8_keyInHand ∈ jT := kw4_5.2.2.2.2.2.2.2.2.2.2.2.2.1
set_option maxRecDepth 100000 in
theorem kw4_6 : (Cond.instanceMethod yX8_keyInHand ∈ jT) ∧ (Cond.code (mX8_keyInHand).1 (mX8_keyInHand).2.1 (mX8_keyInHand).2.2.1 (mX8_keyInHand).2.2.2 ∈ jT) ∧ (Cond.methodLink RX8 77 yX8_wordOf ∈ jT) ∧ (Cond.static yX8_wordOf ∈ jT) ∧ (Cond.code (mX8_wordOf).1 (mX8_wordOf).2.1 (mX8_wordOf).2.2.1 (mX8_wordOf).2.2.2 ∈ jT) ∧ (Cond.methodLink RX8 81 yX8_isWordInHand ∈ jT) ∧ (Cond.instanceMethod yX8_isWordInHand ∈ jT) ∧ (Cond.code (mX8_isWordInHand).1 (mX8_isWordInHand).2.1 (mX8_isWordInHand).2.2.1 (mX8_isWordInHand).2.2.2 ∈ jT) ∧ (Cond.methodLink RX8 85 yJ0_length_8abf5 ∈ jT) ∧ (Cond.instanceMethod yJ0_length_8abf5 ∈ jT) ∧ (Cond.selects RJ0 yJ0_length_8abf5 yJ0_length_8abf5 ∈ jT) ∧ kws (tables_1_4.drop 96) := kw_s kw4_5.2.2.2.2.2.2.2.2.2.2.2.2.2 fun h => kw_g h rfl fun h => kw_g h rfl fun h => kw_g h rfl fun h => kw_g h rfl fun h => kw_g h rfl fun h => kw_s h fun h => kw_s h fun h => kw_s h fun h => kw_g h rfl fun h => kw_s h fun h => kw_g h rfl fun h => kw_g h rfl fun h => kw_g h rfl fun h => kw_g h rfl fun h => kw_g h rfl fun h => h
theorem jwN_X8_keyInHand : Cond.instanceMethod yX8_keyInHand ∈ jT := kw4_6.1
theorem jwO_X8_keyInHand : Cond.code (mX8_keyInHand).1 (mX8_keyInHand).2.1 (mX8_keyInHand).2.2.1 (mX8_keyInHand).2.2.2 ∈ jT := kw4_6.2.1
theorem jwM_X8_77 : Cond.methodLink RX8 77 yX8_wordOf ∈ jT := kw4_6.2.2.1
theorem jwS_X8_wordOf : Cond.static yX8_wordOf ∈ jT := kw4_6.2.2.2.1
theorem jwO_X8_wordOf : Cond.code (mX8_wordOf).1 (mX8_wordOf).2.1 (mX8_wordOf).2.2.1 (mX8_wordOf).2.2.2 ∈ jT := kw4_6.2.2.2.2.1
theorem jwM_X8_81 : Cond.methodLink RX8 81 yX8_isWordInHand ∈ jT := kw4_6.2.2.2.2.2.1
theorem jwN_X8_isWordInHand : Cond.instanceMethod yX8_isWordInHand ∈ jT := kw4_6.2.2.2.2.2.2.1
theorem jwO_X8_isWordInHand : Cond.code (mX8_isWordInHand).1 (mX8_isWordInHand).2.1 (mX8_isWordInHand).2.2.1 (mX8_isWordInHand).2.2.2 ∈ jT := kw4_6.2.2.2.2.2.2.2.1
theorem jwM_X8_85 : Cond.methodLink RX8 85 yJ0_length_8abf5 ∈ jT := kw4_6.2.2.2.2.2.2.2.2.1
theorem jwN_J0_length_8abf5 : Cond.instanceMethod yJ0_length_8abf5 ∈ jT := kw4_6.2.2.2.2.2.2.2.2.2.1
theorem jwX_J0_length_8abf5 : Cond.selects RJ0 yJ0_length_8abf5 yJ0_length_8abf5 ∈ jT := kw4_6.2.2.2.2.2.2.2.2.2.2.1
set_option maxRecDepth 100000 in
theorem kw4_7 : (Cond.code (mJ0_length_8abf5).1 (mJ0_length_8abf5).2.1 (mJ0_length_8abf5).2.2.1 (mJ0_length_8abf5).2.2.2 ∈ jT) ∧ (Cond.methodLink RJ0 335 yJ0_coder_7d493 ∈ jT) ∧ (Cond.instanceMethod yJ0_coder_7d493 ∈ jT) ∧ (Cond.selects RJ0 yJ0_coder_7d493 yJ0_coder_7d493 ∈ jT) ∧ (Cond.code (mJ0_coder_7d493).1 (mJ0_coder_7d493).2.1 (mJ0_coder_7d493).2.2.1 (mJ0_coder_7d493).2.2.2 ∈ jT) ∧ (Cond.fieldLink RJ0 38 RJ0 "COMPACT_STRINGS" "Z" ∈ jT) ∧ (Cond.methodLink RX8 90 yJ0_charAt_5068e ∈ jT) ∧ (Cond.instanceMethod yJ0_charAt_5068e ∈ jT) ∧ (Cond.selects RJ0 yJ0_charAt_5068e yJ0_charAt_5068e ∈ jT) ∧ (Cond.code (mJ0_charAt_5068e).1 (mJ0_charAt_5068e).2.1 (mJ0_charAt_5068e).2.2.1 (mJ0_charAt_5068e).2.2.2 ∈ jT) ∧ (Cond.methodLink RJ0 492 yJ0_isLatin1_aae02 ∈ jT) ∧ (Cond.instanceMethod yJ0_isLatin1_aae02 ∈ jT) ∧ (Cond.selects RJ0 yJ0_isLatin1_aae02 yJ0_isLatin1_aae02 ∈ jT) ∧ (Cond.code (mJ0_isLatin1_aae02).1 (mJ0_isLatin1_aae02).2.1 (mJ0_isLatin1_aae02).2.2.1 (mJ0_isLatin1_aae02).2.2.2 ∈ jT) ∧ (Cond.methodLink RJ0 495 yJ1_charAt_3b067 ∈ jT) ∧ kws (tables_1_4.drop 112) := kw_g kw4_6.2.2.2.2.2.2.2.2.2.2.2 rfl fun h => kw_g h rfl fun h => kw_g h rfl fun h => kw_g h rfl fun h => kw_g h rfl fun h => kw_g h rfl fun h => kw_s h fun h => kw_g h rfl fun h => kw_g h rfl fun h => kw_g h rfl fun h => kw_g h rfl fun h => kw_g h rfl fun h => kw_g h rfl fun h => kw_g h rfl fun h => kw_g h rfl fun h => kw_g h rfl fun h => h
theorem jwO_J0_length_8abf5 : Cond.code (mJ0_length_8abf5).1 (mJ0_length_8abf5).2.1 (mJ0_length_8abf5).2.2.1 (mJ0_length_8abf5).2.2.2 ∈ jT := kw4_7.1
theorem jwM_J0_335 : Cond.methodLink RJ0 335 yJ0_coder_7d493 ∈ jT := kw4_7.2.1
theorem jwN_J0_coder_7d493 : Cond.instanceMethod yJ0_coder_7d493 ∈ jT := kw4_7.2.2.1
theorem jwX_J0_coder_7d493 : Cond.selects RJ0 yJ0_coder_7d493 yJ0_coder_7d493 ∈ jT := kw4_7.2.2.2.1
theorem jwO_J0_coder_7d493 : Cond.code (mJ0_coder_7d493).1 (mJ0_coder_7d493).2.1 (mJ0_coder_7d493).2.2.1 (mJ0_coder_7d493).2.2.2 ∈ jT := kw4_7.2.2.2.2.1
theorem jwF_J0_38 : Cond.fieldLink RJ0 38 RJ0 "COMPACT_STRINGS" "Z" ∈ jT := kw4_7.2.2.2.2.2.1
theorem jwM_X8_90 : Cond.methodLink RX8 90 yJ0_charAt_5068e ∈ jT := kw4_7.2.2.2.2.2.2.1
theorem jwN_J0_charAt_5068e : Cond.instanceMethod yJ0_charAt_5068e ∈ jT := kw4_7.2.2.2.2.2.2.2.1
theorem jwX_J0_charAt_5068e : Cond.selects RJ0 yJ0_charAt_5068e yJ0_charAt_5068e ∈ jT := kw4_7.2.2.2.2.2.2.2.2.1
theorem jwO_J0_charAt_5068e : Cond.code (mJ0_charAt_5068e).1 (mJ0_charAt_5068e).2.1 (mJ0_charAt_5068e).2.2.1 (mJ0_charAt_5068e).2.2.2 ∈ jT := kw4_7.2.2.2.2.2.2.2.2.2.1
theorem jwM_J0_492 : Cond.methodLink RJ0 492 yJ0_isLatin1_aae02 ∈ jT := kw4_7.2.2.2.2.2.2.2.2.2.2.1
theorem jwN_J0_isLatin1_aae02 : Cond.instanceMethod yJ0_isLatin1_aae02 ∈ jT := kw4_7.2.2.2.2.2.2.2.2.2.2.2.1
theorem jwX_J0_isLatin1_aae02 : Cond.selects RJ0 yJ0_isLatin1_aae02 yJ0_isLatin1_aae02 ∈ jT := kw4_7.2.2.2.2.2.2.2.2.2.2.2.2.1
theorem jwO_J0_isLatin1_aae02 : Cond.code (mJ0_isLatin1_aae02).1 (mJ0_isLatin1_aae02).2.1 (mJ0_isLatin1_aae02).2.2.1 (mJ0_isLatin1_aae02).2.2.2 ∈ jT := kw4_7.2.2.2.2.2.2.2.2.2.2.2.2.2.1
theorem jwM_J0_495 : Cond.methodLink RJ0 495 yJ1_charAt_3b067 ∈ jT := kw4_7.2.2.2.2.2.2.2.2.2.2.2.2.2.2.1
set_option maxRecDepth 100000 in
theorem kw4_8 : (Cond.static yJ1_charAt_3b067 ∈ jT) ∧ (Cond.code (mJ1_charAt_3b067).1 (mJ1_charAt_3b067).2.1 (mJ1_charAt_3b067).2.2.1 (mJ1_charAt_3b067).2.2.2 ∈ jT) ∧ (Cond.methodLink RJ1 9 yJ0_checkIndex_df160 ∈ jT) ∧ (Cond.static yJ0_checkIndex_df160 ∈ jT) ∧ (Cond.code (mJ0_checkIndex_df160).1 (mJ0_checkIndex_df160).2.1 (mJ0_checkIndex_df160).2.2.1 (mJ0_checkIndex_df160).2.2.2 ∈ jT) ∧ (Cond.fieldLink RJ0 1053 RJ3 "SIOOBE_FORMATTER" "Ljava/util/function/BiFunction;" ∈ jT) ∧ (Cond.methodLink RJ0 1059 yJ3_checkIndex_8e157 ∈ jT) ∧ (Cond.static yJ3_checkIndex_8e157 ∈ jT) ∧ (Cond.code (mJ3_checkIndex_8e157).1 (mJ3_checkIndex_8e157).2.1 (mJ3_checkIndex_8e157).2.2.1 (mJ3_checkIndex_8e157).2.2.2 ∈ jT) ∧ kws (tables_1_4.drop 128) := kw_g kw4_7.2.2.2.2.2.2.2.2.2.2.2.2.2.2.2 rfl fun h => kw_g h rfl fun h => kw_g h rfl fun h => kw_g h rfl fun h => kw_g h rfl fun h => kw_g h rfl fun h => kw_s h fun h => kw_g h rfl fun h => kw_g h rfl fun h => kw_g h rfl fun h => kw_s h fun h => kw_s h fun h => kw_s h fun h => kw_s h fun h => kw_s h fun h => kw_s h fun h => h
theorem jwS_J1_charAt_3b067 : Cond.static yJ1_charAt_3b067 ∈ jT := kw4_8.1
theorem jwO_J1_charAt_3b067 : Cond.code (mJ1_charAt_3b067).1 (mJ1_charAt_3b067).2.1 (mJ1_charAt_3b067).2.2.1 (mJ1_charAt_3b067).2.2.2 ∈ jT := kw4_8.2.1
theorem jwM_J1_9 : Cond.methodLink RJ1 9 yJ0_checkIndex_df160 ∈ jT := kw4_8.2.2.1
theorem jwS_J0_checkIndex_df160 : Cond.static yJ0_checkIndex_df160 ∈ jT := kw4_8.2.2.2.1
theorem jwO_J0_checkIndex_df160 : Cond.code (mJ0_checkIndex_df160).1 (mJ0_checkIndex_df160).2.1 (mJ0_checkIndex_df160).2.2.1 (mJ0_checkIndex_df160).2.2.2 ∈ jT := kw4_8.2.2.2.2.1
theorem jwF_J0_1053 : Cond.fieldLink RJ0 1053 RJ3 "SIOOBE_FORMATTER" "Ljava/util/function/BiFunction;" ∈ jT := kw4_8.2.2.2.2.2.1
theorem jwM_J0_1059 : Cond.methodLink RJ0 1059 yJ3_checkIndex_8e157 ∈ jT := kw4_8.2.2.2.2.2.2.1
theorem jwS_J3_checkIndex_8e157 : Cond.static yJ3_checkIndex_8e157 ∈ jT := kw4_8.2.2.2.2.2.2.2.1
theorem jwO_J3_checkIndex_8e157 : Cond.code (mJ3_checkIndex_8e157).1 (mJ3_checkIndex_8e157).2.1 (mJ3_checkIndex_8e157).2.2.1 (mJ3_checkIndex_8e157).2.2.2 ∈ jT := kw4_8.2.2.2.2.2.2.2.2.1
set_option maxRecDepth 100000 in
theorem kw4_9 : (Cond.methodLink RX8 48 yX8_readsChain ∈ jT) ∧ (Cond.instanceMethod yX8_readsChain ∈ jT) ∧ kws (tables_1_4.drop 144) := kw_s kw4_8.2.2.2.2.2.2.2.2.2 fun h => kw_s h fun h => kw_s h fun h => kw_s h fun h => kw_s h fun h => kw_s h fun h => kw_s h fun h => kw_s h fun h => kw_s h fun h => kw_s h fun h => kw_s h fun h => kw_s h fun h => kw_s h fun h => kw_g h rfl fun h => kw_s h fun h => kw_g h rfl fun h => h
theorem jwM_X8_48 : Cond.methodLink RX8 48 yX8_readsChain ∈ jT := kw4_9.1
theorem jwN_X8_readsChain : Cond.instanceMethod yX8_readsChain ∈ jT := kw4_9.2.1
set_option maxRecDepth 100000 in
theorem kw4_10 : (Cond.code (mX8_readsChain).1 (mX8_readsChain).2.1 (mX8_readsChain).2.2.1 (mX8_readsChain).2.2.2 ∈ jT) ∧ (Cond.methodLink RX8 106 yX8_readsPiece ∈ jT) ∧ (Cond.instanceMethod yX8_readsPiece ∈ jT) ∧ (Cond.code (mX8_readsPiece).1 (mX8_readsPiece).2.1 (mX8_readsPiece).2.2.1 (mX8_readsPiece).2.2.2 ∈ jT) ∧ (Cond.methodLink RX8 116 yX8_readsOperand ∈ jT) ∧ (Cond.instanceMethod yX8_readsOperand ∈ jT) ∧ (Cond.code (mX8_readsOperand).1 (mX8_readsOperand).2.1 (mX8_readsOperand).2.2.1 (mX8_readsOperand).2.2.2 ∈ jT) ∧ (Cond.methodLink RX8 124 yX8_numberInHand ∈ jT) ∧ (Cond.instanceMethod yX8_numberInHand ∈ jT) ∧ (Cond.code (mX8_numberInHand).1 (mX8_numberInHand).2.1 (mX8_numberInHand).2.2.1 (mX8_numberInHand).2.2.2 ∈ jT) ∧ (Cond.methodLink RX8 127 yX8_nameInHand ∈ jT) ∧ (Cond.instanceMethod yX8_nameInHand ∈ jT) ∧ kws (tables_1_4.drop 160) := kw_g kw4_9.2.2 rfl fun h => kw_g h rfl fun h => kw_s h fun h => kw_g h rfl fun h => kw_g h rfl fun h => kw_g h rfl fun h => kw_s h fun h => kw_g h rfl fun h => kw_g h rfl fun h => kw_g h rfl fun h => kw_s h fun h => kw_g h rfl fun h => kw_g h rfl fun h => kw_g h rfl fun h => kw_s h fun h => kw_g h rfl fun h => h
theorem jwO_X8_readsChain : Cond.code (mX8_readsChain).1 (mX8_readsChain).2.1 (mX8_readsChain).2.2.1 (mX8_readsChain).2.2.2 ∈ jT := kw4_10.1
theorem jwM_X8_106 : Cond.methodLink RX8 106 yX8_readsPiece ∈ jT := kw4_10.2.1
theorem jwN_X8_readsPiece : Cond.instanceMethod yX8_readsPiece ∈ jT := kw4_10.2.2.1
theorem jwO_X8_readsPiece : Cond.code (mX8_readsPiece).1 (mX8_readsPiece).2.1 (mX8_readsPiece).2.2.1 (mX8_readsPiece).2.2.2 ∈ jT := kw4_10.2.2.2.1
theorem jwM_X8_116 : Cond.methodLink RX8 116 yX8_readsOperand ∈ jT := kw4_10.2.2.2.2.1
theorem jwN_X8_readsOperand : Cond.instanceMethod yX8_readsOperand ∈ jT := kw4_10.2.2.2.2.2.1
theorem jwO_X8_readsOperand : Cond.code (mX8_readsOperand).1 (mX8_readsOperand).2.1 (mX8_readsOperand).2.2.1 (mX8_readsOperand).2.2.2 ∈ jT := kw4_10.2.2.2.2.2.2.1
theorem jwM_X8_124 : Cond.methodLink RX8 124 yX8_numberInHand ∈ jT := kw4_10.2.2.2.2.2.2.2.1
theorem jwN_X8_numberInHand : Cond.instanceMethod yX8_numberInHand ∈ jT := kw4_10.2.2.2.2.2.2.2.2.1
theorem jwO_X8_numberInHand : Cond.code (mX8_numberInHand).1 (mX8_numberInHand).2.1 (mX8_numberInHand).2.2.1 (mX8_numberInHand).2.2.2 ∈ jT := kw4_10.2.2.2.2.2.2.2.2.2.1
theorem jwM_X8_127 : Cond.methodLink RX8 127 yX8_nameInHand ∈ jT := kw4_10.2.2.2.2.2.2.2.2.2.2.1
theorem jwN_X8_nameInHand : Cond.instanceMethod yX8_nameInHand ∈ jT := kw4_10.2.2.2.2.2.2.2.2.2.2.2.1
set_option maxRecDepth 100000 in
theorem kw4_11 : (Cond.code (mX8_nameInHand).1 (mX8_nameInHand).2.1 (mX8_nameInHand).2.2.1 (mX8_nameInHand).2.2.2 ∈ jT) ∧ (Cond.methodLink RX8 130 yX8_namesOf ∈ jT) ∧ (Cond.static yX8_namesOf ∈ jT) ∧ (Cond.code (mX8_namesOf).1 (mX8_namesOf).2.1 (mX8_namesOf).2.2.1 (mX8_namesOf).2.2.2 ∈ jT) ∧ (Cond.methodLink RX8 133 yJ0_indexOf_0f7a4 ∈ jT) ∧ (Cond.instanceMethod yJ0_indexOf_0f7a4 ∈ jT) ∧ (Cond.selects RJ0 yJ0_indexOf_0f7a4 yJ0_indexOf_0f7a4 ∈ jT) ∧ (Cond.code (mJ0_indexOf_0f7a4).1 (mJ0_indexOf_0f7a4).2.1 (mJ0_indexOf_0f7a4).2.2.1 (mJ0_indexOf_0f7a4).2.2.2 ∈ jT) ∧ (Cond.methodLink RJ0 633 yJ0_indexOf_7cf53 ∈ jT) ∧ (Cond.instanceMethod yJ0_indexOf_7cf53 ∈ jT) ∧ (Cond.selects RJ0 yJ0_indexOf_7cf53 yJ0_indexOf_7cf53 ∈ jT) ∧ (Cond.code (mJ0_indexOf_7cf53).1 (mJ0_indexOf_7cf53).2.1 (mJ0_indexOf_7cf53).2.2.1 (mJ0_indexOf_7cf53).2.2.2 ∈ jT) ∧ (Cond.methodLink RJ0 505 yJ0_length_8abf5 ∈ jT) ∧ kws (tables_1_4.drop 176) := kw_g kw4_10.2.2.2.2.2.2.2.2.2.2.2.2 rfl fun h => kw_g h rfl fun h => kw_g h rfl fun h => kw_g h rfl fun h => kw_s h fun h => kw_s h fun h => kw_s h fun h => kw_g h rfl fun h => kw_g h rfl fun h => kw_g h rfl fun h => kw_g h rfl fun h => kw_g h rfl fun h => kw_g h rfl fun h => kw_g h rfl fun h => kw_g h rfl fun h => kw_g h rfl fun h => h
theorem jwO_X8_nameInHand : Cond.code (mX8_nameInHand).1 (mX8_nameInHand).2.1 (mX8_nameInHand).2.2.1 (mX8_nameInHand).2.2.2 ∈ jT := kw4_11.1
theorem jwM_X8_130 : Cond.methodLink RX8 130 yX8_namesOf ∈ jT := kw4_11.2.1
theorem jwS_X8_namesOf : Cond.static yX8_namesOf ∈ jT := kw4_11.2.2.1
theorem jwO_X8_namesOf : Cond.code (mX8_namesOf).1 (mX8_namesOf).2.1 (mX8_namesOf).2.2.1 (mX8_namesOf).2.2.2 ∈ jT := kw4_11.2.2.2.1
theorem jwM_X8_133 : Cond.methodLink RX8 133 yJ0_indexOf_0f7a4 ∈ jT := kw4_11.2.2.2.2.1
theorem jwN_J0_indexOf_0f7a4 : Cond.instanceMethod yJ0_indexOf_0f7a4 ∈ jT := kw4_11.2.2.2.2.2.1
theorem jwX_J0_indexOf_0f7a4 : Cond.selects RJ0 yJ0_indexOf_0f7a4 yJ0_indexOf_0f7a4 ∈ jT := kw4_11.2.2.2.2.2.2.1
theorem jwO_J0_indexOf_0f7a4 : Cond.code (mJ0_indexOf_0f7a4).1 (mJ0_indexOf_0f7a4).2.1 (mJ0_indexOf_0f7a4).2.2.1 (mJ0_indexOf_0f7a4).2.2.2 ∈ jT := kw4_11.2.2.2.2.2.2.2.1
theorem jwM_J0_633 : Cond.methodLink RJ0 633 yJ0_indexOf_7cf53 ∈ jT := kw4_11.2.2.2.2.2.2.2.2.1
theorem jwN_J0_indexOf_7cf53 : Cond.instanceMethod yJ0_indexOf_7cf53 ∈ jT := kw4_11.2.2.2.2.2.2.2.2.2.1
theorem jwX_J0_indexOf_7cf53 : Cond.selects RJ0 yJ0_indexOf_7cf53 yJ0_indexOf_7cf53 ∈ jT := kw4_11.2.2.2.2.2.2.2.2.2.2.1
theorem jwO_J0_indexOf_7cf53 : Cond.code (mJ0_indexOf_7cf53).1 (mJ0_indexOf_7cf53).2.1 (mJ0_indexOf_7cf53).2.2.1 (mJ0_indexOf_7cf53).2.2.2 ∈ jT := kw4_11.2.2.2.2.2.2.2.2.2.2.2.1
theorem jwM_J0_505 : Cond.methodLink RJ0 505 yJ0_length_8abf5 ∈ jT := kw4_11.2.2.2.2.2.2.2.2.2.2.2.2.1
set_option maxRecDepth 100000 in
theorem kw4_12 : (Cond.methodLink RJ0 637 yJ1_indexOf_4cfef ∈ jT) ∧ (Cond.static yJ1_indexOf_4cfef ∈ jT) ∧ (Cond.code (mJ1_indexOf_4cfef).1 (mJ1_indexOf_4cfef).2.1 (mJ1_indexOf_4cfef).2.2.1 (mJ1_indexOf_4cfef).2.2.2 ∈ jT) ∧ (Cond.methodLink RJ1 88 yJ1_canEncode_9a6ad ∈ jT) ∧ (Cond.static yJ1_canEncode_9a6ad ∈ jT) ∧ (Cond.code (mJ1_canEncode_9a6ad).1 (mJ1_canEncode_9a6ad).2.1 (mJ1_canEncode_9a6ad).2.2.1 (mJ1_canEncode_9a6ad).2.2.2 ∈ jT) ∧ (Cond.methodLink RJ1 92 Lib.Math.max.name ∈ jT) ∧ (Cond.methodLink RJ1 38 Lib.Math.min.name ∈ jT) ∧ (Cond.methodLink RJ1 95 yJ1_indexOfChar_4cfef ∈ jT) ∧ (Cond.static yJ1_indexOfChar_4cfef ∈ jT) ∧ (Cond.code (mJ1_indexOfChar_4cfef).1 (mJ1_indexOfChar_4cfef).2.1 (mJ1_indexOfChar_4cfef).2.2.1 (mJ1_indexOfChar_4cfef).2.2.2 ∈ jT) ∧ kws (tables_1_4.drop 192) := kw_g kw4_11.2.2.2.2.2.2.2.2.2.2.2.2.2 rfl fun h => kw_g h rfl fun h => kw_g h rfl fun h => kw_g h rfl fun h => kw_g h rfl fun h => kw_g h rfl fun h => kw_g h rfl fun h => kw_g h rfl fun h => kw_g h rfl fun h => kw_g h rfl fun h => kw_g h rfl fun h => kw_s h fun h => kw_s h fun h => kw_s h fun h => kw_s h fun h => kw_s h fun h => h
theorem jwM_J0_637 : Cond.methodLink RJ0 637 yJ1_indexOf_4cfef ∈ jT := kw4_12.1
theorem jwS_J1_indexOf_4cfef : Cond.static yJ1_indexOf_4cfef ∈ jT := kw4_12.2.1
theorem jwO_J1_indexOf_4cfef : Cond.code (mJ1_indexOf_4cfef).1 (mJ1_indexOf_4cfef).2.1 (mJ1_indexOf_4cfef).2.2.1 (mJ1_indexOf_4cfef).2.2.2 ∈ jT := kw4_12.2.2.1
theorem jwM_J1_88 : Cond.methodLink RJ1 88 yJ1_canEncode_9a6ad ∈ jT := kw4_12.2.2.2.1
theorem jwS_J1_canEncode_9a6ad : Cond.static yJ1_canEncode_9a6ad ∈ jT := kw4_12.2.2.2.2.1
theorem jwO_J1_canEncode_9a6ad : Cond.code (mJ1_canEncode_9a6ad).1 (mJ1_canEncode_9a6ad).2.1 (mJ1_canEncode_9a6ad).2.2.1 (mJ1_canEncode_9a6ad).2.2.2 ∈ jT := kw4_12.2.2.2.2.2.1
theorem jwM_J1_92 : Cond.methodLink RJ1 92 Lib.Math.max.name ∈ jT := kw4_12.2.2.2.2.2.2.1
theorem jwM_J1_38 : Cond.methodLink RJ1 38 Lib.Math.min.name ∈ jT := kw4_12.2.2.2.2.2.2.2.1
theorem jwM_J1_95 : Cond.methodLink RJ1 95 yJ1_indexOfChar_4cfef ∈ jT := kw4_12.2.2.2.2.2.2.2.2.1
theorem jwS_J1_indexOfChar_4cfef : Cond.static yJ1_indexOfChar_4cfef ∈ jT := kw4_12.2.2.2.2.2.2.2.2.2.1
theorem jwO_J1_indexOfChar_4cfef : Cond.code (mJ1_indexOfChar_4cfef).1 (mJ1_indexOfChar_4cfef).2.1 (mJ1_indexOfChar_4cfef).2.2.1 (mJ1_indexOfChar_4cfef).2.2.2 ∈ jT := kw4_12.2.2.2.2.2.2.2.2.2.2.1
set_option maxRecDepth 100000 in
theorem kw4_13 : kws (tables_1_4.drop 208) := kw_s kw4_12.2.2.2.2.2.2.2.2.2.2.2 fun h => kw_s h fun h => kw_s h fun h => kw_s h fun h => kw_s h fun h => kw_s h fun h => kw_s h fun h => kw_s h fun h => kw_s h fun h => kw_s h fun h => kw_s h fun h => kw_s h fun h => kw_s h fun h => kw_s h fun h => kw_s h fun h => kw_s h fun h => h
set_option maxRecDepth 100000 in
theorem kw4_14 : (Cond.methodLink RX8 112 yX8_write ∈ jT) ∧ kws (tables_1_4.drop 224) := kw_s kw4_13 fun h => kw_s h fun h => kw_s h fun h => kw_s h fun h => kw_s h fun h => kw_s h fun h => kw_s h fun h => kw_s h fun h => kw_s h fun h => kw_s h fun h => kw_s h fun h => kw_s h fun h => kw_s h fun h => kw_s h fun h => kw_g h rfl fun h => kw_s h fun h => h
theorem jwM_X8_112 : Cond.methodLink RX8 112 yX8_write ∈ jT := kw4_14.1
set_option maxRecDepth 100000 in
theorem kw4_15 : (Cond.instanceMethod yX8_write ∈ jT) ∧ (Cond.code (mX8_write).1 (mX8_write).2.1 (mX8_write).2.2.1 (mX8_write).2.2.2 ∈ jT) ∧ (Cond.methodLink RX8 120 yX8_isInHand ∈ jT) ∧ (Cond.instanceMethod yX8_isInHand ∈ jT) ∧ (Cond.code (mX8_isInHand).1 (mX8_isInHand).2.1 (mX8_isInHand).2.2.1 (mX8_isInHand).2.2.2 ∈ jT) ∧ (Cond.methodLink RX8 109 yX8_levelInHand ∈ jT) ∧ (Cond.instanceMethod yX8_levelInHand ∈ jT) ∧ (Cond.code (mX8_levelInHand).1 (mX8_levelInHand).2.1 (mX8_levelInHand).2.2.1 (mX8_levelInHand).2.2.2 ∈ jT) ∧ (Cond.methodLink RX10 290 yX8_textRead ∈ jT) ∧ (Cond.instanceMethod yX8_textRead ∈ jT) ∧ (Cond.selects RX8 yX8_textRead yX8_textRead ∈ jT) ∧ (Cond.code (mX8_textRead).1 (mX8_textRead).2.1 (mX8_textRead).2.2.1 (mX8_textRead).2.2.2 ∈ jT) ∧ (Cond.methodLink RX8 52 arraycopyName ∈ jT) ∧ (Cond.static arraycopyName ∈ jT) ∧ kws (tables_1_4.drop 240) := kw_g kw4_14.2 rfl fun h => kw_g h rfl fun h => kw_g h rfl fun h => kw_s h fun h => kw_g h rfl fun h => kw_g h rfl fun h => kw_g h rfl fun h => kw_s h fun h => kw_g h rfl fun h => kw_g h rfl fun h => kw_g h rfl fun h => kw_g h rfl fun h => kw_g h rfl fun h => kw_g h rfl fun h => kw_g h rfl fun h => kw_g h rfl fun h => h
theorem jwN_X8_write : Cond.instanceMethod yX8_write ∈ jT := kw4_15.1
theorem jwO_X8_write : Cond.code (mX8_write).1 (mX8_write).2.1 (mX8_write).2.2.1 (mX8_write).2.2.2 ∈ jT := kw4_15.2.1
theorem jwM_X8_120 : Cond.methodLink RX8 120 yX8_isInHand ∈ jT := kw4_15.2.2.1
theorem jwN_X8_isInHand : Cond.instanceMethod yX8_isInHand ∈ jT := kw4_15.2.2.2.1
theorem jwO_X8_isInHand : Cond.code (mX8_isInHand).1 (mX8_isInHand).2.1 (mX8_isInHand).2.2.1 (mX8_isInHand).2.2.2 ∈ jT := kw4_15.2.2.2.2.1
theorem jwM_X8_109 : Cond.methodLink RX8 109 yX8_levelInHand ∈ jT := kw4_15.2.2.2.2.2.1
theorem jwN_X8_levelInHand : Cond.instanceMethod yX8_levelInHand ∈ jT := kw4_15.2.2.2.2.2.2.1
theorem jwO_X8_levelInHand : Cond.code (mX8_levelInHand).1 (mX8_levelInHand).2.1 (mX8_levelInHand).2.2.1 (mX8_levelInHand).2.2.2 ∈ jT := kw4_15.2.2.2.2.2.2.2.1
theorem jwM_X10_290 : Cond.methodLink RX10 290 yX8_textRead ∈ jT := kw4_15.2.2.2.2.2.2.2.2.1
theorem jwN_X8_textRead : Cond.instanceMethod yX8_textRead ∈ jT := kw4_15.2.2.2.2.2.2.2.2.2.1
theorem jwX_X8_textRead : Cond.selects RX8 yX8_textRead yX8_textRead ∈ jT := kw4_15.2.2.2.2.2.2.2.2.2.2.1
theorem jwO_X8_textRead : Cond.code (mX8_textRead).1 (mX8_textRead).2.1 (mX8_textRead).2.2.1 (mX8_textRead).2.2.2 ∈ jT := kw4_15.2.2.2.2.2.2.2.2.2.2.2.1
theorem jwM_X8_52 : Cond.methodLink RX8 52 arraycopyName ∈ jT := kw4_15.2.2.2.2.2.2.2.2.2.2.2.2.1
theorem jwS_copy : Cond.static arraycopyName ∈ jT := kw4_15.2.2.2.2.2.2.2.2.2.2.2.2.2.1
theorem kw0_5 : kws (tables_1_5.drop 0) := fun w h => jm_5 h
set_option maxRecDepth 100000 in
theorem kw5_1 : (Cond.native arraycopyName ∈ jT) ∧ (Cond.classLink RX8 58 RX9 ∈ jT) ∧ (Cond.instantiable RX9 4 ∈ jT) ∧ (Cond.methodLink RX8 60 yX9_init ∈ jT) ∧ (Cond.instanceMethod yX9_init ∈ jT) ∧ (Cond.code (mX9_init).1 (mX9_init).2.1 (mX9_init).2.2.1 (mX9_init).2.2.2 ∈ jT) ∧ (Cond.methodLink RX9 3 Lib.objectInit ∈ jT) ∧ (Cond.methodLink RX9 22 Lib.Math.max.name ∈ jT) ∧ (Cond.fieldLink RX9 9 RX9 "key" "I" ∈ jT) ∧ (Cond.fieldLink RX3 80 RX9 "key" "I" ∈ jT) ∧ (Cond.fieldLink RX10 302 RX9 "key" "I" ∈ jT) ∧ (Cond.fieldLink RX9 15 RX9 "operands" "I" ∈ jT) ∧ (Cond.fieldLink RX10 307 RX9 "operands" "I" ∈ jT) ∧ (Cond.fieldLink RX9 18 RX9 "code" "[I" ∈ jT) ∧ (Cond.fieldLink RX9 28 RX9 "stack" "[I" ∈ jT) ∧ (Cond.laysFinal RX9 RX9 "key" "I" ∈ jT) ∧ kws (tables_1_5.drop 16) := kw_g kw0_5 rfl fun h => kw_g h rfl fun h => kw_g h rfl fun h => kw_g h rfl fun h => kw_g h rfl fun h => kw_g h rfl fun h => kw_g h rfl fun h => kw_g h rfl fun h => kw_g h rfl fun h => kw_g h rfl fun h => kw_g h rfl fun h => kw_g h rfl fun h => kw_g h rfl fun h => kw_g h rfl fun h => kw_g h rfl fun h => kw_g h rfl fun h => h
theorem jwV_copy : Cond.native arraycopyName ∈ jT := kw5_1.1
theorem jwK_X8_58 : Cond.classLink RX8 58 RX9 ∈ jT := kw5_1.2.1
theorem jwI_X9 : Cond.instantiable RX9 4 ∈ jT := kw5_1.2.2.1
theorem jwM_X8_60 : Cond.methodLink RX8 60 yX9_init ∈ jT := kw5_1.2.2.2.1
theorem jwN_X9_init : Cond.instanceMethod yX9_init ∈ jT := kw5_1.2.2.2.2.1
theorem jwO_X9_init : Cond.code (mX9_init).1 (mX9_init).2.1 (mX9_init).2.2.1 (mX9_init).2.2.2 ∈ jT := kw5_1.2.2.2.2.2.1
theorem jwM_X9_3 : Cond.methodLink RX9 3 Lib.objectInit ∈ jT := kw5_1.2.2.2.2.2.2.1
theorem jwM_X9_22 : Cond.methodLink RX9 22 Lib.Math.max.name ∈ jT := kw5_1.2.2.2.2.2.2.2.1
theorem jwF_X9_9 : Cond.fieldLink RX9 9 RX9 "key" "I" ∈ jT := kw5_1.2.2.2.2.2.2.2.2.1
theorem jwF_X3_80 : Cond.fieldLink RX3 80 RX9 "key" "I" ∈ jT := kw5_1.2.2.2.2.2.2.2.2.2.1
theorem jwF_X10_302 : Cond.fieldLink RX10 302 RX9 "key" "I" ∈ jT := kw5_1.2.2.2.2.2.2.2.2.2.2.1
theorem jwF_X9_15 : Cond.fieldLink RX9 15 RX9 "operands" "I" ∈ jT := kw5_1.2.2.2.2.2.2.2.2.2.2.2.1
theorem jwF_X10_307 : Cond.fieldLink RX10 307 RX9 "operands" "I" ∈ jT := kw5_1.2.2.2.2.2.2.2.2.2.2.2.2.1
theorem jwF_X9_18 : Cond.fieldLink RX9 18 RX9 "code" "[I" ∈ jT := kw5_1.2.2.2.2.2.2.2.2.2.2.2.2.2.1
theorem jwF_X9_28 : Cond.fieldLink RX9 28 RX9 "stack" "[I" ∈ jT := kw5_1.2.2.2.2.2.2.2.2.2.2.2.2.2.2.1
theorem jwY_X9_key : Cond.laysFinal RX9 RX9 "key" "I" ∈ jT := kw5_1.2.2.2.2.2.2.2.2.2.2.2.2.2.2.2.1
set_option maxRecDepth 100000 in
theorem kw5_2 : (Cond.laysFinal RX9 RX9 "operands" "I" ∈ jT) ∧ (Cond.laysFinal RX9 RX9 "code" "[I" ∈ jT) ∧ (Cond.laysFinal RX9 RX9 "stack" "[I" ∈ jT) ∧ (Cond.methodLink RX10 294 yX3_addText ∈ jT) ∧ (Cond.instanceMethod yX3_addText ∈ jT) ∧ (Cond.selects RX3 yX3_addText yX3_addText ∈ jT) ∧ (Cond.code (mX3_addText).1 (mX3_addText).2.1 (mX3_addText).2.2.1 (mX3_addText).2.2.2 ∈ jT) ∧ (Cond.methodLink RL 150 yX10_textTold ∈ jT) ∧ (Cond.instanceMethod yX10_textTold ∈ jT) ∧ (Cond.selects RX10 yX10_textTold yX10_textTold ∈ jT) ∧ kws (tables_1_5.drop 32) := kw_s kw5_1.2.2.2.2.2.2.2.2.2.2.2.2.2.2.2.2 fun h => kw_g h rfl fun h => kw_s h fun h => kw_g h rfl fun h => kw_s h fun h => kw_g h rfl fun h => kw_s h fun h => kw_s h fun h => kw_s h fun h => kw_g h rfl fun h => kw_g h rfl fun h => kw_g h rfl fun h => kw_g h rfl fun h => kw_g h rfl fun h => kw_g h rfl fun h => kw_g h rfl fun h => h
theorem jwY_X9_operands : Cond.laysFinal RX9 RX9 "operands" "I" ∈ jT := kw5_2.1
theorem jwY_X9_code : Cond.laysFinal RX9 RX9 "code" "[I" ∈ jT := kw5_2.2.1
theorem jwY_X9_stack : Cond.laysFinal RX9 RX9 "stack" "[I" ∈ jT := kw5_2.2.2.1
theorem jwM_X10_294 : Cond.methodLink RX10 294 yX3_addText ∈ jT := kw5_2.2.2.2.1
theorem jwN_X3_addText : Cond.instanceMethod yX3_addText ∈ jT := kw5_2.2.2.2.2.1
theorem jwX_X3_addText : Cond.selects RX3 yX3_addText yX3_addText ∈ jT := kw5_2.2.2.2.2.2.1
theorem jwO_X3_addText : Cond.code (mX3_addText).1 (mX3_addText).2.1 (mX3_addText).2.2.1 (mX3_addText).2.2.2 ∈ jT := kw5_2.2.2.2.2.2.2.1
theorem jwM_L_150 : Cond.methodLink RL 150 yX10_textTold ∈ jT := kw5_2.2.2.2.2.2.2.2.1
theorem jwN_X10_textTold : Cond.instanceMethod yX10_textTold ∈ jT := kw5_2.2.2.2.2.2.2.2.2.1
theorem jwX_X10_textTold : Cond.selects RX10 yX10_textTold yX10_textTold ∈ jT := kw5_2.2.2.2.2.2.2.2.2.2.1
set_option maxRecDepth 100000 in
theorem kw5_3 : (Cond.code (mX10_textTold).1 (mX10_textTold).2.1 (mX10_textTold).2.2.1 (mX10_textTold).2.2.2 ∈ jT) ∧ (Cond.methodLink RX10 298 yX3_findText ∈ jT) ∧ (Cond.methodLink RL 154 yX10_why ∈ jT) ∧ (Cond.instanceMethod yX10_why ∈ jT) ∧ (Cond.selects RX10 yX10_why yX10_why ∈ jT) ∧ (Cond.code (mX10_why).1 (mX10_why).2.1 (mX10_why).2.2.1 (mX10_why).2.2.2 ∈ jT) ∧ (Cond.methodLink RX10 310 yX3_numberOfLaw ∈ jT) ∧ (Cond.methodLink RL 158 yX10_sheet ∈ jT) ∧ (Cond.instanceMethod yX10_sheet ∈ jT) ∧ (Cond.selects RX10 yX10_sheet yX10_sheet ∈ jT) ∧ (Cond.code (mX10_sheet).1 (mX10_sheet).2.1 (mX10_sheet).2.2.1 (mX10_sheet).2.2.2 ∈ jT) ∧ (Cond.methodLink RX10 313 yX6_begin ∈ jT) ∧ (Cond.instanceMethod yX6_begin ∈ jT) ∧ (Cond.selects RX6 yX6_begin yX6_begin ∈ jT) ∧ (Cond.code (mX6_begin).1 (mX6_begin).2.1 (mX6_begin).2.2.1 (mX6_begin).2.2.2 ∈ jT) ∧ (Cond.constant RX10 317 (-1000000014) ∈ jT) ∧ kws (tables_1_5.drop 48) := kw_g kw5_2.2.2.2.2.2.2.2.2.2.2 rfl fun h => kw_g h rfl fun h => kw_g h rfl fun h => kw_g h rfl fun h => kw_g h rfl fun h => kw_g h rfl fun h => kw_g h rfl fun h => kw_g h rfl fun h => kw_g h rfl fun h => kw_g h rfl fun h => kw_g h rfl fun h => kw_g h rfl fun h => kw_g h rfl fun h => kw_g h rfl fun h => kw_g h rfl fun h => kw_g h rfl fun h => h
theorem jwO_X10_textTold : Cond.code (mX10_textTold).1 (mX10_textTold).2.1 (mX10_textTold).2.2.1 (mX10_textTold).2.2.2 ∈ jT := kw5_3.1
theorem jwM_X10_298 : Cond.methodLink RX10 298 yX3_findText ∈ jT := kw5_3.2.1
theorem jwM_L_154 : Cond.methodLink RL 154 yX10_why ∈ jT := kw5_3.2.2.1
theorem jwN_X10_why : Cond.instanceMethod yX10_why ∈ jT := kw5_3.2.2.2.1
theorem jwX_X10_why : Cond.selects RX10 yX10_why yX10_why ∈ jT := kw5_3.2.2.2.2.1
theorem jwO_X10_why : Cond.code (mX10_why).1 (mX10_why).2.1 (mX10_why).2.2.1 (mX10_why).2.2.2 ∈ jT := kw5_3.2.2.2.2.2.1
theorem jwM_X10_310 : Cond.methodLink RX10 310 yX3_numberOfLaw ∈ jT := kw5_3.2.2.2.2.2.2.1
theorem jwM_L_158 : Cond.methodLink RL 158 yX10_sheet ∈ jT := kw5_3.2.2.2.2.2.2.2.1
theorem jwN_X10_sheet : Cond.instanceMethod yX10_sheet ∈ jT := kw5_3.2.2.2.2.2.2.2.2.1
theorem jwX_X10_sheet : Cond.selects RX10 yX10_sheet yX10_sheet ∈ jT := kw5_3.2.2.2.2.2.2.2.2.2.1
theorem jwO_X10_sheet : Cond.code (mX10_sheet).1 (mX10_sheet).2.1 (mX10_sheet).2.2.1 (mX10_sheet).2.2.2 ∈ jT := kw5_3.2.2.2.2.2.2.2.2.2.2.1
theorem jwM_X10_313 : Cond.methodLink RX10 313 yX6_begin ∈ jT := kw5_3.2.2.2.2.2.2.2.2.2.2.2.1
theorem jwN_X6_begin : Cond.instanceMethod yX6_begin ∈ jT := kw5_3.2.2.2.2.2.2.2.2.2.2.2.2.1
theorem jwX_X6_begin : Cond.selects RX6 yX6_begin yX6_begin ∈ jT := kw5_3.2.2.2.2.2.2.2.2.2.2.2.2.2.1
theorem jwO_X6_begin : Cond.code (mX6_begin).1 (mX6_begin).2.1 (mX6_begin).2.2.1 (mX6_begin).2.2.2 ∈ jT := kw5_3.2.2.2.2.2.2.2.2.2.2.2.2.2.2.1
theorem jwC_X10_317 : Cond.constant RX10 317 (-1000000014) ∈ jT := kw5_3.2.2.2.2.2.2.2.2.2.2.2.2.2.2.2.1
set_option maxRecDepth 100000 in
theorem kw5_4 : (Cond.methodLink RL 162 yX10_mark ∈ jT) ∧ (Cond.instanceMethod yX10_mark ∈ jT) ∧ (Cond.selects RX10 yX10_mark yX10_mark ∈ jT) ∧ (Cond.code (mX10_mark).1 (mX10_mark).2.1 (mX10_mark).2.2.1 (mX10_mark).2.2.2 ∈ jT) ∧ (Cond.methodLink RX10 318 yX6_hasPlace ∈ jT) ∧ (Cond.constant RX10 321 (-1000000013) ∈ jT) ∧ (Cond.constant RX10 325 (-99999) ∈ jT) ∧ (Cond.constant RX10 326 99999 ∈ jT) ∧ (Cond.methodLink RL 166 yX10_pour ∈ jT) ∧ (Cond.instanceMethod yX10_pour ∈ jT) ∧ (Cond.selects RX10 yX10_pour yX10_pour ∈ jT) ∧ (Cond.code (mX10_pour).1 (mX10_pour).2.1 (mX10_pour).2.2.1 (mX10_pour).2.2.2 ∈ jT) ∧ (Cond.methodLink RX10 328 yX6_isNumber ∈ jT) ∧ (Cond.methodLink RX10 331 Lib.Math.max.name ∈ jT) ∧ (Cond.methodLink RL 170 yX10_reads ∈ jT) ∧ (Cond.instanceMethod yX10_reads ∈ jT) ∧ kws (tables_1_5.drop 64) := kw_g kw5_3.2.2.2.2.2.2.2.2.2.2.2.2.2.2.2.2 rfl fun h => kw_g h rfl fun h => kw_g h rfl fun h => kw_g h rfl fun h => kw_g h rfl fun h => kw_g h rfl fun h => kw_g h rfl fun h => kw_g h rfl fun h => kw_g h rfl fun h => kw_g h rfl fun h => kw_g h rfl fun h => kw_g h rfl fun h => kw_g h rfl fun h => kw_g h rfl fun h => kw_g h rfl fun h => kw_g h rfl fun h => h
theorem jwM_L_162 : Cond.methodLink RL 162 yX10_mark ∈ jT := kw5_4.1
theorem jwN_X10_mark : Cond.instanceMethod yX10_mark ∈ jT := kw5_4.2.1
theorem jwX_X10_mark : Cond.selects RX10 yX10_mark yX10_mark ∈ jT := kw5_4.2.2.1
theorem jwO_X10_mark : Cond.code (mX10_mark).1 (mX10_mark).2.1 (mX10_mark).2.2.1 (mX10_mark).2.2.2 ∈ jT := kw5_4.2.2.2.1
theorem jwM_X10_318 : Cond.methodLink RX10 318 yX6_hasPlace ∈ jT := kw5_4.2.2.2.2.1
theorem jwC_X10_321 : Cond.constant RX10 321 (-1000000013) ∈ jT := kw5_4.2.2.2.2.2.1
theorem jwC_X10_325 : Cond.constant RX10 325 (-99999) ∈ jT := kw5_4.2.2.2.2.2.2.1
theorem jwC_X10_326 : Cond.constant RX10 326 99999 ∈ jT := kw5_4.2.2.2.2.2.2.2.1
theorem jwM_L_166 : Cond.methodLink RL 166 yX10_pour ∈ jT := kw5_4.2.2.2.2.2.2.2.2.1
theorem jwN_X10_pour : Cond.instanceMethod yX10_pour ∈ jT := kw5_4.2.2.2.2.2.2.2.2.2.1
theorem jwX_X10_pour : Cond.selects RX10 yX10_pour yX10_pour ∈ jT := kw5_4.2.2.2.2.2.2.2.2.2.2.1
theorem jwO_X10_pour : Cond.code (mX10_pour).1 (mX10_pour).2.1 (mX10_pour).2.2.1 (mX10_pour).2.2.2 ∈ jT := kw5_4.2.2.2.2.2.2.2.2.2.2.2.1
theorem jwM_X10_328 : Cond.methodLink RX10 328 yX6_isNumber ∈ jT := kw5_4.2.2.2.2.2.2.2.2.2.2.2.2.1
theorem jwM_X10_331 : Cond.methodLink RX10 331 Lib.Math.max.name ∈ jT := kw5_4.2.2.2.2.2.2.2.2.2.2.2.2.2.1
theorem jwM_L_170 : Cond.methodLink RL 170 yX10_reads ∈ jT := kw5_4.2.2.2.2.2.2.2.2.2.2.2.2.2.2.1
theorem jwN_X10_reads : Cond.instanceMethod yX10_reads ∈ jT := kw5_4.2.2.2.2.2.2.2.2.2.2.2.2.2.2.2.1
set_option maxRecDepth 100000 in
theorem kw5_5 : (Cond.selects RX10 yX10_reads yX10_reads ∈ jT) ∧ (Cond.code (mX10_reads).1 (mX10_reads).2.1 (mX10_reads).2.2.1 (mX10_reads).2.2.2 ∈ jT) ∧ (Cond.methodLink RL 174 yX10_copy ∈ jT) ∧ (Cond.instanceMethod yX10_copy ∈ jT) ∧ (Cond.selects RX10 yX10_copy yX10_copy ∈ jT) ∧ (Cond.code (mX10_copy).1 (mX10_copy).2.1 (mX10_copy).2.2.1 (mX10_copy).2.2.2 ∈ jT) ∧ (Cond.methodLink RX10 334 yX6_hasPlaces ∈ jT) ∧ (Cond.instanceMethod yX6_hasPlaces ∈ jT) ∧ (Cond.selects RX6 yX6_hasPlaces yX6_hasPlaces ∈ jT) ∧ (Cond.code (mX6_hasPlaces).1 (mX6_hasPlaces).2.1 (mX6_hasPlaces).2.2.1 (mX6_hasPlaces).2.2.2 ∈ jT) ∧ (Cond.methodLink RX10 337 arraycopyName ∈ jT) ∧ (Cond.methodLink RL 179 yX10_lay ∈ jT) ∧ (Cond.instanceMethod yX10_lay ∈ jT) ∧ (Cond.selects RX10 yX10_lay yX10_lay ∈ jT) ∧ (Cond.code (mX10_lay).1 (mX10_lay).2.1 (mX10_lay).2.2.1 (mX10_lay).2.2.2 ∈ jT) ∧ (Cond.methodLink RX10 343 yX10_findSlot ∈ jT) ∧ kws (tables_1_5.drop 80) := kw_g kw5_4.2.2.2.2.2.2.2.2.2.2.2.2.2.2.2.2 rfl fun h => kw_g h rfl fun h => kw_g h rfl fun h => kw_g h rfl fun h => kw_g h rfl fun h => kw_g h rfl fun h => kw_g h rfl fun h => kw_g h rfl fun h => kw_g h rfl fun h => kw_g h rfl fun h => kw_g h rfl fun h => kw_g h rfl fun h => kw_g h rfl fun h => kw_g h rfl fun h => kw_g h rfl fun h => kw_g h rfl fun h => h
theorem jwX_X10_reads : Cond.selects RX10 yX10_reads yX10_reads ∈ jT := kw5_5.1
theorem jwO_X10_reads : Cond.code (mX10_reads).1 (mX10_reads).2.1 (mX10_reads).2.2.1 (mX10_reads).2.2.2 ∈ jT := kw5_5.2.1
theorem jwM_L_174 : Cond.methodLink RL 174 yX10_copy ∈ jT := kw5_5.2.2.1
theorem jwN_X10_copy : Cond.instanceMethod yX10_copy ∈ jT := kw5_5.2.2.2.1
theorem jwX_X10_copy : Cond.selects RX10 yX10_copy yX10_copy ∈ jT := kw5_5.2.2.2.2.1
theorem jwO_X10_copy : Cond.code (mX10_copy).1 (mX10_copy).2.1 (mX10_copy).2.2.1 (mX10_copy).2.2.2 ∈ jT := kw5_5.2.2.2.2.2.1
theorem jwM_X10_334 : Cond.methodLink RX10 334 yX6_hasPlaces ∈ jT := kw5_5.2.2.2.2.2.2.1
theorem jwN_X6_hasPlaces : Cond.instanceMethod yX6_hasPlaces ∈ jT := kw5_5.2.2.2.2.2.2.2.1
theorem jwX_X6_hasPlaces : Cond.selects RX6 yX6_hasPlaces yX6_hasPlaces ∈ jT := kw5_5.2.2.2.2.2.2.2.2.1
theorem jwO_X6_hasPlaces : Cond.code (mX6_hasPlaces).1 (mX6_hasPlaces).2.1 (mX6_hasPlaces).2.2.1 (mX6_hasPlaces).2.2.2 ∈ jT := kw5_5.2.2.2.2.2.2.2.2.2.1
theorem jwM_X10_337 : Cond.methodLink RX10 337 arraycopyName ∈ jT := kw5_5.2.2.2.2.2.2.2.2.2.2.1
theorem jwM_L_179 : Cond.methodLink RL 179 yX10_lay ∈ jT := kw5_5.2.2.2.2.2.2.2.2.2.2.2.1
theorem jwN_X10_lay : Cond.instanceMethod yX10_lay ∈ jT := kw5_5.2.2.2.2.2.2.2.2.2.2.2.2.1
theorem jwX_X10_lay : Cond.selects RX10 yX10_lay yX10_lay ∈ jT := kw5_5.2.2.2.2.2.2.2.2.2.2.2.2.2.1
theorem jwO_X10_lay : Cond.code (mX10_lay).1 (mX10_lay).2.1 (mX10_lay).2.2.1 (mX10_lay).2.2.2 ∈ jT := kw5_5.2.2.2.2.2.2.2.2.2.2.2.2.2.2.1
theorem jwM_X10_343 : Cond.methodLink RX10 343 yX10_findSlot ∈ jT := kw5_5.2.2.2.2.2.2.2.2.2.2.2.2.2.2.2.1
set_option maxRecDepth 100000 in
theorem kw5_6 : (Cond.instanceMethod yX10_findSlot ∈ jT) ∧ (Cond.code (mX10_findSlot).1 (mX10_findSlot).2.1 (mX10_findSlot).2.2.1 (mX10_findSlot).2.2.2 ∈ jT) ∧ (Cond.methodLink RX10 350 yX10_layMaster ∈ jT) ∧ (Cond.instanceMethod yX10_layMaster ∈ jT) ∧ (Cond.code (mX10_layMaster).1 (mX10_layMaster).2.1 (mX10_layMaster).2.2.1 (mX10_layMaster).2.2.2 ∈ jT) ∧ (Cond.methodLink RX10 364 yX2_become ∈ jT) ∧ (Cond.methodLink RX10 354 yX10_laySheet ∈ jT) ∧ (Cond.instanceMethod yX10_laySheet ∈ jT) ∧ (Cond.code (mX10_laySheet).1 (mX10_laySheet).2.1 (mX10_laySheet).2.2.1 (mX10_laySheet).2.2.2 ∈ jT) ∧ (Cond.methodLink RX10 371 yX6_become ∈ jT) ∧ (Cond.instanceMethod yX6_become ∈ jT) ∧ (Cond.selects RX6 yX6_become yX6_become ∈ jT) ∧ (Cond.code (mX6_become).1 (mX6_become).2.1 (mX6_become).2.2.1 (mX6_become).2.2.2 ∈ jT) ∧ kws (tables_1_5.drop 96) := kw_s kw5_5.2.2.2.2.2.2.2.2.2.2.2.2.2.2.2.2 fun h => kw_g h rfl fun h => kw_g h rfl fun h => kw_g h rfl fun h => kw_s h fun h => kw_g h rfl fun h => kw_g h rfl fun h => kw_g h rfl fun h => kw_g h rfl fun h => kw_s h fun h => kw_g h rfl fun h => kw_g h rfl fun h => kw_g h rfl fun h => kw_g h rfl fun h => kw_g h rfl fun h => kw_g h rfl fun h => h
theorem jwN_X10_findSlot : Cond.instanceMethod yX10_findSlot ∈ jT := kw5_6.1
theorem jwO_X10_findSlot : Cond.code (mX10_findSlot).1 (mX10_findSlot).2.1 (mX10_findSlot).2.2.1 (mX10_findSlot).2.2.2 ∈ jT := kw5_6.2.1
theorem jwM_X10_350 : Cond.methodLink RX10 350 yX10_layMaster ∈ jT := kw5_6.2.2.1
theorem jwN_X10_layMaster : Cond.instanceMethod yX10_layMaster ∈ jT := kw5_6.2.2.2.1
theorem jwO_X10_layMaster : Cond.code (mX10_layMaster).1 (mX10_layMaster).2.1 (mX10_layMaster).2.2.1 (mX10_layMaster).2.2.2 ∈ jT := kw5_6.2.2.2.2.1
theorem jwM_X10_364 : Cond.methodLink RX10 364 yX2_become ∈ jT := kw5_6.2.2.2.2.2.1
theorem jwM_X10_354 : Cond.methodLink RX10 354 yX10_laySheet ∈ jT := kw5_6.2.2.2.2.2.2.1
theorem jwN_X10_laySheet : Cond.instanceMethod yX10_laySheet ∈ jT := kw5_6.2.2.2.2.2.2.2.1
theorem jwO_X10_laySheet : Cond.code (mX10_laySheet).1 (mX10_laySheet).2.1 (mX10_laySheet).2.2.1 (mX10_laySheet).2.2.2 ∈ jT := kw5_6.2.2.2.2.2.2.2.2.1
theorem jwM_X10_371 : Cond.methodLink RX10 371 yX6_become ∈ jT := kw5_6.2.2.2.2.2.2.2.2.2.1
theorem jwN_X6_become : Cond.instanceMethod yX6_become ∈ jT := kw5_6.2.2.2.2.2.2.2.2.2.2.1
theorem jwX_X6_become : Cond.selects RX6 yX6_become yX6_become ∈ jT := kw5_6.2.2.2.2.2.2.2.2.2.2.2.1
theorem jwO_X6_become : Cond.code (mX6_become).1 (mX6_become).2.1 (mX6_become).2.2.1 (mX6_become).2.2.2 ∈ jT := kw5_6.2.2.2.2.2.2.2.2.2.2.2.2.1
set_option maxRecDepth 100000 in
theorem kw5_7 : (Cond.methodLink RX6 22 arraycopyName ∈ jT) ∧ (Cond.methodLink RL 183 yX10_ask ∈ jT) ∧ (Cond.instanceMethod yX10_ask ∈ jT) ∧ (Cond.selects RX10 yX10_ask yX10_ask ∈ jT) ∧ (Cond.code (mX10_ask).1 (mX10_ask).2.1 (mX10_ask).2.2.1 (mX10_ask).2.2.2 ∈ jT) ∧ (Cond.methodLink RL 187 yX10_item ∈ jT) ∧ (Cond.instanceMethod yX10_item ∈ jT) ∧ (Cond.selects RX10 yX10_item yX10_item ∈ jT) ∧ (Cond.code (mX10_item).1 (mX10_item).2.1 (mX10_item).2.2.1 (mX10_item).2.2.2 ∈ jT) ∧ (Cond.methodLink RL 191 yX10_rest ∈ jT) ∧ (Cond.instanceMethod yX10_rest ∈ jT) ∧ (Cond.selects RX10 yX10_rest yX10_rest ∈ jT) ∧ (Cond.code (mX10_rest).1 (mX10_rest).2.1 (mX10_rest).2.2.1 (mX10_rest).2.2.2 ∈ jT) ∧ (Cond.methodLink RL 195 yX10_tell ∈ jT) ∧ (Cond.instanceMethod yX10_tell ∈ jT) ∧ (Cond.selects RX10 yX10_tell yX10_tell ∈ jT) ∧ kws (tables_1_5.drop 112) := kw_g kw5_6.2.2.2.2.2.2.2.2.2.2.2.2.2 rfl fun h => kw_g h rfl fun h => kw_g h rfl fun h => kw_g h rfl fun h => kw_g h rfl fun h => kw_g h rfl fun h => kw_g h rfl fun h => kw_g h rfl fun h => kw_g h rfl fun h => kw_g h rfl fun h => kw_g h rfl fun h => kw_g h rfl fun h => kw_g h rfl fun h => kw_g h rfl fun h => kw_g h rfl fun h => kw_g h rfl fun h => h
theorem jwM_X6_22 : Cond.methodLink RX6 22 arraycopyName ∈ jT := kw5_7.1
theorem jwM_L_183 : Cond.methodLink RL 183 yX10_ask ∈ jT := kw5_7.2.1
theorem jwN_X10_ask : Cond.instanceMethod yX10_ask ∈ jT := kw5_7.2.2.1
theorem jwX_X10_ask : Cond.selects RX10 yX10_ask yX10_ask ∈ jT := kw5_7.2.2.2.1
theorem jwO_X10_ask : Cond.code (mX10_ask).1 (mX10_ask).2.1 (mX10_ask).2.2.1 (mX10_ask).2.2.2 ∈ jT := kw5_7.2.2.2.2.1
theorem jwM_L_187 : Cond.methodLink RL 187 yX10_item ∈ jT := kw5_7.2.2.2.2.2.1
theorem jwN_X10_item : Cond.instanceMethod yX10_item ∈ jT := kw5_7.2.2.2.2.2.2.1
theorem jwX_X10_item : Cond.selects RX10 yX10_item yX10_item ∈ jT := kw5_7.2.2.2.2.2.2.2.1
theorem jwO_X10_item : Cond.code (mX10_item).1 (mX10_item).2.1 (mX10_item).2.2.1 (mX10_item).2.2.2 ∈ jT := kw5_7.2.2.2.2.2.2.2.2.1
theorem jwM_L_191 : Cond.methodLink RL 191 yX10_rest ∈ jT := kw5_7.2.2.2.2.2.2.2.2.2.1
theorem jwN_X10_rest : Cond.instanceMethod yX10_rest ∈ jT := kw5_7.2.2.2.2.2.2.2.2.2.2.1
theorem jwX_X10_rest : Cond.selects RX10 yX10_rest yX10_rest ∈ jT := kw5_7.2.2.2.2.2.2.2.2.2.2.2.1
theorem jwO_X10_rest : Cond.code (mX10_rest).1 (mX10_rest).2.1 (mX10_rest).2.2.1 (mX10_rest).2.2.2 ∈ jT := kw5_7.2.2.2.2.2.2.2.2.2.2.2.2.1
theorem jwM_L_195 : Cond.methodLink RL 195 yX10_tell ∈ jT := kw5_7.2.2.2.2.2.2.2.2.2.2.2.2.2.1
theorem jwN_X10_tell : Cond.instanceMethod yX10_tell ∈ jT := kw5_7.2.2.2.2.2.2.2.2.2.2.2.2.2.2.1
theorem jwX_X10_tell : Cond.selects RX10 yX10_tell yX10_tell ∈ jT := kw5_7.2.2.2.2.2.2.2.2.2.2.2.2.2.2.2.1
set_option maxRecDepth 100000 in
theorem kw5_8 : (Cond.code (mX10_tell).1 (mX10_tell).2.1 (mX10_tell).2.2.1 (mX10_tell).2.2.2 ∈ jT) ∧ (Cond.methodLink RL 199 yX10_check ∈ jT) ∧ (Cond.instanceMethod yX10_check ∈ jT) ∧ (Cond.selects RX10 yX10_check yX10_check ∈ jT) ∧ (Cond.code (mX10_check).1 (mX10_check).2.1 (mX10_check).2.2.1 (mX10_check).2.2.2 ∈ jT) ∧ (Cond.methodLink RX10 380 yX0_liveYear ∈ jT) ∧ (Cond.methodLink RX10 383 yX10_isWaiting ∈ jT) ∧ (Cond.instanceMethod yX10_isWaiting ∈ jT) ∧ (Cond.code (mX10_isWaiting).1 (mX10_isWaiting).2.1 (mX10_isWaiting).2.2.1 (mX10_isWaiting).2.2.2 ∈ jT) ∧ (Cond.methodLink RX10 387 yX0_agesTogether ∈ jT) ∧ (Cond.instanceMethod yX0_agesTogether ∈ jT) ∧ (Cond.selects RX0 yX0_agesTogether yX0_agesTogether ∈ jT) ∧ (Cond.code (mX0_agesTogether).1 (mX0_agesTogether).2.1 (mX0_agesTogether).2.2.1 (mX0_agesTogether).2.2.2 ∈ jT) ∧ (Cond.methodLink RL 203 yX10_keep ∈ jT) ∧ (Cond.instanceMethod yX10_keep ∈ jT) ∧ kws (tables_1_5.drop 128) := kw_g kw5_7.2.2.2.2.2.2.2.2.2.2.2.2.2.2.2.2 rfl fun h => kw_g h rfl fun h => kw_g h rfl fun h => kw_g h rfl fun h => kw_g h rfl fun h => kw_g h rfl fun h => kw_g h rfl fun h => kw_s h fun h => kw_g h rfl fun h => kw_g h rfl fun h => kw_g h rfl fun h => kw_g h rfl fun h => kw_g h rfl fun h => kw_g h rfl fun h => kw_g h rfl fun h => kw_g h rfl fun h => h
theorem jwO_X10_tell : Cond.code (mX10_tell).1 (mX10_tell).2.1 (mX10_tell).2.2.1 (mX10_tell).2.2.2 ∈ jT := kw5_8.1
theorem jwM_L_199 : Cond.methodLink RL 199 yX10_check ∈ jT := kw5_8.2.1
theorem jwN_X10_check : Cond.instanceMethod yX10_check ∈ jT := kw5_8.2.2.1
theorem jwX_X10_check : Cond.selects RX10 yX10_check yX10_check ∈ jT := kw5_8.2.2.2.1
theorem jwO_X10_check : Cond.code (mX10_check).1 (mX10_check).2.1 (mX10_check).2.2.1 (mX10_check).2.2.2 ∈ jT := kw5_8.2.2.2.2.1
theorem jwM_X10_380 : Cond.methodLink RX10 380 yX0_liveYear ∈ jT := kw5_8.2.2.2.2.2.1
theorem jwM_X10_383 : Cond.methodLink RX10 383 yX10_isWaiting ∈ jT := kw5_8.2.2.2.2.2.2.1
theorem jwN_X10_isWaiting : Cond.instanceMethod yX10_isWaiting ∈ jT := kw5_8.2.2.2.2.2.2.2.1
theorem jwO_X10_isWaiting : Cond.code (mX10_isWaiting).1 (mX10_isWaiting).2.1 (mX10_isWaiting).2.2.1 (mX10_isWaiting).2.2.2 ∈ jT := kw5_8.2.2.2.2.2.2.2.2.1
theorem jwM_X10_387 : Cond.methodLink RX10 387 yX0_agesTogether ∈ jT := kw5_8.2.2.2.2.2.2.2.2.2.1
theorem jwN_X0_agesTogether : Cond.instanceMethod yX0_agesTogether ∈ jT := kw5_8.2.2.2.2.2.2.2.2.2.2.1
theorem jwX_X0_agesTogether : Cond.selects RX0 yX0_agesTogether yX0_agesTogether ∈ jT := kw5_8.2.2.2.2.2.2.2.2.2.2.2.1
theorem jwO_X0_agesTogether : Cond.code (mX0_agesTogether).1 (mX0_agesTogether).2.1 (mX0_agesTogether).2.2.1 (mX0_agesTogether).2.2.2 ∈ jT := kw5_8.2.2.2.2.2.2.2.2.2.2.2.2.1
theorem jwM_L_203 : Cond.methodLink RL 203 yX10_keep ∈ jT := kw5_8.2.2.2.2.2.2.2.2.2.2.2.2.2.1
theorem jwN_X10_keep : Cond.instanceMethod yX10_keep ∈ jT := kw5_8.2.2.2.2.2.2.2.2.2.2.2.2.2.2.1
set_option maxRecDepth 100000 in
theorem kw5_9 : (Cond.selects RX10 yX10_keep yX10_keep ∈ jT) ∧ (Cond.code (mX10_keep).1 (mX10_keep).2.1 (mX10_keep).2.2.1 (mX10_keep).2.2.2 ∈ jT) ∧ (Cond.methodLink RX10 390 yX3_become ∈ jT) ∧ (Cond.instanceMethod yX3_become ∈ jT) ∧ (Cond.selects RX3 yX3_become yX3_become ∈ jT) ∧ (Cond.code (mX3_become).1 (mX3_become).2.1 (mX3_become).2.2.1 (mX3_become).2.2.2 ∈ jT) ∧ (Cond.methodLink RX3 42 yX0_become ∈ jT) ∧ (Cond.methodLink RX3 46 yX4_become ∈ jT) ∧ (Cond.instanceMethod yX4_become ∈ jT) ∧ (Cond.selects RX4 yX4_become yX4_become ∈ jT) ∧ (Cond.code (mX4_become).1 (mX4_become).2.1 (mX4_become).2.2.1 (mX4_become).2.2.2 ∈ jT) ∧ (Cond.methodLink RX4 21 arraycopyName ∈ jT) ∧ (Cond.methodLink RX3 49 yX1_become ∈ jT) ∧ (Cond.instanceMethod yX1_become ∈ jT) ∧ (Cond.selects RX1 yX1_become yX1_become ∈ jT) ∧ (Cond.code (mX1_become).1 (mX1_become).2.1 (mX1_become).2.2.1 (mX1_become).2.2.2 ∈ jT) ∧ kws (tables_1_5.drop 144) := kw_g kw5_8.2.2.2.2.2.2.2.2.2.2.2.2.2.2.2 rfl fun h => kw_g h rfl fun h => kw_g h rfl fun h => kw_g h rfl fun h => kw_g h rfl fun h => kw_g h rfl fun h => kw_g h rfl fun h => kw_g h rfl fun h => kw_g h rfl fun h => kw_g h rfl fun h => kw_g h rfl fun h => kw_g h rfl fun h => kw_g h rfl fun h => kw_g h rfl fun h => kw_g h rfl fun h => kw_g h rfl fun h => h
theorem jwX_X10_keep : Cond.selects RX10 yX10_keep yX10_keep ∈ jT := kw5_9.1
theorem jwO_X10_keep : Cond.code (mX10_keep).1 (mX10_keep).2.1 (mX10_keep).2.2.1 (mX10_keep).2.2.2 ∈ jT := kw5_9.2.1
theorem jwM_X10_390 : Cond.methodLink RX10 390 yX3_become ∈ jT := kw5_9.2.2.1
theorem jwN_X3_become : Cond.instanceMethod yX3_become ∈ jT := kw5_9.2.2.2.1
theorem jwX_X3_become : Cond.selects RX3 yX3_become yX3_become ∈ jT := kw5_9.2.2.2.2.1
theorem jwO_X3_become : Cond.code (mX3_become).1 (mX3_become).2.1 (mX3_become).2.2.1 (mX3_become).2.2.2 ∈ jT := kw5_9.2.2.2.2.2.1
theorem jwM_X3_42 : Cond.methodLink RX3 42 yX0_become ∈ jT := kw5_9.2.2.2.2.2.2.1
theorem jwM_X3_46 : Cond.methodLink RX3 46 yX4_become ∈ jT := kw5_9.2.2.2.2.2.2.2.1
theorem jwN_X4_become : Cond.instanceMethod yX4_become ∈ jT := kw5_9.2.2.2.2.2.2.2.2.1
theorem jwX_X4_become : Cond.selects RX4 yX4_become yX4_become ∈ jT := kw5_9.2.2.2.2.2.2.2.2.2.1
theorem jwO_X4_become : Cond.code (mX4_become).1 (mX4_become).2.1 (mX4_become).2.2.1 (mX4_become).2.2.2 ∈ jT := kw5_9.2.2.2.2.2.2.2.2.2.2.1
theorem jwM_X4_21 : Cond.methodLink RX4 21 arraycopyName ∈ jT := kw5_9.2.2.2.2.2.2.2.2.2.2.2.1
theorem jwM_X3_49 : Cond.methodLink RX3 49 yX1_become ∈ jT := kw5_9.2.2.2.2.2.2.2.2.2.2.2.2.1
theorem jwN_X1_become : Cond.instanceMethod yX1_become ∈ jT := kw5_9.2.2.2.2.2.2.2.2.2.2.2.2.2.1
theorem jwX_X1_become : Cond.selects RX1 yX1_become yX1_become ∈ jT := kw5_9.2.2.2.2.2.2.2.2.2.2.2.2.2.2.1
theorem jwO_X1_become : Cond.code (mX1_become).1 (mX1_become).2.1 (mX1_become).2.2.1 (mX1_become).2.2.2 ∈ jT := kw5_9.2.2.2.2.2.2.2.2.2.2.2.2.2.2.2.1
set_option maxRecDepth 100000 in
theorem kw5_10 : (Cond.methodLink RX1 34 arraycopyName ∈ jT) ∧ (Cond.methodLink RX3 52 arraycopyName ∈ jT) ∧ (Cond.methodLink RL 207 yX10_back ∈ jT) ∧ (Cond.instanceMethod yX10_back ∈ jT) ∧ (Cond.selects RX10 yX10_back yX10_back ∈ jT) ∧ (Cond.code (mX10_back).1 (mX10_back).2.1 (mX10_back).2.2.1 (mX10_back).2.2.2 ∈ jT) ∧ (Cond.methodLink RL 211 yX10_count ∈ jT) ∧ (Cond.instanceMethod yX10_count ∈ jT) ∧ (Cond.selects RX10 yX10_count yX10_count ∈ jT) ∧ (Cond.code (mX10_count).1 (mX10_count).2.1 (mX10_count).2.2.1 (mX10_count).2.2.2 ∈ jT) ∧ (Cond.classLink RL 10 RX11 ∈ jT) ∧ (Cond.instantiable RX11 36 ∈ jT) ∧ (Cond.methodLink RL 12 yX11_init ∈ jT) ∧ (Cond.instanceMethod yX11_init ∈ jT) ∧ (Cond.code (mX11_init).1 (mX11_init).2.1 (mX11_init).2.2.1 (mX11_init).2.2.2 ∈ jT) ∧ (Cond.methodLink RX11 1 Lib.objectInit ∈ jT) ∧ kws (tables_1_5.drop 160) := kw_g kw5_9.2.2.2.2.2.2.2.2.2.2.2.2.2.2.2.2 rfl fun h => kw_g h rfl fun h => kw_g h rfl fun h => kw_g h rfl fun h => kw_g h rfl fun h => kw_g h rfl fun h => kw_g h rfl fun h => kw_g h rfl fun h => kw_g h rfl fun h => kw_g h rfl fun h => kw_g h rfl fun h => kw_g h rfl fun h => kw_g h rfl fun h => kw_g h rfl fun h => kw_g h rfl fun h => kw_g h rfl fun h => h
theorem jwM_X1_34 : Cond.methodLink RX1 34 arraycopyName ∈ jT := kw5_10.1
theorem jwM_X3_52 : Cond.methodLink RX3 52 arraycopyName ∈ jT := kw5_10.2.1
theorem jwM_L_207 : Cond.methodLink RL 207 yX10_back ∈ jT := kw5_10.2.2.1
theorem jwN_X10_back : Cond.instanceMethod yX10_back ∈ jT := kw5_10.2.2.2.1
theorem jwX_X10_back : Cond.selects RX10 yX10_back yX10_back ∈ jT := kw5_10.2.2.2.2.1
theorem jwO_X10_back : Cond.code (mX10_back).1 (mX10_back).2.1 (mX10_back).2.2.1 (mX10_back).2.2.2 ∈ jT := kw5_10.2.2.2.2.2.1
theorem jwM_L_211 : Cond.methodLink RL 211 yX10_count ∈ jT := kw5_10.2.2.2.2.2.2.1
theorem jwN_X10_count : Cond.instanceMethod yX10_count ∈ jT := kw5_10.2.2.2.2.2.2.2.1
theorem jwX_X10_count : Cond.selects RX10 yX10_count yX10_count ∈ jT := kw5_10.2.2.2.2.2.2.2.2.1
theorem jwO_X10_count : Cond.code (mX10_count).1 (mX10_count).2.1 (mX10_count).2.2.1 (mX10_count).2.2.2 ∈ jT := kw5_10.2.2.2.2.2.2.2.2.2.1
theorem jwK_L_10 : Cond.classLink RL 10 RX11 ∈ jT := kw5_10.2.2.2.2.2.2.2.2.2.2.1
theorem jwI_X11 : Cond.instantiable RX11 36 ∈ jT := kw5_10.2.2.2.2.2.2.2.2.2.2.2.1
theorem jwM_L_12 : Cond.methodLink RL 12 yX11_init ∈ jT := kw5_10.2.2.2.2.2.2.2.2.2.2.2.2.1
theorem jwN_X11_init : Cond.instanceMethod yX11_init ∈ jT := kw5_10.2.2.2.2.2.2.2.2.2.2.2.2.2.1
theorem jwO_X11_init : Cond.code (mX11_init).1 (mX11_init).2.1 (mX11_init).2.2.1 (mX11_init).2.2.2 ∈ jT := kw5_10.2.2.2.2.2.2.2.2.2.2.2.2.2.2.1
theorem jwM_X11_1 : Cond.methodLink RX11 1 Lib.objectInit ∈ jT := kw5_10.2.2.2.2.2.2.2.2.2.2.2.2.2.2.2.1
set_option maxRecDepth 100000 in
theorem kw5_11 : (Cond.fieldLink RX11 7 RX11 "s" "[I" ∈ jT) ∧ (Cond.fieldLink RX11 13 RX11 "image" "[I" ∈ jT) ∧ (Cond.fieldLink RX11 16 RX11 "aside" "[I" ∈ jT) ∧ (Cond.fieldLink RX11 337 RX11 "hasImage" "Z" ∈ jT) ∧ (Cond.fieldLink RX11 19 RX11 "tSort" "[I" ∈ jT) ∧ (Cond.fieldLink RX11 22 RX11 "tSize" "[I" ∈ jT) ∧ (Cond.fieldLink RX11 25 RX11 "tNumber" "[I" ∈ jT) ∧ (Cond.fieldLink RX11 28 RX11 "held" "[I" ∈ jT) ∧ (Cond.fieldLink RX11 31 RX11 "heldNumber" "[I" ∈ jT) ∧ (Cond.fieldLink RX11 34 RX11 "heldWorth" "[I" ∈ jT) ∧ (Cond.fieldLink RX11 37 RX11 "heldSize" "[I" ∈ jT) ∧ (Cond.fieldLink RX11 40 RX11 "heldRow" "[I" ∈ jT) ∧ (Cond.fieldLink RX11 43 RX11 "far" "[I" ∈ jT) ∧ (Cond.fieldLink RX11 46 RX11 "close" "[I" ∈ jT) ∧ (Cond.fieldLink RX11 49 RX11 "way" "[I" ∈ jT) ∧ (Cond.fieldLink RX11 176 RX11 "soonDays" "I" ∈ jT) ∧ kws (tables_1_5.drop 176) := kw_g kw5_10.2.2.2.2.2.2.2.2.2.2.2.2.2.2.2.2 rfl fun h => kw_g h rfl fun h => kw_g h rfl fun h => kw_g h rfl fun h => kw_g h rfl fun h => kw_g h rfl fun h => kw_g h rfl fun h => kw_g h rfl fun h => kw_g h rfl fun h => kw_g h rfl fun h => kw_g h rfl fun h => kw_g h rfl fun h => kw_g h rfl fun h => kw_g h rfl fun h => kw_g h rfl fun h => kw_g h rfl fun h => h
theorem jwF_X11_7 : Cond.fieldLink RX11 7 RX11 "s" "[I" ∈ jT := kw5_11.1
theorem jwF_X11_13 : Cond.fieldLink RX11 13 RX11 "image" "[I" ∈ jT := kw5_11.2.1
theorem jwF_X11_16 : Cond.fieldLink RX11 16 RX11 "aside" "[I" ∈ jT := kw5_11.2.2.1
theorem jwF_X11_337 : Cond.fieldLink RX11 337 RX11 "hasImage" "Z" ∈ jT := kw5_11.2.2.2.1
theorem jwF_X11_19 : Cond.fieldLink RX11 19 RX11 "tSort" "[I" ∈ jT := kw5_11.2.2.2.2.1
theorem jwF_X11_22 : Cond.fieldLink RX11 22 RX11 "tSize" "[I" ∈ jT := kw5_11.2.2.2.2.2.1
theorem jwF_X11_25 : Cond.fieldLink RX11 25 RX11 "tNumber" "[I" ∈ jT := kw5_11.2.2.2.2.2.2.1
theorem jwF_X11_28 : Cond.fieldLink RX11 28 RX11 "held" "[I" ∈ jT := kw5_11.2.2.2.2.2.2.2.1
theorem jwF_X11_31 : Cond.fieldLink RX11 31 RX11 "heldNumber" "[I" ∈ jT := kw5_11.2.2.2.2.2.2.2.2.1
theorem jwF_X11_34 : Cond.fieldLink RX11 34 RX11 "heldWorth" "[I" ∈ jT := kw5_11.2.2.2.2.2.2.2.2.2.1
theorem jwF_X11_37 : Cond.fieldLink RX11 37 RX11 "heldSize" "[I" ∈ jT := kw5_11.2.2.2.2.2.2.2.2.2.2.1
theorem jwF_X11_40 : Cond.fieldLink RX11 40 RX11 "heldRow" "[I" ∈ jT := kw5_11.2.2.2.2.2.2.2.2.2.2.2.1
theorem jwF_X11_43 : Cond.fieldLink RX11 43 RX11 "far" "[I" ∈ jT := kw5_11.2.2.2.2.2.2.2.2.2.2.2.2.1
theorem jwF_X11_46 : Cond.fieldLink RX11 46 RX11 "close" "[I" ∈ jT := kw5_11.2.2.2.2.2.2.2.2.2.2.2.2.2.1
theorem jwF_X11_49 : Cond.fieldLink RX11 49 RX11 "way" "[I" ∈ jT := kw5_11.2.2.2.2.2.2.2.2.2.2.2.2.2.2.1
theorem jwF_X11_176 : Cond.fieldLink RX11 176 RX11 "soonDays" "I" ∈ jT := kw5_11.2.2.2.2.2.2.2.2.2.2.2.2.2.2.2.1
set_option maxRecDepth 100000 in
theorem kw5_12 : (Cond.fieldLink RX11 180 RX11 "soonCoins" "I" ∈ jT) ∧ (Cond.fieldLink RX11 183 RX11 "soonFirst" "I" ∈ jT) ∧ (Cond.fieldLink RX11 52 RX11 "tape" "[I" ∈ jT) ∧ (Cond.fieldLink RX11 214 RX11 "taped" "I" ∈ jT) ∧ (Cond.fieldLink RX11 231 RX11 "begin" "I" ∈ jT) ∧ (Cond.fieldLink RX11 225 RX11 "behind" "I" ∈ jT) ∧ (Cond.fieldLink RX11 228 RX11 "token" "I" ∈ jT) ∧ (Cond.fieldLink RX11 243 RX11 "number" "I" ∈ jT) ∧ (Cond.fieldLink RX11 237 RX11 "letter" "I" ∈ jT) ∧ (Cond.fieldLink RX11 290 RX11 "deep" "I" ∈ jT) ∧ (Cond.fieldLink RX11 287 RX11 "turned" "I" ∈ jT) ∧ (Cond.fieldLink RX11 253 RX11 "laid" "I" ∈ jT) ∧ (Cond.fieldLink RX11 250 RX11 "laidAt" "I" ∈ jT) ∧ (Cond.fieldLink RX11 281 RX11 "said" "I" ∈ jT) ∧ (Cond.fieldLink RX11 55 RX11 "named" "[I" ∈ jT) ∧ (Cond.fieldLink RX11 58 RX11 "pile" "[I" ∈ jT) ∧ kws (tables_1_5.drop 192) := kw_g kw5_11.2.2.2.2.2.2.2.2.2.2.2.2.2.2.2.2 rfl fun h => kw_g h rfl fun h => kw_g h rfl fun h => kw_g h rfl fun h => kw_g h rfl fun h => kw_g h rfl fun h => kw_g h rfl fun h => kw_g h rfl fun h => kw_g h rfl fun h => kw_g h rfl fun h => kw_g h rfl fun h => kw_g h rfl fun h => kw_g h rfl fun h => kw_g h rfl fun h => kw_g h rfl fun h => kw_g h rfl fun h => h
theorem jwF_X11_180 : Cond.fieldLink RX11 180 RX11 "soonCoins" "I" ∈ jT := kw5_12.1
theorem jwF_X11_183 : Cond.fieldLink RX11 183 RX11 "soonFirst" "I" ∈ jT := kw5_12.2.1
theorem jwF_X11_52 : Cond.fieldLink RX11 52 RX11 "tape" "[I" ∈ jT := kw5_12.2.2.1
theorem jwF_X11_214 : Cond.fieldLink RX11 214 RX11 "taped" "I" ∈ jT := kw5_12.2.2.2.1
theorem jwF_X11_231 : Cond.fieldLink RX11 231 RX11 "begin" "I" ∈ jT := kw5_12.2.2.2.2.1
theorem jwF_X11_225 : Cond.fieldLink RX11 225 RX11 "behind" "I" ∈ jT := kw5_12.2.2.2.2.2.1
theorem jwF_X11_228 : Cond.fieldLink RX11 228 RX11 "token" "I" ∈ jT := kw5_12.2.2.2.2.2.2.1
theorem jwF_X11_243 : Cond.fieldLink RX11 243 RX11 "number" "I" ∈ jT := kw5_12.2.2.2.2.2.2.2.1
theorem jwF_X11_237 : Cond.fieldLink RX11 237 RX11 "letter" "I" ∈ jT := kw5_12.2.2.2.2.2.2.2.2.1
theorem jwF_X11_290 : Cond.fieldLink RX11 290 RX11 "deep" "I" ∈ jT := kw5_12.2.2.2.2.2.2.2.2.2.1
theorem jwF_X11_287 : Cond.fieldLink RX11 287 RX11 "turned" "I" ∈ jT := kw5_12.2.2.2.2.2.2.2.2.2.2.1
theorem jwF_X11_253 : Cond.fieldLink RX11 253 RX11 "laid" "I" ∈ jT := kw5_12.2.2.2.2.2.2.2.2.2.2.2.1
theorem jwF_X11_250 : Cond.fieldLink RX11 250 RX11 "laidAt" "I" ∈ jT := kw5_12.2.2.2.2.2.2.2.2.2.2.2.2.1
theorem jwF_X11_281 : Cond.fieldLink RX11 281 RX11 "said" "I" ∈ jT := kw5_12.2.2.2.2.2.2.2.2.2.2.2.2.2.1
theorem jwF_X11_55 : Cond.fieldLink RX11 55 RX11 "named" "[I" ∈ jT := kw5_12.2.2.2.2.2.2.2.2.2.2.2.2.2.2.1
theorem jwF_X11_58 : Cond.fieldLink RX11 58 RX11 "pile" "[I" ∈ jT := kw5_12.2.2.2.2.2.2.2.2.2.2.2.2.2.2.2.1
set_option maxRecDepth 100000 in
theorem kw5_13 : (Cond.fieldLink RX11 61 RX11 "carried" "[I" ∈ jT) ∧ (Cond.fieldLink RX11 64 RX11 "waits" "[I" ∈ jT) ∧ (Cond.fieldLink RX11 332 RX11 "waiting" "I" ∈ jT) ∧ (Cond.fieldLink RX11 67 RX11 "rowDue" "[I" ∈ jT) ∧ (Cond.laysFinal RX11 RX11 "s" "[I" ∈ jT) ∧ (Cond.laysFinal RX11 RX11 "image" "[I" ∈ jT) ∧ (Cond.laysFinal RX11 RX11 "aside" "[I" ∈ jT) ∧ (Cond.lays RX11 RX11 "hasImage" "Z" ∈ jT) ∧ (Cond.laysFinal RX11 RX11 "tSort" "[I" ∈ jT) ∧ (Cond.laysFinal RX11 RX11 "tSize" "[I" ∈ jT) ∧ kws (tables_1_5.drop 208) := kw_g kw5_12.2.2.2.2.2.2.2.2.2.2.2.2.2.2.2.2 rfl fun h => kw_g h rfl fun h => kw_g h rfl fun h => kw_g h rfl fun h => kw_g h rfl fun h => kw_s h fun h => kw_g h rfl fun h => kw_s h fun h => kw_g h rfl fun h => kw_s h fun h => kw_g h rfl fun h => kw_s h fun h => kw_g h rfl fun h => kw_s h fun h => kw_g h rfl fun h => kw_s h fun h => h
theorem jwF_X11_61 : Cond.fieldLink RX11 61 RX11 "carried" "[I" ∈ jT := kw5_13.1
theorem jwF_X11_64 : Cond.fieldLink RX11 64 RX11 "waits" "[I" ∈ jT := kw5_13.2.1
theorem jwF_X11_332 : Cond.fieldLink RX11 332 RX11 "waiting" "I" ∈ jT := kw5_13.2.2.1
theorem jwF_X11_67 : Cond.fieldLink RX11 67 RX11 "rowDue" "[I" ∈ jT := kw5_13.2.2.2.1
theorem jwY_X11_s : Cond.laysFinal RX11 RX11 "s" "[I" ∈ jT := kw5_13.2.2.2.2.1
theorem jwY_X11_image : Cond.laysFinal RX11 RX11 "image" "[I" ∈ jT := kw5_13.2.2.2.2.2.1
theorem jwY_X11_aside : Cond.laysFinal RX11 RX11 "aside" "[I" ∈ jT := kw5_13.2.2.2.2.2.2.1
theorem jwY_X11_hasImage : Cond.lays RX11 RX11 "hasImage" "Z" ∈ jT := kw5_13.2.2.2.2.2.2.2.1
theorem jwY_X11_tSort : Cond.laysFinal RX11 RX11 "tSort" "[I" ∈ jT := kw5_13.2.2.2.2.2.2.2.2.1
theorem jwY_X11_tSize : Cond.laysFinal RX11 RX11 "tSize" "[I" ∈ jT := kw5_13.2.2.2.2.2.2.2.2.2.1
set_option maxRecDepth 100000 in
theorem kw5_14 : (Cond.laysFinal RX11 RX11 "tNumber" "[I" ∈ jT) ∧ (Cond.laysFinal RX11 RX11 "held" "[I" ∈ jT) ∧ (Cond.laysFinal RX11 RX11 "heldNumber" "[I" ∈ jT) ∧ (Cond.laysFinal RX11 RX11 "heldWorth" "[I" ∈ jT) ∧ (Cond.laysFinal RX11 RX11 "heldSize" "[I" ∈ jT) ∧ (Cond.laysFinal RX11 RX11 "heldRow" "[I" ∈ jT) ∧ (Cond.laysFinal RX11 RX11 "far" "[I" ∈ jT) ∧ (Cond.laysFinal RX11 RX11 "close" "[I" ∈ jT) ∧ kws (tables_1_5.drop 224) := kw_g kw5_13.2.2.2.2.2.2.2.2.2.2 rfl fun h => kw_s h fun h => kw_g h rfl fun h => kw_s h fun h => kw_g h rfl fun h => kw_s h fun h => kw_g h rfl fun h => kw_s h fun h => kw_g h rfl fun h => kw_s h fun h => kw_g h rfl fun h => kw_s h fun h => kw_g h rfl fun h => kw_s h fun h => kw_g h rfl fun h => kw_s h fun h => h
theorem jwY_X11_tNumber : Cond.laysFinal RX11 RX11 "tNumber" "[I" ∈ jT := kw5_14.1
theorem jwY_X11_held : Cond.laysFinal RX11 RX11 "held" "[I" ∈ jT := kw5_14.2.1
theorem jwY_X11_heldNumber : Cond.laysFinal RX11 RX11 "heldNumber" "[I" ∈ jT := kw5_14.2.2.1
theorem jwY_X11_heldWorth : Cond.laysFinal RX11 RX11 "heldWorth" "[I" ∈ jT := kw5_14.2.2.2.1
theorem jwY_X11_heldSize : Cond.laysFinal RX11 RX11 "heldSize" "[I" ∈ jT := kw5_14.2.2.2.2.1
theorem jwY_X11_heldRow : Cond.laysFinal RX11 RX11 "heldRow" "[I" ∈ jT := kw5_14.2.2.2.2.2.1
theorem jwY_X11_far : Cond.laysFinal RX11 RX11 "far" "[I" ∈ jT := kw5_14.2.2.2.2.2.2.1
theorem jwY_X11_close : Cond.laysFinal RX11 RX11 "close" "[I" ∈ jT := kw5_14.2.2.2.2.2.2.2.1
set_option maxRecDepth 100000 in
theorem kw5_15 : (Cond.laysFinal RX11 RX11 "way" "[I" ∈ jT) ∧ (Cond.lays RX11 RX11 "soonDays" "I" ∈ jT) ∧ (Cond.lays RX11 RX11 "soonCoins" "I" ∈ jT) ∧ (Cond.lays RX11 RX11 "soonFirst" "I" ∈ jT) ∧ (Cond.laysFinal RX11 RX11 "tape" "[I" ∈ jT) ∧ (Cond.lays RX11 RX11 "taped" "I" ∈ jT) ∧ (Cond.lays RX11 RX11 "begin" "I" ∈ jT) ∧ (Cond.lays RX11 RX11 "behind" "I" ∈ jT) ∧ kws (tables_1_5.drop 240) := kw_g kw5_14.2.2.2.2.2.2.2.2 rfl fun h => kw_s h fun h => kw_g h rfl fun h => kw_s h fun h => kw_g h rfl fun h => kw_s h fun h => kw_g h rfl fun h => kw_s h fun h => kw_g h rfl fun h => kw_s h fun h => kw_g h rfl fun h => kw_s h fun h => kw_g h rfl fun h => kw_s h fun h => kw_g h rfl fun h => kw_s h fun h => h
theorem jwY_X11_way : Cond.laysFinal RX11 RX11 "way" "[I" ∈ jT := kw5_15.1
theorem jwY_X11_soonDays : Cond.lays RX11 RX11 "soonDays" "I" ∈ jT := kw5_15.2.1
theorem jwY_X11_soonCoins : Cond.lays RX11 RX11 "soonCoins" "I" ∈ jT := kw5_15.2.2.1
theorem jwY_X11_soonFirst : Cond.lays RX11 RX11 "soonFirst" "I" ∈ jT := kw5_15.2.2.2.1
theorem jwY_X11_tape : Cond.laysFinal RX11 RX11 "tape" "[I" ∈ jT := kw5_15.2.2.2.2.1
theorem jwY_X11_taped : Cond.lays RX11 RX11 "taped" "I" ∈ jT := kw5_15.2.2.2.2.2.1
theorem jwY_X11_begin : Cond.lays RX11 RX11 "begin" "I" ∈ jT := kw5_15.2.2.2.2.2.2.1
theorem jwY_X11_behind : Cond.lays RX11 RX11 "behind" "I" ∈ jT := kw5_15.2.2.2.2.2.2.2.1
theorem kw0_6 : kws (tables_1_6.drop 0) := fun w h => jm_6 h
set_option maxRecDepth 100000 in
theorem kw6_1 : (Cond.lays RX11 RX11 "token" "I" ∈ jT) ∧ (Cond.lays RX11 RX11 "number" "I" ∈ jT) ∧ (Cond.lays RX11 RX11 "letter" "I" ∈ jT) ∧ (Cond.lays RX11 RX11 "deep" "I" ∈ jT) ∧ (Cond.lays RX11 RX11 "turned" "I" ∈ jT) ∧ (Cond.lays RX11 RX11 "laid" "I" ∈ jT) ∧ (Cond.lays RX11 RX11 "laidAt" "I" ∈ jT) ∧ (Cond.lays RX11 RX11 "said" "I" ∈ jT) ∧ kws (tables_1_6.drop 16) := kw_g kw0_6 rfl fun h => kw_s h fun h => kw_g h rfl fun h => kw_s h fun h => kw_g h rfl fun h => kw_s h fun h => kw_g h rfl fun h => kw_s h fun h => kw_g h rfl fun h => kw_s h fun h => kw_g h rfl fun h => kw_s h fun h => kw_g h rfl fun h => kw_s h fun h => kw_g h rfl fun h => kw_s h fun h => h
theorem jwY_X11_token : Cond.lays RX11 RX11 "token" "I" ∈ jT := kw6_1.1
theorem jwY_X11_number : Cond.lays RX11 RX11 "number" "I" ∈ jT := kw6_1.2.1
theorem jwY_X11_letter : Cond.lays RX11 RX11 "letter" "I" ∈ jT := kw6_1.2.2.1
theorem jwY_X11_deep : Cond.lays RX11 RX11 "deep" "I" ∈ jT := kw6_1.2.2.2.1
theorem jwY_X11_turned : Cond.lays RX11 RX11 "turned" "I" ∈ jT := kw6_1.2.2.2.2.1
theorem jwY_X11_laid : Cond.lays RX11 RX11 "laid" "I" ∈ jT := kw6_1.2.2.2.2.2.1
theorem jwY_X11_laidAt : Cond.lays RX11 RX11 "laidAt" "I" ∈ jT := kw6_1.2.2.2.2.2.2.1
theorem jwY_X11_said : Cond.lays RX11 RX11 "said" "I" ∈ jT := kw6_1.2.2.2.2.2.2.2.1
set_option maxRecDepth 100000 in
theorem kw6_2 : (Cond.laysFinal RX11 RX11 "named" "[I" ∈ jT) ∧ (Cond.laysFinal RX11 RX11 "pile" "[I" ∈ jT) ∧ (Cond.laysFinal RX11 RX11 "carried" "[I" ∈ jT) ∧ (Cond.laysFinal RX11 RX11 "waits" "[I" ∈ jT) ∧ (Cond.lays RX11 RX11 "waiting" "I" ∈ jT) ∧ (Cond.laysFinal RX11 RX11 "rowDue" "[I" ∈ jT) ∧ (Cond.methodLink RL 17 yX11_master ∈ jT) ∧ (Cond.instanceMethod yX11_master ∈ jT) ∧ (Cond.selects RX11 yX11_master yX11_master ∈ jT) ∧ kws (tables_1_6.drop 32) := kw_g kw6_1.2.2.2.2.2.2.2.2 rfl fun h => kw_s h fun h => kw_g h rfl fun h => kw_s h fun h => kw_g h rfl fun h => kw_s h fun h => kw_g h rfl fun h => kw_s h fun h => kw_g h rfl fun h => kw_s h fun h => kw_g h rfl fun h => kw_s h fun h => kw_s h fun h => kw_g h rfl fun h => kw_g h rfl fun h => kw_g h rfl fun h => h
theorem jwY_X11_named : Cond.laysFinal RX11 RX11 "named" "[I" ∈ jT := kw6_2.1
theorem jwY_X11_pile : Cond.laysFinal RX11 RX11 "pile" "[I" ∈ jT := kw6_2.2.1
theorem jwY_X11_carried : Cond.laysFinal RX11 RX11 "carried" "[I" ∈ jT := kw6_2.2.2.1
theorem jwY_X11_waits : Cond.laysFinal RX11 RX11 "waits" "[I" ∈ jT := kw6_2.2.2.2.1
theorem jwY_X11_waiting : Cond.lays RX11 RX11 "waiting" "I" ∈ jT := kw6_2.2.2.2.2.1
theorem jwY_X11_rowDue : Cond.laysFinal RX11 RX11 "rowDue" "[I" ∈ jT := kw6_2.2.2.2.2.2.1
theorem jwM_L_17 : Cond.methodLink RL 17 yX11_master ∈ jT := kw6_2.2.2.2.2.2.2.1
theorem jwN_X11_master : Cond.instanceMethod yX11_master ∈ jT := kw6_2.2.2.2.2.2.2.2.1
theorem jwX_X11_master : Cond.selects RX11 yX11_master yX11_master ∈ jT := kw6_2.2.2.2.2.2.2.2.2.1
set_option maxRecDepth 100000 in
theorem kw6_3 : (Cond.code (mX11_master).1 (mX11_master).2.1 (mX11_master).2.2.1 (mX11_master).2.2.2 ∈ jT) ∧ (Cond.constantLong RX11 76 5 ∈ jT) ∧ (Cond.methodLink RX11 71 yX11_isIn ∈ jT) ∧ (Cond.static yX11_isIn ∈ jT) ∧ (Cond.code (mX11_isIn).1 (mX11_isIn).2.1 (mX11_isIn).2.2.1 (mX11_isIn).2.2.2 ∈ jT) ∧ (Cond.methodLink RX11 78 yX11_isTown ∈ jT) ∧ (Cond.static yX11_isTown ∈ jT) ∧ (Cond.code (mX11_isTown).1 (mX11_isTown).2.1 (mX11_isTown).2.2.1 (mX11_isTown).2.2.2 ∈ jT) ∧ (Cond.methodLink RX11 82 yX11_isGesture ∈ jT) ∧ (Cond.static yX11_isGesture ∈ jT) ∧ (Cond.code (mX11_isGesture).1 (mX11_isGesture).2.1 (mX11_isGesture).2.2.1 (mX11_isGesture).2.2.2 ∈ jT) ∧ (Cond.constantLong RX11 85 99 ∈ jT) ∧ (Cond.constant RX11 87 (-1000000001) ∈ jT) ∧ (Cond.constant RX11 88 (-1000000003) ∈ jT) ∧ (Cond.methodLink RX11 89 yX11_comes ∈ jT) ∧ kws (tables_1_6.drop 48) := kw_g kw6_2.2.2.2.2.2.2.2.2.2 rfl fun h => kw_g h rfl fun h => kw_g h rfl fun h => kw_g h rfl fun h => kw_g h rfl fun h => kw_g h rfl fun h => kw_g h rfl fun h => kw_g h rfl fun h => kw_g h rfl fun h => kw_g h rfl fun h => kw_g h rfl fun h => kw_g h rfl fun h => kw_g h rfl fun h => kw_g h rfl fun h => kw_g h rfl fun h => kw_s h fun h => h
theorem jwO_X11_master : Cond.code (mX11_master).1 (mX11_master).2.1 (mX11_master).2.2.1 (mX11_master).2.2.2 ∈ jT := kw6_3.1
theorem jwL_X11_76 : Cond.constantLong RX11 76 5 ∈ jT := kw6_3.2.1
theorem jwM_X11_71 : Cond.methodLink RX11 71 yX11_isIn ∈ jT := kw6_3.2.2.1
theorem jwS_X11_isIn : Cond.static yX11_isIn ∈ jT := kw6_3.2.2.2.1
theorem jwO_X11_isIn : Cond.code (mX11_isIn).1 (mX11_isIn).2.1 (mX11_isIn).2.2.1 (mX11_isIn).2.2.2 ∈ jT := kw6_3.2.2.2.2.1
theorem jwM_X11_78 : Cond.methodLink RX11 78 yX11_isTown ∈ jT := kw6_3.2.2.2.2.2.1
theorem jwS_X11_isTown : Cond.static yX11_isTown ∈ jT := kw6_3.2.2.2.2.2.2.1
theorem jwO_X11_isTown : Cond.code (mX11_isTown).1 (mX11_isTown).2.1 (mX11_isTown).2.2.1 (mX11_isTown).2.2.2 ∈ jT := kw6_3.2.2.2.2.2.2.2.1
theorem jwM_X11_82 : Cond.methodLink RX11 82 yX11_isGesture ∈ jT := kw6_3.2.2.2.2.2.2.2.2.1
theorem jwS_X11_isGesture : Cond.static yX11_isGesture ∈ jT := kw6_3.2.2.2.2.2.2.2.2.2.1
theorem jwO_X11_isGesture : Cond.code (mX11_isGesture).1 (mX11_isGesture).2.1 (mX11_isGesture).2.2.1 (mX11_isGesture).2.2.2 ∈ jT := kw6_3.2.2.2.2.2.2.2.2.2.2.1
theorem jwL_X11_85 : Cond.constantLong RX11 85 99 ∈ jT := kw6_3.2.2.2.2.2.2.2.2.2.2.2.1
theorem jwC_X11_87 : Cond.constant RX11 87 (-1000000001) ∈ jT := kw6_3.2.2.2.2.2.2.2.2.2.2.2.2.1
theorem jwC_X11_88 : Cond.constant RX11 88 (-1000000003) ∈ jT := kw6_3.2.2.2.2.2.2.2.2.2.2.2.2.2.1
theorem jwM_X11_89 : Cond.methodLink RX11 89 yX11_comes ∈ jT := kw6_3.2.2.2.2.2.2.2.2.2.2.2.2.2.2.1
set_option maxRecDepth 100000 in
theorem kw6_4 : (Cond.instanceMethod yX11_comes ∈ jT) ∧ (Cond.code (mX11_comes).1 (mX11_comes).2.1 (mX11_comes).2.2.1 (mX11_comes).2.2.2 ∈ jT) ∧ (Cond.methodLink RL 22 yX11_told ∈ jT) ∧ (Cond.instanceMethod yX11_told ∈ jT) ∧ (Cond.selects RX11 yX11_told yX11_told ∈ jT) ∧ (Cond.code (mX11_told).1 (mX11_told).2.1 (mX11_told).2.2.1 (mX11_told).2.2.2 ∈ jT) ∧ (Cond.methodLink RX11 111 yX11_isMaster ∈ jT) ∧ (Cond.instanceMethod yX11_isMaster ∈ jT) ∧ (Cond.code (mX11_isMaster).1 (mX11_isMaster).2.1 (mX11_isMaster).2.2.1 (mX11_isMaster).2.2.2 ∈ jT) ∧ (Cond.constantLong RX11 114 9 ∈ jT) ∧ (Cond.methodLink RX11 97 yX11_of ∈ jT) ∧ (Cond.instanceMethod yX11_of ∈ jT) ∧ (Cond.code (mX11_of).1 (mX11_of).2.1 (mX11_of).2.2.1 (mX11_of).2.2.2 ∈ jT) ∧ (Cond.methodLink RX11 108 yX11_manyIn ∈ jT) ∧ kws (tables_1_6.drop 64) := kw_g kw6_3.2.2.2.2.2.2.2.2.2.2.2.2.2.2.2 rfl fun h => kw_g h rfl fun h => kw_g h rfl fun h => kw_g h rfl fun h => kw_g h rfl fun h => kw_g h rfl fun h => kw_g h rfl fun h => kw_s h fun h => kw_g h rfl fun h => kw_g h rfl fun h => kw_g h rfl fun h => kw_g h rfl fun h => kw_s h fun h => kw_g h rfl fun h => kw_g h rfl fun h => kw_g h rfl fun h => h
theorem jwN_X11_comes : Cond.instanceMethod yX11_comes ∈ jT := kw6_4.1
theorem jwO_X11_comes : Cond.code (mX11_comes).1 (mX11_comes).2.1 (mX11_comes).2.2.1 (mX11_comes).2.2.2 ∈ jT := kw6_4.2.1
theorem jwM_L_22 : Cond.methodLink RL 22 yX11_told ∈ jT := kw6_4.2.2.1
theorem jwN_X11_told : Cond.instanceMethod yX11_told ∈ jT := kw6_4.2.2.2.1
theorem jwX_X11_told : Cond.selects RX11 yX11_told yX11_told ∈ jT := kw6_4.2.2.2.2.1
theorem jwO_X11_told : Cond.code (mX11_told).1 (mX11_told).2.1 (mX11_told).2.2.1 (mX11_told).2.2.2 ∈ jT := kw6_4.2.2.2.2.2.1
theorem jwM_X11_111 : Cond.methodLink RX11 111 yX11_isMaster ∈ jT := kw6_4.2.2.2.2.2.2.1
theorem jwN_X11_isMaster : Cond.instanceMethod yX11_isMaster ∈ jT := kw6_4.2.2.2.2.2.2.2.1
theorem jwO_X11_isMaster : Cond.code (mX11_isMaster).1 (mX11_isMaster).2.1 (mX11_isMaster).2.2.1 (mX11_isMaster).2.2.2 ∈ jT := kw6_4.2.2.2.2.2.2.2.2.1
theorem jwL_X11_114 : Cond.constantLong RX11 114 9 ∈ jT := kw6_4.2.2.2.2.2.2.2.2.2.1
theorem jwM_X11_97 : Cond.methodLink RX11 97 yX11_of ∈ jT := kw6_4.2.2.2.2.2.2.2.2.2.2.1
theorem jwN_X11_of : Cond.instanceMethod yX11_of ∈ jT := kw6_4.2.2.2.2.2.2.2.2.2.2.2.1
theorem jwO_X11_of : Cond.code (mX11_of).1 (mX11_of).2.1 (mX11_of).2.2.1 (mX11_of).2.2.2 ∈ jT := kw6_4.2.2.2.2.2.2.2.2.2.2.2.2.1
theorem jwM_X11_108 : Cond.methodLink RX11 108 yX11_manyIn ∈ jT := kw6_4.2.2.2.2.2.2.2.2.2.2.2.2.2.1
set_option maxRecDepth 100000 in
theorem kw6_5 : (Cond.static yX11_manyIn ∈ jT) ∧ (Cond.code (mX11_manyIn).1 (mX11_manyIn).2.1 (mX11_manyIn).2.2.1 (mX11_manyIn).2.2.2 ∈ jT) ∧ (Cond.methodLink RX11 116 yX11_takes ∈ jT) ∧ (Cond.instanceMethod yX11_takes ∈ jT) ∧ (Cond.code (mX11_takes).1 (mX11_takes).2.1 (mX11_takes).2.2.1 (mX11_takes).2.2.2 ∈ jT) ∧ (Cond.methodLink RX11 93 yX11_counts ∈ jT) ∧ (Cond.instanceMethod yX11_counts ∈ jT) ∧ (Cond.code (mX11_counts).1 (mX11_counts).2.1 (mX11_counts).2.2.1 (mX11_counts).2.2.2 ∈ jT) ∧ (Cond.methodLink RX11 296 yX11_textAt ∈ jT) ∧ (Cond.instanceMethod yX11_textAt ∈ jT) ∧ (Cond.code (mX11_textAt).1 (mX11_textAt).2.1 (mX11_textAt).2.2.1 (mX11_textAt).2.2.2 ∈ jT) ∧ (Cond.methodLink RX11 101 yX11_worked ∈ jT) ∧ kws (tables_1_6.drop 80) := kw_g kw6_4.2.2.2.2.2.2.2.2.2.2.2.2.2.2 rfl fun h => kw_g h rfl fun h => kw_g h rfl fun h => kw_s h fun h => kw_g h rfl fun h => kw_g h rfl fun h => kw_g h rfl fun h => kw_s h fun h => kw_g h rfl fun h => kw_g h rfl fun h => kw_g h rfl fun h => kw_s h fun h => kw_g h rfl fun h => kw_g h rfl fun h => kw_g h rfl fun h => kw_s h fun h => h
theorem jwS_X11_manyIn : Cond.static yX11_manyIn ∈ jT := kw6_5.1
theorem jwO_X11_manyIn : Cond.code (mX11_manyIn).1 (mX11_manyIn).2.1 (mX11_manyIn).2.2.1 (mX11_manyIn).2.2.2 ∈ jT := kw6_5.2.1
theorem jwM_X11_116 : Cond.methodLink RX11 116 yX11_takes ∈ jT := kw6_5.2.2.1
theorem jwN_X11_takes : Cond.instanceMethod yX11_takes ∈ jT := kw6_5.2.2.2.1
theorem jwO_X11_takes : Cond.code (mX11_takes).1 (mX11_takes).2.1 (mX11_takes).2.2.1 (mX11_takes).2.2.2 ∈ jT := kw6_5.2.2.2.2.1
theorem jwM_X11_93 : Cond.methodLink RX11 93 yX11_counts ∈ jT := kw6_5.2.2.2.2.2.1
theorem jwN_X11_counts : Cond.instanceMethod yX11_counts ∈ jT := kw6_5.2.2.2.2.2.2.1
theorem jwO_X11_counts : Cond.code (mX11_counts).1 (mX11_counts).2.1 (mX11_counts).2.2.1 (mX11_counts).2.2.2 ∈ jT := kw6_5.2.2.2.2.2.2.2.1
theorem jwM_X11_296 : Cond.methodLink RX11 296 yX11_textAt ∈ jT := kw6_5.2.2.2.2.2.2.2.2.1
theorem jwN_X11_textAt : Cond.instanceMethod yX11_textAt ∈ jT := kw6_5.2.2.2.2.2.2.2.2.2.1
theorem jwO_X11_textAt : Cond.code (mX11_textAt).1 (mX11_textAt).2.1 (mX11_textAt).2.2.1 (mX11_textAt).2.2.2 ∈ jT := kw6_5.2.2.2.2.2.2.2.2.2.2.1
theorem jwM_X11_101 : Cond.methodLink RX11 101 yX11_worked ∈ jT := kw6_5.2.2.2.2.2.2.2.2.2.2.2.1
set_option maxRecDepth 100000 in
theorem kw6_6 : (Cond.instanceMethod yX11_worked ∈ jT) ∧ (Cond.code (mX11_worked).1 (mX11_worked).2.1 (mX11_worked).2.2.1 (mX11_worked).2.2.2 ∈ jT) ∧ (Cond.methodLink RX11 311 yX11_joined ∈ jT) ∧ (Cond.static yX11_joined ∈ jT) ∧ (Cond.code (mX11_joined).1 (mX11_joined).2.1 (mX11_joined).2.2.1 (mX11_joined).2.2.2 ∈ jT) ∧ (Cond.methodLink RX11 104 yX11_within ∈ jT) ∧ (Cond.static yX11_within ∈ jT) ∧ (Cond.code (mX11_within).1 (mX11_within).2.1 (mX11_within).2.2.1 (mX11_within).2.2.2 ∈ jT) ∧ (Cond.methodLink RX11 119 yX11_worth ∈ jT) ∧ (Cond.instanceMethod yX11_worth ∈ jT) ∧ (Cond.code (mX11_worth).1 (mX11_worth).2.1 (mX11_worth).2.2.1 (mX11_worth).2.2.2 ∈ jT) ∧ (Cond.methodLink RX11 122 yX11_teaches ∈ jT) ∧ (Cond.instanceMethod yX11_teaches ∈ jT) ∧ (Cond.code (mX11_teaches).1 (mX11_teaches).2.1 (mX11_teaches).2.2.1 (mX11_teaches).2.2.2 ∈ jT) ∧ kws (tables_1_6.drop 96) := kw_g kw6_5.2.2.2.2.2.2.2.2.2.2.2.2 rfl fun h => kw_g h rfl fun h => kw_g h rfl fun h => kw_g h rfl fun h => kw_g h rfl fun h => kw_g h rfl fun h => kw_g h rfl fun h => kw_g h rfl fun h => kw_g h rfl fun h => kw_s h fun h => kw_g h rfl fun h => kw_g h rfl fun h => kw_g h rfl fun h => kw_s h fun h => kw_g h rfl fun h => kw_g h rfl fun h => h
theorem jwN_X11_worked : Cond.instanceMethod yX11_worked ∈ jT := kw6_6.1
theorem jwO_X11_worked : Cond.code (mX11_worked).1 (mX11_worked).2.1 (mX11_worked).2.2.1 (mX11_worked).2.2.2 ∈ jT := kw6_6.2.1
theorem jwM_X11_311 : Cond.methodLink RX11 311 yX11_joined ∈ jT := kw6_6.2.2.1
theorem jwS_X11_joined : Cond.static yX11_joined ∈ jT := kw6_6.2.2.2.1
theorem jwO_X11_joined : Cond.code (mX11_joined).1 (mX11_joined).2.1 (mX11_joined).2.2.1 (mX11_joined).2.2.2 ∈ jT := kw6_6.2.2.2.2.1
theorem jwM_X11_104 : Cond.methodLink RX11 104 yX11_within ∈ jT := kw6_6.2.2.2.2.2.1
theorem jwS_X11_within : Cond.static yX11_within ∈ jT := kw6_6.2.2.2.2.2.2.1
theorem jwO_X11_within : Cond.code (mX11_within).1 (mX11_within).2.1 (mX11_within).2.2.1 (mX11_within).2.2.2 ∈ jT := kw6_6.2.2.2.2.2.2.2.1
theorem jwM_X11_119 : Cond.methodLink RX11 119 yX11_worth ∈ jT := kw6_6.2.2.2.2.2.2.2.2.1
theorem jwN_X11_worth : Cond.instanceMethod yX11_worth ∈ jT := kw6_6.2.2.2.2.2.2.2.2.2.1
theorem jwO_X11_worth : Cond.code (mX11_worth).1 (mX11_worth).2.1 (mX11_worth).2.2.1 (mX11_worth).2.2.2 ∈ jT := kw6_6.2.2.2.2.2.2.2.2.2.2.1
theorem jwM_X11_122 : Cond.methodLink RX11 122 yX11_teaches ∈ jT := kw6_6.2.2.2.2.2.2.2.2.2.2.2.1
theorem jwN_X11_teaches : Cond.instanceMethod yX11_teaches ∈ jT := kw6_6.2.2.2.2.2.2.2.2.2.2.2.2.1
theorem jwO_X11_teaches : Cond.code (mX11_teaches).1 (mX11_teaches).2.1 (mX11_teaches).2.2.1 (mX11_teaches).2.2.2 ∈ jT := kw6_6.2.2.2.2.2.2.2.2.2.2.2.2.2.1
set_option maxRecDepth 100000 in
theorem kw6_7 : (Cond.methodLink RL 26 yX11_as ∈ jT) ∧ (Cond.instanceMethod yX11_as ∈ jT) ∧ (Cond.selects RX11 yX11_as yX11_as ∈ jT) ∧ (Cond.code (mX11_as).1 (mX11_as).2.1 (mX11_as).2.2.1 (mX11_as).2.2.2 ∈ jT) ∧ (Cond.methodLink RX11 126 yX11_isOf ∈ jT) ∧ (Cond.static yX11_isOf ∈ jT) ∧ (Cond.code (mX11_isOf).1 (mX11_isOf).2.1 (mX11_isOf).2.2.1 (mX11_isOf).2.2.2 ∈ jT) ∧ (Cond.constant RX11 129 (-1000000012) ∈ jT) ∧ (Cond.methodLink RL 30 yX11_turns ∈ jT) ∧ (Cond.instanceMethod yX11_turns ∈ jT) ∧ (Cond.selects RX11 yX11_turns yX11_turns ∈ jT) ∧ (Cond.code (mX11_turns).1 (mX11_turns).2.1 (mX11_turns).2.2.1 (mX11_turns).2.2.2 ∈ jT) ∧ (Cond.methodLink RX11 130 yX11_becomes ∈ jT) ∧ (Cond.instanceMethod yX11_becomes ∈ jT) ∧ (Cond.code (mX11_becomes).1 (mX11_becomes).2.1 (mX11_becomes).2.2.1 (mX11_becomes).2.2.2 ∈ jT) ∧ kws (tables_1_6.drop 112) := kw_g kw6_6.2.2.2.2.2.2.2.2.2.2.2.2.2.2 rfl fun h => kw_g h rfl fun h => kw_g h rfl fun h => kw_g h rfl fun h => kw_g h rfl fun h => kw_g h rfl fun h => kw_g h rfl fun h => kw_g h rfl fun h => kw_g h rfl fun h => kw_g h rfl fun h => kw_g h rfl fun h => kw_g h rfl fun h => kw_g h rfl fun h => kw_s h fun h => kw_g h rfl fun h => kw_g h rfl fun h => h
theorem jwM_L_26 : Cond.methodLink RL 26 yX11_as ∈ jT := kw6_7.1
theorem jwN_X11_as : Cond.instanceMethod yX11_as ∈ jT := kw6_7.2.1
theorem jwX_X11_as : Cond.selects RX11 yX11_as yX11_as ∈ jT := kw6_7.2.2.1
theorem jwO_X11_as : Cond.code (mX11_as).1 (mX11_as).2.1 (mX11_as).2.2.1 (mX11_as).2.2.2 ∈ jT := kw6_7.2.2.2.1
theorem jwM_X11_126 : Cond.methodLink RX11 126 yX11_isOf ∈ jT := kw6_7.2.2.2.2.1
theorem jwS_X11_isOf : Cond.static yX11_isOf ∈ jT := kw6_7.2.2.2.2.2.1
theorem jwO_X11_isOf : Cond.code (mX11_isOf).1 (mX11_isOf).2.1 (mX11_isOf).2.2.1 (mX11_isOf).2.2.2 ∈ jT := kw6_7.2.2.2.2.2.2.1
theorem jwC_X11_129 : Cond.constant RX11 129 (-1000000012) ∈ jT := kw6_7.2.2.2.2.2.2.2.1
theorem jwM_L_30 : Cond.methodLink RL 30 yX11_turns ∈ jT := kw6_7.2.2.2.2.2.2.2.2.1
theorem jwN_X11_turns : Cond.instanceMethod yX11_turns ∈ jT := kw6_7.2.2.2.2.2.2.2.2.2.1
theorem jwX_X11_turns : Cond.selects RX11 yX11_turns yX11_turns ∈ jT := kw6_7.2.2.2.2.2.2.2.2.2.2.1
theorem jwO_X11_turns : Cond.code (mX11_turns).1 (mX11_turns).2.1 (mX11_turns).2.2.1 (mX11_turns).2.2.2 ∈ jT := kw6_7.2.2.2.2.2.2.2.2.2.2.2.1
theorem jwM_X11_130 : Cond.methodLink RX11 130 yX11_becomes ∈ jT := kw6_7.2.2.2.2.2.2.2.2.2.2.2.2.1
theorem jwN_X11_becomes : Cond.instanceMethod yX11_becomes ∈ jT := kw6_7.2.2.2.2.2.2.2.2.2.2.2.2.2.1
theorem jwO_X11_becomes : Cond.code (mX11_becomes).1 (mX11_becomes).2.1 (mX11_becomes).2.2.1 (mX11_becomes).2.2.2 ∈ jT := kw6_7.2.2.2.2.2.2.2.2.2.2.2.2.2.2.1
set_option maxRecDepth 100000 in
theorem kw6_8 : (Cond.methodLink RL 35 yX11_set ∈ jT) ∧ (Cond.instanceMethod yX11_set ∈ jT) ∧ (Cond.selects RX11 yX11_set yX11_set ∈ jT) ∧ (Cond.code (mX11_set).1 (mX11_set).2.1 (mX11_set).2.2.1 (mX11_set).2.2.2 ∈ jT) ∧ (Cond.constantLong RX11 133 4 ∈ jT) ∧ (Cond.constantLong RX11 135 6 ∈ jT) ∧ (Cond.methodLink RL 39 yX11_bars ∈ jT) ∧ (Cond.instanceMethod yX11_bars ∈ jT) ∧ (Cond.selects RX11 yX11_bars yX11_bars ∈ jT) ∧ (Cond.code (mX11_bars).1 (mX11_bars).2.1 (mX11_bars).2.2.1 (mX11_bars).2.2.2 ∈ jT) ∧ (Cond.methodLink RL 43 yX11_road ∈ jT) ∧ (Cond.instanceMethod yX11_road ∈ jT) ∧ (Cond.selects RX11 yX11_road yX11_road ∈ jT) ∧ (Cond.code (mX11_road).1 (mX11_road).2.1 (mX11_road).2.2.1 (mX11_road).2.2.2 ∈ jT) ∧ (Cond.methodLink RL 47 yX11_far ∈ jT) ∧ (Cond.instanceMethod yX11_far ∈ jT) ∧ kws (tables_1_6.drop 128) := kw_g kw6_7.2.2.2.2.2.2.2.2.2.2.2.2.2.2.2 rfl fun h => kw_g h rfl fun h => kw_g h rfl fun h => kw_g h rfl fun h => kw_g h rfl fun h => kw_g h rfl fun h => kw_g h rfl fun h => kw_g h rfl fun h => kw_g h rfl fun h => kw_g h rfl fun h => kw_g h rfl fun h => kw_g h rfl fun h => kw_g h rfl fun h => kw_g h rfl fun h => kw_g h rfl fun h => kw_g h rfl fun h => h
theorem jwM_L_35 : Cond.methodLink RL 35 yX11_set ∈ jT := kw6_8.1
theorem jwN_X11_set : Cond.instanceMethod yX11_set ∈ jT := kw6_8.2.1
theorem jwX_X11_set : Cond.selects RX11 yX11_set yX11_set ∈ jT := kw6_8.2.2.1
theorem jwO_X11_set : Cond.code (mX11_set).1 (mX11_set).2.1 (mX11_set).2.2.1 (mX11_set).2.2.2 ∈ jT := kw6_8.2.2.2.1
theorem jwL_X11_133 : Cond.constantLong RX11 133 4 ∈ jT := kw6_8.2.2.2.2.1
theorem jwL_X11_135 : Cond.constantLong RX11 135 6 ∈ jT := kw6_8.2.2.2.2.2.1
theorem jwM_L_39 : Cond.methodLink RL 39 yX11_bars ∈ jT := kw6_8.2.2.2.2.2.2.1
theorem jwN_X11_bars : Cond.instanceMethod yX11_bars ∈ jT := kw6_8.2.2.2.2.2.2.2.1
theorem jwX_X11_bars : Cond.selects RX11 yX11_bars yX11_bars ∈ jT := kw6_8.2.2.2.2.2.2.2.2.1
theorem jwO_X11_bars : Cond.code (mX11_bars).1 (mX11_bars).2.1 (mX11_bars).2.2.1 (mX11_bars).2.2.2 ∈ jT := kw6_8.2.2.2.2.2.2.2.2.2.1
theorem jwM_L_43 : Cond.methodLink RL 43 yX11_road ∈ jT := kw6_8.2.2.2.2.2.2.2.2.2.2.1
theorem jwN_X11_road : Cond.instanceMethod yX11_road ∈ jT := kw6_8.2.2.2.2.2.2.2.2.2.2.2.1
theorem jwX_X11_road : Cond.selects RX11 yX11_road yX11_road ∈ jT := kw6_8.2.2.2.2.2.2.2.2.2.2.2.2.1
theorem jwO_X11_road : Cond.code (mX11_road).1 (mX11_road).2.1 (mX11_road).2.2.1 (mX11_road).2.2.2 ∈ jT := kw6_8.2.2.2.2.2.2.2.2.2.2.2.2.2.1
theorem jwM_L_47 : Cond.methodLink RL 47 yX11_far ∈ jT := kw6_8.2.2.2.2.2.2.2.2.2.2.2.2.2.2.1
theorem jwN_X11_far : Cond.instanceMethod yX11_far ∈ jT := kw6_8.2.2.2.2.2.2.2.2.2.2.2.2.2.2.2.1
set_option maxRecDepth 100000 in
theorem kw6_9 : (Cond.selects RX11 yX11_far yX11_far ∈ jT) ∧ (Cond.code (mX11_far).1 (mX11_far).2.1 (mX11_far).2.2.1 (mX11_far).2.2.2 ∈ jT) ∧ (Cond.methodLink RX11 137 yX11_findFar ∈ jT) ∧ (Cond.instanceMethod yX11_findFar ∈ jT) ∧ (Cond.code (mX11_findFar).1 (mX11_findFar).2.1 (mX11_findFar).2.2.1 (mX11_findFar).2.2.2 ∈ jT) ∧ (Cond.constant RX11 70 (-1000000005) ∈ jT) ∧ (Cond.methodLink RL 52 yX11_deal ∈ jT) ∧ (Cond.instanceMethod yX11_deal ∈ jT) ∧ (Cond.selects RX11 yX11_deal yX11_deal ∈ jT) ∧ (Cond.code (mX11_deal).1 (mX11_deal).2.1 (mX11_deal).2.2.1 (mX11_deal).2.2.2 ∈ jT) ∧ (Cond.methodLink RX11 140 yX11_drawn ∈ jT) ∧ (Cond.instanceMethod yX11_drawn ∈ jT) ∧ (Cond.code (mX11_drawn).1 (mX11_drawn).2.1 (mX11_drawn).2.2.1 (mX11_drawn).2.2.2 ∈ jT) ∧ (Cond.constant RX11 75 1103515245 ∈ jT) ∧ kws (tables_1_6.drop 144) := kw_g kw6_8.2.2.2.2.2.2.2.2.2.2.2.2.2.2.2.2 rfl fun h => kw_g h rfl fun h => kw_g h rfl fun h => kw_s h fun h => kw_g h rfl fun h => kw_g h rfl fun h => kw_g h rfl fun h => kw_g h rfl fun h => kw_g h rfl fun h => kw_g h rfl fun h => kw_g h rfl fun h => kw_g h rfl fun h => kw_s h fun h => kw_g h rfl fun h => kw_g h rfl fun h => kw_g h rfl fun h => h
theorem jwX_X11_far : Cond.selects RX11 yX11_far yX11_far ∈ jT := kw6_9.1
theorem jwO_X11_far : Cond.code (mX11_far).1 (mX11_far).2.1 (mX11_far).2.2.1 (mX11_far).2.2.2 ∈ jT := kw6_9.2.1
theorem jwM_X11_137 : Cond.methodLink RX11 137 yX11_findFar ∈ jT := kw6_9.2.2.1
theorem jwN_X11_findFar : Cond.instanceMethod yX11_findFar ∈ jT := kw6_9.2.2.2.1
theorem jwO_X11_findFar : Cond.code (mX11_findFar).1 (mX11_findFar).2.1 (mX11_findFar).2.2.1 (mX11_findFar).2.2.2 ∈ jT := kw6_9.2.2.2.2.1
theorem jwC_X11_70 : Cond.constant RX11 70 (-1000000005) ∈ jT := kw6_9.2.2.2.2.2.1
theorem jwM_L_52 : Cond.methodLink RL 52 yX11_deal ∈ jT := kw6_9.2.2.2.2.2.2.1
theorem jwN_X11_deal : Cond.instanceMethod yX11_deal ∈ jT := kw6_9.2.2.2.2.2.2.2.1
theorem jwX_X11_deal : Cond.selects RX11 yX11_deal yX11_deal ∈ jT := kw6_9.2.2.2.2.2.2.2.2.1
theorem jwO_X11_deal : Cond.code (mX11_deal).1 (mX11_deal).2.1 (mX11_deal).2.2.1 (mX11_deal).2.2.2 ∈ jT := kw6_9.2.2.2.2.2.2.2.2.2.1
theorem jwM_X11_140 : Cond.methodLink RX11 140 yX11_drawn ∈ jT := kw6_9.2.2.2.2.2.2.2.2.2.2.1
theorem jwN_X11_drawn : Cond.instanceMethod yX11_drawn ∈ jT := kw6_9.2.2.2.2.2.2.2.2.2.2.2.1
theorem jwO_X11_drawn : Cond.code (mX11_drawn).1 (mX11_drawn).2.1 (mX11_drawn).2.2.1 (mX11_drawn).2.2.2 ∈ jT := kw6_9.2.2.2.2.2.2.2.2.2.2.2.2.1
theorem jwC_X11_75 : Cond.constant RX11 75 1103515245 ∈ jT := kw6_9.2.2.2.2.2.2.2.2.2.2.2.2.2.1
set_option maxRecDepth 100000 in
theorem kw6_10 : (Cond.methodLink RL 56 yX11_seed ∈ jT) ∧ (Cond.instanceMethod yX11_seed ∈ jT) ∧ (Cond.selects RX11 yX11_seed yX11_seed ∈ jT) ∧ (Cond.code (mX11_seed).1 (mX11_seed).2.1 (mX11_seed).2.2.1 (mX11_seed).2.2.2 ∈ jT) ∧ (Cond.methodLink RL 60 yX11_apprentice ∈ jT) ∧ (Cond.instanceMethod yX11_apprentice ∈ jT) ∧ (Cond.selects RX11 yX11_apprentice yX11_apprentice ∈ jT) ∧ (Cond.code (mX11_apprentice).1 (mX11_apprentice).2.1 (mX11_apprentice).2.2.1 (mX11_apprentice).2.2.2 ∈ jT) ∧ (Cond.constantLong RX11 144 3 ∈ jT) ∧ (Cond.methodLink RL 64 yX11_has ∈ jT) ∧ (Cond.instanceMethod yX11_has ∈ jT) ∧ (Cond.selects RX11 yX11_has yX11_has ∈ jT) ∧ (Cond.code (mX11_has).1 (mX11_has).2.1 (mX11_has).2.2.1 (mX11_has).2.2.2 ∈ jT) ∧ (Cond.constantLong RX11 146 2 ∈ jT) ∧ (Cond.constantLong RX11 148 9999 ∈ jT) ∧ (Cond.methodLink RL 68 yX11_knows ∈ jT) ∧ kws (tables_1_6.drop 160) := kw_g kw6_9.2.2.2.2.2.2.2.2.2.2.2.2.2.2 rfl fun h => kw_g h rfl fun h => kw_g h rfl fun h => kw_g h rfl fun h => kw_g h rfl fun h => kw_g h rfl fun h => kw_g h rfl fun h => kw_g h rfl fun h => kw_g h rfl fun h => kw_g h rfl fun h => kw_g h rfl fun h => kw_g h rfl fun h => kw_g h rfl fun h => kw_g h rfl fun h => kw_g h rfl fun h => kw_g h rfl fun h => h
theorem jwM_L_56 : Cond.methodLink RL 56 yX11_seed ∈ jT := kw6_10.1
theorem jwN_X11_seed : Cond.instanceMethod yX11_seed ∈ jT := kw6_10.2.1
theorem jwX_X11_seed : Cond.selects RX11 yX11_seed yX11_seed ∈ jT := kw6_10.2.2.1
theorem jwO_X11_seed : Cond.code (mX11_seed).1 (mX11_seed).2.1 (mX11_seed).2.2.1 (mX11_seed).2.2.2 ∈ jT := kw6_10.2.2.2.1
theorem jwM_L_60 : Cond.methodLink RL 60 yX11_apprentice ∈ jT := kw6_10.2.2.2.2.1
theorem jwN_X11_apprentice : Cond.instanceMethod yX11_apprentice ∈ jT := kw6_10.2.2.2.2.2.1
theorem jwX_X11_apprentice : Cond.selects RX11 yX11_apprentice yX11_apprentice ∈ jT := kw6_10.2.2.2.2.2.2.1
theorem jwO_X11_apprentice : Cond.code (mX11_apprentice).1 (mX11_apprentice).2.1 (mX11_apprentice).2.2.1 (mX11_apprentice).2.2.2 ∈ jT := kw6_10.2.2.2.2.2.2.2.1
theorem jwL_X11_144 : Cond.constantLong RX11 144 3 ∈ jT := kw6_10.2.2.2.2.2.2.2.2.1
theorem jwM_L_64 : Cond.methodLink RL 64 yX11_has ∈ jT := kw6_10.2.2.2.2.2.2.2.2.2.1
theorem jwN_X11_has : Cond.instanceMethod yX11_has ∈ jT := kw6_10.2.2.2.2.2.2.2.2.2.2.1
theorem jwX_X11_has : Cond.selects RX11 yX11_has yX11_has ∈ jT := kw6_10.2.2.2.2.2.2.2.2.2.2.2.1
theorem jwO_X11_has : Cond.code (mX11_has).1 (mX11_has).2.1 (mX11_has).2.2.1 (mX11_has).2.2.2 ∈ jT := kw6_10.2.2.2.2.2.2.2.2.2.2.2.2.1
theorem jwL_X11_146 : Cond.constantLong RX11 146 2 ∈ jT := kw6_10.2.2.2.2.2.2.2.2.2.2.2.2.2.1
theorem jwL_X11_148 : Cond.constantLong RX11 148 9999 ∈ jT := kw6_10.2.2.2.2.2.2.2.2.2.2.2.2.2.2.1
theorem jwM_L_68 : Cond.methodLink RL 68 yX11_knows ∈ jT := kw6_10.2.2.2.2.2.2.2.2.2.2.2.2.2.2.2.1
set_option maxRecDepth 100000 in
theorem kw6_11 : (Cond.instanceMethod yX11_knows ∈ jT) ∧ (Cond.selects RX11 yX11_knows yX11_knows ∈ jT) ∧ (Cond.code (mX11_knows).1 (mX11_knows).2.1 (mX11_knows).2.2.1 (mX11_knows).2.2.2 ∈ jT) ∧ (Cond.methodLink RX11 150 yX11_doesKnow ∈ jT) ∧ (Cond.instanceMethod yX11_doesKnow ∈ jT) ∧ (Cond.code (mX11_doesKnow).1 (mX11_doesKnow).2.1 (mX11_doesKnow).2.2.1 (mX11_doesKnow).2.2.2 ∈ jT) ∧ (Cond.constant RX11 153 (-1000000002) ∈ jT) ∧ (Cond.methodLink RL 72 yX11_go ∈ jT) ∧ (Cond.instanceMethod yX11_go ∈ jT) ∧ (Cond.selects RX11 yX11_go yX11_go ∈ jT) ∧ (Cond.code (mX11_go).1 (mX11_go).2.1 (mX11_go).2.2.1 (mX11_go).2.2.2 ∈ jT) ∧ (Cond.methodLink RX11 154 yX11_goesBy ∈ jT) ∧ (Cond.instanceMethod yX11_goesBy ∈ jT) ∧ (Cond.code (mX11_goesBy).1 (mX11_goesBy).2.1 (mX11_goesBy).2.2.1 (mX11_goesBy).2.2.2 ∈ jT) ∧ kws (tables_1_6.drop 176) := kw_g kw6_10.2.2.2.2.2.2.2.2.2.2.2.2.2.2.2.2 rfl fun h => kw_g h rfl fun h => kw_g h rfl fun h => kw_g h rfl fun h => kw_s h fun h => kw_g h rfl fun h => kw_g h rfl fun h => kw_g h rfl fun h => kw_g h rfl fun h => kw_g h rfl fun h => kw_g h rfl fun h => kw_g h rfl fun h => kw_g h rfl fun h => kw_s h fun h => kw_g h rfl fun h => kw_g h rfl fun h => h
theorem jwN_X11_knows : Cond.instanceMethod yX11_knows ∈ jT := kw6_11.1
theorem jwX_X11_knows : Cond.selects RX11 yX11_knows yX11_knows ∈ jT := kw6_11.2.1
theorem jwO_X11_knows : Cond.code (mX11_knows).1 (mX11_knows).2.1 (mX11_knows).2.2.1 (mX11_knows).2.2.2 ∈ jT := kw6_11.2.2.1
theorem jwM_X11_150 : Cond.methodLink RX11 150 yX11_doesKnow ∈ jT := kw6_11.2.2.2.1
theorem jwN_X11_doesKnow : Cond.instanceMethod yX11_doesKnow ∈ jT := kw6_11.2.2.2.2.1
theorem jwO_X11_doesKnow : Cond.code (mX11_doesKnow).1 (mX11_doesKnow).2.1 (mX11_doesKnow).2.2.1 (mX11_doesKnow).2.2.2 ∈ jT := kw6_11.2.2.2.2.2.1
theorem jwC_X11_153 : Cond.constant RX11 153 (-1000000002) ∈ jT := kw6_11.2.2.2.2.2.2.1
theorem jwM_L_72 : Cond.methodLink RL 72 yX11_go ∈ jT := kw6_11.2.2.2.2.2.2.2.1
theorem jwN_X11_go : Cond.instanceMethod yX11_go ∈ jT := kw6_11.2.2.2.2.2.2.2.2.1
theorem jwX_X11_go : Cond.selects RX11 yX11_go yX11_go ∈ jT := kw6_11.2.2.2.2.2.2.2.2.2.1
theorem jwO_X11_go : Cond.code (mX11_go).1 (mX11_go).2.1 (mX11_go).2.2.1 (mX11_go).2.2.2 ∈ jT := kw6_11.2.2.2.2.2.2.2.2.2.2.1
theorem jwM_X11_154 : Cond.methodLink RX11 154 yX11_goesBy ∈ jT := kw6_11.2.2.2.2.2.2.2.2.2.2.2.1
theorem jwN_X11_goesBy : Cond.instanceMethod yX11_goesBy ∈ jT := kw6_11.2.2.2.2.2.2.2.2.2.2.2.2.1
theorem jwO_X11_goesBy : Cond.code (mX11_goesBy).1 (mX11_goesBy).2.1 (mX11_goesBy).2.2.1 (mX11_goesBy).2.2.2 ∈ jT := kw6_11.2.2.2.2.2.2.2.2.2.2.2.2.2.1
set_option maxRecDepth 100000 in
theorem kw6_12 : (Cond.methodLink RL 76 yX11_learn ∈ jT) ∧ (Cond.instanceMethod yX11_learn ∈ jT) ∧ (Cond.selects RX11 yX11_learn yX11_learn ∈ jT) ∧ (Cond.code (mX11_learn).1 (mX11_learn).2.1 (mX11_learn).2.2.1 (mX11_learn).2.2.2 ∈ jT) ∧ (Cond.methodLink RX11 161 yX11_canLearn ∈ jT) ∧ (Cond.instanceMethod yX11_canLearn ∈ jT) ∧ (Cond.code (mX11_canLearn).1 (mX11_canLearn).2.1 (mX11_canLearn).2.2.1 (mX11_canLearn).2.2.2 ∈ jT) ∧ (Cond.methodLink RX11 164 yX11_learns ∈ jT) ∧ (Cond.instanceMethod yX11_learns ∈ jT) ∧ (Cond.code (mX11_learns).1 (mX11_learns).2.1 (mX11_learns).2.2.1 (mX11_learns).2.2.2 ∈ jT) ∧ (Cond.methodLink RX11 158 yX11_behindLesson ∈ jT) ∧ (Cond.instanceMethod yX11_behindLesson ∈ jT) ∧ (Cond.code (mX11_behindLesson).1 (mX11_behindLesson).2.1 (mX11_behindLesson).2.2.1 (mX11_behindLesson).2.2.2 ∈ jT) ∧ kws (tables_1_6.drop 192) := kw_g kw6_11.2.2.2.2.2.2.2.2.2.2.2.2.2.2 rfl fun h => kw_g h rfl fun h => kw_g h rfl fun h => kw_g h rfl fun h => kw_g h rfl fun h => kw_s h fun h => kw_g h rfl fun h => kw_g h rfl fun h => kw_g h rfl fun h => kw_s h fun h => kw_g h rfl fun h => kw_g h rfl fun h => kw_g h rfl fun h => kw_s h fun h => kw_g h rfl fun h => kw_g h rfl fun h => h
theorem jwM_L_76 : Cond.methodLink RL 76 yX11_learn ∈ jT := kw6_12.1
theorem jwN_X11_learn : Cond.instanceMethod yX11_learn ∈ jT := kw6_12.2.1
theorem jwX_X11_learn : Cond.selects RX11 yX11_learn yX11_learn ∈ jT := kw6_12.2.2.1
theorem jwO_X11_learn : Cond.code (mX11_learn).1 (mX11_learn).2.1 (mX11_learn).2.2.1 (mX11_learn).2.2.2 ∈ jT := kw6_12.2.2.2.1
theorem jwM_X11_161 : Cond.methodLink RX11 161 yX11_canLearn ∈ jT := kw6_12.2.2.2.2.1
theorem jwN_X11_canLearn : Cond.instanceMethod yX11_canLearn ∈ jT := kw6_12.2.2.2.2.2.1
theorem jwO_X11_canLearn : Cond.code (mX11_canLearn).1 (mX11_canLearn).2.1 (mX11_canLearn).2.2.1 (mX11_canLearn).2.2.2 ∈ jT := kw6_12.2.2.2.2.2.2.1
theorem jwM_X11_164 : Cond.methodLink RX11 164 yX11_learns ∈ jT := kw6_12.2.2.2.2.2.2.2.1
theorem jwN_X11_learns : Cond.instanceMethod yX11_learns ∈ jT := kw6_12.2.2.2.2.2.2.2.2.1
theorem jwO_X11_learns : Cond.code (mX11_learns).1 (mX11_learns).2.1 (mX11_learns).2.2.1 (mX11_learns).2.2.2 ∈ jT := kw6_12.2.2.2.2.2.2.2.2.2.1
theorem jwM_X11_158 : Cond.methodLink RX11 158 yX11_behindLesson ∈ jT := kw6_12.2.2.2.2.2.2.2.2.2.2.1
theorem jwN_X11_behindLesson : Cond.instanceMethod yX11_behindLesson ∈ jT := kw6_12.2.2.2.2.2.2.2.2.2.2.2.1
theorem jwO_X11_behindLesson : Cond.code (mX11_behindLesson).1 (mX11_behindLesson).2.1 (mX11_behindLesson).2.2.1 (mX11_behindLesson).2.2.2 ∈ jT := kw6_12.2.2.2.2.2.2.2.2.2.2.2.2.1
set_option maxRecDepth 100000 in
theorem kw6_13 : (Cond.methodLink RL 80 yX11_use ∈ jT) ∧ (Cond.instanceMethod yX11_use ∈ jT) ∧ (Cond.selects RX11 yX11_use yX11_use ∈ jT) ∧ (Cond.code (mX11_use).1 (mX11_use).2.1 (mX11_use).2.2.1 (mX11_use).2.2.2 ∈ jT) ∧ (Cond.methodLink RX11 167 yX11_uses ∈ jT) ∧ (Cond.instanceMethod yX11_uses ∈ jT) ∧ (Cond.code (mX11_uses).1 (mX11_uses).2.1 (mX11_uses).2.2.1 (mX11_uses).2.2.2 ∈ jT) ∧ (Cond.methodLink RL 84 yX11_rests ∈ jT) ∧ (Cond.instanceMethod yX11_rests ∈ jT) ∧ (Cond.selects RX11 yX11_rests yX11_rests ∈ jT) ∧ (Cond.code (mX11_rests).1 (mX11_rests).2.1 (mX11_rests).2.2.1 (mX11_rests).2.2.2 ∈ jT) ∧ (Cond.constantLong RX11 170 100 ∈ jT) ∧ (Cond.methodLink RL 88 yX11_wants ∈ jT) ∧ (Cond.instanceMethod yX11_wants ∈ jT) ∧ (Cond.selects RX11 yX11_wants yX11_wants ∈ jT) ∧ kws (tables_1_6.drop 208) := kw_g kw6_12.2.2.2.2.2.2.2.2.2.2.2.2.2 rfl fun h => kw_g h rfl fun h => kw_g h rfl fun h => kw_g h rfl fun h => kw_g h rfl fun h => kw_s h fun h => kw_g h rfl fun h => kw_g h rfl fun h => kw_g h rfl fun h => kw_g h rfl fun h => kw_g h rfl fun h => kw_g h rfl fun h => kw_g h rfl fun h => kw_g h rfl fun h => kw_g h rfl fun h => kw_g h rfl fun h => h
theorem jwM_L_80 : Cond.methodLink RL 80 yX11_use ∈ jT := kw6_13.1
theorem jwN_X11_use : Cond.instanceMethod yX11_use ∈ jT := kw6_13.2.1
theorem jwX_X11_use : Cond.selects RX11 yX11_use yX11_use ∈ jT := kw6_13.2.2.1
theorem jwO_X11_use : Cond.code (mX11_use).1 (mX11_use).2.1 (mX11_use).2.2.1 (mX11_use).2.2.2 ∈ jT := kw6_13.2.2.2.1
theorem jwM_X11_167 : Cond.methodLink RX11 167 yX11_uses ∈ jT := kw6_13.2.2.2.2.1
theorem jwN_X11_uses : Cond.instanceMethod yX11_uses ∈ jT := kw6_13.2.2.2.2.2.1
theorem jwO_X11_uses : Cond.code (mX11_uses).1 (mX11_uses).2.1 (mX11_uses).2.2.1 (mX11_uses).2.2.2 ∈ jT := kw6_13.2.2.2.2.2.2.1
theorem jwM_L_84 : Cond.methodLink RL 84 yX11_rests ∈ jT := kw6_13.2.2.2.2.2.2.2.1
theorem jwN_X11_rests : Cond.instanceMethod yX11_rests ∈ jT := kw6_13.2.2.2.2.2.2.2.2.1
theorem jwX_X11_rests : Cond.selects RX11 yX11_rests yX11_rests ∈ jT := kw6_13.2.2.2.2.2.2.2.2.2.1
theorem jwO_X11_rests : Cond.code (mX11_rests).1 (mX11_rests).2.1 (mX11_rests).2.2.1 (mX11_rests).2.2.2 ∈ jT := kw6_13.2.2.2.2.2.2.2.2.2.2.1
theorem jwL_X11_170 : Cond.constantLong RX11 170 100 ∈ jT := kw6_13.2.2.2.2.2.2.2.2.2.2.2.1
theorem jwM_L_88 : Cond.methodLink RL 88 yX11_wants ∈ jT := kw6_13.2.2.2.2.2.2.2.2.2.2.2.2.1
theorem jwN_X11_wants : Cond.instanceMethod yX11_wants ∈ jT := kw6_13.2.2.2.2.2.2.2.2.2.2.2.2.2.1
theorem jwX_X11_wants : Cond.selects RX11 yX11_wants yX11_wants ∈ jT := kw6_13.2.2.2.2.2.2.2.2.2.2.2.2.2.2.1
set_option maxRecDepth 100000 in
theorem kw6_14 : (Cond.code (mX11_wants).1 (mX11_wants).2.1 (mX11_wants).2.2.1 (mX11_wants).2.2.2 ∈ jT) ∧ (Cond.methodLink RL 93 yX11_clear ∈ jT) ∧ (Cond.instanceMethod yX11_clear ∈ jT) ∧ (Cond.selects RX11 yX11_clear yX11_clear ∈ jT) ∧ (Cond.code (mX11_clear).1 (mX11_clear).2.1 (mX11_clear).2.2.1 (mX11_clear).2.2.2 ∈ jT) ∧ (Cond.methodLink RL 97 yX11_made ∈ jT) ∧ (Cond.instanceMethod yX11_made ∈ jT) ∧ (Cond.selects RX11 yX11_made yX11_made ∈ jT) ∧ (Cond.code (mX11_made).1 (mX11_made).2.1 (mX11_made).2.2.1 (mX11_made).2.2.2 ∈ jT) ∧ (Cond.methodLink RX11 172 yX11_can ∈ jT) ∧ (Cond.instanceMethod yX11_can ∈ jT) ∧ (Cond.code (mX11_can).1 (mX11_can).2.1 (mX11_can).2.2.1 (mX11_can).2.2.2 ∈ jT) ∧ (Cond.methodLink RL 101 yX11_soonest ∈ jT) ∧ (Cond.instanceMethod yX11_soonest ∈ jT) ∧ (Cond.selects RX11 yX11_soonest yX11_soonest ∈ jT) ∧ kws (tables_1_6.drop 224) := kw_g kw6_13.2.2.2.2.2.2.2.2.2.2.2.2.2.2.2 rfl fun h => kw_g h rfl fun h => kw_g h rfl fun h => kw_g h rfl fun h => kw_g h rfl fun h => kw_g h rfl fun h => kw_g h rfl fun h => kw_g h rfl fun h => kw_g h rfl fun h => kw_g h rfl fun h => kw_s h fun h => kw_g h rfl fun h => kw_g h rfl fun h => kw_g h rfl fun h => kw_g h rfl fun h => kw_g h rfl fun h => h
theorem jwO_X11_wants : Cond.code (mX11_wants).1 (mX11_wants).2.1 (mX11_wants).2.2.1 (mX11_wants).2.2.2 ∈ jT := kw6_14.1
theorem jwM_L_93 : Cond.methodLink RL 93 yX11_clear ∈ jT := kw6_14.2.1
theorem jwN_X11_clear : Cond.instanceMethod yX11_clear ∈ jT := kw6_14.2.2.1
theorem jwX_X11_clear : Cond.selects RX11 yX11_clear yX11_clear ∈ jT := kw6_14.2.2.2.1
theorem jwO_X11_clear : Cond.code (mX11_clear).1 (mX11_clear).2.1 (mX11_clear).2.2.1 (mX11_clear).2.2.2 ∈ jT := kw6_14.2.2.2.2.1
theorem jwM_L_97 : Cond.methodLink RL 97 yX11_made ∈ jT := kw6_14.2.2.2.2.2.1
theorem jwN_X11_made : Cond.instanceMethod yX11_made ∈ jT := kw6_14.2.2.2.2.2.2.1
theorem jwX_X11_made : Cond.selects RX11 yX11_made yX11_made ∈ jT := kw6_14.2.2.2.2.2.2.2.1
theorem jwO_X11_made : Cond.code (mX11_made).1 (mX11_made).2.1 (mX11_made).2.2.1 (mX11_made).2.2.2 ∈ jT := kw6_14.2.2.2.2.2.2.2.2.1
theorem jwM_X11_172 : Cond.methodLink RX11 172 yX11_can ∈ jT := kw6_14.2.2.2.2.2.2.2.2.2.1
theorem jwN_X11_can : Cond.instanceMethod yX11_can ∈ jT := kw6_14.2.2.2.2.2.2.2.2.2.2.1
theorem jwO_X11_can : Cond.code (mX11_can).1 (mX11_can).2.1 (mX11_can).2.2.1 (mX11_can).2.2.2 ∈ jT := kw6_14.2.2.2.2.2.2.2.2.2.2.2.1
theorem jwM_L_101 : Cond.methodLink RL 101 yX11_soonest ∈ jT := kw6_14.2.2.2.2.2.2.2.2.2.2.2.2.1
theorem jwN_X11_soonest : Cond.instanceMethod yX11_soonest ∈ jT := kw6_14.2.2.2.2.2.2.2.2.2.2.2.2.2.1
theorem jwX_X11_soonest : Cond.selects RX11 yX11_soonest yX11_soonest ∈ jT := kw6_14.2.2.2.2.2.2.2.2.2.2.2.2.2.2.1
set_option maxRecDepth 100000 in
theorem kw6_15 : (Cond.code (mX11_soonest).1 (mX11_soonest).2.1 (mX11_soonest).2.2.1 (mX11_soonest).2.2.2 ∈ jT) ∧ (Cond.methodLink RX11 195 yX11_findSoonest ∈ jT) ∧ (Cond.instanceMethod yX11_findSoonest ∈ jT) ∧ (Cond.code (mX11_findSoonest).1 (mX11_findSoonest).2.1 (mX11_findSoonest).2.2.1 (mX11_findSoonest).2.2.2 ∈ jT) ∧ (Cond.methodLink RX11 186 yX11_laysBy ∈ jT) ∧ (Cond.instanceMethod yX11_laysBy ∈ jT) ∧ (Cond.code (mX11_laysBy).1 (mX11_laysBy).2.1 (mX11_laysBy).2.2.1 (mX11_laysBy).2.2.2 ∈ jT) ∧ (Cond.methodLink RX11 189 yX11_goesWay ∈ jT) ∧ (Cond.instanceMethod yX11_goesWay ∈ jT) ∧ (Cond.code (mX11_goesWay).1 (mX11_goesWay).2.1 (mX11_goesWay).2.2.1 (mX11_goesWay).2.2.2 ∈ jT) ∧ (Cond.methodLink RX11 192 yX11_laysBack ∈ jT) ∧ (Cond.instanceMethod yX11_laysBack ∈ jT) ∧ kws (tables_1_6.drop 240) := kw_g kw6_14.2.2.2.2.2.2.2.2.2.2.2.2.2.2.2 rfl fun h => kw_g h rfl fun h => kw_s h fun h => kw_g h rfl fun h => kw_g h rfl fun h => kw_g h rfl fun h => kw_s h fun h => kw_g h rfl fun h => kw_g h rfl fun h => kw_g h rfl fun h => kw_s h fun h => kw_g h rfl fun h => kw_g h rfl fun h => kw_g h rfl fun h => kw_s h fun h => kw_g h rfl fun h => h
theorem jwO_X11_soonest : Cond.code (mX11_soonest).1 (mX11_soonest).2.1 (mX11_soonest).2.2.1 (mX11_soonest).2.2.2 ∈ jT := kw6_15.1
theorem jwM_X11_195 : Cond.methodLink RX11 195 yX11_findSoonest ∈ jT := kw6_15.2.1
theorem jwN_X11_findSoonest : Cond.instanceMethod yX11_findSoonest ∈ jT := kw6_15.2.2.1
theorem jwO_X11_findSoonest : Cond.code (mX11_findSoonest).1 (mX11_findSoonest).2.1 (mX11_findSoonest).2.2.1 (mX11_findSoonest).2.2.2 ∈ jT := kw6_15.2.2.2.1
theorem jwM_X11_186 : Cond.methodLink RX11 186 yX11_laysBy ∈ jT := kw6_15.2.2.2.2.1
theorem jwN_X11_laysBy : Cond.instanceMethod yX11_laysBy ∈ jT := kw6_15.2.2.2.2.2.1
theorem jwO_X11_laysBy : Cond.code (mX11_laysBy).1 (mX11_laysBy).2.1 (mX11_laysBy).2.2.1 (mX11_laysBy).2.2.2 ∈ jT := kw6_15.2.2.2.2.2.2.1
theorem jwM_X11_189 : Cond.methodLink RX11 189 yX11_goesWay ∈ jT := kw6_15.2.2.2.2.2.2.2.1
theorem jwN_X11_goesWay : Cond.instanceMethod yX11_goesWay ∈ jT := kw6_15.2.2.2.2.2.2.2.2.1
theorem jwO_X11_goesWay : Cond.code (mX11_goesWay).1 (mX11_goesWay).2.1 (mX11_goesWay).2.2.1 (mX11_goesWay).2.2.2 ∈ jT := kw6_15.2.2.2.2.2.2.2.2.2.1
theorem jwM_X11_192 : Cond.methodLink RX11 192 yX11_laysBack ∈ jT := kw6_15.2.2.2.2.2.2.2.2.2.2.1
theorem jwN_X11_laysBack : Cond.instanceMethod yX11_laysBack ∈ jT := kw6_15.2.2.2.2.2.2.2.2.2.2.2.1
theorem kw0_7 : kws (tables_1_7.drop 0) := fun w h => jm_7 h
set_option maxRecDepth 100000 in
theorem kw7_1 : (Cond.code (mX11_laysBack).1 (mX11_laysBack).2.1 (mX11_laysBack).2.2.1 (mX11_laysBack).2.2.2 ∈ jT) ∧ (Cond.methodLink RL 105 yX11_together ∈ jT) ∧ (Cond.instanceMethod yX11_together ∈ jT) ∧ (Cond.selects RX11 yX11_together yX11_together ∈ jT) ∧ (Cond.code (mX11_together).1 (mX11_together).2.1 (mX11_together).2.2.1 (mX11_together).2.2.2 ∈ jT) ∧ (Cond.constantLong RX11 198 1023 ∈ jT) ∧ (Cond.methodLink RX11 200 yX11_areTogether ∈ jT) ∧ (Cond.instanceMethod yX11_areTogether ∈ jT) ∧ (Cond.code (mX11_areTogether).1 (mX11_areTogether).2.1 (mX11_areTogether).2.2.1 (mX11_areTogether).2.2.2 ∈ jT) ∧ (Cond.methodLink RL 109 yX11_never ∈ jT) ∧ (Cond.instanceMethod yX11_never ∈ jT) ∧ (Cond.selects RX11 yX11_never yX11_never ∈ jT) ∧ (Cond.code (mX11_never).1 (mX11_never).2.1 (mX11_never).2.2.1 (mX11_never).2.2.2 ∈ jT) ∧ (Cond.methodLink RX11 203 yX11_taughtNow ∈ jT) ∧ kws (tables_1_7.drop 16) := kw_g kw0_7 rfl fun h => kw_g h rfl fun h => kw_g h rfl fun h => kw_g h rfl fun h => kw_g h rfl fun h => kw_g h rfl fun h => kw_g h rfl fun h => kw_s h fun h => kw_g h rfl fun h => kw_g h rfl fun h => kw_g h rfl fun h => kw_g h rfl fun h => kw_g h rfl fun h => kw_g h rfl fun h => kw_g h rfl fun h => kw_s h fun h => h
theorem jwO_X11_laysBack : Cond.code (mX11_laysBack).1 (mX11_laysBack).2.1 (mX11_laysBack).2.2.1 (mX11_laysBack).2.2.2 ∈ jT := kw7_1.1
theorem jwM_L_105 : Cond.methodLink RL 105 yX11_together ∈ jT := kw7_1.2.1
theorem jwN_X11_together : Cond.instanceMethod yX11_together ∈ jT := kw7_1.2.2.1
theorem jwX_X11_together : Cond.selects RX11 yX11_together yX11_together ∈ jT := kw7_1.2.2.2.1
theorem jwO_X11_together : Cond.code (mX11_together).1 (mX11_together).2.1 (mX11_together).2.2.1 (mX11_together).2.2.2 ∈ jT := kw7_1.2.2.2.2.1
theorem jwL_X11_198 : Cond.constantLong RX11 198 1023 ∈ jT := kw7_1.2.2.2.2.2.1
theorem jwM_X11_200 : Cond.methodLink RX11 200 yX11_areTogether ∈ jT := kw7_1.2.2.2.2.2.2.1
theorem jwN_X11_areTogether : Cond.instanceMethod yX11_areTogether ∈ jT := kw7_1.2.2.2.2.2.2.2.1
theorem jwO_X11_areTogether : Cond.code (mX11_areTogether).1 (mX11_areTogether).2.1 (mX11_areTogether).2.2.1 (mX11_areTogether).2.2.2 ∈ jT := kw7_1.2.2.2.2.2.2.2.2.1
theorem jwM_L_109 : Cond.methodLink RL 109 yX11_never ∈ jT := kw7_1.2.2.2.2.2.2.2.2.2.1
theorem jwN_X11_never : Cond.instanceMethod yX11_never ∈ jT := kw7_1.2.2.2.2.2.2.2.2.2.2.1
theorem jwX_X11_never : Cond.selects RX11 yX11_never yX11_never ∈ jT := kw7_1.2.2.2.2.2.2.2.2.2.2.2.1
theorem jwO_X11_never : Cond.code (mX11_never).1 (mX11_never).2.1 (mX11_never).2.2.1 (mX11_never).2.2.2 ∈ jT := kw7_1.2.2.2.2.2.2.2.2.2.2.2.2.1
theorem jwM_X11_203 : Cond.methodLink RX11 203 yX11_taughtNow ∈ jT := kw7_1.2.2.2.2.2.2.2.2.2.2.2.2.2.1
set_option maxRecDepth 100000 in
theorem kw7_2 : (Cond.instanceMethod yX11_taughtNow ∈ jT) ∧ (Cond.code (mX11_taughtNow).1 (mX11_taughtNow).2.1 (mX11_taughtNow).2.2.1 (mX11_taughtNow).2.2.2 ∈ jT) ∧ (Cond.methodLink RL 113 yX11_last ∈ jT) ∧ (Cond.instanceMethod yX11_last ∈ jT) ∧ (Cond.selects RX11 yX11_last yX11_last ∈ jT) ∧ (Cond.code (mX11_last).1 (mX11_last).2.1 (mX11_last).2.2.1 (mX11_last).2.2.2 ∈ jT) ∧ (Cond.methodLink RL 117 yX11_years ∈ jT) ∧ (Cond.instanceMethod yX11_years ∈ jT) ∧ (Cond.selects RX11 yX11_years yX11_years ∈ jT) ∧ (Cond.code (mX11_years).1 (mX11_years).2.1 (mX11_years).2.2.1 (mX11_years).2.2.2 ∈ jT) ∧ (Cond.constantLong RX11 206 60 ∈ jT) ∧ (Cond.methodLink RX11 208 yX11_year ∈ jT) ∧ (Cond.instanceMethod yX11_year ∈ jT) ∧ (Cond.code (mX11_year).1 (mX11_year).2.1 (mX11_year).2.2.1 (mX11_year).2.2.2 ∈ jT) ∧ (Cond.methodLink RL 121 yX11_gone ∈ jT) ∧ kws (tables_1_7.drop 32) := kw_g kw7_1.2.2.2.2.2.2.2.2.2.2.2.2.2.2 rfl fun h => kw_g h rfl fun h => kw_g h rfl fun h => kw_g h rfl fun h => kw_g h rfl fun h => kw_g h rfl fun h => kw_g h rfl fun h => kw_g h rfl fun h => kw_g h rfl fun h => kw_g h rfl fun h => kw_g h rfl fun h => kw_g h rfl fun h => kw_s h fun h => kw_g h rfl fun h => kw_g h rfl fun h => kw_g h rfl fun h => h
theorem jwN_X11_taughtNow : Cond.instanceMethod yX11_taughtNow ∈ jT := kw7_2.1
theorem jwO_X11_taughtNow : Cond.code (mX11_taughtNow).1 (mX11_taughtNow).2.1 (mX11_taughtNow).2.2.1 (mX11_taughtNow).2.2.2 ∈ jT := kw7_2.2.1
theorem jwM_L_113 : Cond.methodLink RL 113 yX11_last ∈ jT := kw7_2.2.2.1
theorem jwN_X11_last : Cond.instanceMethod yX11_last ∈ jT := kw7_2.2.2.2.1
theorem jwX_X11_last : Cond.selects RX11 yX11_last yX11_last ∈ jT := kw7_2.2.2.2.2.1
theorem jwO_X11_last : Cond.code (mX11_last).1 (mX11_last).2.1 (mX11_last).2.2.1 (mX11_last).2.2.2 ∈ jT := kw7_2.2.2.2.2.2.1
theorem jwM_L_117 : Cond.methodLink RL 117 yX11_years ∈ jT := kw7_2.2.2.2.2.2.2.1
theorem jwN_X11_years : Cond.instanceMethod yX11_years ∈ jT := kw7_2.2.2.2.2.2.2.2.1
theorem jwX_X11_years : Cond.selects RX11 yX11_years yX11_years ∈ jT := kw7_2.2.2.2.2.2.2.2.2.1
theorem jwO_X11_years : Cond.code (mX11_years).1 (mX11_years).2.1 (mX11_years).2.2.1 (mX11_years).2.2.2 ∈ jT := kw7_2.2.2.2.2.2.2.2.2.2.1
theorem jwL_X11_206 : Cond.constantLong RX11 206 60 ∈ jT := kw7_2.2.2.2.2.2.2.2.2.2.2.1
theorem jwM_X11_208 : Cond.methodLink RX11 208 yX11_year ∈ jT := kw7_2.2.2.2.2.2.2.2.2.2.2.2.1
theorem jwN_X11_year : Cond.instanceMethod yX11_year ∈ jT := kw7_2.2.2.2.2.2.2.2.2.2.2.2.2.1
theorem jwO_X11_year : Cond.code (mX11_year).1 (mX11_year).2.1 (mX11_year).2.2.1 (mX11_year).2.2.2 ∈ jT := kw7_2.2.2.2.2.2.2.2.2.2.2.2.2.2.1
theorem jwM_L_121 : Cond.methodLink RL 121 yX11_gone ∈ jT := kw7_2.2.2.2.2.2.2.2.2.2.2.2.2.2.2.1
set_option maxRecDepth 100000 in
theorem kw7_3 : (Cond.instanceMethod yX11_gone ∈ jT) ∧ (Cond.selects RX11 yX11_gone yX11_gone ∈ jT) ∧ (Cond.code (mX11_gone).1 (mX11_gone).2.1 (mX11_gone).2.2.1 (mX11_gone).2.2.2 ∈ jT) ∧ (Cond.methodLink RL 125 yX11_fresh ∈ jT) ∧ (Cond.instanceMethod yX11_fresh ∈ jT) ∧ (Cond.selects RX11 yX11_fresh yX11_fresh ∈ jT) ∧ (Cond.code (mX11_fresh).1 (mX11_fresh).2.1 (mX11_fresh).2.2.1 (mX11_fresh).2.2.2 ∈ jT) ∧ (Cond.methodLink RX11 211 yX11_farFrom ∈ jT) ∧ (Cond.instanceMethod yX11_farFrom ∈ jT) ∧ (Cond.code (mX11_farFrom).1 (mX11_farFrom).2.1 (mX11_farFrom).2.2.1 (mX11_farFrom).2.2.2 ∈ jT) ∧ (Cond.methodLink RL 133 yX11_fame ∈ jT) ∧ (Cond.instanceMethod yX11_fame ∈ jT) ∧ (Cond.selects RX11 yX11_fame yX11_fame ∈ jT) ∧ (Cond.code (mX11_fame).1 (mX11_fame).2.1 (mX11_fame).2.2.1 (mX11_fame).2.2.2 ∈ jT) ∧ (Cond.methodLink RL 137 yX11_fine ∈ jT) ∧ kws (tables_1_7.drop 48) := kw_g kw7_2.2.2.2.2.2.2.2.2.2.2.2.2.2.2.2 rfl fun h => kw_g h rfl fun h => kw_g h rfl fun h => kw_g h rfl fun h => kw_g h rfl fun h => kw_g h rfl fun h => kw_g h rfl fun h => kw_g h rfl fun h => kw_s h fun h => kw_g h rfl fun h => kw_g h rfl fun h => kw_g h rfl fun h => kw_g h rfl fun h => kw_g h rfl fun h => kw_g h rfl fun h => kw_g h rfl fun h => h
theorem jwN_X11_gone : Cond.instanceMethod yX11_gone ∈ jT := kw7_3.1
theorem jwX_X11_gone : Cond.selects RX11 yX11_gone yX11_gone ∈ jT := kw7_3.2.1
theorem jwO_X11_gone : Cond.code (mX11_gone).1 (mX11_gone).2.1 (mX11_gone).2.2.1 (mX11_gone).2.2.2 ∈ jT := kw7_3.2.2.1
theorem jwM_L_125 : Cond.methodLink RL 125 yX11_fresh ∈ jT := kw7_3.2.2.2.1
theorem jwN_X11_fresh : Cond.instanceMethod yX11_fresh ∈ jT := kw7_3.2.2.2.2.1
theorem jwX_X11_fresh : Cond.selects RX11 yX11_fresh yX11_fresh ∈ jT := kw7_3.2.2.2.2.2.1
theorem jwO_X11_fresh : Cond.code (mX11_fresh).1 (mX11_fresh).2.1 (mX11_fresh).2.2.1 (mX11_fresh).2.2.2 ∈ jT := kw7_3.2.2.2.2.2.2.1
theorem jwM_X11_211 : Cond.methodLink RX11 211 yX11_farFrom ∈ jT := kw7_3.2.2.2.2.2.2.2.1
theorem jwN_X11_farFrom : Cond.instanceMethod yX11_farFrom ∈ jT := kw7_3.2.2.2.2.2.2.2.2.1
theorem jwO_X11_farFrom : Cond.code (mX11_farFrom).1 (mX11_farFrom).2.1 (mX11_farFrom).2.2.1 (mX11_farFrom).2.2.2 ∈ jT := kw7_3.2.2.2.2.2.2.2.2.2.1
theorem jwM_L_133 : Cond.methodLink RL 133 yX11_fame ∈ jT := kw7_3.2.2.2.2.2.2.2.2.2.2.1
theorem jwN_X11_fame : Cond.instanceMethod yX11_fame ∈ jT := kw7_3.2.2.2.2.2.2.2.2.2.2.2.1
theorem jwX_X11_fame : Cond.selects RX11 yX11_fame yX11_fame ∈ jT := kw7_3.2.2.2.2.2.2.2.2.2.2.2.2.1
theorem jwO_X11_fame : Cond.code (mX11_fame).1 (mX11_fame).2.1 (mX11_fame).2.2.1 (mX11_fame).2.2.2 ∈ jT := kw7_3.2.2.2.2.2.2.2.2.2.2.2.2.2.1
theorem jwM_L_137 : Cond.methodLink RL 137 yX11_fine ∈ jT := kw7_3.2.2.2.2.2.2.2.2.2.2.2.2.2.2.1
set_option maxRecDepth 100000 in
theorem kw7_4 : (Cond.instanceMethod yX11_fine ∈ jT) ∧ (Cond.selects RX11 yX11_fine yX11_fine ∈ jT) ∧ (Cond.code (mX11_fine).1 (mX11_fine).2.1 (mX11_fine).2.2.1 (mX11_fine).2.2.2 ∈ jT) ∧ (Cond.methodLink RL 141 yX11_feed ∈ jT) ∧ (Cond.instanceMethod yX11_feed ∈ jT) ∧ (Cond.selects RX11 yX11_feed yX11_feed ∈ jT) ∧ (Cond.code (mX11_feed).1 (mX11_feed).2.1 (mX11_feed).2.2.1 (mX11_feed).2.2.2 ∈ jT) ∧ (Cond.methodLink RL 145 yX11_trim ∈ jT) ∧ (Cond.instanceMethod yX11_trim ∈ jT) ∧ (Cond.selects RX11 yX11_trim yX11_trim ∈ jT) ∧ (Cond.code (mX11_trim).1 (mX11_trim).2.1 (mX11_trim).2.2.1 (mX11_trim).2.2.2 ∈ jT) ∧ (Cond.methodLink RL 149 yX11_text ∈ jT) ∧ (Cond.instanceMethod yX11_text ∈ jT) ∧ (Cond.selects RX11 yX11_text yX11_text ∈ jT) ∧ (Cond.code (mX11_text).1 (mX11_text).2.1 (mX11_text).2.2.1 (mX11_text).2.2.2 ∈ jT) ∧ (Cond.methodLink RX11 302 yX11_parse ∈ jT) ∧ kws (tables_1_7.drop 64) := kw_g kw7_3.2.2.2.2.2.2.2.2.2.2.2.2.2.2.2 rfl fun h => kw_g h rfl fun h => kw_g h rfl fun h => kw_g h rfl fun h => kw_g h rfl fun h => kw_g h rfl fun h => kw_g h rfl fun h => kw_g h rfl fun h => kw_g h rfl fun h => kw_g h rfl fun h => kw_g h rfl fun h => kw_g h rfl fun h => kw_g h rfl fun h => kw_g h rfl fun h => kw_g h rfl fun h => kw_g h rfl fun h => h
theorem jwN_X11_fine : Cond.instanceMethod yX11_fine ∈ jT := kw7_4.1
theorem jwX_X11_fine : Cond.selects RX11 yX11_fine yX11_fine ∈ jT := kw7_4.2.1
theorem jwO_X11_fine : Cond.code (mX11_fine).1 (mX11_fine).2.1 (mX11_fine).2.2.1 (mX11_fine).2.2.2 ∈ jT := kw7_4.2.2.1
theorem jwM_L_141 : Cond.methodLink RL 141 yX11_feed ∈ jT := kw7_4.2.2.2.1
theorem jwN_X11_feed : Cond.instanceMethod yX11_feed ∈ jT := kw7_4.2.2.2.2.1
theorem jwX_X11_feed : Cond.selects RX11 yX11_feed yX11_feed ∈ jT := kw7_4.2.2.2.2.2.1
theorem jwO_X11_feed : Cond.code (mX11_feed).1 (mX11_feed).2.1 (mX11_feed).2.2.1 (mX11_feed).2.2.2 ∈ jT := kw7_4.2.2.2.2.2.2.1
theorem jwM_L_145 : Cond.methodLink RL 145 yX11_trim ∈ jT := kw7_4.2.2.2.2.2.2.2.1
theorem jwN_X11_trim : Cond.instanceMethod yX11_trim ∈ jT := kw7_4.2.2.2.2.2.2.2.2.1
theorem jwX_X11_trim : Cond.selects RX11 yX11_trim yX11_trim ∈ jT := kw7_4.2.2.2.2.2.2.2.2.2.1
theorem jwO_X11_trim : Cond.code (mX11_trim).1 (mX11_trim).2.1 (mX11_trim).2.2.1 (mX11_trim).2.2.2 ∈ jT := kw7_4.2.2.2.2.2.2.2.2.2.2.1
theorem jwM_L_149 : Cond.methodLink RL 149 yX11_text ∈ jT := kw7_4.2.2.2.2.2.2.2.2.2.2.2.1
theorem jwN_X11_text : Cond.instanceMethod yX11_text ∈ jT := kw7_4.2.2.2.2.2.2.2.2.2.2.2.2.1
theorem jwX_X11_text : Cond.selects RX11 yX11_text yX11_text ∈ jT := kw7_4.2.2.2.2.2.2.2.2.2.2.2.2.2.1
theorem jwO_X11_text : Cond.code (mX11_text).1 (mX11_text).2.1 (mX11_text).2.2.1 (mX11_text).2.2.2 ∈ jT := kw7_4.2.2.2.2.2.2.2.2.2.2.2.2.2.2.1
theorem jwM_X11_302 : Cond.methodLink RX11 302 yX11_parse ∈ jT := kw7_4.2.2.2.2.2.2.2.2.2.2.2.2.2.2.2.1
set_option maxRecDepth 100000 in
theorem kw7_5 : (Cond.instanceMethod yX11_parse ∈ jT) ∧ (Cond.code (mX11_parse).1 (mX11_parse).2.1 (mX11_parse).2.2.1 (mX11_parse).2.2.2 ∈ jT) ∧ (Cond.methodLink RX11 262 yX11_nextToken ∈ jT) ∧ (Cond.instanceMethod yX11_nextToken ∈ jT) ∧ (Cond.code (mX11_nextToken).1 (mX11_nextToken).2.1 (mX11_nextToken).2.2.1 (mX11_nextToken).2.2.2 ∈ jT) ∧ (Cond.methodLink RX11 234 yX11_isLetter ∈ jT) ∧ (Cond.instanceMethod yX11_isLetter ∈ jT) ∧ (Cond.code (mX11_isLetter).1 (mX11_isLetter).2.1 (mX11_isLetter).2.2.1 (mX11_isLetter).2.2.2 ∈ jT) ∧ (Cond.constantLong RX11 217 97 ∈ jT) ∧ (Cond.constantLong RX11 219 122 ∈ jT) ∧ (Cond.methodLink RX11 240 yX11_isDigit ∈ jT) ∧ (Cond.instanceMethod yX11_isDigit ∈ jT) ∧ kws (tables_1_7.drop 80) := kw_s kw7_4.2.2.2.2.2.2.2.2.2.2.2.2.2.2.2.2 fun h => kw_g h rfl fun h => kw_g h rfl fun h => kw_g h rfl fun h => kw_s h fun h => kw_g h rfl fun h => kw_g h rfl fun h => kw_g h rfl fun h => kw_s h fun h => kw_g h rfl fun h => kw_g h rfl fun h => kw_g h rfl fun h => kw_g h rfl fun h => kw_g h rfl fun h => kw_s h fun h => kw_g h rfl fun h => h
theorem jwN_X11_parse : Cond.instanceMethod yX11_parse ∈ jT := kw7_5.1
theorem jwO_X11_parse : Cond.code (mX11_parse).1 (mX11_parse).2.1 (mX11_parse).2.2.1 (mX11_parse).2.2.2 ∈ jT := kw7_5.2.1
theorem jwM_X11_262 : Cond.methodLink RX11 262 yX11_nextToken ∈ jT := kw7_5.2.2.1
theorem jwN_X11_nextToken : Cond.instanceMethod yX11_nextToken ∈ jT := kw7_5.2.2.2.1
theorem jwO_X11_nextToken : Cond.code (mX11_nextToken).1 (mX11_nextToken).2.1 (mX11_nextToken).2.2.1 (mX11_nextToken).2.2.2 ∈ jT := kw7_5.2.2.2.2.1
theorem jwM_X11_234 : Cond.methodLink RX11 234 yX11_isLetter ∈ jT := kw7_5.2.2.2.2.2.1
theorem jwN_X11_isLetter : Cond.instanceMethod yX11_isLetter ∈ jT := kw7_5.2.2.2.2.2.2.1
theorem jwO_X11_isLetter : Cond.code (mX11_isLetter).1 (mX11_isLetter).2.1 (mX11_isLetter).2.2.1 (mX11_isLetter).2.2.2 ∈ jT := kw7_5.2.2.2.2.2.2.2.1
theorem jwL_X11_217 : Cond.constantLong RX11 217 97 ∈ jT := kw7_5.2.2.2.2.2.2.2.2.1
theorem jwL_X11_219 : Cond.constantLong RX11 219 122 ∈ jT := kw7_5.2.2.2.2.2.2.2.2.2.1
theorem jwM_X11_240 : Cond.methodLink RX11 240 yX11_isDigit ∈ jT := kw7_5.2.2.2.2.2.2.2.2.2.2.1
theorem jwN_X11_isDigit : Cond.instanceMethod yX11_isDigit ∈ jT := kw7_5.2.2.2.2.2.2.2.2.2.2.2.1
set_option maxRecDepth 100000 in
theorem kw7_6 : (Cond.code (mX11_isDigit).1 (mX11_isDigit).2.1 (mX11_isDigit).2.2.1 (mX11_isDigit).2.2.2 ∈ jT) ∧ (Cond.constantLong RX11 221 48 ∈ jT) ∧ (Cond.constantLong RX11 223 57 ∈ jT) ∧ (Cond.methodLink RX11 299 yX11_key ∈ jT) ∧ (Cond.instanceMethod yX11_key ∈ jT) ∧ (Cond.code (mX11_key).1 (mX11_key).2.1 (mX11_key).2.2.1 (mX11_key).2.2.2 ∈ jT) ∧ (Cond.methodLink RX11 246 yX11_isWordAt ∈ jT) ∧ (Cond.instanceMethod yX11_isWordAt ∈ jT) ∧ (Cond.code (mX11_isWordAt).1 (mX11_isWordAt).2.1 (mX11_isWordAt).2.2.1 (mX11_isWordAt).2.2.2 ∈ jT) ∧ (Cond.methodLink RX11 293 yX11_either ∈ jT) ∧ (Cond.instanceMethod yX11_either ∈ jT) ∧ (Cond.code (mX11_either).1 (mX11_either).2.1 (mX11_either).2.2.1 (mX11_either).2.2.2 ∈ jT) ∧ (Cond.methodLink RX11 256 yX11_both ∈ jT) ∧ kws (tables_1_7.drop 96) := kw_g kw7_5.2.2.2.2.2.2.2.2.2.2.2.2 rfl fun h => kw_g h rfl fun h => kw_g h rfl fun h => kw_g h rfl fun h => kw_s h fun h => kw_g h rfl fun h => kw_g h rfl fun h => kw_g h rfl fun h => kw_s h fun h => kw_g h rfl fun h => kw_g h rfl fun h => kw_g h rfl fun h => kw_s h fun h => kw_g h rfl fun h => kw_g h rfl fun h => kw_g h rfl fun h => h
theorem jwO_X11_isDigit : Cond.code (mX11_isDigit).1 (mX11_isDigit).2.1 (mX11_isDigit).2.2.1 (mX11_isDigit).2.2.2 ∈ jT := kw7_6.1
theorem jwL_X11_221 : Cond.constantLong RX11 221 48 ∈ jT := kw7_6.2.1
theorem jwL_X11_223 : Cond.constantLong RX11 223 57 ∈ jT := kw7_6.2.2.1
theorem jwM_X11_299 : Cond.methodLink RX11 299 yX11_key ∈ jT := kw7_6.2.2.2.1
theorem jwN_X11_key : Cond.instanceMethod yX11_key ∈ jT := kw7_6.2.2.2.2.1
theorem jwO_X11_key : Cond.code (mX11_key).1 (mX11_key).2.1 (mX11_key).2.2.1 (mX11_key).2.2.2 ∈ jT := kw7_6.2.2.2.2.2.1
theorem jwM_X11_246 : Cond.methodLink RX11 246 yX11_isWordAt ∈ jT := kw7_6.2.2.2.2.2.2.1
theorem jwN_X11_isWordAt : Cond.instanceMethod yX11_isWordAt ∈ jT := kw7_6.2.2.2.2.2.2.2.1
theorem jwO_X11_isWordAt : Cond.code (mX11_isWordAt).1 (mX11_isWordAt).2.1 (mX11_isWordAt).2.2.1 (mX11_isWordAt).2.2.2 ∈ jT := kw7_6.2.2.2.2.2.2.2.2.1
theorem jwM_X11_293 : Cond.methodLink RX11 293 yX11_either ∈ jT := kw7_6.2.2.2.2.2.2.2.2.2.1
theorem jwN_X11_either : Cond.instanceMethod yX11_either ∈ jT := kw7_6.2.2.2.2.2.2.2.2.2.2.1
theorem jwO_X11_either : Cond.code (mX11_either).1 (mX11_either).2.1 (mX11_either).2.2.1 (mX11_either).2.2.2 ∈ jT := kw7_6.2.2.2.2.2.2.2.2.2.2.2.1
theorem jwM_X11_256 : Cond.methodLink RX11 256 yX11_both ∈ jT := kw7_6.2.2.2.2.2.2.2.2.2.2.2.2.1
set_option maxRecDepth 100000 in
theorem kw7_7 : (Cond.instanceMethod yX11_both ∈ jT) ∧ (Cond.code (mX11_both).1 (mX11_both).2.1 (mX11_both).2.2.1 (mX11_both).2.2.2 ∈ jT) ∧ (Cond.methodLink RX11 269 yX11_test ∈ jT) ∧ (Cond.instanceMethod yX11_test ∈ jT) ∧ (Cond.code (mX11_test).1 (mX11_test).2.1 (mX11_test).2.2.1 (mX11_test).2.2.2 ∈ jT) ∧ (Cond.methodLink RX11 272 yX11_sum ∈ jT) ∧ (Cond.instanceMethod yX11_sum ∈ jT) ∧ (Cond.code (mX11_sum).1 (mX11_sum).2.1 (mX11_sum).2.2.1 (mX11_sum).2.2.2 ∈ jT) ∧ (Cond.methodLink RX11 275 yX11_term ∈ jT) ∧ (Cond.instanceMethod yX11_term ∈ jT) ∧ (Cond.code (mX11_term).1 (mX11_term).2.1 (mX11_term).2.2.1 (mX11_term).2.2.2 ∈ jT) ∧ (Cond.methodLink RX11 278 yX11_part0 ∈ jT) ∧ kws (tables_1_7.drop 112) := kw_s kw7_6.2.2.2.2.2.2.2.2.2.2.2.2.2 fun h => kw_g h rfl fun h => kw_g h rfl fun h => kw_g h rfl fun h => kw_s h fun h => kw_g h rfl fun h => kw_g h rfl fun h => kw_g h rfl fun h => kw_s h fun h => kw_g h rfl fun h => kw_g h rfl fun h => kw_g h rfl fun h => kw_s h fun h => kw_g h rfl fun h => kw_g h rfl fun h => kw_g h rfl fun h => h
theorem jwN_X11_both : Cond.instanceMethod yX11_both ∈ jT := kw7_7.1
theorem jwO_X11_both : Cond.code (mX11_both).1 (mX11_both).2.1 (mX11_both).2.2.1 (mX11_both).2.2.2 ∈ jT := kw7_7.2.1
theorem jwM_X11_269 : Cond.methodLink RX11 269 yX11_test ∈ jT := kw7_7.2.2.1
theorem jwN_X11_test : Cond.instanceMethod yX11_test ∈ jT := kw7_7.2.2.2.1
theorem jwO_X11_test : Cond.code (mX11_test).1 (mX11_test).2.1 (mX11_test).2.2.1 (mX11_test).2.2.2 ∈ jT := kw7_7.2.2.2.2.1
theorem jwM_X11_272 : Cond.methodLink RX11 272 yX11_sum ∈ jT := kw7_7.2.2.2.2.2.1
theorem jwN_X11_sum : Cond.instanceMethod yX11_sum ∈ jT := kw7_7.2.2.2.2.2.2.1
theorem jwO_X11_sum : Cond.code (mX11_sum).1 (mX11_sum).2.1 (mX11_sum).2.2.1 (mX11_sum).2.2.2 ∈ jT := kw7_7.2.2.2.2.2.2.2.1
theorem jwM_X11_275 : Cond.methodLink RX11 275 yX11_term ∈ jT := kw7_7.2.2.2.2.2.2.2.2.1
theorem jwN_X11_term : Cond.instanceMethod yX11_term ∈ jT := kw7_7.2.2.2.2.2.2.2.2.2.1
theorem jwO_X11_term : Cond.code (mX11_term).1 (mX11_term).2.1 (mX11_term).2.2.1 (mX11_term).2.2.2 ∈ jT := kw7_7.2.2.2.2.2.2.2.2.2.2.1
theorem jwM_X11_278 : Cond.methodLink RX11 278 yX11_part0 ∈ jT := kw7_7.2.2.2.2.2.2.2.2.2.2.2.1
set_option maxRecDepth 100000 in
theorem kw7_8 : (Cond.instanceMethod yX11_part0 ∈ jT) ∧ (Cond.code (mX11_part0).1 (mX11_part0).2.1 (mX11_part0).2.2.1 (mX11_part0).2.2.2 ∈ jT) ∧ (Cond.methodLink RX11 265 yX11_step ∈ jT) ∧ (Cond.instanceMethod yX11_step ∈ jT) ∧ (Cond.code (mX11_step).1 (mX11_step).2.1 (mX11_step).2.2.1 (mX11_step).2.2.2 ∈ jT) ∧ (Cond.methodLink RX11 284 yX11_isName ∈ jT) ∧ (Cond.static yX11_isName ∈ jT) ∧ (Cond.code (mX11_isName).1 (mX11_isName).2.1 (mX11_isName).2.2.1 (mX11_isName).2.2.2 ∈ jT) ∧ (Cond.methodLink RX11 259 yX11_isSign ∈ jT) ∧ (Cond.instanceMethod yX11_isSign ∈ jT) ∧ (Cond.code (mX11_isSign).1 (mX11_isSign).2.1 (mX11_isSign).2.2.1 (mX11_isSign).2.2.2 ∈ jT) ∧ (Cond.methodLink RL 153 yX11_textTold ∈ jT) ∧ (Cond.instanceMethod yX11_textTold ∈ jT) ∧ kws (tables_1_7.drop 128) := kw_s kw7_7.2.2.2.2.2.2.2.2.2.2.2.2 fun h => kw_g h rfl fun h => kw_g h rfl fun h => kw_g h rfl fun h => kw_s h fun h => kw_g h rfl fun h => kw_g h rfl fun h => kw_g h rfl fun h => kw_g h rfl fun h => kw_g h rfl fun h => kw_g h rfl fun h => kw_s h fun h => kw_g h rfl fun h => kw_g h rfl fun h => kw_g h rfl fun h => kw_g h rfl fun h => h
theorem jwN_X11_part0 : Cond.instanceMethod yX11_part0 ∈ jT := kw7_8.1
theorem jwO_X11_part0 : Cond.code (mX11_part0).1 (mX11_part0).2.1 (mX11_part0).2.2.1 (mX11_part0).2.2.2 ∈ jT := kw7_8.2.1
theorem jwM_X11_265 : Cond.methodLink RX11 265 yX11_step ∈ jT := kw7_8.2.2.1
theorem jwN_X11_step : Cond.instanceMethod yX11_step ∈ jT := kw7_8.2.2.2.1
theorem jwO_X11_step : Cond.code (mX11_step).1 (mX11_step).2.1 (mX11_step).2.2.1 (mX11_step).2.2.2 ∈ jT := kw7_8.2.2.2.2.1
theorem jwM_X11_284 : Cond.methodLink RX11 284 yX11_isName ∈ jT := kw7_8.2.2.2.2.2.1
theorem jwS_X11_isName : Cond.static yX11_isName ∈ jT := kw7_8.2.2.2.2.2.2.1
theorem jwO_X11_isName : Cond.code (mX11_isName).1 (mX11_isName).2.1 (mX11_isName).2.2.1 (mX11_isName).2.2.2 ∈ jT := kw7_8.2.2.2.2.2.2.2.1
theorem jwM_X11_259 : Cond.methodLink RX11 259 yX11_isSign ∈ jT := kw7_8.2.2.2.2.2.2.2.2.1
theorem jwN_X11_isSign : Cond.instanceMethod yX11_isSign ∈ jT := kw7_8.2.2.2.2.2.2.2.2.2.1
theorem jwO_X11_isSign : Cond.code (mX11_isSign).1 (mX11_isSign).2.1 (mX11_isSign).2.2.1 (mX11_isSign).2.2.2 ∈ jT := kw7_8.2.2.2.2.2.2.2.2.2.2.1
theorem jwM_L_153 : Cond.methodLink RL 153 yX11_textTold ∈ jT := kw7_8.2.2.2.2.2.2.2.2.2.2.2.1
theorem jwN_X11_textTold : Cond.instanceMethod yX11_textTold ∈ jT := kw7_8.2.2.2.2.2.2.2.2.2.2.2.2.1
set_option maxRecDepth 100000 in
theorem kw7_9 : (Cond.selects RX11 yX11_textTold yX11_textTold ∈ jT) ∧ (Cond.code (mX11_textTold).1 (mX11_textTold).2.1 (mX11_textTold).2.2.1 (mX11_textTold).2.2.2 ∈ jT) ∧ (Cond.methodLink RX11 305 yX11_isText ∈ jT) ∧ (Cond.instanceMethod yX11_isText ∈ jT) ∧ (Cond.code (mX11_isText).1 (mX11_isText).2.1 (mX11_isText).2.2.1 (mX11_isText).2.2.2 ∈ jT) ∧ (Cond.methodLink RL 157 yX11_why ∈ jT) ∧ (Cond.instanceMethod yX11_why ∈ jT) ∧ (Cond.selects RX11 yX11_why yX11_why ∈ jT) ∧ (Cond.code (mX11_why).1 (mX11_why).2.1 (mX11_why).2.2.1 (mX11_why).2.2.2 ∈ jT) ∧ (Cond.methodLink RX11 308 yX11_orNone ∈ jT) ∧ (Cond.static yX11_orNone ∈ jT) ∧ (Cond.code (mX11_orNone).1 (mX11_orNone).2.1 (mX11_orNone).2.2.1 (mX11_orNone).2.2.2 ∈ jT) ∧ (Cond.methodLink RL 161 yX11_sheet ∈ jT) ∧ (Cond.instanceMethod yX11_sheet ∈ jT) ∧ (Cond.selects RX11 yX11_sheet yX11_sheet ∈ jT) ∧ kws (tables_1_7.drop 144) := kw_g kw7_8.2.2.2.2.2.2.2.2.2.2.2.2.2 rfl fun h => kw_g h rfl fun h => kw_g h rfl fun h => kw_s h fun h => kw_g h rfl fun h => kw_g h rfl fun h => kw_g h rfl fun h => kw_g h rfl fun h => kw_g h rfl fun h => kw_g h rfl fun h => kw_g h rfl fun h => kw_g h rfl fun h => kw_g h rfl fun h => kw_g h rfl fun h => kw_g h rfl fun h => kw_g h rfl fun h => h
theorem jwX_X11_textTold : Cond.selects RX11 yX11_textTold yX11_textTold ∈ jT := kw7_9.1
theorem jwO_X11_textTold : Cond.code (mX11_textTold).1 (mX11_textTold).2.1 (mX11_textTold).2.2.1 (mX11_textTold).2.2.2 ∈ jT := kw7_9.2.1
theorem jwM_X11_305 : Cond.methodLink RX11 305 yX11_isText ∈ jT := kw7_9.2.2.1
theorem jwN_X11_isText : Cond.instanceMethod yX11_isText ∈ jT := kw7_9.2.2.2.1
theorem jwO_X11_isText : Cond.code (mX11_isText).1 (mX11_isText).2.1 (mX11_isText).2.2.1 (mX11_isText).2.2.2 ∈ jT := kw7_9.2.2.2.2.1
theorem jwM_L_157 : Cond.methodLink RL 157 yX11_why ∈ jT := kw7_9.2.2.2.2.2.1
theorem jwN_X11_why : Cond.instanceMethod yX11_why ∈ jT := kw7_9.2.2.2.2.2.2.1
theorem jwX_X11_why : Cond.selects RX11 yX11_why yX11_why ∈ jT := kw7_9.2.2.2.2.2.2.2.1
theorem jwO_X11_why : Cond.code (mX11_why).1 (mX11_why).2.1 (mX11_why).2.2.1 (mX11_why).2.2.2 ∈ jT := kw7_9.2.2.2.2.2.2.2.2.1
theorem jwM_X11_308 : Cond.methodLink RX11 308 yX11_orNone ∈ jT := kw7_9.2.2.2.2.2.2.2.2.2.1
theorem jwS_X11_orNone : Cond.static yX11_orNone ∈ jT := kw7_9.2.2.2.2.2.2.2.2.2.2.1
theorem jwO_X11_orNone : Cond.code (mX11_orNone).1 (mX11_orNone).2.1 (mX11_orNone).2.2.1 (mX11_orNone).2.2.2 ∈ jT := kw7_9.2.2.2.2.2.2.2.2.2.2.2.1
theorem jwM_L_161 : Cond.methodLink RL 161 yX11_sheet ∈ jT := kw7_9.2.2.2.2.2.2.2.2.2.2.2.2.1
theorem jwN_X11_sheet : Cond.instanceMethod yX11_sheet ∈ jT := kw7_9.2.2.2.2.2.2.2.2.2.2.2.2.2.1
theorem jwX_X11_sheet : Cond.selects RX11 yX11_sheet yX11_sheet ∈ jT := kw7_9.2.2.2.2.2.2.2.2.2.2.2.2.2.2.1
set_option maxRecDepth 100000 in
theorem kw7_10 : (Cond.code (mX11_sheet).1 (mX11_sheet).2.1 (mX11_sheet).2.2.1 (mX11_sheet).2.2.2 ∈ jT) ∧ (Cond.methodLink RX11 314 yX11_isSheet ∈ jT) ∧ (Cond.static yX11_isSheet ∈ jT) ∧ (Cond.code (mX11_isSheet).1 (mX11_isSheet).2.1 (mX11_isSheet).2.2.1 (mX11_isSheet).2.2.2 ∈ jT) ∧ (Cond.constantLong RX11 317 (-1) ∈ jT) ∧ (Cond.constant RX11 319 (-1000000014) ∈ jT) ∧ (Cond.methodLink RL 165 yX11_mark ∈ jT) ∧ (Cond.instanceMethod yX11_mark ∈ jT) ∧ (Cond.selects RX11 yX11_mark yX11_mark ∈ jT) ∧ (Cond.code (mX11_mark).1 (mX11_mark).2.1 (mX11_mark).2.2.1 (mX11_mark).2.2.2 ∈ jT) ∧ (Cond.constant RX11 320 (-1000000011) ∈ jT) ∧ (Cond.constant RX11 321 (-1000000013) ∈ jT) ∧ (Cond.constantLong RX11 322 (-99999) ∈ jT) ∧ (Cond.constantLong RX11 324 99999 ∈ jT) ∧ (Cond.methodLink RL 169 yX11_pour ∈ jT) ∧ (Cond.instanceMethod yX11_pour ∈ jT) ∧ kws (tables_1_7.drop 160) := kw_g kw7_9.2.2.2.2.2.2.2.2.2.2.2.2.2.2.2 rfl fun h => kw_g h rfl fun h => kw_g h rfl fun h => kw_g h rfl fun h => kw_g h rfl fun h => kw_g h rfl fun h => kw_g h rfl fun h => kw_g h rfl fun h => kw_g h rfl fun h => kw_g h rfl fun h => kw_g h rfl fun h => kw_g h rfl fun h => kw_g h rfl fun h => kw_g h rfl fun h => kw_g h rfl fun h => kw_g h rfl fun h => h
theorem jwO_X11_sheet : Cond.code (mX11_sheet).1 (mX11_sheet).2.1 (mX11_sheet).2.2.1 (mX11_sheet).2.2.2 ∈ jT := kw7_10.1
theorem jwM_X11_314 : Cond.methodLink RX11 314 yX11_isSheet ∈ jT := kw7_10.2.1
theorem jwS_X11_isSheet : Cond.static yX11_isSheet ∈ jT := kw7_10.2.2.1
theorem jwO_X11_isSheet : Cond.code (mX11_isSheet).1 (mX11_isSheet).2.1 (mX11_isSheet).2.2.1 (mX11_isSheet).2.2.2 ∈ jT := kw7_10.2.2.2.1
theorem jwL_X11_317 : Cond.constantLong RX11 317 (-1) ∈ jT := kw7_10.2.2.2.2.1
theorem jwC_X11_319 : Cond.constant RX11 319 (-1000000014) ∈ jT := kw7_10.2.2.2.2.2.1
theorem jwM_L_165 : Cond.methodLink RL 165 yX11_mark ∈ jT := kw7_10.2.2.2.2.2.2.1
theorem jwN_X11_mark : Cond.instanceMethod yX11_mark ∈ jT := kw7_10.2.2.2.2.2.2.2.1
theorem jwX_X11_mark : Cond.selects RX11 yX11_mark yX11_mark ∈ jT := kw7_10.2.2.2.2.2.2.2.2.1
theorem jwO_X11_mark : Cond.code (mX11_mark).1 (mX11_mark).2.1 (mX11_mark).2.2.1 (mX11_mark).2.2.2 ∈ jT := kw7_10.2.2.2.2.2.2.2.2.2.1
theorem jwC_X11_320 : Cond.constant RX11 320 (-1000000011) ∈ jT := kw7_10.2.2.2.2.2.2.2.2.2.2.1
theorem jwC_X11_321 : Cond.constant RX11 321 (-1000000013) ∈ jT := kw7_10.2.2.2.2.2.2.2.2.2.2.2.1
theorem jwL_X11_322 : Cond.constantLong RX11 322 (-99999) ∈ jT := kw7_10.2.2.2.2.2.2.2.2.2.2.2.2.1
theorem jwL_X11_324 : Cond.constantLong RX11 324 99999 ∈ jT := kw7_10.2.2.2.2.2.2.2.2.2.2.2.2.2.1
theorem jwM_L_169 : Cond.methodLink RL 169 yX11_pour ∈ jT := kw7_10.2.2.2.2.2.2.2.2.2.2.2.2.2.2.1
theorem jwN_X11_pour : Cond.instanceMethod yX11_pour ∈ jT := kw7_10.2.2.2.2.2.2.2.2.2.2.2.2.2.2.2.1
set_option maxRecDepth 100000 in
theorem kw7_11 : (Cond.selects RX11 yX11_pour yX11_pour ∈ jT) ∧ (Cond.code (mX11_pour).1 (mX11_pour).2.1 (mX11_pour).2.2.1 (mX11_pour).2.2.2 ∈ jT) ∧ (Cond.methodLink RL 173 yX11_reads ∈ jT) ∧ (Cond.instanceMethod yX11_reads ∈ jT) ∧ (Cond.selects RX11 yX11_reads yX11_reads ∈ jT) ∧ (Cond.code (mX11_reads).1 (mX11_reads).2.1 (mX11_reads).2.2.1 (mX11_reads).2.2.2 ∈ jT) ∧ (Cond.methodLink RL 129 yX11_cut ∈ jT) ∧ (Cond.instanceMethod yX11_cut ∈ jT) ∧ (Cond.selects RX11 yX11_cut yX11_cut ∈ jT) ∧ (Cond.code (mX11_cut).1 (mX11_cut).2.1 (mX11_cut).2.2.1 (mX11_cut).2.2.2 ∈ jT) ∧ (Cond.methodLink RX11 326 yX11_off ∈ jT) ∧ (Cond.static yX11_off ∈ jT) ∧ (Cond.code (mX11_off).1 (mX11_off).2.1 (mX11_off).2.2.1 (mX11_off).2.2.2 ∈ jT) ∧ (Cond.methodLink RL 178 yX11_copy ∈ jT) ∧ (Cond.instanceMethod yX11_copy ∈ jT) ∧ (Cond.selects RX11 yX11_copy yX11_copy ∈ jT) ∧ kws (tables_1_7.drop 176) := kw_g kw7_10.2.2.2.2.2.2.2.2.2.2.2.2.2.2.2.2 rfl fun h => kw_g h rfl fun h => kw_g h rfl fun h => kw_g h rfl fun h => kw_g h rfl fun h => kw_g h rfl fun h => kw_g h rfl fun h => kw_g h rfl fun h => kw_g h rfl fun h => kw_g h rfl fun h => kw_g h rfl fun h => kw_g h rfl fun h => kw_g h rfl fun h => kw_g h rfl fun h => kw_g h rfl fun h => kw_g h rfl fun h => h
theorem jwX_X11_pour : Cond.selects RX11 yX11_pour yX11_pour ∈ jT := kw7_11.1
theorem jwO_X11_pour : Cond.code (mX11_pour).1 (mX11_pour).2.1 (mX11_pour).2.2.1 (mX11_pour).2.2.2 ∈ jT := kw7_11.2.1
theorem jwM_L_173 : Cond.methodLink RL 173 yX11_reads ∈ jT := kw7_11.2.2.1
theorem jwN_X11_reads : Cond.instanceMethod yX11_reads ∈ jT := kw7_11.2.2.2.1
theorem jwX_X11_reads : Cond.selects RX11 yX11_reads yX11_reads ∈ jT := kw7_11.2.2.2.2.1
theorem jwO_X11_reads : Cond.code (mX11_reads).1 (mX11_reads).2.1 (mX11_reads).2.2.1 (mX11_reads).2.2.2 ∈ jT := kw7_11.2.2.2.2.2.1
theorem jwM_L_129 : Cond.methodLink RL 129 yX11_cut ∈ jT := kw7_11.2.2.2.2.2.2.1
theorem jwN_X11_cut : Cond.instanceMethod yX11_cut ∈ jT := kw7_11.2.2.2.2.2.2.2.1
theorem jwX_X11_cut : Cond.selects RX11 yX11_cut yX11_cut ∈ jT := kw7_11.2.2.2.2.2.2.2.2.1
theorem jwO_X11_cut : Cond.code (mX11_cut).1 (mX11_cut).2.1 (mX11_cut).2.2.1 (mX11_cut).2.2.2 ∈ jT := kw7_11.2.2.2.2.2.2.2.2.2.1
theorem jwM_X11_326 : Cond.methodLink RX11 326 yX11_off ∈ jT := kw7_11.2.2.2.2.2.2.2.2.2.2.1
theorem jwS_X11_off : Cond.static yX11_off ∈ jT := kw7_11.2.2.2.2.2.2.2.2.2.2.2.1
theorem jwO_X11_off : Cond.code (mX11_off).1 (mX11_off).2.1 (mX11_off).2.2.1 (mX11_off).2.2.2 ∈ jT := kw7_11.2.2.2.2.2.2.2.2.2.2.2.2.1
theorem jwM_L_178 : Cond.methodLink RL 178 yX11_copy ∈ jT := kw7_11.2.2.2.2.2.2.2.2.2.2.2.2.2.1
theorem jwN_X11_copy : Cond.instanceMethod yX11_copy ∈ jT := kw7_11.2.2.2.2.2.2.2.2.2.2.2.2.2.2.1
theorem jwX_X11_copy : Cond.selects RX11 yX11_copy yX11_copy ∈ jT := kw7_11.2.2.2.2.2.2.2.2.2.2.2.2.2.2.2.1
set_option maxRecDepth 100000 in
theorem kw7_12 : (Cond.code (mX11_copy).1 (mX11_copy).2.1 (mX11_copy).2.2.1 (mX11_copy).2.2.2 ∈ jT) ∧ (Cond.methodLink RL 182 yX11_lay ∈ jT) ∧ (Cond.instanceMethod yX11_lay ∈ jT) ∧ (Cond.selects RX11 yX11_lay yX11_lay ∈ jT) ∧ (Cond.code (mX11_lay).1 (mX11_lay).2.1 (mX11_lay).2.2.1 (mX11_lay).2.2.2 ∈ jT) ∧ (Cond.methodLink RX11 329 yX11_isSlot ∈ jT) ∧ (Cond.static yX11_isSlot ∈ jT) ∧ (Cond.code (mX11_isSlot).1 (mX11_isSlot).2.1 (mX11_isSlot).2.2.1 (mX11_isSlot).2.2.2 ∈ jT) ∧ (Cond.methodLink RL 186 yX11_ask ∈ jT) ∧ (Cond.instanceMethod yX11_ask ∈ jT) ∧ (Cond.selects RX11 yX11_ask yX11_ask ∈ jT) ∧ (Cond.code (mX11_ask).1 (mX11_ask).2.1 (mX11_ask).2.2.1 (mX11_ask).2.2.2 ∈ jT) ∧ (Cond.methodLink RL 190 yX11_item ∈ jT) ∧ (Cond.instanceMethod yX11_item ∈ jT) ∧ (Cond.selects RX11 yX11_item yX11_item ∈ jT) ∧ (Cond.code (mX11_item).1 (mX11_item).2.1 (mX11_item).2.2.1 (mX11_item).2.2.2 ∈ jT) ∧ kws (tables_1_7.drop 192) := kw_g kw7_11.2.2.2.2.2.2.2.2.2.2.2.2.2.2.2.2 rfl fun h => kw_g h rfl fun h => kw_g h rfl fun h => kw_g h rfl fun h => kw_g h rfl fun h => kw_g h rfl fun h => kw_g h rfl fun h => kw_g h rfl fun h => kw_g h rfl fun h => kw_g h rfl fun h => kw_g h rfl fun h => kw_g h rfl fun h => kw_g h rfl fun h => kw_g h rfl fun h => kw_g h rfl fun h => kw_g h rfl fun h => h
theorem jwO_X11_copy : Cond.code (mX11_copy).1 (mX11_copy).2.1 (mX11_copy).2.2.1 (mX11_copy).2.2.2 ∈ jT := kw7_12.1
theorem jwM_L_182 : Cond.methodLink RL 182 yX11_lay ∈ jT := kw7_12.2.1
theorem jwN_X11_lay : Cond.instanceMethod yX11_lay ∈ jT := kw7_12.2.2.1
theorem jwX_X11_lay : Cond.selects RX11 yX11_lay yX11_lay ∈ jT := kw7_12.2.2.2.1
theorem jwO_X11_lay : Cond.code (mX11_lay).1 (mX11_lay).2.1 (mX11_lay).2.2.1 (mX11_lay).2.2.2 ∈ jT := kw7_12.2.2.2.2.1
theorem jwM_X11_329 : Cond.methodLink RX11 329 yX11_isSlot ∈ jT := kw7_12.2.2.2.2.2.1
theorem jwS_X11_isSlot : Cond.static yX11_isSlot ∈ jT := kw7_12.2.2.2.2.2.2.1
theorem jwO_X11_isSlot : Cond.code (mX11_isSlot).1 (mX11_isSlot).2.1 (mX11_isSlot).2.2.1 (mX11_isSlot).2.2.2 ∈ jT := kw7_12.2.2.2.2.2.2.2.1
theorem jwM_L_186 : Cond.methodLink RL 186 yX11_ask ∈ jT := kw7_12.2.2.2.2.2.2.2.2.1
theorem jwN_X11_ask : Cond.instanceMethod yX11_ask ∈ jT := kw7_12.2.2.2.2.2.2.2.2.2.1
theorem jwX_X11_ask : Cond.selects RX11 yX11_ask yX11_ask ∈ jT := kw7_12.2.2.2.2.2.2.2.2.2.2.1
theorem jwO_X11_ask : Cond.code (mX11_ask).1 (mX11_ask).2.1 (mX11_ask).2.2.1 (mX11_ask).2.2.2 ∈ jT := kw7_12.2.2.2.2.2.2.2.2.2.2.2.1
theorem jwM_L_190 : Cond.methodLink RL 190 yX11_item ∈ jT := kw7_12.2.2.2.2.2.2.2.2.2.2.2.2.1
theorem jwN_X11_item : Cond.instanceMethod yX11_item ∈ jT := kw7_12.2.2.2.2.2.2.2.2.2.2.2.2.2.1
theorem jwX_X11_item : Cond.selects RX11 yX11_item yX11_item ∈ jT := kw7_12.2.2.2.2.2.2.2.2.2.2.2.2.2.2.1
theorem jwO_X11_item : Cond.code (mX11_item).1 (mX11_item).2.1 (mX11_item).2.2.1 (mX11_item).2.2.2 ∈ jT := kw7_12.2.2.2.2.2.2.2.2.2.2.2.2.2.2.2.1
set_option maxRecDepth 100000 in
theorem kw7_13 : (Cond.methodLink RL 194 yX11_rest ∈ jT) ∧ (Cond.instanceMethod yX11_rest ∈ jT) ∧ (Cond.selects RX11 yX11_rest yX11_rest ∈ jT) ∧ (Cond.code (mX11_rest).1 (mX11_rest).2.1 (mX11_rest).2.2.1 (mX11_rest).2.2.2 ∈ jT) ∧ (Cond.methodLink RL 198 yX11_tell ∈ jT) ∧ (Cond.instanceMethod yX11_tell ∈ jT) ∧ (Cond.selects RX11 yX11_tell yX11_tell ∈ jT) ∧ (Cond.code (mX11_tell).1 (mX11_tell).2.1 (mX11_tell).2.2.1 (mX11_tell).2.2.2 ∈ jT) ∧ (Cond.methodLink RL 202 yX11_check ∈ jT) ∧ (Cond.instanceMethod yX11_check ∈ jT) ∧ (Cond.selects RX11 yX11_check yX11_check ∈ jT) ∧ (Cond.code (mX11_check).1 (mX11_check).2.1 (mX11_check).2.2.1 (mX11_check).2.2.2 ∈ jT) ∧ (Cond.constantLong RX11 335 30 ∈ jT) ∧ (Cond.methodLink RX11 341 yX11_setAside ∈ jT) ∧ (Cond.instanceMethod yX11_setAside ∈ jT) ∧ kws (tables_1_7.drop 208) := kw_g kw7_12.2.2.2.2.2.2.2.2.2.2.2.2.2.2.2.2 rfl fun h => kw_g h rfl fun h => kw_g h rfl fun h => kw_g h rfl fun h => kw_g h rfl fun h => kw_g h rfl fun h => kw_g h rfl fun h => kw_g h rfl fun h => kw_g h rfl fun h => kw_g h rfl fun h => kw_g h rfl fun h => kw_g h rfl fun h => kw_g h rfl fun h => kw_g h rfl fun h => kw_s h fun h => kw_g h rfl fun h => h
theorem jwM_L_194 : Cond.methodLink RL 194 yX11_rest ∈ jT := kw7_13.1
theorem jwN_X11_rest : Cond.instanceMethod yX11_rest ∈ jT := kw7_13.2.1
theorem jwX_X11_rest : Cond.selects RX11 yX11_rest yX11_rest ∈ jT := kw7_13.2.2.1
theorem jwO_X11_rest : Cond.code (mX11_rest).1 (mX11_rest).2.1 (mX11_rest).2.2.1 (mX11_rest).2.2.2 ∈ jT := kw7_13.2.2.2.1
theorem jwM_L_198 : Cond.methodLink RL 198 yX11_tell ∈ jT := kw7_13.2.2.2.2.1
theorem jwN_X11_tell : Cond.instanceMethod yX11_tell ∈ jT := kw7_13.2.2.2.2.2.1
theorem jwX_X11_tell : Cond.selects RX11 yX11_tell yX11_tell ∈ jT := kw7_13.2.2.2.2.2.2.1
theorem jwO_X11_tell : Cond.code (mX11_tell).1 (mX11_tell).2.1 (mX11_tell).2.2.1 (mX11_tell).2.2.2 ∈ jT := kw7_13.2.2.2.2.2.2.2.1
theorem jwM_L_202 : Cond.methodLink RL 202 yX11_check ∈ jT := kw7_13.2.2.2.2.2.2.2.2.1
theorem jwN_X11_check : Cond.instanceMethod yX11_check ∈ jT := kw7_13.2.2.2.2.2.2.2.2.2.1
theorem jwX_X11_check : Cond.selects RX11 yX11_check yX11_check ∈ jT := kw7_13.2.2.2.2.2.2.2.2.2.2.1
theorem jwO_X11_check : Cond.code (mX11_check).1 (mX11_check).2.1 (mX11_check).2.2.1 (mX11_check).2.2.2 ∈ jT := kw7_13.2.2.2.2.2.2.2.2.2.2.2.1
theorem jwL_X11_335 : Cond.constantLong RX11 335 30 ∈ jT := kw7_13.2.2.2.2.2.2.2.2.2.2.2.2.1
theorem jwM_X11_341 : Cond.methodLink RX11 341 yX11_setAside ∈ jT := kw7_13.2.2.2.2.2.2.2.2.2.2.2.2.2.1
theorem jwN_X11_setAside : Cond.instanceMethod yX11_setAside ∈ jT := kw7_13.2.2.2.2.2.2.2.2.2.2.2.2.2.2.1
set_option maxRecDepth 100000 in
theorem kw7_14 : (Cond.code (mX11_setAside).1 (mX11_setAside).2.1 (mX11_setAside).2.2.1 (mX11_setAside).2.2.2 ∈ jT) ∧ (Cond.methodLink RX11 345 yX11_allOf ∈ jT) ∧ (Cond.instanceMethod yX11_allOf ∈ jT) ∧ (Cond.code (mX11_allOf).1 (mX11_allOf).2.1 (mX11_allOf).2.2.1 (mX11_allOf).2.2.2 ∈ jT) ∧ (Cond.methodLink RL 206 yX11_keep ∈ jT) ∧ (Cond.instanceMethod yX11_keep ∈ jT) ∧ (Cond.selects RX11 yX11_keep yX11_keep ∈ jT) ∧ (Cond.code (mX11_keep).1 (mX11_keep).2.1 (mX11_keep).2.2.1 (mX11_keep).2.2.2 ∈ jT) ∧ (Cond.methodLink RL 210 yX11_back ∈ jT) ∧ (Cond.instanceMethod yX11_back ∈ jT) ∧ (Cond.selects RX11 yX11_back yX11_back ∈ jT) ∧ (Cond.code (mX11_back).1 (mX11_back).2.1 (mX11_back).2.2.1 (mX11_back).2.2.2 ∈ jT) ∧ (Cond.methodLink RL 214 yX11_count ∈ jT) ∧ (Cond.instanceMethod yX11_count ∈ jT) ∧ (Cond.selects RX11 yX11_count yX11_count ∈ jT) ∧ kws (tables_1_7.drop 224) := kw_g kw7_13.2.2.2.2.2.2.2.2.2.2.2.2.2.2.2 rfl fun h => kw_g h rfl fun h => kw_s h fun h => kw_g h rfl fun h => kw_g h rfl fun h => kw_g h rfl fun h => kw_g h rfl fun h => kw_g h rfl fun h => kw_g h rfl fun h => kw_g h rfl fun h => kw_g h rfl fun h => kw_g h rfl fun h => kw_g h rfl fun h => kw_g h rfl fun h => kw_g h rfl fun h => kw_g h rfl fun h => h
theorem jwO_X11_setAside : Cond.code (mX11_setAside).1 (mX11_setAside).2.1 (mX11_setAside).2.2.1 (mX11_setAside).2.2.2 ∈ jT := kw7_14.1
theorem jwM_X11_345 : Cond.methodLink RX11 345 yX11_allOf ∈ jT := kw7_14.2.1
theorem jwN_X11_allOf : Cond.instanceMethod yX11_allOf ∈ jT := kw7_14.2.2.1
theorem jwO_X11_allOf : Cond.code (mX11_allOf).1 (mX11_allOf).2.1 (mX11_allOf).2.2.1 (mX11_allOf).2.2.2 ∈ jT := kw7_14.2.2.2.1
theorem jwM_L_206 : Cond.methodLink RL 206 yX11_keep ∈ jT := kw7_14.2.2.2.2.1
theorem jwN_X11_keep : Cond.instanceMethod yX11_keep ∈ jT := kw7_14.2.2.2.2.2.1
theorem jwX_X11_keep : Cond.selects RX11 yX11_keep yX11_keep ∈ jT := kw7_14.2.2.2.2.2.2.1
theorem jwO_X11_keep : Cond.code (mX11_keep).1 (mX11_keep).2.1 (mX11_keep).2.2.1 (mX11_keep).2.2.2 ∈ jT := kw7_14.2.2.2.2.2.2.2.1
theorem jwM_L_210 : Cond.methodLink RL 210 yX11_back ∈ jT := kw7_14.2.2.2.2.2.2.2.2.1
theorem jwN_X11_back : Cond.instanceMethod yX11_back ∈ jT := kw7_14.2.2.2.2.2.2.2.2.2.1
theorem jwX_X11_back : Cond.selects RX11 yX11_back yX11_back ∈ jT := kw7_14.2.2.2.2.2.2.2.2.2.2.1
theorem jwO_X11_back : Cond.code (mX11_back).1 (mX11_back).2.1 (mX11_back).2.2.1 (mX11_back).2.2.2 ∈ jT := kw7_14.2.2.2.2.2.2.2.2.2.2.2.1
theorem jwM_L_214 : Cond.methodLink RL 214 yX11_count ∈ jT := kw7_14.2.2.2.2.2.2.2.2.2.2.2.2.1
theorem jwN_X11_count : Cond.instanceMethod yX11_count ∈ jT := kw7_14.2.2.2.2.2.2.2.2.2.2.2.2.2.1
theorem jwX_X11_count : Cond.selects RX11 yX11_count yX11_count ∈ jT := kw7_14.2.2.2.2.2.2.2.2.2.2.2.2.2.2.1
set_option maxRecDepth 100000 in
theorem kw7_15 : (Cond.code (mX11_count).1 (mX11_count).2.1 (mX11_count).2.2.1 (mX11_count).2.2.2 ∈ jT) ∧ (Cond.fieldLink RJ0 9 RJ0 "value" "[B" ∈ jT) ∧ (Cond.fieldLink RJ0 15 RJ0 "coder" "B" ∈ jT) ∧ kws (tables_1_7.drop 227) := kw_g kw7_14.2.2.2.2.2.2.2.2.2.2.2.2.2.2.2 rfl fun h => kw_g h rfl fun h => kw_g h rfl fun h => h
theorem jwO_X11_count : Cond.code (mX11_count).1 (mX11_count).2.1 (mX11_count).2.2.1 (mX11_count).2.2.2 ∈ jT := kw7_15.1
theorem jwF_J0_9 : Cond.fieldLink RJ0 9 RJ0 "value" "[B" ∈ jT := kw7_15.2.1
theorem jwF_J0_15 : Cond.fieldLink RJ0 15 RJ0 "coder" "B" ∈ jT := kw7_15.2.2.1
set_option maxRecDepth 100000 in
theorem jwX_X4_measure : Cond.selects RX4 yX4_measure yX4_measure ∈ jT := jT_in (List.mem_append_left _ (List.mem_of_getElem? (i := 0) rfl)) rfl
set_option maxRecDepth 100000 in
theorem jwX_X0_draw : Cond.selects RX0 yX0_draw yX0_draw ∈ jT := jT_in (List.mem_append_left _ (List.mem_of_getElem? (i := 1) rfl)) rfl
set_option maxRecDepth 100000 in
theorem jwX_X5_goOn : Cond.selects RX5 yX5_goOn yX5_goOn ∈ jT := jT_in (List.mem_append_left _ (List.mem_of_getElem? (i := 2) rfl)) rfl
set_option maxRecDepth 100000 in
theorem jwX_X5_offer : Cond.selects RX5 yX5_offer yX5_offer ∈ jT := jT_in (List.mem_append_left _ (List.mem_of_getElem? (i := 3) rfl)) rfl
set_option maxRecDepth 100000 in
theorem jwX_X5_isBetter : Cond.selects RX5 yX5_isBetter yX5_isBetter ∈ jT := jT_in (List.mem_append_left _ (List.mem_of_getElem? (i := 4) rfl)) rfl
set_option maxRecDepth 100000 in
theorem jwX_X5_tryMaster : Cond.selects RX5 yX5_tryMaster yX5_tryMaster ∈ jT := jT_in (List.mem_append_left _ (List.mem_of_getElem? (i := 5) rfl)) rfl
set_option maxRecDepth 100000 in
theorem jwX_X5_keptOf : Cond.selects RX5 yX5_keptOf yX5_keptOf ∈ jT := jT_in (List.mem_append_left _ (List.mem_of_getElem? (i := 6) rfl)) rfl
set_option maxRecDepth 100000 in
theorem jwX_X5_daysTaken : Cond.selects RX5 yX5_daysTaken yX5_daysTaken ∈ jT := jT_in (List.mem_append_left _ (List.mem_of_getElem? (i := 7) rfl)) rfl
set_option maxRecDepth 100000 in
theorem jwX_X10_findSheet : Cond.selects RX10 yX10_findSheet yX10_findSheet ∈ jT := jT_in (List.mem_append_left _ (List.mem_of_getElem? (i := 8) rfl)) rfl
set_option maxRecDepth 100000 in
theorem jwX_X8_step : Cond.selects RX8 yX8_step yX8_step ∈ jT := jT_in (List.mem_append_left _ (List.mem_of_getElem? (i := 9) rfl)) rfl
set_option maxRecDepth 100000 in
theorem jwX_X8_byteAt : Cond.selects RX8 yX8_byteAt yX8_byteAt ∈ jT := jT_in (List.mem_append_left _ (List.mem_of_getElem? (i := 10) rfl)) rfl
set_option maxRecDepth 100000 in
theorem jwX_X8_sortAt : Cond.selects RX8 yX8_sortAt yX8_sortAt ∈ jT := jT_in (List.mem_append_left _ (List.mem_of_getElem? (i := 11) rfl)) rfl
set_option maxRecDepth 100000 in
theorem jwX_X8_keyInHand : Cond.selects RX8 yX8_keyInHand yX8_keyInHand ∈ jT := jT_in (List.mem_append_left _ (List.mem_of_getElem? (i := 12) rfl)) rfl
set_option maxRecDepth 100000 in
theorem jwX_X8_isWordInHand : Cond.selects RX8 yX8_isWordInHand yX8_isWordInHand ∈ jT := jT_in (List.mem_append_left _ (List.mem_of_getElem? (i := 13) rfl)) rfl
set_option maxRecDepth 100000 in
theorem jwX_X8_readsChain : Cond.selects RX8 yX8_readsChain yX8_readsChain ∈ jT := jT_in (List.mem_append_left _ (List.mem_of_getElem? (i := 14) rfl)) rfl
set_option maxRecDepth 100000 in
theorem jwX_X8_readsPiece : Cond.selects RX8 yX8_readsPiece yX8_readsPiece ∈ jT := jT_in (List.mem_append_left _ (List.mem_of_getElem? (i := 15) rfl)) rfl
set_option maxRecDepth 100000 in
theorem jwX_X8_readsOperand : Cond.selects RX8 yX8_readsOperand yX8_readsOperand ∈ jT := jT_in (List.mem_append_left _ (List.mem_of_getElem? (i := 16) rfl)) rfl
set_option maxRecDepth 100000 in
theorem jwX_X8_numberInHand : Cond.selects RX8 yX8_numberInHand yX8_numberInHand ∈ jT := jT_in (List.mem_append_left _ (List.mem_of_getElem? (i := 17) rfl)) rfl
set_option maxRecDepth 100000 in
theorem jwX_X8_nameInHand : Cond.selects RX8 yX8_nameInHand yX8_nameInHand ∈ jT := jT_in (List.mem_append_left _ (List.mem_of_getElem? (i := 18) rfl)) rfl
set_option maxRecDepth 100000 in
theorem jwX_X8_write : Cond.selects RX8 yX8_write yX8_write ∈ jT := jT_in (List.mem_append_left _ (List.mem_of_getElem? (i := 19) rfl)) rfl
set_option maxRecDepth 100000 in
theorem jwX_X8_isInHand : Cond.selects RX8 yX8_isInHand yX8_isInHand ∈ jT := jT_in (List.mem_append_left _ (List.mem_of_getElem? (i := 20) rfl)) rfl
set_option maxRecDepth 100000 in
theorem jwX_X8_levelInHand : Cond.selects RX8 yX8_levelInHand yX8_levelInHand ∈ jT := jT_in (List.mem_append_left _ (List.mem_of_getElem? (i := 21) rfl)) rfl
set_option maxRecDepth 100000 in
theorem jwX_X10_findSlot : Cond.selects RX10 yX10_findSlot yX10_findSlot ∈ jT := jT_in (List.mem_append_left _ (List.mem_of_getElem? (i := 22) rfl)) rfl
set_option maxRecDepth 100000 in
theorem jwX_X10_layMaster : Cond.selects RX10 yX10_layMaster yX10_layMaster ∈ jT := jT_in (List.mem_append_left _ (List.mem_of_getElem? (i := 23) rfl)) rfl
set_option maxRecDepth 100000 in
theorem jwX_X10_laySheet : Cond.selects RX10 yX10_laySheet yX10_laySheet ∈ jT := jT_in (List.mem_append_left _ (List.mem_of_getElem? (i := 24) rfl)) rfl
set_option maxRecDepth 100000 in
theorem jwX_X10_isWaiting : Cond.selects RX10 yX10_isWaiting yX10_isWaiting ∈ jT := jT_in (List.mem_append_left _ (List.mem_of_getElem? (i := 25) rfl)) rfl
set_option maxRecDepth 100000 in
theorem jwX_X11_comes : Cond.selects RX11 yX11_comes yX11_comes ∈ jT := jT_in (List.mem_append_left _ (List.mem_of_getElem? (i := 26) rfl)) rfl
set_option maxRecDepth 100000 in
theorem jwX_X11_isMaster : Cond.selects RX11 yX11_isMaster yX11_isMaster ∈ jT := jT_in (List.mem_append_left _ (List.mem_of_getElem? (i := 27) rfl)) rfl
set_option maxRecDepth 100000 in
theorem jwX_X11_of : Cond.selects RX11 yX11_of yX11_of ∈ jT := jT_in (List.mem_append_left _ (List.mem_of_getElem? (i := 28) rfl)) rfl
set_option maxRecDepth 100000 in
theorem jwX_X11_takes : Cond.selects RX11 yX11_takes yX11_takes ∈ jT := jT_in (List.mem_append_left _ (List.mem_of_getElem? (i := 29) rfl)) rfl
set_option maxRecDepth 100000 in
theorem jwX_X11_counts : Cond.selects RX11 yX11_counts yX11_counts ∈ jT := jT_in (List.mem_append_left _ (List.mem_of_getElem? (i := 30) rfl)) rfl
set_option maxRecDepth 100000 in
theorem jwX_X11_textAt : Cond.selects RX11 yX11_textAt yX11_textAt ∈ jT := jT_in (List.mem_append_left _ (List.mem_of_getElem? (i := 31) rfl)) rfl
set_option maxRecDepth 100000 in
theorem jwX_X11_worked : Cond.selects RX11 yX11_worked yX11_worked ∈ jT := jT_in (List.mem_append_left _ (List.mem_of_getElem? (i := 32) rfl)) rfl
set_option maxRecDepth 100000 in
theorem jwX_X11_worth : Cond.selects RX11 yX11_worth yX11_worth ∈ jT := jT_in (List.mem_append_left _ (List.mem_of_getElem? (i := 33) rfl)) rfl
set_option maxRecDepth 100000 in
theorem jwX_X11_teaches : Cond.selects RX11 yX11_teaches yX11_teaches ∈ jT := jT_in (List.mem_append_left _ (List.mem_of_getElem? (i := 34) rfl)) rfl
set_option maxRecDepth 100000 in
theorem jwX_X11_becomes : Cond.selects RX11 yX11_becomes yX11_becomes ∈ jT := jT_in (List.mem_append_left _ (List.mem_of_getElem? (i := 35) rfl)) rfl
set_option maxRecDepth 100000 in
theorem jwX_X11_findFar : Cond.selects RX11 yX11_findFar yX11_findFar ∈ jT := jT_in (List.mem_append_left _ (List.mem_of_getElem? (i := 36) rfl)) rfl
set_option maxRecDepth 100000 in
theorem jwX_X11_drawn : Cond.selects RX11 yX11_drawn yX11_drawn ∈ jT := jT_in (List.mem_append_left _ (List.mem_of_getElem? (i := 37) rfl)) rfl
set_option maxRecDepth 100000 in
theorem jwX_X11_doesKnow : Cond.selects RX11 yX11_doesKnow yX11_doesKnow ∈ jT := jT_in (List.mem_append_left _ (List.mem_of_getElem? (i := 38) rfl)) rfl
set_option maxRecDepth 100000 in
theorem jwX_X11_goesBy : Cond.selects RX11 yX11_goesBy yX11_goesBy ∈ jT := jT_in (List.mem_append_left _ (List.mem_of_getElem? (i := 39) rfl)) rfl
set_option maxRecDepth 100000 in
theorem jwX_X11_canLearn : Cond.selects RX11 yX11_canLearn yX11_canLearn ∈ jT := jT_in (List.mem_append_left _ (List.mem_of_getElem? (i := 40) rfl)) rfl
set_option maxRecDepth 100000 in
theorem jwX_X11_learns : Cond.selects RX11 yX11_learns yX11_learns ∈ jT := jT_in (List.mem_append_left _ (List.mem_of_getElem? (i := 41) rfl)) rfl
set_option maxRecDepth 100000 in
theorem jwX_X11_behindLesson : Cond.selects RX11 yX11_behindLesson yX11_behindLesson ∈ jT := jT_in (List.mem_append_left _ (List.mem_of_getElem? (i := 42) rfl)) rfl
set_option maxRecDepth 100000 in
theorem jwX_X11_uses : Cond.selects RX11 yX11_uses yX11_uses ∈ jT := jT_in (List.mem_append_left _ (List.mem_of_getElem? (i := 43) rfl)) rfl
set_option maxRecDepth 100000 in
theorem jwX_X11_can : Cond.selects RX11 yX11_can yX11_can ∈ jT := jT_in (List.mem_append_left _ (List.mem_of_getElem? (i := 44) rfl)) rfl
set_option maxRecDepth 100000 in
theorem jwX_X11_findSoonest : Cond.selects RX11 yX11_findSoonest yX11_findSoonest ∈ jT := jT_in (List.mem_append_left _ (List.mem_of_getElem? (i := 45) rfl)) rfl
set_option maxRecDepth 100000 in
theorem jwX_X11_laysBy : Cond.selects RX11 yX11_laysBy yX11_laysBy ∈ jT := jT_in (List.mem_append_left _ (List.mem_of_getElem? (i := 46) rfl)) rfl
set_option maxRecDepth 100000 in
theorem jwX_X11_goesWay : Cond.selects RX11 yX11_goesWay yX11_goesWay ∈ jT := jT_in (List.mem_append_left _ (List.mem_of_getElem? (i := 47) rfl)) rfl
set_option maxRecDepth 100000 in
theorem jwX_X11_laysBack : Cond.selects RX11 yX11_laysBack yX11_laysBack ∈ jT := jT_in (List.mem_append_left _ (List.mem_of_getElem? (i := 48) rfl)) rfl
set_option maxRecDepth 100000 in
theorem jwX_X11_areTogether : Cond.selects RX11 yX11_areTogether yX11_areTogether ∈ jT := jT_in (List.mem_append_left _ (List.mem_of_getElem? (i := 49) rfl)) rfl
set_option maxRecDepth 100000 in
theorem jwX_X11_taughtNow : Cond.selects RX11 yX11_taughtNow yX11_taughtNow ∈ jT := jT_in (List.mem_append_left _ (List.mem_of_getElem? (i := 50) rfl)) rfl
set_option maxRecDepth 100000 in
theorem jwX_X11_year : Cond.selects RX11 yX11_year yX11_year ∈ jT := jT_in (List.mem_append_left _ (List.mem_of_getElem? (i := 51) rfl)) rfl
set_option maxRecDepth 100000 in
theorem jwX_X11_farFrom : Cond.selects RX11 yX11_farFrom yX11_farFrom ∈ jT := jT_in (List.mem_append_left _ (List.mem_of_getElem? (i := 52) rfl)) rfl
set_option maxRecDepth 100000 in
theorem jwX_X11_parse : Cond.selects RX11 yX11_parse yX11_parse ∈ jT := jT_in (List.mem_append_left _ (List.mem_of_getElem? (i := 53) rfl)) rfl
set_option maxRecDepth 100000 in
theorem jwX_X11_nextToken : Cond.selects RX11 yX11_nextToken yX11_nextToken ∈ jT := jT_in (List.mem_append_left _ (List.mem_of_getElem? (i := 54) rfl)) rfl
set_option maxRecDepth 100000 in
theorem jwX_X11_isLetter : Cond.selects RX11 yX11_isLetter yX11_isLetter ∈ jT := jT_in (List.mem_append_left _ (List.mem_of_getElem? (i := 55) rfl)) rfl
set_option maxRecDepth 100000 in
theorem jwX_X11_isDigit : Cond.selects RX11 yX11_isDigit yX11_isDigit ∈ jT := jT_in (List.mem_append_left _ (List.mem_of_getElem? (i := 56) rfl)) rfl
set_option maxRecDepth 100000 in
theorem jwX_X11_key : Cond.selects RX11 yX11_key yX11_key ∈ jT := jT_in (List.mem_append_left _ (List.mem_of_getElem? (i := 57) rfl)) rfl
set_option maxRecDepth 100000 in
theorem jwX_X11_isWordAt : Cond.selects RX11 yX11_isWordAt yX11_isWordAt ∈ jT := jT_in (List.mem_append_left _ (List.mem_of_getElem? (i := 58) rfl)) rfl
set_option maxRecDepth 100000 in
theorem jwX_X11_either : Cond.selects RX11 yX11_either yX11_either ∈ jT := jT_in (List.mem_append_left _ (List.mem_of_getElem? (i := 59) rfl)) rfl
set_option maxRecDepth 100000 in
theorem jwX_X11_both : Cond.selects RX11 yX11_both yX11_both ∈ jT := jT_in (List.mem_append_left _ (List.mem_of_getElem? (i := 60) rfl)) rfl
set_option maxRecDepth 100000 in
theorem jwX_X11_test : Cond.selects RX11 yX11_test yX11_test ∈ jT := jT_in (List.mem_append_left _ (List.mem_of_getElem? (i := 61) rfl)) rfl
set_option maxRecDepth 100000 in
theorem jwX_X11_sum : Cond.selects RX11 yX11_sum yX11_sum ∈ jT := jT_in (List.mem_append_left _ (List.mem_of_getElem? (i := 62) rfl)) rfl
set_option maxRecDepth 100000 in
theorem jwX_X11_term : Cond.selects RX11 yX11_term yX11_term ∈ jT := jT_in (List.mem_append_left _ (List.mem_of_getElem? (i := 63) rfl)) rfl
set_option maxRecDepth 100000 in
theorem jwX_X11_part0 : Cond.selects RX11 yX11_part0 yX11_part0 ∈ jT := jT_in (List.mem_append_left _ (List.mem_of_getElem? (i := 64) rfl)) rfl
set_option maxRecDepth 100000 in
theorem jwX_X11_step : Cond.selects RX11 yX11_step yX11_step ∈ jT := jT_in (List.mem_append_left _ (List.mem_of_getElem? (i := 65) rfl)) rfl
set_option maxRecDepth 100000 in
theorem jwX_X11_isSign : Cond.selects RX11 yX11_isSign yX11_isSign ∈ jT := jT_in (List.mem_append_left _ (List.mem_of_getElem? (i := 66) rfl)) rfl
set_option maxRecDepth 100000 in
theorem jwX_X11_isText : Cond.selects RX11 yX11_isText yX11_isText ∈ jT := jT_in (List.mem_append_left _ (List.mem_of_getElem? (i := 67) rfl)) rfl
set_option maxRecDepth 100000 in
theorem jwX_X11_setAside : Cond.selects RX11 yX11_setAside yX11_setAside ∈ jT := jT_in (List.mem_append_left _ (List.mem_of_getElem? (i := 68) rfl)) rfl
set_option maxRecDepth 100000 in
theorem jwX_X11_allOf : Cond.selects RX11 yX11_allOf yX11_allOf ∈ jT := jT_in (List.mem_append_left _ (List.mem_of_getElem? (i := 69) rfl)) rfl
end
section
theorem jcw_0 : ∀ k, k < 3 → u_lay RX0 TX0 k ∈ jT := fun k hk => match k, hk with
  | 0, _ => jwY_X0_masters
  | 1, _ => jwY_X0_size
  | 2, _ => jwY_X0_z
  | n + 3, h => absurd h (by omega)
theorem jc_0 : jCl 0 (RX0, TX0, 3) tyX0 := ⟨rfl, fun w hw => by obtain ⟨k, hk, rfl⟩ := List.mem_map.mp hw; exact jcw_0 k (List.mem_range.mp hk), nmX0, tyX0_ok, by decide, by decide +kernel⟩
theorem jdv_0 : ∀ j, j < 3 → defaultValue (tyX0 j) = if jtR 0 j then .null else .int 0 := by decide +kernel
theorem jcw_1 : ∀ k, k < 7 → u_lay RX1 TX1 k ∈ jT := fun k hk => match k, hk with
  | 0, _ => jwY_X1_at
  | 1, _ => jwY_X1_knows
  | 2, _ => jwY_X1_coins
  | 3, _ => jwY_X1_forgets
  | 4, _ => jwY_X1_day
  | 5, _ => jwY_X1_from
  | 6, _ => jwY_X1_rested
  | n + 7, h => absurd h (by omega)
theorem jc_1 : jCl 1 (RX1, TX1, 7) tyX1 := ⟨rfl, fun w hw => by obtain ⟨k, hk, rfl⟩ := List.mem_map.mp hw; exact jcw_1 k (List.mem_range.mp hk), nmX1, tyX1_ok, by decide, by decide +kernel⟩
theorem jdv_1 : ∀ j, j < 7 → defaultValue (tyX1 j) = if jtR 1 j then .null else .int 0 := by decide +kernel
theorem jcw_2 : ∀ k, k < 7 → u_lay RX2 TX2 k ∈ jT := fun k hk => match k, hk with
  | 0, _ => jwY_X2_kind
  | 1, _ => jwY_X2_town
  | 2, _ => jwY_X2_gesture
  | 3, _ => jwY_X2_bars
  | 4, _ => jwY_X2_fee
  | 5, _ => jwY_X2_age
  | 6, _ => jwY_X2_dead
  | n + 7, h => absurd h (by omega)
theorem jc_2 : jCl 2 (RX2, TX2, 7) tyX2 := ⟨rfl, fun w hw => by obtain ⟨k, hk, rfl⟩ := List.mem_map.mp hw; exact jcw_2 k (List.mem_range.mp hk), nmX2, tyX2_ok, by decide, by decide +kernel⟩
theorem jdv_2 : ∀ j, j < 7 → defaultValue (tyX2 j) = if jtR 2 j then .null else .int 0 := by decide +kernel
theorem jcw_3 : ∀ k, k < 7 → u_lay RX3 TX3 k ∈ jT := fun k hk => match k, hk with
  | 0, _ => jwY_X3_guild
  | 1, _ => jwY_X3_roads
  | 2, _ => jwY_X3_learner
  | 3, _ => jwY_X3_wished
  | 4, _ => jwY_X3_wishes
  | 5, _ => jwY_X3_texts
  | 6, _ => jwY_X3_textCount
  | n + 7, h => absurd h (by omega)
theorem jc_3 : jCl 3 (RX3, TX3, 7) tyX3 := ⟨rfl, fun w hw => by obtain ⟨k, hk, rfl⟩ := List.mem_map.mp hw; exact jcw_3 k (List.mem_range.mp hk), nmX3, tyX3_ok, by decide, by decide +kernel⟩
theorem jdv_3 : ∀ j, j < 7 → defaultValue (tyX3 j) = if jtR 3 j then .null else .int 0 := by decide +kernel
theorem jcw_4 : ∀ k, k < 2 → u_lay RX4 TX4 k ∈ jT := fun k hk => match k, hk with
  | 0, _ => jwY_X4_days
  | 1, _ => jwY_X4_ways
  | n + 2, h => absurd h (by omega)
theorem jc_4 : jCl 4 (RX4, TX4, 2) tyX4 := ⟨rfl, fun w hw => by obtain ⟨k, hk, rfl⟩ := List.mem_map.mp hw; exact jcw_4 k (List.mem_range.mp hk), nmX4, tyX4_ok, by decide, by decide +kernel⟩
theorem jdv_4 : ∀ j, j < 2 → defaultValue (tyX4 j) = if jtR 4 j then .null else .int 0 := by decide +kernel
theorem jcw_5 : ∀ k, k < 12 → u_lay RX5 TX5 k ∈ jT := fun k hk => match k, hk with
  | 0, _ => jwY_X5_town
  | 1, _ => jwY_X5_knows
  | 2, _ => jwY_X5_days
  | 3, _ => jwY_X5_paid
  | 4, _ => jwY_X5_first
  | 5, _ => jwY_X5_since
  | 6, _ => jwY_X5_daysKnown
  | 7, _ => jwY_X5_wanted
  | 8, _ => jwY_X5_taught
  | 9, _ => jwY_X5_bestDays
  | 10, _ => jwY_X5_bestCoins
  | 11, _ => jwY_X5_bestFirst
  | n + 12, h => absurd h (by omega)
theorem jc_5 : jCl 5 (RX5, TX5, 12) tyX5 := ⟨rfl, fun w hw => by obtain ⟨k, hk, rfl⟩ := List.mem_map.mp hw; exact jcw_5 k (List.mem_range.mp hk), nmX5, tyX5_ok, by decide, by decide +kernel⟩
theorem jdv_5 : ∀ j, j < 12 → defaultValue (tyX5 j) = if jtR 5 j then .null else .int 0 := by decide +kernel
theorem jcw_6 : ∀ k, k < 3 → u_lay RX6 TX6 k ∈ jT := fun k hk => match k, hk with
  | 0, _ => jwY_X6_sort
  | 1, _ => jwY_X6_size
  | 2, _ => jwY_X6_places
  | n + 3, h => absurd h (by omega)
theorem jc_6 : jCl 6 (RX6, TX6, 3) tyX6 := ⟨rfl, fun w hw => by obtain ⟨k, hk, rfl⟩ := List.mem_map.mp hw; exact jcw_6 k (List.mem_range.mp hk), nmX6, tyX6_ok, by decide, by decide +kernel⟩
theorem jdv_6 : ∀ j, j < 3 → defaultValue (tyX6 j) = if jtR 6 j then .null else .int 0 := by decide +kernel
theorem jcw_7 : ∀ k, k < 4 → u_lay RX7 TX7 k ∈ jT := fun k hk => match k, hk with
  | 0, _ => jwY_X7_thing
  | 1, _ => jwY_X7_master
  | 2, _ => jwY_X7_sheet
  | 3, _ => jwY_X7_number
  | n + 4, h => absurd h (by omega)
theorem jc_7 : jCl 7 (RX7, TX7, 4) tyX7 := ⟨rfl, fun w hw => by obtain ⟨k, hk, rfl⟩ := List.mem_map.mp hw; exact jcw_7 k (List.mem_range.mp hk), nmX7, tyX7_ok, by decide, by decide +kernel⟩
theorem jdv_7 : ∀ j, j < 4 → defaultValue (tyX7 j) = if jtR 7 j then .null else .int 0 := by decide +kernel
theorem jcw_8 : ∀ k, k < 10 → u_lay RX8 TX8 k ∈ jT := fun k hk => match k, hk with
  | 0, _ => jwY_X8_bytes
  | 1, _ => jwY_X8_size
  | 2, _ => jwY_X8_start
  | 3, _ => jwY_X8_end
  | 4, _ => jwY_X8_sort
  | 5, _ => jwY_X8_needsBlank
  | 6, _ => jwY_X8_key
  | 7, _ => jwY_X8_operands
  | 8, _ => jwY_X8_code
  | 9, _ => jwY_X8_codeSize
  | n + 10, h => absurd h (by omega)
theorem jc_8 : jCl 8 (RX8, TX8, 10) tyX8 := ⟨rfl, fun w hw => by obtain ⟨k, hk, rfl⟩ := List.mem_map.mp hw; exact jcw_8 k (List.mem_range.mp hk), nmX8, tyX8_ok, by decide, by decide +kernel⟩
theorem jdv_8 : ∀ j, j < 10 → defaultValue (tyX8 j) = if jtR 8 j then .null else .int 0 := by decide +kernel
theorem jcw_9 : ∀ k, k < 4 → u_lay RX9 TX9 k ∈ jT := fun k hk => match k, hk with
  | 0, _ => jwY_X9_key
  | 1, _ => jwY_X9_operands
  | 2, _ => jwY_X9_code
  | 3, _ => jwY_X9_stack
  | n + 4, h => absurd h (by omega)
theorem jc_9 : jCl 9 (RX9, TX9, 4) tyX9 := ⟨rfl, fun w hw => by obtain ⟨k, hk, rfl⟩ := List.mem_map.mp hw; exact jcw_9 k (List.mem_range.mp hk), nmX9, tyX9_ok, by decide, by decide +kernel⟩
theorem jdv_9 : ∀ j, j < 4 → defaultValue (tyX9 j) = if jtR 9 j then .null else .int 0 := by decide +kernel
theorem jcw_10 : ∀ k, k < 10 → u_lay RX10 TX10 k ∈ jT := fun k hk => match k, hk with
  | 0, _ => jwY_X10_realm
  | 1, _ => jwY_X10_image
  | 2, _ => jwY_X10_imageKept
  | 3, _ => jwY_X10_thought
  | 4, _ => jwY_X10_search
  | 5, _ => jwY_X10_tape
  | 6, _ => jwY_X10_sheets
  | 7, _ => jwY_X10_slots
  | 8, _ => jwY_X10_waiting
  | 9, _ => jwY_X10_waits
  | n + 10, h => absurd h (by omega)
theorem jc_10 : jCl 10 (RX10, TX10, 10) tyX10 := ⟨rfl, fun w hw => by obtain ⟨k, hk, rfl⟩ := List.mem_map.mp hw; exact jcw_10 k (List.mem_range.mp hk), nmX10, tyX10_ok, by decide, by decide +kernel⟩
theorem jdv_10 : ∀ j, j < 10 → defaultValue (tyX10 j) = if jtR 10 j then .null else .int 0 := by decide +kernel
theorem jcw_11 : ∀ k, k < 36 → u_lay RX11 TX11 k ∈ jT := fun k hk => match k, hk with
  | 0, _ => jwY_X11_s
  | 1, _ => jwY_X11_image
  | 2, _ => jwY_X11_aside
  | 3, _ => jwY_X11_hasImage
  | 4, _ => jwY_X11_tSort
  | 5, _ => jwY_X11_tSize
  | 6, _ => jwY_X11_tNumber
  | 7, _ => jwY_X11_held
  | 8, _ => jwY_X11_heldNumber
  | 9, _ => jwY_X11_heldWorth
  | 10, _ => jwY_X11_heldSize
  | 11, _ => jwY_X11_heldRow
  | 12, _ => jwY_X11_far
  | 13, _ => jwY_X11_close
  | 14, _ => jwY_X11_way
  | 15, _ => jwY_X11_soonDays
  | 16, _ => jwY_X11_soonCoins
  | 17, _ => jwY_X11_soonFirst
  | 18, _ => jwY_X11_tape
  | 19, _ => jwY_X11_taped
  | 20, _ => jwY_X11_begin
  | 21, _ => jwY_X11_behind
  | 22, _ => jwY_X11_token
  | 23, _ => jwY_X11_number
  | 24, _ => jwY_X11_letter
  | 25, _ => jwY_X11_deep
  | 26, _ => jwY_X11_turned
  | 27, _ => jwY_X11_laid
  | 28, _ => jwY_X11_laidAt
  | 29, _ => jwY_X11_said
  | 30, _ => jwY_X11_named
  | 31, _ => jwY_X11_pile
  | 32, _ => jwY_X11_carried
  | 33, _ => jwY_X11_waits
  | 34, _ => jwY_X11_waiting
  | 35, _ => jwY_X11_rowDue
  | n + 36, h => absurd h (by omega)
theorem jc_11 : jCl 11 (RX11, TX11, 36) tyX11 := ⟨rfl, fun w hw => by obtain ⟨k, hk, rfl⟩ := List.mem_map.mp hw; exact jcw_11 k (List.mem_range.mp hk), nmX11, tyX11_ok, by decide, by decide +kernel⟩
theorem jdv_11 : ∀ j, j < 36 → defaultValue (tyX11 j) = if jtR 11 j then .null else .int 0 := by decide +kernel
theorem jo_X0_init : jMo mX0_init 0 := ⟨jwO_X0_init, jwZ_X0, by decide +kernel, by decide +kernel, by decide +kernel, by decide⟩
theorem jo_X0_become : jMo mX0_become 1 := ⟨jwO_X0_become, jwZ_X0, by decide +kernel, by decide +kernel, by decide +kernel, by decide⟩
theorem jo_X0_find : jMo mX0_find 1 := ⟨jwO_X0_find, jwZ_X0, by decide +kernel, by decide +kernel, by decide +kernel, by decide⟩
theorem jo_X0_join : jMo mX0_join 4 := ⟨jwO_X0_join, jwZ_X0, by decide +kernel, by decide +kernel, by decide +kernel, by decide⟩
theorem jo_X0_joinByLot : jMo mX0_joinByLot 0 := ⟨jwO_X0_joinByLot, jwZ_X0, by decide +kernel, by decide +kernel, by decide +kernel, by decide⟩
theorem jo_X0_draw : jMo mX0_draw 0 := ⟨jwO_X0_draw, jwZ_X0, by decide +kernel, by decide +kernel, by decide +kernel, by decide⟩
theorem jo_X0_liveYear : jMo mX0_liveYear 0 := ⟨jwO_X0_liveYear, jwZ_X0, by decide +kernel, by decide +kernel, by decide +kernel, by decide⟩
theorem jo_X0_liveYears : jMo mX0_liveYears 1 := ⟨jwO_X0_liveYears, jwZ_X0, by decide +kernel, by decide +kernel, by decide +kernel, by decide⟩
theorem jo_X0_countDead : jMo mX0_countDead 0 := ⟨jwO_X0_countDead, jwZ_X0, by decide +kernel, by decide +kernel, by decide +kernel, by decide⟩
theorem jo_X0_agesTogether : jMo mX0_agesTogether 0 := ⟨jwO_X0_agesTogether, jwZ_X0, by decide +kernel, by decide +kernel, by decide +kernel, by decide⟩
theorem jo_X0_taught : jMo mX0_taught 0 := ⟨jwO_X0_taught, jwZ_X0, by decide +kernel, by decide +kernel, by decide +kernel, by decide⟩
theorem jo_X0_onlyTeacher : jMo mX0_onlyTeacher 1 := ⟨jwO_X0_onlyTeacher, jwZ_X0, by decide +kernel, by decide +kernel, by decide +kernel, by decide⟩
theorem jo_X0_canBringTogether : jMo mX0_canBringTogether 1 := ⟨jwO_X0_canBringTogether, jwZ_X0, by decide +kernel, by decide +kernel, by decide +kernel, by decide⟩
theorem jo_X0_leadsTo : jMo mX0_leadsTo 3 := ⟨jwO_X0_leadsTo, jwZ_X0, by decide +kernel, by decide +kernel, by decide +kernel, by decide⟩
theorem jo_X0_helps : jMo mX0_helps 3 := ⟨jwO_X0_helps, jwZ_X0, by decide +kernel, by decide +kernel, by decide +kernel, by decide⟩
theorem jo_X1_init : jMo mX1_init 0 := ⟨jwO_X1_init, jwZ_X1, by decide +kernel, by decide +kernel, by decide +kernel, by decide⟩
theorem jo_X1_become : jMo mX1_become 1 := ⟨jwO_X1_become, jwZ_X1, by decide +kernel, by decide +kernel, by decide +kernel, by decide⟩
theorem jo_X1_isAble : jMo mX1_isAble 1 := ⟨jwO_X1_isAble, jwZ_X1, by decide +kernel, by decide +kernel, by decide +kernel, by decide⟩
theorem jo_X1_passDays : jMo mX1_passDays 1 := ⟨jwO_X1_passDays, jwZ_X1, by decide +kernel, by decide +kernel, by decide +kernel, by decide⟩
theorem jo_X1_canLearnOf : jMo mX1_canLearnOf 1 := ⟨jwO_X1_canLearnOf, jwZ_X1, by decide +kernel, by decide +kernel, by decide +kernel, by decide⟩
theorem jo_X1_learnOf : jMo mX1_learnOf 3 := ⟨jwO_X1_learnOf, jwZ_X1, by decide +kernel, by decide +kernel, by decide +kernel, by decide⟩
theorem jo_X1_practise : jMo mX1_practise 1 := ⟨jwO_X1_practise, jwZ_X1, by decide +kernel, by decide +kernel, by decide +kernel, by decide⟩
theorem jo_X2_init : jMo mX2_init 0 := ⟨jwO_X2_init, jwZ_X2, by decide +kernel, by decide +kernel, by decide +kernel, by decide⟩
theorem jo_X2_begin : jMo mX2_begin 4 := ⟨jwO_X2_begin, jwZ_X2, by decide +kernel, by decide +kernel, by decide +kernel, by decide⟩
theorem jo_X2_become : jMo mX2_become 1 := ⟨jwO_X2_become, jwZ_X2, by decide +kernel, by decide +kernel, by decide +kernel, by decide⟩
theorem jo_X2_isOf : jMo mX2_isOf 1 := ⟨jwO_X2_isOf, jwZ_X2, by decide +kernel, by decide +kernel, by decide +kernel, by decide⟩
theorem jo_X2_daysFrom : jMo mX2_daysFrom 1 := ⟨jwO_X2_daysFrom, jwZ_X2, by decide +kernel, by decide +kernel, by decide +kernel, by decide⟩
theorem jo_X2_teaches : jMo mX2_teaches 1 := ⟨jwO_X2_teaches, jwZ_X2, by decide +kernel, by decide +kernel, by decide +kernel, by decide⟩
theorem jo_X2_unlearnt : jMo mX2_unlearnt 0 := ⟨jwO_X2_unlearnt, jwZ_X2, by decide +kernel, by decide +kernel, by decide +kernel, by decide⟩
theorem jo_X2_worth : jMo mX2_worth 0 := ⟨jwO_X2_worth, jwZ_X2, by decide +kernel, by decide +kernel, by decide +kernel, by decide⟩
theorem jo_X3_init : jMo mX3_init 0 := ⟨jwO_X3_init, jwZ_X3, by decide +kernel, by decide +kernel, by decide +kernel, by decide⟩
theorem jo_X3_become : jMo mX3_become 1 := ⟨jwO_X3_become, jwZ_X3, by decide +kernel, by decide +kernel, by decide +kernel, by decide⟩
theorem jo_X3_addWish : jMo mX3_addWish 1 := ⟨jwO_X3_addWish, jwZ_X3, by decide +kernel, by decide +kernel, by decide +kernel, by decide⟩
theorem jo_X3_wishedSet : jMo mX3_wishedSet 0 := ⟨jwO_X3_wishedSet, jwZ_X3, by decide +kernel, by decide +kernel, by decide +kernel, by decide⟩
theorem jo_X3_canMakeChair : jMo mX3_canMakeChair 0 := ⟨jwO_X3_canMakeChair, jwZ_X3, by decide +kernel, by decide +kernel, by decide +kernel, by decide⟩
theorem jo_X3_makeChair : jMo mX3_makeChair 0 := ⟨jwO_X3_makeChair, jwZ_X3, by decide +kernel, by decide +kernel, by decide +kernel, by decide⟩
theorem jo_X3_addText : jMo mX3_addText 1 := ⟨jwO_X3_addText, jwZ_X3, by decide +kernel, by decide +kernel, by decide +kernel, by decide⟩
theorem jo_X3_findText : jMo mX3_findText 1 := ⟨jwO_X3_findText, jwZ_X3, by decide +kernel, by decide +kernel, by decide +kernel, by decide⟩
theorem jo_X3_numberOfLaw : jMo mX3_numberOfLaw 1 := ⟨jwO_X3_numberOfLaw, jwZ_X3, by decide +kernel, by decide +kernel, by decide +kernel, by decide⟩
theorem jo_X3_daysTaken : jMo mX3_daysTaken 2 := ⟨jwO_X3_daysTaken, jwZ_X3, by decide +kernel, by decide +kernel, by decide +kernel, by decide⟩
theorem jo_X3_fameOf : jMo mX3_fameOf 1 := ⟨jwO_X3_fameOf, jwZ_X3, by decide +kernel, by decide +kernel, by decide +kernel, by decide⟩
theorem jo_X3_fineNow : jMo mX3_fineNow 0 := ⟨jwO_X3_fineNow, jwZ_X3, by decide +kernel, by decide +kernel, by decide +kernel, by decide⟩
theorem jo_X3_waysToMasters : jMo mX3_waysToMasters 1 := ⟨jwO_X3_waysToMasters, jwZ_X3, by decide +kernel, by decide +kernel, by decide +kernel, by decide⟩
theorem jo_X3_apart : jMo mX3_apart 2 := ⟨jwO_X3_apart, jwZ_X3, by decide +kernel, by decide +kernel, by decide +kernel, by decide⟩
theorem jo_X4_init : jMo mX4_init 0 := ⟨jwO_X4_init, jwZ_X4, by decide +kernel, by decide +kernel, by decide +kernel, by decide⟩
theorem jo_X4_become : jMo mX4_become 1 := ⟨jwO_X4_become, jwZ_X4, by decide +kernel, by decide +kernel, by decide +kernel, by decide⟩
theorem jo_X4_direct : jMo mX4_direct 2 := ⟨jwO_X4_direct, jwZ_X4, by decide +kernel, by decide +kernel, by decide +kernel, by decide⟩
theorem jo_X4_fewest : jMo mX4_fewest 2 := ⟨jwO_X4_fewest, jwZ_X4, by decide +kernel, by decide +kernel, by decide +kernel, by decide⟩
theorem jo_X4_build : jMo mX4_build 3 := ⟨jwO_X4_build, jwZ_X4, by decide +kernel, by decide +kernel, by decide +kernel, by decide⟩
theorem jo_X4_measure : jMo mX4_measure 0 := ⟨jwO_X4_measure, jwZ_X4, by decide +kernel, by decide +kernel, by decide +kernel, by decide⟩
theorem jo_X5_init : jMo mX5_init 0 := ⟨jwO_X5_init, jwZ_X5, by decide +kernel, by decide +kernel, by decide +kernel, by decide⟩
theorem jo_X5_finds : jMo mX5_finds 1 := ⟨jwO_X5_finds, jwZ_X5, by decide +kernel, by decide +kernel, by decide +kernel, by decide⟩
theorem jo_X5_goOn : jMo mX5_goOn 2 := ⟨jwO_X5_goOn, jwZ_X5, by decide +kernel, by decide +kernel, by decide +kernel, by decide⟩
theorem jo_X5_tryMaster : jMo mX5_tryMaster 4 := ⟨jwO_X5_tryMaster, jwZ_X5, by decide +kernel, by decide +kernel, by decide +kernel, by decide⟩
theorem jo_X5_keptOf : jMo mX5_keptOf 3 := ⟨jwO_X5_keptOf, jwZ_X5, by decide +kernel, by decide +kernel, by decide +kernel, by decide⟩
theorem jo_X5_daysTaken : jMo mX5_daysTaken 4 := ⟨jwO_X5_daysTaken, jwZ_X5, by decide +kernel, by decide +kernel, by decide +kernel, by decide⟩
theorem jo_X5_offer : jMo mX5_offer 1 := ⟨jwO_X5_offer, jwZ_X5, by decide +kernel, by decide +kernel, by decide +kernel, by decide⟩
theorem jo_X5_isBetter : jMo mX5_isBetter 3 := ⟨jwO_X5_isBetter, jwZ_X5, by decide +kernel, by decide +kernel, by decide +kernel, by decide⟩
theorem jo_X6_init : jMo mX6_init 0 := ⟨jwO_X6_init, jwZ_X6, by decide +kernel, by decide +kernel, by decide +kernel, by decide⟩
theorem jo_X6_begin : jMo mX6_begin 2 := ⟨jwO_X6_begin, jwZ_X6, by decide +kernel, by decide +kernel, by decide +kernel, by decide⟩
theorem jo_X6_become : jMo mX6_become 1 := ⟨jwO_X6_become, jwZ_X6, by decide +kernel, by decide +kernel, by decide +kernel, by decide⟩
theorem jo_X6_hasPlace : jMo mX6_hasPlace 1 := ⟨jwO_X6_hasPlace, jwZ_X6, by decide +kernel, by decide +kernel, by decide +kernel, by decide⟩
theorem jo_X6_hasPlaces : jMo mX6_hasPlaces 2 := ⟨jwO_X6_hasPlaces, jwZ_X6, by decide +kernel, by decide +kernel, by decide +kernel, by decide⟩
theorem jo_X6_isNumber : jMo mX6_isNumber 1 := ⟨jwO_X6_isNumber, jwZ_X6, by decide +kernel, by decide +kernel, by decide +kernel, by decide⟩
theorem jo_X7_init : jMo mX7_init 0 := ⟨jwO_X7_init, jwZ_X7, by decide +kernel, by decide +kernel, by decide +kernel, by decide⟩
theorem jo_X8_init : jMo mX8_init 0 := ⟨jwO_X8_init, jwZ_X8, by decide +kernel, by decide +kernel, by decide +kernel, by decide⟩
theorem jo_X8_addNumber : jMo mX8_addNumber 1 := ⟨jwO_X8_addNumber, jwZ_X8, by decide +kernel, by decide +kernel, by decide +kernel, by decide⟩
theorem jo_X8_isText : jMo mX8_isText 0 := ⟨jwO_X8_isText, jwZ_X8, by decide +kernel, by decide +kernel, by decide +kernel, by decide⟩
theorem jo_X8_textRead : jMo mX8_textRead 0 := ⟨jwO_X8_textRead, jwZ_X8, by decide +kernel, by decide +kernel, by decide +kernel, by decide⟩
theorem jo_X8_step : jMo mX8_step 0 := ⟨jwO_X8_step, jwZ_X8, by decide +kernel, by decide +kernel, by decide +kernel, by decide⟩
theorem jo_X8_byteAt : jMo mX8_byteAt 1 := ⟨jwO_X8_byteAt, jwZ_X8, by decide +kernel, by decide +kernel, by decide +kernel, by decide⟩
theorem jo_X8_sortAt : jMo mX8_sortAt 1 := ⟨jwO_X8_sortAt, jwZ_X8, by decide +kernel, by decide +kernel, by decide +kernel, by decide⟩
theorem jo_X8_isInHand : jMo mX8_isInHand 1 := ⟨jwO_X8_isInHand, jwZ_X8, by decide +kernel, by decide +kernel, by decide +kernel, by decide⟩
theorem jo_X8_keyInHand : jMo mX8_keyInHand 0 := ⟨jwO_X8_keyInHand, jwZ_X8, by decide +kernel, by decide +kernel, by decide +kernel, by decide⟩
theorem jo_X8_isWordInHand : jMo mX8_isWordInHand 1 := ⟨jwO_X8_isWordInHand, jwZ_X8, by decide +kernel, by decide +kernel, by decide +kernel, by decide⟩
theorem jo_X8_wordOf : jMo mX8_wordOf 1 := ⟨jwO_X8_wordOf, jwZ_X8, by decide +kernel, by decide +kernel, by decide +kernel, by decide⟩
theorem jo_X8_namesOf : jMo mX8_namesOf 1 := ⟨jwO_X8_namesOf, jwZ_X8, by decide +kernel, by decide +kernel, by decide +kernel, by decide⟩
theorem jo_X8_levelInHand : jMo mX8_levelInHand 0 := ⟨jwO_X8_levelInHand, jwZ_X8, by decide +kernel, by decide +kernel, by decide +kernel, by decide⟩
theorem jo_X8_readsChain : jMo mX8_readsChain 3 := ⟨jwO_X8_readsChain, jwZ_X8, by decide +kernel, by decide +kernel, by decide +kernel, by decide⟩
theorem jo_X8_readsPiece : jMo mX8_readsPiece 2 := ⟨jwO_X8_readsPiece, jwZ_X8, by decide +kernel, by decide +kernel, by decide +kernel, by decide⟩
theorem jo_X8_readsOperand : jMo mX8_readsOperand 0 := ⟨jwO_X8_readsOperand, jwZ_X8, by decide +kernel, by decide +kernel, by decide +kernel, by decide⟩
theorem jo_X8_numberInHand : jMo mX8_numberInHand 0 := ⟨jwO_X8_numberInHand, jwZ_X8, by decide +kernel, by decide +kernel, by decide +kernel, by decide⟩
theorem jo_X8_nameInHand : jMo mX8_nameInHand 0 := ⟨jwO_X8_nameInHand, jwZ_X8, by decide +kernel, by decide +kernel, by decide +kernel, by decide⟩
theorem jo_X8_write : jMo mX8_write 1 := ⟨jwO_X8_write, jwZ_X8, by decide +kernel, by decide +kernel, by decide +kernel, by decide⟩
theorem jo_X9_init : jMo mX9_init 3 := ⟨jwO_X9_init, jwZ_X9, by decide +kernel, by decide +kernel, by decide +kernel, by decide⟩
theorem jo_X9_workOut : jMo mX9_workOut 3 := ⟨jwO_X9_workOut, jwZ_X9, by decide +kernel, by decide +kernel, by decide +kernel, by decide⟩
theorem jo_X9_valueOf : jMo mX9_valueOf 4 := ⟨jwO_X9_valueOf, jwZ_X9, by decide +kernel, by decide +kernel, by decide +kernel, by decide⟩
theorem jo_X9_joined : jMo mX9_joined 3 := ⟨jwO_X9_joined, jwZ_X9, by decide +kernel, by decide +kernel, by decide +kernel, by decide⟩
theorem jo_X10_init : jMo mX10_init 0 := ⟨jwO_X10_init, jwZ_X10, by decide +kernel, by decide +kernel, by decide +kernel, by decide⟩
theorem jo_X10_master : jMo mX10_master 4 := ⟨jwO_X10_master, jwZ_X10, by decide +kernel, by decide +kernel, by decide +kernel, by decide⟩
theorem jo_X10_told : jMo mX10_told 2 := ⟨jwO_X10_told, jwZ_X10, by decide +kernel, by decide +kernel, by decide +kernel, by decide⟩
theorem jo_X10_as : jMo mX10_as 2 := ⟨jwO_X10_as, jwZ_X10, by decide +kernel, by decide +kernel, by decide +kernel, by decide⟩
theorem jo_X10_turns : jMo mX10_turns 2 := ⟨jwO_X10_turns, jwZ_X10, by decide +kernel, by decide +kernel, by decide +kernel, by decide⟩
theorem jo_X10_set : jMo mX10_set 3 := ⟨jwO_X10_set, jwZ_X10, by decide +kernel, by decide +kernel, by decide +kernel, by decide⟩
theorem jo_X10_setFee : jMo mX10_setFee 2 := ⟨jwO_X10_setFee, jwZ_X10, by decide +kernel, by decide +kernel, by decide +kernel, by decide⟩
theorem jo_X10_setAge : jMo mX10_setAge 2 := ⟨jwO_X10_setAge, jwZ_X10, by decide +kernel, by decide +kernel, by decide +kernel, by decide⟩
theorem jo_X10_setDead : jMo mX10_setDead 2 := ⟨jwO_X10_setDead, jwZ_X10, by decide +kernel, by decide +kernel, by decide +kernel, by decide⟩
theorem jo_X10_bars : jMo mX10_bars 3 := ⟨jwO_X10_bars, jwZ_X10, by decide +kernel, by decide +kernel, by decide +kernel, by decide⟩
theorem jo_X10_road : jMo mX10_road 3 := ⟨jwO_X10_road, jwZ_X10, by decide +kernel, by decide +kernel, by decide +kernel, by decide⟩
theorem jo_X10_far : jMo mX10_far 2 := ⟨jwO_X10_far, jwZ_X10, by decide +kernel, by decide +kernel, by decide +kernel, by decide⟩
theorem jo_X10_deal : jMo mX10_deal 1 := ⟨jwO_X10_deal, jwZ_X10, by decide +kernel, by decide +kernel, by decide +kernel, by decide⟩
theorem jo_X10_seed : jMo mX10_seed 1 := ⟨jwO_X10_seed, jwZ_X10, by decide +kernel, by decide +kernel, by decide +kernel, by decide⟩
theorem jo_X10_apprentice : jMo mX10_apprentice 1 := ⟨jwO_X10_apprentice, jwZ_X10, by decide +kernel, by decide +kernel, by decide +kernel, by decide⟩
theorem jo_X10_has : jMo mX10_has 2 := ⟨jwO_X10_has, jwZ_X10, by decide +kernel, by decide +kernel, by decide +kernel, by decide⟩
theorem jo_X10_knows : jMo mX10_knows 2 := ⟨jwO_X10_knows, jwZ_X10, by decide +kernel, by decide +kernel, by decide +kernel, by decide⟩
theorem jo_X10_go : jMo mX10_go 1 := ⟨jwO_X10_go, jwZ_X10, by decide +kernel, by decide +kernel, by decide +kernel, by decide⟩
theorem jo_X10_learn : jMo mX10_learn 1 := ⟨jwO_X10_learn, jwZ_X10, by decide +kernel, by decide +kernel, by decide +kernel, by decide⟩
theorem jo_X10_use : jMo mX10_use 1 := ⟨jwO_X10_use, jwZ_X10, by decide +kernel, by decide +kernel, by decide +kernel, by decide⟩
theorem jo_X10_rests : jMo mX10_rests 1 := ⟨jwO_X10_rests, jwZ_X10, by decide +kernel, by decide +kernel, by decide +kernel, by decide⟩
theorem jo_X10_wants : jMo mX10_wants 1 := ⟨jwO_X10_wants, jwZ_X10, by decide +kernel, by decide +kernel, by decide +kernel, by decide⟩
theorem jo_X10_clear : jMo mX10_clear 0 := ⟨jwO_X10_clear, jwZ_X10, by decide +kernel, by decide +kernel, by decide +kernel, by decide⟩
theorem jo_X10_made : jMo mX10_made 0 := ⟨jwO_X10_made, jwZ_X10, by decide +kernel, by decide +kernel, by decide +kernel, by decide⟩
theorem jo_X10_soonest : jMo mX10_soonest 1 := ⟨jwO_X10_soonest, jwZ_X10, by decide +kernel, by decide +kernel, by decide +kernel, by decide⟩
theorem jo_X10_together : jMo mX10_together 1 := ⟨jwO_X10_together, jwZ_X10, by decide +kernel, by decide +kernel, by decide +kernel, by decide⟩
theorem jo_X10_never : jMo mX10_never 0 := ⟨jwO_X10_never, jwZ_X10, by decide +kernel, by decide +kernel, by decide +kernel, by decide⟩
theorem jo_X10_last : jMo mX10_last 1 := ⟨jwO_X10_last, jwZ_X10, by decide +kernel, by decide +kernel, by decide +kernel, by decide⟩
theorem jo_X10_years : jMo mX10_years 1 := ⟨jwO_X10_years, jwZ_X10, by decide +kernel, by decide +kernel, by decide +kernel, by decide⟩
theorem jo_X10_gone : jMo mX10_gone 1 := ⟨jwO_X10_gone, jwZ_X10, by decide +kernel, by decide +kernel, by decide +kernel, by decide⟩
theorem jo_X10_fresh : jMo mX10_fresh 0 := ⟨jwO_X10_fresh, jwZ_X10, by decide +kernel, by decide +kernel, by decide +kernel, by decide⟩
theorem jo_X10_cut : jMo mX10_cut 2 := ⟨jwO_X10_cut, jwZ_X10, by decide +kernel, by decide +kernel, by decide +kernel, by decide⟩
theorem jo_X10_fame : jMo mX10_fame 1 := ⟨jwO_X10_fame, jwZ_X10, by decide +kernel, by decide +kernel, by decide +kernel, by decide⟩
theorem jo_X10_fine : jMo mX10_fine 0 := ⟨jwO_X10_fine, jwZ_X10, by decide +kernel, by decide +kernel, by decide +kernel, by decide⟩
theorem jo_X10_feed : jMo mX10_feed 3 := ⟨jwO_X10_feed, jwZ_X10, by decide +kernel, by decide +kernel, by decide +kernel, by decide⟩
theorem jo_X10_trim : jMo mX10_trim 1 := ⟨jwO_X10_trim, jwZ_X10, by decide +kernel, by decide +kernel, by decide +kernel, by decide⟩
theorem jo_X10_text : jMo mX10_text 0 := ⟨jwO_X10_text, jwZ_X10, by decide +kernel, by decide +kernel, by decide +kernel, by decide⟩
theorem jo_X10_textTold : jMo mX10_textTold 2 := ⟨jwO_X10_textTold, jwZ_X10, by decide +kernel, by decide +kernel, by decide +kernel, by decide⟩
theorem jo_X10_why : jMo mX10_why 1 := ⟨jwO_X10_why, jwZ_X10, by decide +kernel, by decide +kernel, by decide +kernel, by decide⟩
theorem jo_X10_sheet : jMo mX10_sheet 3 := ⟨jwO_X10_sheet, jwZ_X10, by decide +kernel, by decide +kernel, by decide +kernel, by decide⟩
theorem jo_X10_mark : jMo mX10_mark 3 := ⟨jwO_X10_mark, jwZ_X10, by decide +kernel, by decide +kernel, by decide +kernel, by decide⟩
theorem jo_X10_pour : jMo mX10_pour 1 := ⟨jwO_X10_pour, jwZ_X10, by decide +kernel, by decide +kernel, by decide +kernel, by decide⟩
theorem jo_X10_reads : jMo mX10_reads 1 := ⟨jwO_X10_reads, jwZ_X10, by decide +kernel, by decide +kernel, by decide +kernel, by decide⟩
theorem jo_X10_copy : jMo mX10_copy 5 := ⟨jwO_X10_copy, jwZ_X10, by decide +kernel, by decide +kernel, by decide +kernel, by decide⟩
theorem jo_X10_lay : jMo mX10_lay 3 := ⟨jwO_X10_lay, jwZ_X10, by decide +kernel, by decide +kernel, by decide +kernel, by decide⟩
theorem jo_X10_layMaster : jMo mX10_layMaster 2 := ⟨jwO_X10_layMaster, jwZ_X10, by decide +kernel, by decide +kernel, by decide +kernel, by decide⟩
theorem jo_X10_laySheet : jMo mX10_laySheet 2 := ⟨jwO_X10_laySheet, jwZ_X10, by decide +kernel, by decide +kernel, by decide +kernel, by decide⟩
theorem jo_X10_ask : jMo mX10_ask 2 := ⟨jwO_X10_ask, jwZ_X10, by decide +kernel, by decide +kernel, by decide +kernel, by decide⟩
theorem jo_X10_item : jMo mX10_item 2 := ⟨jwO_X10_item, jwZ_X10, by decide +kernel, by decide +kernel, by decide +kernel, by decide⟩
theorem jo_X10_rest : jMo mX10_rest 2 := ⟨jwO_X10_rest, jwZ_X10, by decide +kernel, by decide +kernel, by decide +kernel, by decide⟩
theorem jo_X10_tell : jMo mX10_tell 1 := ⟨jwO_X10_tell, jwZ_X10, by decide +kernel, by decide +kernel, by decide +kernel, by decide⟩
theorem jo_X10_check : jMo mX10_check 1 := ⟨jwO_X10_check, jwZ_X10, by decide +kernel, by decide +kernel, by decide +kernel, by decide⟩
theorem jo_X10_isWaiting : jMo mX10_isWaiting 3 := ⟨jwO_X10_isWaiting, jwZ_X10, by decide +kernel, by decide +kernel, by decide +kernel, by decide⟩
theorem jo_X10_keep : jMo mX10_keep 0 := ⟨jwO_X10_keep, jwZ_X10, by decide +kernel, by decide +kernel, by decide +kernel, by decide⟩
theorem jo_X10_back : jMo mX10_back 0 := ⟨jwO_X10_back, jwZ_X10, by decide +kernel, by decide +kernel, by decide +kernel, by decide⟩
theorem jo_X10_count : jMo mX10_count 1 := ⟨jwO_X10_count, jwZ_X10, by decide +kernel, by decide +kernel, by decide +kernel, by decide⟩
theorem jo_X10_findSheet : jMo mX10_findSheet 1 := ⟨jwO_X10_findSheet, jwZ_X10, by decide +kernel, by decide +kernel, by decide +kernel, by decide⟩
theorem jo_X10_findSlot : jMo mX10_findSlot 1 := ⟨jwO_X10_findSlot, jwZ_X10, by decide +kernel, by decide +kernel, by decide +kernel, by decide⟩
theorem jo_X10_within : jMo mX10_within 2 := ⟨jwO_X10_within, jwZ_X10, by decide +kernel, by decide +kernel, by decide +kernel, by decide⟩
theorem jo_X11_init : jMo mX11_init 0 := ⟨jwO_X11_init, jwZ_X11, by decide +kernel, by decide +kernel, by decide +kernel, by decide⟩
theorem jo_X11_isIn : jMo mX11_isIn 3 := ⟨jwO_X11_isIn, jwZ_X11, by decide +kernel, by decide +kernel, by decide +kernel, by decide⟩
theorem jo_X11_orNone : jMo mX11_orNone 1 := ⟨jwO_X11_orNone, jwZ_X11, by decide +kernel, by decide +kernel, by decide +kernel, by decide⟩
theorem jo_X11_within : jMo mX11_within 3 := ⟨jwO_X11_within, jwZ_X11, by decide +kernel, by decide +kernel, by decide +kernel, by decide⟩
theorem jo_X11_off : jMo mX11_off 2 := ⟨jwO_X11_off, jwZ_X11, by decide +kernel, by decide +kernel, by decide +kernel, by decide⟩
theorem jo_X11_manyIn : jMo mX11_manyIn 1 := ⟨jwO_X11_manyIn, jwZ_X11, by decide +kernel, by decide +kernel, by decide +kernel, by decide⟩
theorem jo_X11_becomes : jMo mX11_becomes 2 := ⟨jwO_X11_becomes, jwZ_X11, by decide +kernel, by decide +kernel, by decide +kernel, by decide⟩
theorem jo_X11_textAt : jMo mX11_textAt 1 := ⟨jwO_X11_textAt, jwZ_X11, by decide +kernel, by decide +kernel, by decide +kernel, by decide⟩
theorem jo_X11_of : jMo mX11_of 2 := ⟨jwO_X11_of, jwZ_X11, by decide +kernel, by decide +kernel, by decide +kernel, by decide⟩
theorem jo_X11_isMaster : jMo mX11_isMaster 1 := ⟨jwO_X11_isMaster, jwZ_X11, by decide +kernel, by decide +kernel, by decide +kernel, by decide⟩
theorem jo_X11_isGesture : jMo mX11_isGesture 1 := ⟨jwO_X11_isGesture, jwZ_X11, by decide +kernel, by decide +kernel, by decide +kernel, by decide⟩
theorem jo_X11_isTown : jMo mX11_isTown 1 := ⟨jwO_X11_isTown, jwZ_X11, by decide +kernel, by decide +kernel, by decide +kernel, by decide⟩
theorem jo_X11_isText : jMo mX11_isText 1 := ⟨jwO_X11_isText, jwZ_X11, by decide +kernel, by decide +kernel, by decide +kernel, by decide⟩
theorem jo_X11_drawn : jMo mX11_drawn 0 := ⟨jwO_X11_drawn, jwZ_X11, by decide +kernel, by decide +kernel, by decide +kernel, by decide⟩
theorem jo_X11_comes : jMo mX11_comes 4 := ⟨jwO_X11_comes, jwZ_X11, by decide +kernel, by decide +kernel, by decide +kernel, by decide⟩
theorem jo_X11_master : jMo mX11_master 4 := ⟨jwO_X11_master, jwZ_X11, by decide +kernel, by decide +kernel, by decide +kernel, by decide⟩
theorem jo_X11_takes : jMo mX11_takes 2 := ⟨jwO_X11_takes, jwZ_X11, by decide +kernel, by decide +kernel, by decide +kernel, by decide⟩
theorem jo_X11_teaches : jMo mX11_teaches 2 := ⟨jwO_X11_teaches, jwZ_X11, by decide +kernel, by decide +kernel, by decide +kernel, by decide⟩
theorem jo_X11_behindLesson : jMo mX11_behindLesson 2 := ⟨jwO_X11_behindLesson, jwZ_X11, by decide +kernel, by decide +kernel, by decide +kernel, by decide⟩
theorem jo_X11_worth : jMo mX11_worth 1 := ⟨jwO_X11_worth, jwZ_X11, by decide +kernel, by decide +kernel, by decide +kernel, by decide⟩
theorem jo_X11_told : jMo mX11_told 2 := ⟨jwO_X11_told, jwZ_X11, by decide +kernel, by decide +kernel, by decide +kernel, by decide⟩
theorem jo_X11_isOf : jMo mX11_isOf 2 := ⟨jwO_X11_isOf, jwZ_X11, by decide +kernel, by decide +kernel, by decide +kernel, by decide⟩
theorem jo_X11_as : jMo mX11_as 2 := ⟨jwO_X11_as, jwZ_X11, by decide +kernel, by decide +kernel, by decide +kernel, by decide⟩
theorem jo_X11_turns : jMo mX11_turns 2 := ⟨jwO_X11_turns, jwZ_X11, by decide +kernel, by decide +kernel, by decide +kernel, by decide⟩
theorem jo_X11_set : jMo mX11_set 3 := ⟨jwO_X11_set, jwZ_X11, by decide +kernel, by decide +kernel, by decide +kernel, by decide⟩
theorem jo_X11_bars : jMo mX11_bars 3 := ⟨jwO_X11_bars, jwZ_X11, by decide +kernel, by decide +kernel, by decide +kernel, by decide⟩
theorem jo_X11_road : jMo mX11_road 3 := ⟨jwO_X11_road, jwZ_X11, by decide +kernel, by decide +kernel, by decide +kernel, by decide⟩
theorem jo_X11_findFar : jMo mX11_findFar 0 := ⟨jwO_X11_findFar, jwZ_X11, by decide +kernel, by decide +kernel, by decide +kernel, by decide⟩
theorem jo_X11_far : jMo mX11_far 2 := ⟨jwO_X11_far, jwZ_X11, by decide +kernel, by decide +kernel, by decide +kernel, by decide⟩
theorem jo_X11_deal : jMo mX11_deal 1 := ⟨jwO_X11_deal, jwZ_X11, by decide +kernel, by decide +kernel, by decide +kernel, by decide⟩
theorem jo_X11_seed : jMo mX11_seed 1 := ⟨jwO_X11_seed, jwZ_X11, by decide +kernel, by decide +kernel, by decide +kernel, by decide⟩
theorem jo_X11_apprentice : jMo mX11_apprentice 1 := ⟨jwO_X11_apprentice, jwZ_X11, by decide +kernel, by decide +kernel, by decide +kernel, by decide⟩
theorem jo_X11_has : jMo mX11_has 2 := ⟨jwO_X11_has, jwZ_X11, by decide +kernel, by decide +kernel, by decide +kernel, by decide⟩
theorem jo_X11_doesKnow : jMo mX11_doesKnow 1 := ⟨jwO_X11_doesKnow, jwZ_X11, by decide +kernel, by decide +kernel, by decide +kernel, by decide⟩
theorem jo_X11_knows : jMo mX11_knows 2 := ⟨jwO_X11_knows, jwZ_X11, by decide +kernel, by decide +kernel, by decide +kernel, by decide⟩
theorem jo_X11_goesBy : jMo mX11_goesBy 1 := ⟨jwO_X11_goesBy, jwZ_X11, by decide +kernel, by decide +kernel, by decide +kernel, by decide⟩
theorem jo_X11_go : jMo mX11_go 1 := ⟨jwO_X11_go, jwZ_X11, by decide +kernel, by decide +kernel, by decide +kernel, by decide⟩
theorem jo_X11_canLearn : jMo mX11_canLearn 1 := ⟨jwO_X11_canLearn, jwZ_X11, by decide +kernel, by decide +kernel, by decide +kernel, by decide⟩
theorem jo_X11_learns : jMo mX11_learns 1 := ⟨jwO_X11_learns, jwZ_X11, by decide +kernel, by decide +kernel, by decide +kernel, by decide⟩
theorem jo_X11_learn : jMo mX11_learn 1 := ⟨jwO_X11_learn, jwZ_X11, by decide +kernel, by decide +kernel, by decide +kernel, by decide⟩
theorem jo_X11_uses : jMo mX11_uses 1 := ⟨jwO_X11_uses, jwZ_X11, by decide +kernel, by decide +kernel, by decide +kernel, by decide⟩
theorem jo_X11_use : jMo mX11_use 1 := ⟨jwO_X11_use, jwZ_X11, by decide +kernel, by decide +kernel, by decide +kernel, by decide⟩
theorem jo_X11_rests : jMo mX11_rests 1 := ⟨jwO_X11_rests, jwZ_X11, by decide +kernel, by decide +kernel, by decide +kernel, by decide⟩
theorem jo_X11_wants : jMo mX11_wants 1 := ⟨jwO_X11_wants, jwZ_X11, by decide +kernel, by decide +kernel, by decide +kernel, by decide⟩
theorem jo_X11_clear : jMo mX11_clear 0 := ⟨jwO_X11_clear, jwZ_X11, by decide +kernel, by decide +kernel, by decide +kernel, by decide⟩
theorem jo_X11_can : jMo mX11_can 0 := ⟨jwO_X11_can, jwZ_X11, by decide +kernel, by decide +kernel, by decide +kernel, by decide⟩
theorem jo_X11_made : jMo mX11_made 0 := ⟨jwO_X11_made, jwZ_X11, by decide +kernel, by decide +kernel, by decide +kernel, by decide⟩
theorem jo_X11_laysBy : jMo mX11_laysBy 0 := ⟨jwO_X11_laysBy, jwZ_X11, by decide +kernel, by decide +kernel, by decide +kernel, by decide⟩
theorem jo_X11_laysBack : jMo mX11_laysBack 0 := ⟨jwO_X11_laysBack, jwZ_X11, by decide +kernel, by decide +kernel, by decide +kernel, by decide⟩
theorem jo_X11_goesWay : jMo mX11_goesWay 0 := ⟨jwO_X11_goesWay, jwZ_X11, by decide +kernel, by decide +kernel, by decide +kernel, by decide⟩
theorem jo_X11_findSoonest : jMo mX11_findSoonest 0 := ⟨jwO_X11_findSoonest, jwZ_X11, by decide +kernel, by decide +kernel, by decide +kernel, by decide⟩
theorem jo_X11_soonest : jMo mX11_soonest 1 := ⟨jwO_X11_soonest, jwZ_X11, by decide +kernel, by decide +kernel, by decide +kernel, by decide⟩
theorem jo_X11_areTogether : jMo mX11_areTogether 1 := ⟨jwO_X11_areTogether, jwZ_X11, by decide +kernel, by decide +kernel, by decide +kernel, by decide⟩
theorem jo_X11_together : jMo mX11_together 1 := ⟨jwO_X11_together, jwZ_X11, by decide +kernel, by decide +kernel, by decide +kernel, by decide⟩
theorem jo_X11_taughtNow : jMo mX11_taughtNow 0 := ⟨jwO_X11_taughtNow, jwZ_X11, by decide +kernel, by decide +kernel, by decide +kernel, by decide⟩
theorem jo_X11_never : jMo mX11_never 0 := ⟨jwO_X11_never, jwZ_X11, by decide +kernel, by decide +kernel, by decide +kernel, by decide⟩
theorem jo_X11_last : jMo mX11_last 1 := ⟨jwO_X11_last, jwZ_X11, by decide +kernel, by decide +kernel, by decide +kernel, by decide⟩
theorem jo_X11_year : jMo mX11_year 0 := ⟨jwO_X11_year, jwZ_X11, by decide +kernel, by decide +kernel, by decide +kernel, by decide⟩
theorem jo_X11_years : jMo mX11_years 1 := ⟨jwO_X11_years, jwZ_X11, by decide +kernel, by decide +kernel, by decide +kernel, by decide⟩
theorem jo_X11_gone : jMo mX11_gone 1 := ⟨jwO_X11_gone, jwZ_X11, by decide +kernel, by decide +kernel, by decide +kernel, by decide⟩
theorem jo_X11_farFrom : jMo mX11_farFrom 1 := ⟨jwO_X11_farFrom, jwZ_X11, by decide +kernel, by decide +kernel, by decide +kernel, by decide⟩
theorem jo_X11_fresh : jMo mX11_fresh 0 := ⟨jwO_X11_fresh, jwZ_X11, by decide +kernel, by decide +kernel, by decide +kernel, by decide⟩
theorem jo_X11_fame : jMo mX11_fame 1 := ⟨jwO_X11_fame, jwZ_X11, by decide +kernel, by decide +kernel, by decide +kernel, by decide⟩
theorem jo_X11_fine : jMo mX11_fine 0 := ⟨jwO_X11_fine, jwZ_X11, by decide +kernel, by decide +kernel, by decide +kernel, by decide⟩
theorem jo_X11_feed : jMo mX11_feed 3 := ⟨jwO_X11_feed, jwZ_X11, by decide +kernel, by decide +kernel, by decide +kernel, by decide⟩
theorem jo_X11_trim : jMo mX11_trim 1 := ⟨jwO_X11_trim, jwZ_X11, by decide +kernel, by decide +kernel, by decide +kernel, by decide⟩
theorem jo_X11_isLetter : jMo mX11_isLetter 1 := ⟨jwO_X11_isLetter, jwZ_X11, by decide +kernel, by decide +kernel, by decide +kernel, by decide⟩
theorem jo_X11_isDigit : jMo mX11_isDigit 1 := ⟨jwO_X11_isDigit, jwZ_X11, by decide +kernel, by decide +kernel, by decide +kernel, by decide⟩
theorem jo_X11_nextToken : jMo mX11_nextToken 0 := ⟨jwO_X11_nextToken, jwZ_X11, by decide +kernel, by decide +kernel, by decide +kernel, by decide⟩
theorem jo_X11_isSign : jMo mX11_isSign 1 := ⟨jwO_X11_isSign, jwZ_X11, by decide +kernel, by decide +kernel, by decide +kernel, by decide⟩
theorem jo_X11_isWordAt : jMo mX11_isWordAt 4 := ⟨jwO_X11_isWordAt, jwZ_X11, by decide +kernel, by decide +kernel, by decide +kernel, by decide⟩
theorem jo_X11_key : jMo mX11_key 0 := ⟨jwO_X11_key, jwZ_X11, by decide +kernel, by decide +kernel, by decide +kernel, by decide⟩
theorem jo_X11_isName : jMo mX11_isName 2 := ⟨jwO_X11_isName, jwZ_X11, by decide +kernel, by decide +kernel, by decide +kernel, by decide⟩
theorem jo_X11_step : jMo mX11_step 2 := ⟨jwO_X11_step, jwZ_X11, by decide +kernel, by decide +kernel, by decide +kernel, by decide⟩
theorem jo_X11_either : jMo mX11_either 1 := ⟨jwO_X11_either, jwZ_X11, by decide +kernel, by decide +kernel, by decide +kernel, by decide⟩
theorem jo_X11_both : jMo mX11_both 1 := ⟨jwO_X11_both, jwZ_X11, by decide +kernel, by decide +kernel, by decide +kernel, by decide⟩
theorem jo_X11_test : jMo mX11_test 1 := ⟨jwO_X11_test, jwZ_X11, by decide +kernel, by decide +kernel, by decide +kernel, by decide⟩
theorem jo_X11_sum : jMo mX11_sum 1 := ⟨jwO_X11_sum, jwZ_X11, by decide +kernel, by decide +kernel, by decide +kernel, by decide⟩
theorem jo_X11_term : jMo mX11_term 1 := ⟨jwO_X11_term, jwZ_X11, by decide +kernel, by decide +kernel, by decide +kernel, by decide⟩
theorem jo_X11_part0 : jMo mX11_part0 1 := ⟨jwO_X11_part0, jwZ_X11, by decide +kernel, by decide +kernel, by decide +kernel, by decide⟩
theorem jo_X11_parse : jMo mX11_parse 0 := ⟨jwO_X11_parse, jwZ_X11, by decide +kernel, by decide +kernel, by decide +kernel, by decide⟩
theorem jo_X11_text : jMo mX11_text 0 := ⟨jwO_X11_text, jwZ_X11, by decide +kernel, by decide +kernel, by decide +kernel, by decide⟩
theorem jo_X11_textTold : jMo mX11_textTold 2 := ⟨jwO_X11_textTold, jwZ_X11, by decide +kernel, by decide +kernel, by decide +kernel, by decide⟩
theorem jo_X11_counts : jMo mX11_counts 1 := ⟨jwO_X11_counts, jwZ_X11, by decide +kernel, by decide +kernel, by decide +kernel, by decide⟩
theorem jo_X11_why : jMo mX11_why 1 := ⟨jwO_X11_why, jwZ_X11, by decide +kernel, by decide +kernel, by decide +kernel, by decide⟩
theorem jo_X11_joined : jMo mX11_joined 3 := ⟨jwO_X11_joined, jwZ_X11, by decide +kernel, by decide +kernel, by decide +kernel, by decide⟩
theorem jo_X11_worked : jMo mX11_worked 1 := ⟨jwO_X11_worked, jwZ_X11, by decide +kernel, by decide +kernel, by decide +kernel, by decide⟩
theorem jo_X11_isSheet : jMo mX11_isSheet 1 := ⟨jwO_X11_isSheet, jwZ_X11, by decide +kernel, by decide +kernel, by decide +kernel, by decide⟩
theorem jo_X11_sheet : jMo mX11_sheet 3 := ⟨jwO_X11_sheet, jwZ_X11, by decide +kernel, by decide +kernel, by decide +kernel, by decide⟩
theorem jo_X11_mark : jMo mX11_mark 3 := ⟨jwO_X11_mark, jwZ_X11, by decide +kernel, by decide +kernel, by decide +kernel, by decide⟩
theorem jo_X11_pour : jMo mX11_pour 1 := ⟨jwO_X11_pour, jwZ_X11, by decide +kernel, by decide +kernel, by decide +kernel, by decide⟩
theorem jo_X11_reads : jMo mX11_reads 1 := ⟨jwO_X11_reads, jwZ_X11, by decide +kernel, by decide +kernel, by decide +kernel, by decide⟩
theorem jo_X11_cut : jMo mX11_cut 2 := ⟨jwO_X11_cut, jwZ_X11, by decide +kernel, by decide +kernel, by decide +kernel, by decide⟩
theorem jo_X11_copy : jMo mX11_copy 5 := ⟨jwO_X11_copy, jwZ_X11, by decide +kernel, by decide +kernel, by decide +kernel, by decide⟩
theorem jo_X11_isSlot : jMo mX11_isSlot 1 := ⟨jwO_X11_isSlot, jwZ_X11, by decide +kernel, by decide +kernel, by decide +kernel, by decide⟩
theorem jo_X11_lay : jMo mX11_lay 3 := ⟨jwO_X11_lay, jwZ_X11, by decide +kernel, by decide +kernel, by decide +kernel, by decide⟩
theorem jo_X11_ask : jMo mX11_ask 2 := ⟨jwO_X11_ask, jwZ_X11, by decide +kernel, by decide +kernel, by decide +kernel, by decide⟩
theorem jo_X11_item : jMo mX11_item 2 := ⟨jwO_X11_item, jwZ_X11, by decide +kernel, by decide +kernel, by decide +kernel, by decide⟩
theorem jo_X11_rest : jMo mX11_rest 2 := ⟨jwO_X11_rest, jwZ_X11, by decide +kernel, by decide +kernel, by decide +kernel, by decide⟩
theorem jo_X11_tell : jMo mX11_tell 1 := ⟨jwO_X11_tell, jwZ_X11, by decide +kernel, by decide +kernel, by decide +kernel, by decide⟩
theorem jo_X11_setAside : jMo mX11_setAside 2 := ⟨jwO_X11_setAside, jwZ_X11, by decide +kernel, by decide +kernel, by decide +kernel, by decide⟩
theorem jo_X11_allOf : jMo mX11_allOf 1 := ⟨jwO_X11_allOf, jwZ_X11, by decide +kernel, by decide +kernel, by decide +kernel, by decide⟩
theorem jo_X11_check : jMo mX11_check 1 := ⟨jwO_X11_check, jwZ_X11, by decide +kernel, by decide +kernel, by decide +kernel, by decide⟩
theorem jo_X11_keep : jMo mX11_keep 0 := ⟨jwO_X11_keep, jwZ_X11, by decide +kernel, by decide +kernel, by decide +kernel, by decide⟩
theorem jo_X11_back : jMo mX11_back 0 := ⟨jwO_X11_back, jwZ_X11, by decide +kernel, by decide +kernel, by decide +kernel, by decide⟩
theorem jo_X11_count : jMo mX11_count 1 := ⟨jwO_X11_count, jwZ_X11, by decide +kernel, by decide +kernel, by decide +kernel, by decide⟩
theorem jo_J6_bitCount_0f7a4 : jMo mJ6_bitCount_0f7a4 1 := ⟨jwO_J6_bitCount_0f7a4, jwZ_J6, by decide +kernel, by decide +kernel, by decide +kernel, by decide⟩
theorem jo_J0_length_8abf5 : jMo mJ0_length_8abf5 0 := ⟨jwO_J0_length_8abf5, jwZ_J0, by decide +kernel, by decide +kernel, by decide +kernel, by decide⟩
theorem jo_J0_charAt_5068e : jMo mJ0_charAt_5068e 1 := ⟨jwO_J0_charAt_5068e, jwZ_J0, by decide +kernel, by decide +kernel, by decide +kernel, by decide⟩
theorem jo_J0_indexOf_0f7a4 : jMo mJ0_indexOf_0f7a4 1 := ⟨jwO_J0_indexOf_0f7a4, jwZ_J0, by decide +kernel, by decide +kernel, by decide +kernel, by decide⟩
theorem jo_J0_indexOf_7cf53 : jMo mJ0_indexOf_7cf53 2 := ⟨jwO_J0_indexOf_7cf53, jwZ_J0, by decide +kernel, by decide +kernel, by decide +kernel, by decide⟩
theorem jo_J0_coder_7d493 : jMo mJ0_coder_7d493 0 := ⟨jwO_J0_coder_7d493, jwZ_J0, by decide +kernel, by decide +kernel, by decide +kernel, by decide⟩
theorem jo_J0_isLatin1_aae02 : jMo mJ0_isLatin1_aae02 0 := ⟨jwO_J0_isLatin1_aae02, jwZ_J0, by decide +kernel, by decide +kernel, by decide +kernel, by decide⟩
theorem jo_J0_checkIndex_df160 : jMo mJ0_checkIndex_df160 2 := ⟨jwO_J0_checkIndex_df160, jwZ_J0, by decide +kernel, by decide +kernel, by decide +kernel, by decide⟩
theorem jo_J1_charAt_3b067 : jMo mJ1_charAt_3b067 2 := ⟨jwO_J1_charAt_3b067, jwZ_J1, by decide +kernel, by decide +kernel, by decide +kernel, by decide⟩
theorem jo_J1_canEncode_9a6ad : jMo mJ1_canEncode_9a6ad 1 := ⟨jwO_J1_canEncode_9a6ad, jwZ_J1, by decide +kernel, by decide +kernel, by decide +kernel, by decide⟩
theorem jo_J1_indexOf_4cfef : jMo mJ1_indexOf_4cfef 4 := ⟨jwO_J1_indexOf_4cfef, jwZ_J1, by decide +kernel, by decide +kernel, by decide +kernel, by decide⟩
theorem jo_J1_indexOfChar_4cfef : jMo mJ1_indexOfChar_4cfef 4 := ⟨jwO_J1_indexOfChar_4cfef, jwZ_J1, by decide +kernel, by decide +kernel, by decide +kernel, by decide⟩
theorem jo_J3_checkIndex_8e157 : jMo mJ3_checkIndex_8e157 3 := ⟨jwO_J3_checkIndex_8e157, jwZ_J3, by decide +kernel, by decide +kernel, by decide +kernel, by decide⟩
end
section
/-! THE LAYER: calls by what they answer -/
section jTyped
variable {E : jEnv} {M M' : jMd} {R : Room} {Z : jZ} {pc : Nat} {lv lv1 : List (Nat × Value)} {st st1 : List Value} {S : jM} {c k : Nat} {d mc ms n index : Nat} {As : List Value}
theorem jx_callVi {Q' : Int32 → jM → Prop} {ci b : Nat} {q : vw_C} {ty : Nat → FieldType} (ho : jMo M' n) (hc : jCl ci q ty) (hq : q.1 = M'.1.cls) (w1 : Cond.methodLink M.1.cls index M'.1 ∈ jT) (w2 : Cond.instanceMethod M'.1 ∈ jT) (w3 : Cond.selects M'.1.cls M'.1 M'.1 ∈ jT) (hd : decode M.2.1 pc = .ok (.invokevirtual index, 3)) (hR : jRok R d) (hA : As.length = n) (hs : (st.map fun v => v.category).sum ≤ 8) (hm : c + mc ≤ R.cells ∧ k + ms ≤ R.slots) (hk : jk S b = ci)
    (hF : jFi E M' d mc ms (.ref b :: As) S Q') (h : ∀ (v : Int32) (S' : jM), Q' v S' → jX E M R Z (pc + 3) lv (.int v :: st) S' (c + mc) (k + ms)) : jX E M R Z pc lv (As.reverse ++ .ref b :: st) S c k :=
  jx_callV ho hc hq w1 w2 w3 hd hR hA hs hm hk hF (fun r S' hr => by obtain ⟨v, rfl, h9⟩ := hr; exact h v S' h9)
theorem jx_callVv {Q' : jM → Prop} {ci b : Nat} {q : vw_C} {ty : Nat → FieldType} (ho : jMo M' n) (hc : jCl ci q ty) (hq : q.1 = M'.1.cls) (w1 : Cond.methodLink M.1.cls index M'.1 ∈ jT) (w2 : Cond.instanceMethod M'.1 ∈ jT) (w3 : Cond.selects M'.1.cls M'.1 M'.1 ∈ jT) (hd : decode M.2.1 pc = .ok (.invokevirtual index, 3)) (hR : jRok R d) (hA : As.length = n) (hs : (st.map fun v => v.category).sum ≤ 8) (hm : c + mc ≤ R.cells ∧ k + ms ≤ R.slots) (hk : jk S b = ci)
    (hF : jFv E M' d mc ms (.ref b :: As) S Q') (h : ∀ S' : jM, Q' S' → jX E M R Z (pc + 3) lv st S' (c + mc) (k + ms)) : jX E M R Z pc lv (As.reverse ++ .ref b :: st) S c k :=
  jx_callV ho hc hq w1 w2 w3 hd hR hA hs hm hk hF (fun r S' hr => by obtain ⟨rfl, h9⟩ := hr; exact h S' h9)
theorem jx_callVr {Q' : Option Nat → jM → Prop} {ci b : Nat} {q : vw_C} {ty : Nat → FieldType} (ho : jMo M' n) (hc : jCl ci q ty) (hq : q.1 = M'.1.cls) (w1 : Cond.methodLink M.1.cls index M'.1 ∈ jT) (w2 : Cond.instanceMethod M'.1 ∈ jT) (w3 : Cond.selects M'.1.cls M'.1 M'.1 ∈ jT) (hd : decode M.2.1 pc = .ok (.invokevirtual index, 3)) (hR : jRok R d) (hA : As.length = n) (hs : (st.map fun v => v.category).sum ≤ 8) (hm : c + mc ≤ R.cells ∧ k + ms ≤ R.slots) (hk : jk S b = ci)
    (hF : jFr E M' d mc ms (.ref b :: As) S Q') (h : ∀ (o : Option Nat) (S' : jM), Q' o S' → jX E M R Z (pc + 3) lv (va_rf o :: st) S' (c + mc) (k + ms)) : jX E M R Z pc lv (As.reverse ++ .ref b :: st) S c k :=
  jx_callV ho hc hq w1 w2 w3 hd hR hA hs hm hk hF (fun r S' hr => by obtain ⟨v, rfl, h9⟩ := hr; exact h v S' h9)
theorem jx_callSi {Q' : Int32 → jM → Prop} (ho : jMo M' n) (w1 : Cond.methodLink M.1.cls index M'.1 ∈ jT) (w2 : Cond.static M'.1 ∈ jT) (hd : decode M.2.1 pc = .ok (.invokestatic index, 3)) (hR : jRok R d) (hA : As.length = n) (hs : (st.map fun v => v.category).sum ≤ 8) (hm : c + mc ≤ R.cells ∧ k + ms ≤ R.slots)
    (hF : jFi E M' d mc ms (As) S Q') (h : ∀ (v : Int32) (S' : jM), Q' v S' → jX E M R Z (pc + 3) lv (.int v :: st) S' (c + mc) (k + ms)) : jX E M R Z pc lv (As.reverse ++ st) S c k :=
  jx_callS ho w1 w2 hd hR hA hs hm hF (fun r S' hr => by obtain ⟨v, rfl, h9⟩ := hr; exact h v S' h9)
theorem jx_callSv {Q' : jM → Prop} (ho : jMo M' n) (w1 : Cond.methodLink M.1.cls index M'.1 ∈ jT) (w2 : Cond.static M'.1 ∈ jT) (hd : decode M.2.1 pc = .ok (.invokestatic index, 3)) (hR : jRok R d) (hA : As.length = n) (hs : (st.map fun v => v.category).sum ≤ 8) (hm : c + mc ≤ R.cells ∧ k + ms ≤ R.slots)
    (hF : jFv E M' d mc ms (As) S Q') (h : ∀ S' : jM, Q' S' → jX E M R Z (pc + 3) lv st S' (c + mc) (k + ms)) : jX E M R Z pc lv (As.reverse ++ st) S c k :=
  jx_callS ho w1 w2 hd hR hA hs hm hF (fun r S' hr => by obtain ⟨rfl, h9⟩ := hr; exact h S' h9)
theorem jx_callSr {Q' : Option Nat → jM → Prop} (ho : jMo M' n) (w1 : Cond.methodLink M.1.cls index M'.1 ∈ jT) (w2 : Cond.static M'.1 ∈ jT) (hd : decode M.2.1 pc = .ok (.invokestatic index, 3)) (hR : jRok R d) (hA : As.length = n) (hs : (st.map fun v => v.category).sum ≤ 8) (hm : c + mc ≤ R.cells ∧ k + ms ≤ R.slots)
    (hF : jFr E M' d mc ms (As) S Q') (h : ∀ (o : Option Nat) (S' : jM), Q' o S' → jX E M R Z (pc + 3) lv (va_rf o :: st) S' (c + mc) (k + ms)) : jX E M R Z pc lv (As.reverse ++ st) S c k :=
  jx_callS ho w1 w2 hd hR hA hs hm hF (fun r S' hr => by obtain ⟨v, rfl, h9⟩ := hr; exact h v S' h9)
theorem jx_callSNi {Q' : Int32 → jM → Prop} {host : String} (ho : jMo M' n) (w1 : (M.1.cls, index, M'.1, host) ∈ jNest) (w2 : Cond.static M'.1 ∈ jT) (hd : decode M.2.1 pc = .ok (.invokestatic index, 3)) (hR : jRok R d) (hA : As.length = n) (hs : (st.map fun v => v.category).sum ≤ 8) (hm : c + mc ≤ R.cells ∧ k + ms ≤ R.slots)
    (hF : jFi E M' d mc ms (As) S Q') (h : ∀ (v : Int32) (S' : jM), Q' v S' → jX E M R Z (pc + 3) lv (.int v :: st) S' (c + mc) (k + ms)) : jX E M R Z pc lv (As.reverse ++ st) S c k :=
  jx_callSN ho w1 w2 hd hR hA hs hm hF (fun r S' hr => by obtain ⟨v, rfl, h9⟩ := hr; exact h v S' h9)
theorem jx_callIv {Q' : jM → Prop} {b : Nat} (ho : jMo M' n) (hi : M'.1.name = "<init>") (w1 : Cond.methodLink M.1.cls index M'.1 ∈ jT) (w2 : Cond.instanceMethod M'.1 ∈ jT) (hret : M'.2.2.2 = none) (hd : decode M.2.1 pc = .ok (.invokespecial index, 3)) (hR : jRok R d) (hA : As.length = n) (hs : (st.map fun v => v.category).sum ≤ 8) (hm : c + mc ≤ R.cells ∧ k + ms ≤ R.slots)
    (hF : jFv E M' d mc ms (.ref b :: As) S Q') (h : ∀ S' : jM, Q' S' → jX E M R Z (pc + 3) lv st S' (c + mc) (k + ms)) : jX E M R Z pc lv (As.reverse ++ .ref b :: st) S c k :=
  jx_callI ho hi w1 w2 hret hd hR hA hs hm hF (fun r S' hr => by obtain ⟨rfl, h9⟩ := hr; exact h S' h9)
theorem jx_callINv {Q' : jM → Prop} {host : String} {b : Nat} (ho : jMo M' n) (hi : M'.1.name = "<init>") (w1 : (M.1.cls, index, M'.1, host) ∈ jNest) (w2 : Cond.instanceMethod M'.1 ∈ jT) (hret : M'.2.2.2 = none) (hd : decode M.2.1 pc = .ok (.invokespecial index, 3)) (hR : jRok R d) (hA : As.length = n) (hs : (st.map fun v => v.category).sum ≤ 8) (hm : c + mc ≤ R.cells ∧ k + ms ≤ R.slots)
    (hF : jFv E M' d mc ms (.ref b :: As) S Q') (h : ∀ S' : jM, Q' S' → jX E M R Z (pc + 3) lv st S' (c + mc) (k + ms)) : jX E M R Z pc lv (As.reverse ++ .ref b :: st) S c k :=
  jx_callIN ho hi w1 w2 hret hd hR hA hs hm hF (fun r S' hr => by obtain ⟨rfl, h9⟩ := hr; exact h S' h9)
theorem jx_nm {x : Int32} (h : ∀ y : Int32, y = x → jX E M R Z pc lv (.int y :: st) S c k) : jX E M R Z pc lv (.int x :: st) S c k := h x rfl
theorem jx_topi {x y : Int32} (e : x = y) (h : jX E M R Z pc lv (.int y :: st) S c k) : jX E M R Z pc lv (.int x :: st) S c k := e ▸ h
end jTyped
end
section
/-! numbers' words -/
theorem jle {a b : Nat} (h : Nat.ble a b = true) : a ≤ b := Nat.le_of_ble_eq_true h
def jrem (x y : Int32) : Int32 := x - x / y * y
def jshl (x y : Int32) : Int32 := x <<< (y &&& 31)
def jshr (x y : Int32) : Int32 := x >>> (y &&& 31)
def jushr (x y : Int32) : Int32 := (x.toUInt32 >>> (y.toUInt32 &&& Int32.toUInt32 31)).toInt32
def jmin (x y : Int32) : Int32 := if y < x then y else x
def jmax (x y : Int32) : Int32 := if x < y then y else x
def jabs (x : Int32) : Int32 := if 0 ≤ x then x else 0 - x
/-- the table ABOVE -/
def jab (x : Int32) : Int32 := ([-1, 0, 0, 1, 2, 0] : List Int32).getD x.toNatClampNeg 0
theorem jb_nar {v : Int32} (h : v = 0 ∨ v = 1) : narrow .boolean (.int v) = .int v := by rcases h with rfl | rfl <;> decide
theorem jb_fit {v : Int32} (h : v = 0 ∨ v = 1) : fits .boolean (.int v) = true := by rcases h with rfl | rfl <;> decide
/-! the memory's words -/
theorem jne {S : jM} {a b x y : Nat} (ha : jk S a = x) (hb : jk S b = y) (h : x ≠ y) : a ≠ b := fun e => h (by rw [← ha, ← hb, e])
theorem jr_put (S : jM) (a j : Nat) (v : Int32) : jr (jput S a j v) = jr S := rfl
theorem ji_put (S : jM) (a j : Nat) (v : Int32) (b i : Nat) : ji (jput S a j v) b i = if b = a ∧ i = j then v else ji S b i := by
  by_cases h : b = a
  · subst h
    by_cases hi : i = j
    · simp [ji, jput, jrow, va_up, upd, hi]
    · simp [ji, jput, jrow, va_up, upd, hi]
  · simp [ji, jput, jrow, va_up, h]
theorem ji_put_same (S : jM) (a j : Nat) (v : Int32) : ji (jput S a j v) a j = v := by simp [ji_put]
theorem ji_put_ne (S : jM) (a j : Nat) (v : Int32) {b : Nat} (h : b ≠ a) : ji (jput S a j v) b = ji S b := by funext i; simp [ji_put, h]
theorem ji_row (S : jM) (a : Nat) (f : Nat → Int32) (b : Nat) : ji (jrow S a f) b = if b = a then f else ji S b := by
  by_cases h : b = a <;> simp [ji, jrow, va_up, h]
theorem ji_row_same (S : jM) (a : Nat) (f : Nat → Int32) : ji (jrow S a f) a = f := by simp [ji_row]
theorem ji_row_ne (S : jM) (a : Nat) (f : Nat → Int32) {b : Nat} (h : b ≠ a) : ji (jrow S a f) b = ji S b := by simp [ji_row, h]
theorem jput_eq (S : jM) (a j : Nat) (v : Int32) : jput S a j v = jrow S a (upd (ji S a) j v) := rfl
theorem jrow_row (S : jM) (a : Nat) (f g : Nat → Int32) : jrow (jrow S a f) a g = jrow S a g := by
  unfold jrow
  congr 3
  funext x
  by_cases h : x = a <;> simp [va_up, h]
theorem jrow_self (S : jM) (a : Nat) : jrow S a (ji S a) = S := by
  obtain ⟨k, l, i, r, n⟩ := S
  show (k, l, va_up i a (i a), r, n) = _
  congr 3
  funext x
  by_cases h : x = a <;> simp [va_up, h]
theorem jk_putr (S : jM) (a j : Nat) (v : Option Nat) : jk (jputr S a j v) = jk S := rfl
theorem jl_putr (S : jM) (a j : Nat) (v : Option Nat) : jl (jputr S a j v) = jl S := rfl
theorem ji_putr (S : jM) (a j : Nat) (v : Option Nat) : ji (jputr S a j v) = ji S := rfl
theorem jr_putr (S : jM) (a j : Nat) (v : Option Nat) (b i : Nat) : jr (jputr S a j v) b i = if b = a ∧ i = j then v else jr S b i := by
  by_cases h : b = a
  · subst h
    by_cases hi : i = j
    · simp [jr, jputr, va_up, hi]
    · simp [jr, jputr, va_up, hi]
  · simp [jr, jputr, va_up, h]
theorem jk_newE (S : jM) (k n a : Nat) : jk (jnew S k n) a = if a = jn S then k else jk S a := rfl
theorem jl_newE (S : jM) (k n a : Nat) : jl (jnew S k n) a = if a = jn S then n else jl S a := rfl
theorem ji_newE (S : jM) (k n a : Nat) : ji (jnew S k n) a = if a = jn S then (fun _ => 0) else ji S a := rfl
theorem jr_newE (S : jM) (k n a : Nat) : jr (jnew S k n) a = if a = jn S then (fun _ => none) else jr S a := rfl
end
section
set_option maxRecDepth 100000 in
set_option maxHeartbeats 4000000 in
theorem T_X10_within {E : jEnv} {d : Nat} {Q : Int32 → jM → Prop} {x0 : Int32} {x1 : Int32} {S : jM} (h : (x0 < 0 → Q 0 S) ∧ (¬ x0 < 0 → (x1 ≤ x0 → Q 0 S) ∧ (¬ x1 ≤ x0 → Q 1 S))) : jFi E mX10_within d 0 0 [.int x0, .int x1] S Q := by
  refine jF_of (by decide) (jle rfl) ?_
  refine jx_lv (lv1 := [(0, .int x0), (1, .int x1)]) [0, 1] rfl ?_
  refine jx_iload_n 0 kd552.1 rfl rfl ?_
  refine jx_if_lt (tgt := 13) kd552.2.1 (by decide) (fun c1 => ?_) (fun c1 => ?_)
  · replace h := h.1 c1
    refine jx_iconst (v := 0) kd552.2.2.2.2.2.2.2.1 (by decide) ?_
    exact jx_iret kd552.2.2.2.2.2.2.2.2.1 rfl (by decide) (jle rfl) (jle rfl) ⟨_, rfl, h⟩
  replace h := h.2 c1
  refine jx_iload_n 0 kd552.2.2.1 rfl rfl ?_
  refine jx_iload_n 1 kd552.2.2.2.1 rfl rfl ?_
  refine jx_icmp_ge (tgt := 13) kd552.2.2.2.2.1 (by decide) (fun c2 => ?_) (fun c2 => ?_)
  · replace h := h.1 c2
    refine jx_iconst (v := 0) kd552.2.2.2.2.2.2.2.1 (by decide) ?_
    exact jx_iret kd552.2.2.2.2.2.2.2.2.1 rfl (by decide) (jle rfl) (jle rfl) ⟨_, rfl, h⟩
  replace h := h.2 c2
  refine jx_iconst (v := 1) kd552.2.2.2.2.2.1 (by decide) ?_
  refine jx_goto (tgt := 14) kd552.2.2.2.2.2.2.1 (by decide) ?_
  exact jx_iret kd552.2.2.2.2.2.2.2.2.1 rfl (by decide) (jle rfl) (jle rfl) ⟨_, rfl, h⟩
set_option maxRecDepth 100000 in
set_option maxHeartbeats 4000000 in
theorem T_J6_bitCount_0f7a4 {E : jEnv} {d : Nat} {Q : Int32 → jM → Prop} {x0 : Int32} {S : jM} (h : ∀ y1 : Int32, y1 = (((x0 - ((jushr x0 1) &&& 1431655765)) &&& 858993459) + ((jushr (x0 - ((jushr x0 1) &&& 1431655765)) 2) &&& 858993459)) → ∀ y2 : Int32, y2 = ((((y1 + (jushr y1 4)) &&& 252645135) + (jushr ((y1 + (jushr y1 4)) &&& 252645135) 8)) + (jushr (((y1 + (jushr y1 4)) &&& 252645135) + (jushr ((y1 + (jushr y1 4)) &&& 252645135) 8)) 16)) → Q (y2 &&& 63) S) : jFi E mJ6_bitCount_0f7a4 d 0 0 [.int x0] S Q := by
  refine jF_of (by decide) (jle rfl) ?_
  refine jx_lv (lv1 := [(0, .int x0)]) [0] rfl ?_
  refine jx_iload_n 0 kd1067.1 rfl rfl ?_
  refine jx_iload_n 0 kd1067.2.1 rfl rfl ?_
  refine jx_iconst (v := 1) kd1067.2.2.1 (by decide) ?_
  refine jx_iushr kd1067.2.2.2.1 ?_
  refine jx_ldcw jwC_J6_265 kd1067.2.2.2.2.1 ?_
  refine jx_iand kd1067.2.2.2.2.2.1 ?_
  refine jx_isub kd1067.2.2.2.2.2.2.1 ?_
  refine jx_istore_n (lv1 := [(0, .int (x0 - ((jushr x0 1) &&& 1431655765)))]) kd1067.2.2.2.2.2.2.2.1 rfl (by decide) rfl ?_
  refine jx_iload_n 0 kd1067.2.2.2.2.2.2.2.2.1 rfl rfl ?_
  refine jx_ldcw jwC_J6_266 kd1068.1 ?_
  refine jx_iand kd1068.2.1 ?_
  refine jx_iload_n 0 kd1068.2.2.1 rfl rfl ?_
  refine jx_iconst (v := 2) kd1068.2.2.2.1 (by decide) ?_
  refine jx_iushr kd1068.2.2.2.2.1 ?_
  refine jx_ldcw jwC_J6_266 kd1068.2.2.2.2.2.1 ?_
  refine jx_iand kd1068.2.2.2.2.2.2.1 ?_
  refine jx_iadd kd1068.2.2.2.2.2.2.2.1 ?_
  refine jx_nm (fun y1 ey1 => ?_)
  replace h := h y1 ey1
  refine jx_istore_n (lv1 := [(0, .int y1)]) kd1068.2.2.2.2.2.2.2.2.1 rfl (by decide) rfl ?_
  refine jx_iload_n 0 kd1069.1 rfl rfl ?_
  refine jx_iload_n 0 kd1069.2.1 rfl rfl ?_
  refine jx_iconst (v := 4) kd1069.2.2.1 (by decide) ?_
  refine jx_iushr kd1069.2.2.2.1 ?_
  refine jx_iadd kd1069.2.2.2.2.1 ?_
  refine jx_ldcw jwC_J6_267 kd1069.2.2.2.2.2.1 ?_
  refine jx_iand kd1069.2.2.2.2.2.2.1 ?_
  refine jx_istore_n (lv1 := [(0, .int ((y1 + (jushr y1 4)) &&& 252645135))]) kd1069.2.2.2.2.2.2.2.1 rfl (by decide) rfl ?_
  refine jx_iload_n 0 kd1069.2.2.2.2.2.2.2.2.1 rfl rfl ?_
  refine jx_iload_n 0 kd1070.1 rfl rfl ?_
  refine jx_bipush (v := 8) kd1070.2.1 (by decide) ?_
  refine jx_iushr kd1070.2.2.1 ?_
  refine jx_iadd kd1070.2.2.2.1 ?_
  refine jx_istore_n (lv1 := [(0, .int (((y1 + (jushr y1 4)) &&& 252645135) + (jushr ((y1 + (jushr y1 4)) &&& 252645135) 8)))]) kd1070.2.2.2.2.1 rfl (by decide) rfl ?_
  refine jx_iload_n 0 kd1070.2.2.2.2.2.1 rfl rfl ?_
  refine jx_iload_n 0 kd1070.2.2.2.2.2.2.1 rfl rfl ?_
  refine jx_bipush (v := 16) kd1070.2.2.2.2.2.2.2.1 (by decide) ?_
  refine jx_iushr kd1070.2.2.2.2.2.2.2.2.1 ?_
  refine jx_iadd kd1071.1 ?_
  refine jx_nm (fun y2 ey2 => ?_)
  replace h := h y2 ey2
  refine jx_istore_n (lv1 := [(0, .int y2)]) kd1071.2.1 rfl (by decide) rfl ?_
  refine jx_iload_n 0 kd1071.2.2.1 rfl rfl ?_
  refine jx_bipush (v := 63) kd1071.2.2.2.1 (by decide) ?_
  refine jx_iand kd1071.2.2.2.2.1 ?_
  exact jx_iret kd1071.2.2.2.2.2.1 rfl rfl (jle rfl) (jle rfl) ⟨_, rfl, h⟩
set_option maxRecDepth 100000 in
set_option maxHeartbeats 4000000 in
theorem T_X11_isIn {E : jEnv} {d : Nat} {Q : Int32 → jM → Prop} {x0 : Int64} {x2 : Int64} {x4 : Int64} {S : jM} (h : ((lg_cmp x0 x2) < 0 → Q 0 S) ∧ (¬ (lg_cmp x0 x2) < 0 → (0 < (lg_cmp x0 x4) → Q 0 S) ∧ (¬ 0 < (lg_cmp x0 x4) → Q 1 S))) : jFi E mX11_isIn d 0 0 [.long x0, .long x2, .long x4] S Q := by
  refine jF_of (by decide) (jle rfl) ?_
  refine jx_lv (lv1 := [(0, .long x0), (2, .long x2), (4, .long x4)]) [0, 1, 2] rfl ?_
  refine jx_lload_n 0 kd565.1 rfl rfl ?_
  refine jx_lload_n 1 kd565.2.1 rfl rfl ?_
  refine jx_lcmp kd565.2.2.1 ?_
  refine jx_if_lt (tgt := 17) kd565.2.2.2.1 (by decide) (fun c1 => ?_) (fun c1 => ?_)
  · replace h := h.1 c1
    refine jx_iconst (v := 0) kd566.2.1 (by decide) ?_
    exact jx_iret kd566.2.2.1 rfl (by decide) (jle rfl) (jle rfl) ⟨_, rfl, h⟩
  replace h := h.2 c1
  refine jx_lload_n 0 kd565.2.2.2.2.1 rfl rfl ?_
  refine jx_lload 2 kd565.2.2.2.2.2.1 rfl ?_
  refine jx_lcmp kd565.2.2.2.2.2.2.1 ?_
  refine jx_if_gt (tgt := 17) kd565.2.2.2.2.2.2.2.1 (by decide) (fun c2 => ?_) (fun c2 => ?_)
  · replace h := h.1 c2
    refine jx_iconst (v := 0) kd566.2.1 (by decide) ?_
    exact jx_iret kd566.2.2.1 rfl (by decide) (jle rfl) (jle rfl) ⟨_, rfl, h⟩
  replace h := h.2 c2
  refine jx_iconst (v := 1) kd565.2.2.2.2.2.2.2.2.1 (by decide) ?_
  refine jx_goto (tgt := 18) kd566.1 (by decide) ?_
  exact jx_iret kd566.2.2.1 rfl (by decide) (jle rfl) (jle rfl) ⟨_, rfl, h⟩
set_option maxRecDepth 100000 in
set_option maxHeartbeats 4000000 in
theorem T_X11_orNone {E : jEnv} {d : Nat} {Q : Int32 → jM → Prop} {x0 : Int32} {S : jM} (h : (0 ≤ x0 → Q x0 S) ∧ (¬ 0 ≤ x0 → Q (-1000000005) S)) : jFi E mX11_orNone d 0 0 [.int x0] S Q := by
  refine jF_of (by decide) (jle rfl) ?_
  refine jx_lv (lv1 := [(0, .int x0)]) [0] rfl ?_
  refine jx_iload_n 0 kd567.1 rfl rfl ?_
  refine jx_if_ge (tgt := 9) kd567.2.1 (by decide) (fun c1 => ?_) (fun c1 => ?_)
  · replace h := h.1 c1
    refine jx_iload_n 0 kd567.2.2.2.2.1 rfl rfl ?_
    exact jx_iret kd567.2.2.2.2.2.1 rfl rfl (jle rfl) (jle rfl) ⟨_, rfl, h⟩
  replace h := h.2 c1
  refine jx_ldc jwC_X11_70 kd567.2.2.1 ?_
  refine jx_goto (tgt := 10) kd567.2.2.2.1 (by decide) ?_
  exact jx_iret kd567.2.2.2.2.2.1 rfl rfl (jle rfl) (jle rfl) ⟨_, rfl, h⟩
set_option maxRecDepth 100000 in
set_option maxHeartbeats 4000000 in
theorem T_X11_within {E : jEnv} {d : Nat} {Q : Int32 → jM → Prop} {x0 : Int32} {x1 : Int32} {x2 : Int32} {S : jM} (h : (x1 ≤ x0 → (x0 ≤ x2 → Q x0 S) ∧ (¬ x0 ≤ x2 → Q x2 S)) ∧ (¬ x1 ≤ x0 → Q x1 S)) : jFi E mX11_within d 0 0 [.int x0, .int x1, .int x2] S Q := by
  refine jF_of (by decide) (jle rfl) ?_
  refine jx_lv (lv1 := [(0, .int x0), (1, .int x1), (2, .int x2)]) [0, 1, 2] rfl ?_
  refine jx_iload_n 0 kd568.1 rfl rfl ?_
  refine jx_iload_n 1 kd568.2.1 rfl rfl ?_
  refine jx_icmp_ge (tgt := 9) kd568.2.2.1 (by decide) (fun c1 => ?_) (fun c1 => ?_)
  · replace h := h.1 c1
    refine jx_iload_n 0 kd568.2.2.2.2.2.1 rfl rfl ?_
    refine jx_iload_n 2 kd568.2.2.2.2.2.2.1 rfl rfl ?_
    refine jx_icmp_le (tgt := 18) kd568.2.2.2.2.2.2.2.1 (by decide) (fun c2 => ?_) (fun c2 => ?_)
    · replace h := h.1 c2
      refine jx_iload_n 0 kd569.2.1 rfl rfl ?_
      exact jx_iret kd569.2.2.1 rfl rfl (jle rfl) (jle rfl) ⟨_, rfl, h⟩
    replace h := h.2 c2
    refine jx_iload_n 2 kd568.2.2.2.2.2.2.2.2.1 rfl rfl ?_
    refine jx_goto (tgt := 19) kd569.1 (by decide) ?_
    exact jx_iret kd569.2.2.1 rfl rfl (jle rfl) (jle rfl) ⟨_, rfl, h⟩
  replace h := h.2 c1
  refine jx_iload_n 1 kd568.2.2.2.1 rfl rfl ?_
  refine jx_goto (tgt := 19) kd568.2.2.2.2.1 (by decide) ?_
  exact jx_iret kd569.2.2.1 rfl rfl (jle rfl) (jle rfl) ⟨_, rfl, h⟩
set_option maxRecDepth 100000 in
set_option maxHeartbeats 4000000 in
theorem T_X11_off {E : jEnv} {d : Nat} {Q : Int32 → jM → Prop} {x0 : Int32} {x1 : Int32} {S : jM} (h : (x1 ≤ x0 → Q (x0 - x1) S) ∧ (¬ x1 ≤ x0 → Q (x1 - x0) S)) : jFi E mX11_off d 0 0 [.int x0, .int x1] S Q := by
  refine jF_of (by decide) (jle rfl) ?_
  refine jx_lv (lv1 := [(0, .int x0), (1, .int x1)]) [0, 1] rfl ?_
  refine jx_iload_n 0 kd570.1 rfl rfl ?_
  refine jx_iload_n 1 kd570.2.1 rfl rfl ?_
  refine jx_icmp_ge (tgt := 11) kd570.2.2.1 (by decide) (fun c1 => ?_) (fun c1 => ?_)
  · replace h := h.1 c1
    refine jx_iload_n 0 kd570.2.2.2.2.2.2.2.1 rfl rfl ?_
    refine jx_iload_n 1 kd570.2.2.2.2.2.2.2.2.1 rfl rfl ?_
    refine jx_isub kd571.1 ?_
    exact jx_iret kd571.2.1 rfl rfl (jle rfl) (jle rfl) ⟨_, rfl, h⟩
  replace h := h.2 c1
  refine jx_iload_n 1 kd570.2.2.2.1 rfl rfl ?_
  refine jx_iload_n 0 kd570.2.2.2.2.1 rfl rfl ?_
  refine jx_isub kd570.2.2.2.2.2.1 ?_
  refine jx_goto (tgt := 14) kd570.2.2.2.2.2.2.1 (by decide) ?_
  exact jx_iret kd571.2.1 rfl rfl (jle rfl) (jle rfl) ⟨_, rfl, h⟩
/-- X11_manyIn at its loop's head 4 -/
abbrev L_X11_manyIn_4 (E : jEnv) (d : Nat) (Q : Int32 → jM → Prop) (x1 : Int32) (x2 : Int32) (S : jM) : Prop := jX E mX11_manyIn (jRm d 0 0) (jZm E (fun r S' => ∃ v : Int32, r = some (.int v) ∧ Q v S') 0 0) 4 [(1, .int x1), (2, .int x2)] [] S 0 0
set_option maxRecDepth 100000 in
set_option maxHeartbeats 4000000 in
theorem T_X11_manyIn {E : jEnv} {d : Nat} {Q : Int32 → jM → Prop} {x0 : Int32} {S : jM} (h : L_X11_manyIn_4 E d Q 0 x0 S) : jFi E mX11_manyIn d 0 0 [.int x0] S Q := by
  refine jF_of (by decide) (jle rfl) ?_
  refine jx_lv (lv1 := [(0, .int x0)]) [0] rfl ?_
  refine jx_iconst (v := 0) kd572.1 (by decide) ?_
  refine jx_istore_n (lv1 := [(1, .int 0), (0, .int x0)]) kd572.2.1 rfl (by decide) rfl ?_
  refine jx_iload_n 1 kd572.2.2.1 rfl rfl ?_
  refine jx_istore_n (lv1 := [(2, .int x0), (1, .int 0), (0, .int x0)]) kd572.2.2.2.1 rfl (by decide) rfl ?_
  exact jx_lv [1, 0] rfl h
set_option maxRecDepth 100000 in
set_option maxHeartbeats 4000000 in
theorem T_X11_manyIn_4 {E : jEnv} {d : Nat} {Q : Int32 → jM → Prop} {x1 : Int32} {x2 : Int32} {S : jM} (h : (x2 = 0 → Q x1 S) ∧ (¬ x2 = 0 → L_X11_manyIn_4 E d Q (x1 + 1) (x2 &&& (x2 - 1)) S)) : L_X11_manyIn_4 E d Q x1 x2 S := by
  show jX E mX11_manyIn (jRm d 0 0) (jZm E (fun r S' => ∃ v : Int32, r = some (.int v) ∧ Q v S') 0 0) 4 [(1, .int x1), (2, .int x2)] [] S 0 0
  refine jx_iload_n 1 kd572.2.2.2.2.1 rfl rfl ?_
  refine jx_if_eq (tgt := 20) kd572.2.2.2.2.2.1 (by decide) (fun c1 => ?_) (fun c1 => ?_)
  · replace h := h.1 c1
    refine jx_iload_n 0 kd573.2.2.2.2.2.1 rfl rfl ?_
    exact jx_iret kd573.2.2.2.2.2.2.1 rfl rfl (jle rfl) (jle rfl) ⟨_, rfl, h⟩
  replace h := h.2 c1
  refine jx_iinc 0 (v := (x1 + 1)) (lv1 := [(1, .int (x1 + 1)), (2, .int x2)]) kd572.2.2.2.2.2.2.1 rfl rfl (by decide) rfl ?_
  refine jx_iload_n 1 kd572.2.2.2.2.2.2.2.1 rfl rfl ?_
  refine jx_iload_n 1 kd572.2.2.2.2.2.2.2.2.1 rfl rfl ?_
  refine jx_iconst (v := 1) kd573.1 (by decide) ?_
  refine jx_isub kd573.2.1 ?_
  refine jx_iand kd573.2.2.1 ?_
  refine jx_istore_n (lv1 := [(2, .int (x2 &&& (x2 - 1))), (1, .int (x1 + 1))]) kd573.2.2.2.1 rfl (by decide) rfl ?_
  refine jx_goto (tgt := 4) kd573.2.2.2.2.1 (by decide) ?_
  exact jx_lv [1, 0] rfl h
set_option maxRecDepth 100000 in
set_option maxHeartbeats 4000000 in
theorem T_X11_isGesture {E : jEnv} {d : Nat} {Q : Int32 → jM → Prop} {x0 : Int32} {S : jM} (h : (x0 < 0 → Q 0 S) ∧ (¬ x0 < 0 → (10 ≤ x0 → Q 0 S) ∧ (¬ 10 ≤ x0 → Q 1 S))) : jFi E mX11_isGesture d 0 0 [.int x0] S Q := by
  refine jF_of (by decide) (jle rfl) ?_
  refine jx_lv (lv1 := [(0, .int x0)]) [0] rfl ?_
  refine jx_iload_n 0 kd581.1 rfl rfl ?_
  refine jx_if_lt (tgt := 14) kd581.2.1 (by decide) (fun c1 => ?_) (fun c1 => ?_)
  · replace h := h.1 c1
    refine jx_iconst (v := 0) kd581.2.2.2.2.2.2.2.1 (by decide) ?_
    exact jx_iret kd581.2.2.2.2.2.2.2.2.1 rfl (by decide) (jle rfl) (jle rfl) ⟨_, rfl, h⟩
  replace h := h.2 c1
  refine jx_iload_n 0 kd581.2.2.1 rfl rfl ?_
  refine jx_bipush (v := 10) kd581.2.2.2.1 (by decide) ?_
  refine jx_icmp_ge (tgt := 14) kd581.2.2.2.2.1 (by decide) (fun c2 => ?_) (fun c2 => ?_)
  · replace h := h.1 c2
    refine jx_iconst (v := 0) kd581.2.2.2.2.2.2.2.1 (by decide) ?_
    exact jx_iret kd581.2.2.2.2.2.2.2.2.1 rfl (by decide) (jle rfl) (jle rfl) ⟨_, rfl, h⟩
  replace h := h.2 c2
  refine jx_iconst (v := 1) kd581.2.2.2.2.2.1 (by decide) ?_
  refine jx_goto (tgt := 15) kd581.2.2.2.2.2.2.1 (by decide) ?_
  exact jx_iret kd581.2.2.2.2.2.2.2.2.1 rfl (by decide) (jle rfl) (jle rfl) ⟨_, rfl, h⟩
set_option maxRecDepth 100000 in
set_option maxHeartbeats 4000000 in
theorem T_X11_isTown {E : jEnv} {d : Nat} {Q : Int32 → jM → Prop} {x0 : Int32} {S : jM} (h : (x0 < 0 → Q 0 S) ∧ (¬ x0 < 0 → (6 ≤ x0 → Q 0 S) ∧ (¬ 6 ≤ x0 → Q 1 S))) : jFi E mX11_isTown d 0 0 [.int x0] S Q := by
  refine jF_of (by decide) (jle rfl) ?_
  refine jx_lv (lv1 := [(0, .int x0)]) [0] rfl ?_
  refine jx_iload_n 0 kd582.1 rfl rfl ?_
  refine jx_if_lt (tgt := 14) kd582.2.1 (by decide) (fun c1 => ?_) (fun c1 => ?_)
  · replace h := h.1 c1
    refine jx_iconst (v := 0) kd582.2.2.2.2.2.2.2.1 (by decide) ?_
    exact jx_iret kd582.2.2.2.2.2.2.2.2.1 rfl (by decide) (jle rfl) (jle rfl) ⟨_, rfl, h⟩
  replace h := h.2 c1
  refine jx_iload_n 0 kd582.2.2.1 rfl rfl ?_
  refine jx_bipush (v := 6) kd582.2.2.2.1 (by decide) ?_
  refine jx_icmp_ge (tgt := 14) kd582.2.2.2.2.1 (by decide) (fun c2 => ?_) (fun c2 => ?_)
  · replace h := h.1 c2
    refine jx_iconst (v := 0) kd582.2.2.2.2.2.2.2.1 (by decide) ?_
    exact jx_iret kd582.2.2.2.2.2.2.2.2.1 rfl (by decide) (jle rfl) (jle rfl) ⟨_, rfl, h⟩
  replace h := h.2 c2
  refine jx_iconst (v := 1) kd582.2.2.2.2.2.1 (by decide) ?_
  refine jx_goto (tgt := 15) kd582.2.2.2.2.2.2.1 (by decide) ?_
  exact jx_iret kd582.2.2.2.2.2.2.2.2.1 rfl (by decide) (jle rfl) (jle rfl) ⟨_, rfl, h⟩
set_option maxRecDepth 100000 in
set_option maxHeartbeats 4000000 in
theorem T_X11_isOf {E : jEnv} {d : Nat} {Q : Int32 → jM → Prop} {x0 : Int32} {x1 : Int32} {S : jM} (h : (x0 = x1 → Q 1 S) ∧ (¬ x0 = x1 → (x1 = 0 → Q 1 S) ∧ (¬ x1 = 0 → (x1 = 1 → (x0 = 3 → Q 1 S) ∧ (¬ x0 = 3 → (x1 = 2 → (x0 = 4 → Q 1 S) ∧ (¬ x0 = 4 → Q 0 S)) ∧ (¬ x1 = 2 → Q 0 S))) ∧ (¬ x1 = 1 → (x1 = 2 → (x0 = 4 → Q 1 S) ∧ (¬ x0 = 4 → Q 0 S)) ∧ (¬ x1 = 2 → Q 0 S))))) : jFi E mX11_isOf d 0 0 [.int x0, .int x1] S Q := by
  refine jF_of (by decide) (jle rfl) ?_
  refine jx_lv (lv1 := [(0, .int x0), (1, .int x1)]) [0, 1] rfl ?_
  refine jx_iload_n 0 kd629.1 rfl rfl ?_
  refine jx_iload_n 1 kd629.2.1 rfl rfl ?_
  refine jx_icmp_eq (tgt := 29) kd629.2.2.1 (by decide) (fun c1 => ?_) (fun c1 => ?_)
  · replace h := h.1 c1
    refine jx_iconst (v := 1) kd630.2.2.2.2.2.2.2.2.1 (by decide) ?_
    refine jx_goto (tgt := 34) kd631.1 (by decide) ?_
    exact jx_iret kd631.2.2.1 rfl (by decide) (jle rfl) (jle rfl) ⟨_, rfl, h⟩
  replace h := h.2 c1
  refine jx_iload_n 1 kd629.2.2.2.1 rfl rfl ?_
  refine jx_if_eq (tgt := 29) kd629.2.2.2.2.1 (by decide) (fun c2 => ?_) (fun c2 => ?_)
  · replace h := h.1 c2
    refine jx_iconst (v := 1) kd630.2.2.2.2.2.2.2.2.1 (by decide) ?_
    refine jx_goto (tgt := 34) kd631.1 (by decide) ?_
    exact jx_iret kd631.2.2.1 rfl (by decide) (jle rfl) (jle rfl) ⟨_, rfl, h⟩
  replace h := h.2 c2
  refine jx_iload_n 1 kd629.2.2.2.2.2.1 rfl rfl ?_
  refine jx_iconst (v := 1) kd629.2.2.2.2.2.2.1 (by decide) ?_
  refine jx_icmp_ne (tgt := 19) kd629.2.2.2.2.2.2.2.1 (by decide) (fun c3 => ?_) (fun c3 => ?_)
  · replace h := h.2 c3
    refine jx_iload_n 1 kd630.2.2.1 rfl rfl ?_
    refine jx_iconst (v := 2) kd630.2.2.2.1 (by decide) ?_
    refine jx_icmp_ne (tgt := 33) kd630.2.2.2.2.1 (by decide) (fun c4 => ?_) (fun c4 => ?_)
    · replace h := h.2 c4
      refine jx_iconst (v := 0) kd631.2.1 (by decide) ?_
      exact jx_iret kd631.2.2.1 rfl (by decide) (jle rfl) (jle rfl) ⟨_, rfl, h⟩
    replace h := h.1 c4
    refine jx_iload_n 0 kd630.2.2.2.2.2.1 rfl rfl ?_
    refine jx_iconst (v := 4) kd630.2.2.2.2.2.2.1 (by decide) ?_
    refine jx_icmp_ne (tgt := 33) kd630.2.2.2.2.2.2.2.1 (by decide) (fun c5 => ?_) (fun c5 => ?_)
    · replace h := h.2 c5
      refine jx_iconst (v := 0) kd631.2.1 (by decide) ?_
      exact jx_iret kd631.2.2.1 rfl (by decide) (jle rfl) (jle rfl) ⟨_, rfl, h⟩
    replace h := h.1 c5
    refine jx_iconst (v := 1) kd630.2.2.2.2.2.2.2.2.1 (by decide) ?_
    refine jx_goto (tgt := 34) kd631.1 (by decide) ?_
    exact jx_iret kd631.2.2.1 rfl (by decide) (jle rfl) (jle rfl) ⟨_, rfl, h⟩
  replace h := h.1 c3
  refine jx_iload_n 0 kd629.2.2.2.2.2.2.2.2.1 rfl rfl ?_
  refine jx_iconst (v := 3) kd630.1 (by decide) ?_
  refine jx_icmp_eq (tgt := 29) kd630.2.1 (by decide) (fun c6 => ?_) (fun c6 => ?_)
  · replace h := h.1 c6
    refine jx_iconst (v := 1) kd630.2.2.2.2.2.2.2.2.1 (by decide) ?_
    refine jx_goto (tgt := 34) kd631.1 (by decide) ?_
    exact jx_iret kd631.2.2.1 rfl (by decide) (jle rfl) (jle rfl) ⟨_, rfl, h⟩
  replace h := h.2 c6
  refine jx_iload_n 1 kd630.2.2.1 rfl rfl ?_
  refine jx_iconst (v := 2) kd630.2.2.2.1 (by decide) ?_
  refine jx_icmp_ne (tgt := 33) kd630.2.2.2.2.1 (by decide) (fun c7 => ?_) (fun c7 => ?_)
  · replace h := h.2 c7
    refine jx_iconst (v := 0) kd631.2.1 (by decide) ?_
    exact jx_iret kd631.2.2.1 rfl (by decide) (jle rfl) (jle rfl) ⟨_, rfl, h⟩
  replace h := h.1 c7
  refine jx_iload_n 0 kd630.2.2.2.2.2.1 rfl rfl ?_
  refine jx_iconst (v := 4) kd630.2.2.2.2.2.2.1 (by decide) ?_
  refine jx_icmp_ne (tgt := 33) kd630.2.2.2.2.2.2.2.1 (by decide) (fun c8 => ?_) (fun c8 => ?_)
  · replace h := h.2 c8
    refine jx_iconst (v := 0) kd631.2.1 (by decide) ?_
    exact jx_iret kd631.2.2.1 rfl (by decide) (jle rfl) (jle rfl) ⟨_, rfl, h⟩
  replace h := h.1 c8
  refine jx_iconst (v := 1) kd630.2.2.2.2.2.2.2.2.1 (by decide) ?_
  refine jx_goto (tgt := 34) kd631.1 (by decide) ?_
  exact jx_iret kd631.2.2.1 rfl (by decide) (jle rfl) (jle rfl) ⟨_, rfl, h⟩
set_option maxRecDepth 100000 in
set_option maxHeartbeats 4000000 in
theorem T_X11_textAt {E : jEnv} {d : Nat} {Q : Int32 → jM → Prop} {a0 : Nat} {x1 : Int32} {S : jM} (h : Q (135 + (200 * x1)) S) : jFi E mX11_textAt d 0 0 [.ref a0, .int x1] S Q := by
  refine jF_of (by decide) (jle rfl) ?_
  refine jx_lv (lv1 := [(0, .ref a0), (1, .int x1)]) [0, 1] rfl ?_
  refine jx_sipush (v := 135) kd576.1 (by decide) ?_
  refine jx_sipush (v := 200) kd576.2.1 (by decide) ?_
  refine jx_iload_n 1 kd576.2.2.1 rfl rfl ?_
  refine jx_imul kd576.2.2.2.1 ?_
  refine jx_iadd kd576.2.2.2.2.1 ?_
  exact jx_iret kd576.2.2.2.2.2.1 rfl rfl (jle rfl) (jle rfl) ⟨_, rfl, h⟩
set_option maxRecDepth 100000 in
set_option maxHeartbeats 4000000 in
theorem T_X11_joined {E : jEnv} {d : Nat} {Q : Int32 → jM → Prop} {x0 : Int32} {x1 : Int32} {x2 : Int32} {S : jM} (h : (x0 = 38 → (x1 = 0 → Q 0 S) ∧ (¬ x1 = 0 → (x2 = 0 → Q 0 S) ∧ (¬ x2 = 0 → Q 1 S))) ∧ (x0 = 42 → Q (x1 * x2) S) ∧ (x0 = 43 → Q (x1 + x2) S) ∧ (x0 = 45 → Q (x1 - x2) S) ∧ (x0 = 47 → (x2 = 0 → Q 0 S) ∧ (¬ x2 = 0 → (x2 = (-1) → Q (-x1) S) ∧ (¬ x2 = (-1) → (¬ x2 = 0) ∧ (Q (x1 / x2) S)))) ∧ (x0 = 60 → (x2 ≤ x1 → Q 0 S) ∧ (¬ x2 ≤ x1 → Q 1 S)) ∧ (x0 = 61 → (x1 = x2 → Q 1 S) ∧ (¬ x1 = x2 → Q 0 S)) ∧ (x0 = 62 → (x1 ≤ x2 → Q 0 S) ∧ (¬ x1 ≤ x2 → Q 1 S)) ∧ (¬ x0 = 38 → ¬ x0 = 42 → ¬ x0 = 43 → ¬ x0 = 45 → ¬ x0 = 47 → ¬ x0 = 60 → ¬ x0 = 61 → ¬ x0 = 62 → (x1 = 0 → (x2 = 0 → Q 0 S) ∧ (¬ x2 = 0 → Q 1 S)) ∧ (¬ x1 = 0 → Q 1 S))) : jFi E mX11_joined d 0 0 [.int x0, .int x1, .int x2] S Q := by
  refine jF_of (by decide) (jle rfl) ?_
  refine jx_lv (lv1 := [(0, .int x0), (1, .int x1), (2, .int x2)]) [0, 1, 2] rfl ?_
  refine jx_iload_n 0 kd936.1 rfl rfl ?_
  by_cases c1 : x0 = 38
  · replace h := h.1 c1
    refine jx_tableIn (v := 38) (tgt := 183) (off := 182) kd936.2.1 c1 (by decide) (by decide) (by decide) (by decide) ?_
    refine jx_iload_n 1 kd941.2.2.2.2.1 rfl rfl ?_
    refine jx_if_eq (tgt := 195) kd941.2.2.2.2.2.1 (by decide) (fun c2 => ?_) (fun c2 => ?_)
    · replace h := h.1 c2
      refine jx_iconst (v := 0) kd942.2.1 (by decide) ?_
      exact jx_iret kd942.2.2.1 rfl rfl (jle rfl) (jle rfl) ⟨_, rfl, h⟩
    replace h := h.2 c2
    refine jx_iload_n 2 kd941.2.2.2.2.2.2.1 rfl rfl ?_
    refine jx_if_eq (tgt := 195) kd941.2.2.2.2.2.2.2.1 (by decide) (fun c3 => ?_) (fun c3 => ?_)
    · replace h := h.1 c3
      refine jx_iconst (v := 0) kd942.2.1 (by decide) ?_
      exact jx_iret kd942.2.2.1 rfl rfl (jle rfl) (jle rfl) ⟨_, rfl, h⟩
    replace h := h.2 c3
    refine jx_iconst (v := 1) kd941.2.2.2.2.2.2.2.2.1 (by decide) ?_
    refine jx_goto (tgt := 196) kd942.1 (by decide) ?_
    exact jx_iret kd942.2.2.1 rfl rfl (jle rfl) (jle rfl) ⟨_, rfl, h⟩
  replace h := h.2
  by_cases c4 : x0 = 42
  · replace h := h.1 c4
    refine jx_tableIn (v := 42) (tgt := 124) (off := 123) kd936.2.1 c4 (by decide) (by decide) (by decide) (by decide) ?_
    refine jx_iload_n 1 kd937.2.1 rfl rfl ?_
    refine jx_iload_n 2 kd937.2.2.1 rfl rfl ?_
    refine jx_imul kd937.2.2.2.1 ?_
    exact jx_iret kd937.2.2.2.2.1 rfl rfl (jle rfl) (jle rfl) ⟨_, rfl, h⟩
  replace h := h.2
  by_cases c5 : x0 = 43
  · replace h := h.1 c5
    refine jx_tableIn (v := 43) (tgt := 116) (off := 115) kd936.2.1 c5 (by decide) (by decide) (by decide) (by decide) ?_
    refine jx_iload_n 1 kd936.2.2.1 rfl rfl ?_
    refine jx_iload_n 2 kd936.2.2.2.1 rfl rfl ?_
    refine jx_iadd kd936.2.2.2.2.1 ?_
    exact jx_iret kd936.2.2.2.2.2.1 rfl rfl (jle rfl) (jle rfl) ⟨_, rfl, h⟩
  replace h := h.2
  by_cases c6 : x0 = 45
  · replace h := h.1 c6
    refine jx_tableIn (v := 45) (tgt := 120) (off := 119) kd936.2.1 c6 (by decide) (by decide) (by decide) (by decide) ?_
    refine jx_iload_n 1 kd936.2.2.2.2.2.2.1 rfl rfl ?_
    refine jx_iload_n 2 kd936.2.2.2.2.2.2.2.1 rfl rfl ?_
    refine jx_isub kd936.2.2.2.2.2.2.2.2.1 ?_
    exact jx_iret kd937.1 rfl rfl (jle rfl) (jle rfl) ⟨_, rfl, h⟩
  replace h := h.2
  by_cases c7 : x0 = 47
  · replace h := h.1 c7
    refine jx_tableIn (v := 47) (tgt := 128) (off := 127) kd936.2.1 c7 (by decide) (by decide) (by decide) (by decide) ?_
    refine jx_iload_n 2 kd937.2.2.2.2.2.1 rfl rfl ?_
    refine jx_if_ne (tgt := 136) kd937.2.2.2.2.2.2.1 (by decide) (fun c8 => ?_) (fun c8 => ?_)
    · replace h := h.2 c8
      refine jx_iload_n 2 kd938.1 rfl rfl ?_
      refine jx_iconst (v := (-1)) kd938.2.1 (by decide) ?_
      refine jx_icmp_ne (tgt := 146) kd938.2.2.1 (by decide) (fun c9 => ?_) (fun c9 => ?_)
      · replace h := h.2 c9
        refine jx_iload_n 1 kd938.2.2.2.2.2.2.1 rfl rfl ?_
        refine jx_iload_n 2 kd938.2.2.2.2.2.2.2.1 rfl rfl ?_
        obtain ⟨hz10, h⟩ := h
        refine jx_idiv kd938.2.2.2.2.2.2.2.2.1 hz10 ?_
        exact jx_iret kd939.1 rfl rfl (jle rfl) (jle rfl) ⟨_, rfl, h⟩
      replace h := h.1 c9
      refine jx_iload_n 1 kd938.2.2.2.1 rfl rfl ?_
      refine jx_ineg kd938.2.2.2.2.1 ?_
      refine jx_goto (tgt := 149) kd938.2.2.2.2.2.1 (by decide) ?_
      exact jx_iret kd939.1 rfl rfl (jle rfl) (jle rfl) ⟨_, rfl, h⟩
    replace h := h.1 c8
    refine jx_iconst (v := 0) kd937.2.2.2.2.2.2.2.1 (by decide) ?_
    refine jx_goto (tgt := 149) kd937.2.2.2.2.2.2.2.2.1 (by decide) ?_
    exact jx_iret kd939.1 rfl rfl (jle rfl) (jle rfl) ⟨_, rfl, h⟩
  replace h := h.2
  by_cases c11 : x0 = 60
  · replace h := h.1 c11
    refine jx_tableIn (v := 60) (tgt := 150) (off := 149) kd936.2.1 c11 (by decide) (by decide) (by decide) (by decide) ?_
    refine jx_iload_n 1 kd939.2.1 rfl rfl ?_
    refine jx_iload_n 2 kd939.2.2.1 rfl rfl ?_
    refine jx_icmp_ge (tgt := 159) kd939.2.2.2.1 (by decide) (fun c12 => ?_) (fun c12 => ?_)
    · replace h := h.1 c12
      refine jx_iconst (v := 0) kd939.2.2.2.2.2.2.1 (by decide) ?_
      exact jx_iret kd939.2.2.2.2.2.2.2.1 rfl rfl (jle rfl) (jle rfl) ⟨_, rfl, h⟩
    replace h := h.2 c12
    refine jx_iconst (v := 1) kd939.2.2.2.2.1 (by decide) ?_
    refine jx_goto (tgt := 160) kd939.2.2.2.2.2.1 (by decide) ?_
    exact jx_iret kd939.2.2.2.2.2.2.2.1 rfl rfl (jle rfl) (jle rfl) ⟨_, rfl, h⟩
  replace h := h.2
  by_cases c13 : x0 = 61
  · replace h := h.1 c13
    refine jx_tableIn (v := 61) (tgt := 172) (off := 171) kd936.2.1 c13 (by decide) (by decide) (by decide) (by decide) ?_
    refine jx_iload_n 1 kd940.2.2.2.2.2.2.1 rfl rfl ?_
    refine jx_iload_n 2 kd940.2.2.2.2.2.2.2.1 rfl rfl ?_
    refine jx_icmp_ne (tgt := 181) kd940.2.2.2.2.2.2.2.2.1 (by decide) (fun c14 => ?_) (fun c14 => ?_)
    · replace h := h.2 c14
      refine jx_iconst (v := 0) kd941.2.2.1 (by decide) ?_
      exact jx_iret kd941.2.2.2.1 rfl rfl (jle rfl) (jle rfl) ⟨_, rfl, h⟩
    replace h := h.1 c14
    refine jx_iconst (v := 1) kd941.1 (by decide) ?_
    refine jx_goto (tgt := 182) kd941.2.1 (by decide) ?_
    exact jx_iret kd941.2.2.2.1 rfl rfl (jle rfl) (jle rfl) ⟨_, rfl, h⟩
  replace h := h.2
  by_cases c15 : x0 = 62
  · replace h := h.1 c15
    refine jx_tableIn (v := 62) (tgt := 161) (off := 160) kd936.2.1 c15 (by decide) (by decide) (by decide) (by decide) ?_
    refine jx_iload_n 1 kd939.2.2.2.2.2.2.2.2.1 rfl rfl ?_
    refine jx_iload_n 2 kd940.1 rfl rfl ?_
    refine jx_icmp_le (tgt := 170) kd940.2.1 (by decide) (fun c16 => ?_) (fun c16 => ?_)
    · replace h := h.1 c16
      refine jx_iconst (v := 0) kd940.2.2.2.2.1 (by decide) ?_
      exact jx_iret kd940.2.2.2.2.2.1 rfl rfl (jle rfl) (jle rfl) ⟨_, rfl, h⟩
    replace h := h.2 c16
    refine jx_iconst (v := 1) kd940.2.2.1 (by decide) ?_
    refine jx_goto (tgt := 171) kd940.2.2.2.1 (by decide) ?_
    exact jx_iret kd940.2.2.2.2.2.1 rfl rfl (jle rfl) (jle rfl) ⟨_, rfl, h⟩
  replace h := h.2
  replace h := h c1 c4 c5 c6 c7 c11 c13 c15
  refine jx_tableD (tgt := 197) ([38, 42, 43, 45, 47, 60, 61, 62] : List Int) kd936.2.1 (by simp only [List.mem_cons, List.not_mem_nil, or_false, forall_eq_or_imp, forall_eq]; exact ⟨lv_neT c1 (by decide), lv_neT c4 (by decide), lv_neT c5 (by decide), lv_neT c6 (by decide), lv_neT c7 (by decide), lv_neT c11 (by decide), lv_neT c13 (by decide), lv_neT c15 (by decide)⟩) (by decide) (by decide) (by decide) ?_
  refine jx_iload_n 1 kd942.2.2.2.1 rfl rfl ?_
  refine jx_if_ne (tgt := 205) kd942.2.2.2.2.1 (by decide) (fun c17 => ?_) (fun c17 => ?_)
  · replace h := h.2 c17
    refine jx_iconst (v := 1) kd942.2.2.2.2.2.2.2.1 (by decide) ?_
    refine jx_goto (tgt := 210) kd942.2.2.2.2.2.2.2.2.1 (by decide) ?_
    exact jx_iret kd943.2.1 rfl rfl (jle rfl) (jle rfl) ⟨_, rfl, h⟩
  replace h := h.1 c17
  refine jx_iload_n 2 kd942.2.2.2.2.2.1 rfl rfl ?_
  refine jx_if_eq (tgt := 209) kd942.2.2.2.2.2.2.1 (by decide) (fun c18 => ?_) (fun c18 => ?_)
  · replace h := h.1 c18
    refine jx_iconst (v := 0) kd943.1 (by decide) ?_
    exact jx_iret kd943.2.1 rfl rfl (jle rfl) (jle rfl) ⟨_, rfl, h⟩
  replace h := h.2 c18
  refine jx_iconst (v := 1) kd942.2.2.2.2.2.2.2.1 (by decide) ?_
  refine jx_goto (tgt := 210) kd942.2.2.2.2.2.2.2.2.1 (by decide) ?_
  exact jx_iret kd943.2.1 rfl rfl (jle rfl) (jle rfl) ⟨_, rfl, h⟩
set_option maxRecDepth 100000 in
set_option maxHeartbeats 4000000 in
theorem T_X11_isName {E : jEnv} {d : Nat} {Q : Int32 → jM → Prop} {x0 : Int32} {x1 : Int32} {S : jM} (h : (x0 = 0 → (x1 = 107 → Q 1 S) ∧ (¬ x1 = 107 → (x1 = 103 → Q 1 S) ∧ (¬ x1 = 103 → (x1 = 97 → Q 1 S) ∧ (¬ x1 = 97 → Q 0 S)))) ∧ (x0 = 1 → (x1 = 102 → Q 1 S) ∧ (¬ x1 = 102 → (x1 = 97 → Q 1 S) ∧ (¬ x1 = 97 → Q 0 S))) ∧ (¬ x0 = 0 → ¬ x0 = 1 → (x1 = 99 → Q 1 S) ∧ (¬ x1 = 99 → (x1 = 100 → Q 1 S) ∧ (¬ x1 = 100 → Q 0 S)))) : jFi E mX11_isName d 0 0 [.int x0, .int x1] S Q := by
  refine jF_of (by decide) (jle rfl) ?_
  refine jx_lv (lv1 := [(0, .int x0), (1, .int x1)]) [0, 1] rfl ?_
  refine jx_iload_n 0 kd873.1 rfl rfl ?_
  by_cases c1 : x0 = 0
  · replace h := h.1 c1
    refine jx_lookIn (v := 0) (tgt := 28) (off := 27) kd873.2.1 (by decide) c1 (by decide) (by decide) ?_
    refine jx_iload_n 1 kd873.2.2.1 rfl rfl ?_
    refine jx_bipush (v := 107) kd873.2.2.2.1 (by decide) ?_
    refine jx_icmp_eq (tgt := 46) kd873.2.2.2.2.1 (by decide) (fun c2 => ?_) (fun c2 => ?_)
    · replace h := h.1 c2
      refine jx_iconst (v := 1) kd874.2.2.1 (by decide) ?_
      refine jx_goto (tgt := 51) kd874.2.2.2.1 (by decide) ?_
      exact jx_iret kd874.2.2.2.2.2.1 rfl (by decide) (jle rfl) (jle rfl) ⟨_, rfl, h⟩
    replace h := h.2 c2
    refine jx_iload_n 1 kd873.2.2.2.2.2.1 rfl rfl ?_
    refine jx_bipush (v := 103) kd873.2.2.2.2.2.2.1 (by decide) ?_
    refine jx_icmp_eq (tgt := 46) kd873.2.2.2.2.2.2.2.1 (by decide) (fun c3 => ?_) (fun c3 => ?_)
    · replace h := h.1 c3
      refine jx_iconst (v := 1) kd874.2.2.1 (by decide) ?_
      refine jx_goto (tgt := 51) kd874.2.2.2.1 (by decide) ?_
      exact jx_iret kd874.2.2.2.2.2.1 rfl (by decide) (jle rfl) (jle rfl) ⟨_, rfl, h⟩
    replace h := h.2 c3
    refine jx_iload_n 1 kd873.2.2.2.2.2.2.2.2.1 rfl rfl ?_
    refine jx_bipush (v := 97) kd874.1 (by decide) ?_
    refine jx_icmp_ne (tgt := 50) kd874.2.1 (by decide) (fun c4 => ?_) (fun c4 => ?_)
    · replace h := h.2 c4
      refine jx_iconst (v := 0) kd874.2.2.2.2.1 (by decide) ?_
      exact jx_iret kd874.2.2.2.2.2.1 rfl (by decide) (jle rfl) (jle rfl) ⟨_, rfl, h⟩
    replace h := h.1 c4
    refine jx_iconst (v := 1) kd874.2.2.1 (by decide) ?_
    refine jx_goto (tgt := 51) kd874.2.2.2.1 (by decide) ?_
    exact jx_iret kd874.2.2.2.2.2.1 rfl (by decide) (jle rfl) (jle rfl) ⟨_, rfl, h⟩
  replace h := h.2
  by_cases c5 : x0 = 1
  · replace h := h.1 c5
    refine jx_lookIn (v := 1) (tgt := 52) (off := 51) kd873.2.1 (by decide) c5 (by decide) (by decide) ?_
    refine jx_iload_n 1 kd874.2.2.2.2.2.2.1 rfl rfl ?_
    refine jx_bipush (v := 102) kd874.2.2.2.2.2.2.2.1 (by decide) ?_
    refine jx_icmp_eq (tgt := 64) kd874.2.2.2.2.2.2.2.2.1 (by decide) (fun c6 => ?_) (fun c6 => ?_)
    · replace h := h.1 c6
      refine jx_iconst (v := 1) kd875.2.2.2.1 (by decide) ?_
      refine jx_goto (tgt := 69) kd875.2.2.2.2.1 (by decide) ?_
      exact jx_iret kd875.2.2.2.2.2.2.1 rfl (by decide) (jle rfl) (jle rfl) ⟨_, rfl, h⟩
    replace h := h.2 c6
    refine jx_iload_n 1 kd875.1 rfl rfl ?_
    refine jx_bipush (v := 97) kd875.2.1 (by decide) ?_
    refine jx_icmp_ne (tgt := 68) kd875.2.2.1 (by decide) (fun c7 => ?_) (fun c7 => ?_)
    · replace h := h.2 c7
      refine jx_iconst (v := 0) kd875.2.2.2.2.2.1 (by decide) ?_
      exact jx_iret kd875.2.2.2.2.2.2.1 rfl (by decide) (jle rfl) (jle rfl) ⟨_, rfl, h⟩
    replace h := h.1 c7
    refine jx_iconst (v := 1) kd875.2.2.2.1 (by decide) ?_
    refine jx_goto (tgt := 69) kd875.2.2.2.2.1 (by decide) ?_
    exact jx_iret kd875.2.2.2.2.2.2.1 rfl (by decide) (jle rfl) (jle rfl) ⟨_, rfl, h⟩
  replace h := h.2
  replace h := h c1 c5
  refine jx_lookD (tgt := 70) kd873.2.1 (by decide) (by simp only [List.mem_cons, List.not_mem_nil, or_false, forall_eq_or_imp, forall_eq]; exact ⟨lv_neT c1 (by decide), lv_neT c5 (by decide)⟩) (by decide) ?_
  refine jx_iload_n 1 kd875.2.2.2.2.2.2.2.1 rfl rfl ?_
  refine jx_bipush (v := 99) kd875.2.2.2.2.2.2.2.2.1 (by decide) ?_
  refine jx_icmp_eq (tgt := 82) kd876.1 (by decide) (fun c8 => ?_) (fun c8 => ?_)
  · replace h := h.1 c8
    refine jx_iconst (v := 1) kd876.2.2.2.2.1 (by decide) ?_
    refine jx_goto (tgt := 87) kd876.2.2.2.2.2.1 (by decide) ?_
    exact jx_iret kd876.2.2.2.2.2.2.2.1 rfl (by decide) (jle rfl) (jle rfl) ⟨_, rfl, h⟩
  replace h := h.2 c8
  refine jx_iload_n 1 kd876.2.1 rfl rfl ?_
  refine jx_bipush (v := 100) kd876.2.2.1 (by decide) ?_
  refine jx_icmp_ne (tgt := 86) kd876.2.2.2.1 (by decide) (fun c9 => ?_) (fun c9 => ?_)
  · replace h := h.2 c9
    refine jx_iconst (v := 0) kd876.2.2.2.2.2.2.1 (by decide) ?_
    exact jx_iret kd876.2.2.2.2.2.2.2.1 rfl (by decide) (jle rfl) (jle rfl) ⟨_, rfl, h⟩
  replace h := h.1 c9
  refine jx_iconst (v := 1) kd876.2.2.2.2.1 (by decide) ?_
  refine jx_goto (tgt := 87) kd876.2.2.2.2.2.1 (by decide) ?_
  exact jx_iret kd876.2.2.2.2.2.2.2.1 rfl (by decide) (jle rfl) (jle rfl) ⟨_, rfl, h⟩
set_option maxRecDepth 100000 in
set_option maxHeartbeats 4000000 in
theorem T_X9_valueOf {E : jEnv} {d : Nat} {Q : Int32 → jM → Prop} {x0 : Int32} {x1 : Int32} {x2 : Int32} {x3 : Int32} {S : jM} (h : (x0 = 10000 → Q x1 S) ∧ (x0 = 10001 → Q x2 S) ∧ (x0 = 10002 → Q x3 S) ∧ (¬ x0 = 10000 → ¬ x0 = 10001 → ¬ x0 = 10002 → Q x0 S)) : jFi E mX9_valueOf d 0 0 [.int x0, .int x1, .int x2, .int x3] S Q := by
  refine jF_of (by decide) (jle rfl) ?_
  refine jx_lv (lv1 := [(0, .int x0), (1, .int x1), (2, .int x2), (3, .int x3)]) [0, 1, 2, 3] rfl ?_
  refine jx_iload_n 0 kd330.1 rfl rfl ?_
  by_cases c1 : x0 = 10000
  · replace h := h.1 c1
    refine jx_tableIn (v := 10000) (tgt := 28) (off := 27) kd330.2.1 c1 (by decide) (by decide) (by decide) (by decide) ?_
    refine jx_iload_n 1 kd330.2.2.1 rfl rfl ?_
    exact jx_iret kd330.2.2.2.1 rfl rfl (jle rfl) (jle rfl) ⟨_, rfl, h⟩
  replace h := h.2
  by_cases c2 : x0 = 10001
  · replace h := h.1 c2
    refine jx_tableIn (v := 10001) (tgt := 30) (off := 29) kd330.2.1 c2 (by decide) (by decide) (by decide) (by decide) ?_
    refine jx_iload_n 2 kd330.2.2.2.2.1 rfl rfl ?_
    exact jx_iret kd330.2.2.2.2.2.1 rfl rfl (jle rfl) (jle rfl) ⟨_, rfl, h⟩
  replace h := h.2
  by_cases c3 : x0 = 10002
  · replace h := h.1 c3
    refine jx_tableIn (v := 10002) (tgt := 32) (off := 31) kd330.2.1 c3 (by decide) (by decide) (by decide) (by decide) ?_
    refine jx_iload_n 3 kd330.2.2.2.2.2.2.1 rfl rfl ?_
    exact jx_iret kd330.2.2.2.2.2.2.2.1 rfl rfl (jle rfl) (jle rfl) ⟨_, rfl, h⟩
  replace h := h.2
  replace h := h c1 c2 c3
  refine jx_tableD (tgt := 34) ([10000, 10001, 10002] : List Int) kd330.2.1 (by simp only [List.mem_cons, List.not_mem_nil, or_false, forall_eq_or_imp, forall_eq]; exact ⟨lv_neT c1 (by decide), lv_neT c2 (by decide), lv_neT c3 (by decide)⟩) (by decide) (by decide) (by decide) ?_
  refine jx_iload_n 0 kd330.2.2.2.2.2.2.2.2.1 rfl rfl ?_
  exact jx_iret kd331.1 rfl rfl (jle rfl) (jle rfl) ⟨_, rfl, h⟩
set_option maxRecDepth 100000 in
set_option maxHeartbeats 4000000 in
theorem T_X9_joined {E : jEnv} {d : Nat} {Q : Int32 → jM → Prop} {x0 : Int32} {x1 : Int32} {x2 : Int32} {S : jM} (h : (x0 = 38 → (x1 = 0 → Q 0 S) ∧ (¬ x1 = 0 → (x2 = 0 → Q 0 S) ∧ (¬ x2 = 0 → Q 1 S))) ∧ (x0 = 42 → Q (x1 * x2) S) ∧ (x0 = 43 → Q (x1 + x2) S) ∧ (x0 = 45 → Q (x1 - x2) S) ∧ (x0 = 60 → (x2 ≤ x1 → Q 0 S) ∧ (¬ x2 ≤ x1 → Q 1 S)) ∧ (x0 = 61 → (x1 = x2 → Q 1 S) ∧ (¬ x1 = x2 → Q 0 S)) ∧ (x0 = 62 → (x1 ≤ x2 → Q 0 S) ∧ (¬ x1 ≤ x2 → Q 1 S)) ∧ (x0 = 124 → (x1 = 0 → (x2 = 0 → Q 0 S) ∧ (¬ x2 = 0 → Q 1 S)) ∧ (¬ x1 = 0 → Q 1 S)) ∧ (¬ x0 = 38 → ¬ x0 = 42 → ¬ x0 = 43 → ¬ x0 = 45 → ¬ x0 = 60 → ¬ x0 = 61 → ¬ x0 = 62 → ¬ x0 = 124 → (x2 = 0 → Q 0 S) ∧ (¬ x2 = 0 → (¬ x2 = 0) ∧ (Q (x1 / x2) S)))) : jFi E mX9_joined d 0 0 [.int x0, .int x1, .int x2] S Q := by
  refine jF_of (by decide) (jle rfl) ?_
  refine jx_lv (lv1 := [(0, .int x0), (1, .int x1), (2, .int x2)]) [0, 1, 2] rfl ?_
  refine jx_iload_n 0 kd332.1 rfl rfl ?_
  by_cases c1 : x0 = 38
  · replace h := h.1 c1
    refine jx_lookIn (v := 38) (tgt := 90) (off := 89) kd332.2.1 (by decide) c1 (by decide) (by decide) ?_
    refine jx_iload_n 1 kd333.2.1 rfl rfl ?_
    refine jx_if_eq (tgt := 102) kd333.2.2.1 (by decide) (fun c2 => ?_) (fun c2 => ?_)
    · replace h := h.1 c2
      refine jx_iconst (v := 0) kd333.2.2.2.2.2.2.2.1 (by decide) ?_
      exact jx_iret kd333.2.2.2.2.2.2.2.2.1 rfl rfl (jle rfl) (jle rfl) ⟨_, rfl, h⟩
    replace h := h.2 c2
    refine jx_iload_n 2 kd333.2.2.2.1 rfl rfl ?_
    refine jx_if_eq (tgt := 102) kd333.2.2.2.2.1 (by decide) (fun c3 => ?_) (fun c3 => ?_)
    · replace h := h.1 c3
      refine jx_iconst (v := 0) kd333.2.2.2.2.2.2.2.1 (by decide) ?_
      exact jx_iret kd333.2.2.2.2.2.2.2.2.1 rfl rfl (jle rfl) (jle rfl) ⟨_, rfl, h⟩
    replace h := h.2 c3
    refine jx_iconst (v := 1) kd333.2.2.2.2.2.1 (by decide) ?_
    refine jx_goto (tgt := 103) kd333.2.2.2.2.2.2.1 (by decide) ?_
    exact jx_iret kd333.2.2.2.2.2.2.2.2.1 rfl rfl (jle rfl) (jle rfl) ⟨_, rfl, h⟩
  replace h := h.2
  by_cases c4 : x0 = 42
  · replace h := h.1 c4
    refine jx_lookIn (v := 42) (tgt := 145) (off := 144) kd332.2.1 (by decide) c4 (by decide) (by decide) ?_
    refine jx_iload_n 1 kd337.2.2.1 rfl rfl ?_
    refine jx_iload_n 2 kd337.2.2.2.1 rfl rfl ?_
    refine jx_imul kd337.2.2.2.2.1 ?_
    exact jx_iret kd337.2.2.2.2.2.1 rfl rfl (jle rfl) (jle rfl) ⟨_, rfl, h⟩
  replace h := h.2
  by_cases c5 : x0 = 43
  · replace h := h.1 c5
    refine jx_lookIn (v := 43) (tgt := 137) (off := 136) kd332.2.1 (by decide) c5 (by decide) (by decide) ?_
    refine jx_iload_n 1 kd336.2.2.2.1 rfl rfl ?_
    refine jx_iload_n 2 kd336.2.2.2.2.1 rfl rfl ?_
    refine jx_iadd kd336.2.2.2.2.2.1 ?_
    exact jx_iret kd336.2.2.2.2.2.2.1 rfl rfl (jle rfl) (jle rfl) ⟨_, rfl, h⟩
  replace h := h.2
  by_cases c6 : x0 = 45
  · replace h := h.1 c6
    refine jx_lookIn (v := 45) (tgt := 141) (off := 140) kd332.2.1 (by decide) c6 (by decide) (by decide) ?_
    refine jx_iload_n 1 kd336.2.2.2.2.2.2.2.1 rfl rfl ?_
    refine jx_iload_n 2 kd336.2.2.2.2.2.2.2.2.1 rfl rfl ?_
    refine jx_isub kd337.1 ?_
    exact jx_iret kd337.2.1 rfl rfl (jle rfl) (jle rfl) ⟨_, rfl, h⟩
  replace h := h.2
  by_cases c7 : x0 = 60
  · replace h := h.1 c7
    refine jx_lookIn (v := 60) (tgt := 104) (off := 103) kd332.2.1 (by decide) c7 (by decide) (by decide) ?_
    refine jx_iload_n 1 kd334.1 rfl rfl ?_
    refine jx_iload_n 2 kd334.2.1 rfl rfl ?_
    refine jx_icmp_ge (tgt := 113) kd334.2.2.1 (by decide) (fun c8 => ?_) (fun c8 => ?_)
    · replace h := h.1 c8
      refine jx_iconst (v := 0) kd334.2.2.2.2.2.1 (by decide) ?_
      exact jx_iret kd334.2.2.2.2.2.2.1 rfl rfl (jle rfl) (jle rfl) ⟨_, rfl, h⟩
    replace h := h.2 c8
    refine jx_iconst (v := 1) kd334.2.2.2.1 (by decide) ?_
    refine jx_goto (tgt := 114) kd334.2.2.2.2.1 (by decide) ?_
    exact jx_iret kd334.2.2.2.2.2.2.1 rfl rfl (jle rfl) (jle rfl) ⟨_, rfl, h⟩
  replace h := h.2
  by_cases c9 : x0 = 61
  · replace h := h.1 c9
    refine jx_lookIn (v := 61) (tgt := 115) (off := 114) kd332.2.1 (by decide) c9 (by decide) (by decide) ?_
    refine jx_iload_n 1 kd334.2.2.2.2.2.2.2.1 rfl rfl ?_
    refine jx_iload_n 2 kd334.2.2.2.2.2.2.2.2.1 rfl rfl ?_
    refine jx_icmp_ne (tgt := 124) kd335.1 (by decide) (fun c10 => ?_) (fun c10 => ?_)
    · replace h := h.2 c10
      refine jx_iconst (v := 0) kd335.2.2.2.1 (by decide) ?_
      exact jx_iret kd335.2.2.2.2.1 rfl rfl (jle rfl) (jle rfl) ⟨_, rfl, h⟩
    replace h := h.1 c10
    refine jx_iconst (v := 1) kd335.2.1 (by decide) ?_
    refine jx_goto (tgt := 125) kd335.2.2.1 (by decide) ?_
    exact jx_iret kd335.2.2.2.2.1 rfl rfl (jle rfl) (jle rfl) ⟨_, rfl, h⟩
  replace h := h.2
  by_cases c11 : x0 = 62
  · replace h := h.1 c11
    refine jx_lookIn (v := 62) (tgt := 126) (off := 125) kd332.2.1 (by decide) c11 (by decide) (by decide) ?_
    refine jx_iload_n 1 kd335.2.2.2.2.2.1 rfl rfl ?_
    refine jx_iload_n 2 kd335.2.2.2.2.2.2.1 rfl rfl ?_
    refine jx_icmp_le (tgt := 135) kd335.2.2.2.2.2.2.2.1 (by decide) (fun c12 => ?_) (fun c12 => ?_)
    · replace h := h.1 c12
      refine jx_iconst (v := 0) kd336.2.1 (by decide) ?_
      exact jx_iret kd336.2.2.1 rfl rfl (jle rfl) (jle rfl) ⟨_, rfl, h⟩
    replace h := h.2 c12
    refine jx_iconst (v := 1) kd335.2.2.2.2.2.2.2.2.1 (by decide) ?_
    refine jx_goto (tgt := 136) kd336.1 (by decide) ?_
    exact jx_iret kd336.2.2.1 rfl rfl (jle rfl) (jle rfl) ⟨_, rfl, h⟩
  replace h := h.2
  by_cases c13 : x0 = 124
  · replace h := h.1 c13
    refine jx_lookIn (v := 124) (tgt := 76) (off := 75) kd332.2.1 (by decide) c13 (by decide) (by decide) ?_
    refine jx_iload_n 1 kd332.2.2.1 rfl rfl ?_
    refine jx_if_ne (tgt := 84) kd332.2.2.2.1 (by decide) (fun c14 => ?_) (fun c14 => ?_)
    · replace h := h.2 c14
      refine jx_iconst (v := 1) kd332.2.2.2.2.2.2.1 (by decide) ?_
      refine jx_goto (tgt := 89) kd332.2.2.2.2.2.2.2.1 (by decide) ?_
      exact jx_iret kd333.1 rfl rfl (jle rfl) (jle rfl) ⟨_, rfl, h⟩
    replace h := h.1 c14
    refine jx_iload_n 2 kd332.2.2.2.2.1 rfl rfl ?_
    refine jx_if_eq (tgt := 88) kd332.2.2.2.2.2.1 (by decide) (fun c15 => ?_) (fun c15 => ?_)
    · replace h := h.1 c15
      refine jx_iconst (v := 0) kd332.2.2.2.2.2.2.2.2.1 (by decide) ?_
      exact jx_iret kd333.1 rfl rfl (jle rfl) (jle rfl) ⟨_, rfl, h⟩
    replace h := h.2 c15
    refine jx_iconst (v := 1) kd332.2.2.2.2.2.2.1 (by decide) ?_
    refine jx_goto (tgt := 89) kd332.2.2.2.2.2.2.2.1 (by decide) ?_
    exact jx_iret kd333.1 rfl rfl (jle rfl) (jle rfl) ⟨_, rfl, h⟩
  replace h := h.2
  replace h := h c1 c4 c5 c6 c7 c9 c11 c13
  refine jx_lookD (tgt := 149) kd332.2.1 (by decide) (by simp only [List.mem_cons, List.not_mem_nil, or_false, forall_eq_or_imp, forall_eq]; exact ⟨lv_neT c1 (by decide), lv_neT c4 (by decide), lv_neT c5 (by decide), lv_neT c6 (by decide), lv_neT c7 (by decide), lv_neT c9 (by decide), lv_neT c11 (by decide), lv_neT c13 (by decide)⟩) (by decide) ?_
  refine jx_iload_n 2 kd337.2.2.2.2.2.2.1 rfl rfl ?_
  refine jx_if_ne (tgt := 157) kd337.2.2.2.2.2.2.2.1 (by decide) (fun c16 => ?_) (fun c16 => ?_)
  · replace h := h.2 c16
    refine jx_iload_n 1 kd338.2.1 rfl rfl ?_
    refine jx_iload_n 2 kd338.2.2.1 rfl rfl ?_
    obtain ⟨hz17, h⟩ := h
    refine jx_idiv kd338.2.2.2.1 hz17 ?_
    exact jx_iret kd338.2.2.2.2.1 rfl rfl (jle rfl) (jle rfl) ⟨_, rfl, h⟩
  replace h := h.1 c16
  refine jx_iconst (v := 0) kd337.2.2.2.2.2.2.2.2.1 (by decide) ?_
  refine jx_goto (tgt := 160) kd338.1 (by decide) ?_
  exact jx_iret kd338.2.2.2.2.1 rfl rfl (jle rfl) (jle rfl) ⟨_, rfl, h⟩
end
section
/-! LEAVES that are plain functions of their arguments -/
def jwi (v b : Int32) : Int32 := if v < 0 then 0 else if b ≤ v then 0 else 1
def jbc (x : Int32) : Int32 :=
  let y1 := ((x - ((jushr x 1) &&& 1431655765)) &&& 858993459) + ((jushr (x - ((jushr x 1) &&& 1431655765)) 2) &&& 858993459)
  let y2 := (((y1 + (jushr y1 4)) &&& 252645135) + (jushr ((y1 + (jushr y1 4)) &&& 252645135) 8)) + (jushr (((y1 + (jushr y1 4)) &&& 252645135) + (jushr ((y1 + (jushr y1 4)) &&& 252645135) 8)) 16)
  y2 &&& 63
def jisin (v lo hi : Int64) : Int32 := if lg_cmp v lo < 0 then 0 else if 0 < lg_cmp v hi then 0 else 1
def jornone (v : Int32) : Int32 := if 0 ≤ v then v else (-1000000005)
def jclamp (v lo hi : Int32) : Int32 := if lo ≤ v then (if v ≤ hi then v else hi) else lo
def joff (a b : Int32) : Int32 := if b ≤ a then a - b else b - a
def jisg (g : Int32) : Int32 := if g < 0 then 0 else if 10 ≤ g then 0 else 1
def jist (g : Int32) : Int32 := if g < 0 then 0 else if 6 ≤ g then 0 else 1
def jisof (own kind : Int32) : Int32 := if own = kind then 1 else if kind = 0 then 1 else if kind = 1 then (if own = 3 then 1 else 0) else if kind = 2 then (if own = 4 then 1 else 0) else 0
def jtextat (t : Int32) : Int32 := 135 + 200 * t
def jjoinM (s x y : Int32) : Int32 :=
  if s = 38 then (if x = 0 then 0 else if y = 0 then 0 else 1) else if s = 42 then x * y else if s = 43 then x + y else if s = 45 then x - y
  else if s = 47 then (if y = 0 then 0 else if y = (-1) then -x else x / y) else if s = 60 then (if y ≤ x then 0 else 1) else if s = 61 then (if x = y then 1 else 0) else if s = 62 then (if x ≤ y then 0 else 1)
  else (if x = 0 then (if y = 0 then 0 else 1) else 1)
def jjoinC (s x y : Int32) : Int32 :=
  if s = 38 then (if x = 0 then 0 else if y = 0 then 0 else 1) else if s = 42 then x * y else if s = 43 then x + y else if s = 45 then x - y
  else if s = 60 then (if y ≤ x then 0 else 1) else if s = 61 then (if x = y then 1 else 0) else if s = 62 then (if x ≤ y then 0 else 1)
  else if s = 124 then (if x = 0 then (if y = 0 then 0 else 1) else 1) else (if y = 0 then 0 else x / y)
def jisname (key c : Int32) : Int32 := if key = 0 then (if c = 107 then 1 else if c = 103 then 1 else if c = 97 then 1 else 0) else if key = 1 then (if c = 102 then 1 else if c = 97 then 1 else 0) else (if c = 99 then 1 else if c = 100 then 1 else 0)
def jvalof (w x y z : Int32) : Int32 := if w = 10000 then x else if w = 10001 then y else if w = 10002 then z else w
theorem c_X10_within {E : jEnv} {d : Nat} {Q : Int32 → jM → Prop} {x0 x1 : Int32} {S : jM} (h : Q (jwi x0 x1) S) : jFi E mX10_within d 0 0 [.int x0, .int x1] S Q :=
  T_X10_within (by unfold jwi at h; (repeat' first | apply And.intro | intro _) <;> simp_all)
theorem c_J6_bitCount_0f7a4 {E : jEnv} {d : Nat} {Q : Int32 → jM → Prop} {x0 : Int32} {S : jM} (h : Q (jbc x0) S) : jFi E mJ6_bitCount_0f7a4 d 0 0 [.int x0] S Q :=
  T_J6_bitCount_0f7a4 (by intro y1 e1 y2 e2; subst e1; subst e2; exact h)
theorem c_X11_isIn {E : jEnv} {d : Nat} {Q : Int32 → jM → Prop} {x0 x2 x4 : Int64} {S : jM} (h : Q (jisin x0 x2 x4) S) : jFi E mX11_isIn d 0 0 [.long x0, .long x2, .long x4] S Q :=
  T_X11_isIn (by unfold jisin at h; (repeat' first | apply And.intro | intro _) <;> simp_all)
theorem c_X11_orNone {E : jEnv} {d : Nat} {Q : Int32 → jM → Prop} {x0 : Int32} {S : jM} (h : Q (jornone x0) S) : jFi E mX11_orNone d 0 0 [.int x0] S Q :=
  T_X11_orNone (by unfold jornone at h; (repeat' first | apply And.intro | intro _) <;> simp_all)
theorem c_X11_within {E : jEnv} {d : Nat} {Q : Int32 → jM → Prop} {x0 x1 x2 : Int32} {S : jM} (h : Q (jclamp x0 x1 x2) S) : jFi E mX11_within d 0 0 [.int x0, .int x1, .int x2] S Q :=
  T_X11_within (by unfold jclamp at h; (repeat' first | apply And.intro | intro _) <;> simp_all)
theorem c_X11_off {E : jEnv} {d : Nat} {Q : Int32 → jM → Prop} {x0 x1 : Int32} {S : jM} (h : Q (joff x0 x1) S) : jFi E mX11_off d 0 0 [.int x0, .int x1] S Q :=
  T_X11_off (by unfold joff at h; (repeat' first | apply And.intro | intro _) <;> simp_all)
theorem c_X11_isGesture {E : jEnv} {d : Nat} {Q : Int32 → jM → Prop} {x0 : Int32} {S : jM} (h : Q (jisg x0) S) : jFi E mX11_isGesture d 0 0 [.int x0] S Q :=
  T_X11_isGesture (by unfold jisg at h; (repeat' first | apply And.intro | intro _) <;> simp_all)
theorem c_X11_isTown {E : jEnv} {d : Nat} {Q : Int32 → jM → Prop} {x0 : Int32} {S : jM} (h : Q (jist x0) S) : jFi E mX11_isTown d 0 0 [.int x0] S Q :=
  T_X11_isTown (by unfold jist at h; (repeat' first | apply And.intro | intro _) <;> simp_all)
theorem c_X11_isOf {E : jEnv} {d : Nat} {Q : Int32 → jM → Prop} {x0 x1 : Int32} {S : jM} (h : Q (jisof x0 x1) S) : jFi E mX11_isOf d 0 0 [.int x0, .int x1] S Q :=
  T_X11_isOf (by unfold jisof at h; (repeat' first | apply And.intro | intro _) <;> simp_all)
theorem c_X11_textAt {E : jEnv} {d : Nat} {Q : Int32 → jM → Prop} {a0 : Nat} {x1 : Int32} {S : jM} (h : Q (jtextat x1) S) : jFi E mX11_textAt d 0 0 [.ref a0, .int x1] S Q := T_X11_textAt h
theorem c_X11_joined {E : jEnv} {d : Nat} {Q : Int32 → jM → Prop} {x0 x1 x2 : Int32} {S : jM} (h : Q (jjoinM x0 x1 x2) S) : jFi E mX11_joined d 0 0 [.int x0, .int x1, .int x2] S Q :=
  T_X11_joined (by unfold jjoinM at h; (repeat' first | apply And.intro | intro _) <;> simp_all)
theorem c_X9_joined {E : jEnv} {d : Nat} {Q : Int32 → jM → Prop} {x0 x1 x2 : Int32} {S : jM} (h : Q (jjoinC x0 x1 x2) S) : jFi E mX9_joined d 0 0 [.int x0, .int x1, .int x2] S Q :=
  T_X9_joined (by unfold jjoinC at h; (repeat' first | apply And.intro | intro _) <;> simp_all)
theorem c_X11_isName {E : jEnv} {d : Nat} {Q : Int32 → jM → Prop} {x0 x1 : Int32} {S : jM} (h : Q (jisname x0 x1) S) : jFi E mX11_isName d 0 0 [.int x0, .int x1] S Q :=
  T_X11_isName (by unfold jisname at h; (repeat' first | apply And.intro | intro _) <;> simp_all)
theorem c_X9_valueOf {E : jEnv} {d : Nat} {Q : Int32 → jM → Prop} {x0 x1 x2 x3 : Int32} {S : jM} (h : Q (jvalof x0 x1 x2 x3) S) : jFi E mX9_valueOf d 0 0 [.int x0, .int x1, .int x2, .int x3] S Q :=
  T_X9_valueOf (by unfold jvalof at h; (repeat' first | apply And.intro | intro _) <;> simp_all)
/-- how many bits, by taking the lowest away -/
def jmanyL : Nat → Int32 → Int32 → Int32
  | 0, n, _ => n
  | f + 1, n, x => if x = 0 then n else jmanyL f (n + 1) (x &&& (x - 1))
def jmany (x : Int32) : Int32 := jmanyL (x.toBitVec.toNat + 1) 0 x
theorem jmany_dec {x : Int32} (h : ¬ x = 0) : (x &&& (x - 1)).toBitVec.toNat < x.toBitVec.toNat := by
  have h0 : x.toBitVec.toNat ≠ 0 := by
    intro e
    apply h
    apply Int32.toBitVec_inj.mp
    apply BitVec.eq_of_toNat_eq
    rw [e]; rfl
  have h1 : (x - 1).toBitVec.toNat = x.toBitVec.toNat - 1 := by
    have e1 : (x - 1).toBitVec = x.toBitVec - 1#32 := rfl
    rw [e1, BitVec.toNat_sub]
    have hlt := x.toBitVec.isLt
    have e2 : (1#32).toNat = 1 := rfl
    rw [e2]
    omega
  have h2 : (x &&& (x - 1)).toBitVec.toNat ≤ (x - 1).toBitVec.toNat := by
    have e1 : (x &&& (x - 1)).toBitVec = x.toBitVec &&& (x - 1).toBitVec := rfl
    rw [e1, BitVec.toNat_and]
    exact Nat.and_le_right
  omega
theorem l_X11_manyIn {E : jEnv} {d : Nat} {Q : Int32 → jM → Prop} {S : jM} : ∀ (f : Nat) (n x : Int32), x.toBitVec.toNat < f → Q (jmanyL f n x) S → L_X11_manyIn_4 E d Q n x S := by
  intro f
  induction f with
  | zero => intro n x h; exact absurd h (Nat.not_lt_zero _)
  | succ f ih =>
    intro n x hf h
    refine T_X11_manyIn_4 ⟨fun c => ?_, fun c => ?_⟩
    · simpa [jmanyL, c] using h
    · have hd := jmany_dec c
      refine ih (n + 1) (x &&& (x - 1)) (by omega) ?_
      simpa [jmanyL, c] using h
theorem c_X11_manyIn {E : jEnv} {d : Nat} {Q : Int32 → jM → Prop} {x0 : Int32} {S : jM} (h : Q (jmany x0) S) : jFi E mX11_manyIn d 0 0 [.int x0] S Q :=
  T_X11_manyIn (l_X11_manyIn _ _ _ (Nat.lt_succ_self _) h)
theorem jbc_many : ∀ n : Fin 1024, jbc (nI n.val) = jmany (nI n.val) := by decide +kernel
end
section
set_option maxRecDepth 100000 in
set_option maxHeartbeats 4000000 in
theorem T_X11_isSheet {E : jEnv} {d : Nat} {Q : Int32 → jM → Prop} {x0 : Int32} {S : jM} (h : ((jisin (Int32.toInt64 x0) 0 3) = 0 ∨ (jisin (Int32.toInt64 x0) 0 3) = 1) ∧ Q (jisin (Int32.toInt64 x0) 0 3) S) : jFi E mX11_isSheet (d + 1) 0 0 [.int x0] S Q := by
  refine jF_of (by decide) (jle rfl) ?_
  refine jx_lv (lv1 := [(0, .int x0)]) [0] rfl ?_
  refine jx_iload_n 0 kd956.1 rfl rfl ?_
  refine jx_i2l kd956.2.1 ?_
  refine jx_lconst (v := 0) kd956.2.2.1 (by decide) ?_
  refine jx_ldc2 jwL_X11_144 kd956.2.2.2.1 ?_
  refine jx_callSi (M' := mX11_isIn) (As := [.long (Int32.toInt64 x0), .long 0, .long 3]) jo_X11_isIn jwM_X11_71 jwS_X11_isIn kd956.2.2.2.2.1 (jRok_m _ _ _) rfl (jle rfl) ⟨jle rfl, jle rfl⟩ (c_X11_isIn (Q := fun v S' => v = (jisin (Int32.toInt64 x0) 0 3) ∧ S = S') ⟨rfl, rfl⟩) (fun r1 S2 hq3 => ?_)
  obtain ⟨rfl, rfl⟩ := hq3
  obtain ⟨hb4, h⟩ := h
  exact jx_iret kd956.2.2.2.2.2.1 rfl (jb_nar hb4) (jle rfl) (jle rfl) ⟨_, rfl, h⟩
set_option maxRecDepth 100000 in
set_option maxHeartbeats 4000000 in
theorem T_X11_isSlot {E : jEnv} {d : Nat} {Q : Int32 → jM → Prop} {x0 : Int32} {S : jM} (h : ((jisin (Int32.toInt64 x0) 0 4) = 0 ∨ (jisin (Int32.toInt64 x0) 0 4) = 1) ∧ Q (jisin (Int32.toInt64 x0) 0 4) S) : jFi E mX11_isSlot (d + 1) 0 0 [.int x0] S Q := by
  refine jF_of (by decide) (jle rfl) ?_
  refine jx_lv (lv1 := [(0, .int x0)]) [0] rfl ?_
  refine jx_iload_n 0 kd1009.1 rfl rfl ?_
  refine jx_i2l kd1009.2.1 ?_
  refine jx_lconst (v := 0) kd1009.2.2.1 (by decide) ?_
  refine jx_ldc2 jwL_X11_133 kd1009.2.2.2.1 ?_
  refine jx_callSi (M' := mX11_isIn) (As := [.long (Int32.toInt64 x0), .long 0, .long 4]) jo_X11_isIn jwM_X11_71 jwS_X11_isIn kd1009.2.2.2.2.1 (jRok_m _ _ _) rfl (jle rfl) ⟨jle rfl, jle rfl⟩ (c_X11_isIn (Q := fun v S' => v = (jisin (Int32.toInt64 x0) 0 4) ∧ S = S') ⟨rfl, rfl⟩) (fun r1 S2 hq3 => ?_)
  obtain ⟨rfl, rfl⟩ := hq3
  obtain ⟨hb4, h⟩ := h
  exact jx_iret kd1009.2.2.2.2.2.1 rfl (jb_nar hb4) (jle rfl) (jle rfl) ⟨_, rfl, h⟩
end
section
def jissheet (k : Int32) : Int32 := jisin k.toInt64 0 3
def jisslot (k : Int32) : Int32 := jisin k.toInt64 0 4
theorem jisin01 (v lo hi : Int64) : jisin v lo hi = 0 ∨ jisin v lo hi = 1 := by
  unfold jisin
  split
  · exact Or.inl rfl
  · split
    · exact Or.inl rfl
    · exact Or.inr rfl
theorem c_X11_isSheet {E : jEnv} {d : Nat} {Q : Int32 → jM → Prop} {x0 : Int32} {S : jM} (h : Q (jissheet x0) S) : jFi E mX11_isSheet (d + 1) 0 0 [.int x0] S Q := T_X11_isSheet ⟨jisin01 _ _ _, h⟩
theorem c_X11_isSlot {E : jEnv} {d : Nat} {Q : Int32 → jM → Prop} {x0 : Int32} {S : jM} (h : Q (jisslot x0) S) : jFi E mX11_isSlot (d + 1) 0 0 [.int x0] S Q := T_X11_isSlot ⟨jisin01 _ _ _, h⟩
end
