section
theorem jcw_0 : ∀ k, k < 3 → u_lay RX0 TX0 k ∈ jT := fun k hk => match k, hk with
  | 0, _ => jwY_X0_masters
  | 1, _ => jwY_X0_size
  | 2, _ => jwY_X0_z
  | n + 3, h => absurd h (by omega)
theorem jc_0 : jCl 0 (RX0, TX0, 3) tyX0 := ⟨rfl, fun w hw => by obtain ⟨k, hk, rfl⟩ := List.mem_map.mp hw; exact jcw_0 k (List.mem_range.mp hk), nmX0, tyX0_ok, by decide, by decide +kernel⟩
theorem jdv_0 : ∀ j, j < 3 → defaultValue (tyX0 j) = if jtR 0 j then .null else .int 0 := by decide +kernel
theorem jcw_1 : ∀ k, k < 7 → u_lay RX1 TX1 k ∈ jT := fun k hk => match k, hk with
  | 0, _ => jwY_X1_at
  | 1, _ => jwY_X1_knows
  | 2, _ => jwY_X1_coins
  | 3, _ => jwY_X1_forgets
  | 4, _ => jwY_X1_day
  | 5, _ => jwY_X1_from
  | 6, _ => jwY_X1_rested
  | n + 7, h => absurd h (by omega)
theorem jc_1 : jCl 1 (RX1, TX1, 7) tyX1 := ⟨rfl, fun w hw => by obtain ⟨k, hk, rfl⟩ := List.mem_map.mp hw; exact jcw_1 k (List.mem_range.mp hk), nmX1, tyX1_ok, by decide, by decide +kernel⟩
theorem jdv_1 : ∀ j, j < 7 → defaultValue (tyX1 j) = if jtR 1 j then .null else .int 0 := by decide +kernel
theorem jcw_2 : ∀ k, k < 7 → u_lay RX2 TX2 k ∈ jT := fun k hk => match k, hk with
  | 0, _ => jwY_X2_kind
  | 1, _ => jwY_X2_town
  | 2, _ => jwY_X2_gesture
  | 3, _ => jwY_X2_bars
  | 4, _ => jwY_X2_fee
  | 5, _ => jwY_X2_age
  | 6, _ => jwY_X2_dead
  | n + 7, h => absurd h (by omega)
theorem jc_2 : jCl 2 (RX2, TX2, 7) tyX2 := ⟨rfl, fun w hw => by obtain ⟨k, hk, rfl⟩ := List.mem_map.mp hw; exact jcw_2 k (List.mem_range.mp hk), nmX2, tyX2_ok, by decide, by decide +kernel⟩
theorem jdv_2 : ∀ j, j < 7 → defaultValue (tyX2 j) = if jtR 2 j then .null else .int 0 := by decide +kernel
theorem jcw_3 : ∀ k, k < 7 → u_lay RX3 TX3 k ∈ jT := fun k hk => match k, hk with
  | 0, _ => jwY_X3_guild
  | 1, _ => jwY_X3_roads
  | 2, _ => jwY_X3_learner
  | 3, _ => jwY_X3_wished
  | 4, _ => jwY_X3_wishes
  | 5, _ => jwY_X3_texts
  | 6, _ => jwY_X3_textCount
  | n + 7, h => absurd h (by omega)
theorem jc_3 : jCl 3 (RX3, TX3, 7) tyX3 := ⟨rfl, fun w hw => by obtain ⟨k, hk, rfl⟩ := List.mem_map.mp hw; exact jcw_3 k (List.mem_range.mp hk), nmX3, tyX3_ok, by decide, by decide +kernel⟩
theorem jdv_3 : ∀ j, j < 7 → defaultValue (tyX3 j) = if jtR 3 j then .null else .int 0 := by decide +kernel
theorem jcw_4 : ∀ k, k < 2 → u_lay RX4 TX4 k ∈ jT := fun k hk => match k, hk with
  | 0, _ => jwY_X4_days
  | 1, _ => jwY_X4_ways
  | n + 2, h => absurd h (by omega)
theorem jc_4 : jCl 4 (RX4, TX4, 2) tyX4 := ⟨rfl, fun w hw => by obtain ⟨k, hk, rfl⟩ := List.mem_map.mp hw; exact jcw_4 k (List.mem_range.mp hk), nmX4, tyX4_ok, by decide, by decide +kernel⟩
theorem jdv_4 : ∀ j, j < 2 → defaultValue (tyX4 j) = if jtR 4 j then .null else .int 0 := by decide +kernel
theorem jcw_5 : ∀ k, k < 12 → u_lay RX5 TX5 k ∈ jT := fun k hk => match k, hk with
  | 0, _ => jwY_X5_town
  | 1, _ => jwY_X5_knows
  | 2, _ => jwY_X5_days
  | 3, _ => jwY_X5_paid
  | 4, _ => jwY_X5_first
  | 5, _ => jwY_X5_since
  | 6, _ => jwY_X5_daysKnown
  | 7, _ => jwY_X5_wanted
  | 8, _ => jwY_X5_taught
  | 9, _ => jwY_X5_bestDays
  | 10, _ => jwY_X5_bestCoins
  | 11, _ => jwY_X5_bestFirst
  | n + 12, h => absurd h (by omega)
theorem jc_5 : jCl 5 (RX5, TX5, 12) tyX5 := ⟨rfl, fun w hw => by obtain ⟨k, hk, rfl⟩ := List.mem_map.mp hw; exact jcw_5 k (List.mem_range.mp hk), nmX5, tyX5_ok, by decide, by decide +kernel⟩
theorem jdv_5 : ∀ j, j < 12 → defaultValue (tyX5 j) = if jtR 5 j then .null else .int 0 := by decide +kernel
theorem jcw_6 : ∀ k, k < 3 → u_lay RX6 TX6 k ∈ jT := fun k hk => match k, hk with
  | 0, _ => jwY_X6_sort
  | 1, _ => jwY_X6_size
  | 2, _ => jwY_X6_places
  | n + 3, h => absurd h (by omega)
theorem jc_6 : jCl 6 (RX6, TX6, 3) tyX6 := ⟨rfl, fun w hw => by obtain ⟨k, hk, rfl⟩ := List.mem_map.mp hw; exact jcw_6 k (List.mem_range.mp hk), nmX6, tyX6_ok, by decide, by decide +kernel⟩
theorem jdv_6 : ∀ j, j < 3 → defaultValue (tyX6 j) = if jtR 6 j then .null else .int 0 := by decide +kernel
theorem jcw_7 : ∀ k, k < 4 → u_lay RX7 TX7 k ∈ jT := fun k hk => match k, hk with
  | 0, _ => jwY_X7_thing
  | 1, _ => jwY_X7_master
  | 2, _ => jwY_X7_sheet
  | 3, _ => jwY_X7_number
  | n + 4, h => absurd h (by omega)
theorem jc_7 : jCl 7 (RX7, TX7, 4) tyX7 := ⟨rfl, fun w hw => by obtain ⟨k, hk, rfl⟩ := List.mem_map.mp hw; exact jcw_7 k (List.mem_range.mp hk), nmX7, tyX7_ok, by decide, by decide +kernel⟩
theorem jdv_7 : ∀ j, j < 4 → defaultValue (tyX7 j) = if jtR 7 j then .null else .int 0 := by decide +kernel
theorem jcw_8 : ∀ k, k < 10 → u_lay RX8 TX8 k ∈ jT := fun k hk => match k, hk with
  | 0, _ => jwY_X8_bytes
  | 1, _ => jwY_X8_size
  | 2, _ => jwY_X8_start
  | 3, _ => jwY_X8_end
  | 4, _ => jwY_X8_sort
  | 5, _ => jwY_X8_needsBlank
  | 6, _ => jwY_X8_key
  | 7, _ => jwY_X8_operands
  | 8, _ => jwY_X8_code
  | 9, _ => jwY_X8_codeSize
  | n + 10, h => absurd h (by omega)
theorem jc_8 : jCl 8 (RX8, TX8, 10) tyX8 := ⟨rfl, fun w hw => by obtain ⟨k, hk, rfl⟩ := List.mem_map.mp hw; exact jcw_8 k (List.mem_range.mp hk), nmX8, tyX8_ok, by decide, by decide +kernel⟩
theorem jdv_8 : ∀ j, j < 10 → defaultValue (tyX8 j) = if jtR 8 j then .null else .int 0 := by decide +kernel
theorem jcw_9 : ∀ k, k < 4 → u_lay RX9 TX9 k ∈ jT := fun k hk => match k, hk with
  | 0, _ => jwY_X9_key
  | 1, _ => jwY_X9_operands
  | 2, _ => jwY_X9_code
  | 3, _ => jwY_X9_stack
  | n + 4, h => absurd h (by omega)
theorem jc_9 : jCl 9 (RX9, TX9, 4) tyX9 := ⟨rfl, fun w hw => by obtain ⟨k, hk, rfl⟩ := List.mem_map.mp hw; exact jcw_9 k (List.mem_range.mp hk), nmX9, tyX9_ok, by decide, by decide +kernel⟩
theorem jdv_9 : ∀ j, j < 4 → defaultValue (tyX9 j) = if jtR 9 j then .null else .int 0 := by decide +kernel
theorem jcw_10 : ∀ k, k < 10 → u_lay RX10 TX10 k ∈ jT := fun k hk => match k, hk with
  | 0, _ => jwY_X10_realm
  | 1, _ => jwY_X10_image
  | 2, _ => jwY_X10_imageKept
  | 3, _ => jwY_X10_thought
  | 4, _ => jwY_X10_search
  | 5, _ => jwY_X10_tape
  | 6, _ => jwY_X10_sheets
  | 7, _ => jwY_X10_slots
  | 8, _ => jwY_X10_waiting
  | 9, _ => jwY_X10_waits
  | n + 10, h => absurd h (by omega)
theorem jc_10 : jCl 10 (RX10, TX10, 10) tyX10 := ⟨rfl, fun w hw => by obtain ⟨k, hk, rfl⟩ := List.mem_map.mp hw; exact jcw_10 k (List.mem_range.mp hk), nmX10, tyX10_ok, by decide, by decide +kernel⟩
theorem jdv_10 : ∀ j, j < 10 → defaultValue (tyX10 j) = if jtR 10 j then .null else .int 0 := by decide +kernel
theorem jcw_11 : ∀ k, k < 36 → u_lay RX11 TX11 k ∈ jT := fun k hk => match k, hk with
  | 0, _ => jwY_X11_s
  | 1, _ => jwY_X11_image
  | 2, _ => jwY_X11_aside
  | 3, _ => jwY_X11_hasImage
  | 4, _ => jwY_X11_tSort
  | 5, _ => jwY_X11_tSize
  | 6, _ => jwY_X11_tNumber
  | 7, _ => jwY_X11_held
  | 8, _ => jwY_X11_heldNumber
  | 9, _ => jwY_X11_heldWorth
  | 10, _ => jwY_X11_heldSize
  | 11, _ => jwY_X11_heldRow
  | 12, _ => jwY_X11_far
  | 13, _ => jwY_X11_close
  | 14, _ => jwY_X11_way
  | 15, _ => jwY_X11_soonDays
  | 16, _ => jwY_X11_soonCoins
  | 17, _ => jwY_X11_soonFirst
  | 18, _ => jwY_X11_tape
  | 19, _ => jwY_X11_taped
  | 20, _ => jwY_X11_begin
  | 21, _ => jwY_X11_behind
  | 22, _ => jwY_X11_token
  | 23, _ => jwY_X11_number
  | 24, _ => jwY_X11_letter
  | 25, _ => jwY_X11_deep
  | 26, _ => jwY_X11_turned
  | 27, _ => jwY_X11_laid
  | 28, _ => jwY_X11_laidAt
  | 29, _ => jwY_X11_said
  | 30, _ => jwY_X11_named
  | 31, _ => jwY_X11_pile
  | 32, _ => jwY_X11_carried
  | 33, _ => jwY_X11_waits
  | 34, _ => jwY_X11_waiting
  | 35, _ => jwY_X11_rowDue
  | n + 36, h => absurd h (by omega)
theorem jc_11 : jCl 11 (RX11, TX11, 36) tyX11 := ⟨rfl, fun w hw => by obtain ⟨k, hk, rfl⟩ := List.mem_map.mp hw; exact jcw_11 k (List.mem_range.mp hk), nmX11, tyX11_ok, by decide, by decide +kernel⟩
theorem jdv_11 : ∀ j, j < 36 → defaultValue (tyX11 j) = if jtR 11 j then .null else .int 0 := by decide +kernel
theorem jo_X0_init : jMo mX0_init 0 := ⟨jwO_X0_init, jwZ_X0, by decide +kernel, by decide +kernel, by decide +kernel, by decide⟩
theorem jo_X0_become : jMo mX0_become 1 := ⟨jwO_X0_become, jwZ_X0, by decide +kernel, by decide +kernel, by decide +kernel, by decide⟩
theorem jo_X0_find : jMo mX0_find 1 := ⟨jwO_X0_find, jwZ_X0, by decide +kernel, by decide +kernel, by decide +kernel, by decide⟩
theorem jo_X0_join : jMo mX0_join 4 := ⟨jwO_X0_join, jwZ_X0, by decide +kernel, by decide +kernel, by decide +kernel, by decide⟩
theorem jo_X0_joinByLot : jMo mX0_joinByLot 0 := ⟨jwO_X0_joinByLot, jwZ_X0, by decide +kernel, by decide +kernel, by decide +kernel, by decide⟩
theorem jo_X0_draw : jMo mX0_draw 0 := ⟨jwO_X0_draw, jwZ_X0, by decide +kernel, by decide +kernel, by decide +kernel, by decide⟩
theorem jo_X0_liveYear : jMo mX0_liveYear 0 := ⟨jwO_X0_liveYear, jwZ_X0, by decide +kernel, by decide +kernel, by decide +kernel, by decide⟩
theorem jo_X0_liveYears : jMo mX0_liveYears 1 := ⟨jwO_X0_liveYears, jwZ_X0, by decide +kernel, by decide +kernel, by decide +kernel, by decide⟩
theorem jo_X0_countDead : jMo mX0_countDead 0 := ⟨jwO_X0_countDead, jwZ_X0, by decide +kernel, by decide +kernel, by decide +kernel, by decide⟩
theorem jo_X0_agesTogether : jMo mX0_agesTogether 0 := ⟨jwO_X0_agesTogether, jwZ_X0, by decide +kernel, by decide +kernel, by decide +kernel, by decide⟩
theorem jo_X0_taught : jMo mX0_taught 0 := ⟨jwO_X0_taught, jwZ_X0, by decide +kernel, by decide +kernel, by decide +kernel, by decide⟩
theorem jo_X0_onlyTeacher : jMo mX0_onlyTeacher 1 := ⟨jwO_X0_onlyTeacher, jwZ_X0, by decide +kernel, by decide +kernel, by decide +kernel, by decide⟩
theorem jo_X0_canBringTogether : jMo mX0_canBringTogether 1 := ⟨jwO_X0_canBringTogether, jwZ_X0, by decide +kernel, by decide +kernel, by decide +kernel, by decide⟩
theorem jo_X0_leadsTo : jMo mX0_leadsTo 3 := ⟨jwO_X0_leadsTo, jwZ_X0, by decide +kernel, by decide +kernel, by decide +kernel, by decide⟩
theorem jo_X0_helps : jMo mX0_helps 3 := ⟨jwO_X0_helps, jwZ_X0, by decide +kernel, by decide +kernel, by decide +kernel, by decide⟩
theorem jo_X1_init : jMo mX1_init 0 := ⟨jwO_X1_init, jwZ_X1, by decide +kernel, by decide +kernel, by decide +kernel, by decide⟩
theorem jo_X1_become : jMo mX1_become 1 := ⟨jwO_X1_become, jwZ_X1, by decide +kernel, by decide +kernel, by decide +kernel, by decide⟩
theorem jo_X1_isAble : jMo mX1_isAble 1 := ⟨jwO_X1_isAble, jwZ_X1, by decide +kernel, by decide +kernel, by decide +kernel, by decide⟩
theorem jo_X1_passDays : jMo mX1_passDays 1 := ⟨jwO_X1_passDays, jwZ_X1, by decide +kernel, by decide +kernel, by decide +kernel, by decide⟩
theorem jo_X1_canLearnOf : jMo mX1_canLearnOf 1 := ⟨jwO_X1_canLearnOf, jwZ_X1, by decide +kernel, by decide +kernel, by decide +kernel, by decide⟩
theorem jo_X1_learnOf : jMo mX1_learnOf 3 := ⟨jwO_X1_learnOf, jwZ_X1, by decide +kernel, by decide +kernel, by decide +kernel, by decide⟩
theorem jo_X1_practise : jMo mX1_practise 1 := ⟨jwO_X1_practise, jwZ_X1, by decide +kernel, by decide +kernel, by decide +kernel, by decide⟩
theorem jo_X2_init : jMo mX2_init 0 := ⟨jwO_X2_init, jwZ_X2, by decide +kernel, by decide +kernel, by decide +kernel, by decide⟩
theorem jo_X2_begin : jMo mX2_begin 4 := ⟨jwO_X2_begin, jwZ_X2, by decide +kernel, by decide +kernel, by decide +kernel, by decide⟩
theorem jo_X2_become : jMo mX2_become 1 := ⟨jwO_X2_become, jwZ_X2, by decide +kernel, by decide +kernel, by decide +kernel, by decide⟩
theorem jo_X2_isOf : jMo mX2_isOf 1 := ⟨jwO_X2_isOf, jwZ_X2, by decide +kernel, by decide +kernel, by decide +kernel, by decide⟩
theorem jo_X2_daysFrom : jMo mX2_daysFrom 1 := ⟨jwO_X2_daysFrom, jwZ_X2, by decide +kernel, by decide +kernel, by decide +kernel, by decide⟩
theorem jo_X2_teaches : jMo mX2_teaches 1 := ⟨jwO_X2_teaches, jwZ_X2, by decide +kernel, by decide +kernel, by decide +kernel, by decide⟩
theorem jo_X2_unlearnt : jMo mX2_unlearnt 0 := ⟨jwO_X2_unlearnt, jwZ_X2, by decide +kernel, by decide +kernel, by decide +kernel, by decide⟩
theorem jo_X2_worth : jMo mX2_worth 0 := ⟨jwO_X2_worth, jwZ_X2, by decide +kernel, by decide +kernel, by decide +kernel, by decide⟩
theorem jo_X3_init : jMo mX3_init 0 := ⟨jwO_X3_init, jwZ_X3, by decide +kernel, by decide +kernel, by decide +kernel, by decide⟩
theorem jo_X3_become : jMo mX3_become 1 := ⟨jwO_X3_become, jwZ_X3, by decide +kernel, by decide +kernel, by decide +kernel, by decide⟩
theorem jo_X3_addWish : jMo mX3_addWish 1 := ⟨jwO_X3_addWish, jwZ_X3, by decide +kernel, by decide +kernel, by decide +kernel, by decide⟩
theorem jo_X3_wishedSet : jMo mX3_wishedSet 0 := ⟨jwO_X3_wishedSet, jwZ_X3, by decide +kernel, by decide +kernel, by decide +kernel, by decide⟩
theorem jo_X3_canMakeChair : jMo mX3_canMakeChair 0 := ⟨jwO_X3_canMakeChair, jwZ_X3, by decide +kernel, by decide +kernel, by decide +kernel, by decide⟩
theorem jo_X3_makeChair : jMo mX3_makeChair 0 := ⟨jwO_X3_makeChair, jwZ_X3, by decide +kernel, by decide +kernel, by decide +kernel, by decide⟩
theorem jo_X3_addText : jMo mX3_addText 1 := ⟨jwO_X3_addText, jwZ_X3, by decide +kernel, by decide +kernel, by decide +kernel, by decide⟩
theorem jo_X3_findText : jMo mX3_findText 1 := ⟨jwO_X3_findText, jwZ_X3, by decide +kernel, by decide +kernel, by decide +kernel, by decide⟩
theorem jo_X3_numberOfLaw : jMo mX3_numberOfLaw 1 := ⟨jwO_X3_numberOfLaw, jwZ_X3, by decide +kernel, by decide +kernel, by decide +kernel, by decide⟩
theorem jo_X3_daysTaken : jMo mX3_daysTaken 2 := ⟨jwO_X3_daysTaken, jwZ_X3, by decide +kernel, by decide +kernel, by decide +kernel, by decide⟩
theorem jo_X3_fameOf : jMo mX3_fameOf 1 := ⟨jwO_X3_fameOf, jwZ_X3, by decide +kernel, by decide +kernel, by decide +kernel, by decide⟩
theorem jo_X3_fineNow : jMo mX3_fineNow 0 := ⟨jwO_X3_fineNow, jwZ_X3, by decide +kernel, by decide +kernel, by decide +kernel, by decide⟩
theorem jo_X3_waysToMasters : jMo mX3_waysToMasters 1 := ⟨jwO_X3_waysToMasters, jwZ_X3, by decide +kernel, by decide +kernel, by decide +kernel, by decide⟩
theorem jo_X3_apart : jMo mX3_apart 2 := ⟨jwO_X3_apart, jwZ_X3, by decide +kernel, by decide +kernel, by decide +kernel, by decide⟩
theorem jo_X4_init : jMo mX4_init 0 := ⟨jwO_X4_init, jwZ_X4, by decide +kernel, by decide +kernel, by decide +kernel, by decide⟩
theorem jo_X4_become : jMo mX4_become 1 := ⟨jwO_X4_become, jwZ_X4, by decide +kernel, by decide +kernel, by decide +kernel, by decide⟩
theorem jo_X4_direct : jMo mX4_direct 2 := ⟨jwO_X4_direct, jwZ_X4, by decide +kernel, by decide +kernel, by decide +kernel, by decide⟩
theorem jo_X4_fewest : jMo mX4_fewest 2 := ⟨jwO_X4_fewest, jwZ_X4, by decide +kernel, by decide +kernel, by decide +kernel, by decide⟩
theorem jo_X4_build : jMo mX4_build 3 := ⟨jwO_X4_build, jwZ_X4, by decide +kernel, by decide +kernel, by decide +kernel, by decide⟩
theorem jo_X4_measure : jMo mX4_measure 0 := ⟨jwO_X4_measure, jwZ_X4, by decide +kernel, by decide +kernel, by decide +kernel, by decide⟩
theorem jo_X5_init : jMo mX5_init 0 := ⟨jwO_X5_init, jwZ_X5, by decide +kernel, by decide +kernel, by decide +kernel, by decide⟩
theorem jo_X5_finds : jMo mX5_finds 1 := ⟨jwO_X5_finds, jwZ_X5, by decide +kernel, by decide +kernel, by decide +kernel, by decide⟩
theorem jo_X5_goOn : jMo mX5_goOn 2 := ⟨jwO_X5_goOn, jwZ_X5, by decide +kernel, by decide +kernel, by decide +kernel, by decide⟩
theorem jo_X5_tryMaster : jMo mX5_tryMaster 4 := ⟨jwO_X5_tryMaster, jwZ_X5, by decide +kernel, by decide +kernel, by decide +kernel, by decide⟩
theorem jo_X5_keptOf : jMo mX5_keptOf 3 := ⟨jwO_X5_keptOf, jwZ_X5, by decide +kernel, by decide +kernel, by decide +kernel, by decide⟩
theorem jo_X5_daysTaken : jMo mX5_daysTaken 4 := ⟨jwO_X5_daysTaken, jwZ_X5, by decide +kernel, by decide +kernel, by decide +kernel, by decide⟩
theorem jo_X5_offer : jMo mX5_offer 1 := ⟨jwO_X5_offer, jwZ_X5, by decide +kernel, by decide +kernel, by decide +kernel, by decide⟩
theorem jo_X5_isBetter : jMo mX5_isBetter 3 := ⟨jwO_X5_isBetter, jwZ_X5, by decide +kernel, by decide +kernel, by decide +kernel, by decide⟩
theorem jo_X6_init : jMo mX6_init 0 := ⟨jwO_X6_init, jwZ_X6, by decide +kernel, by decide +kernel, by decide +kernel, by decide⟩
theorem jo_X6_begin : jMo mX6_begin 2 := ⟨jwO_X6_begin, jwZ_X6, by decide +kernel, by decide +kernel, by decide +kernel, by decide⟩
theorem jo_X6_become : jMo mX6_become 1 := ⟨jwO_X6_become, jwZ_X6, by decide +kernel, by decide +kernel, by decide +kernel, by decide⟩
theorem jo_X6_hasPlace : jMo mX6_hasPlace 1 := ⟨jwO_X6_hasPlace, jwZ_X6, by decide +kernel, by decide +kernel, by decide +kernel, by decide⟩
theorem jo_X6_hasPlaces : jMo mX6_hasPlaces 2 := ⟨jwO_X6_hasPlaces, jwZ_X6, by decide +kernel, by decide +kernel, by decide +kernel, by decide⟩
theorem jo_X6_isNumber : jMo mX6_isNumber 1 := ⟨jwO_X6_isNumber, jwZ_X6, by decide +kernel, by decide +kernel, by decide +kernel, by decide⟩
theorem jo_X7_init : jMo mX7_init 0 := ⟨jwO_X7_init, jwZ_X7, by decide +kernel, by decide +kernel, by decide +kernel, by decide⟩
theorem jo_X8_init : jMo mX8_init 0 := ⟨jwO_X8_init, jwZ_X8, by decide +kernel, by decide +kernel, by decide +kernel, by decide⟩
theorem jo_X8_addNumber : jMo mX8_addNumber 1 := ⟨jwO_X8_addNumber, jwZ_X8, by decide +kernel, by decide +kernel, by decide +kernel, by decide⟩
theorem jo_X8_isText : jMo mX8_isText 0 := ⟨jwO_X8_isText, jwZ_X8, by decide +kernel, by decide +kernel, by decide +kernel, by decide⟩
theorem jo_X8_textRead : jMo mX8_textRead 0 := ⟨jwO_X8_textRead, jwZ_X8, by decide +kernel, by decide +kernel, by decide +kernel, by decide⟩
theorem jo_X8_step : jMo mX8_step 0 := ⟨jwO_X8_step, jwZ_X8, by decide +kernel, by decide +kernel, by decide +kernel, by decide⟩
theorem jo_X8_byteAt : jMo mX8_byteAt 1 := ⟨jwO_X8_byteAt, jwZ_X8, by decide +kernel, by decide +kernel, by decide +kernel, by decide⟩
theorem jo_X8_sortAt : jMo mX8_sortAt 1 := ⟨jwO_X8_sortAt, jwZ_X8, by decide +kernel, by decide +kernel, by decide +kernel, by decide⟩
theorem jo_X8_isInHand : jMo mX8_isInHand 1 := ⟨jwO_X8_isInHand, jwZ_X8, by decide +kernel, by decide +kernel, by decide +kernel, by decide⟩
theorem jo_X8_keyInHand : jMo mX8_keyInHand 0 := ⟨jwO_X8_keyInHand, jwZ_X8, by decide +kernel, by decide +kernel, by decide +kernel, by decide⟩
theorem jo_X8_isWordInHand : jMo mX8_isWordInHand 1 := ⟨jwO_X8_isWordInHand, jwZ_X8, by decide +kernel, by decide +kernel, by decide +kernel, by decide⟩
theorem jo_X8_wordOf : jMo mX8_wordOf 1 := ⟨jwO_X8_wordOf, jwZ_X8, by decide +kernel, by decide +kernel, by decide +kernel, by decide⟩
theorem jo_X8_namesOf : jMo mX8_namesOf 1 := ⟨jwO_X8_namesOf, jwZ_X8, by decide +kernel, by decide +kernel, by decide +kernel, by decide⟩
theorem jo_X8_levelInHand : jMo mX8_levelInHand 0 := ⟨jwO_X8_levelInHand, jwZ_X8, by decide +kernel, by decide +kernel, by decide +kernel, by decide⟩
theorem jo_X8_readsChain : jMo mX8_readsChain 3 := ⟨jwO_X8_readsChain, jwZ_X8, by decide +kernel, by decide +kernel, by decide +kernel, by decide⟩
theorem jo_X8_readsPiece : jMo mX8_readsPiece 2 := ⟨jwO_X8_readsPiece, jwZ_X8, by decide +kernel, by decide +kernel, by decide +kernel, by decide⟩
theorem jo_X8_readsOperand : jMo mX8_readsOperand 0 := ⟨jwO_X8_readsOperand, jwZ_X8, by decide +kernel, by decide +kernel, by decide +kernel, by decide⟩
theorem jo_X8_numberInHand : jMo mX8_numberInHand 0 := ⟨jwO_X8_numberInHand, jwZ_X8, by decide +kernel, by decide +kernel, by decide +kernel, by decide⟩
theorem jo_X8_nameInHand : jMo mX8_nameInHand 0 := ⟨jwO_X8_nameInHand, jwZ_X8, by decide +kernel, by decide +kernel, by decide +kernel, by decide⟩
theorem jo_X8_write : jMo mX8_write 1 := ⟨jwO_X8_write, jwZ_X8, by decide +kernel, by decide +kernel, by decide +kernel, by decide⟩
theorem jo_X9_init : jMo mX9_init 3 := ⟨jwO_X9_init, jwZ_X9, by decide +kernel, by decide +kernel, by decide +kernel, by decide⟩
theorem jo_X9_workOut : jMo mX9_workOut 3 := ⟨jwO_X9_workOut, jwZ_X9, by decide +kernel, by decide +kernel, by decide +kernel, by decide⟩
theorem jo_X9_valueOf : jMo mX9_valueOf 4 := ⟨jwO_X9_valueOf, jwZ_X9, by decide +kernel, by decide +kernel, by decide +kernel, by decide⟩
theorem jo_X9_joined : jMo mX9_joined 3 := ⟨jwO_X9_joined, jwZ_X9, by decide +kernel, by decide +kernel, by decide +kernel, by decide⟩
theorem jo_X10_init : jMo mX10_init 0 := ⟨jwO_X10_init, jwZ_X10, by decide +kernel, by decide +kernel, by decide +kernel, by decide⟩
theorem jo_X10_master : jMo mX10_master 4 := ⟨jwO_X10_master, jwZ_X10, by decide +kernel, by decide +kernel, by decide +kernel, by decide⟩
theorem jo_X10_told : jMo mX10_told 2 := ⟨jwO_X10_told, jwZ_X10, by decide +kernel, by decide +kernel, by decide +kernel, by decide⟩
theorem jo_X10_as : jMo mX10_as 2 := ⟨jwO_X10_as, jwZ_X10, by decide +kernel, by decide +kernel, by decide +kernel, by decide⟩
theorem jo_X10_turns : jMo mX10_turns 2 := ⟨jwO_X10_turns, jwZ_X10, by decide +kernel, by decide +kernel, by decide +kernel, by decide⟩
theorem jo_X10_set : jMo mX10_set 3 := ⟨jwO_X10_set, jwZ_X10, by decide +kernel, by decide +kernel, by decide +kernel, by decide⟩
theorem jo_X10_setFee : jMo mX10_setFee 2 := ⟨jwO_X10_setFee, jwZ_X10, by decide +kernel, by decide +kernel, by decide +kernel, by decide⟩
theorem jo_X10_setAge : jMo mX10_setAge 2 := ⟨jwO_X10_setAge, jwZ_X10, by decide +kernel, by decide +kernel, by decide +kernel, by decide⟩
theorem jo_X10_setDead : jMo mX10_setDead 2 := ⟨jwO_X10_setDead, jwZ_X10, by decide +kernel, by decide +kernel, by decide +kernel, by decide⟩
theorem jo_X10_bars : jMo mX10_bars 3 := ⟨jwO_X10_bars, jwZ_X10, by decide +kernel, by decide +kernel, by decide +kernel, by decide⟩
theorem jo_X10_road : jMo mX10_road 3 := ⟨jwO_X10_road, jwZ_X10, by decide +kernel, by decide +kernel, by decide +kernel, by decide⟩
theorem jo_X10_far : jMo mX10_far 2 := ⟨jwO_X10_far, jwZ_X10, by decide +kernel, by decide +kernel, by decide +kernel, by decide⟩
theorem jo_X10_deal : jMo mX10_deal 1 := ⟨jwO_X10_deal, jwZ_X10, by decide +kernel, by decide +kernel, by decide +kernel, by decide⟩
theorem jo_X10_seed : jMo mX10_seed 1 := ⟨jwO_X10_seed, jwZ_X10, by decide +kernel, by decide +kernel, by decide +kernel, by decide⟩
theorem jo_X10_apprentice : jMo mX10_apprentice 1 := ⟨jwO_X10_apprentice, jwZ_X10, by decide +kernel, by decide +kernel, by decide +kernel, by decide⟩
theorem jo_X10_has : jMo mX10_has 2 := ⟨jwO_X10_has, jwZ_X10, by decide +kernel, by decide +kernel, by decide +kernel, by decide⟩
theorem jo_X10_knows : jMo mX10_knows 2 := ⟨jwO_X10_knows, jwZ_X10, by decide +kernel, by decide +kernel, by decide +kernel, by decide⟩
theorem jo_X10_go : jMo mX10_go 1 := ⟨jwO_X10_go, jwZ_X10, by decide +kernel, by decide +kernel, by decide +kernel, by decide⟩
theorem jo_X10_learn : jMo mX10_learn 1 := ⟨jwO_X10_learn, jwZ_X10, by decide +kernel, by decide +kernel, by decide +kernel, by decide⟩
theorem jo_X10_use : jMo mX10_use 1 := ⟨jwO_X10_use, jwZ_X10, by decide +kernel, by decide +kernel, by decide +kernel, by decide⟩
theorem jo_X10_rests : jMo mX10_rests 1 := ⟨jwO_X10_rests, jwZ_X10, by decide +kernel, by decide +kernel, by decide +kernel, by decide⟩
theorem jo_X10_wants : jMo mX10_wants 1 := ⟨jwO_X10_wants, jwZ_X10, by decide +kernel, by decide +kernel, by decide +kernel, by decide⟩
theorem jo_X10_clear : jMo mX10_clear 0 := ⟨jwO_X10_clear, jwZ_X10, by decide +kernel, by decide +kernel, by decide +kernel, by decide⟩
theorem jo_X10_made : jMo mX10_made 0 := ⟨jwO_X10_made, jwZ_X10, by decide +kernel, by decide +kernel, by decide +kernel, by decide⟩
theorem jo_X10_soonest : jMo mX10_soonest 1 := ⟨jwO_X10_soonest, jwZ_X10, by decide +kernel, by decide +kernel, by decide +kernel, by decide⟩
theorem jo_X10_together : jMo mX10_together 1 := ⟨jwO_X10_together, jwZ_X10, by decide +kernel, by decide +kernel, by decide +kernel, by decide⟩
theorem jo_X10_never : jMo mX10_never 0 := ⟨jwO_X10_never, jwZ_X10, by decide +kernel, by decide +kernel, by decide +kernel, by decide⟩
theorem jo_X10_last : jMo mX10_last 1 := ⟨jwO_X10_last, jwZ_X10, by decide +kernel, by decide +kernel, by decide +kernel, by decide⟩
theorem jo_X10_years : jMo mX10_years 1 := ⟨jwO_X10_years, jwZ_X10, by decide +kernel, by decide +kernel, by decide +kernel, by decide⟩
theorem jo_X10_gone : jMo mX10_gone 1 := ⟨jwO_X10_gone, jwZ_X10, by decide +kernel, by decide +kernel, by decide +kernel, by decide⟩
theorem jo_X10_fresh : jMo mX10_fresh 0 := ⟨jwO_X10_fresh, jwZ_X10, by decide +kernel, by decide +kernel, by decide +kernel, by decide⟩
theorem jo_X10_cut : jMo mX10_cut 2 := ⟨jwO_X10_cut, jwZ_X10, by decide +kernel, by decide +kernel, by decide +kernel, by decide⟩
theorem jo_X10_fame : jMo mX10_fame 1 := ⟨jwO_X10_fame, jwZ_X10, by decide +kernel, by decide +kernel, by decide +kernel, by decide⟩
theorem jo_X10_fine : jMo mX10_fine 0 := ⟨jwO_X10_fine, jwZ_X10, by decide +kernel, by decide +kernel, by decide +kernel, by decide⟩
theorem jo_X10_feed : jMo mX10_feed 3 := ⟨jwO_X10_feed, jwZ_X10, by decide +kernel, by decide +kernel, by decide +kernel, by decide⟩
theorem jo_X10_trim : jMo mX10_trim 1 := ⟨jwO_X10_trim, jwZ_X10, by decide +kernel, by decide +kernel, by decide +kernel, by decide⟩
theorem jo_X10_text : jMo mX10_text 0 := ⟨jwO_X10_text, jwZ_X10, by decide +kernel, by decide +kernel, by decide +kernel, by decide⟩
theorem jo_X10_textTold : jMo mX10_textTold 2 := ⟨jwO_X10_textTold, jwZ_X10, by decide +kernel, by decide +kernel, by decide +kernel, by decide⟩
theorem jo_X10_why : jMo mX10_why 1 := ⟨jwO_X10_why, jwZ_X10, by decide +kernel, by decide +kernel, by decide +kernel, by decide⟩
theorem jo_X10_sheet : jMo mX10_sheet 3 := ⟨jwO_X10_sheet, jwZ_X10, by decide +kernel, by decide +kernel, by decide +kernel, by decide⟩
theorem jo_X10_mark : jMo mX10_mark 3 := ⟨jwO_X10_mark, jwZ_X10, by decide +kernel, by decide +kernel, by decide +kernel, by decide⟩
theorem jo_X10_pour : jMo mX10_pour 1 := ⟨jwO_X10_pour, jwZ_X10, by decide +kernel, by decide +kernel, by decide +kernel, by decide⟩
theorem jo_X10_reads : jMo mX10_reads 1 := ⟨jwO_X10_reads, jwZ_X10, by decide +kernel, by decide +kernel, by decide +kernel, by decide⟩
theorem jo_X10_copy : jMo mX10_copy 5 := ⟨jwO_X10_copy, jwZ_X10, by decide +kernel, by decide +kernel, by decide +kernel, by decide⟩
theorem jo_X10_lay : jMo mX10_lay 3 := ⟨jwO_X10_lay, jwZ_X10, by decide +kernel, by decide +kernel, by decide +kernel, by decide⟩
theorem jo_X10_layMaster : jMo mX10_layMaster 2 := ⟨jwO_X10_layMaster, jwZ_X10, by decide +kernel, by decide +kernel, by decide +kernel, by decide⟩
theorem jo_X10_laySheet : jMo mX10_laySheet 2 := ⟨jwO_X10_laySheet, jwZ_X10, by decide +kernel, by decide +kernel, by decide +kernel, by decide⟩
theorem jo_X10_ask : jMo mX10_ask 2 := ⟨jwO_X10_ask, jwZ_X10, by decide +kernel, by decide +kernel, by decide +kernel, by decide⟩
theorem jo_X10_item : jMo mX10_item 2 := ⟨jwO_X10_item, jwZ_X10, by decide +kernel, by decide +kernel, by decide +kernel, by decide⟩
theorem jo_X10_rest : jMo mX10_rest 2 := ⟨jwO_X10_rest, jwZ_X10, by decide +kernel, by decide +kernel, by decide +kernel, by decide⟩
theorem jo_X10_tell : jMo mX10_tell 1 := ⟨jwO_X10_tell, jwZ_X10, by decide +kernel, by decide +kernel, by decide +kernel, by decide⟩
theorem jo_X10_check : jMo mX10_check 1 := ⟨jwO_X10_check, jwZ_X10, by decide +kernel, by decide +kernel, by decide +kernel, by decide⟩
theorem jo_X10_isWaiting : jMo mX10_isWaiting 3 := ⟨jwO_X10_isWaiting, jwZ_X10, by decide +kernel, by decide +kernel, by decide +kernel, by decide⟩
theorem jo_X10_keep : jMo mX10_keep 0 := ⟨jwO_X10_keep, jwZ_X10, by decide +kernel, by decide +kernel, by decide +kernel, by decide⟩
theorem jo_X10_back : jMo mX10_back 0 := ⟨jwO_X10_back, jwZ_X10, by decide +kernel, by decide +kernel, by decide +kernel, by decide⟩
theorem jo_X10_count : jMo mX10_count 1 := ⟨jwO_X10_count, jwZ_X10, by decide +kernel, by decide +kernel, by decide +kernel, by decide⟩
theorem jo_X10_findSheet : jMo mX10_findSheet 1 := ⟨jwO_X10_findSheet, jwZ_X10, by decide +kernel, by decide +kernel, by decide +kernel, by decide⟩
theorem jo_X10_findSlot : jMo mX10_findSlot 1 := ⟨jwO_X10_findSlot, jwZ_X10, by decide +kernel, by decide +kernel, by decide +kernel, by decide⟩
theorem jo_X10_within : jMo mX10_within 2 := ⟨jwO_X10_within, jwZ_X10, by decide +kernel, by decide +kernel, by decide +kernel, by decide⟩
theorem jo_X11_init : jMo mX11_init 0 := ⟨jwO_X11_init, jwZ_X11, by decide +kernel, by decide +kernel, by decide +kernel, by decide⟩
theorem jo_X11_isIn : jMo mX11_isIn 3 := ⟨jwO_X11_isIn, jwZ_X11, by decide +kernel, by decide +kernel, by decide +kernel, by decide⟩
theorem jo_X11_orNone : jMo mX11_orNone 1 := ⟨jwO_X11_orNone, jwZ_X11, by decide +kernel, by decide +kernel, by decide +kernel, by decide⟩
theorem jo_X11_within : jMo mX11_within 3 := ⟨jwO_X11_within, jwZ_X11, by decide +kernel, by decide +kernel, by decide +kernel, by decide⟩
theorem jo_X11_off : jMo mX11_off 2 := ⟨jwO_X11_off, jwZ_X11, by decide +kernel, by decide +kernel, by decide +kernel, by decide⟩
theorem jo_X11_manyIn : jMo mX11_manyIn 1 := ⟨jwO_X11_manyIn, jwZ_X11, by decide +kernel, by decide +kernel, by decide +kernel, by decide⟩
theorem jo_X11_becomes : jMo mX11_becomes 2 := ⟨jwO_X11_becomes, jwZ_X11, by decide +kernel, by decide +kernel, by decide +kernel, by decide⟩
theorem jo_X11_textAt : jMo mX11_textAt 1 := ⟨jwO_X11_textAt, jwZ_X11, by decide +kernel, by decide +kernel, by decide +kernel, by decide⟩
theorem jo_X11_of : jMo mX11_of 2 := ⟨jwO_X11_of, jwZ_X11, by decide +kernel, by decide +kernel, by decide +kernel, by decide⟩
theorem jo_X11_isMaster : jMo mX11_isMaster 1 := ⟨jwO_X11_isMaster, jwZ_X11, by decide +kernel, by decide +kernel, by decide +kernel, by decide⟩
theorem jo_X11_isGesture : jMo mX11_isGesture 1 := ⟨jwO_X11_isGesture, jwZ_X11, by decide +kernel, by decide +kernel, by decide +kernel, by decide⟩
theorem jo_X11_isTown : jMo mX11_isTown 1 := ⟨jwO_X11_isTown, jwZ_X11, by decide +kernel, by decide +kernel, by decide +kernel, by decide⟩
theorem jo_X11_isText : jMo mX11_isText 1 := ⟨jwO_X11_isText, jwZ_X11, by decide +kernel, by decide +kernel, by decide +kernel, by decide⟩
theorem jo_X11_drawn : jMo mX11_drawn 0 := ⟨jwO_X11_drawn, jwZ_X11, by decide +kernel, by decide +kernel, by decide +kernel, by decide⟩
theorem jo_X11_comes : jMo mX11_comes 4 := ⟨jwO_X11_comes, jwZ_X11, by decide +kernel, by decide +kernel, by decide +kernel, by decide⟩
theorem jo_X11_master : jMo mX11_master 4 := ⟨jwO_X11_master, jwZ_X11, by decide +kernel, by decide +kernel, by decide +kernel, by decide⟩
theorem jo_X11_takes : jMo mX11_takes 2 := ⟨jwO_X11_takes, jwZ_X11, by decide +kernel, by decide +kernel, by decide +kernel, by decide⟩
theorem jo_X11_teaches : jMo mX11_teaches 2 := ⟨jwO_X11_teaches, jwZ_X11, by decide +kernel, by decide +kernel, by decide +kernel, by decide⟩
theorem jo_X11_behindLesson : jMo mX11_behindLesson 2 := ⟨jwO_X11_behindLesson, jwZ_X11, by decide +kernel, by decide +kernel, by decide +kernel, by decide⟩
theorem jo_X11_worth : jMo mX11_worth 1 := ⟨jwO_X11_worth, jwZ_X11, by decide +kernel, by decide +kernel, by decide +kernel, by decide⟩
theorem jo_X11_told : jMo mX11_told 2 := ⟨jwO_X11_told, jwZ_X11, by decide +kernel, by decide +kernel, by decide +kernel, by decide⟩
theorem jo_X11_isOf : jMo mX11_isOf 2 := ⟨jwO_X11_isOf, jwZ_X11, by decide +kernel, by decide +kernel, by decide +kernel, by decide⟩
theorem jo_X11_as : jMo mX11_as 2 := ⟨jwO_X11_as, jwZ_X11, by decide +kernel, by decide +kernel, by decide +kernel, by decide⟩
theorem jo_X11_turns : jMo mX11_turns 2 := ⟨jwO_X11_turns, jwZ_X11, by decide +kernel, by decide +kernel, by decide +kernel, by decide⟩
theorem jo_X11_set : jMo mX11_set 3 := ⟨jwO_X11_set, jwZ_X11, by decide +kernel, by decide +kernel, by decide +kernel, by decide⟩
theorem jo_X11_bars : jMo mX11_bars 3 := ⟨jwO_X11_bars, jwZ_X11, by decide +kernel, by decide +kernel, by decide +kernel, by decide⟩
theorem jo_X11_road : jMo mX11_road 3 := ⟨jwO_X11_road, jwZ_X11, by decide +kernel, by decide +kernel, by decide +kernel, by decide⟩
theorem jo_X11_findFar : jMo mX11_findFar 0 := ⟨jwO_X11_findFar, jwZ_X11, by decide +kernel, by decide +kernel, by decide +kernel, by decide⟩
theorem jo_X11_far : jMo mX11_far 2 := ⟨jwO_X11_far, jwZ_X11, by decide +kernel, by decide +kernel, by decide +kernel, by decide⟩
theorem jo_X11_deal : jMo mX11_deal 1 := ⟨jwO_X11_deal, jwZ_X11, by decide +kernel, by decide +kernel, by decide +kernel, by decide⟩
theorem jo_X11_seed : jMo mX11_seed 1 := ⟨jwO_X11_seed, jwZ_X11, by decide +kernel, by decide +kernel, by decide +kernel, by decide⟩
theorem jo_X11_apprentice : jMo mX11_apprentice 1 := ⟨jwO_X11_apprentice, jwZ_X11, by decide +kernel, by decide +kernel, by decide +kernel, by decide⟩
theorem jo_X11_has : jMo mX11_has 2 := ⟨jwO_X11_has, jwZ_X11, by decide +kernel, by decide +kernel, by decide +kernel, by decide⟩
theorem jo_X11_doesKnow : jMo mX11_doesKnow 1 := ⟨jwO_X11_doesKnow, jwZ_X11, by decide +kernel, by decide +kernel, by decide +kernel, by decide⟩
theorem jo_X11_knows : jMo mX11_knows 2 := ⟨jwO_X11_knows, jwZ_X11, by decide +kernel, by decide +kernel, by decide +kernel, by decide⟩
theorem jo_X11_goesBy : jMo mX11_goesBy 1 := ⟨jwO_X11_goesBy, jwZ_X11, by decide +kernel, by decide +kernel, by decide +kernel, by decide⟩
theorem jo_X11_go : jMo mX11_go 1 := ⟨jwO_X11_go, jwZ_X11, by decide +kernel, by decide +kernel, by decide +kernel, by decide⟩
theorem jo_X11_canLearn : jMo mX11_canLearn 1 := ⟨jwO_X11_canLearn, jwZ_X11, by decide +kernel, by decide +kernel, by decide +kernel, by decide⟩
theorem jo_X11_learns : jMo mX11_learns 1 := ⟨jwO_X11_learns, jwZ_X11, by decide +kernel, by decide +kernel, by decide +kernel, by decide⟩
theorem jo_X11_learn : jMo mX11_learn 1 := ⟨jwO_X11_learn, jwZ_X11, by decide +kernel, by decide +kernel, by decide +kernel, by decide⟩
theorem jo_X11_uses : jMo mX11_uses 1 := ⟨jwO_X11_uses, jwZ_X11, by decide +kernel, by decide +kernel, by decide +kernel, by decide⟩
theorem jo_X11_use : jMo mX11_use 1 := ⟨jwO_X11_use, jwZ_X11, by decide +kernel, by decide +kernel, by decide +kernel, by decide⟩
theorem jo_X11_rests : jMo mX11_rests 1 := ⟨jwO_X11_rests, jwZ_X11, by decide +kernel, by decide +kernel, by decide +kernel, by decide⟩
theorem jo_X11_wants : jMo mX11_wants 1 := ⟨jwO_X11_wants, jwZ_X11, by decide +kernel, by decide +kernel, by decide +kernel, by decide⟩
theorem jo_X11_clear : jMo mX11_clear 0 := ⟨jwO_X11_clear, jwZ_X11, by decide +kernel, by decide +kernel, by decide +kernel, by decide⟩
theorem jo_X11_can : jMo mX11_can 0 := ⟨jwO_X11_can, jwZ_X11, by decide +kernel, by decide +kernel, by decide +kernel, by decide⟩
theorem jo_X11_made : jMo mX11_made 0 := ⟨jwO_X11_made, jwZ_X11, by decide +kernel, by decide +kernel, by decide +kernel, by decide⟩
theorem jo_X11_laysBy : jMo mX11_laysBy 0 := ⟨jwO_X11_laysBy, jwZ_X11, by decide +kernel, by decide +kernel, by decide +kernel, by decide⟩
theorem jo_X11_laysBack : jMo mX11_laysBack 0 := ⟨jwO_X11_laysBack, jwZ_X11, by decide +kernel, by decide +kernel, by decide +kernel, by decide⟩
theorem jo_X11_goesWay : jMo mX11_goesWay 0 := ⟨jwO_X11_goesWay, jwZ_X11, by decide +kernel, by decide +kernel, by decide +kernel, by decide⟩
theorem jo_X11_findSoonest : jMo mX11_findSoonest 0 := ⟨jwO_X11_findSoonest, jwZ_X11, by decide +kernel, by decide +kernel, by decide +kernel, by decide⟩
theorem jo_X11_soonest : jMo mX11_soonest 1 := ⟨jwO_X11_soonest, jwZ_X11, by decide +kernel, by decide +kernel, by decide +kernel, by decide⟩
theorem jo_X11_areTogether : jMo mX11_areTogether 1 := ⟨jwO_X11_areTogether, jwZ_X11, by decide +kernel, by decide +kernel, by decide +kernel, by decide⟩
theorem jo_X11_together : jMo mX11_together 1 := ⟨jwO_X11_together, jwZ_X11, by decide +kernel, by decide +kernel, by decide +kernel, by decide⟩
theorem jo_X11_taughtNow : jMo mX11_taughtNow 0 := ⟨jwO_X11_taughtNow, jwZ_X11, by decide +kernel, by decide +kernel, by decide +kernel, by decide⟩
theorem jo_X11_never : jMo mX11_never 0 := ⟨jwO_X11_never, jwZ_X11, by decide +kernel, by decide +kernel, by decide +kernel, by decide⟩
theorem jo_X11_last : jMo mX11_last 1 := ⟨jwO_X11_last, jwZ_X11, by decide +kernel, by decide +kernel, by decide +kernel, by decide⟩
theorem jo_X11_year : jMo mX11_year 0 := ⟨jwO_X11_year, jwZ_X11, by decide +kernel, by decide +kernel, by decide +kernel, by decide⟩
theorem jo_X11_years : jMo mX11_years 1 := ⟨jwO_X11_years, jwZ_X11, by decide +kernel, by decide +kernel, by decide +kernel, by decide⟩
theorem jo_X11_gone : jMo mX11_gone 1 := ⟨jwO_X11_gone, jwZ_X11, by decide +kernel, by decide +kernel, by decide +kernel, by decide⟩
theorem jo_X11_farFrom : jMo mX11_farFrom 1 := ⟨jwO_X11_farFrom, jwZ_X11, by decide +kernel, by decide +kernel, by decide +kernel, by decide⟩
theorem jo_X11_fresh : jMo mX11_fresh 0 := ⟨jwO_X11_fresh, jwZ_X11, by decide +kernel, by decide +kernel, by decide +kernel, by decide⟩
theorem jo_X11_fame : jMo mX11_fame 1 := ⟨jwO_X11_fame, jwZ_X11, by decide +kernel, by decide +kernel, by decide +kernel, by decide⟩
theorem jo_X11_fine : jMo mX11_fine 0 := ⟨jwO_X11_fine, jwZ_X11, by decide +kernel, by decide +kernel, by decide +kernel, by decide⟩
theorem jo_X11_feed : jMo mX11_feed 3 := ⟨jwO_X11_feed, jwZ_X11, by decide +kernel, by decide +kernel, by decide +kernel, by decide⟩
theorem jo_X11_trim : jMo mX11_trim 1 := ⟨jwO_X11_trim, jwZ_X11, by decide +kernel, by decide +kernel, by decide +kernel, by decide⟩
theorem jo_X11_isLetter : jMo mX11_isLetter 1 := ⟨jwO_X11_isLetter, jwZ_X11, by decide +kernel, by decide +kernel, by decide +kernel, by decide⟩
theorem jo_X11_isDigit : jMo mX11_isDigit 1 := ⟨jwO_X11_isDigit, jwZ_X11, by decide +kernel, by decide +kernel, by decide +kernel, by decide⟩
theorem jo_X11_nextToken : jMo mX11_nextToken 0 := ⟨jwO_X11_nextToken, jwZ_X11, by decide +kernel, by decide +kernel, by decide +kernel, by decide⟩
theorem jo_X11_isSign : jMo mX11_isSign 1 := ⟨jwO_X11_isSign, jwZ_X11, by decide +kernel, by decide +kernel, by decide +kernel, by decide⟩
theorem jo_X11_isWordAt : jMo mX11_isWordAt 4 := ⟨jwO_X11_isWordAt, jwZ_X11, by decide +kernel, by decide +kernel, by decide +kernel, by decide⟩
theorem jo_X11_key : jMo mX11_key 0 := ⟨jwO_X11_key, jwZ_X11, by decide +kernel, by decide +kernel, by decide +kernel, by decide⟩
theorem jo_X11_isName : jMo mX11_isName 2 := ⟨jwO_X11_isName, jwZ_X11, by decide +kernel, by decide +kernel, by decide +kernel, by decide⟩
theorem jo_X11_step : jMo mX11_step 2 := ⟨jwO_X11_step, jwZ_X11, by decide +kernel, by decide +kernel, by decide +kernel, by decide⟩
theorem jo_X11_either : jMo mX11_either 1 := ⟨jwO_X11_either, jwZ_X11, by decide +kernel, by decide +kernel, by decide +kernel, by decide⟩
theorem jo_X11_both : jMo mX11_both 1 := ⟨jwO_X11_both, jwZ_X11, by decide +kernel, by decide +kernel, by decide +kernel, by decide⟩
theorem jo_X11_test : jMo mX11_test 1 := ⟨jwO_X11_test, jwZ_X11, by decide +kernel, by decide +kernel, by decide +kernel, by decide⟩
theorem jo_X11_sum : jMo mX11_sum 1 := ⟨jwO_X11_sum, jwZ_X11, by decide +kernel, by decide +kernel, by decide +kernel, by decide⟩
theorem jo_X11_term : jMo mX11_term 1 := ⟨jwO_X11_term, jwZ_X11, by decide +kernel, by decide +kernel, by decide +kernel, by decide⟩
theorem jo_X11_part0 : jMo mX11_part0 1 := ⟨jwO_X11_part0, jwZ_X11, by decide +kernel, by decide +kernel, by decide +kernel, by decide⟩
theorem jo_X11_parse : jMo mX11_parse 0 := ⟨jwO_X11_parse, jwZ_X11, by decide +kernel, by decide +kernel, by decide +kernel, by decide⟩
theorem jo_X11_text : jMo mX11_text 0 := ⟨jwO_X11_text, jwZ_X11, by decide +kernel, by decide +kernel, by decide +kernel, by decide⟩
theorem jo_X11_textTold : jMo mX11_textTold 2 := ⟨jwO_X11_textTold, jwZ_X11, by decide +kernel, by decide +kernel, by decide +kernel, by decide⟩
theorem jo_X11_counts : jMo mX11_counts 1 := ⟨jwO_X11_counts, jwZ_X11, by decide +kernel, by decide +kernel, by decide +kernel, by decide⟩
theorem jo_X11_why : jMo mX11_why 1 := ⟨jwO_X11_why, jwZ_X11, by decide +kernel, by decide +kernel, by decide +kernel, by decide⟩
theorem jo_X11_joined : jMo mX11_joined 3 := ⟨jwO_X11_joined, jwZ_X11, by decide +kernel, by decide +kernel, by decide +kernel, by decide⟩
theorem jo_X11_worked : jMo mX11_worked 1 := ⟨jwO_X11_worked, jwZ_X11, by decide +kernel, by decide +kernel, by decide +kernel, by decide⟩
theorem jo_X11_isSheet : jMo mX11_isSheet 1 := ⟨jwO_X11_isSheet, jwZ_X11, by decide +kernel, by decide +kernel, by decide +kernel, by decide⟩
theorem jo_X11_sheet : jMo mX11_sheet 3 := ⟨jwO_X11_sheet, jwZ_X11, by decide +kernel, by decide +kernel, by decide +kernel, by decide⟩
theorem jo_X11_mark : jMo mX11_mark 3 := ⟨jwO_X11_mark, jwZ_X11, by decide +kernel, by decide +kernel, by decide +kernel, by decide⟩
theorem jo_X11_pour : jMo mX11_pour 1 := ⟨jwO_X11_pour, jwZ_X11, by decide +kernel, by decide +kernel, by decide +kernel, by decide⟩
theorem jo_X11_reads : jMo mX11_reads 1 := ⟨jwO_X11_reads, jwZ_X11, by decide +kernel, by decide +kernel, by decide +kernel, by decide⟩
theorem jo_X11_cut : jMo mX11_cut 2 := ⟨jwO_X11_cut, jwZ_X11, by decide +kernel, by decide +kernel, by decide +kernel, by decide⟩
theorem jo_X11_copy : jMo mX11_copy 5 := ⟨jwO_X11_copy, jwZ_X11, by decide +kernel, by decide +kernel, by decide +kernel, by decide⟩
theorem jo_X11_isSlot : jMo mX11_isSlot 1 := ⟨jwO_X11_isSlot, jwZ_X11, by decide +kernel, by decide +kernel, by decide +kernel, by decide⟩
theorem jo_X11_lay : jMo mX11_lay 3 := ⟨jwO_X11_lay, jwZ_X11, by decide +kernel, by decide +kernel, by decide +kernel, by decide⟩
theorem jo_X11_ask : jMo mX11_ask 2 := ⟨jwO_X11_ask, jwZ_X11, by decide +kernel, by decide +kernel, by decide +kernel, by decide⟩
theorem jo_X11_item : jMo mX11_item 2 := ⟨jwO_X11_item, jwZ_X11, by decide +kernel, by decide +kernel, by decide +kernel, by decide⟩
theorem jo_X11_rest : jMo mX11_rest 2 := ⟨jwO_X11_rest, jwZ_X11, by decide +kernel, by decide +kernel, by decide +kernel, by decide⟩
theorem jo_X11_tell : jMo mX11_tell 1 := ⟨jwO_X11_tell, jwZ_X11, by decide +kernel, by decide +kernel, by decide +kernel, by decide⟩
theorem jo_X11_setAside : jMo mX11_setAside 2 := ⟨jwO_X11_setAside, jwZ_X11, by decide +kernel, by decide +kernel, by decide +kernel, by decide⟩
theorem jo_X11_allOf : jMo mX11_allOf 1 := ⟨jwO_X11_allOf, jwZ_X11, by decide +kernel, by decide +kernel, by decide +kernel, by decide⟩
theorem jo_X11_check : jMo mX11_check 1 := ⟨jwO_X11_check, jwZ_X11, by decide +kernel, by decide +kernel, by decide +kernel, by decide⟩
theorem jo_X11_keep : jMo mX11_keep 0 := ⟨jwO_X11_keep, jwZ_X11, by decide +kernel, by decide +kernel, by decide +kernel, by decide⟩
theorem jo_X11_back : jMo mX11_back 0 := ⟨jwO_X11_back, jwZ_X11, by decide +kernel, by decide +kernel, by decide +kernel, by decide⟩
theorem jo_X11_count : jMo mX11_count 1 := ⟨jwO_X11_count, jwZ_X11, by decide +kernel, by decide +kernel, by decide +kernel, by decide⟩
theorem jo_J6_bitCount_0f7a4 : jMo mJ6_bitCount_0f7a4 1 := ⟨jwO_J6_bitCount_0f7a4, jwZ_J6, by decide +kernel, by decide +kernel, by decide +kernel, by decide⟩
theorem jo_J0_length_8abf5 : jMo mJ0_length_8abf5 0 := ⟨jwO_J0_length_8abf5, jwZ_J0, by decide +kernel, by decide +kernel, by decide +kernel, by decide⟩
theorem jo_J0_charAt_5068e : jMo mJ0_charAt_5068e 1 := ⟨jwO_J0_charAt_5068e, jwZ_J0, by decide +kernel, by decide +kernel, by decide +kernel, by decide⟩
theorem jo_J0_indexOf_0f7a4 : jMo mJ0_indexOf_0f7a4 1 := ⟨jwO_J0_indexOf_0f7a4, jwZ_J0, by decide +kernel, by decide +kernel, by decide +kernel, by decide⟩
theorem jo_J0_indexOf_7cf53 : jMo mJ0_indexOf_7cf53 2 := ⟨jwO_J0_indexOf_7cf53, jwZ_J0, by decide +kernel, by decide +kernel, by decide +kernel, by decide⟩
theorem jo_J0_coder_7d493 : jMo mJ0_coder_7d493 0 := ⟨jwO_J0_coder_7d493, jwZ_J0, by decide +kernel, by decide +kernel, by decide +kernel, by decide⟩
theorem jo_J0_isLatin1_aae02 : jMo mJ0_isLatin1_aae02 0 := ⟨jwO_J0_isLatin1_aae02, jwZ_J0, by decide +kernel, by decide +kernel, by decide +kernel, by decide⟩
theorem jo_J0_checkIndex_df160 : jMo mJ0_checkIndex_df160 2 := ⟨jwO_J0_checkIndex_df160, jwZ_J0, by decide +kernel, by decide +kernel, by decide +kernel, by decide⟩
theorem jo_J1_charAt_3b067 : jMo mJ1_charAt_3b067 2 := ⟨jwO_J1_charAt_3b067, jwZ_J1, by decide +kernel, by decide +kernel, by decide +kernel, by decide⟩
theorem jo_J1_canEncode_9a6ad : jMo mJ1_canEncode_9a6ad 1 := ⟨jwO_J1_canEncode_9a6ad, jwZ_J1, by decide +kernel, by decide +kernel, by decide +kernel, by decide⟩
theorem jo_J1_indexOf_4cfef : jMo mJ1_indexOf_4cfef 4 := ⟨jwO_J1_indexOf_4cfef, jwZ_J1, by decide +kernel, by decide +kernel, by decide +kernel, by decide⟩
theorem jo_J1_indexOfChar_4cfef : jMo mJ1_indexOfChar_4cfef 4 := ⟨jwO_J1_indexOfChar_4cfef, jwZ_J1, by decide +kernel, by decide +kernel, by decide +kernel, by decide⟩
theorem jo_J3_checkIndex_8e157 : jMo mJ3_checkIndex_8e157 3 := ⟨jwO_J3_checkIndex_8e157, jwZ_J3, by decide +kernel, by decide +kernel, by decide +kernel, by decide⟩
end
section
/-! THE LAYER: calls by what they answer -/
section jTyped
variable {E : jEnv} {M M' : jMd} {R : Room} {Z : jZ} {pc : Nat} {lv lv1 : List (Nat × Value)} {st st1 : List Value} {S : jM} {c k : Nat} {d mc ms n index : Nat} {As : List Value}
theorem jx_callVi {Q' : Int32 → jM → Prop} {ci b : Nat} {q : vw_C} {ty : Nat → FieldType} (ho : jMo M' n) (hc : jCl ci q ty) (hq : q.1 = M'.1.cls) (w1 : Cond.methodLink M.1.cls index M'.1 ∈ jT) (w2 : Cond.instanceMethod M'.1 ∈ jT) (w3 : Cond.selects M'.1.cls M'.1 M'.1 ∈ jT) (hd : decode M.2.1 pc = .ok (.invokevirtual index, 3)) (hR : jRok R d) (hA : As.length = n) (hs : (st.map fun v => v.category).sum ≤ 8) (hm : c + mc ≤ R.cells ∧ k + ms ≤ R.slots) (hk : jk S b = ci)
    (hF : jFi E M' d mc ms (.ref b :: As) S Q') (h : ∀ (v : Int32) (S' : jM), Q' v S' → jX E M R Z (pc + 3) lv (.int v :: st) S' (c + mc) (k + ms)) : jX E M R Z pc lv (As.reverse ++ .ref b :: st) S c k :=
  jx_callV ho hc hq w1 w2 w3 hd hR hA hs hm hk hF (fun r S' hr => by obtain ⟨v, rfl, h9⟩ := hr; exact h v S' h9)
theorem jx_callVv {Q' : jM → Prop} {ci b : Nat} {q : vw_C} {ty : Nat → FieldType} (ho : jMo M' n) (hc : jCl ci q ty) (hq : q.1 = M'.1.cls) (w1 : Cond.methodLink M.1.cls index M'.1 ∈ jT) (w2 : Cond.instanceMethod M'.1 ∈ jT) (w3 : Cond.selects M'.1.cls M'.1 M'.1 ∈ jT) (hd : decode M.2.1 pc = .ok (.invokevirtual index, 3)) (hR : jRok R d) (hA : As.length = n) (hs : (st.map fun v => v.category).sum ≤ 8) (hm : c + mc ≤ R.cells ∧ k + ms ≤ R.slots) (hk : jk S b = ci)
    (hF : jFv E M' d mc ms (.ref b :: As) S Q') (h : ∀ S' : jM, Q' S' → jX E M R Z (pc + 3) lv st S' (c + mc) (k + ms)) : jX E M R Z pc lv (As.reverse ++ .ref b :: st) S c k :=
  jx_callV ho hc hq w1 w2 w3 hd hR hA hs hm hk hF (fun r S' hr => by obtain ⟨rfl, h9⟩ := hr; exact h S' h9)
theorem jx_callVr {Q' : Option Nat → jM → Prop} {ci b : Nat} {q : vw_C} {ty : Nat → FieldType} (ho : jMo M' n) (hc : jCl ci q ty) (hq : q.1 = M'.1.cls) (w1 : Cond.methodLink M.1.cls index M'.1 ∈ jT) (w2 : Cond.instanceMethod M'.1 ∈ jT) (w3 : Cond.selects M'.1.cls M'.1 M'.1 ∈ jT) (hd : decode M.2.1 pc = .ok (.invokevirtual index, 3)) (hR : jRok R d) (hA : As.length = n) (hs : (st.map fun v => v.category).sum ≤ 8) (hm : c + mc ≤ R.cells ∧ k + ms ≤ R.slots) (hk : jk S b = ci)
    (hF : jFr E M' d mc ms (.ref b :: As) S Q') (h : ∀ (o : Option Nat) (S' : jM), Q' o S' → jX E M R Z (pc + 3) lv (va_rf o :: st) S' (c + mc) (k + ms)) : jX E M R Z pc lv (As.reverse ++ .ref b :: st) S c k :=
  jx_callV ho hc hq w1 w2 w3 hd hR hA hs hm hk hF (fun r S' hr => by obtain ⟨v, rfl, h9⟩ := hr; exact h v S' h9)
theorem jx_callSi {Q' : Int32 → jM → Prop} (ho : jMo M' n) (w1 : Cond.methodLink M.1.cls index M'.1 ∈ jT) (w2 : Cond.static M'.1 ∈ jT) (hd : decode M.2.1 pc = .ok (.invokestatic index, 3)) (hR : jRok R d) (hA : As.length = n) (hs : (st.map fun v => v.category).sum ≤ 8) (hm : c + mc ≤ R.cells ∧ k + ms ≤ R.slots)
    (hF : jFi E M' d mc ms (As) S Q') (h : ∀ (v : Int32) (S' : jM), Q' v S' → jX E M R Z (pc + 3) lv (.int v :: st) S' (c + mc) (k + ms)) : jX E M R Z pc lv (As.reverse ++ st) S c k :=
  jx_callS ho w1 w2 hd hR hA hs hm hF (fun r S' hr => by obtain ⟨v, rfl, h9⟩ := hr; exact h v S' h9)
theorem jx_callSv {Q' : jM → Prop} (ho : jMo M' n) (w1 : Cond.methodLink M.1.cls index M'.1 ∈ jT) (w2 : Cond.static M'.1 ∈ jT) (hd : decode M.2.1 pc = .ok (.invokestatic index, 3)) (hR : jRok R d) (hA : As.length = n) (hs : (st.map fun v => v.category).sum ≤ 8) (hm : c + mc ≤ R.cells ∧ k + ms ≤ R.slots)
    (hF : jFv E M' d mc ms (As) S Q') (h : ∀ S' : jM, Q' S' → jX E M R Z (pc + 3) lv st S' (c + mc) (k + ms)) : jX E M R Z pc lv (As.reverse ++ st) S c k :=
  jx_callS ho w1 w2 hd hR hA hs hm hF (fun r S' hr => by obtain ⟨rfl, h9⟩ := hr; exact h S' h9)
theorem jx_callSr {Q' : Option Nat → jM → Prop} (ho : jMo M' n) (w1 : Cond.methodLink M.1.cls index M'.1 ∈ jT) (w2 : Cond.static M'.1 ∈ jT) (hd : decode M.2.1 pc = .ok (.invokestatic index, 3)) (hR : jRok R d) (hA : As.length = n) (hs : (st.map fun v => v.category).sum ≤ 8) (hm : c + mc ≤ R.cells ∧ k + ms ≤ R.slots)
    (hF : jFr E M' d mc ms (As) S Q') (h : ∀ (o : Option Nat) (S' : jM), Q' o S' → jX E M R Z (pc + 3) lv (va_rf o :: st) S' (c + mc) (k + ms)) : jX E M R Z pc lv (As.reverse ++ st) S c k :=
  jx_callS ho w1 w2 hd hR hA hs hm hF (fun r S' hr => by obtain ⟨v, rfl, h9⟩ := hr; exact h v S' h9)
theorem jx_callSNi {Q' : Int32 → jM → Prop} {host : String} (ho : jMo M' n) (w1 : (M.1.cls, index, M'.1, host) ∈ jNest) (w2 : Cond.static M'.1 ∈ jT) (hd : decode M.2.1 pc = .ok (.invokestatic index, 3)) (hR : jRok R d) (hA : As.length = n) (hs : (st.map fun v => v.category).sum ≤ 8) (hm : c + mc ≤ R.cells ∧ k + ms ≤ R.slots)
    (hF : jFi E M' d mc ms (As) S Q') (h : ∀ (v : Int32) (S' : jM), Q' v S' → jX E M R Z (pc + 3) lv (.int v :: st) S' (c + mc) (k + ms)) : jX E M R Z pc lv (As.reverse ++ st) S c k :=
  jx_callSN ho w1 w2 hd hR hA hs hm hF (fun r S' hr => by obtain ⟨v, rfl, h9⟩ := hr; exact h v S' h9)
theorem jx_callIv {Q' : jM → Prop} {b : Nat} (ho : jMo M' n) (hi : M'.1.name = "<init>") (w1 : Cond.methodLink M.1.cls index M'.1 ∈ jT) (w2 : Cond.instanceMethod M'.1 ∈ jT) (hret : M'.2.2.2 = none) (hd : decode M.2.1 pc = .ok (.invokespecial index, 3)) (hR : jRok R d) (hA : As.length = n) (hs : (st.map fun v => v.category).sum ≤ 8) (hm : c + mc ≤ R.cells ∧ k + ms ≤ R.slots)
    (hF : jFv E M' d mc ms (.ref b :: As) S Q') (h : ∀ S' : jM, Q' S' → jX E M R Z (pc + 3) lv st S' (c + mc) (k + ms)) : jX E M R Z pc lv (As.reverse ++ .ref b :: st) S c k :=
  jx_callI ho hi w1 w2 hret hd hR hA hs hm hF (fun r S' hr => by obtain ⟨rfl, h9⟩ := hr; exact h S' h9)
theorem jx_callINv {Q' : jM → Prop} {host : String} {b : Nat} (ho : jMo M' n) (hi : M'.1.name = "<init>") (w1 : (M.1.cls, index, M'.1, host) ∈ jNest) (w2 : Cond.instanceMethod M'.1 ∈ jT) (hret : M'.2.2.2 = none) (hd : decode M.2.1 pc = .ok (.invokespecial index, 3)) (hR : jRok R d) (hA : As.length = n) (hs : (st.map fun v => v.category).sum ≤ 8) (hm : c + mc ≤ R.cells ∧ k + ms ≤ R.slots)
    (hF : jFv E M' d mc ms (.ref b :: As) S Q') (h : ∀ S' : jM, Q' S' → jX E M R Z (pc + 3) lv st S' (c + mc) (k + ms)) : jX E M R Z pc lv (As.reverse ++ .ref b :: st) S c k :=
  jx_callIN ho hi w1 w2 hret hd hR hA hs hm hF (fun r S' hr => by obtain ⟨rfl, h9⟩ := hr; exact h S' h9)
theorem jx_nm {x : Int32} (h : ∀ y : Int32, y = x → jX E M R Z pc lv (.int y :: st) S c k) : jX E M R Z pc lv (.int x :: st) S c k := h x rfl
theorem jx_topi {x y : Int32} (e : x = y) (h : jX E M R Z pc lv (.int y :: st) S c k) : jX E M R Z pc lv (.int x :: st) S c k := e ▸ h
end jTyped
end
section
/-! numbers' words -/
theorem jle {a b : Nat} (h : Nat.ble a b = true) : a ≤ b := Nat.le_of_ble_eq_true h
def jrem (x y : Int32) : Int32 := x - x / y * y
def jshl (x y : Int32) : Int32 := x <<< (y &&& 31)
def jshr (x y : Int32) : Int32 := x >>> (y &&& 31)
def jushr (x y : Int32) : Int32 := (x.toUInt32 >>> (y.toUInt32 &&& Int32.toUInt32 31)).toInt32
def jmin (x y : Int32) : Int32 := if y < x then y else x
def jmax (x y : Int32) : Int32 := if x < y then y else x
def jabs (x : Int32) : Int32 := if 0 ≤ x then x else 0 - x
/-- the table ABOVE -/
def jab (x : Int32) : Int32 := ([-1, 0, 0, 1, 2, 0] : List Int32).getD x.toNatClampNeg 0
theorem jb_nar {v : Int32} (h : v = 0 ∨ v = 1) : narrow .boolean (.int v) = .int v := by rcases h with rfl | rfl <;> decide
theorem jb_fit {v : Int32} (h : v = 0 ∨ v = 1) : fits .boolean (.int v) = true := by rcases h with rfl | rfl <;> decide
/-! the memory's words -/
theorem jne {S : jM} {a b x y : Nat} (ha : jk S a = x) (hb : jk S b = y) (h : x ≠ y) : a ≠ b := fun e => h (by rw [← ha, ← hb, e])
theorem jr_put (S : jM) (a j : Nat) (v : Int32) : jr (jput S a j v) = jr S := rfl
theorem ji_put (S : jM) (a j : Nat) (v : Int32) (b i : Nat) : ji (jput S a j v) b i = if b = a ∧ i = j then v else ji S b i := by
  by_cases h : b = a
  · subst h
    by_cases hi : i = j
    · simp [ji, jput, jrow, va_up, upd, hi]
    · simp [ji, jput, jrow, va_up, upd, hi]
  · simp [ji, jput, jrow, va_up, h]
theorem ji_put_same (S : jM) (a j : Nat) (v : Int32) : ji (jput S a j v) a j = v := by simp [ji_put]
theorem ji_put_ne (S : jM) (a j : Nat) (v : Int32) {b : Nat} (h : b ≠ a) : ji (jput S a j v) b = ji S b := by funext i; simp [ji_put, h]
theorem ji_row (S : jM) (a : Nat) (f : Nat → Int32) (b : Nat) : ji (jrow S a f) b = if b = a then f else ji S b := by
  by_cases h : b = a <;> simp [ji, jrow, va_up, h]
theorem ji_row_same (S : jM) (a : Nat) (f : Nat → Int32) : ji (jrow S a f) a = f := by simp [ji_row]
theorem ji_row_ne (S : jM) (a : Nat) (f : Nat → Int32) {b : Nat} (h : b ≠ a) : ji (jrow S a f) b = ji S b := by simp [ji_row, h]
theorem jput_eq (S : jM) (a j : Nat) (v : Int32) : jput S a j v = jrow S a (upd (ji S a) j v) := rfl
theorem jrow_row (S : jM) (a : Nat) (f g : Nat → Int32) : jrow (jrow S a f) a g = jrow S a g := by
  unfold jrow
  congr 3
  funext x
  by_cases h : x = a <;> simp [va_up, h]
theorem jrow_self (S : jM) (a : Nat) : jrow S a (ji S a) = S := by
  obtain ⟨k, l, i, r, n⟩ := S
  show (k, l, va_up i a (i a), r, n) = _
  congr 3
  funext x
  by_cases h : x = a <;> simp [va_up, h]
theorem jk_putr (S : jM) (a j : Nat) (v : Option Nat) : jk (jputr S a j v) = jk S := rfl
theorem jl_putr (S : jM) (a j : Nat) (v : Option Nat) : jl (jputr S a j v) = jl S := rfl
theorem ji_putr (S : jM) (a j : Nat) (v : Option Nat) : ji (jputr S a j v) = ji S := rfl
theorem jr_putr (S : jM) (a j : Nat) (v : Option Nat) (b i : Nat) : jr (jputr S a j v) b i = if b = a ∧ i = j then v else jr S b i := by
  by_cases h : b = a
  · subst h
    by_cases hi : i = j
    · simp [jr, jputr, va_up, hi]
    · simp [jr, jputr, va_up, hi]
  · simp [jr, jputr, va_up, h]
theorem jk_newE (S : jM) (k n a : Nat) : jk (jnew S k n) a = if a = jn S then k else jk S a := rfl
theorem jl_newE (S : jM) (k n a : Nat) : jl (jnew S k n) a = if a = jn S then n else jl S a := rfl
theorem ji_newE (S : jM) (k n a : Nat) : ji (jnew S k n) a = if a = jn S then (fun _ => 0) else ji S a := rfl
theorem jr_newE (S : jM) (k n a : Nat) : jr (jnew S k n) a = if a = jn S then (fun _ => none) else jr S a := rfl
end
