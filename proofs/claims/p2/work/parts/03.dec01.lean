theorem dX0_init_0 : decode cX0_init 0 = .ok (.aload_n 0, 1) := by decide +kernel
theorem dX0_init_1 : decode cX0_init 1 = .ok (.invokespecial 3, 3) := by decide +kernel
theorem dX0_init_4 : decode cX0_init 4 = .ok (.aload_n 0, 1) := by decide +kernel
theorem dX0_init_5 : decode cX0_init 5 = .ok (.bipush 9, 2) := by decide +kernel
theorem dX0_init_7 : decode cX0_init 7 = .ok (.anewarray 9, 3) := by decide +kernel
theorem dX0_init_10 : decode cX0_init 10 = .ok (.putfield 11, 3) := by decide +kernel
theorem dX0_init_13 : decode cX0_init 13 = .ok (.aload_n 0, 1) := by decide +kernel
theorem dX0_init_14 : decode cX0_init 14 = .ok (.iconst 1, 1) := by decide +kernel
theorem dX0_init_15 : decode cX0_init 15 = .ok (.putfield 17, 3) := by decide +kernel
theorem dX0_init_18 : decode cX0_init 18 = .ok (.iconst 0, 1) := by decide +kernel
theorem dX0_init_19 : decode cX0_init 19 = .ok (.istore_n 1, 1) := by decide +kernel
theorem dX0_init_20 : decode cX0_init 20 = .ok (.iload_n 1, 1) := by decide +kernel
theorem dX0_init_21 : decode cX0_init 21 = .ok (.bipush 9, 2) := by decide +kernel
theorem dX0_init_23 : decode cX0_init 23 = .ok (.if_icmp .ge 22, 3) := by decide +kernel
theorem dX0_init_26 : decode cX0_init 26 = .ok (.aload_n 0, 1) := by decide +kernel
theorem dX0_init_27 : decode cX0_init 27 = .ok (.getfield 11, 3) := by decide +kernel
theorem dX0_init_30 : decode cX0_init 30 = .ok (.iload_n 1, 1) := by decide +kernel
theorem dX0_init_31 : decode cX0_init 31 = .ok (.new 9, 3) := by decide +kernel
theorem dX0_init_34 : decode cX0_init 34 = .ok (.dup, 1) := by decide +kernel
theorem dX0_init_35 : decode cX0_init 35 = .ok (.invokespecial 21, 3) := by decide +kernel
theorem dX0_init_38 : decode cX0_init 38 = .ok (.aastore, 1) := by decide +kernel
theorem dX0_init_39 : decode cX0_init 39 = .ok (.iinc 1 1, 3) := by decide +kernel
theorem dX0_init_42 : decode cX0_init 42 = .ok (.goto (-22), 3) := by decide +kernel
theorem dX0_init_45 : decode cX0_init 45 = .ok (.return_, 1) := by decide +kernel
theorem dX0_become_0 : decode cX0_become 0 = .ok (.aload_n 0, 1) := by decide +kernel
theorem dX0_become_1 : decode cX0_become 1 = .ok (.aload_n 1, 1) := by decide +kernel
theorem dX0_become_2 : decode cX0_become 2 = .ok (.getfield 22, 3) := by decide +kernel
theorem dX0_become_5 : decode cX0_become 5 = .ok (.putfield 22, 3) := by decide +kernel
theorem dX0_become_8 : decode cX0_become 8 = .ok (.aload_n 0, 1) := by decide +kernel
theorem dX0_become_9 : decode cX0_become 9 = .ok (.aload_n 1, 1) := by decide +kernel
theorem dX0_become_10 : decode cX0_become 10 = .ok (.getfield 17, 3) := by decide +kernel
theorem dX0_become_13 : decode cX0_become 13 = .ok (.putfield 17, 3) := by decide +kernel
theorem dX0_become_16 : decode cX0_become 16 = .ok (.iconst 0, 1) := by decide +kernel
theorem dX0_become_17 : decode cX0_become 17 = .ok (.istore_n 2, 1) := by decide +kernel
theorem dX0_become_18 : decode cX0_become 18 = .ok (.iload_n 2, 1) := by decide +kernel
theorem dX0_become_19 : decode cX0_become 19 = .ok (.bipush 9, 2) := by decide +kernel
theorem dX0_become_21 : decode cX0_become 21 = .ok (.if_icmp .ge 24, 3) := by decide +kernel
theorem dX0_become_24 : decode cX0_become 24 = .ok (.aload_n 0, 1) := by decide +kernel
theorem dX0_become_25 : decode cX0_become 25 = .ok (.getfield 11, 3) := by decide +kernel
theorem dX0_become_28 : decode cX0_become 28 = .ok (.iload_n 2, 1) := by decide +kernel
theorem dX0_become_29 : decode cX0_become 29 = .ok (.aaload, 1) := by decide +kernel
theorem dX0_become_30 : decode cX0_become 30 = .ok (.aload_n 1, 1) := by decide +kernel
theorem dX0_become_31 : decode cX0_become 31 = .ok (.getfield 11, 3) := by decide +kernel
theorem dX0_become_34 : decode cX0_become 34 = .ok (.iload_n 2, 1) := by decide +kernel
theorem dX0_become_35 : decode cX0_become 35 = .ok (.aaload, 1) := by decide +kernel
theorem dX0_become_36 : decode cX0_become 36 = .ok (.invokevirtual 25, 3) := by decide +kernel
theorem dX0_become_39 : decode cX0_become 39 = .ok (.iinc 2 1, 3) := by decide +kernel
theorem dX0_become_42 : decode cX0_become 42 = .ok (.goto (-24), 3) := by decide +kernel
theorem dX0_become_45 : decode cX0_become 45 = .ok (.return_, 1) := by decide +kernel
theorem dX0_find_0 : decode cX0_find 0 = .ok (.iload_n 1, 1) := by decide +kernel
theorem dX0_find_1 : decode cX0_find 1 = .ok (.aload_n 0, 1) := by decide +kernel
theorem dX0_find_2 : decode cX0_find 2 = .ok (.getfield 22, 3) := by decide +kernel
theorem dX0_find_5 : decode cX0_find 5 = .ok (.invokestatic 29, 3) := by decide +kernel
theorem dX0_find_8 : decode cX0_find 8 = .ok (.ifCond .eq 18, 3) := by decide +kernel
theorem dX0_find_11 : decode cX0_find 11 = .ok (.iload_n 1, 1) := by decide +kernel
theorem dX0_find_12 : decode cX0_find 12 = .ok (.bipush 9, 2) := by decide +kernel
theorem dX0_find_14 : decode cX0_find 14 = .ok (.if_icmp .ge 12, 3) := by decide +kernel
theorem dX0_find_17 : decode cX0_find 17 = .ok (.aload_n 0, 1) := by decide +kernel
theorem dX0_find_18 : decode cX0_find 18 = .ok (.getfield 11, 3) := by decide +kernel
theorem dX0_find_21 : decode cX0_find 21 = .ok (.iload_n 1, 1) := by decide +kernel
theorem dX0_find_22 : decode cX0_find 22 = .ok (.aaload, 1) := by decide +kernel
theorem dX0_find_23 : decode cX0_find 23 = .ok (.goto 4, 3) := by decide +kernel
theorem dX0_find_26 : decode cX0_find 26 = .ok (.aconst_null, 1) := by decide +kernel
theorem dX0_find_27 : decode cX0_find 27 = .ok (.areturn, 1) := by decide +kernel
theorem dX0_join_0 : decode cX0_join 0 = .ok (.aload_n 0, 1) := by decide +kernel
theorem dX0_join_1 : decode cX0_join 1 = .ok (.getfield 22, 3) := by decide +kernel
theorem dX0_join_4 : decode cX0_join 4 = .ok (.bipush 9, 2) := by decide +kernel
theorem dX0_join_6 : decode cX0_join 6 = .ok (.invokestatic 29, 3) := by decide +kernel
theorem dX0_join_9 : decode cX0_join 9 = .ok (.ifCond .ne 5, 3) := by decide +kernel
theorem dX0_join_12 : decode cX0_join 12 = .ok (.iconst 0, 1) := by decide +kernel
theorem dX0_join_13 : decode cX0_join 13 = .ok (.ireturn, 1) := by decide +kernel
theorem dX0_join_14 : decode cX0_join 14 = .ok (.aload_n 0, 1) := by decide +kernel
theorem dX0_join_15 : decode cX0_join 15 = .ok (.getfield 11, 3) := by decide +kernel
theorem dX0_join_18 : decode cX0_join 18 = .ok (.aload_n 0, 1) := by decide +kernel
theorem dX0_join_19 : decode cX0_join 19 = .ok (.getfield 22, 3) := by decide +kernel
theorem dX0_join_22 : decode cX0_join 22 = .ok (.aaload, 1) := by decide +kernel
theorem dX0_join_23 : decode cX0_join 23 = .ok (.iload_n 1, 1) := by decide +kernel
theorem dX0_join_24 : decode cX0_join 24 = .ok (.iload_n 2, 1) := by decide +kernel
theorem dX0_join_25 : decode cX0_join 25 = .ok (.iload_n 3, 1) := by decide +kernel
theorem dX0_join_26 : decode cX0_join 26 = .ok (.iload 4, 2) := by decide +kernel
theorem dX0_join_28 : decode cX0_join 28 = .ok (.invokevirtual 33, 3) := by decide +kernel
theorem dX0_join_31 : decode cX0_join 31 = .ok (.aload_n 0, 1) := by decide +kernel
theorem dX0_join_32 : decode cX0_join 32 = .ok (.dup, 1) := by decide +kernel
theorem dX0_join_33 : decode cX0_join 33 = .ok (.getfield 22, 3) := by decide +kernel
theorem dX0_join_36 : decode cX0_join 36 = .ok (.iconst 1, 1) := by decide +kernel
theorem dX0_join_37 : decode cX0_join 37 = .ok (.iadd, 1) := by decide +kernel
theorem dX0_join_38 : decode cX0_join 38 = .ok (.putfield 22, 3) := by decide +kernel
theorem dX0_join_41 : decode cX0_join 41 = .ok (.iconst 1, 1) := by decide +kernel
theorem dX0_join_42 : decode cX0_join 42 = .ok (.ireturn, 1) := by decide +kernel
theorem dX0_joinByLot_0 : decode cX0_joinByLot 0 = .ok (.aload_n 0, 1) := by decide +kernel
theorem dX0_joinByLot_1 : decode cX0_joinByLot 1 = .ok (.invokevirtual 37, 3) := by decide +kernel
theorem dX0_joinByLot_4 : decode cX0_joinByLot 4 = .ok (.bipush 6, 2) := by decide +kernel
theorem dX0_joinByLot_6 : decode cX0_joinByLot 6 = .ok (.irem, 1) := by decide +kernel
theorem dX0_joinByLot_7 : decode cX0_joinByLot 7 = .ok (.istore_n 1, 1) := by decide +kernel
theorem dX0_joinByLot_8 : decode cX0_joinByLot 8 = .ok (.aload_n 0, 1) := by decide +kernel
theorem dX0_joinByLot_9 : decode cX0_joinByLot 9 = .ok (.invokevirtual 37, 3) := by decide +kernel
theorem dX0_joinByLot_12 : decode cX0_joinByLot 12 = .ok (.bipush 6, 2) := by decide +kernel
theorem dX0_joinByLot_14 : decode cX0_joinByLot 14 = .ok (.irem, 1) := by decide +kernel
theorem dX0_joinByLot_15 : decode cX0_joinByLot 15 = .ok (.istore_n 2, 1) := by decide +kernel
theorem dX0_joinByLot_16 : decode cX0_joinByLot 16 = .ok (.aload_n 0, 1) := by decide +kernel
theorem dX0_joinByLot_17 : decode cX0_joinByLot 17 = .ok (.invokevirtual 37, 3) := by decide +kernel
theorem dX0_joinByLot_20 : decode cX0_joinByLot 20 = .ok (.bipush 10, 2) := by decide +kernel
theorem dX0_joinByLot_22 : decode cX0_joinByLot 22 = .ok (.irem, 1) := by decide +kernel
theorem dX0_joinByLot_23 : decode cX0_joinByLot 23 = .ok (.istore_n 3, 1) := by decide +kernel
theorem dX0_joinByLot_24 : decode cX0_joinByLot 24 = .ok (.aload_n 0, 1) := by decide +kernel
theorem dX0_joinByLot_25 : decode cX0_joinByLot 25 = .ok (.invokevirtual 37, 3) := by decide +kernel
theorem dX0_joinByLot_28 : decode cX0_joinByLot 28 = .ok (.bipush 40, 2) := by decide +kernel
theorem dX0_joinByLot_30 : decode cX0_joinByLot 30 = .ok (.irem, 1) := by decide +kernel
theorem dX0_joinByLot_31 : decode cX0_joinByLot 31 = .ok (.istore 4, 2) := by decide +kernel
theorem dX0_joinByLot_33 : decode cX0_joinByLot 33 = .ok (.aload_n 0, 1) := by decide +kernel
theorem dX0_joinByLot_34 : decode cX0_joinByLot 34 = .ok (.iload_n 1, 1) := by decide +kernel
theorem dX0_joinByLot_35 : decode cX0_joinByLot 35 = .ok (.iload_n 2, 1) := by decide +kernel
theorem dX0_joinByLot_36 : decode cX0_joinByLot 36 = .ok (.iload_n 3, 1) := by decide +kernel
theorem dX0_joinByLot_37 : decode cX0_joinByLot 37 = .ok (.iload 4, 2) := by decide +kernel
theorem dX0_joinByLot_39 : decode cX0_joinByLot 39 = .ok (.invokevirtual 41, 3) := by decide +kernel
theorem dX0_joinByLot_42 : decode cX0_joinByLot 42 = .ok (.pop, 1) := by decide +kernel
theorem dX0_joinByLot_43 : decode cX0_joinByLot 43 = .ok (.return_, 1) := by decide +kernel
theorem dX0_draw_0 : decode cX0_draw 0 = .ok (.aload_n 0, 1) := by decide +kernel
theorem dX0_draw_1 : decode cX0_draw 1 = .ok (.aload_n 0, 1) := by decide +kernel
theorem dX0_draw_2 : decode cX0_draw 2 = .ok (.getfield 17, 3) := by decide +kernel
theorem dX0_draw_5 : decode cX0_draw 5 = .ok (.ldc 45, 2) := by decide +kernel
theorem dX0_draw_7 : decode cX0_draw 7 = .ok (.imul, 1) := by decide +kernel
theorem dX0_draw_8 : decode cX0_draw 8 = .ok (.sipush 12345, 3) := by decide +kernel
theorem dX0_draw_11 : decode cX0_draw 11 = .ok (.iadd, 1) := by decide +kernel
theorem dX0_draw_12 : decode cX0_draw 12 = .ok (.putfield 17, 3) := by decide +kernel
theorem dX0_draw_15 : decode cX0_draw 15 = .ok (.aload_n 0, 1) := by decide +kernel
theorem dX0_draw_16 : decode cX0_draw 16 = .ok (.getfield 17, 3) := by decide +kernel
theorem dX0_draw_19 : decode cX0_draw 19 = .ok (.bipush 8, 2) := by decide +kernel
theorem dX0_draw_21 : decode cX0_draw 21 = .ok (.iushr, 1) := by decide +kernel
theorem dX0_draw_22 : decode cX0_draw 22 = .ok (.ireturn, 1) := by decide +kernel
theorem dX0_liveYear_0 : decode cX0_liveYear 0 = .ok (.iconst 0, 1) := by decide +kernel
theorem dX0_liveYear_1 : decode cX0_liveYear 1 = .ok (.istore_n 1, 1) := by decide +kernel
theorem dX0_liveYear_2 : decode cX0_liveYear 2 = .ok (.iload_n 1, 1) := by decide +kernel
theorem dX0_liveYear_3 : decode cX0_liveYear 3 = .ok (.aload_n 0, 1) := by decide +kernel
theorem dX0_liveYear_4 : decode cX0_liveYear 4 = .ok (.getfield 22, 3) := by decide +kernel
theorem dX0_liveYear_7 : decode cX0_liveYear 7 = .ok (.if_icmp .ge 66, 3) := by decide +kernel
theorem dX0_liveYear_10 : decode cX0_liveYear 10 = .ok (.aload_n 0, 1) := by decide +kernel
theorem dX0_liveYear_11 : decode cX0_liveYear 11 = .ok (.iload_n 1, 1) := by decide +kernel
theorem dX0_liveYear_12 : decode cX0_liveYear 12 = .ok (.invokevirtual 46, 3) := by decide +kernel
theorem dX0_liveYear_15 : decode cX0_liveYear 15 = .ok (.astore_n 2, 1) := by decide +kernel
theorem dX0_liveYear_16 : decode cX0_liveYear 16 = .ok (.aload_n 2, 1) := by decide +kernel
theorem dX0_liveYear_17 : decode cX0_liveYear 17 = .ok (.ifnull 50, 3) := by decide +kernel
theorem dX0_liveYear_20 : decode cX0_liveYear 20 = .ok (.aload_n 2, 1) := by decide +kernel
theorem dX0_liveYear_21 : decode cX0_liveYear 21 = .ok (.getfield 50, 3) := by decide +kernel
theorem dX0_liveYear_24 : decode cX0_liveYear 24 = .ok (.ifCond .ne 43, 3) := by decide +kernel
theorem dX0_liveYear_27 : decode cX0_liveYear 27 = .ok (.aload_n 0, 1) := by decide +kernel
theorem dX0_liveYear_28 : decode cX0_liveYear 28 = .ok (.invokevirtual 37, 3) := by decide +kernel
theorem dX0_liveYear_31 : decode cX0_liveYear 31 = .ok (.bipush 100, 2) := by decide +kernel
theorem dX0_liveYear_33 : decode cX0_liveYear 33 = .ok (.irem, 1) := by decide +kernel
theorem dX0_liveYear_34 : decode cX0_liveYear 34 = .ok (.aload_n 2, 1) := by decide +kernel
theorem dX0_liveYear_35 : decode cX0_liveYear 35 = .ok (.getfield 54, 3) := by decide +kernel
theorem dX0_liveYear_38 : decode cX0_liveYear 38 = .ok (.bipush 50, 2) := by decide +kernel
theorem dX0_liveYear_40 : decode cX0_liveYear 40 = .ok (.isub, 1) := by decide +kernel
theorem dX0_liveYear_41 : decode cX0_liveYear 41 = .ok (.if_icmp .ge 11, 3) := by decide +kernel
theorem dX0_liveYear_44 : decode cX0_liveYear 44 = .ok (.aload_n 2, 1) := by decide +kernel
theorem dX0_liveYear_45 : decode cX0_liveYear 45 = .ok (.iconst 1, 1) := by decide +kernel
theorem dX0_liveYear_46 : decode cX0_liveYear 46 = .ok (.putfield 50, 3) := by decide +kernel
theorem dX0_liveYear_49 : decode cX0_liveYear 49 = .ok (.goto 18, 3) := by decide +kernel
theorem dX0_liveYear_52 : decode cX0_liveYear 52 = .ok (.aload_n 2, 1) := by decide +kernel
theorem dX0_liveYear_53 : decode cX0_liveYear 53 = .ok (.bipush 99, 2) := by decide +kernel
theorem dX0_liveYear_55 : decode cX0_liveYear 55 = .ok (.aload_n 2, 1) := by decide +kernel
theorem dX0_liveYear_56 : decode cX0_liveYear 56 = .ok (.getfield 54, 3) := by decide +kernel
theorem dX0_liveYear_59 : decode cX0_liveYear 59 = .ok (.iconst 1, 1) := by decide +kernel
theorem dX0_liveYear_60 : decode cX0_liveYear 60 = .ok (.iadd, 1) := by decide +kernel
theorem dX0_liveYear_61 : decode cX0_liveYear 61 = .ok (.invokestatic 57, 3) := by decide +kernel
theorem dX0_liveYear_64 : decode cX0_liveYear 64 = .ok (.putfield 54, 3) := by decide +kernel
theorem dX0_liveYear_67 : decode cX0_liveYear 67 = .ok (.iinc 1 1, 3) := by decide +kernel
theorem dX0_liveYear_70 : decode cX0_liveYear 70 = .ok (.goto (-68), 3) := by decide +kernel
theorem dX0_liveYear_73 : decode cX0_liveYear 73 = .ok (.return_, 1) := by decide +kernel
theorem dX0_liveYears_0 : decode cX0_liveYears 0 = .ok (.iconst 0, 1) := by decide +kernel
theorem dX0_liveYears_1 : decode cX0_liveYears 1 = .ok (.istore_n 2, 1) := by decide +kernel
theorem dX0_liveYears_2 : decode cX0_liveYears 2 = .ok (.iload_n 2, 1) := by decide +kernel
theorem dX0_liveYears_3 : decode cX0_liveYears 3 = .ok (.iload_n 1, 1) := by decide +kernel
theorem dX0_liveYears_4 : decode cX0_liveYears 4 = .ok (.if_icmp .ge 13, 3) := by decide +kernel
theorem dX0_liveYears_7 : decode cX0_liveYears 7 = .ok (.aload_n 0, 1) := by decide +kernel
theorem dX0_liveYears_8 : decode cX0_liveYears 8 = .ok (.invokevirtual 63, 3) := by decide +kernel
theorem dX0_liveYears_11 : decode cX0_liveYears 11 = .ok (.iinc 2 1, 3) := by decide +kernel
theorem dX0_liveYears_14 : decode cX0_liveYears 14 = .ok (.goto (-12), 3) := by decide +kernel
theorem dX0_liveYears_17 : decode cX0_liveYears 17 = .ok (.return_, 1) := by decide +kernel
theorem dX0_countDead_0 : decode cX0_countDead 0 = .ok (.iconst 0, 1) := by decide +kernel
theorem dX0_countDead_1 : decode cX0_countDead 1 = .ok (.istore_n 1, 1) := by decide +kernel
theorem dX0_countDead_2 : decode cX0_countDead 2 = .ok (.iconst 0, 1) := by decide +kernel
theorem dX0_countDead_3 : decode cX0_countDead 3 = .ok (.istore_n 2, 1) := by decide +kernel
theorem dX0_countDead_4 : decode cX0_countDead 4 = .ok (.iload_n 2, 1) := by decide +kernel
theorem dX0_countDead_5 : decode cX0_countDead 5 = .ok (.aload_n 0, 1) := by decide +kernel
theorem dX0_countDead_6 : decode cX0_countDead 6 = .ok (.getfield 22, 3) := by decide +kernel
theorem dX0_countDead_9 : decode cX0_countDead 9 = .ok (.if_icmp .ge 34, 3) := by decide +kernel
theorem dX0_countDead_12 : decode cX0_countDead 12 = .ok (.aload_n 0, 1) := by decide +kernel
theorem dX0_countDead_13 : decode cX0_countDead 13 = .ok (.iload_n 2, 1) := by decide +kernel
theorem dX0_countDead_14 : decode cX0_countDead 14 = .ok (.invokevirtual 46, 3) := by decide +kernel
theorem dX0_countDead_17 : decode cX0_countDead 17 = .ok (.astore_n 3, 1) := by decide +kernel
theorem dX0_countDead_18 : decode cX0_countDead 18 = .ok (.iload_n 1, 1) := by decide +kernel
theorem dX0_countDead_19 : decode cX0_countDead 19 = .ok (.aload_n 3, 1) := by decide +kernel
theorem dX0_countDead_20 : decode cX0_countDead 20 = .ok (.ifnull 14, 3) := by decide +kernel
theorem dX0_countDead_23 : decode cX0_countDead 23 = .ok (.aload_n 3, 1) := by decide +kernel
theorem dX0_countDead_24 : decode cX0_countDead 24 = .ok (.getfield 50, 3) := by decide +kernel
theorem dX0_countDead_27 : decode cX0_countDead 27 = .ok (.ifCond .eq 7, 3) := by decide +kernel
theorem dX0_countDead_30 : decode cX0_countDead 30 = .ok (.iconst 1, 1) := by decide +kernel
theorem dX0_countDead_31 : decode cX0_countDead 31 = .ok (.goto 4, 3) := by decide +kernel
theorem dX0_countDead_34 : decode cX0_countDead 34 = .ok (.iconst 0, 1) := by decide +kernel
theorem dX0_countDead_35 : decode cX0_countDead 35 = .ok (.iadd, 1) := by decide +kernel
theorem dX0_countDead_36 : decode cX0_countDead 36 = .ok (.istore_n 1, 1) := by decide +kernel
theorem dX0_countDead_37 : decode cX0_countDead 37 = .ok (.iinc 2 1, 3) := by decide +kernel
theorem dX0_countDead_40 : decode cX0_countDead 40 = .ok (.goto (-36), 3) := by decide +kernel
theorem dX0_countDead_43 : decode cX0_countDead 43 = .ok (.iload_n 1, 1) := by decide +kernel
theorem dX0_countDead_44 : decode cX0_countDead 44 = .ok (.ireturn, 1) := by decide +kernel
theorem dX0_agesTogether_0 : decode cX0_agesTogether 0 = .ok (.iconst 0, 1) := by decide +kernel
theorem dX0_agesTogether_1 : decode cX0_agesTogether 1 = .ok (.istore_n 1, 1) := by decide +kernel
theorem dX0_agesTogether_2 : decode cX0_agesTogether 2 = .ok (.iconst 0, 1) := by decide +kernel
theorem dX0_agesTogether_3 : decode cX0_agesTogether 3 = .ok (.istore_n 2, 1) := by decide +kernel
theorem dX0_agesTogether_4 : decode cX0_agesTogether 4 = .ok (.iload_n 2, 1) := by decide +kernel
theorem dX0_agesTogether_5 : decode cX0_agesTogether 5 = .ok (.aload_n 0, 1) := by decide +kernel
theorem dX0_agesTogether_6 : decode cX0_agesTogether 6 = .ok (.getfield 22, 3) := by decide +kernel
theorem dX0_agesTogether_9 : decode cX0_agesTogether 9 = .ok (.if_icmp .ge 30, 3) := by decide +kernel
theorem dX0_agesTogether_12 : decode cX0_agesTogether 12 = .ok (.aload_n 0, 1) := by decide +kernel
theorem dX0_agesTogether_13 : decode cX0_agesTogether 13 = .ok (.iload_n 2, 1) := by decide +kernel
theorem dX0_agesTogether_14 : decode cX0_agesTogether 14 = .ok (.invokevirtual 46, 3) := by decide +kernel
theorem dX0_agesTogether_17 : decode cX0_agesTogether 17 = .ok (.astore_n 3, 1) := by decide +kernel
theorem dX0_agesTogether_18 : decode cX0_agesTogether 18 = .ok (.iload_n 1, 1) := by decide +kernel
theorem dX0_agesTogether_19 : decode cX0_agesTogether 19 = .ok (.aload_n 3, 1) := by decide +kernel
theorem dX0_agesTogether_20 : decode cX0_agesTogether 20 = .ok (.ifnonnull 7, 3) := by decide +kernel
theorem dX0_agesTogether_23 : decode cX0_agesTogether 23 = .ok (.iconst 0, 1) := by decide +kernel
theorem dX0_agesTogether_24 : decode cX0_agesTogether 24 = .ok (.goto 7, 3) := by decide +kernel
theorem dX0_agesTogether_27 : decode cX0_agesTogether 27 = .ok (.aload_n 3, 1) := by decide +kernel
theorem dX0_agesTogether_28 : decode cX0_agesTogether 28 = .ok (.getfield 54, 3) := by decide +kernel
theorem dX0_agesTogether_31 : decode cX0_agesTogether 31 = .ok (.iadd, 1) := by decide +kernel
theorem dX0_agesTogether_32 : decode cX0_agesTogether 32 = .ok (.istore_n 1, 1) := by decide +kernel
theorem dX0_agesTogether_33 : decode cX0_agesTogether 33 = .ok (.iinc 2 1, 3) := by decide +kernel
theorem dX0_agesTogether_36 : decode cX0_agesTogether 36 = .ok (.goto (-32), 3) := by decide +kernel
theorem dX0_agesTogether_39 : decode cX0_agesTogether 39 = .ok (.iload_n 1, 1) := by decide +kernel
theorem dX0_agesTogether_40 : decode cX0_agesTogether 40 = .ok (.ireturn, 1) := by decide +kernel
theorem dX0_taught_0 : decode cX0_taught 0 = .ok (.iconst 0, 1) := by decide +kernel
theorem dX0_taught_1 : decode cX0_taught 1 = .ok (.istore_n 1, 1) := by decide +kernel
theorem dX0_taught_2 : decode cX0_taught 2 = .ok (.iconst 0, 1) := by decide +kernel
theorem dX0_taught_3 : decode cX0_taught 3 = .ok (.istore_n 2, 1) := by decide +kernel
theorem dX0_taught_4 : decode cX0_taught 4 = .ok (.iload_n 2, 1) := by decide +kernel
theorem dX0_taught_5 : decode cX0_taught 5 = .ok (.aload_n 0, 1) := by decide +kernel
theorem dX0_taught_6 : decode cX0_taught 6 = .ok (.getfield 22, 3) := by decide +kernel
theorem dX0_taught_9 : decode cX0_taught 9 = .ok (.if_icmp .ge 39, 3) := by decide +kernel
theorem dX0_taught_12 : decode cX0_taught 12 = .ok (.aload_n 0, 1) := by decide +kernel
theorem dX0_taught_13 : decode cX0_taught 13 = .ok (.iload_n 2, 1) := by decide +kernel
theorem dX0_taught_14 : decode cX0_taught 14 = .ok (.invokevirtual 46, 3) := by decide +kernel
theorem dX0_taught_17 : decode cX0_taught 17 = .ok (.astore_n 3, 1) := by decide +kernel
theorem dX0_taught_18 : decode cX0_taught 18 = .ok (.iload_n 1, 1) := by decide +kernel
theorem dX0_taught_19 : decode cX0_taught 19 = .ok (.aload_n 3, 1) := by decide +kernel
theorem dX0_taught_20 : decode cX0_taught 20 = .ok (.ifnull 10, 3) := by decide +kernel
theorem dX0_taught_23 : decode cX0_taught 23 = .ok (.aload_n 3, 1) := by decide +kernel
theorem dX0_taught_24 : decode cX0_taught 24 = .ok (.getfield 50, 3) := by decide +kernel
theorem dX0_taught_27 : decode cX0_taught 27 = .ok (.ifCond .eq 7, 3) := by decide +kernel
theorem dX0_taught_30 : decode cX0_taught 30 = .ok (.iconst 0, 1) := by decide +kernel
theorem dX0_taught_31 : decode cX0_taught 31 = .ok (.goto 9, 3) := by decide +kernel
theorem dX0_taught_34 : decode cX0_taught 34 = .ok (.iconst 1, 1) := by decide +kernel
theorem dX0_taught_35 : decode cX0_taught 35 = .ok (.aload_n 3, 1) := by decide +kernel
theorem dX0_taught_36 : decode cX0_taught 36 = .ok (.getfield 66, 3) := by decide +kernel
theorem dX0_taught_39 : decode cX0_taught 39 = .ok (.ishl, 1) := by decide +kernel
theorem dX0_taught_40 : decode cX0_taught 40 = .ok (.ior, 1) := by decide +kernel
theorem dX0_taught_41 : decode cX0_taught 41 = .ok (.istore_n 1, 1) := by decide +kernel
theorem dX0_taught_42 : decode cX0_taught 42 = .ok (.iinc 2 1, 3) := by decide +kernel
theorem dX0_taught_45 : decode cX0_taught 45 = .ok (.goto (-41), 3) := by decide +kernel
theorem dX0_taught_48 : decode cX0_taught 48 = .ok (.iload_n 1, 1) := by decide +kernel
theorem dX0_taught_49 : decode cX0_taught 49 = .ok (.ireturn, 1) := by decide +kernel
theorem dX0_onlyTeacher_0 : decode cX0_onlyTeacher 0 = .ok (.ldc 69, 2) := by decide +kernel
theorem dX0_onlyTeacher_2 : decode cX0_onlyTeacher 2 = .ok (.istore_n 2, 1) := by decide +kernel
theorem dX0_onlyTeacher_3 : decode cX0_onlyTeacher 3 = .ok (.iconst 0, 1) := by decide +kernel
theorem dX0_onlyTeacher_4 : decode cX0_onlyTeacher 4 = .ok (.istore_n 3, 1) := by decide +kernel
theorem dX0_onlyTeacher_5 : decode cX0_onlyTeacher 5 = .ok (.iload_n 3, 1) := by decide +kernel
theorem dX0_onlyTeacher_6 : decode cX0_onlyTeacher 6 = .ok (.aload_n 0, 1) := by decide +kernel
theorem dX0_onlyTeacher_7 : decode cX0_onlyTeacher 7 = .ok (.getfield 22, 3) := by decide +kernel
theorem dX0_onlyTeacher_10 : decode cX0_onlyTeacher 10 = .ok (.if_icmp .ge 49, 3) := by decide +kernel
theorem dX0_onlyTeacher_13 : decode cX0_onlyTeacher 13 = .ok (.aload_n 0, 1) := by decide +kernel
theorem dX0_onlyTeacher_14 : decode cX0_onlyTeacher 14 = .ok (.iload_n 3, 1) := by decide +kernel
theorem dX0_onlyTeacher_15 : decode cX0_onlyTeacher 15 = .ok (.invokevirtual 46, 3) := by decide +kernel
theorem dX0_onlyTeacher_18 : decode cX0_onlyTeacher 18 = .ok (.astore 4, 2) := by decide +kernel
theorem dX0_onlyTeacher_20 : decode cX0_onlyTeacher 20 = .ok (.aload 4, 2) := by decide +kernel
theorem dX0_onlyTeacher_22 : decode cX0_onlyTeacher 22 = .ok (.ifnull 31, 3) := by decide +kernel
theorem dX0_onlyTeacher_25 : decode cX0_onlyTeacher 25 = .ok (.aload 4, 2) := by decide +kernel
theorem dX0_onlyTeacher_27 : decode cX0_onlyTeacher 27 = .ok (.getfield 50, 3) := by decide +kernel
theorem dX0_onlyTeacher_30 : decode cX0_onlyTeacher 30 = .ok (.ifCond .ne 23, 3) := by decide +kernel
theorem dX0_onlyTeacher_33 : decode cX0_onlyTeacher 33 = .ok (.aload 4, 2) := by decide +kernel
theorem dX0_onlyTeacher_35 : decode cX0_onlyTeacher 35 = .ok (.getfield 66, 3) := by decide +kernel
theorem dX0_onlyTeacher_38 : decode cX0_onlyTeacher 38 = .ok (.iload_n 1, 1) := by decide +kernel
theorem dX0_onlyTeacher_39 : decode cX0_onlyTeacher 39 = .ok (.if_icmp .ne 14, 3) := by decide +kernel
theorem dX0_onlyTeacher_42 : decode cX0_onlyTeacher 42 = .ok (.iload_n 2, 1) := by decide +kernel
theorem dX0_onlyTeacher_43 : decode cX0_onlyTeacher 43 = .ok (.ldc 69, 2) := by decide +kernel
theorem dX0_onlyTeacher_45 : decode cX0_onlyTeacher 45 = .ok (.if_icmp .eq 6, 3) := by decide +kernel
theorem dX0_onlyTeacher_48 : decode cX0_onlyTeacher 48 = .ok (.ldc 69, 2) := by decide +kernel
theorem dX0_onlyTeacher_50 : decode cX0_onlyTeacher 50 = .ok (.ireturn, 1) := by decide +kernel
theorem dX0_onlyTeacher_51 : decode cX0_onlyTeacher 51 = .ok (.iload_n 3, 1) := by decide +kernel
theorem dX0_onlyTeacher_52 : decode cX0_onlyTeacher 52 = .ok (.istore_n 2, 1) := by decide +kernel
theorem dX0_onlyTeacher_53 : decode cX0_onlyTeacher 53 = .ok (.iinc 3 1, 3) := by decide +kernel
theorem dX0_onlyTeacher_56 : decode cX0_onlyTeacher 56 = .ok (.goto (-51), 3) := by decide +kernel
theorem dX0_onlyTeacher_59 : decode cX0_onlyTeacher 59 = .ok (.iload_n 2, 1) := by decide +kernel
theorem dX0_onlyTeacher_60 : decode cX0_onlyTeacher 60 = .ok (.ireturn, 1) := by decide +kernel
theorem dX0_canBringTogether_0 : decode cX0_canBringTogether 0 = .ok (.aload_n 0, 1) := by decide +kernel
theorem dX0_canBringTogether_1 : decode cX0_canBringTogether 1 = .ok (.iconst 0, 1) := by decide +kernel
theorem dX0_canBringTogether_2 : decode cX0_canBringTogether 2 = .ok (.iload_n 1, 1) := by decide +kernel
theorem dX0_canBringTogether_3 : decode cX0_canBringTogether 3 = .ok (.invokestatic 70, 3) := by decide +kernel
theorem dX0_canBringTogether_6 : decode cX0_canBringTogether 6 = .ok (.ireturn, 1) := by decide +kernel
theorem dX0_leadsTo_0 : decode cX0_leadsTo 0 = .ok (.iload_n 1, 1) := by decide +kernel
theorem dX0_leadsTo_1 : decode cX0_leadsTo 1 = .ok (.iload_n 2, 1) := by decide +kernel
theorem dX0_leadsTo_2 : decode cX0_leadsTo 2 = .ok (.if_icmp .ne 5, 3) := by decide +kernel
theorem dX0_leadsTo_5 : decode cX0_leadsTo 5 = .ok (.iconst 1, 1) := by decide +kernel
theorem dX0_leadsTo_6 : decode cX0_leadsTo 6 = .ok (.ireturn, 1) := by decide +kernel
theorem dX0_leadsTo_7 : decode cX0_leadsTo 7 = .ok (.iload_n 2, 1) := by decide +kernel
theorem dX0_leadsTo_8 : decode cX0_leadsTo 8 = .ok (.iload_n 1, 1) := by decide +kernel
theorem dX0_leadsTo_9 : decode cX0_leadsTo 9 = .ok (.iconst (-1), 1) := by decide +kernel
theorem dX0_leadsTo_10 : decode cX0_leadsTo 10 = .ok (.ixor, 1) := by decide +kernel
theorem dX0_leadsTo_11 : decode cX0_leadsTo 11 = .ok (.iand, 1) := by decide +kernel
theorem dX0_leadsTo_12 : decode cX0_leadsTo 12 = .ok (.invokestatic 74, 3) := by decide +kernel
theorem dX0_leadsTo_15 : decode cX0_leadsTo 15 = .ok (.iconst 3, 1) := by decide +kernel
theorem dX0_leadsTo_16 : decode cX0_leadsTo 16 = .ok (.if_icmp .le 5, 3) := by decide +kernel
theorem dX0_leadsTo_19 : decode cX0_leadsTo 19 = .ok (.iconst 0, 1) := by decide +kernel
theorem dX0_leadsTo_20 : decode cX0_leadsTo 20 = .ok (.ireturn, 1) := by decide +kernel
theorem dX0_leadsTo_21 : decode cX0_leadsTo 21 = .ok (.iconst 0, 1) := by decide +kernel
theorem dX0_leadsTo_22 : decode cX0_leadsTo 22 = .ok (.istore_n 3, 1) := by decide +kernel
theorem dX0_leadsTo_23 : decode cX0_leadsTo 23 = .ok (.iload_n 3, 1) := by decide +kernel
theorem dX0_leadsTo_24 : decode cX0_leadsTo 24 = .ok (.aload_n 0, 1) := by decide +kernel
theorem dX0_leadsTo_25 : decode cX0_leadsTo 25 = .ok (.getfield 22, 3) := by decide +kernel
theorem dX0_leadsTo_28 : decode cX0_leadsTo 28 = .ok (.if_icmp .ge 50, 3) := by decide +kernel
theorem dX0_leadsTo_31 : decode cX0_leadsTo 31 = .ok (.aload_n 0, 1) := by decide +kernel
theorem dX0_leadsTo_32 : decode cX0_leadsTo 32 = .ok (.iload_n 3, 1) := by decide +kernel
theorem dX0_leadsTo_33 : decode cX0_leadsTo 33 = .ok (.invokevirtual 46, 3) := by decide +kernel
theorem dX0_leadsTo_36 : decode cX0_leadsTo 36 = .ok (.astore 4, 2) := by decide +kernel
theorem dX0_leadsTo_38 : decode cX0_leadsTo 38 = .ok (.aload 4, 2) := by decide +kernel
theorem dX0_leadsTo_40 : decode cX0_leadsTo 40 = .ok (.ifnull 32, 3) := by decide +kernel
theorem dX0_leadsTo_43 : decode cX0_leadsTo 43 = .ok (.aload 4, 2) := by decide +kernel
theorem dX0_leadsTo_45 : decode cX0_leadsTo 45 = .ok (.iload_n 1, 1) := by decide +kernel
theorem dX0_leadsTo_46 : decode cX0_leadsTo 46 = .ok (.iload_n 2, 1) := by decide +kernel
theorem dX0_leadsTo_47 : decode cX0_leadsTo 47 = .ok (.invokestatic 80, 3) := by decide +kernel
theorem dX0_leadsTo_50 : decode cX0_leadsTo 50 = .ok (.ifCond .eq 22, 3) := by decide +kernel
theorem dX0_leadsTo_53 : decode cX0_leadsTo 53 = .ok (.aload_n 0, 1) := by decide +kernel
theorem dX0_leadsTo_54 : decode cX0_leadsTo 54 = .ok (.iload_n 1, 1) := by decide +kernel
theorem dX0_leadsTo_55 : decode cX0_leadsTo 55 = .ok (.iconst 1, 1) := by decide +kernel
theorem dX0_leadsTo_56 : decode cX0_leadsTo 56 = .ok (.aload 4, 2) := by decide +kernel
theorem dX0_leadsTo_58 : decode cX0_leadsTo 58 = .ok (.getfield 66, 3) := by decide +kernel
theorem dX0_leadsTo_61 : decode cX0_leadsTo 61 = .ok (.ishl, 1) := by decide +kernel
theorem dX0_leadsTo_62 : decode cX0_leadsTo 62 = .ok (.ior, 1) := by decide +kernel
theorem dX0_leadsTo_63 : decode cX0_leadsTo 63 = .ok (.iload_n 2, 1) := by decide +kernel
theorem dX0_leadsTo_64 : decode cX0_leadsTo 64 = .ok (.invokestatic 70, 3) := by decide +kernel
theorem dX0_leadsTo_67 : decode cX0_leadsTo 67 = .ok (.ifCond .eq 5, 3) := by decide +kernel
theorem dX0_leadsTo_70 : decode cX0_leadsTo 70 = .ok (.iconst 1, 1) := by decide +kernel
theorem dX0_leadsTo_71 : decode cX0_leadsTo 71 = .ok (.ireturn, 1) := by decide +kernel
theorem dX0_leadsTo_72 : decode cX0_leadsTo 72 = .ok (.iinc 3 1, 3) := by decide +kernel
theorem dX0_leadsTo_75 : decode cX0_leadsTo 75 = .ok (.goto (-52), 3) := by decide +kernel
theorem dX0_leadsTo_78 : decode cX0_leadsTo 78 = .ok (.iconst 0, 1) := by decide +kernel
theorem dX0_leadsTo_79 : decode cX0_leadsTo 79 = .ok (.ireturn, 1) := by decide +kernel
theorem dX0_helps_0 : decode cX0_helps 0 = .ok (.iload_n 2, 1) := by decide +kernel
theorem dX0_helps_1 : decode cX0_helps 1 = .ok (.iload_n 1, 1) := by decide +kernel
theorem dX0_helps_2 : decode cX0_helps 2 = .ok (.iconst (-1), 1) := by decide +kernel
theorem dX0_helps_3 : decode cX0_helps 3 = .ok (.ixor, 1) := by decide +kernel
theorem dX0_helps_4 : decode cX0_helps 4 = .ok (.iand, 1) := by decide +kernel
theorem dX0_helps_5 : decode cX0_helps 5 = .ok (.iconst 1, 1) := by decide +kernel
theorem dX0_helps_6 : decode cX0_helps 6 = .ok (.aload_n 0, 1) := by decide +kernel
theorem dX0_helps_7 : decode cX0_helps 7 = .ok (.getfield 66, 3) := by decide +kernel
theorem dX0_helps_10 : decode cX0_helps 10 = .ok (.ishl, 1) := by decide +kernel
theorem dX0_helps_11 : decode cX0_helps 11 = .ok (.iand, 1) := by decide +kernel
theorem dX0_helps_12 : decode cX0_helps 12 = .ok (.ifCond .eq 7, 3) := by decide +kernel
theorem dX0_helps_15 : decode cX0_helps 15 = .ok (.iconst 1, 1) := by decide +kernel
theorem dX0_helps_16 : decode cX0_helps 16 = .ok (.goto 4, 3) := by decide +kernel
theorem dX0_helps_19 : decode cX0_helps 19 = .ok (.iconst 0, 1) := by decide +kernel
theorem dX0_helps_20 : decode cX0_helps 20 = .ok (.istore_n 3, 1) := by decide +kernel
theorem dX0_helps_21 : decode cX0_helps 21 = .ok (.iload_n 3, 1) := by decide +kernel
theorem dX0_helps_22 : decode cX0_helps 22 = .ok (.ifCond .eq 31, 3) := by decide +kernel
theorem dX0_helps_25 : decode cX0_helps 25 = .ok (.aload_n 0, 1) := by decide +kernel
theorem dX0_helps_26 : decode cX0_helps 26 = .ok (.getfield 50, 3) := by decide +kernel
theorem dX0_helps_29 : decode cX0_helps 29 = .ok (.ifCond .ne 24, 3) := by decide +kernel
theorem dX0_helps_32 : decode cX0_helps 32 = .ok (.aload_n 0, 1) := by decide +kernel
theorem dX0_helps_33 : decode cX0_helps 33 = .ok (.iload_n 1, 1) := by decide +kernel
theorem dX0_helps_34 : decode cX0_helps 34 = .ok (.invokevirtual 84, 3) := by decide +kernel
theorem dX0_helps_37 : decode cX0_helps 37 = .ok (.ifCond .eq 16, 3) := by decide +kernel
theorem dX0_helps_40 : decode cX0_helps 40 = .ok (.aload_n 0, 1) := by decide +kernel
theorem dX0_helps_41 : decode cX0_helps 41 = .ok (.invokevirtual 88, 3) := by decide +kernel
theorem dX0_helps_44 : decode cX0_helps 44 = .ok (.iload_n 1, 1) := by decide +kernel
theorem dX0_helps_45 : decode cX0_helps 45 = .ok (.iand, 1) := by decide +kernel
theorem dX0_helps_46 : decode cX0_helps 46 = .ok (.ifCond .ne 7, 3) := by decide +kernel
theorem dX0_helps_49 : decode cX0_helps 49 = .ok (.iconst 1, 1) := by decide +kernel
theorem dX0_helps_50 : decode cX0_helps 50 = .ok (.goto 4, 3) := by decide +kernel
theorem dX0_helps_53 : decode cX0_helps 53 = .ok (.iconst 0, 1) := by decide +kernel
theorem dX0_helps_54 : decode cX0_helps 54 = .ok (.ireturn, 1) := by decide +kernel
theorem dX1_init_0 : decode cX1_init 0 = .ok (.aload_n 0, 1) := by decide +kernel
theorem dX1_init_1 : decode cX1_init 1 = .ok (.invokespecial 3, 3) := by decide +kernel
theorem dX1_init_4 : decode cX1_init 4 = .ok (.aload_n 0, 1) := by decide +kernel
theorem dX1_init_5 : decode cX1_init 5 = .ok (.bipush 100, 2) := by decide +kernel
theorem dX1_init_7 : decode cX1_init 7 = .ok (.putfield 9, 3) := by decide +kernel
theorem dX1_init_10 : decode cX1_init 10 = .ok (.aload_n 0, 1) := by decide +kernel
theorem dX1_init_11 : decode cX1_init 11 = .ok (.bipush 10, 2) := by decide +kernel
theorem dX1_init_13 : decode cX1_init 13 = .ok (.newarray .int, 2) := by decide +kernel
theorem dX1_init_15 : decode cX1_init 15 = .ok (.putfield 15, 3) := by decide +kernel
theorem dX1_init_18 : decode cX1_init 18 = .ok (.aload_n 0, 1) := by decide +kernel
theorem dX1_init_19 : decode cX1_init 19 = .ok (.bipush 10, 2) := by decide +kernel
theorem dX1_init_21 : decode cX1_init 21 = .ok (.newarray .int, 2) := by decide +kernel
theorem dX1_init_23 : decode cX1_init 23 = .ok (.putfield 19, 3) := by decide +kernel
theorem dX1_init_26 : decode cX1_init 26 = .ok (.return_, 1) := by decide +kernel
theorem dX1_become_0 : decode cX1_become 0 = .ok (.aload_n 0, 1) := by decide +kernel
theorem dX1_become_1 : decode cX1_become 1 = .ok (.aload_n 1, 1) := by decide +kernel
theorem dX1_become_2 : decode cX1_become 2 = .ok (.getfield 22, 3) := by decide +kernel
theorem dX1_become_5 : decode cX1_become 5 = .ok (.putfield 22, 3) := by decide +kernel
theorem dX1_become_8 : decode cX1_become 8 = .ok (.aload_n 0, 1) := by decide +kernel
theorem dX1_become_9 : decode cX1_become 9 = .ok (.aload_n 1, 1) := by decide +kernel
theorem dX1_become_10 : decode cX1_become 10 = .ok (.getfield 25, 3) := by decide +kernel
theorem dX1_become_13 : decode cX1_become 13 = .ok (.putfield 25, 3) := by decide +kernel
theorem dX1_become_16 : decode cX1_become 16 = .ok (.aload_n 0, 1) := by decide +kernel
theorem dX1_become_17 : decode cX1_become 17 = .ok (.aload_n 1, 1) := by decide +kernel
theorem dX1_become_18 : decode cX1_become 18 = .ok (.getfield 9, 3) := by decide +kernel
theorem dX1_become_21 : decode cX1_become 21 = .ok (.putfield 9, 3) := by decide +kernel
theorem dX1_become_24 : decode cX1_become 24 = .ok (.aload_n 0, 1) := by decide +kernel
theorem dX1_become_25 : decode cX1_become 25 = .ok (.aload_n 1, 1) := by decide +kernel
theorem dX1_become_26 : decode cX1_become 26 = .ok (.getfield 28, 3) := by decide +kernel
theorem dX1_become_29 : decode cX1_become 29 = .ok (.putfield 28, 3) := by decide +kernel
theorem dX1_become_32 : decode cX1_become 32 = .ok (.aload_n 0, 1) := by decide +kernel
theorem dX1_become_33 : decode cX1_become 33 = .ok (.aload_n 1, 1) := by decide +kernel
theorem dX1_become_34 : decode cX1_become 34 = .ok (.getfield 31, 3) := by decide +kernel
theorem dX1_become_37 : decode cX1_become 37 = .ok (.putfield 31, 3) := by decide +kernel
theorem dX1_become_40 : decode cX1_become 40 = .ok (.aload_n 1, 1) := by decide +kernel
theorem dX1_become_41 : decode cX1_become 41 = .ok (.getfield 15, 3) := by decide +kernel
theorem dX1_become_44 : decode cX1_become 44 = .ok (.iconst 0, 1) := by decide +kernel
theorem dX1_become_45 : decode cX1_become 45 = .ok (.aload_n 0, 1) := by decide +kernel
theorem dX1_become_46 : decode cX1_become 46 = .ok (.getfield 15, 3) := by decide +kernel
theorem dX1_become_49 : decode cX1_become 49 = .ok (.iconst 0, 1) := by decide +kernel
theorem dX1_become_50 : decode cX1_become 50 = .ok (.bipush 10, 2) := by decide +kernel
theorem dX1_become_52 : decode cX1_become 52 = .ok (.invokestatic 34, 3) := by decide +kernel
theorem dX1_become_55 : decode cX1_become 55 = .ok (.aload_n 1, 1) := by decide +kernel
theorem dX1_become_56 : decode cX1_become 56 = .ok (.getfield 19, 3) := by decide +kernel
theorem dX1_become_59 : decode cX1_become 59 = .ok (.iconst 0, 1) := by decide +kernel
theorem dX1_become_60 : decode cX1_become 60 = .ok (.aload_n 0, 1) := by decide +kernel
theorem dX1_become_61 : decode cX1_become 61 = .ok (.getfield 19, 3) := by decide +kernel
theorem dX1_become_64 : decode cX1_become 64 = .ok (.iconst 0, 1) := by decide +kernel
theorem dX1_become_65 : decode cX1_become 65 = .ok (.bipush 10, 2) := by decide +kernel
theorem dX1_become_67 : decode cX1_become 67 = .ok (.invokestatic 34, 3) := by decide +kernel
theorem dX1_become_70 : decode cX1_become 70 = .ok (.return_, 1) := by decide +kernel
theorem dX1_isAble_0 : decode cX1_isAble 0 = .ok (.iload_n 1, 1) := by decide +kernel
theorem dX1_isAble_1 : decode cX1_isAble 1 = .ok (.bipush 10, 2) := by decide +kernel
theorem dX1_isAble_3 : decode cX1_isAble 3 = .ok (.invokestatic 40, 3) := by decide +kernel
theorem dX1_isAble_6 : decode cX1_isAble 6 = .ok (.ifCond .eq 18, 3) := by decide +kernel
theorem dX1_isAble_9 : decode cX1_isAble 9 = .ok (.aload_n 0, 1) := by decide +kernel
theorem dX1_isAble_10 : decode cX1_isAble 10 = .ok (.getfield 25, 3) := by decide +kernel
theorem dX1_isAble_13 : decode cX1_isAble 13 = .ok (.iconst 1, 1) := by decide +kernel
theorem dX1_isAble_14 : decode cX1_isAble 14 = .ok (.iload_n 1, 1) := by decide +kernel
theorem dX1_isAble_15 : decode cX1_isAble 15 = .ok (.ishl, 1) := by decide +kernel
theorem dX1_isAble_16 : decode cX1_isAble 16 = .ok (.iand, 1) := by decide +kernel
theorem dX1_isAble_17 : decode cX1_isAble 17 = .ok (.ifCond .eq 7, 3) := by decide +kernel
theorem dX1_isAble_20 : decode cX1_isAble 20 = .ok (.iconst 1, 1) := by decide +kernel
theorem dX1_isAble_21 : decode cX1_isAble 21 = .ok (.goto 4, 3) := by decide +kernel
theorem dX1_isAble_24 : decode cX1_isAble 24 = .ok (.iconst 0, 1) := by decide +kernel
theorem dX1_isAble_25 : decode cX1_isAble 25 = .ok (.ireturn, 1) := by decide +kernel
theorem dX1_passDays_0 : decode cX1_passDays 0 = .ok (.aload_n 0, 1) := by decide +kernel
theorem dX1_passDays_1 : decode cX1_passDays 1 = .ok (.sipush 9999, 3) := by decide +kernel
theorem dX1_passDays_4 : decode cX1_passDays 4 = .ok (.aload_n 0, 1) := by decide +kernel
theorem dX1_passDays_5 : decode cX1_passDays 5 = .ok (.getfield 31, 3) := by decide +kernel
theorem dX1_passDays_8 : decode cX1_passDays 8 = .ok (.iload_n 1, 1) := by decide +kernel
theorem dX1_passDays_9 : decode cX1_passDays 9 = .ok (.iadd, 1) := by decide +kernel
theorem dX1_passDays_10 : decode cX1_passDays 10 = .ok (.invokestatic 44, 3) := by decide +kernel
theorem dX1_passDays_13 : decode cX1_passDays 13 = .ok (.putfield 31, 3) := by decide +kernel
theorem dX1_passDays_16 : decode cX1_passDays 16 = .ok (.iconst 0, 1) := by decide +kernel
theorem dX1_passDays_17 : decode cX1_passDays 17 = .ok (.istore_n 2, 1) := by decide +kernel
theorem dX1_passDays_18 : decode cX1_passDays 18 = .ok (.iload_n 2, 1) := by decide +kernel
theorem dX1_passDays_19 : decode cX1_passDays 19 = .ok (.bipush 10, 2) := by decide +kernel
theorem dX1_passDays_21 : decode cX1_passDays 21 = .ok (.if_icmp .ge 61, 3) := by decide +kernel
theorem dX1_passDays_24 : decode cX1_passDays 24 = .ok (.aload_n 0, 1) := by decide +kernel
theorem dX1_passDays_25 : decode cX1_passDays 25 = .ok (.iload_n 2, 1) := by decide +kernel
theorem dX1_passDays_26 : decode cX1_passDays 26 = .ok (.invokevirtual 50, 3) := by decide +kernel
theorem dX1_passDays_29 : decode cX1_passDays 29 = .ok (.ifCond .eq 47, 3) := by decide +kernel
theorem dX1_passDays_32 : decode cX1_passDays 32 = .ok (.aload_n 0, 1) := by decide +kernel
theorem dX1_passDays_33 : decode cX1_passDays 33 = .ok (.getfield 19, 3) := by decide +kernel
theorem dX1_passDays_36 : decode cX1_passDays 36 = .ok (.iload_n 2, 1) := by decide +kernel
theorem dX1_passDays_37 : decode cX1_passDays 37 = .ok (.dup2, 1) := by decide +kernel
theorem dX1_passDays_38 : decode cX1_passDays 38 = .ok (.iaload, 1) := by decide +kernel
theorem dX1_passDays_39 : decode cX1_passDays 39 = .ok (.iload_n 1, 1) := by decide +kernel
theorem dX1_passDays_40 : decode cX1_passDays 40 = .ok (.iadd, 1) := by decide +kernel
theorem dX1_passDays_41 : decode cX1_passDays 41 = .ok (.iastore, 1) := by decide +kernel
theorem dX1_passDays_42 : decode cX1_passDays 42 = .ok (.aload_n 0, 1) := by decide +kernel
theorem dX1_passDays_43 : decode cX1_passDays 43 = .ok (.getfield 28, 3) := by decide +kernel
theorem dX1_passDays_46 : decode cX1_passDays 46 = .ok (.ifCond .eq 30, 3) := by decide +kernel
theorem dX1_passDays_49 : decode cX1_passDays 49 = .ok (.aload_n 0, 1) := by decide +kernel
theorem dX1_passDays_50 : decode cX1_passDays 50 = .ok (.getfield 19, 3) := by decide +kernel
theorem dX1_passDays_53 : decode cX1_passDays 53 = .ok (.iload_n 2, 1) := by decide +kernel
theorem dX1_passDays_54 : decode cX1_passDays 54 = .ok (.iaload, 1) := by decide +kernel
theorem dX1_passDays_55 : decode cX1_passDays 55 = .ok (.aload_n 0, 1) := by decide +kernel
theorem dX1_passDays_56 : decode cX1_passDays 56 = .ok (.getfield 28, 3) := by decide +kernel
theorem dX1_passDays_59 : decode cX1_passDays 59 = .ok (.if_icmp .le 17, 3) := by decide +kernel
theorem dX1_passDays_62 : decode cX1_passDays 62 = .ok (.aload_n 0, 1) := by decide +kernel
theorem dX1_passDays_63 : decode cX1_passDays 63 = .ok (.dup, 1) := by decide +kernel
theorem dX1_passDays_64 : decode cX1_passDays 64 = .ok (.getfield 25, 3) := by decide +kernel
theorem dX1_passDays_67 : decode cX1_passDays 67 = .ok (.iconst 1, 1) := by decide +kernel
theorem dX1_passDays_68 : decode cX1_passDays 68 = .ok (.iload_n 2, 1) := by decide +kernel
theorem dX1_passDays_69 : decode cX1_passDays 69 = .ok (.ishl, 1) := by decide +kernel
theorem dX1_passDays_70 : decode cX1_passDays 70 = .ok (.iconst (-1), 1) := by decide +kernel
theorem dX1_passDays_71 : decode cX1_passDays 71 = .ok (.ixor, 1) := by decide +kernel
theorem dX1_passDays_72 : decode cX1_passDays 72 = .ok (.iand, 1) := by decide +kernel
theorem dX1_passDays_73 : decode cX1_passDays 73 = .ok (.putfield 25, 3) := by decide +kernel
theorem dX1_passDays_76 : decode cX1_passDays 76 = .ok (.iinc 2 1, 3) := by decide +kernel
theorem dX1_passDays_79 : decode cX1_passDays 79 = .ok (.goto (-61), 3) := by decide +kernel
theorem dX1_passDays_82 : decode cX1_passDays 82 = .ok (.return_, 1) := by decide +kernel
theorem dX1_canLearnOf_0 : decode cX1_canLearnOf 0 = .ok (.aload_n 1, 1) := by decide +kernel
theorem dX1_canLearnOf_1 : decode cX1_canLearnOf 1 = .ok (.getfield 54, 3) := by decide +kernel
theorem dX1_canLearnOf_4 : decode cX1_canLearnOf 4 = .ok (.aload_n 0, 1) := by decide +kernel
theorem dX1_canLearnOf_5 : decode cX1_canLearnOf 5 = .ok (.getfield 22, 3) := by decide +kernel
theorem dX1_canLearnOf_8 : decode cX1_canLearnOf 8 = .ok (.if_icmp .ne 47, 3) := by decide +kernel
theorem dX1_canLearnOf_11 : decode cX1_canLearnOf 11 = .ok (.aload_n 1, 1) := by decide +kernel
theorem dX1_canLearnOf_12 : decode cX1_canLearnOf 12 = .ok (.getfield 59, 3) := by decide +kernel
theorem dX1_canLearnOf_15 : decode cX1_canLearnOf 15 = .ok (.ifCond .ne 40, 3) := by decide +kernel
theorem dX1_canLearnOf_18 : decode cX1_canLearnOf 18 = .ok (.aload_n 1, 1) := by decide +kernel
theorem dX1_canLearnOf_19 : decode cX1_canLearnOf 19 = .ok (.aload_n 0, 1) := by decide +kernel
theorem dX1_canLearnOf_20 : decode cX1_canLearnOf 20 = .ok (.getfield 25, 3) := by decide +kernel
theorem dX1_canLearnOf_23 : decode cX1_canLearnOf 23 = .ok (.invokevirtual 63, 3) := by decide +kernel
theorem dX1_canLearnOf_26 : decode cX1_canLearnOf 26 = .ok (.ifCond .eq 29, 3) := by decide +kernel
theorem dX1_canLearnOf_29 : decode cX1_canLearnOf 29 = .ok (.aload_n 0, 1) := by decide +kernel
theorem dX1_canLearnOf_30 : decode cX1_canLearnOf 30 = .ok (.aload_n 1, 1) := by decide +kernel
theorem dX1_canLearnOf_31 : decode cX1_canLearnOf 31 = .ok (.getfield 66, 3) := by decide +kernel
theorem dX1_canLearnOf_34 : decode cX1_canLearnOf 34 = .ok (.invokevirtual 50, 3) := by decide +kernel
theorem dX1_canLearnOf_37 : decode cX1_canLearnOf 37 = .ok (.ifCond .ne 18, 3) := by decide +kernel
theorem dX1_canLearnOf_40 : decode cX1_canLearnOf 40 = .ok (.aload_n 1, 1) := by decide +kernel
theorem dX1_canLearnOf_41 : decode cX1_canLearnOf 41 = .ok (.getfield 69, 3) := by decide +kernel
theorem dX1_canLearnOf_44 : decode cX1_canLearnOf 44 = .ok (.aload_n 0, 1) := by decide +kernel
theorem dX1_canLearnOf_45 : decode cX1_canLearnOf 45 = .ok (.getfield 9, 3) := by decide +kernel
theorem dX1_canLearnOf_48 : decode cX1_canLearnOf 48 = .ok (.if_icmp .gt 7, 3) := by decide +kernel
theorem dX1_canLearnOf_51 : decode cX1_canLearnOf 51 = .ok (.iconst 1, 1) := by decide +kernel
theorem dX1_canLearnOf_52 : decode cX1_canLearnOf 52 = .ok (.goto 4, 3) := by decide +kernel
theorem dX1_canLearnOf_55 : decode cX1_canLearnOf 55 = .ok (.iconst 0, 1) := by decide +kernel
theorem dX1_canLearnOf_56 : decode cX1_canLearnOf 56 = .ok (.ireturn, 1) := by decide +kernel
theorem dX1_learnOf_0 : decode cX1_learnOf 0 = .ok (.aload_n 0, 1) := by decide +kernel
theorem dX1_learnOf_1 : decode cX1_learnOf 1 = .ok (.dup, 1) := by decide +kernel
theorem dX1_learnOf_2 : decode cX1_learnOf 2 = .ok (.getfield 9, 3) := by decide +kernel
theorem dX1_learnOf_5 : decode cX1_learnOf 5 = .ok (.aload_n 2, 1) := by decide +kernel
theorem dX1_learnOf_6 : decode cX1_learnOf 6 = .ok (.getfield 69, 3) := by decide +kernel
theorem dX1_learnOf_9 : decode cX1_learnOf 9 = .ok (.isub, 1) := by decide +kernel
theorem dX1_learnOf_10 : decode cX1_learnOf 10 = .ok (.putfield 9, 3) := by decide +kernel
theorem dX1_learnOf_13 : decode cX1_learnOf 13 = .ok (.aload_n 0, 1) := by decide +kernel
theorem dX1_learnOf_14 : decode cX1_learnOf 14 = .ok (.iload_n 3, 1) := by decide +kernel
theorem dX1_learnOf_15 : decode cX1_learnOf 15 = .ok (.invokevirtual 72, 3) := by decide +kernel
theorem dX1_learnOf_18 : decode cX1_learnOf 18 = .ok (.aload_n 0, 1) := by decide +kernel
theorem dX1_learnOf_19 : decode cX1_learnOf 19 = .ok (.dup, 1) := by decide +kernel
theorem dX1_learnOf_20 : decode cX1_learnOf 20 = .ok (.getfield 25, 3) := by decide +kernel
theorem dX1_learnOf_23 : decode cX1_learnOf 23 = .ok (.aload_n 2, 1) := by decide +kernel
theorem dX1_learnOf_24 : decode cX1_learnOf 24 = .ok (.invokevirtual 76, 3) := by decide +kernel
theorem dX1_learnOf_27 : decode cX1_learnOf 27 = .ok (.iconst (-1), 1) := by decide +kernel
theorem dX1_learnOf_28 : decode cX1_learnOf 28 = .ok (.ixor, 1) := by decide +kernel
theorem dX1_learnOf_29 : decode cX1_learnOf 29 = .ok (.iand, 1) := by decide +kernel
theorem dX1_learnOf_30 : decode cX1_learnOf 30 = .ok (.putfield 25, 3) := by decide +kernel
theorem dX1_learnOf_33 : decode cX1_learnOf 33 = .ok (.aload_n 2, 1) := by decide +kernel
theorem dX1_learnOf_34 : decode cX1_learnOf 34 = .ok (.getfield 66, 3) := by decide +kernel
theorem dX1_learnOf_37 : decode cX1_learnOf 37 = .ok (.bipush 10, 2) := by decide +kernel
theorem dX1_learnOf_39 : decode cX1_learnOf 39 = .ok (.invokestatic 40, 3) := by decide +kernel
theorem dX1_learnOf_42 : decode cX1_learnOf 42 = .ok (.ifCond .eq 38, 3) := by decide +kernel
theorem dX1_learnOf_45 : decode cX1_learnOf 45 = .ok (.aload_n 0, 1) := by decide +kernel
theorem dX1_learnOf_46 : decode cX1_learnOf 46 = .ok (.dup, 1) := by decide +kernel
theorem dX1_learnOf_47 : decode cX1_learnOf 47 = .ok (.getfield 25, 3) := by decide +kernel
theorem dX1_learnOf_50 : decode cX1_learnOf 50 = .ok (.iconst 1, 1) := by decide +kernel
theorem dX1_learnOf_51 : decode cX1_learnOf 51 = .ok (.aload_n 2, 1) := by decide +kernel
theorem dX1_learnOf_52 : decode cX1_learnOf 52 = .ok (.getfield 66, 3) := by decide +kernel
theorem dX1_learnOf_55 : decode cX1_learnOf 55 = .ok (.ishl, 1) := by decide +kernel
theorem dX1_learnOf_56 : decode cX1_learnOf 56 = .ok (.ior, 1) := by decide +kernel
theorem dX1_learnOf_57 : decode cX1_learnOf 57 = .ok (.putfield 25, 3) := by decide +kernel
theorem dX1_learnOf_60 : decode cX1_learnOf 60 = .ok (.aload_n 0, 1) := by decide +kernel
theorem dX1_learnOf_61 : decode cX1_learnOf 61 = .ok (.getfield 15, 3) := by decide +kernel
theorem dX1_learnOf_64 : decode cX1_learnOf 64 = .ok (.aload_n 2, 1) := by decide +kernel
theorem dX1_learnOf_65 : decode cX1_learnOf 65 = .ok (.getfield 66, 3) := by decide +kernel
theorem dX1_learnOf_68 : decode cX1_learnOf 68 = .ok (.iload_n 1, 1) := by decide +kernel
theorem dX1_learnOf_69 : decode cX1_learnOf 69 = .ok (.iastore, 1) := by decide +kernel
theorem dX1_learnOf_70 : decode cX1_learnOf 70 = .ok (.aload_n 0, 1) := by decide +kernel
theorem dX1_learnOf_71 : decode cX1_learnOf 71 = .ok (.getfield 19, 3) := by decide +kernel
theorem dX1_learnOf_74 : decode cX1_learnOf 74 = .ok (.aload_n 2, 1) := by decide +kernel
theorem dX1_learnOf_75 : decode cX1_learnOf 75 = .ok (.getfield 66, 3) := by decide +kernel
theorem dX1_learnOf_78 : decode cX1_learnOf 78 = .ok (.iconst 0, 1) := by decide +kernel
theorem dX1_learnOf_79 : decode cX1_learnOf 79 = .ok (.iastore, 1) := by decide +kernel
theorem dX1_learnOf_80 : decode cX1_learnOf 80 = .ok (.return_, 1) := by decide +kernel
theorem dX1_practise_0 : decode cX1_practise 0 = .ok (.iload_n 1, 1) := by decide +kernel
theorem dX1_practise_1 : decode cX1_practise 1 = .ok (.bipush 10, 2) := by decide +kernel
theorem dX1_practise_3 : decode cX1_practise 3 = .ok (.invokestatic 40, 3) := by decide +kernel
theorem dX1_practise_6 : decode cX1_practise 6 = .ok (.ifCond .eq 11, 3) := by decide +kernel
theorem dX1_practise_9 : decode cX1_practise 9 = .ok (.aload_n 0, 1) := by decide +kernel
theorem dX1_practise_10 : decode cX1_practise 10 = .ok (.iload_n 1, 1) := by decide +kernel
theorem dX1_practise_11 : decode cX1_practise 11 = .ok (.invokevirtual 50, 3) := by decide +kernel
theorem dX1_practise_14 : decode cX1_practise 14 = .ok (.ifCond .ne 5, 3) := by decide +kernel
theorem dX1_practise_17 : decode cX1_practise 17 = .ok (.iconst 0, 1) := by decide +kernel
theorem dX1_practise_18 : decode cX1_practise 18 = .ok (.ireturn, 1) := by decide +kernel
theorem dX1_practise_19 : decode cX1_practise 19 = .ok (.aload_n 0, 1) := by decide +kernel
theorem dX1_practise_20 : decode cX1_practise 20 = .ok (.getfield 19, 3) := by decide +kernel
theorem dX1_practise_23 : decode cX1_practise 23 = .ok (.iload_n 1, 1) := by decide +kernel
theorem dX1_practise_24 : decode cX1_practise 24 = .ok (.iconst 0, 1) := by decide +kernel
theorem dX1_practise_25 : decode cX1_practise 25 = .ok (.iastore, 1) := by decide +kernel
theorem dX1_practise_26 : decode cX1_practise 26 = .ok (.aload_n 0, 1) := by decide +kernel
theorem dX1_practise_27 : decode cX1_practise 27 = .ok (.iconst 1, 1) := by decide +kernel
theorem dX1_practise_28 : decode cX1_practise 28 = .ok (.invokevirtual 72, 3) := by decide +kernel
theorem dX1_practise_31 : decode cX1_practise 31 = .ok (.iconst 1, 1) := by decide +kernel
theorem dX1_practise_32 : decode cX1_practise 32 = .ok (.ireturn, 1) := by decide +kernel
theorem dX2_init_0 : decode cX2_init 0 = .ok (.aload_n 0, 1) := by decide +kernel
theorem dX2_init_1 : decode cX2_init 1 = .ok (.invokespecial 3, 3) := by decide +kernel
theorem dX2_init_4 : decode cX2_init 4 = .ok (.return_, 1) := by decide +kernel
theorem dX2_begin_0 : decode cX2_begin 0 = .ok (.aload_n 0, 1) := by decide +kernel
theorem dX2_begin_1 : decode cX2_begin 1 = .ok (.iload_n 1, 1) := by decide +kernel
theorem dX2_begin_2 : decode cX2_begin 2 = .ok (.putfield 9, 3) := by decide +kernel
theorem dX2_begin_5 : decode cX2_begin 5 = .ok (.aload_n 0, 1) := by decide +kernel
theorem dX2_begin_6 : decode cX2_begin 6 = .ok (.iload_n 2, 1) := by decide +kernel
theorem dX2_begin_7 : decode cX2_begin 7 = .ok (.putfield 15, 3) := by decide +kernel
theorem dX2_begin_10 : decode cX2_begin 10 = .ok (.aload_n 0, 1) := by decide +kernel
theorem dX2_begin_11 : decode cX2_begin 11 = .ok (.iload_n 3, 1) := by decide +kernel
theorem dX2_begin_12 : decode cX2_begin 12 = .ok (.putfield 18, 3) := by decide +kernel
theorem dX2_begin_15 : decode cX2_begin 15 = .ok (.aload_n 0, 1) := by decide +kernel
theorem dX2_begin_16 : decode cX2_begin 16 = .ok (.iload 4, 2) := by decide +kernel
theorem dX2_begin_18 : decode cX2_begin 18 = .ok (.putfield 21, 3) := by decide +kernel
theorem dX2_begin_21 : decode cX2_begin 21 = .ok (.aload_n 0, 1) := by decide +kernel
theorem dX2_begin_22 : decode cX2_begin 22 = .ok (.iconst 0, 1) := by decide +kernel
theorem dX2_begin_23 : decode cX2_begin 23 = .ok (.putfield 24, 3) := by decide +kernel
theorem dX2_begin_26 : decode cX2_begin 26 = .ok (.aload_n 0, 1) := by decide +kernel
theorem dX2_begin_27 : decode cX2_begin 27 = .ok (.bipush 40, 2) := by decide +kernel
theorem dX2_begin_29 : decode cX2_begin 29 = .ok (.putfield 27, 3) := by decide +kernel
theorem dX2_begin_32 : decode cX2_begin 32 = .ok (.aload_n 0, 1) := by decide +kernel
theorem dX2_begin_33 : decode cX2_begin 33 = .ok (.iconst 0, 1) := by decide +kernel
theorem dX2_begin_34 : decode cX2_begin 34 = .ok (.putfield 30, 3) := by decide +kernel
theorem dX2_begin_37 : decode cX2_begin 37 = .ok (.return_, 1) := by decide +kernel
theorem dX2_become_0 : decode cX2_become 0 = .ok (.aload_n 0, 1) := by decide +kernel
theorem dX2_become_1 : decode cX2_become 1 = .ok (.aload_n 1, 1) := by decide +kernel
theorem dX2_become_2 : decode cX2_become 2 = .ok (.getfield 9, 3) := by decide +kernel
theorem dX2_become_5 : decode cX2_become 5 = .ok (.putfield 9, 3) := by decide +kernel
theorem dX2_become_8 : decode cX2_become 8 = .ok (.aload_n 0, 1) := by decide +kernel
theorem dX2_become_9 : decode cX2_become 9 = .ok (.aload_n 1, 1) := by decide +kernel
theorem dX2_become_10 : decode cX2_become 10 = .ok (.getfield 15, 3) := by decide +kernel
theorem dX2_become_13 : decode cX2_become 13 = .ok (.putfield 15, 3) := by decide +kernel
theorem dX2_become_16 : decode cX2_become 16 = .ok (.aload_n 0, 1) := by decide +kernel
theorem dX2_become_17 : decode cX2_become 17 = .ok (.aload_n 1, 1) := by decide +kernel
theorem dX2_become_18 : decode cX2_become 18 = .ok (.getfield 18, 3) := by decide +kernel
theorem dX2_become_21 : decode cX2_become 21 = .ok (.putfield 18, 3) := by decide +kernel
theorem dX2_become_24 : decode cX2_become 24 = .ok (.aload_n 0, 1) := by decide +kernel
theorem dX2_become_25 : decode cX2_become 25 = .ok (.aload_n 1, 1) := by decide +kernel
theorem dX2_become_26 : decode cX2_become 26 = .ok (.getfield 24, 3) := by decide +kernel
theorem dX2_become_29 : decode cX2_become 29 = .ok (.putfield 24, 3) := by decide +kernel
theorem dX2_become_32 : decode cX2_become 32 = .ok (.aload_n 0, 1) := by decide +kernel
theorem dX2_become_33 : decode cX2_become 33 = .ok (.aload_n 1, 1) := by decide +kernel
theorem dX2_become_34 : decode cX2_become 34 = .ok (.getfield 21, 3) := by decide +kernel
theorem dX2_become_37 : decode cX2_become 37 = .ok (.putfield 21, 3) := by decide +kernel
theorem dX2_become_40 : decode cX2_become 40 = .ok (.aload_n 0, 1) := by decide +kernel
theorem dX2_become_41 : decode cX2_become 41 = .ok (.aload_n 1, 1) := by decide +kernel
theorem dX2_become_42 : decode cX2_become 42 = .ok (.getfield 27, 3) := by decide +kernel
theorem dX2_become_45 : decode cX2_become 45 = .ok (.putfield 27, 3) := by decide +kernel
theorem dX2_become_48 : decode cX2_become 48 = .ok (.aload_n 0, 1) := by decide +kernel
theorem dX2_become_49 : decode cX2_become 49 = .ok (.aload_n 1, 1) := by decide +kernel
theorem dX2_become_50 : decode cX2_become 50 = .ok (.getfield 30, 3) := by decide +kernel
theorem dX2_become_53 : decode cX2_become 53 = .ok (.putfield 30, 3) := by decide +kernel
theorem dX2_become_56 : decode cX2_become 56 = .ok (.return_, 1) := by decide +kernel
theorem dX2_isOf_0 : decode cX2_isOf 0 = .ok (.aload_n 0, 1) := by decide +kernel
theorem dX2_isOf_1 : decode cX2_isOf 1 = .ok (.getfield 9, 3) := by decide +kernel
theorem dX2_isOf_4 : decode cX2_isOf 4 = .ok (.istore_n 2, 1) := by decide +kernel
theorem dX2_isOf_5 : decode cX2_isOf 5 = .ok (.iconst 0, 1) := by decide +kernel
theorem dX2_isOf_6 : decode cX2_isOf 6 = .ok (.istore_n 3, 1) := by decide +kernel
theorem dX2_isOf_7 : decode cX2_isOf 7 = .ok (.iload_n 3, 1) := by decide +kernel
theorem dX2_isOf_8 : decode cX2_isOf 8 = .ok (.bipush 6, 2) := by decide +kernel
theorem dX2_isOf_10 : decode cX2_isOf 10 = .ok (.if_icmp .ge 31, 3) := by decide +kernel
theorem dX2_isOf_13 : decode cX2_isOf 13 = .ok (.iload_n 2, 1) := by decide +kernel
theorem dX2_isOf_14 : decode cX2_isOf 14 = .ok (.bipush 6, 2) := by decide +kernel
theorem dX2_isOf_16 : decode cX2_isOf 16 = .ok (.invokestatic 34, 3) := by decide +kernel
theorem dX2_isOf_19 : decode cX2_isOf 19 = .ok (.ifCond .eq 22, 3) := by decide +kernel
theorem dX2_isOf_22 : decode cX2_isOf 22 = .ok (.iload_n 2, 1) := by decide +kernel
theorem dX2_isOf_23 : decode cX2_isOf 23 = .ok (.iload_n 1, 1) := by decide +kernel
theorem dX2_isOf_24 : decode cX2_isOf 24 = .ok (.if_icmp .ne 5, 3) := by decide +kernel
theorem dX2_isOf_27 : decode cX2_isOf 27 = .ok (.iconst 1, 1) := by decide +kernel
theorem dX2_isOf_28 : decode cX2_isOf 28 = .ok (.ireturn, 1) := by decide +kernel
theorem dX2_isOf_29 : decode cX2_isOf 29 = .ok (.getstatic 38, 3) := by decide +kernel
theorem dX2_isOf_32 : decode cX2_isOf 32 = .ok (.iload_n 2, 1) := by decide +kernel
theorem dX2_isOf_33 : decode cX2_isOf 33 = .ok (.iaload, 1) := by decide +kernel
theorem dX2_isOf_34 : decode cX2_isOf 34 = .ok (.istore_n 2, 1) := by decide +kernel
theorem dX2_isOf_35 : decode cX2_isOf 35 = .ok (.iinc 3 1, 3) := by decide +kernel
theorem dX2_isOf_38 : decode cX2_isOf 38 = .ok (.goto (-31), 3) := by decide +kernel
theorem dX2_isOf_41 : decode cX2_isOf 41 = .ok (.iconst 0, 1) := by decide +kernel
theorem dX2_isOf_42 : decode cX2_isOf 42 = .ok (.ireturn, 1) := by decide +kernel
theorem dX2_daysFrom_0 : decode cX2_daysFrom 0 = .ok (.iconst 1, 1) := by decide +kernel
theorem dX2_daysFrom_1 : decode cX2_daysFrom 1 = .ok (.iload_n 1, 1) := by decide +kernel
theorem dX2_daysFrom_2 : decode cX2_daysFrom 2 = .ok (.iconst 1, 1) := by decide +kernel
theorem dX2_daysFrom_3 : decode cX2_daysFrom 3 = .ok (.isub, 1) := by decide +kernel
theorem dX2_daysFrom_4 : decode cX2_daysFrom 4 = .ok (.invokestatic 42, 3) := by decide +kernel
theorem dX2_daysFrom_7 : decode cX2_daysFrom 7 = .ok (.istore_n 2, 1) := by decide +kernel
theorem dX2_daysFrom_8 : decode cX2_daysFrom 8 = .ok (.aload_n 0, 1) := by decide +kernel
theorem dX2_daysFrom_9 : decode cX2_daysFrom 9 = .ok (.getfield 9, 3) := by decide +kernel
theorem dX2_daysFrom_12 : decode cX2_daysFrom 12 = .ok (.tableswitch 64 1 5 #[36, 52, 40, 54, 62], 36) := by decide +kernel
theorem dX2_daysFrom_48 : decode cX2_daysFrom 48 = .ok (.iconst 2, 1) := by decide +kernel
theorem dX2_daysFrom_49 : decode cX2_daysFrom 49 = .ok (.iload_n 1, 1) := by decide +kernel
theorem dX2_daysFrom_50 : decode cX2_daysFrom 50 = .ok (.imul, 1) := by decide +kernel
theorem dX2_daysFrom_51 : decode cX2_daysFrom 51 = .ok (.ireturn, 1) := by decide +kernel
theorem dX2_daysFrom_52 : decode cX2_daysFrom 52 = .ok (.iconst 2, 1) := by decide +kernel
theorem dX2_daysFrom_53 : decode cX2_daysFrom 53 = .ok (.iload_n 1, 1) := by decide +kernel
theorem dX2_daysFrom_54 : decode cX2_daysFrom 54 = .ok (.imul, 1) := by decide +kernel
theorem dX2_daysFrom_55 : decode cX2_daysFrom 55 = .ok (.aload_n 0, 1) := by decide +kernel
theorem dX2_daysFrom_56 : decode cX2_daysFrom 56 = .ok (.getfield 27, 3) := by decide +kernel
theorem dX2_daysFrom_59 : decode cX2_daysFrom 59 = .ok (.bipush 10, 2) := by decide +kernel
theorem dX2_daysFrom_61 : decode cX2_daysFrom 61 = .ok (.idiv, 1) := by decide +kernel
theorem dX2_daysFrom_62 : decode cX2_daysFrom 62 = .ok (.iadd, 1) := by decide +kernel
theorem dX2_daysFrom_63 : decode cX2_daysFrom 63 = .ok (.ireturn, 1) := by decide +kernel
theorem dX2_daysFrom_64 : decode cX2_daysFrom 64 = .ok (.iload_n 2, 1) := by decide +kernel
theorem dX2_daysFrom_65 : decode cX2_daysFrom 65 = .ok (.ireturn, 1) := by decide +kernel
theorem dX2_daysFrom_66 : decode cX2_daysFrom 66 = .ok (.iconst 1, 1) := by decide +kernel
theorem dX2_daysFrom_67 : decode cX2_daysFrom 67 = .ok (.iload_n 2, 1) := by decide +kernel
theorem dX2_daysFrom_68 : decode cX2_daysFrom 68 = .ok (.iconst 2, 1) := by decide +kernel
theorem dX2_daysFrom_69 : decode cX2_daysFrom 69 = .ok (.idiv, 1) := by decide +kernel
theorem dX2_daysFrom_70 : decode cX2_daysFrom 70 = .ok (.invokestatic 42, 3) := by decide +kernel
theorem dX2_daysFrom_73 : decode cX2_daysFrom 73 = .ok (.ireturn, 1) := by decide +kernel
theorem dX2_daysFrom_74 : decode cX2_daysFrom 74 = .ok (.iconst 1, 1) := by decide +kernel
theorem dX2_daysFrom_75 : decode cX2_daysFrom 75 = .ok (.ireturn, 1) := by decide +kernel
theorem dX2_daysFrom_76 : decode cX2_daysFrom 76 = .ok (.iload_n 1, 1) := by decide +kernel
theorem dX2_daysFrom_77 : decode cX2_daysFrom 77 = .ok (.ireturn, 1) := by decide +kernel
theorem dX2_teaches_0 : decode cX2_teaches 0 = .ok (.aload_n 0, 1) := by decide +kernel
theorem dX2_teaches_1 : decode cX2_teaches 1 = .ok (.getfield 24, 3) := by decide +kernel
theorem dX2_teaches_4 : decode cX2_teaches 4 = .ok (.iload_n 1, 1) := by decide +kernel
theorem dX2_teaches_5 : decode cX2_teaches 5 = .ok (.iand, 1) := by decide +kernel
theorem dX2_teaches_6 : decode cX2_teaches 6 = .ok (.invokestatic 48, 3) := by decide +kernel
theorem dX2_teaches_9 : decode cX2_teaches 9 = .ok (.istore_n 2, 1) := by decide +kernel
theorem dX2_teaches_10 : decode cX2_teaches 10 = .ok (.aload_n 0, 1) := by decide +kernel
theorem dX2_teaches_11 : decode cX2_teaches 11 = .ok (.getfield 9, 3) := by decide +kernel
theorem dX2_teaches_14 : decode cX2_teaches 14 = .ok (.tableswitch 63 2 5 #[48, 30, 50, 52], 30) := by decide +kernel
theorem dX2_teaches_44 : decode cX2_teaches 44 = .ok (.iload_n 2, 1) := by decide +kernel
theorem dX2_teaches_45 : decode cX2_teaches 45 = .ok (.ifCond .ne 15, 3) := by decide +kernel
theorem dX2_teaches_48 : decode cX2_teaches 48 = .ok (.iload_n 1, 1) := by decide +kernel
theorem dX2_teaches_49 : decode cX2_teaches 49 = .ok (.invokestatic 48, 3) := by decide +kernel
theorem dX2_teaches_52 : decode cX2_teaches 52 = .ok (.iconst 3, 1) := by decide +kernel
theorem dX2_teaches_53 : decode cX2_teaches 53 = .ok (.if_icmp .lt 7, 3) := by decide +kernel
theorem dX2_teaches_56 : decode cX2_teaches 56 = .ok (.iconst 1, 1) := by decide +kernel
theorem dX2_teaches_57 : decode cX2_teaches 57 = .ok (.goto 4, 3) := by decide +kernel
theorem dX2_teaches_60 : decode cX2_teaches 60 = .ok (.iconst 0, 1) := by decide +kernel
theorem dX2_teaches_61 : decode cX2_teaches 61 = .ok (.ireturn, 1) := by decide +kernel
theorem dX2_teaches_62 : decode cX2_teaches 62 = .ok (.iconst 1, 1) := by decide +kernel
theorem dX2_teaches_63 : decode cX2_teaches 63 = .ok (.ireturn, 1) := by decide +kernel
theorem dX2_teaches_64 : decode cX2_teaches 64 = .ok (.iconst 1, 1) := by decide +kernel
theorem dX2_teaches_65 : decode cX2_teaches 65 = .ok (.ireturn, 1) := by decide +kernel
theorem dX2_teaches_66 : decode cX2_teaches 66 = .ok (.iload_n 2, 1) := by decide +kernel
theorem dX2_teaches_67 : decode cX2_teaches 67 = .ok (.iconst 1, 1) := by decide +kernel
theorem dX2_teaches_68 : decode cX2_teaches 68 = .ok (.if_icmp .gt 7, 3) := by decide +kernel
theorem dX2_teaches_71 : decode cX2_teaches 71 = .ok (.iconst 1, 1) := by decide +kernel
theorem dX2_teaches_72 : decode cX2_teaches 72 = .ok (.goto 4, 3) := by decide +kernel
theorem dX2_teaches_75 : decode cX2_teaches 75 = .ok (.iconst 0, 1) := by decide +kernel
theorem dX2_teaches_76 : decode cX2_teaches 76 = .ok (.ireturn, 1) := by decide +kernel
theorem dX2_teaches_77 : decode cX2_teaches 77 = .ok (.iload_n 2, 1) := by decide +kernel
theorem dX2_teaches_78 : decode cX2_teaches 78 = .ok (.ifCond .ne 7, 3) := by decide +kernel
theorem dX2_teaches_81 : decode cX2_teaches 81 = .ok (.iconst 1, 1) := by decide +kernel
theorem dX2_teaches_82 : decode cX2_teaches 82 = .ok (.goto 4, 3) := by decide +kernel
theorem dX2_teaches_85 : decode cX2_teaches 85 = .ok (.iconst 0, 1) := by decide +kernel
theorem dX2_teaches_86 : decode cX2_teaches 86 = .ok (.ireturn, 1) := by decide +kernel
theorem dX2_unlearnt_0 : decode cX2_unlearnt 0 = .ok (.aload_n 0, 1) := by decide +kernel
theorem dX2_unlearnt_1 : decode cX2_unlearnt 1 = .ok (.getfield 9, 3) := by decide +kernel
theorem dX2_unlearnt_4 : decode cX2_unlearnt 4 = .ok (.iconst 2, 1) := by decide +kernel
theorem dX2_unlearnt_5 : decode cX2_unlearnt 5 = .ok (.if_icmp .ne 10, 3) := by decide +kernel
theorem dX2_unlearnt_8 : decode cX2_unlearnt 8 = .ok (.aload_n 0, 1) := by decide +kernel
theorem dX2_unlearnt_9 : decode cX2_unlearnt 9 = .ok (.getfield 24, 3) := by decide +kernel
theorem dX2_unlearnt_12 : decode cX2_unlearnt 12 = .ok (.goto 4, 3) := by decide +kernel
theorem dX2_unlearnt_15 : decode cX2_unlearnt 15 = .ok (.iconst 0, 1) := by decide +kernel
theorem dX2_unlearnt_16 : decode cX2_unlearnt 16 = .ok (.ireturn, 1) := by decide +kernel
theorem dX2_worth_0 : decode cX2_worth 0 = .ok (.aload_n 0, 1) := by decide +kernel
theorem dX2_worth_1 : decode cX2_worth 1 = .ok (.getfield 9, 3) := by decide +kernel
theorem dX2_worth_4 : decode cX2_worth 4 = .ok (.tableswitch 75 1 5 #[36, 54, 44, 62, 72], 36) := by decide +kernel
theorem dX2_worth_40 : decode cX2_worth 40 = .ok (.aload_n 0, 1) := by decide +kernel
theorem dX2_worth_41 : decode cX2_worth 41 = .ok (.getfield 21, 3) := by decide +kernel
theorem dX2_worth_44 : decode cX2_worth 44 = .ok (.bipush 11, 2) := by decide +kernel
theorem dX2_worth_46 : decode cX2_worth 46 = .ok (.iadd, 1) := by decide +kernel
theorem dX2_worth_47 : decode cX2_worth 47 = .ok (.ireturn, 1) := by decide +kernel
theorem dX2_worth_48 : decode cX2_worth 48 = .ok (.iconst 2, 1) := by decide +kernel
theorem dX2_worth_49 : decode cX2_worth 49 = .ok (.aload_n 0, 1) := by decide +kernel
theorem dX2_worth_50 : decode cX2_worth 50 = .ok (.getfield 21, 3) := by decide +kernel
theorem dX2_worth_53 : decode cX2_worth 53 = .ok (.bipush 11, 2) := by decide +kernel
theorem dX2_worth_55 : decode cX2_worth 55 = .ok (.iadd, 1) := by decide +kernel
theorem dX2_worth_56 : decode cX2_worth 56 = .ok (.imul, 1) := by decide +kernel
theorem dX2_worth_57 : decode cX2_worth 57 = .ok (.ireturn, 1) := by decide +kernel
theorem dX2_worth_58 : decode cX2_worth 58 = .ok (.bipush 99, 2) := by decide +kernel
theorem dX2_worth_60 : decode cX2_worth 60 = .ok (.aload_n 0, 1) := by decide +kernel
theorem dX2_worth_61 : decode cX2_worth 61 = .ok (.getfield 21, 3) := by decide +kernel
theorem dX2_worth_64 : decode cX2_worth 64 = .ok (.isub, 1) := by decide +kernel
theorem dX2_worth_65 : decode cX2_worth 65 = .ok (.ireturn, 1) := by decide +kernel
theorem dX2_worth_66 : decode cX2_worth 66 = .ok (.bipush 99, 2) := by decide +kernel
theorem dX2_worth_68 : decode cX2_worth 68 = .ok (.aload_n 0, 1) := by decide +kernel
theorem dX2_worth_69 : decode cX2_worth 69 = .ok (.getfield 21, 3) := by decide +kernel
theorem dX2_worth_72 : decode cX2_worth 72 = .ok (.isub, 1) := by decide +kernel
theorem dX2_worth_73 : decode cX2_worth 73 = .ok (.iconst 4, 1) := by decide +kernel
theorem dX2_worth_74 : decode cX2_worth 74 = .ok (.isub, 1) := by decide +kernel
theorem dX2_worth_75 : decode cX2_worth 75 = .ok (.ireturn, 1) := by decide +kernel
theorem dX2_worth_76 : decode cX2_worth 76 = .ok (.bipush 8, 2) := by decide +kernel
theorem dX2_worth_78 : decode cX2_worth 78 = .ok (.ireturn, 1) := by decide +kernel
theorem dX2_worth_79 : decode cX2_worth 79 = .ok (.aload_n 0, 1) := by decide +kernel
theorem dX2_worth_80 : decode cX2_worth 80 = .ok (.getfield 21, 3) := by decide +kernel
theorem dX2_worth_83 : decode cX2_worth 83 = .ok (.ireturn, 1) := by decide +kernel
theorem dX3_init_0 : decode cX3_init 0 = .ok (.aload_n 0, 1) := by decide +kernel
theorem dX3_init_1 : decode cX3_init 1 = .ok (.invokespecial 3, 3) := by decide +kernel
theorem dX3_init_4 : decode cX3_init 4 = .ok (.aload_n 0, 1) := by decide +kernel
theorem dX3_init_5 : decode cX3_init 5 = .ok (.new 9, 3) := by decide +kernel
theorem dX3_init_8 : decode cX3_init 8 = .ok (.dup, 1) := by decide +kernel
theorem dX3_init_9 : decode cX3_init 9 = .ok (.invokespecial 11, 3) := by decide +kernel
theorem dX3_init_12 : decode cX3_init 12 = .ok (.putfield 12, 3) := by decide +kernel
theorem dX3_init_15 : decode cX3_init 15 = .ok (.aload_n 0, 1) := by decide +kernel
theorem dX3_init_16 : decode cX3_init 16 = .ok (.new 18, 3) := by decide +kernel
theorem dX3_init_19 : decode cX3_init 19 = .ok (.dup, 1) := by decide +kernel
theorem dX3_init_20 : decode cX3_init 20 = .ok (.invokespecial 20, 3) := by decide +kernel
theorem dX3_init_23 : decode cX3_init 23 = .ok (.putfield 21, 3) := by decide +kernel
theorem dX3_init_26 : decode cX3_init 26 = .ok (.aload_n 0, 1) := by decide +kernel
theorem dX3_init_27 : decode cX3_init 27 = .ok (.new 25, 3) := by decide +kernel
theorem dX3_init_30 : decode cX3_init 30 = .ok (.dup, 1) := by decide +kernel
theorem dX3_init_31 : decode cX3_init 31 = .ok (.invokespecial 27, 3) := by decide +kernel
theorem dX3_init_34 : decode cX3_init 34 = .ok (.putfield 28, 3) := by decide +kernel
theorem dX3_init_37 : decode cX3_init 37 = .ok (.aload_n 0, 1) := by decide +kernel
theorem dX3_init_38 : decode cX3_init 38 = .ok (.bipush 6, 2) := by decide +kernel
theorem dX3_init_40 : decode cX3_init 40 = .ok (.newarray .int, 2) := by decide +kernel
theorem dX3_init_42 : decode cX3_init 42 = .ok (.putfield 32, 3) := by decide +kernel
theorem dX3_init_45 : decode cX3_init 45 = .ok (.aload_n 0, 1) := by decide +kernel
theorem dX3_init_46 : decode cX3_init 46 = .ok (.bipush 14, 2) := by decide +kernel
theorem dX3_init_48 : decode cX3_init 48 = .ok (.anewarray 36, 3) := by decide +kernel
theorem dX3_init_51 : decode cX3_init 51 = .ok (.putfield 38, 3) := by decide +kernel
theorem dX3_init_54 : decode cX3_init 54 = .ok (.return_, 1) := by decide +kernel
theorem dX3_become_0 : decode cX3_become 0 = .ok (.aload_n 0, 1) := by decide +kernel
theorem dX3_become_1 : decode cX3_become 1 = .ok (.getfield 12, 3) := by decide +kernel
theorem dX3_become_4 : decode cX3_become 4 = .ok (.aload_n 1, 1) := by decide +kernel
theorem dX3_become_5 : decode cX3_become 5 = .ok (.getfield 12, 3) := by decide +kernel
theorem dX3_become_8 : decode cX3_become 8 = .ok (.invokevirtual 42, 3) := by decide +kernel
theorem dX3_become_11 : decode cX3_become 11 = .ok (.aload_n 0, 1) := by decide +kernel
theorem dX3_become_12 : decode cX3_become 12 = .ok (.getfield 21, 3) := by decide +kernel
theorem dX3_become_15 : decode cX3_become 15 = .ok (.aload_n 1, 1) := by decide +kernel
theorem dX3_become_16 : decode cX3_become 16 = .ok (.getfield 21, 3) := by decide +kernel
theorem dX3_become_19 : decode cX3_become 19 = .ok (.invokevirtual 46, 3) := by decide +kernel
theorem dX3_become_22 : decode cX3_become 22 = .ok (.aload_n 0, 1) := by decide +kernel
theorem dX3_become_23 : decode cX3_become 23 = .ok (.getfield 28, 3) := by decide +kernel
theorem dX3_become_26 : decode cX3_become 26 = .ok (.aload_n 1, 1) := by decide +kernel
theorem dX3_become_27 : decode cX3_become 27 = .ok (.getfield 28, 3) := by decide +kernel
theorem dX3_become_30 : decode cX3_become 30 = .ok (.invokevirtual 49, 3) := by decide +kernel
theorem dX3_become_33 : decode cX3_become 33 = .ok (.aload_n 1, 1) := by decide +kernel
theorem dX3_become_34 : decode cX3_become 34 = .ok (.getfield 32, 3) := by decide +kernel
theorem dX3_become_37 : decode cX3_become 37 = .ok (.iconst 0, 1) := by decide +kernel
theorem dX3_become_38 : decode cX3_become 38 = .ok (.aload_n 0, 1) := by decide +kernel
theorem dX3_become_39 : decode cX3_become 39 = .ok (.getfield 32, 3) := by decide +kernel
theorem dX3_become_42 : decode cX3_become 42 = .ok (.iconst 0, 1) := by decide +kernel
theorem dX3_become_43 : decode cX3_become 43 = .ok (.bipush 6, 2) := by decide +kernel
theorem dX3_become_45 : decode cX3_become 45 = .ok (.invokestatic 52, 3) := by decide +kernel
theorem dX3_become_48 : decode cX3_become 48 = .ok (.aload_n 0, 1) := by decide +kernel
theorem dX3_become_49 : decode cX3_become 49 = .ok (.aload_n 1, 1) := by decide +kernel
theorem dX3_become_50 : decode cX3_become 50 = .ok (.getfield 58, 3) := by decide +kernel
theorem dX3_become_53 : decode cX3_become 53 = .ok (.putfield 58, 3) := by decide +kernel
theorem dX3_become_56 : decode cX3_become 56 = .ok (.iconst 0, 1) := by decide +kernel
theorem dX3_become_57 : decode cX3_become 57 = .ok (.istore_n 2, 1) := by decide +kernel
theorem dX3_become_58 : decode cX3_become 58 = .ok (.iload_n 2, 1) := by decide +kernel
theorem dX3_become_59 : decode cX3_become 59 = .ok (.bipush 14, 2) := by decide +kernel
theorem dX3_become_61 : decode cX3_become 61 = .ok (.if_icmp .ge 21, 3) := by decide +kernel
theorem dX3_become_64 : decode cX3_become 64 = .ok (.aload_n 0, 1) := by decide +kernel
theorem dX3_become_65 : decode cX3_become 65 = .ok (.getfield 38, 3) := by decide +kernel
theorem dX3_become_68 : decode cX3_become 68 = .ok (.iload_n 2, 1) := by decide +kernel
theorem dX3_become_69 : decode cX3_become 69 = .ok (.aload_n 1, 1) := by decide +kernel
theorem dX3_become_70 : decode cX3_become 70 = .ok (.getfield 38, 3) := by decide +kernel
theorem dX3_become_73 : decode cX3_become 73 = .ok (.iload_n 2, 1) := by decide +kernel
theorem dX3_become_74 : decode cX3_become 74 = .ok (.aaload, 1) := by decide +kernel
theorem dX3_become_75 : decode cX3_become 75 = .ok (.aastore, 1) := by decide +kernel
theorem dX3_become_76 : decode cX3_become 76 = .ok (.iinc 2 1, 3) := by decide +kernel
theorem dX3_become_79 : decode cX3_become 79 = .ok (.goto (-21), 3) := by decide +kernel
theorem dX3_become_82 : decode cX3_become 82 = .ok (.aload_n 0, 1) := by decide +kernel
theorem dX3_become_83 : decode cX3_become 83 = .ok (.aload_n 1, 1) := by decide +kernel
theorem dX3_become_84 : decode cX3_become 84 = .ok (.getfield 62, 3) := by decide +kernel
theorem dX3_become_87 : decode cX3_become 87 = .ok (.putfield 62, 3) := by decide +kernel
theorem dX3_become_90 : decode cX3_become 90 = .ok (.return_, 1) := by decide +kernel
theorem dX3_addWish_0 : decode cX3_addWish 0 = .ok (.aload_n 0, 1) := by decide +kernel
theorem dX3_addWish_1 : decode cX3_addWish 1 = .ok (.getfield 58, 3) := by decide +kernel
theorem dX3_addWish_4 : decode cX3_addWish 4 = .ok (.bipush 6, 2) := by decide +kernel
theorem dX3_addWish_6 : decode cX3_addWish 6 = .ok (.invokestatic 65, 3) := by decide +kernel
theorem dX3_addWish_9 : decode cX3_addWish 9 = .ok (.ifCond .ne 5, 3) := by decide +kernel
theorem dX3_addWish_12 : decode cX3_addWish 12 = .ok (.iconst 0, 1) := by decide +kernel
theorem dX3_addWish_13 : decode cX3_addWish 13 = .ok (.ireturn, 1) := by decide +kernel
theorem dX3_addWish_14 : decode cX3_addWish 14 = .ok (.aload_n 0, 1) := by decide +kernel
theorem dX3_addWish_15 : decode cX3_addWish 15 = .ok (.getfield 32, 3) := by decide +kernel
theorem dX3_addWish_18 : decode cX3_addWish 18 = .ok (.aload_n 0, 1) := by decide +kernel
theorem dX3_addWish_19 : decode cX3_addWish 19 = .ok (.getfield 58, 3) := by decide +kernel
theorem dX3_addWish_22 : decode cX3_addWish 22 = .ok (.iload_n 1, 1) := by decide +kernel
theorem dX3_addWish_23 : decode cX3_addWish 23 = .ok (.iastore, 1) := by decide +kernel
theorem dX3_addWish_24 : decode cX3_addWish 24 = .ok (.aload_n 0, 1) := by decide +kernel
theorem dX3_addWish_25 : decode cX3_addWish 25 = .ok (.dup, 1) := by decide +kernel
theorem dX3_addWish_26 : decode cX3_addWish 26 = .ok (.getfield 58, 3) := by decide +kernel
theorem dX3_addWish_29 : decode cX3_addWish 29 = .ok (.iconst 1, 1) := by decide +kernel
theorem dX3_addWish_30 : decode cX3_addWish 30 = .ok (.iadd, 1) := by decide +kernel
theorem dX3_addWish_31 : decode cX3_addWish 31 = .ok (.putfield 58, 3) := by decide +kernel
theorem dX3_addWish_34 : decode cX3_addWish 34 = .ok (.iconst 1, 1) := by decide +kernel
theorem dX3_addWish_35 : decode cX3_addWish 35 = .ok (.ireturn, 1) := by decide +kernel
theorem dX3_wishedSet_0 : decode cX3_wishedSet 0 = .ok (.iconst 0, 1) := by decide +kernel
theorem dX3_wishedSet_1 : decode cX3_wishedSet 1 = .ok (.istore_n 1, 1) := by decide +kernel
theorem dX3_wishedSet_2 : decode cX3_wishedSet 2 = .ok (.iconst 0, 1) := by decide +kernel
theorem dX3_wishedSet_3 : decode cX3_wishedSet 3 = .ok (.istore_n 2, 1) := by decide +kernel
theorem dX3_wishedSet_4 : decode cX3_wishedSet 4 = .ok (.iload_n 2, 1) := by decide +kernel
theorem dX3_wishedSet_5 : decode cX3_wishedSet 5 = .ok (.aload_n 0, 1) := by decide +kernel
theorem dX3_wishedSet_6 : decode cX3_wishedSet 6 = .ok (.getfield 58, 3) := by decide +kernel
theorem dX3_wishedSet_9 : decode cX3_wishedSet 9 = .ok (.if_icmp .ge 26, 3) := by decide +kernel
theorem dX3_wishedSet_12 : decode cX3_wishedSet 12 = .ok (.iload_n 2, 1) := by decide +kernel
theorem dX3_wishedSet_13 : decode cX3_wishedSet 13 = .ok (.bipush 6, 2) := by decide +kernel
theorem dX3_wishedSet_15 : decode cX3_wishedSet 15 = .ok (.if_icmp .ge 20, 3) := by decide +kernel
theorem dX3_wishedSet_18 : decode cX3_wishedSet 18 = .ok (.iload_n 1, 1) := by decide +kernel
theorem dX3_wishedSet_19 : decode cX3_wishedSet 19 = .ok (.iconst 1, 1) := by decide +kernel
theorem dX3_wishedSet_20 : decode cX3_wishedSet 20 = .ok (.aload_n 0, 1) := by decide +kernel
theorem dX3_wishedSet_21 : decode cX3_wishedSet 21 = .ok (.getfield 32, 3) := by decide +kernel
theorem dX3_wishedSet_24 : decode cX3_wishedSet 24 = .ok (.iload_n 2, 1) := by decide +kernel
theorem dX3_wishedSet_25 : decode cX3_wishedSet 25 = .ok (.iaload, 1) := by decide +kernel
theorem dX3_wishedSet_26 : decode cX3_wishedSet 26 = .ok (.ishl, 1) := by decide +kernel
theorem dX3_wishedSet_27 : decode cX3_wishedSet 27 = .ok (.ior, 1) := by decide +kernel
theorem dX3_wishedSet_28 : decode cX3_wishedSet 28 = .ok (.istore_n 1, 1) := by decide +kernel
theorem dX3_wishedSet_29 : decode cX3_wishedSet 29 = .ok (.iinc 2 1, 3) := by decide +kernel
theorem dX3_wishedSet_32 : decode cX3_wishedSet 32 = .ok (.goto (-28), 3) := by decide +kernel
theorem dX3_wishedSet_35 : decode cX3_wishedSet 35 = .ok (.iload_n 1, 1) := by decide +kernel
theorem dX3_wishedSet_36 : decode cX3_wishedSet 36 = .ok (.ireturn, 1) := by decide +kernel
theorem dX3_canMakeChair_0 : decode cX3_canMakeChair 0 = .ok (.aload_n 0, 1) := by decide +kernel
theorem dX3_canMakeChair_1 : decode cX3_canMakeChair 1 = .ok (.invokevirtual 69, 3) := by decide +kernel
theorem dX3_canMakeChair_4 : decode cX3_canMakeChair 4 = .ok (.aload_n 0, 1) := by decide +kernel
theorem dX3_canMakeChair_5 : decode cX3_canMakeChair 5 = .ok (.getfield 28, 3) := by decide +kernel
theorem dX3_canMakeChair_8 : decode cX3_canMakeChair 8 = .ok (.getfield 73, 3) := by decide +kernel
theorem dX3_canMakeChair_11 : decode cX3_canMakeChair 11 = .ok (.iconst (-1), 1) := by decide +kernel
theorem dX3_canMakeChair_12 : decode cX3_canMakeChair 12 = .ok (.ixor, 1) := by decide +kernel
theorem dX3_canMakeChair_13 : decode cX3_canMakeChair 13 = .ok (.iand, 1) := by decide +kernel
theorem dX3_canMakeChair_14 : decode cX3_canMakeChair 14 = .ok (.ifCond .ne 7, 3) := by decide +kernel
theorem dX3_canMakeChair_17 : decode cX3_canMakeChair 17 = .ok (.iconst 1, 1) := by decide +kernel
theorem dX3_canMakeChair_18 : decode cX3_canMakeChair 18 = .ok (.goto 4, 3) := by decide +kernel
theorem dX3_canMakeChair_21 : decode cX3_canMakeChair 21 = .ok (.iconst 0, 1) := by decide +kernel
theorem dX3_canMakeChair_22 : decode cX3_canMakeChair 22 = .ok (.ireturn, 1) := by decide +kernel
theorem dX3_makeChair_0 : decode cX3_makeChair 0 = .ok (.iconst 0, 1) := by decide +kernel
theorem dX3_makeChair_1 : decode cX3_makeChair 1 = .ok (.istore_n 1, 1) := by decide +kernel
theorem dX3_makeChair_2 : decode cX3_makeChair 2 = .ok (.iload_n 1, 1) := by decide +kernel
theorem dX3_makeChair_3 : decode cX3_makeChair 3 = .ok (.aload_n 0, 1) := by decide +kernel
theorem dX3_makeChair_4 : decode cX3_makeChair 4 = .ok (.getfield 58, 3) := by decide +kernel
theorem dX3_makeChair_7 : decode cX3_makeChair 7 = .ok (.if_icmp .ge 29, 3) := by decide +kernel
theorem dX3_makeChair_10 : decode cX3_makeChair 10 = .ok (.iload_n 1, 1) := by decide +kernel
theorem dX3_makeChair_11 : decode cX3_makeChair 11 = .ok (.bipush 6, 2) := by decide +kernel
theorem dX3_makeChair_13 : decode cX3_makeChair 13 = .ok (.if_icmp .ge 23, 3) := by decide +kernel
theorem dX3_makeChair_16 : decode cX3_makeChair 16 = .ok (.aload_n 0, 1) := by decide +kernel
theorem dX3_makeChair_17 : decode cX3_makeChair 17 = .ok (.getfield 28, 3) := by decide +kernel
theorem dX3_makeChair_20 : decode cX3_makeChair 20 = .ok (.aload_n 0, 1) := by decide +kernel
theorem dX3_makeChair_21 : decode cX3_makeChair 21 = .ok (.getfield 32, 3) := by decide +kernel
theorem dX3_makeChair_24 : decode cX3_makeChair 24 = .ok (.iload_n 1, 1) := by decide +kernel
theorem dX3_makeChair_25 : decode cX3_makeChair 25 = .ok (.iaload, 1) := by decide +kernel
theorem dX3_makeChair_26 : decode cX3_makeChair 26 = .ok (.invokevirtual 76, 3) := by decide +kernel
theorem dX3_makeChair_29 : decode cX3_makeChair 29 = .ok (.pop, 1) := by decide +kernel
theorem dX3_makeChair_30 : decode cX3_makeChair 30 = .ok (.iinc 1 1, 3) := by decide +kernel
theorem dX3_makeChair_33 : decode cX3_makeChair 33 = .ok (.goto (-31), 3) := by decide +kernel
theorem dX3_makeChair_36 : decode cX3_makeChair 36 = .ok (.return_, 1) := by decide +kernel
theorem dX3_addText_0 : decode cX3_addText 0 = .ok (.aload_n 0, 1) := by decide +kernel
theorem dX3_addText_1 : decode cX3_addText 1 = .ok (.getfield 62, 3) := by decide +kernel
theorem dX3_addText_4 : decode cX3_addText 4 = .ok (.bipush 14, 2) := by decide +kernel
theorem dX3_addText_6 : decode cX3_addText 6 = .ok (.invokestatic 65, 3) := by decide +kernel
theorem dX3_addText_9 : decode cX3_addText 9 = .ok (.ifCond .ne 5, 3) := by decide +kernel
theorem dX3_addText_12 : decode cX3_addText 12 = .ok (.iconst 0, 1) := by decide +kernel
theorem dX3_addText_13 : decode cX3_addText 13 = .ok (.ireturn, 1) := by decide +kernel
theorem dX3_addText_14 : decode cX3_addText 14 = .ok (.aload_n 0, 1) := by decide +kernel
theorem dX3_addText_15 : decode cX3_addText 15 = .ok (.getfield 38, 3) := by decide +kernel
theorem dX3_addText_18 : decode cX3_addText 18 = .ok (.aload_n 0, 1) := by decide +kernel
theorem dX3_addText_19 : decode cX3_addText 19 = .ok (.getfield 62, 3) := by decide +kernel
theorem dX3_addText_22 : decode cX3_addText 22 = .ok (.aload_n 1, 1) := by decide +kernel
theorem dX3_addText_23 : decode cX3_addText 23 = .ok (.aastore, 1) := by decide +kernel
theorem dX3_addText_24 : decode cX3_addText 24 = .ok (.aload_n 0, 1) := by decide +kernel
theorem dX3_addText_25 : decode cX3_addText 25 = .ok (.dup, 1) := by decide +kernel
theorem dX3_addText_26 : decode cX3_addText 26 = .ok (.getfield 62, 3) := by decide +kernel
theorem dX3_addText_29 : decode cX3_addText 29 = .ok (.iconst 1, 1) := by decide +kernel
theorem dX3_addText_30 : decode cX3_addText 30 = .ok (.iadd, 1) := by decide +kernel
theorem dX3_addText_31 : decode cX3_addText 31 = .ok (.putfield 62, 3) := by decide +kernel
theorem dX3_addText_34 : decode cX3_addText 34 = .ok (.iconst 1, 1) := by decide +kernel
theorem dX3_addText_35 : decode cX3_addText 35 = .ok (.ireturn, 1) := by decide +kernel
theorem dX3_findText_0 : decode cX3_findText 0 = .ok (.iload_n 1, 1) := by decide +kernel
theorem dX3_findText_1 : decode cX3_findText 1 = .ok (.aload_n 0, 1) := by decide +kernel
theorem dX3_findText_2 : decode cX3_findText 2 = .ok (.getfield 62, 3) := by decide +kernel
theorem dX3_findText_5 : decode cX3_findText 5 = .ok (.invokestatic 65, 3) := by decide +kernel
theorem dX3_findText_8 : decode cX3_findText 8 = .ok (.ifCond .eq 18, 3) := by decide +kernel
theorem dX3_findText_11 : decode cX3_findText 11 = .ok (.iload_n 1, 1) := by decide +kernel
theorem dX3_findText_12 : decode cX3_findText 12 = .ok (.bipush 14, 2) := by decide +kernel
theorem dX3_findText_14 : decode cX3_findText 14 = .ok (.if_icmp .ge 12, 3) := by decide +kernel
theorem dX3_findText_17 : decode cX3_findText 17 = .ok (.aload_n 0, 1) := by decide +kernel
theorem dX3_findText_18 : decode cX3_findText 18 = .ok (.getfield 38, 3) := by decide +kernel
theorem dX3_findText_21 : decode cX3_findText 21 = .ok (.iload_n 1, 1) := by decide +kernel
theorem dX3_findText_22 : decode cX3_findText 22 = .ok (.aaload, 1) := by decide +kernel
theorem dX3_findText_23 : decode cX3_findText 23 = .ok (.goto 4, 3) := by decide +kernel
theorem dX3_findText_26 : decode cX3_findText 26 = .ok (.aconst_null, 1) := by decide +kernel
theorem dX3_findText_27 : decode cX3_findText 27 = .ok (.areturn, 1) := by decide +kernel
theorem dX3_numberOfLaw_0 : decode cX3_numberOfLaw 0 = .ok (.iconst (-1), 1) := by decide +kernel
theorem dX3_numberOfLaw_1 : decode cX3_numberOfLaw 1 = .ok (.istore_n 2, 1) := by decide +kernel
theorem dX3_numberOfLaw_2 : decode cX3_numberOfLaw 2 = .ok (.iconst 0, 1) := by decide +kernel
theorem dX3_numberOfLaw_3 : decode cX3_numberOfLaw 3 = .ok (.istore_n 3, 1) := by decide +kernel
theorem dX3_numberOfLaw_4 : decode cX3_numberOfLaw 4 = .ok (.iload_n 3, 1) := by decide +kernel
theorem dX3_numberOfLaw_5 : decode cX3_numberOfLaw 5 = .ok (.aload_n 0, 1) := by decide +kernel
theorem dX3_numberOfLaw_6 : decode cX3_numberOfLaw 6 = .ok (.getfield 62, 3) := by decide +kernel
theorem dX3_numberOfLaw_9 : decode cX3_numberOfLaw 9 = .ok (.if_icmp .ge 39, 3) := by decide +kernel
theorem dX3_numberOfLaw_12 : decode cX3_numberOfLaw 12 = .ok (.iload_n 3, 1) := by decide +kernel
theorem dX3_numberOfLaw_13 : decode cX3_numberOfLaw 13 = .ok (.bipush 14, 2) := by decide +kernel
theorem dX3_numberOfLaw_15 : decode cX3_numberOfLaw 15 = .ok (.if_icmp .ge 33, 3) := by decide +kernel
theorem dX3_numberOfLaw_18 : decode cX3_numberOfLaw 18 = .ok (.aload_n 0, 1) := by decide +kernel
theorem dX3_numberOfLaw_19 : decode cX3_numberOfLaw 19 = .ok (.getfield 38, 3) := by decide +kernel
theorem dX3_numberOfLaw_22 : decode cX3_numberOfLaw 22 = .ok (.iload_n 3, 1) := by decide +kernel
theorem dX3_numberOfLaw_23 : decode cX3_numberOfLaw 23 = .ok (.aaload, 1) := by decide +kernel
theorem dX3_numberOfLaw_24 : decode cX3_numberOfLaw 24 = .ok (.ifnull 18, 3) := by decide +kernel
theorem dX3_numberOfLaw_27 : decode cX3_numberOfLaw 27 = .ok (.aload_n 0, 1) := by decide +kernel
theorem dX3_numberOfLaw_28 : decode cX3_numberOfLaw 28 = .ok (.getfield 38, 3) := by decide +kernel
theorem dX3_numberOfLaw_31 : decode cX3_numberOfLaw 31 = .ok (.iload_n 3, 1) := by decide +kernel
theorem dX3_numberOfLaw_32 : decode cX3_numberOfLaw 32 = .ok (.aaload, 1) := by decide +kernel
theorem dX3_numberOfLaw_33 : decode cX3_numberOfLaw 33 = .ok (.getfield 80, 3) := by decide +kernel
theorem dX3_numberOfLaw_36 : decode cX3_numberOfLaw 36 = .ok (.iload_n 1, 1) := by decide +kernel
theorem dX3_numberOfLaw_37 : decode cX3_numberOfLaw 37 = .ok (.if_icmp .ne 5, 3) := by decide +kernel
theorem dX3_numberOfLaw_40 : decode cX3_numberOfLaw 40 = .ok (.iload_n 3, 1) := by decide +kernel
theorem dX3_numberOfLaw_41 : decode cX3_numberOfLaw 41 = .ok (.istore_n 2, 1) := by decide +kernel
theorem dX3_numberOfLaw_42 : decode cX3_numberOfLaw 42 = .ok (.iinc 3 1, 3) := by decide +kernel
theorem dX3_numberOfLaw_45 : decode cX3_numberOfLaw 45 = .ok (.goto (-41), 3) := by decide +kernel
theorem dX3_numberOfLaw_48 : decode cX3_numberOfLaw 48 = .ok (.iload_n 2, 1) := by decide +kernel
theorem dX3_numberOfLaw_49 : decode cX3_numberOfLaw 49 = .ok (.ireturn, 1) := by decide +kernel
theorem dX3_daysTaken_0 : decode cX3_daysTaken 0 = .ok (.aload_n 0, 1) := by decide +kernel
theorem dX3_daysTaken_1 : decode cX3_daysTaken 1 = .ok (.aload_n 0, 1) := by decide +kernel
theorem dX3_daysTaken_2 : decode cX3_daysTaken 2 = .ok (.iconst 0, 1) := by decide +kernel
theorem dX3_daysTaken_3 : decode cX3_daysTaken 3 = .ok (.invokevirtual 83, 3) := by decide +kernel
theorem dX3_daysTaken_6 : decode cX3_daysTaken 6 = .ok (.invokevirtual 87, 3) := by decide +kernel
theorem dX3_daysTaken_9 : decode cX3_daysTaken 9 = .ok (.astore_n 3, 1) := by decide +kernel
theorem dX3_daysTaken_10 : decode cX3_daysTaken 10 = .ok (.aload_n 3, 1) := by decide +kernel
theorem dX3_daysTaken_11 : decode cX3_daysTaken 11 = .ok (.ifnonnull 9, 3) := by decide +kernel
theorem dX3_daysTaken_14 : decode cX3_daysTaken 14 = .ok (.iconst 3, 1) := by decide +kernel
theorem dX3_daysTaken_15 : decode cX3_daysTaken 15 = .ok (.iload_n 2, 1) := by decide +kernel
theorem dX3_daysTaken_16 : decode cX3_daysTaken 16 = .ok (.iadd, 1) := by decide +kernel
theorem dX3_daysTaken_17 : decode cX3_daysTaken 17 = .ok (.goto 16, 3) := by decide +kernel
theorem dX3_daysTaken_20 : decode cX3_daysTaken 20 = .ok (.aload_n 3, 1) := by decide +kernel
theorem dX3_daysTaken_21 : decode cX3_daysTaken 21 = .ok (.iload_n 2, 1) := by decide +kernel
theorem dX3_daysTaken_22 : decode cX3_daysTaken 22 = .ok (.aload_n 1, 1) := by decide +kernel
theorem dX3_daysTaken_23 : decode cX3_daysTaken 23 = .ok (.getfield 91, 3) := by decide +kernel
theorem dX3_daysTaken_26 : decode cX3_daysTaken 26 = .ok (.aload_n 1, 1) := by decide +kernel
theorem dX3_daysTaken_27 : decode cX3_daysTaken 27 = .ok (.getfield 96, 3) := by decide +kernel
theorem dX3_daysTaken_30 : decode cX3_daysTaken 30 = .ok (.invokevirtual 99, 3) := by decide +kernel
theorem dX3_daysTaken_33 : decode cX3_daysTaken 33 = .ok (.istore 4, 2) := by decide +kernel
theorem dX3_daysTaken_35 : decode cX3_daysTaken 35 = .ok (.aload_n 1, 1) := by decide +kernel
theorem dX3_daysTaken_36 : decode cX3_daysTaken 36 = .ok (.iconst 1, 1) := by decide +kernel
theorem dX3_daysTaken_37 : decode cX3_daysTaken 37 = .ok (.bipush 99, 2) := by decide +kernel
theorem dX3_daysTaken_39 : decode cX3_daysTaken 39 = .ok (.iload 4, 2) := by decide +kernel
theorem dX3_daysTaken_41 : decode cX3_daysTaken 41 = .ok (.invokestatic 103, 3) := by decide +kernel
theorem dX3_daysTaken_44 : decode cX3_daysTaken 44 = .ok (.invokestatic 109, 3) := by decide +kernel
theorem dX3_daysTaken_47 : decode cX3_daysTaken 47 = .ok (.invokevirtual 112, 3) := by decide +kernel
theorem dX3_daysTaken_50 : decode cX3_daysTaken 50 = .ok (.ireturn, 1) := by decide +kernel
theorem dX3_fameOf_0 : decode cX3_fameOf 0 = .ok (.aload_n 0, 1) := by decide +kernel
theorem dX3_fameOf_1 : decode cX3_fameOf 1 = .ok (.aload_n 0, 1) := by decide +kernel
theorem dX3_fameOf_2 : decode cX3_fameOf 2 = .ok (.iconst 1, 1) := by decide +kernel
theorem dX3_fameOf_3 : decode cX3_fameOf 3 = .ok (.invokevirtual 83, 3) := by decide +kernel
theorem dX3_fameOf_6 : decode cX3_fameOf 6 = .ok (.invokevirtual 87, 3) := by decide +kernel
theorem dX3_fameOf_9 : decode cX3_fameOf 9 = .ok (.astore_n 2, 1) := by decide +kernel
theorem dX3_fameOf_10 : decode cX3_fameOf 10 = .ok (.aload_n 2, 1) := by decide +kernel
theorem dX3_fameOf_11 : decode cX3_fameOf 11 = .ok (.ifnonnull 10, 3) := by decide +kernel
theorem dX3_fameOf_14 : decode cX3_fameOf 14 = .ok (.aload_n 1, 1) := by decide +kernel
theorem dX3_fameOf_15 : decode cX3_fameOf 15 = .ok (.getfield 115, 3) := by decide +kernel
theorem dX3_fameOf_18 : decode cX3_fameOf 18 = .ok (.goto 16, 3) := by decide +kernel
theorem dX3_fameOf_21 : decode cX3_fameOf 21 = .ok (.aload_n 2, 1) := by decide +kernel
theorem dX3_fameOf_22 : decode cX3_fameOf 22 = .ok (.aload_n 1, 1) := by decide +kernel
theorem dX3_fameOf_23 : decode cX3_fameOf 23 = .ok (.getfield 115, 3) := by decide +kernel
theorem dX3_fameOf_26 : decode cX3_fameOf 26 = .ok (.aload_n 1, 1) := by decide +kernel
theorem dX3_fameOf_27 : decode cX3_fameOf 27 = .ok (.getfield 96, 3) := by decide +kernel
theorem dX3_fameOf_30 : decode cX3_fameOf 30 = .ok (.iconst 0, 1) := by decide +kernel
theorem dX3_fameOf_31 : decode cX3_fameOf 31 = .ok (.invokevirtual 99, 3) := by decide +kernel
theorem dX3_fameOf_34 : decode cX3_fameOf 34 = .ok (.ireturn, 1) := by decide +kernel
theorem dX3_fineNow_0 : decode cX3_fineNow 0 = .ok (.aload_n 0, 1) := by decide +kernel
theorem dX3_fineNow_1 : decode cX3_fineNow 1 = .ok (.aload_n 0, 1) := by decide +kernel
theorem dX3_fineNow_2 : decode cX3_fineNow 2 = .ok (.iconst 2, 1) := by decide +kernel
theorem dX3_fineNow_3 : decode cX3_fineNow 3 = .ok (.invokevirtual 83, 3) := by decide +kernel
theorem dX3_fineNow_6 : decode cX3_fineNow 6 = .ok (.invokevirtual 87, 3) := by decide +kernel
theorem dX3_fineNow_9 : decode cX3_fineNow 9 = .ok (.astore_n 1, 1) := by decide +kernel
theorem dX3_fineNow_10 : decode cX3_fineNow 10 = .ok (.aload_n 1, 1) := by decide +kernel
theorem dX3_fineNow_11 : decode cX3_fineNow 11 = .ok (.ifnonnull 13, 3) := by decide +kernel
theorem dX3_fineNow_14 : decode cX3_fineNow 14 = .ok (.aload_n 0, 1) := by decide +kernel
theorem dX3_fineNow_15 : decode cX3_fineNow 15 = .ok (.getfield 28, 3) := by decide +kernel
theorem dX3_fineNow_18 : decode cX3_fineNow 18 = .ok (.getfield 118, 3) := by decide +kernel
theorem dX3_fineNow_21 : decode cX3_fineNow 21 = .ok (.goto 22, 3) := by decide +kernel
theorem dX3_fineNow_24 : decode cX3_fineNow 24 = .ok (.aload_n 1, 1) := by decide +kernel
theorem dX3_fineNow_25 : decode cX3_fineNow 25 = .ok (.aload_n 0, 1) := by decide +kernel
theorem dX3_fineNow_26 : decode cX3_fineNow 26 = .ok (.getfield 28, 3) := by decide +kernel
theorem dX3_fineNow_29 : decode cX3_fineNow 29 = .ok (.getfield 118, 3) := by decide +kernel
theorem dX3_fineNow_32 : decode cX3_fineNow 32 = .ok (.aload_n 0, 1) := by decide +kernel
theorem dX3_fineNow_33 : decode cX3_fineNow 33 = .ok (.getfield 28, 3) := by decide +kernel
theorem dX3_fineNow_36 : decode cX3_fineNow 36 = .ok (.getfield 121, 3) := by decide +kernel
theorem dX3_fineNow_39 : decode cX3_fineNow 39 = .ok (.iconst 0, 1) := by decide +kernel
theorem dX3_fineNow_40 : decode cX3_fineNow 40 = .ok (.invokevirtual 99, 3) := by decide +kernel
theorem dX3_fineNow_43 : decode cX3_fineNow 43 = .ok (.ireturn, 1) := by decide +kernel
theorem dX3_waysToMasters_0 : decode cX3_waysToMasters 0 = .ok (.iconst 0, 1) := by decide +kernel
theorem dX3_waysToMasters_1 : decode cX3_waysToMasters 1 = .ok (.istore_n 2, 1) := by decide +kernel
theorem dX3_waysToMasters_2 : decode cX3_waysToMasters 2 = .ok (.iconst 0, 1) := by decide +kernel
theorem dX3_waysToMasters_3 : decode cX3_waysToMasters 3 = .ok (.istore_n 3, 1) := by decide +kernel
theorem dX3_waysToMasters_4 : decode cX3_waysToMasters 4 = .ok (.iload_n 3, 1) := by decide +kernel
theorem dX3_waysToMasters_5 : decode cX3_waysToMasters 5 = .ok (.aload_n 0, 1) := by decide +kernel
theorem dX3_waysToMasters_6 : decode cX3_waysToMasters 6 = .ok (.getfield 12, 3) := by decide +kernel
theorem dX3_waysToMasters_9 : decode cX3_waysToMasters 9 = .ok (.getfield 124, 3) := by decide +kernel
theorem dX3_waysToMasters_12 : decode cX3_waysToMasters 12 = .ok (.if_icmp .ge 52, 3) := by decide +kernel
theorem dX3_waysToMasters_15 : decode cX3_waysToMasters 15 = .ok (.aload_n 0, 1) := by decide +kernel
theorem dX3_waysToMasters_16 : decode cX3_waysToMasters 16 = .ok (.getfield 12, 3) := by decide +kernel
theorem dX3_waysToMasters_19 : decode cX3_waysToMasters 19 = .ok (.iload_n 3, 1) := by decide +kernel
theorem dX3_waysToMasters_20 : decode cX3_waysToMasters 20 = .ok (.invokevirtual 127, 3) := by decide +kernel
theorem dX3_waysToMasters_23 : decode cX3_waysToMasters 23 = .ok (.astore 4, 2) := by decide +kernel
theorem dX3_waysToMasters_25 : decode cX3_waysToMasters 25 = .ok (.iload_n 2, 1) := by decide +kernel
theorem dX3_waysToMasters_26 : decode cX3_waysToMasters 26 = .ok (.aload 4, 2) := by decide +kernel
theorem dX3_waysToMasters_28 : decode cX3_waysToMasters 28 = .ok (.ifnull 11, 3) := by decide +kernel
theorem dX3_waysToMasters_31 : decode cX3_waysToMasters 31 = .ok (.aload 4, 2) := by decide +kernel
theorem dX3_waysToMasters_33 : decode cX3_waysToMasters 33 = .ok (.getfield 131, 3) := by decide +kernel
theorem dX3_waysToMasters_36 : decode cX3_waysToMasters 36 = .ok (.ifCond .eq 7, 3) := by decide +kernel
theorem dX3_waysToMasters_39 : decode cX3_waysToMasters 39 = .ok (.iconst 0, 1) := by decide +kernel
theorem dX3_waysToMasters_40 : decode cX3_waysToMasters 40 = .ok (.goto 16, 3) := by decide +kernel
theorem dX3_waysToMasters_43 : decode cX3_waysToMasters 43 = .ok (.aload_n 0, 1) := by decide +kernel
theorem dX3_waysToMasters_44 : decode cX3_waysToMasters 44 = .ok (.getfield 21, 3) := by decide +kernel
theorem dX3_waysToMasters_47 : decode cX3_waysToMasters 47 = .ok (.iload_n 1, 1) := by decide +kernel
theorem dX3_waysToMasters_48 : decode cX3_waysToMasters 48 = .ok (.aload 4, 2) := by decide +kernel
theorem dX3_waysToMasters_50 : decode cX3_waysToMasters 50 = .ok (.getfield 135, 3) := by decide +kernel
theorem dX3_waysToMasters_53 : decode cX3_waysToMasters 53 = .ok (.invokevirtual 138, 3) := by decide +kernel
theorem dX3_waysToMasters_56 : decode cX3_waysToMasters 56 = .ok (.iadd, 1) := by decide +kernel
theorem dX3_waysToMasters_57 : decode cX3_waysToMasters 57 = .ok (.istore_n 2, 1) := by decide +kernel
theorem dX3_waysToMasters_58 : decode cX3_waysToMasters 58 = .ok (.iinc 3 1, 3) := by decide +kernel
theorem dX3_waysToMasters_61 : decode cX3_waysToMasters 61 = .ok (.goto (-57), 3) := by decide +kernel
theorem dX3_waysToMasters_64 : decode cX3_waysToMasters 64 = .ok (.iload_n 2, 1) := by decide +kernel
theorem dX3_waysToMasters_65 : decode cX3_waysToMasters 65 = .ok (.ireturn, 1) := by decide +kernel
theorem dX3_apart_0 : decode cX3_apart 0 = .ok (.iconst 0, 1) := by decide +kernel
theorem dX3_apart_1 : decode cX3_apart 1 = .ok (.istore_n 3, 1) := by decide +kernel
theorem dX3_apart_2 : decode cX3_apart 2 = .ok (.iconst 0, 1) := by decide +kernel
theorem dX3_apart_3 : decode cX3_apart 3 = .ok (.istore 4, 2) := by decide +kernel
theorem dX3_apart_5 : decode cX3_apart 5 = .ok (.iload 4, 2) := by decide +kernel
theorem dX3_apart_7 : decode cX3_apart 7 = .ok (.aload_n 2, 1) := by decide +kernel
theorem dX3_apart_8 : decode cX3_apart 8 = .ok (.getfield 141, 3) := by decide +kernel
theorem dX3_apart_11 : decode cX3_apart 11 = .ok (.if_icmp .ge 39, 3) := by decide +kernel
theorem dX3_apart_14 : decode cX3_apart 14 = .ok (.aload_n 2, 1) := by decide +kernel
theorem dX3_apart_15 : decode cX3_apart 15 = .ok (.iload 4, 2) := by decide +kernel
theorem dX3_apart_17 : decode cX3_apart 17 = .ok (.invokevirtual 144, 3) := by decide +kernel
theorem dX3_apart_20 : decode cX3_apart 20 = .ok (.ifCond .eq 24, 3) := by decide +kernel
theorem dX3_apart_23 : decode cX3_apart 23 = .ok (.iload_n 3, 1) := by decide +kernel
theorem dX3_apart_24 : decode cX3_apart 24 = .ok (.aload_n 0, 1) := by decide +kernel
theorem dX3_apart_25 : decode cX3_apart 25 = .ok (.aload_n 1, 1) := by decide +kernel
theorem dX3_apart_26 : decode cX3_apart 26 = .ok (.iload 4, 2) := by decide +kernel
theorem dX3_apart_28 : decode cX3_apart 28 = .ok (.invokevirtual 147, 3) := by decide +kernel
theorem dX3_apart_31 : decode cX3_apart 31 = .ok (.aload_n 2, 1) := by decide +kernel
theorem dX3_apart_32 : decode cX3_apart 32 = .ok (.getfield 151, 3) := by decide +kernel
theorem dX3_apart_35 : decode cX3_apart 35 = .ok (.iload 4, 2) := by decide +kernel
theorem dX3_apart_37 : decode cX3_apart 37 = .ok (.iaload, 1) := by decide +kernel
theorem dX3_apart_38 : decode cX3_apart 38 = .ok (.isub, 1) := by decide +kernel
theorem dX3_apart_39 : decode cX3_apart 39 = .ok (.invokestatic 154, 3) := by decide +kernel
theorem dX3_apart_42 : decode cX3_apart 42 = .ok (.iadd, 1) := by decide +kernel
theorem dX3_apart_43 : decode cX3_apart 43 = .ok (.istore_n 3, 1) := by decide +kernel
theorem dX3_apart_44 : decode cX3_apart 44 = .ok (.iinc 4 1, 3) := by decide +kernel
theorem dX3_apart_47 : decode cX3_apart 47 = .ok (.goto (-42), 3) := by decide +kernel
theorem dX3_apart_50 : decode cX3_apart 50 = .ok (.iload_n 3, 1) := by decide +kernel
theorem dX3_apart_51 : decode cX3_apart 51 = .ok (.ireturn, 1) := by decide +kernel
theorem dX4_init_0 : decode cX4_init 0 = .ok (.aload_n 0, 1) := by decide +kernel
theorem dX4_init_1 : decode cX4_init 1 = .ok (.invokespecial 3, 3) := by decide +kernel
theorem dX4_init_4 : decode cX4_init 4 = .ok (.aload_n 0, 1) := by decide +kernel
theorem dX4_init_5 : decode cX4_init 5 = .ok (.bipush 36, 2) := by decide +kernel
theorem dX4_init_7 : decode cX4_init 7 = .ok (.newarray .int, 2) := by decide +kernel
theorem dX4_init_9 : decode cX4_init 9 = .ok (.putfield 9, 3) := by decide +kernel
theorem dX4_init_12 : decode cX4_init 12 = .ok (.aload_n 0, 1) := by decide +kernel
theorem dX4_init_13 : decode cX4_init 13 = .ok (.bipush 36, 2) := by decide +kernel
theorem dX4_init_15 : decode cX4_init 15 = .ok (.newarray .int, 2) := by decide +kernel
theorem dX4_init_17 : decode cX4_init 17 = .ok (.putfield 15, 3) := by decide +kernel
theorem dX4_init_20 : decode cX4_init 20 = .ok (.aload_n 0, 1) := by decide +kernel
theorem dX4_init_21 : decode cX4_init 21 = .ok (.invokevirtual 18, 3) := by decide +kernel
theorem dX4_init_24 : decode cX4_init 24 = .ok (.return_, 1) := by decide +kernel
theorem dX4_become_0 : decode cX4_become 0 = .ok (.aload_n 1, 1) := by decide +kernel
theorem dX4_become_1 : decode cX4_become 1 = .ok (.getfield 9, 3) := by decide +kernel
theorem dX4_become_4 : decode cX4_become 4 = .ok (.iconst 0, 1) := by decide +kernel
theorem dX4_become_5 : decode cX4_become 5 = .ok (.aload_n 0, 1) := by decide +kernel
theorem dX4_become_6 : decode cX4_become 6 = .ok (.getfield 9, 3) := by decide +kernel
theorem dX4_become_9 : decode cX4_become 9 = .ok (.iconst 0, 1) := by decide +kernel
theorem dX4_become_10 : decode cX4_become 10 = .ok (.bipush 36, 2) := by decide +kernel
theorem dX4_become_12 : decode cX4_become 12 = .ok (.invokestatic 21, 3) := by decide +kernel
theorem dX4_become_15 : decode cX4_become 15 = .ok (.aload_n 1, 1) := by decide +kernel
theorem dX4_become_16 : decode cX4_become 16 = .ok (.getfield 15, 3) := by decide +kernel
theorem dX4_become_19 : decode cX4_become 19 = .ok (.iconst 0, 1) := by decide +kernel
theorem dX4_become_20 : decode cX4_become 20 = .ok (.aload_n 0, 1) := by decide +kernel
theorem dX4_become_21 : decode cX4_become 21 = .ok (.getfield 15, 3) := by decide +kernel
theorem dX4_become_24 : decode cX4_become 24 = .ok (.iconst 0, 1) := by decide +kernel
theorem dX4_become_25 : decode cX4_become 25 = .ok (.bipush 36, 2) := by decide +kernel
theorem dX4_become_27 : decode cX4_become 27 = .ok (.invokestatic 21, 3) := by decide +kernel
theorem dX4_become_30 : decode cX4_become 30 = .ok (.return_, 1) := by decide +kernel
theorem dX4_direct_0 : decode cX4_direct 0 = .ok (.iload_n 1, 1) := by decide +kernel
theorem dX4_direct_1 : decode cX4_direct 1 = .ok (.bipush 6, 2) := by decide +kernel
theorem dX4_direct_3 : decode cX4_direct 3 = .ok (.invokestatic 27, 3) := by decide +kernel
theorem dX4_direct_6 : decode cX4_direct 6 = .ok (.ifCond .eq 26, 3) := by decide +kernel
theorem dX4_direct_9 : decode cX4_direct 9 = .ok (.iload_n 2, 1) := by decide +kernel
theorem dX4_direct_10 : decode cX4_direct 10 = .ok (.bipush 6, 2) := by decide +kernel
theorem dX4_direct_12 : decode cX4_direct 12 = .ok (.invokestatic 27, 3) := by decide +kernel
theorem dX4_direct_15 : decode cX4_direct 15 = .ok (.ifCond .eq 17, 3) := by decide +kernel
theorem dX4_direct_18 : decode cX4_direct 18 = .ok (.aload_n 0, 1) := by decide +kernel
theorem dX4_direct_19 : decode cX4_direct 19 = .ok (.getfield 9, 3) := by decide +kernel
theorem dX4_direct_22 : decode cX4_direct 22 = .ok (.iload_n 1, 1) := by decide +kernel
theorem dX4_direct_23 : decode cX4_direct 23 = .ok (.bipush 6, 2) := by decide +kernel
theorem dX4_direct_25 : decode cX4_direct 25 = .ok (.imul, 1) := by decide +kernel
theorem dX4_direct_26 : decode cX4_direct 26 = .ok (.iload_n 2, 1) := by decide +kernel
theorem dX4_direct_27 : decode cX4_direct 27 = .ok (.iadd, 1) := by decide +kernel
theorem dX4_direct_28 : decode cX4_direct 28 = .ok (.iaload, 1) := by decide +kernel
theorem dX4_direct_29 : decode cX4_direct 29 = .ok (.goto 4, 3) := by decide +kernel
theorem dX4_direct_32 : decode cX4_direct 32 = .ok (.iconst 0, 1) := by decide +kernel
theorem dX4_direct_33 : decode cX4_direct 33 = .ok (.ireturn, 1) := by decide +kernel
theorem dX4_fewest_0 : decode cX4_fewest 0 = .ok (.iload_n 1, 1) := by decide +kernel
theorem dX4_fewest_1 : decode cX4_fewest 1 = .ok (.bipush 6, 2) := by decide +kernel
theorem dX4_fewest_3 : decode cX4_fewest 3 = .ok (.invokestatic 27, 3) := by decide +kernel
theorem dX4_fewest_6 : decode cX4_fewest 6 = .ok (.ifCond .eq 26, 3) := by decide +kernel
theorem dX4_fewest_9 : decode cX4_fewest 9 = .ok (.iload_n 2, 1) := by decide +kernel
theorem dX4_fewest_10 : decode cX4_fewest 10 = .ok (.bipush 6, 2) := by decide +kernel
theorem dX4_fewest_12 : decode cX4_fewest 12 = .ok (.invokestatic 27, 3) := by decide +kernel
theorem dX4_fewest_15 : decode cX4_fewest 15 = .ok (.ifCond .eq 17, 3) := by decide +kernel
theorem dX4_fewest_18 : decode cX4_fewest 18 = .ok (.aload_n 0, 1) := by decide +kernel
theorem dX4_fewest_19 : decode cX4_fewest 19 = .ok (.getfield 15, 3) := by decide +kernel
theorem dX4_fewest_22 : decode cX4_fewest 22 = .ok (.iload_n 1, 1) := by decide +kernel
theorem dX4_fewest_23 : decode cX4_fewest 23 = .ok (.bipush 6, 2) := by decide +kernel
theorem dX4_fewest_25 : decode cX4_fewest 25 = .ok (.imul, 1) := by decide +kernel
theorem dX4_fewest_26 : decode cX4_fewest 26 = .ok (.iload_n 2, 1) := by decide +kernel
theorem dX4_fewest_27 : decode cX4_fewest 27 = .ok (.iadd, 1) := by decide +kernel
theorem dX4_fewest_28 : decode cX4_fewest 28 = .ok (.iaload, 1) := by decide +kernel
theorem dX4_fewest_29 : decode cX4_fewest 29 = .ok (.goto 6, 3) := by decide +kernel
theorem dX4_fewest_32 : decode cX4_fewest 32 = .ok (.sipush 9999, 3) := by decide +kernel
theorem dX4_fewest_35 : decode cX4_fewest 35 = .ok (.ireturn, 1) := by decide +kernel
theorem dX4_build_0 : decode cX4_build 0 = .ok (.iload_n 1, 1) := by decide +kernel
theorem dX4_build_1 : decode cX4_build 1 = .ok (.bipush 6, 2) := by decide +kernel
theorem dX4_build_3 : decode cX4_build 3 = .ok (.invokestatic 27, 3) := by decide +kernel
theorem dX4_build_6 : decode cX4_build 6 = .ok (.ifCond .eq 40, 3) := by decide +kernel
theorem dX4_build_9 : decode cX4_build 9 = .ok (.iload_n 2, 1) := by decide +kernel
theorem dX4_build_10 : decode cX4_build 10 = .ok (.bipush 6, 2) := by decide +kernel
theorem dX4_build_12 : decode cX4_build 12 = .ok (.invokestatic 27, 3) := by decide +kernel
theorem dX4_build_15 : decode cX4_build 15 = .ok (.ifCond .eq 31, 3) := by decide +kernel
theorem dX4_build_18 : decode cX4_build 18 = .ok (.aload_n 0, 1) := by decide +kernel
theorem dX4_build_19 : decode cX4_build 19 = .ok (.getfield 9, 3) := by decide +kernel
theorem dX4_build_22 : decode cX4_build 22 = .ok (.iload_n 1, 1) := by decide +kernel
theorem dX4_build_23 : decode cX4_build 23 = .ok (.bipush 6, 2) := by decide +kernel
theorem dX4_build_25 : decode cX4_build 25 = .ok (.imul, 1) := by decide +kernel
theorem dX4_build_26 : decode cX4_build 26 = .ok (.iload_n 2, 1) := by decide +kernel
theorem dX4_build_27 : decode cX4_build 27 = .ok (.iadd, 1) := by decide +kernel
theorem dX4_build_28 : decode cX4_build 28 = .ok (.iload_n 3, 1) := by decide +kernel
theorem dX4_build_29 : decode cX4_build 29 = .ok (.iastore, 1) := by decide +kernel
theorem dX4_build_30 : decode cX4_build 30 = .ok (.aload_n 0, 1) := by decide +kernel
theorem dX4_build_31 : decode cX4_build 31 = .ok (.getfield 9, 3) := by decide +kernel
theorem dX4_build_34 : decode cX4_build 34 = .ok (.iload_n 2, 1) := by decide +kernel
theorem dX4_build_35 : decode cX4_build 35 = .ok (.bipush 6, 2) := by decide +kernel
theorem dX4_build_37 : decode cX4_build 37 = .ok (.imul, 1) := by decide +kernel
theorem dX4_build_38 : decode cX4_build 38 = .ok (.iload_n 1, 1) := by decide +kernel
theorem dX4_build_39 : decode cX4_build 39 = .ok (.iadd, 1) := by decide +kernel
theorem dX4_build_40 : decode cX4_build 40 = .ok (.iload_n 3, 1) := by decide +kernel
theorem dX4_build_41 : decode cX4_build 41 = .ok (.iastore, 1) := by decide +kernel
theorem dX4_build_42 : decode cX4_build 42 = .ok (.aload_n 0, 1) := by decide +kernel
theorem dX4_build_43 : decode cX4_build 43 = .ok (.invokevirtual 18, 3) := by decide +kernel
theorem dX4_build_46 : decode cX4_build 46 = .ok (.return_, 1) := by decide +kernel
theorem dX4_measure_0 : decode cX4_measure 0 = .ok (.iconst 0, 1) := by decide +kernel
theorem dX4_measure_1 : decode cX4_measure 1 = .ok (.istore_n 1, 1) := by decide +kernel
theorem dX4_measure_2 : decode cX4_measure 2 = .ok (.iload_n 1, 1) := by decide +kernel
theorem dX4_measure_3 : decode cX4_measure 3 = .ok (.bipush 6, 2) := by decide +kernel
theorem dX4_measure_5 : decode cX4_measure 5 = .ok (.if_icmp .ge 66, 3) := by decide +kernel
theorem dX4_measure_8 : decode cX4_measure 8 = .ok (.iconst 0, 1) := by decide +kernel
theorem dX4_measure_9 : decode cX4_measure 9 = .ok (.istore_n 2, 1) := by decide +kernel
theorem dX4_measure_10 : decode cX4_measure 10 = .ok (.iload_n 2, 1) := by decide +kernel
theorem dX4_measure_11 : decode cX4_measure 11 = .ok (.bipush 6, 2) := by decide +kernel
theorem dX4_measure_13 : decode cX4_measure 13 = .ok (.if_icmp .ge 52, 3) := by decide +kernel
theorem dX4_measure_16 : decode cX4_measure 16 = .ok (.aload_n 0, 1) := by decide +kernel
theorem dX4_measure_17 : decode cX4_measure 17 = .ok (.getfield 9, 3) := by decide +kernel
theorem dX4_measure_20 : decode cX4_measure 20 = .ok (.iload_n 1, 1) := by decide +kernel
theorem dX4_measure_21 : decode cX4_measure 21 = .ok (.bipush 6, 2) := by decide +kernel
theorem dX4_measure_23 : decode cX4_measure 23 = .ok (.imul, 1) := by decide +kernel
theorem dX4_measure_24 : decode cX4_measure 24 = .ok (.iload_n 2, 1) := by decide +kernel
theorem dX4_measure_25 : decode cX4_measure 25 = .ok (.iadd, 1) := by decide +kernel
theorem dX4_measure_26 : decode cX4_measure 26 = .ok (.iaload, 1) := by decide +kernel
theorem dX4_measure_27 : decode cX4_measure 27 = .ok (.istore_n 3, 1) := by decide +kernel
theorem dX4_measure_28 : decode cX4_measure 28 = .ok (.aload_n 0, 1) := by decide +kernel
theorem dX4_measure_29 : decode cX4_measure 29 = .ok (.getfield 15, 3) := by decide +kernel
theorem dX4_measure_32 : decode cX4_measure 32 = .ok (.iload_n 1, 1) := by decide +kernel
theorem dX4_measure_33 : decode cX4_measure 33 = .ok (.bipush 6, 2) := by decide +kernel
theorem dX4_measure_35 : decode cX4_measure 35 = .ok (.imul, 1) := by decide +kernel
theorem dX4_measure_36 : decode cX4_measure 36 = .ok (.iload_n 2, 1) := by decide +kernel
theorem dX4_measure_37 : decode cX4_measure 37 = .ok (.iadd, 1) := by decide +kernel
theorem dX4_measure_38 : decode cX4_measure 38 = .ok (.iload_n 1, 1) := by decide +kernel
theorem dX4_measure_39 : decode cX4_measure 39 = .ok (.iload_n 2, 1) := by decide +kernel
theorem dX4_measure_40 : decode cX4_measure 40 = .ok (.if_icmp .ne 7, 3) := by decide +kernel
theorem dX4_measure_43 : decode cX4_measure 43 = .ok (.iconst 0, 1) := by decide +kernel
theorem dX4_measure_44 : decode cX4_measure 44 = .ok (.goto 14, 3) := by decide +kernel
theorem dX4_measure_47 : decode cX4_measure 47 = .ok (.iload_n 3, 1) := by decide +kernel
theorem dX4_measure_48 : decode cX4_measure 48 = .ok (.ifCond .ne 9, 3) := by decide +kernel
theorem dX4_measure_51 : decode cX4_measure 51 = .ok (.sipush 9999, 3) := by decide +kernel
theorem dX4_measure_54 : decode cX4_measure 54 = .ok (.goto 4, 3) := by decide +kernel
theorem dX4_measure_57 : decode cX4_measure 57 = .ok (.iload_n 3, 1) := by decide +kernel
theorem dX4_measure_58 : decode cX4_measure 58 = .ok (.iastore, 1) := by decide +kernel
theorem dX4_measure_59 : decode cX4_measure 59 = .ok (.iinc 2 1, 3) := by decide +kernel
theorem dX4_measure_62 : decode cX4_measure 62 = .ok (.goto (-52), 3) := by decide +kernel
theorem dX4_measure_65 : decode cX4_measure 65 = .ok (.iinc 1 1, 3) := by decide +kernel
theorem dX4_measure_68 : decode cX4_measure 68 = .ok (.goto (-66), 3) := by decide +kernel
theorem dX4_measure_71 : decode cX4_measure 71 = .ok (.iconst 0, 1) := by decide +kernel
theorem dX4_measure_72 : decode cX4_measure 72 = .ok (.istore_n 1, 1) := by decide +kernel
theorem dX4_measure_73 : decode cX4_measure 73 = .ok (.iload_n 1, 1) := by decide +kernel
theorem dX4_measure_74 : decode cX4_measure 74 = .ok (.bipush 6, 2) := by decide +kernel
theorem dX4_measure_76 : decode cX4_measure 76 = .ok (.if_icmp .ge 89, 3) := by decide +kernel
theorem dX4_measure_79 : decode cX4_measure 79 = .ok (.iconst 0, 1) := by decide +kernel
theorem dX4_measure_80 : decode cX4_measure 80 = .ok (.istore_n 2, 1) := by decide +kernel
theorem dX4_measure_81 : decode cX4_measure 81 = .ok (.iload_n 2, 1) := by decide +kernel
theorem dX4_measure_82 : decode cX4_measure 82 = .ok (.bipush 6, 2) := by decide +kernel
theorem dX4_measure_84 : decode cX4_measure 84 = .ok (.if_icmp .ge 75, 3) := by decide +kernel
theorem dX4_measure_87 : decode cX4_measure 87 = .ok (.iconst 0, 1) := by decide +kernel
theorem dX4_measure_88 : decode cX4_measure 88 = .ok (.istore_n 3, 1) := by decide +kernel
theorem dX4_measure_89 : decode cX4_measure 89 = .ok (.iload_n 3, 1) := by decide +kernel
theorem dX4_measure_90 : decode cX4_measure 90 = .ok (.bipush 6, 2) := by decide +kernel
theorem dX4_measure_92 : decode cX4_measure 92 = .ok (.if_icmp .ge 61, 3) := by decide +kernel
theorem dX4_measure_95 : decode cX4_measure 95 = .ok (.aload_n 0, 1) := by decide +kernel
theorem dX4_measure_96 : decode cX4_measure 96 = .ok (.getfield 15, 3) := by decide +kernel
theorem dX4_measure_99 : decode cX4_measure 99 = .ok (.iload_n 2, 1) := by decide +kernel
theorem dX4_measure_100 : decode cX4_measure 100 = .ok (.bipush 6, 2) := by decide +kernel
theorem dX4_measure_102 : decode cX4_measure 102 = .ok (.imul, 1) := by decide +kernel
theorem dX4_measure_103 : decode cX4_measure 103 = .ok (.iload_n 1, 1) := by decide +kernel
theorem dX4_measure_104 : decode cX4_measure 104 = .ok (.iadd, 1) := by decide +kernel
theorem dX4_measure_105 : decode cX4_measure 105 = .ok (.iaload, 1) := by decide +kernel
theorem dX4_measure_106 : decode cX4_measure 106 = .ok (.aload_n 0, 1) := by decide +kernel
theorem dX4_measure_107 : decode cX4_measure 107 = .ok (.getfield 15, 3) := by decide +kernel
theorem dX4_measure_110 : decode cX4_measure 110 = .ok (.iload_n 1, 1) := by decide +kernel
theorem dX4_measure_111 : decode cX4_measure 111 = .ok (.bipush 6, 2) := by decide +kernel
theorem dX4_measure_113 : decode cX4_measure 113 = .ok (.imul, 1) := by decide +kernel
theorem dX4_measure_114 : decode cX4_measure 114 = .ok (.iload_n 3, 1) := by decide +kernel
theorem dX4_measure_115 : decode cX4_measure 115 = .ok (.iadd, 1) := by decide +kernel
theorem dX4_measure_116 : decode cX4_measure 116 = .ok (.iaload, 1) := by decide +kernel
theorem dX4_measure_117 : decode cX4_measure 117 = .ok (.iadd, 1) := by decide +kernel
theorem dX4_measure_118 : decode cX4_measure 118 = .ok (.istore 4, 2) := by decide +kernel
theorem dX4_measure_120 : decode cX4_measure 120 = .ok (.aload_n 0, 1) := by decide +kernel
theorem dX4_measure_121 : decode cX4_measure 121 = .ok (.getfield 15, 3) := by decide +kernel
theorem dX4_measure_124 : decode cX4_measure 124 = .ok (.iload_n 2, 1) := by decide +kernel
theorem dX4_measure_125 : decode cX4_measure 125 = .ok (.bipush 6, 2) := by decide +kernel
theorem dX4_measure_127 : decode cX4_measure 127 = .ok (.imul, 1) := by decide +kernel
theorem dX4_measure_128 : decode cX4_measure 128 = .ok (.iload_n 3, 1) := by decide +kernel
theorem dX4_measure_129 : decode cX4_measure 129 = .ok (.iadd, 1) := by decide +kernel
theorem dX4_measure_130 : decode cX4_measure 130 = .ok (.aload_n 0, 1) := by decide +kernel
theorem dX4_measure_131 : decode cX4_measure 131 = .ok (.getfield 15, 3) := by decide +kernel
theorem dX4_measure_134 : decode cX4_measure 134 = .ok (.iload_n 2, 1) := by decide +kernel
theorem dX4_measure_135 : decode cX4_measure 135 = .ok (.bipush 6, 2) := by decide +kernel
theorem dX4_measure_137 : decode cX4_measure 137 = .ok (.imul, 1) := by decide +kernel
theorem dX4_measure_138 : decode cX4_measure 138 = .ok (.iload_n 3, 1) := by decide +kernel
theorem dX4_measure_139 : decode cX4_measure 139 = .ok (.iadd, 1) := by decide +kernel
theorem dX4_measure_140 : decode cX4_measure 140 = .ok (.iaload, 1) := by decide +kernel
theorem dX4_measure_141 : decode cX4_measure 141 = .ok (.iload 4, 2) := by decide +kernel
theorem dX4_measure_143 : decode cX4_measure 143 = .ok (.invokestatic 31, 3) := by decide +kernel
theorem dX4_measure_146 : decode cX4_measure 146 = .ok (.iastore, 1) := by decide +kernel
theorem dX4_measure_147 : decode cX4_measure 147 = .ok (.iinc 3 1, 3) := by decide +kernel
theorem dX4_measure_150 : decode cX4_measure 150 = .ok (.goto (-61), 3) := by decide +kernel
theorem dX4_measure_153 : decode cX4_measure 153 = .ok (.iinc 2 1, 3) := by decide +kernel
theorem dX4_measure_156 : decode cX4_measure 156 = .ok (.goto (-75), 3) := by decide +kernel
theorem dX4_measure_159 : decode cX4_measure 159 = .ok (.iinc 1 1, 3) := by decide +kernel
theorem dX4_measure_162 : decode cX4_measure 162 = .ok (.goto (-89), 3) := by decide +kernel
theorem dX4_measure_165 : decode cX4_measure 165 = .ok (.return_, 1) := by decide +kernel
theorem dX5_init_0 : decode cX5_init 0 = .ok (.aload_n 0, 1) := by decide +kernel
theorem dX5_init_1 : decode cX5_init 1 = .ok (.invokespecial 3, 3) := by decide +kernel
theorem dX5_init_4 : decode cX5_init 4 = .ok (.aload_n 0, 1) := by decide +kernel
theorem dX5_init_5 : decode cX5_init 5 = .ok (.iconst 5, 1) := by decide +kernel
theorem dX5_init_6 : decode cX5_init 6 = .ok (.newarray .int, 2) := by decide +kernel
theorem dX5_init_8 : decode cX5_init 8 = .ok (.putfield 11, 3) := by decide +kernel
theorem dX5_init_11 : decode cX5_init 11 = .ok (.aload_n 0, 1) := by decide +kernel
theorem dX5_init_12 : decode cX5_init 12 = .ok (.iconst 5, 1) := by decide +kernel
theorem dX5_init_13 : decode cX5_init 13 = .ok (.newarray .int, 2) := by decide +kernel
theorem dX5_init_15 : decode cX5_init 15 = .ok (.putfield 15, 3) := by decide +kernel
theorem dX5_init_18 : decode cX5_init 18 = .ok (.aload_n 0, 1) := by decide +kernel
theorem dX5_init_19 : decode cX5_init 19 = .ok (.iconst 5, 1) := by decide +kernel
theorem dX5_init_20 : decode cX5_init 20 = .ok (.newarray .int, 2) := by decide +kernel
theorem dX5_init_22 : decode cX5_init 22 = .ok (.putfield 18, 3) := by decide +kernel
theorem dX5_init_25 : decode cX5_init 25 = .ok (.aload_n 0, 1) := by decide +kernel
theorem dX5_init_26 : decode cX5_init 26 = .ok (.iconst 5, 1) := by decide +kernel
theorem dX5_init_27 : decode cX5_init 27 = .ok (.newarray .int, 2) := by decide +kernel
theorem dX5_init_29 : decode cX5_init 29 = .ok (.putfield 21, 3) := by decide +kernel
theorem dX5_init_32 : decode cX5_init 32 = .ok (.aload_n 0, 1) := by decide +kernel
theorem dX5_init_33 : decode cX5_init 33 = .ok (.iconst 5, 1) := by decide +kernel
theorem dX5_init_34 : decode cX5_init 34 = .ok (.newarray .int, 2) := by decide +kernel
theorem dX5_init_36 : decode cX5_init 36 = .ok (.putfield 24, 3) := by decide +kernel
theorem dX5_init_39 : decode cX5_init 39 = .ok (.aload_n 0, 1) := by decide +kernel
theorem dX5_init_40 : decode cX5_init 40 = .ok (.bipush 10, 2) := by decide +kernel
theorem dX5_init_42 : decode cX5_init 42 = .ok (.newarray .int, 2) := by decide +kernel
theorem dX5_init_44 : decode cX5_init 44 = .ok (.putfield 27, 3) := by decide +kernel
theorem dX5_init_47 : decode cX5_init 47 = .ok (.aload_n 0, 1) := by decide +kernel
theorem dX5_init_48 : decode cX5_init 48 = .ok (.bipush 99, 2) := by decide +kernel
theorem dX5_init_50 : decode cX5_init 50 = .ok (.newarray .int, 2) := by decide +kernel
theorem dX5_init_52 : decode cX5_init 52 = .ok (.putfield 30, 3) := by decide +kernel
theorem dX5_init_55 : decode cX5_init 55 = .ok (.return_, 1) := by decide +kernel
theorem dX5_finds_0 : decode cX5_finds 0 = .ok (.aload_n 0, 1) := by decide +kernel
theorem dX5_finds_1 : decode cX5_finds 1 = .ok (.ldc 33, 2) := by decide +kernel
theorem dX5_finds_3 : decode cX5_finds 3 = .ok (.putfield 34, 3) := by decide +kernel
theorem dX5_finds_6 : decode cX5_finds 6 = .ok (.aload_n 0, 1) := by decide +kernel
theorem dX5_finds_7 : decode cX5_finds 7 = .ok (.ldc 33, 2) := by decide +kernel
theorem dX5_finds_9 : decode cX5_finds 9 = .ok (.putfield 38, 3) := by decide +kernel
theorem dX5_finds_12 : decode cX5_finds 12 = .ok (.aload_n 0, 1) := by decide +kernel
theorem dX5_finds_13 : decode cX5_finds 13 = .ok (.ldc 33, 2) := by decide +kernel
theorem dX5_finds_15 : decode cX5_finds 15 = .ok (.putfield 41, 3) := by decide +kernel
theorem dX5_finds_18 : decode cX5_finds 18 = .ok (.aload_n 0, 1) := by decide +kernel
theorem dX5_finds_19 : decode cX5_finds 19 = .ok (.aload_n 1, 1) := by decide +kernel
theorem dX5_finds_20 : decode cX5_finds 20 = .ok (.invokevirtual 44, 3) := by decide +kernel
theorem dX5_finds_23 : decode cX5_finds 23 = .ok (.putfield 50, 3) := by decide +kernel
theorem dX5_finds_26 : decode cX5_finds 26 = .ok (.aload_n 0, 1) := by decide +kernel
theorem dX5_finds_27 : decode cX5_finds 27 = .ok (.aload_n 1, 1) := by decide +kernel
theorem dX5_finds_28 : decode cX5_finds 28 = .ok (.getfield 53, 3) := by decide +kernel
theorem dX5_finds_31 : decode cX5_finds 31 = .ok (.invokevirtual 57, 3) := by decide +kernel
theorem dX5_finds_34 : decode cX5_finds 34 = .ok (.putfield 62, 3) := by decide +kernel
theorem dX5_finds_37 : decode cX5_finds 37 = .ok (.iconst 0, 1) := by decide +kernel
theorem dX5_finds_38 : decode cX5_finds 38 = .ok (.istore_n 2, 1) := by decide +kernel
theorem dX5_finds_39 : decode cX5_finds 39 = .ok (.iload_n 2, 1) := by decide +kernel
theorem dX5_finds_40 : decode cX5_finds 40 = .ok (.aload_n 0, 1) := by decide +kernel
theorem dX5_finds_41 : decode cX5_finds 41 = .ok (.getfield 30, 3) := by decide +kernel
theorem dX5_finds_44 : decode cX5_finds 44 = .ok (.arraylength, 1) := by decide +kernel
theorem dX5_finds_45 : decode cX5_finds 45 = .ok (.if_icmp .ge 16, 3) := by decide +kernel
theorem dX5_finds_48 : decode cX5_finds 48 = .ok (.aload_n 0, 1) := by decide +kernel
theorem dX5_finds_49 : decode cX5_finds 49 = .ok (.getfield 30, 3) := by decide +kernel
theorem dX5_finds_52 : decode cX5_finds 52 = .ok (.iload_n 2, 1) := by decide +kernel
theorem dX5_finds_53 : decode cX5_finds 53 = .ok (.iconst 0, 1) := by decide +kernel
theorem dX5_finds_54 : decode cX5_finds 54 = .ok (.iastore, 1) := by decide +kernel
theorem dX5_finds_55 : decode cX5_finds 55 = .ok (.iinc 2 1, 3) := by decide +kernel
theorem dX5_finds_58 : decode cX5_finds 58 = .ok (.goto (-19), 3) := by decide +kernel
theorem dX5_finds_61 : decode cX5_finds 61 = .ok (.iconst 0, 1) := by decide +kernel
theorem dX5_finds_62 : decode cX5_finds 62 = .ok (.istore_n 2, 1) := by decide +kernel
theorem dX5_finds_63 : decode cX5_finds 63 = .ok (.iload_n 2, 1) := by decide +kernel
theorem dX5_finds_64 : decode cX5_finds 64 = .ok (.bipush 10, 2) := by decide +kernel
theorem dX5_finds_66 : decode cX5_finds 66 = .ok (.if_icmp .ge 25, 3) := by decide +kernel
theorem dX5_finds_69 : decode cX5_finds 69 = .ok (.aload_n 0, 1) := by decide +kernel
theorem dX5_finds_70 : decode cX5_finds 70 = .ok (.getfield 27, 3) := by decide +kernel
theorem dX5_finds_73 : decode cX5_finds 73 = .ok (.iload_n 2, 1) := by decide +kernel
theorem dX5_finds_74 : decode cX5_finds 74 = .ok (.aload_n 1, 1) := by decide +kernel
theorem dX5_finds_75 : decode cX5_finds 75 = .ok (.getfield 64, 3) := by decide +kernel
theorem dX5_finds_78 : decode cX5_finds 78 = .ok (.getfield 68, 3) := by decide +kernel
theorem dX5_finds_81 : decode cX5_finds 81 = .ok (.iload_n 2, 1) := by decide +kernel
theorem dX5_finds_82 : decode cX5_finds 82 = .ok (.iaload, 1) := by decide +kernel
theorem dX5_finds_83 : decode cX5_finds 83 = .ok (.ineg, 1) := by decide +kernel
theorem dX5_finds_84 : decode cX5_finds 84 = .ok (.iastore, 1) := by decide +kernel
theorem dX5_finds_85 : decode cX5_finds 85 = .ok (.iinc 2 1, 3) := by decide +kernel
theorem dX5_finds_88 : decode cX5_finds 88 = .ok (.goto (-25), 3) := by decide +kernel
theorem dX5_finds_91 : decode cX5_finds 91 = .ok (.aload_n 0, 1) := by decide +kernel
theorem dX5_finds_92 : decode cX5_finds 92 = .ok (.getfield 11, 3) := by decide +kernel
theorem dX5_finds_95 : decode cX5_finds 95 = .ok (.iconst 0, 1) := by decide +kernel
theorem dX5_finds_96 : decode cX5_finds 96 = .ok (.aload_n 1, 1) := by decide +kernel
theorem dX5_finds_97 : decode cX5_finds 97 = .ok (.getfield 64, 3) := by decide +kernel
theorem dX5_finds_100 : decode cX5_finds 100 = .ok (.getfield 73, 3) := by decide +kernel
theorem dX5_finds_103 : decode cX5_finds 103 = .ok (.iastore, 1) := by decide +kernel
theorem dX5_finds_104 : decode cX5_finds 104 = .ok (.aload_n 0, 1) := by decide +kernel
theorem dX5_finds_105 : decode cX5_finds 105 = .ok (.getfield 15, 3) := by decide +kernel
theorem dX5_finds_108 : decode cX5_finds 108 = .ok (.iconst 0, 1) := by decide +kernel
theorem dX5_finds_109 : decode cX5_finds 109 = .ok (.aload_n 1, 1) := by decide +kernel
theorem dX5_finds_110 : decode cX5_finds 110 = .ok (.getfield 64, 3) := by decide +kernel
theorem dX5_finds_113 : decode cX5_finds 113 = .ok (.getfield 76, 3) := by decide +kernel
theorem dX5_finds_116 : decode cX5_finds 116 = .ok (.iastore, 1) := by decide +kernel
theorem dX5_finds_117 : decode cX5_finds 117 = .ok (.aload_n 0, 1) := by decide +kernel
theorem dX5_finds_118 : decode cX5_finds 118 = .ok (.getfield 18, 3) := by decide +kernel
theorem dX5_finds_121 : decode cX5_finds 121 = .ok (.iconst 0, 1) := by decide +kernel
theorem dX5_finds_122 : decode cX5_finds 122 = .ok (.iconst 0, 1) := by decide +kernel
theorem dX5_finds_123 : decode cX5_finds 123 = .ok (.iastore, 1) := by decide +kernel
theorem dX5_finds_124 : decode cX5_finds 124 = .ok (.aload_n 0, 1) := by decide +kernel
theorem dX5_finds_125 : decode cX5_finds 125 = .ok (.getfield 21, 3) := by decide +kernel
theorem dX5_finds_128 : decode cX5_finds 128 = .ok (.iconst 0, 1) := by decide +kernel
theorem dX5_finds_129 : decode cX5_finds 129 = .ok (.iconst 0, 1) := by decide +kernel
theorem dX5_finds_130 : decode cX5_finds 130 = .ok (.iastore, 1) := by decide +kernel
theorem dX5_finds_131 : decode cX5_finds 131 = .ok (.aload_n 0, 1) := by decide +kernel
theorem dX5_finds_132 : decode cX5_finds 132 = .ok (.getfield 24, 3) := by decide +kernel
theorem dX5_finds_135 : decode cX5_finds 135 = .ok (.iconst 0, 1) := by decide +kernel
theorem dX5_finds_136 : decode cX5_finds 136 = .ok (.ldc 78, 2) := by decide +kernel
theorem dX5_finds_138 : decode cX5_finds 138 = .ok (.iastore, 1) := by decide +kernel
theorem dX5_finds_139 : decode cX5_finds 139 = .ok (.aload_n 0, 1) := by decide +kernel
theorem dX5_finds_140 : decode cX5_finds 140 = .ok (.aload_n 1, 1) := by decide +kernel
theorem dX5_finds_141 : decode cX5_finds 141 = .ok (.iconst 0, 1) := by decide +kernel
theorem dX5_finds_142 : decode cX5_finds 142 = .ok (.invokevirtual 79, 3) := by decide +kernel
theorem dX5_finds_145 : decode cX5_finds 145 = .ok (.aload_n 0, 1) := by decide +kernel
theorem dX5_finds_146 : decode cX5_finds 146 = .ok (.getfield 34, 3) := by decide +kernel
theorem dX5_finds_149 : decode cX5_finds 149 = .ok (.ldc 33, 2) := by decide +kernel
theorem dX5_finds_151 : decode cX5_finds 151 = .ok (.if_icmp .eq 7, 3) := by decide +kernel
theorem dX5_finds_154 : decode cX5_finds 154 = .ok (.iconst 1, 1) := by decide +kernel
theorem dX5_finds_155 : decode cX5_finds 155 = .ok (.goto 4, 3) := by decide +kernel
theorem dX5_finds_158 : decode cX5_finds 158 = .ok (.iconst 0, 1) := by decide +kernel
theorem dX5_finds_159 : decode cX5_finds 159 = .ok (.ireturn, 1) := by decide +kernel
theorem dX5_goOn_0 : decode cX5_goOn 0 = .ok (.iload_n 2, 1) := by decide +kernel
theorem dX5_goOn_1 : decode cX5_goOn 1 = .ok (.iconst 5, 1) := by decide +kernel
theorem dX5_goOn_2 : decode cX5_goOn 2 = .ok (.invokestatic 83, 3) := by decide +kernel
theorem dX5_goOn_5 : decode cX5_goOn 5 = .ok (.ifCond .ne 4, 3) := by decide +kernel
theorem dX5_goOn_8 : decode cX5_goOn 8 = .ok (.return_, 1) := by decide +kernel
theorem dX5_goOn_9 : decode cX5_goOn 9 = .ok (.aload_n 0, 1) := by decide +kernel
theorem dX5_goOn_10 : decode cX5_goOn 10 = .ok (.getfield 50, 3) := by decide +kernel
theorem dX5_goOn_13 : decode cX5_goOn 13 = .ok (.aload_n 0, 1) := by decide +kernel
theorem dX5_goOn_14 : decode cX5_goOn 14 = .ok (.getfield 15, 3) := by decide +kernel
theorem dX5_goOn_17 : decode cX5_goOn 17 = .ok (.iload_n 2, 1) := by decide +kernel
theorem dX5_goOn_18 : decode cX5_goOn 18 = .ok (.iaload, 1) := by decide +kernel
theorem dX5_goOn_19 : decode cX5_goOn 19 = .ok (.iconst (-1), 1) := by decide +kernel
theorem dX5_goOn_20 : decode cX5_goOn 20 = .ok (.ixor, 1) := by decide +kernel
theorem dX5_goOn_21 : decode cX5_goOn 21 = .ok (.iand, 1) := by decide +kernel
theorem dX5_goOn_22 : decode cX5_goOn 22 = .ok (.istore_n 3, 1) := by decide +kernel
theorem dX5_goOn_23 : decode cX5_goOn 23 = .ok (.iload_n 3, 1) := by decide +kernel
theorem dX5_goOn_24 : decode cX5_goOn 24 = .ok (.ifCond .ne 9, 3) := by decide +kernel
theorem dX5_goOn_27 : decode cX5_goOn 27 = .ok (.aload_n 0, 1) := by decide +kernel
theorem dX5_goOn_28 : decode cX5_goOn 28 = .ok (.iload_n 2, 1) := by decide +kernel
theorem dX5_goOn_29 : decode cX5_goOn 29 = .ok (.invokevirtual 87, 3) := by decide +kernel
theorem dX5_goOn_32 : decode cX5_goOn 32 = .ok (.return_, 1) := by decide +kernel
theorem dX5_goOn_33 : decode cX5_goOn 33 = .ok (.iconst 4, 1) := by decide +kernel
theorem dX5_goOn_34 : decode cX5_goOn 34 = .ok (.iload_n 2, 1) := by decide +kernel
theorem dX5_goOn_35 : decode cX5_goOn 35 = .ok (.isub, 1) := by decide +kernel
theorem dX5_goOn_36 : decode cX5_goOn 36 = .ok (.iload_n 3, 1) := by decide +kernel
theorem dX5_goOn_37 : decode cX5_goOn 37 = .ok (.invokestatic 91, 3) := by decide +kernel
theorem dX5_goOn_40 : decode cX5_goOn 40 = .ok (.isub, 1) := by decide +kernel
theorem dX5_goOn_41 : decode cX5_goOn 41 = .ok (.istore 4, 2) := by decide +kernel
theorem dX5_goOn_43 : decode cX5_goOn 43 = .ok (.iload 4, 2) := by decide +kernel
theorem dX5_goOn_45 : decode cX5_goOn 45 = .ok (.ifCond .lt 14, 3) := by decide +kernel
theorem dX5_goOn_48 : decode cX5_goOn 48 = .ok (.iload_n 3, 1) := by decide +kernel
theorem dX5_goOn_49 : decode cX5_goOn 49 = .ok (.aload_n 0, 1) := by decide +kernel
theorem dX5_goOn_50 : decode cX5_goOn 50 = .ok (.getfield 62, 3) := by decide +kernel
theorem dX5_goOn_53 : decode cX5_goOn 53 = .ok (.iconst (-1), 1) := by decide +kernel
theorem dX5_goOn_54 : decode cX5_goOn 54 = .ok (.ixor, 1) := by decide +kernel
theorem dX5_goOn_55 : decode cX5_goOn 55 = .ok (.iand, 1) := by decide +kernel
theorem dX5_goOn_56 : decode cX5_goOn 56 = .ok (.ifCond .eq 4, 3) := by decide +kernel
theorem dX5_goOn_59 : decode cX5_goOn 59 = .ok (.return_, 1) := by decide +kernel
theorem dX5_goOn_60 : decode cX5_goOn 60 = .ok (.iconst 0, 1) := by decide +kernel
theorem dX5_goOn_61 : decode cX5_goOn 61 = .ok (.istore 5, 2) := by decide +kernel
theorem dX5_goOn_63 : decode cX5_goOn 63 = .ok (.iload 5, 2) := by decide +kernel
theorem dX5_goOn_65 : decode cX5_goOn 65 = .ok (.aload_n 1, 1) := by decide +kernel
theorem dX5_goOn_66 : decode cX5_goOn 66 = .ok (.getfield 53, 3) := by decide +kernel
theorem dX5_goOn_69 : decode cX5_goOn 69 = .ok (.getfield 97, 3) := by decide +kernel
theorem dX5_goOn_72 : decode cX5_goOn 72 = .ok (.if_icmp .ge 52, 3) := by decide +kernel
theorem dX5_goOn_75 : decode cX5_goOn 75 = .ok (.aload_n 1, 1) := by decide +kernel
theorem dX5_goOn_76 : decode cX5_goOn 76 = .ok (.getfield 53, 3) := by decide +kernel
theorem dX5_goOn_79 : decode cX5_goOn 79 = .ok (.iload 5, 2) := by decide +kernel
theorem dX5_goOn_81 : decode cX5_goOn 81 = .ok (.invokevirtual 100, 3) := by decide +kernel
theorem dX5_goOn_84 : decode cX5_goOn 84 = .ok (.astore 6, 2) := by decide +kernel
theorem dX5_goOn_86 : decode cX5_goOn 86 = .ok (.aload 6, 2) := by decide +kernel
theorem dX5_goOn_88 : decode cX5_goOn 88 = .ok (.ifnull 30, 3) := by decide +kernel
theorem dX5_goOn_91 : decode cX5_goOn 91 = .ok (.iload 4, 2) := by decide +kernel
theorem dX5_goOn_93 : decode cX5_goOn 93 = .ok (.ifCond .gt 15, 3) := by decide +kernel
theorem dX5_goOn_96 : decode cX5_goOn 96 = .ok (.iload_n 3, 1) := by decide +kernel
theorem dX5_goOn_97 : decode cX5_goOn 97 = .ok (.iconst 1, 1) := by decide +kernel
theorem dX5_goOn_98 : decode cX5_goOn 98 = .ok (.aload 6, 2) := by decide +kernel
theorem dX5_goOn_100 : decode cX5_goOn 100 = .ok (.getfield 104, 3) := by decide +kernel
theorem dX5_goOn_103 : decode cX5_goOn 103 = .ok (.ishl, 1) := by decide +kernel
theorem dX5_goOn_104 : decode cX5_goOn 104 = .ok (.iand, 1) := by decide +kernel
theorem dX5_goOn_105 : decode cX5_goOn 105 = .ok (.ifCond .eq 13, 3) := by decide +kernel
theorem dX5_goOn_108 : decode cX5_goOn 108 = .ok (.aload_n 0, 1) := by decide +kernel
theorem dX5_goOn_109 : decode cX5_goOn 109 = .ok (.aload_n 1, 1) := by decide +kernel
theorem dX5_goOn_110 : decode cX5_goOn 110 = .ok (.iload_n 2, 1) := by decide +kernel
theorem dX5_goOn_111 : decode cX5_goOn 111 = .ok (.iload 5, 2) := by decide +kernel
theorem dX5_goOn_113 : decode cX5_goOn 113 = .ok (.aload 6, 2) := by decide +kernel
theorem dX5_goOn_115 : decode cX5_goOn 115 = .ok (.invokevirtual 109, 3) := by decide +kernel
theorem dX5_goOn_118 : decode cX5_goOn 118 = .ok (.iinc 5 1, 3) := by decide +kernel
theorem dX5_goOn_121 : decode cX5_goOn 121 = .ok (.goto (-58), 3) := by decide +kernel
theorem dX5_goOn_124 : decode cX5_goOn 124 = .ok (.return_, 1) := by decide +kernel
theorem dX5_tryMaster_0 : decode cX5_tryMaster 0 = .ok (.iload_n 2, 1) := by decide +kernel
theorem dX5_tryMaster_1 : decode cX5_tryMaster 1 = .ok (.iconst 1, 1) := by decide +kernel
theorem dX5_tryMaster_2 : decode cX5_tryMaster 2 = .ok (.iadd, 1) := by decide +kernel
theorem dX5_tryMaster_3 : decode cX5_tryMaster 3 = .ok (.istore 5, 2) := by decide +kernel
theorem dX5_tryMaster_5 : decode cX5_tryMaster 5 = .ok (.aload 4, 2) := by decide +kernel
theorem dX5_tryMaster_7 : decode cX5_tryMaster 7 = .ok (.getfield 104, 3) := by decide +kernel
theorem dX5_tryMaster_10 : decode cX5_tryMaster 10 = .ok (.istore 6, 2) := by decide +kernel
theorem dX5_tryMaster_12 : decode cX5_tryMaster 12 = .ok (.iload_n 2, 1) := by decide +kernel
theorem dX5_tryMaster_13 : decode cX5_tryMaster 13 = .ok (.iconst 5, 1) := by decide +kernel
theorem dX5_tryMaster_14 : decode cX5_tryMaster 14 = .ok (.invokestatic 83, 3) := by decide +kernel
theorem dX5_tryMaster_17 : decode cX5_tryMaster 17 = .ok (.ifCond .eq 22, 3) := by decide +kernel
theorem dX5_tryMaster_20 : decode cX5_tryMaster 20 = .ok (.iload 5, 2) := by decide +kernel
theorem dX5_tryMaster_22 : decode cX5_tryMaster 22 = .ok (.iconst 5, 1) := by decide +kernel
theorem dX5_tryMaster_23 : decode cX5_tryMaster 23 = .ok (.invokestatic 83, 3) := by decide +kernel
theorem dX5_tryMaster_26 : decode cX5_tryMaster 26 = .ok (.ifCond .eq 13, 3) := by decide +kernel
theorem dX5_tryMaster_29 : decode cX5_tryMaster 29 = .ok (.iload 6, 2) := by decide +kernel
theorem dX5_tryMaster_31 : decode cX5_tryMaster 31 = .ok (.bipush 10, 2) := by decide +kernel
theorem dX5_tryMaster_33 : decode cX5_tryMaster 33 = .ok (.invokestatic 83, 3) := by decide +kernel
theorem dX5_tryMaster_36 : decode cX5_tryMaster 36 = .ok (.ifCond .ne 4, 3) := by decide +kernel
theorem dX5_tryMaster_39 : decode cX5_tryMaster 39 = .ok (.return_, 1) := by decide +kernel
theorem dX5_tryMaster_40 : decode cX5_tryMaster 40 = .ok (.aload_n 1, 1) := by decide +kernel
theorem dX5_tryMaster_41 : decode cX5_tryMaster 41 = .ok (.getfield 113, 3) := by decide +kernel
theorem dX5_tryMaster_44 : decode cX5_tryMaster 44 = .ok (.aload_n 0, 1) := by decide +kernel
theorem dX5_tryMaster_45 : decode cX5_tryMaster 45 = .ok (.getfield 11, 3) := by decide +kernel
theorem dX5_tryMaster_48 : decode cX5_tryMaster 48 = .ok (.iload_n 2, 1) := by decide +kernel
theorem dX5_tryMaster_49 : decode cX5_tryMaster 49 = .ok (.iaload, 1) := by decide +kernel
theorem dX5_tryMaster_50 : decode cX5_tryMaster 50 = .ok (.aload 4, 2) := by decide +kernel
theorem dX5_tryMaster_52 : decode cX5_tryMaster 52 = .ok (.getfield 117, 3) := by decide +kernel
theorem dX5_tryMaster_55 : decode cX5_tryMaster 55 = .ok (.invokevirtual 119, 3) := by decide +kernel
theorem dX5_tryMaster_58 : decode cX5_tryMaster 58 = .ok (.istore 7, 2) := by decide +kernel
theorem dX5_tryMaster_60 : decode cX5_tryMaster 60 = .ok (.aload_n 0, 1) := by decide +kernel
theorem dX5_tryMaster_61 : decode cX5_tryMaster 61 = .ok (.getfield 18, 3) := by decide +kernel
theorem dX5_tryMaster_64 : decode cX5_tryMaster 64 = .ok (.iload_n 2, 1) := by decide +kernel
theorem dX5_tryMaster_65 : decode cX5_tryMaster 65 = .ok (.iaload, 1) := by decide +kernel
theorem dX5_tryMaster_66 : decode cX5_tryMaster 66 = .ok (.iload 7, 2) := by decide +kernel
theorem dX5_tryMaster_68 : decode cX5_tryMaster 68 = .ok (.iadd, 1) := by decide +kernel
theorem dX5_tryMaster_69 : decode cX5_tryMaster 69 = .ok (.istore 8, 2) := by decide +kernel
theorem dX5_tryMaster_71 : decode cX5_tryMaster 71 = .ok (.aload_n 1, 1) := by decide +kernel
theorem dX5_tryMaster_72 : decode cX5_tryMaster 72 = .ok (.getfield 64, 3) := by decide +kernel
theorem dX5_tryMaster_75 : decode cX5_tryMaster 75 = .ok (.getfield 125, 3) := by decide +kernel
theorem dX5_tryMaster_78 : decode cX5_tryMaster 78 = .ok (.istore 9, 2) := by decide +kernel
theorem dX5_tryMaster_80 : decode cX5_tryMaster 80 = .ok (.iload 7, 2) := by decide +kernel
theorem dX5_tryMaster_82 : decode cX5_tryMaster 82 = .ok (.ifCond .ne 12, 3) := by decide +kernel
theorem dX5_tryMaster_85 : decode cX5_tryMaster 85 = .ok (.aload_n 0, 1) := by decide +kernel
theorem dX5_tryMaster_86 : decode cX5_tryMaster 86 = .ok (.getfield 15, 3) := by decide +kernel
theorem dX5_tryMaster_89 : decode cX5_tryMaster 89 = .ok (.iload_n 2, 1) := by decide +kernel
theorem dX5_tryMaster_90 : decode cX5_tryMaster 90 = .ok (.iaload, 1) := by decide +kernel
theorem dX5_tryMaster_91 : decode cX5_tryMaster 91 = .ok (.goto 17, 3) := by decide +kernel
theorem dX5_tryMaster_94 : decode cX5_tryMaster 94 = .ok (.aload_n 0, 1) := by decide +kernel
theorem dX5_tryMaster_95 : decode cX5_tryMaster 95 = .ok (.aload_n 0, 1) := by decide +kernel
theorem dX5_tryMaster_96 : decode cX5_tryMaster 96 = .ok (.getfield 15, 3) := by decide +kernel
theorem dX5_tryMaster_99 : decode cX5_tryMaster 99 = .ok (.iload_n 2, 1) := by decide +kernel
theorem dX5_tryMaster_100 : decode cX5_tryMaster 100 = .ok (.iaload, 1) := by decide +kernel
theorem dX5_tryMaster_101 : decode cX5_tryMaster 101 = .ok (.iload 8, 2) := by decide +kernel
theorem dX5_tryMaster_103 : decode cX5_tryMaster 103 = .ok (.iload 9, 2) := by decide +kernel
theorem dX5_tryMaster_105 : decode cX5_tryMaster 105 = .ok (.invokevirtual 128, 3) := by decide +kernel
theorem dX5_tryMaster_108 : decode cX5_tryMaster 108 = .ok (.istore 10, 2) := by decide +kernel
theorem dX5_tryMaster_110 : decode cX5_tryMaster 110 = .ok (.aload_n 0, 1) := by decide +kernel
theorem dX5_tryMaster_111 : decode cX5_tryMaster 111 = .ok (.getfield 21, 3) := by decide +kernel
theorem dX5_tryMaster_114 : decode cX5_tryMaster 114 = .ok (.iload_n 2, 1) := by decide +kernel
theorem dX5_tryMaster_115 : decode cX5_tryMaster 115 = .ok (.iaload, 1) := by decide +kernel
theorem dX5_tryMaster_116 : decode cX5_tryMaster 116 = .ok (.aload 4, 2) := by decide +kernel
theorem dX5_tryMaster_118 : decode cX5_tryMaster 118 = .ok (.getfield 132, 3) := by decide +kernel
theorem dX5_tryMaster_121 : decode cX5_tryMaster 121 = .ok (.iadd, 1) := by decide +kernel
theorem dX5_tryMaster_122 : decode cX5_tryMaster 122 = .ok (.istore 11, 2) := by decide +kernel
theorem dX5_tryMaster_124 : decode cX5_tryMaster 124 = .ok (.aload 4, 2) := by decide +kernel
theorem dX5_tryMaster_126 : decode cX5_tryMaster 126 = .ok (.getfield 135, 3) := by decide +kernel
theorem dX5_tryMaster_129 : decode cX5_tryMaster 129 = .ok (.ifCond .ne 43, 3) := by decide +kernel
theorem dX5_tryMaster_132 : decode cX5_tryMaster 132 = .ok (.iload 7, 2) := by decide +kernel
theorem dX5_tryMaster_134 : decode cX5_tryMaster 134 = .ok (.sipush 9999, 3) := by decide +kernel
theorem dX5_tryMaster_137 : decode cX5_tryMaster 137 = .ok (.if_icmp .eq 35, 3) := by decide +kernel
theorem dX5_tryMaster_140 : decode cX5_tryMaster 140 = .ok (.iload 11, 2) := by decide +kernel
theorem dX5_tryMaster_142 : decode cX5_tryMaster 142 = .ok (.aload_n 1, 1) := by decide +kernel
theorem dX5_tryMaster_143 : decode cX5_tryMaster 143 = .ok (.getfield 64, 3) := by decide +kernel
theorem dX5_tryMaster_146 : decode cX5_tryMaster 146 = .ok (.getfield 139, 3) := by decide +kernel
theorem dX5_tryMaster_149 : decode cX5_tryMaster 149 = .ok (.if_icmp .gt 23, 3) := by decide +kernel
theorem dX5_tryMaster_152 : decode cX5_tryMaster 152 = .ok (.iload 10, 2) := by decide +kernel
theorem dX5_tryMaster_154 : decode cX5_tryMaster 154 = .ok (.iconst 1, 1) := by decide +kernel
theorem dX5_tryMaster_155 : decode cX5_tryMaster 155 = .ok (.iload 6, 2) := by decide +kernel
theorem dX5_tryMaster_157 : decode cX5_tryMaster 157 = .ok (.ishl, 1) := by decide +kernel
theorem dX5_tryMaster_158 : decode cX5_tryMaster 158 = .ok (.iand, 1) := by decide +kernel
theorem dX5_tryMaster_159 : decode cX5_tryMaster 159 = .ok (.ifCond .ne 13, 3) := by decide +kernel
theorem dX5_tryMaster_162 : decode cX5_tryMaster 162 = .ok (.aload 4, 2) := by decide +kernel
theorem dX5_tryMaster_164 : decode cX5_tryMaster 164 = .ok (.iload 10, 2) := by decide +kernel
theorem dX5_tryMaster_166 : decode cX5_tryMaster 166 = .ok (.invokevirtual 142, 3) := by decide +kernel
theorem dX5_tryMaster_169 : decode cX5_tryMaster 169 = .ok (.ifCond .ne 4, 3) := by decide +kernel
theorem dX5_tryMaster_172 : decode cX5_tryMaster 172 = .ok (.return_, 1) := by decide +kernel
theorem dX5_tryMaster_173 : decode cX5_tryMaster 173 = .ok (.iload 8, 2) := by decide +kernel
theorem dX5_tryMaster_175 : decode cX5_tryMaster 175 = .ok (.aload_n 0, 1) := by decide +kernel
theorem dX5_tryMaster_176 : decode cX5_tryMaster 176 = .ok (.aload_n 1, 1) := by decide +kernel
theorem dX5_tryMaster_177 : decode cX5_tryMaster 177 = .ok (.iload_n 3, 1) := by decide +kernel
theorem dX5_tryMaster_178 : decode cX5_tryMaster 178 = .ok (.aload 4, 2) := by decide +kernel
theorem dX5_tryMaster_180 : decode cX5_tryMaster 180 = .ok (.iload 10, 2) := by decide +kernel
theorem dX5_tryMaster_182 : decode cX5_tryMaster 182 = .ok (.invokestatic 91, 3) := by decide +kernel
theorem dX5_tryMaster_185 : decode cX5_tryMaster 185 = .ok (.invokevirtual 146, 3) := by decide +kernel
theorem dX5_tryMaster_188 : decode cX5_tryMaster 188 = .ok (.iadd, 1) := by decide +kernel
theorem dX5_tryMaster_189 : decode cX5_tryMaster 189 = .ok (.istore 12, 2) := by decide +kernel
theorem dX5_tryMaster_191 : decode cX5_tryMaster 191 = .ok (.iload 12, 2) := by decide +kernel
theorem dX5_tryMaster_193 : decode cX5_tryMaster 193 = .ok (.aload_n 0, 1) := by decide +kernel
theorem dX5_tryMaster_194 : decode cX5_tryMaster 194 = .ok (.getfield 34, 3) := by decide +kernel
theorem dX5_tryMaster_197 : decode cX5_tryMaster 197 = .ok (.if_icmp .le 4, 3) := by decide +kernel
theorem dX5_tryMaster_200 : decode cX5_tryMaster 200 = .ok (.return_, 1) := by decide +kernel
theorem dX5_tryMaster_201 : decode cX5_tryMaster 201 = .ok (.aload_n 0, 1) := by decide +kernel
theorem dX5_tryMaster_202 : decode cX5_tryMaster 202 = .ok (.getfield 11, 3) := by decide +kernel
theorem dX5_tryMaster_205 : decode cX5_tryMaster 205 = .ok (.iload 5, 2) := by decide +kernel
theorem dX5_tryMaster_207 : decode cX5_tryMaster 207 = .ok (.aload 4, 2) := by decide +kernel
theorem dX5_tryMaster_209 : decode cX5_tryMaster 209 = .ok (.getfield 117, 3) := by decide +kernel
theorem dX5_tryMaster_212 : decode cX5_tryMaster 212 = .ok (.iastore, 1) := by decide +kernel
theorem dX5_tryMaster_213 : decode cX5_tryMaster 213 = .ok (.aload_n 0, 1) := by decide +kernel
theorem dX5_tryMaster_214 : decode cX5_tryMaster 214 = .ok (.getfield 15, 3) := by decide +kernel
theorem dX5_tryMaster_217 : decode cX5_tryMaster 217 = .ok (.iload 5, 2) := by decide +kernel
theorem dX5_tryMaster_219 : decode cX5_tryMaster 219 = .ok (.aload_n 0, 1) := by decide +kernel
theorem dX5_tryMaster_220 : decode cX5_tryMaster 220 = .ok (.iload 10, 2) := by decide +kernel
theorem dX5_tryMaster_222 : decode cX5_tryMaster 222 = .ok (.iload 12, 2) := by decide +kernel
theorem dX5_tryMaster_224 : decode cX5_tryMaster 224 = .ok (.iload 9, 2) := by decide +kernel
theorem dX5_tryMaster_226 : decode cX5_tryMaster 226 = .ok (.invokevirtual 128, 3) := by decide +kernel
theorem dX5_tryMaster_229 : decode cX5_tryMaster 229 = .ok (.aload 4, 2) := by decide +kernel
theorem dX5_tryMaster_231 : decode cX5_tryMaster 231 = .ok (.invokevirtual 150, 3) := by decide +kernel
theorem dX5_tryMaster_234 : decode cX5_tryMaster 234 = .ok (.iconst (-1), 1) := by decide +kernel
theorem dX5_tryMaster_235 : decode cX5_tryMaster 235 = .ok (.ixor, 1) := by decide +kernel
theorem dX5_tryMaster_236 : decode cX5_tryMaster 236 = .ok (.iand, 1) := by decide +kernel
theorem dX5_tryMaster_237 : decode cX5_tryMaster 237 = .ok (.iconst 1, 1) := by decide +kernel
theorem dX5_tryMaster_238 : decode cX5_tryMaster 238 = .ok (.iload 6, 2) := by decide +kernel
theorem dX5_tryMaster_240 : decode cX5_tryMaster 240 = .ok (.ishl, 1) := by decide +kernel
theorem dX5_tryMaster_241 : decode cX5_tryMaster 241 = .ok (.ior, 1) := by decide +kernel
theorem dX5_tryMaster_242 : decode cX5_tryMaster 242 = .ok (.iastore, 1) := by decide +kernel
theorem dX5_tryMaster_243 : decode cX5_tryMaster 243 = .ok (.aload_n 0, 1) := by decide +kernel
theorem dX5_tryMaster_244 : decode cX5_tryMaster 244 = .ok (.getfield 18, 3) := by decide +kernel
theorem dX5_tryMaster_247 : decode cX5_tryMaster 247 = .ok (.iload 5, 2) := by decide +kernel
theorem dX5_tryMaster_249 : decode cX5_tryMaster 249 = .ok (.iload 12, 2) := by decide +kernel
theorem dX5_tryMaster_251 : decode cX5_tryMaster 251 = .ok (.iastore, 1) := by decide +kernel
theorem dX5_tryMaster_252 : decode cX5_tryMaster 252 = .ok (.aload_n 0, 1) := by decide +kernel
theorem dX5_tryMaster_253 : decode cX5_tryMaster 253 = .ok (.getfield 21, 3) := by decide +kernel
theorem dX5_tryMaster_256 : decode cX5_tryMaster 256 = .ok (.iload 5, 2) := by decide +kernel
theorem dX5_tryMaster_258 : decode cX5_tryMaster 258 = .ok (.iload 11, 2) := by decide +kernel
theorem dX5_tryMaster_260 : decode cX5_tryMaster 260 = .ok (.iastore, 1) := by decide +kernel
theorem dX5_tryMaster_261 : decode cX5_tryMaster 261 = .ok (.aload_n 0, 1) := by decide +kernel
theorem dX5_tryMaster_262 : decode cX5_tryMaster 262 = .ok (.getfield 24, 3) := by decide +kernel
theorem dX5_tryMaster_265 : decode cX5_tryMaster 265 = .ok (.iload 5, 2) := by decide +kernel
theorem dX5_tryMaster_267 : decode cX5_tryMaster 267 = .ok (.iload_n 2, 1) := by decide +kernel
theorem dX5_tryMaster_268 : decode cX5_tryMaster 268 = .ok (.ifCond .ne 7, 3) := by decide +kernel
theorem dX5_tryMaster_271 : decode cX5_tryMaster 271 = .ok (.iload_n 3, 1) := by decide +kernel
theorem dX5_tryMaster_272 : decode cX5_tryMaster 272 = .ok (.goto 9, 3) := by decide +kernel
theorem dX5_tryMaster_275 : decode cX5_tryMaster 275 = .ok (.aload_n 0, 1) := by decide +kernel
theorem dX5_tryMaster_276 : decode cX5_tryMaster 276 = .ok (.getfield 24, 3) := by decide +kernel
theorem dX5_tryMaster_279 : decode cX5_tryMaster 279 = .ok (.iload_n 2, 1) := by decide +kernel
theorem dX5_tryMaster_280 : decode cX5_tryMaster 280 = .ok (.iaload, 1) := by decide +kernel
theorem dX5_tryMaster_281 : decode cX5_tryMaster 281 = .ok (.iastore, 1) := by decide +kernel
theorem dX5_tryMaster_282 : decode cX5_tryMaster 282 = .ok (.aload_n 0, 1) := by decide +kernel
theorem dX5_tryMaster_283 : decode cX5_tryMaster 283 = .ok (.getfield 27, 3) := by decide +kernel
theorem dX5_tryMaster_286 : decode cX5_tryMaster 286 = .ok (.iload 6, 2) := by decide +kernel
theorem dX5_tryMaster_288 : decode cX5_tryMaster 288 = .ok (.iaload, 1) := by decide +kernel
theorem dX5_tryMaster_289 : decode cX5_tryMaster 289 = .ok (.istore 13, 2) := by decide +kernel
theorem dX5_tryMaster_291 : decode cX5_tryMaster 291 = .ok (.aload_n 0, 1) := by decide +kernel
theorem dX5_tryMaster_292 : decode cX5_tryMaster 292 = .ok (.getfield 27, 3) := by decide +kernel
theorem dX5_tryMaster_295 : decode cX5_tryMaster 295 = .ok (.iload 6, 2) := by decide +kernel
theorem dX5_tryMaster_297 : decode cX5_tryMaster 297 = .ok (.iload 12, 2) := by decide +kernel
theorem dX5_tryMaster_299 : decode cX5_tryMaster 299 = .ok (.iastore, 1) := by decide +kernel
theorem dX5_tryMaster_300 : decode cX5_tryMaster 300 = .ok (.aload_n 0, 1) := by decide +kernel
theorem dX5_tryMaster_301 : decode cX5_tryMaster 301 = .ok (.aload_n 1, 1) := by decide +kernel
theorem dX5_tryMaster_302 : decode cX5_tryMaster 302 = .ok (.iload 5, 2) := by decide +kernel
theorem dX5_tryMaster_304 : decode cX5_tryMaster 304 = .ok (.invokevirtual 79, 3) := by decide +kernel
theorem dX5_tryMaster_307 : decode cX5_tryMaster 307 = .ok (.aload_n 0, 1) := by decide +kernel
theorem dX5_tryMaster_308 : decode cX5_tryMaster 308 = .ok (.getfield 27, 3) := by decide +kernel
theorem dX5_tryMaster_311 : decode cX5_tryMaster 311 = .ok (.iload 6, 2) := by decide +kernel
theorem dX5_tryMaster_313 : decode cX5_tryMaster 313 = .ok (.iload 13, 2) := by decide +kernel
theorem dX5_tryMaster_315 : decode cX5_tryMaster 315 = .ok (.iastore, 1) := by decide +kernel
theorem dX5_tryMaster_316 : decode cX5_tryMaster 316 = .ok (.return_, 1) := by decide +kernel
theorem dX5_keptOf_0 : decode cX5_keptOf 0 = .ok (.iload_n 3, 1) := by decide +kernel
theorem dX5_keptOf_1 : decode cX5_keptOf 1 = .ok (.ifCond .ne 5, 3) := by decide +kernel
theorem dX5_keptOf_4 : decode cX5_keptOf 4 = .ok (.iload_n 1, 1) := by decide +kernel
theorem dX5_keptOf_5 : decode cX5_keptOf 5 = .ok (.ireturn, 1) := by decide +kernel
theorem dX5_keptOf_6 : decode cX5_keptOf 6 = .ok (.iload_n 1, 1) := by decide +kernel
theorem dX5_keptOf_7 : decode cX5_keptOf 7 = .ok (.istore 4, 2) := by decide +kernel
theorem dX5_keptOf_9 : decode cX5_keptOf 9 = .ok (.iconst 0, 1) := by decide +kernel
theorem dX5_keptOf_10 : decode cX5_keptOf 10 = .ok (.istore 5, 2) := by decide +kernel
theorem dX5_keptOf_12 : decode cX5_keptOf 12 = .ok (.iload 5, 2) := by decide +kernel
theorem dX5_keptOf_14 : decode cX5_keptOf 14 = .ok (.bipush 10, 2) := by decide +kernel
theorem dX5_keptOf_16 : decode cX5_keptOf 16 = .ok (.if_icmp .ge 33, 3) := by decide +kernel
theorem dX5_keptOf_19 : decode cX5_keptOf 19 = .ok (.iload_n 2, 1) := by decide +kernel
theorem dX5_keptOf_20 : decode cX5_keptOf 20 = .ok (.aload_n 0, 1) := by decide +kernel
theorem dX5_keptOf_21 : decode cX5_keptOf 21 = .ok (.getfield 27, 3) := by decide +kernel
theorem dX5_keptOf_24 : decode cX5_keptOf 24 = .ok (.iload 5, 2) := by decide +kernel
theorem dX5_keptOf_26 : decode cX5_keptOf 26 = .ok (.iaload, 1) := by decide +kernel
theorem dX5_keptOf_27 : decode cX5_keptOf 27 = .ok (.isub, 1) := by decide +kernel
theorem dX5_keptOf_28 : decode cX5_keptOf 28 = .ok (.iload_n 3, 1) := by decide +kernel
theorem dX5_keptOf_29 : decode cX5_keptOf 29 = .ok (.if_icmp .le 14, 3) := by decide +kernel
theorem dX5_keptOf_32 : decode cX5_keptOf 32 = .ok (.iload 4, 2) := by decide +kernel
theorem dX5_keptOf_34 : decode cX5_keptOf 34 = .ok (.iconst 1, 1) := by decide +kernel

