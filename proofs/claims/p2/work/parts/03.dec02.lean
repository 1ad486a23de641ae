theorem dX5_keptOf_35 : decode cX5_keptOf 35 = .ok (.iload 5, 2) := by decide +kernel
theorem dX5_keptOf_37 : decode cX5_keptOf 37 = .ok (.ishl, 1) := by decide +kernel
theorem dX5_keptOf_38 : decode cX5_keptOf 38 = .ok (.iconst (-1), 1) := by decide +kernel
theorem dX5_keptOf_39 : decode cX5_keptOf 39 = .ok (.ixor, 1) := by decide +kernel
theorem dX5_keptOf_40 : decode cX5_keptOf 40 = .ok (.iand, 1) := by decide +kernel
theorem dX5_keptOf_41 : decode cX5_keptOf 41 = .ok (.istore 4, 2) := by decide +kernel
theorem dX5_keptOf_43 : decode cX5_keptOf 43 = .ok (.iinc 5 1, 3) := by decide +kernel
theorem dX5_keptOf_46 : decode cX5_keptOf 46 = .ok (.goto (-34), 3) := by decide +kernel
theorem dX5_keptOf_49 : decode cX5_keptOf 49 = .ok (.iload 4, 2) := by decide +kernel
theorem dX5_keptOf_51 : decode cX5_keptOf 51 = .ok (.ireturn, 1) := by decide +kernel
theorem dX5_daysTaken_0 : decode cX5_daysTaken 0 = .ok (.iload_n 2, 1) := by decide +kernel
theorem dX5_daysTaken_1 : decode cX5_daysTaken 1 = .ok (.bipush 11, 2) := by decide +kernel
theorem dX5_daysTaken_3 : decode cX5_daysTaken 3 = .ok (.imul, 1) := by decide +kernel
theorem dX5_daysTaken_4 : decode cX5_daysTaken 4 = .ok (.iload 4, 2) := by decide +kernel
theorem dX5_daysTaken_6 : decode cX5_daysTaken 6 = .ok (.iadd, 1) := by decide +kernel
theorem dX5_daysTaken_7 : decode cX5_daysTaken 7 = .ok (.istore 5, 2) := by decide +kernel
theorem dX5_daysTaken_9 : decode cX5_daysTaken 9 = .ok (.iload 5, 2) := by decide +kernel
theorem dX5_daysTaken_11 : decode cX5_daysTaken 11 = .ok (.aload_n 0, 1) := by decide +kernel
theorem dX5_daysTaken_12 : decode cX5_daysTaken 12 = .ok (.getfield 30, 3) := by decide +kernel
theorem dX5_daysTaken_15 : decode cX5_daysTaken 15 = .ok (.arraylength, 1) := by decide +kernel
theorem dX5_daysTaken_16 : decode cX5_daysTaken 16 = .ok (.invokestatic 83, 3) := by decide +kernel
theorem dX5_daysTaken_19 : decode cX5_daysTaken 19 = .ok (.ifCond .ne 11, 3) := by decide +kernel
theorem dX5_daysTaken_22 : decode cX5_daysTaken 22 = .ok (.aload_n 1, 1) := by decide +kernel
theorem dX5_daysTaken_23 : decode cX5_daysTaken 23 = .ok (.aload_n 3, 1) := by decide +kernel
theorem dX5_daysTaken_24 : decode cX5_daysTaken 24 = .ok (.iload 4, 2) := by decide +kernel
theorem dX5_daysTaken_26 : decode cX5_daysTaken 26 = .ok (.invokevirtual 153, 3) := by decide +kernel
theorem dX5_daysTaken_29 : decode cX5_daysTaken 29 = .ok (.ireturn, 1) := by decide +kernel
theorem dX5_daysTaken_30 : decode cX5_daysTaken 30 = .ok (.aload_n 0, 1) := by decide +kernel
theorem dX5_daysTaken_31 : decode cX5_daysTaken 31 = .ok (.getfield 30, 3) := by decide +kernel
theorem dX5_daysTaken_34 : decode cX5_daysTaken 34 = .ok (.iload 5, 2) := by decide +kernel
theorem dX5_daysTaken_36 : decode cX5_daysTaken 36 = .ok (.iaload, 1) := by decide +kernel
theorem dX5_daysTaken_37 : decode cX5_daysTaken 37 = .ok (.ifCond .ne 17, 3) := by decide +kernel
theorem dX5_daysTaken_40 : decode cX5_daysTaken 40 = .ok (.aload_n 0, 1) := by decide +kernel
theorem dX5_daysTaken_41 : decode cX5_daysTaken 41 = .ok (.getfield 30, 3) := by decide +kernel
theorem dX5_daysTaken_44 : decode cX5_daysTaken 44 = .ok (.iload 5, 2) := by decide +kernel
theorem dX5_daysTaken_46 : decode cX5_daysTaken 46 = .ok (.aload_n 1, 1) := by decide +kernel
theorem dX5_daysTaken_47 : decode cX5_daysTaken 47 = .ok (.aload_n 3, 1) := by decide +kernel
theorem dX5_daysTaken_48 : decode cX5_daysTaken 48 = .ok (.iload 4, 2) := by decide +kernel
theorem dX5_daysTaken_50 : decode cX5_daysTaken 50 = .ok (.invokevirtual 153, 3) := by decide +kernel
theorem dX5_daysTaken_53 : decode cX5_daysTaken 53 = .ok (.iastore, 1) := by decide +kernel
theorem dX5_daysTaken_54 : decode cX5_daysTaken 54 = .ok (.aload_n 0, 1) := by decide +kernel
theorem dX5_daysTaken_55 : decode cX5_daysTaken 55 = .ok (.getfield 30, 3) := by decide +kernel
theorem dX5_daysTaken_58 : decode cX5_daysTaken 58 = .ok (.iload 5, 2) := by decide +kernel
theorem dX5_daysTaken_60 : decode cX5_daysTaken 60 = .ok (.iaload, 1) := by decide +kernel
theorem dX5_daysTaken_61 : decode cX5_daysTaken 61 = .ok (.ireturn, 1) := by decide +kernel
theorem dX5_offer_0 : decode cX5_offer 0 = .ok (.iload_n 1, 1) := by decide +kernel
theorem dX5_offer_1 : decode cX5_offer 1 = .ok (.iconst 5, 1) := by decide +kernel
theorem dX5_offer_2 : decode cX5_offer 2 = .ok (.invokestatic 83, 3) := by decide +kernel
theorem dX5_offer_5 : decode cX5_offer 5 = .ok (.ifCond .eq 58, 3) := by decide +kernel
theorem dX5_offer_8 : decode cX5_offer 8 = .ok (.aload_n 0, 1) := by decide +kernel
theorem dX5_offer_9 : decode cX5_offer 9 = .ok (.aload_n 0, 1) := by decide +kernel
theorem dX5_offer_10 : decode cX5_offer 10 = .ok (.getfield 18, 3) := by decide +kernel
theorem dX5_offer_13 : decode cX5_offer 13 = .ok (.iload_n 1, 1) := by decide +kernel
theorem dX5_offer_14 : decode cX5_offer 14 = .ok (.iaload, 1) := by decide +kernel
theorem dX5_offer_15 : decode cX5_offer 15 = .ok (.aload_n 0, 1) := by decide +kernel
theorem dX5_offer_16 : decode cX5_offer 16 = .ok (.getfield 21, 3) := by decide +kernel
theorem dX5_offer_19 : decode cX5_offer 19 = .ok (.iload_n 1, 1) := by decide +kernel
theorem dX5_offer_20 : decode cX5_offer 20 = .ok (.iaload, 1) := by decide +kernel
theorem dX5_offer_21 : decode cX5_offer 21 = .ok (.aload_n 0, 1) := by decide +kernel
theorem dX5_offer_22 : decode cX5_offer 22 = .ok (.getfield 24, 3) := by decide +kernel
theorem dX5_offer_25 : decode cX5_offer 25 = .ok (.iload_n 1, 1) := by decide +kernel
theorem dX5_offer_26 : decode cX5_offer 26 = .ok (.iaload, 1) := by decide +kernel
theorem dX5_offer_27 : decode cX5_offer 27 = .ok (.invokevirtual 156, 3) := by decide +kernel
theorem dX5_offer_30 : decode cX5_offer 30 = .ok (.ifCond .eq 33, 3) := by decide +kernel
theorem dX5_offer_33 : decode cX5_offer 33 = .ok (.aload_n 0, 1) := by decide +kernel
theorem dX5_offer_34 : decode cX5_offer 34 = .ok (.aload_n 0, 1) := by decide +kernel
theorem dX5_offer_35 : decode cX5_offer 35 = .ok (.getfield 18, 3) := by decide +kernel
theorem dX5_offer_38 : decode cX5_offer 38 = .ok (.iload_n 1, 1) := by decide +kernel
theorem dX5_offer_39 : decode cX5_offer 39 = .ok (.iaload, 1) := by decide +kernel
theorem dX5_offer_40 : decode cX5_offer 40 = .ok (.putfield 34, 3) := by decide +kernel
theorem dX5_offer_43 : decode cX5_offer 43 = .ok (.aload_n 0, 1) := by decide +kernel
theorem dX5_offer_44 : decode cX5_offer 44 = .ok (.aload_n 0, 1) := by decide +kernel
theorem dX5_offer_45 : decode cX5_offer 45 = .ok (.getfield 21, 3) := by decide +kernel
theorem dX5_offer_48 : decode cX5_offer 48 = .ok (.iload_n 1, 1) := by decide +kernel
theorem dX5_offer_49 : decode cX5_offer 49 = .ok (.iaload, 1) := by decide +kernel
theorem dX5_offer_50 : decode cX5_offer 50 = .ok (.putfield 38, 3) := by decide +kernel
theorem dX5_offer_53 : decode cX5_offer 53 = .ok (.aload_n 0, 1) := by decide +kernel
theorem dX5_offer_54 : decode cX5_offer 54 = .ok (.aload_n 0, 1) := by decide +kernel
theorem dX5_offer_55 : decode cX5_offer 55 = .ok (.getfield 24, 3) := by decide +kernel
theorem dX5_offer_58 : decode cX5_offer 58 = .ok (.iload_n 1, 1) := by decide +kernel
theorem dX5_offer_59 : decode cX5_offer 59 = .ok (.iaload, 1) := by decide +kernel
theorem dX5_offer_60 : decode cX5_offer 60 = .ok (.putfield 41, 3) := by decide +kernel
theorem dX5_offer_63 : decode cX5_offer 63 = .ok (.return_, 1) := by decide +kernel
theorem dX5_isBetter_0 : decode cX5_isBetter 0 = .ok (.iload_n 1, 1) := by decide +kernel
theorem dX5_isBetter_1 : decode cX5_isBetter 1 = .ok (.aload_n 0, 1) := by decide +kernel
theorem dX5_isBetter_2 : decode cX5_isBetter 2 = .ok (.getfield 34, 3) := by decide +kernel
theorem dX5_isBetter_5 : decode cX5_isBetter 5 = .ok (.if_icmp .eq 17, 3) := by decide +kernel
theorem dX5_isBetter_8 : decode cX5_isBetter 8 = .ok (.iload_n 1, 1) := by decide +kernel
theorem dX5_isBetter_9 : decode cX5_isBetter 9 = .ok (.aload_n 0, 1) := by decide +kernel
theorem dX5_isBetter_10 : decode cX5_isBetter 10 = .ok (.getfield 34, 3) := by decide +kernel
theorem dX5_isBetter_13 : decode cX5_isBetter 13 = .ok (.if_icmp .ge 7, 3) := by decide +kernel
theorem dX5_isBetter_16 : decode cX5_isBetter 16 = .ok (.iconst 1, 1) := by decide +kernel
theorem dX5_isBetter_17 : decode cX5_isBetter 17 = .ok (.goto 4, 3) := by decide +kernel
theorem dX5_isBetter_20 : decode cX5_isBetter 20 = .ok (.iconst 0, 1) := by decide +kernel
theorem dX5_isBetter_21 : decode cX5_isBetter 21 = .ok (.ireturn, 1) := by decide +kernel
theorem dX5_isBetter_22 : decode cX5_isBetter 22 = .ok (.iload_n 2, 1) := by decide +kernel
theorem dX5_isBetter_23 : decode cX5_isBetter 23 = .ok (.aload_n 0, 1) := by decide +kernel
theorem dX5_isBetter_24 : decode cX5_isBetter 24 = .ok (.getfield 38, 3) := by decide +kernel
theorem dX5_isBetter_27 : decode cX5_isBetter 27 = .ok (.if_icmp .eq 19, 3) := by decide +kernel
theorem dX5_isBetter_30 : decode cX5_isBetter 30 = .ok (.iload_n 2, 1) := by decide +kernel
theorem dX5_isBetter_31 : decode cX5_isBetter 31 = .ok (.aload_n 0, 1) := by decide +kernel
theorem dX5_isBetter_32 : decode cX5_isBetter 32 = .ok (.getfield 38, 3) := by decide +kernel
theorem dX5_isBetter_35 : decode cX5_isBetter 35 = .ok (.if_icmp .ge 7, 3) := by decide +kernel
theorem dX5_isBetter_38 : decode cX5_isBetter 38 = .ok (.iconst 1, 1) := by decide +kernel
theorem dX5_isBetter_39 : decode cX5_isBetter 39 = .ok (.goto 20, 3) := by decide +kernel
theorem dX5_isBetter_42 : decode cX5_isBetter 42 = .ok (.iconst 0, 1) := by decide +kernel
theorem dX5_isBetter_43 : decode cX5_isBetter 43 = .ok (.goto 16, 3) := by decide +kernel
theorem dX5_isBetter_46 : decode cX5_isBetter 46 = .ok (.iload_n 3, 1) := by decide +kernel
theorem dX5_isBetter_47 : decode cX5_isBetter 47 = .ok (.aload_n 0, 1) := by decide +kernel
theorem dX5_isBetter_48 : decode cX5_isBetter 48 = .ok (.getfield 41, 3) := by decide +kernel
theorem dX5_isBetter_51 : decode cX5_isBetter 51 = .ok (.if_icmp .ge 7, 3) := by decide +kernel
theorem dX5_isBetter_54 : decode cX5_isBetter 54 = .ok (.iconst 1, 1) := by decide +kernel
theorem dX5_isBetter_55 : decode cX5_isBetter 55 = .ok (.goto 4, 3) := by decide +kernel
theorem dX5_isBetter_58 : decode cX5_isBetter 58 = .ok (.iconst 0, 1) := by decide +kernel
theorem dX5_isBetter_59 : decode cX5_isBetter 59 = .ok (.ireturn, 1) := by decide +kernel
theorem dX6_init_0 : decode cX6_init 0 = .ok (.aload_n 0, 1) := by decide +kernel
theorem dX6_init_1 : decode cX6_init 1 = .ok (.invokespecial 3, 3) := by decide +kernel
theorem dX6_init_4 : decode cX6_init 4 = .ok (.aload_n 0, 1) := by decide +kernel
theorem dX6_init_5 : decode cX6_init 5 = .ok (.iconst (-1), 1) := by decide +kernel
theorem dX6_init_6 : decode cX6_init 6 = .ok (.putfield 9, 3) := by decide +kernel
theorem dX6_init_9 : decode cX6_init 9 = .ok (.aload_n 0, 1) := by decide +kernel
theorem dX6_init_10 : decode cX6_init 10 = .ok (.bipush 24, 2) := by decide +kernel
theorem dX6_init_12 : decode cX6_init 12 = .ok (.newarray .int, 2) := by decide +kernel
theorem dX6_init_14 : decode cX6_init 14 = .ok (.putfield 15, 3) := by decide +kernel
theorem dX6_init_17 : decode cX6_init 17 = .ok (.return_, 1) := by decide +kernel
theorem dX6_begin_0 : decode cX6_begin 0 = .ok (.aload_n 0, 1) := by decide +kernel
theorem dX6_begin_1 : decode cX6_begin 1 = .ok (.iload_n 1, 1) := by decide +kernel
theorem dX6_begin_2 : decode cX6_begin 2 = .ok (.putfield 9, 3) := by decide +kernel
theorem dX6_begin_5 : decode cX6_begin 5 = .ok (.aload_n 0, 1) := by decide +kernel
theorem dX6_begin_6 : decode cX6_begin 6 = .ok (.iload_n 2, 1) := by decide +kernel
theorem dX6_begin_7 : decode cX6_begin 7 = .ok (.putfield 19, 3) := by decide +kernel
theorem dX6_begin_10 : decode cX6_begin 10 = .ok (.iconst 0, 1) := by decide +kernel
theorem dX6_begin_11 : decode cX6_begin 11 = .ok (.istore_n 3, 1) := by decide +kernel
theorem dX6_begin_12 : decode cX6_begin 12 = .ok (.iload_n 3, 1) := by decide +kernel
theorem dX6_begin_13 : decode cX6_begin 13 = .ok (.bipush 24, 2) := by decide +kernel
theorem dX6_begin_15 : decode cX6_begin 15 = .ok (.if_icmp .ge 16, 3) := by decide +kernel
theorem dX6_begin_18 : decode cX6_begin 18 = .ok (.aload_n 0, 1) := by decide +kernel
theorem dX6_begin_19 : decode cX6_begin 19 = .ok (.getfield 15, 3) := by decide +kernel
theorem dX6_begin_22 : decode cX6_begin 22 = .ok (.iload_n 3, 1) := by decide +kernel
theorem dX6_begin_23 : decode cX6_begin 23 = .ok (.iconst 0, 1) := by decide +kernel
theorem dX6_begin_24 : decode cX6_begin 24 = .ok (.iastore, 1) := by decide +kernel
theorem dX6_begin_25 : decode cX6_begin 25 = .ok (.iinc 3 1, 3) := by decide +kernel
theorem dX6_begin_28 : decode cX6_begin 28 = .ok (.goto (-16), 3) := by decide +kernel
theorem dX6_begin_31 : decode cX6_begin 31 = .ok (.return_, 1) := by decide +kernel
theorem dX6_become_0 : decode cX6_become 0 = .ok (.aload_n 0, 1) := by decide +kernel
theorem dX6_become_1 : decode cX6_become 1 = .ok (.aload_n 1, 1) := by decide +kernel
theorem dX6_become_2 : decode cX6_become 2 = .ok (.getfield 9, 3) := by decide +kernel
theorem dX6_become_5 : decode cX6_become 5 = .ok (.putfield 9, 3) := by decide +kernel
theorem dX6_become_8 : decode cX6_become 8 = .ok (.aload_n 0, 1) := by decide +kernel
theorem dX6_become_9 : decode cX6_become 9 = .ok (.aload_n 1, 1) := by decide +kernel
theorem dX6_become_10 : decode cX6_become 10 = .ok (.getfield 19, 3) := by decide +kernel
theorem dX6_become_13 : decode cX6_become 13 = .ok (.putfield 19, 3) := by decide +kernel
theorem dX6_become_16 : decode cX6_become 16 = .ok (.aload_n 1, 1) := by decide +kernel
theorem dX6_become_17 : decode cX6_become 17 = .ok (.getfield 15, 3) := by decide +kernel
theorem dX6_become_20 : decode cX6_become 20 = .ok (.iconst 0, 1) := by decide +kernel
theorem dX6_become_21 : decode cX6_become 21 = .ok (.aload_n 0, 1) := by decide +kernel
theorem dX6_become_22 : decode cX6_become 22 = .ok (.getfield 15, 3) := by decide +kernel
theorem dX6_become_25 : decode cX6_become 25 = .ok (.iconst 0, 1) := by decide +kernel
theorem dX6_become_26 : decode cX6_become 26 = .ok (.bipush 24, 2) := by decide +kernel
theorem dX6_become_28 : decode cX6_become 28 = .ok (.invokestatic 22, 3) := by decide +kernel
theorem dX6_become_31 : decode cX6_become 31 = .ok (.return_, 1) := by decide +kernel
theorem dX6_hasPlace_0 : decode cX6_hasPlace 0 = .ok (.iload_n 1, 1) := by decide +kernel
theorem dX6_hasPlace_1 : decode cX6_hasPlace 1 = .ok (.aload_n 0, 1) := by decide +kernel
theorem dX6_hasPlace_2 : decode cX6_hasPlace 2 = .ok (.getfield 19, 3) := by decide +kernel
theorem dX6_hasPlace_5 : decode cX6_hasPlace 5 = .ok (.invokestatic 28, 3) := by decide +kernel
theorem dX6_hasPlace_8 : decode cX6_hasPlace 8 = .ok (.ifCond .eq 13, 3) := by decide +kernel
theorem dX6_hasPlace_11 : decode cX6_hasPlace 11 = .ok (.iload_n 1, 1) := by decide +kernel
theorem dX6_hasPlace_12 : decode cX6_hasPlace 12 = .ok (.bipush 24, 2) := by decide +kernel
theorem dX6_hasPlace_14 : decode cX6_hasPlace 14 = .ok (.if_icmp .ge 7, 3) := by decide +kernel
theorem dX6_hasPlace_17 : decode cX6_hasPlace 17 = .ok (.iconst 1, 1) := by decide +kernel
theorem dX6_hasPlace_18 : decode cX6_hasPlace 18 = .ok (.goto 4, 3) := by decide +kernel
theorem dX6_hasPlace_21 : decode cX6_hasPlace 21 = .ok (.iconst 0, 1) := by decide +kernel
theorem dX6_hasPlace_22 : decode cX6_hasPlace 22 = .ok (.ireturn, 1) := by decide +kernel
theorem dX6_hasPlaces_0 : decode cX6_hasPlaces 0 = .ok (.iload_n 1, 1) := by decide +kernel
theorem dX6_hasPlaces_1 : decode cX6_hasPlaces 1 = .ok (.ifCond .lt 29, 3) := by decide +kernel
theorem dX6_hasPlaces_4 : decode cX6_hasPlaces 4 = .ok (.iload_n 2, 1) := by decide +kernel
theorem dX6_hasPlaces_5 : decode cX6_hasPlaces 5 = .ok (.ifCond .lt 25, 3) := by decide +kernel
theorem dX6_hasPlaces_8 : decode cX6_hasPlaces 8 = .ok (.iload_n 2, 1) := by decide +kernel
theorem dX6_hasPlaces_9 : decode cX6_hasPlaces 9 = .ok (.aload_n 0, 1) := by decide +kernel
theorem dX6_hasPlaces_10 : decode cX6_hasPlaces 10 = .ok (.getfield 19, 3) := by decide +kernel
theorem dX6_hasPlaces_13 : decode cX6_hasPlaces 13 = .ok (.if_icmp .gt 17, 3) := by decide +kernel
theorem dX6_hasPlaces_16 : decode cX6_hasPlaces 16 = .ok (.iload_n 1, 1) := by decide +kernel
theorem dX6_hasPlaces_17 : decode cX6_hasPlaces 17 = .ok (.aload_n 0, 1) := by decide +kernel
theorem dX6_hasPlaces_18 : decode cX6_hasPlaces 18 = .ok (.getfield 19, 3) := by decide +kernel
theorem dX6_hasPlaces_21 : decode cX6_hasPlaces 21 = .ok (.iload_n 2, 1) := by decide +kernel
theorem dX6_hasPlaces_22 : decode cX6_hasPlaces 22 = .ok (.isub, 1) := by decide +kernel
theorem dX6_hasPlaces_23 : decode cX6_hasPlaces 23 = .ok (.if_icmp .gt 7, 3) := by decide +kernel
theorem dX6_hasPlaces_26 : decode cX6_hasPlaces 26 = .ok (.iconst 1, 1) := by decide +kernel
theorem dX6_hasPlaces_27 : decode cX6_hasPlaces 27 = .ok (.goto 4, 3) := by decide +kernel
theorem dX6_hasPlaces_30 : decode cX6_hasPlaces 30 = .ok (.iconst 0, 1) := by decide +kernel
theorem dX6_hasPlaces_31 : decode cX6_hasPlaces 31 = .ok (.ireturn, 1) := by decide +kernel
theorem dX6_isNumber_0 : decode cX6_isNumber 0 = .ok (.aload_n 0, 1) := by decide +kernel
theorem dX6_isNumber_1 : decode cX6_isNumber 1 = .ok (.iload_n 1, 1) := by decide +kernel
theorem dX6_isNumber_2 : decode cX6_isNumber 2 = .ok (.invokevirtual 32, 3) := by decide +kernel
theorem dX6_isNumber_5 : decode cX6_isNumber 5 = .ok (.ifCond .eq 18, 3) := by decide +kernel
theorem dX6_isNumber_8 : decode cX6_isNumber 8 = .ok (.aload_n 0, 1) := by decide +kernel
theorem dX6_isNumber_9 : decode cX6_isNumber 9 = .ok (.getfield 15, 3) := by decide +kernel
theorem dX6_isNumber_12 : decode cX6_isNumber 12 = .ok (.iload_n 1, 1) := by decide +kernel
theorem dX6_isNumber_13 : decode cX6_isNumber 13 = .ok (.iaload, 1) := by decide +kernel
theorem dX6_isNumber_14 : decode cX6_isNumber 14 = .ok (.ldc 36, 2) := by decide +kernel
theorem dX6_isNumber_16 : decode cX6_isNumber 16 = .ok (.if_icmp .eq 7, 3) := by decide +kernel
theorem dX6_isNumber_19 : decode cX6_isNumber 19 = .ok (.iconst 1, 1) := by decide +kernel
theorem dX6_isNumber_20 : decode cX6_isNumber 20 = .ok (.goto 4, 3) := by decide +kernel
theorem dX6_isNumber_23 : decode cX6_isNumber 23 = .ok (.iconst 0, 1) := by decide +kernel
theorem dX6_isNumber_24 : decode cX6_isNumber 24 = .ok (.ireturn, 1) := by decide +kernel
theorem dX7_init_0 : decode cX7_init 0 = .ok (.aload_n 0, 1) := by decide +kernel
theorem dX7_init_1 : decode cX7_init 1 = .ok (.invokespecial 3, 3) := by decide +kernel
theorem dX7_init_4 : decode cX7_init 4 = .ok (.aload_n 0, 1) := by decide +kernel
theorem dX7_init_5 : decode cX7_init 5 = .ok (.iconst 0, 1) := by decide +kernel
theorem dX7_init_6 : decode cX7_init 6 = .ok (.putfield 9, 3) := by decide +kernel
theorem dX7_init_9 : decode cX7_init 9 = .ok (.aload_n 0, 1) := by decide +kernel
theorem dX7_init_10 : decode cX7_init 10 = .ok (.new 15, 3) := by decide +kernel
theorem dX7_init_13 : decode cX7_init 13 = .ok (.dup, 1) := by decide +kernel
theorem dX7_init_14 : decode cX7_init 14 = .ok (.invokespecial 17, 3) := by decide +kernel
theorem dX7_init_17 : decode cX7_init 17 = .ok (.putfield 18, 3) := by decide +kernel
theorem dX7_init_20 : decode cX7_init 20 = .ok (.aload_n 0, 1) := by decide +kernel
theorem dX7_init_21 : decode cX7_init 21 = .ok (.new 22, 3) := by decide +kernel
theorem dX7_init_24 : decode cX7_init 24 = .ok (.dup, 1) := by decide +kernel
theorem dX7_init_25 : decode cX7_init 25 = .ok (.invokespecial 24, 3) := by decide +kernel
theorem dX7_init_28 : decode cX7_init 28 = .ok (.putfield 25, 3) := by decide +kernel
theorem dX7_init_31 : decode cX7_init 31 = .ok (.return_, 1) := by decide +kernel
theorem dX8_init_0 : decode cX8_init 0 = .ok (.aload_n 0, 1) := by decide +kernel
theorem dX8_init_1 : decode cX8_init 1 = .ok (.invokespecial 3, 3) := by decide +kernel
theorem dX8_init_4 : decode cX8_init 4 = .ok (.aload_n 0, 1) := by decide +kernel
theorem dX8_init_5 : decode cX8_init 5 = .ok (.bipush 96, 2) := by decide +kernel
theorem dX8_init_7 : decode cX8_init 7 = .ok (.newarray .int, 2) := by decide +kernel
theorem dX8_init_9 : decode cX8_init 9 = .ok (.putfield 9, 3) := by decide +kernel
theorem dX8_init_12 : decode cX8_init 12 = .ok (.aload_n 0, 1) := by decide +kernel
theorem dX8_init_13 : decode cX8_init 13 = .ok (.bipush 96, 2) := by decide +kernel
theorem dX8_init_15 : decode cX8_init 15 = .ok (.newarray .int, 2) := by decide +kernel
theorem dX8_init_17 : decode cX8_init 17 = .ok (.putfield 15, 3) := by decide +kernel
theorem dX8_init_20 : decode cX8_init 20 = .ok (.return_, 1) := by decide +kernel
theorem dX8_addNumber_0 : decode cX8_addNumber 0 = .ok (.bipush 24, 2) := by decide +kernel
theorem dX8_addNumber_2 : decode cX8_addNumber 2 = .ok (.istore_n 2, 1) := by decide +kernel
theorem dX8_addNumber_3 : decode cX8_addNumber 3 = .ok (.iload_n 2, 1) := by decide +kernel
theorem dX8_addNumber_4 : decode cX8_addNumber 4 = .ok (.ifCond .lt 47, 3) := by decide +kernel
theorem dX8_addNumber_7 : decode cX8_addNumber 7 = .ok (.aload_n 0, 1) := by decide +kernel
theorem dX8_addNumber_8 : decode cX8_addNumber 8 = .ok (.getfield 18, 3) := by decide +kernel
theorem dX8_addNumber_11 : decode cX8_addNumber 11 = .ok (.bipush 96, 2) := by decide +kernel
theorem dX8_addNumber_13 : decode cX8_addNumber 13 = .ok (.invokestatic 22, 3) := by decide +kernel
theorem dX8_addNumber_16 : decode cX8_addNumber 16 = .ok (.ifCond .eq 29, 3) := by decide +kernel
theorem dX8_addNumber_19 : decode cX8_addNumber 19 = .ok (.aload_n 0, 1) := by decide +kernel
theorem dX8_addNumber_20 : decode cX8_addNumber 20 = .ok (.getfield 9, 3) := by decide +kernel
theorem dX8_addNumber_23 : decode cX8_addNumber 23 = .ok (.aload_n 0, 1) := by decide +kernel
theorem dX8_addNumber_24 : decode cX8_addNumber 24 = .ok (.getfield 18, 3) := by decide +kernel
theorem dX8_addNumber_27 : decode cX8_addNumber 27 = .ok (.iload_n 1, 1) := by decide +kernel
theorem dX8_addNumber_28 : decode cX8_addNumber 28 = .ok (.iload_n 2, 1) := by decide +kernel
theorem dX8_addNumber_29 : decode cX8_addNumber 29 = .ok (.iushr, 1) := by decide +kernel
theorem dX8_addNumber_30 : decode cX8_addNumber 30 = .ok (.sipush 255, 3) := by decide +kernel
theorem dX8_addNumber_33 : decode cX8_addNumber 33 = .ok (.iand, 1) := by decide +kernel
theorem dX8_addNumber_34 : decode cX8_addNumber 34 = .ok (.iastore, 1) := by decide +kernel
theorem dX8_addNumber_35 : decode cX8_addNumber 35 = .ok (.aload_n 0, 1) := by decide +kernel
theorem dX8_addNumber_36 : decode cX8_addNumber 36 = .ok (.dup, 1) := by decide +kernel
theorem dX8_addNumber_37 : decode cX8_addNumber 37 = .ok (.getfield 18, 3) := by decide +kernel
theorem dX8_addNumber_40 : decode cX8_addNumber 40 = .ok (.iconst 1, 1) := by decide +kernel
theorem dX8_addNumber_41 : decode cX8_addNumber 41 = .ok (.iadd, 1) := by decide +kernel
theorem dX8_addNumber_42 : decode cX8_addNumber 42 = .ok (.putfield 18, 3) := by decide +kernel
theorem dX8_addNumber_45 : decode cX8_addNumber 45 = .ok (.iinc 2 (-8), 3) := by decide +kernel
theorem dX8_addNumber_48 : decode cX8_addNumber 48 = .ok (.goto (-45), 3) := by decide +kernel
theorem dX8_addNumber_51 : decode cX8_addNumber 51 = .ok (.return_, 1) := by decide +kernel
theorem dX8_isText_0 : decode cX8_isText 0 = .ok (.aload_n 0, 1) := by decide +kernel
theorem dX8_isText_1 : decode cX8_isText 1 = .ok (.iconst 0, 1) := by decide +kernel
theorem dX8_isText_2 : decode cX8_isText 2 = .ok (.putfield 26, 3) := by decide +kernel
theorem dX8_isText_5 : decode cX8_isText 5 = .ok (.aload_n 0, 1) := by decide +kernel
theorem dX8_isText_6 : decode cX8_isText 6 = .ok (.iconst 0, 1) := by decide +kernel
theorem dX8_isText_7 : decode cX8_isText 7 = .ok (.putfield 29, 3) := by decide +kernel
theorem dX8_isText_10 : decode cX8_isText 10 = .ok (.aload_n 0, 1) := by decide +kernel
theorem dX8_isText_11 : decode cX8_isText 11 = .ok (.iconst 0, 1) := by decide +kernel
theorem dX8_isText_12 : decode cX8_isText 12 = .ok (.putfield 32, 3) := by decide +kernel
theorem dX8_isText_15 : decode cX8_isText 15 = .ok (.aload_n 0, 1) := by decide +kernel
theorem dX8_isText_16 : decode cX8_isText 16 = .ok (.iconst 0, 1) := by decide +kernel
theorem dX8_isText_17 : decode cX8_isText 17 = .ok (.putfield 35, 3) := by decide +kernel
theorem dX8_isText_20 : decode cX8_isText 20 = .ok (.aload_n 0, 1) := by decide +kernel
theorem dX8_isText_21 : decode cX8_isText 21 = .ok (.invokevirtual 38, 3) := by decide +kernel
theorem dX8_isText_24 : decode cX8_isText 24 = .ok (.aload_n 0, 1) := by decide +kernel
theorem dX8_isText_25 : decode cX8_isText 25 = .ok (.aload_n 0, 1) := by decide +kernel
theorem dX8_isText_26 : decode cX8_isText 26 = .ok (.invokevirtual 41, 3) := by decide +kernel
theorem dX8_isText_29 : decode cX8_isText 29 = .ok (.putfield 45, 3) := by decide +kernel
theorem dX8_isText_32 : decode cX8_isText 32 = .ok (.aload_n 0, 1) := by decide +kernel
theorem dX8_isText_33 : decode cX8_isText 33 = .ok (.getfield 45, 3) := by decide +kernel
theorem dX8_isText_36 : decode cX8_isText 36 = .ok (.ifCond .ge 5, 3) := by decide +kernel
theorem dX8_isText_39 : decode cX8_isText 39 = .ok (.iconst 0, 1) := by decide +kernel
theorem dX8_isText_40 : decode cX8_isText 40 = .ok (.ireturn, 1) := by decide +kernel
theorem dX8_isText_41 : decode cX8_isText 41 = .ok (.aload_n 0, 1) := by decide +kernel
theorem dX8_isText_42 : decode cX8_isText 42 = .ok (.invokevirtual 38, 3) := by decide +kernel
theorem dX8_isText_45 : decode cX8_isText 45 = .ok (.aload_n 0, 1) := by decide +kernel
theorem dX8_isText_46 : decode cX8_isText 46 = .ok (.iconst 0, 1) := by decide +kernel
theorem dX8_isText_47 : decode cX8_isText 47 = .ok (.iconst 0, 1) := by decide +kernel
theorem dX8_isText_48 : decode cX8_isText 48 = .ok (.iconst 0, 1) := by decide +kernel
theorem dX8_isText_49 : decode cX8_isText 49 = .ok (.invokevirtual 48, 3) := by decide +kernel
theorem dX8_isText_52 : decode cX8_isText 52 = .ok (.ifCond .eq 14, 3) := by decide +kernel
theorem dX8_isText_55 : decode cX8_isText 55 = .ok (.aload_n 0, 1) := by decide +kernel
theorem dX8_isText_56 : decode cX8_isText 56 = .ok (.getfield 29, 3) := by decide +kernel
theorem dX8_isText_59 : decode cX8_isText 59 = .ok (.ifCond .ne 7, 3) := by decide +kernel
theorem dX8_isText_62 : decode cX8_isText 62 = .ok (.iconst 1, 1) := by decide +kernel
theorem dX8_isText_63 : decode cX8_isText 63 = .ok (.goto 4, 3) := by decide +kernel
theorem dX8_isText_66 : decode cX8_isText 66 = .ok (.iconst 0, 1) := by decide +kernel
theorem dX8_isText_67 : decode cX8_isText 67 = .ok (.ireturn, 1) := by decide +kernel
theorem dX8_textRead_0 : decode cX8_textRead 0 = .ok (.aload_n 0, 1) := by decide +kernel
theorem dX8_textRead_1 : decode cX8_textRead 1 = .ok (.getfield 35, 3) := by decide +kernel
theorem dX8_textRead_4 : decode cX8_textRead 4 = .ok (.newarray .int, 2) := by decide +kernel
theorem dX8_textRead_6 : decode cX8_textRead 6 = .ok (.astore_n 1, 1) := by decide +kernel
theorem dX8_textRead_7 : decode cX8_textRead 7 = .ok (.aload_n 0, 1) := by decide +kernel
theorem dX8_textRead_8 : decode cX8_textRead 8 = .ok (.getfield 15, 3) := by decide +kernel
theorem dX8_textRead_11 : decode cX8_textRead 11 = .ok (.iconst 0, 1) := by decide +kernel
theorem dX8_textRead_12 : decode cX8_textRead 12 = .ok (.aload_n 1, 1) := by decide +kernel
theorem dX8_textRead_13 : decode cX8_textRead 13 = .ok (.iconst 0, 1) := by decide +kernel
theorem dX8_textRead_14 : decode cX8_textRead 14 = .ok (.aload_n 0, 1) := by decide +kernel
theorem dX8_textRead_15 : decode cX8_textRead 15 = .ok (.getfield 35, 3) := by decide +kernel
theorem dX8_textRead_18 : decode cX8_textRead 18 = .ok (.invokestatic 52, 3) := by decide +kernel
theorem dX8_textRead_21 : decode cX8_textRead 21 = .ok (.new 58, 3) := by decide +kernel
theorem dX8_textRead_24 : decode cX8_textRead 24 = .ok (.dup, 1) := by decide +kernel
theorem dX8_textRead_25 : decode cX8_textRead 25 = .ok (.aload_n 0, 1) := by decide +kernel
theorem dX8_textRead_26 : decode cX8_textRead 26 = .ok (.getfield 45, 3) := by decide +kernel
theorem dX8_textRead_29 : decode cX8_textRead 29 = .ok (.aload_n 0, 1) := by decide +kernel
theorem dX8_textRead_30 : decode cX8_textRead 30 = .ok (.getfield 32, 3) := by decide +kernel
theorem dX8_textRead_33 : decode cX8_textRead 33 = .ok (.aload_n 1, 1) := by decide +kernel
theorem dX8_textRead_34 : decode cX8_textRead 34 = .ok (.invokespecial 60, 3) := by decide +kernel
theorem dX8_textRead_37 : decode cX8_textRead 37 = .ok (.areturn, 1) := by decide +kernel
theorem dX8_step_0 : decode cX8_step 0 = .ok (.aload_n 0, 1) := by decide +kernel
theorem dX8_step_1 : decode cX8_step 1 = .ok (.getfield 29, 3) := by decide +kernel
theorem dX8_step_4 : decode cX8_step 4 = .ok (.iconst 1, 1) := by decide +kernel
theorem dX8_step_5 : decode cX8_step 5 = .ok (.if_icmp .eq 11, 3) := by decide +kernel
theorem dX8_step_8 : decode cX8_step 8 = .ok (.aload_n 0, 1) := by decide +kernel
theorem dX8_step_9 : decode cX8_step 9 = .ok (.getfield 29, 3) := by decide +kernel
theorem dX8_step_12 : decode cX8_step 12 = .ok (.iconst 2, 1) := by decide +kernel
theorem dX8_step_13 : decode cX8_step 13 = .ok (.if_icmp .ne 7, 3) := by decide +kernel
theorem dX8_step_16 : decode cX8_step 16 = .ok (.iconst 1, 1) := by decide +kernel
theorem dX8_step_17 : decode cX8_step 17 = .ok (.goto 4, 3) := by decide +kernel
theorem dX8_step_20 : decode cX8_step 20 = .ok (.iconst 0, 1) := by decide +kernel
theorem dX8_step_21 : decode cX8_step 21 = .ok (.istore_n 1, 1) := by decide +kernel
theorem dX8_step_22 : decode cX8_step 22 = .ok (.aload_n 0, 1) := by decide +kernel
theorem dX8_step_23 : decode cX8_step 23 = .ok (.getfield 26, 3) := by decide +kernel
theorem dX8_step_26 : decode cX8_step 26 = .ok (.istore_n 2, 1) := by decide +kernel
theorem dX8_step_27 : decode cX8_step 27 = .ok (.aload_n 0, 1) := by decide +kernel
theorem dX8_step_28 : decode cX8_step 28 = .ok (.aload_n 0, 1) := by decide +kernel
theorem dX8_step_29 : decode cX8_step 29 = .ok (.getfield 26, 3) := by decide +kernel
theorem dX8_step_32 : decode cX8_step 32 = .ok (.putfield 63, 3) := by decide +kernel
theorem dX8_step_35 : decode cX8_step 35 = .ok (.aload_n 0, 1) := by decide +kernel
theorem dX8_step_36 : decode cX8_step 36 = .ok (.getfield 63, 3) := by decide +kernel
theorem dX8_step_39 : decode cX8_step 39 = .ok (.aload_n 0, 1) := by decide +kernel
theorem dX8_step_40 : decode cX8_step 40 = .ok (.getfield 18, 3) := by decide +kernel
theorem dX8_step_43 : decode cX8_step 43 = .ok (.if_icmp .ge 29, 3) := by decide +kernel
theorem dX8_step_46 : decode cX8_step 46 = .ok (.aload_n 0, 1) := by decide +kernel
theorem dX8_step_47 : decode cX8_step 47 = .ok (.aload_n 0, 1) := by decide +kernel
theorem dX8_step_48 : decode cX8_step 48 = .ok (.getfield 63, 3) := by decide +kernel
theorem dX8_step_51 : decode cX8_step 51 = .ok (.invokevirtual 66, 3) := by decide +kernel
theorem dX8_step_54 : decode cX8_step 54 = .ok (.bipush 32, 2) := by decide +kernel
theorem dX8_step_56 : decode cX8_step 56 = .ok (.if_icmp .ne 16, 3) := by decide +kernel
theorem dX8_step_59 : decode cX8_step 59 = .ok (.aload_n 0, 1) := by decide +kernel
theorem dX8_step_60 : decode cX8_step 60 = .ok (.dup, 1) := by decide +kernel
theorem dX8_step_61 : decode cX8_step 61 = .ok (.getfield 63, 3) := by decide +kernel
theorem dX8_step_64 : decode cX8_step 64 = .ok (.iconst 1, 1) := by decide +kernel
theorem dX8_step_65 : decode cX8_step 65 = .ok (.iadd, 1) := by decide +kernel
theorem dX8_step_66 : decode cX8_step 66 = .ok (.putfield 63, 3) := by decide +kernel
theorem dX8_step_69 : decode cX8_step 69 = .ok (.goto (-34), 3) := by decide +kernel
theorem dX8_step_72 : decode cX8_step 72 = .ok (.aload_n 0, 1) := by decide +kernel
theorem dX8_step_73 : decode cX8_step 73 = .ok (.aload_n 0, 1) := by decide +kernel
theorem dX8_step_74 : decode cX8_step 74 = .ok (.aload_n 0, 1) := by decide +kernel
theorem dX8_step_75 : decode cX8_step 75 = .ok (.getfield 63, 3) := by decide +kernel
theorem dX8_step_78 : decode cX8_step 78 = .ok (.invokevirtual 70, 3) := by decide +kernel
theorem dX8_step_81 : decode cX8_step 81 = .ok (.putfield 29, 3) := by decide +kernel
theorem dX8_step_84 : decode cX8_step 84 = .ok (.aload_n 0, 1) := by decide +kernel
theorem dX8_step_85 : decode cX8_step 85 = .ok (.iload_n 1, 1) := by decide +kernel
theorem dX8_step_86 : decode cX8_step 86 = .ok (.ifCond .eq 15, 3) := by decide +kernel
theorem dX8_step_89 : decode cX8_step 89 = .ok (.aload_n 0, 1) := by decide +kernel
theorem dX8_step_90 : decode cX8_step 90 = .ok (.getfield 63, 3) := by decide +kernel
theorem dX8_step_93 : decode cX8_step 93 = .ok (.iload_n 2, 1) := by decide +kernel
theorem dX8_step_94 : decode cX8_step 94 = .ok (.if_icmp .ne 7, 3) := by decide +kernel
theorem dX8_step_97 : decode cX8_step 97 = .ok (.iconst 1, 1) := by decide +kernel
theorem dX8_step_98 : decode cX8_step 98 = .ok (.goto 4, 3) := by decide +kernel
theorem dX8_step_101 : decode cX8_step 101 = .ok (.iconst 0, 1) := by decide +kernel
theorem dX8_step_102 : decode cX8_step 102 = .ok (.putfield 73, 3) := by decide +kernel
theorem dX8_step_105 : decode cX8_step 105 = .ok (.aload_n 0, 1) := by decide +kernel
theorem dX8_step_106 : decode cX8_step 106 = .ok (.aload_n 0, 1) := by decide +kernel
theorem dX8_step_107 : decode cX8_step 107 = .ok (.getfield 29, 3) := by decide +kernel
theorem dX8_step_110 : decode cX8_step 110 = .ok (.ifCond .ne 10, 3) := by decide +kernel
theorem dX8_step_113 : decode cX8_step 113 = .ok (.aload_n 0, 1) := by decide +kernel
theorem dX8_step_114 : decode cX8_step 114 = .ok (.getfield 63, 3) := by decide +kernel
theorem dX8_step_117 : decode cX8_step 117 = .ok (.goto 9, 3) := by decide +kernel
theorem dX8_step_120 : decode cX8_step 120 = .ok (.aload_n 0, 1) := by decide +kernel
theorem dX8_step_121 : decode cX8_step 121 = .ok (.getfield 63, 3) := by decide +kernel
theorem dX8_step_124 : decode cX8_step 124 = .ok (.iconst 1, 1) := by decide +kernel
theorem dX8_step_125 : decode cX8_step 125 = .ok (.iadd, 1) := by decide +kernel
theorem dX8_step_126 : decode cX8_step 126 = .ok (.putfield 26, 3) := by decide +kernel
theorem dX8_step_129 : decode cX8_step 129 = .ok (.aload_n 0, 1) := by decide +kernel
theorem dX8_step_130 : decode cX8_step 130 = .ok (.getfield 26, 3) := by decide +kernel
theorem dX8_step_133 : decode cX8_step 133 = .ok (.aload_n 0, 1) := by decide +kernel
theorem dX8_step_134 : decode cX8_step 134 = .ok (.getfield 18, 3) := by decide +kernel
theorem dX8_step_137 : decode cX8_step 137 = .ok (.if_icmp .ge 39, 3) := by decide +kernel
theorem dX8_step_140 : decode cX8_step 140 = .ok (.aload_n 0, 1) := by decide +kernel
theorem dX8_step_141 : decode cX8_step 141 = .ok (.getfield 29, 3) := by decide +kernel
theorem dX8_step_144 : decode cX8_step 144 = .ok (.iconst 3, 1) := by decide +kernel
theorem dX8_step_145 : decode cX8_step 145 = .ok (.if_icmp .eq 31, 3) := by decide +kernel
theorem dX8_step_148 : decode cX8_step 148 = .ok (.aload_n 0, 1) := by decide +kernel
theorem dX8_step_149 : decode cX8_step 149 = .ok (.aload_n 0, 1) := by decide +kernel
theorem dX8_step_150 : decode cX8_step 150 = .ok (.getfield 26, 3) := by decide +kernel
theorem dX8_step_153 : decode cX8_step 153 = .ok (.invokevirtual 70, 3) := by decide +kernel
theorem dX8_step_156 : decode cX8_step 156 = .ok (.aload_n 0, 1) := by decide +kernel
theorem dX8_step_157 : decode cX8_step 157 = .ok (.getfield 29, 3) := by decide +kernel
theorem dX8_step_160 : decode cX8_step 160 = .ok (.if_icmp .ne 16, 3) := by decide +kernel
theorem dX8_step_163 : decode cX8_step 163 = .ok (.aload_n 0, 1) := by decide +kernel
theorem dX8_step_164 : decode cX8_step 164 = .ok (.dup, 1) := by decide +kernel
theorem dX8_step_165 : decode cX8_step 165 = .ok (.getfield 26, 3) := by decide +kernel
theorem dX8_step_168 : decode cX8_step 168 = .ok (.iconst 1, 1) := by decide +kernel
theorem dX8_step_169 : decode cX8_step 169 = .ok (.iadd, 1) := by decide +kernel
theorem dX8_step_170 : decode cX8_step 170 = .ok (.putfield 26, 3) := by decide +kernel
theorem dX8_step_173 : decode cX8_step 173 = .ok (.goto (-44), 3) := by decide +kernel
theorem dX8_step_176 : decode cX8_step 176 = .ok (.return_, 1) := by decide +kernel
theorem dX8_byteAt_0 : decode cX8_byteAt 0 = .ok (.iload_n 1, 1) := by decide +kernel
theorem dX8_byteAt_1 : decode cX8_byteAt 1 = .ok (.ifCond .lt 26, 3) := by decide +kernel
theorem dX8_byteAt_4 : decode cX8_byteAt 4 = .ok (.iload_n 1, 1) := by decide +kernel
theorem dX8_byteAt_5 : decode cX8_byteAt 5 = .ok (.aload_n 0, 1) := by decide +kernel
theorem dX8_byteAt_6 : decode cX8_byteAt 6 = .ok (.getfield 18, 3) := by decide +kernel
theorem dX8_byteAt_9 : decode cX8_byteAt 9 = .ok (.if_icmp .ge 18, 3) := by decide +kernel
theorem dX8_byteAt_12 : decode cX8_byteAt 12 = .ok (.iload_n 1, 1) := by decide +kernel
theorem dX8_byteAt_13 : decode cX8_byteAt 13 = .ok (.bipush 96, 2) := by decide +kernel
theorem dX8_byteAt_15 : decode cX8_byteAt 15 = .ok (.if_icmp .ge 12, 3) := by decide +kernel
theorem dX8_byteAt_18 : decode cX8_byteAt 18 = .ok (.aload_n 0, 1) := by decide +kernel
theorem dX8_byteAt_19 : decode cX8_byteAt 19 = .ok (.getfield 9, 3) := by decide +kernel
theorem dX8_byteAt_22 : decode cX8_byteAt 22 = .ok (.iload_n 1, 1) := by decide +kernel
theorem dX8_byteAt_23 : decode cX8_byteAt 23 = .ok (.iaload, 1) := by decide +kernel
theorem dX8_byteAt_24 : decode cX8_byteAt 24 = .ok (.goto 4, 3) := by decide +kernel
theorem dX8_byteAt_27 : decode cX8_byteAt 27 = .ok (.iconst 0, 1) := by decide +kernel
theorem dX8_byteAt_28 : decode cX8_byteAt 28 = .ok (.ireturn, 1) := by decide +kernel
theorem dX8_sortAt_0 : decode cX8_sortAt 0 = .ok (.iload_n 1, 1) := by decide +kernel
theorem dX8_sortAt_1 : decode cX8_sortAt 1 = .ok (.aload_n 0, 1) := by decide +kernel
theorem dX8_sortAt_2 : decode cX8_sortAt 2 = .ok (.getfield 18, 3) := by decide +kernel
theorem dX8_sortAt_5 : decode cX8_sortAt 5 = .ok (.if_icmp .lt 5, 3) := by decide +kernel
theorem dX8_sortAt_8 : decode cX8_sortAt 8 = .ok (.iconst 0, 1) := by decide +kernel
theorem dX8_sortAt_9 : decode cX8_sortAt 9 = .ok (.ireturn, 1) := by decide +kernel
theorem dX8_sortAt_10 : decode cX8_sortAt 10 = .ok (.aload_n 0, 1) := by decide +kernel
theorem dX8_sortAt_11 : decode cX8_sortAt 11 = .ok (.iload_n 1, 1) := by decide +kernel
theorem dX8_sortAt_12 : decode cX8_sortAt 12 = .ok (.invokevirtual 66, 3) := by decide +kernel
theorem dX8_sortAt_15 : decode cX8_sortAt 15 = .ok (.istore_n 2, 1) := by decide +kernel
theorem dX8_sortAt_16 : decode cX8_sortAt 16 = .ok (.iload_n 2, 1) := by decide +kernel
theorem dX8_sortAt_17 : decode cX8_sortAt 17 = .ok (.bipush 97, 2) := by decide +kernel
theorem dX8_sortAt_19 : decode cX8_sortAt 19 = .ok (.if_icmp .lt 11, 3) := by decide +kernel
theorem dX8_sortAt_22 : decode cX8_sortAt 22 = .ok (.iload_n 2, 1) := by decide +kernel
theorem dX8_sortAt_23 : decode cX8_sortAt 23 = .ok (.bipush 122, 2) := by decide +kernel
theorem dX8_sortAt_25 : decode cX8_sortAt 25 = .ok (.if_icmp .gt 5, 3) := by decide +kernel
theorem dX8_sortAt_28 : decode cX8_sortAt 28 = .ok (.iconst 1, 1) := by decide +kernel
theorem dX8_sortAt_29 : decode cX8_sortAt 29 = .ok (.ireturn, 1) := by decide +kernel
theorem dX8_sortAt_30 : decode cX8_sortAt 30 = .ok (.iload_n 2, 1) := by decide +kernel
theorem dX8_sortAt_31 : decode cX8_sortAt 31 = .ok (.bipush 48, 2) := by decide +kernel
theorem dX8_sortAt_33 : decode cX8_sortAt 33 = .ok (.if_icmp .lt 13, 3) := by decide +kernel
theorem dX8_sortAt_36 : decode cX8_sortAt 36 = .ok (.iload_n 2, 1) := by decide +kernel
theorem dX8_sortAt_37 : decode cX8_sortAt 37 = .ok (.bipush 57, 2) := by decide +kernel
theorem dX8_sortAt_39 : decode cX8_sortAt 39 = .ok (.if_icmp .gt 7, 3) := by decide +kernel
theorem dX8_sortAt_42 : decode cX8_sortAt 42 = .ok (.iconst 2, 1) := by decide +kernel
theorem dX8_sortAt_43 : decode cX8_sortAt 43 = .ok (.goto 4, 3) := by decide +kernel
theorem dX8_sortAt_46 : decode cX8_sortAt 46 = .ok (.iconst 3, 1) := by decide +kernel
theorem dX8_sortAt_47 : decode cX8_sortAt 47 = .ok (.ireturn, 1) := by decide +kernel
theorem dX8_isInHand_0 : decode cX8_isInHand 0 = .ok (.aload_n 0, 1) := by decide +kernel
theorem dX8_isInHand_1 : decode cX8_isInHand 1 = .ok (.getfield 29, 3) := by decide +kernel
theorem dX8_isInHand_4 : decode cX8_isInHand 4 = .ok (.iconst 3, 1) := by decide +kernel
theorem dX8_isInHand_5 : decode cX8_isInHand 5 = .ok (.if_icmp .ne 19, 3) := by decide +kernel
theorem dX8_isInHand_8 : decode cX8_isInHand 8 = .ok (.aload_n 0, 1) := by decide +kernel
theorem dX8_isInHand_9 : decode cX8_isInHand 9 = .ok (.aload_n 0, 1) := by decide +kernel
theorem dX8_isInHand_10 : decode cX8_isInHand 10 = .ok (.getfield 63, 3) := by decide +kernel
theorem dX8_isInHand_13 : decode cX8_isInHand 13 = .ok (.invokevirtual 66, 3) := by decide +kernel
theorem dX8_isInHand_16 : decode cX8_isInHand 16 = .ok (.iload_n 1, 1) := by decide +kernel
theorem dX8_isInHand_17 : decode cX8_isInHand 17 = .ok (.if_icmp .ne 7, 3) := by decide +kernel
theorem dX8_isInHand_20 : decode cX8_isInHand 20 = .ok (.iconst 1, 1) := by decide +kernel
theorem dX8_isInHand_21 : decode cX8_isInHand 21 = .ok (.goto 4, 3) := by decide +kernel
theorem dX8_isInHand_24 : decode cX8_isInHand 24 = .ok (.iconst 0, 1) := by decide +kernel
theorem dX8_isInHand_25 : decode cX8_isInHand 25 = .ok (.ireturn, 1) := by decide +kernel
theorem dX8_keyInHand_0 : decode cX8_keyInHand 0 = .ok (.iconst 0, 1) := by decide +kernel
theorem dX8_keyInHand_1 : decode cX8_keyInHand 1 = .ok (.istore_n 1, 1) := by decide +kernel
theorem dX8_keyInHand_2 : decode cX8_keyInHand 2 = .ok (.iload_n 1, 1) := by decide +kernel
theorem dX8_keyInHand_3 : decode cX8_keyInHand 3 = .ok (.iconst 3, 1) := by decide +kernel
theorem dX8_keyInHand_4 : decode cX8_keyInHand 4 = .ok (.if_icmp .ge 22, 3) := by decide +kernel
theorem dX8_keyInHand_7 : decode cX8_keyInHand 7 = .ok (.aload_n 0, 1) := by decide +kernel
theorem dX8_keyInHand_8 : decode cX8_keyInHand 8 = .ok (.iload_n 1, 1) := by decide +kernel
theorem dX8_keyInHand_9 : decode cX8_keyInHand 9 = .ok (.invokestatic 77, 3) := by decide +kernel
theorem dX8_keyInHand_12 : decode cX8_keyInHand 12 = .ok (.invokevirtual 81, 3) := by decide +kernel
theorem dX8_keyInHand_15 : decode cX8_keyInHand 15 = .ok (.ifCond .eq 5, 3) := by decide +kernel
theorem dX8_keyInHand_18 : decode cX8_keyInHand 18 = .ok (.iload_n 1, 1) := by decide +kernel
theorem dX8_keyInHand_19 : decode cX8_keyInHand 19 = .ok (.ireturn, 1) := by decide +kernel
theorem dX8_keyInHand_20 : decode cX8_keyInHand 20 = .ok (.iinc 1 1, 3) := by decide +kernel
theorem dX8_keyInHand_23 : decode cX8_keyInHand 23 = .ok (.goto (-21), 3) := by decide +kernel
theorem dX8_keyInHand_26 : decode cX8_keyInHand 26 = .ok (.iconst (-1), 1) := by decide +kernel
theorem dX8_keyInHand_27 : decode cX8_keyInHand 27 = .ok (.ireturn, 1) := by decide +kernel
theorem dX8_isWordInHand_0 : decode cX8_isWordInHand 0 = .ok (.aload_n 0, 1) := by decide +kernel
theorem dX8_isWordInHand_1 : decode cX8_isWordInHand 1 = .ok (.getfield 29, 3) := by decide +kernel
theorem dX8_isWordInHand_4 : decode cX8_isWordInHand 4 = .ok (.iconst 1, 1) := by decide +kernel
theorem dX8_isWordInHand_5 : decode cX8_isWordInHand 5 = .ok (.if_icmp .ne 19, 3) := by decide +kernel
theorem dX8_isWordInHand_8 : decode cX8_isWordInHand 8 = .ok (.aload_n 0, 1) := by decide +kernel
theorem dX8_isWordInHand_9 : decode cX8_isWordInHand 9 = .ok (.getfield 26, 3) := by decide +kernel
theorem dX8_isWordInHand_12 : decode cX8_isWordInHand 12 = .ok (.aload_n 0, 1) := by decide +kernel
theorem dX8_isWordInHand_13 : decode cX8_isWordInHand 13 = .ok (.getfield 63, 3) := by decide +kernel
theorem dX8_isWordInHand_16 : decode cX8_isWordInHand 16 = .ok (.isub, 1) := by decide +kernel
theorem dX8_isWordInHand_17 : decode cX8_isWordInHand 17 = .ok (.aload_n 1, 1) := by decide +kernel
theorem dX8_isWordInHand_18 : decode cX8_isWordInHand 18 = .ok (.invokevirtual 85, 3) := by decide +kernel
theorem dX8_isWordInHand_21 : decode cX8_isWordInHand 21 = .ok (.if_icmp .eq 5, 3) := by decide +kernel
theorem dX8_isWordInHand_24 : decode cX8_isWordInHand 24 = .ok (.iconst 0, 1) := by decide +kernel
theorem dX8_isWordInHand_25 : decode cX8_isWordInHand 25 = .ok (.ireturn, 1) := by decide +kernel
theorem dX8_isWordInHand_26 : decode cX8_isWordInHand 26 = .ok (.iconst 0, 1) := by decide +kernel
theorem dX8_isWordInHand_27 : decode cX8_isWordInHand 27 = .ok (.istore_n 2, 1) := by decide +kernel
theorem dX8_isWordInHand_28 : decode cX8_isWordInHand 28 = .ok (.iload_n 2, 1) := by decide +kernel
theorem dX8_isWordInHand_29 : decode cX8_isWordInHand 29 = .ok (.aload_n 1, 1) := by decide +kernel
theorem dX8_isWordInHand_30 : decode cX8_isWordInHand 30 = .ok (.invokevirtual 85, 3) := by decide +kernel
theorem dX8_isWordInHand_33 : decode cX8_isWordInHand 33 = .ok (.if_icmp .ge 29, 3) := by decide +kernel
theorem dX8_isWordInHand_36 : decode cX8_isWordInHand 36 = .ok (.aload_n 0, 1) := by decide +kernel
theorem dX8_isWordInHand_37 : decode cX8_isWordInHand 37 = .ok (.aload_n 0, 1) := by decide +kernel
theorem dX8_isWordInHand_38 : decode cX8_isWordInHand 38 = .ok (.getfield 63, 3) := by decide +kernel
theorem dX8_isWordInHand_41 : decode cX8_isWordInHand 41 = .ok (.iload_n 2, 1) := by decide +kernel
theorem dX8_isWordInHand_42 : decode cX8_isWordInHand 42 = .ok (.iadd, 1) := by decide +kernel
theorem dX8_isWordInHand_43 : decode cX8_isWordInHand 43 = .ok (.invokevirtual 66, 3) := by decide +kernel
theorem dX8_isWordInHand_46 : decode cX8_isWordInHand 46 = .ok (.aload_n 1, 1) := by decide +kernel
theorem dX8_isWordInHand_47 : decode cX8_isWordInHand 47 = .ok (.iload_n 2, 1) := by decide +kernel
theorem dX8_isWordInHand_48 : decode cX8_isWordInHand 48 = .ok (.invokevirtual 90, 3) := by decide +kernel
theorem dX8_isWordInHand_51 : decode cX8_isWordInHand 51 = .ok (.if_icmp .eq 5, 3) := by decide +kernel
theorem dX8_isWordInHand_54 : decode cX8_isWordInHand 54 = .ok (.iconst 0, 1) := by decide +kernel
theorem dX8_isWordInHand_55 : decode cX8_isWordInHand 55 = .ok (.ireturn, 1) := by decide +kernel
theorem dX8_isWordInHand_56 : decode cX8_isWordInHand 56 = .ok (.iinc 2 1, 3) := by decide +kernel
theorem dX8_isWordInHand_59 : decode cX8_isWordInHand 59 = .ok (.goto (-31), 3) := by decide +kernel
theorem dX8_isWordInHand_62 : decode cX8_isWordInHand 62 = .ok (.iconst 1, 1) := by decide +kernel
theorem dX8_isWordInHand_63 : decode cX8_isWordInHand 63 = .ok (.ireturn, 1) := by decide +kernel
theorem dX8_wordOf_0 : decode cX8_wordOf 0 = .ok (.iload_n 0, 1) := by decide +kernel
theorem dX8_wordOf_1 : decode cX8_wordOf 1 = .ok (.lookupswitch 33 #[(0, 27), (1, 30)], 27) := by decide +kernel
theorem dX8_wordOf_28 : decode cX8_wordOf 28 = .ok (.ldc 94, 2) := by decide +kernel
theorem dX8_wordOf_30 : decode cX8_wordOf 30 = .ok (.areturn, 1) := by decide +kernel
theorem dX8_wordOf_31 : decode cX8_wordOf 31 = .ok (.ldc 96, 2) := by decide +kernel
theorem dX8_wordOf_33 : decode cX8_wordOf 33 = .ok (.areturn, 1) := by decide +kernel
theorem dX8_wordOf_34 : decode cX8_wordOf 34 = .ok (.ldc 98, 2) := by decide +kernel
theorem dX8_wordOf_36 : decode cX8_wordOf 36 = .ok (.areturn, 1) := by decide +kernel
theorem dX8_namesOf_0 : decode cX8_namesOf 0 = .ok (.iload_n 0, 1) := by decide +kernel
theorem dX8_namesOf_1 : decode cX8_namesOf 1 = .ok (.lookupswitch 33 #[(0, 27), (1, 30)], 27) := by decide +kernel
theorem dX8_namesOf_28 : decode cX8_namesOf 28 = .ok (.ldc 100, 2) := by decide +kernel
theorem dX8_namesOf_30 : decode cX8_namesOf 30 = .ok (.areturn, 1) := by decide +kernel
theorem dX8_namesOf_31 : decode cX8_namesOf 31 = .ok (.ldc 102, 2) := by decide +kernel
theorem dX8_namesOf_33 : decode cX8_namesOf 33 = .ok (.areturn, 1) := by decide +kernel
theorem dX8_namesOf_34 : decode cX8_namesOf 34 = .ok (.ldc 104, 2) := by decide +kernel
theorem dX8_namesOf_36 : decode cX8_namesOf 36 = .ok (.areturn, 1) := by decide +kernel
theorem dX8_levelInHand_0 : decode cX8_levelInHand 0 = .ok (.aload_n 0, 1) := by decide +kernel
theorem dX8_levelInHand_1 : decode cX8_levelInHand 1 = .ok (.getfield 29, 3) := by decide +kernel
theorem dX8_levelInHand_4 : decode cX8_levelInHand 4 = .ok (.iconst 3, 1) := by decide +kernel
theorem dX8_levelInHand_5 : decode cX8_levelInHand 5 = .ok (.if_icmp .eq 5, 3) := by decide +kernel
theorem dX8_levelInHand_8 : decode cX8_levelInHand 8 = .ok (.iconst (-1), 1) := by decide +kernel
theorem dX8_levelInHand_9 : decode cX8_levelInHand 9 = .ok (.ireturn, 1) := by decide +kernel
theorem dX8_levelInHand_10 : decode cX8_levelInHand 10 = .ok (.aload_n 0, 1) := by decide +kernel
theorem dX8_levelInHand_11 : decode cX8_levelInHand 11 = .ok (.aload_n 0, 1) := by decide +kernel
theorem dX8_levelInHand_12 : decode cX8_levelInHand 12 = .ok (.getfield 63, 3) := by decide +kernel
theorem dX8_levelInHand_15 : decode cX8_levelInHand 15 = .ok (.invokevirtual 66, 3) := by decide +kernel
theorem dX8_levelInHand_18 : decode cX8_levelInHand 18 = .ok (.lookupswitch 100 #[(38, 84), (42, 96), (43, 92), (45, 94), (47, 98), (60, 86), (61, 88), (62, 90), (124, 82)], 82) := by decide +kernel
theorem dX8_levelInHand_100 : decode cX8_levelInHand 100 = .ok (.iconst 0, 1) := by decide +kernel
theorem dX8_levelInHand_101 : decode cX8_levelInHand 101 = .ok (.ireturn, 1) := by decide +kernel
theorem dX8_levelInHand_102 : decode cX8_levelInHand 102 = .ok (.iconst 1, 1) := by decide +kernel
theorem dX8_levelInHand_103 : decode cX8_levelInHand 103 = .ok (.ireturn, 1) := by decide +kernel
theorem dX8_levelInHand_104 : decode cX8_levelInHand 104 = .ok (.iconst 2, 1) := by decide +kernel
theorem dX8_levelInHand_105 : decode cX8_levelInHand 105 = .ok (.ireturn, 1) := by decide +kernel
theorem dX8_levelInHand_106 : decode cX8_levelInHand 106 = .ok (.iconst 2, 1) := by decide +kernel
theorem dX8_levelInHand_107 : decode cX8_levelInHand 107 = .ok (.ireturn, 1) := by decide +kernel
theorem dX8_levelInHand_108 : decode cX8_levelInHand 108 = .ok (.iconst 2, 1) := by decide +kernel
theorem dX8_levelInHand_109 : decode cX8_levelInHand 109 = .ok (.ireturn, 1) := by decide +kernel
theorem dX8_levelInHand_110 : decode cX8_levelInHand 110 = .ok (.iconst 3, 1) := by decide +kernel
theorem dX8_levelInHand_111 : decode cX8_levelInHand 111 = .ok (.ireturn, 1) := by decide +kernel
theorem dX8_levelInHand_112 : decode cX8_levelInHand 112 = .ok (.iconst 3, 1) := by decide +kernel
theorem dX8_levelInHand_113 : decode cX8_levelInHand 113 = .ok (.ireturn, 1) := by decide +kernel
theorem dX8_levelInHand_114 : decode cX8_levelInHand 114 = .ok (.iconst 4, 1) := by decide +kernel
theorem dX8_levelInHand_115 : decode cX8_levelInHand 115 = .ok (.ireturn, 1) := by decide +kernel
theorem dX8_levelInHand_116 : decode cX8_levelInHand 116 = .ok (.iconst 4, 1) := by decide +kernel
theorem dX8_levelInHand_117 : decode cX8_levelInHand 117 = .ok (.ireturn, 1) := by decide +kernel
theorem dX8_levelInHand_118 : decode cX8_levelInHand 118 = .ok (.iconst (-1), 1) := by decide +kernel
theorem dX8_levelInHand_119 : decode cX8_levelInHand 119 = .ok (.ireturn, 1) := by decide +kernel
theorem dX8_readsChain_0 : decode cX8_readsChain 0 = .ok (.iload_n 1, 1) := by decide +kernel
theorem dX8_readsChain_1 : decode cX8_readsChain 1 = .ok (.iconst 5, 1) := by decide +kernel
theorem dX8_readsChain_2 : decode cX8_readsChain 2 = .ok (.if_icmp .lt 10, 3) := by decide +kernel
theorem dX8_readsChain_5 : decode cX8_readsChain 5 = .ok (.aload_n 0, 1) := by decide +kernel
theorem dX8_readsChain_6 : decode cX8_readsChain 6 = .ok (.iload_n 2, 1) := by decide +kernel
theorem dX8_readsChain_7 : decode cX8_readsChain 7 = .ok (.iload_n 3, 1) := by decide +kernel
theorem dX8_readsChain_8 : decode cX8_readsChain 8 = .ok (.invokevirtual 106, 3) := by decide +kernel
theorem dX8_readsChain_11 : decode cX8_readsChain 11 = .ok (.ireturn, 1) := by decide +kernel
theorem dX8_readsChain_12 : decode cX8_readsChain 12 = .ok (.aload_n 0, 1) := by decide +kernel
theorem dX8_readsChain_13 : decode cX8_readsChain 13 = .ok (.iload_n 1, 1) := by decide +kernel
theorem dX8_readsChain_14 : decode cX8_readsChain 14 = .ok (.iconst 1, 1) := by decide +kernel
theorem dX8_readsChain_15 : decode cX8_readsChain 15 = .ok (.iadd, 1) := by decide +kernel
theorem dX8_readsChain_16 : decode cX8_readsChain 16 = .ok (.iload_n 2, 1) := by decide +kernel
theorem dX8_readsChain_17 : decode cX8_readsChain 17 = .ok (.iload_n 3, 1) := by decide +kernel
theorem dX8_readsChain_18 : decode cX8_readsChain 18 = .ok (.invokevirtual 48, 3) := by decide +kernel
theorem dX8_readsChain_21 : decode cX8_readsChain 21 = .ok (.ifCond .ne 5, 3) := by decide +kernel
theorem dX8_readsChain_24 : decode cX8_readsChain 24 = .ok (.iconst 0, 1) := by decide +kernel
theorem dX8_readsChain_25 : decode cX8_readsChain 25 = .ok (.ireturn, 1) := by decide +kernel
theorem dX8_readsChain_26 : decode cX8_readsChain 26 = .ok (.iload_n 1, 1) := by decide +kernel
theorem dX8_readsChain_27 : decode cX8_readsChain 27 = .ok (.iconst 2, 1) := by decide +kernel
theorem dX8_readsChain_28 : decode cX8_readsChain 28 = .ok (.if_icmp .ne 7, 3) := by decide +kernel
theorem dX8_readsChain_31 : decode cX8_readsChain 31 = .ok (.iconst 1, 1) := by decide +kernel
theorem dX8_readsChain_32 : decode cX8_readsChain 32 = .ok (.goto 5, 3) := by decide +kernel
theorem dX8_readsChain_35 : decode cX8_readsChain 35 = .ok (.bipush 96, 2) := by decide +kernel
theorem dX8_readsChain_37 : decode cX8_readsChain 37 = .ok (.istore 4, 2) := by decide +kernel
theorem dX8_readsChain_39 : decode cX8_readsChain 39 = .ok (.iconst 0, 1) := by decide +kernel
theorem dX8_readsChain_40 : decode cX8_readsChain 40 = .ok (.istore 5, 2) := by decide +kernel
theorem dX8_readsChain_42 : decode cX8_readsChain 42 = .ok (.iload 5, 2) := by decide +kernel
theorem dX8_readsChain_44 : decode cX8_readsChain 44 = .ok (.iload 4, 2) := by decide +kernel
theorem dX8_readsChain_46 : decode cX8_readsChain 46 = .ok (.if_icmp .ge 55, 3) := by decide +kernel
theorem dX8_readsChain_49 : decode cX8_readsChain 49 = .ok (.aload_n 0, 1) := by decide +kernel
theorem dX8_readsChain_50 : decode cX8_readsChain 50 = .ok (.invokevirtual 109, 3) := by decide +kernel
theorem dX8_readsChain_53 : decode cX8_readsChain 53 = .ok (.iload_n 1, 1) := by decide +kernel
theorem dX8_readsChain_54 : decode cX8_readsChain 54 = .ok (.if_icmp .ne 47, 3) := by decide +kernel
theorem dX8_readsChain_57 : decode cX8_readsChain 57 = .ok (.aload_n 0, 1) := by decide +kernel
theorem dX8_readsChain_58 : decode cX8_readsChain 58 = .ok (.aload_n 0, 1) := by decide +kernel
theorem dX8_readsChain_59 : decode cX8_readsChain 59 = .ok (.getfield 63, 3) := by decide +kernel
theorem dX8_readsChain_62 : decode cX8_readsChain 62 = .ok (.invokevirtual 66, 3) := by decide +kernel
theorem dX8_readsChain_65 : decode cX8_readsChain 65 = .ok (.istore 6, 2) := by decide +kernel
theorem dX8_readsChain_67 : decode cX8_readsChain 67 = .ok (.aload_n 0, 1) := by decide +kernel
theorem dX8_readsChain_68 : decode cX8_readsChain 68 = .ok (.invokevirtual 38, 3) := by decide +kernel
theorem dX8_readsChain_71 : decode cX8_readsChain 71 = .ok (.aload_n 0, 1) := by decide +kernel
theorem dX8_readsChain_72 : decode cX8_readsChain 72 = .ok (.iload_n 1, 1) := by decide +kernel
theorem dX8_readsChain_73 : decode cX8_readsChain 73 = .ok (.iconst 1, 1) := by decide +kernel
theorem dX8_readsChain_74 : decode cX8_readsChain 74 = .ok (.iadd, 1) := by decide +kernel
theorem dX8_readsChain_75 : decode cX8_readsChain 75 = .ok (.iload_n 2, 1) := by decide +kernel
theorem dX8_readsChain_76 : decode cX8_readsChain 76 = .ok (.iload_n 3, 1) := by decide +kernel
theorem dX8_readsChain_77 : decode cX8_readsChain 77 = .ok (.invokevirtual 48, 3) := by decide +kernel
theorem dX8_readsChain_80 : decode cX8_readsChain 80 = .ok (.ifCond .ne 5, 3) := by decide +kernel
theorem dX8_readsChain_83 : decode cX8_readsChain 83 = .ok (.iconst 0, 1) := by decide +kernel
theorem dX8_readsChain_84 : decode cX8_readsChain 84 = .ok (.ireturn, 1) := by decide +kernel
theorem dX8_readsChain_85 : decode cX8_readsChain 85 = .ok (.aload_n 0, 1) := by decide +kernel
theorem dX8_readsChain_86 : decode cX8_readsChain 86 = .ok (.sipush 20000, 3) := by decide +kernel
theorem dX8_readsChain_89 : decode cX8_readsChain 89 = .ok (.iload 6, 2) := by decide +kernel
theorem dX8_readsChain_91 : decode cX8_readsChain 91 = .ok (.iadd, 1) := by decide +kernel
theorem dX8_readsChain_92 : decode cX8_readsChain 92 = .ok (.invokevirtual 112, 3) := by decide +kernel
theorem dX8_readsChain_95 : decode cX8_readsChain 95 = .ok (.iinc 5 1, 3) := by decide +kernel
theorem dX8_readsChain_98 : decode cX8_readsChain 98 = .ok (.goto (-56), 3) := by decide +kernel
theorem dX8_readsChain_101 : decode cX8_readsChain 101 = .ok (.iconst 1, 1) := by decide +kernel
theorem dX8_readsChain_102 : decode cX8_readsChain 102 = .ok (.ireturn, 1) := by decide +kernel
theorem dX8_readsPiece_0 : decode cX8_readsPiece 0 = .ok (.aload_n 0, 1) := by decide +kernel
theorem dX8_readsPiece_1 : decode cX8_readsPiece 1 = .ok (.getfield 29, 3) := by decide +kernel
theorem dX8_readsPiece_4 : decode cX8_readsPiece 4 = .ok (.iconst 1, 1) := by decide +kernel
theorem dX8_readsPiece_5 : decode cX8_readsPiece 5 = .ok (.if_icmp .eq 11, 3) := by decide +kernel
theorem dX8_readsPiece_8 : decode cX8_readsPiece 8 = .ok (.aload_n 0, 1) := by decide +kernel
theorem dX8_readsPiece_9 : decode cX8_readsPiece 9 = .ok (.getfield 29, 3) := by decide +kernel
theorem dX8_readsPiece_12 : decode cX8_readsPiece 12 = .ok (.iconst 2, 1) := by decide +kernel
theorem dX8_readsPiece_13 : decode cX8_readsPiece 13 = .ok (.if_icmp .ne 8, 3) := by decide +kernel
theorem dX8_readsPiece_16 : decode cX8_readsPiece 16 = .ok (.aload_n 0, 1) := by decide +kernel
theorem dX8_readsPiece_17 : decode cX8_readsPiece 17 = .ok (.invokevirtual 116, 3) := by decide +kernel
theorem dX8_readsPiece_20 : decode cX8_readsPiece 20 = .ok (.ireturn, 1) := by decide +kernel
theorem dX8_readsPiece_21 : decode cX8_readsPiece 21 = .ok (.aload_n 0, 1) := by decide +kernel
theorem dX8_readsPiece_22 : decode cX8_readsPiece 22 = .ok (.bipush 33, 2) := by decide +kernel
theorem dX8_readsPiece_24 : decode cX8_readsPiece 24 = .ok (.invokevirtual 120, 3) := by decide +kernel
theorem dX8_readsPiece_27 : decode cX8_readsPiece 27 = .ok (.ifCond .eq 31, 3) := by decide +kernel
theorem dX8_readsPiece_30 : decode cX8_readsPiece 30 = .ok (.iload_n 2, 1) := by decide +kernel
theorem dX8_readsPiece_31 : decode cX8_readsPiece 31 = .ok (.bipush 8, 2) := by decide +kernel
theorem dX8_readsPiece_33 : decode cX8_readsPiece 33 = .ok (.if_icmp .ge 25, 3) := by decide +kernel
theorem dX8_readsPiece_36 : decode cX8_readsPiece 36 = .ok (.aload_n 0, 1) := by decide +kernel
theorem dX8_readsPiece_37 : decode cX8_readsPiece 37 = .ok (.invokevirtual 38, 3) := by decide +kernel
theorem dX8_readsPiece_40 : decode cX8_readsPiece 40 = .ok (.aload_n 0, 1) := by decide +kernel
theorem dX8_readsPiece_41 : decode cX8_readsPiece 41 = .ok (.iload_n 1, 1) := by decide +kernel
theorem dX8_readsPiece_42 : decode cX8_readsPiece 42 = .ok (.iload_n 2, 1) := by decide +kernel
theorem dX8_readsPiece_43 : decode cX8_readsPiece 43 = .ok (.iconst 1, 1) := by decide +kernel
theorem dX8_readsPiece_44 : decode cX8_readsPiece 44 = .ok (.iadd, 1) := by decide +kernel
theorem dX8_readsPiece_45 : decode cX8_readsPiece 45 = .ok (.invokevirtual 106, 3) := by decide +kernel
theorem dX8_readsPiece_48 : decode cX8_readsPiece 48 = .ok (.istore_n 3, 1) := by decide +kernel
theorem dX8_readsPiece_49 : decode cX8_readsPiece 49 = .ok (.aload_n 0, 1) := by decide +kernel
theorem dX8_readsPiece_50 : decode cX8_readsPiece 50 = .ok (.sipush 20033, 3) := by decide +kernel
theorem dX8_readsPiece_53 : decode cX8_readsPiece 53 = .ok (.invokevirtual 112, 3) := by decide +kernel
theorem dX8_readsPiece_56 : decode cX8_readsPiece 56 = .ok (.iload_n 3, 1) := by decide +kernel
theorem dX8_readsPiece_57 : decode cX8_readsPiece 57 = .ok (.ireturn, 1) := by decide +kernel
theorem dX8_readsPiece_58 : decode cX8_readsPiece 58 = .ok (.aload_n 0, 1) := by decide +kernel
theorem dX8_readsPiece_59 : decode cX8_readsPiece 59 = .ok (.bipush 40, 2) := by decide +kernel
theorem dX8_readsPiece_61 : decode cX8_readsPiece 61 = .ok (.invokevirtual 120, 3) := by decide +kernel
theorem dX8_readsPiece_64 : decode cX8_readsPiece 64 = .ok (.ifCond .eq 40, 3) := by decide +kernel
theorem dX8_readsPiece_67 : decode cX8_readsPiece 67 = .ok (.iload_n 1, 1) := by decide +kernel
theorem dX8_readsPiece_68 : decode cX8_readsPiece 68 = .ok (.bipush 8, 2) := by decide +kernel
theorem dX8_readsPiece_70 : decode cX8_readsPiece 70 = .ok (.if_icmp .ge 34, 3) := by decide +kernel
theorem dX8_readsPiece_73 : decode cX8_readsPiece 73 = .ok (.aload_n 0, 1) := by decide +kernel
theorem dX8_readsPiece_74 : decode cX8_readsPiece 74 = .ok (.invokevirtual 38, 3) := by decide +kernel
theorem dX8_readsPiece_77 : decode cX8_readsPiece 77 = .ok (.aload_n 0, 1) := by decide +kernel
theorem dX8_readsPiece_78 : decode cX8_readsPiece 78 = .ok (.iconst 0, 1) := by decide +kernel
theorem dX8_readsPiece_79 : decode cX8_readsPiece 79 = .ok (.iload_n 1, 1) := by decide +kernel
theorem dX8_readsPiece_80 : decode cX8_readsPiece 80 = .ok (.iconst 1, 1) := by decide +kernel
theorem dX8_readsPiece_81 : decode cX8_readsPiece 81 = .ok (.iadd, 1) := by decide +kernel
theorem dX8_readsPiece_82 : decode cX8_readsPiece 82 = .ok (.iload_n 2, 1) := by decide +kernel
theorem dX8_readsPiece_83 : decode cX8_readsPiece 83 = .ok (.invokevirtual 48, 3) := by decide +kernel
theorem dX8_readsPiece_86 : decode cX8_readsPiece 86 = .ok (.ifCond .eq 18, 3) := by decide +kernel
theorem dX8_readsPiece_89 : decode cX8_readsPiece 89 = .ok (.aload_n 0, 1) := by decide +kernel
theorem dX8_readsPiece_90 : decode cX8_readsPiece 90 = .ok (.bipush 41, 2) := by decide +kernel
theorem dX8_readsPiece_92 : decode cX8_readsPiece 92 = .ok (.invokevirtual 120, 3) := by decide +kernel
theorem dX8_readsPiece_95 : decode cX8_readsPiece 95 = .ok (.ifCond .eq 9, 3) := by decide +kernel
theorem dX8_readsPiece_98 : decode cX8_readsPiece 98 = .ok (.aload_n 0, 1) := by decide +kernel
theorem dX8_readsPiece_99 : decode cX8_readsPiece 99 = .ok (.invokevirtual 38, 3) := by decide +kernel
theorem dX8_readsPiece_102 : decode cX8_readsPiece 102 = .ok (.iconst 1, 1) := by decide +kernel
theorem dX8_readsPiece_103 : decode cX8_readsPiece 103 = .ok (.ireturn, 1) := by decide +kernel
theorem dX8_readsPiece_104 : decode cX8_readsPiece 104 = .ok (.iconst 0, 1) := by decide +kernel
theorem dX8_readsPiece_105 : decode cX8_readsPiece 105 = .ok (.ireturn, 1) := by decide +kernel
theorem dX8_readsOperand_0 : decode cX8_readsOperand 0 = .ok (.aload_n 0, 1) := by decide +kernel
theorem dX8_readsOperand_1 : decode cX8_readsOperand 1 = .ok (.getfield 29, 3) := by decide +kernel
theorem dX8_readsOperand_4 : decode cX8_readsOperand 4 = .ok (.iconst 2, 1) := by decide +kernel
theorem dX8_readsOperand_5 : decode cX8_readsOperand 5 = .ok (.if_icmp .ne 10, 3) := by decide +kernel
theorem dX8_readsOperand_8 : decode cX8_readsOperand 8 = .ok (.aload_n 0, 1) := by decide +kernel
theorem dX8_readsOperand_9 : decode cX8_readsOperand 9 = .ok (.invokevirtual 124, 3) := by decide +kernel
theorem dX8_readsOperand_12 : decode cX8_readsOperand 12 = .ok (.goto 7, 3) := by decide +kernel
theorem dX8_readsOperand_15 : decode cX8_readsOperand 15 = .ok (.aload_n 0, 1) := by decide +kernel
theorem dX8_readsOperand_16 : decode cX8_readsOperand 16 = .ok (.invokevirtual 127, 3) := by decide +kernel
theorem dX8_readsOperand_19 : decode cX8_readsOperand 19 = .ok (.istore_n 1, 1) := by decide +kernel
theorem dX8_readsOperand_20 : decode cX8_readsOperand 20 = .ok (.aload_n 0, 1) := by decide +kernel
theorem dX8_readsOperand_21 : decode cX8_readsOperand 21 = .ok (.getfield 73, 3) := by decide +kernel
theorem dX8_readsOperand_24 : decode cX8_readsOperand 24 = .ok (.ifCond .ne 7, 3) := by decide +kernel
theorem dX8_readsOperand_27 : decode cX8_readsOperand 27 = .ok (.iload_n 1, 1) := by decide +kernel
theorem dX8_readsOperand_28 : decode cX8_readsOperand 28 = .ok (.ifCond .ge 5, 3) := by decide +kernel
theorem dX8_readsOperand_31 : decode cX8_readsOperand 31 = .ok (.iconst 0, 1) := by decide +kernel
theorem dX8_readsOperand_32 : decode cX8_readsOperand 32 = .ok (.ireturn, 1) := by decide +kernel
theorem dX8_readsOperand_33 : decode cX8_readsOperand 33 = .ok (.aload_n 0, 1) := by decide +kernel
theorem dX8_readsOperand_34 : decode cX8_readsOperand 34 = .ok (.iload_n 1, 1) := by decide +kernel
theorem dX8_readsOperand_35 : decode cX8_readsOperand 35 = .ok (.invokevirtual 112, 3) := by decide +kernel
theorem dX8_readsOperand_38 : decode cX8_readsOperand 38 = .ok (.aload_n 0, 1) := by decide +kernel
theorem dX8_readsOperand_39 : decode cX8_readsOperand 39 = .ok (.dup, 1) := by decide +kernel
theorem dX8_readsOperand_40 : decode cX8_readsOperand 40 = .ok (.getfield 32, 3) := by decide +kernel
theorem dX8_readsOperand_43 : decode cX8_readsOperand 43 = .ok (.iconst 1, 1) := by decide +kernel
theorem dX8_readsOperand_44 : decode cX8_readsOperand 44 = .ok (.iadd, 1) := by decide +kernel
theorem dX8_readsOperand_45 : decode cX8_readsOperand 45 = .ok (.putfield 32, 3) := by decide +kernel
theorem dX8_readsOperand_48 : decode cX8_readsOperand 48 = .ok (.aload_n 0, 1) := by decide +kernel
theorem dX8_readsOperand_49 : decode cX8_readsOperand 49 = .ok (.invokevirtual 38, 3) := by decide +kernel
theorem dX8_readsOperand_52 : decode cX8_readsOperand 52 = .ok (.iconst 1, 1) := by decide +kernel
theorem dX8_readsOperand_53 : decode cX8_readsOperand 53 = .ok (.ireturn, 1) := by decide +kernel
theorem dX8_numberInHand_0 : decode cX8_numberInHand 0 = .ok (.aload_n 0, 1) := by decide +kernel
theorem dX8_numberInHand_1 : decode cX8_numberInHand 1 = .ok (.getfield 26, 3) := by decide +kernel
theorem dX8_numberInHand_4 : decode cX8_numberInHand 4 = .ok (.aload_n 0, 1) := by decide +kernel
theorem dX8_numberInHand_5 : decode cX8_numberInHand 5 = .ok (.getfield 63, 3) := by decide +kernel
theorem dX8_numberInHand_8 : decode cX8_numberInHand 8 = .ok (.isub, 1) := by decide +kernel
theorem dX8_numberInHand_9 : decode cX8_numberInHand 9 = .ok (.iconst 4, 1) := by decide +kernel
theorem dX8_numberInHand_10 : decode cX8_numberInHand 10 = .ok (.if_icmp .le 5, 3) := by decide +kernel
theorem dX8_numberInHand_13 : decode cX8_numberInHand 13 = .ok (.iconst (-1), 1) := by decide +kernel
theorem dX8_numberInHand_14 : decode cX8_numberInHand 14 = .ok (.ireturn, 1) := by decide +kernel
theorem dX8_numberInHand_15 : decode cX8_numberInHand 15 = .ok (.iconst 0, 1) := by decide +kernel
theorem dX8_numberInHand_16 : decode cX8_numberInHand 16 = .ok (.istore_n 1, 1) := by decide +kernel
theorem dX8_numberInHand_17 : decode cX8_numberInHand 17 = .ok (.aload_n 0, 1) := by decide +kernel
theorem dX8_numberInHand_18 : decode cX8_numberInHand 18 = .ok (.getfield 63, 3) := by decide +kernel
theorem dX8_numberInHand_21 : decode cX8_numberInHand 21 = .ok (.istore_n 2, 1) := by decide +kernel
theorem dX8_numberInHand_22 : decode cX8_numberInHand 22 = .ok (.iload_n 2, 1) := by decide +kernel
theorem dX8_numberInHand_23 : decode cX8_numberInHand 23 = .ok (.aload_n 0, 1) := by decide +kernel
theorem dX8_numberInHand_24 : decode cX8_numberInHand 24 = .ok (.getfield 26, 3) := by decide +kernel
theorem dX8_numberInHand_27 : decode cX8_numberInHand 27 = .ok (.if_icmp .ge 23, 3) := by decide +kernel
theorem dX8_numberInHand_30 : decode cX8_numberInHand 30 = .ok (.bipush 10, 2) := by decide +kernel
theorem dX8_numberInHand_32 : decode cX8_numberInHand 32 = .ok (.iload_n 1, 1) := by decide +kernel
theorem dX8_numberInHand_33 : decode cX8_numberInHand 33 = .ok (.imul, 1) := by decide +kernel
theorem dX8_numberInHand_34 : decode cX8_numberInHand 34 = .ok (.aload_n 0, 1) := by decide +kernel
theorem dX8_numberInHand_35 : decode cX8_numberInHand 35 = .ok (.iload_n 2, 1) := by decide +kernel
theorem dX8_numberInHand_36 : decode cX8_numberInHand 36 = .ok (.invokevirtual 66, 3) := by decide +kernel
theorem dX8_numberInHand_39 : decode cX8_numberInHand 39 = .ok (.iadd, 1) := by decide +kernel
theorem dX8_numberInHand_40 : decode cX8_numberInHand 40 = .ok (.bipush 48, 2) := by decide +kernel
theorem dX8_numberInHand_42 : decode cX8_numberInHand 42 = .ok (.isub, 1) := by decide +kernel
theorem dX8_numberInHand_43 : decode cX8_numberInHand 43 = .ok (.istore_n 1, 1) := by decide +kernel
theorem dX8_numberInHand_44 : decode cX8_numberInHand 44 = .ok (.iinc 2 1, 3) := by decide +kernel
theorem dX8_numberInHand_47 : decode cX8_numberInHand 47 = .ok (.goto (-25), 3) := by decide +kernel
theorem dX8_numberInHand_50 : decode cX8_numberInHand 50 = .ok (.iload_n 1, 1) := by decide +kernel
theorem dX8_numberInHand_51 : decode cX8_numberInHand 51 = .ok (.ireturn, 1) := by decide +kernel
theorem dX8_nameInHand_0 : decode cX8_nameInHand 0 = .ok (.aload_n 0, 1) := by decide +kernel
theorem dX8_nameInHand_1 : decode cX8_nameInHand 1 = .ok (.getfield 26, 3) := by decide +kernel
theorem dX8_nameInHand_4 : decode cX8_nameInHand 4 = .ok (.aload_n 0, 1) := by decide +kernel
theorem dX8_nameInHand_5 : decode cX8_nameInHand 5 = .ok (.getfield 63, 3) := by decide +kernel
theorem dX8_nameInHand_8 : decode cX8_nameInHand 8 = .ok (.isub, 1) := by decide +kernel
theorem dX8_nameInHand_9 : decode cX8_nameInHand 9 = .ok (.iconst 1, 1) := by decide +kernel
theorem dX8_nameInHand_10 : decode cX8_nameInHand 10 = .ok (.if_icmp .ne 25, 3) := by decide +kernel
theorem dX8_nameInHand_13 : decode cX8_nameInHand 13 = .ok (.aload_n 0, 1) := by decide +kernel
theorem dX8_nameInHand_14 : decode cX8_nameInHand 14 = .ok (.getfield 45, 3) := by decide +kernel
theorem dX8_nameInHand_17 : decode cX8_nameInHand 17 = .ok (.invokestatic 130, 3) := by decide +kernel
theorem dX8_nameInHand_20 : decode cX8_nameInHand 20 = .ok (.aload_n 0, 1) := by decide +kernel
theorem dX8_nameInHand_21 : decode cX8_nameInHand 21 = .ok (.aload_n 0, 1) := by decide +kernel
theorem dX8_nameInHand_22 : decode cX8_nameInHand 22 = .ok (.getfield 63, 3) := by decide +kernel
theorem dX8_nameInHand_25 : decode cX8_nameInHand 25 = .ok (.invokevirtual 66, 3) := by decide +kernel
theorem dX8_nameInHand_28 : decode cX8_nameInHand 28 = .ok (.i2c, 1) := by decide +kernel
theorem dX8_nameInHand_29 : decode cX8_nameInHand 29 = .ok (.invokevirtual 133, 3) := by decide +kernel
theorem dX8_nameInHand_32 : decode cX8_nameInHand 32 = .ok (.goto 4, 3) := by decide +kernel
theorem dX8_nameInHand_35 : decode cX8_nameInHand 35 = .ok (.iconst (-1), 1) := by decide +kernel
theorem dX8_nameInHand_36 : decode cX8_nameInHand 36 = .ok (.istore_n 1, 1) := by decide +kernel
theorem dX8_nameInHand_37 : decode cX8_nameInHand 37 = .ok (.iload_n 1, 1) := by decide +kernel
theorem dX8_nameInHand_38 : decode cX8_nameInHand 38 = .ok (.ifCond .ge 7, 3) := by decide +kernel
theorem dX8_nameInHand_41 : decode cX8_nameInHand 41 = .ok (.iconst (-1), 1) := by decide +kernel
theorem dX8_nameInHand_42 : decode cX8_nameInHand 42 = .ok (.goto 8, 3) := by decide +kernel
theorem dX8_nameInHand_45 : decode cX8_nameInHand 45 = .ok (.sipush 10000, 3) := by decide +kernel
theorem dX8_nameInHand_48 : decode cX8_nameInHand 48 = .ok (.iload_n 1, 1) := by decide +kernel
theorem dX8_nameInHand_49 : decode cX8_nameInHand 49 = .ok (.iadd, 1) := by decide +kernel
theorem dX8_nameInHand_50 : decode cX8_nameInHand 50 = .ok (.ireturn, 1) := by decide +kernel
theorem dX8_write_0 : decode cX8_write 0 = .ok (.aload_n 0, 1) := by decide +kernel
theorem dX8_write_1 : decode cX8_write 1 = .ok (.getfield 35, 3) := by decide +kernel
theorem dX8_write_4 : decode cX8_write 4 = .ok (.bipush 96, 2) := by decide +kernel
theorem dX8_write_6 : decode cX8_write 6 = .ok (.invokestatic 22, 3) := by decide +kernel
theorem dX8_write_9 : decode cX8_write 9 = .ok (.ifCond .eq 23, 3) := by decide +kernel
theorem dX8_write_12 : decode cX8_write 12 = .ok (.aload_n 0, 1) := by decide +kernel
theorem dX8_write_13 : decode cX8_write 13 = .ok (.getfield 15, 3) := by decide +kernel
theorem dX8_write_16 : decode cX8_write 16 = .ok (.aload_n 0, 1) := by decide +kernel
theorem dX8_write_17 : decode cX8_write 17 = .ok (.getfield 35, 3) := by decide +kernel
theorem dX8_write_20 : decode cX8_write 20 = .ok (.iload_n 1, 1) := by decide +kernel
theorem dX8_write_21 : decode cX8_write 21 = .ok (.iastore, 1) := by decide +kernel
theorem dX8_write_22 : decode cX8_write 22 = .ok (.aload_n 0, 1) := by decide +kernel
theorem dX8_write_23 : decode cX8_write 23 = .ok (.dup, 1) := by decide +kernel
theorem dX8_write_24 : decode cX8_write 24 = .ok (.getfield 35, 3) := by decide +kernel
theorem dX8_write_27 : decode cX8_write 27 = .ok (.iconst 1, 1) := by decide +kernel
theorem dX8_write_28 : decode cX8_write 28 = .ok (.iadd, 1) := by decide +kernel
theorem dX8_write_29 : decode cX8_write 29 = .ok (.putfield 35, 3) := by decide +kernel
theorem dX8_write_32 : decode cX8_write 32 = .ok (.return_, 1) := by decide +kernel
theorem dX9_init_0 : decode cX9_init 0 = .ok (.aload_n 0, 1) := by decide +kernel
theorem dX9_init_1 : decode cX9_init 1 = .ok (.invokespecial 3, 3) := by decide +kernel
theorem dX9_init_4 : decode cX9_init 4 = .ok (.aload_n 0, 1) := by decide +kernel
theorem dX9_init_5 : decode cX9_init 5 = .ok (.iload_n 1, 1) := by decide +kernel
theorem dX9_init_6 : decode cX9_init 6 = .ok (.putfield 9, 3) := by decide +kernel
theorem dX9_init_9 : decode cX9_init 9 = .ok (.aload_n 0, 1) := by decide +kernel
theorem dX9_init_10 : decode cX9_init 10 = .ok (.iload_n 2, 1) := by decide +kernel
theorem dX9_init_11 : decode cX9_init 11 = .ok (.putfield 15, 3) := by decide +kernel
theorem dX9_init_14 : decode cX9_init 14 = .ok (.aload_n 0, 1) := by decide +kernel
theorem dX9_init_15 : decode cX9_init 15 = .ok (.aload_n 3, 1) := by decide +kernel
theorem dX9_init_16 : decode cX9_init 16 = .ok (.putfield 18, 3) := by decide +kernel
theorem dX9_init_19 : decode cX9_init 19 = .ok (.aload_n 0, 1) := by decide +kernel
theorem dX9_init_20 : decode cX9_init 20 = .ok (.iconst 1, 1) := by decide +kernel
theorem dX9_init_21 : decode cX9_init 21 = .ok (.iload_n 2, 1) := by decide +kernel
theorem dX9_init_22 : decode cX9_init 22 = .ok (.invokestatic 22, 3) := by decide +kernel
theorem dX9_init_25 : decode cX9_init 25 = .ok (.newarray .int, 2) := by decide +kernel
theorem dX9_init_27 : decode cX9_init 27 = .ok (.putfield 28, 3) := by decide +kernel
theorem dX9_init_30 : decode cX9_init 30 = .ok (.return_, 1) := by decide +kernel
theorem dX9_workOut_0 : decode cX9_workOut 0 = .ok (.iconst 0, 1) := by decide +kernel
theorem dX9_workOut_1 : decode cX9_workOut 1 = .ok (.istore 4, 2) := by decide +kernel
theorem dX9_workOut_3 : decode cX9_workOut 3 = .ok (.iconst 0, 1) := by decide +kernel
theorem dX9_workOut_4 : decode cX9_workOut 4 = .ok (.istore 5, 2) := by decide +kernel
theorem dX9_workOut_6 : decode cX9_workOut 6 = .ok (.iload 5, 2) := by decide +kernel
theorem dX9_workOut_8 : decode cX9_workOut 8 = .ok (.aload_n 0, 1) := by decide +kernel
theorem dX9_workOut_9 : decode cX9_workOut 9 = .ok (.getfield 18, 3) := by decide +kernel
theorem dX9_workOut_12 : decode cX9_workOut 12 = .ok (.arraylength, 1) := by decide +kernel
theorem dX9_workOut_13 : decode cX9_workOut 13 = .ok (.if_icmp .ge 165, 3) := by decide +kernel
theorem dX9_workOut_16 : decode cX9_workOut 16 = .ok (.aload_n 0, 1) := by decide +kernel
theorem dX9_workOut_17 : decode cX9_workOut 17 = .ok (.getfield 18, 3) := by decide +kernel
theorem dX9_workOut_20 : decode cX9_workOut 20 = .ok (.iload 5, 2) := by decide +kernel
theorem dX9_workOut_22 : decode cX9_workOut 22 = .ok (.iaload, 1) := by decide +kernel
theorem dX9_workOut_23 : decode cX9_workOut 23 = .ok (.istore 6, 2) := by decide +kernel
theorem dX9_workOut_25 : decode cX9_workOut 25 = .ok (.iload 6, 2) := by decide +kernel
theorem dX9_workOut_27 : decode cX9_workOut 27 = .ok (.sipush 20000, 3) := by decide +kernel
theorem dX9_workOut_30 : decode cX9_workOut 30 = .ok (.if_icmp .ge 37, 3) := by decide +kernel
theorem dX9_workOut_33 : decode cX9_workOut 33 = .ok (.iload 4, 2) := by decide +kernel
theorem dX9_workOut_35 : decode cX9_workOut 35 = .ok (.aload_n 0, 1) := by decide +kernel
theorem dX9_workOut_36 : decode cX9_workOut 36 = .ok (.getfield 28, 3) := by decide +kernel
theorem dX9_workOut_39 : decode cX9_workOut 39 = .ok (.arraylength, 1) := by decide +kernel
theorem dX9_workOut_40 : decode cX9_workOut 40 = .ok (.invokestatic 31, 3) := by decide +kernel
theorem dX9_workOut_43 : decode cX9_workOut 43 = .ok (.ifCond .eq 129, 3) := by decide +kernel
theorem dX9_workOut_46 : decode cX9_workOut 46 = .ok (.aload_n 0, 1) := by decide +kernel
theorem dX9_workOut_47 : decode cX9_workOut 47 = .ok (.getfield 28, 3) := by decide +kernel
theorem dX9_workOut_50 : decode cX9_workOut 50 = .ok (.iload 4, 2) := by decide +kernel
theorem dX9_workOut_52 : decode cX9_workOut 52 = .ok (.iload 6, 2) := by decide +kernel
theorem dX9_workOut_54 : decode cX9_workOut 54 = .ok (.iload_n 1, 1) := by decide +kernel
theorem dX9_workOut_55 : decode cX9_workOut 55 = .ok (.iload_n 2, 1) := by decide +kernel
theorem dX9_workOut_56 : decode cX9_workOut 56 = .ok (.iload_n 3, 1) := by decide +kernel
theorem dX9_workOut_57 : decode cX9_workOut 57 = .ok (.invokestatic 35, 3) := by decide +kernel
theorem dX9_workOut_60 : decode cX9_workOut 60 = .ok (.iastore, 1) := by decide +kernel
theorem dX9_workOut_61 : decode cX9_workOut 61 = .ok (.iinc 4 1, 3) := by decide +kernel
theorem dX9_workOut_64 : decode cX9_workOut 64 = .ok (.goto 108, 3) := by decide +kernel
theorem dX9_workOut_67 : decode cX9_workOut 67 = .ok (.iload 6, 2) := by decide +kernel
theorem dX9_workOut_69 : decode cX9_workOut 69 = .ok (.sipush 20033, 3) := by decide +kernel
theorem dX9_workOut_72 : decode cX9_workOut 72 = .ok (.if_icmp .ne 47, 3) := by decide +kernel
theorem dX9_workOut_75 : decode cX9_workOut 75 = .ok (.iload 4, 2) := by decide +kernel
theorem dX9_workOut_77 : decode cX9_workOut 77 = .ok (.iconst 1, 1) := by decide +kernel
theorem dX9_workOut_78 : decode cX9_workOut 78 = .ok (.isub, 1) := by decide +kernel
theorem dX9_workOut_79 : decode cX9_workOut 79 = .ok (.aload_n 0, 1) := by decide +kernel
theorem dX9_workOut_80 : decode cX9_workOut 80 = .ok (.getfield 28, 3) := by decide +kernel
theorem dX9_workOut_83 : decode cX9_workOut 83 = .ok (.arraylength, 1) := by decide +kernel
theorem dX9_workOut_84 : decode cX9_workOut 84 = .ok (.invokestatic 31, 3) := by decide +kernel
theorem dX9_workOut_87 : decode cX9_workOut 87 = .ok (.ifCond .eq 85, 3) := by decide +kernel
theorem dX9_workOut_90 : decode cX9_workOut 90 = .ok (.aload_n 0, 1) := by decide +kernel
theorem dX9_workOut_91 : decode cX9_workOut 91 = .ok (.getfield 28, 3) := by decide +kernel
theorem dX9_workOut_94 : decode cX9_workOut 94 = .ok (.iload 4, 2) := by decide +kernel
theorem dX9_workOut_96 : decode cX9_workOut 96 = .ok (.iconst 1, 1) := by decide +kernel
theorem dX9_workOut_97 : decode cX9_workOut 97 = .ok (.isub, 1) := by decide +kernel
theorem dX9_workOut_98 : decode cX9_workOut 98 = .ok (.aload_n 0, 1) := by decide +kernel
theorem dX9_workOut_99 : decode cX9_workOut 99 = .ok (.getfield 28, 3) := by decide +kernel
theorem dX9_workOut_102 : decode cX9_workOut 102 = .ok (.iload 4, 2) := by decide +kernel
theorem dX9_workOut_104 : decode cX9_workOut 104 = .ok (.iconst 1, 1) := by decide +kernel
theorem dX9_workOut_105 : decode cX9_workOut 105 = .ok (.isub, 1) := by decide +kernel
theorem dX9_workOut_106 : decode cX9_workOut 106 = .ok (.iaload, 1) := by decide +kernel
theorem dX9_workOut_107 : decode cX9_workOut 107 = .ok (.ifCond .ne 7, 3) := by decide +kernel
theorem dX9_workOut_110 : decode cX9_workOut 110 = .ok (.iconst 1, 1) := by decide +kernel
theorem dX9_workOut_111 : decode cX9_workOut 111 = .ok (.goto 4, 3) := by decide +kernel
theorem dX9_workOut_114 : decode cX9_workOut 114 = .ok (.iconst 0, 1) := by decide +kernel
theorem dX9_workOut_115 : decode cX9_workOut 115 = .ok (.iastore, 1) := by decide +kernel
theorem dX9_workOut_116 : decode cX9_workOut 116 = .ok (.goto 56, 3) := by decide +kernel
theorem dX9_workOut_119 : decode cX9_workOut 119 = .ok (.iload 4, 2) := by decide +kernel
theorem dX9_workOut_121 : decode cX9_workOut 121 = .ok (.iconst 1, 1) := by decide +kernel
theorem dX9_workOut_122 : decode cX9_workOut 122 = .ok (.if_icmp .le 50, 3) := by decide +kernel
theorem dX9_workOut_125 : decode cX9_workOut 125 = .ok (.iload 4, 2) := by decide +kernel
theorem dX9_workOut_127 : decode cX9_workOut 127 = .ok (.aload_n 0, 1) := by decide +kernel
theorem dX9_workOut_128 : decode cX9_workOut 128 = .ok (.getfield 28, 3) := by decide +kernel
theorem dX9_workOut_131 : decode cX9_workOut 131 = .ok (.arraylength, 1) := by decide +kernel
theorem dX9_workOut_132 : decode cX9_workOut 132 = .ok (.if_icmp .gt 40, 3) := by decide +kernel
theorem dX9_workOut_135 : decode cX9_workOut 135 = .ok (.iinc 4 (-1), 3) := by decide +kernel
theorem dX9_workOut_138 : decode cX9_workOut 138 = .ok (.aload_n 0, 1) := by decide +kernel
theorem dX9_workOut_139 : decode cX9_workOut 139 = .ok (.getfield 28, 3) := by decide +kernel
theorem dX9_workOut_142 : decode cX9_workOut 142 = .ok (.iload 4, 2) := by decide +kernel
theorem dX9_workOut_144 : decode cX9_workOut 144 = .ok (.iconst 1, 1) := by decide +kernel
theorem dX9_workOut_145 : decode cX9_workOut 145 = .ok (.isub, 1) := by decide +kernel
theorem dX9_workOut_146 : decode cX9_workOut 146 = .ok (.iload 6, 2) := by decide +kernel
theorem dX9_workOut_148 : decode cX9_workOut 148 = .ok (.sipush 20000, 3) := by decide +kernel
theorem dX9_workOut_151 : decode cX9_workOut 151 = .ok (.isub, 1) := by decide +kernel
theorem dX9_workOut_152 : decode cX9_workOut 152 = .ok (.aload_n 0, 1) := by decide +kernel
theorem dX9_workOut_153 : decode cX9_workOut 153 = .ok (.getfield 28, 3) := by decide +kernel
theorem dX9_workOut_156 : decode cX9_workOut 156 = .ok (.iload 4, 2) := by decide +kernel
theorem dX9_workOut_158 : decode cX9_workOut 158 = .ok (.iconst 1, 1) := by decide +kernel
theorem dX9_workOut_159 : decode cX9_workOut 159 = .ok (.isub, 1) := by decide +kernel
theorem dX9_workOut_160 : decode cX9_workOut 160 = .ok (.iaload, 1) := by decide +kernel
theorem dX9_workOut_161 : decode cX9_workOut 161 = .ok (.aload_n 0, 1) := by decide +kernel
theorem dX9_workOut_162 : decode cX9_workOut 162 = .ok (.getfield 28, 3) := by decide +kernel
theorem dX9_workOut_165 : decode cX9_workOut 165 = .ok (.iload 4, 2) := by decide +kernel
theorem dX9_workOut_167 : decode cX9_workOut 167 = .ok (.iaload, 1) := by decide +kernel
theorem dX9_workOut_168 : decode cX9_workOut 168 = .ok (.invokestatic 39, 3) := by decide +kernel
theorem dX9_workOut_171 : decode cX9_workOut 171 = .ok (.iastore, 1) := by decide +kernel
theorem dX9_workOut_172 : decode cX9_workOut 172 = .ok (.iinc 5 1, 3) := by decide +kernel
theorem dX9_workOut_175 : decode cX9_workOut 175 = .ok (.goto (-169), 3) := by decide +kernel
theorem dX9_workOut_178 : decode cX9_workOut 178 = .ok (.iload 4, 2) := by decide +kernel
theorem dX9_workOut_180 : decode cX9_workOut 180 = .ok (.iconst 1, 1) := by decide +kernel
theorem dX9_workOut_181 : decode cX9_workOut 181 = .ok (.if_icmp .ne 12, 3) := by decide +kernel
theorem dX9_workOut_184 : decode cX9_workOut 184 = .ok (.aload_n 0, 1) := by decide +kernel
theorem dX9_workOut_185 : decode cX9_workOut 185 = .ok (.getfield 28, 3) := by decide +kernel
theorem dX9_workOut_188 : decode cX9_workOut 188 = .ok (.iconst 0, 1) := by decide +kernel
theorem dX9_workOut_189 : decode cX9_workOut 189 = .ok (.iaload, 1) := by decide +kernel
theorem dX9_workOut_190 : decode cX9_workOut 190 = .ok (.goto 4, 3) := by decide +kernel
theorem dX9_workOut_193 : decode cX9_workOut 193 = .ok (.iconst 0, 1) := by decide +kernel
theorem dX9_workOut_194 : decode cX9_workOut 194 = .ok (.ireturn, 1) := by decide +kernel
theorem dX9_valueOf_0 : decode cX9_valueOf 0 = .ok (.iload_n 0, 1) := by decide +kernel
theorem dX9_valueOf_1 : decode cX9_valueOf 1 = .ok (.tableswitch 33 10000 10002 #[27, 29, 31], 27) := by decide +kernel
theorem dX9_valueOf_28 : decode cX9_valueOf 28 = .ok (.iload_n 1, 1) := by decide +kernel
theorem dX9_valueOf_29 : decode cX9_valueOf 29 = .ok (.ireturn, 1) := by decide +kernel
theorem dX9_valueOf_30 : decode cX9_valueOf 30 = .ok (.iload_n 2, 1) := by decide +kernel
theorem dX9_valueOf_31 : decode cX9_valueOf 31 = .ok (.ireturn, 1) := by decide +kernel
theorem dX9_valueOf_32 : decode cX9_valueOf 32 = .ok (.iload_n 3, 1) := by decide +kernel
theorem dX9_valueOf_33 : decode cX9_valueOf 33 = .ok (.ireturn, 1) := by decide +kernel
theorem dX9_valueOf_34 : decode cX9_valueOf 34 = .ok (.iload_n 0, 1) := by decide +kernel
theorem dX9_valueOf_35 : decode cX9_valueOf 35 = .ok (.ireturn, 1) := by decide +kernel
theorem dX9_joined_0 : decode cX9_joined 0 = .ok (.iload_n 0, 1) := by decide +kernel
theorem dX9_joined_1 : decode cX9_joined 1 = .ok (.lookupswitch 148 #[(38, 89), (42, 144), (43, 136), (45, 140), (60, 103), (61, 114), (62, 125), (124, 75)], 75) := by decide +kernel
theorem dX9_joined_76 : decode cX9_joined 76 = .ok (.iload_n 1, 1) := by decide +kernel
theorem dX9_joined_77 : decode cX9_joined 77 = .ok (.ifCond .ne 7, 3) := by decide +kernel
theorem dX9_joined_80 : decode cX9_joined 80 = .ok (.iload_n 2, 1) := by decide +kernel
theorem dX9_joined_81 : decode cX9_joined 81 = .ok (.ifCond .eq 7, 3) := by decide +kernel
theorem dX9_joined_84 : decode cX9_joined 84 = .ok (.iconst 1, 1) := by decide +kernel
theorem dX9_joined_85 : decode cX9_joined 85 = .ok (.goto 4, 3) := by decide +kernel
theorem dX9_joined_88 : decode cX9_joined 88 = .ok (.iconst 0, 1) := by decide +kernel
theorem dX9_joined_89 : decode cX9_joined 89 = .ok (.ireturn, 1) := by decide +kernel
theorem dX9_joined_90 : decode cX9_joined 90 = .ok (.iload_n 1, 1) := by decide +kernel
theorem dX9_joined_91 : decode cX9_joined 91 = .ok (.ifCond .eq 11, 3) := by decide +kernel
theorem dX9_joined_94 : decode cX9_joined 94 = .ok (.iload_n 2, 1) := by decide +kernel
theorem dX9_joined_95 : decode cX9_joined 95 = .ok (.ifCond .eq 7, 3) := by decide +kernel
theorem dX9_joined_98 : decode cX9_joined 98 = .ok (.iconst 1, 1) := by decide +kernel
theorem dX9_joined_99 : decode cX9_joined 99 = .ok (.goto 4, 3) := by decide +kernel
theorem dX9_joined_102 : decode cX9_joined 102 = .ok (.iconst 0, 1) := by decide +kernel
theorem dX9_joined_103 : decode cX9_joined 103 = .ok (.ireturn, 1) := by decide +kernel
theorem dX9_joined_104 : decode cX9_joined 104 = .ok (.iload_n 1, 1) := by decide +kernel
theorem dX9_joined_105 : decode cX9_joined 105 = .ok (.iload_n 2, 1) := by decide +kernel
theorem dX9_joined_106 : decode cX9_joined 106 = .ok (.if_icmp .ge 7, 3) := by decide +kernel
theorem dX9_joined_109 : decode cX9_joined 109 = .ok (.iconst 1, 1) := by decide +kernel
theorem dX9_joined_110 : decode cX9_joined 110 = .ok (.goto 4, 3) := by decide +kernel
theorem dX9_joined_113 : decode cX9_joined 113 = .ok (.iconst 0, 1) := by decide +kernel
theorem dX9_joined_114 : decode cX9_joined 114 = .ok (.ireturn, 1) := by decide +kernel
theorem dX9_joined_115 : decode cX9_joined 115 = .ok (.iload_n 1, 1) := by decide +kernel
theorem dX9_joined_116 : decode cX9_joined 116 = .ok (.iload_n 2, 1) := by decide +kernel
theorem dX9_joined_117 : decode cX9_joined 117 = .ok (.if_icmp .ne 7, 3) := by decide +kernel
theorem dX9_joined_120 : decode cX9_joined 120 = .ok (.iconst 1, 1) := by decide +kernel
theorem dX9_joined_121 : decode cX9_joined 121 = .ok (.goto 4, 3) := by decide +kernel
theorem dX9_joined_124 : decode cX9_joined 124 = .ok (.iconst 0, 1) := by decide +kernel
theorem dX9_joined_125 : decode cX9_joined 125 = .ok (.ireturn, 1) := by decide +kernel
theorem dX9_joined_126 : decode cX9_joined 126 = .ok (.iload_n 1, 1) := by decide +kernel
theorem dX9_joined_127 : decode cX9_joined 127 = .ok (.iload_n 2, 1) := by decide +kernel
theorem dX9_joined_128 : decode cX9_joined 128 = .ok (.if_icmp .le 7, 3) := by decide +kernel
theorem dX9_joined_131 : decode cX9_joined 131 = .ok (.iconst 1, 1) := by decide +kernel
theorem dX9_joined_132 : decode cX9_joined 132 = .ok (.goto 4, 3) := by decide +kernel
theorem dX9_joined_135 : decode cX9_joined 135 = .ok (.iconst 0, 1) := by decide +kernel
theorem dX9_joined_136 : decode cX9_joined 136 = .ok (.ireturn, 1) := by decide +kernel
theorem dX9_joined_137 : decode cX9_joined 137 = .ok (.iload_n 1, 1) := by decide +kernel
theorem dX9_joined_138 : decode cX9_joined 138 = .ok (.iload_n 2, 1) := by decide +kernel
theorem dX9_joined_139 : decode cX9_joined 139 = .ok (.iadd, 1) := by decide +kernel
theorem dX9_joined_140 : decode cX9_joined 140 = .ok (.ireturn, 1) := by decide +kernel
theorem dX9_joined_141 : decode cX9_joined 141 = .ok (.iload_n 1, 1) := by decide +kernel
theorem dX9_joined_142 : decode cX9_joined 142 = .ok (.iload_n 2, 1) := by decide +kernel
theorem dX9_joined_143 : decode cX9_joined 143 = .ok (.isub, 1) := by decide +kernel
theorem dX9_joined_144 : decode cX9_joined 144 = .ok (.ireturn, 1) := by decide +kernel
theorem dX9_joined_145 : decode cX9_joined 145 = .ok (.iload_n 1, 1) := by decide +kernel
theorem dX9_joined_146 : decode cX9_joined 146 = .ok (.iload_n 2, 1) := by decide +kernel
theorem dX9_joined_147 : decode cX9_joined 147 = .ok (.imul, 1) := by decide +kernel
theorem dX9_joined_148 : decode cX9_joined 148 = .ok (.ireturn, 1) := by decide +kernel
theorem dX9_joined_149 : decode cX9_joined 149 = .ok (.iload_n 2, 1) := by decide +kernel
theorem dX9_joined_150 : decode cX9_joined 150 = .ok (.ifCond .ne 7, 3) := by decide +kernel
theorem dX9_joined_153 : decode cX9_joined 153 = .ok (.iconst 0, 1) := by decide +kernel
theorem dX9_joined_154 : decode cX9_joined 154 = .ok (.goto 6, 3) := by decide +kernel
theorem dX9_joined_157 : decode cX9_joined 157 = .ok (.iload_n 1, 1) := by decide +kernel
theorem dX9_joined_158 : decode cX9_joined 158 = .ok (.iload_n 2, 1) := by decide +kernel
theorem dX9_joined_159 : decode cX9_joined 159 = .ok (.idiv, 1) := by decide +kernel
theorem dX9_joined_160 : decode cX9_joined 160 = .ok (.ireturn, 1) := by decide +kernel
theorem dX10_init_0 : decode cX10_init 0 = .ok (.aload_n 0, 1) := by decide +kernel
theorem dX10_init_1 : decode cX10_init 1 = .ok (.invokespecial 3, 3) := by decide +kernel
theorem dX10_init_4 : decode cX10_init 4 = .ok (.aload_n 0, 1) := by decide +kernel
theorem dX10_init_5 : decode cX10_init 5 = .ok (.new 9, 3) := by decide +kernel
theorem dX10_init_8 : decode cX10_init 8 = .ok (.dup, 1) := by decide +kernel
theorem dX10_init_9 : decode cX10_init 9 = .ok (.invokespecial 11, 3) := by decide +kernel
theorem dX10_init_12 : decode cX10_init 12 = .ok (.putfield 12, 3) := by decide +kernel
theorem dX10_init_15 : decode cX10_init 15 = .ok (.aload_n 0, 1) := by decide +kernel
theorem dX10_init_16 : decode cX10_init 16 = .ok (.new 9, 3) := by decide +kernel
theorem dX10_init_19 : decode cX10_init 19 = .ok (.dup, 1) := by decide +kernel
theorem dX10_init_20 : decode cX10_init 20 = .ok (.invokespecial 11, 3) := by decide +kernel
theorem dX10_init_23 : decode cX10_init 23 = .ok (.putfield 16, 3) := by decide +kernel
theorem dX10_init_26 : decode cX10_init 26 = .ok (.aload_n 0, 1) := by decide +kernel
theorem dX10_init_27 : decode cX10_init 27 = .ok (.new 19, 3) := by decide +kernel
theorem dX10_init_30 : decode cX10_init 30 = .ok (.dup, 1) := by decide +kernel
theorem dX10_init_31 : decode cX10_init 31 = .ok (.invokespecial 21, 3) := by decide +kernel
theorem dX10_init_34 : decode cX10_init 34 = .ok (.putfield 22, 3) := by decide +kernel
theorem dX10_init_37 : decode cX10_init 37 = .ok (.aload_n 0, 1) := by decide +kernel
theorem dX10_init_38 : decode cX10_init 38 = .ok (.new 26, 3) := by decide +kernel
theorem dX10_init_41 : decode cX10_init 41 = .ok (.dup, 1) := by decide +kernel
theorem dX10_init_42 : decode cX10_init 42 = .ok (.invokespecial 28, 3) := by decide +kernel
theorem dX10_init_45 : decode cX10_init 45 = .ok (.putfield 29, 3) := by decide +kernel
theorem dX10_init_48 : decode cX10_init 48 = .ok (.aload_n 0, 1) := by decide +kernel
theorem dX10_init_49 : decode cX10_init 49 = .ok (.new 33, 3) := by decide +kernel
theorem dX10_init_52 : decode cX10_init 52 = .ok (.dup, 1) := by decide +kernel
theorem dX10_init_53 : decode cX10_init 53 = .ok (.invokespecial 35, 3) := by decide +kernel
theorem dX10_init_56 : decode cX10_init 56 = .ok (.putfield 36, 3) := by decide +kernel
theorem dX10_init_59 : decode cX10_init 59 = .ok (.aload_n 0, 1) := by decide +kernel
theorem dX10_init_60 : decode cX10_init 60 = .ok (.iconst 4, 1) := by decide +kernel
theorem dX10_init_61 : decode cX10_init 61 = .ok (.anewarray 40, 3) := by decide +kernel
theorem dX10_init_64 : decode cX10_init 64 = .ok (.putfield 42, 3) := by decide +kernel
theorem dX10_init_67 : decode cX10_init 67 = .ok (.aload_n 0, 1) := by decide +kernel
theorem dX10_init_68 : decode cX10_init 68 = .ok (.iconst 5, 1) := by decide +kernel
theorem dX10_init_69 : decode cX10_init 69 = .ok (.anewarray 46, 3) := by decide +kernel
theorem dX10_init_72 : decode cX10_init 72 = .ok (.putfield 48, 3) := by decide +kernel
theorem dX10_init_75 : decode cX10_init 75 = .ok (.aload_n 0, 1) := by decide +kernel
theorem dX10_init_76 : decode cX10_init 76 = .ok (.bipush 60, 2) := by decide +kernel
theorem dX10_init_78 : decode cX10_init 78 = .ok (.newarray .int, 2) := by decide +kernel
theorem dX10_init_80 : decode cX10_init 80 = .ok (.putfield 52, 3) := by decide +kernel
theorem dX10_init_83 : decode cX10_init 83 = .ok (.iconst 0, 1) := by decide +kernel
theorem dX10_init_84 : decode cX10_init 84 = .ok (.istore_n 1, 1) := by decide +kernel
theorem dX10_init_85 : decode cX10_init 85 = .ok (.iload_n 1, 1) := by decide +kernel
theorem dX10_init_86 : decode cX10_init 86 = .ok (.iconst 4, 1) := by decide +kernel
theorem dX10_init_87 : decode cX10_init 87 = .ok (.if_icmp .ge 22, 3) := by decide +kernel
theorem dX10_init_90 : decode cX10_init 90 = .ok (.aload_n 0, 1) := by decide +kernel
theorem dX10_init_91 : decode cX10_init 91 = .ok (.getfield 42, 3) := by decide +kernel
theorem dX10_init_94 : decode cX10_init 94 = .ok (.iload_n 1, 1) := by decide +kernel
theorem dX10_init_95 : decode cX10_init 95 = .ok (.new 40, 3) := by decide +kernel
theorem dX10_init_98 : decode cX10_init 98 = .ok (.dup, 1) := by decide +kernel
theorem dX10_init_99 : decode cX10_init 99 = .ok (.invokespecial 56, 3) := by decide +kernel
theorem dX10_init_102 : decode cX10_init 102 = .ok (.aastore, 1) := by decide +kernel
theorem dX10_init_103 : decode cX10_init 103 = .ok (.iinc 1 1, 3) := by decide +kernel
theorem dX10_init_106 : decode cX10_init 106 = .ok (.goto (-21), 3) := by decide +kernel
theorem dX10_init_109 : decode cX10_init 109 = .ok (.iconst 0, 1) := by decide +kernel
theorem dX10_init_110 : decode cX10_init 110 = .ok (.istore_n 1, 1) := by decide +kernel
theorem dX10_init_111 : decode cX10_init 111 = .ok (.iload_n 1, 1) := by decide +kernel
theorem dX10_init_112 : decode cX10_init 112 = .ok (.iconst 5, 1) := by decide +kernel
theorem dX10_init_113 : decode cX10_init 113 = .ok (.if_icmp .ge 22, 3) := by decide +kernel
theorem dX10_init_116 : decode cX10_init 116 = .ok (.aload_n 0, 1) := by decide +kernel
theorem dX10_init_117 : decode cX10_init 117 = .ok (.getfield 48, 3) := by decide +kernel
theorem dX10_init_120 : decode cX10_init 120 = .ok (.iload_n 1, 1) := by decide +kernel
theorem dX10_init_121 : decode cX10_init 121 = .ok (.new 46, 3) := by decide +kernel
theorem dX10_init_124 : decode cX10_init 124 = .ok (.dup, 1) := by decide +kernel
theorem dX10_init_125 : decode cX10_init 125 = .ok (.invokespecial 57, 3) := by decide +kernel
theorem dX10_init_128 : decode cX10_init 128 = .ok (.aastore, 1) := by decide +kernel
theorem dX10_init_129 : decode cX10_init 129 = .ok (.iinc 1 1, 3) := by decide +kernel
theorem dX10_init_132 : decode cX10_init 132 = .ok (.goto (-21), 3) := by decide +kernel
theorem dX10_init_135 : decode cX10_init 135 = .ok (.return_, 1) := by decide +kernel
theorem dX10_master_0 : decode cX10_master 0 = .ok (.iload_n 1, 1) := by decide +kernel
theorem dX10_master_1 : decode cX10_master 1 = .ok (.bipush 6, 2) := by decide +kernel
theorem dX10_master_3 : decode cX10_master 3 = .ok (.invokestatic 58, 3) := by decide +kernel
theorem dX10_master_6 : decode cX10_master 6 = .ok (.ifCond .eq 31, 3) := by decide +kernel
theorem dX10_master_9 : decode cX10_master 9 = .ok (.iload_n 2, 1) := by decide +kernel
theorem dX10_master_10 : decode cX10_master 10 = .ok (.bipush 6, 2) := by decide +kernel
theorem dX10_master_12 : decode cX10_master 12 = .ok (.invokestatic 58, 3) := by decide +kernel
theorem dX10_master_15 : decode cX10_master 15 = .ok (.ifCond .eq 22, 3) := by decide +kernel
theorem dX10_master_18 : decode cX10_master 18 = .ok (.iload_n 3, 1) := by decide +kernel
theorem dX10_master_19 : decode cX10_master 19 = .ok (.bipush 10, 2) := by decide +kernel
theorem dX10_master_21 : decode cX10_master 21 = .ok (.invokestatic 58, 3) := by decide +kernel
theorem dX10_master_24 : decode cX10_master 24 = .ok (.ifCond .eq 13, 3) := by decide +kernel
theorem dX10_master_27 : decode cX10_master 27 = .ok (.iload 4, 2) := by decide +kernel
theorem dX10_master_29 : decode cX10_master 29 = .ok (.bipush 100, 2) := by decide +kernel
theorem dX10_master_31 : decode cX10_master 31 = .ok (.invokestatic 58, 3) := by decide +kernel
theorem dX10_master_34 : decode cX10_master 34 = .ok (.ifCond .ne 6, 3) := by decide +kernel
theorem dX10_master_37 : decode cX10_master 37 = .ok (.ldc 62, 2) := by decide +kernel
theorem dX10_master_39 : decode cX10_master 39 = .ok (.ireturn, 1) := by decide +kernel
theorem dX10_master_40 : decode cX10_master 40 = .ok (.aload_n 0, 1) := by decide +kernel
theorem dX10_master_41 : decode cX10_master 41 = .ok (.getfield 12, 3) := by decide +kernel
theorem dX10_master_44 : decode cX10_master 44 = .ok (.getfield 63, 3) := by decide +kernel
theorem dX10_master_47 : decode cX10_master 47 = .ok (.getfield 66, 3) := by decide +kernel
theorem dX10_master_50 : decode cX10_master 50 = .ok (.istore 5, 2) := by decide +kernel
theorem dX10_master_52 : decode cX10_master 52 = .ok (.aload_n 0, 1) := by decide +kernel
theorem dX10_master_53 : decode cX10_master 53 = .ok (.getfield 12, 3) := by decide +kernel
theorem dX10_master_56 : decode cX10_master 56 = .ok (.getfield 63, 3) := by decide +kernel
theorem dX10_master_59 : decode cX10_master 59 = .ok (.iload_n 1, 1) := by decide +kernel
theorem dX10_master_60 : decode cX10_master 60 = .ok (.iload_n 2, 1) := by decide +kernel
theorem dX10_master_61 : decode cX10_master 61 = .ok (.iload_n 3, 1) := by decide +kernel
theorem dX10_master_62 : decode cX10_master 62 = .ok (.iload 4, 2) := by decide +kernel
theorem dX10_master_64 : decode cX10_master 64 = .ok (.invokevirtual 70, 3) := by decide +kernel
theorem dX10_master_67 : decode cX10_master 67 = .ok (.ifCond .eq 8, 3) := by decide +kernel
theorem dX10_master_70 : decode cX10_master 70 = .ok (.iload 5, 2) := by decide +kernel
theorem dX10_master_72 : decode cX10_master 72 = .ok (.goto 5, 3) := by decide +kernel
theorem dX10_master_75 : decode cX10_master 75 = .ok (.ldc 74, 2) := by decide +kernel
theorem dX10_master_77 : decode cX10_master 77 = .ok (.ireturn, 1) := by decide +kernel
theorem dX10_told_0 : decode cX10_told 0 = .ok (.aload_n 0, 1) := by decide +kernel
theorem dX10_told_1 : decode cX10_told 1 = .ok (.getfield 12, 3) := by decide +kernel
theorem dX10_told_4 : decode cX10_told 4 = .ok (.getfield 63, 3) := by decide +kernel
theorem dX10_told_7 : decode cX10_told 7 = .ok (.iload_n 1, 1) := by decide +kernel
theorem dX10_told_8 : decode cX10_told 8 = .ok (.invokevirtual 75, 3) := by decide +kernel
theorem dX10_told_11 : decode cX10_told 11 = .ok (.astore_n 3, 1) := by decide +kernel
theorem dX10_told_12 : decode cX10_told 12 = .ok (.aload_n 3, 1) := by decide +kernel
theorem dX10_told_13 : decode cX10_told 13 = .ok (.ifnonnull 6, 3) := by decide +kernel
theorem dX10_told_16 : decode cX10_told 16 = .ok (.ldc 62, 2) := by decide +kernel
theorem dX10_told_18 : decode cX10_told 18 = .ok (.ireturn, 1) := by decide +kernel
theorem dX10_told_19 : decode cX10_told 19 = .ok (.aload_n 0, 1) := by decide +kernel
theorem dX10_told_20 : decode cX10_told 20 = .ok (.getfield 12, 3) := by decide +kernel
theorem dX10_told_23 : decode cX10_told 23 = .ok (.getfield 79, 3) := by decide +kernel
theorem dX10_told_26 : decode cX10_told 26 = .ok (.astore 4, 2) := by decide +kernel
theorem dX10_told_28 : decode cX10_told 28 = .ok (.iload_n 2, 1) := by decide +kernel
theorem dX10_told_29 : decode cX10_told 29 = .ok (.tableswitch 138 0 9 #[55, 60, 65, 70, 75, 80, 85, 98, 115, 133], 55) := by decide +kernel
theorem dX10_told_84 : decode cX10_told 84 = .ok (.aload_n 3, 1) := by decide +kernel
theorem dX10_told_85 : decode cX10_told 85 = .ok (.getfield 83, 3) := by decide +kernel
theorem dX10_told_88 : decode cX10_told 88 = .ok (.ireturn, 1) := by decide +kernel
theorem dX10_told_89 : decode cX10_told 89 = .ok (.aload_n 3, 1) := by decide +kernel
theorem dX10_told_90 : decode cX10_told 90 = .ok (.getfield 88, 3) := by decide +kernel
theorem dX10_told_93 : decode cX10_told 93 = .ok (.ireturn, 1) := by decide +kernel
theorem dX10_told_94 : decode cX10_told 94 = .ok (.aload_n 3, 1) := by decide +kernel
theorem dX10_told_95 : decode cX10_told 95 = .ok (.getfield 91, 3) := by decide +kernel
theorem dX10_told_98 : decode cX10_told 98 = .ok (.ireturn, 1) := by decide +kernel
theorem dX10_told_99 : decode cX10_told 99 = .ok (.aload_n 3, 1) := by decide +kernel
theorem dX10_told_100 : decode cX10_told 100 = .ok (.getfield 94, 3) := by decide +kernel
theorem dX10_told_103 : decode cX10_told 103 = .ok (.ireturn, 1) := by decide +kernel
theorem dX10_told_104 : decode cX10_told 104 = .ok (.aload_n 3, 1) := by decide +kernel
theorem dX10_told_105 : decode cX10_told 105 = .ok (.getfield 97, 3) := by decide +kernel
theorem dX10_told_108 : decode cX10_told 108 = .ok (.ireturn, 1) := by decide +kernel
theorem dX10_told_109 : decode cX10_told 109 = .ok (.aload_n 3, 1) := by decide +kernel
theorem dX10_told_110 : decode cX10_told 110 = .ok (.getfield 100, 3) := by decide +kernel
theorem dX10_told_113 : decode cX10_told 113 = .ok (.ireturn, 1) := by decide +kernel
theorem dX10_told_114 : decode cX10_told 114 = .ok (.aload_n 3, 1) := by decide +kernel
theorem dX10_told_115 : decode cX10_told 115 = .ok (.getfield 103, 3) := by decide +kernel
theorem dX10_told_118 : decode cX10_told 118 = .ok (.ifCond .eq 7, 3) := by decide +kernel
theorem dX10_told_121 : decode cX10_told 121 = .ok (.iconst 1, 1) := by decide +kernel
theorem dX10_told_122 : decode cX10_told 122 = .ok (.goto 4, 3) := by decide +kernel
theorem dX10_told_125 : decode cX10_told 125 = .ok (.iconst 0, 1) := by decide +kernel
theorem dX10_told_126 : decode cX10_told 126 = .ok (.ireturn, 1) := by decide +kernel
theorem dX10_told_127 : decode cX10_told 127 = .ok (.aload_n 0, 1) := by decide +kernel
theorem dX10_told_128 : decode cX10_told 128 = .ok (.getfield 12, 3) := by decide +kernel
theorem dX10_told_131 : decode cX10_told 131 = .ok (.aload_n 3, 1) := by decide +kernel
theorem dX10_told_132 : decode cX10_told 132 = .ok (.aload 4, 2) := by decide +kernel
theorem dX10_told_134 : decode cX10_told 134 = .ok (.getfield 107, 3) := by decide +kernel
theorem dX10_told_137 : decode cX10_told 137 = .ok (.invokestatic 112, 3) := by decide +kernel
theorem dX10_told_140 : decode cX10_told 140 = .ok (.invokevirtual 118, 3) := by decide +kernel
theorem dX10_told_143 : decode cX10_told 143 = .ok (.ireturn, 1) := by decide +kernel
theorem dX10_told_144 : decode cX10_told 144 = .ok (.aload_n 3, 1) := by decide +kernel
theorem dX10_told_145 : decode cX10_told 145 = .ok (.aload 4, 2) := by decide +kernel
theorem dX10_told_147 : decode cX10_told 147 = .ok (.getfield 107, 3) := by decide +kernel
theorem dX10_told_150 : decode cX10_told 150 = .ok (.invokevirtual 122, 3) := by decide +kernel
theorem dX10_told_153 : decode cX10_told 153 = .ok (.ifCond .eq 7, 3) := by decide +kernel
theorem dX10_told_156 : decode cX10_told 156 = .ok (.iconst 1, 1) := by decide +kernel
theorem dX10_told_157 : decode cX10_told 157 = .ok (.goto 4, 3) := by decide +kernel
theorem dX10_told_160 : decode cX10_told 160 = .ok (.iconst 0, 1) := by decide +kernel
theorem dX10_told_161 : decode cX10_told 161 = .ok (.ireturn, 1) := by decide +kernel
theorem dX10_told_162 : decode cX10_told 162 = .ok (.aload_n 3, 1) := by decide +kernel
theorem dX10_told_163 : decode cX10_told 163 = .ok (.invokevirtual 126, 3) := by decide +kernel
theorem dX10_told_166 : decode cX10_told 166 = .ok (.ireturn, 1) := by decide +kernel
theorem dX10_told_167 : decode cX10_told 167 = .ok (.ldc 62, 2) := by decide +kernel
theorem dX10_told_169 : decode cX10_told 169 = .ok (.ireturn, 1) := by decide +kernel
theorem dX10_as_0 : decode cX10_as 0 = .ok (.aload_n 0, 1) := by decide +kernel
theorem dX10_as_1 : decode cX10_as 1 = .ok (.getfield 12, 3) := by decide +kernel
theorem dX10_as_4 : decode cX10_as 4 = .ok (.getfield 63, 3) := by decide +kernel
theorem dX10_as_7 : decode cX10_as 7 = .ok (.iload_n 1, 1) := by decide +kernel
theorem dX10_as_8 : decode cX10_as 8 = .ok (.invokevirtual 75, 3) := by decide +kernel
theorem dX10_as_11 : decode cX10_as 11 = .ok (.astore_n 3, 1) := by decide +kernel
theorem dX10_as_12 : decode cX10_as 12 = .ok (.aload_n 3, 1) := by decide +kernel
theorem dX10_as_13 : decode cX10_as 13 = .ok (.ifnull 12, 3) := by decide +kernel
theorem dX10_as_16 : decode cX10_as 16 = .ok (.iload_n 2, 1) := by decide +kernel
theorem dX10_as_17 : decode cX10_as 17 = .ok (.bipush 6, 2) := by decide +kernel
theorem dX10_as_19 : decode cX10_as 19 = .ok (.invokestatic 58, 3) := by decide +kernel
theorem dX10_as_22 : decode cX10_as 22 = .ok (.ifCond .ne 6, 3) := by decide +kernel
theorem dX10_as_25 : decode cX10_as 25 = .ok (.ldc 62, 2) := by decide +kernel
theorem dX10_as_27 : decode cX10_as 27 = .ok (.ireturn, 1) := by decide +kernel
theorem dX10_as_28 : decode cX10_as 28 = .ok (.aload_n 3, 1) := by decide +kernel
theorem dX10_as_29 : decode cX10_as 29 = .ok (.iload_n 2, 1) := by decide +kernel
theorem dX10_as_30 : decode cX10_as 30 = .ok (.invokevirtual 130, 3) := by decide +kernel
theorem dX10_as_33 : decode cX10_as 33 = .ok (.ifCond .eq 10, 3) := by decide +kernel
theorem dX10_as_36 : decode cX10_as 36 = .ok (.aload_n 3, 1) := by decide +kernel
theorem dX10_as_37 : decode cX10_as 37 = .ok (.getfield 97, 3) := by decide +kernel
theorem dX10_as_40 : decode cX10_as 40 = .ok (.goto 5, 3) := by decide +kernel
theorem dX10_as_43 : decode cX10_as 43 = .ok (.ldc 133, 2) := by decide +kernel
theorem dX10_as_45 : decode cX10_as 45 = .ok (.ireturn, 1) := by decide +kernel
theorem dX10_turns_0 : decode cX10_turns 0 = .ok (.aload_n 0, 1) := by decide +kernel
theorem dX10_turns_1 : decode cX10_turns 1 = .ok (.getfield 12, 3) := by decide +kernel
theorem dX10_turns_4 : decode cX10_turns 4 = .ok (.getfield 63, 3) := by decide +kernel
theorem dX10_turns_7 : decode cX10_turns 7 = .ok (.iload_n 1, 1) := by decide +kernel
theorem dX10_turns_8 : decode cX10_turns 8 = .ok (.invokevirtual 75, 3) := by decide +kernel
theorem dX10_turns_11 : decode cX10_turns 11 = .ok (.astore_n 3, 1) := by decide +kernel
theorem dX10_turns_12 : decode cX10_turns 12 = .ok (.aload_n 3, 1) := by decide +kernel
theorem dX10_turns_13 : decode cX10_turns 13 = .ok (.ifnull 12, 3) := by decide +kernel
theorem dX10_turns_16 : decode cX10_turns 16 = .ok (.iload_n 2, 1) := by decide +kernel
theorem dX10_turns_17 : decode cX10_turns 17 = .ok (.bipush 6, 2) := by decide +kernel
theorem dX10_turns_19 : decode cX10_turns 19 = .ok (.invokestatic 58, 3) := by decide +kernel
theorem dX10_turns_22 : decode cX10_turns 22 = .ok (.ifCond .ne 6, 3) := by decide +kernel
theorem dX10_turns_25 : decode cX10_turns 25 = .ok (.ldc 62, 2) := by decide +kernel
theorem dX10_turns_27 : decode cX10_turns 27 = .ok (.ireturn, 1) := by decide +kernel
theorem dX10_turns_28 : decode cX10_turns 28 = .ok (.aload_n 3, 1) := by decide +kernel
theorem dX10_turns_29 : decode cX10_turns 29 = .ok (.getfield 83, 3) := by decide +kernel
theorem dX10_turns_32 : decode cX10_turns 32 = .ok (.istore 4, 2) := by decide +kernel
theorem dX10_turns_34 : decode cX10_turns 34 = .ok (.aload_n 3, 1) := by decide +kernel
theorem dX10_turns_35 : decode cX10_turns 35 = .ok (.iload_n 2, 1) := by decide +kernel
theorem dX10_turns_36 : decode cX10_turns 36 = .ok (.putfield 83, 3) := by decide +kernel
theorem dX10_turns_39 : decode cX10_turns 39 = .ok (.iload 4, 2) := by decide +kernel
theorem dX10_turns_41 : decode cX10_turns 41 = .ok (.ireturn, 1) := by decide +kernel
theorem dX10_set_0 : decode cX10_set 0 = .ok (.aload_n 0, 1) := by decide +kernel
theorem dX10_set_1 : decode cX10_set 1 = .ok (.getfield 12, 3) := by decide +kernel
theorem dX10_set_4 : decode cX10_set 4 = .ok (.getfield 63, 3) := by decide +kernel
theorem dX10_set_7 : decode cX10_set 7 = .ok (.iload_n 1, 1) := by decide +kernel
theorem dX10_set_8 : decode cX10_set 8 = .ok (.invokevirtual 75, 3) := by decide +kernel
theorem dX10_set_11 : decode cX10_set 11 = .ok (.astore 4, 2) := by decide +kernel
theorem dX10_set_13 : decode cX10_set 13 = .ok (.aload 4, 2) := by decide +kernel
theorem dX10_set_15 : decode cX10_set 15 = .ok (.ifnonnull 6, 3) := by decide +kernel
theorem dX10_set_18 : decode cX10_set 18 = .ok (.ldc 62, 2) := by decide +kernel
theorem dX10_set_20 : decode cX10_set 20 = .ok (.ireturn, 1) := by decide +kernel
theorem dX10_set_21 : decode cX10_set 21 = .ok (.iload_n 2, 1) := by decide +kernel
theorem dX10_set_22 : decode cX10_set 22 = .ok (.tableswitch 47 4 6 #[26, 33, 40], 26) := by decide +kernel
theorem dX10_set_48 : decode cX10_set 48 = .ok (.aload 4, 2) := by decide +kernel
theorem dX10_set_50 : decode cX10_set 50 = .ok (.iload_n 3, 1) := by decide +kernel
theorem dX10_set_51 : decode cX10_set 51 = .ok (.invokestatic 134, 3) := by decide +kernel
theorem dX10_set_54 : decode cX10_set 54 = .ok (.ireturn, 1) := by decide +kernel
theorem dX10_set_55 : decode cX10_set 55 = .ok (.aload 4, 2) := by decide +kernel
theorem dX10_set_57 : decode cX10_set 57 = .ok (.iload_n 3, 1) := by decide +kernel
theorem dX10_set_58 : decode cX10_set 58 = .ok (.invokestatic 137, 3) := by decide +kernel
theorem dX10_set_61 : decode cX10_set 61 = .ok (.ireturn, 1) := by decide +kernel
theorem dX10_set_62 : decode cX10_set 62 = .ok (.aload 4, 2) := by decide +kernel
theorem dX10_set_64 : decode cX10_set 64 = .ok (.iload_n 3, 1) := by decide +kernel
theorem dX10_set_65 : decode cX10_set 65 = .ok (.invokestatic 140, 3) := by decide +kernel
theorem dX10_set_68 : decode cX10_set 68 = .ok (.ireturn, 1) := by decide +kernel
theorem dX10_set_69 : decode cX10_set 69 = .ok (.ldc 62, 2) := by decide +kernel
theorem dX10_set_71 : decode cX10_set 71 = .ok (.ireturn, 1) := by decide +kernel
theorem dX10_setFee_0 : decode cX10_setFee 0 = .ok (.iload_n 1, 1) := by decide +kernel
theorem dX10_setFee_1 : decode cX10_setFee 1 = .ok (.bipush 100, 2) := by decide +kernel
theorem dX10_setFee_3 : decode cX10_setFee 3 = .ok (.invokestatic 58, 3) := by decide +kernel
theorem dX10_setFee_6 : decode cX10_setFee 6 = .ok (.ifCond .ne 6, 3) := by decide +kernel
theorem dX10_setFee_9 : decode cX10_setFee 9 = .ok (.ldc 62, 2) := by decide +kernel
theorem dX10_setFee_11 : decode cX10_setFee 11 = .ok (.ireturn, 1) := by decide +kernel
theorem dX10_setFee_12 : decode cX10_setFee 12 = .ok (.aload_n 0, 1) := by decide +kernel
theorem dX10_setFee_13 : decode cX10_setFee 13 = .ok (.getfield 97, 3) := by decide +kernel
theorem dX10_setFee_16 : decode cX10_setFee 16 = .ok (.istore_n 2, 1) := by decide +kernel
theorem dX10_setFee_17 : decode cX10_setFee 17 = .ok (.aload_n 0, 1) := by decide +kernel
theorem dX10_setFee_18 : decode cX10_setFee 18 = .ok (.iload_n 1, 1) := by decide +kernel
theorem dX10_setFee_19 : decode cX10_setFee 19 = .ok (.putfield 97, 3) := by decide +kernel
theorem dX10_setFee_22 : decode cX10_setFee 22 = .ok (.iload_n 2, 1) := by decide +kernel
theorem dX10_setFee_23 : decode cX10_setFee 23 = .ok (.ireturn, 1) := by decide +kernel
theorem dX10_setAge_0 : decode cX10_setAge 0 = .ok (.iload_n 1, 1) := by decide +kernel
theorem dX10_setAge_1 : decode cX10_setAge 1 = .ok (.bipush 100, 2) := by decide +kernel
theorem dX10_setAge_3 : decode cX10_setAge 3 = .ok (.invokestatic 58, 3) := by decide +kernel
theorem dX10_setAge_6 : decode cX10_setAge 6 = .ok (.ifCond .ne 6, 3) := by decide +kernel
theorem dX10_setAge_9 : decode cX10_setAge 9 = .ok (.ldc 62, 2) := by decide +kernel
theorem dX10_setAge_11 : decode cX10_setAge 11 = .ok (.ireturn, 1) := by decide +kernel
theorem dX10_setAge_12 : decode cX10_setAge 12 = .ok (.aload_n 0, 1) := by decide +kernel
theorem dX10_setAge_13 : decode cX10_setAge 13 = .ok (.getfield 100, 3) := by decide +kernel
theorem dX10_setAge_16 : decode cX10_setAge 16 = .ok (.istore_n 2, 1) := by decide +kernel
theorem dX10_setAge_17 : decode cX10_setAge 17 = .ok (.aload_n 0, 1) := by decide +kernel
theorem dX10_setAge_18 : decode cX10_setAge 18 = .ok (.iload_n 1, 1) := by decide +kernel
theorem dX10_setAge_19 : decode cX10_setAge 19 = .ok (.putfield 100, 3) := by decide +kernel
theorem dX10_setAge_22 : decode cX10_setAge 22 = .ok (.iload_n 2, 1) := by decide +kernel
theorem dX10_setAge_23 : decode cX10_setAge 23 = .ok (.ireturn, 1) := by decide +kernel
theorem dX10_setDead_0 : decode cX10_setDead 0 = .ok (.iload_n 1, 1) := by decide +kernel
theorem dX10_setDead_1 : decode cX10_setDead 1 = .ok (.iconst 2, 1) := by decide +kernel
theorem dX10_setDead_2 : decode cX10_setDead 2 = .ok (.invokestatic 58, 3) := by decide +kernel
theorem dX10_setDead_5 : decode cX10_setDead 5 = .ok (.ifCond .ne 6, 3) := by decide +kernel
theorem dX10_setDead_8 : decode cX10_setDead 8 = .ok (.ldc 62, 2) := by decide +kernel
theorem dX10_setDead_10 : decode cX10_setDead 10 = .ok (.ireturn, 1) := by decide +kernel
theorem dX10_setDead_11 : decode cX10_setDead 11 = .ok (.aload_n 0, 1) := by decide +kernel
theorem dX10_setDead_12 : decode cX10_setDead 12 = .ok (.getfield 103, 3) := by decide +kernel
theorem dX10_setDead_15 : decode cX10_setDead 15 = .ok (.ifCond .eq 7, 3) := by decide +kernel
theorem dX10_setDead_18 : decode cX10_setDead 18 = .ok (.iconst 1, 1) := by decide +kernel
theorem dX10_setDead_19 : decode cX10_setDead 19 = .ok (.goto 4, 3) := by decide +kernel
theorem dX10_setDead_22 : decode cX10_setDead 22 = .ok (.iconst 0, 1) := by decide +kernel
theorem dX10_setDead_23 : decode cX10_setDead 23 = .ok (.istore_n 2, 1) := by decide +kernel
theorem dX10_setDead_24 : decode cX10_setDead 24 = .ok (.aload_n 0, 1) := by decide +kernel
theorem dX10_setDead_25 : decode cX10_setDead 25 = .ok (.iload_n 1, 1) := by decide +kernel
theorem dX10_setDead_26 : decode cX10_setDead 26 = .ok (.iconst 1, 1) := by decide +kernel
theorem dX10_setDead_27 : decode cX10_setDead 27 = .ok (.if_icmp .ne 7, 3) := by decide +kernel
theorem dX10_setDead_30 : decode cX10_setDead 30 = .ok (.iconst 1, 1) := by decide +kernel
theorem dX10_setDead_31 : decode cX10_setDead 31 = .ok (.goto 4, 3) := by decide +kernel
theorem dX10_setDead_34 : decode cX10_setDead 34 = .ok (.iconst 0, 1) := by decide +kernel
theorem dX10_setDead_35 : decode cX10_setDead 35 = .ok (.putfield 103, 3) := by decide +kernel
theorem dX10_setDead_38 : decode cX10_setDead 38 = .ok (.iload_n 2, 1) := by decide +kernel
theorem dX10_setDead_39 : decode cX10_setDead 39 = .ok (.ireturn, 1) := by decide +kernel
theorem dX10_bars_0 : decode cX10_bars 0 = .ok (.aload_n 0, 1) := by decide +kernel
theorem dX10_bars_1 : decode cX10_bars 1 = .ok (.getfield 12, 3) := by decide +kernel
theorem dX10_bars_4 : decode cX10_bars 4 = .ok (.getfield 63, 3) := by decide +kernel
theorem dX10_bars_7 : decode cX10_bars 7 = .ok (.iload_n 1, 1) := by decide +kernel
theorem dX10_bars_8 : decode cX10_bars 8 = .ok (.invokevirtual 75, 3) := by decide +kernel
theorem dX10_bars_11 : decode cX10_bars 11 = .ok (.astore 4, 2) := by decide +kernel
theorem dX10_bars_13 : decode cX10_bars 13 = .ok (.aload 4, 2) := by decide +kernel
theorem dX10_bars_15 : decode cX10_bars 15 = .ok (.ifnull 21, 3) := by decide +kernel
theorem dX10_bars_18 : decode cX10_bars 18 = .ok (.iload_n 2, 1) := by decide +kernel
theorem dX10_bars_19 : decode cX10_bars 19 = .ok (.bipush 10, 2) := by decide +kernel
theorem dX10_bars_21 : decode cX10_bars 21 = .ok (.invokestatic 58, 3) := by decide +kernel
theorem dX10_bars_24 : decode cX10_bars 24 = .ok (.ifCond .eq 12, 3) := by decide +kernel
theorem dX10_bars_27 : decode cX10_bars 27 = .ok (.iload_n 3, 1) := by decide +kernel
theorem dX10_bars_28 : decode cX10_bars 28 = .ok (.bipush 10, 2) := by decide +kernel
theorem dX10_bars_30 : decode cX10_bars 30 = .ok (.invokestatic 58, 3) := by decide +kernel
theorem dX10_bars_33 : decode cX10_bars 33 = .ok (.ifCond .ne 6, 3) := by decide +kernel
theorem dX10_bars_36 : decode cX10_bars 36 = .ok (.ldc 62, 2) := by decide +kernel
theorem dX10_bars_38 : decode cX10_bars 38 = .ok (.ireturn, 1) := by decide +kernel
theorem dX10_bars_39 : decode cX10_bars 39 = .ok (.iload_n 2, 1) := by decide +kernel
theorem dX10_bars_40 : decode cX10_bars 40 = .ok (.aload 4, 2) := by decide +kernel
theorem dX10_bars_42 : decode cX10_bars 42 = .ok (.getfield 91, 3) := by decide +kernel
theorem dX10_bars_45 : decode cX10_bars 45 = .ok (.if_icmp .eq 12, 3) := by decide +kernel
theorem dX10_bars_48 : decode cX10_bars 48 = .ok (.iload_n 3, 1) := by decide +kernel
theorem dX10_bars_49 : decode cX10_bars 49 = .ok (.aload 4, 2) := by decide +kernel
theorem dX10_bars_51 : decode cX10_bars 51 = .ok (.getfield 91, 3) := by decide +kernel
theorem dX10_bars_54 : decode cX10_bars 54 = .ok (.if_icmp .ne 6, 3) := by decide +kernel
theorem dX10_bars_57 : decode cX10_bars 57 = .ok (.ldc 62, 2) := by decide +kernel
theorem dX10_bars_59 : decode cX10_bars 59 = .ok (.ireturn, 1) := by decide +kernel
theorem dX10_bars_60 : decode cX10_bars 60 = .ok (.aload 4, 2) := by decide +kernel
theorem dX10_bars_62 : decode cX10_bars 62 = .ok (.getfield 94, 3) := by decide +kernel
theorem dX10_bars_65 : decode cX10_bars 65 = .ok (.istore 5, 2) := by decide +kernel
theorem dX10_bars_67 : decode cX10_bars 67 = .ok (.aload 4, 2) := by decide +kernel
theorem dX10_bars_69 : decode cX10_bars 69 = .ok (.iconst 1, 1) := by decide +kernel
theorem dX10_bars_70 : decode cX10_bars 70 = .ok (.iload_n 2, 1) := by decide +kernel
theorem dX10_bars_71 : decode cX10_bars 71 = .ok (.ishl, 1) := by decide +kernel
theorem dX10_bars_72 : decode cX10_bars 72 = .ok (.iconst 1, 1) := by decide +kernel
theorem dX10_bars_73 : decode cX10_bars 73 = .ok (.iload_n 3, 1) := by decide +kernel
theorem dX10_bars_74 : decode cX10_bars 74 = .ok (.ishl, 1) := by decide +kernel
theorem dX10_bars_75 : decode cX10_bars 75 = .ok (.ior, 1) := by decide +kernel
theorem dX10_bars_76 : decode cX10_bars 76 = .ok (.putfield 94, 3) := by decide +kernel
theorem dX10_bars_79 : decode cX10_bars 79 = .ok (.iload 5, 2) := by decide +kernel
theorem dX10_bars_81 : decode cX10_bars 81 = .ok (.ireturn, 1) := by decide +kernel
theorem dX10_road_0 : decode cX10_road 0 = .ok (.iload_n 1, 1) := by decide +kernel
theorem dX10_road_1 : decode cX10_road 1 = .ok (.bipush 6, 2) := by decide +kernel
theorem dX10_road_3 : decode cX10_road 3 = .ok (.invokestatic 58, 3) := by decide +kernel
theorem dX10_road_6 : decode cX10_road 6 = .ok (.ifCond .eq 26, 3) := by decide +kernel
theorem dX10_road_9 : decode cX10_road 9 = .ok (.iload_n 2, 1) := by decide +kernel
theorem dX10_road_10 : decode cX10_road 10 = .ok (.bipush 6, 2) := by decide +kernel
theorem dX10_road_12 : decode cX10_road 12 = .ok (.invokestatic 58, 3) := by decide +kernel
theorem dX10_road_15 : decode cX10_road 15 = .ok (.ifCond .eq 17, 3) := by decide +kernel
theorem dX10_road_18 : decode cX10_road 18 = .ok (.iload_n 1, 1) := by decide +kernel
theorem dX10_road_19 : decode cX10_road 19 = .ok (.iload_n 2, 1) := by decide +kernel
theorem dX10_road_20 : decode cX10_road 20 = .ok (.if_icmp .eq 12, 3) := by decide +kernel
theorem dX10_road_23 : decode cX10_road 23 = .ok (.iload_n 3, 1) := by decide +kernel
theorem dX10_road_24 : decode cX10_road 24 = .ok (.bipush 10, 2) := by decide +kernel
theorem dX10_road_26 : decode cX10_road 26 = .ok (.invokestatic 58, 3) := by decide +kernel
theorem dX10_road_29 : decode cX10_road 29 = .ok (.ifCond .ne 6, 3) := by decide +kernel
theorem dX10_road_32 : decode cX10_road 32 = .ok (.ldc 62, 2) := by decide +kernel
theorem dX10_road_34 : decode cX10_road 34 = .ok (.ireturn, 1) := by decide +kernel
theorem dX10_road_35 : decode cX10_road 35 = .ok (.aload_n 0, 1) := by decide +kernel
theorem dX10_road_36 : decode cX10_road 36 = .ok (.getfield 12, 3) := by decide +kernel
theorem dX10_road_39 : decode cX10_road 39 = .ok (.getfield 143, 3) := by decide +kernel
theorem dX10_road_42 : decode cX10_road 42 = .ok (.iload_n 1, 1) := by decide +kernel
theorem dX10_road_43 : decode cX10_road 43 = .ok (.iload_n 2, 1) := by decide +kernel
theorem dX10_road_44 : decode cX10_road 44 = .ok (.invokevirtual 147, 3) := by decide +kernel
theorem dX10_road_47 : decode cX10_road 47 = .ok (.istore 4, 2) := by decide +kernel
theorem dX10_road_49 : decode cX10_road 49 = .ok (.aload_n 0, 1) := by decide +kernel
theorem dX10_road_50 : decode cX10_road 50 = .ok (.getfield 12, 3) := by decide +kernel
theorem dX10_road_53 : decode cX10_road 53 = .ok (.getfield 143, 3) := by decide +kernel
theorem dX10_road_56 : decode cX10_road 56 = .ok (.iload_n 1, 1) := by decide +kernel
theorem dX10_road_57 : decode cX10_road 57 = .ok (.iload_n 2, 1) := by decide +kernel
theorem dX10_road_58 : decode cX10_road 58 = .ok (.iload_n 3, 1) := by decide +kernel
theorem dX10_road_59 : decode cX10_road 59 = .ok (.invokevirtual 153, 3) := by decide +kernel
theorem dX10_road_62 : decode cX10_road 62 = .ok (.iload 4, 2) := by decide +kernel
theorem dX10_road_64 : decode cX10_road 64 = .ok (.ireturn, 1) := by decide +kernel
theorem dX10_far_0 : decode cX10_far 0 = .ok (.iload_n 1, 1) := by decide +kernel
theorem dX10_far_1 : decode cX10_far 1 = .ok (.bipush 6, 2) := by decide +kernel
theorem dX10_far_3 : decode cX10_far 3 = .ok (.invokestatic 58, 3) := by decide +kernel
theorem dX10_far_6 : decode cX10_far 6 = .ok (.ifCond .eq 12, 3) := by decide +kernel
theorem dX10_far_9 : decode cX10_far 9 = .ok (.iload_n 2, 1) := by decide +kernel
theorem dX10_far_10 : decode cX10_far 10 = .ok (.bipush 6, 2) := by decide +kernel
theorem dX10_far_12 : decode cX10_far 12 = .ok (.invokestatic 58, 3) := by decide +kernel
theorem dX10_far_15 : decode cX10_far 15 = .ok (.ifCond .ne 6, 3) := by decide +kernel
theorem dX10_far_18 : decode cX10_far 18 = .ok (.ldc 62, 2) := by decide +kernel
theorem dX10_far_20 : decode cX10_far 20 = .ok (.ireturn, 1) := by decide +kernel
theorem dX10_far_21 : decode cX10_far 21 = .ok (.aload_n 0, 1) := by decide +kernel
theorem dX10_far_22 : decode cX10_far 22 = .ok (.getfield 12, 3) := by decide +kernel
theorem dX10_far_25 : decode cX10_far 25 = .ok (.getfield 143, 3) := by decide +kernel
theorem dX10_far_28 : decode cX10_far 28 = .ok (.iload_n 1, 1) := by decide +kernel
theorem dX10_far_29 : decode cX10_far 29 = .ok (.iload_n 2, 1) := by decide +kernel
theorem dX10_far_30 : decode cX10_far 30 = .ok (.invokevirtual 157, 3) := by decide +kernel
theorem dX10_far_33 : decode cX10_far 33 = .ok (.istore_n 3, 1) := by decide +kernel
theorem dX10_far_34 : decode cX10_far 34 = .ok (.iload_n 3, 1) := by decide +kernel
theorem dX10_far_35 : decode cX10_far 35 = .ok (.sipush 9999, 3) := by decide +kernel
theorem dX10_far_38 : decode cX10_far 38 = .ok (.if_icmp .ne 8, 3) := by decide +kernel
theorem dX10_far_41 : decode cX10_far 41 = .ok (.ldc 160, 2) := by decide +kernel
theorem dX10_far_43 : decode cX10_far 43 = .ok (.goto 4, 3) := by decide +kernel
theorem dX10_far_46 : decode cX10_far 46 = .ok (.iload_n 3, 1) := by decide +kernel
theorem dX10_far_47 : decode cX10_far 47 = .ok (.ireturn, 1) := by decide +kernel
theorem dX10_deal_0 : decode cX10_deal 0 = .ok (.iload_n 1, 1) := by decide +kernel
theorem dX10_deal_1 : decode cX10_deal 1 = .ok (.iconst 1, 1) := by decide +kernel
theorem dX10_deal_2 : decode cX10_deal 2 = .ok (.if_icmp .lt 9, 3) := by decide +kernel
theorem dX10_deal_5 : decode cX10_deal 5 = .ok (.iload_n 1, 1) := by decide +kernel
theorem dX10_deal_6 : decode cX10_deal 6 = .ok (.bipush 9, 2) := by decide +kernel
theorem dX10_deal_8 : decode cX10_deal 8 = .ok (.if_icmp .le 6, 3) := by decide +kernel
theorem dX10_deal_11 : decode cX10_deal 11 = .ok (.ldc 62, 2) := by decide +kernel
theorem dX10_deal_13 : decode cX10_deal 13 = .ok (.ireturn, 1) := by decide +kernel
theorem dX10_deal_14 : decode cX10_deal 14 = .ok (.iload_n 1, 1) := by decide +kernel
theorem dX10_deal_15 : decode cX10_deal 15 = .ok (.bipush 9, 2) := by decide +kernel
theorem dX10_deal_17 : decode cX10_deal 17 = .ok (.aload_n 0, 1) := by decide +kernel
theorem dX10_deal_18 : decode cX10_deal 18 = .ok (.getfield 12, 3) := by decide +kernel
theorem dX10_deal_21 : decode cX10_deal 21 = .ok (.getfield 63, 3) := by decide +kernel
theorem dX10_deal_24 : decode cX10_deal 24 = .ok (.getfield 66, 3) := by decide +kernel
theorem dX10_deal_27 : decode cX10_deal 27 = .ok (.isub, 1) := by decide +kernel
theorem dX10_deal_28 : decode cX10_deal 28 = .ok (.invokestatic 161, 3) := by decide +kernel
theorem dX10_deal_31 : decode cX10_deal 31 = .ok (.istore_n 2, 1) := by decide +kernel
theorem dX10_deal_32 : decode cX10_deal 32 = .ok (.iconst 0, 1) := by decide +kernel
theorem dX10_deal_33 : decode cX10_deal 33 = .ok (.istore_n 3, 1) := by decide +kernel
theorem dX10_deal_34 : decode cX10_deal 34 = .ok (.iload_n 3, 1) := by decide +kernel
theorem dX10_deal_35 : decode cX10_deal 35 = .ok (.iload_n 2, 1) := by decide +kernel
theorem dX10_deal_36 : decode cX10_deal 36 = .ok (.if_icmp .ge 19, 3) := by decide +kernel
theorem dX10_deal_39 : decode cX10_deal 39 = .ok (.aload_n 0, 1) := by decide +kernel
theorem dX10_deal_40 : decode cX10_deal 40 = .ok (.getfield 12, 3) := by decide +kernel
theorem dX10_deal_43 : decode cX10_deal 43 = .ok (.getfield 63, 3) := by decide +kernel
theorem dX10_deal_46 : decode cX10_deal 46 = .ok (.invokevirtual 166, 3) := by decide +kernel
theorem dX10_deal_49 : decode cX10_deal 49 = .ok (.iinc 3 1, 3) := by decide +kernel
theorem dX10_deal_52 : decode cX10_deal 52 = .ok (.goto (-18), 3) := by decide +kernel
theorem dX10_deal_55 : decode cX10_deal 55 = .ok (.iload_n 2, 1) := by decide +kernel
theorem dX10_deal_56 : decode cX10_deal 56 = .ok (.ireturn, 1) := by decide +kernel
theorem dX10_seed_0 : decode cX10_seed 0 = .ok (.aload_n 0, 1) := by decide +kernel
theorem dX10_seed_1 : decode cX10_seed 1 = .ok (.getfield 12, 3) := by decide +kernel
theorem dX10_seed_4 : decode cX10_seed 4 = .ok (.getfield 63, 3) := by decide +kernel
theorem dX10_seed_7 : decode cX10_seed 7 = .ok (.getfield 169, 3) := by decide +kernel
theorem dX10_seed_10 : decode cX10_seed 10 = .ok (.istore_n 2, 1) := by decide +kernel
theorem dX10_seed_11 : decode cX10_seed 11 = .ok (.aload_n 0, 1) := by decide +kernel
theorem dX10_seed_12 : decode cX10_seed 12 = .ok (.getfield 12, 3) := by decide +kernel
theorem dX10_seed_15 : decode cX10_seed 15 = .ok (.getfield 63, 3) := by decide +kernel
theorem dX10_seed_18 : decode cX10_seed 18 = .ok (.iload_n 1, 1) := by decide +kernel
theorem dX10_seed_19 : decode cX10_seed 19 = .ok (.putfield 169, 3) := by decide +kernel
theorem dX10_seed_22 : decode cX10_seed 22 = .ok (.iload_n 2, 1) := by decide +kernel
theorem dX10_seed_23 : decode cX10_seed 23 = .ok (.ireturn, 1) := by decide +kernel
theorem dX10_apprentice_0 : decode cX10_apprentice 0 = .ok (.iload_n 1, 1) := by decide +kernel
theorem dX10_apprentice_1 : decode cX10_apprentice 1 = .ok (.tableswitch 75 0 3 #[31, 42, 53, 64], 31) := by decide +kernel
theorem dX10_apprentice_32 : decode cX10_apprentice 32 = .ok (.aload_n 0, 1) := by decide +kernel
theorem dX10_apprentice_33 : decode cX10_apprentice 33 = .ok (.getfield 12, 3) := by decide +kernel
theorem dX10_apprentice_36 : decode cX10_apprentice 36 = .ok (.getfield 79, 3) := by decide +kernel
theorem dX10_apprentice_39 : decode cX10_apprentice 39 = .ok (.getfield 172, 3) := by decide +kernel
theorem dX10_apprentice_42 : decode cX10_apprentice 42 = .ok (.ireturn, 1) := by decide +kernel
theorem dX10_apprentice_43 : decode cX10_apprentice 43 = .ok (.aload_n 0, 1) := by decide +kernel
theorem dX10_apprentice_44 : decode cX10_apprentice 44 = .ok (.getfield 12, 3) := by decide +kernel
theorem dX10_apprentice_47 : decode cX10_apprentice 47 = .ok (.getfield 79, 3) := by decide +kernel
theorem dX10_apprentice_50 : decode cX10_apprentice 50 = .ok (.getfield 107, 3) := by decide +kernel
theorem dX10_apprentice_53 : decode cX10_apprentice 53 = .ok (.ireturn, 1) := by decide +kernel
theorem dX10_apprentice_54 : decode cX10_apprentice 54 = .ok (.aload_n 0, 1) := by decide +kernel
theorem dX10_apprentice_55 : decode cX10_apprentice 55 = .ok (.getfield 12, 3) := by decide +kernel
theorem dX10_apprentice_58 : decode cX10_apprentice 58 = .ok (.getfield 79, 3) := by decide +kernel
theorem dX10_apprentice_61 : decode cX10_apprentice 61 = .ok (.getfield 175, 3) := by decide +kernel
theorem dX10_apprentice_64 : decode cX10_apprentice 64 = .ok (.ireturn, 1) := by decide +kernel
theorem dX10_apprentice_65 : decode cX10_apprentice 65 = .ok (.aload_n 0, 1) := by decide +kernel
theorem dX10_apprentice_66 : decode cX10_apprentice 66 = .ok (.getfield 12, 3) := by decide +kernel
theorem dX10_apprentice_69 : decode cX10_apprentice 69 = .ok (.getfield 79, 3) := by decide +kernel
theorem dX10_apprentice_72 : decode cX10_apprentice 72 = .ok (.getfield 178, 3) := by decide +kernel
theorem dX10_apprentice_75 : decode cX10_apprentice 75 = .ok (.ireturn, 1) := by decide +kernel
theorem dX10_apprentice_76 : decode cX10_apprentice 76 = .ok (.ldc 62, 2) := by decide +kernel
theorem dX10_apprentice_78 : decode cX10_apprentice 78 = .ok (.ireturn, 1) := by decide +kernel
theorem dX10_has_0 : decode cX10_has 0 = .ok (.aload_n 0, 1) := by decide +kernel
theorem dX10_has_1 : decode cX10_has 1 = .ok (.getfield 12, 3) := by decide +kernel
theorem dX10_has_4 : decode cX10_has 4 = .ok (.getfield 79, 3) := by decide +kernel
theorem dX10_has_7 : decode cX10_has 7 = .ok (.astore_n 3, 1) := by decide +kernel
theorem dX10_has_8 : decode cX10_has 8 = .ok (.iload_n 1, 1) := by decide +kernel
theorem dX10_has_9 : decode cX10_has 9 = .ok (.iconst 2, 1) := by decide +kernel
theorem dX10_has_10 : decode cX10_has 10 = .ok (.if_icmp .ne 27, 3) := by decide +kernel
theorem dX10_has_13 : decode cX10_has 13 = .ok (.iload_n 2, 1) := by decide +kernel
theorem dX10_has_14 : decode cX10_has 14 = .ok (.sipush 10000, 3) := by decide +kernel
theorem dX10_has_17 : decode cX10_has 17 = .ok (.invokestatic 58, 3) := by decide +kernel
theorem dX10_has_20 : decode cX10_has 20 = .ok (.ifCond .eq 17, 3) := by decide +kernel
theorem dX10_has_23 : decode cX10_has 23 = .ok (.aload_n 3, 1) := by decide +kernel
theorem dX10_has_24 : decode cX10_has 24 = .ok (.getfield 175, 3) := by decide +kernel
theorem dX10_has_27 : decode cX10_has 27 = .ok (.istore 4, 2) := by decide +kernel
theorem dX10_has_29 : decode cX10_has 29 = .ok (.aload_n 3, 1) := by decide +kernel
theorem dX10_has_30 : decode cX10_has 30 = .ok (.iload_n 2, 1) := by decide +kernel
theorem dX10_has_31 : decode cX10_has 31 = .ok (.putfield 175, 3) := by decide +kernel
theorem dX10_has_34 : decode cX10_has 34 = .ok (.iload 4, 2) := by decide +kernel
theorem dX10_has_36 : decode cX10_has 36 = .ok (.ireturn, 1) := by decide +kernel
theorem dX10_has_37 : decode cX10_has 37 = .ok (.iload_n 1, 1) := by decide +kernel
theorem dX10_has_38 : decode cX10_has 38 = .ok (.iconst 3, 1) := by decide +kernel
theorem dX10_has_39 : decode cX10_has 39 = .ok (.if_icmp .ne 26, 3) := by decide +kernel
theorem dX10_has_42 : decode cX10_has 42 = .ok (.iload_n 2, 1) := by decide +kernel
theorem dX10_has_43 : decode cX10_has 43 = .ok (.bipush 100, 2) := by decide +kernel
theorem dX10_has_45 : decode cX10_has 45 = .ok (.invokestatic 58, 3) := by decide +kernel
theorem dX10_has_48 : decode cX10_has 48 = .ok (.ifCond .eq 17, 3) := by decide +kernel
theorem dX10_has_51 : decode cX10_has 51 = .ok (.aload_n 3, 1) := by decide +kernel
theorem dX10_has_52 : decode cX10_has 52 = .ok (.getfield 178, 3) := by decide +kernel
theorem dX10_has_55 : decode cX10_has 55 = .ok (.istore 4, 2) := by decide +kernel
theorem dX10_has_57 : decode cX10_has 57 = .ok (.aload_n 3, 1) := by decide +kernel
theorem dX10_has_58 : decode cX10_has 58 = .ok (.iload_n 2, 1) := by decide +kernel
theorem dX10_has_59 : decode cX10_has 59 = .ok (.putfield 178, 3) := by decide +kernel
theorem dX10_has_62 : decode cX10_has 62 = .ok (.iload 4, 2) := by decide +kernel
theorem dX10_has_64 : decode cX10_has 64 = .ok (.ireturn, 1) := by decide +kernel
theorem dX10_has_65 : decode cX10_has 65 = .ok (.ldc 62, 2) := by decide +kernel
theorem dX10_has_67 : decode cX10_has 67 = .ok (.ireturn, 1) := by decide +kernel
theorem dX10_knows_0 : decode cX10_knows 0 = .ok (.iload_n 1, 1) := by decide +kernel
theorem dX10_knows_1 : decode cX10_knows 1 = .ok (.bipush 10, 2) := by decide +kernel
theorem dX10_knows_3 : decode cX10_knows 3 = .ok (.invokestatic 58, 3) := by decide +kernel
theorem dX10_knows_6 : decode cX10_knows 6 = .ok (.ifCond .eq 11, 3) := by decide +kernel
theorem dX10_knows_9 : decode cX10_knows 9 = .ok (.iload_n 2, 1) := by decide +kernel
theorem dX10_knows_10 : decode cX10_knows 10 = .ok (.iconst 2, 1) := by decide +kernel
theorem dX10_knows_11 : decode cX10_knows 11 = .ok (.invokestatic 58, 3) := by decide +kernel
theorem dX10_knows_14 : decode cX10_knows 14 = .ok (.ifCond .ne 6, 3) := by decide +kernel
theorem dX10_knows_17 : decode cX10_knows 17 = .ok (.ldc 62, 2) := by decide +kernel
theorem dX10_knows_19 : decode cX10_knows 19 = .ok (.ireturn, 1) := by decide +kernel
theorem dX10_knows_20 : decode cX10_knows 20 = .ok (.aload_n 0, 1) := by decide +kernel
theorem dX10_knows_21 : decode cX10_knows 21 = .ok (.getfield 12, 3) := by decide +kernel
theorem dX10_knows_24 : decode cX10_knows 24 = .ok (.getfield 79, 3) := by decide +kernel
theorem dX10_knows_27 : decode cX10_knows 27 = .ok (.astore_n 3, 1) := by decide +kernel
theorem dX10_knows_28 : decode cX10_knows 28 = .ok (.aload_n 3, 1) := by decide +kernel
theorem dX10_knows_29 : decode cX10_knows 29 = .ok (.iload_n 1, 1) := by decide +kernel
theorem dX10_knows_30 : decode cX10_knows 30 = .ok (.invokevirtual 181, 3) := by decide +kernel
theorem dX10_knows_33 : decode cX10_knows 33 = .ok (.ifCond .ne 6, 3) := by decide +kernel
theorem dX10_knows_36 : decode cX10_knows 36 = .ok (.ldc 184, 2) := by decide +kernel
theorem dX10_knows_38 : decode cX10_knows 38 = .ok (.ireturn, 1) := by decide +kernel
theorem dX10_knows_39 : decode cX10_knows 39 = .ok (.iload_n 2, 1) := by decide +kernel
theorem dX10_knows_40 : decode cX10_knows 40 = .ok (.ifCond .ne 12, 3) := by decide +kernel
theorem dX10_knows_43 : decode cX10_knows 43 = .ok (.aload_n 3, 1) := by decide +kernel
theorem dX10_knows_44 : decode cX10_knows 44 = .ok (.getfield 185, 3) := by decide +kernel
theorem dX10_knows_47 : decode cX10_knows 47 = .ok (.iload_n 1, 1) := by decide +kernel
theorem dX10_knows_48 : decode cX10_knows 48 = .ok (.iaload, 1) := by decide +kernel
theorem dX10_knows_49 : decode cX10_knows 49 = .ok (.goto 9, 3) := by decide +kernel
theorem dX10_knows_52 : decode cX10_knows 52 = .ok (.aload_n 3, 1) := by decide +kernel
theorem dX10_knows_53 : decode cX10_knows 53 = .ok (.getfield 188, 3) := by decide +kernel
theorem dX10_knows_56 : decode cX10_knows 56 = .ok (.iload_n 1, 1) := by decide +kernel
theorem dX10_knows_57 : decode cX10_knows 57 = .ok (.iaload, 1) := by decide +kernel
theorem dX10_knows_58 : decode cX10_knows 58 = .ok (.ireturn, 1) := by decide +kernel
theorem dX10_go_0 : decode cX10_go 0 = .ok (.aload_n 0, 1) := by decide +kernel
theorem dX10_go_1 : decode cX10_go 1 = .ok (.getfield 12, 3) := by decide +kernel
theorem dX10_go_4 : decode cX10_go 4 = .ok (.getfield 79, 3) := by decide +kernel
theorem dX10_go_7 : decode cX10_go 7 = .ok (.astore_n 2, 1) := by decide +kernel
theorem dX10_go_8 : decode cX10_go 8 = .ok (.iload_n 1, 1) := by decide +kernel
theorem dX10_go_9 : decode cX10_go 9 = .ok (.bipush 6, 2) := by decide +kernel
theorem dX10_go_11 : decode cX10_go 11 = .ok (.invokestatic 58, 3) := by decide +kernel
theorem dX10_go_14 : decode cX10_go 14 = .ok (.ifCond .eq 11, 3) := by decide +kernel
theorem dX10_go_17 : decode cX10_go 17 = .ok (.iload_n 1, 1) := by decide +kernel
theorem dX10_go_18 : decode cX10_go 18 = .ok (.aload_n 2, 1) := by decide +kernel
theorem dX10_go_19 : decode cX10_go 19 = .ok (.getfield 172, 3) := by decide +kernel
theorem dX10_go_22 : decode cX10_go 22 = .ok (.if_icmp .ne 6, 3) := by decide +kernel
theorem dX10_go_25 : decode cX10_go 25 = .ok (.ldc 62, 2) := by decide +kernel
theorem dX10_go_27 : decode cX10_go 27 = .ok (.ireturn, 1) := by decide +kernel
theorem dX10_go_28 : decode cX10_go 28 = .ok (.aload_n 0, 1) := by decide +kernel
theorem dX10_go_29 : decode cX10_go 29 = .ok (.getfield 12, 3) := by decide +kernel
theorem dX10_go_32 : decode cX10_go 32 = .ok (.getfield 143, 3) := by decide +kernel
theorem dX10_go_35 : decode cX10_go 35 = .ok (.aload_n 2, 1) := by decide +kernel
theorem dX10_go_36 : decode cX10_go 36 = .ok (.getfield 172, 3) := by decide +kernel
theorem dX10_go_39 : decode cX10_go 39 = .ok (.iload_n 1, 1) := by decide +kernel
theorem dX10_go_40 : decode cX10_go 40 = .ok (.invokevirtual 147, 3) := by decide +kernel
theorem dX10_go_43 : decode cX10_go 43 = .ok (.istore_n 3, 1) := by decide +kernel
theorem dX10_go_44 : decode cX10_go 44 = .ok (.iload_n 3, 1) := by decide +kernel
theorem dX10_go_45 : decode cX10_go 45 = .ok (.ifCond .ne 6, 3) := by decide +kernel
theorem dX10_go_48 : decode cX10_go 48 = .ok (.ldc 184, 2) := by decide +kernel
theorem dX10_go_50 : decode cX10_go 50 = .ok (.ireturn, 1) := by decide +kernel
theorem dX10_go_51 : decode cX10_go 51 = .ok (.aload_n 2, 1) := by decide +kernel
theorem dX10_go_52 : decode cX10_go 52 = .ok (.iload_n 3, 1) := by decide +kernel
theorem dX10_go_53 : decode cX10_go 53 = .ok (.invokevirtual 191, 3) := by decide +kernel
theorem dX10_go_56 : decode cX10_go 56 = .ok (.aload_n 2, 1) := by decide +kernel
theorem dX10_go_57 : decode cX10_go 57 = .ok (.iload_n 1, 1) := by decide +kernel
theorem dX10_go_58 : decode cX10_go 58 = .ok (.putfield 172, 3) := by decide +kernel
theorem dX10_go_61 : decode cX10_go 61 = .ok (.aload_n 2, 1) := by decide +kernel
theorem dX10_go_62 : decode cX10_go 62 = .ok (.getfield 195, 3) := by decide +kernel
theorem dX10_go_65 : decode cX10_go 65 = .ok (.ireturn, 1) := by decide +kernel
theorem dX10_learn_0 : decode cX10_learn 0 = .ok (.aload_n 0, 1) := by decide +kernel
theorem dX10_learn_1 : decode cX10_learn 1 = .ok (.getfield 12, 3) := by decide +kernel
theorem dX10_learn_4 : decode cX10_learn 4 = .ok (.getfield 63, 3) := by decide +kernel
theorem dX10_learn_7 : decode cX10_learn 7 = .ok (.iload_n 1, 1) := by decide +kernel
theorem dX10_learn_8 : decode cX10_learn 8 = .ok (.invokevirtual 75, 3) := by decide +kernel
theorem dX10_learn_11 : decode cX10_learn 11 = .ok (.astore_n 2, 1) := by decide +kernel
theorem dX10_learn_12 : decode cX10_learn 12 = .ok (.aload_n 2, 1) := by decide +kernel
theorem dX10_learn_13 : decode cX10_learn 13 = .ok (.ifnonnull 6, 3) := by decide +kernel
theorem dX10_learn_16 : decode cX10_learn 16 = .ok (.ldc 62, 2) := by decide +kernel
theorem dX10_learn_18 : decode cX10_learn 18 = .ok (.ireturn, 1) := by decide +kernel
theorem dX10_learn_19 : decode cX10_learn 19 = .ok (.aload_n 0, 1) := by decide +kernel
theorem dX10_learn_20 : decode cX10_learn 20 = .ok (.getfield 12, 3) := by decide +kernel
theorem dX10_learn_23 : decode cX10_learn 23 = .ok (.getfield 79, 3) := by decide +kernel
theorem dX10_learn_26 : decode cX10_learn 26 = .ok (.astore_n 3, 1) := by decide +kernel
theorem dX10_learn_27 : decode cX10_learn 27 = .ok (.aload_n 3, 1) := by decide +kernel
theorem dX10_learn_28 : decode cX10_learn 28 = .ok (.aload_n 2, 1) := by decide +kernel
theorem dX10_learn_29 : decode cX10_learn 29 = .ok (.invokevirtual 198, 3) := by decide +kernel
theorem dX10_learn_32 : decode cX10_learn 32 = .ok (.ifCond .ne 6, 3) := by decide +kernel
theorem dX10_learn_35 : decode cX10_learn 35 = .ok (.ldc 184, 2) := by decide +kernel
theorem dX10_learn_37 : decode cX10_learn 37 = .ok (.ireturn, 1) := by decide +kernel
theorem dX10_learn_38 : decode cX10_learn 38 = .ok (.aload_n 3, 1) := by decide +kernel
theorem dX10_learn_39 : decode cX10_learn 39 = .ok (.iload_n 1, 1) := by decide +kernel
theorem dX10_learn_40 : decode cX10_learn 40 = .ok (.aload_n 2, 1) := by decide +kernel
theorem dX10_learn_41 : decode cX10_learn 41 = .ok (.aload_n 0, 1) := by decide +kernel
theorem dX10_learn_42 : decode cX10_learn 42 = .ok (.getfield 12, 3) := by decide +kernel
theorem dX10_learn_45 : decode cX10_learn 45 = .ok (.aload_n 2, 1) := by decide +kernel
theorem dX10_learn_46 : decode cX10_learn 46 = .ok (.aload_n 3, 1) := by decide +kernel
theorem dX10_learn_47 : decode cX10_learn 47 = .ok (.getfield 107, 3) := by decide +kernel
theorem dX10_learn_50 : decode cX10_learn 50 = .ok (.invokestatic 112, 3) := by decide +kernel
theorem dX10_learn_53 : decode cX10_learn 53 = .ok (.invokevirtual 118, 3) := by decide +kernel
theorem dX10_learn_56 : decode cX10_learn 56 = .ok (.invokevirtual 202, 3) := by decide +kernel
theorem dX10_learn_59 : decode cX10_learn 59 = .ok (.aload_n 3, 1) := by decide +kernel
theorem dX10_learn_60 : decode cX10_learn 60 = .ok (.getfield 107, 3) := by decide +kernel
theorem dX10_learn_63 : decode cX10_learn 63 = .ok (.ireturn, 1) := by decide +kernel
theorem dX10_use_0 : decode cX10_use 0 = .ok (.iload_n 1, 1) := by decide +kernel
theorem dX10_use_1 : decode cX10_use 1 = .ok (.bipush 10, 2) := by decide +kernel
theorem dX10_use_3 : decode cX10_use 3 = .ok (.invokestatic 58, 3) := by decide +kernel
theorem dX10_use_6 : decode cX10_use 6 = .ok (.ifCond .ne 6, 3) := by decide +kernel
theorem dX10_use_9 : decode cX10_use 9 = .ok (.ldc 62, 2) := by decide +kernel
theorem dX10_use_11 : decode cX10_use 11 = .ok (.ireturn, 1) := by decide +kernel
theorem dX10_use_12 : decode cX10_use 12 = .ok (.aload_n 0, 1) := by decide +kernel
theorem dX10_use_13 : decode cX10_use 13 = .ok (.getfield 12, 3) := by decide +kernel
theorem dX10_use_16 : decode cX10_use 16 = .ok (.getfield 79, 3) := by decide +kernel
theorem dX10_use_19 : decode cX10_use 19 = .ok (.iload_n 1, 1) := by decide +kernel
theorem dX10_use_20 : decode cX10_use 20 = .ok (.invokevirtual 206, 3) := by decide +kernel
theorem dX10_use_23 : decode cX10_use 23 = .ok (.ifCond .eq 16, 3) := by decide +kernel
theorem dX10_use_26 : decode cX10_use 26 = .ok (.aload_n 0, 1) := by decide +kernel
theorem dX10_use_27 : decode cX10_use 27 = .ok (.getfield 12, 3) := by decide +kernel
theorem dX10_use_30 : decode cX10_use 30 = .ok (.getfield 79, 3) := by decide +kernel
theorem dX10_use_33 : decode cX10_use 33 = .ok (.getfield 107, 3) := by decide +kernel
theorem dX10_use_36 : decode cX10_use 36 = .ok (.goto 5, 3) := by decide +kernel
theorem dX10_use_39 : decode cX10_use 39 = .ok (.ldc 184, 2) := by decide +kernel
theorem dX10_use_41 : decode cX10_use 41 = .ok (.ireturn, 1) := by decide +kernel
theorem dX10_rests_0 : decode cX10_rests 0 = .ok (.iload_n 1, 1) := by decide +kernel
theorem dX10_rests_1 : decode cX10_rests 1 = .ok (.iconst 1, 1) := by decide +kernel
theorem dX10_rests_2 : decode cX10_rests 2 = .ok (.if_icmp .lt 9, 3) := by decide +kernel
theorem dX10_rests_5 : decode cX10_rests 5 = .ok (.iload_n 1, 1) := by decide +kernel
theorem dX10_rests_6 : decode cX10_rests 6 = .ok (.bipush 100, 2) := by decide +kernel
theorem dX10_rests_8 : decode cX10_rests 8 = .ok (.if_icmp .le 6, 3) := by decide +kernel
theorem dX10_rests_11 : decode cX10_rests 11 = .ok (.ldc 62, 2) := by decide +kernel
theorem dX10_rests_13 : decode cX10_rests 13 = .ok (.ireturn, 1) := by decide +kernel
theorem dX10_rests_14 : decode cX10_rests 14 = .ok (.aload_n 0, 1) := by decide +kernel
theorem dX10_rests_15 : decode cX10_rests 15 = .ok (.getfield 12, 3) := by decide +kernel
theorem dX10_rests_18 : decode cX10_rests 18 = .ok (.getfield 79, 3) := by decide +kernel
theorem dX10_rests_21 : decode cX10_rests 21 = .ok (.iload_n 1, 1) := by decide +kernel
theorem dX10_rests_22 : decode cX10_rests 22 = .ok (.invokevirtual 191, 3) := by decide +kernel
theorem dX10_rests_25 : decode cX10_rests 25 = .ok (.aload_n 0, 1) := by decide +kernel
theorem dX10_rests_26 : decode cX10_rests 26 = .ok (.getfield 12, 3) := by decide +kernel
theorem dX10_rests_29 : decode cX10_rests 29 = .ok (.getfield 79, 3) := by decide +kernel
theorem dX10_rests_32 : decode cX10_rests 32 = .ok (.getfield 107, 3) := by decide +kernel
theorem dX10_rests_35 : decode cX10_rests 35 = .ok (.ireturn, 1) := by decide +kernel
theorem dX10_wants_0 : decode cX10_wants 0 = .ok (.iload_n 1, 1) := by decide +kernel
theorem dX10_wants_1 : decode cX10_wants 1 = .ok (.bipush 10, 2) := by decide +kernel
theorem dX10_wants_3 : decode cX10_wants 3 = .ok (.invokestatic 58, 3) := by decide +kernel
theorem dX10_wants_6 : decode cX10_wants 6 = .ok (.ifCond .ne 6, 3) := by decide +kernel
theorem dX10_wants_9 : decode cX10_wants 9 = .ok (.ldc 62, 2) := by decide +kernel
theorem dX10_wants_11 : decode cX10_wants 11 = .ok (.ireturn, 1) := by decide +kernel
theorem dX10_wants_12 : decode cX10_wants 12 = .ok (.aload_n 0, 1) := by decide +kernel
theorem dX10_wants_13 : decode cX10_wants 13 = .ok (.getfield 12, 3) := by decide +kernel
theorem dX10_wants_16 : decode cX10_wants 16 = .ok (.iload_n 1, 1) := by decide +kernel
theorem dX10_wants_17 : decode cX10_wants 17 = .ok (.invokevirtual 209, 3) := by decide +kernel
theorem dX10_wants_20 : decode cX10_wants 20 = .ok (.ifCond .eq 13, 3) := by decide +kernel
theorem dX10_wants_23 : decode cX10_wants 23 = .ok (.aload_n 0, 1) := by decide +kernel
theorem dX10_wants_24 : decode cX10_wants 24 = .ok (.getfield 12, 3) := by decide +kernel
theorem dX10_wants_27 : decode cX10_wants 27 = .ok (.getfield 212, 3) := by decide +kernel
theorem dX10_wants_30 : decode cX10_wants 30 = .ok (.goto 5, 3) := by decide +kernel
theorem dX10_wants_33 : decode cX10_wants 33 = .ok (.ldc 74, 2) := by decide +kernel
theorem dX10_wants_35 : decode cX10_wants 35 = .ok (.ireturn, 1) := by decide +kernel
theorem dX10_clear_0 : decode cX10_clear 0 = .ok (.aload_n 0, 1) := by decide +kernel
theorem dX10_clear_1 : decode cX10_clear 1 = .ok (.getfield 12, 3) := by decide +kernel
theorem dX10_clear_4 : decode cX10_clear 4 = .ok (.getfield 212, 3) := by decide +kernel
theorem dX10_clear_7 : decode cX10_clear 7 = .ok (.istore_n 1, 1) := by decide +kernel
theorem dX10_clear_8 : decode cX10_clear 8 = .ok (.aload_n 0, 1) := by decide +kernel
theorem dX10_clear_9 : decode cX10_clear 9 = .ok (.getfield 12, 3) := by decide +kernel
theorem dX10_clear_12 : decode cX10_clear 12 = .ok (.iconst 0, 1) := by decide +kernel
theorem dX10_clear_13 : decode cX10_clear 13 = .ok (.putfield 212, 3) := by decide +kernel
theorem dX10_clear_16 : decode cX10_clear 16 = .ok (.iload_n 1, 1) := by decide +kernel
theorem dX10_clear_17 : decode cX10_clear 17 = .ok (.ireturn, 1) := by decide +kernel
theorem dX10_made_0 : decode cX10_made 0 = .ok (.aload_n 0, 1) := by decide +kernel
theorem dX10_made_1 : decode cX10_made 1 = .ok (.getfield 12, 3) := by decide +kernel
theorem dX10_made_4 : decode cX10_made 4 = .ok (.invokevirtual 215, 3) := by decide +kernel
theorem dX10_made_7 : decode cX10_made 7 = .ok (.ifCond .ne 6, 3) := by decide +kernel
theorem dX10_made_10 : decode cX10_made 10 = .ok (.ldc 184, 2) := by decide +kernel
theorem dX10_made_12 : decode cX10_made 12 = .ok (.ireturn, 1) := by decide +kernel
theorem dX10_made_13 : decode cX10_made 13 = .ok (.aload_n 0, 1) := by decide +kernel
theorem dX10_made_14 : decode cX10_made 14 = .ok (.getfield 12, 3) := by decide +kernel
theorem dX10_made_17 : decode cX10_made 17 = .ok (.invokevirtual 219, 3) := by decide +kernel
theorem dX10_made_20 : decode cX10_made 20 = .ok (.aload_n 0, 1) := by decide +kernel
theorem dX10_made_21 : decode cX10_made 21 = .ok (.getfield 12, 3) := by decide +kernel
theorem dX10_made_24 : decode cX10_made 24 = .ok (.getfield 79, 3) := by decide +kernel
theorem dX10_made_27 : decode cX10_made 27 = .ok (.getfield 195, 3) := by decide +kernel
theorem dX10_made_30 : decode cX10_made 30 = .ok (.ireturn, 1) := by decide +kernel
theorem dX10_soonest_0 : decode cX10_soonest 0 = .ok (.iload_n 1, 1) := by decide +kernel
theorem dX10_soonest_1 : decode cX10_soonest 1 = .ok (.iconst 3, 1) := by decide +kernel
theorem dX10_soonest_2 : decode cX10_soonest 2 = .ok (.invokestatic 58, 3) := by decide +kernel
theorem dX10_soonest_5 : decode cX10_soonest 5 = .ok (.ifCond .ne 6, 3) := by decide +kernel
theorem dX10_soonest_8 : decode cX10_soonest 8 = .ok (.ldc 62, 2) := by decide +kernel
theorem dX10_soonest_10 : decode cX10_soonest 10 = .ok (.ireturn, 1) := by decide +kernel
theorem dX10_soonest_11 : decode cX10_soonest 11 = .ok (.aload_n 0, 1) := by decide +kernel
theorem dX10_soonest_12 : decode cX10_soonest 12 = .ok (.getfield 29, 3) := by decide +kernel
theorem dX10_soonest_15 : decode cX10_soonest 15 = .ok (.aload_n 0, 1) := by decide +kernel
theorem dX10_soonest_16 : decode cX10_soonest 16 = .ok (.getfield 12, 3) := by decide +kernel
theorem dX10_soonest_19 : decode cX10_soonest 19 = .ok (.invokevirtual 222, 3) := by decide +kernel
theorem dX10_soonest_22 : decode cX10_soonest 22 = .ok (.ifCond .ne 6, 3) := by decide +kernel
theorem dX10_soonest_25 : decode cX10_soonest 25 = .ok (.ldc 160, 2) := by decide +kernel
theorem dX10_soonest_27 : decode cX10_soonest 27 = .ok (.ireturn, 1) := by decide +kernel
theorem dX10_soonest_28 : decode cX10_soonest 28 = .ok (.iload_n 1, 1) := by decide +kernel
theorem dX10_soonest_29 : decode cX10_soonest 29 = .ok (.lookupswitch 43 #[(0, 27), (1, 35)], 27) := by decide +kernel
theorem dX10_soonest_56 : decode cX10_soonest 56 = .ok (.aload_n 0, 1) := by decide +kernel
theorem dX10_soonest_57 : decode cX10_soonest 57 = .ok (.getfield 29, 3) := by decide +kernel
theorem dX10_soonest_60 : decode cX10_soonest 60 = .ok (.getfield 226, 3) := by decide +kernel
theorem dX10_soonest_63 : decode cX10_soonest 63 = .ok (.ireturn, 1) := by decide +kernel
theorem dX10_soonest_64 : decode cX10_soonest 64 = .ok (.aload_n 0, 1) := by decide +kernel
theorem dX10_soonest_65 : decode cX10_soonest 65 = .ok (.getfield 29, 3) := by decide +kernel
theorem dX10_soonest_68 : decode cX10_soonest 68 = .ok (.getfield 229, 3) := by decide +kernel
theorem dX10_soonest_71 : decode cX10_soonest 71 = .ok (.ireturn, 1) := by decide +kernel
theorem dX10_soonest_72 : decode cX10_soonest 72 = .ok (.aload_n 0, 1) := by decide +kernel
theorem dX10_soonest_73 : decode cX10_soonest 73 = .ok (.getfield 29, 3) := by decide +kernel
theorem dX10_soonest_76 : decode cX10_soonest 76 = .ok (.getfield 232, 3) := by decide +kernel
theorem dX10_soonest_79 : decode cX10_soonest 79 = .ok (.ireturn, 1) := by decide +kernel
theorem dX10_together_0 : decode cX10_together 0 = .ok (.iload_n 1, 1) := by decide +kernel
theorem dX10_together_1 : decode cX10_together 1 = .ok (.sipush 1024, 3) := by decide +kernel
theorem dX10_together_4 : decode cX10_together 4 = .ok (.invokestatic 58, 3) := by decide +kernel
theorem dX10_together_7 : decode cX10_together 7 = .ok (.ifCond .eq 11, 3) := by decide +kernel
theorem dX10_together_10 : decode cX10_together 10 = .ok (.iload_n 1, 1) := by decide +kernel
theorem dX10_together_11 : decode cX10_together 11 = .ok (.invokestatic 112, 3) := by decide +kernel
theorem dX10_together_14 : decode cX10_together 14 = .ok (.iconst 3, 1) := by decide +kernel
theorem dX10_together_15 : decode cX10_together 15 = .ok (.if_icmp .le 6, 3) := by decide +kernel
theorem dX10_together_18 : decode cX10_together 18 = .ok (.ldc 62, 2) := by decide +kernel
theorem dX10_together_20 : decode cX10_together 20 = .ok (.ireturn, 1) := by decide +kernel
theorem dX10_together_21 : decode cX10_together 21 = .ok (.aload_n 0, 1) := by decide +kernel
theorem dX10_together_22 : decode cX10_together 22 = .ok (.getfield 12, 3) := by decide +kernel
theorem dX10_together_25 : decode cX10_together 25 = .ok (.getfield 63, 3) := by decide +kernel
theorem dX10_together_28 : decode cX10_together 28 = .ok (.iload_n 1, 1) := by decide +kernel
theorem dX10_together_29 : decode cX10_together 29 = .ok (.invokevirtual 235, 3) := by decide +kernel
theorem dX10_together_32 : decode cX10_together 32 = .ok (.ifCond .eq 7, 3) := by decide +kernel
theorem dX10_together_35 : decode cX10_together 35 = .ok (.iconst 1, 1) := by decide +kernel
theorem dX10_together_36 : decode cX10_together 36 = .ok (.goto 4, 3) := by decide +kernel
theorem dX10_together_39 : decode cX10_together 39 = .ok (.iconst 0, 1) := by decide +kernel
theorem dX10_together_40 : decode cX10_together 40 = .ok (.ireturn, 1) := by decide +kernel
theorem dX10_never_0 : decode cX10_never 0 = .ok (.aload_n 0, 1) := by decide +kernel

