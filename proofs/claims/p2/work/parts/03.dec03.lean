theorem dX10_never_1 : decode cX10_never 1 = .ok (.getfield 12, 3) := by decide +kernel
theorem dX10_never_4 : decode cX10_never 4 = .ok (.getfield 63, 3) := by decide +kernel
theorem dX10_never_7 : decode cX10_never 7 = .ok (.invokevirtual 238, 3) := by decide +kernel
theorem dX10_never_10 : decode cX10_never 10 = .ok (.istore_n 1, 1) := by decide +kernel
theorem dX10_never_11 : decode cX10_never 11 = .ok (.iconst 0, 1) := by decide +kernel
theorem dX10_never_12 : decode cX10_never 12 = .ok (.istore_n 2, 1) := by decide +kernel
theorem dX10_never_13 : decode cX10_never 13 = .ok (.iload_n 2, 1) := by decide +kernel
theorem dX10_never_14 : decode cX10_never 14 = .ok (.bipush 10, 2) := by decide +kernel
theorem dX10_never_16 : decode cX10_never 16 = .ok (.if_icmp .ge 65, 3) := by decide +kernel
theorem dX10_never_19 : decode cX10_never 19 = .ok (.iload_n 2, 1) := by decide +kernel
theorem dX10_never_20 : decode cX10_never 20 = .ok (.iconst 1, 1) := by decide +kernel
theorem dX10_never_21 : decode cX10_never 21 = .ok (.iadd, 1) := by decide +kernel
theorem dX10_never_22 : decode cX10_never 22 = .ok (.istore_n 3, 1) := by decide +kernel
theorem dX10_never_23 : decode cX10_never 23 = .ok (.iload_n 3, 1) := by decide +kernel
theorem dX10_never_24 : decode cX10_never 24 = .ok (.bipush 10, 2) := by decide +kernel
theorem dX10_never_26 : decode cX10_never 26 = .ok (.if_icmp .ge 49, 3) := by decide +kernel
theorem dX10_never_29 : decode cX10_never 29 = .ok (.iconst 1, 1) := by decide +kernel
theorem dX10_never_30 : decode cX10_never 30 = .ok (.iload_n 2, 1) := by decide +kernel
theorem dX10_never_31 : decode cX10_never 31 = .ok (.ishl, 1) := by decide +kernel
theorem dX10_never_32 : decode cX10_never 32 = .ok (.iconst 1, 1) := by decide +kernel
theorem dX10_never_33 : decode cX10_never 33 = .ok (.iload_n 3, 1) := by decide +kernel
theorem dX10_never_34 : decode cX10_never 34 = .ok (.ishl, 1) := by decide +kernel
theorem dX10_never_35 : decode cX10_never 35 = .ok (.ior, 1) := by decide +kernel
theorem dX10_never_36 : decode cX10_never 36 = .ok (.istore 4, 2) := by decide +kernel
theorem dX10_never_38 : decode cX10_never 38 = .ok (.iload_n 1, 1) := by decide +kernel
theorem dX10_never_39 : decode cX10_never 39 = .ok (.iload 4, 2) := by decide +kernel
theorem dX10_never_41 : decode cX10_never 41 = .ok (.iand, 1) := by decide +kernel
theorem dX10_never_42 : decode cX10_never 42 = .ok (.iload 4, 2) := by decide +kernel
theorem dX10_never_44 : decode cX10_never 44 = .ok (.if_icmp .ne 25, 3) := by decide +kernel
theorem dX10_never_47 : decode cX10_never 47 = .ok (.aload_n 0, 1) := by decide +kernel
theorem dX10_never_48 : decode cX10_never 48 = .ok (.getfield 12, 3) := by decide +kernel
theorem dX10_never_51 : decode cX10_never 51 = .ok (.getfield 63, 3) := by decide +kernel
theorem dX10_never_54 : decode cX10_never 54 = .ok (.iload 4, 2) := by decide +kernel
theorem dX10_never_56 : decode cX10_never 56 = .ok (.invokevirtual 235, 3) := by decide +kernel
theorem dX10_never_59 : decode cX10_never 59 = .ok (.ifCond .ne 10, 3) := by decide +kernel
theorem dX10_never_62 : decode cX10_never 62 = .ok (.bipush 10, 2) := by decide +kernel
theorem dX10_never_64 : decode cX10_never 64 = .ok (.iload_n 2, 1) := by decide +kernel
theorem dX10_never_65 : decode cX10_never 65 = .ok (.imul, 1) := by decide +kernel
theorem dX10_never_66 : decode cX10_never 66 = .ok (.iload_n 3, 1) := by decide +kernel
theorem dX10_never_67 : decode cX10_never 67 = .ok (.iadd, 1) := by decide +kernel
theorem dX10_never_68 : decode cX10_never 68 = .ok (.ireturn, 1) := by decide +kernel
theorem dX10_never_69 : decode cX10_never 69 = .ok (.iinc 3 1, 3) := by decide +kernel
theorem dX10_never_72 : decode cX10_never 72 = .ok (.goto (-49), 3) := by decide +kernel
theorem dX10_never_75 : decode cX10_never 75 = .ok (.iinc 2 1, 3) := by decide +kernel
theorem dX10_never_78 : decode cX10_never 78 = .ok (.goto (-65), 3) := by decide +kernel
theorem dX10_never_81 : decode cX10_never 81 = .ok (.ldc 160, 2) := by decide +kernel
theorem dX10_never_83 : decode cX10_never 83 = .ok (.ireturn, 1) := by decide +kernel
theorem dX10_last_0 : decode cX10_last 0 = .ok (.iload_n 1, 1) := by decide +kernel
theorem dX10_last_1 : decode cX10_last 1 = .ok (.bipush 10, 2) := by decide +kernel
theorem dX10_last_3 : decode cX10_last 3 = .ok (.invokestatic 58, 3) := by decide +kernel
theorem dX10_last_6 : decode cX10_last 6 = .ok (.ifCond .ne 6, 3) := by decide +kernel
theorem dX10_last_9 : decode cX10_last 9 = .ok (.ldc 62, 2) := by decide +kernel
theorem dX10_last_11 : decode cX10_last 11 = .ok (.ireturn, 1) := by decide +kernel
theorem dX10_last_12 : decode cX10_last 12 = .ok (.aload_n 0, 1) := by decide +kernel
theorem dX10_last_13 : decode cX10_last 13 = .ok (.getfield 12, 3) := by decide +kernel
theorem dX10_last_16 : decode cX10_last 16 = .ok (.getfield 63, 3) := by decide +kernel
theorem dX10_last_19 : decode cX10_last 19 = .ok (.iload_n 1, 1) := by decide +kernel
theorem dX10_last_20 : decode cX10_last 20 = .ok (.invokevirtual 241, 3) := by decide +kernel
theorem dX10_last_23 : decode cX10_last 23 = .ok (.ireturn, 1) := by decide +kernel
theorem dX10_years_0 : decode cX10_years 0 = .ok (.iload_n 1, 1) := by decide +kernel
theorem dX10_years_1 : decode cX10_years 1 = .ok (.iconst 1, 1) := by decide +kernel
theorem dX10_years_2 : decode cX10_years 2 = .ok (.if_icmp .lt 9, 3) := by decide +kernel
theorem dX10_years_5 : decode cX10_years 5 = .ok (.iload_n 1, 1) := by decide +kernel
theorem dX10_years_6 : decode cX10_years 6 = .ok (.bipush 60, 2) := by decide +kernel
theorem dX10_years_8 : decode cX10_years 8 = .ok (.if_icmp .le 6, 3) := by decide +kernel
theorem dX10_years_11 : decode cX10_years 11 = .ok (.ldc 62, 2) := by decide +kernel
theorem dX10_years_13 : decode cX10_years 13 = .ok (.ireturn, 1) := by decide +kernel
theorem dX10_years_14 : decode cX10_years 14 = .ok (.aload_n 0, 1) := by decide +kernel
theorem dX10_years_15 : decode cX10_years 15 = .ok (.getfield 12, 3) := by decide +kernel
theorem dX10_years_18 : decode cX10_years 18 = .ok (.getfield 63, 3) := by decide +kernel
theorem dX10_years_21 : decode cX10_years 21 = .ok (.invokevirtual 244, 3) := by decide +kernel
theorem dX10_years_24 : decode cX10_years 24 = .ok (.istore_n 2, 1) := by decide +kernel
theorem dX10_years_25 : decode cX10_years 25 = .ok (.aload_n 0, 1) := by decide +kernel
theorem dX10_years_26 : decode cX10_years 26 = .ok (.getfield 12, 3) := by decide +kernel
theorem dX10_years_29 : decode cX10_years 29 = .ok (.getfield 63, 3) := by decide +kernel
theorem dX10_years_32 : decode cX10_years 32 = .ok (.iload_n 1, 1) := by decide +kernel
theorem dX10_years_33 : decode cX10_years 33 = .ok (.invokevirtual 247, 3) := by decide +kernel
theorem dX10_years_36 : decode cX10_years 36 = .ok (.aload_n 0, 1) := by decide +kernel
theorem dX10_years_37 : decode cX10_years 37 = .ok (.getfield 12, 3) := by decide +kernel
theorem dX10_years_40 : decode cX10_years 40 = .ok (.getfield 63, 3) := by decide +kernel
theorem dX10_years_43 : decode cX10_years 43 = .ok (.invokevirtual 244, 3) := by decide +kernel
theorem dX10_years_46 : decode cX10_years 46 = .ok (.iload_n 2, 1) := by decide +kernel
theorem dX10_years_47 : decode cX10_years 47 = .ok (.isub, 1) := by decide +kernel
theorem dX10_years_48 : decode cX10_years 48 = .ok (.ireturn, 1) := by decide +kernel
theorem dX10_gone_0 : decode cX10_gone 0 = .ok (.iload_n 1, 1) := by decide +kernel
theorem dX10_gone_1 : decode cX10_gone 1 = .ok (.ifCond .lt 9, 3) := by decide +kernel
theorem dX10_gone_4 : decode cX10_gone 4 = .ok (.iload_n 1, 1) := by decide +kernel
theorem dX10_gone_5 : decode cX10_gone 5 = .ok (.bipush 60, 2) := by decide +kernel
theorem dX10_gone_7 : decode cX10_gone 7 = .ok (.if_icmp .le 6, 3) := by decide +kernel
theorem dX10_gone_10 : decode cX10_gone 10 = .ok (.ldc 62, 2) := by decide +kernel
theorem dX10_gone_12 : decode cX10_gone 12 = .ok (.ireturn, 1) := by decide +kernel
theorem dX10_gone_13 : decode cX10_gone 13 = .ok (.aload_n 0, 1) := by decide +kernel
theorem dX10_gone_14 : decode cX10_gone 14 = .ok (.getfield 22, 3) := by decide +kernel
theorem dX10_gone_17 : decode cX10_gone 17 = .ok (.aload_n 0, 1) := by decide +kernel
theorem dX10_gone_18 : decode cX10_gone 18 = .ok (.getfield 12, 3) := by decide +kernel
theorem dX10_gone_21 : decode cX10_gone 21 = .ok (.getfield 63, 3) := by decide +kernel
theorem dX10_gone_24 : decode cX10_gone 24 = .ok (.invokevirtual 250, 3) := by decide +kernel
theorem dX10_gone_27 : decode cX10_gone 27 = .ok (.aload_n 0, 1) := by decide +kernel
theorem dX10_gone_28 : decode cX10_gone 28 = .ok (.getfield 22, 3) := by decide +kernel
theorem dX10_gone_31 : decode cX10_gone 31 = .ok (.iload_n 1, 1) := by decide +kernel
theorem dX10_gone_32 : decode cX10_gone 32 = .ok (.invokevirtual 247, 3) := by decide +kernel
theorem dX10_gone_35 : decode cX10_gone 35 = .ok (.aload_n 0, 1) := by decide +kernel
theorem dX10_gone_36 : decode cX10_gone 36 = .ok (.getfield 12, 3) := by decide +kernel
theorem dX10_gone_39 : decode cX10_gone 39 = .ok (.getfield 63, 3) := by decide +kernel
theorem dX10_gone_42 : decode cX10_gone 42 = .ok (.invokevirtual 238, 3) := by decide +kernel
theorem dX10_gone_45 : decode cX10_gone 45 = .ok (.aload_n 0, 1) := by decide +kernel
theorem dX10_gone_46 : decode cX10_gone 46 = .ok (.getfield 22, 3) := by decide +kernel
theorem dX10_gone_49 : decode cX10_gone 49 = .ok (.invokevirtual 238, 3) := by decide +kernel
theorem dX10_gone_52 : decode cX10_gone 52 = .ok (.iconst (-1), 1) := by decide +kernel
theorem dX10_gone_53 : decode cX10_gone 53 = .ok (.ixor, 1) := by decide +kernel
theorem dX10_gone_54 : decode cX10_gone 54 = .ok (.iand, 1) := by decide +kernel
theorem dX10_gone_55 : decode cX10_gone 55 = .ok (.invokestatic 112, 3) := by decide +kernel
theorem dX10_gone_58 : decode cX10_gone 58 = .ok (.ireturn, 1) := by decide +kernel
theorem dX10_fresh_0 : decode cX10_fresh 0 = .ok (.iconst 0, 1) := by decide +kernel
theorem dX10_fresh_1 : decode cX10_fresh 1 = .ok (.istore_n 1, 1) := by decide +kernel
theorem dX10_fresh_2 : decode cX10_fresh 2 = .ok (.iconst 1, 1) := by decide +kernel
theorem dX10_fresh_3 : decode cX10_fresh 3 = .ok (.istore_n 2, 1) := by decide +kernel
theorem dX10_fresh_4 : decode cX10_fresh 4 = .ok (.iload_n 2, 1) := by decide +kernel
theorem dX10_fresh_5 : decode cX10_fresh 5 = .ok (.bipush 6, 2) := by decide +kernel
theorem dX10_fresh_7 : decode cX10_fresh 7 = .ok (.if_icmp .ge 30, 3) := by decide +kernel
theorem dX10_fresh_10 : decode cX10_fresh 10 = .ok (.aload_n 0, 1) := by decide +kernel
theorem dX10_fresh_11 : decode cX10_fresh 11 = .ok (.getfield 12, 3) := by decide +kernel
theorem dX10_fresh_14 : decode cX10_fresh 14 = .ok (.iload_n 2, 1) := by decide +kernel
theorem dX10_fresh_15 : decode cX10_fresh 15 = .ok (.invokevirtual 254, 3) := by decide +kernel
theorem dX10_fresh_18 : decode cX10_fresh 18 = .ok (.aload_n 0, 1) := by decide +kernel
theorem dX10_fresh_19 : decode cX10_fresh 19 = .ok (.getfield 12, 3) := by decide +kernel
theorem dX10_fresh_22 : decode cX10_fresh 22 = .ok (.iload_n 1, 1) := by decide +kernel
theorem dX10_fresh_23 : decode cX10_fresh 23 = .ok (.invokevirtual 254, 3) := by decide +kernel
theorem dX10_fresh_26 : decode cX10_fresh 26 = .ok (.if_icmp .ge 5, 3) := by decide +kernel
theorem dX10_fresh_29 : decode cX10_fresh 29 = .ok (.iload_n 2, 1) := by decide +kernel
theorem dX10_fresh_30 : decode cX10_fresh 30 = .ok (.istore_n 1, 1) := by decide +kernel
theorem dX10_fresh_31 : decode cX10_fresh 31 = .ok (.iinc 2 1, 3) := by decide +kernel
theorem dX10_fresh_34 : decode cX10_fresh 34 = .ok (.goto (-30), 3) := by decide +kernel
theorem dX10_fresh_37 : decode cX10_fresh 37 = .ok (.iload_n 1, 1) := by decide +kernel
theorem dX10_fresh_38 : decode cX10_fresh 38 = .ok (.ireturn, 1) := by decide +kernel
theorem dX10_cut_0 : decode cX10_cut 0 = .ok (.aload_n 0, 1) := by decide +kernel
theorem dX10_cut_1 : decode cX10_cut 1 = .ok (.iload_n 1, 1) := by decide +kernel
theorem dX10_cut_2 : decode cX10_cut 2 = .ok (.invokevirtual 257, 3) := by decide +kernel
theorem dX10_cut_5 : decode cX10_cut 5 = .ok (.astore_n 3, 1) := by decide +kernel
theorem dX10_cut_6 : decode cX10_cut 6 = .ok (.aload_n 3, 1) := by decide +kernel
theorem dX10_cut_7 : decode cX10_cut 7 = .ok (.ifnull 11, 3) := by decide +kernel
theorem dX10_cut_10 : decode cX10_cut 10 = .ok (.iload_n 2, 1) := by decide +kernel
theorem dX10_cut_11 : decode cX10_cut 11 = .ok (.iconst 2, 1) := by decide +kernel
theorem dX10_cut_12 : decode cX10_cut 12 = .ok (.invokestatic 58, 3) := by decide +kernel
theorem dX10_cut_15 : decode cX10_cut 15 = .ok (.ifCond .ne 6, 3) := by decide +kernel
theorem dX10_cut_18 : decode cX10_cut 18 = .ok (.ldc 62, 2) := by decide +kernel
theorem dX10_cut_20 : decode cX10_cut 20 = .ok (.ireturn, 1) := by decide +kernel
theorem dX10_cut_21 : decode cX10_cut 21 = .ok (.aload_n 3, 1) := by decide +kernel
theorem dX10_cut_22 : decode cX10_cut 22 = .ok (.getfield 261, 3) := by decide +kernel
theorem dX10_cut_25 : decode cX10_cut 25 = .ok (.iconst (-1), 1) := by decide +kernel
theorem dX10_cut_26 : decode cX10_cut 26 = .ok (.if_icmp .ne 7, 3) := by decide +kernel
theorem dX10_cut_29 : decode cX10_cut 29 = .ok (.ldc_w 264, 3) := by decide +kernel
theorem dX10_cut_32 : decode cX10_cut 32 = .ok (.ireturn, 1) := by decide +kernel
theorem dX10_cut_33 : decode cX10_cut 33 = .ok (.ldc 160, 2) := by decide +kernel
theorem dX10_cut_35 : decode cX10_cut 35 = .ok (.istore 4, 2) := by decide +kernel
theorem dX10_cut_37 : decode cX10_cut 37 = .ok (.ldc_w 265, 3) := by decide +kernel
theorem dX10_cut_40 : decode cX10_cut 40 = .ok (.istore 5, 2) := by decide +kernel
theorem dX10_cut_42 : decode cX10_cut 42 = .ok (.iconst 0, 1) := by decide +kernel
theorem dX10_cut_43 : decode cX10_cut 43 = .ok (.istore 6, 2) := by decide +kernel
theorem dX10_cut_45 : decode cX10_cut 45 = .ok (.iload 6, 2) := by decide +kernel
theorem dX10_cut_47 : decode cX10_cut 47 = .ok (.bipush 9, 2) := by decide +kernel
theorem dX10_cut_49 : decode cX10_cut 49 = .ok (.if_icmp .ge 60, 3) := by decide +kernel
theorem dX10_cut_52 : decode cX10_cut 52 = .ok (.aload_n 0, 1) := by decide +kernel
theorem dX10_cut_53 : decode cX10_cut 53 = .ok (.getfield 12, 3) := by decide +kernel
theorem dX10_cut_56 : decode cX10_cut 56 = .ok (.getfield 63, 3) := by decide +kernel
theorem dX10_cut_59 : decode cX10_cut 59 = .ok (.iload 6, 2) := by decide +kernel
theorem dX10_cut_61 : decode cX10_cut 61 = .ok (.invokevirtual 75, 3) := by decide +kernel
theorem dX10_cut_64 : decode cX10_cut 64 = .ok (.astore 7, 2) := by decide +kernel
theorem dX10_cut_66 : decode cX10_cut 66 = .ok (.aload 7, 2) := by decide +kernel
theorem dX10_cut_68 : decode cX10_cut 68 = .ok (.ifnonnull 8, 3) := by decide +kernel
theorem dX10_cut_71 : decode cX10_cut 71 = .ok (.iload 5, 2) := by decide +kernel
theorem dX10_cut_73 : decode cX10_cut 73 = .ok (.goto 13, 3) := by decide +kernel
theorem dX10_cut_76 : decode cX10_cut 76 = .ok (.aload_n 0, 1) := by decide +kernel
theorem dX10_cut_77 : decode cX10_cut 77 = .ok (.getfield 12, 3) := by decide +kernel
theorem dX10_cut_80 : decode cX10_cut 80 = .ok (.aload 7, 2) := by decide +kernel
theorem dX10_cut_82 : decode cX10_cut 82 = .ok (.aload_n 3, 1) := by decide +kernel
theorem dX10_cut_83 : decode cX10_cut 83 = .ok (.invokevirtual 266, 3) := by decide +kernel
theorem dX10_cut_86 : decode cX10_cut 86 = .ok (.istore 8, 2) := by decide +kernel
theorem dX10_cut_88 : decode cX10_cut 88 = .ok (.iload 8, 2) := by decide +kernel
theorem dX10_cut_90 : decode cX10_cut 90 = .ok (.iload 5, 2) := by decide +kernel
theorem dX10_cut_92 : decode cX10_cut 92 = .ok (.if_icmp .ge 11, 3) := by decide +kernel
theorem dX10_cut_95 : decode cX10_cut 95 = .ok (.iload 6, 2) := by decide +kernel
theorem dX10_cut_97 : decode cX10_cut 97 = .ok (.istore 4, 2) := by decide +kernel
theorem dX10_cut_99 : decode cX10_cut 99 = .ok (.iload 8, 2) := by decide +kernel
theorem dX10_cut_101 : decode cX10_cut 101 = .ok (.istore 5, 2) := by decide +kernel
theorem dX10_cut_103 : decode cX10_cut 103 = .ok (.iinc 6 1, 3) := by decide +kernel
theorem dX10_cut_106 : decode cX10_cut 106 = .ok (.goto (-61), 3) := by decide +kernel
theorem dX10_cut_109 : decode cX10_cut 109 = .ok (.iload_n 2, 1) := by decide +kernel
theorem dX10_cut_110 : decode cX10_cut 110 = .ok (.ifCond .eq 10, 3) := by decide +kernel
theorem dX10_cut_113 : decode cX10_cut 113 = .ok (.iload 4, 2) := by decide +kernel
theorem dX10_cut_115 : decode cX10_cut 115 = .ok (.ldc 160, 2) := by decide +kernel
theorem dX10_cut_117 : decode cX10_cut 117 = .ok (.if_icmp .ne 8, 3) := by decide +kernel
theorem dX10_cut_120 : decode cX10_cut 120 = .ok (.iload 4, 2) := by decide +kernel
theorem dX10_cut_122 : decode cX10_cut 122 = .ok (.goto 5, 3) := by decide +kernel
theorem dX10_cut_125 : decode cX10_cut 125 = .ok (.iload 5, 2) := by decide +kernel
theorem dX10_cut_127 : decode cX10_cut 127 = .ok (.ireturn, 1) := by decide +kernel
theorem dX10_fame_0 : decode cX10_fame 0 = .ok (.aload_n 0, 1) := by decide +kernel
theorem dX10_fame_1 : decode cX10_fame 1 = .ok (.getfield 12, 3) := by decide +kernel
theorem dX10_fame_4 : decode cX10_fame 4 = .ok (.getfield 63, 3) := by decide +kernel
theorem dX10_fame_7 : decode cX10_fame 7 = .ok (.iload_n 1, 1) := by decide +kernel
theorem dX10_fame_8 : decode cX10_fame 8 = .ok (.invokevirtual 75, 3) := by decide +kernel
theorem dX10_fame_11 : decode cX10_fame 11 = .ok (.astore_n 2, 1) := by decide +kernel
theorem dX10_fame_12 : decode cX10_fame 12 = .ok (.aload_n 2, 1) := by decide +kernel
theorem dX10_fame_13 : decode cX10_fame 13 = .ok (.ifnonnull 8, 3) := by decide +kernel
theorem dX10_fame_16 : decode cX10_fame 16 = .ok (.ldc 62, 2) := by decide +kernel
theorem dX10_fame_18 : decode cX10_fame 18 = .ok (.goto 11, 3) := by decide +kernel
theorem dX10_fame_21 : decode cX10_fame 21 = .ok (.aload_n 0, 1) := by decide +kernel
theorem dX10_fame_22 : decode cX10_fame 22 = .ok (.getfield 12, 3) := by decide +kernel
theorem dX10_fame_25 : decode cX10_fame 25 = .ok (.aload_n 2, 1) := by decide +kernel
theorem dX10_fame_26 : decode cX10_fame 26 = .ok (.invokevirtual 270, 3) := by decide +kernel
theorem dX10_fame_29 : decode cX10_fame 29 = .ok (.ireturn, 1) := by decide +kernel
theorem dX10_fine_0 : decode cX10_fine 0 = .ok (.aload_n 0, 1) := by decide +kernel
theorem dX10_fine_1 : decode cX10_fine 1 = .ok (.getfield 12, 3) := by decide +kernel
theorem dX10_fine_4 : decode cX10_fine 4 = .ok (.invokevirtual 274, 3) := by decide +kernel
theorem dX10_fine_7 : decode cX10_fine 7 = .ok (.ireturn, 1) := by decide +kernel
theorem dX10_feed_0 : decode cX10_feed 0 = .ok (.aload_n 0, 1) := by decide +kernel
theorem dX10_feed_1 : decode cX10_feed 1 = .ok (.getfield 36, 3) := by decide +kernel
theorem dX10_feed_4 : decode cX10_feed 4 = .ok (.getfield 277, 3) := by decide +kernel
theorem dX10_feed_7 : decode cX10_feed 7 = .ok (.bipush 84, 2) := by decide +kernel
theorem dX10_feed_9 : decode cX10_feed 9 = .ok (.if_icmp .le 6, 3) := by decide +kernel
theorem dX10_feed_12 : decode cX10_feed 12 = .ok (.ldc 74, 2) := by decide +kernel
theorem dX10_feed_14 : decode cX10_feed 14 = .ok (.ireturn, 1) := by decide +kernel
theorem dX10_feed_15 : decode cX10_feed 15 = .ok (.aload_n 0, 1) := by decide +kernel
theorem dX10_feed_16 : decode cX10_feed 16 = .ok (.getfield 36, 3) := by decide +kernel
theorem dX10_feed_19 : decode cX10_feed 19 = .ok (.iload_n 1, 1) := by decide +kernel
theorem dX10_feed_20 : decode cX10_feed 20 = .ok (.invokevirtual 278, 3) := by decide +kernel
theorem dX10_feed_23 : decode cX10_feed 23 = .ok (.aload_n 0, 1) := by decide +kernel
theorem dX10_feed_24 : decode cX10_feed 24 = .ok (.getfield 36, 3) := by decide +kernel
theorem dX10_feed_27 : decode cX10_feed 27 = .ok (.iload_n 2, 1) := by decide +kernel
theorem dX10_feed_28 : decode cX10_feed 28 = .ok (.invokevirtual 278, 3) := by decide +kernel
theorem dX10_feed_31 : decode cX10_feed 31 = .ok (.aload_n 0, 1) := by decide +kernel
theorem dX10_feed_32 : decode cX10_feed 32 = .ok (.getfield 36, 3) := by decide +kernel
theorem dX10_feed_35 : decode cX10_feed 35 = .ok (.iload_n 3, 1) := by decide +kernel
theorem dX10_feed_36 : decode cX10_feed 36 = .ok (.invokevirtual 278, 3) := by decide +kernel
theorem dX10_feed_39 : decode cX10_feed 39 = .ok (.aload_n 0, 1) := by decide +kernel
theorem dX10_feed_40 : decode cX10_feed 40 = .ok (.getfield 36, 3) := by decide +kernel
theorem dX10_feed_43 : decode cX10_feed 43 = .ok (.getfield 277, 3) := by decide +kernel
theorem dX10_feed_46 : decode cX10_feed 46 = .ok (.ireturn, 1) := by decide +kernel
theorem dX10_trim_0 : decode cX10_trim 0 = .ok (.iload_n 1, 1) := by decide +kernel
theorem dX10_trim_1 : decode cX10_trim 1 = .ok (.ifCond .lt 14, 3) := by decide +kernel
theorem dX10_trim_4 : decode cX10_trim 4 = .ok (.iload_n 1, 1) := by decide +kernel
theorem dX10_trim_5 : decode cX10_trim 5 = .ok (.aload_n 0, 1) := by decide +kernel
theorem dX10_trim_6 : decode cX10_trim 6 = .ok (.getfield 36, 3) := by decide +kernel
theorem dX10_trim_9 : decode cX10_trim 9 = .ok (.getfield 277, 3) := by decide +kernel
theorem dX10_trim_12 : decode cX10_trim 12 = .ok (.if_icmp .le 6, 3) := by decide +kernel
theorem dX10_trim_15 : decode cX10_trim 15 = .ok (.ldc 62, 2) := by decide +kernel
theorem dX10_trim_17 : decode cX10_trim 17 = .ok (.ireturn, 1) := by decide +kernel
theorem dX10_trim_18 : decode cX10_trim 18 = .ok (.aload_n 0, 1) := by decide +kernel
theorem dX10_trim_19 : decode cX10_trim 19 = .ok (.getfield 36, 3) := by decide +kernel
theorem dX10_trim_22 : decode cX10_trim 22 = .ok (.iload_n 1, 1) := by decide +kernel
theorem dX10_trim_23 : decode cX10_trim 23 = .ok (.putfield 277, 3) := by decide +kernel
theorem dX10_trim_26 : decode cX10_trim 26 = .ok (.iload_n 1, 1) := by decide +kernel
theorem dX10_trim_27 : decode cX10_trim 27 = .ok (.ireturn, 1) := by decide +kernel
theorem dX10_text_0 : decode cX10_text 0 = .ok (.aload_n 0, 1) := by decide +kernel
theorem dX10_text_1 : decode cX10_text 1 = .ok (.getfield 36, 3) := by decide +kernel
theorem dX10_text_4 : decode cX10_text 4 = .ok (.invokevirtual 281, 3) := by decide +kernel
theorem dX10_text_7 : decode cX10_text 7 = .ok (.istore_n 1, 1) := by decide +kernel
theorem dX10_text_8 : decode cX10_text 8 = .ok (.aload_n 0, 1) := by decide +kernel
theorem dX10_text_9 : decode cX10_text 9 = .ok (.getfield 36, 3) := by decide +kernel
theorem dX10_text_12 : decode cX10_text 12 = .ok (.iconst 0, 1) := by decide +kernel
theorem dX10_text_13 : decode cX10_text 13 = .ok (.putfield 277, 3) := by decide +kernel
theorem dX10_text_16 : decode cX10_text 16 = .ok (.iload_n 1, 1) := by decide +kernel
theorem dX10_text_17 : decode cX10_text 17 = .ok (.ifCond .ne 14, 3) := by decide +kernel
theorem dX10_text_20 : decode cX10_text 20 = .ok (.bipush (-100), 2) := by decide +kernel
theorem dX10_text_22 : decode cX10_text 22 = .ok (.aload_n 0, 1) := by decide +kernel
theorem dX10_text_23 : decode cX10_text 23 = .ok (.getfield 36, 3) := by decide +kernel
theorem dX10_text_26 : decode cX10_text 26 = .ok (.getfield 284, 3) := by decide +kernel
theorem dX10_text_29 : decode cX10_text 29 = .ok (.isub, 1) := by decide +kernel
theorem dX10_text_30 : decode cX10_text 30 = .ok (.ireturn, 1) := by decide +kernel
theorem dX10_text_31 : decode cX10_text 31 = .ok (.aload_n 0, 1) := by decide +kernel
theorem dX10_text_32 : decode cX10_text 32 = .ok (.getfield 12, 3) := by decide +kernel
theorem dX10_text_35 : decode cX10_text 35 = .ok (.getfield 287, 3) := by decide +kernel
theorem dX10_text_38 : decode cX10_text 38 = .ok (.istore_n 2, 1) := by decide +kernel
theorem dX10_text_39 : decode cX10_text 39 = .ok (.aload_n 0, 1) := by decide +kernel
theorem dX10_text_40 : decode cX10_text 40 = .ok (.getfield 12, 3) := by decide +kernel
theorem dX10_text_43 : decode cX10_text 43 = .ok (.aload_n 0, 1) := by decide +kernel
theorem dX10_text_44 : decode cX10_text 44 = .ok (.getfield 36, 3) := by decide +kernel
theorem dX10_text_47 : decode cX10_text 47 = .ok (.invokevirtual 290, 3) := by decide +kernel
theorem dX10_text_50 : decode cX10_text 50 = .ok (.invokevirtual 294, 3) := by decide +kernel
theorem dX10_text_53 : decode cX10_text 53 = .ok (.ifCond .eq 7, 3) := by decide +kernel
theorem dX10_text_56 : decode cX10_text 56 = .ok (.iload_n 2, 1) := by decide +kernel
theorem dX10_text_57 : decode cX10_text 57 = .ok (.goto 5, 3) := by decide +kernel
theorem dX10_text_60 : decode cX10_text 60 = .ok (.ldc 74, 2) := by decide +kernel
theorem dX10_text_62 : decode cX10_text 62 = .ok (.ireturn, 1) := by decide +kernel
theorem dX10_textTold_0 : decode cX10_textTold 0 = .ok (.aload_n 0, 1) := by decide +kernel
theorem dX10_textTold_1 : decode cX10_textTold 1 = .ok (.getfield 12, 3) := by decide +kernel
theorem dX10_textTold_4 : decode cX10_textTold 4 = .ok (.iload_n 1, 1) := by decide +kernel
theorem dX10_textTold_5 : decode cX10_textTold 5 = .ok (.invokevirtual 298, 3) := by decide +kernel
theorem dX10_textTold_8 : decode cX10_textTold 8 = .ok (.astore_n 3, 1) := by decide +kernel
theorem dX10_textTold_9 : decode cX10_textTold 9 = .ok (.aload_n 3, 1) := by decide +kernel
theorem dX10_textTold_10 : decode cX10_textTold 10 = .ok (.ifnull 11, 3) := by decide +kernel
theorem dX10_textTold_13 : decode cX10_textTold 13 = .ok (.iload_n 2, 1) := by decide +kernel
theorem dX10_textTold_14 : decode cX10_textTold 14 = .ok (.iconst 2, 1) := by decide +kernel
theorem dX10_textTold_15 : decode cX10_textTold 15 = .ok (.invokestatic 58, 3) := by decide +kernel
theorem dX10_textTold_18 : decode cX10_textTold 18 = .ok (.ifCond .ne 6, 3) := by decide +kernel
theorem dX10_textTold_21 : decode cX10_textTold 21 = .ok (.ldc 62, 2) := by decide +kernel
theorem dX10_textTold_23 : decode cX10_textTold 23 = .ok (.ireturn, 1) := by decide +kernel
theorem dX10_textTold_24 : decode cX10_textTold 24 = .ok (.iload_n 2, 1) := by decide +kernel
theorem dX10_textTold_25 : decode cX10_textTold 25 = .ok (.ifCond .ne 10, 3) := by decide +kernel
theorem dX10_textTold_28 : decode cX10_textTold 28 = .ok (.aload_n 3, 1) := by decide +kernel
theorem dX10_textTold_29 : decode cX10_textTold 29 = .ok (.getfield 302, 3) := by decide +kernel
theorem dX10_textTold_32 : decode cX10_textTold 32 = .ok (.goto 7, 3) := by decide +kernel
theorem dX10_textTold_35 : decode cX10_textTold 35 = .ok (.aload_n 3, 1) := by decide +kernel
theorem dX10_textTold_36 : decode cX10_textTold 36 = .ok (.getfield 307, 3) := by decide +kernel
theorem dX10_textTold_39 : decode cX10_textTold 39 = .ok (.ireturn, 1) := by decide +kernel
theorem dX10_why_0 : decode cX10_why 0 = .ok (.iload_n 1, 1) := by decide +kernel
theorem dX10_why_1 : decode cX10_why 1 = .ok (.iconst 3, 1) := by decide +kernel
theorem dX10_why_2 : decode cX10_why 2 = .ok (.invokestatic 58, 3) := by decide +kernel
theorem dX10_why_5 : decode cX10_why 5 = .ok (.ifCond .ne 6, 3) := by decide +kernel
theorem dX10_why_8 : decode cX10_why 8 = .ok (.ldc 62, 2) := by decide +kernel
theorem dX10_why_10 : decode cX10_why 10 = .ok (.ireturn, 1) := by decide +kernel
theorem dX10_why_11 : decode cX10_why 11 = .ok (.aload_n 0, 1) := by decide +kernel
theorem dX10_why_12 : decode cX10_why 12 = .ok (.getfield 12, 3) := by decide +kernel
theorem dX10_why_15 : decode cX10_why 15 = .ok (.iload_n 1, 1) := by decide +kernel
theorem dX10_why_16 : decode cX10_why 16 = .ok (.invokevirtual 310, 3) := by decide +kernel
theorem dX10_why_19 : decode cX10_why 19 = .ok (.istore_n 2, 1) := by decide +kernel
theorem dX10_why_20 : decode cX10_why 20 = .ok (.iload_n 2, 1) := by decide +kernel
theorem dX10_why_21 : decode cX10_why 21 = .ok (.ifCond .ge 8, 3) := by decide +kernel
theorem dX10_why_24 : decode cX10_why 24 = .ok (.ldc 160, 2) := by decide +kernel
theorem dX10_why_26 : decode cX10_why 26 = .ok (.goto 4, 3) := by decide +kernel
theorem dX10_why_29 : decode cX10_why 29 = .ok (.iload_n 2, 1) := by decide +kernel
theorem dX10_why_30 : decode cX10_why 30 = .ok (.ireturn, 1) := by decide +kernel
theorem dX10_sheet_0 : decode cX10_sheet 0 = .ok (.aload_n 0, 1) := by decide +kernel
theorem dX10_sheet_1 : decode cX10_sheet 1 = .ok (.iload_n 1, 1) := by decide +kernel
theorem dX10_sheet_2 : decode cX10_sheet 2 = .ok (.invokevirtual 257, 3) := by decide +kernel
theorem dX10_sheet_5 : decode cX10_sheet 5 = .ok (.astore 4, 2) := by decide +kernel
theorem dX10_sheet_7 : decode cX10_sheet 7 = .ok (.aload 4, 2) := by decide +kernel
theorem dX10_sheet_9 : decode cX10_sheet 9 = .ok (.ifnull 13, 3) := by decide +kernel
theorem dX10_sheet_12 : decode cX10_sheet 12 = .ok (.iload_n 2, 1) := by decide +kernel
theorem dX10_sheet_13 : decode cX10_sheet 13 = .ok (.iconst (-1), 1) := by decide +kernel
theorem dX10_sheet_14 : decode cX10_sheet 14 = .ok (.if_icmp .lt 8, 3) := by decide +kernel
theorem dX10_sheet_17 : decode cX10_sheet 17 = .ok (.iload_n 2, 1) := by decide +kernel
theorem dX10_sheet_18 : decode cX10_sheet 18 = .ok (.iconst 1, 1) := by decide +kernel
theorem dX10_sheet_19 : decode cX10_sheet 19 = .ok (.if_icmp .le 6, 3) := by decide +kernel
theorem dX10_sheet_22 : decode cX10_sheet 22 = .ok (.ldc 62, 2) := by decide +kernel
theorem dX10_sheet_24 : decode cX10_sheet 24 = .ok (.ireturn, 1) := by decide +kernel
theorem dX10_sheet_25 : decode cX10_sheet 25 = .ok (.iload_n 2, 1) := by decide +kernel
theorem dX10_sheet_26 : decode cX10_sheet 26 = .ok (.iconst (-1), 1) := by decide +kernel
theorem dX10_sheet_27 : decode cX10_sheet 27 = .ok (.if_icmp .ne 12, 3) := by decide +kernel
theorem dX10_sheet_30 : decode cX10_sheet 30 = .ok (.aload 4, 2) := by decide +kernel
theorem dX10_sheet_32 : decode cX10_sheet 32 = .ok (.iconst (-1), 1) := by decide +kernel
theorem dX10_sheet_33 : decode cX10_sheet 33 = .ok (.iconst 0, 1) := by decide +kernel
theorem dX10_sheet_34 : decode cX10_sheet 34 = .ok (.invokevirtual 313, 3) := by decide +kernel
theorem dX10_sheet_37 : decode cX10_sheet 37 = .ok (.iconst 0, 1) := by decide +kernel
theorem dX10_sheet_38 : decode cX10_sheet 38 = .ok (.ireturn, 1) := by decide +kernel
theorem dX10_sheet_39 : decode cX10_sheet 39 = .ok (.iload_n 3, 1) := by decide +kernel
theorem dX10_sheet_40 : decode cX10_sheet 40 = .ok (.bipush 24, 2) := by decide +kernel
theorem dX10_sheet_42 : decode cX10_sheet 42 = .ok (.if_icmp .le 6, 3) := by decide +kernel
theorem dX10_sheet_45 : decode cX10_sheet 45 = .ok (.ldc 62, 2) := by decide +kernel
theorem dX10_sheet_47 : decode cX10_sheet 47 = .ok (.ireturn, 1) := by decide +kernel
theorem dX10_sheet_48 : decode cX10_sheet 48 = .ok (.iload_n 3, 1) := by decide +kernel
theorem dX10_sheet_49 : decode cX10_sheet 49 = .ok (.ifCond .ge 7, 3) := by decide +kernel
theorem dX10_sheet_52 : decode cX10_sheet 52 = .ok (.ldc_w 317, 3) := by decide +kernel
theorem dX10_sheet_55 : decode cX10_sheet 55 = .ok (.ireturn, 1) := by decide +kernel
theorem dX10_sheet_56 : decode cX10_sheet 56 = .ok (.aload 4, 2) := by decide +kernel
theorem dX10_sheet_58 : decode cX10_sheet 58 = .ok (.iload_n 2, 1) := by decide +kernel
theorem dX10_sheet_59 : decode cX10_sheet 59 = .ok (.iload_n 3, 1) := by decide +kernel
theorem dX10_sheet_60 : decode cX10_sheet 60 = .ok (.invokevirtual 313, 3) := by decide +kernel
theorem dX10_sheet_63 : decode cX10_sheet 63 = .ok (.iload_n 3, 1) := by decide +kernel
theorem dX10_sheet_64 : decode cX10_sheet 64 = .ok (.ireturn, 1) := by decide +kernel
theorem dX10_mark_0 : decode cX10_mark 0 = .ok (.aload_n 0, 1) := by decide +kernel
theorem dX10_mark_1 : decode cX10_mark 1 = .ok (.iload_n 1, 1) := by decide +kernel
theorem dX10_mark_2 : decode cX10_mark 2 = .ok (.invokevirtual 257, 3) := by decide +kernel
theorem dX10_mark_5 : decode cX10_mark 5 = .ok (.astore 4, 2) := by decide +kernel
theorem dX10_mark_7 : decode cX10_mark 7 = .ok (.aload 4, 2) := by decide +kernel
theorem dX10_mark_9 : decode cX10_mark 9 = .ok (.ifnonnull 6, 3) := by decide +kernel
theorem dX10_mark_12 : decode cX10_mark 12 = .ok (.ldc 62, 2) := by decide +kernel
theorem dX10_mark_14 : decode cX10_mark 14 = .ok (.ireturn, 1) := by decide +kernel
theorem dX10_mark_15 : decode cX10_mark 15 = .ok (.aload 4, 2) := by decide +kernel
theorem dX10_mark_17 : decode cX10_mark 17 = .ok (.getfield 261, 3) := by decide +kernel
theorem dX10_mark_20 : decode cX10_mark 20 = .ok (.iconst (-1), 1) := by decide +kernel
theorem dX10_mark_21 : decode cX10_mark 21 = .ok (.if_icmp .ne 7, 3) := by decide +kernel
theorem dX10_mark_24 : decode cX10_mark 24 = .ok (.ldc_w 264, 3) := by decide +kernel
theorem dX10_mark_27 : decode cX10_mark 27 = .ok (.ireturn, 1) := by decide +kernel
theorem dX10_mark_28 : decode cX10_mark 28 = .ok (.aload 4, 2) := by decide +kernel
theorem dX10_mark_30 : decode cX10_mark 30 = .ok (.iload_n 2, 1) := by decide +kernel
theorem dX10_mark_31 : decode cX10_mark 31 = .ok (.invokevirtual 318, 3) := by decide +kernel
theorem dX10_mark_34 : decode cX10_mark 34 = .ok (.ifCond .ne 7, 3) := by decide +kernel
theorem dX10_mark_37 : decode cX10_mark 37 = .ok (.ldc_w 321, 3) := by decide +kernel
theorem dX10_mark_40 : decode cX10_mark 40 = .ok (.ireturn, 1) := by decide +kernel
theorem dX10_mark_41 : decode cX10_mark 41 = .ok (.aload 4, 2) := by decide +kernel
theorem dX10_mark_43 : decode cX10_mark 43 = .ok (.getfield 261, 3) := by decide +kernel
theorem dX10_mark_46 : decode cX10_mark 46 = .ok (.ifCond .ne 23, 3) := by decide +kernel
theorem dX10_mark_49 : decode cX10_mark 49 = .ok (.iload_n 3, 1) := by decide +kernel
theorem dX10_mark_50 : decode cX10_mark 50 = .ok (.ldc 160, 2) := by decide +kernel
theorem dX10_mark_52 : decode cX10_mark 52 = .ok (.if_icmp .ne 6, 3) := by decide +kernel
theorem dX10_mark_55 : decode cX10_mark 55 = .ok (.ldc 133, 2) := by decide +kernel
theorem dX10_mark_57 : decode cX10_mark 57 = .ok (.ireturn, 1) := by decide +kernel
theorem dX10_mark_58 : decode cX10_mark 58 = .ok (.aload 4, 2) := by decide +kernel
theorem dX10_mark_60 : decode cX10_mark 60 = .ok (.getfield 322, 3) := by decide +kernel
theorem dX10_mark_63 : decode cX10_mark 63 = .ok (.iload_n 2, 1) := by decide +kernel
theorem dX10_mark_64 : decode cX10_mark 64 = .ok (.iload_n 3, 1) := by decide +kernel
theorem dX10_mark_65 : decode cX10_mark 65 = .ok (.i2s, 1) := by decide +kernel
theorem dX10_mark_66 : decode cX10_mark 66 = .ok (.iastore, 1) := by decide +kernel
theorem dX10_mark_67 : decode cX10_mark 67 = .ok (.iconst 1, 1) := by decide +kernel
theorem dX10_mark_68 : decode cX10_mark 68 = .ok (.ireturn, 1) := by decide +kernel
theorem dX10_mark_69 : decode cX10_mark 69 = .ok (.iload_n 3, 1) := by decide +kernel
theorem dX10_mark_70 : decode cX10_mark 70 = .ok (.ldc 160, 2) := by decide +kernel
theorem dX10_mark_72 : decode cX10_mark 72 = .ok (.if_icmp .eq 20, 3) := by decide +kernel
theorem dX10_mark_75 : decode cX10_mark 75 = .ok (.iload_n 3, 1) := by decide +kernel
theorem dX10_mark_76 : decode cX10_mark 76 = .ok (.ldc_w 325, 3) := by decide +kernel
theorem dX10_mark_79 : decode cX10_mark 79 = .ok (.if_icmp .lt 10, 3) := by decide +kernel
theorem dX10_mark_82 : decode cX10_mark 82 = .ok (.iload_n 3, 1) := by decide +kernel
theorem dX10_mark_83 : decode cX10_mark 83 = .ok (.ldc_w 326, 3) := by decide +kernel
theorem dX10_mark_86 : decode cX10_mark 86 = .ok (.if_icmp .le 6, 3) := by decide +kernel
theorem dX10_mark_89 : decode cX10_mark 89 = .ok (.ldc 62, 2) := by decide +kernel
theorem dX10_mark_91 : decode cX10_mark 91 = .ok (.ireturn, 1) := by decide +kernel
theorem dX10_mark_92 : decode cX10_mark 92 = .ok (.aload 4, 2) := by decide +kernel
theorem dX10_mark_94 : decode cX10_mark 94 = .ok (.getfield 322, 3) := by decide +kernel
theorem dX10_mark_97 : decode cX10_mark 97 = .ok (.iload_n 2, 1) := by decide +kernel
theorem dX10_mark_98 : decode cX10_mark 98 = .ok (.iload_n 3, 1) := by decide +kernel
theorem dX10_mark_99 : decode cX10_mark 99 = .ok (.iastore, 1) := by decide +kernel
theorem dX10_mark_100 : decode cX10_mark 100 = .ok (.iconst 1, 1) := by decide +kernel
theorem dX10_mark_101 : decode cX10_mark 101 = .ok (.ireturn, 1) := by decide +kernel
theorem dX10_pour_0 : decode cX10_pour 0 = .ok (.aload_n 0, 1) := by decide +kernel
theorem dX10_pour_1 : decode cX10_pour 1 = .ok (.iload_n 1, 1) := by decide +kernel
theorem dX10_pour_2 : decode cX10_pour 2 = .ok (.invokevirtual 257, 3) := by decide +kernel
theorem dX10_pour_5 : decode cX10_pour 5 = .ok (.astore_n 2, 1) := by decide +kernel
theorem dX10_pour_6 : decode cX10_pour 6 = .ok (.aload_n 2, 1) := by decide +kernel
theorem dX10_pour_7 : decode cX10_pour 7 = .ok (.ifnonnull 6, 3) := by decide +kernel
theorem dX10_pour_10 : decode cX10_pour 10 = .ok (.ldc 62, 2) := by decide +kernel
theorem dX10_pour_12 : decode cX10_pour 12 = .ok (.ireturn, 1) := by decide +kernel
theorem dX10_pour_13 : decode cX10_pour 13 = .ok (.aload_n 2, 1) := by decide +kernel
theorem dX10_pour_14 : decode cX10_pour 14 = .ok (.getfield 261, 3) := by decide +kernel
theorem dX10_pour_17 : decode cX10_pour 17 = .ok (.iconst (-1), 1) := by decide +kernel
theorem dX10_pour_18 : decode cX10_pour 18 = .ok (.if_icmp .ne 7, 3) := by decide +kernel
theorem dX10_pour_21 : decode cX10_pour 21 = .ok (.ldc_w 264, 3) := by decide +kernel
theorem dX10_pour_24 : decode cX10_pour 24 = .ok (.ireturn, 1) := by decide +kernel
theorem dX10_pour_25 : decode cX10_pour 25 = .ok (.iconst 0, 1) := by decide +kernel
theorem dX10_pour_26 : decode cX10_pour 26 = .ok (.istore_n 3, 1) := by decide +kernel
theorem dX10_pour_27 : decode cX10_pour 27 = .ok (.iconst 0, 1) := by decide +kernel
theorem dX10_pour_28 : decode cX10_pour 28 = .ok (.istore 4, 2) := by decide +kernel
theorem dX10_pour_30 : decode cX10_pour 30 = .ok (.iload 4, 2) := by decide +kernel
theorem dX10_pour_32 : decode cX10_pour 32 = .ok (.aload_n 2, 1) := by decide +kernel
theorem dX10_pour_33 : decode cX10_pour 33 = .ok (.getfield 327, 3) := by decide +kernel
theorem dX10_pour_36 : decode cX10_pour 36 = .ok (.if_icmp .ge 80, 3) := by decide +kernel
theorem dX10_pour_39 : decode cX10_pour 39 = .ok (.aload_n 0, 1) := by decide +kernel
theorem dX10_pour_40 : decode cX10_pour 40 = .ok (.getfield 12, 3) := by decide +kernel
theorem dX10_pour_43 : decode cX10_pour 43 = .ok (.getfield 63, 3) := by decide +kernel
theorem dX10_pour_46 : decode cX10_pour 46 = .ok (.iload 4, 2) := by decide +kernel
theorem dX10_pour_48 : decode cX10_pour 48 = .ok (.invokevirtual 75, 3) := by decide +kernel
theorem dX10_pour_51 : decode cX10_pour 51 = .ok (.astore 5, 2) := by decide +kernel
theorem dX10_pour_53 : decode cX10_pour 53 = .ok (.aload 5, 2) := by decide +kernel
theorem dX10_pour_55 : decode cX10_pour 55 = .ok (.ifnull 55, 3) := by decide +kernel
theorem dX10_pour_58 : decode cX10_pour 58 = .ok (.aload_n 2, 1) := by decide +kernel
theorem dX10_pour_59 : decode cX10_pour 59 = .ok (.iload 4, 2) := by decide +kernel
theorem dX10_pour_61 : decode cX10_pour 61 = .ok (.invokevirtual 328, 3) := by decide +kernel
theorem dX10_pour_64 : decode cX10_pour 64 = .ok (.ifCond .eq 46, 3) := by decide +kernel
theorem dX10_pour_67 : decode cX10_pour 67 = .ok (.iconst 0, 1) := by decide +kernel
theorem dX10_pour_68 : decode cX10_pour 68 = .ok (.bipush 99, 2) := by decide +kernel
theorem dX10_pour_70 : decode cX10_pour 70 = .ok (.aload_n 2, 1) := by decide +kernel
theorem dX10_pour_71 : decode cX10_pour 71 = .ok (.getfield 322, 3) := by decide +kernel
theorem dX10_pour_74 : decode cX10_pour 74 = .ok (.iload 4, 2) := by decide +kernel
theorem dX10_pour_76 : decode cX10_pour 76 = .ok (.iaload, 1) := by decide +kernel
theorem dX10_pour_77 : decode cX10_pour 77 = .ok (.invokestatic 161, 3) := by decide +kernel
theorem dX10_pour_80 : decode cX10_pour 80 = .ok (.invokestatic 331, 3) := by decide +kernel
theorem dX10_pour_83 : decode cX10_pour 83 = .ok (.istore 6, 2) := by decide +kernel
theorem dX10_pour_85 : decode cX10_pour 85 = .ok (.iload_n 3, 1) := by decide +kernel
theorem dX10_pour_86 : decode cX10_pour 86 = .ok (.iload 6, 2) := by decide +kernel
theorem dX10_pour_88 : decode cX10_pour 88 = .ok (.aload 5, 2) := by decide +kernel
theorem dX10_pour_90 : decode cX10_pour 90 = .ok (.getfield 97, 3) := by decide +kernel
theorem dX10_pour_93 : decode cX10_pour 93 = .ok (.if_icmp .ne 7, 3) := by decide +kernel
theorem dX10_pour_96 : decode cX10_pour 96 = .ok (.iconst 0, 1) := by decide +kernel
theorem dX10_pour_97 : decode cX10_pour 97 = .ok (.goto 4, 3) := by decide +kernel
theorem dX10_pour_100 : decode cX10_pour 100 = .ok (.iconst 1, 1) := by decide +kernel
theorem dX10_pour_101 : decode cX10_pour 101 = .ok (.iadd, 1) := by decide +kernel
theorem dX10_pour_102 : decode cX10_pour 102 = .ok (.istore_n 3, 1) := by decide +kernel
theorem dX10_pour_103 : decode cX10_pour 103 = .ok (.aload 5, 2) := by decide +kernel
theorem dX10_pour_105 : decode cX10_pour 105 = .ok (.iload 6, 2) := by decide +kernel
theorem dX10_pour_107 : decode cX10_pour 107 = .ok (.putfield 97, 3) := by decide +kernel
theorem dX10_pour_110 : decode cX10_pour 110 = .ok (.iinc 4 1, 3) := by decide +kernel
theorem dX10_pour_113 : decode cX10_pour 113 = .ok (.goto (-83), 3) := by decide +kernel
theorem dX10_pour_116 : decode cX10_pour 116 = .ok (.iload_n 3, 1) := by decide +kernel
theorem dX10_pour_117 : decode cX10_pour 117 = .ok (.ireturn, 1) := by decide +kernel
theorem dX10_reads_0 : decode cX10_reads 0 = .ok (.aload_n 0, 1) := by decide +kernel
theorem dX10_reads_1 : decode cX10_reads 1 = .ok (.iload_n 1, 1) := by decide +kernel
theorem dX10_reads_2 : decode cX10_reads 2 = .ok (.invokevirtual 257, 3) := by decide +kernel
theorem dX10_reads_5 : decode cX10_reads 5 = .ok (.astore_n 2, 1) := by decide +kernel
theorem dX10_reads_6 : decode cX10_reads 6 = .ok (.aload_n 2, 1) := by decide +kernel
theorem dX10_reads_7 : decode cX10_reads 7 = .ok (.ifnonnull 6, 3) := by decide +kernel
theorem dX10_reads_10 : decode cX10_reads 10 = .ok (.ldc 62, 2) := by decide +kernel
theorem dX10_reads_12 : decode cX10_reads 12 = .ok (.ireturn, 1) := by decide +kernel
theorem dX10_reads_13 : decode cX10_reads 13 = .ok (.aload_n 2, 1) := by decide +kernel
theorem dX10_reads_14 : decode cX10_reads 14 = .ok (.getfield 261, 3) := by decide +kernel
theorem dX10_reads_17 : decode cX10_reads 17 = .ok (.iconst (-1), 1) := by decide +kernel
theorem dX10_reads_18 : decode cX10_reads 18 = .ok (.if_icmp .ne 7, 3) := by decide +kernel
theorem dX10_reads_21 : decode cX10_reads 21 = .ok (.ldc_w 264, 3) := by decide +kernel
theorem dX10_reads_24 : decode cX10_reads 24 = .ok (.ireturn, 1) := by decide +kernel
theorem dX10_reads_25 : decode cX10_reads 25 = .ok (.iconst 0, 1) := by decide +kernel
theorem dX10_reads_26 : decode cX10_reads 26 = .ok (.istore_n 3, 1) := by decide +kernel
theorem dX10_reads_27 : decode cX10_reads 27 = .ok (.iload_n 3, 1) := by decide +kernel
theorem dX10_reads_28 : decode cX10_reads 28 = .ok (.aload_n 2, 1) := by decide +kernel
theorem dX10_reads_29 : decode cX10_reads 29 = .ok (.getfield 327, 3) := by decide +kernel
theorem dX10_reads_32 : decode cX10_reads 32 = .ok (.if_icmp .ge 51, 3) := by decide +kernel
theorem dX10_reads_35 : decode cX10_reads 35 = .ok (.aload_n 0, 1) := by decide +kernel
theorem dX10_reads_36 : decode cX10_reads 36 = .ok (.getfield 12, 3) := by decide +kernel
theorem dX10_reads_39 : decode cX10_reads 39 = .ok (.getfield 63, 3) := by decide +kernel
theorem dX10_reads_42 : decode cX10_reads 42 = .ok (.iload_n 3, 1) := by decide +kernel
theorem dX10_reads_43 : decode cX10_reads 43 = .ok (.invokevirtual 75, 3) := by decide +kernel
theorem dX10_reads_46 : decode cX10_reads 46 = .ok (.astore 4, 2) := by decide +kernel
theorem dX10_reads_48 : decode cX10_reads 48 = .ok (.aload_n 2, 1) := by decide +kernel
theorem dX10_reads_49 : decode cX10_reads 49 = .ok (.iload_n 3, 1) := by decide +kernel
theorem dX10_reads_50 : decode cX10_reads 50 = .ok (.invokevirtual 328, 3) := by decide +kernel
theorem dX10_reads_53 : decode cX10_reads 53 = .ok (.ifCond .eq 24, 3) := by decide +kernel
theorem dX10_reads_56 : decode cX10_reads 56 = .ok (.aload 4, 2) := by decide +kernel
theorem dX10_reads_58 : decode cX10_reads 58 = .ok (.ifnull 17, 3) := by decide +kernel
theorem dX10_reads_61 : decode cX10_reads 61 = .ok (.aload_n 2, 1) := by decide +kernel
theorem dX10_reads_62 : decode cX10_reads 62 = .ok (.getfield 322, 3) := by decide +kernel
theorem dX10_reads_65 : decode cX10_reads 65 = .ok (.iload_n 3, 1) := by decide +kernel
theorem dX10_reads_66 : decode cX10_reads 66 = .ok (.iaload, 1) := by decide +kernel
theorem dX10_reads_67 : decode cX10_reads 67 = .ok (.aload 4, 2) := by decide +kernel
theorem dX10_reads_69 : decode cX10_reads 69 = .ok (.getfield 100, 3) := by decide +kernel
theorem dX10_reads_72 : decode cX10_reads 72 = .ok (.if_icmp .eq 5, 3) := by decide +kernel
theorem dX10_reads_75 : decode cX10_reads 75 = .ok (.iload_n 3, 1) := by decide +kernel
theorem dX10_reads_76 : decode cX10_reads 76 = .ok (.ireturn, 1) := by decide +kernel
theorem dX10_reads_77 : decode cX10_reads 77 = .ok (.iinc 3 1, 3) := by decide +kernel
theorem dX10_reads_80 : decode cX10_reads 80 = .ok (.goto (-53), 3) := by decide +kernel
theorem dX10_reads_83 : decode cX10_reads 83 = .ok (.ldc 160, 2) := by decide +kernel
theorem dX10_reads_85 : decode cX10_reads 85 = .ok (.ireturn, 1) := by decide +kernel
theorem dX10_copy_0 : decode cX10_copy 0 = .ok (.aload_n 0, 1) := by decide +kernel
theorem dX10_copy_1 : decode cX10_copy 1 = .ok (.iload_n 1, 1) := by decide +kernel
theorem dX10_copy_2 : decode cX10_copy 2 = .ok (.invokevirtual 257, 3) := by decide +kernel
theorem dX10_copy_5 : decode cX10_copy 5 = .ok (.astore 6, 2) := by decide +kernel
theorem dX10_copy_7 : decode cX10_copy 7 = .ok (.aload_n 0, 1) := by decide +kernel
theorem dX10_copy_8 : decode cX10_copy 8 = .ok (.iload_n 3, 1) := by decide +kernel
theorem dX10_copy_9 : decode cX10_copy 9 = .ok (.invokevirtual 257, 3) := by decide +kernel
theorem dX10_copy_12 : decode cX10_copy 12 = .ok (.astore 7, 2) := by decide +kernel
theorem dX10_copy_14 : decode cX10_copy 14 = .ok (.aload 6, 2) := by decide +kernel
theorem dX10_copy_16 : decode cX10_copy 16 = .ok (.ifnull 8, 3) := by decide +kernel
theorem dX10_copy_19 : decode cX10_copy 19 = .ok (.aload 7, 2) := by decide +kernel
theorem dX10_copy_21 : decode cX10_copy 21 = .ok (.ifnonnull 6, 3) := by decide +kernel
theorem dX10_copy_24 : decode cX10_copy 24 = .ok (.ldc 62, 2) := by decide +kernel
theorem dX10_copy_26 : decode cX10_copy 26 = .ok (.ireturn, 1) := by decide +kernel
theorem dX10_copy_27 : decode cX10_copy 27 = .ok (.aload 6, 2) := by decide +kernel
theorem dX10_copy_29 : decode cX10_copy 29 = .ok (.getfield 261, 3) := by decide +kernel
theorem dX10_copy_32 : decode cX10_copy 32 = .ok (.iconst (-1), 1) := by decide +kernel
theorem dX10_copy_33 : decode cX10_copy 33 = .ok (.if_icmp .eq 12, 3) := by decide +kernel
theorem dX10_copy_36 : decode cX10_copy 36 = .ok (.aload 7, 2) := by decide +kernel
theorem dX10_copy_38 : decode cX10_copy 38 = .ok (.getfield 261, 3) := by decide +kernel
theorem dX10_copy_41 : decode cX10_copy 41 = .ok (.iconst (-1), 1) := by decide +kernel
theorem dX10_copy_42 : decode cX10_copy 42 = .ok (.if_icmp .ne 7, 3) := by decide +kernel
theorem dX10_copy_45 : decode cX10_copy 45 = .ok (.ldc_w 264, 3) := by decide +kernel
theorem dX10_copy_48 : decode cX10_copy 48 = .ok (.ireturn, 1) := by decide +kernel
theorem dX10_copy_49 : decode cX10_copy 49 = .ok (.aload 6, 2) := by decide +kernel
theorem dX10_copy_51 : decode cX10_copy 51 = .ok (.getfield 261, 3) := by decide +kernel
theorem dX10_copy_54 : decode cX10_copy 54 = .ok (.aload 7, 2) := by decide +kernel
theorem dX10_copy_56 : decode cX10_copy 56 = .ok (.getfield 261, 3) := by decide +kernel
theorem dX10_copy_59 : decode cX10_copy 59 = .ok (.if_icmp .eq 6, 3) := by decide +kernel
theorem dX10_copy_62 : decode cX10_copy 62 = .ok (.ldc 133, 2) := by decide +kernel
theorem dX10_copy_64 : decode cX10_copy 64 = .ok (.ireturn, 1) := by decide +kernel
theorem dX10_copy_65 : decode cX10_copy 65 = .ok (.aload 6, 2) := by decide +kernel
theorem dX10_copy_67 : decode cX10_copy 67 = .ok (.iload_n 2, 1) := by decide +kernel
theorem dX10_copy_68 : decode cX10_copy 68 = .ok (.iload 5, 2) := by decide +kernel
theorem dX10_copy_70 : decode cX10_copy 70 = .ok (.invokevirtual 334, 3) := by decide +kernel
theorem dX10_copy_73 : decode cX10_copy 73 = .ok (.ifCond .eq 15, 3) := by decide +kernel
theorem dX10_copy_76 : decode cX10_copy 76 = .ok (.aload 7, 2) := by decide +kernel
theorem dX10_copy_78 : decode cX10_copy 78 = .ok (.iload 4, 2) := by decide +kernel
theorem dX10_copy_80 : decode cX10_copy 80 = .ok (.iload 5, 2) := by decide +kernel
theorem dX10_copy_82 : decode cX10_copy 82 = .ok (.invokevirtual 334, 3) := by decide +kernel
theorem dX10_copy_85 : decode cX10_copy 85 = .ok (.ifCond .ne 7, 3) := by decide +kernel
theorem dX10_copy_88 : decode cX10_copy 88 = .ok (.ldc_w 321, 3) := by decide +kernel
theorem dX10_copy_91 : decode cX10_copy 91 = .ok (.ireturn, 1) := by decide +kernel
theorem dX10_copy_92 : decode cX10_copy 92 = .ok (.aload 6, 2) := by decide +kernel
theorem dX10_copy_94 : decode cX10_copy 94 = .ok (.getfield 322, 3) := by decide +kernel
theorem dX10_copy_97 : decode cX10_copy 97 = .ok (.iload_n 2, 1) := by decide +kernel
theorem dX10_copy_98 : decode cX10_copy 98 = .ok (.aload 7, 2) := by decide +kernel
theorem dX10_copy_100 : decode cX10_copy 100 = .ok (.getfield 322, 3) := by decide +kernel
theorem dX10_copy_103 : decode cX10_copy 103 = .ok (.iload 4, 2) := by decide +kernel
theorem dX10_copy_105 : decode cX10_copy 105 = .ok (.iload 5, 2) := by decide +kernel
theorem dX10_copy_107 : decode cX10_copy 107 = .ok (.invokestatic 337, 3) := by decide +kernel
theorem dX10_copy_110 : decode cX10_copy 110 = .ok (.iload 5, 2) := by decide +kernel
theorem dX10_copy_112 : decode cX10_copy 112 = .ok (.ireturn, 1) := by decide +kernel
theorem dX10_lay_0 : decode cX10_lay 0 = .ok (.aload_n 0, 1) := by decide +kernel
theorem dX10_lay_1 : decode cX10_lay 1 = .ok (.iload_n 1, 1) := by decide +kernel
theorem dX10_lay_2 : decode cX10_lay 2 = .ok (.invokevirtual 343, 3) := by decide +kernel
theorem dX10_lay_5 : decode cX10_lay 5 = .ok (.astore 4, 2) := by decide +kernel
theorem dX10_lay_7 : decode cX10_lay 7 = .ok (.aload 4, 2) := by decide +kernel
theorem dX10_lay_9 : decode cX10_lay 9 = .ok (.ifnonnull 6, 3) := by decide +kernel
theorem dX10_lay_12 : decode cX10_lay 12 = .ok (.ldc 62, 2) := by decide +kernel
theorem dX10_lay_14 : decode cX10_lay 14 = .ok (.ireturn, 1) := by decide +kernel
theorem dX10_lay_15 : decode cX10_lay 15 = .ok (.aload 4, 2) := by decide +kernel
theorem dX10_lay_17 : decode cX10_lay 17 = .ok (.getfield 347, 3) := by decide +kernel
theorem dX10_lay_20 : decode cX10_lay 20 = .ok (.istore 5, 2) := by decide +kernel
theorem dX10_lay_22 : decode cX10_lay 22 = .ok (.iload_n 2, 1) := by decide +kernel
theorem dX10_lay_23 : decode cX10_lay 23 = .ok (.tableswitch 69 0 3 #[29, 38, 46, 54], 29) := by decide +kernel
theorem dX10_lay_52 : decode cX10_lay 52 = .ok (.aload 4, 2) := by decide +kernel
theorem dX10_lay_54 : decode cX10_lay 54 = .ok (.iconst 0, 1) := by decide +kernel
theorem dX10_lay_55 : decode cX10_lay 55 = .ok (.putfield 347, 3) := by decide +kernel
theorem dX10_lay_58 : decode cX10_lay 58 = .ok (.iload 5, 2) := by decide +kernel
theorem dX10_lay_60 : decode cX10_lay 60 = .ok (.ireturn, 1) := by decide +kernel
theorem dX10_lay_61 : decode cX10_lay 61 = .ok (.aload_n 0, 1) := by decide +kernel
theorem dX10_lay_62 : decode cX10_lay 62 = .ok (.aload 4, 2) := by decide +kernel
theorem dX10_lay_64 : decode cX10_lay 64 = .ok (.iload_n 3, 1) := by decide +kernel
theorem dX10_lay_65 : decode cX10_lay 65 = .ok (.invokevirtual 350, 3) := by decide +kernel
theorem dX10_lay_68 : decode cX10_lay 68 = .ok (.ireturn, 1) := by decide +kernel
theorem dX10_lay_69 : decode cX10_lay 69 = .ok (.aload_n 0, 1) := by decide +kernel
theorem dX10_lay_70 : decode cX10_lay 70 = .ok (.aload 4, 2) := by decide +kernel
theorem dX10_lay_72 : decode cX10_lay 72 = .ok (.iload_n 3, 1) := by decide +kernel
theorem dX10_lay_73 : decode cX10_lay 73 = .ok (.invokevirtual 354, 3) := by decide +kernel
theorem dX10_lay_76 : decode cX10_lay 76 = .ok (.ireturn, 1) := by decide +kernel
theorem dX10_lay_77 : decode cX10_lay 77 = .ok (.aload 4, 2) := by decide +kernel
theorem dX10_lay_79 : decode cX10_lay 79 = .ok (.iconst 3, 1) := by decide +kernel
theorem dX10_lay_80 : decode cX10_lay 80 = .ok (.putfield 347, 3) := by decide +kernel
theorem dX10_lay_83 : decode cX10_lay 83 = .ok (.aload 4, 2) := by decide +kernel
theorem dX10_lay_85 : decode cX10_lay 85 = .ok (.iload_n 3, 1) := by decide +kernel
theorem dX10_lay_86 : decode cX10_lay 86 = .ok (.putfield 357, 3) := by decide +kernel
theorem dX10_lay_89 : decode cX10_lay 89 = .ok (.iload 5, 2) := by decide +kernel
theorem dX10_lay_91 : decode cX10_lay 91 = .ok (.ireturn, 1) := by decide +kernel
theorem dX10_lay_92 : decode cX10_lay 92 = .ok (.ldc 62, 2) := by decide +kernel
theorem dX10_lay_94 : decode cX10_lay 94 = .ok (.ireturn, 1) := by decide +kernel
theorem dX10_layMaster_0 : decode cX10_layMaster 0 = .ok (.aload_n 0, 1) := by decide +kernel
theorem dX10_layMaster_1 : decode cX10_layMaster 1 = .ok (.getfield 12, 3) := by decide +kernel
theorem dX10_layMaster_4 : decode cX10_layMaster 4 = .ok (.getfield 63, 3) := by decide +kernel
theorem dX10_layMaster_7 : decode cX10_layMaster 7 = .ok (.iload_n 2, 1) := by decide +kernel
theorem dX10_layMaster_8 : decode cX10_layMaster 8 = .ok (.invokevirtual 75, 3) := by decide +kernel
theorem dX10_layMaster_11 : decode cX10_layMaster 11 = .ok (.astore_n 3, 1) := by decide +kernel
theorem dX10_layMaster_12 : decode cX10_layMaster 12 = .ok (.aload_n 3, 1) := by decide +kernel
theorem dX10_layMaster_13 : decode cX10_layMaster 13 = .ok (.ifnonnull 6, 3) := by decide +kernel
theorem dX10_layMaster_16 : decode cX10_layMaster 16 = .ok (.ldc 62, 2) := by decide +kernel
theorem dX10_layMaster_18 : decode cX10_layMaster 18 = .ok (.ireturn, 1) := by decide +kernel
theorem dX10_layMaster_19 : decode cX10_layMaster 19 = .ok (.aload_n 1, 1) := by decide +kernel
theorem dX10_layMaster_20 : decode cX10_layMaster 20 = .ok (.getfield 347, 3) := by decide +kernel
theorem dX10_layMaster_23 : decode cX10_layMaster 23 = .ok (.istore 4, 2) := by decide +kernel
theorem dX10_layMaster_25 : decode cX10_layMaster 25 = .ok (.aload_n 1, 1) := by decide +kernel
theorem dX10_layMaster_26 : decode cX10_layMaster 26 = .ok (.iconst 1, 1) := by decide +kernel
theorem dX10_layMaster_27 : decode cX10_layMaster 27 = .ok (.putfield 347, 3) := by decide +kernel
theorem dX10_layMaster_30 : decode cX10_layMaster 30 = .ok (.aload_n 1, 1) := by decide +kernel
theorem dX10_layMaster_31 : decode cX10_layMaster 31 = .ok (.getfield 360, 3) := by decide +kernel
theorem dX10_layMaster_34 : decode cX10_layMaster 34 = .ok (.aload_n 3, 1) := by decide +kernel
theorem dX10_layMaster_35 : decode cX10_layMaster 35 = .ok (.invokevirtual 364, 3) := by decide +kernel
theorem dX10_layMaster_38 : decode cX10_layMaster 38 = .ok (.iload 4, 2) := by decide +kernel
theorem dX10_layMaster_40 : decode cX10_layMaster 40 = .ok (.ireturn, 1) := by decide +kernel
theorem dX10_laySheet_0 : decode cX10_laySheet 0 = .ok (.aload_n 0, 1) := by decide +kernel
theorem dX10_laySheet_1 : decode cX10_laySheet 1 = .ok (.iload_n 2, 1) := by decide +kernel
theorem dX10_laySheet_2 : decode cX10_laySheet 2 = .ok (.invokevirtual 257, 3) := by decide +kernel
theorem dX10_laySheet_5 : decode cX10_laySheet 5 = .ok (.astore_n 3, 1) := by decide +kernel
theorem dX10_laySheet_6 : decode cX10_laySheet 6 = .ok (.aload_n 3, 1) := by decide +kernel
theorem dX10_laySheet_7 : decode cX10_laySheet 7 = .ok (.ifnonnull 6, 3) := by decide +kernel
theorem dX10_laySheet_10 : decode cX10_laySheet 10 = .ok (.ldc 62, 2) := by decide +kernel
theorem dX10_laySheet_12 : decode cX10_laySheet 12 = .ok (.ireturn, 1) := by decide +kernel
theorem dX10_laySheet_13 : decode cX10_laySheet 13 = .ok (.aload_n 3, 1) := by decide +kernel
theorem dX10_laySheet_14 : decode cX10_laySheet 14 = .ok (.getfield 261, 3) := by decide +kernel
theorem dX10_laySheet_17 : decode cX10_laySheet 17 = .ok (.iconst (-1), 1) := by decide +kernel
theorem dX10_laySheet_18 : decode cX10_laySheet 18 = .ok (.if_icmp .ne 7, 3) := by decide +kernel
theorem dX10_laySheet_21 : decode cX10_laySheet 21 = .ok (.ldc_w 264, 3) := by decide +kernel
theorem dX10_laySheet_24 : decode cX10_laySheet 24 = .ok (.ireturn, 1) := by decide +kernel
theorem dX10_laySheet_25 : decode cX10_laySheet 25 = .ok (.aload_n 1, 1) := by decide +kernel
theorem dX10_laySheet_26 : decode cX10_laySheet 26 = .ok (.getfield 347, 3) := by decide +kernel
theorem dX10_laySheet_29 : decode cX10_laySheet 29 = .ok (.istore 4, 2) := by decide +kernel
theorem dX10_laySheet_31 : decode cX10_laySheet 31 = .ok (.aload_n 1, 1) := by decide +kernel
theorem dX10_laySheet_32 : decode cX10_laySheet 32 = .ok (.iconst 2, 1) := by decide +kernel
theorem dX10_laySheet_33 : decode cX10_laySheet 33 = .ok (.putfield 347, 3) := by decide +kernel
theorem dX10_laySheet_36 : decode cX10_laySheet 36 = .ok (.aload_n 1, 1) := by decide +kernel
theorem dX10_laySheet_37 : decode cX10_laySheet 37 = .ok (.getfield 367, 3) := by decide +kernel
theorem dX10_laySheet_40 : decode cX10_laySheet 40 = .ok (.aload_n 3, 1) := by decide +kernel
theorem dX10_laySheet_41 : decode cX10_laySheet 41 = .ok (.invokevirtual 371, 3) := by decide +kernel
theorem dX10_laySheet_44 : decode cX10_laySheet 44 = .ok (.iload 4, 2) := by decide +kernel
theorem dX10_laySheet_46 : decode cX10_laySheet 46 = .ok (.ireturn, 1) := by decide +kernel
theorem dX10_ask_0 : decode cX10_ask 0 = .ok (.aload_n 0, 1) := by decide +kernel
theorem dX10_ask_1 : decode cX10_ask 1 = .ok (.iload_n 1, 1) := by decide +kernel
theorem dX10_ask_2 : decode cX10_ask 2 = .ok (.invokevirtual 343, 3) := by decide +kernel
theorem dX10_ask_5 : decode cX10_ask 5 = .ok (.astore_n 3, 1) := by decide +kernel
theorem dX10_ask_6 : decode cX10_ask 6 = .ok (.aload_n 3, 1) := by decide +kernel
theorem dX10_ask_7 : decode cX10_ask 7 = .ok (.ifnull 12, 3) := by decide +kernel
theorem dX10_ask_10 : decode cX10_ask 10 = .ok (.iload_n 2, 1) := by decide +kernel
theorem dX10_ask_11 : decode cX10_ask 11 = .ok (.bipush 6, 2) := by decide +kernel
theorem dX10_ask_13 : decode cX10_ask 13 = .ok (.invokestatic 58, 3) := by decide +kernel
theorem dX10_ask_16 : decode cX10_ask 16 = .ok (.ifCond .ne 6, 3) := by decide +kernel
theorem dX10_ask_19 : decode cX10_ask 19 = .ok (.ldc 62, 2) := by decide +kernel
theorem dX10_ask_21 : decode cX10_ask 21 = .ok (.ireturn, 1) := by decide +kernel
theorem dX10_ask_22 : decode cX10_ask 22 = .ok (.aload_n 3, 1) := by decide +kernel
theorem dX10_ask_23 : decode cX10_ask 23 = .ok (.getfield 347, 3) := by decide +kernel
theorem dX10_ask_26 : decode cX10_ask 26 = .ok (.ifCond .ne 7, 3) := by decide +kernel
theorem dX10_ask_29 : decode cX10_ask 29 = .ok (.ldc_w 264, 3) := by decide +kernel
theorem dX10_ask_32 : decode cX10_ask 32 = .ok (.ireturn, 1) := by decide +kernel
theorem dX10_ask_33 : decode cX10_ask 33 = .ok (.aload_n 3, 1) := by decide +kernel
theorem dX10_ask_34 : decode cX10_ask 34 = .ok (.getfield 347, 3) := by decide +kernel
theorem dX10_ask_37 : decode cX10_ask 37 = .ok (.iconst 1, 1) := by decide +kernel
theorem dX10_ask_38 : decode cX10_ask 38 = .ok (.if_icmp .ne 14, 3) := by decide +kernel
theorem dX10_ask_41 : decode cX10_ask 41 = .ok (.aload_n 3, 1) := by decide +kernel
theorem dX10_ask_42 : decode cX10_ask 42 = .ok (.getfield 360, 3) := by decide +kernel
theorem dX10_ask_45 : decode cX10_ask 45 = .ok (.iload_n 2, 1) := by decide +kernel
theorem dX10_ask_46 : decode cX10_ask 46 = .ok (.invokevirtual 130, 3) := by decide +kernel
theorem dX10_ask_49 : decode cX10_ask 49 = .ok (.ifCond .ne 6, 3) := by decide +kernel
theorem dX10_ask_52 : decode cX10_ask 52 = .ok (.ldc 133, 2) := by decide +kernel
theorem dX10_ask_54 : decode cX10_ask 54 = .ok (.ireturn, 1) := by decide +kernel
theorem dX10_ask_55 : decode cX10_ask 55 = .ok (.aload_n 3, 1) := by decide +kernel
theorem dX10_ask_56 : decode cX10_ask 56 = .ok (.getfield 360, 3) := by decide +kernel
theorem dX10_ask_59 : decode cX10_ask 59 = .ok (.invokevirtual 126, 3) := by decide +kernel
theorem dX10_ask_62 : decode cX10_ask 62 = .ok (.ireturn, 1) := by decide +kernel
theorem dX10_item_0 : decode cX10_item 0 = .ok (.aload_n 0, 1) := by decide +kernel
theorem dX10_item_1 : decode cX10_item 1 = .ok (.iload_n 1, 1) := by decide +kernel
theorem dX10_item_2 : decode cX10_item 2 = .ok (.invokevirtual 343, 3) := by decide +kernel
theorem dX10_item_5 : decode cX10_item 5 = .ok (.astore_n 3, 1) := by decide +kernel
theorem dX10_item_6 : decode cX10_item 6 = .ok (.aload_n 3, 1) := by decide +kernel
theorem dX10_item_7 : decode cX10_item 7 = .ok (.ifnonnull 6, 3) := by decide +kernel
theorem dX10_item_10 : decode cX10_item 10 = .ok (.ldc 62, 2) := by decide +kernel
theorem dX10_item_12 : decode cX10_item 12 = .ok (.ireturn, 1) := by decide +kernel
theorem dX10_item_13 : decode cX10_item 13 = .ok (.aload_n 3, 1) := by decide +kernel
theorem dX10_item_14 : decode cX10_item 14 = .ok (.getfield 347, 3) := by decide +kernel
theorem dX10_item_17 : decode cX10_item 17 = .ok (.ifCond .ne 7, 3) := by decide +kernel
theorem dX10_item_20 : decode cX10_item 20 = .ok (.ldc_w 264, 3) := by decide +kernel
theorem dX10_item_23 : decode cX10_item 23 = .ok (.ireturn, 1) := by decide +kernel
theorem dX10_item_24 : decode cX10_item 24 = .ok (.aload_n 3, 1) := by decide +kernel
theorem dX10_item_25 : decode cX10_item 25 = .ok (.getfield 347, 3) := by decide +kernel
theorem dX10_item_28 : decode cX10_item 28 = .ok (.iconst 2, 1) := by decide +kernel
theorem dX10_item_29 : decode cX10_item 29 = .ok (.if_icmp .eq 6, 3) := by decide +kernel
theorem dX10_item_32 : decode cX10_item 32 = .ok (.ldc 133, 2) := by decide +kernel
theorem dX10_item_34 : decode cX10_item 34 = .ok (.ireturn, 1) := by decide +kernel
theorem dX10_item_35 : decode cX10_item 35 = .ok (.aload_n 3, 1) := by decide +kernel
theorem dX10_item_36 : decode cX10_item 36 = .ok (.getfield 367, 3) := by decide +kernel
theorem dX10_item_39 : decode cX10_item 39 = .ok (.iload_n 2, 1) := by decide +kernel
theorem dX10_item_40 : decode cX10_item 40 = .ok (.invokevirtual 318, 3) := by decide +kernel
theorem dX10_item_43 : decode cX10_item 43 = .ok (.ifCond .ne 7, 3) := by decide +kernel
theorem dX10_item_46 : decode cX10_item 46 = .ok (.ldc_w 321, 3) := by decide +kernel
theorem dX10_item_49 : decode cX10_item 49 = .ok (.ireturn, 1) := by decide +kernel
theorem dX10_item_50 : decode cX10_item 50 = .ok (.aload_n 3, 1) := by decide +kernel
theorem dX10_item_51 : decode cX10_item 51 = .ok (.getfield 367, 3) := by decide +kernel
theorem dX10_item_54 : decode cX10_item 54 = .ok (.iload_n 2, 1) := by decide +kernel
theorem dX10_item_55 : decode cX10_item 55 = .ok (.invokevirtual 328, 3) := by decide +kernel
theorem dX10_item_58 : decode cX10_item 58 = .ok (.ifCond .eq 15, 3) := by decide +kernel
theorem dX10_item_61 : decode cX10_item 61 = .ok (.aload_n 3, 1) := by decide +kernel
theorem dX10_item_62 : decode cX10_item 62 = .ok (.getfield 367, 3) := by decide +kernel
theorem dX10_item_65 : decode cX10_item 65 = .ok (.getfield 322, 3) := by decide +kernel
theorem dX10_item_68 : decode cX10_item 68 = .ok (.iload_n 2, 1) := by decide +kernel
theorem dX10_item_69 : decode cX10_item 69 = .ok (.iaload, 1) := by decide +kernel
theorem dX10_item_70 : decode cX10_item 70 = .ok (.goto 5, 3) := by decide +kernel
theorem dX10_item_73 : decode cX10_item 73 = .ok (.ldc 133, 2) := by decide +kernel
theorem dX10_item_75 : decode cX10_item 75 = .ok (.ireturn, 1) := by decide +kernel
theorem dX10_rest_0 : decode cX10_rest 0 = .ok (.aload_n 0, 1) := by decide +kernel
theorem dX10_rest_1 : decode cX10_rest 1 = .ok (.iload_n 1, 1) := by decide +kernel
theorem dX10_rest_2 : decode cX10_rest 2 = .ok (.invokevirtual 343, 3) := by decide +kernel
theorem dX10_rest_5 : decode cX10_rest 5 = .ok (.astore_n 3, 1) := by decide +kernel
theorem dX10_rest_6 : decode cX10_rest 6 = .ok (.aload_n 3, 1) := by decide +kernel
theorem dX10_rest_7 : decode cX10_rest 7 = .ok (.ifnonnull 6, 3) := by decide +kernel
theorem dX10_rest_10 : decode cX10_rest 10 = .ok (.ldc 62, 2) := by decide +kernel
theorem dX10_rest_12 : decode cX10_rest 12 = .ok (.ireturn, 1) := by decide +kernel
theorem dX10_rest_13 : decode cX10_rest 13 = .ok (.aload_n 3, 1) := by decide +kernel
theorem dX10_rest_14 : decode cX10_rest 14 = .ok (.getfield 347, 3) := by decide +kernel
theorem dX10_rest_17 : decode cX10_rest 17 = .ok (.ifCond .ne 7, 3) := by decide +kernel
theorem dX10_rest_20 : decode cX10_rest 20 = .ok (.ldc_w 264, 3) := by decide +kernel
theorem dX10_rest_23 : decode cX10_rest 23 = .ok (.ireturn, 1) := by decide +kernel
theorem dX10_rest_24 : decode cX10_rest 24 = .ok (.aload_n 3, 1) := by decide +kernel
theorem dX10_rest_25 : decode cX10_rest 25 = .ok (.getfield 347, 3) := by decide +kernel
theorem dX10_rest_28 : decode cX10_rest 28 = .ok (.iconst 3, 1) := by decide +kernel
theorem dX10_rest_29 : decode cX10_rest 29 = .ok (.if_icmp .eq 6, 3) := by decide +kernel
theorem dX10_rest_32 : decode cX10_rest 32 = .ok (.ldc 133, 2) := by decide +kernel
theorem dX10_rest_34 : decode cX10_rest 34 = .ok (.ireturn, 1) := by decide +kernel
theorem dX10_rest_35 : decode cX10_rest 35 = .ok (.iload_n 2, 1) := by decide +kernel
theorem dX10_rest_36 : decode cX10_rest 36 = .ok (.ifCond .ne 8, 3) := by decide +kernel
theorem dX10_rest_39 : decode cX10_rest 39 = .ok (.ldc 184, 2) := by decide +kernel
theorem dX10_rest_41 : decode cX10_rest 41 = .ok (.goto 9, 3) := by decide +kernel
theorem dX10_rest_44 : decode cX10_rest 44 = .ok (.aload_n 3, 1) := by decide +kernel
theorem dX10_rest_45 : decode cX10_rest 45 = .ok (.getfield 357, 3) := by decide +kernel
theorem dX10_rest_48 : decode cX10_rest 48 = .ok (.iload_n 2, 1) := by decide +kernel
theorem dX10_rest_49 : decode cX10_rest 49 = .ok (.irem, 1) := by decide +kernel
theorem dX10_rest_50 : decode cX10_rest 50 = .ok (.ireturn, 1) := by decide +kernel
theorem dX10_tell_0 : decode cX10_tell 0 = .ok (.aload_n 0, 1) := by decide +kernel
theorem dX10_tell_1 : decode cX10_tell 1 = .ok (.getfield 374, 3) := by decide +kernel
theorem dX10_tell_4 : decode cX10_tell 4 = .ok (.bipush 60, 2) := by decide +kernel
theorem dX10_tell_6 : decode cX10_tell 6 = .ok (.invokestatic 58, 3) := by decide +kernel
theorem dX10_tell_9 : decode cX10_tell 9 = .ok (.ifCond .ne 6, 3) := by decide +kernel
theorem dX10_tell_12 : decode cX10_tell 12 = .ok (.ldc 74, 2) := by decide +kernel
theorem dX10_tell_14 : decode cX10_tell 14 = .ok (.ireturn, 1) := by decide +kernel
theorem dX10_tell_15 : decode cX10_tell 15 = .ok (.aload_n 0, 1) := by decide +kernel
theorem dX10_tell_16 : decode cX10_tell 16 = .ok (.getfield 52, 3) := by decide +kernel
theorem dX10_tell_19 : decode cX10_tell 19 = .ok (.aload_n 0, 1) := by decide +kernel
theorem dX10_tell_20 : decode cX10_tell 20 = .ok (.getfield 374, 3) := by decide +kernel
theorem dX10_tell_23 : decode cX10_tell 23 = .ok (.iload_n 1, 1) := by decide +kernel
theorem dX10_tell_24 : decode cX10_tell 24 = .ok (.iastore, 1) := by decide +kernel
theorem dX10_tell_25 : decode cX10_tell 25 = .ok (.aload_n 0, 1) := by decide +kernel
theorem dX10_tell_26 : decode cX10_tell 26 = .ok (.dup, 1) := by decide +kernel
theorem dX10_tell_27 : decode cX10_tell 27 = .ok (.getfield 374, 3) := by decide +kernel
theorem dX10_tell_30 : decode cX10_tell 30 = .ok (.iconst 1, 1) := by decide +kernel
theorem dX10_tell_31 : decode cX10_tell 31 = .ok (.iadd, 1) := by decide +kernel
theorem dX10_tell_32 : decode cX10_tell 32 = .ok (.putfield 374, 3) := by decide +kernel
theorem dX10_tell_35 : decode cX10_tell 35 = .ok (.aload_n 0, 1) := by decide +kernel
theorem dX10_tell_36 : decode cX10_tell 36 = .ok (.getfield 374, 3) := by decide +kernel
theorem dX10_tell_39 : decode cX10_tell 39 = .ok (.ireturn, 1) := by decide +kernel
theorem dX10_check_0 : decode cX10_check 0 = .ok (.aload_n 0, 1) := by decide +kernel
theorem dX10_check_1 : decode cX10_check 1 = .ok (.getfield 374, 3) := by decide +kernel
theorem dX10_check_4 : decode cX10_check 4 = .ok (.istore_n 2, 1) := by decide +kernel
theorem dX10_check_5 : decode cX10_check 5 = .ok (.aload_n 0, 1) := by decide +kernel
theorem dX10_check_6 : decode cX10_check 6 = .ok (.iconst 0, 1) := by decide +kernel
theorem dX10_check_7 : decode cX10_check 7 = .ok (.putfield 374, 3) := by decide +kernel
theorem dX10_check_10 : decode cX10_check 10 = .ok (.iload_n 1, 1) := by decide +kernel
theorem dX10_check_11 : decode cX10_check 11 = .ok (.iconst 1, 1) := by decide +kernel
theorem dX10_check_12 : decode cX10_check 12 = .ok (.if_icmp .lt 9, 3) := by decide +kernel
theorem dX10_check_15 : decode cX10_check 15 = .ok (.iload_n 1, 1) := by decide +kernel
theorem dX10_check_16 : decode cX10_check 16 = .ok (.bipush 30, 2) := by decide +kernel
theorem dX10_check_18 : decode cX10_check 18 = .ok (.if_icmp .le 6, 3) := by decide +kernel
theorem dX10_check_21 : decode cX10_check 21 = .ok (.ldc 62, 2) := by decide +kernel
theorem dX10_check_23 : decode cX10_check 23 = .ok (.ireturn, 1) := by decide +kernel
theorem dX10_check_24 : decode cX10_check 24 = .ok (.aload_n 0, 1) := by decide +kernel
theorem dX10_check_25 : decode cX10_check 25 = .ok (.getfield 377, 3) := by decide +kernel
theorem dX10_check_28 : decode cX10_check 28 = .ok (.ifCond .ne 6, 3) := by decide +kernel
theorem dX10_check_31 : decode cX10_check 31 = .ok (.ldc 184, 2) := by decide +kernel
theorem dX10_check_33 : decode cX10_check 33 = .ok (.ireturn, 1) := by decide +kernel
theorem dX10_check_34 : decode cX10_check 34 = .ok (.aload_n 0, 1) := by decide +kernel
theorem dX10_check_35 : decode cX10_check 35 = .ok (.getfield 22, 3) := by decide +kernel
theorem dX10_check_38 : decode cX10_check 38 = .ok (.aload_n 0, 1) := by decide +kernel
theorem dX10_check_39 : decode cX10_check 39 = .ok (.getfield 16, 3) := by decide +kernel
theorem dX10_check_42 : decode cX10_check 42 = .ok (.getfield 63, 3) := by decide +kernel
theorem dX10_check_45 : decode cX10_check 45 = .ok (.invokevirtual 250, 3) := by decide +kernel
theorem dX10_check_48 : decode cX10_check 48 = .ok (.iconst 0, 1) := by decide +kernel
theorem dX10_check_49 : decode cX10_check 49 = .ok (.istore_n 3, 1) := by decide +kernel
theorem dX10_check_50 : decode cX10_check 50 = .ok (.iload_n 3, 1) := by decide +kernel
theorem dX10_check_51 : decode cX10_check 51 = .ok (.iload_n 1, 1) := by decide +kernel
theorem dX10_check_52 : decode cX10_check 52 = .ok (.if_icmp .ge 67, 3) := by decide +kernel
theorem dX10_check_55 : decode cX10_check 55 = .ok (.aload_n 0, 1) := by decide +kernel
theorem dX10_check_56 : decode cX10_check 56 = .ok (.getfield 22, 3) := by decide +kernel
theorem dX10_check_59 : decode cX10_check 59 = .ok (.invokevirtual 380, 3) := by decide +kernel
theorem dX10_check_62 : decode cX10_check 62 = .ok (.iconst 2, 1) := by decide +kernel
theorem dX10_check_63 : decode cX10_check 63 = .ok (.iload_n 3, 1) := by decide +kernel
theorem dX10_check_64 : decode cX10_check 64 = .ok (.imul, 1) := by decide +kernel
theorem dX10_check_65 : decode cX10_check 65 = .ok (.istore 4, 2) := by decide +kernel
theorem dX10_check_67 : decode cX10_check 67 = .ok (.aload_n 0, 1) := by decide +kernel
theorem dX10_check_68 : decode cX10_check 68 = .ok (.iload 4, 2) := by decide +kernel
theorem dX10_check_70 : decode cX10_check 70 = .ok (.iload_n 2, 1) := by decide +kernel
theorem dX10_check_71 : decode cX10_check 71 = .ok (.aload_n 0, 1) := by decide +kernel
theorem dX10_check_72 : decode cX10_check 72 = .ok (.getfield 22, 3) := by decide +kernel
theorem dX10_check_75 : decode cX10_check 75 = .ok (.invokevirtual 244, 3) := by decide +kernel
theorem dX10_check_78 : decode cX10_check 78 = .ok (.invokevirtual 383, 3) := by decide +kernel
theorem dX10_check_81 : decode cX10_check 81 = .ok (.ifCond .ne 8, 3) := by decide +kernel
theorem dX10_check_84 : decode cX10_check 84 = .ok (.iconst 1, 1) := by decide +kernel
theorem dX10_check_85 : decode cX10_check 85 = .ok (.iload 4, 2) := by decide +kernel
theorem dX10_check_87 : decode cX10_check 87 = .ok (.iadd, 1) := by decide +kernel
theorem dX10_check_88 : decode cX10_check 88 = .ok (.ireturn, 1) := by decide +kernel
theorem dX10_check_89 : decode cX10_check 89 = .ok (.aload_n 0, 1) := by decide +kernel
theorem dX10_check_90 : decode cX10_check 90 = .ok (.iload 4, 2) := by decide +kernel
theorem dX10_check_92 : decode cX10_check 92 = .ok (.iconst 1, 1) := by decide +kernel
theorem dX10_check_93 : decode cX10_check 93 = .ok (.iadd, 1) := by decide +kernel
theorem dX10_check_94 : decode cX10_check 94 = .ok (.iload_n 2, 1) := by decide +kernel
theorem dX10_check_95 : decode cX10_check 95 = .ok (.aload_n 0, 1) := by decide +kernel
theorem dX10_check_96 : decode cX10_check 96 = .ok (.getfield 22, 3) := by decide +kernel
theorem dX10_check_99 : decode cX10_check 99 = .ok (.invokevirtual 387, 3) := by decide +kernel
theorem dX10_check_102 : decode cX10_check 102 = .ok (.invokevirtual 383, 3) := by decide +kernel
theorem dX10_check_105 : decode cX10_check 105 = .ok (.ifCond .ne 8, 3) := by decide +kernel
theorem dX10_check_108 : decode cX10_check 108 = .ok (.iconst 2, 1) := by decide +kernel
theorem dX10_check_109 : decode cX10_check 109 = .ok (.iload 4, 2) := by decide +kernel
theorem dX10_check_111 : decode cX10_check 111 = .ok (.iadd, 1) := by decide +kernel
theorem dX10_check_112 : decode cX10_check 112 = .ok (.ireturn, 1) := by decide +kernel
theorem dX10_check_113 : decode cX10_check 113 = .ok (.iinc 3 1, 3) := by decide +kernel
theorem dX10_check_116 : decode cX10_check 116 = .ok (.goto (-66), 3) := by decide +kernel
theorem dX10_check_119 : decode cX10_check 119 = .ok (.iload_n 2, 1) := by decide +kernel
theorem dX10_check_120 : decode cX10_check 120 = .ok (.iconst 2, 1) := by decide +kernel
theorem dX10_check_121 : decode cX10_check 121 = .ok (.iload_n 1, 1) := by decide +kernel
theorem dX10_check_122 : decode cX10_check 122 = .ok (.imul, 1) := by decide +kernel
theorem dX10_check_123 : decode cX10_check 123 = .ok (.if_icmp .ne 7, 3) := by decide +kernel
theorem dX10_check_126 : decode cX10_check 126 = .ok (.iconst 0, 1) := by decide +kernel
theorem dX10_check_127 : decode cX10_check 127 = .ok (.goto 8, 3) := by decide +kernel
theorem dX10_check_130 : decode cX10_check 130 = .ok (.iconst 1, 1) := by decide +kernel
theorem dX10_check_131 : decode cX10_check 131 = .ok (.iconst 2, 1) := by decide +kernel
theorem dX10_check_132 : decode cX10_check 132 = .ok (.iload_n 1, 1) := by decide +kernel
theorem dX10_check_133 : decode cX10_check 133 = .ok (.imul, 1) := by decide +kernel
theorem dX10_check_134 : decode cX10_check 134 = .ok (.iadd, 1) := by decide +kernel
theorem dX10_check_135 : decode cX10_check 135 = .ok (.ireturn, 1) := by decide +kernel
theorem dX10_isWaiting_0 : decode cX10_isWaiting 0 = .ok (.iload_n 1, 1) := by decide +kernel
theorem dX10_isWaiting_1 : decode cX10_isWaiting 1 = .ok (.iload_n 2, 1) := by decide +kernel
theorem dX10_isWaiting_2 : decode cX10_isWaiting 2 = .ok (.if_icmp .ge 26, 3) := by decide +kernel
theorem dX10_isWaiting_5 : decode cX10_isWaiting 5 = .ok (.iload_n 1, 1) := by decide +kernel
theorem dX10_isWaiting_6 : decode cX10_isWaiting 6 = .ok (.bipush 60, 2) := by decide +kernel
theorem dX10_isWaiting_8 : decode cX10_isWaiting 8 = .ok (.invokestatic 58, 3) := by decide +kernel
theorem dX10_isWaiting_11 : decode cX10_isWaiting 11 = .ok (.ifCond .eq 17, 3) := by decide +kernel
theorem dX10_isWaiting_14 : decode cX10_isWaiting 14 = .ok (.aload_n 0, 1) := by decide +kernel
theorem dX10_isWaiting_15 : decode cX10_isWaiting 15 = .ok (.getfield 52, 3) := by decide +kernel
theorem dX10_isWaiting_18 : decode cX10_isWaiting 18 = .ok (.iload_n 1, 1) := by decide +kernel
theorem dX10_isWaiting_19 : decode cX10_isWaiting 19 = .ok (.iaload, 1) := by decide +kernel
theorem dX10_isWaiting_20 : decode cX10_isWaiting 20 = .ok (.iload_n 3, 1) := by decide +kernel
theorem dX10_isWaiting_21 : decode cX10_isWaiting 21 = .ok (.if_icmp .ne 7, 3) := by decide +kernel
theorem dX10_isWaiting_24 : decode cX10_isWaiting 24 = .ok (.iconst 1, 1) := by decide +kernel
theorem dX10_isWaiting_25 : decode cX10_isWaiting 25 = .ok (.goto 4, 3) := by decide +kernel
theorem dX10_isWaiting_28 : decode cX10_isWaiting 28 = .ok (.iconst 0, 1) := by decide +kernel
theorem dX10_isWaiting_29 : decode cX10_isWaiting 29 = .ok (.ireturn, 1) := by decide +kernel
theorem dX10_keep_0 : decode cX10_keep 0 = .ok (.aload_n 0, 1) := by decide +kernel
theorem dX10_keep_1 : decode cX10_keep 1 = .ok (.getfield 16, 3) := by decide +kernel
theorem dX10_keep_4 : decode cX10_keep 4 = .ok (.aload_n 0, 1) := by decide +kernel
theorem dX10_keep_5 : decode cX10_keep 5 = .ok (.getfield 12, 3) := by decide +kernel
theorem dX10_keep_8 : decode cX10_keep 8 = .ok (.invokevirtual 390, 3) := by decide +kernel
theorem dX10_keep_11 : decode cX10_keep 11 = .ok (.aload_n 0, 1) := by decide +kernel
theorem dX10_keep_12 : decode cX10_keep 12 = .ok (.iconst 1, 1) := by decide +kernel
theorem dX10_keep_13 : decode cX10_keep 13 = .ok (.putfield 377, 3) := by decide +kernel
theorem dX10_keep_16 : decode cX10_keep 16 = .ok (.aload_n 0, 1) := by decide +kernel
theorem dX10_keep_17 : decode cX10_keep 17 = .ok (.getfield 16, 3) := by decide +kernel
theorem dX10_keep_20 : decode cX10_keep 20 = .ok (.getfield 63, 3) := by decide +kernel
theorem dX10_keep_23 : decode cX10_keep 23 = .ok (.getfield 66, 3) := by decide +kernel
theorem dX10_keep_26 : decode cX10_keep 26 = .ok (.ireturn, 1) := by decide +kernel
theorem dX10_back_0 : decode cX10_back 0 = .ok (.aload_n 0, 1) := by decide +kernel
theorem dX10_back_1 : decode cX10_back 1 = .ok (.getfield 377, 3) := by decide +kernel
theorem dX10_back_4 : decode cX10_back 4 = .ok (.ifCond .ne 6, 3) := by decide +kernel
theorem dX10_back_7 : decode cX10_back 7 = .ok (.ldc 184, 2) := by decide +kernel
theorem dX10_back_9 : decode cX10_back 9 = .ok (.ireturn, 1) := by decide +kernel
theorem dX10_back_10 : decode cX10_back 10 = .ok (.aload_n 0, 1) := by decide +kernel
theorem dX10_back_11 : decode cX10_back 11 = .ok (.getfield 12, 3) := by decide +kernel
theorem dX10_back_14 : decode cX10_back 14 = .ok (.aload_n 0, 1) := by decide +kernel
theorem dX10_back_15 : decode cX10_back 15 = .ok (.getfield 16, 3) := by decide +kernel
theorem dX10_back_18 : decode cX10_back 18 = .ok (.invokevirtual 390, 3) := by decide +kernel
theorem dX10_back_21 : decode cX10_back 21 = .ok (.aload_n 0, 1) := by decide +kernel
theorem dX10_back_22 : decode cX10_back 22 = .ok (.getfield 12, 3) := by decide +kernel
theorem dX10_back_25 : decode cX10_back 25 = .ok (.getfield 63, 3) := by decide +kernel
theorem dX10_back_28 : decode cX10_back 28 = .ok (.getfield 66, 3) := by decide +kernel
theorem dX10_back_31 : decode cX10_back 31 = .ok (.ireturn, 1) := by decide +kernel
theorem dX10_count_0 : decode cX10_count 0 = .ok (.iload_n 1, 1) := by decide +kernel
theorem dX10_count_1 : decode cX10_count 1 = .ok (.tableswitch 158 0 9 #[55, 66, 77, 88, 102, 110, 126, 134, 139, 147], 55) := by decide +kernel
theorem dX10_count_56 : decode cX10_count 56 = .ok (.aload_n 0, 1) := by decide +kernel
theorem dX10_count_57 : decode cX10_count 57 = .ok (.getfield 12, 3) := by decide +kernel
theorem dX10_count_60 : decode cX10_count 60 = .ok (.getfield 63, 3) := by decide +kernel
theorem dX10_count_63 : decode cX10_count 63 = .ok (.getfield 66, 3) := by decide +kernel
theorem dX10_count_66 : decode cX10_count 66 = .ok (.ireturn, 1) := by decide +kernel
theorem dX10_count_67 : decode cX10_count 67 = .ok (.aload_n 0, 1) := by decide +kernel
theorem dX10_count_68 : decode cX10_count 68 = .ok (.getfield 12, 3) := by decide +kernel
theorem dX10_count_71 : decode cX10_count 71 = .ok (.getfield 63, 3) := by decide +kernel
theorem dX10_count_74 : decode cX10_count 74 = .ok (.invokevirtual 244, 3) := by decide +kernel
theorem dX10_count_77 : decode cX10_count 77 = .ok (.ireturn, 1) := by decide +kernel
theorem dX10_count_78 : decode cX10_count 78 = .ok (.aload_n 0, 1) := by decide +kernel
theorem dX10_count_79 : decode cX10_count 79 = .ok (.getfield 12, 3) := by decide +kernel
theorem dX10_count_82 : decode cX10_count 82 = .ok (.getfield 79, 3) := by decide +kernel
theorem dX10_count_85 : decode cX10_count 85 = .ok (.getfield 195, 3) := by decide +kernel
theorem dX10_count_88 : decode cX10_count 88 = .ok (.ireturn, 1) := by decide +kernel
theorem dX10_count_89 : decode cX10_count 89 = .ok (.aload_n 0, 1) := by decide +kernel
theorem dX10_count_90 : decode cX10_count 90 = .ok (.getfield 12, 3) := by decide +kernel
theorem dX10_count_93 : decode cX10_count 93 = .ok (.getfield 79, 3) := by decide +kernel
theorem dX10_count_96 : decode cX10_count 96 = .ok (.getfield 107, 3) := by decide +kernel
theorem dX10_count_99 : decode cX10_count 99 = .ok (.invokestatic 112, 3) := by decide +kernel
theorem dX10_count_102 : decode cX10_count 102 = .ok (.ireturn, 1) := by decide +kernel
theorem dX10_count_103 : decode cX10_count 103 = .ok (.aload_n 0, 1) := by decide +kernel
theorem dX10_count_104 : decode cX10_count 104 = .ok (.getfield 12, 3) := by decide +kernel
theorem dX10_count_107 : decode cX10_count 107 = .ok (.getfield 212, 3) := by decide +kernel
theorem dX10_count_110 : decode cX10_count 110 = .ok (.ireturn, 1) := by decide +kernel
theorem dX10_count_111 : decode cX10_count 111 = .ok (.aload_n 0, 1) := by decide +kernel
theorem dX10_count_112 : decode cX10_count 112 = .ok (.getfield 12, 3) := by decide +kernel
theorem dX10_count_115 : decode cX10_count 115 = .ok (.invokevirtual 215, 3) := by decide +kernel
theorem dX10_count_118 : decode cX10_count 118 = .ok (.ifCond .eq 7, 3) := by decide +kernel
theorem dX10_count_121 : decode cX10_count 121 = .ok (.iconst 1, 1) := by decide +kernel
theorem dX10_count_122 : decode cX10_count 122 = .ok (.goto 4, 3) := by decide +kernel
theorem dX10_count_125 : decode cX10_count 125 = .ok (.iconst 0, 1) := by decide +kernel
theorem dX10_count_126 : decode cX10_count 126 = .ok (.ireturn, 1) := by decide +kernel
theorem dX10_count_127 : decode cX10_count 127 = .ok (.aload_n 0, 1) := by decide +kernel
theorem dX10_count_128 : decode cX10_count 128 = .ok (.getfield 12, 3) := by decide +kernel
theorem dX10_count_131 : decode cX10_count 131 = .ok (.getfield 287, 3) := by decide +kernel
theorem dX10_count_134 : decode cX10_count 134 = .ok (.ireturn, 1) := by decide +kernel
theorem dX10_count_135 : decode cX10_count 135 = .ok (.aload_n 0, 1) := by decide +kernel
theorem dX10_count_136 : decode cX10_count 136 = .ok (.getfield 374, 3) := by decide +kernel
theorem dX10_count_139 : decode cX10_count 139 = .ok (.ireturn, 1) := by decide +kernel
theorem dX10_count_140 : decode cX10_count 140 = .ok (.aload_n 0, 1) := by decide +kernel
theorem dX10_count_141 : decode cX10_count 141 = .ok (.getfield 36, 3) := by decide +kernel
theorem dX10_count_144 : decode cX10_count 144 = .ok (.getfield 277, 3) := by decide +kernel
theorem dX10_count_147 : decode cX10_count 147 = .ok (.ireturn, 1) := by decide +kernel
theorem dX10_count_148 : decode cX10_count 148 = .ok (.aload_n 0, 1) := by decide +kernel
theorem dX10_count_149 : decode cX10_count 149 = .ok (.getfield 12, 3) := by decide +kernel
theorem dX10_count_152 : decode cX10_count 152 = .ok (.getfield 63, 3) := by decide +kernel
theorem dX10_count_155 : decode cX10_count 155 = .ok (.getfield 169, 3) := by decide +kernel
theorem dX10_count_158 : decode cX10_count 158 = .ok (.ireturn, 1) := by decide +kernel
theorem dX10_count_159 : decode cX10_count 159 = .ok (.ldc 62, 2) := by decide +kernel
theorem dX10_count_161 : decode cX10_count 161 = .ok (.ireturn, 1) := by decide +kernel
theorem dX10_findSheet_0 : decode cX10_findSheet 0 = .ok (.iload_n 1, 1) := by decide +kernel
theorem dX10_findSheet_1 : decode cX10_findSheet 1 = .ok (.iconst 4, 1) := by decide +kernel
theorem dX10_findSheet_2 : decode cX10_findSheet 2 = .ok (.invokestatic 58, 3) := by decide +kernel
theorem dX10_findSheet_5 : decode cX10_findSheet 5 = .ok (.ifCond .eq 12, 3) := by decide +kernel
theorem dX10_findSheet_8 : decode cX10_findSheet 8 = .ok (.aload_n 0, 1) := by decide +kernel
theorem dX10_findSheet_9 : decode cX10_findSheet 9 = .ok (.getfield 42, 3) := by decide +kernel
theorem dX10_findSheet_12 : decode cX10_findSheet 12 = .ok (.iload_n 1, 1) := by decide +kernel
theorem dX10_findSheet_13 : decode cX10_findSheet 13 = .ok (.aaload, 1) := by decide +kernel
theorem dX10_findSheet_14 : decode cX10_findSheet 14 = .ok (.goto 4, 3) := by decide +kernel
theorem dX10_findSheet_17 : decode cX10_findSheet 17 = .ok (.aconst_null, 1) := by decide +kernel
theorem dX10_findSheet_18 : decode cX10_findSheet 18 = .ok (.areturn, 1) := by decide +kernel
theorem dX10_findSlot_0 : decode cX10_findSlot 0 = .ok (.iload_n 1, 1) := by decide +kernel
theorem dX10_findSlot_1 : decode cX10_findSlot 1 = .ok (.iconst 5, 1) := by decide +kernel
theorem dX10_findSlot_2 : decode cX10_findSlot 2 = .ok (.invokestatic 58, 3) := by decide +kernel
theorem dX10_findSlot_5 : decode cX10_findSlot 5 = .ok (.ifCond .eq 12, 3) := by decide +kernel
theorem dX10_findSlot_8 : decode cX10_findSlot 8 = .ok (.aload_n 0, 1) := by decide +kernel
theorem dX10_findSlot_9 : decode cX10_findSlot 9 = .ok (.getfield 48, 3) := by decide +kernel
theorem dX10_findSlot_12 : decode cX10_findSlot 12 = .ok (.iload_n 1, 1) := by decide +kernel
theorem dX10_findSlot_13 : decode cX10_findSlot 13 = .ok (.aaload, 1) := by decide +kernel
theorem dX10_findSlot_14 : decode cX10_findSlot 14 = .ok (.goto 4, 3) := by decide +kernel
theorem dX10_findSlot_17 : decode cX10_findSlot 17 = .ok (.aconst_null, 1) := by decide +kernel
theorem dX10_findSlot_18 : decode cX10_findSlot 18 = .ok (.areturn, 1) := by decide +kernel
theorem dX10_within_0 : decode cX10_within 0 = .ok (.iload_n 0, 1) := by decide +kernel
theorem dX10_within_1 : decode cX10_within 1 = .ok (.ifCond .lt 12, 3) := by decide +kernel
theorem dX10_within_4 : decode cX10_within 4 = .ok (.iload_n 0, 1) := by decide +kernel
theorem dX10_within_5 : decode cX10_within 5 = .ok (.iload_n 1, 1) := by decide +kernel
theorem dX10_within_6 : decode cX10_within 6 = .ok (.if_icmp .ge 7, 3) := by decide +kernel
theorem dX10_within_9 : decode cX10_within 9 = .ok (.iconst 1, 1) := by decide +kernel
theorem dX10_within_10 : decode cX10_within 10 = .ok (.goto 4, 3) := by decide +kernel
theorem dX10_within_13 : decode cX10_within 13 = .ok (.iconst 0, 1) := by decide +kernel
theorem dX10_within_14 : decode cX10_within 14 = .ok (.ireturn, 1) := by decide +kernel
theorem dX11_init_0 : decode cX11_init 0 = .ok (.aload_n 0, 1) := by decide +kernel
theorem dX11_init_1 : decode cX11_init 1 = .ok (.invokespecial 1, 3) := by decide +kernel
theorem dX11_init_4 : decode cX11_init 4 = .ok (.aload_n 0, 1) := by decide +kernel
theorem dX11_init_5 : decode cX11_init 5 = .ok (.sipush 3135, 3) := by decide +kernel
theorem dX11_init_8 : decode cX11_init 8 = .ok (.newarray .int, 2) := by decide +kernel
theorem dX11_init_10 : decode cX11_init 10 = .ok (.putfield 7, 3) := by decide +kernel
theorem dX11_init_13 : decode cX11_init 13 = .ok (.aload_n 0, 1) := by decide +kernel
theorem dX11_init_14 : decode cX11_init 14 = .ok (.sipush 3135, 3) := by decide +kernel
theorem dX11_init_17 : decode cX11_init 17 = .ok (.newarray .int, 2) := by decide +kernel
theorem dX11_init_19 : decode cX11_init 19 = .ok (.putfield 13, 3) := by decide +kernel
theorem dX11_init_22 : decode cX11_init 22 = .ok (.aload_n 0, 1) := by decide +kernel
theorem dX11_init_23 : decode cX11_init 23 = .ok (.sipush 3135, 3) := by decide +kernel
theorem dX11_init_26 : decode cX11_init 26 = .ok (.newarray .int, 2) := by decide +kernel
theorem dX11_init_28 : decode cX11_init 28 = .ok (.putfield 16, 3) := by decide +kernel
theorem dX11_init_31 : decode cX11_init 31 = .ok (.aload_n 0, 1) := by decide +kernel
theorem dX11_init_32 : decode cX11_init 32 = .ok (.iconst 4, 1) := by decide +kernel
theorem dX11_init_33 : decode cX11_init 33 = .ok (.newarray .int, 2) := by decide +kernel
theorem dX11_init_35 : decode cX11_init 35 = .ok (.putfield 19, 3) := by decide +kernel
theorem dX11_init_38 : decode cX11_init 38 = .ok (.aload_n 0, 1) := by decide +kernel
theorem dX11_init_39 : decode cX11_init 39 = .ok (.iconst 4, 1) := by decide +kernel
theorem dX11_init_40 : decode cX11_init 40 = .ok (.newarray .int, 2) := by decide +kernel
theorem dX11_init_42 : decode cX11_init 42 = .ok (.putfield 22, 3) := by decide +kernel
theorem dX11_init_45 : decode cX11_init 45 = .ok (.aload_n 0, 1) := by decide +kernel
theorem dX11_init_46 : decode cX11_init 46 = .ok (.bipush 96, 2) := by decide +kernel
theorem dX11_init_48 : decode cX11_init 48 = .ok (.newarray .int, 2) := by decide +kernel
theorem dX11_init_50 : decode cX11_init 50 = .ok (.putfield 25, 3) := by decide +kernel
theorem dX11_init_53 : decode cX11_init 53 = .ok (.aload_n 0, 1) := by decide +kernel
theorem dX11_init_54 : decode cX11_init 54 = .ok (.iconst 5, 1) := by decide +kernel
theorem dX11_init_55 : decode cX11_init 55 = .ok (.newarray .int, 2) := by decide +kernel
theorem dX11_init_57 : decode cX11_init 57 = .ok (.putfield 28, 3) := by decide +kernel
theorem dX11_init_60 : decode cX11_init 60 = .ok (.aload_n 0, 1) := by decide +kernel
theorem dX11_init_61 : decode cX11_init 61 = .ok (.iconst 5, 1) := by decide +kernel
theorem dX11_init_62 : decode cX11_init 62 = .ok (.newarray .int, 2) := by decide +kernel
theorem dX11_init_64 : decode cX11_init 64 = .ok (.putfield 31, 3) := by decide +kernel
theorem dX11_init_67 : decode cX11_init 67 = .ok (.aload_n 0, 1) := by decide +kernel
theorem dX11_init_68 : decode cX11_init 68 = .ok (.iconst 5, 1) := by decide +kernel
theorem dX11_init_69 : decode cX11_init 69 = .ok (.newarray .int, 2) := by decide +kernel
theorem dX11_init_71 : decode cX11_init 71 = .ok (.putfield 34, 3) := by decide +kernel
theorem dX11_init_74 : decode cX11_init 74 = .ok (.aload_n 0, 1) := by decide +kernel
theorem dX11_init_75 : decode cX11_init 75 = .ok (.iconst 5, 1) := by decide +kernel
theorem dX11_init_76 : decode cX11_init 76 = .ok (.newarray .int, 2) := by decide +kernel
theorem dX11_init_78 : decode cX11_init 78 = .ok (.putfield 37, 3) := by decide +kernel
theorem dX11_init_81 : decode cX11_init 81 = .ok (.aload_n 0, 1) := by decide +kernel
theorem dX11_init_82 : decode cX11_init 82 = .ok (.bipush 120, 2) := by decide +kernel
theorem dX11_init_84 : decode cX11_init 84 = .ok (.newarray .int, 2) := by decide +kernel
theorem dX11_init_86 : decode cX11_init 86 = .ok (.putfield 40, 3) := by decide +kernel
theorem dX11_init_89 : decode cX11_init 89 = .ok (.aload_n 0, 1) := by decide +kernel
theorem dX11_init_90 : decode cX11_init 90 = .ok (.bipush 36, 2) := by decide +kernel
theorem dX11_init_92 : decode cX11_init 92 = .ok (.newarray .int, 2) := by decide +kernel
theorem dX11_init_94 : decode cX11_init 94 = .ok (.putfield 43, 3) := by decide +kernel
theorem dX11_init_97 : decode cX11_init 97 = .ok (.aload_n 0, 1) := by decide +kernel
theorem dX11_init_98 : decode cX11_init 98 = .ok (.sipush 135, 3) := by decide +kernel
theorem dX11_init_101 : decode cX11_init 101 = .ok (.newarray .int, 2) := by decide +kernel
theorem dX11_init_103 : decode cX11_init 103 = .ok (.putfield 46, 3) := by decide +kernel
theorem dX11_init_106 : decode cX11_init 106 = .ok (.aload_n 0, 1) := by decide +kernel
theorem dX11_init_107 : decode cX11_init 107 = .ok (.iconst 4, 1) := by decide +kernel
theorem dX11_init_108 : decode cX11_init 108 = .ok (.newarray .int, 2) := by decide +kernel
theorem dX11_init_110 : decode cX11_init 110 = .ok (.putfield 49, 3) := by decide +kernel
theorem dX11_init_113 : decode cX11_init 113 = .ok (.aload_n 0, 1) := by decide +kernel
theorem dX11_init_114 : decode cX11_init 114 = .ok (.bipush 96, 2) := by decide +kernel
theorem dX11_init_116 : decode cX11_init 116 = .ok (.newarray .int, 2) := by decide +kernel
theorem dX11_init_118 : decode cX11_init 118 = .ok (.putfield 52, 3) := by decide +kernel
theorem dX11_init_121 : decode cX11_init 121 = .ok (.aload_n 0, 1) := by decide +kernel
theorem dX11_init_122 : decode cX11_init 122 = .ok (.sipush 128, 3) := by decide +kernel
theorem dX11_init_125 : decode cX11_init 125 = .ok (.newarray .int, 2) := by decide +kernel
theorem dX11_init_127 : decode cX11_init 127 = .ok (.putfield 55, 3) := by decide +kernel
theorem dX11_init_130 : decode cX11_init 130 = .ok (.aload_n 0, 1) := by decide +kernel
theorem dX11_init_131 : decode cX11_init 131 = .ok (.bipush 100, 2) := by decide +kernel
theorem dX11_init_133 : decode cX11_init 133 = .ok (.newarray .int, 2) := by decide +kernel
theorem dX11_init_135 : decode cX11_init 135 = .ok (.putfield 58, 3) := by decide +kernel
theorem dX11_init_138 : decode cX11_init 138 = .ok (.aload_n 0, 1) := by decide +kernel
theorem dX11_init_139 : decode cX11_init 139 = .ok (.bipush 24, 2) := by decide +kernel
theorem dX11_init_141 : decode cX11_init 141 = .ok (.newarray .int, 2) := by decide +kernel
theorem dX11_init_143 : decode cX11_init 143 = .ok (.putfield 61, 3) := by decide +kernel
theorem dX11_init_146 : decode cX11_init 146 = .ok (.aload_n 0, 1) := by decide +kernel
theorem dX11_init_147 : decode cX11_init 147 = .ok (.bipush 60, 2) := by decide +kernel
theorem dX11_init_149 : decode cX11_init 149 = .ok (.newarray .int, 2) := by decide +kernel
theorem dX11_init_151 : decode cX11_init 151 = .ok (.putfield 64, 3) := by decide +kernel
theorem dX11_init_154 : decode cX11_init 154 = .ok (.aload_n 0, 1) := by decide +kernel
theorem dX11_init_155 : decode cX11_init 155 = .ok (.bipush 60, 2) := by decide +kernel
theorem dX11_init_157 : decode cX11_init 157 = .ok (.newarray .int, 2) := by decide +kernel
theorem dX11_init_159 : decode cX11_init 159 = .ok (.putfield 67, 3) := by decide +kernel
theorem dX11_init_162 : decode cX11_init 162 = .ok (.aload_n 0, 1) := by decide +kernel
theorem dX11_init_163 : decode cX11_init 163 = .ok (.getfield 7, 3) := by decide +kernel
theorem dX11_init_166 : decode cX11_init 166 = .ok (.bipush 8, 2) := by decide +kernel
theorem dX11_init_168 : decode cX11_init 168 = .ok (.iconst 1, 1) := by decide +kernel
theorem dX11_init_169 : decode cX11_init 169 = .ok (.iastore, 1) := by decide +kernel
theorem dX11_init_170 : decode cX11_init 170 = .ok (.aload_n 0, 1) := by decide +kernel
theorem dX11_init_171 : decode cX11_init 171 = .ok (.getfield 7, 3) := by decide +kernel
theorem dX11_init_174 : decode cX11_init 174 = .ok (.iconst 5, 1) := by decide +kernel
theorem dX11_init_175 : decode cX11_init 175 = .ok (.bipush 100, 2) := by decide +kernel
theorem dX11_init_177 : decode cX11_init 177 = .ok (.iastore, 1) := by decide +kernel
theorem dX11_init_178 : decode cX11_init 178 = .ok (.iconst 0, 1) := by decide +kernel
theorem dX11_init_179 : decode cX11_init 179 = .ok (.istore_n 1, 1) := by decide +kernel
theorem dX11_init_180 : decode cX11_init 180 = .ok (.iload_n 1, 1) := by decide +kernel
theorem dX11_init_181 : decode cX11_init 181 = .ok (.iconst 4, 1) := by decide +kernel
theorem dX11_init_182 : decode cX11_init 182 = .ok (.if_icmp .ge 16, 3) := by decide +kernel
theorem dX11_init_185 : decode cX11_init 185 = .ok (.aload_n 0, 1) := by decide +kernel
theorem dX11_init_186 : decode cX11_init 186 = .ok (.getfield 19, 3) := by decide +kernel
theorem dX11_init_189 : decode cX11_init 189 = .ok (.iload_n 1, 1) := by decide +kernel
theorem dX11_init_190 : decode cX11_init 190 = .ok (.iconst (-1), 1) := by decide +kernel
theorem dX11_init_191 : decode cX11_init 191 = .ok (.iastore, 1) := by decide +kernel
theorem dX11_init_192 : decode cX11_init 192 = .ok (.iinc 1 1, 3) := by decide +kernel
theorem dX11_init_195 : decode cX11_init 195 = .ok (.goto (-15), 3) := by decide +kernel
theorem dX11_init_198 : decode cX11_init 198 = .ok (.return_, 1) := by decide +kernel
theorem dX11_isIn_0 : decode cX11_isIn 0 = .ok (.lload_n 0, 1) := by decide +kernel
theorem dX11_isIn_1 : decode cX11_isIn 1 = .ok (.lload_n 2, 1) := by decide +kernel
theorem dX11_isIn_2 : decode cX11_isIn 2 = .ok (.lcmp, 1) := by decide +kernel
theorem dX11_isIn_3 : decode cX11_isIn 3 = .ok (.ifCond .lt 14, 3) := by decide +kernel
theorem dX11_isIn_6 : decode cX11_isIn 6 = .ok (.lload_n 0, 1) := by decide +kernel
theorem dX11_isIn_7 : decode cX11_isIn 7 = .ok (.lload 4, 2) := by decide +kernel
theorem dX11_isIn_9 : decode cX11_isIn 9 = .ok (.lcmp, 1) := by decide +kernel
theorem dX11_isIn_10 : decode cX11_isIn 10 = .ok (.ifCond .gt 7, 3) := by decide +kernel
theorem dX11_isIn_13 : decode cX11_isIn 13 = .ok (.iconst 1, 1) := by decide +kernel
theorem dX11_isIn_14 : decode cX11_isIn 14 = .ok (.goto 4, 3) := by decide +kernel
theorem dX11_isIn_17 : decode cX11_isIn 17 = .ok (.iconst 0, 1) := by decide +kernel
theorem dX11_isIn_18 : decode cX11_isIn 18 = .ok (.ireturn, 1) := by decide +kernel
theorem dX11_orNone_0 : decode cX11_orNone 0 = .ok (.iload_n 0, 1) := by decide +kernel
theorem dX11_orNone_1 : decode cX11_orNone 1 = .ok (.ifCond .ge 8, 3) := by decide +kernel
theorem dX11_orNone_4 : decode cX11_orNone 4 = .ok (.ldc 70, 2) := by decide +kernel
theorem dX11_orNone_6 : decode cX11_orNone 6 = .ok (.goto 4, 3) := by decide +kernel
theorem dX11_orNone_9 : decode cX11_orNone 9 = .ok (.iload_n 0, 1) := by decide +kernel
theorem dX11_orNone_10 : decode cX11_orNone 10 = .ok (.ireturn, 1) := by decide +kernel
theorem dX11_within_0 : decode cX11_within 0 = .ok (.iload_n 0, 1) := by decide +kernel
theorem dX11_within_1 : decode cX11_within 1 = .ok (.iload_n 1, 1) := by decide +kernel
theorem dX11_within_2 : decode cX11_within 2 = .ok (.if_icmp .ge 7, 3) := by decide +kernel
theorem dX11_within_5 : decode cX11_within 5 = .ok (.iload_n 1, 1) := by decide +kernel
theorem dX11_within_6 : decode cX11_within 6 = .ok (.goto 13, 3) := by decide +kernel
theorem dX11_within_9 : decode cX11_within 9 = .ok (.iload_n 0, 1) := by decide +kernel
theorem dX11_within_10 : decode cX11_within 10 = .ok (.iload_n 2, 1) := by decide +kernel
theorem dX11_within_11 : decode cX11_within 11 = .ok (.if_icmp .le 7, 3) := by decide +kernel
theorem dX11_within_14 : decode cX11_within 14 = .ok (.iload_n 2, 1) := by decide +kernel
theorem dX11_within_15 : decode cX11_within 15 = .ok (.goto 4, 3) := by decide +kernel
theorem dX11_within_18 : decode cX11_within 18 = .ok (.iload_n 0, 1) := by decide +kernel
theorem dX11_within_19 : decode cX11_within 19 = .ok (.ireturn, 1) := by decide +kernel
theorem dX11_off_0 : decode cX11_off 0 = .ok (.iload_n 0, 1) := by decide +kernel
theorem dX11_off_1 : decode cX11_off 1 = .ok (.iload_n 1, 1) := by decide +kernel
theorem dX11_off_2 : decode cX11_off 2 = .ok (.if_icmp .ge 9, 3) := by decide +kernel
theorem dX11_off_5 : decode cX11_off 5 = .ok (.iload_n 1, 1) := by decide +kernel
theorem dX11_off_6 : decode cX11_off 6 = .ok (.iload_n 0, 1) := by decide +kernel
theorem dX11_off_7 : decode cX11_off 7 = .ok (.isub, 1) := by decide +kernel
theorem dX11_off_8 : decode cX11_off 8 = .ok (.goto 6, 3) := by decide +kernel
theorem dX11_off_11 : decode cX11_off 11 = .ok (.iload_n 0, 1) := by decide +kernel
theorem dX11_off_12 : decode cX11_off 12 = .ok (.iload_n 1, 1) := by decide +kernel
theorem dX11_off_13 : decode cX11_off 13 = .ok (.isub, 1) := by decide +kernel
theorem dX11_off_14 : decode cX11_off 14 = .ok (.ireturn, 1) := by decide +kernel
theorem dX11_manyIn_0 : decode cX11_manyIn 0 = .ok (.iconst 0, 1) := by decide +kernel
theorem dX11_manyIn_1 : decode cX11_manyIn 1 = .ok (.istore_n 1, 1) := by decide +kernel
theorem dX11_manyIn_2 : decode cX11_manyIn 2 = .ok (.iload_n 0, 1) := by decide +kernel
theorem dX11_manyIn_3 : decode cX11_manyIn 3 = .ok (.istore_n 2, 1) := by decide +kernel
theorem dX11_manyIn_4 : decode cX11_manyIn 4 = .ok (.iload_n 2, 1) := by decide +kernel
theorem dX11_manyIn_5 : decode cX11_manyIn 5 = .ok (.ifCond .eq 15, 3) := by decide +kernel
theorem dX11_manyIn_8 : decode cX11_manyIn 8 = .ok (.iinc 1 1, 3) := by decide +kernel
theorem dX11_manyIn_11 : decode cX11_manyIn 11 = .ok (.iload_n 2, 1) := by decide +kernel
theorem dX11_manyIn_12 : decode cX11_manyIn 12 = .ok (.iload_n 2, 1) := by decide +kernel
theorem dX11_manyIn_13 : decode cX11_manyIn 13 = .ok (.iconst 1, 1) := by decide +kernel
theorem dX11_manyIn_14 : decode cX11_manyIn 14 = .ok (.isub, 1) := by decide +kernel
theorem dX11_manyIn_15 : decode cX11_manyIn 15 = .ok (.iand, 1) := by decide +kernel
theorem dX11_manyIn_16 : decode cX11_manyIn 16 = .ok (.istore_n 2, 1) := by decide +kernel
theorem dX11_manyIn_17 : decode cX11_manyIn 17 = .ok (.goto (-13), 3) := by decide +kernel
theorem dX11_manyIn_20 : decode cX11_manyIn 20 = .ok (.iload_n 1, 1) := by decide +kernel
theorem dX11_manyIn_21 : decode cX11_manyIn 21 = .ok (.ireturn, 1) := by decide +kernel
theorem dX11_becomes_0 : decode cX11_becomes 0 = .ok (.aload_n 0, 1) := by decide +kernel
theorem dX11_becomes_1 : decode cX11_becomes 1 = .ok (.getfield 7, 3) := by decide +kernel
theorem dX11_becomes_4 : decode cX11_becomes 4 = .ok (.iload_n 1, 1) := by decide +kernel
theorem dX11_becomes_5 : decode cX11_becomes 5 = .ok (.iaload, 1) := by decide +kernel
theorem dX11_becomes_6 : decode cX11_becomes 6 = .ok (.istore_n 3, 1) := by decide +kernel
theorem dX11_becomes_7 : decode cX11_becomes 7 = .ok (.aload_n 0, 1) := by decide +kernel
theorem dX11_becomes_8 : decode cX11_becomes 8 = .ok (.getfield 7, 3) := by decide +kernel
theorem dX11_becomes_11 : decode cX11_becomes 11 = .ok (.iload_n 1, 1) := by decide +kernel
theorem dX11_becomes_12 : decode cX11_becomes 12 = .ok (.iload_n 2, 1) := by decide +kernel
theorem dX11_becomes_13 : decode cX11_becomes 13 = .ok (.iastore, 1) := by decide +kernel
theorem dX11_becomes_14 : decode cX11_becomes 14 = .ok (.iload_n 3, 1) := by decide +kernel
theorem dX11_becomes_15 : decode cX11_becomes 15 = .ok (.ireturn, 1) := by decide +kernel
theorem dX11_textAt_0 : decode cX11_textAt 0 = .ok (.sipush 135, 3) := by decide +kernel
theorem dX11_textAt_3 : decode cX11_textAt 3 = .ok (.sipush 200, 3) := by decide +kernel
theorem dX11_textAt_6 : decode cX11_textAt 6 = .ok (.iload_n 1, 1) := by decide +kernel
theorem dX11_textAt_7 : decode cX11_textAt 7 = .ok (.imul, 1) := by decide +kernel
theorem dX11_textAt_8 : decode cX11_textAt 8 = .ok (.iadd, 1) := by decide +kernel
theorem dX11_textAt_9 : decode cX11_textAt 9 = .ok (.ireturn, 1) := by decide +kernel
theorem dX11_of_0 : decode cX11_of 0 = .ok (.aload_n 0, 1) := by decide +kernel
theorem dX11_of_1 : decode cX11_of 1 = .ok (.getfield 7, 3) := by decide +kernel
theorem dX11_of_4 : decode cX11_of 4 = .ok (.bipush 72, 2) := by decide +kernel
theorem dX11_of_6 : decode cX11_of 6 = .ok (.bipush 7, 2) := by decide +kernel
theorem dX11_of_8 : decode cX11_of 8 = .ok (.iload_n 1, 1) := by decide +kernel
theorem dX11_of_9 : decode cX11_of 9 = .ok (.imul, 1) := by decide +kernel
theorem dX11_of_10 : decode cX11_of 10 = .ok (.iadd, 1) := by decide +kernel
theorem dX11_of_11 : decode cX11_of 11 = .ok (.iload_n 2, 1) := by decide +kernel
theorem dX11_of_12 : decode cX11_of 12 = .ok (.iadd, 1) := by decide +kernel
theorem dX11_of_13 : decode cX11_of 13 = .ok (.iaload, 1) := by decide +kernel
theorem dX11_of_14 : decode cX11_of 14 = .ok (.ireturn, 1) := by decide +kernel
theorem dX11_isMaster_0 : decode cX11_isMaster 0 = .ok (.iload_n 1, 1) := by decide +kernel
theorem dX11_isMaster_1 : decode cX11_isMaster 1 = .ok (.i2l, 1) := by decide +kernel
theorem dX11_isMaster_2 : decode cX11_isMaster 2 = .ok (.lconst 0, 1) := by decide +kernel
theorem dX11_isMaster_3 : decode cX11_isMaster 3 = .ok (.aload_n 0, 1) := by decide +kernel
theorem dX11_isMaster_4 : decode cX11_isMaster 4 = .ok (.getfield 7, 3) := by decide +kernel
theorem dX11_isMaster_7 : decode cX11_isMaster 7 = .ok (.iconst 0, 1) := by decide +kernel
theorem dX11_isMaster_8 : decode cX11_isMaster 8 = .ok (.iaload, 1) := by decide +kernel
theorem dX11_isMaster_9 : decode cX11_isMaster 9 = .ok (.iconst 1, 1) := by decide +kernel
theorem dX11_isMaster_10 : decode cX11_isMaster 10 = .ok (.isub, 1) := by decide +kernel
theorem dX11_isMaster_11 : decode cX11_isMaster 11 = .ok (.i2l, 1) := by decide +kernel
theorem dX11_isMaster_12 : decode cX11_isMaster 12 = .ok (.invokestatic 71, 3) := by decide +kernel
theorem dX11_isMaster_15 : decode cX11_isMaster 15 = .ok (.ireturn, 1) := by decide +kernel
theorem dX11_isGesture_0 : decode cX11_isGesture 0 = .ok (.iload_n 0, 1) := by decide +kernel
theorem dX11_isGesture_1 : decode cX11_isGesture 1 = .ok (.ifCond .lt 13, 3) := by decide +kernel
theorem dX11_isGesture_4 : decode cX11_isGesture 4 = .ok (.iload_n 0, 1) := by decide +kernel
theorem dX11_isGesture_5 : decode cX11_isGesture 5 = .ok (.bipush 10, 2) := by decide +kernel
theorem dX11_isGesture_7 : decode cX11_isGesture 7 = .ok (.if_icmp .ge 7, 3) := by decide +kernel
theorem dX11_isGesture_10 : decode cX11_isGesture 10 = .ok (.iconst 1, 1) := by decide +kernel
theorem dX11_isGesture_11 : decode cX11_isGesture 11 = .ok (.goto 4, 3) := by decide +kernel
theorem dX11_isGesture_14 : decode cX11_isGesture 14 = .ok (.iconst 0, 1) := by decide +kernel
theorem dX11_isGesture_15 : decode cX11_isGesture 15 = .ok (.ireturn, 1) := by decide +kernel
theorem dX11_isTown_0 : decode cX11_isTown 0 = .ok (.iload_n 0, 1) := by decide +kernel
theorem dX11_isTown_1 : decode cX11_isTown 1 = .ok (.ifCond .lt 13, 3) := by decide +kernel
theorem dX11_isTown_4 : decode cX11_isTown 4 = .ok (.iload_n 0, 1) := by decide +kernel
theorem dX11_isTown_5 : decode cX11_isTown 5 = .ok (.bipush 6, 2) := by decide +kernel
theorem dX11_isTown_7 : decode cX11_isTown 7 = .ok (.if_icmp .ge 7, 3) := by decide +kernel
theorem dX11_isTown_10 : decode cX11_isTown 10 = .ok (.iconst 1, 1) := by decide +kernel
theorem dX11_isTown_11 : decode cX11_isTown 11 = .ok (.goto 4, 3) := by decide +kernel
theorem dX11_isTown_14 : decode cX11_isTown 14 = .ok (.iconst 0, 1) := by decide +kernel
theorem dX11_isTown_15 : decode cX11_isTown 15 = .ok (.ireturn, 1) := by decide +kernel
theorem dX11_isText_0 : decode cX11_isText 0 = .ok (.iload_n 1, 1) := by decide +kernel
theorem dX11_isText_1 : decode cX11_isText 1 = .ok (.i2l, 1) := by decide +kernel
theorem dX11_isText_2 : decode cX11_isText 2 = .ok (.lconst 0, 1) := by decide +kernel
theorem dX11_isText_3 : decode cX11_isText 3 = .ok (.aload_n 0, 1) := by decide +kernel
theorem dX11_isText_4 : decode cX11_isText 4 = .ok (.getfield 7, 3) := by decide +kernel
theorem dX11_isText_7 : decode cX11_isText 7 = .ok (.iconst 1, 1) := by decide +kernel
theorem dX11_isText_8 : decode cX11_isText 8 = .ok (.iaload, 1) := by decide +kernel
theorem dX11_isText_9 : decode cX11_isText 9 = .ok (.iconst 1, 1) := by decide +kernel
theorem dX11_isText_10 : decode cX11_isText 10 = .ok (.isub, 1) := by decide +kernel
theorem dX11_isText_11 : decode cX11_isText 11 = .ok (.i2l, 1) := by decide +kernel
theorem dX11_isText_12 : decode cX11_isText 12 = .ok (.invokestatic 71, 3) := by decide +kernel
theorem dX11_isText_15 : decode cX11_isText 15 = .ok (.ireturn, 1) := by decide +kernel
theorem dX11_drawn_0 : decode cX11_drawn 0 = .ok (.aload_n 0, 1) := by decide +kernel
theorem dX11_drawn_1 : decode cX11_drawn 1 = .ok (.getfield 7, 3) := by decide +kernel
theorem dX11_drawn_4 : decode cX11_drawn 4 = .ok (.bipush 8, 2) := by decide +kernel
theorem dX11_drawn_6 : decode cX11_drawn 6 = .ok (.aload_n 0, 1) := by decide +kernel
theorem dX11_drawn_7 : decode cX11_drawn 7 = .ok (.getfield 7, 3) := by decide +kernel
theorem dX11_drawn_10 : decode cX11_drawn 10 = .ok (.bipush 8, 2) := by decide +kernel
theorem dX11_drawn_12 : decode cX11_drawn 12 = .ok (.iaload, 1) := by decide +kernel
theorem dX11_drawn_13 : decode cX11_drawn 13 = .ok (.ldc 75, 2) := by decide +kernel
theorem dX11_drawn_15 : decode cX11_drawn 15 = .ok (.imul, 1) := by decide +kernel
theorem dX11_drawn_16 : decode cX11_drawn 16 = .ok (.sipush 12345, 3) := by decide +kernel
theorem dX11_drawn_19 : decode cX11_drawn 19 = .ok (.iadd, 1) := by decide +kernel
theorem dX11_drawn_20 : decode cX11_drawn 20 = .ok (.iastore, 1) := by decide +kernel
theorem dX11_drawn_21 : decode cX11_drawn 21 = .ok (.aload_n 0, 1) := by decide +kernel
theorem dX11_drawn_22 : decode cX11_drawn 22 = .ok (.getfield 7, 3) := by decide +kernel
theorem dX11_drawn_25 : decode cX11_drawn 25 = .ok (.bipush 8, 2) := by decide +kernel
theorem dX11_drawn_27 : decode cX11_drawn 27 = .ok (.iaload, 1) := by decide +kernel
theorem dX11_drawn_28 : decode cX11_drawn 28 = .ok (.bipush 8, 2) := by decide +kernel
theorem dX11_drawn_30 : decode cX11_drawn 30 = .ok (.iushr, 1) := by decide +kernel
theorem dX11_drawn_31 : decode cX11_drawn 31 = .ok (.ireturn, 1) := by decide +kernel
theorem dX11_comes_0 : decode cX11_comes 0 = .ok (.bipush 72, 2) := by decide +kernel
theorem dX11_comes_2 : decode cX11_comes 2 = .ok (.bipush 7, 2) := by decide +kernel
theorem dX11_comes_4 : decode cX11_comes 4 = .ok (.aload_n 0, 1) := by decide +kernel
theorem dX11_comes_5 : decode cX11_comes 5 = .ok (.getfield 7, 3) := by decide +kernel
theorem dX11_comes_8 : decode cX11_comes 8 = .ok (.iconst 0, 1) := by decide +kernel
theorem dX11_comes_9 : decode cX11_comes 9 = .ok (.iaload, 1) := by decide +kernel
theorem dX11_comes_10 : decode cX11_comes 10 = .ok (.imul, 1) := by decide +kernel
theorem dX11_comes_11 : decode cX11_comes 11 = .ok (.iadd, 1) := by decide +kernel
theorem dX11_comes_12 : decode cX11_comes 12 = .ok (.istore 5, 2) := by decide +kernel
theorem dX11_comes_14 : decode cX11_comes 14 = .ok (.aload_n 0, 1) := by decide +kernel
theorem dX11_comes_15 : decode cX11_comes 15 = .ok (.getfield 7, 3) := by decide +kernel
theorem dX11_comes_18 : decode cX11_comes 18 = .ok (.iload 5, 2) := by decide +kernel
theorem dX11_comes_20 : decode cX11_comes 20 = .ok (.iload_n 1, 1) := by decide +kernel
theorem dX11_comes_21 : decode cX11_comes 21 = .ok (.iastore, 1) := by decide +kernel
theorem dX11_comes_22 : decode cX11_comes 22 = .ok (.aload_n 0, 1) := by decide +kernel
theorem dX11_comes_23 : decode cX11_comes 23 = .ok (.getfield 7, 3) := by decide +kernel
theorem dX11_comes_26 : decode cX11_comes 26 = .ok (.iload 5, 2) := by decide +kernel
theorem dX11_comes_28 : decode cX11_comes 28 = .ok (.iconst 1, 1) := by decide +kernel
theorem dX11_comes_29 : decode cX11_comes 29 = .ok (.iadd, 1) := by decide +kernel
theorem dX11_comes_30 : decode cX11_comes 30 = .ok (.iload_n 2, 1) := by decide +kernel
theorem dX11_comes_31 : decode cX11_comes 31 = .ok (.iastore, 1) := by decide +kernel
theorem dX11_comes_32 : decode cX11_comes 32 = .ok (.aload_n 0, 1) := by decide +kernel
theorem dX11_comes_33 : decode cX11_comes 33 = .ok (.getfield 7, 3) := by decide +kernel
theorem dX11_comes_36 : decode cX11_comes 36 = .ok (.iload 5, 2) := by decide +kernel
theorem dX11_comes_38 : decode cX11_comes 38 = .ok (.iconst 2, 1) := by decide +kernel
theorem dX11_comes_39 : decode cX11_comes 39 = .ok (.iadd, 1) := by decide +kernel
theorem dX11_comes_40 : decode cX11_comes 40 = .ok (.iload_n 3, 1) := by decide +kernel
theorem dX11_comes_41 : decode cX11_comes 41 = .ok (.iastore, 1) := by decide +kernel
theorem dX11_comes_42 : decode cX11_comes 42 = .ok (.aload_n 0, 1) := by decide +kernel
theorem dX11_comes_43 : decode cX11_comes 43 = .ok (.getfield 7, 3) := by decide +kernel
theorem dX11_comes_46 : decode cX11_comes 46 = .ok (.iload 5, 2) := by decide +kernel
theorem dX11_comes_48 : decode cX11_comes 48 = .ok (.iconst 3, 1) := by decide +kernel
theorem dX11_comes_49 : decode cX11_comes 49 = .ok (.iadd, 1) := by decide +kernel
theorem dX11_comes_50 : decode cX11_comes 50 = .ok (.iconst 0, 1) := by decide +kernel
theorem dX11_comes_51 : decode cX11_comes 51 = .ok (.iastore, 1) := by decide +kernel
theorem dX11_comes_52 : decode cX11_comes 52 = .ok (.aload_n 0, 1) := by decide +kernel
theorem dX11_comes_53 : decode cX11_comes 53 = .ok (.getfield 7, 3) := by decide +kernel
theorem dX11_comes_56 : decode cX11_comes 56 = .ok (.iload 5, 2) := by decide +kernel
theorem dX11_comes_58 : decode cX11_comes 58 = .ok (.iconst 4, 1) := by decide +kernel
theorem dX11_comes_59 : decode cX11_comes 59 = .ok (.iadd, 1) := by decide +kernel
theorem dX11_comes_60 : decode cX11_comes 60 = .ok (.iload 4, 2) := by decide +kernel
theorem dX11_comes_62 : decode cX11_comes 62 = .ok (.iastore, 1) := by decide +kernel
theorem dX11_comes_63 : decode cX11_comes 63 = .ok (.aload_n 0, 1) := by decide +kernel
theorem dX11_comes_64 : decode cX11_comes 64 = .ok (.getfield 7, 3) := by decide +kernel
theorem dX11_comes_67 : decode cX11_comes 67 = .ok (.iload 5, 2) := by decide +kernel
theorem dX11_comes_69 : decode cX11_comes 69 = .ok (.iconst 5, 1) := by decide +kernel
theorem dX11_comes_70 : decode cX11_comes 70 = .ok (.iadd, 1) := by decide +kernel
theorem dX11_comes_71 : decode cX11_comes 71 = .ok (.bipush 40, 2) := by decide +kernel
theorem dX11_comes_73 : decode cX11_comes 73 = .ok (.iastore, 1) := by decide +kernel
theorem dX11_comes_74 : decode cX11_comes 74 = .ok (.aload_n 0, 1) := by decide +kernel
theorem dX11_comes_75 : decode cX11_comes 75 = .ok (.getfield 7, 3) := by decide +kernel
theorem dX11_comes_78 : decode cX11_comes 78 = .ok (.iload 5, 2) := by decide +kernel
theorem dX11_comes_80 : decode cX11_comes 80 = .ok (.bipush 6, 2) := by decide +kernel
theorem dX11_comes_82 : decode cX11_comes 82 = .ok (.iadd, 1) := by decide +kernel
theorem dX11_comes_83 : decode cX11_comes 83 = .ok (.iconst 0, 1) := by decide +kernel
theorem dX11_comes_84 : decode cX11_comes 84 = .ok (.iastore, 1) := by decide +kernel
theorem dX11_comes_85 : decode cX11_comes 85 = .ok (.aload_n 0, 1) := by decide +kernel
theorem dX11_comes_86 : decode cX11_comes 86 = .ok (.getfield 7, 3) := by decide +kernel
theorem dX11_comes_89 : decode cX11_comes 89 = .ok (.iconst 0, 1) := by decide +kernel
theorem dX11_comes_90 : decode cX11_comes 90 = .ok (.dup2, 1) := by decide +kernel
theorem dX11_comes_91 : decode cX11_comes 91 = .ok (.iaload, 1) := by decide +kernel
theorem dX11_comes_92 : decode cX11_comes 92 = .ok (.iconst 1, 1) := by decide +kernel
theorem dX11_comes_93 : decode cX11_comes 93 = .ok (.iadd, 1) := by decide +kernel
theorem dX11_comes_94 : decode cX11_comes 94 = .ok (.iastore, 1) := by decide +kernel
theorem dX11_comes_95 : decode cX11_comes 95 = .ok (.return_, 1) := by decide +kernel
theorem dX11_master_0 : decode cX11_master 0 = .ok (.iload_n 1, 1) := by decide +kernel
theorem dX11_master_1 : decode cX11_master 1 = .ok (.i2l, 1) := by decide +kernel
theorem dX11_master_2 : decode cX11_master 2 = .ok (.lconst 0, 1) := by decide +kernel
theorem dX11_master_3 : decode cX11_master 3 = .ok (.ldc2_w 76, 3) := by decide +kernel
theorem dX11_master_6 : decode cX11_master 6 = .ok (.invokestatic 71, 3) := by decide +kernel
theorem dX11_master_9 : decode cX11_master 9 = .ok (.ifCond .eq 30, 3) := by decide +kernel
theorem dX11_master_12 : decode cX11_master 12 = .ok (.iload_n 2, 1) := by decide +kernel
theorem dX11_master_13 : decode cX11_master 13 = .ok (.invokestatic 78, 3) := by decide +kernel
theorem dX11_master_16 : decode cX11_master 16 = .ok (.ifCond .eq 23, 3) := by decide +kernel
theorem dX11_master_19 : decode cX11_master 19 = .ok (.iload_n 3, 1) := by decide +kernel
theorem dX11_master_20 : decode cX11_master 20 = .ok (.invokestatic 82, 3) := by decide +kernel
theorem dX11_master_23 : decode cX11_master 23 = .ok (.ifCond .eq 16, 3) := by decide +kernel
theorem dX11_master_26 : decode cX11_master 26 = .ok (.iload 4, 2) := by decide +kernel
theorem dX11_master_28 : decode cX11_master 28 = .ok (.i2l, 1) := by decide +kernel
theorem dX11_master_29 : decode cX11_master 29 = .ok (.lconst 0, 1) := by decide +kernel
theorem dX11_master_30 : decode cX11_master 30 = .ok (.ldc2_w 85, 3) := by decide +kernel
theorem dX11_master_33 : decode cX11_master 33 = .ok (.invokestatic 71, 3) := by decide +kernel
theorem dX11_master_36 : decode cX11_master 36 = .ok (.ifCond .ne 6, 3) := by decide +kernel
theorem dX11_master_39 : decode cX11_master 39 = .ok (.ldc 87, 2) := by decide +kernel
theorem dX11_master_41 : decode cX11_master 41 = .ok (.ireturn, 1) := by decide +kernel
theorem dX11_master_42 : decode cX11_master 42 = .ok (.aload_n 0, 1) := by decide +kernel
theorem dX11_master_43 : decode cX11_master 43 = .ok (.getfield 7, 3) := by decide +kernel
theorem dX11_master_46 : decode cX11_master 46 = .ok (.iconst 0, 1) := by decide +kernel
theorem dX11_master_47 : decode cX11_master 47 = .ok (.iaload, 1) := by decide +kernel
theorem dX11_master_48 : decode cX11_master 48 = .ok (.bipush 9, 2) := by decide +kernel
theorem dX11_master_50 : decode cX11_master 50 = .ok (.if_icmp .ne 6, 3) := by decide +kernel
theorem dX11_master_53 : decode cX11_master 53 = .ok (.ldc 88, 2) := by decide +kernel
theorem dX11_master_55 : decode cX11_master 55 = .ok (.ireturn, 1) := by decide +kernel
theorem dX11_master_56 : decode cX11_master 56 = .ok (.aload_n 0, 1) := by decide +kernel
theorem dX11_master_57 : decode cX11_master 57 = .ok (.iload_n 1, 1) := by decide +kernel
theorem dX11_master_58 : decode cX11_master 58 = .ok (.iload_n 2, 1) := by decide +kernel
theorem dX11_master_59 : decode cX11_master 59 = .ok (.iload_n 3, 1) := by decide +kernel
theorem dX11_master_60 : decode cX11_master 60 = .ok (.iload 4, 2) := by decide +kernel
theorem dX11_master_62 : decode cX11_master 62 = .ok (.invokevirtual 89, 3) := by decide +kernel
theorem dX11_master_65 : decode cX11_master 65 = .ok (.aload_n 0, 1) := by decide +kernel
theorem dX11_master_66 : decode cX11_master 66 = .ok (.getfield 7, 3) := by decide +kernel
theorem dX11_master_69 : decode cX11_master 69 = .ok (.iconst 0, 1) := by decide +kernel
theorem dX11_master_70 : decode cX11_master 70 = .ok (.iaload, 1) := by decide +kernel
theorem dX11_master_71 : decode cX11_master 71 = .ok (.iconst 1, 1) := by decide +kernel
theorem dX11_master_72 : decode cX11_master 72 = .ok (.isub, 1) := by decide +kernel
theorem dX11_master_73 : decode cX11_master 73 = .ok (.ireturn, 1) := by decide +kernel
theorem dX11_takes_0 : decode cX11_takes 0 = .ok (.iconst 3, 1) := by decide +kernel
theorem dX11_takes_1 : decode cX11_takes 1 = .ok (.iload_n 2, 1) := by decide +kernel
theorem dX11_takes_2 : decode cX11_takes 2 = .ok (.iadd, 1) := by decide +kernel
theorem dX11_takes_3 : decode cX11_takes 3 = .ok (.istore_n 3, 1) := by decide +kernel
theorem dX11_takes_4 : decode cX11_takes 4 = .ok (.aload_n 0, 1) := by decide +kernel
theorem dX11_takes_5 : decode cX11_takes 5 = .ok (.iconst 0, 1) := by decide +kernel
theorem dX11_takes_6 : decode cX11_takes 6 = .ok (.invokevirtual 93, 3) := by decide +kernel
theorem dX11_takes_9 : decode cX11_takes 9 = .ok (.istore 4, 2) := by decide +kernel
theorem dX11_takes_11 : decode cX11_takes 11 = .ok (.iload 4, 2) := by decide +kernel
theorem dX11_takes_13 : decode cX11_takes 13 = .ok (.ifCond .lt 50, 3) := by decide +kernel
theorem dX11_takes_16 : decode cX11_takes 16 = .ok (.aload_n 0, 1) := by decide +kernel
theorem dX11_takes_17 : decode cX11_takes 17 = .ok (.getfield 55, 3) := by decide +kernel
theorem dX11_takes_20 : decode cX11_takes 20 = .ok (.bipush 107, 2) := by decide +kernel
theorem dX11_takes_22 : decode cX11_takes 22 = .ok (.iload_n 2, 1) := by decide +kernel
theorem dX11_takes_23 : decode cX11_takes 23 = .ok (.iastore, 1) := by decide +kernel
theorem dX11_takes_24 : decode cX11_takes 24 = .ok (.aload_n 0, 1) := by decide +kernel
theorem dX11_takes_25 : decode cX11_takes 25 = .ok (.getfield 55, 3) := by decide +kernel
theorem dX11_takes_28 : decode cX11_takes 28 = .ok (.bipush 103, 2) := by decide +kernel
theorem dX11_takes_30 : decode cX11_takes 30 = .ok (.aload_n 0, 1) := by decide +kernel
theorem dX11_takes_31 : decode cX11_takes 31 = .ok (.iload_n 1, 1) := by decide +kernel
theorem dX11_takes_32 : decode cX11_takes 32 = .ok (.iconst 2, 1) := by decide +kernel
theorem dX11_takes_33 : decode cX11_takes 33 = .ok (.invokevirtual 97, 3) := by decide +kernel
theorem dX11_takes_36 : decode cX11_takes 36 = .ok (.iastore, 1) := by decide +kernel
theorem dX11_takes_37 : decode cX11_takes 37 = .ok (.aload_n 0, 1) := by decide +kernel
theorem dX11_takes_38 : decode cX11_takes 38 = .ok (.getfield 55, 3) := by decide +kernel
theorem dX11_takes_41 : decode cX11_takes 41 = .ok (.bipush 97, 2) := by decide +kernel
theorem dX11_takes_43 : decode cX11_takes 43 = .ok (.aload_n 0, 1) := by decide +kernel
theorem dX11_takes_44 : decode cX11_takes 44 = .ok (.iload_n 1, 1) := by decide +kernel
theorem dX11_takes_45 : decode cX11_takes 45 = .ok (.iconst 5, 1) := by decide +kernel
theorem dX11_takes_46 : decode cX11_takes 46 = .ok (.invokevirtual 97, 3) := by decide +kernel
theorem dX11_takes_49 : decode cX11_takes 49 = .ok (.iastore, 1) := by decide +kernel
theorem dX11_takes_50 : decode cX11_takes 50 = .ok (.aload_n 0, 1) := by decide +kernel
theorem dX11_takes_51 : decode cX11_takes 51 = .ok (.iload 4, 2) := by decide +kernel
theorem dX11_takes_53 : decode cX11_takes 53 = .ok (.invokevirtual 101, 3) := by decide +kernel
theorem dX11_takes_56 : decode cX11_takes 56 = .ok (.iconst 1, 1) := by decide +kernel
theorem dX11_takes_57 : decode cX11_takes 57 = .ok (.bipush 99, 2) := by decide +kernel
theorem dX11_takes_59 : decode cX11_takes 59 = .ok (.invokestatic 104, 3) := by decide +kernel
theorem dX11_takes_62 : decode cX11_takes 62 = .ok (.istore_n 3, 1) := by decide +kernel
theorem dX11_takes_63 : decode cX11_takes 63 = .ok (.iload_n 3, 1) := by decide +kernel
theorem dX11_takes_64 : decode cX11_takes 64 = .ok (.iconst 1, 1) := by decide +kernel
theorem dX11_takes_65 : decode cX11_takes 65 = .ok (.if_icmp .le 9, 3) := by decide +kernel
theorem dX11_takes_68 : decode cX11_takes 68 = .ok (.iload_n 3, 1) := by decide +kernel
theorem dX11_takes_69 : decode cX11_takes 69 = .ok (.iconst 1, 1) := by decide +kernel
theorem dX11_takes_70 : decode cX11_takes 70 = .ok (.isub, 1) := by decide +kernel
theorem dX11_takes_71 : decode cX11_takes 71 = .ok (.goto 4, 3) := by decide +kernel
theorem dX11_takes_74 : decode cX11_takes 74 = .ok (.iconst 1, 1) := by decide +kernel
theorem dX11_takes_75 : decode cX11_takes 75 = .ok (.istore 5, 2) := by decide +kernel
theorem dX11_takes_77 : decode cX11_takes 77 = .ok (.aload_n 0, 1) := by decide +kernel
theorem dX11_takes_78 : decode cX11_takes 78 = .ok (.iload_n 1, 1) := by decide +kernel
theorem dX11_takes_79 : decode cX11_takes 79 = .ok (.iconst 0, 1) := by decide +kernel
theorem dX11_takes_80 : decode cX11_takes 80 = .ok (.invokevirtual 97, 3) := by decide +kernel
theorem dX11_takes_83 : decode cX11_takes 83 = .ok (.tableswitch 71 1 5 #[33, 37, 40, 54, 69], 33) := by decide +kernel
theorem dX11_takes_116 : decode cX11_takes 116 = .ok (.iconst 2, 1) := by decide +kernel
theorem dX11_takes_117 : decode cX11_takes 117 = .ok (.iload_n 3, 1) := by decide +kernel
theorem dX11_takes_118 : decode cX11_takes 118 = .ok (.imul, 1) := by decide +kernel
theorem dX11_takes_119 : decode cX11_takes 119 = .ok (.ireturn, 1) := by decide +kernel
theorem dX11_takes_120 : decode cX11_takes 120 = .ok (.iload 5, 2) := by decide +kernel
theorem dX11_takes_122 : decode cX11_takes 122 = .ok (.ireturn, 1) := by decide +kernel
theorem dX11_takes_123 : decode cX11_takes 123 = .ok (.iconst 2, 1) := by decide +kernel
theorem dX11_takes_124 : decode cX11_takes 124 = .ok (.iload_n 3, 1) := by decide +kernel
theorem dX11_takes_125 : decode cX11_takes 125 = .ok (.imul, 1) := by decide +kernel
theorem dX11_takes_126 : decode cX11_takes 126 = .ok (.aload_n 0, 1) := by decide +kernel
theorem dX11_takes_127 : decode cX11_takes 127 = .ok (.iload_n 1, 1) := by decide +kernel
theorem dX11_takes_128 : decode cX11_takes 128 = .ok (.iconst 5, 1) := by decide +kernel
theorem dX11_takes_129 : decode cX11_takes 129 = .ok (.invokevirtual 97, 3) := by decide +kernel
theorem dX11_takes_132 : decode cX11_takes 132 = .ok (.bipush 10, 2) := by decide +kernel
theorem dX11_takes_134 : decode cX11_takes 134 = .ok (.idiv, 1) := by decide +kernel
theorem dX11_takes_135 : decode cX11_takes 135 = .ok (.iadd, 1) := by decide +kernel
theorem dX11_takes_136 : decode cX11_takes 136 = .ok (.ireturn, 1) := by decide +kernel
theorem dX11_takes_137 : decode cX11_takes 137 = .ok (.iload 5, 2) := by decide +kernel
theorem dX11_takes_139 : decode cX11_takes 139 = .ok (.iconst 1, 1) := by decide +kernel
theorem dX11_takes_140 : decode cX11_takes 140 = .ok (.if_icmp .le 10, 3) := by decide +kernel
theorem dX11_takes_143 : decode cX11_takes 143 = .ok (.iload 5, 2) := by decide +kernel
theorem dX11_takes_145 : decode cX11_takes 145 = .ok (.iconst 2, 1) := by decide +kernel
theorem dX11_takes_146 : decode cX11_takes 146 = .ok (.idiv, 1) := by decide +kernel
theorem dX11_takes_147 : decode cX11_takes 147 = .ok (.goto 4, 3) := by decide +kernel
theorem dX11_takes_150 : decode cX11_takes 150 = .ok (.iconst 1, 1) := by decide +kernel
theorem dX11_takes_151 : decode cX11_takes 151 = .ok (.ireturn, 1) := by decide +kernel
theorem dX11_takes_152 : decode cX11_takes 152 = .ok (.iconst 1, 1) := by decide +kernel
theorem dX11_takes_153 : decode cX11_takes 153 = .ok (.ireturn, 1) := by decide +kernel
theorem dX11_takes_154 : decode cX11_takes 154 = .ok (.iload_n 3, 1) := by decide +kernel
theorem dX11_takes_155 : decode cX11_takes 155 = .ok (.ireturn, 1) := by decide +kernel
theorem dX11_teaches_0 : decode cX11_teaches 0 = .ok (.iload_n 2, 1) := by decide +kernel
theorem dX11_teaches_1 : decode cX11_teaches 1 = .ok (.aload_n 0, 1) := by decide +kernel
theorem dX11_teaches_2 : decode cX11_teaches 2 = .ok (.iload_n 1, 1) := by decide +kernel
theorem dX11_teaches_3 : decode cX11_teaches 3 = .ok (.iconst 3, 1) := by decide +kernel
theorem dX11_teaches_4 : decode cX11_teaches 4 = .ok (.invokevirtual 97, 3) := by decide +kernel
theorem dX11_teaches_7 : decode cX11_teaches 7 = .ok (.iand, 1) := by decide +kernel
theorem dX11_teaches_8 : decode cX11_teaches 8 = .ok (.invokestatic 108, 3) := by decide +kernel
theorem dX11_teaches_11 : decode cX11_teaches 11 = .ok (.istore_n 3, 1) := by decide +kernel
theorem dX11_teaches_12 : decode cX11_teaches 12 = .ok (.aload_n 0, 1) := by decide +kernel
theorem dX11_teaches_13 : decode cX11_teaches 13 = .ok (.iload_n 1, 1) := by decide +kernel
theorem dX11_teaches_14 : decode cX11_teaches 14 = .ok (.iconst 0, 1) := by decide +kernel
theorem dX11_teaches_15 : decode cX11_teaches 15 = .ok (.invokevirtual 97, 3) := by decide +kernel
theorem dX11_teaches_18 : decode cX11_teaches 18 = .ok (.tableswitch 61 2 5 #[30, 32, 30, 50], 30) := by decide +kernel
theorem dX11_teaches_48 : decode cX11_teaches 48 = .ok (.iconst 1, 1) := by decide +kernel
theorem dX11_teaches_49 : decode cX11_teaches 49 = .ok (.ireturn, 1) := by decide +kernel
theorem dX11_teaches_50 : decode cX11_teaches 50 = .ok (.iload_n 3, 1) := by decide +kernel
theorem dX11_teaches_51 : decode cX11_teaches 51 = .ok (.ifCond .ne 15, 3) := by decide +kernel
theorem dX11_teaches_54 : decode cX11_teaches 54 = .ok (.iload_n 2, 1) := by decide +kernel
theorem dX11_teaches_55 : decode cX11_teaches 55 = .ok (.invokestatic 108, 3) := by decide +kernel
theorem dX11_teaches_58 : decode cX11_teaches 58 = .ok (.iconst 3, 1) := by decide +kernel
theorem dX11_teaches_59 : decode cX11_teaches 59 = .ok (.if_icmp .lt 7, 3) := by decide +kernel
theorem dX11_teaches_62 : decode cX11_teaches 62 = .ok (.iconst 1, 1) := by decide +kernel
theorem dX11_teaches_63 : decode cX11_teaches 63 = .ok (.goto 4, 3) := by decide +kernel
theorem dX11_teaches_66 : decode cX11_teaches 66 = .ok (.iconst 0, 1) := by decide +kernel
theorem dX11_teaches_67 : decode cX11_teaches 67 = .ok (.ireturn, 1) := by decide +kernel
theorem dX11_teaches_68 : decode cX11_teaches 68 = .ok (.iload_n 3, 1) := by decide +kernel
theorem dX11_teaches_69 : decode cX11_teaches 69 = .ok (.iconst 2, 1) := by decide +kernel
theorem dX11_teaches_70 : decode cX11_teaches 70 = .ok (.if_icmp .ge 7, 3) := by decide +kernel
theorem dX11_teaches_73 : decode cX11_teaches 73 = .ok (.iconst 1, 1) := by decide +kernel
theorem dX11_teaches_74 : decode cX11_teaches 74 = .ok (.goto 4, 3) := by decide +kernel
theorem dX11_teaches_77 : decode cX11_teaches 77 = .ok (.iconst 0, 1) := by decide +kernel
theorem dX11_teaches_78 : decode cX11_teaches 78 = .ok (.ireturn, 1) := by decide +kernel
theorem dX11_teaches_79 : decode cX11_teaches 79 = .ok (.iload_n 3, 1) := by decide +kernel
theorem dX11_teaches_80 : decode cX11_teaches 80 = .ok (.ifCond .ne 7, 3) := by decide +kernel
theorem dX11_teaches_83 : decode cX11_teaches 83 = .ok (.iconst 1, 1) := by decide +kernel
theorem dX11_teaches_84 : decode cX11_teaches 84 = .ok (.goto 4, 3) := by decide +kernel
theorem dX11_teaches_87 : decode cX11_teaches 87 = .ok (.iconst 0, 1) := by decide +kernel
theorem dX11_teaches_88 : decode cX11_teaches 88 = .ok (.ireturn, 1) := by decide +kernel
theorem dX11_behindLesson_0 : decode cX11_behindLesson 0 = .ok (.aload_n 0, 1) := by decide +kernel
theorem dX11_behindLesson_1 : decode cX11_behindLesson 1 = .ok (.iload_n 1, 1) := by decide +kernel
theorem dX11_behindLesson_2 : decode cX11_behindLesson 2 = .ok (.iconst 0, 1) := by decide +kernel
theorem dX11_behindLesson_3 : decode cX11_behindLesson 3 = .ok (.invokevirtual 97, 3) := by decide +kernel
theorem dX11_behindLesson_6 : decode cX11_behindLesson 6 = .ok (.iconst 2, 1) := by decide +kernel
theorem dX11_behindLesson_7 : decode cX11_behindLesson 7 = .ok (.if_icmp .ne 16, 3) := by decide +kernel
theorem dX11_behindLesson_10 : decode cX11_behindLesson 10 = .ok (.iload_n 2, 1) := by decide +kernel
theorem dX11_behindLesson_11 : decode cX11_behindLesson 11 = .ok (.aload_n 0, 1) := by decide +kernel
theorem dX11_behindLesson_12 : decode cX11_behindLesson 12 = .ok (.iload_n 1, 1) := by decide +kernel
theorem dX11_behindLesson_13 : decode cX11_behindLesson 13 = .ok (.iconst 3, 1) := by decide +kernel
theorem dX11_behindLesson_14 : decode cX11_behindLesson 14 = .ok (.invokevirtual 97, 3) := by decide +kernel
theorem dX11_behindLesson_17 : decode cX11_behindLesson 17 = .ok (.iconst (-1), 1) := by decide +kernel
theorem dX11_behindLesson_18 : decode cX11_behindLesson 18 = .ok (.ixor, 1) := by decide +kernel
theorem dX11_behindLesson_19 : decode cX11_behindLesson 19 = .ok (.iand, 1) := by decide +kernel
theorem dX11_behindLesson_20 : decode cX11_behindLesson 20 = .ok (.goto 4, 3) := by decide +kernel
theorem dX11_behindLesson_23 : decode cX11_behindLesson 23 = .ok (.iload_n 2, 1) := by decide +kernel
theorem dX11_behindLesson_24 : decode cX11_behindLesson 24 = .ok (.istore_n 3, 1) := by decide +kernel
theorem dX11_behindLesson_25 : decode cX11_behindLesson 25 = .ok (.iload_n 3, 1) := by decide +kernel
theorem dX11_behindLesson_26 : decode cX11_behindLesson 26 = .ok (.iconst 1, 1) := by decide +kernel
theorem dX11_behindLesson_27 : decode cX11_behindLesson 27 = .ok (.aload_n 0, 1) := by decide +kernel
theorem dX11_behindLesson_28 : decode cX11_behindLesson 28 = .ok (.iload_n 1, 1) := by decide +kernel
theorem dX11_behindLesson_29 : decode cX11_behindLesson 29 = .ok (.iconst 2, 1) := by decide +kernel
theorem dX11_behindLesson_30 : decode cX11_behindLesson 30 = .ok (.invokevirtual 97, 3) := by decide +kernel
theorem dX11_behindLesson_33 : decode cX11_behindLesson 33 = .ok (.ishl, 1) := by decide +kernel
theorem dX11_behindLesson_34 : decode cX11_behindLesson 34 = .ok (.ior, 1) := by decide +kernel
theorem dX11_behindLesson_35 : decode cX11_behindLesson 35 = .ok (.ireturn, 1) := by decide +kernel
theorem dX11_worth_0 : decode cX11_worth 0 = .ok (.aload_n 0, 1) := by decide +kernel
theorem dX11_worth_1 : decode cX11_worth 1 = .ok (.iload_n 1, 1) := by decide +kernel
theorem dX11_worth_2 : decode cX11_worth 2 = .ok (.iconst 4, 1) := by decide +kernel
theorem dX11_worth_3 : decode cX11_worth 3 = .ok (.invokevirtual 97, 3) := by decide +kernel
theorem dX11_worth_6 : decode cX11_worth 6 = .ok (.istore_n 2, 1) := by decide +kernel
theorem dX11_worth_7 : decode cX11_worth 7 = .ok (.aload_n 0, 1) := by decide +kernel
theorem dX11_worth_8 : decode cX11_worth 8 = .ok (.iload_n 1, 1) := by decide +kernel
theorem dX11_worth_9 : decode cX11_worth 9 = .ok (.iconst 0, 1) := by decide +kernel
theorem dX11_worth_10 : decode cX11_worth 10 = .ok (.invokevirtual 97, 3) := by decide +kernel
theorem dX11_worth_13 : decode cX11_worth 13 = .ok (.tableswitch 60 1 5 #[35, 40, 45, 52, 57], 35) := by decide +kernel
theorem dX11_worth_48 : decode cX11_worth 48 = .ok (.iload_n 2, 1) := by decide +kernel
theorem dX11_worth_49 : decode cX11_worth 49 = .ok (.bipush 11, 2) := by decide +kernel
theorem dX11_worth_51 : decode cX11_worth 51 = .ok (.iadd, 1) := by decide +kernel
theorem dX11_worth_52 : decode cX11_worth 52 = .ok (.ireturn, 1) := by decide +kernel
theorem dX11_worth_53 : decode cX11_worth 53 = .ok (.bipush 99, 2) := by decide +kernel
theorem dX11_worth_55 : decode cX11_worth 55 = .ok (.iload_n 2, 1) := by decide +kernel
theorem dX11_worth_56 : decode cX11_worth 56 = .ok (.isub, 1) := by decide +kernel
theorem dX11_worth_57 : decode cX11_worth 57 = .ok (.ireturn, 1) := by decide +kernel
theorem dX11_worth_58 : decode cX11_worth 58 = .ok (.iconst 2, 1) := by decide +kernel
theorem dX11_worth_59 : decode cX11_worth 59 = .ok (.iload_n 2, 1) := by decide +kernel
theorem dX11_worth_60 : decode cX11_worth 60 = .ok (.bipush 11, 2) := by decide +kernel
theorem dX11_worth_62 : decode cX11_worth 62 = .ok (.iadd, 1) := by decide +kernel
theorem dX11_worth_63 : decode cX11_worth 63 = .ok (.imul, 1) := by decide +kernel
theorem dX11_worth_64 : decode cX11_worth 64 = .ok (.ireturn, 1) := by decide +kernel
theorem dX11_worth_65 : decode cX11_worth 65 = .ok (.bipush 95, 2) := by decide +kernel
theorem dX11_worth_67 : decode cX11_worth 67 = .ok (.iload_n 2, 1) := by decide +kernel
theorem dX11_worth_68 : decode cX11_worth 68 = .ok (.isub, 1) := by decide +kernel
theorem dX11_worth_69 : decode cX11_worth 69 = .ok (.ireturn, 1) := by decide +kernel
theorem dX11_worth_70 : decode cX11_worth 70 = .ok (.bipush 8, 2) := by decide +kernel
theorem dX11_worth_72 : decode cX11_worth 72 = .ok (.ireturn, 1) := by decide +kernel
theorem dX11_worth_73 : decode cX11_worth 73 = .ok (.iload_n 2, 1) := by decide +kernel
theorem dX11_worth_74 : decode cX11_worth 74 = .ok (.ireturn, 1) := by decide +kernel
theorem dX11_told_0 : decode cX11_told 0 = .ok (.aload_n 0, 1) := by decide +kernel
theorem dX11_told_1 : decode cX11_told 1 = .ok (.iload_n 1, 1) := by decide +kernel
theorem dX11_told_2 : decode cX11_told 2 = .ok (.invokevirtual 111, 3) := by decide +kernel
theorem dX11_told_5 : decode cX11_told 5 = .ok (.ifCond .eq 15, 3) := by decide +kernel
theorem dX11_told_8 : decode cX11_told 8 = .ok (.iload_n 2, 1) := by decide +kernel
theorem dX11_told_9 : decode cX11_told 9 = .ok (.i2l, 1) := by decide +kernel
theorem dX11_told_10 : decode cX11_told 10 = .ok (.lconst 0, 1) := by decide +kernel
theorem dX11_told_11 : decode cX11_told 11 = .ok (.ldc2_w 114, 3) := by decide +kernel
theorem dX11_told_14 : decode cX11_told 14 = .ok (.invokestatic 71, 3) := by decide +kernel
theorem dX11_told_17 : decode cX11_told 17 = .ok (.ifCond .ne 6, 3) := by decide +kernel
theorem dX11_told_20 : decode cX11_told 20 = .ok (.ldc 87, 2) := by decide +kernel
theorem dX11_told_22 : decode cX11_told 22 = .ok (.ireturn, 1) := by decide +kernel
theorem dX11_told_23 : decode cX11_told 23 = .ok (.iload_n 2, 1) := by decide +kernel
theorem dX11_told_24 : decode cX11_told 24 = .ok (.bipush 7, 2) := by decide +kernel
theorem dX11_told_26 : decode cX11_told 26 = .ok (.if_icmp .ge 10, 3) := by decide +kernel
theorem dX11_told_29 : decode cX11_told 29 = .ok (.aload_n 0, 1) := by decide +kernel
theorem dX11_told_30 : decode cX11_told 30 = .ok (.iload_n 1, 1) := by decide +kernel
theorem dX11_told_31 : decode cX11_told 31 = .ok (.iload_n 2, 1) := by decide +kernel
theorem dX11_told_32 : decode cX11_told 32 = .ok (.invokevirtual 97, 3) := by decide +kernel
theorem dX11_told_35 : decode cX11_told 35 = .ok (.ireturn, 1) := by decide +kernel
theorem dX11_told_36 : decode cX11_told 36 = .ok (.iload_n 2, 1) := by decide +kernel
theorem dX11_told_37 : decode cX11_told 37 = .ok (.bipush 7, 2) := by decide +kernel
theorem dX11_told_39 : decode cX11_told 39 = .ok (.if_icmp .ne 20, 3) := by decide +kernel
theorem dX11_told_42 : decode cX11_told 42 = .ok (.aload_n 0, 1) := by decide +kernel
theorem dX11_told_43 : decode cX11_told 43 = .ok (.iload_n 1, 1) := by decide +kernel
theorem dX11_told_44 : decode cX11_told 44 = .ok (.aload_n 0, 1) := by decide +kernel
theorem dX11_told_45 : decode cX11_told 45 = .ok (.getfield 7, 3) := by decide +kernel
theorem dX11_told_48 : decode cX11_told 48 = .ok (.iconst 4, 1) := by decide +kernel
theorem dX11_told_49 : decode cX11_told 49 = .ok (.iaload, 1) := by decide +kernel
theorem dX11_told_50 : decode cX11_told 50 = .ok (.invokestatic 108, 3) := by decide +kernel
theorem dX11_told_53 : decode cX11_told 53 = .ok (.invokevirtual 116, 3) := by decide +kernel
theorem dX11_told_56 : decode cX11_told 56 = .ok (.goto 36, 3) := by decide +kernel
theorem dX11_told_59 : decode cX11_told 59 = .ok (.iload_n 2, 1) := by decide +kernel
theorem dX11_told_60 : decode cX11_told 60 = .ok (.bipush 9, 2) := by decide +kernel
theorem dX11_told_62 : decode cX11_told 62 = .ok (.if_icmp .ne 11, 3) := by decide +kernel
theorem dX11_told_65 : decode cX11_told 65 = .ok (.aload_n 0, 1) := by decide +kernel
theorem dX11_told_66 : decode cX11_told 66 = .ok (.iload_n 1, 1) := by decide +kernel
theorem dX11_told_67 : decode cX11_told 67 = .ok (.invokevirtual 119, 3) := by decide +kernel
theorem dX11_told_70 : decode cX11_told 70 = .ok (.goto 22, 3) := by decide +kernel
theorem dX11_told_73 : decode cX11_told 73 = .ok (.aload_n 0, 1) := by decide +kernel
theorem dX11_told_74 : decode cX11_told 74 = .ok (.iload_n 1, 1) := by decide +kernel
theorem dX11_told_75 : decode cX11_told 75 = .ok (.aload_n 0, 1) := by decide +kernel
theorem dX11_told_76 : decode cX11_told 76 = .ok (.getfield 7, 3) := by decide +kernel
theorem dX11_told_79 : decode cX11_told 79 = .ok (.iconst 4, 1) := by decide +kernel
theorem dX11_told_80 : decode cX11_told 80 = .ok (.iaload, 1) := by decide +kernel
theorem dX11_told_81 : decode cX11_told 81 = .ok (.invokevirtual 122, 3) := by decide +kernel
theorem dX11_told_84 : decode cX11_told 84 = .ok (.ifCond .eq 7, 3) := by decide +kernel
theorem dX11_told_87 : decode cX11_told 87 = .ok (.iconst 1, 1) := by decide +kernel
theorem dX11_told_88 : decode cX11_told 88 = .ok (.goto 4, 3) := by decide +kernel
theorem dX11_told_91 : decode cX11_told 91 = .ok (.iconst 0, 1) := by decide +kernel
theorem dX11_told_92 : decode cX11_told 92 = .ok (.ireturn, 1) := by decide +kernel
theorem dX11_isOf_0 : decode cX11_isOf 0 = .ok (.iload_n 0, 1) := by decide +kernel
theorem dX11_isOf_1 : decode cX11_isOf 1 = .ok (.iload_n 1, 1) := by decide +kernel
theorem dX11_isOf_2 : decode cX11_isOf 2 = .ok (.if_icmp .eq 27, 3) := by decide +kernel
theorem dX11_isOf_5 : decode cX11_isOf 5 = .ok (.iload_n 1, 1) := by decide +kernel
theorem dX11_isOf_6 : decode cX11_isOf 6 = .ok (.ifCond .eq 23, 3) := by decide +kernel
theorem dX11_isOf_9 : decode cX11_isOf 9 = .ok (.iload_n 1, 1) := by decide +kernel
theorem dX11_isOf_10 : decode cX11_isOf 10 = .ok (.iconst 1, 1) := by decide +kernel
theorem dX11_isOf_11 : decode cX11_isOf 11 = .ok (.if_icmp .ne 8, 3) := by decide +kernel
theorem dX11_isOf_14 : decode cX11_isOf 14 = .ok (.iload_n 0, 1) := by decide +kernel
theorem dX11_isOf_15 : decode cX11_isOf 15 = .ok (.iconst 3, 1) := by decide +kernel
theorem dX11_isOf_16 : decode cX11_isOf 16 = .ok (.if_icmp .eq 13, 3) := by decide +kernel
theorem dX11_isOf_19 : decode cX11_isOf 19 = .ok (.iload_n 1, 1) := by decide +kernel
theorem dX11_isOf_20 : decode cX11_isOf 20 = .ok (.iconst 2, 1) := by decide +kernel
theorem dX11_isOf_21 : decode cX11_isOf 21 = .ok (.if_icmp .ne 12, 3) := by decide +kernel
theorem dX11_isOf_24 : decode cX11_isOf 24 = .ok (.iload_n 0, 1) := by decide +kernel
theorem dX11_isOf_25 : decode cX11_isOf 25 = .ok (.iconst 4, 1) := by decide +kernel
theorem dX11_isOf_26 : decode cX11_isOf 26 = .ok (.if_icmp .ne 7, 3) := by decide +kernel
theorem dX11_isOf_29 : decode cX11_isOf 29 = .ok (.iconst 1, 1) := by decide +kernel
theorem dX11_isOf_30 : decode cX11_isOf 30 = .ok (.goto 4, 3) := by decide +kernel
theorem dX11_isOf_33 : decode cX11_isOf 33 = .ok (.iconst 0, 1) := by decide +kernel
theorem dX11_isOf_34 : decode cX11_isOf 34 = .ok (.ireturn, 1) := by decide +kernel
theorem dX11_as_0 : decode cX11_as 0 = .ok (.aload_n 0, 1) := by decide +kernel
theorem dX11_as_1 : decode cX11_as 1 = .ok (.iload_n 1, 1) := by decide +kernel
theorem dX11_as_2 : decode cX11_as 2 = .ok (.invokevirtual 111, 3) := by decide +kernel
theorem dX11_as_5 : decode cX11_as 5 = .ok (.ifCond .eq 15, 3) := by decide +kernel
theorem dX11_as_8 : decode cX11_as 8 = .ok (.iload_n 2, 1) := by decide +kernel
theorem dX11_as_9 : decode cX11_as 9 = .ok (.i2l, 1) := by decide +kernel
theorem dX11_as_10 : decode cX11_as 10 = .ok (.lconst 0, 1) := by decide +kernel
theorem dX11_as_11 : decode cX11_as 11 = .ok (.ldc2_w 76, 3) := by decide +kernel
theorem dX11_as_14 : decode cX11_as 14 = .ok (.invokestatic 71, 3) := by decide +kernel
theorem dX11_as_17 : decode cX11_as 17 = .ok (.ifCond .ne 6, 3) := by decide +kernel
theorem dX11_as_20 : decode cX11_as 20 = .ok (.ldc 87, 2) := by decide +kernel
theorem dX11_as_22 : decode cX11_as 22 = .ok (.ireturn, 1) := by decide +kernel
theorem dX11_as_23 : decode cX11_as 23 = .ok (.aload_n 0, 1) := by decide +kernel
theorem dX11_as_24 : decode cX11_as 24 = .ok (.iload_n 1, 1) := by decide +kernel
theorem dX11_as_25 : decode cX11_as 25 = .ok (.iconst 0, 1) := by decide +kernel
theorem dX11_as_26 : decode cX11_as 26 = .ok (.invokevirtual 97, 3) := by decide +kernel
theorem dX11_as_29 : decode cX11_as 29 = .ok (.iload_n 2, 1) := by decide +kernel
theorem dX11_as_30 : decode cX11_as 30 = .ok (.invokestatic 126, 3) := by decide +kernel
theorem dX11_as_33 : decode cX11_as 33 = .ok (.ifCond .eq 12, 3) := by decide +kernel
theorem dX11_as_36 : decode cX11_as 36 = .ok (.aload_n 0, 1) := by decide +kernel
theorem dX11_as_37 : decode cX11_as 37 = .ok (.iload_n 1, 1) := by decide +kernel
theorem dX11_as_38 : decode cX11_as 38 = .ok (.iconst 4, 1) := by decide +kernel
theorem dX11_as_39 : decode cX11_as 39 = .ok (.invokevirtual 97, 3) := by decide +kernel
theorem dX11_as_42 : decode cX11_as 42 = .ok (.goto 5, 3) := by decide +kernel
theorem dX11_as_45 : decode cX11_as 45 = .ok (.ldc 129, 2) := by decide +kernel
theorem dX11_as_47 : decode cX11_as 47 = .ok (.ireturn, 1) := by decide +kernel
theorem dX11_turns_0 : decode cX11_turns 0 = .ok (.aload_n 0, 1) := by decide +kernel
theorem dX11_turns_1 : decode cX11_turns 1 = .ok (.iload_n 1, 1) := by decide +kernel
theorem dX11_turns_2 : decode cX11_turns 2 = .ok (.invokevirtual 111, 3) := by decide +kernel
theorem dX11_turns_5 : decode cX11_turns 5 = .ok (.ifCond .eq 30, 3) := by decide +kernel
theorem dX11_turns_8 : decode cX11_turns 8 = .ok (.iload_n 2, 1) := by decide +kernel
theorem dX11_turns_9 : decode cX11_turns 9 = .ok (.i2l, 1) := by decide +kernel
theorem dX11_turns_10 : decode cX11_turns 10 = .ok (.lconst 0, 1) := by decide +kernel
theorem dX11_turns_11 : decode cX11_turns 11 = .ok (.ldc2_w 76, 3) := by decide +kernel
theorem dX11_turns_14 : decode cX11_turns 14 = .ok (.invokestatic 71, 3) := by decide +kernel
theorem dX11_turns_17 : decode cX11_turns 17 = .ok (.ifCond .eq 18, 3) := by decide +kernel
theorem dX11_turns_20 : decode cX11_turns 20 = .ok (.aload_n 0, 1) := by decide +kernel
theorem dX11_turns_21 : decode cX11_turns 21 = .ok (.bipush 72, 2) := by decide +kernel
theorem dX11_turns_23 : decode cX11_turns 23 = .ok (.bipush 7, 2) := by decide +kernel
theorem dX11_turns_25 : decode cX11_turns 25 = .ok (.iload_n 1, 1) := by decide +kernel
theorem dX11_turns_26 : decode cX11_turns 26 = .ok (.imul, 1) := by decide +kernel
theorem dX11_turns_27 : decode cX11_turns 27 = .ok (.iadd, 1) := by decide +kernel
theorem dX11_turns_28 : decode cX11_turns 28 = .ok (.iload_n 2, 1) := by decide +kernel
theorem dX11_turns_29 : decode cX11_turns 29 = .ok (.invokevirtual 130, 3) := by decide +kernel
theorem dX11_turns_32 : decode cX11_turns 32 = .ok (.goto 5, 3) := by decide +kernel
theorem dX11_turns_35 : decode cX11_turns 35 = .ok (.ldc 87, 2) := by decide +kernel
theorem dX11_turns_37 : decode cX11_turns 37 = .ok (.ireturn, 1) := by decide +kernel
theorem dX11_set_0 : decode cX11_set 0 = .ok (.aload_n 0, 1) := by decide +kernel
theorem dX11_set_1 : decode cX11_set 1 = .ok (.iload_n 1, 1) := by decide +kernel
theorem dX11_set_2 : decode cX11_set 2 = .ok (.invokevirtual 111, 3) := by decide +kernel
theorem dX11_set_5 : decode cX11_set 5 = .ok (.ifCond .eq 39, 3) := by decide +kernel
theorem dX11_set_8 : decode cX11_set 8 = .ok (.iload_n 2, 1) := by decide +kernel
theorem dX11_set_9 : decode cX11_set 9 = .ok (.i2l, 1) := by decide +kernel
theorem dX11_set_10 : decode cX11_set 10 = .ok (.ldc2_w 133, 3) := by decide +kernel
theorem dX11_set_13 : decode cX11_set 13 = .ok (.ldc2_w 135, 3) := by decide +kernel
theorem dX11_set_16 : decode cX11_set 16 = .ok (.invokestatic 71, 3) := by decide +kernel
theorem dX11_set_19 : decode cX11_set 19 = .ok (.ifCond .eq 25, 3) := by decide +kernel
theorem dX11_set_22 : decode cX11_set 22 = .ok (.iload_n 3, 1) := by decide +kernel
theorem dX11_set_23 : decode cX11_set 23 = .ok (.i2l, 1) := by decide +kernel
theorem dX11_set_24 : decode cX11_set 24 = .ok (.lconst 0, 1) := by decide +kernel
theorem dX11_set_25 : decode cX11_set 25 = .ok (.iload_n 2, 1) := by decide +kernel
theorem dX11_set_26 : decode cX11_set 26 = .ok (.bipush 6, 2) := by decide +kernel
theorem dX11_set_28 : decode cX11_set 28 = .ok (.if_icmp .ne 7, 3) := by decide +kernel
theorem dX11_set_31 : decode cX11_set 31 = .ok (.lconst 1, 1) := by decide +kernel
theorem dX11_set_32 : decode cX11_set 32 = .ok (.goto 6, 3) := by decide +kernel
theorem dX11_set_35 : decode cX11_set 35 = .ok (.ldc2_w 85, 3) := by decide +kernel
theorem dX11_set_38 : decode cX11_set 38 = .ok (.invokestatic 71, 3) := by decide +kernel
theorem dX11_set_41 : decode cX11_set 41 = .ok (.ifCond .ne 6, 3) := by decide +kernel
theorem dX11_set_44 : decode cX11_set 44 = .ok (.ldc 87, 2) := by decide +kernel
theorem dX11_set_46 : decode cX11_set 46 = .ok (.ireturn, 1) := by decide +kernel
theorem dX11_set_47 : decode cX11_set 47 = .ok (.aload_n 0, 1) := by decide +kernel
theorem dX11_set_48 : decode cX11_set 48 = .ok (.bipush 72, 2) := by decide +kernel
theorem dX11_set_50 : decode cX11_set 50 = .ok (.bipush 7, 2) := by decide +kernel
theorem dX11_set_52 : decode cX11_set 52 = .ok (.iload_n 1, 1) := by decide +kernel
theorem dX11_set_53 : decode cX11_set 53 = .ok (.imul, 1) := by decide +kernel
theorem dX11_set_54 : decode cX11_set 54 = .ok (.iadd, 1) := by decide +kernel
theorem dX11_set_55 : decode cX11_set 55 = .ok (.iload_n 2, 1) := by decide +kernel
theorem dX11_set_56 : decode cX11_set 56 = .ok (.iadd, 1) := by decide +kernel
theorem dX11_set_57 : decode cX11_set 57 = .ok (.iload_n 3, 1) := by decide +kernel
theorem dX11_set_58 : decode cX11_set 58 = .ok (.invokevirtual 130, 3) := by decide +kernel
theorem dX11_set_61 : decode cX11_set 61 = .ok (.ireturn, 1) := by decide +kernel
theorem dX11_bars_0 : decode cX11_bars 0 = .ok (.aload_n 0, 1) := by decide +kernel
theorem dX11_bars_1 : decode cX11_bars 1 = .ok (.iload_n 1, 1) := by decide +kernel
theorem dX11_bars_2 : decode cX11_bars 2 = .ok (.invokevirtual 111, 3) := by decide +kernel
theorem dX11_bars_5 : decode cX11_bars 5 = .ok (.ifCond .eq 37, 3) := by decide +kernel
theorem dX11_bars_8 : decode cX11_bars 8 = .ok (.iload_n 2, 1) := by decide +kernel
theorem dX11_bars_9 : decode cX11_bars 9 = .ok (.invokestatic 82, 3) := by decide +kernel
theorem dX11_bars_12 : decode cX11_bars 12 = .ok (.ifCond .eq 30, 3) := by decide +kernel
theorem dX11_bars_15 : decode cX11_bars 15 = .ok (.iload_n 3, 1) := by decide +kernel
theorem dX11_bars_16 : decode cX11_bars 16 = .ok (.invokestatic 82, 3) := by decide +kernel
theorem dX11_bars_19 : decode cX11_bars 19 = .ok (.ifCond .eq 23, 3) := by decide +kernel
theorem dX11_bars_22 : decode cX11_bars 22 = .ok (.iload_n 2, 1) := by decide +kernel
theorem dX11_bars_23 : decode cX11_bars 23 = .ok (.aload_n 0, 1) := by decide +kernel
theorem dX11_bars_24 : decode cX11_bars 24 = .ok (.iload_n 1, 1) := by decide +kernel
theorem dX11_bars_25 : decode cX11_bars 25 = .ok (.iconst 2, 1) := by decide +kernel
theorem dX11_bars_26 : decode cX11_bars 26 = .ok (.invokevirtual 97, 3) := by decide +kernel
theorem dX11_bars_29 : decode cX11_bars 29 = .ok (.if_icmp .eq 13, 3) := by decide +kernel
theorem dX11_bars_32 : decode cX11_bars 32 = .ok (.iload_n 3, 1) := by decide +kernel
theorem dX11_bars_33 : decode cX11_bars 33 = .ok (.aload_n 0, 1) := by decide +kernel
theorem dX11_bars_34 : decode cX11_bars 34 = .ok (.iload_n 1, 1) := by decide +kernel
theorem dX11_bars_35 : decode cX11_bars 35 = .ok (.iconst 2, 1) := by decide +kernel
theorem dX11_bars_36 : decode cX11_bars 36 = .ok (.invokevirtual 97, 3) := by decide +kernel
theorem dX11_bars_39 : decode cX11_bars 39 = .ok (.if_icmp .ne 6, 3) := by decide +kernel
theorem dX11_bars_42 : decode cX11_bars 42 = .ok (.ldc 87, 2) := by decide +kernel
theorem dX11_bars_44 : decode cX11_bars 44 = .ok (.ireturn, 1) := by decide +kernel
theorem dX11_bars_45 : decode cX11_bars 45 = .ok (.aload_n 0, 1) := by decide +kernel

