theorem dX11_bars_46 : decode cX11_bars 46 = .ok (.bipush 72, 2) := by decide +kernel
theorem dX11_bars_48 : decode cX11_bars 48 = .ok (.bipush 7, 2) := by decide +kernel
theorem dX11_bars_50 : decode cX11_bars 50 = .ok (.iload_n 1, 1) := by decide +kernel
theorem dX11_bars_51 : decode cX11_bars 51 = .ok (.imul, 1) := by decide +kernel
theorem dX11_bars_52 : decode cX11_bars 52 = .ok (.iadd, 1) := by decide +kernel
theorem dX11_bars_53 : decode cX11_bars 53 = .ok (.iconst 3, 1) := by decide +kernel
theorem dX11_bars_54 : decode cX11_bars 54 = .ok (.iadd, 1) := by decide +kernel
theorem dX11_bars_55 : decode cX11_bars 55 = .ok (.iconst 1, 1) := by decide +kernel
theorem dX11_bars_56 : decode cX11_bars 56 = .ok (.iload_n 2, 1) := by decide +kernel
theorem dX11_bars_57 : decode cX11_bars 57 = .ok (.ishl, 1) := by decide +kernel
theorem dX11_bars_58 : decode cX11_bars 58 = .ok (.iconst 1, 1) := by decide +kernel
theorem dX11_bars_59 : decode cX11_bars 59 = .ok (.iload_n 3, 1) := by decide +kernel
theorem dX11_bars_60 : decode cX11_bars 60 = .ok (.ishl, 1) := by decide +kernel
theorem dX11_bars_61 : decode cX11_bars 61 = .ok (.ior, 1) := by decide +kernel
theorem dX11_bars_62 : decode cX11_bars 62 = .ok (.invokevirtual 130, 3) := by decide +kernel
theorem dX11_bars_65 : decode cX11_bars 65 = .ok (.ireturn, 1) := by decide +kernel
theorem dX11_road_0 : decode cX11_road 0 = .ok (.iload_n 1, 1) := by decide +kernel
theorem dX11_road_1 : decode cX11_road 1 = .ok (.invokestatic 78, 3) := by decide +kernel
theorem dX11_road_4 : decode cX11_road 4 = .ok (.ifCond .eq 27, 3) := by decide +kernel
theorem dX11_road_7 : decode cX11_road 7 = .ok (.iload_n 2, 1) := by decide +kernel
theorem dX11_road_8 : decode cX11_road 8 = .ok (.invokestatic 78, 3) := by decide +kernel
theorem dX11_road_11 : decode cX11_road 11 = .ok (.ifCond .eq 20, 3) := by decide +kernel
theorem dX11_road_14 : decode cX11_road 14 = .ok (.iload_n 1, 1) := by decide +kernel
theorem dX11_road_15 : decode cX11_road 15 = .ok (.iload_n 2, 1) := by decide +kernel
theorem dX11_road_16 : decode cX11_road 16 = .ok (.if_icmp .eq 15, 3) := by decide +kernel
theorem dX11_road_19 : decode cX11_road 19 = .ok (.iload_n 3, 1) := by decide +kernel
theorem dX11_road_20 : decode cX11_road 20 = .ok (.i2l, 1) := by decide +kernel
theorem dX11_road_21 : decode cX11_road 21 = .ok (.lconst 0, 1) := by decide +kernel
theorem dX11_road_22 : decode cX11_road 22 = .ok (.ldc2_w 114, 3) := by decide +kernel
theorem dX11_road_25 : decode cX11_road 25 = .ok (.invokestatic 71, 3) := by decide +kernel
theorem dX11_road_28 : decode cX11_road 28 = .ok (.ifCond .ne 6, 3) := by decide +kernel
theorem dX11_road_31 : decode cX11_road 31 = .ok (.ldc 87, 2) := by decide +kernel
theorem dX11_road_33 : decode cX11_road 33 = .ok (.ireturn, 1) := by decide +kernel
theorem dX11_road_34 : decode cX11_road 34 = .ok (.aload_n 0, 1) := by decide +kernel
theorem dX11_road_35 : decode cX11_road 35 = .ok (.getfield 7, 3) := by decide +kernel
theorem dX11_road_38 : decode cX11_road 38 = .ok (.bipush 36, 2) := by decide +kernel
theorem dX11_road_40 : decode cX11_road 40 = .ok (.bipush 6, 2) := by decide +kernel
theorem dX11_road_42 : decode cX11_road 42 = .ok (.iload_n 2, 1) := by decide +kernel
theorem dX11_road_43 : decode cX11_road 43 = .ok (.imul, 1) := by decide +kernel
theorem dX11_road_44 : decode cX11_road 44 = .ok (.iadd, 1) := by decide +kernel
theorem dX11_road_45 : decode cX11_road 45 = .ok (.iload_n 1, 1) := by decide +kernel
theorem dX11_road_46 : decode cX11_road 46 = .ok (.iadd, 1) := by decide +kernel
theorem dX11_road_47 : decode cX11_road 47 = .ok (.iload_n 3, 1) := by decide +kernel
theorem dX11_road_48 : decode cX11_road 48 = .ok (.iastore, 1) := by decide +kernel
theorem dX11_road_49 : decode cX11_road 49 = .ok (.aload_n 0, 1) := by decide +kernel
theorem dX11_road_50 : decode cX11_road 50 = .ok (.bipush 36, 2) := by decide +kernel
theorem dX11_road_52 : decode cX11_road 52 = .ok (.bipush 6, 2) := by decide +kernel
theorem dX11_road_54 : decode cX11_road 54 = .ok (.iload_n 1, 1) := by decide +kernel
theorem dX11_road_55 : decode cX11_road 55 = .ok (.imul, 1) := by decide +kernel
theorem dX11_road_56 : decode cX11_road 56 = .ok (.iadd, 1) := by decide +kernel
theorem dX11_road_57 : decode cX11_road 57 = .ok (.iload_n 2, 1) := by decide +kernel
theorem dX11_road_58 : decode cX11_road 58 = .ok (.iadd, 1) := by decide +kernel
theorem dX11_road_59 : decode cX11_road 59 = .ok (.iload_n 3, 1) := by decide +kernel
theorem dX11_road_60 : decode cX11_road 60 = .ok (.invokevirtual 130, 3) := by decide +kernel
theorem dX11_road_63 : decode cX11_road 63 = .ok (.ireturn, 1) := by decide +kernel
theorem dX11_findFar_0 : decode cX11_findFar 0 = .ok (.iconst 0, 1) := by decide +kernel
theorem dX11_findFar_1 : decode cX11_findFar 1 = .ok (.istore_n 1, 1) := by decide +kernel
theorem dX11_findFar_2 : decode cX11_findFar 2 = .ok (.iload_n 1, 1) := by decide +kernel
theorem dX11_findFar_3 : decode cX11_findFar 3 = .ok (.bipush 36, 2) := by decide +kernel
theorem dX11_findFar_5 : decode cX11_findFar 5 = .ok (.if_icmp .ge 57, 3) := by decide +kernel
theorem dX11_findFar_8 : decode cX11_findFar 8 = .ok (.aload_n 0, 1) := by decide +kernel
theorem dX11_findFar_9 : decode cX11_findFar 9 = .ok (.getfield 43, 3) := by decide +kernel
theorem dX11_findFar_12 : decode cX11_findFar 12 = .ok (.iload_n 1, 1) := by decide +kernel
theorem dX11_findFar_13 : decode cX11_findFar 13 = .ok (.iload_n 1, 1) := by decide +kernel
theorem dX11_findFar_14 : decode cX11_findFar 14 = .ok (.bipush 6, 2) := by decide +kernel
theorem dX11_findFar_16 : decode cX11_findFar 16 = .ok (.idiv, 1) := by decide +kernel
theorem dX11_findFar_17 : decode cX11_findFar 17 = .ok (.iload_n 1, 1) := by decide +kernel
theorem dX11_findFar_18 : decode cX11_findFar 18 = .ok (.bipush 6, 2) := by decide +kernel
theorem dX11_findFar_20 : decode cX11_findFar 20 = .ok (.irem, 1) := by decide +kernel
theorem dX11_findFar_21 : decode cX11_findFar 21 = .ok (.if_icmp .ne 7, 3) := by decide +kernel
theorem dX11_findFar_24 : decode cX11_findFar 24 = .ok (.iconst 0, 1) := by decide +kernel
theorem dX11_findFar_25 : decode cX11_findFar 25 = .ok (.goto 30, 3) := by decide +kernel
theorem dX11_findFar_28 : decode cX11_findFar 28 = .ok (.aload_n 0, 1) := by decide +kernel
theorem dX11_findFar_29 : decode cX11_findFar 29 = .ok (.getfield 7, 3) := by decide +kernel
theorem dX11_findFar_32 : decode cX11_findFar 32 = .ok (.bipush 36, 2) := by decide +kernel
theorem dX11_findFar_34 : decode cX11_findFar 34 = .ok (.iload_n 1, 1) := by decide +kernel
theorem dX11_findFar_35 : decode cX11_findFar 35 = .ok (.iadd, 1) := by decide +kernel
theorem dX11_findFar_36 : decode cX11_findFar 36 = .ok (.iaload, 1) := by decide +kernel
theorem dX11_findFar_37 : decode cX11_findFar 37 = .ok (.ifCond .ne 9, 3) := by decide +kernel
theorem dX11_findFar_40 : decode cX11_findFar 40 = .ok (.sipush 9999, 3) := by decide +kernel
theorem dX11_findFar_43 : decode cX11_findFar 43 = .ok (.goto 12, 3) := by decide +kernel
theorem dX11_findFar_46 : decode cX11_findFar 46 = .ok (.aload_n 0, 1) := by decide +kernel
theorem dX11_findFar_47 : decode cX11_findFar 47 = .ok (.getfield 7, 3) := by decide +kernel
theorem dX11_findFar_50 : decode cX11_findFar 50 = .ok (.bipush 36, 2) := by decide +kernel
theorem dX11_findFar_52 : decode cX11_findFar 52 = .ok (.iload_n 1, 1) := by decide +kernel
theorem dX11_findFar_53 : decode cX11_findFar 53 = .ok (.iadd, 1) := by decide +kernel
theorem dX11_findFar_54 : decode cX11_findFar 54 = .ok (.iaload, 1) := by decide +kernel
theorem dX11_findFar_55 : decode cX11_findFar 55 = .ok (.iastore, 1) := by decide +kernel
theorem dX11_findFar_56 : decode cX11_findFar 56 = .ok (.iinc 1 1, 3) := by decide +kernel
theorem dX11_findFar_59 : decode cX11_findFar 59 = .ok (.goto (-57), 3) := by decide +kernel
theorem dX11_findFar_62 : decode cX11_findFar 62 = .ok (.iconst 0, 1) := by decide +kernel
theorem dX11_findFar_63 : decode cX11_findFar 63 = .ok (.istore_n 1, 1) := by decide +kernel
theorem dX11_findFar_64 : decode cX11_findFar 64 = .ok (.iload_n 1, 1) := by decide +kernel
theorem dX11_findFar_65 : decode cX11_findFar 65 = .ok (.bipush 6, 2) := by decide +kernel
theorem dX11_findFar_67 : decode cX11_findFar 67 = .ok (.if_icmp .ge 79, 3) := by decide +kernel
theorem dX11_findFar_70 : decode cX11_findFar 70 = .ok (.iconst 0, 1) := by decide +kernel
theorem dX11_findFar_71 : decode cX11_findFar 71 = .ok (.istore_n 2, 1) := by decide +kernel
theorem dX11_findFar_72 : decode cX11_findFar 72 = .ok (.iload_n 2, 1) := by decide +kernel
theorem dX11_findFar_73 : decode cX11_findFar 73 = .ok (.bipush 36, 2) := by decide +kernel
theorem dX11_findFar_75 : decode cX11_findFar 75 = .ok (.if_icmp .ge 65, 3) := by decide +kernel
theorem dX11_findFar_78 : decode cX11_findFar 78 = .ok (.aload_n 0, 1) := by decide +kernel
theorem dX11_findFar_79 : decode cX11_findFar 79 = .ok (.getfield 43, 3) := by decide +kernel
theorem dX11_findFar_82 : decode cX11_findFar 82 = .ok (.iload_n 2, 1) := by decide +kernel
theorem dX11_findFar_83 : decode cX11_findFar 83 = .ok (.bipush 6, 2) := by decide +kernel
theorem dX11_findFar_85 : decode cX11_findFar 85 = .ok (.idiv, 1) := by decide +kernel
theorem dX11_findFar_86 : decode cX11_findFar 86 = .ok (.bipush 6, 2) := by decide +kernel
theorem dX11_findFar_88 : decode cX11_findFar 88 = .ok (.imul, 1) := by decide +kernel
theorem dX11_findFar_89 : decode cX11_findFar 89 = .ok (.iload_n 1, 1) := by decide +kernel
theorem dX11_findFar_90 : decode cX11_findFar 90 = .ok (.iadd, 1) := by decide +kernel
theorem dX11_findFar_91 : decode cX11_findFar 91 = .ok (.iaload, 1) := by decide +kernel
theorem dX11_findFar_92 : decode cX11_findFar 92 = .ok (.aload_n 0, 1) := by decide +kernel
theorem dX11_findFar_93 : decode cX11_findFar 93 = .ok (.getfield 43, 3) := by decide +kernel
theorem dX11_findFar_96 : decode cX11_findFar 96 = .ok (.bipush 6, 2) := by decide +kernel
theorem dX11_findFar_98 : decode cX11_findFar 98 = .ok (.iload_n 1, 1) := by decide +kernel
theorem dX11_findFar_99 : decode cX11_findFar 99 = .ok (.imul, 1) := by decide +kernel
theorem dX11_findFar_100 : decode cX11_findFar 100 = .ok (.iload_n 2, 1) := by decide +kernel
theorem dX11_findFar_101 : decode cX11_findFar 101 = .ok (.bipush 6, 2) := by decide +kernel
theorem dX11_findFar_103 : decode cX11_findFar 103 = .ok (.irem, 1) := by decide +kernel
theorem dX11_findFar_104 : decode cX11_findFar 104 = .ok (.iadd, 1) := by decide +kernel
theorem dX11_findFar_105 : decode cX11_findFar 105 = .ok (.iaload, 1) := by decide +kernel
theorem dX11_findFar_106 : decode cX11_findFar 106 = .ok (.iadd, 1) := by decide +kernel
theorem dX11_findFar_107 : decode cX11_findFar 107 = .ok (.istore_n 3, 1) := by decide +kernel
theorem dX11_findFar_108 : decode cX11_findFar 108 = .ok (.aload_n 0, 1) := by decide +kernel
theorem dX11_findFar_109 : decode cX11_findFar 109 = .ok (.getfield 43, 3) := by decide +kernel
theorem dX11_findFar_112 : decode cX11_findFar 112 = .ok (.iload_n 2, 1) := by decide +kernel
theorem dX11_findFar_113 : decode cX11_findFar 113 = .ok (.iload_n 3, 1) := by decide +kernel
theorem dX11_findFar_114 : decode cX11_findFar 114 = .ok (.aload_n 0, 1) := by decide +kernel
theorem dX11_findFar_115 : decode cX11_findFar 115 = .ok (.getfield 43, 3) := by decide +kernel
theorem dX11_findFar_118 : decode cX11_findFar 118 = .ok (.iload_n 2, 1) := by decide +kernel
theorem dX11_findFar_119 : decode cX11_findFar 119 = .ok (.iaload, 1) := by decide +kernel
theorem dX11_findFar_120 : decode cX11_findFar 120 = .ok (.if_icmp .ge 7, 3) := by decide +kernel
theorem dX11_findFar_123 : decode cX11_findFar 123 = .ok (.iload_n 3, 1) := by decide +kernel
theorem dX11_findFar_124 : decode cX11_findFar 124 = .ok (.goto 9, 3) := by decide +kernel
theorem dX11_findFar_127 : decode cX11_findFar 127 = .ok (.aload_n 0, 1) := by decide +kernel
theorem dX11_findFar_128 : decode cX11_findFar 128 = .ok (.getfield 43, 3) := by decide +kernel
theorem dX11_findFar_131 : decode cX11_findFar 131 = .ok (.iload_n 2, 1) := by decide +kernel
theorem dX11_findFar_132 : decode cX11_findFar 132 = .ok (.iaload, 1) := by decide +kernel
theorem dX11_findFar_133 : decode cX11_findFar 133 = .ok (.iastore, 1) := by decide +kernel
theorem dX11_findFar_134 : decode cX11_findFar 134 = .ok (.iinc 2 1, 3) := by decide +kernel
theorem dX11_findFar_137 : decode cX11_findFar 137 = .ok (.goto (-65), 3) := by decide +kernel
theorem dX11_findFar_140 : decode cX11_findFar 140 = .ok (.iinc 1 1, 3) := by decide +kernel
theorem dX11_findFar_143 : decode cX11_findFar 143 = .ok (.goto (-79), 3) := by decide +kernel
theorem dX11_findFar_146 : decode cX11_findFar 146 = .ok (.return_, 1) := by decide +kernel
theorem dX11_far_0 : decode cX11_far 0 = .ok (.iload_n 1, 1) := by decide +kernel
theorem dX11_far_1 : decode cX11_far 1 = .ok (.invokestatic 78, 3) := by decide +kernel
theorem dX11_far_4 : decode cX11_far 4 = .ok (.ifCond .eq 10, 3) := by decide +kernel
theorem dX11_far_7 : decode cX11_far 7 = .ok (.iload_n 2, 1) := by decide +kernel
theorem dX11_far_8 : decode cX11_far 8 = .ok (.invokestatic 78, 3) := by decide +kernel
theorem dX11_far_11 : decode cX11_far 11 = .ok (.ifCond .ne 6, 3) := by decide +kernel
theorem dX11_far_14 : decode cX11_far 14 = .ok (.ldc 87, 2) := by decide +kernel
theorem dX11_far_16 : decode cX11_far 16 = .ok (.ireturn, 1) := by decide +kernel
theorem dX11_far_17 : decode cX11_far 17 = .ok (.aload_n 0, 1) := by decide +kernel
theorem dX11_far_18 : decode cX11_far 18 = .ok (.invokevirtual 137, 3) := by decide +kernel
theorem dX11_far_21 : decode cX11_far 21 = .ok (.aload_n 0, 1) := by decide +kernel
theorem dX11_far_22 : decode cX11_far 22 = .ok (.getfield 43, 3) := by decide +kernel
theorem dX11_far_25 : decode cX11_far 25 = .ok (.bipush 6, 2) := by decide +kernel
theorem dX11_far_27 : decode cX11_far 27 = .ok (.iload_n 1, 1) := by decide +kernel
theorem dX11_far_28 : decode cX11_far 28 = .ok (.imul, 1) := by decide +kernel
theorem dX11_far_29 : decode cX11_far 29 = .ok (.iload_n 2, 1) := by decide +kernel
theorem dX11_far_30 : decode cX11_far 30 = .ok (.iadd, 1) := by decide +kernel
theorem dX11_far_31 : decode cX11_far 31 = .ok (.iaload, 1) := by decide +kernel
theorem dX11_far_32 : decode cX11_far 32 = .ok (.istore_n 3, 1) := by decide +kernel
theorem dX11_far_33 : decode cX11_far 33 = .ok (.iload_n 3, 1) := by decide +kernel
theorem dX11_far_34 : decode cX11_far 34 = .ok (.sipush 9999, 3) := by decide +kernel
theorem dX11_far_37 : decode cX11_far 37 = .ok (.if_icmp .ne 8, 3) := by decide +kernel
theorem dX11_far_40 : decode cX11_far 40 = .ok (.ldc 70, 2) := by decide +kernel
theorem dX11_far_42 : decode cX11_far 42 = .ok (.goto 4, 3) := by decide +kernel
theorem dX11_far_45 : decode cX11_far 45 = .ok (.iload_n 3, 1) := by decide +kernel
theorem dX11_far_46 : decode cX11_far 46 = .ok (.ireturn, 1) := by decide +kernel
theorem dX11_deal_0 : decode cX11_deal 0 = .ok (.iload_n 1, 1) := by decide +kernel
theorem dX11_deal_1 : decode cX11_deal 1 = .ok (.i2l, 1) := by decide +kernel
theorem dX11_deal_2 : decode cX11_deal 2 = .ok (.lconst 1, 1) := by decide +kernel
theorem dX11_deal_3 : decode cX11_deal 3 = .ok (.ldc2_w 114, 3) := by decide +kernel
theorem dX11_deal_6 : decode cX11_deal 6 = .ok (.invokestatic 71, 3) := by decide +kernel
theorem dX11_deal_9 : decode cX11_deal 9 = .ok (.ifCond .ne 6, 3) := by decide +kernel
theorem dX11_deal_12 : decode cX11_deal 12 = .ok (.ldc 87, 2) := by decide +kernel
theorem dX11_deal_14 : decode cX11_deal 14 = .ok (.ireturn, 1) := by decide +kernel
theorem dX11_deal_15 : decode cX11_deal 15 = .ok (.iconst 0, 1) := by decide +kernel
theorem dX11_deal_16 : decode cX11_deal 16 = .ok (.istore_n 2, 1) := by decide +kernel
theorem dX11_deal_17 : decode cX11_deal 17 = .ok (.iload_n 2, 1) := by decide +kernel
theorem dX11_deal_18 : decode cX11_deal 18 = .ok (.iload_n 1, 1) := by decide +kernel
theorem dX11_deal_19 : decode cX11_deal 19 = .ok (.if_icmp .ge 62, 3) := by decide +kernel
theorem dX11_deal_22 : decode cX11_deal 22 = .ok (.aload_n 0, 1) := by decide +kernel
theorem dX11_deal_23 : decode cX11_deal 23 = .ok (.getfield 7, 3) := by decide +kernel
theorem dX11_deal_26 : decode cX11_deal 26 = .ok (.iconst 0, 1) := by decide +kernel
theorem dX11_deal_27 : decode cX11_deal 27 = .ok (.iaload, 1) := by decide +kernel
theorem dX11_deal_28 : decode cX11_deal 28 = .ok (.bipush 9, 2) := by decide +kernel
theorem dX11_deal_30 : decode cX11_deal 30 = .ok (.if_icmp .ge 51, 3) := by decide +kernel
theorem dX11_deal_33 : decode cX11_deal 33 = .ok (.aload_n 0, 1) := by decide +kernel
theorem dX11_deal_34 : decode cX11_deal 34 = .ok (.invokevirtual 140, 3) := by decide +kernel
theorem dX11_deal_37 : decode cX11_deal 37 = .ok (.bipush 6, 2) := by decide +kernel
theorem dX11_deal_39 : decode cX11_deal 39 = .ok (.irem, 1) := by decide +kernel
theorem dX11_deal_40 : decode cX11_deal 40 = .ok (.istore_n 3, 1) := by decide +kernel
theorem dX11_deal_41 : decode cX11_deal 41 = .ok (.aload_n 0, 1) := by decide +kernel
theorem dX11_deal_42 : decode cX11_deal 42 = .ok (.invokevirtual 140, 3) := by decide +kernel
theorem dX11_deal_45 : decode cX11_deal 45 = .ok (.bipush 6, 2) := by decide +kernel
theorem dX11_deal_47 : decode cX11_deal 47 = .ok (.irem, 1) := by decide +kernel
theorem dX11_deal_48 : decode cX11_deal 48 = .ok (.istore 4, 2) := by decide +kernel
theorem dX11_deal_50 : decode cX11_deal 50 = .ok (.aload_n 0, 1) := by decide +kernel
theorem dX11_deal_51 : decode cX11_deal 51 = .ok (.invokevirtual 140, 3) := by decide +kernel
theorem dX11_deal_54 : decode cX11_deal 54 = .ok (.bipush 10, 2) := by decide +kernel
theorem dX11_deal_56 : decode cX11_deal 56 = .ok (.irem, 1) := by decide +kernel
theorem dX11_deal_57 : decode cX11_deal 57 = .ok (.istore 5, 2) := by decide +kernel
theorem dX11_deal_59 : decode cX11_deal 59 = .ok (.aload_n 0, 1) := by decide +kernel
theorem dX11_deal_60 : decode cX11_deal 60 = .ok (.iload_n 3, 1) := by decide +kernel
theorem dX11_deal_61 : decode cX11_deal 61 = .ok (.iload 4, 2) := by decide +kernel
theorem dX11_deal_63 : decode cX11_deal 63 = .ok (.iload 5, 2) := by decide +kernel
theorem dX11_deal_65 : decode cX11_deal 65 = .ok (.aload_n 0, 1) := by decide +kernel
theorem dX11_deal_66 : decode cX11_deal 66 = .ok (.invokevirtual 140, 3) := by decide +kernel
theorem dX11_deal_69 : decode cX11_deal 69 = .ok (.bipush 40, 2) := by decide +kernel
theorem dX11_deal_71 : decode cX11_deal 71 = .ok (.irem, 1) := by decide +kernel
theorem dX11_deal_72 : decode cX11_deal 72 = .ok (.invokevirtual 89, 3) := by decide +kernel
theorem dX11_deal_75 : decode cX11_deal 75 = .ok (.iinc 2 1, 3) := by decide +kernel
theorem dX11_deal_78 : decode cX11_deal 78 = .ok (.goto (-61), 3) := by decide +kernel
theorem dX11_deal_81 : decode cX11_deal 81 = .ok (.iload_n 2, 1) := by decide +kernel
theorem dX11_deal_82 : decode cX11_deal 82 = .ok (.ireturn, 1) := by decide +kernel
theorem dX11_seed_0 : decode cX11_seed 0 = .ok (.aload_n 0, 1) := by decide +kernel
theorem dX11_seed_1 : decode cX11_seed 1 = .ok (.bipush 8, 2) := by decide +kernel
theorem dX11_seed_3 : decode cX11_seed 3 = .ok (.iload_n 1, 1) := by decide +kernel
theorem dX11_seed_4 : decode cX11_seed 4 = .ok (.invokevirtual 130, 3) := by decide +kernel
theorem dX11_seed_7 : decode cX11_seed 7 = .ok (.ireturn, 1) := by decide +kernel
theorem dX11_apprentice_0 : decode cX11_apprentice 0 = .ok (.iload_n 1, 1) := by decide +kernel
theorem dX11_apprentice_1 : decode cX11_apprentice 1 = .ok (.i2l, 1) := by decide +kernel
theorem dX11_apprentice_2 : decode cX11_apprentice 2 = .ok (.lconst 0, 1) := by decide +kernel
theorem dX11_apprentice_3 : decode cX11_apprentice 3 = .ok (.ldc2_w 144, 3) := by decide +kernel
theorem dX11_apprentice_6 : decode cX11_apprentice 6 = .ok (.invokestatic 71, 3) := by decide +kernel
theorem dX11_apprentice_9 : decode cX11_apprentice 9 = .ok (.ifCond .eq 14, 3) := by decide +kernel
theorem dX11_apprentice_12 : decode cX11_apprentice 12 = .ok (.aload_n 0, 1) := by decide +kernel
theorem dX11_apprentice_13 : decode cX11_apprentice 13 = .ok (.getfield 7, 3) := by decide +kernel
theorem dX11_apprentice_16 : decode cX11_apprentice 16 = .ok (.iconst 3, 1) := by decide +kernel
theorem dX11_apprentice_17 : decode cX11_apprentice 17 = .ok (.iload_n 1, 1) := by decide +kernel
theorem dX11_apprentice_18 : decode cX11_apprentice 18 = .ok (.iadd, 1) := by decide +kernel
theorem dX11_apprentice_19 : decode cX11_apprentice 19 = .ok (.iaload, 1) := by decide +kernel
theorem dX11_apprentice_20 : decode cX11_apprentice 20 = .ok (.goto 5, 3) := by decide +kernel
theorem dX11_apprentice_23 : decode cX11_apprentice 23 = .ok (.ldc 87, 2) := by decide +kernel
theorem dX11_apprentice_25 : decode cX11_apprentice 25 = .ok (.ireturn, 1) := by decide +kernel
theorem dX11_has_0 : decode cX11_has 0 = .ok (.iload_n 1, 1) := by decide +kernel
theorem dX11_has_1 : decode cX11_has 1 = .ok (.i2l, 1) := by decide +kernel
theorem dX11_has_2 : decode cX11_has 2 = .ok (.ldc2_w 146, 3) := by decide +kernel
theorem dX11_has_5 : decode cX11_has 5 = .ok (.ldc2_w 144, 3) := by decide +kernel
theorem dX11_has_8 : decode cX11_has 8 = .ok (.invokestatic 71, 3) := by decide +kernel
theorem dX11_has_11 : decode cX11_has 11 = .ok (.ifCond .eq 37, 3) := by decide +kernel
theorem dX11_has_14 : decode cX11_has 14 = .ok (.iload_n 2, 1) := by decide +kernel
theorem dX11_has_15 : decode cX11_has 15 = .ok (.i2l, 1) := by decide +kernel
theorem dX11_has_16 : decode cX11_has 16 = .ok (.lconst 0, 1) := by decide +kernel
theorem dX11_has_17 : decode cX11_has 17 = .ok (.iload_n 1, 1) := by decide +kernel
theorem dX11_has_18 : decode cX11_has 18 = .ok (.iconst 2, 1) := by decide +kernel
theorem dX11_has_19 : decode cX11_has 19 = .ok (.if_icmp .ne 9, 3) := by decide +kernel
theorem dX11_has_22 : decode cX11_has 22 = .ok (.ldc2_w 148, 3) := by decide +kernel
theorem dX11_has_25 : decode cX11_has 25 = .ok (.goto 6, 3) := by decide +kernel
theorem dX11_has_28 : decode cX11_has 28 = .ok (.ldc2_w 85, 3) := by decide +kernel
theorem dX11_has_31 : decode cX11_has 31 = .ok (.invokestatic 71, 3) := by decide +kernel
theorem dX11_has_34 : decode cX11_has 34 = .ok (.ifCond .eq 14, 3) := by decide +kernel
theorem dX11_has_37 : decode cX11_has 37 = .ok (.aload_n 0, 1) := by decide +kernel
theorem dX11_has_38 : decode cX11_has 38 = .ok (.iconst 3, 1) := by decide +kernel
theorem dX11_has_39 : decode cX11_has 39 = .ok (.iload_n 1, 1) := by decide +kernel
theorem dX11_has_40 : decode cX11_has 40 = .ok (.iadd, 1) := by decide +kernel
theorem dX11_has_41 : decode cX11_has 41 = .ok (.iload_n 2, 1) := by decide +kernel
theorem dX11_has_42 : decode cX11_has 42 = .ok (.invokevirtual 130, 3) := by decide +kernel
theorem dX11_has_45 : decode cX11_has 45 = .ok (.goto 5, 3) := by decide +kernel
theorem dX11_has_48 : decode cX11_has 48 = .ok (.ldc 87, 2) := by decide +kernel
theorem dX11_has_50 : decode cX11_has 50 = .ok (.ireturn, 1) := by decide +kernel
theorem dX11_doesKnow_0 : decode cX11_doesKnow 0 = .ok (.aload_n 0, 1) := by decide +kernel
theorem dX11_doesKnow_1 : decode cX11_doesKnow 1 = .ok (.getfield 7, 3) := by decide +kernel
theorem dX11_doesKnow_4 : decode cX11_doesKnow 4 = .ok (.iconst 4, 1) := by decide +kernel
theorem dX11_doesKnow_5 : decode cX11_doesKnow 5 = .ok (.iaload, 1) := by decide +kernel
theorem dX11_doesKnow_6 : decode cX11_doesKnow 6 = .ok (.iload_n 1, 1) := by decide +kernel
theorem dX11_doesKnow_7 : decode cX11_doesKnow 7 = .ok (.ishr, 1) := by decide +kernel
theorem dX11_doesKnow_8 : decode cX11_doesKnow 8 = .ok (.iconst 1, 1) := by decide +kernel
theorem dX11_doesKnow_9 : decode cX11_doesKnow 9 = .ok (.iand, 1) := by decide +kernel
theorem dX11_doesKnow_10 : decode cX11_doesKnow 10 = .ok (.iconst 1, 1) := by decide +kernel
theorem dX11_doesKnow_11 : decode cX11_doesKnow 11 = .ok (.if_icmp .ne 7, 3) := by decide +kernel
theorem dX11_doesKnow_14 : decode cX11_doesKnow 14 = .ok (.iconst 1, 1) := by decide +kernel
theorem dX11_doesKnow_15 : decode cX11_doesKnow 15 = .ok (.goto 4, 3) := by decide +kernel
theorem dX11_doesKnow_18 : decode cX11_doesKnow 18 = .ok (.iconst 0, 1) := by decide +kernel
theorem dX11_doesKnow_19 : decode cX11_doesKnow 19 = .ok (.ireturn, 1) := by decide +kernel
theorem dX11_knows_0 : decode cX11_knows 0 = .ok (.iload_n 1, 1) := by decide +kernel
theorem dX11_knows_1 : decode cX11_knows 1 = .ok (.invokestatic 82, 3) := by decide +kernel
theorem dX11_knows_4 : decode cX11_knows 4 = .ok (.ifCond .eq 13, 3) := by decide +kernel
theorem dX11_knows_7 : decode cX11_knows 7 = .ok (.iload_n 2, 1) := by decide +kernel
theorem dX11_knows_8 : decode cX11_knows 8 = .ok (.i2l, 1) := by decide +kernel
theorem dX11_knows_9 : decode cX11_knows 9 = .ok (.lconst 0, 1) := by decide +kernel
theorem dX11_knows_10 : decode cX11_knows 10 = .ok (.lconst 1, 1) := by decide +kernel
theorem dX11_knows_11 : decode cX11_knows 11 = .ok (.invokestatic 71, 3) := by decide +kernel
theorem dX11_knows_14 : decode cX11_knows 14 = .ok (.ifCond .ne 6, 3) := by decide +kernel
theorem dX11_knows_17 : decode cX11_knows 17 = .ok (.ldc 87, 2) := by decide +kernel
theorem dX11_knows_19 : decode cX11_knows 19 = .ok (.ireturn, 1) := by decide +kernel
theorem dX11_knows_20 : decode cX11_knows 20 = .ok (.aload_n 0, 1) := by decide +kernel
theorem dX11_knows_21 : decode cX11_knows 21 = .ok (.iload_n 1, 1) := by decide +kernel
theorem dX11_knows_22 : decode cX11_knows 22 = .ok (.invokevirtual 150, 3) := by decide +kernel
theorem dX11_knows_25 : decode cX11_knows 25 = .ok (.ifCond .ne 8, 3) := by decide +kernel
theorem dX11_knows_28 : decode cX11_knows 28 = .ok (.ldc 153, 2) := by decide +kernel
theorem dX11_knows_30 : decode cX11_knows 30 = .ok (.goto 21, 3) := by decide +kernel
theorem dX11_knows_33 : decode cX11_knows 33 = .ok (.aload_n 0, 1) := by decide +kernel
theorem dX11_knows_34 : decode cX11_knows 34 = .ok (.getfield 7, 3) := by decide +kernel
theorem dX11_knows_37 : decode cX11_knows 37 = .ok (.iload_n 2, 1) := by decide +kernel
theorem dX11_knows_38 : decode cX11_knows 38 = .ok (.ifCond .ne 8, 3) := by decide +kernel
theorem dX11_knows_41 : decode cX11_knows 41 = .ok (.bipush 16, 2) := by decide +kernel
theorem dX11_knows_43 : decode cX11_knows 43 = .ok (.goto 5, 3) := by decide +kernel
theorem dX11_knows_46 : decode cX11_knows 46 = .ok (.bipush 26, 2) := by decide +kernel
theorem dX11_knows_48 : decode cX11_knows 48 = .ok (.iload_n 1, 1) := by decide +kernel
theorem dX11_knows_49 : decode cX11_knows 49 = .ok (.iadd, 1) := by decide +kernel
theorem dX11_knows_50 : decode cX11_knows 50 = .ok (.iaload, 1) := by decide +kernel
theorem dX11_knows_51 : decode cX11_knows 51 = .ok (.ireturn, 1) := by decide +kernel
theorem dX11_goesBy_0 : decode cX11_goesBy 0 = .ok (.aload_n 0, 1) := by decide +kernel
theorem dX11_goesBy_1 : decode cX11_goesBy 1 = .ok (.getfield 7, 3) := by decide +kernel
theorem dX11_goesBy_4 : decode cX11_goesBy 4 = .ok (.iconst 2, 1) := by decide +kernel
theorem dX11_goesBy_5 : decode cX11_goesBy 5 = .ok (.aload_n 0, 1) := by decide +kernel
theorem dX11_goesBy_6 : decode cX11_goesBy 6 = .ok (.getfield 7, 3) := by decide +kernel
theorem dX11_goesBy_9 : decode cX11_goesBy 9 = .ok (.iconst 2, 1) := by decide +kernel
theorem dX11_goesBy_10 : decode cX11_goesBy 10 = .ok (.iaload, 1) := by decide +kernel
theorem dX11_goesBy_11 : decode cX11_goesBy 11 = .ok (.iload_n 1, 1) := by decide +kernel
theorem dX11_goesBy_12 : decode cX11_goesBy 12 = .ok (.iadd, 1) := by decide +kernel
theorem dX11_goesBy_13 : decode cX11_goesBy 13 = .ok (.iconst 0, 1) := by decide +kernel
theorem dX11_goesBy_14 : decode cX11_goesBy 14 = .ok (.sipush 9999, 3) := by decide +kernel
theorem dX11_goesBy_17 : decode cX11_goesBy 17 = .ok (.invokestatic 104, 3) := by decide +kernel
theorem dX11_goesBy_20 : decode cX11_goesBy 20 = .ok (.iastore, 1) := by decide +kernel
theorem dX11_goesBy_21 : decode cX11_goesBy 21 = .ok (.iconst 0, 1) := by decide +kernel
theorem dX11_goesBy_22 : decode cX11_goesBy 22 = .ok (.istore_n 2, 1) := by decide +kernel
theorem dX11_goesBy_23 : decode cX11_goesBy 23 = .ok (.iload_n 2, 1) := by decide +kernel
theorem dX11_goesBy_24 : decode cX11_goesBy 24 = .ok (.bipush 10, 2) := by decide +kernel
theorem dX11_goesBy_26 : decode cX11_goesBy 26 = .ok (.if_icmp .ge 77, 3) := by decide +kernel
theorem dX11_goesBy_29 : decode cX11_goesBy 29 = .ok (.aload_n 0, 1) := by decide +kernel
theorem dX11_goesBy_30 : decode cX11_goesBy 30 = .ok (.iload_n 2, 1) := by decide +kernel
theorem dX11_goesBy_31 : decode cX11_goesBy 31 = .ok (.invokevirtual 150, 3) := by decide +kernel
theorem dX11_goesBy_34 : decode cX11_goesBy 34 = .ok (.ifCond .eq 63, 3) := by decide +kernel
theorem dX11_goesBy_37 : decode cX11_goesBy 37 = .ok (.aload_n 0, 1) := by decide +kernel
theorem dX11_goesBy_38 : decode cX11_goesBy 38 = .ok (.getfield 7, 3) := by decide +kernel
theorem dX11_goesBy_41 : decode cX11_goesBy 41 = .ok (.bipush 26, 2) := by decide +kernel
theorem dX11_goesBy_43 : decode cX11_goesBy 43 = .ok (.iload_n 2, 1) := by decide +kernel
theorem dX11_goesBy_44 : decode cX11_goesBy 44 = .ok (.iadd, 1) := by decide +kernel
theorem dX11_goesBy_45 : decode cX11_goesBy 45 = .ok (.dup2, 1) := by decide +kernel
theorem dX11_goesBy_46 : decode cX11_goesBy 46 = .ok (.iaload, 1) := by decide +kernel
theorem dX11_goesBy_47 : decode cX11_goesBy 47 = .ok (.iload_n 1, 1) := by decide +kernel
theorem dX11_goesBy_48 : decode cX11_goesBy 48 = .ok (.iadd, 1) := by decide +kernel
theorem dX11_goesBy_49 : decode cX11_goesBy 49 = .ok (.iastore, 1) := by decide +kernel
theorem dX11_goesBy_50 : decode cX11_goesBy 50 = .ok (.aload_n 0, 1) := by decide +kernel
theorem dX11_goesBy_51 : decode cX11_goesBy 51 = .ok (.getfield 7, 3) := by decide +kernel
theorem dX11_goesBy_54 : decode cX11_goesBy 54 = .ok (.iconst 4, 1) := by decide +kernel
theorem dX11_goesBy_55 : decode cX11_goesBy 55 = .ok (.dup2, 1) := by decide +kernel
theorem dX11_goesBy_56 : decode cX11_goesBy 56 = .ok (.iaload, 1) := by decide +kernel
theorem dX11_goesBy_57 : decode cX11_goesBy 57 = .ok (.aload_n 0, 1) := by decide +kernel
theorem dX11_goesBy_58 : decode cX11_goesBy 58 = .ok (.getfield 7, 3) := by decide +kernel
theorem dX11_goesBy_61 : decode cX11_goesBy 61 = .ok (.bipush 6, 2) := by decide +kernel
theorem dX11_goesBy_63 : decode cX11_goesBy 63 = .ok (.iaload, 1) := by decide +kernel
theorem dX11_goesBy_64 : decode cX11_goesBy 64 = .ok (.ifCond .le 30, 3) := by decide +kernel
theorem dX11_goesBy_67 : decode cX11_goesBy 67 = .ok (.aload_n 0, 1) := by decide +kernel
theorem dX11_goesBy_68 : decode cX11_goesBy 68 = .ok (.getfield 7, 3) := by decide +kernel
theorem dX11_goesBy_71 : decode cX11_goesBy 71 = .ok (.bipush 26, 2) := by decide +kernel
theorem dX11_goesBy_73 : decode cX11_goesBy 73 = .ok (.iload_n 2, 1) := by decide +kernel
theorem dX11_goesBy_74 : decode cX11_goesBy 74 = .ok (.iadd, 1) := by decide +kernel
theorem dX11_goesBy_75 : decode cX11_goesBy 75 = .ok (.iaload, 1) := by decide +kernel
theorem dX11_goesBy_76 : decode cX11_goesBy 76 = .ok (.aload_n 0, 1) := by decide +kernel
theorem dX11_goesBy_77 : decode cX11_goesBy 77 = .ok (.getfield 7, 3) := by decide +kernel
theorem dX11_goesBy_80 : decode cX11_goesBy 80 = .ok (.bipush 6, 2) := by decide +kernel
theorem dX11_goesBy_82 : decode cX11_goesBy 82 = .ok (.iaload, 1) := by decide +kernel
theorem dX11_goesBy_83 : decode cX11_goesBy 83 = .ok (.if_icmp .le 11, 3) := by decide +kernel
theorem dX11_goesBy_86 : decode cX11_goesBy 86 = .ok (.iconst 1, 1) := by decide +kernel
theorem dX11_goesBy_87 : decode cX11_goesBy 87 = .ok (.iload_n 2, 1) := by decide +kernel
theorem dX11_goesBy_88 : decode cX11_goesBy 88 = .ok (.ishl, 1) := by decide +kernel
theorem dX11_goesBy_89 : decode cX11_goesBy 89 = .ok (.iconst (-1), 1) := by decide +kernel
theorem dX11_goesBy_90 : decode cX11_goesBy 90 = .ok (.ixor, 1) := by decide +kernel
theorem dX11_goesBy_91 : decode cX11_goesBy 91 = .ok (.goto 4, 3) := by decide +kernel
theorem dX11_goesBy_94 : decode cX11_goesBy 94 = .ok (.iconst (-1), 1) := by decide +kernel
theorem dX11_goesBy_95 : decode cX11_goesBy 95 = .ok (.iand, 1) := by decide +kernel
theorem dX11_goesBy_96 : decode cX11_goesBy 96 = .ok (.iastore, 1) := by decide +kernel
theorem dX11_goesBy_97 : decode cX11_goesBy 97 = .ok (.iinc 2 1, 3) := by decide +kernel
theorem dX11_goesBy_100 : decode cX11_goesBy 100 = .ok (.goto (-77), 3) := by decide +kernel
theorem dX11_goesBy_103 : decode cX11_goesBy 103 = .ok (.return_, 1) := by decide +kernel
theorem dX11_go_0 : decode cX11_go 0 = .ok (.iload_n 1, 1) := by decide +kernel
theorem dX11_go_1 : decode cX11_go 1 = .ok (.invokestatic 78, 3) := by decide +kernel
theorem dX11_go_4 : decode cX11_go 4 = .ok (.ifCond .eq 13, 3) := by decide +kernel
theorem dX11_go_7 : decode cX11_go 7 = .ok (.iload_n 1, 1) := by decide +kernel
theorem dX11_go_8 : decode cX11_go 8 = .ok (.aload_n 0, 1) := by decide +kernel
theorem dX11_go_9 : decode cX11_go 9 = .ok (.getfield 7, 3) := by decide +kernel
theorem dX11_go_12 : decode cX11_go 12 = .ok (.iconst 3, 1) := by decide +kernel
theorem dX11_go_13 : decode cX11_go 13 = .ok (.iaload, 1) := by decide +kernel
theorem dX11_go_14 : decode cX11_go 14 = .ok (.if_icmp .ne 6, 3) := by decide +kernel
theorem dX11_go_17 : decode cX11_go 17 = .ok (.ldc 87, 2) := by decide +kernel
theorem dX11_go_19 : decode cX11_go 19 = .ok (.ireturn, 1) := by decide +kernel
theorem dX11_go_20 : decode cX11_go 20 = .ok (.aload_n 0, 1) := by decide +kernel
theorem dX11_go_21 : decode cX11_go 21 = .ok (.getfield 7, 3) := by decide +kernel
theorem dX11_go_24 : decode cX11_go 24 = .ok (.bipush 36, 2) := by decide +kernel
theorem dX11_go_26 : decode cX11_go 26 = .ok (.bipush 6, 2) := by decide +kernel
theorem dX11_go_28 : decode cX11_go 28 = .ok (.aload_n 0, 1) := by decide +kernel
theorem dX11_go_29 : decode cX11_go 29 = .ok (.getfield 7, 3) := by decide +kernel
theorem dX11_go_32 : decode cX11_go 32 = .ok (.iconst 3, 1) := by decide +kernel
theorem dX11_go_33 : decode cX11_go 33 = .ok (.iaload, 1) := by decide +kernel
theorem dX11_go_34 : decode cX11_go 34 = .ok (.imul, 1) := by decide +kernel
theorem dX11_go_35 : decode cX11_go 35 = .ok (.iadd, 1) := by decide +kernel
theorem dX11_go_36 : decode cX11_go 36 = .ok (.iload_n 1, 1) := by decide +kernel
theorem dX11_go_37 : decode cX11_go 37 = .ok (.iadd, 1) := by decide +kernel
theorem dX11_go_38 : decode cX11_go 38 = .ok (.iaload, 1) := by decide +kernel
theorem dX11_go_39 : decode cX11_go 39 = .ok (.istore_n 2, 1) := by decide +kernel
theorem dX11_go_40 : decode cX11_go 40 = .ok (.iload_n 2, 1) := by decide +kernel
theorem dX11_go_41 : decode cX11_go 41 = .ok (.ifCond .ne 6, 3) := by decide +kernel
theorem dX11_go_44 : decode cX11_go 44 = .ok (.ldc 153, 2) := by decide +kernel
theorem dX11_go_46 : decode cX11_go 46 = .ok (.ireturn, 1) := by decide +kernel
theorem dX11_go_47 : decode cX11_go 47 = .ok (.aload_n 0, 1) := by decide +kernel
theorem dX11_go_48 : decode cX11_go 48 = .ok (.iload_n 2, 1) := by decide +kernel
theorem dX11_go_49 : decode cX11_go 49 = .ok (.invokevirtual 154, 3) := by decide +kernel
theorem dX11_go_52 : decode cX11_go 52 = .ok (.aload_n 0, 1) := by decide +kernel
theorem dX11_go_53 : decode cX11_go 53 = .ok (.getfield 7, 3) := by decide +kernel
theorem dX11_go_56 : decode cX11_go 56 = .ok (.iconst 3, 1) := by decide +kernel
theorem dX11_go_57 : decode cX11_go 57 = .ok (.iload_n 1, 1) := by decide +kernel
theorem dX11_go_58 : decode cX11_go 58 = .ok (.iastore, 1) := by decide +kernel
theorem dX11_go_59 : decode cX11_go 59 = .ok (.aload_n 0, 1) := by decide +kernel
theorem dX11_go_60 : decode cX11_go 60 = .ok (.getfield 7, 3) := by decide +kernel
theorem dX11_go_63 : decode cX11_go 63 = .ok (.iconst 2, 1) := by decide +kernel
theorem dX11_go_64 : decode cX11_go 64 = .ok (.iaload, 1) := by decide +kernel
theorem dX11_go_65 : decode cX11_go 65 = .ok (.ireturn, 1) := by decide +kernel
theorem dX11_canLearn_0 : decode cX11_canLearn 0 = .ok (.aload_n 0, 1) := by decide +kernel
theorem dX11_canLearn_1 : decode cX11_canLearn 1 = .ok (.iload_n 1, 1) := by decide +kernel
theorem dX11_canLearn_2 : decode cX11_canLearn 2 = .ok (.bipush 6, 2) := by decide +kernel
theorem dX11_canLearn_4 : decode cX11_canLearn 4 = .ok (.invokevirtual 97, 3) := by decide +kernel
theorem dX11_canLearn_7 : decode cX11_canLearn 7 = .ok (.ifCond .ne 64, 3) := by decide +kernel
theorem dX11_canLearn_10 : decode cX11_canLearn 10 = .ok (.aload_n 0, 1) := by decide +kernel
theorem dX11_canLearn_11 : decode cX11_canLearn 11 = .ok (.iload_n 1, 1) := by decide +kernel
theorem dX11_canLearn_12 : decode cX11_canLearn 12 = .ok (.iconst 1, 1) := by decide +kernel
theorem dX11_canLearn_13 : decode cX11_canLearn 13 = .ok (.invokevirtual 97, 3) := by decide +kernel
theorem dX11_canLearn_16 : decode cX11_canLearn 16 = .ok (.aload_n 0, 1) := by decide +kernel
theorem dX11_canLearn_17 : decode cX11_canLearn 17 = .ok (.getfield 7, 3) := by decide +kernel
theorem dX11_canLearn_20 : decode cX11_canLearn 20 = .ok (.iconst 3, 1) := by decide +kernel
theorem dX11_canLearn_21 : decode cX11_canLearn 21 = .ok (.iaload, 1) := by decide +kernel
theorem dX11_canLearn_22 : decode cX11_canLearn 22 = .ok (.if_icmp .ne 49, 3) := by decide +kernel
theorem dX11_canLearn_25 : decode cX11_canLearn 25 = .ok (.aload_n 0, 1) := by decide +kernel
theorem dX11_canLearn_26 : decode cX11_canLearn 26 = .ok (.iload_n 1, 1) := by decide +kernel
theorem dX11_canLearn_27 : decode cX11_canLearn 27 = .ok (.aload_n 0, 1) := by decide +kernel
theorem dX11_canLearn_28 : decode cX11_canLearn 28 = .ok (.getfield 7, 3) := by decide +kernel
theorem dX11_canLearn_31 : decode cX11_canLearn 31 = .ok (.iconst 4, 1) := by decide +kernel
theorem dX11_canLearn_32 : decode cX11_canLearn 32 = .ok (.iaload, 1) := by decide +kernel
theorem dX11_canLearn_33 : decode cX11_canLearn 33 = .ok (.invokevirtual 122, 3) := by decide +kernel
theorem dX11_canLearn_36 : decode cX11_canLearn 36 = .ok (.ifCond .eq 35, 3) := by decide +kernel
theorem dX11_canLearn_39 : decode cX11_canLearn 39 = .ok (.aload_n 0, 1) := by decide +kernel
theorem dX11_canLearn_40 : decode cX11_canLearn 40 = .ok (.aload_n 0, 1) := by decide +kernel
theorem dX11_canLearn_41 : decode cX11_canLearn 41 = .ok (.iload_n 1, 1) := by decide +kernel
theorem dX11_canLearn_42 : decode cX11_canLearn 42 = .ok (.iconst 2, 1) := by decide +kernel
theorem dX11_canLearn_43 : decode cX11_canLearn 43 = .ok (.invokevirtual 97, 3) := by decide +kernel
theorem dX11_canLearn_46 : decode cX11_canLearn 46 = .ok (.invokevirtual 150, 3) := by decide +kernel
theorem dX11_canLearn_49 : decode cX11_canLearn 49 = .ok (.ifCond .ne 22, 3) := by decide +kernel
theorem dX11_canLearn_52 : decode cX11_canLearn 52 = .ok (.aload_n 0, 1) := by decide +kernel
theorem dX11_canLearn_53 : decode cX11_canLearn 53 = .ok (.iload_n 1, 1) := by decide +kernel
theorem dX11_canLearn_54 : decode cX11_canLearn 54 = .ok (.iconst 4, 1) := by decide +kernel
theorem dX11_canLearn_55 : decode cX11_canLearn 55 = .ok (.invokevirtual 97, 3) := by decide +kernel
theorem dX11_canLearn_58 : decode cX11_canLearn 58 = .ok (.aload_n 0, 1) := by decide +kernel
theorem dX11_canLearn_59 : decode cX11_canLearn 59 = .ok (.getfield 7, 3) := by decide +kernel
theorem dX11_canLearn_62 : decode cX11_canLearn 62 = .ok (.iconst 5, 1) := by decide +kernel
theorem dX11_canLearn_63 : decode cX11_canLearn 63 = .ok (.iaload, 1) := by decide +kernel
theorem dX11_canLearn_64 : decode cX11_canLearn 64 = .ok (.if_icmp .gt 7, 3) := by decide +kernel
theorem dX11_canLearn_67 : decode cX11_canLearn 67 = .ok (.iconst 1, 1) := by decide +kernel
theorem dX11_canLearn_68 : decode cX11_canLearn 68 = .ok (.goto 4, 3) := by decide +kernel
theorem dX11_canLearn_71 : decode cX11_canLearn 71 = .ok (.iconst 0, 1) := by decide +kernel
theorem dX11_canLearn_72 : decode cX11_canLearn 72 = .ok (.ireturn, 1) := by decide +kernel
theorem dX11_learns_0 : decode cX11_learns 0 = .ok (.aload_n 0, 1) := by decide +kernel
theorem dX11_learns_1 : decode cX11_learns 1 = .ok (.getfield 7, 3) := by decide +kernel
theorem dX11_learns_4 : decode cX11_learns 4 = .ok (.iconst 5, 1) := by decide +kernel
theorem dX11_learns_5 : decode cX11_learns 5 = .ok (.dup2, 1) := by decide +kernel
theorem dX11_learns_6 : decode cX11_learns 6 = .ok (.iaload, 1) := by decide +kernel
theorem dX11_learns_7 : decode cX11_learns 7 = .ok (.aload_n 0, 1) := by decide +kernel
theorem dX11_learns_8 : decode cX11_learns 8 = .ok (.iload_n 1, 1) := by decide +kernel
theorem dX11_learns_9 : decode cX11_learns 9 = .ok (.iconst 4, 1) := by decide +kernel
theorem dX11_learns_10 : decode cX11_learns 10 = .ok (.invokevirtual 97, 3) := by decide +kernel
theorem dX11_learns_13 : decode cX11_learns 13 = .ok (.isub, 1) := by decide +kernel
theorem dX11_learns_14 : decode cX11_learns 14 = .ok (.iastore, 1) := by decide +kernel
theorem dX11_learns_15 : decode cX11_learns 15 = .ok (.aload_n 0, 1) := by decide +kernel
theorem dX11_learns_16 : decode cX11_learns 16 = .ok (.iload_n 1, 1) := by decide +kernel
theorem dX11_learns_17 : decode cX11_learns 17 = .ok (.aload_n 0, 1) := by decide +kernel
theorem dX11_learns_18 : decode cX11_learns 18 = .ok (.getfield 7, 3) := by decide +kernel
theorem dX11_learns_21 : decode cX11_learns 21 = .ok (.iconst 4, 1) := by decide +kernel
theorem dX11_learns_22 : decode cX11_learns 22 = .ok (.iaload, 1) := by decide +kernel
theorem dX11_learns_23 : decode cX11_learns 23 = .ok (.invokestatic 108, 3) := by decide +kernel
theorem dX11_learns_26 : decode cX11_learns 26 = .ok (.invokevirtual 116, 3) := by decide +kernel
theorem dX11_learns_29 : decode cX11_learns 29 = .ok (.istore_n 2, 1) := by decide +kernel
theorem dX11_learns_30 : decode cX11_learns 30 = .ok (.aload_n 0, 1) := by decide +kernel
theorem dX11_learns_31 : decode cX11_learns 31 = .ok (.iload_n 2, 1) := by decide +kernel
theorem dX11_learns_32 : decode cX11_learns 32 = .ok (.invokevirtual 154, 3) := by decide +kernel
theorem dX11_learns_35 : decode cX11_learns 35 = .ok (.aload_n 0, 1) := by decide +kernel
theorem dX11_learns_36 : decode cX11_learns 36 = .ok (.iload_n 1, 1) := by decide +kernel
theorem dX11_learns_37 : decode cX11_learns 37 = .ok (.iconst 2, 1) := by decide +kernel
theorem dX11_learns_38 : decode cX11_learns 38 = .ok (.invokevirtual 97, 3) := by decide +kernel
theorem dX11_learns_41 : decode cX11_learns 41 = .ok (.istore_n 3, 1) := by decide +kernel
theorem dX11_learns_42 : decode cX11_learns 42 = .ok (.aload_n 0, 1) := by decide +kernel
theorem dX11_learns_43 : decode cX11_learns 43 = .ok (.getfield 7, 3) := by decide +kernel
theorem dX11_learns_46 : decode cX11_learns 46 = .ok (.iconst 4, 1) := by decide +kernel
theorem dX11_learns_47 : decode cX11_learns 47 = .ok (.aload_n 0, 1) := by decide +kernel
theorem dX11_learns_48 : decode cX11_learns 48 = .ok (.iload_n 1, 1) := by decide +kernel
theorem dX11_learns_49 : decode cX11_learns 49 = .ok (.aload_n 0, 1) := by decide +kernel
theorem dX11_learns_50 : decode cX11_learns 50 = .ok (.getfield 7, 3) := by decide +kernel
theorem dX11_learns_53 : decode cX11_learns 53 = .ok (.iconst 4, 1) := by decide +kernel
theorem dX11_learns_54 : decode cX11_learns 54 = .ok (.iaload, 1) := by decide +kernel
theorem dX11_learns_55 : decode cX11_learns 55 = .ok (.invokevirtual 158, 3) := by decide +kernel
theorem dX11_learns_58 : decode cX11_learns 58 = .ok (.iastore, 1) := by decide +kernel
theorem dX11_learns_59 : decode cX11_learns 59 = .ok (.aload_n 0, 1) := by decide +kernel
theorem dX11_learns_60 : decode cX11_learns 60 = .ok (.getfield 7, 3) := by decide +kernel
theorem dX11_learns_63 : decode cX11_learns 63 = .ok (.bipush 16, 2) := by decide +kernel
theorem dX11_learns_65 : decode cX11_learns 65 = .ok (.iload_n 3, 1) := by decide +kernel
theorem dX11_learns_66 : decode cX11_learns 66 = .ok (.iadd, 1) := by decide +kernel
theorem dX11_learns_67 : decode cX11_learns 67 = .ok (.iload_n 1, 1) := by decide +kernel
theorem dX11_learns_68 : decode cX11_learns 68 = .ok (.iastore, 1) := by decide +kernel
theorem dX11_learns_69 : decode cX11_learns 69 = .ok (.aload_n 0, 1) := by decide +kernel
theorem dX11_learns_70 : decode cX11_learns 70 = .ok (.getfield 7, 3) := by decide +kernel
theorem dX11_learns_73 : decode cX11_learns 73 = .ok (.bipush 26, 2) := by decide +kernel
theorem dX11_learns_75 : decode cX11_learns 75 = .ok (.iload_n 3, 1) := by decide +kernel
theorem dX11_learns_76 : decode cX11_learns 76 = .ok (.iadd, 1) := by decide +kernel
theorem dX11_learns_77 : decode cX11_learns 77 = .ok (.iconst 0, 1) := by decide +kernel
theorem dX11_learns_78 : decode cX11_learns 78 = .ok (.iastore, 1) := by decide +kernel
theorem dX11_learns_79 : decode cX11_learns 79 = .ok (.iload_n 2, 1) := by decide +kernel
theorem dX11_learns_80 : decode cX11_learns 80 = .ok (.ireturn, 1) := by decide +kernel
theorem dX11_learn_0 : decode cX11_learn 0 = .ok (.aload_n 0, 1) := by decide +kernel
theorem dX11_learn_1 : decode cX11_learn 1 = .ok (.iload_n 1, 1) := by decide +kernel
theorem dX11_learn_2 : decode cX11_learn 2 = .ok (.invokevirtual 111, 3) := by decide +kernel
theorem dX11_learn_5 : decode cX11_learn 5 = .ok (.ifCond .ne 6, 3) := by decide +kernel
theorem dX11_learn_8 : decode cX11_learn 8 = .ok (.ldc 87, 2) := by decide +kernel
theorem dX11_learn_10 : decode cX11_learn 10 = .ok (.ireturn, 1) := by decide +kernel
theorem dX11_learn_11 : decode cX11_learn 11 = .ok (.aload_n 0, 1) := by decide +kernel
theorem dX11_learn_12 : decode cX11_learn 12 = .ok (.iload_n 1, 1) := by decide +kernel
theorem dX11_learn_13 : decode cX11_learn 13 = .ok (.invokevirtual 161, 3) := by decide +kernel
theorem dX11_learn_16 : decode cX11_learn 16 = .ok (.ifCond .ne 6, 3) := by decide +kernel
theorem dX11_learn_19 : decode cX11_learn 19 = .ok (.ldc 153, 2) := by decide +kernel
theorem dX11_learn_21 : decode cX11_learn 21 = .ok (.ireturn, 1) := by decide +kernel
theorem dX11_learn_22 : decode cX11_learn 22 = .ok (.aload_n 0, 1) := by decide +kernel
theorem dX11_learn_23 : decode cX11_learn 23 = .ok (.iload_n 1, 1) := by decide +kernel
theorem dX11_learn_24 : decode cX11_learn 24 = .ok (.invokevirtual 164, 3) := by decide +kernel
theorem dX11_learn_27 : decode cX11_learn 27 = .ok (.istore_n 2, 1) := by decide +kernel
theorem dX11_learn_28 : decode cX11_learn 28 = .ok (.aload_n 0, 1) := by decide +kernel
theorem dX11_learn_29 : decode cX11_learn 29 = .ok (.getfield 7, 3) := by decide +kernel
theorem dX11_learn_32 : decode cX11_learn 32 = .ok (.iconst 4, 1) := by decide +kernel
theorem dX11_learn_33 : decode cX11_learn 33 = .ok (.iaload, 1) := by decide +kernel
theorem dX11_learn_34 : decode cX11_learn 34 = .ok (.ireturn, 1) := by decide +kernel
theorem dX11_uses_0 : decode cX11_uses 0 = .ok (.aload_n 0, 1) := by decide +kernel
theorem dX11_uses_1 : decode cX11_uses 1 = .ok (.getfield 7, 3) := by decide +kernel
theorem dX11_uses_4 : decode cX11_uses 4 = .ok (.bipush 26, 2) := by decide +kernel
theorem dX11_uses_6 : decode cX11_uses 6 = .ok (.iload_n 1, 1) := by decide +kernel
theorem dX11_uses_7 : decode cX11_uses 7 = .ok (.iadd, 1) := by decide +kernel
theorem dX11_uses_8 : decode cX11_uses 8 = .ok (.iconst 0, 1) := by decide +kernel
theorem dX11_uses_9 : decode cX11_uses 9 = .ok (.iastore, 1) := by decide +kernel
theorem dX11_uses_10 : decode cX11_uses 10 = .ok (.aload_n 0, 1) := by decide +kernel
theorem dX11_uses_11 : decode cX11_uses 11 = .ok (.iconst 1, 1) := by decide +kernel
theorem dX11_uses_12 : decode cX11_uses 12 = .ok (.invokevirtual 154, 3) := by decide +kernel
theorem dX11_uses_15 : decode cX11_uses 15 = .ok (.return_, 1) := by decide +kernel
theorem dX11_use_0 : decode cX11_use 0 = .ok (.iload_n 1, 1) := by decide +kernel
theorem dX11_use_1 : decode cX11_use 1 = .ok (.invokestatic 82, 3) := by decide +kernel
theorem dX11_use_4 : decode cX11_use 4 = .ok (.ifCond .ne 6, 3) := by decide +kernel
theorem dX11_use_7 : decode cX11_use 7 = .ok (.ldc 87, 2) := by decide +kernel
theorem dX11_use_9 : decode cX11_use 9 = .ok (.ireturn, 1) := by decide +kernel
theorem dX11_use_10 : decode cX11_use 10 = .ok (.aload_n 0, 1) := by decide +kernel
theorem dX11_use_11 : decode cX11_use 11 = .ok (.iload_n 1, 1) := by decide +kernel
theorem dX11_use_12 : decode cX11_use 12 = .ok (.invokevirtual 150, 3) := by decide +kernel
theorem dX11_use_15 : decode cX11_use 15 = .ok (.ifCond .ne 6, 3) := by decide +kernel
theorem dX11_use_18 : decode cX11_use 18 = .ok (.ldc 153, 2) := by decide +kernel
theorem dX11_use_20 : decode cX11_use 20 = .ok (.ireturn, 1) := by decide +kernel
theorem dX11_use_21 : decode cX11_use 21 = .ok (.aload_n 0, 1) := by decide +kernel
theorem dX11_use_22 : decode cX11_use 22 = .ok (.iload_n 1, 1) := by decide +kernel
theorem dX11_use_23 : decode cX11_use 23 = .ok (.invokevirtual 167, 3) := by decide +kernel
theorem dX11_use_26 : decode cX11_use 26 = .ok (.aload_n 0, 1) := by decide +kernel
theorem dX11_use_27 : decode cX11_use 27 = .ok (.getfield 7, 3) := by decide +kernel
theorem dX11_use_30 : decode cX11_use 30 = .ok (.iconst 4, 1) := by decide +kernel
theorem dX11_use_31 : decode cX11_use 31 = .ok (.iaload, 1) := by decide +kernel
theorem dX11_use_32 : decode cX11_use 32 = .ok (.ireturn, 1) := by decide +kernel
theorem dX11_rests_0 : decode cX11_rests 0 = .ok (.iload_n 1, 1) := by decide +kernel
theorem dX11_rests_1 : decode cX11_rests 1 = .ok (.i2l, 1) := by decide +kernel
theorem dX11_rests_2 : decode cX11_rests 2 = .ok (.lconst 1, 1) := by decide +kernel
theorem dX11_rests_3 : decode cX11_rests 3 = .ok (.ldc2_w 170, 3) := by decide +kernel
theorem dX11_rests_6 : decode cX11_rests 6 = .ok (.invokestatic 71, 3) := by decide +kernel
theorem dX11_rests_9 : decode cX11_rests 9 = .ok (.ifCond .ne 6, 3) := by decide +kernel
theorem dX11_rests_12 : decode cX11_rests 12 = .ok (.ldc 87, 2) := by decide +kernel
theorem dX11_rests_14 : decode cX11_rests 14 = .ok (.ireturn, 1) := by decide +kernel
theorem dX11_rests_15 : decode cX11_rests 15 = .ok (.aload_n 0, 1) := by decide +kernel
theorem dX11_rests_16 : decode cX11_rests 16 = .ok (.iload_n 1, 1) := by decide +kernel
theorem dX11_rests_17 : decode cX11_rests 17 = .ok (.invokevirtual 154, 3) := by decide +kernel
theorem dX11_rests_20 : decode cX11_rests 20 = .ok (.aload_n 0, 1) := by decide +kernel
theorem dX11_rests_21 : decode cX11_rests 21 = .ok (.getfield 7, 3) := by decide +kernel
theorem dX11_rests_24 : decode cX11_rests 24 = .ok (.iconst 4, 1) := by decide +kernel
theorem dX11_rests_25 : decode cX11_rests 25 = .ok (.iaload, 1) := by decide +kernel
theorem dX11_rests_26 : decode cX11_rests 26 = .ok (.ireturn, 1) := by decide +kernel
theorem dX11_wants_0 : decode cX11_wants 0 = .ok (.iload_n 1, 1) := by decide +kernel
theorem dX11_wants_1 : decode cX11_wants 1 = .ok (.invokestatic 82, 3) := by decide +kernel
theorem dX11_wants_4 : decode cX11_wants 4 = .ok (.ifCond .ne 6, 3) := by decide +kernel
theorem dX11_wants_7 : decode cX11_wants 7 = .ok (.ldc 87, 2) := by decide +kernel
theorem dX11_wants_9 : decode cX11_wants 9 = .ok (.ireturn, 1) := by decide +kernel
theorem dX11_wants_10 : decode cX11_wants 10 = .ok (.aload_n 0, 1) := by decide +kernel
theorem dX11_wants_11 : decode cX11_wants 11 = .ok (.getfield 7, 3) := by decide +kernel
theorem dX11_wants_14 : decode cX11_wants 14 = .ok (.bipush 7, 2) := by decide +kernel
theorem dX11_wants_16 : decode cX11_wants 16 = .ok (.iaload, 1) := by decide +kernel
theorem dX11_wants_17 : decode cX11_wants 17 = .ok (.bipush 6, 2) := by decide +kernel
theorem dX11_wants_19 : decode cX11_wants 19 = .ok (.if_icmp .ne 6, 3) := by decide +kernel
theorem dX11_wants_22 : decode cX11_wants 22 = .ok (.ldc 88, 2) := by decide +kernel
theorem dX11_wants_24 : decode cX11_wants 24 = .ok (.ireturn, 1) := by decide +kernel
theorem dX11_wants_25 : decode cX11_wants 25 = .ok (.aload_n 0, 1) := by decide +kernel
theorem dX11_wants_26 : decode cX11_wants 26 = .ok (.getfield 7, 3) := by decide +kernel
theorem dX11_wants_29 : decode cX11_wants 29 = .ok (.bipush 9, 2) := by decide +kernel
theorem dX11_wants_31 : decode cX11_wants 31 = .ok (.aload_n 0, 1) := by decide +kernel
theorem dX11_wants_32 : decode cX11_wants 32 = .ok (.getfield 7, 3) := by decide +kernel
theorem dX11_wants_35 : decode cX11_wants 35 = .ok (.bipush 7, 2) := by decide +kernel
theorem dX11_wants_37 : decode cX11_wants 37 = .ok (.iaload, 1) := by decide +kernel
theorem dX11_wants_38 : decode cX11_wants 38 = .ok (.iadd, 1) := by decide +kernel
theorem dX11_wants_39 : decode cX11_wants 39 = .ok (.iload_n 1, 1) := by decide +kernel
theorem dX11_wants_40 : decode cX11_wants 40 = .ok (.iastore, 1) := by decide +kernel
theorem dX11_wants_41 : decode cX11_wants 41 = .ok (.aload_n 0, 1) := by decide +kernel
theorem dX11_wants_42 : decode cX11_wants 42 = .ok (.getfield 7, 3) := by decide +kernel
theorem dX11_wants_45 : decode cX11_wants 45 = .ok (.bipush 7, 2) := by decide +kernel
theorem dX11_wants_47 : decode cX11_wants 47 = .ok (.dup2, 1) := by decide +kernel
theorem dX11_wants_48 : decode cX11_wants 48 = .ok (.iaload, 1) := by decide +kernel
theorem dX11_wants_49 : decode cX11_wants 49 = .ok (.iconst 1, 1) := by decide +kernel
theorem dX11_wants_50 : decode cX11_wants 50 = .ok (.iadd, 1) := by decide +kernel
theorem dX11_wants_51 : decode cX11_wants 51 = .ok (.iastore, 1) := by decide +kernel
theorem dX11_wants_52 : decode cX11_wants 52 = .ok (.aload_n 0, 1) := by decide +kernel
theorem dX11_wants_53 : decode cX11_wants 53 = .ok (.getfield 7, 3) := by decide +kernel
theorem dX11_wants_56 : decode cX11_wants 56 = .ok (.bipush 7, 2) := by decide +kernel
theorem dX11_wants_58 : decode cX11_wants 58 = .ok (.iaload, 1) := by decide +kernel
theorem dX11_wants_59 : decode cX11_wants 59 = .ok (.ireturn, 1) := by decide +kernel
theorem dX11_clear_0 : decode cX11_clear 0 = .ok (.aload_n 0, 1) := by decide +kernel
theorem dX11_clear_1 : decode cX11_clear 1 = .ok (.bipush 7, 2) := by decide +kernel
theorem dX11_clear_3 : decode cX11_clear 3 = .ok (.iconst 0, 1) := by decide +kernel
theorem dX11_clear_4 : decode cX11_clear 4 = .ok (.invokevirtual 130, 3) := by decide +kernel
theorem dX11_clear_7 : decode cX11_clear 7 = .ok (.ireturn, 1) := by decide +kernel
theorem dX11_can_0 : decode cX11_can 0 = .ok (.iconst 0, 1) := by decide +kernel
theorem dX11_can_1 : decode cX11_can 1 = .ok (.istore_n 1, 1) := by decide +kernel
theorem dX11_can_2 : decode cX11_can 2 = .ok (.iload_n 1, 1) := by decide +kernel
theorem dX11_can_3 : decode cX11_can 3 = .ok (.aload_n 0, 1) := by decide +kernel
theorem dX11_can_4 : decode cX11_can 4 = .ok (.getfield 7, 3) := by decide +kernel
theorem dX11_can_7 : decode cX11_can 7 = .ok (.bipush 7, 2) := by decide +kernel
theorem dX11_can_9 : decode cX11_can 9 = .ok (.iaload, 1) := by decide +kernel
theorem dX11_can_10 : decode cX11_can 10 = .ok (.if_icmp .ge 27, 3) := by decide +kernel
theorem dX11_can_13 : decode cX11_can 13 = .ok (.aload_n 0, 1) := by decide +kernel
theorem dX11_can_14 : decode cX11_can 14 = .ok (.aload_n 0, 1) := by decide +kernel
theorem dX11_can_15 : decode cX11_can 15 = .ok (.getfield 7, 3) := by decide +kernel
theorem dX11_can_18 : decode cX11_can 18 = .ok (.bipush 9, 2) := by decide +kernel
theorem dX11_can_20 : decode cX11_can 20 = .ok (.iload_n 1, 1) := by decide +kernel
theorem dX11_can_21 : decode cX11_can 21 = .ok (.iadd, 1) := by decide +kernel
theorem dX11_can_22 : decode cX11_can 22 = .ok (.iaload, 1) := by decide +kernel
theorem dX11_can_23 : decode cX11_can 23 = .ok (.invokevirtual 150, 3) := by decide +kernel
theorem dX11_can_26 : decode cX11_can 26 = .ok (.ifCond .ne 5, 3) := by decide +kernel
theorem dX11_can_29 : decode cX11_can 29 = .ok (.iconst 0, 1) := by decide +kernel
theorem dX11_can_30 : decode cX11_can 30 = .ok (.ireturn, 1) := by decide +kernel
theorem dX11_can_31 : decode cX11_can 31 = .ok (.iinc 1 1, 3) := by decide +kernel
theorem dX11_can_34 : decode cX11_can 34 = .ok (.goto (-32), 3) := by decide +kernel
theorem dX11_can_37 : decode cX11_can 37 = .ok (.iconst 1, 1) := by decide +kernel
theorem dX11_can_38 : decode cX11_can 38 = .ok (.ireturn, 1) := by decide +kernel
theorem dX11_made_0 : decode cX11_made 0 = .ok (.aload_n 0, 1) := by decide +kernel
theorem dX11_made_1 : decode cX11_made 1 = .ok (.invokevirtual 172, 3) := by decide +kernel
theorem dX11_made_4 : decode cX11_made 4 = .ok (.ifCond .ne 6, 3) := by decide +kernel
theorem dX11_made_7 : decode cX11_made 7 = .ok (.ldc 153, 2) := by decide +kernel
theorem dX11_made_9 : decode cX11_made 9 = .ok (.ireturn, 1) := by decide +kernel
theorem dX11_made_10 : decode cX11_made 10 = .ok (.iconst 0, 1) := by decide +kernel
theorem dX11_made_11 : decode cX11_made 11 = .ok (.istore_n 1, 1) := by decide +kernel
theorem dX11_made_12 : decode cX11_made 12 = .ok (.iload_n 1, 1) := by decide +kernel
theorem dX11_made_13 : decode cX11_made 13 = .ok (.aload_n 0, 1) := by decide +kernel
theorem dX11_made_14 : decode cX11_made 14 = .ok (.getfield 7, 3) := by decide +kernel
theorem dX11_made_17 : decode cX11_made 17 = .ok (.bipush 7, 2) := by decide +kernel
theorem dX11_made_19 : decode cX11_made 19 = .ok (.iaload, 1) := by decide +kernel
theorem dX11_made_20 : decode cX11_made 20 = .ok (.if_icmp .ge 38, 3) := by decide +kernel
theorem dX11_made_23 : decode cX11_made 23 = .ok (.aload_n 0, 1) := by decide +kernel
theorem dX11_made_24 : decode cX11_made 24 = .ok (.aload_n 0, 1) := by decide +kernel
theorem dX11_made_25 : decode cX11_made 25 = .ok (.getfield 7, 3) := by decide +kernel
theorem dX11_made_28 : decode cX11_made 28 = .ok (.bipush 9, 2) := by decide +kernel
theorem dX11_made_30 : decode cX11_made 30 = .ok (.iload_n 1, 1) := by decide +kernel
theorem dX11_made_31 : decode cX11_made 31 = .ok (.iadd, 1) := by decide +kernel
theorem dX11_made_32 : decode cX11_made 32 = .ok (.iaload, 1) := by decide +kernel
theorem dX11_made_33 : decode cX11_made 33 = .ok (.invokevirtual 150, 3) := by decide +kernel
theorem dX11_made_36 : decode cX11_made 36 = .ok (.ifCond .eq 16, 3) := by decide +kernel
theorem dX11_made_39 : decode cX11_made 39 = .ok (.aload_n 0, 1) := by decide +kernel
theorem dX11_made_40 : decode cX11_made 40 = .ok (.aload_n 0, 1) := by decide +kernel
theorem dX11_made_41 : decode cX11_made 41 = .ok (.getfield 7, 3) := by decide +kernel
theorem dX11_made_44 : decode cX11_made 44 = .ok (.bipush 9, 2) := by decide +kernel
theorem dX11_made_46 : decode cX11_made 46 = .ok (.iload_n 1, 1) := by decide +kernel
theorem dX11_made_47 : decode cX11_made 47 = .ok (.iadd, 1) := by decide +kernel
theorem dX11_made_48 : decode cX11_made 48 = .ok (.iaload, 1) := by decide +kernel
theorem dX11_made_49 : decode cX11_made 49 = .ok (.invokevirtual 167, 3) := by decide +kernel
theorem dX11_made_52 : decode cX11_made 52 = .ok (.iinc 1 1, 3) := by decide +kernel
theorem dX11_made_55 : decode cX11_made 55 = .ok (.goto (-43), 3) := by decide +kernel
theorem dX11_made_58 : decode cX11_made 58 = .ok (.aload_n 0, 1) := by decide +kernel
theorem dX11_made_59 : decode cX11_made 59 = .ok (.getfield 7, 3) := by decide +kernel
theorem dX11_made_62 : decode cX11_made 62 = .ok (.iconst 2, 1) := by decide +kernel
theorem dX11_made_63 : decode cX11_made 63 = .ok (.iaload, 1) := by decide +kernel
theorem dX11_made_64 : decode cX11_made 64 = .ok (.ireturn, 1) := by decide +kernel
theorem dX11_laysBy_0 : decode cX11_laysBy 0 = .ok (.iconst 0, 1) := by decide +kernel
theorem dX11_laysBy_1 : decode cX11_laysBy 1 = .ok (.istore_n 1, 1) := by decide +kernel
theorem dX11_laysBy_2 : decode cX11_laysBy 2 = .ok (.iload_n 1, 1) := by decide +kernel
theorem dX11_laysBy_3 : decode cX11_laysBy 3 = .ok (.sipush 135, 3) := by decide +kernel
theorem dX11_laysBy_6 : decode cX11_laysBy 6 = .ok (.if_icmp .ge 21, 3) := by decide +kernel
theorem dX11_laysBy_9 : decode cX11_laysBy 9 = .ok (.aload_n 0, 1) := by decide +kernel
theorem dX11_laysBy_10 : decode cX11_laysBy 10 = .ok (.getfield 46, 3) := by decide +kernel
theorem dX11_laysBy_13 : decode cX11_laysBy 13 = .ok (.iload_n 1, 1) := by decide +kernel
theorem dX11_laysBy_14 : decode cX11_laysBy 14 = .ok (.aload_n 0, 1) := by decide +kernel
theorem dX11_laysBy_15 : decode cX11_laysBy 15 = .ok (.getfield 7, 3) := by decide +kernel
theorem dX11_laysBy_18 : decode cX11_laysBy 18 = .ok (.iload_n 1, 1) := by decide +kernel
theorem dX11_laysBy_19 : decode cX11_laysBy 19 = .ok (.iaload, 1) := by decide +kernel
theorem dX11_laysBy_20 : decode cX11_laysBy 20 = .ok (.iastore, 1) := by decide +kernel
theorem dX11_laysBy_21 : decode cX11_laysBy 21 = .ok (.iinc 1 1, 3) := by decide +kernel
theorem dX11_laysBy_24 : decode cX11_laysBy 24 = .ok (.goto (-22), 3) := by decide +kernel
theorem dX11_laysBy_27 : decode cX11_laysBy 27 = .ok (.return_, 1) := by decide +kernel
theorem dX11_laysBack_0 : decode cX11_laysBack 0 = .ok (.iconst 0, 1) := by decide +kernel
theorem dX11_laysBack_1 : decode cX11_laysBack 1 = .ok (.istore_n 1, 1) := by decide +kernel
theorem dX11_laysBack_2 : decode cX11_laysBack 2 = .ok (.iload_n 1, 1) := by decide +kernel
theorem dX11_laysBack_3 : decode cX11_laysBack 3 = .ok (.sipush 135, 3) := by decide +kernel
theorem dX11_laysBack_6 : decode cX11_laysBack 6 = .ok (.if_icmp .ge 21, 3) := by decide +kernel
theorem dX11_laysBack_9 : decode cX11_laysBack 9 = .ok (.aload_n 0, 1) := by decide +kernel
theorem dX11_laysBack_10 : decode cX11_laysBack 10 = .ok (.getfield 7, 3) := by decide +kernel
theorem dX11_laysBack_13 : decode cX11_laysBack 13 = .ok (.iload_n 1, 1) := by decide +kernel
theorem dX11_laysBack_14 : decode cX11_laysBack 14 = .ok (.aload_n 0, 1) := by decide +kernel
theorem dX11_laysBack_15 : decode cX11_laysBack 15 = .ok (.getfield 46, 3) := by decide +kernel
theorem dX11_laysBack_18 : decode cX11_laysBack 18 = .ok (.iload_n 1, 1) := by decide +kernel
theorem dX11_laysBack_19 : decode cX11_laysBack 19 = .ok (.iaload, 1) := by decide +kernel
theorem dX11_laysBack_20 : decode cX11_laysBack 20 = .ok (.iastore, 1) := by decide +kernel
theorem dX11_laysBack_21 : decode cX11_laysBack 21 = .ok (.iinc 1 1, 3) := by decide +kernel
theorem dX11_laysBack_24 : decode cX11_laysBack 24 = .ok (.goto (-22), 3) := by decide +kernel
theorem dX11_laysBack_27 : decode cX11_laysBack 27 = .ok (.return_, 1) := by decide +kernel
theorem dX11_goesWay_0 : decode cX11_goesWay 0 = .ok (.iconst 0, 1) := by decide +kernel
theorem dX11_goesWay_1 : decode cX11_goesWay 1 = .ok (.istore_n 1, 1) := by decide +kernel
theorem dX11_goesWay_2 : decode cX11_goesWay 2 = .ok (.iconst 0, 1) := by decide +kernel
theorem dX11_goesWay_3 : decode cX11_goesWay 3 = .ok (.istore_n 2, 1) := by decide +kernel
theorem dX11_goesWay_4 : decode cX11_goesWay 4 = .ok (.iload_n 2, 1) := by decide +kernel
theorem dX11_goesWay_5 : decode cX11_goesWay 5 = .ok (.iconst 4, 1) := by decide +kernel
theorem dX11_goesWay_6 : decode cX11_goesWay 6 = .ok (.if_icmp .ge 230, 3) := by decide +kernel
theorem dX11_goesWay_9 : decode cX11_goesWay 9 = .ok (.aload_n 0, 1) := by decide +kernel
theorem dX11_goesWay_10 : decode cX11_goesWay 10 = .ok (.getfield 49, 3) := by decide +kernel
theorem dX11_goesWay_13 : decode cX11_goesWay 13 = .ok (.iload_n 2, 1) := by decide +kernel
theorem dX11_goesWay_14 : decode cX11_goesWay 14 = .ok (.iaload, 1) := by decide +kernel
theorem dX11_goesWay_15 : decode cX11_goesWay 15 = .ok (.istore_n 3, 1) := by decide +kernel
theorem dX11_goesWay_16 : decode cX11_goesWay 16 = .ok (.aload_n 0, 1) := by decide +kernel
theorem dX11_goesWay_17 : decode cX11_goesWay 17 = .ok (.getfield 43, 3) := by decide +kernel
theorem dX11_goesWay_20 : decode cX11_goesWay 20 = .ok (.bipush 6, 2) := by decide +kernel
theorem dX11_goesWay_22 : decode cX11_goesWay 22 = .ok (.aload_n 0, 1) := by decide +kernel
theorem dX11_goesWay_23 : decode cX11_goesWay 23 = .ok (.getfield 7, 3) := by decide +kernel
theorem dX11_goesWay_26 : decode cX11_goesWay 26 = .ok (.iconst 3, 1) := by decide +kernel
theorem dX11_goesWay_27 : decode cX11_goesWay 27 = .ok (.iaload, 1) := by decide +kernel
theorem dX11_goesWay_28 : decode cX11_goesWay 28 = .ok (.imul, 1) := by decide +kernel
theorem dX11_goesWay_29 : decode cX11_goesWay 29 = .ok (.aload_n 0, 1) := by decide +kernel
theorem dX11_goesWay_30 : decode cX11_goesWay 30 = .ok (.iload_n 3, 1) := by decide +kernel
theorem dX11_goesWay_31 : decode cX11_goesWay 31 = .ok (.iconst 1, 1) := by decide +kernel
theorem dX11_goesWay_32 : decode cX11_goesWay 32 = .ok (.invokevirtual 97, 3) := by decide +kernel
theorem dX11_goesWay_35 : decode cX11_goesWay 35 = .ok (.iadd, 1) := by decide +kernel
theorem dX11_goesWay_36 : decode cX11_goesWay 36 = .ok (.iaload, 1) := by decide +kernel
theorem dX11_goesWay_37 : decode cX11_goesWay 37 = .ok (.istore 4, 2) := by decide +kernel
theorem dX11_goesWay_39 : decode cX11_goesWay 39 = .ok (.iload 4, 2) := by decide +kernel
theorem dX11_goesWay_41 : decode cX11_goesWay 41 = .ok (.sipush 9999, 3) := by decide +kernel
theorem dX11_goesWay_44 : decode cX11_goesWay 44 = .ok (.if_icmp .ne 5, 3) := by decide +kernel
theorem dX11_goesWay_47 : decode cX11_goesWay 47 = .ok (.iload_n 2, 1) := by decide +kernel
theorem dX11_goesWay_48 : decode cX11_goesWay 48 = .ok (.ireturn, 1) := by decide +kernel
theorem dX11_goesWay_49 : decode cX11_goesWay 49 = .ok (.aload_n 0, 1) := by decide +kernel
theorem dX11_goesWay_50 : decode cX11_goesWay 50 = .ok (.iload 4, 2) := by decide +kernel
theorem dX11_goesWay_52 : decode cX11_goesWay 52 = .ok (.invokevirtual 154, 3) := by decide +kernel
theorem dX11_goesWay_55 : decode cX11_goesWay 55 = .ok (.aload_n 0, 1) := by decide +kernel
theorem dX11_goesWay_56 : decode cX11_goesWay 56 = .ok (.getfield 7, 3) := by decide +kernel
theorem dX11_goesWay_59 : decode cX11_goesWay 59 = .ok (.iconst 3, 1) := by decide +kernel
theorem dX11_goesWay_60 : decode cX11_goesWay 60 = .ok (.aload_n 0, 1) := by decide +kernel
theorem dX11_goesWay_61 : decode cX11_goesWay 61 = .ok (.iload_n 3, 1) := by decide +kernel
theorem dX11_goesWay_62 : decode cX11_goesWay 62 = .ok (.iconst 1, 1) := by decide +kernel
theorem dX11_goesWay_63 : decode cX11_goesWay 63 = .ok (.invokevirtual 97, 3) := by decide +kernel
theorem dX11_goesWay_66 : decode cX11_goesWay 66 = .ok (.iastore, 1) := by decide +kernel
theorem dX11_goesWay_67 : decode cX11_goesWay 67 = .ok (.aload_n 0, 1) := by decide +kernel
theorem dX11_goesWay_68 : decode cX11_goesWay 68 = .ok (.iload_n 3, 1) := by decide +kernel
theorem dX11_goesWay_69 : decode cX11_goesWay 69 = .ok (.invokevirtual 161, 3) := by decide +kernel
theorem dX11_goesWay_72 : decode cX11_goesWay 72 = .ok (.ifCond .ne 5, 3) := by decide +kernel
theorem dX11_goesWay_75 : decode cX11_goesWay 75 = .ok (.iload_n 2, 1) := by decide +kernel
theorem dX11_goesWay_76 : decode cX11_goesWay 76 = .ok (.ireturn, 1) := by decide +kernel
theorem dX11_goesWay_77 : decode cX11_goesWay 77 = .ok (.iload_n 1, 1) := by decide +kernel
theorem dX11_goesWay_78 : decode cX11_goesWay 78 = .ok (.iload 4, 2) := by decide +kernel
theorem dX11_goesWay_80 : decode cX11_goesWay 80 = .ok (.aload_n 0, 1) := by decide +kernel
theorem dX11_goesWay_81 : decode cX11_goesWay 81 = .ok (.iload_n 3, 1) := by decide +kernel
theorem dX11_goesWay_82 : decode cX11_goesWay 82 = .ok (.invokevirtual 164, 3) := by decide +kernel
theorem dX11_goesWay_85 : decode cX11_goesWay 85 = .ok (.iadd, 1) := by decide +kernel
theorem dX11_goesWay_86 : decode cX11_goesWay 86 = .ok (.iadd, 1) := by decide +kernel
theorem dX11_goesWay_87 : decode cX11_goesWay 87 = .ok (.istore_n 1, 1) := by decide +kernel
theorem dX11_goesWay_88 : decode cX11_goesWay 88 = .ok (.aload_n 0, 1) := by decide +kernel
theorem dX11_goesWay_89 : decode cX11_goesWay 89 = .ok (.invokevirtual 172, 3) := by decide +kernel
theorem dX11_goesWay_92 : decode cX11_goesWay 92 = .ok (.ifCond .eq 138, 3) := by decide +kernel
theorem dX11_goesWay_95 : decode cX11_goesWay 95 = .ok (.aload_n 0, 1) := by decide +kernel
theorem dX11_goesWay_96 : decode cX11_goesWay 96 = .ok (.getfield 46, 3) := by decide +kernel
theorem dX11_goesWay_99 : decode cX11_goesWay 99 = .ok (.iconst 5, 1) := by decide +kernel
theorem dX11_goesWay_100 : decode cX11_goesWay 100 = .ok (.iaload, 1) := by decide +kernel
theorem dX11_goesWay_101 : decode cX11_goesWay 101 = .ok (.aload_n 0, 1) := by decide +kernel
theorem dX11_goesWay_102 : decode cX11_goesWay 102 = .ok (.getfield 7, 3) := by decide +kernel
theorem dX11_goesWay_105 : decode cX11_goesWay 105 = .ok (.iconst 5, 1) := by decide +kernel
theorem dX11_goesWay_106 : decode cX11_goesWay 106 = .ok (.iaload, 1) := by decide +kernel
theorem dX11_goesWay_107 : decode cX11_goesWay 107 = .ok (.isub, 1) := by decide +kernel
theorem dX11_goesWay_108 : decode cX11_goesWay 108 = .ok (.istore 5, 2) := by decide +kernel
theorem dX11_goesWay_110 : decode cX11_goesWay 110 = .ok (.aload_n 0, 1) := by decide +kernel
theorem dX11_goesWay_111 : decode cX11_goesWay 111 = .ok (.getfield 176, 3) := by decide +kernel
theorem dX11_goesWay_114 : decode cX11_goesWay 114 = .ok (.ifCond .lt 50, 3) := by decide +kernel
theorem dX11_goesWay_117 : decode cX11_goesWay 117 = .ok (.iload_n 1, 1) := by decide +kernel
theorem dX11_goesWay_118 : decode cX11_goesWay 118 = .ok (.aload_n 0, 1) := by decide +kernel
theorem dX11_goesWay_119 : decode cX11_goesWay 119 = .ok (.getfield 176, 3) := by decide +kernel
theorem dX11_goesWay_122 : decode cX11_goesWay 122 = .ok (.if_icmp .lt 42, 3) := by decide +kernel
theorem dX11_goesWay_125 : decode cX11_goesWay 125 = .ok (.iload_n 1, 1) := by decide +kernel
theorem dX11_goesWay_126 : decode cX11_goesWay 126 = .ok (.aload_n 0, 1) := by decide +kernel
theorem dX11_goesWay_127 : decode cX11_goesWay 127 = .ok (.getfield 176, 3) := by decide +kernel
theorem dX11_goesWay_130 : decode cX11_goesWay 130 = .ok (.if_icmp .ne 38, 3) := by decide +kernel
theorem dX11_goesWay_133 : decode cX11_goesWay 133 = .ok (.iload 5, 2) := by decide +kernel
theorem dX11_goesWay_135 : decode cX11_goesWay 135 = .ok (.aload_n 0, 1) := by decide +kernel
theorem dX11_goesWay_136 : decode cX11_goesWay 136 = .ok (.getfield 180, 3) := by decide +kernel
theorem dX11_goesWay_139 : decode cX11_goesWay 139 = .ok (.if_icmp .lt 25, 3) := by decide +kernel
theorem dX11_goesWay_142 : decode cX11_goesWay 142 = .ok (.iload 5, 2) := by decide +kernel
theorem dX11_goesWay_144 : decode cX11_goesWay 144 = .ok (.aload_n 0, 1) := by decide +kernel
theorem dX11_goesWay_145 : decode cX11_goesWay 145 = .ok (.getfield 180, 3) := by decide +kernel
theorem dX11_goesWay_148 : decode cX11_goesWay 148 = .ok (.if_icmp .ne 20, 3) := by decide +kernel
theorem dX11_goesWay_151 : decode cX11_goesWay 151 = .ok (.aload_n 0, 1) := by decide +kernel
theorem dX11_goesWay_152 : decode cX11_goesWay 152 = .ok (.getfield 49, 3) := by decide +kernel
theorem dX11_goesWay_155 : decode cX11_goesWay 155 = .ok (.iconst 0, 1) := by decide +kernel
theorem dX11_goesWay_156 : decode cX11_goesWay 156 = .ok (.iaload, 1) := by decide +kernel
theorem dX11_goesWay_157 : decode cX11_goesWay 157 = .ok (.aload_n 0, 1) := by decide +kernel
theorem dX11_goesWay_158 : decode cX11_goesWay 158 = .ok (.getfield 183, 3) := by decide +kernel
theorem dX11_goesWay_161 : decode cX11_goesWay 161 = .ok (.if_icmp .ge 7, 3) := by decide +kernel
theorem dX11_goesWay_164 : decode cX11_goesWay 164 = .ok (.iconst 1, 1) := by decide +kernel
theorem dX11_goesWay_165 : decode cX11_goesWay 165 = .ok (.goto 4, 3) := by decide +kernel
theorem dX11_goesWay_168 : decode cX11_goesWay 168 = .ok (.iconst 0, 1) := by decide +kernel
theorem dX11_goesWay_169 : decode cX11_goesWay 169 = .ok (.istore 6, 2) := by decide +kernel
theorem dX11_goesWay_171 : decode cX11_goesWay 171 = .ok (.aload_n 0, 1) := by decide +kernel
theorem dX11_goesWay_172 : decode cX11_goesWay 172 = .ok (.iload 6, 2) := by decide +kernel
theorem dX11_goesWay_174 : decode cX11_goesWay 174 = .ok (.ifCond .eq 7, 3) := by decide +kernel
theorem dX11_goesWay_177 : decode cX11_goesWay 177 = .ok (.iload_n 1, 1) := by decide +kernel
theorem dX11_goesWay_178 : decode cX11_goesWay 178 = .ok (.goto 7, 3) := by decide +kernel
theorem dX11_goesWay_181 : decode cX11_goesWay 181 = .ok (.aload_n 0, 1) := by decide +kernel
theorem dX11_goesWay_182 : decode cX11_goesWay 182 = .ok (.getfield 176, 3) := by decide +kernel
theorem dX11_goesWay_185 : decode cX11_goesWay 185 = .ok (.putfield 176, 3) := by decide +kernel
theorem dX11_goesWay_188 : decode cX11_goesWay 188 = .ok (.aload_n 0, 1) := by decide +kernel
theorem dX11_goesWay_189 : decode cX11_goesWay 189 = .ok (.iload 6, 2) := by decide +kernel
theorem dX11_goesWay_191 : decode cX11_goesWay 191 = .ok (.ifCond .eq 8, 3) := by decide +kernel
theorem dX11_goesWay_194 : decode cX11_goesWay 194 = .ok (.iload 5, 2) := by decide +kernel
theorem dX11_goesWay_196 : decode cX11_goesWay 196 = .ok (.goto 7, 3) := by decide +kernel
theorem dX11_goesWay_199 : decode cX11_goesWay 199 = .ok (.aload_n 0, 1) := by decide +kernel
theorem dX11_goesWay_200 : decode cX11_goesWay 200 = .ok (.getfield 180, 3) := by decide +kernel
theorem dX11_goesWay_203 : decode cX11_goesWay 203 = .ok (.putfield 180, 3) := by decide +kernel
theorem dX11_goesWay_206 : decode cX11_goesWay 206 = .ok (.aload_n 0, 1) := by decide +kernel
theorem dX11_goesWay_207 : decode cX11_goesWay 207 = .ok (.iload 6, 2) := by decide +kernel
theorem dX11_goesWay_209 : decode cX11_goesWay 209 = .ok (.ifCond .eq 12, 3) := by decide +kernel
theorem dX11_goesWay_212 : decode cX11_goesWay 212 = .ok (.aload_n 0, 1) := by decide +kernel
theorem dX11_goesWay_213 : decode cX11_goesWay 213 = .ok (.getfield 49, 3) := by decide +kernel
theorem dX11_goesWay_216 : decode cX11_goesWay 216 = .ok (.iconst 0, 1) := by decide +kernel
theorem dX11_goesWay_217 : decode cX11_goesWay 217 = .ok (.iaload, 1) := by decide +kernel
theorem dX11_goesWay_218 : decode cX11_goesWay 218 = .ok (.goto 7, 3) := by decide +kernel
theorem dX11_goesWay_221 : decode cX11_goesWay 221 = .ok (.aload_n 0, 1) := by decide +kernel
theorem dX11_goesWay_222 : decode cX11_goesWay 222 = .ok (.getfield 183, 3) := by decide +kernel
theorem dX11_goesWay_225 : decode cX11_goesWay 225 = .ok (.putfield 183, 3) := by decide +kernel
theorem dX11_goesWay_228 : decode cX11_goesWay 228 = .ok (.iload_n 2, 1) := by decide +kernel
theorem dX11_goesWay_229 : decode cX11_goesWay 229 = .ok (.ireturn, 1) := by decide +kernel
theorem dX11_goesWay_230 : decode cX11_goesWay 230 = .ok (.iinc 2 1, 3) := by decide +kernel
theorem dX11_goesWay_233 : decode cX11_goesWay 233 = .ok (.goto (-229), 3) := by decide +kernel
theorem dX11_goesWay_236 : decode cX11_goesWay 236 = .ok (.iconst 3, 1) := by decide +kernel
theorem dX11_goesWay_237 : decode cX11_goesWay 237 = .ok (.ireturn, 1) := by decide +kernel
theorem dX11_findSoonest_0 : decode cX11_findSoonest 0 = .ok (.aload_n 0, 1) := by decide +kernel
theorem dX11_findSoonest_1 : decode cX11_findSoonest 1 = .ok (.iconst (-1), 1) := by decide +kernel
theorem dX11_findSoonest_2 : decode cX11_findSoonest 2 = .ok (.putfield 176, 3) := by decide +kernel
theorem dX11_findSoonest_5 : decode cX11_findSoonest 5 = .ok (.aload_n 0, 1) := by decide +kernel
theorem dX11_findSoonest_6 : decode cX11_findSoonest 6 = .ok (.invokevirtual 137, 3) := by decide +kernel
theorem dX11_findSoonest_9 : decode cX11_findSoonest 9 = .ok (.aload_n 0, 1) := by decide +kernel
theorem dX11_findSoonest_10 : decode cX11_findSoonest 10 = .ok (.invokevirtual 186, 3) := by decide +kernel
theorem dX11_findSoonest_13 : decode cX11_findSoonest 13 = .ok (.iconst 0, 1) := by decide +kernel
theorem dX11_findSoonest_14 : decode cX11_findSoonest 14 = .ok (.istore_n 1, 1) := by decide +kernel
theorem dX11_findSoonest_15 : decode cX11_findSoonest 15 = .ok (.iload_n 1, 1) := by decide +kernel
theorem dX11_findSoonest_16 : decode cX11_findSoonest 16 = .ok (.iconst 4, 1) := by decide +kernel
theorem dX11_findSoonest_17 : decode cX11_findSoonest 17 = .ok (.if_icmp .ge 16, 3) := by decide +kernel
theorem dX11_findSoonest_20 : decode cX11_findSoonest 20 = .ok (.aload_n 0, 1) := by decide +kernel
theorem dX11_findSoonest_21 : decode cX11_findSoonest 21 = .ok (.getfield 49, 3) := by decide +kernel
theorem dX11_findSoonest_24 : decode cX11_findSoonest 24 = .ok (.iload_n 1, 1) := by decide +kernel
theorem dX11_findSoonest_25 : decode cX11_findSoonest 25 = .ok (.iconst 0, 1) := by decide +kernel
theorem dX11_findSoonest_26 : decode cX11_findSoonest 26 = .ok (.iastore, 1) := by decide +kernel
theorem dX11_findSoonest_27 : decode cX11_findSoonest 27 = .ok (.iinc 1 1, 3) := by decide +kernel
theorem dX11_findSoonest_30 : decode cX11_findSoonest 30 = .ok (.goto (-15), 3) := by decide +kernel
theorem dX11_findSoonest_33 : decode cX11_findSoonest 33 = .ok (.aload_n 0, 1) := by decide +kernel
theorem dX11_findSoonest_34 : decode cX11_findSoonest 34 = .ok (.getfield 7, 3) := by decide +kernel
theorem dX11_findSoonest_37 : decode cX11_findSoonest 37 = .ok (.iconst 0, 1) := by decide +kernel
theorem dX11_findSoonest_38 : decode cX11_findSoonest 38 = .ok (.iaload, 1) := by decide +kernel
theorem dX11_findSoonest_39 : decode cX11_findSoonest 39 = .ok (.ifCond .le 108, 3) := by decide +kernel
theorem dX11_findSoonest_42 : decode cX11_findSoonest 42 = .ok (.aload_n 0, 1) := by decide +kernel
theorem dX11_findSoonest_43 : decode cX11_findSoonest 43 = .ok (.getfield 49, 3) := by decide +kernel
theorem dX11_findSoonest_46 : decode cX11_findSoonest 46 = .ok (.iconst 0, 1) := by decide +kernel
theorem dX11_findSoonest_47 : decode cX11_findSoonest 47 = .ok (.iaload, 1) := by decide +kernel
theorem dX11_findSoonest_48 : decode cX11_findSoonest 48 = .ok (.aload_n 0, 1) := by decide +kernel
theorem dX11_findSoonest_49 : decode cX11_findSoonest 49 = .ok (.getfield 7, 3) := by decide +kernel
theorem dX11_findSoonest_52 : decode cX11_findSoonest 52 = .ok (.iconst 0, 1) := by decide +kernel
theorem dX11_findSoonest_53 : decode cX11_findSoonest 53 = .ok (.iaload, 1) := by decide +kernel
theorem dX11_findSoonest_54 : decode cX11_findSoonest 54 = .ok (.if_icmp .ge 93, 3) := by decide +kernel
theorem dX11_findSoonest_57 : decode cX11_findSoonest 57 = .ok (.aload_n 0, 1) := by decide +kernel
theorem dX11_findSoonest_58 : decode cX11_findSoonest 58 = .ok (.invokevirtual 189, 3) := by decide +kernel
theorem dX11_findSoonest_61 : decode cX11_findSoonest 61 = .ok (.istore_n 1, 1) := by decide +kernel
theorem dX11_findSoonest_62 : decode cX11_findSoonest 62 = .ok (.aload_n 0, 1) := by decide +kernel
theorem dX11_findSoonest_63 : decode cX11_findSoonest 63 = .ok (.invokevirtual 192, 3) := by decide +kernel
theorem dX11_findSoonest_66 : decode cX11_findSoonest 66 = .ok (.aload_n 0, 1) := by decide +kernel
theorem dX11_findSoonest_67 : decode cX11_findSoonest 67 = .ok (.getfield 49, 3) := by decide +kernel
theorem dX11_findSoonest_70 : decode cX11_findSoonest 70 = .ok (.iload_n 1, 1) := by decide +kernel
theorem dX11_findSoonest_71 : decode cX11_findSoonest 71 = .ok (.dup2, 1) := by decide +kernel
theorem dX11_findSoonest_72 : decode cX11_findSoonest 72 = .ok (.iaload, 1) := by decide +kernel
theorem dX11_findSoonest_73 : decode cX11_findSoonest 73 = .ok (.iconst 1, 1) := by decide +kernel
theorem dX11_findSoonest_74 : decode cX11_findSoonest 74 = .ok (.iadd, 1) := by decide +kernel
theorem dX11_findSoonest_75 : decode cX11_findSoonest 75 = .ok (.iastore, 1) := by decide +kernel
theorem dX11_findSoonest_76 : decode cX11_findSoonest 76 = .ok (.iload_n 1, 1) := by decide +kernel
theorem dX11_findSoonest_77 : decode cX11_findSoonest 77 = .ok (.iconst 1, 1) := by decide +kernel
theorem dX11_findSoonest_78 : decode cX11_findSoonest 78 = .ok (.iadd, 1) := by decide +kernel
theorem dX11_findSoonest_79 : decode cX11_findSoonest 79 = .ok (.istore_n 2, 1) := by decide +kernel
theorem dX11_findSoonest_80 : decode cX11_findSoonest 80 = .ok (.iload_n 2, 1) := by decide +kernel
theorem dX11_findSoonest_81 : decode cX11_findSoonest 81 = .ok (.iconst 4, 1) := by decide +kernel
theorem dX11_findSoonest_82 : decode cX11_findSoonest 82 = .ok (.if_icmp .ge 16, 3) := by decide +kernel
theorem dX11_findSoonest_85 : decode cX11_findSoonest 85 = .ok (.aload_n 0, 1) := by decide +kernel
theorem dX11_findSoonest_86 : decode cX11_findSoonest 86 = .ok (.getfield 49, 3) := by decide +kernel
theorem dX11_findSoonest_89 : decode cX11_findSoonest 89 = .ok (.iload_n 2, 1) := by decide +kernel
theorem dX11_findSoonest_90 : decode cX11_findSoonest 90 = .ok (.iconst 0, 1) := by decide +kernel
theorem dX11_findSoonest_91 : decode cX11_findSoonest 91 = .ok (.iastore, 1) := by decide +kernel
theorem dX11_findSoonest_92 : decode cX11_findSoonest 92 = .ok (.iinc 2 1, 3) := by decide +kernel
theorem dX11_findSoonest_95 : decode cX11_findSoonest 95 = .ok (.goto (-15), 3) := by decide +kernel
theorem dX11_findSoonest_98 : decode cX11_findSoonest 98 = .ok (.iload_n 1, 1) := by decide +kernel
theorem dX11_findSoonest_99 : decode cX11_findSoonest 99 = .ok (.istore_n 2, 1) := by decide +kernel
theorem dX11_findSoonest_100 : decode cX11_findSoonest 100 = .ok (.iload_n 2, 1) := by decide +kernel
theorem dX11_findSoonest_101 : decode cX11_findSoonest 101 = .ok (.ifCond .le 43, 3) := by decide +kernel
theorem dX11_findSoonest_104 : decode cX11_findSoonest 104 = .ok (.aload_n 0, 1) := by decide +kernel
theorem dX11_findSoonest_105 : decode cX11_findSoonest 105 = .ok (.getfield 49, 3) := by decide +kernel
theorem dX11_findSoonest_108 : decode cX11_findSoonest 108 = .ok (.iload_n 2, 1) := by decide +kernel
theorem dX11_findSoonest_109 : decode cX11_findSoonest 109 = .ok (.iaload, 1) := by decide +kernel
theorem dX11_findSoonest_110 : decode cX11_findSoonest 110 = .ok (.aload_n 0, 1) := by decide +kernel
theorem dX11_findSoonest_111 : decode cX11_findSoonest 111 = .ok (.getfield 7, 3) := by decide +kernel
theorem dX11_findSoonest_114 : decode cX11_findSoonest 114 = .ok (.iconst 0, 1) := by decide +kernel
theorem dX11_findSoonest_115 : decode cX11_findSoonest 115 = .ok (.iaload, 1) := by decide +kernel
theorem dX11_findSoonest_116 : decode cX11_findSoonest 116 = .ok (.if_icmp .ne 28, 3) := by decide +kernel
theorem dX11_findSoonest_119 : decode cX11_findSoonest 119 = .ok (.aload_n 0, 1) := by decide +kernel
theorem dX11_findSoonest_120 : decode cX11_findSoonest 120 = .ok (.getfield 49, 3) := by decide +kernel
theorem dX11_findSoonest_123 : decode cX11_findSoonest 123 = .ok (.iload_n 2, 1) := by decide +kernel
theorem dX11_findSoonest_124 : decode cX11_findSoonest 124 = .ok (.iconst 0, 1) := by decide +kernel
theorem dX11_findSoonest_125 : decode cX11_findSoonest 125 = .ok (.iastore, 1) := by decide +kernel
theorem dX11_findSoonest_126 : decode cX11_findSoonest 126 = .ok (.aload_n 0, 1) := by decide +kernel
theorem dX11_findSoonest_127 : decode cX11_findSoonest 127 = .ok (.getfield 49, 3) := by decide +kernel
theorem dX11_findSoonest_130 : decode cX11_findSoonest 130 = .ok (.iload_n 2, 1) := by decide +kernel
theorem dX11_findSoonest_131 : decode cX11_findSoonest 131 = .ok (.iconst 1, 1) := by decide +kernel
theorem dX11_findSoonest_132 : decode cX11_findSoonest 132 = .ok (.isub, 1) := by decide +kernel
theorem dX11_findSoonest_133 : decode cX11_findSoonest 133 = .ok (.dup2, 1) := by decide +kernel
theorem dX11_findSoonest_134 : decode cX11_findSoonest 134 = .ok (.iaload, 1) := by decide +kernel
theorem dX11_findSoonest_135 : decode cX11_findSoonest 135 = .ok (.iconst 1, 1) := by decide +kernel
theorem dX11_findSoonest_136 : decode cX11_findSoonest 136 = .ok (.iadd, 1) := by decide +kernel
theorem dX11_findSoonest_137 : decode cX11_findSoonest 137 = .ok (.iastore, 1) := by decide +kernel
theorem dX11_findSoonest_138 : decode cX11_findSoonest 138 = .ok (.iinc 2 (-1), 3) := by decide +kernel
theorem dX11_findSoonest_141 : decode cX11_findSoonest 141 = .ok (.goto (-41), 3) := by decide +kernel
theorem dX11_findSoonest_144 : decode cX11_findSoonest 144 = .ok (.goto (-111), 3) := by decide +kernel
theorem dX11_findSoonest_147 : decode cX11_findSoonest 147 = .ok (.return_, 1) := by decide +kernel
theorem dX11_soonest_0 : decode cX11_soonest 0 = .ok (.iload_n 1, 1) := by decide +kernel
theorem dX11_soonest_1 : decode cX11_soonest 1 = .ok (.i2l, 1) := by decide +kernel
theorem dX11_soonest_2 : decode cX11_soonest 2 = .ok (.lconst 0, 1) := by decide +kernel
theorem dX11_soonest_3 : decode cX11_soonest 3 = .ok (.ldc2_w 146, 3) := by decide +kernel
theorem dX11_soonest_6 : decode cX11_soonest 6 = .ok (.invokestatic 71, 3) := by decide +kernel
theorem dX11_soonest_9 : decode cX11_soonest 9 = .ok (.ifCond .ne 6, 3) := by decide +kernel
theorem dX11_soonest_12 : decode cX11_soonest 12 = .ok (.ldc 87, 2) := by decide +kernel
theorem dX11_soonest_14 : decode cX11_soonest 14 = .ok (.ireturn, 1) := by decide +kernel
theorem dX11_soonest_15 : decode cX11_soonest 15 = .ok (.aload_n 0, 1) := by decide +kernel
theorem dX11_soonest_16 : decode cX11_soonest 16 = .ok (.invokevirtual 172, 3) := by decide +kernel
theorem dX11_soonest_19 : decode cX11_soonest 19 = .ok (.ifCond .eq 15, 3) := by decide +kernel
theorem dX11_soonest_22 : decode cX11_soonest 22 = .ok (.iload_n 1, 1) := by decide +kernel
theorem dX11_soonest_23 : decode cX11_soonest 23 = .ok (.iconst 2, 1) := by decide +kernel
theorem dX11_soonest_24 : decode cX11_soonest 24 = .ok (.if_icmp .ne 8, 3) := by decide +kernel
theorem dX11_soonest_27 : decode cX11_soonest 27 = .ok (.ldc 70, 2) := by decide +kernel
theorem dX11_soonest_29 : decode cX11_soonest 29 = .ok (.goto 4, 3) := by decide +kernel
theorem dX11_soonest_32 : decode cX11_soonest 32 = .ok (.iconst 0, 1) := by decide +kernel
theorem dX11_soonest_33 : decode cX11_soonest 33 = .ok (.ireturn, 1) := by decide +kernel
theorem dX11_soonest_34 : decode cX11_soonest 34 = .ok (.aload_n 0, 1) := by decide +kernel
theorem dX11_soonest_35 : decode cX11_soonest 35 = .ok (.invokevirtual 195, 3) := by decide +kernel
theorem dX11_soonest_38 : decode cX11_soonest 38 = .ok (.aload_n 0, 1) := by decide +kernel
theorem dX11_soonest_39 : decode cX11_soonest 39 = .ok (.getfield 176, 3) := by decide +kernel
theorem dX11_soonest_42 : decode cX11_soonest 42 = .ok (.ifCond .ge 8, 3) := by decide +kernel
theorem dX11_soonest_45 : decode cX11_soonest 45 = .ok (.ldc 70, 2) := by decide +kernel
theorem dX11_soonest_47 : decode cX11_soonest 47 = .ok (.goto 30, 3) := by decide +kernel
theorem dX11_soonest_50 : decode cX11_soonest 50 = .ok (.iload_n 1, 1) := by decide +kernel
theorem dX11_soonest_51 : decode cX11_soonest 51 = .ok (.ifCond .ne 10, 3) := by decide +kernel
theorem dX11_soonest_54 : decode cX11_soonest 54 = .ok (.aload_n 0, 1) := by decide +kernel
theorem dX11_soonest_55 : decode cX11_soonest 55 = .ok (.getfield 176, 3) := by decide +kernel
theorem dX11_soonest_58 : decode cX11_soonest 58 = .ok (.goto 19, 3) := by decide +kernel
theorem dX11_soonest_61 : decode cX11_soonest 61 = .ok (.iload_n 1, 1) := by decide +kernel
theorem dX11_soonest_62 : decode cX11_soonest 62 = .ok (.iconst 1, 1) := by decide +kernel
theorem dX11_soonest_63 : decode cX11_soonest 63 = .ok (.if_icmp .ne 10, 3) := by decide +kernel
theorem dX11_soonest_66 : decode cX11_soonest 66 = .ok (.aload_n 0, 1) := by decide +kernel
theorem dX11_soonest_67 : decode cX11_soonest 67 = .ok (.getfield 180, 3) := by decide +kernel
theorem dX11_soonest_70 : decode cX11_soonest 70 = .ok (.goto 7, 3) := by decide +kernel
theorem dX11_soonest_73 : decode cX11_soonest 73 = .ok (.aload_n 0, 1) := by decide +kernel
theorem dX11_soonest_74 : decode cX11_soonest 74 = .ok (.getfield 183, 3) := by decide +kernel
theorem dX11_soonest_77 : decode cX11_soonest 77 = .ok (.ireturn, 1) := by decide +kernel
theorem dX11_areTogether_0 : decode cX11_areTogether 0 = .ok (.iload_n 1, 1) := by decide +kernel
theorem dX11_areTogether_1 : decode cX11_areTogether 1 = .ok (.invokestatic 108, 3) := by decide +kernel
theorem dX11_areTogether_4 : decode cX11_areTogether 4 = .ok (.istore_n 2, 1) := by decide +kernel
theorem dX11_areTogether_5 : decode cX11_areTogether 5 = .ok (.iconst 1, 1) := by decide +kernel
theorem dX11_areTogether_6 : decode cX11_areTogether 6 = .ok (.istore_n 3, 1) := by decide +kernel
theorem dX11_areTogether_7 : decode cX11_areTogether 7 = .ok (.iconst 0, 1) := by decide +kernel
theorem dX11_areTogether_8 : decode cX11_areTogether 8 = .ok (.istore 4, 2) := by decide +kernel
theorem dX11_areTogether_10 : decode cX11_areTogether 10 = .ok (.iload 4, 2) := by decide +kernel
theorem dX11_areTogether_12 : decode cX11_areTogether 12 = .ok (.iload_n 2, 1) := by decide +kernel
theorem dX11_areTogether_13 : decode cX11_areTogether 13 = .ok (.if_icmp .ge 18, 3) := by decide +kernel
theorem dX11_areTogether_16 : decode cX11_areTogether 16 = .ok (.iload_n 3, 1) := by decide +kernel
theorem dX11_areTogether_17 : decode cX11_areTogether 17 = .ok (.aload_n 0, 1) := by decide +kernel
theorem dX11_areTogether_18 : decode cX11_areTogether 18 = .ok (.getfield 7, 3) := by decide +kernel
theorem dX11_areTogether_21 : decode cX11_areTogether 21 = .ok (.iconst 0, 1) := by decide +kernel
theorem dX11_areTogether_22 : decode cX11_areTogether 22 = .ok (.iaload, 1) := by decide +kernel
theorem dX11_areTogether_23 : decode cX11_areTogether 23 = .ok (.imul, 1) := by decide +kernel
theorem dX11_areTogether_24 : decode cX11_areTogether 24 = .ok (.istore_n 3, 1) := by decide +kernel
theorem dX11_areTogether_25 : decode cX11_areTogether 25 = .ok (.iinc 4 1, 3) := by decide +kernel
theorem dX11_areTogether_28 : decode cX11_areTogether 28 = .ok (.goto (-18), 3) := by decide +kernel
theorem dX11_areTogether_31 : decode cX11_areTogether 31 = .ok (.iconst 0, 1) := by decide +kernel
theorem dX11_areTogether_32 : decode cX11_areTogether 32 = .ok (.istore 4, 2) := by decide +kernel
theorem dX11_areTogether_34 : decode cX11_areTogether 34 = .ok (.iload 4, 2) := by decide +kernel
theorem dX11_areTogether_36 : decode cX11_areTogether 36 = .ok (.iload_n 3, 1) := by decide +kernel
theorem dX11_areTogether_37 : decode cX11_areTogether 37 = .ok (.if_icmp .ge 165, 3) := by decide +kernel
theorem dX11_areTogether_40 : decode cX11_areTogether 40 = .ok (.iload 4, 2) := by decide +kernel
theorem dX11_areTogether_42 : decode cX11_areTogether 42 = .ok (.istore 5, 2) := by decide +kernel
theorem dX11_areTogether_44 : decode cX11_areTogether 44 = .ok (.iconst 0, 1) := by decide +kernel
theorem dX11_areTogether_45 : decode cX11_areTogether 45 = .ok (.istore 6, 2) := by decide +kernel
theorem dX11_areTogether_47 : decode cX11_areTogether 47 = .ok (.iconst 0, 1) := by decide +kernel
theorem dX11_areTogether_48 : decode cX11_areTogether 48 = .ok (.istore 7, 2) := by decide +kernel
theorem dX11_areTogether_50 : decode cX11_areTogether 50 = .ok (.iconst 0, 1) := by decide +kernel
theorem dX11_areTogether_51 : decode cX11_areTogether 51 = .ok (.istore 8, 2) := by decide +kernel
theorem dX11_areTogether_53 : decode cX11_areTogether 53 = .ok (.iload 8, 2) := by decide +kernel
theorem dX11_areTogether_55 : decode cX11_areTogether 55 = .ok (.iload_n 2, 1) := by decide +kernel
theorem dX11_areTogether_56 : decode cX11_areTogether 56 = .ok (.if_icmp .ge 126, 3) := by decide +kernel
theorem dX11_areTogether_59 : decode cX11_areTogether 59 = .ok (.iload 5, 2) := by decide +kernel
theorem dX11_areTogether_61 : decode cX11_areTogether 61 = .ok (.aload_n 0, 1) := by decide +kernel
theorem dX11_areTogether_62 : decode cX11_areTogether 62 = .ok (.getfield 7, 3) := by decide +kernel
theorem dX11_areTogether_65 : decode cX11_areTogether 65 = .ok (.iconst 0, 1) := by decide +kernel
theorem dX11_areTogether_66 : decode cX11_areTogether 66 = .ok (.iaload, 1) := by decide +kernel
theorem dX11_areTogether_67 : decode cX11_areTogether 67 = .ok (.irem, 1) := by decide +kernel
theorem dX11_areTogether_68 : decode cX11_areTogether 68 = .ok (.istore 9, 2) := by decide +kernel
theorem dX11_areTogether_70 : decode cX11_areTogether 70 = .ok (.iload 5, 2) := by decide +kernel
theorem dX11_areTogether_72 : decode cX11_areTogether 72 = .ok (.aload_n 0, 1) := by decide +kernel
theorem dX11_areTogether_73 : decode cX11_areTogether 73 = .ok (.getfield 7, 3) := by decide +kernel
theorem dX11_areTogether_76 : decode cX11_areTogether 76 = .ok (.iconst 0, 1) := by decide +kernel
theorem dX11_areTogether_77 : decode cX11_areTogether 77 = .ok (.iaload, 1) := by decide +kernel
theorem dX11_areTogether_78 : decode cX11_areTogether 78 = .ok (.idiv, 1) := by decide +kernel
theorem dX11_areTogether_79 : decode cX11_areTogether 79 = .ok (.istore 5, 2) := by decide +kernel
theorem dX11_areTogether_81 : decode cX11_areTogether 81 = .ok (.iconst 1, 1) := by decide +kernel
theorem dX11_areTogether_82 : decode cX11_areTogether 82 = .ok (.aload_n 0, 1) := by decide +kernel
theorem dX11_areTogether_83 : decode cX11_areTogether 83 = .ok (.iload 9, 2) := by decide +kernel
theorem dX11_areTogether_85 : decode cX11_areTogether 85 = .ok (.iconst 2, 1) := by decide +kernel
theorem dX11_areTogether_86 : decode cX11_areTogether 86 = .ok (.invokevirtual 97, 3) := by decide +kernel
theorem dX11_areTogether_89 : decode cX11_areTogether 89 = .ok (.ishl, 1) := by decide +kernel
theorem dX11_areTogether_90 : decode cX11_areTogether 90 = .ok (.istore 10, 2) := by decide +kernel
theorem dX11_areTogether_92 : decode cX11_areTogether 92 = .ok (.iload 7, 2) := by decide +kernel
theorem dX11_areTogether_94 : decode cX11_areTogether 94 = .ok (.ifCond .lt 44, 3) := by decide +kernel
theorem dX11_areTogether_97 : decode cX11_areTogether 97 = .ok (.aload_n 0, 1) := by decide +kernel
theorem dX11_areTogether_98 : decode cX11_areTogether 98 = .ok (.iload 9, 2) := by decide +kernel
theorem dX11_areTogether_100 : decode cX11_areTogether 100 = .ok (.bipush 6, 2) := by decide +kernel
theorem dX11_areTogether_102 : decode cX11_areTogether 102 = .ok (.invokevirtual 97, 3) := by decide +kernel
theorem dX11_areTogether_105 : decode cX11_areTogether 105 = .ok (.ifCond .ne 33, 3) := by decide +kernel
theorem dX11_areTogether_108 : decode cX11_areTogether 108 = .ok (.iload_n 1, 1) := by decide +kernel
theorem dX11_areTogether_109 : decode cX11_areTogether 109 = .ok (.iload 10, 2) := by decide +kernel
theorem dX11_areTogether_111 : decode cX11_areTogether 111 = .ok (.iand, 1) := by decide +kernel
theorem dX11_areTogether_112 : decode cX11_areTogether 112 = .ok (.ifCond .eq 26, 3) := by decide +kernel
theorem dX11_areTogether_115 : decode cX11_areTogether 115 = .ok (.iload 7, 2) := by decide +kernel
theorem dX11_areTogether_117 : decode cX11_areTogether 117 = .ok (.iload 10, 2) := by decide +kernel
theorem dX11_areTogether_119 : decode cX11_areTogether 119 = .ok (.iand, 1) := by decide +kernel
theorem dX11_areTogether_120 : decode cX11_areTogether 120 = .ok (.ifCond .ne 18, 3) := by decide +kernel
theorem dX11_areTogether_123 : decode cX11_areTogether 123 = .ok (.aload_n 0, 1) := by decide +kernel
theorem dX11_areTogether_124 : decode cX11_areTogether 124 = .ok (.iload 9, 2) := by decide +kernel
theorem dX11_areTogether_126 : decode cX11_areTogether 126 = .ok (.iload 6, 2) := by decide +kernel
theorem dX11_areTogether_128 : decode cX11_areTogether 128 = .ok (.invokevirtual 122, 3) := by decide +kernel
theorem dX11_areTogether_131 : decode cX11_areTogether 131 = .ok (.ifCond .eq 7, 3) := by decide +kernel
theorem dX11_areTogether_134 : decode cX11_areTogether 134 = .ok (.iconst 1, 1) := by decide +kernel
theorem dX11_areTogether_135 : decode cX11_areTogether 135 = .ok (.goto 4, 3) := by decide +kernel
theorem dX11_areTogether_138 : decode cX11_areTogether 138 = .ok (.iconst 0, 1) := by decide +kernel
theorem dX11_areTogether_139 : decode cX11_areTogether 139 = .ok (.istore 11, 2) := by decide +kernel
theorem dX11_areTogether_141 : decode cX11_areTogether 141 = .ok (.iload 11, 2) := by decide +kernel
theorem dX11_areTogether_143 : decode cX11_areTogether 143 = .ok (.ifCond .eq 14, 3) := by decide +kernel
theorem dX11_areTogether_146 : decode cX11_areTogether 146 = .ok (.aload_n 0, 1) := by decide +kernel
theorem dX11_areTogether_147 : decode cX11_areTogether 147 = .ok (.iload 9, 2) := by decide +kernel
theorem dX11_areTogether_149 : decode cX11_areTogether 149 = .ok (.iload 6, 2) := by decide +kernel
theorem dX11_areTogether_151 : decode cX11_areTogether 151 = .ok (.invokevirtual 158, 3) := by decide +kernel
theorem dX11_areTogether_154 : decode cX11_areTogether 154 = .ok (.goto 4, 3) := by decide +kernel
theorem dX11_areTogether_157 : decode cX11_areTogether 157 = .ok (.iconst 0, 1) := by decide +kernel
theorem dX11_areTogether_158 : decode cX11_areTogether 158 = .ok (.istore 6, 2) := by decide +kernel
theorem dX11_areTogether_160 : decode cX11_areTogether 160 = .ok (.iload 11, 2) := by decide +kernel
theorem dX11_areTogether_162 : decode cX11_areTogether 162 = .ok (.ifCond .eq 11, 3) := by decide +kernel
theorem dX11_areTogether_165 : decode cX11_areTogether 165 = .ok (.iload 7, 2) := by decide +kernel
theorem dX11_areTogether_167 : decode cX11_areTogether 167 = .ok (.iload 10, 2) := by decide +kernel
theorem dX11_areTogether_169 : decode cX11_areTogether 169 = .ok (.ior, 1) := by decide +kernel
theorem dX11_areTogether_170 : decode cX11_areTogether 170 = .ok (.goto 4, 3) := by decide +kernel
theorem dX11_areTogether_173 : decode cX11_areTogether 173 = .ok (.iconst (-1), 1) := by decide +kernel
theorem dX11_areTogether_174 : decode cX11_areTogether 174 = .ok (.istore 7, 2) := by decide +kernel
theorem dX11_areTogether_176 : decode cX11_areTogether 176 = .ok (.iinc 8 1, 3) := by decide +kernel
theorem dX11_areTogether_179 : decode cX11_areTogether 179 = .ok (.goto (-126), 3) := by decide +kernel
theorem dX11_areTogether_182 : decode cX11_areTogether 182 = .ok (.iload 7, 2) := by decide +kernel
theorem dX11_areTogether_184 : decode cX11_areTogether 184 = .ok (.iload_n 1, 1) := by decide +kernel
theorem dX11_areTogether_185 : decode cX11_areTogether 185 = .ok (.if_icmp .ne 11, 3) := by decide +kernel
theorem dX11_areTogether_188 : decode cX11_areTogether 188 = .ok (.iload 6, 2) := by decide +kernel
theorem dX11_areTogether_190 : decode cX11_areTogether 190 = .ok (.iload_n 1, 1) := by decide +kernel
theorem dX11_areTogether_191 : decode cX11_areTogether 191 = .ok (.if_icmp .ne 5, 3) := by decide +kernel
theorem dX11_areTogether_194 : decode cX11_areTogether 194 = .ok (.iconst 1, 1) := by decide +kernel
theorem dX11_areTogether_195 : decode cX11_areTogether 195 = .ok (.ireturn, 1) := by decide +kernel
theorem dX11_areTogether_196 : decode cX11_areTogether 196 = .ok (.iinc 4 1, 3) := by decide +kernel
theorem dX11_areTogether_199 : decode cX11_areTogether 199 = .ok (.goto (-165), 3) := by decide +kernel
theorem dX11_areTogether_202 : decode cX11_areTogether 202 = .ok (.iconst 0, 1) := by decide +kernel
theorem dX11_areTogether_203 : decode cX11_areTogether 203 = .ok (.ireturn, 1) := by decide +kernel
theorem dX11_together_0 : decode cX11_together 0 = .ok (.iload_n 1, 1) := by decide +kernel
theorem dX11_together_1 : decode cX11_together 1 = .ok (.i2l, 1) := by decide +kernel
theorem dX11_together_2 : decode cX11_together 2 = .ok (.lconst 0, 1) := by decide +kernel
theorem dX11_together_3 : decode cX11_together 3 = .ok (.ldc2_w 198, 3) := by decide +kernel
theorem dX11_together_6 : decode cX11_together 6 = .ok (.invokestatic 71, 3) := by decide +kernel
theorem dX11_together_9 : decode cX11_together 9 = .ok (.ifCond .eq 11, 3) := by decide +kernel
theorem dX11_together_12 : decode cX11_together 12 = .ok (.iload_n 1, 1) := by decide +kernel
theorem dX11_together_13 : decode cX11_together 13 = .ok (.invokestatic 108, 3) := by decide +kernel
theorem dX11_together_16 : decode cX11_together 16 = .ok (.iconst 3, 1) := by decide +kernel
theorem dX11_together_17 : decode cX11_together 17 = .ok (.if_icmp .le 6, 3) := by decide +kernel
theorem dX11_together_20 : decode cX11_together 20 = .ok (.ldc 87, 2) := by decide +kernel
theorem dX11_together_22 : decode cX11_together 22 = .ok (.ireturn, 1) := by decide +kernel
theorem dX11_together_23 : decode cX11_together 23 = .ok (.aload_n 0, 1) := by decide +kernel
theorem dX11_together_24 : decode cX11_together 24 = .ok (.iload_n 1, 1) := by decide +kernel
theorem dX11_together_25 : decode cX11_together 25 = .ok (.invokevirtual 200, 3) := by decide +kernel
theorem dX11_together_28 : decode cX11_together 28 = .ok (.ifCond .eq 7, 3) := by decide +kernel
theorem dX11_together_31 : decode cX11_together 31 = .ok (.iconst 1, 1) := by decide +kernel
theorem dX11_together_32 : decode cX11_together 32 = .ok (.goto 4, 3) := by decide +kernel
theorem dX11_together_35 : decode cX11_together 35 = .ok (.iconst 0, 1) := by decide +kernel
theorem dX11_together_36 : decode cX11_together 36 = .ok (.ireturn, 1) := by decide +kernel
theorem dX11_taughtNow_0 : decode cX11_taughtNow 0 = .ok (.iconst 0, 1) := by decide +kernel
theorem dX11_taughtNow_1 : decode cX11_taughtNow 1 = .ok (.istore_n 1, 1) := by decide +kernel
theorem dX11_taughtNow_2 : decode cX11_taughtNow 2 = .ok (.iconst 0, 1) := by decide +kernel
theorem dX11_taughtNow_3 : decode cX11_taughtNow 3 = .ok (.istore_n 2, 1) := by decide +kernel
theorem dX11_taughtNow_4 : decode cX11_taughtNow 4 = .ok (.iload_n 2, 1) := by decide +kernel
theorem dX11_taughtNow_5 : decode cX11_taughtNow 5 = .ok (.aload_n 0, 1) := by decide +kernel
theorem dX11_taughtNow_6 : decode cX11_taughtNow 6 = .ok (.getfield 7, 3) := by decide +kernel
theorem dX11_taughtNow_9 : decode cX11_taughtNow 9 = .ok (.iconst 0, 1) := by decide +kernel
theorem dX11_taughtNow_10 : decode cX11_taughtNow 10 = .ok (.iaload, 1) := by decide +kernel
theorem dX11_taughtNow_11 : decode cX11_taughtNow 11 = .ok (.if_icmp .ge 34, 3) := by decide +kernel
theorem dX11_taughtNow_14 : decode cX11_taughtNow 14 = .ok (.iload_n 1, 1) := by decide +kernel
theorem dX11_taughtNow_15 : decode cX11_taughtNow 15 = .ok (.aload_n 0, 1) := by decide +kernel
theorem dX11_taughtNow_16 : decode cX11_taughtNow 16 = .ok (.iload_n 2, 1) := by decide +kernel
theorem dX11_taughtNow_17 : decode cX11_taughtNow 17 = .ok (.bipush 6, 2) := by decide +kernel
theorem dX11_taughtNow_19 : decode cX11_taughtNow 19 = .ok (.invokevirtual 97, 3) := by decide +kernel
theorem dX11_taughtNow_22 : decode cX11_taughtNow 22 = .ok (.ifCond .ne 14, 3) := by decide +kernel
theorem dX11_taughtNow_25 : decode cX11_taughtNow 25 = .ok (.iconst 1, 1) := by decide +kernel
theorem dX11_taughtNow_26 : decode cX11_taughtNow 26 = .ok (.aload_n 0, 1) := by decide +kernel
theorem dX11_taughtNow_27 : decode cX11_taughtNow 27 = .ok (.iload_n 2, 1) := by decide +kernel
theorem dX11_taughtNow_28 : decode cX11_taughtNow 28 = .ok (.iconst 2, 1) := by decide +kernel
theorem dX11_taughtNow_29 : decode cX11_taughtNow 29 = .ok (.invokevirtual 97, 3) := by decide +kernel
theorem dX11_taughtNow_32 : decode cX11_taughtNow 32 = .ok (.ishl, 1) := by decide +kernel
theorem dX11_taughtNow_33 : decode cX11_taughtNow 33 = .ok (.goto 4, 3) := by decide +kernel
theorem dX11_taughtNow_36 : decode cX11_taughtNow 36 = .ok (.iconst 0, 1) := by decide +kernel
theorem dX11_taughtNow_37 : decode cX11_taughtNow 37 = .ok (.ior, 1) := by decide +kernel
theorem dX11_taughtNow_38 : decode cX11_taughtNow 38 = .ok (.istore_n 1, 1) := by decide +kernel
theorem dX11_taughtNow_39 : decode cX11_taughtNow 39 = .ok (.iinc 2 1, 3) := by decide +kernel
theorem dX11_taughtNow_42 : decode cX11_taughtNow 42 = .ok (.goto (-38), 3) := by decide +kernel
theorem dX11_taughtNow_45 : decode cX11_taughtNow 45 = .ok (.iload_n 1, 1) := by decide +kernel
theorem dX11_taughtNow_46 : decode cX11_taughtNow 46 = .ok (.ireturn, 1) := by decide +kernel
theorem dX11_never_0 : decode cX11_never 0 = .ok (.aload_n 0, 1) := by decide +kernel
theorem dX11_never_1 : decode cX11_never 1 = .ok (.invokevirtual 203, 3) := by decide +kernel
theorem dX11_never_4 : decode cX11_never 4 = .ok (.istore_n 1, 1) := by decide +kernel
theorem dX11_never_5 : decode cX11_never 5 = .ok (.iconst 0, 1) := by decide +kernel
theorem dX11_never_6 : decode cX11_never 6 = .ok (.istore_n 2, 1) := by decide +kernel
theorem dX11_never_7 : decode cX11_never 7 = .ok (.iload_n 2, 1) := by decide +kernel
theorem dX11_never_8 : decode cX11_never 8 = .ok (.bipush 10, 2) := by decide +kernel
theorem dX11_never_10 : decode cX11_never 10 = .ok (.if_icmp .ge 59, 3) := by decide +kernel
theorem dX11_never_13 : decode cX11_never 13 = .ok (.iload_n 2, 1) := by decide +kernel
theorem dX11_never_14 : decode cX11_never 14 = .ok (.iconst 1, 1) := by decide +kernel
theorem dX11_never_15 : decode cX11_never 15 = .ok (.iadd, 1) := by decide +kernel
theorem dX11_never_16 : decode cX11_never 16 = .ok (.istore_n 3, 1) := by decide +kernel
theorem dX11_never_17 : decode cX11_never 17 = .ok (.iload_n 3, 1) := by decide +kernel
theorem dX11_never_18 : decode cX11_never 18 = .ok (.bipush 10, 2) := by decide +kernel
theorem dX11_never_20 : decode cX11_never 20 = .ok (.if_icmp .ge 43, 3) := by decide +kernel
theorem dX11_never_23 : decode cX11_never 23 = .ok (.iconst 1, 1) := by decide +kernel
theorem dX11_never_24 : decode cX11_never 24 = .ok (.iload_n 2, 1) := by decide +kernel
theorem dX11_never_25 : decode cX11_never 25 = .ok (.ishl, 1) := by decide +kernel
theorem dX11_never_26 : decode cX11_never 26 = .ok (.iconst 1, 1) := by decide +kernel
theorem dX11_never_27 : decode cX11_never 27 = .ok (.iload_n 3, 1) := by decide +kernel
theorem dX11_never_28 : decode cX11_never 28 = .ok (.ishl, 1) := by decide +kernel
theorem dX11_never_29 : decode cX11_never 29 = .ok (.ior, 1) := by decide +kernel
theorem dX11_never_30 : decode cX11_never 30 = .ok (.istore 4, 2) := by decide +kernel
theorem dX11_never_32 : decode cX11_never 32 = .ok (.iload_n 1, 1) := by decide +kernel
theorem dX11_never_33 : decode cX11_never 33 = .ok (.iload 4, 2) := by decide +kernel
theorem dX11_never_35 : decode cX11_never 35 = .ok (.iand, 1) := by decide +kernel
theorem dX11_never_36 : decode cX11_never 36 = .ok (.iload 4, 2) := by decide +kernel
theorem dX11_never_38 : decode cX11_never 38 = .ok (.if_icmp .ne 19, 3) := by decide +kernel
theorem dX11_never_41 : decode cX11_never 41 = .ok (.aload_n 0, 1) := by decide +kernel
theorem dX11_never_42 : decode cX11_never 42 = .ok (.iload 4, 2) := by decide +kernel
theorem dX11_never_44 : decode cX11_never 44 = .ok (.invokevirtual 200, 3) := by decide +kernel
theorem dX11_never_47 : decode cX11_never 47 = .ok (.ifCond .ne 10, 3) := by decide +kernel
theorem dX11_never_50 : decode cX11_never 50 = .ok (.bipush 10, 2) := by decide +kernel
theorem dX11_never_52 : decode cX11_never 52 = .ok (.iload_n 2, 1) := by decide +kernel
theorem dX11_never_53 : decode cX11_never 53 = .ok (.imul, 1) := by decide +kernel
theorem dX11_never_54 : decode cX11_never 54 = .ok (.iload_n 3, 1) := by decide +kernel
theorem dX11_never_55 : decode cX11_never 55 = .ok (.iadd, 1) := by decide +kernel
theorem dX11_never_56 : decode cX11_never 56 = .ok (.ireturn, 1) := by decide +kernel
theorem dX11_never_57 : decode cX11_never 57 = .ok (.iinc 3 1, 3) := by decide +kernel
theorem dX11_never_60 : decode cX11_never 60 = .ok (.goto (-43), 3) := by decide +kernel
theorem dX11_never_63 : decode cX11_never 63 = .ok (.iinc 2 1, 3) := by decide +kernel
theorem dX11_never_66 : decode cX11_never 66 = .ok (.goto (-59), 3) := by decide +kernel
theorem dX11_never_69 : decode cX11_never 69 = .ok (.ldc 70, 2) := by decide +kernel
theorem dX11_never_71 : decode cX11_never 71 = .ok (.ireturn, 1) := by decide +kernel
theorem dX11_last_0 : decode cX11_last 0 = .ok (.iload_n 1, 1) := by decide +kernel
theorem dX11_last_1 : decode cX11_last 1 = .ok (.invokestatic 82, 3) := by decide +kernel
theorem dX11_last_4 : decode cX11_last 4 = .ok (.ifCond .ne 6, 3) := by decide +kernel
theorem dX11_last_7 : decode cX11_last 7 = .ok (.ldc 87, 2) := by decide +kernel
theorem dX11_last_9 : decode cX11_last 9 = .ok (.ireturn, 1) := by decide +kernel
theorem dX11_last_10 : decode cX11_last 10 = .ok (.iconst (-1), 1) := by decide +kernel
theorem dX11_last_11 : decode cX11_last 11 = .ok (.istore_n 2, 1) := by decide +kernel
theorem dX11_last_12 : decode cX11_last 12 = .ok (.iconst 0, 1) := by decide +kernel
theorem dX11_last_13 : decode cX11_last 13 = .ok (.istore_n 3, 1) := by decide +kernel
theorem dX11_last_14 : decode cX11_last 14 = .ok (.iconst 0, 1) := by decide +kernel
theorem dX11_last_15 : decode cX11_last 15 = .ok (.istore 4, 2) := by decide +kernel
theorem dX11_last_17 : decode cX11_last 17 = .ok (.iload 4, 2) := by decide +kernel
theorem dX11_last_19 : decode cX11_last 19 = .ok (.aload_n 0, 1) := by decide +kernel
theorem dX11_last_20 : decode cX11_last 20 = .ok (.getfield 7, 3) := by decide +kernel
theorem dX11_last_23 : decode cX11_last 23 = .ok (.iconst 0, 1) := by decide +kernel
theorem dX11_last_24 : decode cX11_last 24 = .ok (.iaload, 1) := by decide +kernel
theorem dX11_last_25 : decode cX11_last 25 = .ok (.if_icmp .ge 37, 3) := by decide +kernel
theorem dX11_last_28 : decode cX11_last 28 = .ok (.aload_n 0, 1) := by decide +kernel
theorem dX11_last_29 : decode cX11_last 29 = .ok (.iload 4, 2) := by decide +kernel
theorem dX11_last_31 : decode cX11_last 31 = .ok (.bipush 6, 2) := by decide +kernel
theorem dX11_last_33 : decode cX11_last 33 = .ok (.invokevirtual 97, 3) := by decide +kernel
theorem dX11_last_36 : decode cX11_last 36 = .ok (.ifCond .ne 20, 3) := by decide +kernel
theorem dX11_last_39 : decode cX11_last 39 = .ok (.aload_n 0, 1) := by decide +kernel
theorem dX11_last_40 : decode cX11_last 40 = .ok (.iload 4, 2) := by decide +kernel
theorem dX11_last_42 : decode cX11_last 42 = .ok (.iconst 2, 1) := by decide +kernel
theorem dX11_last_43 : decode cX11_last 43 = .ok (.invokevirtual 97, 3) := by decide +kernel
theorem dX11_last_46 : decode cX11_last 46 = .ok (.iload_n 1, 1) := by decide +kernel
theorem dX11_last_47 : decode cX11_last 47 = .ok (.if_icmp .ne 9, 3) := by decide +kernel
theorem dX11_last_50 : decode cX11_last 50 = .ok (.iload 4, 2) := by decide +kernel
theorem dX11_last_52 : decode cX11_last 52 = .ok (.istore_n 2, 1) := by decide +kernel
theorem dX11_last_53 : decode cX11_last 53 = .ok (.iinc 3 1, 3) := by decide +kernel
theorem dX11_last_56 : decode cX11_last 56 = .ok (.iinc 4 1, 3) := by decide +kernel
theorem dX11_last_59 : decode cX11_last 59 = .ok (.goto (-42), 3) := by decide +kernel
theorem dX11_last_62 : decode cX11_last 62 = .ok (.iload_n 3, 1) := by decide +kernel
theorem dX11_last_63 : decode cX11_last 63 = .ok (.iconst 1, 1) := by decide +kernel
theorem dX11_last_64 : decode cX11_last 64 = .ok (.if_icmp .ne 7, 3) := by decide +kernel
theorem dX11_last_67 : decode cX11_last 67 = .ok (.iload_n 2, 1) := by decide +kernel
theorem dX11_last_68 : decode cX11_last 68 = .ok (.goto 5, 3) := by decide +kernel
theorem dX11_last_71 : decode cX11_last 71 = .ok (.ldc 70, 2) := by decide +kernel
theorem dX11_last_73 : decode cX11_last 73 = .ok (.ireturn, 1) := by decide +kernel
theorem dX11_year_0 : decode cX11_year 0 = .ok (.iconst 0, 1) := by decide +kernel
theorem dX11_year_1 : decode cX11_year 1 = .ok (.istore_n 1, 1) := by decide +kernel
theorem dX11_year_2 : decode cX11_year 2 = .ok (.iconst 0, 1) := by decide +kernel
theorem dX11_year_3 : decode cX11_year 3 = .ok (.istore_n 2, 1) := by decide +kernel
theorem dX11_year_4 : decode cX11_year 4 = .ok (.iload_n 2, 1) := by decide +kernel
theorem dX11_year_5 : decode cX11_year 5 = .ok (.aload_n 0, 1) := by decide +kernel
theorem dX11_year_6 : decode cX11_year 6 = .ok (.getfield 7, 3) := by decide +kernel
theorem dX11_year_9 : decode cX11_year 9 = .ok (.iconst 0, 1) := by decide +kernel
theorem dX11_year_10 : decode cX11_year 10 = .ok (.iaload, 1) := by decide +kernel
theorem dX11_year_11 : decode cX11_year 11 = .ok (.if_icmp .ge 90, 3) := by decide +kernel
theorem dX11_year_14 : decode cX11_year 14 = .ok (.bipush 72, 2) := by decide +kernel
theorem dX11_year_16 : decode cX11_year 16 = .ok (.bipush 7, 2) := by decide +kernel
theorem dX11_year_18 : decode cX11_year 18 = .ok (.iload_n 2, 1) := by decide +kernel
theorem dX11_year_19 : decode cX11_year 19 = .ok (.imul, 1) := by decide +kernel
theorem dX11_year_20 : decode cX11_year 20 = .ok (.iadd, 1) := by decide +kernel
theorem dX11_year_21 : decode cX11_year 21 = .ok (.istore_n 3, 1) := by decide +kernel
theorem dX11_year_22 : decode cX11_year 22 = .ok (.aload_n 0, 1) := by decide +kernel
theorem dX11_year_23 : decode cX11_year 23 = .ok (.getfield 7, 3) := by decide +kernel
theorem dX11_year_26 : decode cX11_year 26 = .ok (.iload_n 3, 1) := by decide +kernel
theorem dX11_year_27 : decode cX11_year 27 = .ok (.bipush 6, 2) := by decide +kernel
theorem dX11_year_29 : decode cX11_year 29 = .ok (.iadd, 1) := by decide +kernel
theorem dX11_year_30 : decode cX11_year 30 = .ok (.iaload, 1) := by decide +kernel
theorem dX11_year_31 : decode cX11_year 31 = .ok (.ifCond .ne 64, 3) := by decide +kernel
theorem dX11_year_34 : decode cX11_year 34 = .ok (.aload_n 0, 1) := by decide +kernel
theorem dX11_year_35 : decode cX11_year 35 = .ok (.invokevirtual 140, 3) := by decide +kernel
theorem dX11_year_38 : decode cX11_year 38 = .ok (.bipush 100, 2) := by decide +kernel
theorem dX11_year_40 : decode cX11_year 40 = .ok (.irem, 1) := by decide +kernel
theorem dX11_year_41 : decode cX11_year 41 = .ok (.aload_n 0, 1) := by decide +kernel
theorem dX11_year_42 : decode cX11_year 42 = .ok (.getfield 7, 3) := by decide +kernel
theorem dX11_year_45 : decode cX11_year 45 = .ok (.iload_n 3, 1) := by decide +kernel
theorem dX11_year_46 : decode cX11_year 46 = .ok (.iconst 5, 1) := by decide +kernel
theorem dX11_year_47 : decode cX11_year 47 = .ok (.iadd, 1) := by decide +kernel
theorem dX11_year_48 : decode cX11_year 48 = .ok (.iaload, 1) := by decide +kernel
theorem dX11_year_49 : decode cX11_year 49 = .ok (.bipush 50, 2) := by decide +kernel
theorem dX11_year_51 : decode cX11_year 51 = .ok (.isub, 1) := by decide +kernel
theorem dX11_year_52 : decode cX11_year 52 = .ok (.if_icmp .ge 19, 3) := by decide +kernel
theorem dX11_year_55 : decode cX11_year 55 = .ok (.aload_n 0, 1) := by decide +kernel
theorem dX11_year_56 : decode cX11_year 56 = .ok (.getfield 7, 3) := by decide +kernel
theorem dX11_year_59 : decode cX11_year 59 = .ok (.iload_n 3, 1) := by decide +kernel
theorem dX11_year_60 : decode cX11_year 60 = .ok (.bipush 6, 2) := by decide +kernel
theorem dX11_year_62 : decode cX11_year 62 = .ok (.iadd, 1) := by decide +kernel
theorem dX11_year_63 : decode cX11_year 63 = .ok (.iconst 1, 1) := by decide +kernel
theorem dX11_year_64 : decode cX11_year 64 = .ok (.iastore, 1) := by decide +kernel
theorem dX11_year_65 : decode cX11_year 65 = .ok (.iinc 1 1, 3) := by decide +kernel
theorem dX11_year_68 : decode cX11_year 68 = .ok (.goto 27, 3) := by decide +kernel
theorem dX11_year_71 : decode cX11_year 71 = .ok (.aload_n 0, 1) := by decide +kernel
theorem dX11_year_72 : decode cX11_year 72 = .ok (.getfield 7, 3) := by decide +kernel
theorem dX11_year_75 : decode cX11_year 75 = .ok (.iload_n 3, 1) := by decide +kernel
theorem dX11_year_76 : decode cX11_year 76 = .ok (.iconst 5, 1) := by decide +kernel
theorem dX11_year_77 : decode cX11_year 77 = .ok (.iadd, 1) := by decide +kernel
theorem dX11_year_78 : decode cX11_year 78 = .ok (.aload_n 0, 1) := by decide +kernel
theorem dX11_year_79 : decode cX11_year 79 = .ok (.getfield 7, 3) := by decide +kernel
theorem dX11_year_82 : decode cX11_year 82 = .ok (.iload_n 3, 1) := by decide +kernel
theorem dX11_year_83 : decode cX11_year 83 = .ok (.iconst 5, 1) := by decide +kernel
theorem dX11_year_84 : decode cX11_year 84 = .ok (.iadd, 1) := by decide +kernel
theorem dX11_year_85 : decode cX11_year 85 = .ok (.iaload, 1) := by decide +kernel
theorem dX11_year_86 : decode cX11_year 86 = .ok (.iconst 1, 1) := by decide +kernel
theorem dX11_year_87 : decode cX11_year 87 = .ok (.iadd, 1) := by decide +kernel
theorem dX11_year_88 : decode cX11_year 88 = .ok (.iconst 0, 1) := by decide +kernel
theorem dX11_year_89 : decode cX11_year 89 = .ok (.bipush 99, 2) := by decide +kernel
theorem dX11_year_91 : decode cX11_year 91 = .ok (.invokestatic 104, 3) := by decide +kernel
theorem dX11_year_94 : decode cX11_year 94 = .ok (.iastore, 1) := by decide +kernel
theorem dX11_year_95 : decode cX11_year 95 = .ok (.iinc 2 1, 3) := by decide +kernel
theorem dX11_year_98 : decode cX11_year 98 = .ok (.goto (-94), 3) := by decide +kernel
theorem dX11_year_101 : decode cX11_year 101 = .ok (.iload_n 1, 1) := by decide +kernel
theorem dX11_year_102 : decode cX11_year 102 = .ok (.ireturn, 1) := by decide +kernel
theorem dX11_years_0 : decode cX11_years 0 = .ok (.iload_n 1, 1) := by decide +kernel
theorem dX11_years_1 : decode cX11_years 1 = .ok (.i2l, 1) := by decide +kernel
theorem dX11_years_2 : decode cX11_years 2 = .ok (.lconst 1, 1) := by decide +kernel
theorem dX11_years_3 : decode cX11_years 3 = .ok (.ldc2_w 206, 3) := by decide +kernel
theorem dX11_years_6 : decode cX11_years 6 = .ok (.invokestatic 71, 3) := by decide +kernel
theorem dX11_years_9 : decode cX11_years 9 = .ok (.ifCond .ne 6, 3) := by decide +kernel
theorem dX11_years_12 : decode cX11_years 12 = .ok (.ldc 87, 2) := by decide +kernel
theorem dX11_years_14 : decode cX11_years 14 = .ok (.ireturn, 1) := by decide +kernel
theorem dX11_years_15 : decode cX11_years 15 = .ok (.iconst 0, 1) := by decide +kernel
theorem dX11_years_16 : decode cX11_years 16 = .ok (.istore_n 2, 1) := by decide +kernel
theorem dX11_years_17 : decode cX11_years 17 = .ok (.iconst 0, 1) := by decide +kernel
theorem dX11_years_18 : decode cX11_years 18 = .ok (.istore_n 3, 1) := by decide +kernel
theorem dX11_years_19 : decode cX11_years 19 = .ok (.iload_n 3, 1) := by decide +kernel
theorem dX11_years_20 : decode cX11_years 20 = .ok (.iload_n 1, 1) := by decide +kernel
theorem dX11_years_21 : decode cX11_years 21 = .ok (.if_icmp .ge 16, 3) := by decide +kernel
theorem dX11_years_24 : decode cX11_years 24 = .ok (.iload_n 2, 1) := by decide +kernel
theorem dX11_years_25 : decode cX11_years 25 = .ok (.aload_n 0, 1) := by decide +kernel
theorem dX11_years_26 : decode cX11_years 26 = .ok (.invokevirtual 208, 3) := by decide +kernel
theorem dX11_years_29 : decode cX11_years 29 = .ok (.iadd, 1) := by decide +kernel
theorem dX11_years_30 : decode cX11_years 30 = .ok (.istore_n 2, 1) := by decide +kernel
theorem dX11_years_31 : decode cX11_years 31 = .ok (.iinc 3 1, 3) := by decide +kernel
theorem dX11_years_34 : decode cX11_years 34 = .ok (.goto (-15), 3) := by decide +kernel
theorem dX11_years_37 : decode cX11_years 37 = .ok (.iload_n 2, 1) := by decide +kernel
theorem dX11_years_38 : decode cX11_years 38 = .ok (.ireturn, 1) := by decide +kernel
theorem dX11_gone_0 : decode cX11_gone 0 = .ok (.iload_n 1, 1) := by decide +kernel
theorem dX11_gone_1 : decode cX11_gone 1 = .ok (.i2l, 1) := by decide +kernel
theorem dX11_gone_2 : decode cX11_gone 2 = .ok (.lconst 0, 1) := by decide +kernel
theorem dX11_gone_3 : decode cX11_gone 3 = .ok (.ldc2_w 206, 3) := by decide +kernel
theorem dX11_gone_6 : decode cX11_gone 6 = .ok (.invokestatic 71, 3) := by decide +kernel
theorem dX11_gone_9 : decode cX11_gone 9 = .ok (.ifCond .ne 6, 3) := by decide +kernel
theorem dX11_gone_12 : decode cX11_gone 12 = .ok (.ldc 87, 2) := by decide +kernel
theorem dX11_gone_14 : decode cX11_gone 14 = .ok (.ireturn, 1) := by decide +kernel
theorem dX11_gone_15 : decode cX11_gone 15 = .ok (.aload_n 0, 1) := by decide +kernel
theorem dX11_gone_16 : decode cX11_gone 16 = .ok (.invokevirtual 186, 3) := by decide +kernel
theorem dX11_gone_19 : decode cX11_gone 19 = .ok (.aload_n 0, 1) := by decide +kernel
theorem dX11_gone_20 : decode cX11_gone 20 = .ok (.invokevirtual 203, 3) := by decide +kernel
theorem dX11_gone_23 : decode cX11_gone 23 = .ok (.istore_n 2, 1) := by decide +kernel
theorem dX11_gone_24 : decode cX11_gone 24 = .ok (.iconst 0, 1) := by decide +kernel
theorem dX11_gone_25 : decode cX11_gone 25 = .ok (.istore_n 3, 1) := by decide +kernel
theorem dX11_gone_26 : decode cX11_gone 26 = .ok (.iconst 0, 1) := by decide +kernel
theorem dX11_gone_27 : decode cX11_gone 27 = .ok (.istore 4, 2) := by decide +kernel
theorem dX11_gone_29 : decode cX11_gone 29 = .ok (.iload 4, 2) := by decide +kernel
theorem dX11_gone_31 : decode cX11_gone 31 = .ok (.iload_n 1, 1) := by decide +kernel
theorem dX11_gone_32 : decode cX11_gone 32 = .ok (.if_icmp .ge 16, 3) := by decide +kernel
theorem dX11_gone_35 : decode cX11_gone 35 = .ok (.iload_n 3, 1) := by decide +kernel
theorem dX11_gone_36 : decode cX11_gone 36 = .ok (.aload_n 0, 1) := by decide +kernel
theorem dX11_gone_37 : decode cX11_gone 37 = .ok (.invokevirtual 208, 3) := by decide +kernel
theorem dX11_gone_40 : decode cX11_gone 40 = .ok (.iadd, 1) := by decide +kernel
theorem dX11_gone_41 : decode cX11_gone 41 = .ok (.istore_n 3, 1) := by decide +kernel
theorem dX11_gone_42 : decode cX11_gone 42 = .ok (.iinc 4 1, 3) := by decide +kernel
theorem dX11_gone_45 : decode cX11_gone 45 = .ok (.goto (-16), 3) := by decide +kernel
theorem dX11_gone_48 : decode cX11_gone 48 = .ok (.iload_n 2, 1) := by decide +kernel
theorem dX11_gone_49 : decode cX11_gone 49 = .ok (.aload_n 0, 1) := by decide +kernel
theorem dX11_gone_50 : decode cX11_gone 50 = .ok (.invokevirtual 203, 3) := by decide +kernel
theorem dX11_gone_53 : decode cX11_gone 53 = .ok (.iconst (-1), 1) := by decide +kernel
theorem dX11_gone_54 : decode cX11_gone 54 = .ok (.ixor, 1) := by decide +kernel
theorem dX11_gone_55 : decode cX11_gone 55 = .ok (.iand, 1) := by decide +kernel
theorem dX11_gone_56 : decode cX11_gone 56 = .ok (.invokestatic 108, 3) := by decide +kernel
theorem dX11_gone_59 : decode cX11_gone 59 = .ok (.istore 4, 2) := by decide +kernel
theorem dX11_gone_61 : decode cX11_gone 61 = .ok (.aload_n 0, 1) := by decide +kernel
theorem dX11_gone_62 : decode cX11_gone 62 = .ok (.invokevirtual 192, 3) := by decide +kernel
theorem dX11_gone_65 : decode cX11_gone 65 = .ok (.iload 4, 2) := by decide +kernel
theorem dX11_gone_67 : decode cX11_gone 67 = .ok (.ireturn, 1) := by decide +kernel
theorem dX11_farFrom_0 : decode cX11_farFrom 0 = .ok (.iconst 0, 1) := by decide +kernel
theorem dX11_farFrom_1 : decode cX11_farFrom 1 = .ok (.istore_n 2, 1) := by decide +kernel
theorem dX11_farFrom_2 : decode cX11_farFrom 2 = .ok (.iconst 0, 1) := by decide +kernel
theorem dX11_farFrom_3 : decode cX11_farFrom 3 = .ok (.istore_n 3, 1) := by decide +kernel
theorem dX11_farFrom_4 : decode cX11_farFrom 4 = .ok (.iload_n 3, 1) := by decide +kernel
theorem dX11_farFrom_5 : decode cX11_farFrom 5 = .ok (.aload_n 0, 1) := by decide +kernel
theorem dX11_farFrom_6 : decode cX11_farFrom 6 = .ok (.getfield 7, 3) := by decide +kernel
theorem dX11_farFrom_9 : decode cX11_farFrom 9 = .ok (.iconst 0, 1) := by decide +kernel
theorem dX11_farFrom_10 : decode cX11_farFrom 10 = .ok (.iaload, 1) := by decide +kernel
theorem dX11_farFrom_11 : decode cX11_farFrom 11 = .ok (.if_icmp .ge 42, 3) := by decide +kernel
theorem dX11_farFrom_14 : decode cX11_farFrom 14 = .ok (.iload_n 2, 1) := by decide +kernel
theorem dX11_farFrom_15 : decode cX11_farFrom 15 = .ok (.aload_n 0, 1) := by decide +kernel
theorem dX11_farFrom_16 : decode cX11_farFrom 16 = .ok (.iload_n 3, 1) := by decide +kernel
theorem dX11_farFrom_17 : decode cX11_farFrom 17 = .ok (.bipush 6, 2) := by decide +kernel
theorem dX11_farFrom_19 : decode cX11_farFrom 19 = .ok (.invokevirtual 97, 3) := by decide +kernel
theorem dX11_farFrom_22 : decode cX11_farFrom 22 = .ok (.ifCond .ne 22, 3) := by decide +kernel
theorem dX11_farFrom_25 : decode cX11_farFrom 25 = .ok (.aload_n 0, 1) := by decide +kernel
theorem dX11_farFrom_26 : decode cX11_farFrom 26 = .ok (.getfield 43, 3) := by decide +kernel
theorem dX11_farFrom_29 : decode cX11_farFrom 29 = .ok (.bipush 6, 2) := by decide +kernel
theorem dX11_farFrom_31 : decode cX11_farFrom 31 = .ok (.iload_n 1, 1) := by decide +kernel
theorem dX11_farFrom_32 : decode cX11_farFrom 32 = .ok (.imul, 1) := by decide +kernel
theorem dX11_farFrom_33 : decode cX11_farFrom 33 = .ok (.aload_n 0, 1) := by decide +kernel
theorem dX11_farFrom_34 : decode cX11_farFrom 34 = .ok (.iload_n 3, 1) := by decide +kernel
theorem dX11_farFrom_35 : decode cX11_farFrom 35 = .ok (.iconst 1, 1) := by decide +kernel
theorem dX11_farFrom_36 : decode cX11_farFrom 36 = .ok (.invokevirtual 97, 3) := by decide +kernel
theorem dX11_farFrom_39 : decode cX11_farFrom 39 = .ok (.iadd, 1) := by decide +kernel
theorem dX11_farFrom_40 : decode cX11_farFrom 40 = .ok (.iaload, 1) := by decide +kernel
theorem dX11_farFrom_41 : decode cX11_farFrom 41 = .ok (.goto 4, 3) := by decide +kernel
theorem dX11_farFrom_44 : decode cX11_farFrom 44 = .ok (.iconst 0, 1) := by decide +kernel
theorem dX11_farFrom_45 : decode cX11_farFrom 45 = .ok (.iadd, 1) := by decide +kernel
theorem dX11_farFrom_46 : decode cX11_farFrom 46 = .ok (.istore_n 2, 1) := by decide +kernel
theorem dX11_farFrom_47 : decode cX11_farFrom 47 = .ok (.iinc 3 1, 3) := by decide +kernel
theorem dX11_farFrom_50 : decode cX11_farFrom 50 = .ok (.goto (-46), 3) := by decide +kernel
theorem dX11_farFrom_53 : decode cX11_farFrom 53 = .ok (.iload_n 2, 1) := by decide +kernel
theorem dX11_farFrom_54 : decode cX11_farFrom 54 = .ok (.ireturn, 1) := by decide +kernel
theorem dX11_fresh_0 : decode cX11_fresh 0 = .ok (.aload_n 0, 1) := by decide +kernel
theorem dX11_fresh_1 : decode cX11_fresh 1 = .ok (.invokevirtual 137, 3) := by decide +kernel
theorem dX11_fresh_4 : decode cX11_fresh 4 = .ok (.iconst 0, 1) := by decide +kernel
theorem dX11_fresh_5 : decode cX11_fresh 5 = .ok (.istore_n 1, 1) := by decide +kernel
theorem dX11_fresh_6 : decode cX11_fresh 6 = .ok (.iconst 1, 1) := by decide +kernel
theorem dX11_fresh_7 : decode cX11_fresh 7 = .ok (.istore_n 2, 1) := by decide +kernel
theorem dX11_fresh_8 : decode cX11_fresh 8 = .ok (.iload_n 2, 1) := by decide +kernel
theorem dX11_fresh_9 : decode cX11_fresh 9 = .ok (.bipush 6, 2) := by decide +kernel
theorem dX11_fresh_11 : decode cX11_fresh 11 = .ok (.if_icmp .ge 28, 3) := by decide +kernel
theorem dX11_fresh_14 : decode cX11_fresh 14 = .ok (.aload_n 0, 1) := by decide +kernel
theorem dX11_fresh_15 : decode cX11_fresh 15 = .ok (.iload_n 2, 1) := by decide +kernel
theorem dX11_fresh_16 : decode cX11_fresh 16 = .ok (.invokevirtual 211, 3) := by decide +kernel
theorem dX11_fresh_19 : decode cX11_fresh 19 = .ok (.aload_n 0, 1) := by decide +kernel
theorem dX11_fresh_20 : decode cX11_fresh 20 = .ok (.iload_n 1, 1) := by decide +kernel
theorem dX11_fresh_21 : decode cX11_fresh 21 = .ok (.invokevirtual 211, 3) := by decide +kernel
theorem dX11_fresh_24 : decode cX11_fresh 24 = .ok (.if_icmp .ge 7, 3) := by decide +kernel
theorem dX11_fresh_27 : decode cX11_fresh 27 = .ok (.iload_n 2, 1) := by decide +kernel
theorem dX11_fresh_28 : decode cX11_fresh 28 = .ok (.goto 4, 3) := by decide +kernel
theorem dX11_fresh_31 : decode cX11_fresh 31 = .ok (.iload_n 1, 1) := by decide +kernel
theorem dX11_fresh_32 : decode cX11_fresh 32 = .ok (.istore_n 1, 1) := by decide +kernel
theorem dX11_fresh_33 : decode cX11_fresh 33 = .ok (.iinc 2 1, 3) := by decide +kernel
theorem dX11_fresh_36 : decode cX11_fresh 36 = .ok (.goto (-28), 3) := by decide +kernel
theorem dX11_fresh_39 : decode cX11_fresh 39 = .ok (.iload_n 1, 1) := by decide +kernel
theorem dX11_fresh_40 : decode cX11_fresh 40 = .ok (.ireturn, 1) := by decide +kernel
theorem dX11_fame_0 : decode cX11_fame 0 = .ok (.aload_n 0, 1) := by decide +kernel
theorem dX11_fame_1 : decode cX11_fame 1 = .ok (.iload_n 1, 1) := by decide +kernel
theorem dX11_fame_2 : decode cX11_fame 2 = .ok (.invokevirtual 111, 3) := by decide +kernel
theorem dX11_fame_5 : decode cX11_fame 5 = .ok (.ifCond .ne 6, 3) := by decide +kernel
theorem dX11_fame_8 : decode cX11_fame 8 = .ok (.ldc 87, 2) := by decide +kernel
theorem dX11_fame_10 : decode cX11_fame 10 = .ok (.ireturn, 1) := by decide +kernel
theorem dX11_fame_11 : decode cX11_fame 11 = .ok (.aload_n 0, 1) := by decide +kernel
theorem dX11_fame_12 : decode cX11_fame 12 = .ok (.iconst 1, 1) := by decide +kernel
theorem dX11_fame_13 : decode cX11_fame 13 = .ok (.invokevirtual 93, 3) := by decide +kernel
theorem dX11_fame_16 : decode cX11_fame 16 = .ok (.istore_n 2, 1) := by decide +kernel
theorem dX11_fame_17 : decode cX11_fame 17 = .ok (.iload_n 2, 1) := by decide +kernel
theorem dX11_fame_18 : decode cX11_fame 18 = .ok (.ifCond .ge 10, 3) := by decide +kernel
theorem dX11_fame_21 : decode cX11_fame 21 = .ok (.aload_n 0, 1) := by decide +kernel
theorem dX11_fame_22 : decode cX11_fame 22 = .ok (.iload_n 1, 1) := by decide +kernel
theorem dX11_fame_23 : decode cX11_fame 23 = .ok (.iconst 4, 1) := by decide +kernel
theorem dX11_fame_24 : decode cX11_fame 24 = .ok (.invokevirtual 97, 3) := by decide +kernel
theorem dX11_fame_27 : decode cX11_fame 27 = .ok (.ireturn, 1) := by decide +kernel
theorem dX11_fame_28 : decode cX11_fame 28 = .ok (.aload_n 0, 1) := by decide +kernel
theorem dX11_fame_29 : decode cX11_fame 29 = .ok (.getfield 55, 3) := by decide +kernel
theorem dX11_fame_32 : decode cX11_fame 32 = .ok (.bipush 102, 2) := by decide +kernel
theorem dX11_fame_34 : decode cX11_fame 34 = .ok (.aload_n 0, 1) := by decide +kernel
theorem dX11_fame_35 : decode cX11_fame 35 = .ok (.iload_n 1, 1) := by decide +kernel
theorem dX11_fame_36 : decode cX11_fame 36 = .ok (.iconst 4, 1) := by decide +kernel
theorem dX11_fame_37 : decode cX11_fame 37 = .ok (.invokevirtual 97, 3) := by decide +kernel
theorem dX11_fame_40 : decode cX11_fame 40 = .ok (.iastore, 1) := by decide +kernel
theorem dX11_fame_41 : decode cX11_fame 41 = .ok (.aload_n 0, 1) := by decide +kernel
theorem dX11_fame_42 : decode cX11_fame 42 = .ok (.getfield 55, 3) := by decide +kernel
theorem dX11_fame_45 : decode cX11_fame 45 = .ok (.bipush 97, 2) := by decide +kernel
theorem dX11_fame_47 : decode cX11_fame 47 = .ok (.aload_n 0, 1) := by decide +kernel
theorem dX11_fame_48 : decode cX11_fame 48 = .ok (.iload_n 1, 1) := by decide +kernel
theorem dX11_fame_49 : decode cX11_fame 49 = .ok (.iconst 5, 1) := by decide +kernel
theorem dX11_fame_50 : decode cX11_fame 50 = .ok (.invokevirtual 97, 3) := by decide +kernel
theorem dX11_fame_53 : decode cX11_fame 53 = .ok (.iastore, 1) := by decide +kernel
theorem dX11_fame_54 : decode cX11_fame 54 = .ok (.aload_n 0, 1) := by decide +kernel
theorem dX11_fame_55 : decode cX11_fame 55 = .ok (.iload_n 2, 1) := by decide +kernel
theorem dX11_fame_56 : decode cX11_fame 56 = .ok (.invokevirtual 101, 3) := by decide +kernel
theorem dX11_fame_59 : decode cX11_fame 59 = .ok (.ireturn, 1) := by decide +kernel
theorem dX11_fine_0 : decode cX11_fine 0 = .ok (.aload_n 0, 1) := by decide +kernel
theorem dX11_fine_1 : decode cX11_fine 1 = .ok (.iconst 2, 1) := by decide +kernel
theorem dX11_fine_2 : decode cX11_fine 2 = .ok (.invokevirtual 93, 3) := by decide +kernel
theorem dX11_fine_5 : decode cX11_fine 5 = .ok (.istore_n 1, 1) := by decide +kernel
theorem dX11_fine_6 : decode cX11_fine 6 = .ok (.iload_n 1, 1) := by decide +kernel
theorem dX11_fine_7 : decode cX11_fine 7 = .ok (.ifCond .ge 10, 3) := by decide +kernel
theorem dX11_fine_10 : decode cX11_fine 10 = .ok (.aload_n 0, 1) := by decide +kernel
theorem dX11_fine_11 : decode cX11_fine 11 = .ok (.getfield 7, 3) := by decide +kernel
theorem dX11_fine_14 : decode cX11_fine 14 = .ok (.iconst 5, 1) := by decide +kernel
theorem dX11_fine_15 : decode cX11_fine 15 = .ok (.iaload, 1) := by decide +kernel
theorem dX11_fine_16 : decode cX11_fine 16 = .ok (.ireturn, 1) := by decide +kernel
theorem dX11_fine_17 : decode cX11_fine 17 = .ok (.aload_n 0, 1) := by decide +kernel
theorem dX11_fine_18 : decode cX11_fine 18 = .ok (.getfield 55, 3) := by decide +kernel
theorem dX11_fine_21 : decode cX11_fine 21 = .ok (.bipush 99, 2) := by decide +kernel
theorem dX11_fine_23 : decode cX11_fine 23 = .ok (.aload_n 0, 1) := by decide +kernel
theorem dX11_fine_24 : decode cX11_fine 24 = .ok (.getfield 7, 3) := by decide +kernel
theorem dX11_fine_27 : decode cX11_fine 27 = .ok (.iconst 5, 1) := by decide +kernel
theorem dX11_fine_28 : decode cX11_fine 28 = .ok (.iaload, 1) := by decide +kernel
theorem dX11_fine_29 : decode cX11_fine 29 = .ok (.iastore, 1) := by decide +kernel
theorem dX11_fine_30 : decode cX11_fine 30 = .ok (.aload_n 0, 1) := by decide +kernel
theorem dX11_fine_31 : decode cX11_fine 31 = .ok (.getfield 55, 3) := by decide +kernel
theorem dX11_fine_34 : decode cX11_fine 34 = .ok (.bipush 100, 2) := by decide +kernel
theorem dX11_fine_36 : decode cX11_fine 36 = .ok (.aload_n 0, 1) := by decide +kernel
theorem dX11_fine_37 : decode cX11_fine 37 = .ok (.getfield 7, 3) := by decide +kernel
theorem dX11_fine_40 : decode cX11_fine 40 = .ok (.iconst 2, 1) := by decide +kernel
theorem dX11_fine_41 : decode cX11_fine 41 = .ok (.iaload, 1) := by decide +kernel
theorem dX11_fine_42 : decode cX11_fine 42 = .ok (.iastore, 1) := by decide +kernel
theorem dX11_fine_43 : decode cX11_fine 43 = .ok (.aload_n 0, 1) := by decide +kernel
theorem dX11_fine_44 : decode cX11_fine 44 = .ok (.iload_n 1, 1) := by decide +kernel
theorem dX11_fine_45 : decode cX11_fine 45 = .ok (.invokevirtual 101, 3) := by decide +kernel
theorem dX11_fine_48 : decode cX11_fine 48 = .ok (.ireturn, 1) := by decide +kernel
theorem dX11_feed_0 : decode cX11_feed 0 = .ok (.aload_n 0, 1) := by decide +kernel
theorem dX11_feed_1 : decode cX11_feed 1 = .ok (.getfield 214, 3) := by decide +kernel
theorem dX11_feed_4 : decode cX11_feed 4 = .ok (.bipush 12, 2) := by decide +kernel
theorem dX11_feed_6 : decode cX11_feed 6 = .ok (.iadd, 1) := by decide +kernel
theorem dX11_feed_7 : decode cX11_feed 7 = .ok (.bipush 96, 2) := by decide +kernel
theorem dX11_feed_9 : decode cX11_feed 9 = .ok (.if_icmp .le 6, 3) := by decide +kernel
theorem dX11_feed_12 : decode cX11_feed 12 = .ok (.ldc 88, 2) := by decide +kernel
theorem dX11_feed_14 : decode cX11_feed 14 = .ok (.ireturn, 1) := by decide +kernel
theorem dX11_feed_15 : decode cX11_feed 15 = .ok (.iconst 0, 1) := by decide +kernel
theorem dX11_feed_16 : decode cX11_feed 16 = .ok (.istore 4, 2) := by decide +kernel
theorem dX11_feed_18 : decode cX11_feed 18 = .ok (.iload 4, 2) := by decide +kernel
theorem dX11_feed_20 : decode cX11_feed 20 = .ok (.bipush 12, 2) := by decide +kernel
theorem dX11_feed_22 : decode cX11_feed 22 = .ok (.if_icmp .ge 69, 3) := by decide +kernel
theorem dX11_feed_25 : decode cX11_feed 25 = .ok (.iload 4, 2) := by decide +kernel
theorem dX11_feed_27 : decode cX11_feed 27 = .ok (.iconst 4, 1) := by decide +kernel
theorem dX11_feed_28 : decode cX11_feed 28 = .ok (.if_icmp .ge 7, 3) := by decide +kernel
theorem dX11_feed_31 : decode cX11_feed 31 = .ok (.iload_n 1, 1) := by decide +kernel
theorem dX11_feed_32 : decode cX11_feed 32 = .ok (.goto 15, 3) := by decide +kernel
theorem dX11_feed_35 : decode cX11_feed 35 = .ok (.iload 4, 2) := by decide +kernel
theorem dX11_feed_37 : decode cX11_feed 37 = .ok (.bipush 8, 2) := by decide +kernel
theorem dX11_feed_39 : decode cX11_feed 39 = .ok (.if_icmp .ge 7, 3) := by decide +kernel
theorem dX11_feed_42 : decode cX11_feed 42 = .ok (.iload_n 2, 1) := by decide +kernel
theorem dX11_feed_43 : decode cX11_feed 43 = .ok (.goto 4, 3) := by decide +kernel
theorem dX11_feed_46 : decode cX11_feed 46 = .ok (.iload_n 3, 1) := by decide +kernel
theorem dX11_feed_47 : decode cX11_feed 47 = .ok (.istore 5, 2) := by decide +kernel
theorem dX11_feed_49 : decode cX11_feed 49 = .ok (.aload_n 0, 1) := by decide +kernel
theorem dX11_feed_50 : decode cX11_feed 50 = .ok (.getfield 52, 3) := by decide +kernel
theorem dX11_feed_53 : decode cX11_feed 53 = .ok (.aload_n 0, 1) := by decide +kernel
theorem dX11_feed_54 : decode cX11_feed 54 = .ok (.getfield 214, 3) := by decide +kernel
theorem dX11_feed_57 : decode cX11_feed 57 = .ok (.iload 5, 2) := by decide +kernel
theorem dX11_feed_59 : decode cX11_feed 59 = .ok (.bipush 24, 2) := by decide +kernel
theorem dX11_feed_61 : decode cX11_feed 61 = .ok (.bipush 8, 2) := by decide +kernel
theorem dX11_feed_63 : decode cX11_feed 63 = .ok (.iload 4, 2) := by decide +kernel
theorem dX11_feed_65 : decode cX11_feed 65 = .ok (.iconst 4, 1) := by decide +kernel
theorem dX11_feed_66 : decode cX11_feed 66 = .ok (.irem, 1) := by decide +kernel
theorem dX11_feed_67 : decode cX11_feed 67 = .ok (.imul, 1) := by decide +kernel
theorem dX11_feed_68 : decode cX11_feed 68 = .ok (.isub, 1) := by decide +kernel
theorem dX11_feed_69 : decode cX11_feed 69 = .ok (.ishr, 1) := by decide +kernel
theorem dX11_feed_70 : decode cX11_feed 70 = .ok (.sipush 255, 3) := by decide +kernel
theorem dX11_feed_73 : decode cX11_feed 73 = .ok (.iand, 1) := by decide +kernel
theorem dX11_feed_74 : decode cX11_feed 74 = .ok (.iastore, 1) := by decide +kernel
theorem dX11_feed_75 : decode cX11_feed 75 = .ok (.aload_n 0, 1) := by decide +kernel
theorem dX11_feed_76 : decode cX11_feed 76 = .ok (.dup, 1) := by decide +kernel
theorem dX11_feed_77 : decode cX11_feed 77 = .ok (.getfield 214, 3) := by decide +kernel
theorem dX11_feed_80 : decode cX11_feed 80 = .ok (.iconst 1, 1) := by decide +kernel
theorem dX11_feed_81 : decode cX11_feed 81 = .ok (.iadd, 1) := by decide +kernel
theorem dX11_feed_82 : decode cX11_feed 82 = .ok (.putfield 214, 3) := by decide +kernel
theorem dX11_feed_85 : decode cX11_feed 85 = .ok (.iinc 4 1, 3) := by decide +kernel
theorem dX11_feed_88 : decode cX11_feed 88 = .ok (.goto (-70), 3) := by decide +kernel
theorem dX11_feed_91 : decode cX11_feed 91 = .ok (.aload_n 0, 1) := by decide +kernel
theorem dX11_feed_92 : decode cX11_feed 92 = .ok (.getfield 214, 3) := by decide +kernel
theorem dX11_feed_95 : decode cX11_feed 95 = .ok (.ireturn, 1) := by decide +kernel
theorem dX11_trim_0 : decode cX11_trim 0 = .ok (.iload_n 1, 1) := by decide +kernel
theorem dX11_trim_1 : decode cX11_trim 1 = .ok (.i2l, 1) := by decide +kernel
theorem dX11_trim_2 : decode cX11_trim 2 = .ok (.lconst 0, 1) := by decide +kernel
theorem dX11_trim_3 : decode cX11_trim 3 = .ok (.aload_n 0, 1) := by decide +kernel
theorem dX11_trim_4 : decode cX11_trim 4 = .ok (.getfield 214, 3) := by decide +kernel
theorem dX11_trim_7 : decode cX11_trim 7 = .ok (.i2l, 1) := by decide +kernel
theorem dX11_trim_8 : decode cX11_trim 8 = .ok (.invokestatic 71, 3) := by decide +kernel
theorem dX11_trim_11 : decode cX11_trim 11 = .ok (.ifCond .ne 6, 3) := by decide +kernel
theorem dX11_trim_14 : decode cX11_trim 14 = .ok (.ldc 87, 2) := by decide +kernel
theorem dX11_trim_16 : decode cX11_trim 16 = .ok (.ireturn, 1) := by decide +kernel
theorem dX11_trim_17 : decode cX11_trim 17 = .ok (.aload_n 0, 1) := by decide +kernel
theorem dX11_trim_18 : decode cX11_trim 18 = .ok (.iload_n 1, 1) := by decide +kernel
theorem dX11_trim_19 : decode cX11_trim 19 = .ok (.putfield 214, 3) := by decide +kernel
theorem dX11_trim_22 : decode cX11_trim 22 = .ok (.iload_n 1, 1) := by decide +kernel
theorem dX11_trim_23 : decode cX11_trim 23 = .ok (.ireturn, 1) := by decide +kernel
theorem dX11_isLetter_0 : decode cX11_isLetter 0 = .ok (.iload_n 1, 1) := by decide +kernel
theorem dX11_isLetter_1 : decode cX11_isLetter 1 = .ok (.aload_n 0, 1) := by decide +kernel
theorem dX11_isLetter_2 : decode cX11_isLetter 2 = .ok (.getfield 214, 3) := by decide +kernel
theorem dX11_isLetter_5 : decode cX11_isLetter 5 = .ok (.if_icmp .ge 26, 3) := by decide +kernel
theorem dX11_isLetter_8 : decode cX11_isLetter 8 = .ok (.aload_n 0, 1) := by decide +kernel
theorem dX11_isLetter_9 : decode cX11_isLetter 9 = .ok (.getfield 52, 3) := by decide +kernel
theorem dX11_isLetter_12 : decode cX11_isLetter 12 = .ok (.iload_n 1, 1) := by decide +kernel
theorem dX11_isLetter_13 : decode cX11_isLetter 13 = .ok (.iaload, 1) := by decide +kernel
theorem dX11_isLetter_14 : decode cX11_isLetter 14 = .ok (.i2l, 1) := by decide +kernel
theorem dX11_isLetter_15 : decode cX11_isLetter 15 = .ok (.ldc2_w 217, 3) := by decide +kernel
theorem dX11_isLetter_18 : decode cX11_isLetter 18 = .ok (.ldc2_w 219, 3) := by decide +kernel
theorem dX11_isLetter_21 : decode cX11_isLetter 21 = .ok (.invokestatic 71, 3) := by decide +kernel
theorem dX11_isLetter_24 : decode cX11_isLetter 24 = .ok (.ifCond .eq 7, 3) := by decide +kernel
theorem dX11_isLetter_27 : decode cX11_isLetter 27 = .ok (.iconst 1, 1) := by decide +kernel
theorem dX11_isLetter_28 : decode cX11_isLetter 28 = .ok (.goto 4, 3) := by decide +kernel
theorem dX11_isLetter_31 : decode cX11_isLetter 31 = .ok (.iconst 0, 1) := by decide +kernel
theorem dX11_isLetter_32 : decode cX11_isLetter 32 = .ok (.ireturn, 1) := by decide +kernel
theorem dX11_isDigit_0 : decode cX11_isDigit 0 = .ok (.iload_n 1, 1) := by decide +kernel
theorem dX11_isDigit_1 : decode cX11_isDigit 1 = .ok (.aload_n 0, 1) := by decide +kernel
theorem dX11_isDigit_2 : decode cX11_isDigit 2 = .ok (.getfield 214, 3) := by decide +kernel
theorem dX11_isDigit_5 : decode cX11_isDigit 5 = .ok (.if_icmp .ge 26, 3) := by decide +kernel
theorem dX11_isDigit_8 : decode cX11_isDigit 8 = .ok (.aload_n 0, 1) := by decide +kernel
theorem dX11_isDigit_9 : decode cX11_isDigit 9 = .ok (.getfield 52, 3) := by decide +kernel
theorem dX11_isDigit_12 : decode cX11_isDigit 12 = .ok (.iload_n 1, 1) := by decide +kernel
theorem dX11_isDigit_13 : decode cX11_isDigit 13 = .ok (.iaload, 1) := by decide +kernel
theorem dX11_isDigit_14 : decode cX11_isDigit 14 = .ok (.i2l, 1) := by decide +kernel
theorem dX11_isDigit_15 : decode cX11_isDigit 15 = .ok (.ldc2_w 221, 3) := by decide +kernel
theorem dX11_isDigit_18 : decode cX11_isDigit 18 = .ok (.ldc2_w 223, 3) := by decide +kernel
theorem dX11_isDigit_21 : decode cX11_isDigit 21 = .ok (.invokestatic 71, 3) := by decide +kernel
theorem dX11_isDigit_24 : decode cX11_isDigit 24 = .ok (.ifCond .eq 7, 3) := by decide +kernel
theorem dX11_isDigit_27 : decode cX11_isDigit 27 = .ok (.iconst 1, 1) := by decide +kernel
theorem dX11_isDigit_28 : decode cX11_isDigit 28 = .ok (.goto 4, 3) := by decide +kernel
theorem dX11_isDigit_31 : decode cX11_isDigit 31 = .ok (.iconst 0, 1) := by decide +kernel
theorem dX11_isDigit_32 : decode cX11_isDigit 32 = .ok (.ireturn, 1) := by decide +kernel
theorem dX11_nextToken_0 : decode cX11_nextToken 0 = .ok (.aload_n 0, 1) := by decide +kernel
theorem dX11_nextToken_1 : decode cX11_nextToken 1 = .ok (.getfield 225, 3) := by decide +kernel
theorem dX11_nextToken_4 : decode cX11_nextToken 4 = .ok (.ifCond .le 23, 3) := by decide +kernel
theorem dX11_nextToken_7 : decode cX11_nextToken 7 = .ok (.aload_n 0, 1) := by decide +kernel
theorem dX11_nextToken_8 : decode cX11_nextToken 8 = .ok (.getfield 228, 3) := by decide +kernel
theorem dX11_nextToken_11 : decode cX11_nextToken 11 = .ok (.iconst 1, 1) := by decide +kernel
theorem dX11_nextToken_12 : decode cX11_nextToken 12 = .ok (.if_icmp .eq 11, 3) := by decide +kernel
theorem dX11_nextToken_15 : decode cX11_nextToken 15 = .ok (.aload_n 0, 1) := by decide +kernel
theorem dX11_nextToken_16 : decode cX11_nextToken 16 = .ok (.getfield 228, 3) := by decide +kernel
theorem dX11_nextToken_19 : decode cX11_nextToken 19 = .ok (.iconst 2, 1) := by decide +kernel
theorem dX11_nextToken_20 : decode cX11_nextToken 20 = .ok (.if_icmp .ne 7, 3) := by decide +kernel
theorem dX11_nextToken_23 : decode cX11_nextToken 23 = .ok (.iconst 1, 1) := by decide +kernel
theorem dX11_nextToken_24 : decode cX11_nextToken 24 = .ok (.goto 4, 3) := by decide +kernel
theorem dX11_nextToken_27 : decode cX11_nextToken 27 = .ok (.iconst 0, 1) := by decide +kernel
theorem dX11_nextToken_28 : decode cX11_nextToken 28 = .ok (.istore_n 1, 1) := by decide +kernel
theorem dX11_nextToken_29 : decode cX11_nextToken 29 = .ok (.aload_n 0, 1) := by decide +kernel
theorem dX11_nextToken_30 : decode cX11_nextToken 30 = .ok (.getfield 225, 3) := by decide +kernel
theorem dX11_nextToken_33 : decode cX11_nextToken 33 = .ok (.istore_n 2, 1) := by decide +kernel
theorem dX11_nextToken_34 : decode cX11_nextToken 34 = .ok (.aload_n 0, 1) := by decide +kernel
theorem dX11_nextToken_35 : decode cX11_nextToken 35 = .ok (.getfield 225, 3) := by decide +kernel
theorem dX11_nextToken_38 : decode cX11_nextToken 38 = .ok (.aload_n 0, 1) := by decide +kernel
theorem dX11_nextToken_39 : decode cX11_nextToken 39 = .ok (.getfield 214, 3) := by decide +kernel
theorem dX11_nextToken_42 : decode cX11_nextToken 42 = .ok (.if_icmp .ge 30, 3) := by decide +kernel
theorem dX11_nextToken_45 : decode cX11_nextToken 45 = .ok (.aload_n 0, 1) := by decide +kernel
theorem dX11_nextToken_46 : decode cX11_nextToken 46 = .ok (.getfield 52, 3) := by decide +kernel
theorem dX11_nextToken_49 : decode cX11_nextToken 49 = .ok (.aload_n 0, 1) := by decide +kernel
theorem dX11_nextToken_50 : decode cX11_nextToken 50 = .ok (.getfield 225, 3) := by decide +kernel
theorem dX11_nextToken_53 : decode cX11_nextToken 53 = .ok (.iaload, 1) := by decide +kernel
theorem dX11_nextToken_54 : decode cX11_nextToken 54 = .ok (.bipush 32, 2) := by decide +kernel
theorem dX11_nextToken_56 : decode cX11_nextToken 56 = .ok (.if_icmp .ne 16, 3) := by decide +kernel
theorem dX11_nextToken_59 : decode cX11_nextToken 59 = .ok (.aload_n 0, 1) := by decide +kernel
theorem dX11_nextToken_60 : decode cX11_nextToken 60 = .ok (.dup, 1) := by decide +kernel
theorem dX11_nextToken_61 : decode cX11_nextToken 61 = .ok (.getfield 225, 3) := by decide +kernel
theorem dX11_nextToken_64 : decode cX11_nextToken 64 = .ok (.iconst 1, 1) := by decide +kernel
theorem dX11_nextToken_65 : decode cX11_nextToken 65 = .ok (.iadd, 1) := by decide +kernel
theorem dX11_nextToken_66 : decode cX11_nextToken 66 = .ok (.putfield 225, 3) := by decide +kernel
theorem dX11_nextToken_69 : decode cX11_nextToken 69 = .ok (.goto (-35), 3) := by decide +kernel
theorem dX11_nextToken_72 : decode cX11_nextToken 72 = .ok (.iload_n 1, 1) := by decide +kernel
theorem dX11_nextToken_73 : decode cX11_nextToken 73 = .ok (.ifCond .eq 15, 3) := by decide +kernel
theorem dX11_nextToken_76 : decode cX11_nextToken 76 = .ok (.iload_n 2, 1) := by decide +kernel
theorem dX11_nextToken_77 : decode cX11_nextToken 77 = .ok (.aload_n 0, 1) := by decide +kernel
theorem dX11_nextToken_78 : decode cX11_nextToken 78 = .ok (.getfield 225, 3) := by decide +kernel
theorem dX11_nextToken_81 : decode cX11_nextToken 81 = .ok (.if_icmp .ne 7, 3) := by decide +kernel
theorem dX11_nextToken_84 : decode cX11_nextToken 84 = .ok (.iconst 1, 1) := by decide +kernel
theorem dX11_nextToken_85 : decode cX11_nextToken 85 = .ok (.goto 4, 3) := by decide +kernel
theorem dX11_nextToken_88 : decode cX11_nextToken 88 = .ok (.iconst 0, 1) := by decide +kernel
theorem dX11_nextToken_89 : decode cX11_nextToken 89 = .ok (.istore_n 1, 1) := by decide +kernel
theorem dX11_nextToken_90 : decode cX11_nextToken 90 = .ok (.aload_n 0, 1) := by decide +kernel
theorem dX11_nextToken_91 : decode cX11_nextToken 91 = .ok (.aload_n 0, 1) := by decide +kernel
theorem dX11_nextToken_92 : decode cX11_nextToken 92 = .ok (.getfield 225, 3) := by decide +kernel
theorem dX11_nextToken_95 : decode cX11_nextToken 95 = .ok (.putfield 231, 3) := by decide +kernel
theorem dX11_nextToken_98 : decode cX11_nextToken 98 = .ok (.aload_n 0, 1) := by decide +kernel
theorem dX11_nextToken_99 : decode cX11_nextToken 99 = .ok (.getfield 231, 3) := by decide +kernel
theorem dX11_nextToken_102 : decode cX11_nextToken 102 = .ok (.aload_n 0, 1) := by decide +kernel
theorem dX11_nextToken_103 : decode cX11_nextToken 103 = .ok (.getfield 214, 3) := by decide +kernel
theorem dX11_nextToken_106 : decode cX11_nextToken 106 = .ok (.if_icmp .ne 11, 3) := by decide +kernel
theorem dX11_nextToken_109 : decode cX11_nextToken 109 = .ok (.aload_n 0, 1) := by decide +kernel
theorem dX11_nextToken_110 : decode cX11_nextToken 110 = .ok (.iconst 0, 1) := by decide +kernel
theorem dX11_nextToken_111 : decode cX11_nextToken 111 = .ok (.putfield 228, 3) := by decide +kernel
theorem dX11_nextToken_114 : decode cX11_nextToken 114 = .ok (.goto 225, 3) := by decide +kernel
theorem dX11_nextToken_117 : decode cX11_nextToken 117 = .ok (.aload_n 0, 1) := by decide +kernel
theorem dX11_nextToken_118 : decode cX11_nextToken 118 = .ok (.aload_n 0, 1) := by decide +kernel
theorem dX11_nextToken_119 : decode cX11_nextToken 119 = .ok (.getfield 231, 3) := by decide +kernel
theorem dX11_nextToken_122 : decode cX11_nextToken 122 = .ok (.invokevirtual 234, 3) := by decide +kernel
theorem dX11_nextToken_125 : decode cX11_nextToken 125 = .ok (.ifCond .eq 73, 3) := by decide +kernel
theorem dX11_nextToken_128 : decode cX11_nextToken 128 = .ok (.aload_n 0, 1) := by decide +kernel
theorem dX11_nextToken_129 : decode cX11_nextToken 129 = .ok (.aload_n 0, 1) := by decide +kernel
theorem dX11_nextToken_130 : decode cX11_nextToken 130 = .ok (.getfield 225, 3) := by decide +kernel
theorem dX11_nextToken_133 : decode cX11_nextToken 133 = .ok (.invokevirtual 234, 3) := by decide +kernel
theorem dX11_nextToken_136 : decode cX11_nextToken 136 = .ok (.ifCond .eq 16, 3) := by decide +kernel
theorem dX11_nextToken_139 : decode cX11_nextToken 139 = .ok (.aload_n 0, 1) := by decide +kernel
theorem dX11_nextToken_140 : decode cX11_nextToken 140 = .ok (.dup, 1) := by decide +kernel
theorem dX11_nextToken_141 : decode cX11_nextToken 141 = .ok (.getfield 225, 3) := by decide +kernel
theorem dX11_nextToken_144 : decode cX11_nextToken 144 = .ok (.iconst 1, 1) := by decide +kernel
theorem dX11_nextToken_145 : decode cX11_nextToken 145 = .ok (.iadd, 1) := by decide +kernel
theorem dX11_nextToken_146 : decode cX11_nextToken 146 = .ok (.putfield 225, 3) := by decide +kernel
theorem dX11_nextToken_149 : decode cX11_nextToken 149 = .ok (.goto (-21), 3) := by decide +kernel
theorem dX11_nextToken_152 : decode cX11_nextToken 152 = .ok (.aload_n 0, 1) := by decide +kernel
theorem dX11_nextToken_153 : decode cX11_nextToken 153 = .ok (.iload_n 1, 1) := by decide +kernel
theorem dX11_nextToken_154 : decode cX11_nextToken 154 = .ok (.ifCond .eq 7, 3) := by decide +kernel
theorem dX11_nextToken_157 : decode cX11_nextToken 157 = .ok (.iconst 4, 1) := by decide +kernel
theorem dX11_nextToken_158 : decode cX11_nextToken 158 = .ok (.goto 4, 3) := by decide +kernel
theorem dX11_nextToken_161 : decode cX11_nextToken 161 = .ok (.iconst 1, 1) := by decide +kernel
theorem dX11_nextToken_162 : decode cX11_nextToken 162 = .ok (.putfield 228, 3) := by decide +kernel
theorem dX11_nextToken_165 : decode cX11_nextToken 165 = .ok (.aload_n 0, 1) := by decide +kernel
theorem dX11_nextToken_166 : decode cX11_nextToken 166 = .ok (.aload_n 0, 1) := by decide +kernel
theorem dX11_nextToken_167 : decode cX11_nextToken 167 = .ok (.getfield 225, 3) := by decide +kernel
theorem dX11_nextToken_170 : decode cX11_nextToken 170 = .ok (.aload_n 0, 1) := by decide +kernel
theorem dX11_nextToken_171 : decode cX11_nextToken 171 = .ok (.getfield 231, 3) := by decide +kernel
theorem dX11_nextToken_174 : decode cX11_nextToken 174 = .ok (.isub, 1) := by decide +kernel
theorem dX11_nextToken_175 : decode cX11_nextToken 175 = .ok (.iconst 1, 1) := by decide +kernel
theorem dX11_nextToken_176 : decode cX11_nextToken 176 = .ok (.if_icmp .ne 15, 3) := by decide +kernel
theorem dX11_nextToken_179 : decode cX11_nextToken 179 = .ok (.aload_n 0, 1) := by decide +kernel
theorem dX11_nextToken_180 : decode cX11_nextToken 180 = .ok (.getfield 52, 3) := by decide +kernel
theorem dX11_nextToken_183 : decode cX11_nextToken 183 = .ok (.aload_n 0, 1) := by decide +kernel
theorem dX11_nextToken_184 : decode cX11_nextToken 184 = .ok (.getfield 231, 3) := by decide +kernel
theorem dX11_nextToken_187 : decode cX11_nextToken 187 = .ok (.iaload, 1) := by decide +kernel
theorem dX11_nextToken_188 : decode cX11_nextToken 188 = .ok (.goto 4, 3) := by decide +kernel
theorem dX11_nextToken_191 : decode cX11_nextToken 191 = .ok (.iconst 0, 1) := by decide +kernel
theorem dX11_nextToken_192 : decode cX11_nextToken 192 = .ok (.putfield 237, 3) := by decide +kernel
theorem dX11_nextToken_195 : decode cX11_nextToken 195 = .ok (.goto 144, 3) := by decide +kernel
theorem dX11_nextToken_198 : decode cX11_nextToken 198 = .ok (.aload_n 0, 1) := by decide +kernel
theorem dX11_nextToken_199 : decode cX11_nextToken 199 = .ok (.aload_n 0, 1) := by decide +kernel
theorem dX11_nextToken_200 : decode cX11_nextToken 200 = .ok (.getfield 231, 3) := by decide +kernel
theorem dX11_nextToken_203 : decode cX11_nextToken 203 = .ok (.invokevirtual 240, 3) := by decide +kernel
theorem dX11_nextToken_206 : decode cX11_nextToken 206 = .ok (.ifCond .eq 105, 3) := by decide +kernel
theorem dX11_nextToken_209 : decode cX11_nextToken 209 = .ok (.aload_n 0, 1) := by decide +kernel
theorem dX11_nextToken_210 : decode cX11_nextToken 210 = .ok (.iconst 0, 1) := by decide +kernel
theorem dX11_nextToken_211 : decode cX11_nextToken 211 = .ok (.putfield 243, 3) := by decide +kernel
theorem dX11_nextToken_214 : decode cX11_nextToken 214 = .ok (.aload_n 0, 1) := by decide +kernel
theorem dX11_nextToken_215 : decode cX11_nextToken 215 = .ok (.aload_n 0, 1) := by decide +kernel
theorem dX11_nextToken_216 : decode cX11_nextToken 216 = .ok (.getfield 225, 3) := by decide +kernel
theorem dX11_nextToken_219 : decode cX11_nextToken 219 = .ok (.invokevirtual 240, 3) := by decide +kernel
theorem dX11_nextToken_222 : decode cX11_nextToken 222 = .ok (.ifCond .eq 60, 3) := by decide +kernel
theorem dX11_nextToken_225 : decode cX11_nextToken 225 = .ok (.aload_n 0, 1) := by decide +kernel
theorem dX11_nextToken_226 : decode cX11_nextToken 226 = .ok (.aload_n 0, 1) := by decide +kernel
theorem dX11_nextToken_227 : decode cX11_nextToken 227 = .ok (.getfield 225, 3) := by decide +kernel
theorem dX11_nextToken_230 : decode cX11_nextToken 230 = .ok (.aload_n 0, 1) := by decide +kernel
theorem dX11_nextToken_231 : decode cX11_nextToken 231 = .ok (.getfield 231, 3) := by decide +kernel
theorem dX11_nextToken_234 : decode cX11_nextToken 234 = .ok (.isub, 1) := by decide +kernel
theorem dX11_nextToken_235 : decode cX11_nextToken 235 = .ok (.iconst 4, 1) := by decide +kernel
theorem dX11_nextToken_236 : decode cX11_nextToken 236 = .ok (.if_icmp .ge 26, 3) := by decide +kernel
theorem dX11_nextToken_239 : decode cX11_nextToken 239 = .ok (.bipush 10, 2) := by decide +kernel
theorem dX11_nextToken_241 : decode cX11_nextToken 241 = .ok (.aload_n 0, 1) := by decide +kernel
theorem dX11_nextToken_242 : decode cX11_nextToken 242 = .ok (.getfield 243, 3) := by decide +kernel
theorem dX11_nextToken_245 : decode cX11_nextToken 245 = .ok (.imul, 1) := by decide +kernel

