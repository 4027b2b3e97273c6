theorem dd_M_freeClusters_0 : decode bb_M_freeClusters 0 = .ok (.iconst 0, 1) := by decide +kernel
theorem dd_M_freeClusters_1 : decode bb_M_freeClusters 1 = .ok (.istore_n 1, 1) := by decide +kernel
theorem dd_M_freeClusters_2 : decode bb_M_freeClusters 2 = .ok (.bipush 48, 2) := by decide +kernel
theorem dd_M_freeClusters_4 : decode bb_M_freeClusters 4 = .ok (.istore_n 2, 1) := by decide +kernel
theorem dd_M_freeClusters_5 : decode bb_M_freeClusters 5 = .ok (.iload_n 2, 1) := by decide +kernel
theorem dd_M_freeClusters_6 : decode bb_M_freeClusters 6 = .ok (.sipush 128, 3) := by decide +kernel
theorem dd_M_freeClusters_9 : decode bb_M_freeClusters 9 = .ok (.if_icmp .ge 26, 3) := by decide +kernel
theorem dd_M_freeClusters_12 : decode bb_M_freeClusters 12 = .ok (.aload_n 0, 1) := by decide +kernel
theorem dd_M_freeClusters_13 : decode bb_M_freeClusters 13 = .ok (.getfield 17, 3) := by decide +kernel
theorem dd_M_freeClusters_16 : decode bb_M_freeClusters 16 = .ok (.iload_n 2, 1) := by decide +kernel
theorem dd_M_freeClusters_17 : decode bb_M_freeClusters 17 = .ok (.baload, 1) := by decide +kernel
theorem dd_M_freeClusters_18 : decode bb_M_freeClusters 18 = .ok (.ifCond .eq 7, 3) := by decide +kernel
theorem dd_M_freeClusters_21 : decode bb_M_freeClusters 21 = .ok (.iload_n 1, 1) := by decide +kernel
theorem dd_M_freeClusters_22 : decode bb_M_freeClusters 22 = .ok (.goto 6, 3) := by decide +kernel
theorem dd_M_freeClusters_25 : decode bb_M_freeClusters 25 = .ok (.iload_n 1, 1) := by decide +kernel
theorem dd_M_freeClusters_26 : decode bb_M_freeClusters 26 = .ok (.iconst 1, 1) := by decide +kernel
theorem dd_M_freeClusters_27 : decode bb_M_freeClusters 27 = .ok (.iadd, 1) := by decide +kernel
theorem dd_M_freeClusters_28 : decode bb_M_freeClusters 28 = .ok (.istore_n 1, 1) := by decide +kernel
theorem dd_M_freeClusters_29 : decode bb_M_freeClusters 29 = .ok (.iinc 2 1, 3) := by decide +kernel
theorem dd_M_freeClusters_32 : decode bb_M_freeClusters 32 = .ok (.goto (-27), 3) := by decide +kernel
theorem dd_M_freeClusters_35 : decode bb_M_freeClusters 35 = .ok (.iload_n 1, 1) := by decide +kernel
theorem dd_M_freeClusters_36 : decode bb_M_freeClusters 36 = .ok (.ireturn, 1) := by decide +kernel
theorem dd_M_clustersOf_0 : decode bb_M_clustersOf 0 = .ok (.iload_n 0, 1) := by decide +kernel
theorem dd_M_clustersOf_1 : decode bb_M_clustersOf 1 = .ok (.bipush 15, 2) := by decide +kernel
theorem dd_M_clustersOf_3 : decode bb_M_clustersOf 3 = .ok (.iadd, 1) := by decide +kernel
theorem dd_M_clustersOf_4 : decode bb_M_clustersOf 4 = .ok (.bipush 16, 2) := by decide +kernel
theorem dd_M_clustersOf_6 : decode bb_M_clustersOf 6 = .ok (.idiv, 1) := by decide +kernel
theorem dd_M_clustersOf_7 : decode bb_M_clustersOf 7 = .ok (.ireturn, 1) := by decide +kernel
theorem dd_M_meets_0 : decode bb_M_meets 0 = .ok (.bipush 16, 2) := by decide +kernel
theorem dd_M_meets_2 : decode bb_M_meets 2 = .ok (.iload_n 0, 1) := by decide +kernel
theorem dd_M_meets_3 : decode bb_M_meets 3 = .ok (.imul, 1) := by decide +kernel
theorem dd_M_meets_4 : decode bb_M_meets 4 = .ok (.iload_n 2, 1) := by decide +kernel
theorem dd_M_meets_5 : decode bb_M_meets 5 = .ok (.if_icmp .ge 18, 3) := by decide +kernel
theorem dd_M_meets_8 : decode bb_M_meets 8 = .ok (.iload_n 1, 1) := by decide +kernel
theorem dd_M_meets_9 : decode bb_M_meets 9 = .ok (.bipush 16, 2) := by decide +kernel
theorem dd_M_meets_11 : decode bb_M_meets 11 = .ok (.iload_n 0, 1) := by decide +kernel
theorem dd_M_meets_12 : decode bb_M_meets 12 = .ok (.imul, 1) := by decide +kernel
theorem dd_M_meets_13 : decode bb_M_meets 13 = .ok (.bipush 16, 2) := by decide +kernel
theorem dd_M_meets_15 : decode bb_M_meets 15 = .ok (.iadd, 1) := by decide +kernel
theorem dd_M_meets_16 : decode bb_M_meets 16 = .ok (.if_icmp .ge 7, 3) := by decide +kernel
theorem dd_M_meets_19 : decode bb_M_meets 19 = .ok (.iconst 1, 1) := by decide +kernel
theorem dd_M_meets_20 : decode bb_M_meets 20 = .ok (.goto 4, 3) := by decide +kernel
theorem dd_M_meets_23 : decode bb_M_meets 23 = .ok (.iconst 0, 1) := by decide +kernel
theorem dd_M_meets_24 : decode bb_M_meets 24 = .ok (.ireturn, 1) := by decide +kernel
theorem dd_M_give_0 : decode bb_M_give 0 = .ok (.iconst 0, 1) := by decide +kernel
theorem dd_M_give_1 : decode bb_M_give 1 = .ok (.istore 4, 2) := by decide +kernel
theorem dd_M_give_3 : decode bb_M_give 3 = .ok (.iconst 0, 1) := by decide +kernel
theorem dd_M_give_4 : decode bb_M_give 4 = .ok (.istore 5, 2) := by decide +kernel
theorem dd_M_give_6 : decode bb_M_give 6 = .ok (.iload 5, 2) := by decide +kernel
theorem dd_M_give_8 : decode bb_M_give 8 = .ok (.aload_n 0, 1) := by decide +kernel
theorem dd_M_give_9 : decode bb_M_give 9 = .ok (.getfield 91, 3) := by decide +kernel
theorem dd_M_give_12 : decode bb_M_give 12 = .ok (.if_icmp .ge 74, 3) := by decide +kernel
theorem dd_M_give_15 : decode bb_M_give 15 = .ok (.aload_n 0, 1) := by decide +kernel
theorem dd_M_give_16 : decode bb_M_give 16 = .ok (.getfield 30, 3) := by decide +kernel
theorem dd_M_give_19 : decode bb_M_give 19 = .ok (.iload 5, 2) := by decide +kernel
theorem dd_M_give_21 : decode bb_M_give 21 = .ok (.aload_n 0, 1) := by decide +kernel
theorem dd_M_give_22 : decode bb_M_give 22 = .ok (.getfield 27, 3) := by decide +kernel
theorem dd_M_give_25 : decode bb_M_give 25 = .ok (.iload 5, 2) := by decide +kernel
theorem dd_M_give_27 : decode bb_M_give 27 = .ok (.iaload, 1) := by decide +kernel
theorem dd_M_give_28 : decode bb_M_give 28 = .ok (.ifCond .ge 29, 3) := by decide +kernel
theorem dd_M_give_31 : decode bb_M_give 31 = .ok (.iload 5, 2) := by decide +kernel
theorem dd_M_give_33 : decode bb_M_give 33 = .ok (.iload_n 2, 1) := by decide +kernel
theorem dd_M_give_34 : decode bb_M_give 34 = .ok (.iload_n 2, 1) := by decide +kernel
theorem dd_M_give_35 : decode bb_M_give 35 = .ok (.iload_n 3, 1) := by decide +kernel
theorem dd_M_give_36 : decode bb_M_give 36 = .ok (.iadd, 1) := by decide +kernel
theorem dd_M_give_37 : decode bb_M_give 37 = .ok (.invokestatic 157, 3) := by decide +kernel
theorem dd_M_give_40 : decode bb_M_give 40 = .ok (.ifCond .ne 13, 3) := by decide +kernel
theorem dd_M_give_43 : decode bb_M_give 43 = .ok (.iload 5, 2) := by decide +kernel
theorem dd_M_give_45 : decode bb_M_give 45 = .ok (.iconst 0, 1) := by decide +kernel
theorem dd_M_give_46 : decode bb_M_give 46 = .ok (.iload_n 1, 1) := by decide +kernel
theorem dd_M_give_47 : decode bb_M_give 47 = .ok (.invokestatic 157, 3) := by decide +kernel
theorem dd_M_give_50 : decode bb_M_give 50 = .ok (.ifCond .eq 7, 3) := by decide +kernel
theorem dd_M_give_53 : decode bb_M_give 53 = .ok (.iconst 1, 1) := by decide +kernel
theorem dd_M_give_54 : decode bb_M_give 54 = .ok (.goto 4, 3) := by decide +kernel
theorem dd_M_give_57 : decode bb_M_give 57 = .ok (.iconst 0, 1) := by decide +kernel
theorem dd_M_give_58 : decode bb_M_give 58 = .ok (.bastore, 1) := by decide +kernel
theorem dd_M_give_59 : decode bb_M_give 59 = .ok (.aload_n 0, 1) := by decide +kernel
theorem dd_M_give_60 : decode bb_M_give 60 = .ok (.getfield 30, 3) := by decide +kernel
theorem dd_M_give_63 : decode bb_M_give 63 = .ok (.iload 5, 2) := by decide +kernel
theorem dd_M_give_65 : decode bb_M_give 65 = .ok (.baload, 1) := by decide +kernel
theorem dd_M_give_66 : decode bb_M_give 66 = .ok (.ifCond .eq 10, 3) := by decide +kernel
theorem dd_M_give_69 : decode bb_M_give 69 = .ok (.iload 4, 2) := by decide +kernel
theorem dd_M_give_71 : decode bb_M_give 71 = .ok (.iconst 1, 1) := by decide +kernel
theorem dd_M_give_72 : decode bb_M_give 72 = .ok (.iadd, 1) := by decide +kernel
theorem dd_M_give_73 : decode bb_M_give 73 = .ok (.goto 5, 3) := by decide +kernel
theorem dd_M_give_76 : decode bb_M_give 76 = .ok (.iload 4, 2) := by decide +kernel
theorem dd_M_give_78 : decode bb_M_give 78 = .ok (.istore 4, 2) := by decide +kernel
theorem dd_M_give_80 : decode bb_M_give 80 = .ok (.iinc 5 1, 3) := by decide +kernel
theorem dd_M_give_83 : decode bb_M_give 83 = .ok (.goto (-77), 3) := by decide +kernel
theorem dd_M_give_86 : decode bb_M_give 86 = .ok (.iload 4, 2) := by decide +kernel
theorem dd_M_give_88 : decode bb_M_give 88 = .ok (.aload_n 0, 1) := by decide +kernel
theorem dd_M_give_89 : decode bb_M_give 89 = .ok (.invokevirtual 161, 3) := by decide +kernel
theorem dd_M_give_92 : decode bb_M_give 92 = .ok (.if_icmp .le 5, 3) := by decide +kernel
theorem dd_M_give_95 : decode bb_M_give 95 = .ok (.iconst 0, 1) := by decide +kernel
theorem dd_M_give_96 : decode bb_M_give 96 = .ok (.ireturn, 1) := by decide +kernel
theorem dd_M_give_97 : decode bb_M_give 97 = .ok (.iconst 0, 1) := by decide +kernel
theorem dd_M_give_98 : decode bb_M_give 98 = .ok (.istore 5, 2) := by decide +kernel
theorem dd_M_give_100 : decode bb_M_give 100 = .ok (.iload 5, 2) := by decide +kernel
theorem dd_M_give_102 : decode bb_M_give 102 = .ok (.aload_n 0, 1) := by decide +kernel
theorem dd_M_give_103 : decode bb_M_give 103 = .ok (.getfield 91, 3) := by decide +kernel
theorem dd_M_give_106 : decode bb_M_give 106 = .ok (.if_icmp .ge 46, 3) := by decide +kernel
theorem dd_M_give_109 : decode bb_M_give 109 = .ok (.aload_n 0, 1) := by decide +kernel
theorem dd_M_give_110 : decode bb_M_give 110 = .ok (.getfield 30, 3) := by decide +kernel
theorem dd_M_give_113 : decode bb_M_give 113 = .ok (.iload 5, 2) := by decide +kernel
theorem dd_M_give_115 : decode bb_M_give 115 = .ok (.baload, 1) := by decide +kernel
theorem dd_M_give_116 : decode bb_M_give 116 = .ok (.ifCond .ne 6, 3) := by decide +kernel
theorem dd_M_give_119 : decode bb_M_give 119 = .ok (.goto 27, 3) := by decide +kernel
theorem dd_M_give_122 : decode bb_M_give 122 = .ok (.aload_n 0, 1) := by decide +kernel
theorem dd_M_give_123 : decode bb_M_give 123 = .ok (.getfield 27, 3) := by decide +kernel
theorem dd_M_give_126 : decode bb_M_give 126 = .ok (.iload 5, 2) := by decide +kernel
theorem dd_M_give_128 : decode bb_M_give 128 = .ok (.aload_n 0, 1) := by decide +kernel
theorem dd_M_give_129 : decode bb_M_give 129 = .ok (.invokevirtual 165, 3) := by decide +kernel
theorem dd_M_give_132 : decode bb_M_give 132 = .ok (.iastore, 1) := by decide +kernel
theorem dd_M_give_133 : decode bb_M_give 133 = .ok (.aload_n 0, 1) := by decide +kernel
theorem dd_M_give_134 : decode bb_M_give 134 = .ok (.getfield 17, 3) := by decide +kernel
theorem dd_M_give_137 : decode bb_M_give 137 = .ok (.aload_n 0, 1) := by decide +kernel
theorem dd_M_give_138 : decode bb_M_give 138 = .ok (.getfield 27, 3) := by decide +kernel
theorem dd_M_give_141 : decode bb_M_give 141 = .ok (.iload 5, 2) := by decide +kernel
theorem dd_M_give_143 : decode bb_M_give 143 = .ok (.iaload, 1) := by decide +kernel
theorem dd_M_give_144 : decode bb_M_give 144 = .ok (.iconst 1, 1) := by decide +kernel
theorem dd_M_give_145 : decode bb_M_give 145 = .ok (.bastore, 1) := by decide +kernel
theorem dd_M_give_146 : decode bb_M_give 146 = .ok (.iinc 5 1, 3) := by decide +kernel
theorem dd_M_give_149 : decode bb_M_give 149 = .ok (.goto (-49), 3) := by decide +kernel
theorem dd_M_give_152 : decode bb_M_give 152 = .ok (.iconst 1, 1) := by decide +kernel
theorem dd_M_give_153 : decode bb_M_give 153 = .ok (.ireturn, 1) := by decide +kernel
theorem dd_M_takeBack_0 : decode bb_M_takeBack 0 = .ok (.iconst 0, 1) := by decide +kernel
theorem dd_M_takeBack_1 : decode bb_M_takeBack 1 = .ok (.istore_n 1, 1) := by decide +kernel
theorem dd_M_takeBack_2 : decode bb_M_takeBack 2 = .ok (.iload_n 1, 1) := by decide +kernel
theorem dd_M_takeBack_3 : decode bb_M_takeBack 3 = .ok (.aload_n 0, 1) := by decide +kernel
theorem dd_M_takeBack_4 : decode bb_M_takeBack 4 = .ok (.getfield 91, 3) := by decide +kernel
theorem dd_M_takeBack_7 : decode bb_M_takeBack 7 = .ok (.if_icmp .ge 30, 3) := by decide +kernel
theorem dd_M_takeBack_10 : decode bb_M_takeBack 10 = .ok (.aload_n 0, 1) := by decide +kernel
theorem dd_M_takeBack_11 : decode bb_M_takeBack 11 = .ok (.getfield 30, 3) := by decide +kernel
theorem dd_M_takeBack_14 : decode bb_M_takeBack 14 = .ok (.iload_n 1, 1) := by decide +kernel
theorem dd_M_takeBack_15 : decode bb_M_takeBack 15 = .ok (.baload, 1) := by decide +kernel
theorem dd_M_takeBack_16 : decode bb_M_takeBack 16 = .ok (.ifCond .eq 15, 3) := by decide +kernel
theorem dd_M_takeBack_19 : decode bb_M_takeBack 19 = .ok (.aload_n 0, 1) := by decide +kernel
theorem dd_M_takeBack_20 : decode bb_M_takeBack 20 = .ok (.getfield 17, 3) := by decide +kernel
theorem dd_M_takeBack_23 : decode bb_M_takeBack 23 = .ok (.aload_n 0, 1) := by decide +kernel
theorem dd_M_takeBack_24 : decode bb_M_takeBack 24 = .ok (.getfield 27, 3) := by decide +kernel
theorem dd_M_takeBack_27 : decode bb_M_takeBack 27 = .ok (.iload_n 1, 1) := by decide +kernel
theorem dd_M_takeBack_28 : decode bb_M_takeBack 28 = .ok (.iaload, 1) := by decide +kernel
theorem dd_M_takeBack_29 : decode bb_M_takeBack 29 = .ok (.iconst 0, 1) := by decide +kernel
theorem dd_M_takeBack_30 : decode bb_M_takeBack 30 = .ok (.bastore, 1) := by decide +kernel
theorem dd_M_takeBack_31 : decode bb_M_takeBack 31 = .ok (.iinc 1 1, 3) := by decide +kernel
theorem dd_M_takeBack_34 : decode bb_M_takeBack 34 = .ok (.goto (-32), 3) := by decide +kernel
theorem dd_M_takeBack_37 : decode bb_M_takeBack 37 = .ok (.return_, 1) := by decide +kernel
theorem dd_M_place_0 : decode bb_M_place 0 = .ok (.aload_n 0, 1) := by decide +kernel
theorem dd_M_place_1 : decode bb_M_place 1 = .ok (.getfield 27, 3) := by decide +kernel
theorem dd_M_place_4 : decode bb_M_place 4 = .ok (.iload_n 1, 1) := by decide +kernel
theorem dd_M_place_5 : decode bb_M_place 5 = .ok (.bipush 16, 2) := by decide +kernel
theorem dd_M_place_7 : decode bb_M_place 7 = .ok (.idiv, 1) := by decide +kernel
theorem dd_M_place_8 : decode bb_M_place 8 = .ok (.iaload, 1) := by decide +kernel
theorem dd_M_place_9 : decode bb_M_place 9 = .ok (.ifCond .lt 26, 3) := by decide +kernel
theorem dd_M_place_12 : decode bb_M_place 12 = .ok (.aload_n 0, 1) := by decide +kernel
theorem dd_M_place_13 : decode bb_M_place 13 = .ok (.getfield 7, 3) := by decide +kernel
theorem dd_M_place_16 : decode bb_M_place 16 = .ok (.bipush 16, 2) := by decide +kernel
theorem dd_M_place_18 : decode bb_M_place 18 = .ok (.aload_n 0, 1) := by decide +kernel
theorem dd_M_place_19 : decode bb_M_place 19 = .ok (.getfield 27, 3) := by decide +kernel
theorem dd_M_place_22 : decode bb_M_place 22 = .ok (.iload_n 1, 1) := by decide +kernel
theorem dd_M_place_23 : decode bb_M_place 23 = .ok (.bipush 16, 2) := by decide +kernel
theorem dd_M_place_25 : decode bb_M_place 25 = .ok (.idiv, 1) := by decide +kernel
theorem dd_M_place_26 : decode bb_M_place 26 = .ok (.iaload, 1) := by decide +kernel
theorem dd_M_place_27 : decode bb_M_place 27 = .ok (.imul, 1) := by decide +kernel
theorem dd_M_place_28 : decode bb_M_place 28 = .ok (.iload_n 1, 1) := by decide +kernel
theorem dd_M_place_29 : decode bb_M_place 29 = .ok (.bipush 16, 2) := by decide +kernel
theorem dd_M_place_31 : decode bb_M_place 31 = .ok (.irem, 1) := by decide +kernel
theorem dd_M_place_32 : decode bb_M_place 32 = .ok (.iadd, 1) := by decide +kernel
theorem dd_M_place_33 : decode bb_M_place 33 = .ok (.iload_n 2, 1) := by decide +kernel
theorem dd_M_place_34 : decode bb_M_place 34 = .ok (.iastore, 1) := by decide +kernel
theorem dd_M_place_35 : decode bb_M_place 35 = .ok (.return_, 1) := by decide +kernel
theorem dd_M_writeOutside_0 : decode bb_M_writeOutside 0 = .ok (.aload_n 0, 1) := by decide +kernel
theorem dd_M_writeOutside_1 : decode bb_M_writeOutside 1 = .ok (.iload_n 1, 1) := by decide +kernel
theorem dd_M_writeOutside_2 : decode bb_M_writeOutside 2 = .ok (.invokevirtual 168, 3) := by decide +kernel
theorem dd_M_writeOutside_5 : decode bb_M_writeOutside 5 = .ok (.istore 5, 2) := by decide +kernel
theorem dd_M_writeOutside_7 : decode bb_M_writeOutside 7 = .ok (.iload_n 2, 1) := by decide +kernel
theorem dd_M_writeOutside_8 : decode bb_M_writeOutside 8 = .ok (.iload_n 3, 1) := by decide +kernel
theorem dd_M_writeOutside_9 : decode bb_M_writeOutside 9 = .ok (.iadd, 1) := by decide +kernel
theorem dd_M_writeOutside_10 : decode bb_M_writeOutside 10 = .ok (.iload 5, 2) := by decide +kernel
theorem dd_M_writeOutside_12 : decode bb_M_writeOutside 12 = .ok (.if_icmp .le 9, 3) := by decide +kernel
theorem dd_M_writeOutside_15 : decode bb_M_writeOutside 15 = .ok (.iload_n 2, 1) := by decide +kernel
theorem dd_M_writeOutside_16 : decode bb_M_writeOutside 16 = .ok (.iload_n 3, 1) := by decide +kernel
theorem dd_M_writeOutside_17 : decode bb_M_writeOutside 17 = .ok (.iadd, 1) := by decide +kernel
theorem dd_M_writeOutside_18 : decode bb_M_writeOutside 18 = .ok (.goto 5, 3) := by decide +kernel
theorem dd_M_writeOutside_21 : decode bb_M_writeOutside 21 = .ok (.iload 5, 2) := by decide +kernel
theorem dd_M_writeOutside_23 : decode bb_M_writeOutside 23 = .ok (.istore 6, 2) := by decide +kernel
theorem dd_M_writeOutside_25 : decode bb_M_writeOutside 25 = .ok (.aload_n 0, 1) := by decide +kernel
theorem dd_M_writeOutside_26 : decode bb_M_writeOutside 26 = .ok (.iload_n 1, 1) := by decide +kernel
theorem dd_M_writeOutside_27 : decode bb_M_writeOutside 27 = .ok (.invokevirtual 171, 3) := by decide +kernel
theorem dd_M_writeOutside_30 : decode bb_M_writeOutside 30 = .ok (.istore 7, 2) := by decide +kernel
theorem dd_M_writeOutside_32 : decode bb_M_writeOutside 32 = .ok (.iload 7, 2) := by decide +kernel
theorem dd_M_writeOutside_34 : decode bb_M_writeOutside 34 = .ok (.ifCond .eq 8, 3) := by decide +kernel
theorem dd_M_writeOutside_37 : decode bb_M_writeOutside 37 = .ok (.iload 5, 2) := by decide +kernel
theorem dd_M_writeOutside_39 : decode bb_M_writeOutside 39 = .ok (.goto 4, 3) := by decide +kernel
theorem dd_M_writeOutside_42 : decode bb_M_writeOutside 42 = .ok (.iconst 0, 1) := by decide +kernel
theorem dd_M_writeOutside_43 : decode bb_M_writeOutside 43 = .ok (.istore 8, 2) := by decide +kernel
theorem dd_M_writeOutside_45 : decode bb_M_writeOutside 45 = .ok (.iconst 0, 1) := by decide +kernel
theorem dd_M_writeOutside_46 : decode bb_M_writeOutside 46 = .ok (.istore 9, 2) := by decide +kernel
theorem dd_M_writeOutside_48 : decode bb_M_writeOutside 48 = .ok (.iload 9, 2) := by decide +kernel
theorem dd_M_writeOutside_50 : decode bb_M_writeOutside 50 = .ok (.iload 8, 2) := by decide +kernel
theorem dd_M_writeOutside_52 : decode bb_M_writeOutside 52 = .ok (.if_icmp .ge 32, 3) := by decide +kernel
theorem dd_M_writeOutside_55 : decode bb_M_writeOutside 55 = .ok (.aload_n 0, 1) := by decide +kernel
theorem dd_M_writeOutside_56 : decode bb_M_writeOutside 56 = .ok (.getfield 33, 3) := by decide +kernel
theorem dd_M_writeOutside_59 : decode bb_M_writeOutside 59 = .ok (.iload 9, 2) := by decide +kernel
theorem dd_M_writeOutside_61 : decode bb_M_writeOutside 61 = .ok (.aload_n 0, 1) := by decide +kernel
theorem dd_M_writeOutside_62 : decode bb_M_writeOutside 62 = .ok (.iload_n 1, 1) := by decide +kernel
theorem dd_M_writeOutside_63 : decode bb_M_writeOutside 63 = .ok (.aload_n 0, 1) := by decide +kernel
theorem dd_M_writeOutside_64 : decode bb_M_writeOutside 64 = .ok (.iload_n 1, 1) := by decide +kernel
theorem dd_M_writeOutside_65 : decode bb_M_writeOutside 65 = .ok (.iconst 2, 1) := by decide +kernel
theorem dd_M_writeOutside_66 : decode bb_M_writeOutside 66 = .ok (.invokevirtual 69, 3) := by decide +kernel
theorem dd_M_writeOutside_69 : decode bb_M_writeOutside 69 = .ok (.iconst 2, 1) := by decide +kernel
theorem dd_M_writeOutside_70 : decode bb_M_writeOutside 70 = .ok (.iadd, 1) := by decide +kernel
theorem dd_M_writeOutside_71 : decode bb_M_writeOutside 71 = .ok (.iload 9, 2) := by decide +kernel
theorem dd_M_writeOutside_73 : decode bb_M_writeOutside 73 = .ok (.iadd, 1) := by decide +kernel
theorem dd_M_writeOutside_74 : decode bb_M_writeOutside 74 = .ok (.invokevirtual 65, 3) := by decide +kernel
theorem dd_M_writeOutside_77 : decode bb_M_writeOutside 77 = .ok (.iastore, 1) := by decide +kernel
theorem dd_M_writeOutside_78 : decode bb_M_writeOutside 78 = .ok (.iinc 9 1, 3) := by decide +kernel
theorem dd_M_writeOutside_81 : decode bb_M_writeOutside 81 = .ok (.goto (-33), 3) := by decide +kernel
theorem dd_M_writeOutside_84 : decode bb_M_writeOutside 84 = .ok (.aload_n 0, 1) := by decide +kernel
theorem dd_M_writeOutside_85 : decode bb_M_writeOutside 85 = .ok (.iload_n 1, 1) := by decide +kernel
theorem dd_M_writeOutside_86 : decode bb_M_writeOutside 86 = .ok (.invokevirtual 145, 3) := by decide +kernel
theorem dd_M_writeOutside_89 : decode bb_M_writeOutside 89 = .ok (.aload_n 0, 1) := by decide +kernel
theorem dd_M_writeOutside_90 : decode bb_M_writeOutside 90 = .ok (.getfield 91, 3) := by decide +kernel
theorem dd_M_writeOutside_93 : decode bb_M_writeOutside 93 = .ok (.istore 9, 2) := by decide +kernel
theorem dd_M_writeOutside_95 : decode bb_M_writeOutside 95 = .ok (.iload 9, 2) := by decide +kernel
theorem dd_M_writeOutside_97 : decode bb_M_writeOutside 97 = .ok (.iload 6, 2) := by decide +kernel
theorem dd_M_writeOutside_99 : decode bb_M_writeOutside 99 = .ok (.invokestatic 174, 3) := by decide +kernel
theorem dd_M_writeOutside_102 : decode bb_M_writeOutside 102 = .ok (.if_icmp .ge 17, 3) := by decide +kernel
theorem dd_M_writeOutside_105 : decode bb_M_writeOutside 105 = .ok (.aload_n 0, 1) := by decide +kernel
theorem dd_M_writeOutside_106 : decode bb_M_writeOutside 106 = .ok (.getfield 27, 3) := by decide +kernel
theorem dd_M_writeOutside_109 : decode bb_M_writeOutside 109 = .ok (.iload 9, 2) := by decide +kernel
theorem dd_M_writeOutside_111 : decode bb_M_writeOutside 111 = .ok (.iconst (-1), 1) := by decide +kernel
theorem dd_M_writeOutside_112 : decode bb_M_writeOutside 112 = .ok (.iastore, 1) := by decide +kernel
theorem dd_M_writeOutside_113 : decode bb_M_writeOutside 113 = .ok (.iinc 9 1, 3) := by decide +kernel
theorem dd_M_writeOutside_116 : decode bb_M_writeOutside 116 = .ok (.goto (-21), 3) := by decide +kernel
theorem dd_M_writeOutside_119 : decode bb_M_writeOutside 119 = .ok (.aload_n 0, 1) := by decide +kernel
theorem dd_M_writeOutside_120 : decode bb_M_writeOutside 120 = .ok (.iload 6, 2) := by decide +kernel
theorem dd_M_writeOutside_122 : decode bb_M_writeOutside 122 = .ok (.invokestatic 174, 3) := by decide +kernel
theorem dd_M_writeOutside_125 : decode bb_M_writeOutside 125 = .ok (.putfield 91, 3) := by decide +kernel
theorem dd_M_writeOutside_128 : decode bb_M_writeOutside 128 = .ok (.aload_n 0, 1) := by decide +kernel
theorem dd_M_writeOutside_129 : decode bb_M_writeOutside 129 = .ok (.iload 8, 2) := by decide +kernel
theorem dd_M_writeOutside_131 : decode bb_M_writeOutside 131 = .ok (.iload_n 2, 1) := by decide +kernel
theorem dd_M_writeOutside_132 : decode bb_M_writeOutside 132 = .ok (.iload_n 3, 1) := by decide +kernel
theorem dd_M_writeOutside_133 : decode bb_M_writeOutside 133 = .ok (.invokevirtual 177, 3) := by decide +kernel
theorem dd_M_writeOutside_136 : decode bb_M_writeOutside 136 = .ok (.ifCond .ne 9, 3) := by decide +kernel
theorem dd_M_writeOutside_139 : decode bb_M_writeOutside 139 = .ok (.aload_n 0, 1) := by decide +kernel
theorem dd_M_writeOutside_140 : decode bb_M_writeOutside 140 = .ok (.iconst 3, 1) := by decide +kernel
theorem dd_M_writeOutside_141 : decode bb_M_writeOutside 141 = .ok (.invokevirtual 117, 3) := by decide +kernel
theorem dd_M_writeOutside_144 : decode bb_M_writeOutside 144 = .ok (.ireturn, 1) := by decide +kernel
theorem dd_M_writeOutside_145 : decode bb_M_writeOutside 145 = .ok (.aload_n 0, 1) := by decide +kernel
theorem dd_M_writeOutside_146 : decode bb_M_writeOutside 146 = .ok (.iconst 1, 1) := by decide +kernel
theorem dd_M_writeOutside_147 : decode bb_M_writeOutside 147 = .ok (.aload_n 0, 1) := by decide +kernel
theorem dd_M_writeOutside_148 : decode bb_M_writeOutside 148 = .ok (.iload_n 1, 1) := by decide +kernel
theorem dd_M_writeOutside_149 : decode bb_M_writeOutside 149 = .ok (.iconst 1, 1) := by decide +kernel
theorem dd_M_writeOutside_150 : decode bb_M_writeOutside 150 = .ok (.invokevirtual 65, 3) := by decide +kernel
theorem dd_M_writeOutside_153 : decode bb_M_writeOutside 153 = .ok (.invokevirtual 39, 3) := by decide +kernel
theorem dd_M_writeOutside_156 : decode bb_M_writeOutside 156 = .ok (.aload_n 0, 1) := by decide +kernel
theorem dd_M_writeOutside_157 : decode bb_M_writeOutside 157 = .ok (.iload_n 1, 1) := by decide +kernel
theorem dd_M_writeOutside_158 : decode bb_M_writeOutside 158 = .ok (.invokevirtual 102, 3) := by decide +kernel
theorem dd_M_writeOutside_161 : decode bb_M_writeOutside 161 = .ok (.aload_n 0, 1) := by decide +kernel
theorem dd_M_writeOutside_162 : decode bb_M_writeOutside 162 = .ok (.iload 6, 2) := by decide +kernel
theorem dd_M_writeOutside_164 : decode bb_M_writeOutside 164 = .ok (.invokevirtual 180, 3) := by decide +kernel
theorem dd_M_writeOutside_167 : decode bb_M_writeOutside 167 = .ok (.aload_n 0, 1) := by decide +kernel
theorem dd_M_writeOutside_168 : decode bb_M_writeOutside 168 = .ok (.getfield 81, 3) := by decide +kernel
theorem dd_M_writeOutside_171 : decode bb_M_writeOutside 171 = .ok (.bipush 64, 2) := by decide +kernel
theorem dd_M_writeOutside_173 : decode bb_M_writeOutside 173 = .ok (.if_icmp .le 13, 3) := by decide +kernel
theorem dd_M_writeOutside_176 : decode bb_M_writeOutside 176 = .ok (.aload_n 0, 1) := by decide +kernel
theorem dd_M_writeOutside_177 : decode bb_M_writeOutside 177 = .ok (.invokevirtual 183, 3) := by decide +kernel
theorem dd_M_writeOutside_180 : decode bb_M_writeOutside 180 = .ok (.aload_n 0, 1) := by decide +kernel
theorem dd_M_writeOutside_181 : decode bb_M_writeOutside 181 = .ok (.iconst 3, 1) := by decide +kernel
theorem dd_M_writeOutside_182 : decode bb_M_writeOutside 182 = .ok (.invokevirtual 117, 3) := by decide +kernel
theorem dd_M_writeOutside_185 : decode bb_M_writeOutside 185 = .ok (.ireturn, 1) := by decide +kernel
theorem dd_M_writeOutside_186 : decode bb_M_writeOutside 186 = .ok (.iconst 0, 1) := by decide +kernel
theorem dd_M_writeOutside_187 : decode bb_M_writeOutside 187 = .ok (.istore 9, 2) := by decide +kernel
theorem dd_M_writeOutside_189 : decode bb_M_writeOutside 189 = .ok (.iload 9, 2) := by decide +kernel
theorem dd_M_writeOutside_191 : decode bb_M_writeOutside 191 = .ok (.bipush 16, 2) := by decide +kernel
theorem dd_M_writeOutside_193 : decode bb_M_writeOutside 193 = .ok (.aload_n 0, 1) := by decide +kernel
theorem dd_M_writeOutside_194 : decode bb_M_writeOutside 194 = .ok (.getfield 91, 3) := by decide +kernel
theorem dd_M_writeOutside_197 : decode bb_M_writeOutside 197 = .ok (.imul, 1) := by decide +kernel
theorem dd_M_writeOutside_198 : decode bb_M_writeOutside 198 = .ok (.if_icmp .ge 105, 3) := by decide +kernel
theorem dd_M_writeOutside_201 : decode bb_M_writeOutside 201 = .ok (.iload 9, 2) := by decide +kernel
theorem dd_M_writeOutside_203 : decode bb_M_writeOutside 203 = .ok (.iload_n 2, 1) := by decide +kernel
theorem dd_M_writeOutside_204 : decode bb_M_writeOutside 204 = .ok (.if_icmp .lt 15, 3) := by decide +kernel
theorem dd_M_writeOutside_207 : decode bb_M_writeOutside 207 = .ok (.iload 9, 2) := by decide +kernel
theorem dd_M_writeOutside_209 : decode bb_M_writeOutside 209 = .ok (.iload_n 2, 1) := by decide +kernel
theorem dd_M_writeOutside_210 : decode bb_M_writeOutside 210 = .ok (.iload_n 3, 1) := by decide +kernel
theorem dd_M_writeOutside_211 : decode bb_M_writeOutside 211 = .ok (.iadd, 1) := by decide +kernel
theorem dd_M_writeOutside_212 : decode bb_M_writeOutside 212 = .ok (.if_icmp .ge 7, 3) := by decide +kernel
theorem dd_M_writeOutside_215 : decode bb_M_writeOutside 215 = .ok (.iconst 1, 1) := by decide +kernel
theorem dd_M_writeOutside_216 : decode bb_M_writeOutside 216 = .ok (.goto 4, 3) := by decide +kernel
theorem dd_M_writeOutside_219 : decode bb_M_writeOutside 219 = .ok (.iconst 0, 1) := by decide +kernel
theorem dd_M_writeOutside_220 : decode bb_M_writeOutside 220 = .ok (.istore 10, 2) := by decide +kernel
theorem dd_M_writeOutside_222 : decode bb_M_writeOutside 222 = .ok (.iload 10, 2) := by decide +kernel
theorem dd_M_writeOutside_224 : decode bb_M_writeOutside 224 = .ok (.ifCond .eq 23, 3) := by decide +kernel
theorem dd_M_writeOutside_227 : decode bb_M_writeOutside 227 = .ok (.aload_n 0, 1) := by decide +kernel
theorem dd_M_writeOutside_228 : decode bb_M_writeOutside 228 = .ok (.iload 9, 2) := by decide +kernel
theorem dd_M_writeOutside_230 : decode bb_M_writeOutside 230 = .ok (.iload 4, 2) := by decide +kernel
theorem dd_M_writeOutside_232 : decode bb_M_writeOutside 232 = .ok (.iload 9, 2) := by decide +kernel
theorem dd_M_writeOutside_234 : decode bb_M_writeOutside 234 = .ok (.iadd, 1) := by decide +kernel
theorem dd_M_writeOutside_235 : decode bb_M_writeOutside 235 = .ok (.iload_n 2, 1) := by decide +kernel
theorem dd_M_writeOutside_236 : decode bb_M_writeOutside 236 = .ok (.isub, 1) := by decide +kernel
theorem dd_M_writeOutside_237 : decode bb_M_writeOutside 237 = .ok (.sipush 255, 3) := by decide +kernel
theorem dd_M_writeOutside_240 : decode bb_M_writeOutside 240 = .ok (.iand, 1) := by decide +kernel
theorem dd_M_writeOutside_241 : decode bb_M_writeOutside 241 = .ok (.invokevirtual 186, 3) := by decide +kernel
theorem dd_M_writeOutside_244 : decode bb_M_writeOutside 244 = .ok (.goto 53, 3) := by decide +kernel
theorem dd_M_writeOutside_247 : decode bb_M_writeOutside 247 = .ok (.iload 9, 2) := by decide +kernel
theorem dd_M_writeOutside_249 : decode bb_M_writeOutside 249 = .ok (.iload 8, 2) := by decide +kernel
theorem dd_M_writeOutside_251 : decode bb_M_writeOutside 251 = .ok (.if_icmp .ge 19, 3) := by decide +kernel
theorem dd_M_writeOutside_254 : decode bb_M_writeOutside 254 = .ok (.aload_n 0, 1) := by decide +kernel
theorem dd_M_writeOutside_255 : decode bb_M_writeOutside 255 = .ok (.iload 9, 2) := by decide +kernel
theorem dd_M_writeOutside_257 : decode bb_M_writeOutside 257 = .ok (.aload_n 0, 1) := by decide +kernel
theorem dd_M_writeOutside_258 : decode bb_M_writeOutside 258 = .ok (.getfield 33, 3) := by decide +kernel
theorem dd_M_writeOutside_261 : decode bb_M_writeOutside 261 = .ok (.iload 9, 2) := by decide +kernel
theorem dd_M_writeOutside_263 : decode bb_M_writeOutside 263 = .ok (.iaload, 1) := by decide +kernel
theorem dd_M_writeOutside_264 : decode bb_M_writeOutside 264 = .ok (.invokevirtual 186, 3) := by decide +kernel
theorem dd_M_writeOutside_267 : decode bb_M_writeOutside 267 = .ok (.goto 30, 3) := by decide +kernel
theorem dd_M_writeOutside_270 : decode bb_M_writeOutside 270 = .ok (.iload 9, 2) := by decide +kernel
theorem dd_M_writeOutside_272 : decode bb_M_writeOutside 272 = .ok (.iload 5, 2) := by decide +kernel
theorem dd_M_writeOutside_274 : decode bb_M_writeOutside 274 = .ok (.if_icmp .ge 16, 3) := by decide +kernel
theorem dd_M_writeOutside_277 : decode bb_M_writeOutside 277 = .ok (.aload_n 0, 1) := by decide +kernel
theorem dd_M_writeOutside_278 : decode bb_M_writeOutside 278 = .ok (.getfield 30, 3) := by decide +kernel
theorem dd_M_writeOutside_281 : decode bb_M_writeOutside 281 = .ok (.iload 9, 2) := by decide +kernel
theorem dd_M_writeOutside_283 : decode bb_M_writeOutside 283 = .ok (.bipush 16, 2) := by decide +kernel
theorem dd_M_writeOutside_285 : decode bb_M_writeOutside 285 = .ok (.idiv, 1) := by decide +kernel
theorem dd_M_writeOutside_286 : decode bb_M_writeOutside 286 = .ok (.baload, 1) := by decide +kernel
theorem dd_M_writeOutside_287 : decode bb_M_writeOutside 287 = .ok (.ifCond .eq 10, 3) := by decide +kernel
theorem dd_M_writeOutside_290 : decode bb_M_writeOutside 290 = .ok (.aload_n 0, 1) := by decide +kernel
theorem dd_M_writeOutside_291 : decode bb_M_writeOutside 291 = .ok (.iload 9, 2) := by decide +kernel
theorem dd_M_writeOutside_293 : decode bb_M_writeOutside 293 = .ok (.iconst 0, 1) := by decide +kernel
theorem dd_M_writeOutside_294 : decode bb_M_writeOutside 294 = .ok (.invokevirtual 186, 3) := by decide +kernel
theorem dd_M_writeOutside_297 : decode bb_M_writeOutside 297 = .ok (.iinc 9 1, 3) := by decide +kernel
theorem dd_M_writeOutside_300 : decode bb_M_writeOutside 300 = .ok (.goto (-111), 3) := by decide +kernel
theorem dd_M_writeOutside_303 : decode bb_M_writeOutside 303 = .ok (.aload_n 0, 1) := by decide +kernel
theorem dd_M_writeOutside_304 : decode bb_M_writeOutside 304 = .ok (.iload_n 1, 1) := by decide +kernel
theorem dd_M_writeOutside_305 : decode bb_M_writeOutside 305 = .ok (.invokevirtual 46, 3) := by decide +kernel
theorem dd_M_writeOutside_308 : decode bb_M_writeOutside 308 = .ok (.ifCond .eq 8, 3) := by decide +kernel
theorem dd_M_writeOutside_311 : decode bb_M_writeOutside 311 = .ok (.iload 6, 2) := by decide +kernel
theorem dd_M_writeOutside_313 : decode bb_M_writeOutside 313 = .ok (.goto 8, 3) := by decide +kernel
theorem dd_M_writeOutside_316 : decode bb_M_writeOutside 316 = .ok (.aload_n 0, 1) := by decide +kernel
theorem dd_M_writeOutside_317 : decode bb_M_writeOutside 317 = .ok (.iconst 1, 1) := by decide +kernel
theorem dd_M_writeOutside_318 : decode bb_M_writeOutside 318 = .ok (.invokevirtual 117, 3) := by decide +kernel
theorem dd_M_writeOutside_321 : decode bb_M_writeOutside 321 = .ok (.ireturn, 1) := by decide +kernel
theorem dd_M_write_0 : decode bb_M_write 0 = .ok (.aload_n 0, 1) := by decide +kernel
theorem dd_M_write_1 : decode bb_M_write 1 = .ok (.iconst 0, 1) := by decide +kernel
theorem dd_M_write_2 : decode bb_M_write 2 = .ok (.putfield 54, 3) := by decide +kernel
theorem dd_M_write_5 : decode bb_M_write 5 = .ok (.aload_n 0, 1) := by decide +kernel
theorem dd_M_write_6 : decode bb_M_write 6 = .ok (.getfield 50, 3) := by decide +kernel
theorem dd_M_write_9 : decode bb_M_write 9 = .ok (.ifCond .ne 9, 3) := by decide +kernel
theorem dd_M_write_12 : decode bb_M_write 12 = .ok (.aload_n 0, 1) := by decide +kernel
theorem dd_M_write_13 : decode bb_M_write 13 = .ok (.iconst 1, 1) := by decide +kernel
theorem dd_M_write_14 : decode bb_M_write 14 = .ok (.invokevirtual 117, 3) := by decide +kernel
theorem dd_M_write_17 : decode bb_M_write 17 = .ok (.ireturn, 1) := by decide +kernel
theorem dd_M_write_18 : decode bb_M_write 18 = .ok (.aload_n 0, 1) := by decide +kernel
theorem dd_M_write_19 : decode bb_M_write 19 = .ok (.iload_n 1, 1) := by decide +kernel
theorem dd_M_write_20 : decode bb_M_write 20 = .ok (.iconst 1, 1) := by decide +kernel
theorem dd_M_write_21 : decode bb_M_write 21 = .ok (.invokevirtual 120, 3) := by decide +kernel
theorem dd_M_write_24 : decode bb_M_write 24 = .ok (.ifCond .eq 29, 3) := by decide +kernel
theorem dd_M_write_27 : decode bb_M_write 27 = .ok (.iload_n 2, 1) := by decide +kernel
theorem dd_M_write_28 : decode bb_M_write 28 = .ok (.ifCond .lt 25, 3) := by decide +kernel
theorem dd_M_write_31 : decode bb_M_write 31 = .ok (.iload_n 2, 1) := by decide +kernel
theorem dd_M_write_32 : decode bb_M_write 32 = .ok (.sipush 1000, 3) := by decide +kernel
theorem dd_M_write_35 : decode bb_M_write 35 = .ok (.if_icmp .gt 18, 3) := by decide +kernel
theorem dd_M_write_38 : decode bb_M_write 38 = .ok (.iload_n 3, 1) := by decide +kernel
theorem dd_M_write_39 : decode bb_M_write 39 = .ok (.iconst 1, 1) := by decide +kernel
theorem dd_M_write_40 : decode bb_M_write 40 = .ok (.if_icmp .lt 13, 3) := by decide +kernel
theorem dd_M_write_43 : decode bb_M_write 43 = .ok (.iload_n 3, 1) := by decide +kernel
theorem dd_M_write_44 : decode bb_M_write 44 = .ok (.bipush 60, 2) := by decide +kernel
theorem dd_M_write_46 : decode bb_M_write 46 = .ok (.if_icmp .gt 7, 3) := by decide +kernel
theorem dd_M_write_49 : decode bb_M_write 49 = .ok (.iconst 1, 1) := by decide +kernel
theorem dd_M_write_50 : decode bb_M_write 50 = .ok (.goto 4, 3) := by decide +kernel
theorem dd_M_write_53 : decode bb_M_write 53 = .ok (.iconst 0, 1) := by decide +kernel
theorem dd_M_write_54 : decode bb_M_write 54 = .ok (.istore 5, 2) := by decide +kernel
theorem dd_M_write_56 : decode bb_M_write 56 = .ok (.iload 5, 2) := by decide +kernel
theorem dd_M_write_58 : decode bb_M_write 58 = .ok (.ifCond .eq 12, 3) := by decide +kernel
theorem dd_M_write_61 : decode bb_M_write 61 = .ok (.iload_n 2, 1) := by decide +kernel
theorem dd_M_write_62 : decode bb_M_write 62 = .ok (.iload_n 3, 1) := by decide +kernel
theorem dd_M_write_63 : decode bb_M_write 63 = .ok (.iadd, 1) := by decide +kernel
theorem dd_M_write_64 : decode bb_M_write 64 = .ok (.sipush 1000, 3) := by decide +kernel
theorem dd_M_write_67 : decode bb_M_write 67 = .ok (.if_icmp .le 9, 3) := by decide +kernel
theorem dd_M_write_70 : decode bb_M_write 70 = .ok (.aload_n 0, 1) := by decide +kernel
theorem dd_M_write_71 : decode bb_M_write 71 = .ok (.iconst 2, 1) := by decide +kernel
theorem dd_M_write_72 : decode bb_M_write 72 = .ok (.invokevirtual 117, 3) := by decide +kernel
theorem dd_M_write_75 : decode bb_M_write 75 = .ok (.ireturn, 1) := by decide +kernel
theorem dd_M_write_76 : decode bb_M_write 76 = .ok (.aload_n 0, 1) := by decide +kernel
theorem dd_M_write_77 : decode bb_M_write 77 = .ok (.iload_n 1, 1) := by decide +kernel
theorem dd_M_write_78 : decode bb_M_write 78 = .ok (.invokevirtual 168, 3) := by decide +kernel
theorem dd_M_write_81 : decode bb_M_write 81 = .ok (.istore 6, 2) := by decide +kernel
theorem dd_M_write_83 : decode bb_M_write 83 = .ok (.iload_n 2, 1) := by decide +kernel
theorem dd_M_write_84 : decode bb_M_write 84 = .ok (.iload_n 3, 1) := by decide +kernel
theorem dd_M_write_85 : decode bb_M_write 85 = .ok (.iadd, 1) := by decide +kernel
theorem dd_M_write_86 : decode bb_M_write 86 = .ok (.iload 6, 2) := by decide +kernel
theorem dd_M_write_88 : decode bb_M_write 88 = .ok (.if_icmp .le 9, 3) := by decide +kernel
theorem dd_M_write_91 : decode bb_M_write 91 = .ok (.iload_n 2, 1) := by decide +kernel
theorem dd_M_write_92 : decode bb_M_write 92 = .ok (.iload_n 3, 1) := by decide +kernel
theorem dd_M_write_93 : decode bb_M_write 93 = .ok (.iadd, 1) := by decide +kernel
theorem dd_M_write_94 : decode bb_M_write 94 = .ok (.goto 5, 3) := by decide +kernel
theorem dd_M_write_97 : decode bb_M_write 97 = .ok (.iload 6, 2) := by decide +kernel
theorem dd_M_write_99 : decode bb_M_write 99 = .ok (.istore 7, 2) := by decide +kernel
theorem dd_M_write_101 : decode bb_M_write 101 = .ok (.aload_n 0, 1) := by decide +kernel
theorem dd_M_write_102 : decode bb_M_write 102 = .ok (.iload_n 1, 1) := by decide +kernel
theorem dd_M_write_103 : decode bb_M_write 103 = .ok (.invokevirtual 171, 3) := by decide +kernel
theorem dd_M_write_106 : decode bb_M_write 106 = .ok (.ifCond .eq 16, 3) := by decide +kernel
theorem dd_M_write_109 : decode bb_M_write 109 = .ok (.iload 7, 2) := by decide +kernel
theorem dd_M_write_111 : decode bb_M_write 111 = .ok (.bipush 50, 2) := by decide +kernel
theorem dd_M_write_113 : decode bb_M_write 113 = .ok (.aload_n 0, 1) := by decide +kernel
theorem dd_M_write_114 : decode bb_M_write 114 = .ok (.iload_n 1, 1) := by decide +kernel
theorem dd_M_write_115 : decode bb_M_write 115 = .ok (.invokevirtual 72, 3) := by decide +kernel
theorem dd_M_write_118 : decode bb_M_write 118 = .ok (.isub, 1) := by decide +kernel
theorem dd_M_write_119 : decode bb_M_write 119 = .ok (.if_icmp .le 13, 3) := by decide +kernel
theorem dd_M_write_122 : decode bb_M_write 122 = .ok (.aload_n 0, 1) := by decide +kernel
theorem dd_M_write_123 : decode bb_M_write 123 = .ok (.iload_n 1, 1) := by decide +kernel
theorem dd_M_write_124 : decode bb_M_write 124 = .ok (.iload_n 2, 1) := by decide +kernel
theorem dd_M_write_125 : decode bb_M_write 125 = .ok (.iload_n 3, 1) := by decide +kernel
theorem dd_M_write_126 : decode bb_M_write 126 = .ok (.iload 4, 2) := by decide +kernel
theorem dd_M_write_128 : decode bb_M_write 128 = .ok (.invokevirtual 189, 3) := by decide +kernel
theorem dd_M_write_131 : decode bb_M_write 131 = .ok (.ireturn, 1) := by decide +kernel
theorem dd_M_write_132 : decode bb_M_write 132 = .ok (.aload_n 0, 1) := by decide +kernel
theorem dd_M_write_133 : decode bb_M_write 133 = .ok (.iload_n 1, 1) := by decide +kernel
theorem dd_M_write_134 : decode bb_M_write 134 = .ok (.iconst 2, 1) := by decide +kernel
theorem dd_M_write_135 : decode bb_M_write 135 = .ok (.invokevirtual 69, 3) := by decide +kernel
theorem dd_M_write_138 : decode bb_M_write 138 = .ok (.iconst 2, 1) := by decide +kernel
theorem dd_M_write_139 : decode bb_M_write 139 = .ok (.iadd, 1) := by decide +kernel
theorem dd_M_write_140 : decode bb_M_write 140 = .ok (.istore 8, 2) := by decide +kernel
theorem dd_M_write_142 : decode bb_M_write 142 = .ok (.iconst 0, 1) := by decide +kernel
theorem dd_M_write_143 : decode bb_M_write 143 = .ok (.istore 9, 2) := by decide +kernel
theorem dd_M_write_145 : decode bb_M_write 145 = .ok (.iload 9, 2) := by decide +kernel
theorem dd_M_write_147 : decode bb_M_write 147 = .ok (.iload 7, 2) := by decide +kernel
theorem dd_M_write_149 : decode bb_M_write 149 = .ok (.if_icmp .ge 65, 3) := by decide +kernel
theorem dd_M_write_152 : decode bb_M_write 152 = .ok (.aload_n 0, 1) := by decide +kernel
theorem dd_M_write_153 : decode bb_M_write 153 = .ok (.getfield 33, 3) := by decide +kernel
theorem dd_M_write_156 : decode bb_M_write 156 = .ok (.iload 9, 2) := by decide +kernel
theorem dd_M_write_158 : decode bb_M_write 158 = .ok (.iload 9, 2) := by decide +kernel
theorem dd_M_write_160 : decode bb_M_write 160 = .ok (.iload_n 2, 1) := by decide +kernel
theorem dd_M_write_161 : decode bb_M_write 161 = .ok (.if_icmp .lt 25, 3) := by decide +kernel
theorem dd_M_write_164 : decode bb_M_write 164 = .ok (.iload 9, 2) := by decide +kernel
theorem dd_M_write_166 : decode bb_M_write 166 = .ok (.iload_n 2, 1) := by decide +kernel
theorem dd_M_write_167 : decode bb_M_write 167 = .ok (.iload_n 3, 1) := by decide +kernel
theorem dd_M_write_168 : decode bb_M_write 168 = .ok (.iadd, 1) := by decide +kernel
theorem dd_M_write_169 : decode bb_M_write 169 = .ok (.if_icmp .ge 17, 3) := by decide +kernel
theorem dd_M_write_172 : decode bb_M_write 172 = .ok (.iload 4, 2) := by decide +kernel
theorem dd_M_write_174 : decode bb_M_write 174 = .ok (.iload 9, 2) := by decide +kernel
theorem dd_M_write_176 : decode bb_M_write 176 = .ok (.iadd, 1) := by decide +kernel
theorem dd_M_write_177 : decode bb_M_write 177 = .ok (.iload_n 2, 1) := by decide +kernel
theorem dd_M_write_178 : decode bb_M_write 178 = .ok (.isub, 1) := by decide +kernel
theorem dd_M_write_179 : decode bb_M_write 179 = .ok (.sipush 255, 3) := by decide +kernel
theorem dd_M_write_182 : decode bb_M_write 182 = .ok (.iand, 1) := by decide +kernel
theorem dd_M_write_183 : decode bb_M_write 183 = .ok (.goto 24, 3) := by decide +kernel
theorem dd_M_write_186 : decode bb_M_write 186 = .ok (.iload 9, 2) := by decide +kernel
theorem dd_M_write_188 : decode bb_M_write 188 = .ok (.iload 6, 2) := by decide +kernel
theorem dd_M_write_190 : decode bb_M_write 190 = .ok (.if_icmp .ge 16, 3) := by decide +kernel
theorem dd_M_write_193 : decode bb_M_write 193 = .ok (.aload_n 0, 1) := by decide +kernel
theorem dd_M_write_194 : decode bb_M_write 194 = .ok (.iload_n 1, 1) := by decide +kernel
theorem dd_M_write_195 : decode bb_M_write 195 = .ok (.iload 8, 2) := by decide +kernel
theorem dd_M_write_197 : decode bb_M_write 197 = .ok (.iload 9, 2) := by decide +kernel
theorem dd_M_write_199 : decode bb_M_write 199 = .ok (.iadd, 1) := by decide +kernel
theorem dd_M_write_200 : decode bb_M_write 200 = .ok (.invokevirtual 65, 3) := by decide +kernel
theorem dd_M_write_203 : decode bb_M_write 203 = .ok (.goto 4, 3) := by decide +kernel
theorem dd_M_write_206 : decode bb_M_write 206 = .ok (.iconst 0, 1) := by decide +kernel
theorem dd_M_write_207 : decode bb_M_write 207 = .ok (.iastore, 1) := by decide +kernel
theorem dd_M_write_208 : decode bb_M_write 208 = .ok (.iinc 9 1, 3) := by decide +kernel
theorem dd_M_write_211 : decode bb_M_write 211 = .ok (.goto (-66), 3) := by decide +kernel
theorem dd_M_write_214 : decode bb_M_write 214 = .ok (.aload_n 0, 1) := by decide +kernel
theorem dd_M_write_215 : decode bb_M_write 215 = .ok (.iconst 1, 1) := by decide +kernel
theorem dd_M_write_216 : decode bb_M_write 216 = .ok (.aload_n 0, 1) := by decide +kernel
theorem dd_M_write_217 : decode bb_M_write 217 = .ok (.iload_n 1, 1) := by decide +kernel
theorem dd_M_write_218 : decode bb_M_write 218 = .ok (.iconst 1, 1) := by decide +kernel
theorem dd_M_write_219 : decode bb_M_write 219 = .ok (.invokevirtual 65, 3) := by decide +kernel
theorem dd_M_write_222 : decode bb_M_write 222 = .ok (.invokevirtual 39, 3) := by decide +kernel
theorem dd_M_write_225 : decode bb_M_write 225 = .ok (.aload_n 0, 1) := by decide +kernel
theorem dd_M_write_226 : decode bb_M_write 226 = .ok (.iload_n 1, 1) := by decide +kernel
theorem dd_M_write_227 : decode bb_M_write 227 = .ok (.invokevirtual 102, 3) := by decide +kernel
theorem dd_M_write_230 : decode bb_M_write 230 = .ok (.aload_n 0, 1) := by decide +kernel
theorem dd_M_write_231 : decode bb_M_write 231 = .ok (.iload 7, 2) := by decide +kernel
theorem dd_M_write_233 : decode bb_M_write 233 = .ok (.invokevirtual 129, 3) := by decide +kernel
theorem dd_M_write_236 : decode bb_M_write 236 = .ok (.aload_n 0, 1) := by decide +kernel
theorem dd_M_write_237 : decode bb_M_write 237 = .ok (.iload_n 1, 1) := by decide +kernel
theorem dd_M_write_238 : decode bb_M_write 238 = .ok (.invokevirtual 46, 3) := by decide +kernel
theorem dd_M_write_241 : decode bb_M_write 241 = .ok (.ifCond .eq 8, 3) := by decide +kernel
theorem dd_M_write_244 : decode bb_M_write 244 = .ok (.iload 7, 2) := by decide +kernel
theorem dd_M_write_246 : decode bb_M_write 246 = .ok (.goto 8, 3) := by decide +kernel
theorem dd_M_write_249 : decode bb_M_write 249 = .ok (.aload_n 0, 1) := by decide +kernel
theorem dd_M_write_250 : decode bb_M_write 250 = .ok (.iconst 1, 1) := by decide +kernel
theorem dd_M_write_251 : decode bb_M_write 251 = .ok (.invokevirtual 117, 3) := by decide +kernel
theorem dd_M_write_254 : decode bb_M_write 254 = .ok (.ireturn, 1) := by decide +kernel
theorem dd_M_cut_0 : decode bb_M_cut 0 = .ok (.aload_n 0, 1) := by decide +kernel
theorem dd_M_cut_1 : decode bb_M_cut 1 = .ok (.iconst 0, 1) := by decide +kernel
theorem dd_M_cut_2 : decode bb_M_cut 2 = .ok (.putfield 54, 3) := by decide +kernel
theorem dd_M_cut_5 : decode bb_M_cut 5 = .ok (.aload_n 0, 1) := by decide +kernel
theorem dd_M_cut_6 : decode bb_M_cut 6 = .ok (.getfield 50, 3) := by decide +kernel
theorem dd_M_cut_9 : decode bb_M_cut 9 = .ok (.ifCond .ne 9, 3) := by decide +kernel
theorem dd_M_cut_12 : decode bb_M_cut 12 = .ok (.aload_n 0, 1) := by decide +kernel
theorem dd_M_cut_13 : decode bb_M_cut 13 = .ok (.iconst 1, 1) := by decide +kernel
theorem dd_M_cut_14 : decode bb_M_cut 14 = .ok (.invokevirtual 117, 3) := by decide +kernel
theorem dd_M_cut_17 : decode bb_M_cut 17 = .ok (.ireturn, 1) := by decide +kernel
theorem dd_M_cut_18 : decode bb_M_cut 18 = .ok (.aload_n 0, 1) := by decide +kernel
theorem dd_M_cut_19 : decode bb_M_cut 19 = .ok (.iload_n 1, 1) := by decide +kernel
theorem dd_M_cut_20 : decode bb_M_cut 20 = .ok (.iconst 1, 1) := by decide +kernel
theorem dd_M_cut_21 : decode bb_M_cut 21 = .ok (.invokevirtual 120, 3) := by decide +kernel
theorem dd_M_cut_24 : decode bb_M_cut 24 = .ok (.ifCond .ne 9, 3) := by decide +kernel
theorem dd_M_cut_27 : decode bb_M_cut 27 = .ok (.aload_n 0, 1) := by decide +kernel
theorem dd_M_cut_28 : decode bb_M_cut 28 = .ok (.iconst 2, 1) := by decide +kernel
theorem dd_M_cut_29 : decode bb_M_cut 29 = .ok (.invokevirtual 117, 3) := by decide +kernel
theorem dd_M_cut_32 : decode bb_M_cut 32 = .ok (.ireturn, 1) := by decide +kernel
theorem dd_M_cut_33 : decode bb_M_cut 33 = .ok (.aload_n 0, 1) := by decide +kernel
theorem dd_M_cut_34 : decode bb_M_cut 34 = .ok (.iload_n 1, 1) := by decide +kernel
theorem dd_M_cut_35 : decode bb_M_cut 35 = .ok (.invokevirtual 168, 3) := by decide +kernel
theorem dd_M_cut_38 : decode bb_M_cut 38 = .ok (.istore_n 3, 1) := by decide +kernel
theorem dd_M_cut_39 : decode bb_M_cut 39 = .ok (.iload_n 2, 1) := by decide +kernel
theorem dd_M_cut_40 : decode bb_M_cut 40 = .ok (.ifCond .lt 8, 3) := by decide +kernel
theorem dd_M_cut_43 : decode bb_M_cut 43 = .ok (.iload_n 2, 1) := by decide +kernel
theorem dd_M_cut_44 : decode bb_M_cut 44 = .ok (.iload_n 3, 1) := by decide +kernel
theorem dd_M_cut_45 : decode bb_M_cut 45 = .ok (.if_icmp .le 9, 3) := by decide +kernel
theorem dd_M_cut_48 : decode bb_M_cut 48 = .ok (.aload_n 0, 1) := by decide +kernel
theorem dd_M_cut_49 : decode bb_M_cut 49 = .ok (.iconst 2, 1) := by decide +kernel
theorem dd_M_cut_50 : decode bb_M_cut 50 = .ok (.invokevirtual 117, 3) := by decide +kernel
theorem dd_M_cut_53 : decode bb_M_cut 53 = .ok (.ireturn, 1) := by decide +kernel
theorem dd_M_cut_54 : decode bb_M_cut 54 = .ok (.aload_n 0, 1) := by decide +kernel
theorem dd_M_cut_55 : decode bb_M_cut 55 = .ok (.iload_n 1, 1) := by decide +kernel
theorem dd_M_cut_56 : decode bb_M_cut 56 = .ok (.invokevirtual 171, 3) := by decide +kernel
theorem dd_M_cut_59 : decode bb_M_cut 59 = .ok (.istore 4, 2) := by decide +kernel
theorem dd_M_cut_61 : decode bb_M_cut 61 = .ok (.aload_n 0, 1) := by decide +kernel
theorem dd_M_cut_62 : decode bb_M_cut 62 = .ok (.iload_n 1, 1) := by decide +kernel
theorem dd_M_cut_63 : decode bb_M_cut 63 = .ok (.invokevirtual 145, 3) := by decide +kernel
theorem dd_M_cut_66 : decode bb_M_cut 66 = .ok (.aload_n 0, 1) := by decide +kernel
theorem dd_M_cut_67 : decode bb_M_cut 67 = .ok (.getfield 91, 3) := by decide +kernel
theorem dd_M_cut_70 : decode bb_M_cut 70 = .ok (.istore 5, 2) := by decide +kernel
theorem dd_M_cut_72 : decode bb_M_cut 72 = .ok (.aload_n 0, 1) := by decide +kernel
theorem dd_M_cut_73 : decode bb_M_cut 73 = .ok (.iload_n 1, 1) := by decide +kernel
theorem dd_M_cut_74 : decode bb_M_cut 74 = .ok (.iconst 2, 1) := by decide +kernel
theorem dd_M_cut_75 : decode bb_M_cut 75 = .ok (.invokevirtual 69, 3) := by decide +kernel
theorem dd_M_cut_78 : decode bb_M_cut 78 = .ok (.iconst 2, 1) := by decide +kernel
theorem dd_M_cut_79 : decode bb_M_cut 79 = .ok (.iadd, 1) := by decide +kernel
theorem dd_M_cut_80 : decode bb_M_cut 80 = .ok (.istore 6, 2) := by decide +kernel
theorem dd_M_cut_82 : decode bb_M_cut 82 = .ok (.iconst 0, 1) := by decide +kernel
theorem dd_M_cut_83 : decode bb_M_cut 83 = .ok (.istore 7, 2) := by decide +kernel
theorem dd_M_cut_85 : decode bb_M_cut 85 = .ok (.iload 7, 2) := by decide +kernel
theorem dd_M_cut_87 : decode bb_M_cut 87 = .ok (.iload_n 2, 1) := by decide +kernel
theorem dd_M_cut_88 : decode bb_M_cut 88 = .ok (.if_icmp .ge 31, 3) := by decide +kernel
theorem dd_M_cut_91 : decode bb_M_cut 91 = .ok (.iload 4, 2) := by decide +kernel
theorem dd_M_cut_93 : decode bb_M_cut 93 = .ok (.ifCond .eq 26, 3) := by decide +kernel
theorem dd_M_cut_96 : decode bb_M_cut 96 = .ok (.aload_n 0, 1) := by decide +kernel
theorem dd_M_cut_97 : decode bb_M_cut 97 = .ok (.getfield 33, 3) := by decide +kernel
theorem dd_M_cut_100 : decode bb_M_cut 100 = .ok (.iload 7, 2) := by decide +kernel
theorem dd_M_cut_102 : decode bb_M_cut 102 = .ok (.aload_n 0, 1) := by decide +kernel
theorem dd_M_cut_103 : decode bb_M_cut 103 = .ok (.iload_n 1, 1) := by decide +kernel
theorem dd_M_cut_104 : decode bb_M_cut 104 = .ok (.iload 6, 2) := by decide +kernel
theorem dd_M_cut_106 : decode bb_M_cut 106 = .ok (.iload 7, 2) := by decide +kernel
theorem dd_M_cut_108 : decode bb_M_cut 108 = .ok (.iadd, 1) := by decide +kernel
theorem dd_M_cut_109 : decode bb_M_cut 109 = .ok (.invokevirtual 65, 3) := by decide +kernel
theorem dd_M_cut_112 : decode bb_M_cut 112 = .ok (.iastore, 1) := by decide +kernel
theorem dd_M_cut_113 : decode bb_M_cut 113 = .ok (.iinc 7 1, 3) := by decide +kernel
theorem dd_M_cut_116 : decode bb_M_cut 116 = .ok (.goto (-31), 3) := by decide +kernel
theorem dd_M_cut_119 : decode bb_M_cut 119 = .ok (.aload_n 0, 1) := by decide +kernel
theorem dd_M_cut_120 : decode bb_M_cut 120 = .ok (.iconst 1, 1) := by decide +kernel
theorem dd_M_cut_121 : decode bb_M_cut 121 = .ok (.aload_n 0, 1) := by decide +kernel
theorem dd_M_cut_122 : decode bb_M_cut 122 = .ok (.iload_n 1, 1) := by decide +kernel
theorem dd_M_cut_123 : decode bb_M_cut 123 = .ok (.iconst 1, 1) := by decide +kernel
theorem dd_M_cut_124 : decode bb_M_cut 124 = .ok (.invokevirtual 65, 3) := by decide +kernel
theorem dd_M_cut_127 : decode bb_M_cut 127 = .ok (.invokevirtual 39, 3) := by decide +kernel
theorem dd_M_cut_130 : decode bb_M_cut 130 = .ok (.aload_n 0, 1) := by decide +kernel
theorem dd_M_cut_131 : decode bb_M_cut 131 = .ok (.iload_n 1, 1) := by decide +kernel
theorem dd_M_cut_132 : decode bb_M_cut 132 = .ok (.invokevirtual 102, 3) := by decide +kernel
theorem dd_M_cut_135 : decode bb_M_cut 135 = .ok (.iload 4, 2) := by decide +kernel
theorem dd_M_cut_137 : decode bb_M_cut 137 = .ok (.ifCond .ne 7, 3) := by decide +kernel
theorem dd_M_cut_140 : decode bb_M_cut 140 = .ok (.iload_n 2, 1) := by decide +kernel
theorem dd_M_cut_141 : decode bb_M_cut 141 = .ok (.ifCond .ne 11, 3) := by decide +kernel
theorem dd_M_cut_144 : decode bb_M_cut 144 = .ok (.aload_n 0, 1) := by decide +kernel
theorem dd_M_cut_145 : decode bb_M_cut 145 = .ok (.iload_n 2, 1) := by decide +kernel
theorem dd_M_cut_146 : decode bb_M_cut 146 = .ok (.invokevirtual 129, 3) := by decide +kernel
theorem dd_M_cut_149 : decode bb_M_cut 149 = .ok (.goto 44, 3) := by decide +kernel
theorem dd_M_cut_152 : decode bb_M_cut 152 = .ok (.aload_n 0, 1) := by decide +kernel
theorem dd_M_cut_153 : decode bb_M_cut 153 = .ok (.iload_n 2, 1) := by decide +kernel
theorem dd_M_cut_154 : decode bb_M_cut 154 = .ok (.invokestatic 174, 3) := by decide +kernel
theorem dd_M_cut_157 : decode bb_M_cut 157 = .ok (.putfield 91, 3) := by decide +kernel
theorem dd_M_cut_160 : decode bb_M_cut 160 = .ok (.aload_n 0, 1) := by decide +kernel
theorem dd_M_cut_161 : decode bb_M_cut 161 = .ok (.iload_n 2, 1) := by decide +kernel
theorem dd_M_cut_162 : decode bb_M_cut 162 = .ok (.invokevirtual 180, 3) := by decide +kernel
theorem dd_M_cut_165 : decode bb_M_cut 165 = .ok (.iload_n 2, 1) := by decide +kernel
theorem dd_M_cut_166 : decode bb_M_cut 166 = .ok (.istore 7, 2) := by decide +kernel
theorem dd_M_cut_168 : decode bb_M_cut 168 = .ok (.iload 7, 2) := by decide +kernel
theorem dd_M_cut_170 : decode bb_M_cut 170 = .ok (.bipush 16, 2) := by decide +kernel
theorem dd_M_cut_172 : decode bb_M_cut 172 = .ok (.aload_n 0, 1) := by decide +kernel
theorem dd_M_cut_173 : decode bb_M_cut 173 = .ok (.getfield 91, 3) := by decide +kernel
theorem dd_M_cut_176 : decode bb_M_cut 176 = .ok (.imul, 1) := by decide +kernel
theorem dd_M_cut_177 : decode bb_M_cut 177 = .ok (.if_icmp .ge 16, 3) := by decide +kernel
theorem dd_M_cut_180 : decode bb_M_cut 180 = .ok (.aload_n 0, 1) := by decide +kernel
theorem dd_M_cut_181 : decode bb_M_cut 181 = .ok (.iload 7, 2) := by decide +kernel
theorem dd_M_cut_183 : decode bb_M_cut 183 = .ok (.iconst 0, 1) := by decide +kernel
theorem dd_M_cut_184 : decode bb_M_cut 184 = .ok (.invokevirtual 186, 3) := by decide +kernel
theorem dd_M_cut_187 : decode bb_M_cut 187 = .ok (.iinc 7 1, 3) := by decide +kernel
theorem dd_M_cut_190 : decode bb_M_cut 190 = .ok (.goto (-22), 3) := by decide +kernel
theorem dd_M_cut_193 : decode bb_M_cut 193 = .ok (.aload_n 0, 1) := by decide +kernel
theorem dd_M_cut_194 : decode bb_M_cut 194 = .ok (.iload_n 1, 1) := by decide +kernel
theorem dd_M_cut_195 : decode bb_M_cut 195 = .ok (.invokevirtual 46, 3) := by decide +kernel
theorem dd_M_cut_198 : decode bb_M_cut 198 = .ok (.ifCond .ne 9, 3) := by decide +kernel
theorem dd_M_cut_201 : decode bb_M_cut 201 = .ok (.aload_n 0, 1) := by decide +kernel
theorem dd_M_cut_202 : decode bb_M_cut 202 = .ok (.iconst 1, 1) := by decide +kernel
theorem dd_M_cut_203 : decode bb_M_cut 203 = .ok (.invokevirtual 117, 3) := by decide +kernel
theorem dd_M_cut_206 : decode bb_M_cut 206 = .ok (.ireturn, 1) := by decide +kernel
theorem dd_M_cut_207 : decode bb_M_cut 207 = .ok (.aload_n 0, 1) := by decide +kernel
theorem dd_M_cut_208 : decode bb_M_cut 208 = .ok (.iload 5, 2) := by decide +kernel
theorem dd_M_cut_210 : decode bb_M_cut 210 = .ok (.putfield 91, 3) := by decide +kernel
theorem dd_M_cut_213 : decode bb_M_cut 213 = .ok (.aload_n 0, 1) := by decide +kernel
theorem dd_M_cut_214 : decode bb_M_cut 214 = .ok (.iload_n 2, 1) := by decide +kernel
theorem dd_M_cut_215 : decode bb_M_cut 215 = .ok (.invokestatic 174, 3) := by decide +kernel
theorem dd_M_cut_218 : decode bb_M_cut 218 = .ok (.invokevirtual 148, 3) := by decide +kernel
theorem dd_M_cut_221 : decode bb_M_cut 221 = .ok (.pop, 1) := by decide +kernel
theorem dd_M_cut_222 : decode bb_M_cut 222 = .ok (.iload_n 3, 1) := by decide +kernel
theorem dd_M_cut_223 : decode bb_M_cut 223 = .ok (.ireturn, 1) := by decide +kernel
theorem dd_M_fail_0 : decode bb_M_fail 0 = .ok (.aload_n 0, 1) := by decide +kernel
theorem dd_M_fail_1 : decode bb_M_fail 1 = .ok (.iconst 0, 1) := by decide +kernel
theorem dd_M_fail_2 : decode bb_M_fail 2 = .ok (.putfield 54, 3) := by decide +kernel
theorem dd_M_fail_5 : decode bb_M_fail 5 = .ok (.iload_n 1, 1) := by decide +kernel
theorem dd_M_fail_6 : decode bb_M_fail 6 = .ok (.ifCond .lt 9, 3) := by decide +kernel
theorem dd_M_fail_9 : decode bb_M_fail 9 = .ok (.iload_n 1, 1) := by decide +kernel
theorem dd_M_fail_10 : decode bb_M_fail 10 = .ok (.bipush 20, 2) := by decide +kernel
theorem dd_M_fail_12 : decode bb_M_fail 12 = .ok (.if_icmp .le 5, 3) := by decide +kernel
theorem dd_M_fail_15 : decode bb_M_fail 15 = .ok (.iconst 0, 1) := by decide +kernel
theorem dd_M_fail_16 : decode bb_M_fail 16 = .ok (.ireturn, 1) := by decide +kernel
theorem dd_M_fail_17 : decode bb_M_fail 17 = .ok (.aload_n 0, 1) := by decide +kernel
theorem dd_M_fail_18 : decode bb_M_fail 18 = .ok (.iload_n 1, 1) := by decide +kernel
theorem dd_M_fail_19 : decode bb_M_fail 19 = .ok (.putfield 94, 3) := by decide +kernel
theorem dd_M_fail_22 : decode bb_M_fail 22 = .ok (.iconst 1, 1) := by decide +kernel
theorem dd_M_fail_23 : decode bb_M_fail 23 = .ok (.ireturn, 1) := by decide +kernel
theorem dd_M_leadsUp_0 : decode bb_M_leadsUp 0 = .ok (.iload_n 1, 1) := by decide +kernel
theorem dd_M_leadsUp_1 : decode bb_M_leadsUp 1 = .ok (.istore_n 2, 1) := by decide +kernel
theorem dd_M_leadsUp_2 : decode bb_M_leadsUp 2 = .ok (.iconst 0, 1) := by decide +kernel
theorem dd_M_leadsUp_3 : decode bb_M_leadsUp 3 = .ok (.istore_n 3, 1) := by decide +kernel
theorem dd_M_leadsUp_4 : decode bb_M_leadsUp 4 = .ok (.iload_n 3, 1) := by decide +kernel
theorem dd_M_leadsUp_5 : decode bb_M_leadsUp 5 = .ok (.bipush 12, 2) := by decide +kernel
theorem dd_M_leadsUp_7 : decode bb_M_leadsUp 7 = .ok (.if_icmp .gt 47, 3) := by decide +kernel
theorem dd_M_leadsUp_10 : decode bb_M_leadsUp 10 = .ok (.iload_n 2, 1) := by decide +kernel
theorem dd_M_leadsUp_11 : decode bb_M_leadsUp 11 = .ok (.ifCond .eq 43, 3) := by decide +kernel
theorem dd_M_leadsUp_14 : decode bb_M_leadsUp 14 = .ok (.aload_n 0, 1) := by decide +kernel
theorem dd_M_leadsUp_15 : decode bb_M_leadsUp 15 = .ok (.iload_n 2, 1) := by decide +kernel
theorem dd_M_leadsUp_16 : decode bb_M_leadsUp 16 = .ok (.iconst 1, 1) := by decide +kernel
theorem dd_M_leadsUp_17 : decode bb_M_leadsUp 17 = .ok (.invokevirtual 65, 3) := by decide +kernel
theorem dd_M_leadsUp_20 : decode bb_M_leadsUp 20 = .ok (.istore_n 2, 1) := by decide +kernel
theorem dd_M_leadsUp_21 : decode bb_M_leadsUp 21 = .ok (.iload_n 2, 1) := by decide +kernel
theorem dd_M_leadsUp_22 : decode bb_M_leadsUp 22 = .ok (.bipush 12, 2) := by decide +kernel
theorem dd_M_leadsUp_24 : decode bb_M_leadsUp 24 = .ok (.if_icmp .ge 22, 3) := by decide +kernel
theorem dd_M_leadsUp_27 : decode bb_M_leadsUp 27 = .ok (.aload_n 0, 1) := by decide +kernel
theorem dd_M_leadsUp_28 : decode bb_M_leadsUp 28 = .ok (.getfield 13, 3) := by decide +kernel
theorem dd_M_leadsUp_31 : decode bb_M_leadsUp 31 = .ok (.iload_n 2, 1) := by decide +kernel
theorem dd_M_leadsUp_32 : decode bb_M_leadsUp 32 = .ok (.baload, 1) := by decide +kernel
theorem dd_M_leadsUp_33 : decode bb_M_leadsUp 33 = .ok (.ifCond .eq 13, 3) := by decide +kernel
theorem dd_M_leadsUp_36 : decode bb_M_leadsUp 36 = .ok (.aload_n 0, 1) := by decide +kernel
theorem dd_M_leadsUp_37 : decode bb_M_leadsUp 37 = .ok (.iload_n 2, 1) := by decide +kernel
theorem dd_M_leadsUp_38 : decode bb_M_leadsUp 38 = .ok (.iconst 0, 1) := by decide +kernel
theorem dd_M_leadsUp_39 : decode bb_M_leadsUp 39 = .ok (.invokevirtual 65, 3) := by decide +kernel
theorem dd_M_leadsUp_42 : decode bb_M_leadsUp 42 = .ok (.iconst 2, 1) := by decide +kernel
theorem dd_M_leadsUp_43 : decode bb_M_leadsUp 43 = .ok (.if_icmp .eq 5, 3) := by decide +kernel
theorem dd_M_leadsUp_46 : decode bb_M_leadsUp 46 = .ok (.iconst 0, 1) := by decide +kernel
theorem dd_M_leadsUp_47 : decode bb_M_leadsUp 47 = .ok (.ireturn, 1) := by decide +kernel
theorem dd_M_leadsUp_48 : decode bb_M_leadsUp 48 = .ok (.iinc 3 1, 3) := by decide +kernel
theorem dd_M_leadsUp_51 : decode bb_M_leadsUp 51 = .ok (.goto (-47), 3) := by decide +kernel
theorem dd_M_leadsUp_54 : decode bb_M_leadsUp 54 = .ok (.iload_n 2, 1) := by decide +kernel
theorem dd_M_leadsUp_55 : decode bb_M_leadsUp 55 = .ok (.ifCond .ne 7, 3) := by decide +kernel
theorem dd_M_leadsUp_58 : decode bb_M_leadsUp 58 = .ok (.iconst 1, 1) := by decide +kernel
theorem dd_M_leadsUp_59 : decode bb_M_leadsUp 59 = .ok (.goto 4, 3) := by decide +kernel
theorem dd_M_leadsUp_62 : decode bb_M_leadsUp 62 = .ok (.iconst 0, 1) := by decide +kernel
theorem dd_M_leadsUp_63 : decode bb_M_leadsUp 63 = .ok (.ireturn, 1) := by decide +kernel
theorem dd_M_mendRoot_0 : decode bb_M_mendRoot 0 = .ok (.aload_n 0, 1) := by decide +kernel
theorem dd_M_mendRoot_1 : decode bb_M_mendRoot 1 = .ok (.getfield 13, 3) := by decide +kernel
theorem dd_M_mendRoot_4 : decode bb_M_mendRoot 4 = .ok (.iconst 0, 1) := by decide +kernel
theorem dd_M_mendRoot_5 : decode bb_M_mendRoot 5 = .ok (.baload, 1) := by decide +kernel
theorem dd_M_mendRoot_6 : decode bb_M_mendRoot 6 = .ok (.ifCond .eq 5, 3) := by decide +kernel
theorem dd_M_mendRoot_9 : decode bb_M_mendRoot 9 = .ok (.iconst 1, 1) := by decide +kernel
theorem dd_M_mendRoot_10 : decode bb_M_mendRoot 10 = .ok (.ireturn, 1) := by decide +kernel
theorem dd_M_mendRoot_11 : decode bb_M_mendRoot 11 = .ok (.aload_n 0, 1) := by decide +kernel
theorem dd_M_mendRoot_12 : decode bb_M_mendRoot 12 = .ok (.iconst 0, 1) := by decide +kernel
theorem dd_M_mendRoot_13 : decode bb_M_mendRoot 13 = .ok (.putfield 88, 3) := by decide +kernel
theorem dd_M_mendRoot_16 : decode bb_M_mendRoot 16 = .ok (.aload_n 0, 1) := by decide +kernel
theorem dd_M_mendRoot_17 : decode bb_M_mendRoot 17 = .ok (.iconst 2, 1) := by decide +kernel
theorem dd_M_mendRoot_18 : decode bb_M_mendRoot 18 = .ok (.iconst 0, 1) := by decide +kernel
theorem dd_M_mendRoot_19 : decode bb_M_mendRoot 19 = .ok (.invokevirtual 39, 3) := by decide +kernel
theorem dd_M_mendRoot_22 : decode bb_M_mendRoot 22 = .ok (.aload_n 0, 1) := by decide +kernel
theorem dd_M_mendRoot_23 : decode bb_M_mendRoot 23 = .ok (.invokevirtual 43, 3) := by decide +kernel
theorem dd_M_mendRoot_26 : decode bb_M_mendRoot 26 = .ok (.aload_n 0, 1) := by decide +kernel
theorem dd_M_mendRoot_27 : decode bb_M_mendRoot 27 = .ok (.dup, 1) := by decide +kernel
theorem dd_M_mendRoot_28 : decode bb_M_mendRoot 28 = .ok (.getfield 193, 3) := by decide +kernel
theorem dd_M_mendRoot_31 : decode bb_M_mendRoot 31 = .ok (.iconst 1, 1) := by decide +kernel
theorem dd_M_mendRoot_32 : decode bb_M_mendRoot 32 = .ok (.iadd, 1) := by decide +kernel
theorem dd_M_mendRoot_33 : decode bb_M_mendRoot 33 = .ok (.putfield 193, 3) := by decide +kernel
theorem dd_M_mendRoot_36 : decode bb_M_mendRoot 36 = .ok (.aload_n 0, 1) := by decide +kernel
theorem dd_M_mendRoot_37 : decode bb_M_mendRoot 37 = .ok (.iconst 0, 1) := by decide +kernel
theorem dd_M_mendRoot_38 : decode bb_M_mendRoot 38 = .ok (.invokevirtual 46, 3) := by decide +kernel
theorem dd_M_mendRoot_41 : decode bb_M_mendRoot 41 = .ok (.ireturn, 1) := by decide +kernel
theorem dd_M_mendParents_0 : decode bb_M_mendParents 0 = .ok (.iconst 1, 1) := by decide +kernel
theorem dd_M_mendParents_1 : decode bb_M_mendParents 1 = .ok (.istore_n 1, 1) := by decide +kernel
theorem dd_M_mendParents_2 : decode bb_M_mendParents 2 = .ok (.iload_n 1, 1) := by decide +kernel
theorem dd_M_mendParents_3 : decode bb_M_mendParents 3 = .ok (.bipush 12, 2) := by decide +kernel
theorem dd_M_mendParents_5 : decode bb_M_mendParents 5 = .ok (.if_icmp .ge 96, 3) := by decide +kernel
theorem dd_M_mendParents_8 : decode bb_M_mendParents 8 = .ok (.aload_n 0, 1) := by decide +kernel
theorem dd_M_mendParents_9 : decode bb_M_mendParents 9 = .ok (.getfield 13, 3) := by decide +kernel
theorem dd_M_mendParents_12 : decode bb_M_mendParents 12 = .ok (.iload_n 1, 1) := by decide +kernel
theorem dd_M_mendParents_13 : decode bb_M_mendParents 13 = .ok (.baload, 1) := by decide +kernel
theorem dd_M_mendParents_14 : decode bb_M_mendParents 14 = .ok (.ifCond .eq 81, 3) := by decide +kernel
theorem dd_M_mendParents_17 : decode bb_M_mendParents 17 = .ok (.aload_n 0, 1) := by decide +kernel
theorem dd_M_mendParents_18 : decode bb_M_mendParents 18 = .ok (.iload_n 1, 1) := by decide +kernel
theorem dd_M_mendParents_19 : decode bb_M_mendParents 19 = .ok (.invokevirtual 196, 3) := by decide +kernel
theorem dd_M_mendParents_22 : decode bb_M_mendParents 22 = .ok (.ifCond .eq 6, 3) := by decide +kernel
theorem dd_M_mendParents_25 : decode bb_M_mendParents 25 = .ok (.goto 70, 3) := by decide +kernel
theorem dd_M_mendParents_28 : decode bb_M_mendParents 28 = .ok (.iconst 0, 1) := by decide +kernel
theorem dd_M_mendParents_29 : decode bb_M_mendParents 29 = .ok (.istore_n 2, 1) := by decide +kernel
theorem dd_M_mendParents_30 : decode bb_M_mendParents 30 = .ok (.iload_n 2, 1) := by decide +kernel
theorem dd_M_mendParents_31 : decode bb_M_mendParents 31 = .ok (.bipush 64, 2) := by decide +kernel
theorem dd_M_mendParents_33 : decode bb_M_mendParents 33 = .ok (.if_icmp .ge 21, 3) := by decide +kernel
theorem dd_M_mendParents_36 : decode bb_M_mendParents 36 = .ok (.aload_n 0, 1) := by decide +kernel
theorem dd_M_mendParents_37 : decode bb_M_mendParents 37 = .ok (.getfield 24, 3) := by decide +kernel
theorem dd_M_mendParents_40 : decode bb_M_mendParents 40 = .ok (.iload_n 2, 1) := by decide +kernel
theorem dd_M_mendParents_41 : decode bb_M_mendParents 41 = .ok (.aload_n 0, 1) := by decide +kernel
theorem dd_M_mendParents_42 : decode bb_M_mendParents 42 = .ok (.iload_n 1, 1) := by decide +kernel
theorem dd_M_mendParents_43 : decode bb_M_mendParents 43 = .ok (.iload_n 2, 1) := by decide +kernel
theorem dd_M_mendParents_44 : decode bb_M_mendParents 44 = .ok (.invokevirtual 65, 3) := by decide +kernel
theorem dd_M_mendParents_47 : decode bb_M_mendParents 47 = .ok (.iastore, 1) := by decide +kernel
theorem dd_M_mendParents_48 : decode bb_M_mendParents 48 = .ok (.iinc 2 1, 3) := by decide +kernel
theorem dd_M_mendParents_51 : decode bb_M_mendParents 51 = .ok (.goto (-21), 3) := by decide +kernel
theorem dd_M_mendParents_54 : decode bb_M_mendParents 54 = .ok (.aload_n 0, 1) := by decide +kernel
theorem dd_M_mendParents_55 : decode bb_M_mendParents 55 = .ok (.getfield 24, 3) := by decide +kernel
theorem dd_M_mendParents_58 : decode bb_M_mendParents 58 = .ok (.iconst 1, 1) := by decide +kernel
theorem dd_M_mendParents_59 : decode bb_M_mendParents 59 = .ok (.iconst 0, 1) := by decide +kernel
theorem dd_M_mendParents_60 : decode bb_M_mendParents 60 = .ok (.iastore, 1) := by decide +kernel
theorem dd_M_mendParents_61 : decode bb_M_mendParents 61 = .ok (.aload_n 0, 1) := by decide +kernel
theorem dd_M_mendParents_62 : decode bb_M_mendParents 62 = .ok (.bipush 10, 2) := by decide +kernel
theorem dd_M_mendParents_64 : decode bb_M_mendParents 64 = .ok (.aload_n 0, 1) := by decide +kernel
theorem dd_M_mendParents_65 : decode bb_M_mendParents 65 = .ok (.getfield 24, 3) := by decide +kernel
theorem dd_M_mendParents_68 : decode bb_M_mendParents 68 = .ok (.bipush 8, 2) := by decide +kernel
theorem dd_M_mendParents_70 : decode bb_M_mendParents 70 = .ok (.iaload, 1) := by decide +kernel
theorem dd_M_mendParents_71 : decode bb_M_mendParents 71 = .ok (.iadd, 1) := by decide +kernel
theorem dd_M_mendParents_72 : decode bb_M_mendParents 72 = .ok (.putfield 81, 3) := by decide +kernel
theorem dd_M_mendParents_75 : decode bb_M_mendParents 75 = .ok (.aload_n 0, 1) := by decide +kernel
theorem dd_M_mendParents_76 : decode bb_M_mendParents 76 = .ok (.dup, 1) := by decide +kernel
theorem dd_M_mendParents_77 : decode bb_M_mendParents 77 = .ok (.getfield 193, 3) := by decide +kernel
theorem dd_M_mendParents_80 : decode bb_M_mendParents 80 = .ok (.iconst 1, 1) := by decide +kernel
theorem dd_M_mendParents_81 : decode bb_M_mendParents 81 = .ok (.iadd, 1) := by decide +kernel
theorem dd_M_mendParents_82 : decode bb_M_mendParents 82 = .ok (.putfield 193, 3) := by decide +kernel
theorem dd_M_mendParents_85 : decode bb_M_mendParents 85 = .ok (.aload_n 0, 1) := by decide +kernel
theorem dd_M_mendParents_86 : decode bb_M_mendParents 86 = .ok (.iload_n 1, 1) := by decide +kernel
theorem dd_M_mendParents_87 : decode bb_M_mendParents 87 = .ok (.invokevirtual 46, 3) := by decide +kernel
theorem dd_M_mendParents_90 : decode bb_M_mendParents 90 = .ok (.ifCond .ne 5, 3) := by decide +kernel
theorem dd_M_mendParents_93 : decode bb_M_mendParents 93 = .ok (.iconst 0, 1) := by decide +kernel
theorem dd_M_mendParents_94 : decode bb_M_mendParents 94 = .ok (.ireturn, 1) := by decide +kernel
theorem dd_M_mendParents_95 : decode bb_M_mendParents 95 = .ok (.iinc 1 1, 3) := by decide +kernel
theorem dd_M_mendParents_98 : decode bb_M_mendParents 98 = .ok (.goto (-96), 3) := by decide +kernel
theorem dd_M_mendParents_101 : decode bb_M_mendParents 101 = .ok (.iconst 1, 1) := by decide +kernel
theorem dd_M_mendParents_102 : decode bb_M_mendParents 102 = .ok (.ireturn, 1) := by decide +kernel
