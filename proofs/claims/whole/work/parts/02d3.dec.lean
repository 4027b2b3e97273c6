theorem dd_M_store_0 : decode bb_M_store 0 = .ok (.aload_n 0, 1) := by decide +kernel
theorem dd_M_store_1 : decode bb_M_store 1 = .ok (.getfield 24, 3) := by decide +kernel
theorem dd_M_store_4 : decode bb_M_store 4 = .ok (.bipush 8, 2) := by decide +kernel
theorem dd_M_store_6 : decode bb_M_store 6 = .ok (.aload_n 0, 1) := by decide +kernel
theorem dd_M_store_7 : decode bb_M_store 7 = .ok (.getfield 81, 3) := by decide +kernel
theorem dd_M_store_10 : decode bb_M_store 10 = .ok (.bipush 10, 2) := by decide +kernel
theorem dd_M_store_12 : decode bb_M_store 12 = .ok (.isub, 1) := by decide +kernel
theorem dd_M_store_13 : decode bb_M_store 13 = .ok (.iastore, 1) := by decide +kernel
theorem dd_M_store_14 : decode bb_M_store 14 = .ok (.aload_n 0, 1) := by decide +kernel
theorem dd_M_store_15 : decode bb_M_store 15 = .ok (.bipush 64, 2) := by decide +kernel
theorem dd_M_store_17 : decode bb_M_store 17 = .ok (.iload_n 1, 1) := by decide +kernel
theorem dd_M_store_18 : decode bb_M_store 18 = .ok (.imul, 1) := by decide +kernel
theorem dd_M_store_19 : decode bb_M_store 19 = .ok (.iconst 2, 1) := by decide +kernel
theorem dd_M_store_20 : decode bb_M_store 20 = .ok (.iadd, 1) := by decide +kernel
theorem dd_M_store_21 : decode bb_M_store 21 = .ok (.invokevirtual 58, 3) := by decide +kernel
theorem dd_M_store_24 : decode bb_M_store 24 = .ok (.istore_n 2, 1) := by decide +kernel
theorem dd_M_store_25 : decode bb_M_store 25 = .ok (.iload_n 2, 1) := by decide +kernel
theorem dd_M_store_26 : decode bb_M_store 26 = .ok (.ldc 97, 2) := by decide +kernel
theorem dd_M_store_28 : decode bb_M_store 28 = .ok (.if_icmp .ne 7, 3) := by decide +kernel
theorem dd_M_store_31 : decode bb_M_store 31 = .ok (.iconst 1, 1) := by decide +kernel
theorem dd_M_store_32 : decode bb_M_store 32 = .ok (.goto 6, 3) := by decide +kernel
theorem dd_M_store_35 : decode bb_M_store 35 = .ok (.iload_n 2, 1) := by decide +kernel
theorem dd_M_store_36 : decode bb_M_store 36 = .ok (.iconst 1, 1) := by decide +kernel
theorem dd_M_store_37 : decode bb_M_store 37 = .ok (.iadd, 1) := by decide +kernel
theorem dd_M_store_38 : decode bb_M_store 38 = .ok (.istore_n 2, 1) := by decide +kernel
theorem dd_M_store_39 : decode bb_M_store 39 = .ok (.iconst 0, 1) := by decide +kernel
theorem dd_M_store_40 : decode bb_M_store 40 = .ok (.istore_n 3, 1) := by decide +kernel
theorem dd_M_store_41 : decode bb_M_store 41 = .ok (.iload_n 3, 1) := by decide +kernel
theorem dd_M_store_42 : decode bb_M_store 42 = .ok (.iconst 2, 1) := by decide +kernel
theorem dd_M_store_43 : decode bb_M_store 43 = .ok (.if_icmp .ge 95, 3) := by decide +kernel
theorem dd_M_store_46 : decode bb_M_store 46 = .ok (.aload_n 0, 1) := by decide +kernel
theorem dd_M_store_47 : decode bb_M_store 47 = .ok (.getfield 24, 3) := by decide +kernel
theorem dd_M_store_50 : decode bb_M_store 50 = .ok (.iconst 4, 1) := by decide +kernel
theorem dd_M_store_51 : decode bb_M_store 51 = .ok (.iload_n 3, 1) := by decide +kernel
theorem dd_M_store_52 : decode bb_M_store 52 = .ok (.iadd, 1) := by decide +kernel
theorem dd_M_store_53 : decode bb_M_store 53 = .ok (.aload_n 0, 1) := by decide +kernel
theorem dd_M_store_54 : decode bb_M_store 54 = .ok (.getfield 24, 3) := by decide +kernel
theorem dd_M_store_57 : decode bb_M_store 57 = .ok (.bipush 30, 2) := by decide +kernel
theorem dd_M_store_59 : decode bb_M_store 59 = .ok (.iload_n 3, 1) := by decide +kernel
theorem dd_M_store_60 : decode bb_M_store 60 = .ok (.iadd, 1) := by decide +kernel
theorem dd_M_store_61 : decode bb_M_store 61 = .ok (.iaload, 1) := by decide +kernel
theorem dd_M_store_62 : decode bb_M_store 62 = .ok (.iastore, 1) := by decide +kernel
theorem dd_M_store_63 : decode bb_M_store 63 = .ok (.aload_n 0, 1) := by decide +kernel
theorem dd_M_store_64 : decode bb_M_store 64 = .ok (.getfield 24, 3) := by decide +kernel
theorem dd_M_store_67 : decode bb_M_store 67 = .ok (.bipush 6, 2) := by decide +kernel
theorem dd_M_store_69 : decode bb_M_store 69 = .ok (.iload_n 3, 1) := by decide +kernel
theorem dd_M_store_70 : decode bb_M_store 70 = .ok (.iadd, 1) := by decide +kernel
theorem dd_M_store_71 : decode bb_M_store 71 = .ok (.aload_n 0, 1) := by decide +kernel
theorem dd_M_store_72 : decode bb_M_store 72 = .ok (.getfield 24, 3) := by decide +kernel
theorem dd_M_store_75 : decode bb_M_store 75 = .ok (.bipush 62, 2) := by decide +kernel
theorem dd_M_store_77 : decode bb_M_store 77 = .ok (.iload_n 3, 1) := by decide +kernel
theorem dd_M_store_78 : decode bb_M_store 78 = .ok (.iadd, 1) := by decide +kernel
theorem dd_M_store_79 : decode bb_M_store 79 = .ok (.iaload, 1) := by decide +kernel
theorem dd_M_store_80 : decode bb_M_store 80 = .ok (.iastore, 1) := by decide +kernel
theorem dd_M_store_81 : decode bb_M_store 81 = .ok (.iload_n 3, 1) := by decide +kernel
theorem dd_M_store_82 : decode bb_M_store 82 = .ok (.ifCond .ne 11, 3) := by decide +kernel
theorem dd_M_store_85 : decode bb_M_store 85 = .ok (.iload_n 2, 1) := by decide +kernel
theorem dd_M_store_86 : decode bb_M_store 86 = .ok (.sipush 256, 3) := by decide +kernel
theorem dd_M_store_89 : decode bb_M_store 89 = .ok (.irem, 1) := by decide +kernel
theorem dd_M_store_90 : decode bb_M_store 90 = .ok (.goto 8, 3) := by decide +kernel
theorem dd_M_store_93 : decode bb_M_store 93 = .ok (.iload_n 2, 1) := by decide +kernel
theorem dd_M_store_94 : decode bb_M_store 94 = .ok (.sipush 256, 3) := by decide +kernel
theorem dd_M_store_97 : decode bb_M_store 97 = .ok (.idiv, 1) := by decide +kernel
theorem dd_M_store_98 : decode bb_M_store 98 = .ok (.istore 4, 2) := by decide +kernel
theorem dd_M_store_100 : decode bb_M_store 100 = .ok (.aload_n 0, 1) := by decide +kernel
theorem dd_M_store_101 : decode bb_M_store 101 = .ok (.getfield 24, 3) := by decide +kernel
theorem dd_M_store_104 : decode bb_M_store 104 = .ok (.iconst 2, 1) := by decide +kernel
theorem dd_M_store_105 : decode bb_M_store 105 = .ok (.iload_n 3, 1) := by decide +kernel
theorem dd_M_store_106 : decode bb_M_store 106 = .ok (.iadd, 1) := by decide +kernel
theorem dd_M_store_107 : decode bb_M_store 107 = .ok (.iload 4, 2) := by decide +kernel
theorem dd_M_store_109 : decode bb_M_store 109 = .ok (.iastore, 1) := by decide +kernel
theorem dd_M_store_110 : decode bb_M_store 110 = .ok (.aload_n 0, 1) := by decide +kernel
theorem dd_M_store_111 : decode bb_M_store 111 = .ok (.getfield 24, 3) := by decide +kernel
theorem dd_M_store_114 : decode bb_M_store 114 = .ok (.bipush 30, 2) := by decide +kernel
theorem dd_M_store_116 : decode bb_M_store 116 = .ok (.iload_n 3, 1) := by decide +kernel
theorem dd_M_store_117 : decode bb_M_store 117 = .ok (.iadd, 1) := by decide +kernel
theorem dd_M_store_118 : decode bb_M_store 118 = .ok (.iload 4, 2) := by decide +kernel
theorem dd_M_store_120 : decode bb_M_store 120 = .ok (.iastore, 1) := by decide +kernel
theorem dd_M_store_121 : decode bb_M_store 121 = .ok (.aload_n 0, 1) := by decide +kernel
theorem dd_M_store_122 : decode bb_M_store 122 = .ok (.getfield 24, 3) := by decide +kernel
theorem dd_M_store_125 : decode bb_M_store 125 = .ok (.bipush 62, 2) := by decide +kernel
theorem dd_M_store_127 : decode bb_M_store 127 = .ok (.iload_n 3, 1) := by decide +kernel
theorem dd_M_store_128 : decode bb_M_store 128 = .ok (.iadd, 1) := by decide +kernel
theorem dd_M_store_129 : decode bb_M_store 129 = .ok (.iload 4, 2) := by decide +kernel
theorem dd_M_store_131 : decode bb_M_store 131 = .ok (.iastore, 1) := by decide +kernel
theorem dd_M_store_132 : decode bb_M_store 132 = .ok (.iinc 3 1, 3) := by decide +kernel
theorem dd_M_store_135 : decode bb_M_store 135 = .ok (.goto (-94), 3) := by decide +kernel
theorem dd_M_store_138 : decode bb_M_store 138 = .ok (.aload_n 0, 1) := by decide +kernel
theorem dd_M_store_139 : decode bb_M_store 139 = .ok (.iload_n 1, 1) := by decide +kernel
theorem dd_M_store_140 : decode bb_M_store 140 = .ok (.iconst 0, 1) := by decide +kernel
theorem dd_M_store_141 : decode bb_M_store 141 = .ok (.invokevirtual 98, 3) := by decide +kernel
theorem dd_M_store_144 : decode bb_M_store 144 = .ok (.ifCond .eq 12, 3) := by decide +kernel
theorem dd_M_store_147 : decode bb_M_store 147 = .ok (.aload_n 0, 1) := by decide +kernel
theorem dd_M_store_148 : decode bb_M_store 148 = .ok (.iload_n 1, 1) := by decide +kernel
theorem dd_M_store_149 : decode bb_M_store 149 = .ok (.iconst 1, 1) := by decide +kernel
theorem dd_M_store_150 : decode bb_M_store 150 = .ok (.invokevirtual 98, 3) := by decide +kernel
theorem dd_M_store_153 : decode bb_M_store 153 = .ok (.ifCond .ne 5, 3) := by decide +kernel
theorem dd_M_store_156 : decode bb_M_store 156 = .ok (.iconst 0, 1) := by decide +kernel
theorem dd_M_store_157 : decode bb_M_store 157 = .ok (.ireturn, 1) := by decide +kernel
theorem dd_M_store_158 : decode bb_M_store 158 = .ok (.aload_n 0, 1) := by decide +kernel
theorem dd_M_store_159 : decode bb_M_store 159 = .ok (.getfield 13, 3) := by decide +kernel
theorem dd_M_store_162 : decode bb_M_store 162 = .ok (.iload_n 1, 1) := by decide +kernel
theorem dd_M_store_163 : decode bb_M_store 163 = .ok (.aload_n 0, 1) := by decide +kernel
theorem dd_M_store_164 : decode bb_M_store 164 = .ok (.getfield 24, 3) := by decide +kernel
theorem dd_M_store_167 : decode bb_M_store 167 = .ok (.iconst 0, 1) := by decide +kernel
theorem dd_M_store_168 : decode bb_M_store 168 = .ok (.iaload, 1) := by decide +kernel
theorem dd_M_store_169 : decode bb_M_store 169 = .ok (.iconst 1, 1) := by decide +kernel
theorem dd_M_store_170 : decode bb_M_store 170 = .ok (.if_icmp .eq 13, 3) := by decide +kernel
theorem dd_M_store_173 : decode bb_M_store 173 = .ok (.aload_n 0, 1) := by decide +kernel
theorem dd_M_store_174 : decode bb_M_store 174 = .ok (.getfield 24, 3) := by decide +kernel
theorem dd_M_store_177 : decode bb_M_store 177 = .ok (.iconst 0, 1) := by decide +kernel
theorem dd_M_store_178 : decode bb_M_store 178 = .ok (.iaload, 1) := by decide +kernel
theorem dd_M_store_179 : decode bb_M_store 179 = .ok (.iconst 2, 1) := by decide +kernel
theorem dd_M_store_180 : decode bb_M_store 180 = .ok (.if_icmp .ne 7, 3) := by decide +kernel
theorem dd_M_store_183 : decode bb_M_store 183 = .ok (.iconst 1, 1) := by decide +kernel
theorem dd_M_store_184 : decode bb_M_store 184 = .ok (.goto 4, 3) := by decide +kernel
theorem dd_M_store_187 : decode bb_M_store 187 = .ok (.iconst 0, 1) := by decide +kernel
theorem dd_M_store_188 : decode bb_M_store 188 = .ok (.bastore, 1) := by decide +kernel
theorem dd_M_store_189 : decode bb_M_store 189 = .ok (.iconst 1, 1) := by decide +kernel
theorem dd_M_store_190 : decode bb_M_store 190 = .ok (.ireturn, 1) := by decide +kernel
theorem dd_M_storeList_0 : decode bb_M_storeList 0 = .ok (.aload_n 0, 1) := by decide +kernel
theorem dd_M_storeList_1 : decode bb_M_storeList 1 = .ok (.iconst 2, 1) := by decide +kernel
theorem dd_M_storeList_2 : decode bb_M_storeList 2 = .ok (.iload_n 2, 1) := by decide +kernel
theorem dd_M_storeList_3 : decode bb_M_storeList 3 = .ok (.invokevirtual 39, 3) := by decide +kernel
theorem dd_M_storeList_6 : decode bb_M_storeList 6 = .ok (.aload_n 0, 1) := by decide +kernel
theorem dd_M_storeList_7 : decode bb_M_storeList 7 = .ok (.iload_n 1, 1) := by decide +kernel
theorem dd_M_storeList_8 : decode bb_M_storeList 8 = .ok (.invokevirtual 102, 3) := by decide +kernel
theorem dd_M_storeList_11 : decode bb_M_storeList 11 = .ok (.aload_n 0, 1) := by decide +kernel
theorem dd_M_storeList_12 : decode bb_M_storeList 12 = .ok (.invokevirtual 43, 3) := by decide +kernel
theorem dd_M_storeList_15 : decode bb_M_storeList 15 = .ok (.aload_n 0, 1) := by decide +kernel
theorem dd_M_storeList_16 : decode bb_M_storeList 16 = .ok (.iload_n 1, 1) := by decide +kernel
theorem dd_M_storeList_17 : decode bb_M_storeList 17 = .ok (.invokevirtual 46, 3) := by decide +kernel
theorem dd_M_storeList_20 : decode bb_M_storeList 20 = .ok (.ireturn, 1) := by decide +kernel
theorem dd_M_join_0 : decode bb_M_join 0 = .ok (.aload_n 0, 1) := by decide +kernel
theorem dd_M_join_1 : decode bb_M_join 1 = .ok (.getfield 88, 3) := by decide +kernel
theorem dd_M_join_4 : decode bb_M_join 4 = .ok (.istore_n 2, 1) := by decide +kernel
theorem dd_M_join_5 : decode bb_M_join 5 = .ok (.iload_n 2, 1) := by decide +kernel
theorem dd_M_join_6 : decode bb_M_join 6 = .ok (.ifCond .le 39, 3) := by decide +kernel
theorem dd_M_join_9 : decode bb_M_join 9 = .ok (.aload_n 0, 1) := by decide +kernel
theorem dd_M_join_10 : decode bb_M_join 10 = .ok (.aload_n 0, 1) := by decide +kernel
theorem dd_M_join_11 : decode bb_M_join 11 = .ok (.getfield 36, 3) := by decide +kernel
theorem dd_M_join_14 : decode bb_M_join 14 = .ok (.iload_n 2, 1) := by decide +kernel
theorem dd_M_join_15 : decode bb_M_join 15 = .ok (.iconst 1, 1) := by decide +kernel
theorem dd_M_join_16 : decode bb_M_join 16 = .ok (.isub, 1) := by decide +kernel
theorem dd_M_join_17 : decode bb_M_join 17 = .ok (.iaload, 1) := by decide +kernel
theorem dd_M_join_18 : decode bb_M_join 18 = .ok (.iload_n 1, 1) := by decide +kernel
theorem dd_M_join_19 : decode bb_M_join 19 = .ok (.invokevirtual 105, 3) := by decide +kernel
theorem dd_M_join_22 : decode bb_M_join 22 = .ok (.ifCond .le 23, 3) := by decide +kernel
theorem dd_M_join_25 : decode bb_M_join 25 = .ok (.aload_n 0, 1) := by decide +kernel
theorem dd_M_join_26 : decode bb_M_join 26 = .ok (.getfield 36, 3) := by decide +kernel
theorem dd_M_join_29 : decode bb_M_join 29 = .ok (.iload_n 2, 1) := by decide +kernel
theorem dd_M_join_30 : decode bb_M_join 30 = .ok (.aload_n 0, 1) := by decide +kernel
theorem dd_M_join_31 : decode bb_M_join 31 = .ok (.getfield 36, 3) := by decide +kernel
theorem dd_M_join_34 : decode bb_M_join 34 = .ok (.iload_n 2, 1) := by decide +kernel
theorem dd_M_join_35 : decode bb_M_join 35 = .ok (.iconst 1, 1) := by decide +kernel
theorem dd_M_join_36 : decode bb_M_join 36 = .ok (.isub, 1) := by decide +kernel
theorem dd_M_join_37 : decode bb_M_join 37 = .ok (.iaload, 1) := by decide +kernel
theorem dd_M_join_38 : decode bb_M_join 38 = .ok (.iastore, 1) := by decide +kernel
theorem dd_M_join_39 : decode bb_M_join 39 = .ok (.iinc 2 (-1), 3) := by decide +kernel
theorem dd_M_join_42 : decode bb_M_join 42 = .ok (.goto (-37), 3) := by decide +kernel
theorem dd_M_join_45 : decode bb_M_join 45 = .ok (.aload_n 0, 1) := by decide +kernel
theorem dd_M_join_46 : decode bb_M_join 46 = .ok (.getfield 36, 3) := by decide +kernel
theorem dd_M_join_49 : decode bb_M_join 49 = .ok (.iload_n 2, 1) := by decide +kernel
theorem dd_M_join_50 : decode bb_M_join 50 = .ok (.iload_n 1, 1) := by decide +kernel
theorem dd_M_join_51 : decode bb_M_join 51 = .ok (.iastore, 1) := by decide +kernel
theorem dd_M_join_52 : decode bb_M_join 52 = .ok (.aload_n 0, 1) := by decide +kernel
theorem dd_M_join_53 : decode bb_M_join 53 = .ok (.dup, 1) := by decide +kernel
theorem dd_M_join_54 : decode bb_M_join 54 = .ok (.getfield 88, 3) := by decide +kernel
theorem dd_M_join_57 : decode bb_M_join 57 = .ok (.iconst 1, 1) := by decide +kernel
theorem dd_M_join_58 : decode bb_M_join 58 = .ok (.iadd, 1) := by decide +kernel
theorem dd_M_join_59 : decode bb_M_join 59 = .ok (.putfield 88, 3) := by decide +kernel
theorem dd_M_join_62 : decode bb_M_join 62 = .ok (.return_, 1) := by decide +kernel
theorem dd_M_takeList_0 : decode bb_M_takeList 0 = .ok (.aload_n 0, 1) := by decide +kernel
theorem dd_M_takeList_1 : decode bb_M_takeList 1 = .ok (.iconst 0, 1) := by decide +kernel
theorem dd_M_takeList_2 : decode bb_M_takeList 2 = .ok (.putfield 88, 3) := by decide +kernel
theorem dd_M_takeList_5 : decode bb_M_takeList 5 = .ok (.iconst 0, 1) := by decide +kernel
theorem dd_M_takeList_6 : decode bb_M_takeList 6 = .ok (.istore_n 3, 1) := by decide +kernel
theorem dd_M_takeList_7 : decode bb_M_takeList 7 = .ok (.iload_n 3, 1) := by decide +kernel
theorem dd_M_takeList_8 : decode bb_M_takeList 8 = .ok (.aload_n 0, 1) := by decide +kernel
theorem dd_M_takeList_9 : decode bb_M_takeList 9 = .ok (.iload_n 1, 1) := by decide +kernel
theorem dd_M_takeList_10 : decode bb_M_takeList 10 = .ok (.invokevirtual 108, 3) := by decide +kernel
theorem dd_M_takeList_13 : decode bb_M_takeList 13 = .ok (.if_icmp .ge 47, 3) := by decide +kernel
theorem dd_M_takeList_16 : decode bb_M_takeList 16 = .ok (.aload_n 0, 1) := by decide +kernel
theorem dd_M_takeList_17 : decode bb_M_takeList 17 = .ok (.iload_n 1, 1) := by decide +kernel
theorem dd_M_takeList_18 : decode bb_M_takeList 18 = .ok (.iload_n 3, 1) := by decide +kernel
theorem dd_M_takeList_19 : decode bb_M_takeList 19 = .ok (.invokevirtual 111, 3) := by decide +kernel
theorem dd_M_takeList_22 : decode bb_M_takeList 22 = .ok (.iload_n 2, 1) := by decide +kernel
theorem dd_M_takeList_23 : decode bb_M_takeList 23 = .ok (.if_icmp .ne 6, 3) := by decide +kernel
theorem dd_M_takeList_26 : decode bb_M_takeList 26 = .ok (.goto 28, 3) := by decide +kernel
theorem dd_M_takeList_29 : decode bb_M_takeList 29 = .ok (.aload_n 0, 1) := by decide +kernel
theorem dd_M_takeList_30 : decode bb_M_takeList 30 = .ok (.getfield 36, 3) := by decide +kernel
theorem dd_M_takeList_33 : decode bb_M_takeList 33 = .ok (.aload_n 0, 1) := by decide +kernel
theorem dd_M_takeList_34 : decode bb_M_takeList 34 = .ok (.getfield 88, 3) := by decide +kernel
theorem dd_M_takeList_37 : decode bb_M_takeList 37 = .ok (.aload_n 0, 1) := by decide +kernel
theorem dd_M_takeList_38 : decode bb_M_takeList 38 = .ok (.iload_n 1, 1) := by decide +kernel
theorem dd_M_takeList_39 : decode bb_M_takeList 39 = .ok (.iload_n 3, 1) := by decide +kernel
theorem dd_M_takeList_40 : decode bb_M_takeList 40 = .ok (.invokevirtual 111, 3) := by decide +kernel
theorem dd_M_takeList_43 : decode bb_M_takeList 43 = .ok (.iastore, 1) := by decide +kernel
theorem dd_M_takeList_44 : decode bb_M_takeList 44 = .ok (.aload_n 0, 1) := by decide +kernel
theorem dd_M_takeList_45 : decode bb_M_takeList 45 = .ok (.dup, 1) := by decide +kernel
theorem dd_M_takeList_46 : decode bb_M_takeList 46 = .ok (.getfield 88, 3) := by decide +kernel
theorem dd_M_takeList_49 : decode bb_M_takeList 49 = .ok (.iconst 1, 1) := by decide +kernel
theorem dd_M_takeList_50 : decode bb_M_takeList 50 = .ok (.iadd, 1) := by decide +kernel
theorem dd_M_takeList_51 : decode bb_M_takeList 51 = .ok (.putfield 88, 3) := by decide +kernel
theorem dd_M_takeList_54 : decode bb_M_takeList 54 = .ok (.iinc 3 1, 3) := by decide +kernel
theorem dd_M_takeList_57 : decode bb_M_takeList 57 = .ok (.goto (-50), 3) := by decide +kernel
theorem dd_M_takeList_60 : decode bb_M_takeList 60 = .ok (.return_, 1) := by decide +kernel
theorem dd_M_findDraft_0 : decode bb_M_findDraft 0 = .ok (.iconst 0, 1) := by decide +kernel
theorem dd_M_findDraft_1 : decode bb_M_findDraft 1 = .ok (.istore_n 2, 1) := by decide +kernel
theorem dd_M_findDraft_2 : decode bb_M_findDraft 2 = .ok (.iload_n 2, 1) := by decide +kernel
theorem dd_M_findDraft_3 : decode bb_M_findDraft 3 = .ok (.aload_n 0, 1) := by decide +kernel
theorem dd_M_findDraft_4 : decode bb_M_findDraft 4 = .ok (.iload_n 1, 1) := by decide +kernel
theorem dd_M_findDraft_5 : decode bb_M_findDraft 5 = .ok (.invokevirtual 108, 3) := by decide +kernel
theorem dd_M_findDraft_8 : decode bb_M_findDraft 8 = .ok (.if_icmp .ge 29, 3) := by decide +kernel
theorem dd_M_findDraft_11 : decode bb_M_findDraft 11 = .ok (.aload_n 0, 1) := by decide +kernel
theorem dd_M_findDraft_12 : decode bb_M_findDraft 12 = .ok (.aload_n 0, 1) := by decide +kernel
theorem dd_M_findDraft_13 : decode bb_M_findDraft 13 = .ok (.iload_n 1, 1) := by decide +kernel
theorem dd_M_findDraft_14 : decode bb_M_findDraft 14 = .ok (.iload_n 2, 1) := by decide +kernel
theorem dd_M_findDraft_15 : decode bb_M_findDraft 15 = .ok (.invokevirtual 111, 3) := by decide +kernel
theorem dd_M_findDraft_18 : decode bb_M_findDraft 18 = .ok (.invokevirtual 114, 3) := by decide +kernel
theorem dd_M_findDraft_21 : decode bb_M_findDraft 21 = .ok (.ifCond .eq 10, 3) := by decide +kernel
theorem dd_M_findDraft_24 : decode bb_M_findDraft 24 = .ok (.aload_n 0, 1) := by decide +kernel
theorem dd_M_findDraft_25 : decode bb_M_findDraft 25 = .ok (.iload_n 1, 1) := by decide +kernel
theorem dd_M_findDraft_26 : decode bb_M_findDraft 26 = .ok (.iload_n 2, 1) := by decide +kernel
theorem dd_M_findDraft_27 : decode bb_M_findDraft 27 = .ok (.invokevirtual 111, 3) := by decide +kernel
theorem dd_M_findDraft_30 : decode bb_M_findDraft 30 = .ok (.ireturn, 1) := by decide +kernel
theorem dd_M_findDraft_31 : decode bb_M_findDraft 31 = .ok (.iinc 2 1, 3) := by decide +kernel
theorem dd_M_findDraft_34 : decode bb_M_findDraft 34 = .ok (.goto (-32), 3) := by decide +kernel
theorem dd_M_findDraft_37 : decode bb_M_findDraft 37 = .ok (.iconst (-1), 1) := by decide +kernel
theorem dd_M_findDraft_38 : decode bb_M_findDraft 38 = .ok (.ireturn, 1) := by decide +kernel
theorem dd_M_type_0 : decode bb_M_type 0 = .ok (.aload_n 0, 1) := by decide +kernel
theorem dd_M_type_1 : decode bb_M_type 1 = .ok (.iconst 0, 1) := by decide +kernel
theorem dd_M_type_2 : decode bb_M_type 2 = .ok (.putfield 54, 3) := by decide +kernel
theorem dd_M_type_5 : decode bb_M_type 5 = .ok (.iload_n 1, 1) := by decide +kernel
theorem dd_M_type_6 : decode bb_M_type 6 = .ok (.bipush 97, 2) := by decide +kernel
theorem dd_M_type_8 : decode bb_M_type 8 = .ok (.if_icmp .lt 9, 3) := by decide +kernel
theorem dd_M_type_11 : decode bb_M_type 11 = .ok (.iload_n 1, 1) := by decide +kernel
theorem dd_M_type_12 : decode bb_M_type 12 = .ok (.bipush 122, 2) := by decide +kernel
theorem dd_M_type_14 : decode bb_M_type 14 = .ok (.if_icmp .le 15, 3) := by decide +kernel
theorem dd_M_type_17 : decode bb_M_type 17 = .ok (.iload_n 1, 1) := by decide +kernel
theorem dd_M_type_18 : decode bb_M_type 18 = .ok (.bipush 48, 2) := by decide +kernel
theorem dd_M_type_20 : decode bb_M_type 20 = .ok (.if_icmp .lt 13, 3) := by decide +kernel
theorem dd_M_type_23 : decode bb_M_type 23 = .ok (.iload_n 1, 1) := by decide +kernel
theorem dd_M_type_24 : decode bb_M_type 24 = .ok (.bipush 57, 2) := by decide +kernel
theorem dd_M_type_26 : decode bb_M_type 26 = .ok (.if_icmp .gt 7, 3) := by decide +kernel
theorem dd_M_type_29 : decode bb_M_type 29 = .ok (.iconst 1, 1) := by decide +kernel
theorem dd_M_type_30 : decode bb_M_type 30 = .ok (.goto 4, 3) := by decide +kernel
theorem dd_M_type_33 : decode bb_M_type 33 = .ok (.iconst 0, 1) := by decide +kernel
theorem dd_M_type_34 : decode bb_M_type 34 = .ok (.istore_n 2, 1) := by decide +kernel
theorem dd_M_type_35 : decode bb_M_type 35 = .ok (.iload_n 2, 1) := by decide +kernel
theorem dd_M_type_36 : decode bb_M_type 36 = .ok (.ifCond .eq 12, 3) := by decide +kernel
theorem dd_M_type_39 : decode bb_M_type 39 = .ok (.aload_n 0, 1) := by decide +kernel
theorem dd_M_type_40 : decode bb_M_type 40 = .ok (.getfield 78, 3) := by decide +kernel
theorem dd_M_type_43 : decode bb_M_type 43 = .ok (.bipush 8, 2) := by decide +kernel
theorem dd_M_type_45 : decode bb_M_type 45 = .ok (.if_icmp .ne 5, 3) := by decide +kernel
theorem dd_M_type_48 : decode bb_M_type 48 = .ok (.iconst 0, 1) := by decide +kernel
theorem dd_M_type_49 : decode bb_M_type 49 = .ok (.ireturn, 1) := by decide +kernel
theorem dd_M_type_50 : decode bb_M_type 50 = .ok (.aload_n 0, 1) := by decide +kernel
theorem dd_M_type_51 : decode bb_M_type 51 = .ok (.getfield 20, 3) := by decide +kernel
theorem dd_M_type_54 : decode bb_M_type 54 = .ok (.aload_n 0, 1) := by decide +kernel
theorem dd_M_type_55 : decode bb_M_type 55 = .ok (.getfield 78, 3) := by decide +kernel
theorem dd_M_type_58 : decode bb_M_type 58 = .ok (.iload_n 1, 1) := by decide +kernel
theorem dd_M_type_59 : decode bb_M_type 59 = .ok (.castore, 1) := by decide +kernel
theorem dd_M_type_60 : decode bb_M_type 60 = .ok (.aload_n 0, 1) := by decide +kernel
theorem dd_M_type_61 : decode bb_M_type 61 = .ok (.dup, 1) := by decide +kernel
theorem dd_M_type_62 : decode bb_M_type 62 = .ok (.getfield 78, 3) := by decide +kernel
theorem dd_M_type_65 : decode bb_M_type 65 = .ok (.iconst 1, 1) := by decide +kernel
theorem dd_M_type_66 : decode bb_M_type 66 = .ok (.iadd, 1) := by decide +kernel
theorem dd_M_type_67 : decode bb_M_type 67 = .ok (.putfield 78, 3) := by decide +kernel
theorem dd_M_type_70 : decode bb_M_type 70 = .ok (.iconst 1, 1) := by decide +kernel
theorem dd_M_type_71 : decode bb_M_type 71 = .ok (.ireturn, 1) := by decide +kernel
theorem dd_M_makeRecord_0 : decode bb_M_makeRecord 0 = .ok (.aload_n 0, 1) := by decide +kernel
theorem dd_M_makeRecord_1 : decode bb_M_makeRecord 1 = .ok (.getfield 50, 3) := by decide +kernel
theorem dd_M_makeRecord_4 : decode bb_M_makeRecord 4 = .ok (.ifCond .ne 9, 3) := by decide +kernel
theorem dd_M_makeRecord_7 : decode bb_M_makeRecord 7 = .ok (.aload_n 0, 1) := by decide +kernel
theorem dd_M_makeRecord_8 : decode bb_M_makeRecord 8 = .ok (.iconst 1, 1) := by decide +kernel
theorem dd_M_makeRecord_9 : decode bb_M_makeRecord 9 = .ok (.invokevirtual 117, 3) := by decide +kernel
theorem dd_M_makeRecord_12 : decode bb_M_makeRecord 12 = .ok (.ireturn, 1) := by decide +kernel
theorem dd_M_makeRecord_13 : decode bb_M_makeRecord 13 = .ok (.aload_n 0, 1) := by decide +kernel
theorem dd_M_makeRecord_14 : decode bb_M_makeRecord 14 = .ok (.iload_n 1, 1) := by decide +kernel
theorem dd_M_makeRecord_15 : decode bb_M_makeRecord 15 = .ok (.iconst 2, 1) := by decide +kernel
theorem dd_M_makeRecord_16 : decode bb_M_makeRecord 16 = .ok (.invokevirtual 120, 3) := by decide +kernel
theorem dd_M_makeRecord_19 : decode bb_M_makeRecord 19 = .ok (.ifCond .eq 10, 3) := by decide +kernel
theorem dd_M_makeRecord_22 : decode bb_M_makeRecord 22 = .ok (.aload_n 0, 1) := by decide +kernel
theorem dd_M_makeRecord_23 : decode bb_M_makeRecord 23 = .ok (.getfield 78, 3) := by decide +kernel
theorem dd_M_makeRecord_26 : decode bb_M_makeRecord 26 = .ok (.ifCond .ne 9, 3) := by decide +kernel
theorem dd_M_makeRecord_29 : decode bb_M_makeRecord 29 = .ok (.aload_n 0, 1) := by decide +kernel
theorem dd_M_makeRecord_30 : decode bb_M_makeRecord 30 = .ok (.iconst 2, 1) := by decide +kernel
theorem dd_M_makeRecord_31 : decode bb_M_makeRecord 31 = .ok (.invokevirtual 117, 3) := by decide +kernel
theorem dd_M_makeRecord_34 : decode bb_M_makeRecord 34 = .ok (.ireturn, 1) := by decide +kernel
theorem dd_M_makeRecord_35 : decode bb_M_makeRecord 35 = .ok (.aload_n 0, 1) := by decide +kernel
theorem dd_M_makeRecord_36 : decode bb_M_makeRecord 36 = .ok (.iload_n 1, 1) := by decide +kernel
theorem dd_M_makeRecord_37 : decode bb_M_makeRecord 37 = .ok (.invokevirtual 123, 3) := by decide +kernel
theorem dd_M_makeRecord_40 : decode bb_M_makeRecord 40 = .ok (.ifCond .lt 9, 3) := by decide +kernel
theorem dd_M_makeRecord_43 : decode bb_M_makeRecord 43 = .ok (.aload_n 0, 1) := by decide +kernel
theorem dd_M_makeRecord_44 : decode bb_M_makeRecord 44 = .ok (.iconst 2, 1) := by decide +kernel
theorem dd_M_makeRecord_45 : decode bb_M_makeRecord 45 = .ok (.invokevirtual 117, 3) := by decide +kernel
theorem dd_M_makeRecord_48 : decode bb_M_makeRecord 48 = .ok (.ireturn, 1) := by decide +kernel
theorem dd_M_makeRecord_49 : decode bb_M_makeRecord 49 = .ok (.iconst 0, 1) := by decide +kernel
theorem dd_M_makeRecord_50 : decode bb_M_makeRecord 50 = .ok (.istore_n 3, 1) := by decide +kernel
theorem dd_M_makeRecord_51 : decode bb_M_makeRecord 51 = .ok (.iload_n 3, 1) := by decide +kernel
theorem dd_M_makeRecord_52 : decode bb_M_makeRecord 52 = .ok (.bipush 12, 2) := by decide +kernel
theorem dd_M_makeRecord_54 : decode bb_M_makeRecord 54 = .ok (.if_icmp .ge 18, 3) := by decide +kernel
theorem dd_M_makeRecord_57 : decode bb_M_makeRecord 57 = .ok (.aload_n 0, 1) := by decide +kernel
theorem dd_M_makeRecord_58 : decode bb_M_makeRecord 58 = .ok (.getfield 13, 3) := by decide +kernel
theorem dd_M_makeRecord_61 : decode bb_M_makeRecord 61 = .ok (.iload_n 3, 1) := by decide +kernel
theorem dd_M_makeRecord_62 : decode bb_M_makeRecord 62 = .ok (.baload, 1) := by decide +kernel
theorem dd_M_makeRecord_63 : decode bb_M_makeRecord 63 = .ok (.ifCond .eq 9, 3) := by decide +kernel
theorem dd_M_makeRecord_66 : decode bb_M_makeRecord 66 = .ok (.iinc 3 1, 3) := by decide +kernel
theorem dd_M_makeRecord_69 : decode bb_M_makeRecord 69 = .ok (.goto (-18), 3) := by decide +kernel
theorem dd_M_makeRecord_72 : decode bb_M_makeRecord 72 = .ok (.iload_n 3, 1) := by decide +kernel
theorem dd_M_makeRecord_73 : decode bb_M_makeRecord 73 = .ok (.bipush 12, 2) := by decide +kernel
theorem dd_M_makeRecord_75 : decode bb_M_makeRecord 75 = .ok (.if_icmp .ne 9, 3) := by decide +kernel
theorem dd_M_makeRecord_78 : decode bb_M_makeRecord 78 = .ok (.aload_n 0, 1) := by decide +kernel
theorem dd_M_makeRecord_79 : decode bb_M_makeRecord 79 = .ok (.iconst 3, 1) := by decide +kernel
theorem dd_M_makeRecord_80 : decode bb_M_makeRecord 80 = .ok (.invokevirtual 117, 3) := by decide +kernel
theorem dd_M_makeRecord_83 : decode bb_M_makeRecord 83 = .ok (.ireturn, 1) := by decide +kernel
theorem dd_M_makeRecord_84 : decode bb_M_makeRecord 84 = .ok (.aload_n 0, 1) := by decide +kernel
theorem dd_M_makeRecord_85 : decode bb_M_makeRecord 85 = .ok (.iload_n 2, 1) := by decide +kernel
theorem dd_M_makeRecord_86 : decode bb_M_makeRecord 86 = .ok (.ifCond .eq 7, 3) := by decide +kernel
theorem dd_M_makeRecord_89 : decode bb_M_makeRecord 89 = .ok (.iconst 1, 1) := by decide +kernel
theorem dd_M_makeRecord_90 : decode bb_M_makeRecord 90 = .ok (.goto 4, 3) := by decide +kernel
theorem dd_M_makeRecord_93 : decode bb_M_makeRecord 93 = .ok (.iconst 2, 1) := by decide +kernel
theorem dd_M_makeRecord_94 : decode bb_M_makeRecord 94 = .ok (.iload_n 1, 1) := by decide +kernel
theorem dd_M_makeRecord_95 : decode bb_M_makeRecord 95 = .ok (.invokevirtual 39, 3) := by decide +kernel
theorem dd_M_makeRecord_98 : decode bb_M_makeRecord 98 = .ok (.aload_n 0, 1) := by decide +kernel
theorem dd_M_makeRecord_99 : decode bb_M_makeRecord 99 = .ok (.invokevirtual 126, 3) := by decide +kernel
theorem dd_M_makeRecord_102 : decode bb_M_makeRecord 102 = .ok (.aload_n 0, 1) := by decide +kernel
theorem dd_M_makeRecord_103 : decode bb_M_makeRecord 103 = .ok (.iconst 0, 1) := by decide +kernel
theorem dd_M_makeRecord_104 : decode bb_M_makeRecord 104 = .ok (.putfield 88, 3) := by decide +kernel
theorem dd_M_makeRecord_107 : decode bb_M_makeRecord 107 = .ok (.iload_n 2, 1) := by decide +kernel
theorem dd_M_makeRecord_108 : decode bb_M_makeRecord 108 = .ok (.ifCond .eq 11, 3) := by decide +kernel
theorem dd_M_makeRecord_111 : decode bb_M_makeRecord 111 = .ok (.aload_n 0, 1) := by decide +kernel
theorem dd_M_makeRecord_112 : decode bb_M_makeRecord 112 = .ok (.iconst 0, 1) := by decide +kernel
theorem dd_M_makeRecord_113 : decode bb_M_makeRecord 113 = .ok (.invokevirtual 129, 3) := by decide +kernel
theorem dd_M_makeRecord_116 : decode bb_M_makeRecord 116 = .ok (.goto 7, 3) := by decide +kernel
theorem dd_M_makeRecord_119 : decode bb_M_makeRecord 119 = .ok (.aload_n 0, 1) := by decide +kernel
theorem dd_M_makeRecord_120 : decode bb_M_makeRecord 120 = .ok (.invokevirtual 43, 3) := by decide +kernel
theorem dd_M_makeRecord_123 : decode bb_M_makeRecord 123 = .ok (.aload_n 0, 1) := by decide +kernel
theorem dd_M_makeRecord_124 : decode bb_M_makeRecord 124 = .ok (.iload_n 3, 1) := by decide +kernel
theorem dd_M_makeRecord_125 : decode bb_M_makeRecord 125 = .ok (.invokevirtual 46, 3) := by decide +kernel
theorem dd_M_makeRecord_128 : decode bb_M_makeRecord 128 = .ok (.ifCond .ne 9, 3) := by decide +kernel
theorem dd_M_makeRecord_131 : decode bb_M_makeRecord 131 = .ok (.aload_n 0, 1) := by decide +kernel
theorem dd_M_makeRecord_132 : decode bb_M_makeRecord 132 = .ok (.iconst 1, 1) := by decide +kernel
theorem dd_M_makeRecord_133 : decode bb_M_makeRecord 133 = .ok (.invokevirtual 117, 3) := by decide +kernel
theorem dd_M_makeRecord_136 : decode bb_M_makeRecord 136 = .ok (.ireturn, 1) := by decide +kernel
theorem dd_M_makeRecord_137 : decode bb_M_makeRecord 137 = .ok (.aload_n 0, 1) := by decide +kernel
theorem dd_M_makeRecord_138 : decode bb_M_makeRecord 138 = .ok (.iload_n 1, 1) := by decide +kernel
theorem dd_M_makeRecord_139 : decode bb_M_makeRecord 139 = .ok (.iconst (-1), 1) := by decide +kernel
theorem dd_M_makeRecord_140 : decode bb_M_makeRecord 140 = .ok (.invokevirtual 132, 3) := by decide +kernel
theorem dd_M_makeRecord_143 : decode bb_M_makeRecord 143 = .ok (.aload_n 0, 1) := by decide +kernel
theorem dd_M_makeRecord_144 : decode bb_M_makeRecord 144 = .ok (.iload_n 3, 1) := by decide +kernel
theorem dd_M_makeRecord_145 : decode bb_M_makeRecord 145 = .ok (.invokevirtual 135, 3) := by decide +kernel
theorem dd_M_makeRecord_148 : decode bb_M_makeRecord 148 = .ok (.aload_n 0, 1) := by decide +kernel
theorem dd_M_makeRecord_149 : decode bb_M_makeRecord 149 = .ok (.iload_n 1, 1) := by decide +kernel
theorem dd_M_makeRecord_150 : decode bb_M_makeRecord 150 = .ok (.aload_n 0, 1) := by decide +kernel
theorem dd_M_makeRecord_151 : decode bb_M_makeRecord 151 = .ok (.iload_n 1, 1) := by decide +kernel
theorem dd_M_makeRecord_152 : decode bb_M_makeRecord 152 = .ok (.iconst 1, 1) := by decide +kernel
theorem dd_M_makeRecord_153 : decode bb_M_makeRecord 153 = .ok (.invokevirtual 65, 3) := by decide +kernel
theorem dd_M_makeRecord_156 : decode bb_M_makeRecord 156 = .ok (.invokevirtual 138, 3) := by decide +kernel
theorem dd_M_makeRecord_159 : decode bb_M_makeRecord 159 = .ok (.ifCond .eq 7, 3) := by decide +kernel
theorem dd_M_makeRecord_162 : decode bb_M_makeRecord 162 = .ok (.iload_n 3, 1) := by decide +kernel
theorem dd_M_makeRecord_163 : decode bb_M_makeRecord 163 = .ok (.goto 8, 3) := by decide +kernel
theorem dd_M_makeRecord_166 : decode bb_M_makeRecord 166 = .ok (.aload_n 0, 1) := by decide +kernel
theorem dd_M_makeRecord_167 : decode bb_M_makeRecord 167 = .ok (.iconst 1, 1) := by decide +kernel
theorem dd_M_makeRecord_168 : decode bb_M_makeRecord 168 = .ok (.invokevirtual 117, 3) := by decide +kernel
theorem dd_M_makeRecord_171 : decode bb_M_makeRecord 171 = .ok (.ireturn, 1) := by decide +kernel
theorem dd_M_create_0 : decode bb_M_create 0 = .ok (.aload_n 0, 1) := by decide +kernel
theorem dd_M_create_1 : decode bb_M_create 1 = .ok (.iconst 0, 1) := by decide +kernel
theorem dd_M_create_2 : decode bb_M_create 2 = .ok (.putfield 54, 3) := by decide +kernel
theorem dd_M_create_5 : decode bb_M_create 5 = .ok (.aload_n 0, 1) := by decide +kernel
theorem dd_M_create_6 : decode bb_M_create 6 = .ok (.iload_n 1, 1) := by decide +kernel
theorem dd_M_create_7 : decode bb_M_create 7 = .ok (.iload_n 2, 1) := by decide +kernel
theorem dd_M_create_8 : decode bb_M_create 8 = .ok (.invokevirtual 141, 3) := by decide +kernel
theorem dd_M_create_11 : decode bb_M_create 11 = .ok (.istore_n 3, 1) := by decide +kernel
theorem dd_M_create_12 : decode bb_M_create 12 = .ok (.aload_n 0, 1) := by decide +kernel
theorem dd_M_create_13 : decode bb_M_create 13 = .ok (.iconst 0, 1) := by decide +kernel
theorem dd_M_create_14 : decode bb_M_create 14 = .ok (.putfield 78, 3) := by decide +kernel
theorem dd_M_create_17 : decode bb_M_create 17 = .ok (.iload_n 3, 1) := by decide +kernel
theorem dd_M_create_18 : decode bb_M_create 18 = .ok (.ireturn, 1) := by decide +kernel
theorem dd_M_loadMap_0 : decode bb_M_loadMap 0 = .ok (.aload_n 0, 1) := by decide +kernel
theorem dd_M_loadMap_1 : decode bb_M_loadMap 1 = .ok (.iconst 0, 1) := by decide +kernel
theorem dd_M_loadMap_2 : decode bb_M_loadMap 2 = .ok (.putfield 91, 3) := by decide +kernel
theorem dd_M_loadMap_5 : decode bb_M_loadMap 5 = .ok (.aload_n 0, 1) := by decide +kernel
theorem dd_M_loadMap_6 : decode bb_M_loadMap 6 = .ok (.iload_n 1, 1) := by decide +kernel
theorem dd_M_loadMap_7 : decode bb_M_loadMap 7 = .ok (.iconst 3, 1) := by decide +kernel
theorem dd_M_loadMap_8 : decode bb_M_loadMap 8 = .ok (.invokevirtual 69, 3) := by decide +kernel
theorem dd_M_loadMap_11 : decode bb_M_loadMap 11 = .ok (.istore_n 2, 1) := by decide +kernel
theorem dd_M_loadMap_12 : decode bb_M_loadMap 12 = .ok (.iload_n 2, 1) := by decide +kernel
theorem dd_M_loadMap_13 : decode bb_M_loadMap 13 = .ok (.ifCond .ge 4, 3) := by decide +kernel
theorem dd_M_loadMap_16 : decode bb_M_loadMap 16 = .ok (.return_, 1) := by decide +kernel
theorem dd_M_loadMap_17 : decode bb_M_loadMap 17 = .ok (.iinc 2 4, 3) := by decide +kernel
theorem dd_M_loadMap_20 : decode bb_M_loadMap 20 = .ok (.bipush 48, 2) := by decide +kernel
theorem dd_M_loadMap_22 : decode bb_M_loadMap 22 = .ok (.istore_n 3, 1) := by decide +kernel
theorem dd_M_loadMap_23 : decode bb_M_loadMap 23 = .ok (.aload_n 0, 1) := by decide +kernel
theorem dd_M_loadMap_24 : decode bb_M_loadMap 24 = .ok (.iload_n 1, 1) := by decide +kernel
theorem dd_M_loadMap_25 : decode bb_M_loadMap 25 = .ok (.iload_n 2, 1) := by decide +kernel
theorem dd_M_loadMap_26 : decode bb_M_loadMap 26 = .ok (.invokevirtual 65, 3) := by decide +kernel
theorem dd_M_loadMap_29 : decode bb_M_loadMap 29 = .ok (.ifCond .eq 118, 3) := by decide +kernel
theorem dd_M_loadMap_32 : decode bb_M_loadMap 32 = .ok (.aload_n 0, 1) := by decide +kernel
theorem dd_M_loadMap_33 : decode bb_M_loadMap 33 = .ok (.iload_n 1, 1) := by decide +kernel
theorem dd_M_loadMap_34 : decode bb_M_loadMap 34 = .ok (.iload_n 2, 1) := by decide +kernel
theorem dd_M_loadMap_35 : decode bb_M_loadMap 35 = .ok (.invokevirtual 65, 3) := by decide +kernel
theorem dd_M_loadMap_38 : decode bb_M_loadMap 38 = .ok (.iconst 1, 1) := by decide +kernel
theorem dd_M_loadMap_39 : decode bb_M_loadMap 39 = .ok (.if_icmp .ne 7, 3) := by decide +kernel
theorem dd_M_loadMap_42 : decode bb_M_loadMap 42 = .ok (.iconst 1, 1) := by decide +kernel
theorem dd_M_loadMap_43 : decode bb_M_loadMap 43 = .ok (.goto 4, 3) := by decide +kernel
theorem dd_M_loadMap_46 : decode bb_M_loadMap 46 = .ok (.iconst 0, 1) := by decide +kernel
theorem dd_M_loadMap_47 : decode bb_M_loadMap 47 = .ok (.istore 4, 2) := by decide +kernel
theorem dd_M_loadMap_49 : decode bb_M_loadMap 49 = .ok (.aload_n 0, 1) := by decide +kernel
theorem dd_M_loadMap_50 : decode bb_M_loadMap 50 = .ok (.iload_n 1, 1) := by decide +kernel
theorem dd_M_loadMap_51 : decode bb_M_loadMap 51 = .ok (.iload_n 2, 1) := by decide +kernel
theorem dd_M_loadMap_52 : decode bb_M_loadMap 52 = .ok (.iconst 1, 1) := by decide +kernel
theorem dd_M_loadMap_53 : decode bb_M_loadMap 53 = .ok (.iadd, 1) := by decide +kernel
theorem dd_M_loadMap_54 : decode bb_M_loadMap 54 = .ok (.invokevirtual 65, 3) := by decide +kernel
theorem dd_M_loadMap_57 : decode bb_M_loadMap 57 = .ok (.istore 5, 2) := by decide +kernel
theorem dd_M_loadMap_59 : decode bb_M_loadMap 59 = .ok (.iload 4, 2) := by decide +kernel
theorem dd_M_loadMap_61 : decode bb_M_loadMap 61 = .ok (.ifCond .ne 18, 3) := by decide +kernel
theorem dd_M_loadMap_64 : decode bb_M_loadMap 64 = .ok (.iload_n 3, 1) := by decide +kernel
theorem dd_M_loadMap_65 : decode bb_M_loadMap 65 = .ok (.aload_n 0, 1) := by decide +kernel
theorem dd_M_loadMap_66 : decode bb_M_loadMap 66 = .ok (.iload_n 1, 1) := by decide +kernel
theorem dd_M_loadMap_67 : decode bb_M_loadMap 67 = .ok (.iload_n 2, 1) := by decide +kernel
theorem dd_M_loadMap_68 : decode bb_M_loadMap 68 = .ok (.iconst 2, 1) := by decide +kernel
theorem dd_M_loadMap_69 : decode bb_M_loadMap 69 = .ok (.iadd, 1) := by decide +kernel
theorem dd_M_loadMap_70 : decode bb_M_loadMap 70 = .ok (.invokevirtual 65, 3) := by decide +kernel
theorem dd_M_loadMap_73 : decode bb_M_loadMap 73 = .ok (.iadd, 1) := by decide +kernel
theorem dd_M_loadMap_74 : decode bb_M_loadMap 74 = .ok (.sipush 255, 3) := by decide +kernel
theorem dd_M_loadMap_77 : decode bb_M_loadMap 77 = .ok (.iand, 1) := by decide +kernel
theorem dd_M_loadMap_78 : decode bb_M_loadMap 78 = .ok (.istore_n 3, 1) := by decide +kernel
theorem dd_M_loadMap_79 : decode bb_M_loadMap 79 = .ok (.iconst 0, 1) := by decide +kernel
theorem dd_M_loadMap_80 : decode bb_M_loadMap 80 = .ok (.istore 6, 2) := by decide +kernel
theorem dd_M_loadMap_82 : decode bb_M_loadMap 82 = .ok (.iload 6, 2) := by decide +kernel
theorem dd_M_loadMap_84 : decode bb_M_loadMap 84 = .ok (.iload 5, 2) := by decide +kernel
theorem dd_M_loadMap_86 : decode bb_M_loadMap 86 = .ok (.if_icmp .ge 34, 3) := by decide +kernel
theorem dd_M_loadMap_89 : decode bb_M_loadMap 89 = .ok (.aload_n 0, 1) := by decide +kernel
theorem dd_M_loadMap_90 : decode bb_M_loadMap 90 = .ok (.getfield 27, 3) := by decide +kernel
theorem dd_M_loadMap_93 : decode bb_M_loadMap 93 = .ok (.aload_n 0, 1) := by decide +kernel
theorem dd_M_loadMap_94 : decode bb_M_loadMap 94 = .ok (.getfield 91, 3) := by decide +kernel
theorem dd_M_loadMap_97 : decode bb_M_loadMap 97 = .ok (.iload 6, 2) := by decide +kernel
theorem dd_M_loadMap_99 : decode bb_M_loadMap 99 = .ok (.iadd, 1) := by decide +kernel
theorem dd_M_loadMap_100 : decode bb_M_loadMap 100 = .ok (.iload 4, 2) := by decide +kernel
theorem dd_M_loadMap_102 : decode bb_M_loadMap 102 = .ok (.ifCond .eq 7, 3) := by decide +kernel
theorem dd_M_loadMap_105 : decode bb_M_loadMap 105 = .ok (.iconst (-1), 1) := by decide +kernel
theorem dd_M_loadMap_106 : decode bb_M_loadMap 106 = .ok (.goto 7, 3) := by decide +kernel
theorem dd_M_loadMap_109 : decode bb_M_loadMap 109 = .ok (.iload_n 3, 1) := by decide +kernel
theorem dd_M_loadMap_110 : decode bb_M_loadMap 110 = .ok (.iload 6, 2) := by decide +kernel
theorem dd_M_loadMap_112 : decode bb_M_loadMap 112 = .ok (.iadd, 1) := by decide +kernel
theorem dd_M_loadMap_113 : decode bb_M_loadMap 113 = .ok (.iastore, 1) := by decide +kernel
theorem dd_M_loadMap_114 : decode bb_M_loadMap 114 = .ok (.iinc 6 1, 3) := by decide +kernel
theorem dd_M_loadMap_117 : decode bb_M_loadMap 117 = .ok (.goto (-35), 3) := by decide +kernel
theorem dd_M_loadMap_120 : decode bb_M_loadMap 120 = .ok (.aload_n 0, 1) := by decide +kernel
theorem dd_M_loadMap_121 : decode bb_M_loadMap 121 = .ok (.dup, 1) := by decide +kernel
theorem dd_M_loadMap_122 : decode bb_M_loadMap 122 = .ok (.getfield 91, 3) := by decide +kernel
theorem dd_M_loadMap_125 : decode bb_M_loadMap 125 = .ok (.iload 5, 2) := by decide +kernel
theorem dd_M_loadMap_127 : decode bb_M_loadMap 127 = .ok (.iadd, 1) := by decide +kernel
theorem dd_M_loadMap_128 : decode bb_M_loadMap 128 = .ok (.putfield 91, 3) := by decide +kernel
theorem dd_M_loadMap_131 : decode bb_M_loadMap 131 = .ok (.iload_n 2, 1) := by decide +kernel
theorem dd_M_loadMap_132 : decode bb_M_loadMap 132 = .ok (.iload 4, 2) := by decide +kernel
theorem dd_M_loadMap_134 : decode bb_M_loadMap 134 = .ok (.ifCond .eq 7, 3) := by decide +kernel
theorem dd_M_loadMap_137 : decode bb_M_loadMap 137 = .ok (.iconst 2, 1) := by decide +kernel
theorem dd_M_loadMap_138 : decode bb_M_loadMap 138 = .ok (.goto 4, 3) := by decide +kernel
theorem dd_M_loadMap_141 : decode bb_M_loadMap 141 = .ok (.iconst 3, 1) := by decide +kernel
theorem dd_M_loadMap_142 : decode bb_M_loadMap 142 = .ok (.iadd, 1) := by decide +kernel
theorem dd_M_loadMap_143 : decode bb_M_loadMap 143 = .ok (.istore_n 2, 1) := by decide +kernel
theorem dd_M_loadMap_144 : decode bb_M_loadMap 144 = .ok (.goto (-121), 3) := by decide +kernel
theorem dd_M_loadMap_147 : decode bb_M_loadMap 147 = .ok (.return_, 1) := by decide +kernel
theorem dd_M_remove_0 : decode bb_M_remove 0 = .ok (.aload_n 0, 1) := by decide +kernel
theorem dd_M_remove_1 : decode bb_M_remove 1 = .ok (.iconst 0, 1) := by decide +kernel
theorem dd_M_remove_2 : decode bb_M_remove 2 = .ok (.putfield 54, 3) := by decide +kernel
theorem dd_M_remove_5 : decode bb_M_remove 5 = .ok (.aload_n 0, 1) := by decide +kernel
theorem dd_M_remove_6 : decode bb_M_remove 6 = .ok (.getfield 50, 3) := by decide +kernel
theorem dd_M_remove_9 : decode bb_M_remove 9 = .ok (.ifCond .ne 9, 3) := by decide +kernel
theorem dd_M_remove_12 : decode bb_M_remove 12 = .ok (.aload_n 0, 1) := by decide +kernel
theorem dd_M_remove_13 : decode bb_M_remove 13 = .ok (.iconst 1, 1) := by decide +kernel
theorem dd_M_remove_14 : decode bb_M_remove 14 = .ok (.invokevirtual 117, 3) := by decide +kernel
theorem dd_M_remove_17 : decode bb_M_remove 17 = .ok (.ireturn, 1) := by decide +kernel
theorem dd_M_remove_18 : decode bb_M_remove 18 = .ok (.aload_n 0, 1) := by decide +kernel
theorem dd_M_remove_19 : decode bb_M_remove 19 = .ok (.iload_n 1, 1) := by decide +kernel
theorem dd_M_remove_20 : decode bb_M_remove 20 = .ok (.invokevirtual 62, 3) := by decide +kernel
theorem dd_M_remove_23 : decode bb_M_remove 23 = .ok (.ifCond .eq 7, 3) := by decide +kernel
theorem dd_M_remove_26 : decode bb_M_remove 26 = .ok (.iload_n 1, 1) := by decide +kernel
theorem dd_M_remove_27 : decode bb_M_remove 27 = .ok (.ifCond .ne 9, 3) := by decide +kernel
theorem dd_M_remove_30 : decode bb_M_remove 30 = .ok (.aload_n 0, 1) := by decide +kernel
theorem dd_M_remove_31 : decode bb_M_remove 31 = .ok (.iconst 2, 1) := by decide +kernel
theorem dd_M_remove_32 : decode bb_M_remove 32 = .ok (.invokevirtual 117, 3) := by decide +kernel
theorem dd_M_remove_35 : decode bb_M_remove 35 = .ok (.ireturn, 1) := by decide +kernel
theorem dd_M_remove_36 : decode bb_M_remove 36 = .ok (.aload_n 0, 1) := by decide +kernel
theorem dd_M_remove_37 : decode bb_M_remove 37 = .ok (.iload_n 1, 1) := by decide +kernel
theorem dd_M_remove_38 : decode bb_M_remove 38 = .ok (.iconst 0, 1) := by decide +kernel
theorem dd_M_remove_39 : decode bb_M_remove 39 = .ok (.invokevirtual 65, 3) := by decide +kernel
theorem dd_M_remove_42 : decode bb_M_remove 42 = .ok (.iconst 2, 1) := by decide +kernel
theorem dd_M_remove_43 : decode bb_M_remove 43 = .ok (.if_icmp .ne 17, 3) := by decide +kernel
theorem dd_M_remove_46 : decode bb_M_remove 46 = .ok (.aload_n 0, 1) := by decide +kernel
theorem dd_M_remove_47 : decode bb_M_remove 47 = .ok (.iload_n 1, 1) := by decide +kernel
theorem dd_M_remove_48 : decode bb_M_remove 48 = .ok (.invokevirtual 108, 3) := by decide +kernel
theorem dd_M_remove_51 : decode bb_M_remove 51 = .ok (.ifCond .le 9, 3) := by decide +kernel
theorem dd_M_remove_54 : decode bb_M_remove 54 = .ok (.aload_n 0, 1) := by decide +kernel
theorem dd_M_remove_55 : decode bb_M_remove 55 = .ok (.iconst 2, 1) := by decide +kernel
theorem dd_M_remove_56 : decode bb_M_remove 56 = .ok (.invokevirtual 117, 3) := by decide +kernel
theorem dd_M_remove_59 : decode bb_M_remove 59 = .ok (.ireturn, 1) := by decide +kernel
theorem dd_M_remove_60 : decode bb_M_remove 60 = .ok (.aload_n 0, 1) := by decide +kernel
theorem dd_M_remove_61 : decode bb_M_remove 61 = .ok (.iload_n 1, 1) := by decide +kernel
theorem dd_M_remove_62 : decode bb_M_remove 62 = .ok (.iconst 1, 1) := by decide +kernel
theorem dd_M_remove_63 : decode bb_M_remove 63 = .ok (.invokevirtual 65, 3) := by decide +kernel
theorem dd_M_remove_66 : decode bb_M_remove 66 = .ok (.istore_n 2, 1) := by decide +kernel
theorem dd_M_remove_67 : decode bb_M_remove 67 = .ok (.aload_n 0, 1) := by decide +kernel
theorem dd_M_remove_68 : decode bb_M_remove 68 = .ok (.iload_n 1, 1) := by decide +kernel
theorem dd_M_remove_69 : decode bb_M_remove 69 = .ok (.invokevirtual 145, 3) := by decide +kernel
theorem dd_M_remove_72 : decode bb_M_remove 72 = .ok (.aload_n 0, 1) := by decide +kernel
theorem dd_M_remove_73 : decode bb_M_remove 73 = .ok (.iload_n 2, 1) := by decide +kernel
theorem dd_M_remove_74 : decode bb_M_remove 74 = .ok (.iload_n 1, 1) := by decide +kernel
theorem dd_M_remove_75 : decode bb_M_remove 75 = .ok (.invokevirtual 132, 3) := by decide +kernel
theorem dd_M_remove_78 : decode bb_M_remove 78 = .ok (.aload_n 0, 1) := by decide +kernel
theorem dd_M_remove_79 : decode bb_M_remove 79 = .ok (.iload_n 2, 1) := by decide +kernel
theorem dd_M_remove_80 : decode bb_M_remove 80 = .ok (.aload_n 0, 1) := by decide +kernel
theorem dd_M_remove_81 : decode bb_M_remove 81 = .ok (.iload_n 2, 1) := by decide +kernel
theorem dd_M_remove_82 : decode bb_M_remove 82 = .ok (.iconst 1, 1) := by decide +kernel
theorem dd_M_remove_83 : decode bb_M_remove 83 = .ok (.invokevirtual 65, 3) := by decide +kernel
theorem dd_M_remove_86 : decode bb_M_remove 86 = .ok (.invokevirtual 138, 3) := by decide +kernel
theorem dd_M_remove_89 : decode bb_M_remove 89 = .ok (.ifCond .ne 9, 3) := by decide +kernel
theorem dd_M_remove_92 : decode bb_M_remove 92 = .ok (.aload_n 0, 1) := by decide +kernel
theorem dd_M_remove_93 : decode bb_M_remove 93 = .ok (.iconst 1, 1) := by decide +kernel
theorem dd_M_remove_94 : decode bb_M_remove 94 = .ok (.invokevirtual 117, 3) := by decide +kernel
theorem dd_M_remove_97 : decode bb_M_remove 97 = .ok (.ireturn, 1) := by decide +kernel
theorem dd_M_remove_98 : decode bb_M_remove 98 = .ok (.aload_n 0, 1) := by decide +kernel
theorem dd_M_remove_99 : decode bb_M_remove 99 = .ok (.iconst 0, 1) := by decide +kernel
theorem dd_M_remove_100 : decode bb_M_remove 100 = .ok (.iconst 0, 1) := by decide +kernel
theorem dd_M_remove_101 : decode bb_M_remove 101 = .ok (.invokevirtual 39, 3) := by decide +kernel
theorem dd_M_remove_104 : decode bb_M_remove 104 = .ok (.aload_n 0, 1) := by decide +kernel
theorem dd_M_remove_105 : decode bb_M_remove 105 = .ok (.iload_n 1, 1) := by decide +kernel
theorem dd_M_remove_106 : decode bb_M_remove 106 = .ok (.invokevirtual 46, 3) := by decide +kernel
theorem dd_M_remove_109 : decode bb_M_remove 109 = .ok (.ifCond .ne 9, 3) := by decide +kernel
theorem dd_M_remove_112 : decode bb_M_remove 112 = .ok (.aload_n 0, 1) := by decide +kernel
theorem dd_M_remove_113 : decode bb_M_remove 113 = .ok (.iconst 1, 1) := by decide +kernel
theorem dd_M_remove_114 : decode bb_M_remove 114 = .ok (.invokevirtual 117, 3) := by decide +kernel
theorem dd_M_remove_117 : decode bb_M_remove 117 = .ok (.ireturn, 1) := by decide +kernel
theorem dd_M_remove_118 : decode bb_M_remove 118 = .ok (.aload_n 0, 1) := by decide +kernel
theorem dd_M_remove_119 : decode bb_M_remove 119 = .ok (.iconst 0, 1) := by decide +kernel
theorem dd_M_remove_120 : decode bb_M_remove 120 = .ok (.invokevirtual 148, 3) := by decide +kernel
theorem dd_M_remove_123 : decode bb_M_remove 123 = .ok (.ireturn, 1) := by decide +kernel
theorem dd_M_release_0 : decode bb_M_release 0 = .ok (.iconst 0, 1) := by decide +kernel
theorem dd_M_release_1 : decode bb_M_release 1 = .ok (.istore_n 2, 1) := by decide +kernel
theorem dd_M_release_2 : decode bb_M_release 2 = .ok (.iload_n 1, 1) := by decide +kernel
theorem dd_M_release_3 : decode bb_M_release 3 = .ok (.istore_n 3, 1) := by decide +kernel
theorem dd_M_release_4 : decode bb_M_release 4 = .ok (.iload_n 3, 1) := by decide +kernel
theorem dd_M_release_5 : decode bb_M_release 5 = .ok (.aload_n 0, 1) := by decide +kernel
theorem dd_M_release_6 : decode bb_M_release 6 = .ok (.getfield 91, 3) := by decide +kernel
theorem dd_M_release_9 : decode bb_M_release 9 = .ok (.if_icmp .ge 36, 3) := by decide +kernel
theorem dd_M_release_12 : decode bb_M_release 12 = .ok (.aload_n 0, 1) := by decide +kernel
theorem dd_M_release_13 : decode bb_M_release 13 = .ok (.getfield 27, 3) := by decide +kernel
theorem dd_M_release_16 : decode bb_M_release 16 = .ok (.iload_n 3, 1) := by decide +kernel
theorem dd_M_release_17 : decode bb_M_release 17 = .ok (.iaload, 1) := by decide +kernel
theorem dd_M_release_18 : decode bb_M_release 18 = .ok (.ifCond .ge 6, 3) := by decide +kernel
theorem dd_M_release_21 : decode bb_M_release 21 = .ok (.goto 18, 3) := by decide +kernel
theorem dd_M_release_24 : decode bb_M_release 24 = .ok (.aload_n 0, 1) := by decide +kernel
theorem dd_M_release_25 : decode bb_M_release 25 = .ok (.getfield 17, 3) := by decide +kernel
theorem dd_M_release_28 : decode bb_M_release 28 = .ok (.aload_n 0, 1) := by decide +kernel
theorem dd_M_release_29 : decode bb_M_release 29 = .ok (.getfield 27, 3) := by decide +kernel
theorem dd_M_release_32 : decode bb_M_release 32 = .ok (.iload_n 3, 1) := by decide +kernel
theorem dd_M_release_33 : decode bb_M_release 33 = .ok (.iaload, 1) := by decide +kernel
theorem dd_M_release_34 : decode bb_M_release 34 = .ok (.iconst 0, 1) := by decide +kernel
theorem dd_M_release_35 : decode bb_M_release 35 = .ok (.bastore, 1) := by decide +kernel
theorem dd_M_release_36 : decode bb_M_release 36 = .ok (.iinc 2 1, 3) := by decide +kernel
theorem dd_M_release_39 : decode bb_M_release 39 = .ok (.iinc 3 1, 3) := by decide +kernel
theorem dd_M_release_42 : decode bb_M_release 42 = .ok (.goto (-38), 3) := by decide +kernel
theorem dd_M_release_45 : decode bb_M_release 45 = .ok (.iload_n 2, 1) := by decide +kernel
theorem dd_M_release_46 : decode bb_M_release 46 = .ok (.ireturn, 1) := by decide +kernel
theorem dd_M_isBelow_0 : decode bb_M_isBelow 0 = .ok (.iload_n 1, 1) := by decide +kernel
theorem dd_M_isBelow_1 : decode bb_M_isBelow 1 = .ok (.istore_n 3, 1) := by decide +kernel
theorem dd_M_isBelow_2 : decode bb_M_isBelow 2 = .ok (.iload_n 3, 1) := by decide +kernel
theorem dd_M_isBelow_3 : decode bb_M_isBelow 3 = .ok (.iload_n 2, 1) := by decide +kernel
theorem dd_M_isBelow_4 : decode bb_M_isBelow 4 = .ok (.if_icmp .eq 17, 3) := by decide +kernel
theorem dd_M_isBelow_7 : decode bb_M_isBelow 7 = .ok (.iload_n 3, 1) := by decide +kernel
theorem dd_M_isBelow_8 : decode bb_M_isBelow 8 = .ok (.ifCond .eq 13, 3) := by decide +kernel
theorem dd_M_isBelow_11 : decode bb_M_isBelow 11 = .ok (.aload_n 0, 1) := by decide +kernel
theorem dd_M_isBelow_12 : decode bb_M_isBelow 12 = .ok (.iload_n 3, 1) := by decide +kernel
theorem dd_M_isBelow_13 : decode bb_M_isBelow 13 = .ok (.iconst 1, 1) := by decide +kernel
theorem dd_M_isBelow_14 : decode bb_M_isBelow 14 = .ok (.invokevirtual 65, 3) := by decide +kernel
theorem dd_M_isBelow_17 : decode bb_M_isBelow 17 = .ok (.istore_n 3, 1) := by decide +kernel
theorem dd_M_isBelow_18 : decode bb_M_isBelow 18 = .ok (.goto (-16), 3) := by decide +kernel
theorem dd_M_isBelow_21 : decode bb_M_isBelow 21 = .ok (.iload_n 3, 1) := by decide +kernel
theorem dd_M_isBelow_22 : decode bb_M_isBelow 22 = .ok (.iload_n 2, 1) := by decide +kernel
theorem dd_M_isBelow_23 : decode bb_M_isBelow 23 = .ok (.if_icmp .ne 7, 3) := by decide +kernel
theorem dd_M_isBelow_26 : decode bb_M_isBelow 26 = .ok (.iconst 1, 1) := by decide +kernel
theorem dd_M_isBelow_27 : decode bb_M_isBelow 27 = .ok (.goto 4, 3) := by decide +kernel
theorem dd_M_isBelow_30 : decode bb_M_isBelow 30 = .ok (.iconst 0, 1) := by decide +kernel
theorem dd_M_isBelow_31 : decode bb_M_isBelow 31 = .ok (.ireturn, 1) := by decide +kernel
theorem dd_M_hasName_0 : decode bb_M_hasName 0 = .ok (.iconst 0, 1) := by decide +kernel
theorem dd_M_hasName_1 : decode bb_M_hasName 1 = .ok (.istore_n 3, 1) := by decide +kernel
theorem dd_M_hasName_2 : decode bb_M_hasName 2 = .ok (.iconst 0, 1) := by decide +kernel
theorem dd_M_hasName_3 : decode bb_M_hasName 3 = .ok (.istore 4, 2) := by decide +kernel
theorem dd_M_hasName_5 : decode bb_M_hasName 5 = .ok (.iload 4, 2) := by decide +kernel
theorem dd_M_hasName_7 : decode bb_M_hasName 7 = .ok (.aload_n 0, 1) := by decide +kernel
theorem dd_M_hasName_8 : decode bb_M_hasName 8 = .ok (.iload_n 1, 1) := by decide +kernel
theorem dd_M_hasName_9 : decode bb_M_hasName 9 = .ok (.invokevirtual 108, 3) := by decide +kernel
theorem dd_M_hasName_12 : decode bb_M_hasName 12 = .ok (.if_icmp .ge 34, 3) := by decide +kernel
theorem dd_M_hasName_15 : decode bb_M_hasName 15 = .ok (.iload_n 3, 1) := by decide +kernel
theorem dd_M_hasName_16 : decode bb_M_hasName 16 = .ok (.ifCond .ne 18, 3) := by decide +kernel
theorem dd_M_hasName_19 : decode bb_M_hasName 19 = .ok (.aload_n 0, 1) := by decide +kernel
theorem dd_M_hasName_20 : decode bb_M_hasName 20 = .ok (.aload_n 0, 1) := by decide +kernel
theorem dd_M_hasName_21 : decode bb_M_hasName 21 = .ok (.iload_n 1, 1) := by decide +kernel
theorem dd_M_hasName_22 : decode bb_M_hasName 22 = .ok (.iload 4, 2) := by decide +kernel
theorem dd_M_hasName_24 : decode bb_M_hasName 24 = .ok (.invokevirtual 111, 3) := by decide +kernel
theorem dd_M_hasName_27 : decode bb_M_hasName 27 = .ok (.iload_n 2, 1) := by decide +kernel
theorem dd_M_hasName_28 : decode bb_M_hasName 28 = .ok (.invokevirtual 105, 3) := by decide +kernel
theorem dd_M_hasName_31 : decode bb_M_hasName 31 = .ok (.ifCond .ne 7, 3) := by decide +kernel
theorem dd_M_hasName_34 : decode bb_M_hasName 34 = .ok (.iconst 1, 1) := by decide +kernel
theorem dd_M_hasName_35 : decode bb_M_hasName 35 = .ok (.goto 4, 3) := by decide +kernel
theorem dd_M_hasName_38 : decode bb_M_hasName 38 = .ok (.iconst 0, 1) := by decide +kernel
theorem dd_M_hasName_39 : decode bb_M_hasName 39 = .ok (.istore_n 3, 1) := by decide +kernel
theorem dd_M_hasName_40 : decode bb_M_hasName 40 = .ok (.iinc 4 1, 3) := by decide +kernel
theorem dd_M_hasName_43 : decode bb_M_hasName 43 = .ok (.goto (-38), 3) := by decide +kernel
theorem dd_M_hasName_46 : decode bb_M_hasName 46 = .ok (.iload_n 3, 1) := by decide +kernel
theorem dd_M_hasName_47 : decode bb_M_hasName 47 = .ok (.ireturn, 1) := by decide +kernel
theorem dd_M_move_0 : decode bb_M_move 0 = .ok (.aload_n 0, 1) := by decide +kernel
theorem dd_M_move_1 : decode bb_M_move 1 = .ok (.iconst 0, 1) := by decide +kernel
theorem dd_M_move_2 : decode bb_M_move 2 = .ok (.putfield 54, 3) := by decide +kernel
theorem dd_M_move_5 : decode bb_M_move 5 = .ok (.aload_n 0, 1) := by decide +kernel
theorem dd_M_move_6 : decode bb_M_move 6 = .ok (.getfield 50, 3) := by decide +kernel
theorem dd_M_move_9 : decode bb_M_move 9 = .ok (.ifCond .ne 9, 3) := by decide +kernel
theorem dd_M_move_12 : decode bb_M_move 12 = .ok (.aload_n 0, 1) := by decide +kernel
theorem dd_M_move_13 : decode bb_M_move 13 = .ok (.iconst 1, 1) := by decide +kernel
theorem dd_M_move_14 : decode bb_M_move 14 = .ok (.putfield 54, 3) := by decide +kernel
theorem dd_M_move_17 : decode bb_M_move 17 = .ok (.return_, 1) := by decide +kernel
theorem dd_M_move_18 : decode bb_M_move 18 = .ok (.aload_n 0, 1) := by decide +kernel
theorem dd_M_move_19 : decode bb_M_move 19 = .ok (.iload_n 1, 1) := by decide +kernel
theorem dd_M_move_20 : decode bb_M_move 20 = .ok (.invokevirtual 62, 3) := by decide +kernel
theorem dd_M_move_23 : decode bb_M_move 23 = .ok (.ifCond .eq 20, 3) := by decide +kernel
theorem dd_M_move_26 : decode bb_M_move 26 = .ok (.iload_n 1, 1) := by decide +kernel
theorem dd_M_move_27 : decode bb_M_move 27 = .ok (.ifCond .eq 16, 3) := by decide +kernel
theorem dd_M_move_30 : decode bb_M_move 30 = .ok (.aload_n 0, 1) := by decide +kernel
theorem dd_M_move_31 : decode bb_M_move 31 = .ok (.iload_n 2, 1) := by decide +kernel
theorem dd_M_move_32 : decode bb_M_move 32 = .ok (.iconst 2, 1) := by decide +kernel
theorem dd_M_move_33 : decode bb_M_move 33 = .ok (.invokevirtual 120, 3) := by decide +kernel
theorem dd_M_move_36 : decode bb_M_move 36 = .ok (.ifCond .eq 7, 3) := by decide +kernel
theorem dd_M_move_39 : decode bb_M_move 39 = .ok (.iconst 1, 1) := by decide +kernel
theorem dd_M_move_40 : decode bb_M_move 40 = .ok (.goto 4, 3) := by decide +kernel
theorem dd_M_move_43 : decode bb_M_move 43 = .ok (.iconst 0, 1) := by decide +kernel
theorem dd_M_move_44 : decode bb_M_move 44 = .ok (.istore_n 3, 1) := by decide +kernel
theorem dd_M_move_45 : decode bb_M_move 45 = .ok (.iload_n 3, 1) := by decide +kernel
theorem dd_M_move_46 : decode bb_M_move 46 = .ok (.ifCond .eq 21, 3) := by decide +kernel
theorem dd_M_move_49 : decode bb_M_move 49 = .ok (.aload_n 0, 1) := by decide +kernel
theorem dd_M_move_50 : decode bb_M_move 50 = .ok (.iload_n 2, 1) := by decide +kernel
theorem dd_M_move_51 : decode bb_M_move 51 = .ok (.iload_n 1, 1) := by decide +kernel
theorem dd_M_move_52 : decode bb_M_move 52 = .ok (.invokevirtual 151, 3) := by decide +kernel
theorem dd_M_move_55 : decode bb_M_move 55 = .ok (.ifCond .ne 12, 3) := by decide +kernel
theorem dd_M_move_58 : decode bb_M_move 58 = .ok (.aload_n 0, 1) := by decide +kernel
theorem dd_M_move_59 : decode bb_M_move 59 = .ok (.iload_n 2, 1) := by decide +kernel
theorem dd_M_move_60 : decode bb_M_move 60 = .ok (.iload_n 1, 1) := by decide +kernel
theorem dd_M_move_61 : decode bb_M_move 61 = .ok (.invokevirtual 154, 3) := by decide +kernel
theorem dd_M_move_64 : decode bb_M_move 64 = .ok (.ifCond .eq 9, 3) := by decide +kernel
theorem dd_M_move_67 : decode bb_M_move 67 = .ok (.aload_n 0, 1) := by decide +kernel
theorem dd_M_move_68 : decode bb_M_move 68 = .ok (.iconst 2, 1) := by decide +kernel
theorem dd_M_move_69 : decode bb_M_move 69 = .ok (.putfield 54, 3) := by decide +kernel
theorem dd_M_move_72 : decode bb_M_move 72 = .ok (.return_, 1) := by decide +kernel
theorem dd_M_move_73 : decode bb_M_move 73 = .ok (.aload_n 0, 1) := by decide +kernel
theorem dd_M_move_74 : decode bb_M_move 74 = .ok (.iload_n 1, 1) := by decide +kernel
theorem dd_M_move_75 : decode bb_M_move 75 = .ok (.iconst 1, 1) := by decide +kernel
theorem dd_M_move_76 : decode bb_M_move 76 = .ok (.invokevirtual 65, 3) := by decide +kernel
theorem dd_M_move_79 : decode bb_M_move 79 = .ok (.istore 4, 2) := by decide +kernel
theorem dd_M_move_81 : decode bb_M_move 81 = .ok (.iconst 0, 1) := by decide +kernel
theorem dd_M_move_82 : decode bb_M_move 82 = .ok (.istore 5, 2) := by decide +kernel
theorem dd_M_move_84 : decode bb_M_move 84 = .ok (.iload 5, 2) := by decide +kernel
theorem dd_M_move_86 : decode bb_M_move 86 = .ok (.bipush 64, 2) := by decide +kernel
theorem dd_M_move_88 : decode bb_M_move 88 = .ok (.if_icmp .ge 23, 3) := by decide +kernel
theorem dd_M_move_91 : decode bb_M_move 91 = .ok (.aload_n 0, 1) := by decide +kernel
theorem dd_M_move_92 : decode bb_M_move 92 = .ok (.getfield 24, 3) := by decide +kernel
theorem dd_M_move_95 : decode bb_M_move 95 = .ok (.iload 5, 2) := by decide +kernel
theorem dd_M_move_97 : decode bb_M_move 97 = .ok (.aload_n 0, 1) := by decide +kernel
theorem dd_M_move_98 : decode bb_M_move 98 = .ok (.iload_n 1, 1) := by decide +kernel
theorem dd_M_move_99 : decode bb_M_move 99 = .ok (.iload 5, 2) := by decide +kernel
theorem dd_M_move_101 : decode bb_M_move 101 = .ok (.invokevirtual 65, 3) := by decide +kernel
theorem dd_M_move_104 : decode bb_M_move 104 = .ok (.iastore, 1) := by decide +kernel
theorem dd_M_move_105 : decode bb_M_move 105 = .ok (.iinc 5 1, 3) := by decide +kernel
theorem dd_M_move_108 : decode bb_M_move 108 = .ok (.goto (-24), 3) := by decide +kernel
theorem dd_M_move_111 : decode bb_M_move 111 = .ok (.aload_n 0, 1) := by decide +kernel
theorem dd_M_move_112 : decode bb_M_move 112 = .ok (.getfield 24, 3) := by decide +kernel
theorem dd_M_move_115 : decode bb_M_move 115 = .ok (.iconst 1, 1) := by decide +kernel
theorem dd_M_move_116 : decode bb_M_move 116 = .ok (.iload_n 2, 1) := by decide +kernel
theorem dd_M_move_117 : decode bb_M_move 117 = .ok (.iastore, 1) := by decide +kernel
theorem dd_M_move_118 : decode bb_M_move 118 = .ok (.aload_n 0, 1) := by decide +kernel
theorem dd_M_move_119 : decode bb_M_move 119 = .ok (.bipush 10, 2) := by decide +kernel
theorem dd_M_move_121 : decode bb_M_move 121 = .ok (.aload_n 0, 1) := by decide +kernel
theorem dd_M_move_122 : decode bb_M_move 122 = .ok (.getfield 24, 3) := by decide +kernel
theorem dd_M_move_125 : decode bb_M_move 125 = .ok (.bipush 8, 2) := by decide +kernel
theorem dd_M_move_127 : decode bb_M_move 127 = .ok (.iaload, 1) := by decide +kernel
theorem dd_M_move_128 : decode bb_M_move 128 = .ok (.iadd, 1) := by decide +kernel
theorem dd_M_move_129 : decode bb_M_move 129 = .ok (.putfield 81, 3) := by decide +kernel
theorem dd_M_move_132 : decode bb_M_move 132 = .ok (.aload_n 0, 1) := by decide +kernel
theorem dd_M_move_133 : decode bb_M_move 133 = .ok (.iload_n 1, 1) := by decide +kernel
theorem dd_M_move_134 : decode bb_M_move 134 = .ok (.invokevirtual 46, 3) := by decide +kernel
theorem dd_M_move_137 : decode bb_M_move 137 = .ok (.istore 5, 2) := by decide +kernel
theorem dd_M_move_139 : decode bb_M_move 139 = .ok (.iload 5, 2) := by decide +kernel
theorem dd_M_move_141 : decode bb_M_move 141 = .ok (.ifCond .eq 25, 3) := by decide +kernel
theorem dd_M_move_144 : decode bb_M_move 144 = .ok (.aload_n 0, 1) := by decide +kernel
theorem dd_M_move_145 : decode bb_M_move 145 = .ok (.iload 4, 2) := by decide +kernel
theorem dd_M_move_147 : decode bb_M_move 147 = .ok (.iload_n 1, 1) := by decide +kernel
theorem dd_M_move_148 : decode bb_M_move 148 = .ok (.invokevirtual 132, 3) := by decide +kernel
theorem dd_M_move_151 : decode bb_M_move 151 = .ok (.aload_n 0, 1) := by decide +kernel
theorem dd_M_move_152 : decode bb_M_move 152 = .ok (.iload 4, 2) := by decide +kernel
theorem dd_M_move_154 : decode bb_M_move 154 = .ok (.aload_n 0, 1) := by decide +kernel
theorem dd_M_move_155 : decode bb_M_move 155 = .ok (.iload 4, 2) := by decide +kernel
theorem dd_M_move_157 : decode bb_M_move 157 = .ok (.iconst 1, 1) := by decide +kernel
theorem dd_M_move_158 : decode bb_M_move 158 = .ok (.invokevirtual 65, 3) := by decide +kernel
theorem dd_M_move_161 : decode bb_M_move 161 = .ok (.invokevirtual 138, 3) := by decide +kernel
theorem dd_M_move_164 : decode bb_M_move 164 = .ok (.istore 5, 2) := by decide +kernel
theorem dd_M_move_166 : decode bb_M_move 166 = .ok (.iload 5, 2) := by decide +kernel
theorem dd_M_move_168 : decode bb_M_move 168 = .ok (.ifCond .eq 27, 3) := by decide +kernel
theorem dd_M_move_171 : decode bb_M_move 171 = .ok (.aload_n 0, 1) := by decide +kernel
theorem dd_M_move_172 : decode bb_M_move 172 = .ok (.iload_n 2, 1) := by decide +kernel
theorem dd_M_move_173 : decode bb_M_move 173 = .ok (.iconst (-1), 1) := by decide +kernel
theorem dd_M_move_174 : decode bb_M_move 174 = .ok (.invokevirtual 132, 3) := by decide +kernel
theorem dd_M_move_177 : decode bb_M_move 177 = .ok (.aload_n 0, 1) := by decide +kernel
theorem dd_M_move_178 : decode bb_M_move 178 = .ok (.iload_n 1, 1) := by decide +kernel
theorem dd_M_move_179 : decode bb_M_move 179 = .ok (.invokevirtual 135, 3) := by decide +kernel
theorem dd_M_move_182 : decode bb_M_move 182 = .ok (.aload_n 0, 1) := by decide +kernel
theorem dd_M_move_183 : decode bb_M_move 183 = .ok (.iload_n 2, 1) := by decide +kernel
theorem dd_M_move_184 : decode bb_M_move 184 = .ok (.aload_n 0, 1) := by decide +kernel
theorem dd_M_move_185 : decode bb_M_move 185 = .ok (.iload_n 2, 1) := by decide +kernel
theorem dd_M_move_186 : decode bb_M_move 186 = .ok (.iconst 1, 1) := by decide +kernel
theorem dd_M_move_187 : decode bb_M_move 187 = .ok (.invokevirtual 65, 3) := by decide +kernel
theorem dd_M_move_190 : decode bb_M_move 190 = .ok (.invokevirtual 138, 3) := by decide +kernel
theorem dd_M_move_193 : decode bb_M_move 193 = .ok (.istore 5, 2) := by decide +kernel
theorem dd_M_move_195 : decode bb_M_move 195 = .ok (.iload 5, 2) := by decide +kernel
theorem dd_M_move_197 : decode bb_M_move 197 = .ok (.ifCond .ne 8, 3) := by decide +kernel
theorem dd_M_move_200 : decode bb_M_move 200 = .ok (.aload_n 0, 1) := by decide +kernel
theorem dd_M_move_201 : decode bb_M_move 201 = .ok (.iconst 1, 1) := by decide +kernel
theorem dd_M_move_202 : decode bb_M_move 202 = .ok (.putfield 54, 3) := by decide +kernel
theorem dd_M_move_205 : decode bb_M_move 205 = .ok (.return_, 1) := by decide +kernel
theorem dd_M_lowestFree_0 : decode bb_M_lowestFree 0 = .ok (.bipush 48, 2) := by decide +kernel
theorem dd_M_lowestFree_2 : decode bb_M_lowestFree 2 = .ok (.istore_n 1, 1) := by decide +kernel
theorem dd_M_lowestFree_3 : decode bb_M_lowestFree 3 = .ok (.iload_n 1, 1) := by decide +kernel
theorem dd_M_lowestFree_4 : decode bb_M_lowestFree 4 = .ok (.sipush 128, 3) := by decide +kernel
theorem dd_M_lowestFree_7 : decode bb_M_lowestFree 7 = .ok (.if_icmp .ge 18, 3) := by decide +kernel
theorem dd_M_lowestFree_10 : decode bb_M_lowestFree 10 = .ok (.aload_n 0, 1) := by decide +kernel
theorem dd_M_lowestFree_11 : decode bb_M_lowestFree 11 = .ok (.getfield 17, 3) := by decide +kernel
theorem dd_M_lowestFree_14 : decode bb_M_lowestFree 14 = .ok (.iload_n 1, 1) := by decide +kernel
theorem dd_M_lowestFree_15 : decode bb_M_lowestFree 15 = .ok (.baload, 1) := by decide +kernel
theorem dd_M_lowestFree_16 : decode bb_M_lowestFree 16 = .ok (.ifCond .eq 9, 3) := by decide +kernel
theorem dd_M_lowestFree_19 : decode bb_M_lowestFree 19 = .ok (.iinc 1 1, 3) := by decide +kernel
theorem dd_M_lowestFree_22 : decode bb_M_lowestFree 22 = .ok (.goto (-19), 3) := by decide +kernel
theorem dd_M_lowestFree_25 : decode bb_M_lowestFree 25 = .ok (.iload_n 1, 1) := by decide +kernel
theorem dd_M_lowestFree_26 : decode bb_M_lowestFree 26 = .ok (.sipush 128, 3) := by decide +kernel
theorem dd_M_lowestFree_29 : decode bb_M_lowestFree 29 = .ok (.if_icmp .ge 7, 3) := by decide +kernel
theorem dd_M_lowestFree_32 : decode bb_M_lowestFree 32 = .ok (.iload_n 1, 1) := by decide +kernel
theorem dd_M_lowestFree_33 : decode bb_M_lowestFree 33 = .ok (.goto 4, 3) := by decide +kernel
theorem dd_M_lowestFree_36 : decode bb_M_lowestFree 36 = .ok (.iconst (-1), 1) := by decide +kernel
theorem dd_M_lowestFree_37 : decode bb_M_lowestFree 37 = .ok (.ireturn, 1) := by decide +kernel
