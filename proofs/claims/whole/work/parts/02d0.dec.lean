theorem dd_V_init_0 : decode bb_V_init 0 = .ok (.aload_n 0, 1) := by decide +kernel
theorem dd_V_init_1 : decode bb_V_init 1 = .ok (.invokespecial 3, 3) := by decide +kernel
theorem dd_V_init_4 : decode bb_V_init 4 = .ok (.aload_n 0, 1) := by decide +kernel
theorem dd_V_init_5 : decode bb_V_init 5 = .ok (.new 9, 3) := by decide +kernel
theorem dd_V_init_8 : decode bb_V_init 8 = .ok (.dup, 1) := by decide +kernel
theorem dd_V_init_9 : decode bb_V_init 9 = .ok (.invokespecial 11, 3) := by decide +kernel
theorem dd_V_init_12 : decode bb_V_init 12 = .ok (.putfield 12, 3) := by decide +kernel
theorem dd_V_init_15 : decode bb_V_init 15 = .ok (.aload_n 0, 1) := by decide +kernel
theorem dd_V_init_16 : decode bb_V_init 16 = .ok (.bipush 12, 2) := by decide +kernel
theorem dd_V_init_18 : decode bb_V_init 18 = .ok (.anewarray 16, 3) := by decide +kernel
theorem dd_V_init_21 : decode bb_V_init 21 = .ok (.putfield 18, 3) := by decide +kernel
theorem dd_V_init_24 : decode bb_V_init 24 = .ok (.iconst 0, 1) := by decide +kernel
theorem dd_V_init_25 : decode bb_V_init 25 = .ok (.istore_n 1, 1) := by decide +kernel
theorem dd_V_init_26 : decode bb_V_init 26 = .ok (.iload_n 1, 1) := by decide +kernel
theorem dd_V_init_27 : decode bb_V_init 27 = .ok (.bipush 12, 2) := by decide +kernel
theorem dd_V_init_29 : decode bb_V_init 29 = .ok (.if_icmp .ge 22, 3) := by decide +kernel
theorem dd_V_init_32 : decode bb_V_init 32 = .ok (.aload_n 0, 1) := by decide +kernel
theorem dd_V_init_33 : decode bb_V_init 33 = .ok (.getfield 18, 3) := by decide +kernel
theorem dd_V_init_36 : decode bb_V_init 36 = .ok (.iload_n 1, 1) := by decide +kernel
theorem dd_V_init_37 : decode bb_V_init 37 = .ok (.new 16, 3) := by decide +kernel
theorem dd_V_init_40 : decode bb_V_init 40 = .ok (.dup, 1) := by decide +kernel
theorem dd_V_init_41 : decode bb_V_init 41 = .ok (.invokespecial 22, 3) := by decide +kernel
theorem dd_V_init_44 : decode bb_V_init 44 = .ok (.aastore, 1) := by decide +kernel
theorem dd_V_init_45 : decode bb_V_init 45 = .ok (.iinc 1 1, 3) := by decide +kernel
theorem dd_V_init_48 : decode bb_V_init 48 = .ok (.goto (-22), 3) := by decide +kernel
theorem dd_V_init_51 : decode bb_V_init 51 = .ok (.aload_n 0, 1) := by decide +kernel
theorem dd_V_init_52 : decode bb_V_init 52 = .ok (.sipush 128, 3) := by decide +kernel
theorem dd_V_init_55 : decode bb_V_init 55 = .ok (.newarray .boolean, 2) := by decide +kernel
theorem dd_V_init_57 : decode bb_V_init 57 = .ok (.putfield 23, 3) := by decide +kernel
theorem dd_V_init_60 : decode bb_V_init 60 = .ok (.aload_n 0, 1) := by decide +kernel
theorem dd_V_init_61 : decode bb_V_init 61 = .ok (.new 27, 3) := by decide +kernel
theorem dd_V_init_64 : decode bb_V_init 64 = .ok (.dup, 1) := by decide +kernel
theorem dd_V_init_65 : decode bb_V_init 65 = .ok (.invokespecial 29, 3) := by decide +kernel
theorem dd_V_init_68 : decode bb_V_init 68 = .ok (.putfield 30, 3) := by decide +kernel
theorem dd_V_init_71 : decode bb_V_init 71 = .ok (.aload_n 0, 1) := by decide +kernel
theorem dd_V_init_72 : decode bb_V_init 72 = .ok (.new 27, 3) := by decide +kernel
theorem dd_V_init_75 : decode bb_V_init 75 = .ok (.dup, 1) := by decide +kernel
theorem dd_V_init_76 : decode bb_V_init 76 = .ok (.invokespecial 29, 3) := by decide +kernel
theorem dd_V_init_79 : decode bb_V_init 79 = .ok (.putfield 34, 3) := by decide +kernel
theorem dd_V_init_82 : decode bb_V_init 82 = .ok (.aload_n 0, 1) := by decide +kernel
theorem dd_V_init_83 : decode bb_V_init 83 = .ok (.new 37, 3) := by decide +kernel
theorem dd_V_init_86 : decode bb_V_init 86 = .ok (.dup, 1) := by decide +kernel
theorem dd_V_init_87 : decode bb_V_init 87 = .ok (.invokespecial 39, 3) := by decide +kernel
theorem dd_V_init_90 : decode bb_V_init 90 = .ok (.putfield 40, 3) := by decide +kernel
theorem dd_V_init_93 : decode bb_V_init 93 = .ok (.aload_n 0, 1) := by decide +kernel
theorem dd_V_init_94 : decode bb_V_init 94 = .ok (.bipush 64, 2) := by decide +kernel
theorem dd_V_init_96 : decode bb_V_init 96 = .ok (.newarray .int, 2) := by decide +kernel
theorem dd_V_init_98 : decode bb_V_init 98 = .ok (.putfield 44, 3) := by decide +kernel
theorem dd_V_init_101 : decode bb_V_init 101 = .ok (.aload_n 0, 1) := by decide +kernel
theorem dd_V_init_102 : decode bb_V_init 102 = .ok (.bipush 12, 2) := by decide +kernel
theorem dd_V_init_104 : decode bb_V_init 104 = .ok (.newarray .int, 2) := by decide +kernel
theorem dd_V_init_106 : decode bb_V_init 106 = .ok (.putfield 48, 3) := by decide +kernel
theorem dd_V_init_109 : decode bb_V_init 109 = .ok (.aload_n 0, 1) := by decide +kernel
theorem dd_V_init_110 : decode bb_V_init 110 = .ok (.getfield 18, 3) := by decide +kernel
theorem dd_V_init_113 : decode bb_V_init 113 = .ok (.iconst 0, 1) := by decide +kernel
theorem dd_V_init_114 : decode bb_V_init 114 = .ok (.aaload, 1) := by decide +kernel
theorem dd_V_init_115 : decode bb_V_init 115 = .ok (.iconst 2, 1) := by decide +kernel
theorem dd_V_init_116 : decode bb_V_init 116 = .ok (.iconst 0, 1) := by decide +kernel
theorem dd_V_init_117 : decode bb_V_init 117 = .ok (.invokevirtual 51, 3) := by decide +kernel
theorem dd_V_init_120 : decode bb_V_init 120 = .ok (.aload_n 0, 1) := by decide +kernel
theorem dd_V_init_121 : decode bb_V_init 121 = .ok (.getfield 18, 3) := by decide +kernel
theorem dd_V_init_124 : decode bb_V_init 124 = .ok (.iconst 0, 1) := by decide +kernel
theorem dd_V_init_125 : decode bb_V_init 125 = .ok (.aaload, 1) := by decide +kernel
theorem dd_V_init_126 : decode bb_V_init 126 = .ok (.invokevirtual 55, 3) := by decide +kernel
theorem dd_V_init_129 : decode bb_V_init 129 = .ok (.aload_n 0, 1) := by decide +kernel
theorem dd_V_init_130 : decode bb_V_init 130 = .ok (.getfield 18, 3) := by decide +kernel
theorem dd_V_init_133 : decode bb_V_init 133 = .ok (.iconst 0, 1) := by decide +kernel
theorem dd_V_init_134 : decode bb_V_init 134 = .ok (.aaload, 1) := by decide +kernel
theorem dd_V_init_135 : decode bb_V_init 135 = .ok (.aload_n 0, 1) := by decide +kernel
theorem dd_V_init_136 : decode bb_V_init 136 = .ok (.getfield 44, 3) := by decide +kernel
theorem dd_V_init_139 : decode bb_V_init 139 = .ok (.invokevirtual 58, 3) := by decide +kernel
theorem dd_V_init_142 : decode bb_V_init 142 = .ok (.aload_n 0, 1) := by decide +kernel
theorem dd_V_init_143 : decode bb_V_init 143 = .ok (.getfield 12, 3) := by decide +kernel
theorem dd_V_init_146 : decode bb_V_init 146 = .ok (.iconst 0, 1) := by decide +kernel
theorem dd_V_init_147 : decode bb_V_init 147 = .ok (.iconst 0, 1) := by decide +kernel
theorem dd_V_init_148 : decode bb_V_init 148 = .ok (.aload_n 0, 1) := by decide +kernel
theorem dd_V_init_149 : decode bb_V_init 149 = .ok (.getfield 44, 3) := by decide +kernel
theorem dd_V_init_152 : decode bb_V_init 152 = .ok (.invokevirtual 62, 3) := by decide +kernel
theorem dd_V_init_155 : decode bb_V_init 155 = .ok (.aload_n 0, 1) := by decide +kernel
theorem dd_V_init_156 : decode bb_V_init 156 = .ok (.getfield 12, 3) := by decide +kernel
theorem dd_V_init_159 : decode bb_V_init 159 = .ok (.iconst 0, 1) := by decide +kernel
theorem dd_V_init_160 : decode bb_V_init 160 = .ok (.iconst 1, 1) := by decide +kernel
theorem dd_V_init_161 : decode bb_V_init 161 = .ok (.aload_n 0, 1) := by decide +kernel
theorem dd_V_init_162 : decode bb_V_init 162 = .ok (.getfield 44, 3) := by decide +kernel
theorem dd_V_init_165 : decode bb_V_init 165 = .ok (.invokevirtual 62, 3) := by decide +kernel
theorem dd_V_init_168 : decode bb_V_init 168 = .ok (.aload_n 0, 1) := by decide +kernel
theorem dd_V_init_169 : decode bb_V_init 169 = .ok (.iconst 1, 1) := by decide +kernel
theorem dd_V_init_170 : decode bb_V_init 170 = .ok (.putfield 66, 3) := by decide +kernel
theorem dd_V_init_173 : decode bb_V_init 173 = .ok (.return_, 1) := by decide +kernel
theorem dd_V_type_0 : decode bb_V_type 0 = .ok (.aload_n 0, 1) := by decide +kernel
theorem dd_V_type_1 : decode bb_V_type 1 = .ok (.getfield 30, 3) := by decide +kernel
theorem dd_V_type_4 : decode bb_V_type 4 = .ok (.iload_n 1, 1) := by decide +kernel
theorem dd_V_type_5 : decode bb_V_type 5 = .ok (.invokevirtual 70, 3) := by decide +kernel
theorem dd_V_type_8 : decode bb_V_type 8 = .ok (.ireturn, 1) := by decide +kernel
theorem dd_V_create_0 : decode bb_V_create 0 = .ok (.aload_n 0, 1) := by decide +kernel
theorem dd_V_create_1 : decode bb_V_create 1 = .ok (.getfield 34, 3) := by decide +kernel
theorem dd_V_create_4 : decode bb_V_create 4 = .ok (.aload_n 0, 1) := by decide +kernel
theorem dd_V_create_5 : decode bb_V_create 5 = .ok (.getfield 30, 3) := by decide +kernel
theorem dd_V_create_8 : decode bb_V_create 8 = .ok (.invokevirtual 74, 3) := by decide +kernel
theorem dd_V_create_11 : decode bb_V_create 11 = .ok (.aload_n 0, 1) := by decide +kernel
theorem dd_V_create_12 : decode bb_V_create 12 = .ok (.getfield 30, 3) := by decide +kernel
theorem dd_V_create_15 : decode bb_V_create 15 = .ok (.invokevirtual 78, 3) := by decide +kernel
theorem dd_V_create_18 : decode bb_V_create 18 = .ok (.aload_n 0, 1) := by decide +kernel
theorem dd_V_create_19 : decode bb_V_create 19 = .ok (.invokevirtual 81, 3) := by decide +kernel
theorem dd_V_create_22 : decode bb_V_create 22 = .ok (.aload_n 0, 1) := by decide +kernel
theorem dd_V_create_23 : decode bb_V_create 23 = .ok (.iload_n 1, 1) := by decide +kernel
theorem dd_V_create_24 : decode bb_V_create 24 = .ok (.invokevirtual 84, 3) := by decide +kernel
theorem dd_V_create_27 : decode bb_V_create 27 = .ok (.ifCond .eq 30, 3) := by decide +kernel
theorem dd_V_create_30 : decode bb_V_create 30 = .ok (.aload_n 0, 1) := by decide +kernel
theorem dd_V_create_31 : decode bb_V_create 31 = .ok (.getfield 34, 3) := by decide +kernel
theorem dd_V_create_34 : decode bb_V_create 34 = .ok (.getfield 87, 3) := by decide +kernel
theorem dd_V_create_37 : decode bb_V_create 37 = .ok (.ifCond .le 20, 3) := by decide +kernel
theorem dd_V_create_40 : decode bb_V_create 40 = .ok (.aload_n 0, 1) := by decide +kernel
theorem dd_V_create_41 : decode bb_V_create 41 = .ok (.iload_n 1, 1) := by decide +kernel
theorem dd_V_create_42 : decode bb_V_create 42 = .ok (.aload_n 0, 1) := by decide +kernel
theorem dd_V_create_43 : decode bb_V_create 43 = .ok (.getfield 34, 3) := by decide +kernel
theorem dd_V_create_46 : decode bb_V_create 46 = .ok (.invokevirtual 91, 3) := by decide +kernel
theorem dd_V_create_49 : decode bb_V_create 49 = .ok (.iconst (-1), 1) := by decide +kernel
theorem dd_V_create_50 : decode bb_V_create 50 = .ok (.if_icmp .ne 7, 3) := by decide +kernel
theorem dd_V_create_53 : decode bb_V_create 53 = .ok (.iconst 1, 1) := by decide +kernel
theorem dd_V_create_54 : decode bb_V_create 54 = .ok (.goto 4, 3) := by decide +kernel
theorem dd_V_create_57 : decode bb_V_create 57 = .ok (.iconst 0, 1) := by decide +kernel
theorem dd_V_create_58 : decode bb_V_create 58 = .ok (.invokestatic 95, 3) := by decide +kernel
theorem dd_V_create_61 : decode bb_V_create 61 = .ok (.aload_n 0, 1) := by decide +kernel
theorem dd_V_create_62 : decode bb_V_create 62 = .ok (.invokevirtual 99, 3) := by decide +kernel
theorem dd_V_create_65 : decode bb_V_create 65 = .ok (.istore_n 3, 1) := by decide +kernel
theorem dd_V_create_66 : decode bb_V_create 66 = .ok (.iload_n 3, 1) := by decide +kernel
theorem dd_V_create_67 : decode bb_V_create 67 = .ok (.iconst (-1), 1) := by decide +kernel
theorem dd_V_create_68 : decode bb_V_create 68 = .ok (.if_icmp .ne 13, 3) := by decide +kernel
theorem dd_V_create_71 : decode bb_V_create 71 = .ok (.new 103, 3) := by decide +kernel
theorem dd_V_create_74 : decode bb_V_create 74 = .ok (.dup, 1) := by decide +kernel
theorem dd_V_create_75 : decode bb_V_create 75 = .ok (.ldc 105, 2) := by decide +kernel
theorem dd_V_create_77 : decode bb_V_create 77 = .ok (.invokespecial 107, 3) := by decide +kernel
theorem dd_V_create_80 : decode bb_V_create 80 = .ok (.athrow, 1) := by decide +kernel
theorem dd_V_create_81 : decode bb_V_create 81 = .ok (.aload_n 0, 1) := by decide +kernel
theorem dd_V_create_82 : decode bb_V_create 82 = .ok (.getfield 18, 3) := by decide +kernel
theorem dd_V_create_85 : decode bb_V_create 85 = .ok (.iload_n 3, 1) := by decide +kernel
theorem dd_V_create_86 : decode bb_V_create 86 = .ok (.aaload, 1) := by decide +kernel
theorem dd_V_create_87 : decode bb_V_create 87 = .ok (.iload_n 2, 1) := by decide +kernel
theorem dd_V_create_88 : decode bb_V_create 88 = .ok (.ifCond .eq 7, 3) := by decide +kernel
theorem dd_V_create_91 : decode bb_V_create 91 = .ok (.iconst 1, 1) := by decide +kernel
theorem dd_V_create_92 : decode bb_V_create 92 = .ok (.goto 4, 3) := by decide +kernel
theorem dd_V_create_95 : decode bb_V_create 95 = .ok (.iconst 2, 1) := by decide +kernel
theorem dd_V_create_96 : decode bb_V_create 96 = .ok (.iload_n 1, 1) := by decide +kernel
theorem dd_V_create_97 : decode bb_V_create 97 = .ok (.invokevirtual 51, 3) := by decide +kernel
theorem dd_V_create_100 : decode bb_V_create 100 = .ok (.aload_n 0, 1) := by decide +kernel
theorem dd_V_create_101 : decode bb_V_create 101 = .ok (.getfield 18, 3) := by decide +kernel
theorem dd_V_create_104 : decode bb_V_create 104 = .ok (.iload_n 3, 1) := by decide +kernel
theorem dd_V_create_105 : decode bb_V_create 105 = .ok (.aaload, 1) := by decide +kernel
theorem dd_V_create_106 : decode bb_V_create 106 = .ok (.getfield 110, 3) := by decide +kernel
theorem dd_V_create_109 : decode bb_V_create 109 = .ok (.aload_n 0, 1) := by decide +kernel
theorem dd_V_create_110 : decode bb_V_create 110 = .ok (.getfield 34, 3) := by decide +kernel
theorem dd_V_create_113 : decode bb_V_create 113 = .ok (.invokevirtual 74, 3) := by decide +kernel
theorem dd_V_create_116 : decode bb_V_create 116 = .ok (.aload_n 0, 1) := by decide +kernel
theorem dd_V_create_117 : decode bb_V_create 117 = .ok (.iload_n 3, 1) := by decide +kernel
theorem dd_V_create_118 : decode bb_V_create 118 = .ok (.invokevirtual 113, 3) := by decide +kernel
theorem dd_V_create_121 : decode bb_V_create 121 = .ok (.aload_n 0, 1) := by decide +kernel
theorem dd_V_create_122 : decode bb_V_create 122 = .ok (.iload_n 1, 1) := by decide +kernel
theorem dd_V_create_123 : decode bb_V_create 123 = .ok (.iload_n 3, 1) := by decide +kernel
theorem dd_V_create_124 : decode bb_V_create 124 = .ok (.invokevirtual 117, 3) := by decide +kernel
theorem dd_V_create_127 : decode bb_V_create 127 = .ok (.aload_n 0, 1) := by decide +kernel
theorem dd_V_create_128 : decode bb_V_create 128 = .ok (.iload_n 1, 1) := by decide +kernel
theorem dd_V_create_129 : decode bb_V_create 129 = .ok (.invokevirtual 113, 3) := by decide +kernel
theorem dd_V_create_132 : decode bb_V_create 132 = .ok (.iload_n 3, 1) := by decide +kernel
theorem dd_V_create_133 : decode bb_V_create 133 = .ok (.ireturn, 1) := by decide +kernel
theorem dd_V_write_0 : decode bb_V_write 0 = .ok (.aload_n 0, 1) := by decide +kernel
theorem dd_V_write_1 : decode bb_V_write 1 = .ok (.invokevirtual 81, 3) := by decide +kernel
theorem dd_V_write_4 : decode bb_V_write 4 = .ok (.aload_n 0, 1) := by decide +kernel
theorem dd_V_write_5 : decode bb_V_write 5 = .ok (.iload_n 1, 1) := by decide +kernel
theorem dd_V_write_6 : decode bb_V_write 6 = .ok (.invokevirtual 120, 3) := by decide +kernel
theorem dd_V_write_9 : decode bb_V_write 9 = .ok (.ifCond .eq 38, 3) := by decide +kernel
theorem dd_V_write_12 : decode bb_V_write 12 = .ok (.iload_n 2, 1) := by decide +kernel
theorem dd_V_write_13 : decode bb_V_write 13 = .ok (.ifCond .lt 34, 3) := by decide +kernel
theorem dd_V_write_16 : decode bb_V_write 16 = .ok (.iload_n 2, 1) := by decide +kernel
theorem dd_V_write_17 : decode bb_V_write 17 = .ok (.sipush 1000, 3) := by decide +kernel
theorem dd_V_write_20 : decode bb_V_write 20 = .ok (.if_icmp .gt 27, 3) := by decide +kernel
theorem dd_V_write_23 : decode bb_V_write 23 = .ok (.iload_n 3, 1) := by decide +kernel
theorem dd_V_write_24 : decode bb_V_write 24 = .ok (.iconst 1, 1) := by decide +kernel
theorem dd_V_write_25 : decode bb_V_write 25 = .ok (.if_icmp .lt 22, 3) := by decide +kernel
theorem dd_V_write_28 : decode bb_V_write 28 = .ok (.iload_n 3, 1) := by decide +kernel
theorem dd_V_write_29 : decode bb_V_write 29 = .ok (.bipush 60, 2) := by decide +kernel
theorem dd_V_write_31 : decode bb_V_write 31 = .ok (.if_icmp .gt 16, 3) := by decide +kernel
theorem dd_V_write_34 : decode bb_V_write 34 = .ok (.iload_n 2, 1) := by decide +kernel
theorem dd_V_write_35 : decode bb_V_write 35 = .ok (.iload_n 3, 1) := by decide +kernel
theorem dd_V_write_36 : decode bb_V_write 36 = .ok (.iadd, 1) := by decide +kernel
theorem dd_V_write_37 : decode bb_V_write 37 = .ok (.sipush 1000, 3) := by decide +kernel
theorem dd_V_write_40 : decode bb_V_write 40 = .ok (.if_icmp .gt 7, 3) := by decide +kernel
theorem dd_V_write_43 : decode bb_V_write 43 = .ok (.iconst 1, 1) := by decide +kernel
theorem dd_V_write_44 : decode bb_V_write 44 = .ok (.goto 4, 3) := by decide +kernel
theorem dd_V_write_47 : decode bb_V_write 47 = .ok (.iconst 0, 1) := by decide +kernel
theorem dd_V_write_48 : decode bb_V_write 48 = .ok (.invokestatic 95, 3) := by decide +kernel
theorem dd_V_write_51 : decode bb_V_write 51 = .ok (.aload_n 0, 1) := by decide +kernel
theorem dd_V_write_52 : decode bb_V_write 52 = .ok (.getfield 18, 3) := by decide +kernel
theorem dd_V_write_55 : decode bb_V_write 55 = .ok (.iload_n 1, 1) := by decide +kernel
theorem dd_V_write_56 : decode bb_V_write 56 = .ok (.aaload, 1) := by decide +kernel
theorem dd_V_write_57 : decode bb_V_write 57 = .ok (.astore 5, 2) := by decide +kernel
theorem dd_V_write_59 : decode bb_V_write 59 = .ok (.aload 5, 2) := by decide +kernel
theorem dd_V_write_61 : decode bb_V_write 61 = .ok (.getfield 123, 3) := by decide +kernel
theorem dd_V_write_64 : decode bb_V_write 64 = .ok (.iload_n 2, 1) := by decide +kernel
theorem dd_V_write_65 : decode bb_V_write 65 = .ok (.iload_n 3, 1) := by decide +kernel
theorem dd_V_write_66 : decode bb_V_write 66 = .ok (.iadd, 1) := by decide +kernel
theorem dd_V_write_67 : decode bb_V_write 67 = .ok (.invokestatic 126, 3) := by decide +kernel
theorem dd_V_write_70 : decode bb_V_write 70 = .ok (.istore 6, 2) := by decide +kernel
theorem dd_V_write_72 : decode bb_V_write 72 = .ok (.aload 5, 2) := by decide +kernel
theorem dd_V_write_74 : decode bb_V_write 74 = .ok (.getfield 132, 3) := by decide +kernel
theorem dd_V_write_77 : decode bb_V_write 77 = .ok (.iconst 2, 1) := by decide +kernel
theorem dd_V_write_78 : decode bb_V_write 78 = .ok (.if_icmp .ne 27, 3) := by decide +kernel
theorem dd_V_write_81 : decode bb_V_write 81 = .ok (.iload 6, 2) := by decide +kernel
theorem dd_V_write_83 : decode bb_V_write 83 = .ok (.aload 5, 2) := by decide +kernel
theorem dd_V_write_85 : decode bb_V_write 85 = .ok (.invokevirtual 135, 3) := by decide +kernel
theorem dd_V_write_88 : decode bb_V_write 88 = .ok (.if_icmp .gt 17, 3) := by decide +kernel
theorem dd_V_write_91 : decode bb_V_write 91 = .ok (.aload 5, 2) := by decide +kernel
theorem dd_V_write_93 : decode bb_V_write 93 = .ok (.iload_n 2, 1) := by decide +kernel
theorem dd_V_write_94 : decode bb_V_write 94 = .ok (.iload_n 3, 1) := by decide +kernel
theorem dd_V_write_95 : decode bb_V_write 95 = .ok (.iload 4, 2) := by decide +kernel
theorem dd_V_write_97 : decode bb_V_write 97 = .ok (.iload 6, 2) := by decide +kernel
theorem dd_V_write_99 : decode bb_V_write 99 = .ok (.invokevirtual 138, 3) := by decide +kernel
theorem dd_V_write_102 : decode bb_V_write 102 = .ok (.goto 38, 3) := by decide +kernel
theorem dd_V_write_105 : decode bb_V_write 105 = .ok (.aload_n 0, 1) := by decide +kernel
theorem dd_V_write_106 : decode bb_V_write 106 = .ok (.aload 5, 2) := by decide +kernel
theorem dd_V_write_108 : decode bb_V_write 108 = .ok (.iload_n 2, 1) := by decide +kernel
theorem dd_V_write_109 : decode bb_V_write 109 = .ok (.iload_n 3, 1) := by decide +kernel
theorem dd_V_write_110 : decode bb_V_write 110 = .ok (.iload 6, 2) := by decide +kernel
theorem dd_V_write_112 : decode bb_V_write 112 = .ok (.invokevirtual 142, 3) := by decide +kernel
theorem dd_V_write_115 : decode bb_V_write 115 = .ok (.ifCond .ne 13, 3) := by decide +kernel
theorem dd_V_write_118 : decode bb_V_write 118 = .ok (.new 103, 3) := by decide +kernel
theorem dd_V_write_121 : decode bb_V_write 121 = .ok (.dup, 1) := by decide +kernel
theorem dd_V_write_122 : decode bb_V_write 122 = .ok (.ldc 146, 2) := by decide +kernel
theorem dd_V_write_124 : decode bb_V_write 124 = .ok (.invokespecial 107, 3) := by decide +kernel
theorem dd_V_write_127 : decode bb_V_write 127 = .ok (.athrow, 1) := by decide +kernel
theorem dd_V_write_128 : decode bb_V_write 128 = .ok (.aload_n 0, 1) := by decide +kernel
theorem dd_V_write_129 : decode bb_V_write 129 = .ok (.aload 5, 2) := by decide +kernel
theorem dd_V_write_131 : decode bb_V_write 131 = .ok (.iload_n 2, 1) := by decide +kernel
theorem dd_V_write_132 : decode bb_V_write 132 = .ok (.iload_n 3, 1) := by decide +kernel
theorem dd_V_write_133 : decode bb_V_write 133 = .ok (.iload 4, 2) := by decide +kernel
theorem dd_V_write_135 : decode bb_V_write 135 = .ok (.iload 6, 2) := by decide +kernel
theorem dd_V_write_137 : decode bb_V_write 137 = .ok (.invokevirtual 148, 3) := by decide +kernel
theorem dd_V_write_140 : decode bb_V_write 140 = .ok (.aload_n 0, 1) := by decide +kernel
theorem dd_V_write_141 : decode bb_V_write 141 = .ok (.iload_n 1, 1) := by decide +kernel
theorem dd_V_write_142 : decode bb_V_write 142 = .ok (.invokevirtual 113, 3) := by decide +kernel
theorem dd_V_write_145 : decode bb_V_write 145 = .ok (.iload 6, 2) := by decide +kernel
theorem dd_V_write_147 : decode bb_V_write 147 = .ok (.ireturn, 1) := by decide +kernel
theorem dd_V_cut_0 : decode bb_V_cut 0 = .ok (.aload_n 0, 1) := by decide +kernel
theorem dd_V_cut_1 : decode bb_V_cut 1 = .ok (.invokevirtual 81, 3) := by decide +kernel
theorem dd_V_cut_4 : decode bb_V_cut 4 = .ok (.aload_n 0, 1) := by decide +kernel
theorem dd_V_cut_5 : decode bb_V_cut 5 = .ok (.iload_n 1, 1) := by decide +kernel
theorem dd_V_cut_6 : decode bb_V_cut 6 = .ok (.invokevirtual 120, 3) := by decide +kernel
theorem dd_V_cut_9 : decode bb_V_cut 9 = .ok (.ifCond .eq 24, 3) := by decide +kernel
theorem dd_V_cut_12 : decode bb_V_cut 12 = .ok (.iload_n 2, 1) := by decide +kernel
theorem dd_V_cut_13 : decode bb_V_cut 13 = .ok (.ifCond .lt 20, 3) := by decide +kernel
theorem dd_V_cut_16 : decode bb_V_cut 16 = .ok (.iload_n 2, 1) := by decide +kernel
theorem dd_V_cut_17 : decode bb_V_cut 17 = .ok (.aload_n 0, 1) := by decide +kernel
theorem dd_V_cut_18 : decode bb_V_cut 18 = .ok (.getfield 18, 3) := by decide +kernel
theorem dd_V_cut_21 : decode bb_V_cut 21 = .ok (.iload_n 1, 1) := by decide +kernel
theorem dd_V_cut_22 : decode bb_V_cut 22 = .ok (.aaload, 1) := by decide +kernel
theorem dd_V_cut_23 : decode bb_V_cut 23 = .ok (.getfield 123, 3) := by decide +kernel
theorem dd_V_cut_26 : decode bb_V_cut 26 = .ok (.if_icmp .gt 7, 3) := by decide +kernel
theorem dd_V_cut_29 : decode bb_V_cut 29 = .ok (.iconst 1, 1) := by decide +kernel
theorem dd_V_cut_30 : decode bb_V_cut 30 = .ok (.goto 4, 3) := by decide +kernel
theorem dd_V_cut_33 : decode bb_V_cut 33 = .ok (.iconst 0, 1) := by decide +kernel
theorem dd_V_cut_34 : decode bb_V_cut 34 = .ok (.invokestatic 95, 3) := by decide +kernel
theorem dd_V_cut_37 : decode bb_V_cut 37 = .ok (.aload_n 0, 1) := by decide +kernel
theorem dd_V_cut_38 : decode bb_V_cut 38 = .ok (.getfield 18, 3) := by decide +kernel
theorem dd_V_cut_41 : decode bb_V_cut 41 = .ok (.iload_n 1, 1) := by decide +kernel
theorem dd_V_cut_42 : decode bb_V_cut 42 = .ok (.aaload, 1) := by decide +kernel
theorem dd_V_cut_43 : decode bb_V_cut 43 = .ok (.astore_n 3, 1) := by decide +kernel
theorem dd_V_cut_44 : decode bb_V_cut 44 = .ok (.aload_n 3, 1) := by decide +kernel
theorem dd_V_cut_45 : decode bb_V_cut 45 = .ok (.getfield 123, 3) := by decide +kernel
theorem dd_V_cut_48 : decode bb_V_cut 48 = .ok (.istore 4, 2) := by decide +kernel
theorem dd_V_cut_50 : decode bb_V_cut 50 = .ok (.aload_n 3, 1) := by decide +kernel
theorem dd_V_cut_51 : decode bb_V_cut 51 = .ok (.iload_n 2, 1) := by decide +kernel
theorem dd_V_cut_52 : decode bb_V_cut 52 = .ok (.putfield 123, 3) := by decide +kernel
theorem dd_V_cut_55 : decode bb_V_cut 55 = .ok (.aload_n 3, 1) := by decide +kernel
theorem dd_V_cut_56 : decode bb_V_cut 56 = .ok (.getfield 132, 3) := by decide +kernel
theorem dd_V_cut_59 : decode bb_V_cut 59 = .ok (.iconst 3, 1) := by decide +kernel
theorem dd_V_cut_60 : decode bb_V_cut 60 = .ok (.if_icmp .ne 41, 3) := by decide +kernel
theorem dd_V_cut_63 : decode bb_V_cut 63 = .ok (.aload_n 0, 1) := by decide +kernel
theorem dd_V_cut_64 : decode bb_V_cut 64 = .ok (.aload_n 3, 1) := by decide +kernel
theorem dd_V_cut_65 : decode bb_V_cut 65 = .ok (.getfield 152, 3) := by decide +kernel
theorem dd_V_cut_68 : decode bb_V_cut 68 = .ok (.iload_n 2, 1) := by decide +kernel
theorem dd_V_cut_69 : decode bb_V_cut 69 = .ok (.invokestatic 155, 3) := by decide +kernel
theorem dd_V_cut_72 : decode bb_V_cut 72 = .ok (.invokevirtual 159, 3) := by decide +kernel
theorem dd_V_cut_75 : decode bb_V_cut 75 = .ok (.pop, 1) := by decide +kernel
theorem dd_V_cut_76 : decode bb_V_cut 76 = .ok (.aload_n 0, 1) := by decide +kernel
theorem dd_V_cut_77 : decode bb_V_cut 77 = .ok (.getfield 12, 3) := by decide +kernel
theorem dd_V_cut_80 : decode bb_V_cut 80 = .ok (.aload_n 3, 1) := by decide +kernel
theorem dd_V_cut_81 : decode bb_V_cut 81 = .ok (.getfield 152, 3) := by decide +kernel
theorem dd_V_cut_84 : decode bb_V_cut 84 = .ok (.iload_n 2, 1) := by decide +kernel
theorem dd_V_cut_85 : decode bb_V_cut 85 = .ok (.iload_n 2, 1) := by decide +kernel
theorem dd_V_cut_86 : decode bb_V_cut 86 = .ok (.invokestatic 163, 3) := by decide +kernel
theorem dd_V_cut_89 : decode bb_V_cut 89 = .ok (.invokevirtual 166, 3) := by decide +kernel
theorem dd_V_cut_92 : decode bb_V_cut 92 = .ok (.iload_n 2, 1) := by decide +kernel
theorem dd_V_cut_93 : decode bb_V_cut 93 = .ok (.ifCond .ne 8, 3) := by decide +kernel
theorem dd_V_cut_96 : decode bb_V_cut 96 = .ok (.aload_n 3, 1) := by decide +kernel
theorem dd_V_cut_97 : decode bb_V_cut 97 = .ok (.iconst 2, 1) := by decide +kernel
theorem dd_V_cut_98 : decode bb_V_cut 98 = .ok (.putfield 132, 3) := by decide +kernel
theorem dd_V_cut_101 : decode bb_V_cut 101 = .ok (.aload_n 0, 1) := by decide +kernel
theorem dd_V_cut_102 : decode bb_V_cut 102 = .ok (.iload_n 1, 1) := by decide +kernel
theorem dd_V_cut_103 : decode bb_V_cut 103 = .ok (.invokevirtual 113, 3) := by decide +kernel
theorem dd_V_cut_106 : decode bb_V_cut 106 = .ok (.iload 4, 2) := by decide +kernel
theorem dd_V_cut_108 : decode bb_V_cut 108 = .ok (.ireturn, 1) := by decide +kernel
theorem dd_V_remove_0 : decode bb_V_remove 0 = .ok (.aload_n 0, 1) := by decide +kernel
theorem dd_V_remove_1 : decode bb_V_remove 1 = .ok (.invokevirtual 81, 3) := by decide +kernel
theorem dd_V_remove_4 : decode bb_V_remove 4 = .ok (.aload_n 0, 1) := by decide +kernel
theorem dd_V_remove_5 : decode bb_V_remove 5 = .ok (.iload_n 1, 1) := by decide +kernel
theorem dd_V_remove_6 : decode bb_V_remove 6 = .ok (.invokevirtual 170, 3) := by decide +kernel
theorem dd_V_remove_9 : decode bb_V_remove 9 = .ok (.ifCond .eq 31, 3) := by decide +kernel
theorem dd_V_remove_12 : decode bb_V_remove 12 = .ok (.iload_n 1, 1) := by decide +kernel
theorem dd_V_remove_13 : decode bb_V_remove 13 = .ok (.ifCond .eq 27, 3) := by decide +kernel
theorem dd_V_remove_16 : decode bb_V_remove 16 = .ok (.aload_n 0, 1) := by decide +kernel
theorem dd_V_remove_17 : decode bb_V_remove 17 = .ok (.iload_n 1, 1) := by decide +kernel
theorem dd_V_remove_18 : decode bb_V_remove 18 = .ok (.invokevirtual 84, 3) := by decide +kernel
theorem dd_V_remove_21 : decode bb_V_remove 21 = .ok (.ifCond .eq 15, 3) := by decide +kernel
theorem dd_V_remove_24 : decode bb_V_remove 24 = .ok (.aload_n 0, 1) := by decide +kernel
theorem dd_V_remove_25 : decode bb_V_remove 25 = .ok (.getfield 18, 3) := by decide +kernel
theorem dd_V_remove_28 : decode bb_V_remove 28 = .ok (.iload_n 1, 1) := by decide +kernel
theorem dd_V_remove_29 : decode bb_V_remove 29 = .ok (.aaload, 1) := by decide +kernel
theorem dd_V_remove_30 : decode bb_V_remove 30 = .ok (.getfield 123, 3) := by decide +kernel
theorem dd_V_remove_33 : decode bb_V_remove 33 = .ok (.ifCond .gt 7, 3) := by decide +kernel
theorem dd_V_remove_36 : decode bb_V_remove 36 = .ok (.iconst 1, 1) := by decide +kernel
theorem dd_V_remove_37 : decode bb_V_remove 37 = .ok (.goto 4, 3) := by decide +kernel
theorem dd_V_remove_40 : decode bb_V_remove 40 = .ok (.iconst 0, 1) := by decide +kernel
theorem dd_V_remove_41 : decode bb_V_remove 41 = .ok (.invokestatic 95, 3) := by decide +kernel
theorem dd_V_remove_44 : decode bb_V_remove 44 = .ok (.aload_n 0, 1) := by decide +kernel
theorem dd_V_remove_45 : decode bb_V_remove 45 = .ok (.getfield 18, 3) := by decide +kernel
theorem dd_V_remove_48 : decode bb_V_remove 48 = .ok (.iload_n 1, 1) := by decide +kernel
theorem dd_V_remove_49 : decode bb_V_remove 49 = .ok (.aaload, 1) := by decide +kernel
theorem dd_V_remove_50 : decode bb_V_remove 50 = .ok (.astore_n 2, 1) := by decide +kernel
theorem dd_V_remove_51 : decode bb_V_remove 51 = .ok (.aload_n 2, 1) := by decide +kernel
theorem dd_V_remove_52 : decode bb_V_remove 52 = .ok (.getfield 173, 3) := by decide +kernel
theorem dd_V_remove_55 : decode bb_V_remove 55 = .ok (.istore_n 3, 1) := by decide +kernel
theorem dd_V_remove_56 : decode bb_V_remove 56 = .ok (.aload_n 0, 1) := by decide +kernel
theorem dd_V_remove_57 : decode bb_V_remove 57 = .ok (.iload_n 3, 1) := by decide +kernel
theorem dd_V_remove_58 : decode bb_V_remove 58 = .ok (.iload_n 1, 1) := by decide +kernel
theorem dd_V_remove_59 : decode bb_V_remove 59 = .ok (.invokevirtual 176, 3) := by decide +kernel
theorem dd_V_remove_62 : decode bb_V_remove 62 = .ok (.aload_n 0, 1) := by decide +kernel
theorem dd_V_remove_63 : decode bb_V_remove 63 = .ok (.iload_n 3, 1) := by decide +kernel
theorem dd_V_remove_64 : decode bb_V_remove 64 = .ok (.invokevirtual 113, 3) := by decide +kernel
theorem dd_V_remove_67 : decode bb_V_remove 67 = .ok (.aload_n 0, 1) := by decide +kernel
theorem dd_V_remove_68 : decode bb_V_remove 68 = .ok (.aload_n 2, 1) := by decide +kernel
theorem dd_V_remove_69 : decode bb_V_remove 69 = .ok (.getfield 152, 3) := by decide +kernel
theorem dd_V_remove_72 : decode bb_V_remove 72 = .ok (.iconst 0, 1) := by decide +kernel
theorem dd_V_remove_73 : decode bb_V_remove 73 = .ok (.invokevirtual 159, 3) := by decide +kernel
theorem dd_V_remove_76 : decode bb_V_remove 76 = .ok (.istore 4, 2) := by decide +kernel
theorem dd_V_remove_78 : decode bb_V_remove 78 = .ok (.aload_n 2, 1) := by decide +kernel
theorem dd_V_remove_79 : decode bb_V_remove 79 = .ok (.iconst 0, 1) := by decide +kernel
theorem dd_V_remove_80 : decode bb_V_remove 80 = .ok (.iconst 0, 1) := by decide +kernel
theorem dd_V_remove_81 : decode bb_V_remove 81 = .ok (.invokevirtual 51, 3) := by decide +kernel
theorem dd_V_remove_84 : decode bb_V_remove 84 = .ok (.aload_n 0, 1) := by decide +kernel
theorem dd_V_remove_85 : decode bb_V_remove 85 = .ok (.iload_n 1, 1) := by decide +kernel
theorem dd_V_remove_86 : decode bb_V_remove 86 = .ok (.invokevirtual 113, 3) := by decide +kernel
theorem dd_V_remove_89 : decode bb_V_remove 89 = .ok (.iload 4, 2) := by decide +kernel
theorem dd_V_remove_91 : decode bb_V_remove 91 = .ok (.ireturn, 1) := by decide +kernel
theorem dd_V_move_0 : decode bb_V_move 0 = .ok (.aload_n 0, 1) := by decide +kernel
theorem dd_V_move_1 : decode bb_V_move 1 = .ok (.invokevirtual 81, 3) := by decide +kernel
theorem dd_V_move_4 : decode bb_V_move 4 = .ok (.aload_n 0, 1) := by decide +kernel
theorem dd_V_move_5 : decode bb_V_move 5 = .ok (.iload_n 1, 1) := by decide +kernel
theorem dd_V_move_6 : decode bb_V_move 6 = .ok (.invokevirtual 170, 3) := by decide +kernel
theorem dd_V_move_9 : decode bb_V_move 9 = .ok (.ifCond .eq 46, 3) := by decide +kernel
theorem dd_V_move_12 : decode bb_V_move 12 = .ok (.iload_n 1, 1) := by decide +kernel
theorem dd_V_move_13 : decode bb_V_move 13 = .ok (.ifCond .eq 42, 3) := by decide +kernel
theorem dd_V_move_16 : decode bb_V_move 16 = .ok (.aload_n 0, 1) := by decide +kernel
theorem dd_V_move_17 : decode bb_V_move 17 = .ok (.iload_n 2, 1) := by decide +kernel
theorem dd_V_move_18 : decode bb_V_move 18 = .ok (.invokevirtual 84, 3) := by decide +kernel
theorem dd_V_move_21 : decode bb_V_move 21 = .ok (.ifCond .eq 34, 3) := by decide +kernel
theorem dd_V_move_24 : decode bb_V_move 24 = .ok (.aload_n 0, 1) := by decide +kernel
theorem dd_V_move_25 : decode bb_V_move 25 = .ok (.iload_n 2, 1) := by decide +kernel
theorem dd_V_move_26 : decode bb_V_move 26 = .ok (.iload_n 1, 1) := by decide +kernel
theorem dd_V_move_27 : decode bb_V_move 27 = .ok (.invokevirtual 179, 3) := by decide +kernel
theorem dd_V_move_30 : decode bb_V_move 30 = .ok (.ifCond .ne 25, 3) := by decide +kernel
theorem dd_V_move_33 : decode bb_V_move 33 = .ok (.aload_n 0, 1) := by decide +kernel
theorem dd_V_move_34 : decode bb_V_move 34 = .ok (.iload_n 2, 1) := by decide +kernel
theorem dd_V_move_35 : decode bb_V_move 35 = .ok (.aload_n 0, 1) := by decide +kernel
theorem dd_V_move_36 : decode bb_V_move 36 = .ok (.getfield 18, 3) := by decide +kernel
theorem dd_V_move_39 : decode bb_V_move 39 = .ok (.iload_n 1, 1) := by decide +kernel
theorem dd_V_move_40 : decode bb_V_move 40 = .ok (.aaload, 1) := by decide +kernel
theorem dd_V_move_41 : decode bb_V_move 41 = .ok (.getfield 110, 3) := by decide +kernel
theorem dd_V_move_44 : decode bb_V_move 44 = .ok (.invokevirtual 91, 3) := by decide +kernel
theorem dd_V_move_47 : decode bb_V_move 47 = .ok (.iconst (-1), 1) := by decide +kernel
theorem dd_V_move_48 : decode bb_V_move 48 = .ok (.if_icmp .ne 7, 3) := by decide +kernel
theorem dd_V_move_51 : decode bb_V_move 51 = .ok (.iconst 1, 1) := by decide +kernel
theorem dd_V_move_52 : decode bb_V_move 52 = .ok (.goto 4, 3) := by decide +kernel
theorem dd_V_move_55 : decode bb_V_move 55 = .ok (.iconst 0, 1) := by decide +kernel
theorem dd_V_move_56 : decode bb_V_move 56 = .ok (.invokestatic 95, 3) := by decide +kernel
theorem dd_V_move_59 : decode bb_V_move 59 = .ok (.aload_n 0, 1) := by decide +kernel
theorem dd_V_move_60 : decode bb_V_move 60 = .ok (.getfield 18, 3) := by decide +kernel
theorem dd_V_move_63 : decode bb_V_move 63 = .ok (.iload_n 1, 1) := by decide +kernel
theorem dd_V_move_64 : decode bb_V_move 64 = .ok (.aaload, 1) := by decide +kernel
theorem dd_V_move_65 : decode bb_V_move 65 = .ok (.getfield 173, 3) := by decide +kernel
theorem dd_V_move_68 : decode bb_V_move 68 = .ok (.istore_n 3, 1) := by decide +kernel
theorem dd_V_move_69 : decode bb_V_move 69 = .ok (.aload_n 0, 1) := by decide +kernel
theorem dd_V_move_70 : decode bb_V_move 70 = .ok (.getfield 18, 3) := by decide +kernel
theorem dd_V_move_73 : decode bb_V_move 73 = .ok (.iload_n 1, 1) := by decide +kernel
theorem dd_V_move_74 : decode bb_V_move 74 = .ok (.aaload, 1) := by decide +kernel
theorem dd_V_move_75 : decode bb_V_move 75 = .ok (.iload_n 2, 1) := by decide +kernel
theorem dd_V_move_76 : decode bb_V_move 76 = .ok (.putfield 173, 3) := by decide +kernel
theorem dd_V_move_79 : decode bb_V_move 79 = .ok (.aload_n 0, 1) := by decide +kernel
theorem dd_V_move_80 : decode bb_V_move 80 = .ok (.iload_n 1, 1) := by decide +kernel
theorem dd_V_move_81 : decode bb_V_move 81 = .ok (.invokevirtual 113, 3) := by decide +kernel
theorem dd_V_move_84 : decode bb_V_move 84 = .ok (.aload_n 0, 1) := by decide +kernel
theorem dd_V_move_85 : decode bb_V_move 85 = .ok (.iload_n 3, 1) := by decide +kernel
theorem dd_V_move_86 : decode bb_V_move 86 = .ok (.iload_n 1, 1) := by decide +kernel
theorem dd_V_move_87 : decode bb_V_move 87 = .ok (.invokevirtual 176, 3) := by decide +kernel
theorem dd_V_move_90 : decode bb_V_move 90 = .ok (.aload_n 0, 1) := by decide +kernel
theorem dd_V_move_91 : decode bb_V_move 91 = .ok (.iload_n 3, 1) := by decide +kernel
theorem dd_V_move_92 : decode bb_V_move 92 = .ok (.invokevirtual 113, 3) := by decide +kernel
theorem dd_V_move_95 : decode bb_V_move 95 = .ok (.aload_n 0, 1) := by decide +kernel
theorem dd_V_move_96 : decode bb_V_move 96 = .ok (.iload_n 2, 1) := by decide +kernel
theorem dd_V_move_97 : decode bb_V_move 97 = .ok (.iload_n 1, 1) := by decide +kernel
theorem dd_V_move_98 : decode bb_V_move 98 = .ok (.invokevirtual 117, 3) := by decide +kernel
theorem dd_V_move_101 : decode bb_V_move 101 = .ok (.aload_n 0, 1) := by decide +kernel
theorem dd_V_move_102 : decode bb_V_move 102 = .ok (.iload_n 2, 1) := by decide +kernel
theorem dd_V_move_103 : decode bb_V_move 103 = .ok (.invokevirtual 113, 3) := by decide +kernel
theorem dd_V_move_106 : decode bb_V_move 106 = .ok (.return_, 1) := by decide +kernel
theorem dd_V_fail_0 : decode bb_V_fail 0 = .ok (.iload_n 1, 1) := by decide +kernel
theorem dd_V_fail_1 : decode bb_V_fail 1 = .ok (.ifCond .lt 9, 3) := by decide +kernel
theorem dd_V_fail_4 : decode bb_V_fail 4 = .ok (.iload_n 1, 1) := by decide +kernel
theorem dd_V_fail_5 : decode bb_V_fail 5 = .ok (.bipush 20, 2) := by decide +kernel
theorem dd_V_fail_7 : decode bb_V_fail 7 = .ok (.if_icmp .le 5, 3) := by decide +kernel
theorem dd_V_fail_10 : decode bb_V_fail 10 = .ok (.iconst 0, 1) := by decide +kernel
theorem dd_V_fail_11 : decode bb_V_fail 11 = .ok (.ireturn, 1) := by decide +kernel
theorem dd_V_fail_12 : decode bb_V_fail 12 = .ok (.aload_n 0, 1) := by decide +kernel
theorem dd_V_fail_13 : decode bb_V_fail 13 = .ok (.getfield 12, 3) := by decide +kernel
theorem dd_V_fail_16 : decode bb_V_fail 16 = .ok (.iload_n 1, 1) := by decide +kernel
theorem dd_V_fail_17 : decode bb_V_fail 17 = .ok (.putfield 183, 3) := by decide +kernel
theorem dd_V_fail_20 : decode bb_V_fail 20 = .ok (.iconst 1, 1) := by decide +kernel
theorem dd_V_fail_21 : decode bb_V_fail 21 = .ok (.ireturn, 1) := by decide +kernel
theorem dd_V_mount_0 : decode bb_V_mount 0 = .ok (.iconst 0, 1) := by decide +kernel
theorem dd_V_mount_1 : decode bb_V_mount 1 = .ok (.istore_n 1, 1) := by decide +kernel
theorem dd_V_mount_2 : decode bb_V_mount 2 = .ok (.iload_n 1, 1) := by decide +kernel
theorem dd_V_mount_3 : decode bb_V_mount 3 = .ok (.bipush 12, 2) := by decide +kernel
theorem dd_V_mount_5 : decode bb_V_mount 5 = .ok (.if_icmp .ge 34, 3) := by decide +kernel
theorem dd_V_mount_8 : decode bb_V_mount 8 = .ok (.aload_n 0, 1) := by decide +kernel
theorem dd_V_mount_9 : decode bb_V_mount 9 = .ok (.getfield 12, 3) := by decide +kernel
theorem dd_V_mount_12 : decode bb_V_mount 12 = .ok (.iload_n 1, 1) := by decide +kernel
theorem dd_V_mount_13 : decode bb_V_mount 13 = .ok (.aload_n 0, 1) := by decide +kernel
theorem dd_V_mount_14 : decode bb_V_mount 14 = .ok (.getfield 44, 3) := by decide +kernel
theorem dd_V_mount_17 : decode bb_V_mount 17 = .ok (.invokevirtual 186, 3) := by decide +kernel
theorem dd_V_mount_20 : decode bb_V_mount 20 = .ok (.aload_n 0, 1) := by decide +kernel
theorem dd_V_mount_21 : decode bb_V_mount 21 = .ok (.getfield 18, 3) := by decide +kernel
theorem dd_V_mount_24 : decode bb_V_mount 24 = .ok (.iload_n 1, 1) := by decide +kernel
theorem dd_V_mount_25 : decode bb_V_mount 25 = .ok (.aaload, 1) := by decide +kernel
theorem dd_V_mount_26 : decode bb_V_mount 26 = .ok (.aload_n 0, 1) := by decide +kernel
theorem dd_V_mount_27 : decode bb_V_mount 27 = .ok (.getfield 44, 3) := by decide +kernel
theorem dd_V_mount_30 : decode bb_V_mount 30 = .ok (.invokevirtual 190, 3) := by decide +kernel
theorem dd_V_mount_33 : decode bb_V_mount 33 = .ok (.iinc 1 1, 3) := by decide +kernel
theorem dd_V_mount_36 : decode bb_V_mount 36 = .ok (.goto (-34), 3) := by decide +kernel
theorem dd_V_mount_39 : decode bb_V_mount 39 = .ok (.aload_n 0, 1) := by decide +kernel
theorem dd_V_mount_40 : decode bb_V_mount 40 = .ok (.invokevirtual 193, 3) := by decide +kernel
theorem dd_V_mount_43 : decode bb_V_mount 43 = .ok (.istore_n 1, 1) := by decide +kernel
theorem dd_V_mount_44 : decode bb_V_mount 44 = .ok (.iload_n 1, 1) := by decide +kernel
theorem dd_V_mount_45 : decode bb_V_mount 45 = .ok (.aload_n 0, 1) := by decide +kernel
theorem dd_V_mount_46 : decode bb_V_mount 46 = .ok (.invokevirtual 196, 3) := by decide +kernel
theorem dd_V_mount_49 : decode bb_V_mount 49 = .ok (.iadd, 1) := by decide +kernel
theorem dd_V_mount_50 : decode bb_V_mount 50 = .ok (.istore_n 1, 1) := by decide +kernel
theorem dd_V_mount_51 : decode bb_V_mount 51 = .ok (.iload_n 1, 1) := by decide +kernel
theorem dd_V_mount_52 : decode bb_V_mount 52 = .ok (.aload_n 0, 1) := by decide +kernel
theorem dd_V_mount_53 : decode bb_V_mount 53 = .ok (.invokevirtual 199, 3) := by decide +kernel
theorem dd_V_mount_56 : decode bb_V_mount 56 = .ok (.iadd, 1) := by decide +kernel
theorem dd_V_mount_57 : decode bb_V_mount 57 = .ok (.istore_n 1, 1) := by decide +kernel
theorem dd_V_mount_58 : decode bb_V_mount 58 = .ok (.aload_n 0, 1) := by decide +kernel
theorem dd_V_mount_59 : decode bb_V_mount 59 = .ok (.invokevirtual 202, 3) := by decide +kernel
theorem dd_V_mount_62 : decode bb_V_mount 62 = .ok (.aload_n 0, 1) := by decide +kernel
theorem dd_V_mount_63 : decode bb_V_mount 63 = .ok (.iconst 1, 1) := by decide +kernel
theorem dd_V_mount_64 : decode bb_V_mount 64 = .ok (.putfield 66, 3) := by decide +kernel
theorem dd_V_mount_67 : decode bb_V_mount 67 = .ok (.iload_n 1, 1) := by decide +kernel
theorem dd_V_mount_68 : decode bb_V_mount 68 = .ok (.ireturn, 1) := by decide +kernel
theorem dd_V_on_0 : decode bb_V_on 0 = .ok (.aload_n 0, 1) := by decide +kernel
theorem dd_V_on_1 : decode bb_V_on 1 = .ok (.getfield 66, 3) := by decide +kernel
theorem dd_V_on_4 : decode bb_V_on 4 = .ok (.ireturn, 1) := by decide +kernel
theorem dd_V_find_0 : decode bb_V_find 0 = .ok (.aload_n 0, 1) := by decide +kernel
theorem dd_V_find_1 : decode bb_V_find 1 = .ok (.getfield 66, 3) := by decide +kernel
theorem dd_V_find_4 : decode bb_V_find 4 = .ok (.ifCond .eq 23, 3) := by decide +kernel
theorem dd_V_find_7 : decode bb_V_find 7 = .ok (.aload_n 0, 1) := by decide +kernel
theorem dd_V_find_8 : decode bb_V_find 8 = .ok (.iload_n 1, 1) := by decide +kernel
theorem dd_V_find_9 : decode bb_V_find 9 = .ok (.invokevirtual 84, 3) := by decide +kernel
theorem dd_V_find_12 : decode bb_V_find 12 = .ok (.ifCond .eq 15, 3) := by decide +kernel
theorem dd_V_find_15 : decode bb_V_find 15 = .ok (.aload_n 0, 1) := by decide +kernel
theorem dd_V_find_16 : decode bb_V_find 16 = .ok (.iload_n 1, 1) := by decide +kernel
theorem dd_V_find_17 : decode bb_V_find 17 = .ok (.aload_n 0, 1) := by decide +kernel
theorem dd_V_find_18 : decode bb_V_find 18 = .ok (.getfield 30, 3) := by decide +kernel
theorem dd_V_find_21 : decode bb_V_find 21 = .ok (.invokevirtual 91, 3) := by decide +kernel
theorem dd_V_find_24 : decode bb_V_find 24 = .ok (.goto 4, 3) := by decide +kernel
theorem dd_V_find_27 : decode bb_V_find 27 = .ok (.iconst (-1), 1) := by decide +kernel
theorem dd_V_find_28 : decode bb_V_find 28 = .ok (.istore_n 2, 1) := by decide +kernel
theorem dd_V_find_29 : decode bb_V_find 29 = .ok (.aload_n 0, 1) := by decide +kernel
theorem dd_V_find_30 : decode bb_V_find 30 = .ok (.getfield 30, 3) := by decide +kernel
theorem dd_V_find_33 : decode bb_V_find 33 = .ok (.invokevirtual 78, 3) := by decide +kernel
theorem dd_V_find_36 : decode bb_V_find 36 = .ok (.iload_n 2, 1) := by decide +kernel
theorem dd_V_find_37 : decode bb_V_find 37 = .ok (.ireturn, 1) := by decide +kernel
theorem dd_V_record_0 : decode bb_V_record 0 = .ok (.aload_n 0, 1) := by decide +kernel
theorem dd_V_record_1 : decode bb_V_record 1 = .ok (.getfield 66, 3) := by decide +kernel
theorem dd_V_record_4 : decode bb_V_record 4 = .ok (.ifCond .eq 11, 3) := by decide +kernel
theorem dd_V_record_7 : decode bb_V_record 7 = .ok (.aload_n 0, 1) := by decide +kernel
theorem dd_V_record_8 : decode bb_V_record 8 = .ok (.iload_n 1, 1) := by decide +kernel
theorem dd_V_record_9 : decode bb_V_record 9 = .ok (.invokevirtual 170, 3) := by decide +kernel
theorem dd_V_record_12 : decode bb_V_record 12 = .ok (.ifCond .ne 5, 3) := by decide +kernel
theorem dd_V_record_15 : decode bb_V_record 15 = .ok (.iconst (-1), 1) := by decide +kernel
theorem dd_V_record_16 : decode bb_V_record 16 = .ok (.ireturn, 1) := by decide +kernel
theorem dd_V_record_17 : decode bb_V_record 17 = .ok (.aload_n 0, 1) := by decide +kernel
theorem dd_V_record_18 : decode bb_V_record 18 = .ok (.getfield 18, 3) := by decide +kernel
theorem dd_V_record_21 : decode bb_V_record 21 = .ok (.iload_n 1, 1) := by decide +kernel
theorem dd_V_record_22 : decode bb_V_record 22 = .ok (.aaload, 1) := by decide +kernel
theorem dd_V_record_23 : decode bb_V_record 23 = .ok (.astore_n 3, 1) := by decide +kernel
theorem dd_V_record_24 : decode bb_V_record 24 = .ok (.iload_n 2, 1) := by decide +kernel
theorem dd_V_record_25 : decode bb_V_record 25 = .ok (.tableswitch 81 0 6 #[43, 48, 53, 58, 63, 68, 73], 43) := by decide +kernel
theorem dd_V_record_68 : decode bb_V_record 68 = .ok (.aload_n 3, 1) := by decide +kernel
theorem dd_V_record_69 : decode bb_V_record 69 = .ok (.getfield 205, 3) := by decide +kernel
theorem dd_V_record_72 : decode bb_V_record 72 = .ok (.ireturn, 1) := by decide +kernel
theorem dd_V_record_73 : decode bb_V_record 73 = .ok (.aload_n 3, 1) := by decide +kernel
theorem dd_V_record_74 : decode bb_V_record 74 = .ok (.getfield 173, 3) := by decide +kernel
theorem dd_V_record_77 : decode bb_V_record 77 = .ok (.ireturn, 1) := by decide +kernel
theorem dd_V_record_78 : decode bb_V_record 78 = .ok (.aload_n 3, 1) := by decide +kernel
theorem dd_V_record_79 : decode bb_V_record 79 = .ok (.getfield 208, 3) := by decide +kernel
theorem dd_V_record_82 : decode bb_V_record 82 = .ok (.ireturn, 1) := by decide +kernel
theorem dd_V_record_83 : decode bb_V_record 83 = .ok (.aload_n 3, 1) := by decide +kernel
theorem dd_V_record_84 : decode bb_V_record 84 = .ok (.invokevirtual 211, 3) := by decide +kernel
theorem dd_V_record_87 : decode bb_V_record 87 = .ok (.ireturn, 1) := by decide +kernel
theorem dd_V_record_88 : decode bb_V_record 88 = .ok (.aload_n 3, 1) := by decide +kernel
theorem dd_V_record_89 : decode bb_V_record 89 = .ok (.getfield 123, 3) := by decide +kernel
theorem dd_V_record_92 : decode bb_V_record 92 = .ok (.ireturn, 1) := by decide +kernel
theorem dd_V_record_93 : decode bb_V_record 93 = .ok (.aload_n 3, 1) := by decide +kernel
theorem dd_V_record_94 : decode bb_V_record 94 = .ok (.getfield 132, 3) := by decide +kernel
theorem dd_V_record_97 : decode bb_V_record 97 = .ok (.ireturn, 1) := by decide +kernel
theorem dd_V_record_98 : decode bb_V_record 98 = .ok (.aload_n 3, 1) := by decide +kernel
theorem dd_V_record_99 : decode bb_V_record 99 = .ok (.getfield 152, 3) := by decide +kernel
theorem dd_V_record_102 : decode bb_V_record 102 = .ok (.invokevirtual 214, 3) := by decide +kernel
theorem dd_V_record_105 : decode bb_V_record 105 = .ok (.ireturn, 1) := by decide +kernel
theorem dd_V_record_106 : decode bb_V_record 106 = .ok (.iconst (-1), 1) := by decide +kernel
theorem dd_V_record_107 : decode bb_V_record 107 = .ok (.ireturn, 1) := by decide +kernel
theorem dd_V_read_0 : decode bb_V_read 0 = .ok (.aload_n 0, 1) := by decide +kernel
theorem dd_V_read_1 : decode bb_V_read 1 = .ok (.getfield 66, 3) := by decide +kernel
theorem dd_V_read_4 : decode bb_V_read 4 = .ok (.ifCond .eq 28, 3) := by decide +kernel
theorem dd_V_read_7 : decode bb_V_read 7 = .ok (.aload_n 0, 1) := by decide +kernel
theorem dd_V_read_8 : decode bb_V_read 8 = .ok (.iload_n 1, 1) := by decide +kernel
theorem dd_V_read_9 : decode bb_V_read 9 = .ok (.invokevirtual 170, 3) := by decide +kernel
theorem dd_V_read_12 : decode bb_V_read 12 = .ok (.ifCond .eq 20, 3) := by decide +kernel
theorem dd_V_read_15 : decode bb_V_read 15 = .ok (.iload_n 2, 1) := by decide +kernel
theorem dd_V_read_16 : decode bb_V_read 16 = .ok (.ifCond .lt 16, 3) := by decide +kernel
theorem dd_V_read_19 : decode bb_V_read 19 = .ok (.iload_n 2, 1) := by decide +kernel
theorem dd_V_read_20 : decode bb_V_read 20 = .ok (.aload_n 0, 1) := by decide +kernel
theorem dd_V_read_21 : decode bb_V_read 21 = .ok (.getfield 18, 3) := by decide +kernel
theorem dd_V_read_24 : decode bb_V_read 24 = .ok (.iload_n 1, 1) := by decide +kernel
theorem dd_V_read_25 : decode bb_V_read 25 = .ok (.aaload, 1) := by decide +kernel
theorem dd_V_read_26 : decode bb_V_read 26 = .ok (.getfield 123, 3) := by decide +kernel
theorem dd_V_read_29 : decode bb_V_read 29 = .ok (.if_icmp .lt 5, 3) := by decide +kernel
theorem dd_V_read_32 : decode bb_V_read 32 = .ok (.iconst (-1), 1) := by decide +kernel
theorem dd_V_read_33 : decode bb_V_read 33 = .ok (.ireturn, 1) := by decide +kernel
theorem dd_V_read_34 : decode bb_V_read 34 = .ok (.aload_n 0, 1) := by decide +kernel
theorem dd_V_read_35 : decode bb_V_read 35 = .ok (.getfield 18, 3) := by decide +kernel
theorem dd_V_read_38 : decode bb_V_read 38 = .ok (.iload_n 1, 1) := by decide +kernel
theorem dd_V_read_39 : decode bb_V_read 39 = .ok (.aaload, 1) := by decide +kernel
theorem dd_V_read_40 : decode bb_V_read 40 = .ok (.astore_n 3, 1) := by decide +kernel
theorem dd_V_read_41 : decode bb_V_read 41 = .ok (.aload_n 3, 1) := by decide +kernel
theorem dd_V_read_42 : decode bb_V_read 42 = .ok (.getfield 132, 3) := by decide +kernel
theorem dd_V_read_45 : decode bb_V_read 45 = .ok (.iconst 3, 1) := by decide +kernel
theorem dd_V_read_46 : decode bb_V_read 46 = .ok (.if_icmp .ne 18, 3) := by decide +kernel
theorem dd_V_read_49 : decode bb_V_read 49 = .ok (.aload_n 0, 1) := by decide +kernel
theorem dd_V_read_50 : decode bb_V_read 50 = .ok (.getfield 12, 3) := by decide +kernel
theorem dd_V_read_53 : decode bb_V_read 53 = .ok (.aload_n 3, 1) := by decide +kernel
theorem dd_V_read_54 : decode bb_V_read 54 = .ok (.getfield 152, 3) := by decide +kernel
theorem dd_V_read_57 : decode bb_V_read 57 = .ok (.iload_n 2, 1) := by decide +kernel
theorem dd_V_read_58 : decode bb_V_read 58 = .ok (.invokevirtual 217, 3) := by decide +kernel
theorem dd_V_read_61 : decode bb_V_read 61 = .ok (.goto 9, 3) := by decide +kernel
theorem dd_V_read_64 : decode bb_V_read 64 = .ok (.aload_n 3, 1) := by decide +kernel
theorem dd_V_read_65 : decode bb_V_read 65 = .ok (.getfield 220, 3) := by decide +kernel
theorem dd_V_read_68 : decode bb_V_read 68 = .ok (.iload_n 2, 1) := by decide +kernel
theorem dd_V_read_69 : decode bb_V_read 69 = .ok (.iaload, 1) := by decide +kernel
theorem dd_V_read_70 : decode bb_V_read 70 = .ok (.ireturn, 1) := by decide +kernel
theorem dd_V_run_0 : decode bb_V_run 0 = .ok (.aload_n 0, 1) := by decide +kernel
theorem dd_V_run_1 : decode bb_V_run 1 = .ok (.getfield 66, 3) := by decide +kernel
theorem dd_V_run_4 : decode bb_V_run 4 = .ok (.ifCond .eq 11, 3) := by decide +kernel
theorem dd_V_run_7 : decode bb_V_run 7 = .ok (.aload_n 0, 1) := by decide +kernel
theorem dd_V_run_8 : decode bb_V_run 8 = .ok (.iload_n 1, 1) := by decide +kernel
theorem dd_V_run_9 : decode bb_V_run 9 = .ok (.invokevirtual 120, 3) := by decide +kernel
theorem dd_V_run_12 : decode bb_V_run 12 = .ok (.ifCond .ne 5, 3) := by decide +kernel
theorem dd_V_run_15 : decode bb_V_run 15 = .ok (.iconst (-1), 1) := by decide +kernel
theorem dd_V_run_16 : decode bb_V_run 16 = .ok (.ireturn, 1) := by decide +kernel
theorem dd_V_run_17 : decode bb_V_run 17 = .ok (.aload_n 0, 1) := by decide +kernel
theorem dd_V_run_18 : decode bb_V_run 18 = .ok (.getfield 18, 3) := by decide +kernel
theorem dd_V_run_21 : decode bb_V_run 21 = .ok (.iload_n 1, 1) := by decide +kernel
theorem dd_V_run_22 : decode bb_V_run 22 = .ok (.aaload, 1) := by decide +kernel
theorem dd_V_run_23 : decode bb_V_run 23 = .ok (.getfield 152, 3) := by decide +kernel
theorem dd_V_run_26 : decode bb_V_run 26 = .ok (.astore 4, 2) := by decide +kernel
theorem dd_V_run_28 : decode bb_V_run 28 = .ok (.aload 4, 2) := by decide +kernel
theorem dd_V_run_30 : decode bb_V_run 30 = .ok (.iload_n 2, 1) := by decide +kernel
theorem dd_V_run_31 : decode bb_V_run 31 = .ok (.invokevirtual 223, 3) := by decide +kernel
theorem dd_V_run_34 : decode bb_V_run 34 = .ok (.istore 5, 2) := by decide +kernel
theorem dd_V_run_36 : decode bb_V_run 36 = .ok (.iload 5, 2) := by decide +kernel
theorem dd_V_run_38 : decode bb_V_run 38 = .ok (.iconst (-1), 1) := by decide +kernel
theorem dd_V_run_39 : decode bb_V_run 39 = .ok (.if_icmp .ne 5, 3) := by decide +kernel
theorem dd_V_run_42 : decode bb_V_run 42 = .ok (.iconst (-1), 1) := by decide +kernel
theorem dd_V_run_43 : decode bb_V_run 43 = .ok (.ireturn, 1) := by decide +kernel
theorem dd_V_run_44 : decode bb_V_run 44 = .ok (.iload_n 3, 1) := by decide +kernel
theorem dd_V_run_45 : decode bb_V_run 45 = .ok (.lookupswitch 58 #[(0, 27), (1, 35)], 27) := by decide +kernel
theorem dd_V_run_72 : decode bb_V_run 72 = .ok (.aload 4, 2) := by decide +kernel
theorem dd_V_run_74 : decode bb_V_run 74 = .ok (.iload 5, 2) := by decide +kernel
theorem dd_V_run_76 : decode bb_V_run 76 = .ok (.invokevirtual 226, 3) := by decide +kernel
theorem dd_V_run_79 : decode bb_V_run 79 = .ok (.ireturn, 1) := by decide +kernel
theorem dd_V_run_80 : decode bb_V_run 80 = .ok (.aload 4, 2) := by decide +kernel
theorem dd_V_run_82 : decode bb_V_run 82 = .ok (.iload 5, 2) := by decide +kernel
theorem dd_V_run_84 : decode bb_V_run 84 = .ok (.invokevirtual 229, 3) := by decide +kernel
theorem dd_V_run_87 : decode bb_V_run 87 = .ok (.iconst (-1), 1) := by decide +kernel
theorem dd_V_run_88 : decode bb_V_run 88 = .ok (.if_icmp .ne 7, 3) := by decide +kernel
theorem dd_V_run_91 : decode bb_V_run 91 = .ok (.iconst (-1), 1) := by decide +kernel
theorem dd_V_run_92 : decode bb_V_run 92 = .ok (.goto 10, 3) := by decide +kernel
theorem dd_V_run_95 : decode bb_V_run 95 = .ok (.aload 4, 2) := by decide +kernel
theorem dd_V_run_97 : decode bb_V_run 97 = .ok (.iload 5, 2) := by decide +kernel
theorem dd_V_run_99 : decode bb_V_run 99 = .ok (.invokevirtual 229, 3) := by decide +kernel
theorem dd_V_run_102 : decode bb_V_run 102 = .ok (.ireturn, 1) := by decide +kernel
theorem dd_V_run_103 : decode bb_V_run 103 = .ok (.iconst (-1), 1) := by decide +kernel
theorem dd_V_run_104 : decode bb_V_run 104 = .ok (.ireturn, 1) := by decide +kernel
theorem dd_V_free_0 : decode bb_V_free 0 = .ok (.aload_n 0, 1) := by decide +kernel
theorem dd_V_free_1 : decode bb_V_free 1 = .ok (.getfield 66, 3) := by decide +kernel
theorem dd_V_free_4 : decode bb_V_free 4 = .ok (.ifCond .ne 5, 3) := by decide +kernel
theorem dd_V_free_7 : decode bb_V_free 7 = .ok (.iconst 0, 1) := by decide +kernel
theorem dd_V_free_8 : decode bb_V_free 8 = .ok (.ireturn, 1) := by decide +kernel
theorem dd_V_free_9 : decode bb_V_free 9 = .ok (.iconst 0, 1) := by decide +kernel
theorem dd_V_free_10 : decode bb_V_free 10 = .ok (.istore_n 1, 1) := by decide +kernel
theorem dd_V_free_11 : decode bb_V_free 11 = .ok (.bipush 48, 2) := by decide +kernel
theorem dd_V_free_13 : decode bb_V_free 13 = .ok (.istore_n 2, 1) := by decide +kernel
theorem dd_V_free_14 : decode bb_V_free 14 = .ok (.iload_n 2, 1) := by decide +kernel
theorem dd_V_free_15 : decode bb_V_free 15 = .ok (.sipush 128, 3) := by decide +kernel
theorem dd_V_free_18 : decode bb_V_free 18 = .ok (.if_icmp .ge 21, 3) := by decide +kernel
theorem dd_V_free_21 : decode bb_V_free 21 = .ok (.aload_n 0, 1) := by decide +kernel
theorem dd_V_free_22 : decode bb_V_free 22 = .ok (.getfield 23, 3) := by decide +kernel
theorem dd_V_free_25 : decode bb_V_free 25 = .ok (.iload_n 2, 1) := by decide +kernel
theorem dd_V_free_26 : decode bb_V_free 26 = .ok (.baload, 1) := by decide +kernel
theorem dd_V_free_27 : decode bb_V_free 27 = .ok (.ifCond .ne 6, 3) := by decide +kernel
theorem dd_V_free_30 : decode bb_V_free 30 = .ok (.iinc 1 1, 3) := by decide +kernel
theorem dd_V_free_33 : decode bb_V_free 33 = .ok (.iinc 2 1, 3) := by decide +kernel
theorem dd_V_free_36 : decode bb_V_free 36 = .ok (.goto (-22), 3) := by decide +kernel
theorem dd_V_free_39 : decode bb_V_free 39 = .ok (.iload_n 1, 1) := by decide +kernel
theorem dd_V_free_40 : decode bb_V_free 40 = .ok (.ireturn, 1) := by decide +kernel
theorem dd_V_at_0 : decode bb_V_at 0 = .ok (.iload_n 1, 1) := by decide +kernel
theorem dd_V_at_1 : decode bb_V_at 1 = .ok (.ifCond .lt 27, 3) := by decide +kernel
theorem dd_V_at_4 : decode bb_V_at 4 = .ok (.iload_n 1, 1) := by decide +kernel
theorem dd_V_at_5 : decode bb_V_at 5 = .ok (.aload_n 0, 1) := by decide +kernel
theorem dd_V_at_6 : decode bb_V_at 6 = .ok (.getfield 12, 3) := by decide +kernel
theorem dd_V_at_9 : decode bb_V_at 9 = .ok (.getfield 232, 3) := by decide +kernel
theorem dd_V_at_12 : decode bb_V_at 12 = .ok (.arraylength, 1) := by decide +kernel
theorem dd_V_at_13 : decode bb_V_at 13 = .ok (.if_icmp .ge 15, 3) := by decide +kernel
theorem dd_V_at_16 : decode bb_V_at 16 = .ok (.aload_n 0, 1) := by decide +kernel
theorem dd_V_at_17 : decode bb_V_at 17 = .ok (.getfield 12, 3) := by decide +kernel
theorem dd_V_at_20 : decode bb_V_at 20 = .ok (.getfield 232, 3) := by decide +kernel
theorem dd_V_at_23 : decode bb_V_at 23 = .ok (.iload_n 1, 1) := by decide +kernel
theorem dd_V_at_24 : decode bb_V_at 24 = .ok (.iaload, 1) := by decide +kernel
theorem dd_V_at_25 : decode bb_V_at 25 = .ok (.goto 4, 3) := by decide +kernel
theorem dd_V_at_28 : decode bb_V_at 28 = .ok (.iconst (-1), 1) := by decide +kernel
theorem dd_V_at_29 : decode bb_V_at 29 = .ok (.ireturn, 1) := by decide +kernel
theorem dd_V_requireRunning_0 : decode bb_V_requireRunning 0 = .ok (.aload_n 0, 1) := by decide +kernel
theorem dd_V_requireRunning_1 : decode bb_V_requireRunning 1 = .ok (.getfield 66, 3) := by decide +kernel
theorem dd_V_requireRunning_4 : decode bb_V_requireRunning 4 = .ok (.ifCond .ne 13, 3) := by decide +kernel
theorem dd_V_requireRunning_7 : decode bb_V_requireRunning 7 = .ok (.new 235, 3) := by decide +kernel
theorem dd_V_requireRunning_10 : decode bb_V_requireRunning 10 = .ok (.dup, 1) := by decide +kernel
theorem dd_V_requireRunning_11 : decode bb_V_requireRunning 11 = .ok (.ldc 237, 2) := by decide +kernel
theorem dd_V_requireRunning_13 : decode bb_V_requireRunning 13 = .ok (.invokespecial 239, 3) := by decide +kernel
theorem dd_V_requireRunning_16 : decode bb_V_requireRunning 16 = .ok (.athrow, 1) := by decide +kernel
theorem dd_V_requireRunning_17 : decode bb_V_requireRunning 17 = .ok (.return_, 1) := by decide +kernel
theorem dd_V_require_0 : decode bb_V_require 0 = .ok (.iload_n 0, 1) := by decide +kernel
theorem dd_V_require_1 : decode bb_V_require 1 = .ok (.ifCond .ne 13, 3) := by decide +kernel
theorem dd_V_require_4 : decode bb_V_require 4 = .ok (.new 240, 3) := by decide +kernel
theorem dd_V_require_7 : decode bb_V_require 7 = .ok (.dup, 1) := by decide +kernel
theorem dd_V_require_8 : decode bb_V_require 8 = .ok (.ldc 242, 2) := by decide +kernel
theorem dd_V_require_10 : decode bb_V_require 10 = .ok (.invokespecial 244, 3) := by decide +kernel
theorem dd_V_require_13 : decode bb_V_require 13 = .ok (.athrow, 1) := by decide +kernel
theorem dd_V_require_14 : decode bb_V_require 14 = .ok (.return_, 1) := by decide +kernel
theorem dd_V_isUsed_0 : decode bb_V_isUsed 0 = .ok (.iload_n 1, 1) := by decide +kernel
theorem dd_V_isUsed_1 : decode bb_V_isUsed 1 = .ok (.ifCond .lt 25, 3) := by decide +kernel
theorem dd_V_isUsed_4 : decode bb_V_isUsed 4 = .ok (.iload_n 1, 1) := by decide +kernel
theorem dd_V_isUsed_5 : decode bb_V_isUsed 5 = .ok (.bipush 12, 2) := by decide +kernel
theorem dd_V_isUsed_7 : decode bb_V_isUsed 7 = .ok (.if_icmp .ge 19, 3) := by decide +kernel
theorem dd_V_isUsed_10 : decode bb_V_isUsed 10 = .ok (.aload_n 0, 1) := by decide +kernel
theorem dd_V_isUsed_11 : decode bb_V_isUsed 11 = .ok (.getfield 18, 3) := by decide +kernel
theorem dd_V_isUsed_14 : decode bb_V_isUsed 14 = .ok (.iload_n 1, 1) := by decide +kernel
theorem dd_V_isUsed_15 : decode bb_V_isUsed 15 = .ok (.aaload, 1) := by decide +kernel
theorem dd_V_isUsed_16 : decode bb_V_isUsed 16 = .ok (.getfield 205, 3) := by decide +kernel
theorem dd_V_isUsed_19 : decode bb_V_isUsed 19 = .ok (.ifCond .eq 7, 3) := by decide +kernel
theorem dd_V_isUsed_22 : decode bb_V_isUsed 22 = .ok (.iconst 1, 1) := by decide +kernel
theorem dd_V_isUsed_23 : decode bb_V_isUsed 23 = .ok (.goto 4, 3) := by decide +kernel
theorem dd_V_isUsed_26 : decode bb_V_isUsed 26 = .ok (.iconst 0, 1) := by decide +kernel
theorem dd_V_isUsed_27 : decode bb_V_isUsed 27 = .ok (.ireturn, 1) := by decide +kernel
theorem dd_V_isFile_0 : decode bb_V_isFile 0 = .ok (.aload_n 0, 1) := by decide +kernel
theorem dd_V_isFile_1 : decode bb_V_isFile 1 = .ok (.iload_n 1, 1) := by decide +kernel
theorem dd_V_isFile_2 : decode bb_V_isFile 2 = .ok (.invokevirtual 170, 3) := by decide +kernel
theorem dd_V_isFile_5 : decode bb_V_isFile 5 = .ok (.ifCond .eq 20, 3) := by decide +kernel
theorem dd_V_isFile_8 : decode bb_V_isFile 8 = .ok (.aload_n 0, 1) := by decide +kernel
theorem dd_V_isFile_9 : decode bb_V_isFile 9 = .ok (.getfield 18, 3) := by decide +kernel
theorem dd_V_isFile_12 : decode bb_V_isFile 12 = .ok (.iload_n 1, 1) := by decide +kernel
theorem dd_V_isFile_13 : decode bb_V_isFile 13 = .ok (.aaload, 1) := by decide +kernel
theorem dd_V_isFile_14 : decode bb_V_isFile 14 = .ok (.getfield 205, 3) := by decide +kernel
theorem dd_V_isFile_17 : decode bb_V_isFile 17 = .ok (.iconst 1, 1) := by decide +kernel
theorem dd_V_isFile_18 : decode bb_V_isFile 18 = .ok (.if_icmp .ne 7, 3) := by decide +kernel
theorem dd_V_isFile_21 : decode bb_V_isFile 21 = .ok (.iconst 1, 1) := by decide +kernel
theorem dd_V_isFile_22 : decode bb_V_isFile 22 = .ok (.goto 4, 3) := by decide +kernel
theorem dd_V_isFile_25 : decode bb_V_isFile 25 = .ok (.iconst 0, 1) := by decide +kernel
theorem dd_V_isFile_26 : decode bb_V_isFile 26 = .ok (.ireturn, 1) := by decide +kernel
theorem dd_V_isDirectory_0 : decode bb_V_isDirectory 0 = .ok (.aload_n 0, 1) := by decide +kernel
theorem dd_V_isDirectory_1 : decode bb_V_isDirectory 1 = .ok (.iload_n 1, 1) := by decide +kernel
theorem dd_V_isDirectory_2 : decode bb_V_isDirectory 2 = .ok (.invokevirtual 170, 3) := by decide +kernel
theorem dd_V_isDirectory_5 : decode bb_V_isDirectory 5 = .ok (.ifCond .eq 20, 3) := by decide +kernel
theorem dd_V_isDirectory_8 : decode bb_V_isDirectory 8 = .ok (.aload_n 0, 1) := by decide +kernel
theorem dd_V_isDirectory_9 : decode bb_V_isDirectory 9 = .ok (.getfield 18, 3) := by decide +kernel
theorem dd_V_isDirectory_12 : decode bb_V_isDirectory 12 = .ok (.iload_n 1, 1) := by decide +kernel
theorem dd_V_isDirectory_13 : decode bb_V_isDirectory 13 = .ok (.aaload, 1) := by decide +kernel
theorem dd_V_isDirectory_14 : decode bb_V_isDirectory 14 = .ok (.getfield 205, 3) := by decide +kernel
theorem dd_V_isDirectory_17 : decode bb_V_isDirectory 17 = .ok (.iconst 2, 1) := by decide +kernel
theorem dd_V_isDirectory_18 : decode bb_V_isDirectory 18 = .ok (.if_icmp .ne 7, 3) := by decide +kernel
theorem dd_V_isDirectory_21 : decode bb_V_isDirectory 21 = .ok (.iconst 1, 1) := by decide +kernel
theorem dd_V_isDirectory_22 : decode bb_V_isDirectory 22 = .ok (.goto 4, 3) := by decide +kernel
theorem dd_V_isDirectory_25 : decode bb_V_isDirectory 25 = .ok (.iconst 0, 1) := by decide +kernel
theorem dd_V_isDirectory_26 : decode bb_V_isDirectory 26 = .ok (.ireturn, 1) := by decide +kernel
theorem dd_V_lowestFreeRecord_0 : decode bb_V_lowestFreeRecord 0 = .ok (.iconst 0, 1) := by decide +kernel
theorem dd_V_lowestFreeRecord_1 : decode bb_V_lowestFreeRecord 1 = .ok (.istore_n 1, 1) := by decide +kernel
theorem dd_V_lowestFreeRecord_2 : decode bb_V_lowestFreeRecord 2 = .ok (.iload_n 1, 1) := by decide +kernel
theorem dd_V_lowestFreeRecord_3 : decode bb_V_lowestFreeRecord 3 = .ok (.bipush 12, 2) := by decide +kernel
theorem dd_V_lowestFreeRecord_5 : decode bb_V_lowestFreeRecord 5 = .ok (.if_icmp .ge 19, 3) := by decide +kernel
theorem dd_V_lowestFreeRecord_8 : decode bb_V_lowestFreeRecord 8 = .ok (.aload_n 0, 1) := by decide +kernel
theorem dd_V_lowestFreeRecord_9 : decode bb_V_lowestFreeRecord 9 = .ok (.iload_n 1, 1) := by decide +kernel
theorem dd_V_lowestFreeRecord_10 : decode bb_V_lowestFreeRecord 10 = .ok (.invokevirtual 170, 3) := by decide +kernel
theorem dd_V_lowestFreeRecord_13 : decode bb_V_lowestFreeRecord 13 = .ok (.ifCond .ne 5, 3) := by decide +kernel
theorem dd_V_lowestFreeRecord_16 : decode bb_V_lowestFreeRecord 16 = .ok (.iload_n 1, 1) := by decide +kernel
theorem dd_V_lowestFreeRecord_17 : decode bb_V_lowestFreeRecord 17 = .ok (.ireturn, 1) := by decide +kernel
theorem dd_V_lowestFreeRecord_18 : decode bb_V_lowestFreeRecord 18 = .ok (.iinc 1 1, 3) := by decide +kernel
theorem dd_V_lowestFreeRecord_21 : decode bb_V_lowestFreeRecord 21 = .ok (.goto (-19), 3) := by decide +kernel
theorem dd_V_lowestFreeRecord_24 : decode bb_V_lowestFreeRecord 24 = .ok (.iconst (-1), 1) := by decide +kernel
theorem dd_V_lowestFreeRecord_25 : decode bb_V_lowestFreeRecord 25 = .ok (.ireturn, 1) := by decide +kernel
theorem dd_V_lowestFreeCluster_0 : decode bb_V_lowestFreeCluster 0 = .ok (.iload_n 1, 1) := by decide +kernel
theorem dd_V_lowestFreeCluster_1 : decode bb_V_lowestFreeCluster 1 = .ok (.istore_n 2, 1) := by decide +kernel
theorem dd_V_lowestFreeCluster_2 : decode bb_V_lowestFreeCluster 2 = .ok (.iload_n 2, 1) := by decide +kernel
theorem dd_V_lowestFreeCluster_3 : decode bb_V_lowestFreeCluster 3 = .ok (.sipush 128, 3) := by decide +kernel
theorem dd_V_lowestFreeCluster_6 : decode bb_V_lowestFreeCluster 6 = .ok (.if_icmp .ge 20, 3) := by decide +kernel
theorem dd_V_lowestFreeCluster_9 : decode bb_V_lowestFreeCluster 9 = .ok (.aload_n 0, 1) := by decide +kernel
theorem dd_V_lowestFreeCluster_10 : decode bb_V_lowestFreeCluster 10 = .ok (.getfield 23, 3) := by decide +kernel
theorem dd_V_lowestFreeCluster_13 : decode bb_V_lowestFreeCluster 13 = .ok (.iload_n 2, 1) := by decide +kernel
theorem dd_V_lowestFreeCluster_14 : decode bb_V_lowestFreeCluster 14 = .ok (.baload, 1) := by decide +kernel
theorem dd_V_lowestFreeCluster_15 : decode bb_V_lowestFreeCluster 15 = .ok (.ifCond .ne 5, 3) := by decide +kernel
theorem dd_V_lowestFreeCluster_18 : decode bb_V_lowestFreeCluster 18 = .ok (.iload_n 2, 1) := by decide +kernel
theorem dd_V_lowestFreeCluster_19 : decode bb_V_lowestFreeCluster 19 = .ok (.ireturn, 1) := by decide +kernel
theorem dd_V_lowestFreeCluster_20 : decode bb_V_lowestFreeCluster 20 = .ok (.iinc 2 1, 3) := by decide +kernel
theorem dd_V_lowestFreeCluster_23 : decode bb_V_lowestFreeCluster 23 = .ok (.goto (-21), 3) := by decide +kernel
theorem dd_V_lowestFreeCluster_26 : decode bb_V_lowestFreeCluster 26 = .ok (.iconst (-1), 1) := by decide +kernel
theorem dd_V_lowestFreeCluster_27 : decode bb_V_lowestFreeCluster 27 = .ok (.ireturn, 1) := by decide +kernel
