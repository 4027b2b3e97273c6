theorem dd_M_mendLists_0 : decode bb_M_mendLists 0 = .ok (.iconst 0, 1) := by decide +kernel
theorem dd_M_mendLists_1 : decode bb_M_mendLists 1 = .ok (.istore_n 1, 1) := by decide +kernel
theorem dd_M_mendLists_2 : decode bb_M_mendLists 2 = .ok (.iload_n 1, 1) := by decide +kernel
theorem dd_M_mendLists_3 : decode bb_M_mendLists 3 = .ok (.bipush 12, 2) := by decide +kernel
theorem dd_M_mendLists_5 : decode bb_M_mendLists 5 = .ok (.if_icmp .ge 166, 3) := by decide +kernel
theorem dd_M_mendLists_8 : decode bb_M_mendLists 8 = .ok (.aload_n 0, 1) := by decide +kernel
theorem dd_M_mendLists_9 : decode bb_M_mendLists 9 = .ok (.getfield 13, 3) := by decide +kernel
theorem dd_M_mendLists_12 : decode bb_M_mendLists 12 = .ok (.iload_n 1, 1) := by decide +kernel
theorem dd_M_mendLists_13 : decode bb_M_mendLists 13 = .ok (.baload, 1) := by decide +kernel
theorem dd_M_mendLists_14 : decode bb_M_mendLists 14 = .ok (.ifCond .eq 151, 3) := by decide +kernel
theorem dd_M_mendLists_17 : decode bb_M_mendLists 17 = .ok (.aload_n 0, 1) := by decide +kernel
theorem dd_M_mendLists_18 : decode bb_M_mendLists 18 = .ok (.iload_n 1, 1) := by decide +kernel
theorem dd_M_mendLists_19 : decode bb_M_mendLists 19 = .ok (.iconst 0, 1) := by decide +kernel
theorem dd_M_mendLists_20 : decode bb_M_mendLists 20 = .ok (.invokevirtual 65, 3) := by decide +kernel
theorem dd_M_mendLists_23 : decode bb_M_mendLists 23 = .ok (.iconst 2, 1) := by decide +kernel
theorem dd_M_mendLists_24 : decode bb_M_mendLists 24 = .ok (.if_icmp .eq 6, 3) := by decide +kernel
theorem dd_M_mendLists_27 : decode bb_M_mendLists 27 = .ok (.goto 138, 3) := by decide +kernel
theorem dd_M_mendLists_30 : decode bb_M_mendLists 30 = .ok (.aload_n 0, 1) := by decide +kernel
theorem dd_M_mendLists_31 : decode bb_M_mendLists 31 = .ok (.iconst 0, 1) := by decide +kernel
theorem dd_M_mendLists_32 : decode bb_M_mendLists 32 = .ok (.putfield 88, 3) := by decide +kernel
theorem dd_M_mendLists_35 : decode bb_M_mendLists 35 = .ok (.iconst 1, 1) := by decide +kernel
theorem dd_M_mendLists_36 : decode bb_M_mendLists 36 = .ok (.istore_n 2, 1) := by decide +kernel
theorem dd_M_mendLists_37 : decode bb_M_mendLists 37 = .ok (.iload_n 2, 1) := by decide +kernel
theorem dd_M_mendLists_38 : decode bb_M_mendLists 38 = .ok (.bipush 12, 2) := by decide +kernel
theorem dd_M_mendLists_40 : decode bb_M_mendLists 40 = .ok (.if_icmp .ge 33, 3) := by decide +kernel
theorem dd_M_mendLists_43 : decode bb_M_mendLists 43 = .ok (.aload_n 0, 1) := by decide +kernel
theorem dd_M_mendLists_44 : decode bb_M_mendLists 44 = .ok (.getfield 13, 3) := by decide +kernel
theorem dd_M_mendLists_47 : decode bb_M_mendLists 47 = .ok (.iload_n 2, 1) := by decide +kernel
theorem dd_M_mendLists_48 : decode bb_M_mendLists 48 = .ok (.baload, 1) := by decide +kernel
theorem dd_M_mendLists_49 : decode bb_M_mendLists 49 = .ok (.ifCond .eq 18, 3) := by decide +kernel
theorem dd_M_mendLists_52 : decode bb_M_mendLists 52 = .ok (.aload_n 0, 1) := by decide +kernel
theorem dd_M_mendLists_53 : decode bb_M_mendLists 53 = .ok (.iload_n 2, 1) := by decide +kernel
theorem dd_M_mendLists_54 : decode bb_M_mendLists 54 = .ok (.iconst 1, 1) := by decide +kernel
theorem dd_M_mendLists_55 : decode bb_M_mendLists 55 = .ok (.invokevirtual 65, 3) := by decide +kernel
theorem dd_M_mendLists_58 : decode bb_M_mendLists 58 = .ok (.iload_n 1, 1) := by decide +kernel
theorem dd_M_mendLists_59 : decode bb_M_mendLists 59 = .ok (.if_icmp .ne 8, 3) := by decide +kernel
theorem dd_M_mendLists_62 : decode bb_M_mendLists 62 = .ok (.aload_n 0, 1) := by decide +kernel
theorem dd_M_mendLists_63 : decode bb_M_mendLists 63 = .ok (.iload_n 2, 1) := by decide +kernel
theorem dd_M_mendLists_64 : decode bb_M_mendLists 64 = .ok (.invokevirtual 135, 3) := by decide +kernel
theorem dd_M_mendLists_67 : decode bb_M_mendLists 67 = .ok (.iinc 2 1, 3) := by decide +kernel
theorem dd_M_mendLists_70 : decode bb_M_mendLists 70 = .ok (.goto (-33), 3) := by decide +kernel
theorem dd_M_mendLists_73 : decode bb_M_mendLists 73 = .ok (.aload_n 0, 1) := by decide +kernel
theorem dd_M_mendLists_74 : decode bb_M_mendLists 74 = .ok (.getfield 88, 3) := by decide +kernel
theorem dd_M_mendLists_77 : decode bb_M_mendLists 77 = .ok (.aload_n 0, 1) := by decide +kernel
theorem dd_M_mendLists_78 : decode bb_M_mendLists 78 = .ok (.iload_n 1, 1) := by decide +kernel
theorem dd_M_mendLists_79 : decode bb_M_mendLists 79 = .ok (.invokevirtual 108, 3) := by decide +kernel
theorem dd_M_mendLists_82 : decode bb_M_mendLists 82 = .ok (.if_icmp .ne 7, 3) := by decide +kernel
theorem dd_M_mendLists_85 : decode bb_M_mendLists 85 = .ok (.iconst 1, 1) := by decide +kernel
theorem dd_M_mendLists_86 : decode bb_M_mendLists 86 = .ok (.goto 4, 3) := by decide +kernel
theorem dd_M_mendLists_89 : decode bb_M_mendLists 89 = .ok (.iconst 0, 1) := by decide +kernel
theorem dd_M_mendLists_90 : decode bb_M_mendLists 90 = .ok (.istore_n 2, 1) := by decide +kernel
theorem dd_M_mendLists_91 : decode bb_M_mendLists 91 = .ok (.iconst 0, 1) := by decide +kernel
theorem dd_M_mendLists_92 : decode bb_M_mendLists 92 = .ok (.istore_n 3, 1) := by decide +kernel
theorem dd_M_mendLists_93 : decode bb_M_mendLists 93 = .ok (.iload_n 3, 1) := by decide +kernel
theorem dd_M_mendLists_94 : decode bb_M_mendLists 94 = .ok (.aload_n 0, 1) := by decide +kernel
theorem dd_M_mendLists_95 : decode bb_M_mendLists 95 = .ok (.getfield 88, 3) := by decide +kernel
theorem dd_M_mendLists_98 : decode bb_M_mendLists 98 = .ok (.if_icmp .ge 34, 3) := by decide +kernel
theorem dd_M_mendLists_101 : decode bb_M_mendLists 101 = .ok (.iload_n 2, 1) := by decide +kernel
theorem dd_M_mendLists_102 : decode bb_M_mendLists 102 = .ok (.ifCond .eq 30, 3) := by decide +kernel
theorem dd_M_mendLists_105 : decode bb_M_mendLists 105 = .ok (.aload_n 0, 1) := by decide +kernel
theorem dd_M_mendLists_106 : decode bb_M_mendLists 106 = .ok (.iload_n 1, 1) := by decide +kernel
theorem dd_M_mendLists_107 : decode bb_M_mendLists 107 = .ok (.iload_n 3, 1) := by decide +kernel
theorem dd_M_mendLists_108 : decode bb_M_mendLists 108 = .ok (.invokevirtual 111, 3) := by decide +kernel
theorem dd_M_mendLists_111 : decode bb_M_mendLists 111 = .ok (.aload_n 0, 1) := by decide +kernel
theorem dd_M_mendLists_112 : decode bb_M_mendLists 112 = .ok (.getfield 36, 3) := by decide +kernel
theorem dd_M_mendLists_115 : decode bb_M_mendLists 115 = .ok (.iload_n 3, 1) := by decide +kernel
theorem dd_M_mendLists_116 : decode bb_M_mendLists 116 = .ok (.iaload, 1) := by decide +kernel
theorem dd_M_mendLists_117 : decode bb_M_mendLists 117 = .ok (.if_icmp .ne 7, 3) := by decide +kernel
theorem dd_M_mendLists_120 : decode bb_M_mendLists 120 = .ok (.iconst 1, 1) := by decide +kernel
theorem dd_M_mendLists_121 : decode bb_M_mendLists 121 = .ok (.goto 4, 3) := by decide +kernel
theorem dd_M_mendLists_124 : decode bb_M_mendLists 124 = .ok (.iconst 0, 1) := by decide +kernel
theorem dd_M_mendLists_125 : decode bb_M_mendLists 125 = .ok (.istore_n 2, 1) := by decide +kernel
theorem dd_M_mendLists_126 : decode bb_M_mendLists 126 = .ok (.iinc 3 1, 3) := by decide +kernel
theorem dd_M_mendLists_129 : decode bb_M_mendLists 129 = .ok (.goto (-36), 3) := by decide +kernel
theorem dd_M_mendLists_132 : decode bb_M_mendLists 132 = .ok (.iload_n 2, 1) := by decide +kernel
theorem dd_M_mendLists_133 : decode bb_M_mendLists 133 = .ok (.ifCond .eq 6, 3) := by decide +kernel
theorem dd_M_mendLists_136 : decode bb_M_mendLists 136 = .ok (.goto 29, 3) := by decide +kernel
theorem dd_M_mendLists_139 : decode bb_M_mendLists 139 = .ok (.aload_n 0, 1) := by decide +kernel
theorem dd_M_mendLists_140 : decode bb_M_mendLists 140 = .ok (.dup, 1) := by decide +kernel
theorem dd_M_mendLists_141 : decode bb_M_mendLists 141 = .ok (.getfield 193, 3) := by decide +kernel
theorem dd_M_mendLists_144 : decode bb_M_mendLists 144 = .ok (.iconst 1, 1) := by decide +kernel
theorem dd_M_mendLists_145 : decode bb_M_mendLists 145 = .ok (.iadd, 1) := by decide +kernel
theorem dd_M_mendLists_146 : decode bb_M_mendLists 146 = .ok (.putfield 193, 3) := by decide +kernel
theorem dd_M_mendLists_149 : decode bb_M_mendLists 149 = .ok (.aload_n 0, 1) := by decide +kernel
theorem dd_M_mendLists_150 : decode bb_M_mendLists 150 = .ok (.iload_n 1, 1) := by decide +kernel
theorem dd_M_mendLists_151 : decode bb_M_mendLists 151 = .ok (.aload_n 0, 1) := by decide +kernel
theorem dd_M_mendLists_152 : decode bb_M_mendLists 152 = .ok (.iload_n 1, 1) := by decide +kernel
theorem dd_M_mendLists_153 : decode bb_M_mendLists 153 = .ok (.iconst 1, 1) := by decide +kernel
theorem dd_M_mendLists_154 : decode bb_M_mendLists 154 = .ok (.invokevirtual 65, 3) := by decide +kernel
theorem dd_M_mendLists_157 : decode bb_M_mendLists 157 = .ok (.invokevirtual 138, 3) := by decide +kernel
theorem dd_M_mendLists_160 : decode bb_M_mendLists 160 = .ok (.ifCond .ne 5, 3) := by decide +kernel
theorem dd_M_mendLists_163 : decode bb_M_mendLists 163 = .ok (.iconst 0, 1) := by decide +kernel
theorem dd_M_mendLists_164 : decode bb_M_mendLists 164 = .ok (.ireturn, 1) := by decide +kernel
theorem dd_M_mendLists_165 : decode bb_M_mendLists 165 = .ok (.iinc 1 1, 3) := by decide +kernel
theorem dd_M_mendLists_168 : decode bb_M_mendLists 168 = .ok (.goto (-166), 3) := by decide +kernel
theorem dd_M_mendLists_171 : decode bb_M_mendLists 171 = .ok (.iconst 1, 1) := by decide +kernel
theorem dd_M_mendLists_172 : decode bb_M_mendLists 172 = .ok (.ireturn, 1) := by decide +kernel
theorem dd_M_mount_0 : decode bb_M_mount 0 = .ok (.aload_n 0, 1) := by decide +kernel
theorem dd_M_mount_1 : decode bb_M_mount 1 = .ok (.iconst 0, 1) := by decide +kernel
theorem dd_M_mount_2 : decode bb_M_mount 2 = .ok (.putfield 54, 3) := by decide +kernel
theorem dd_M_mount_5 : decode bb_M_mount 5 = .ok (.aload_n 0, 1) := by decide +kernel
theorem dd_M_mount_6 : decode bb_M_mount 6 = .ok (.iconst 0, 1) := by decide +kernel
theorem dd_M_mount_7 : decode bb_M_mount 7 = .ok (.putfield 50, 3) := by decide +kernel
theorem dd_M_mount_10 : decode bb_M_mount 10 = .ok (.aload_n 0, 1) := by decide +kernel
theorem dd_M_mount_11 : decode bb_M_mount 11 = .ok (.iconst 0, 1) := by decide +kernel
theorem dd_M_mount_12 : decode bb_M_mount 12 = .ok (.putfield 193, 3) := by decide +kernel
theorem dd_M_mount_15 : decode bb_M_mount 15 = .ok (.iconst 0, 1) := by decide +kernel
theorem dd_M_mount_16 : decode bb_M_mount 16 = .ok (.istore_n 1, 1) := by decide +kernel
theorem dd_M_mount_17 : decode bb_M_mount 17 = .ok (.iload_n 1, 1) := by decide +kernel
theorem dd_M_mount_18 : decode bb_M_mount 18 = .ok (.bipush 12, 2) := by decide +kernel
theorem dd_M_mount_20 : decode bb_M_mount 20 = .ok (.if_icmp .ge 48, 3) := by decide +kernel
theorem dd_M_mount_23 : decode bb_M_mount 23 = .ok (.aload_n 0, 1) := by decide +kernel
theorem dd_M_mount_24 : decode bb_M_mount 24 = .ok (.getfield 7, 3) := by decide +kernel
theorem dd_M_mount_27 : decode bb_M_mount 27 = .ok (.bipush 64, 2) := by decide +kernel
theorem dd_M_mount_29 : decode bb_M_mount 29 = .ok (.iload_n 1, 1) := by decide +kernel
theorem dd_M_mount_30 : decode bb_M_mount 30 = .ok (.imul, 1) := by decide +kernel
theorem dd_M_mount_31 : decode bb_M_mount 31 = .ok (.iaload, 1) := by decide +kernel
theorem dd_M_mount_32 : decode bb_M_mount 32 = .ok (.istore_n 2, 1) := by decide +kernel
theorem dd_M_mount_33 : decode bb_M_mount 33 = .ok (.aload_n 0, 1) := by decide +kernel
theorem dd_M_mount_34 : decode bb_M_mount 34 = .ok (.getfield 13, 3) := by decide +kernel
theorem dd_M_mount_37 : decode bb_M_mount 37 = .ok (.iload_n 1, 1) := by decide +kernel
theorem dd_M_mount_38 : decode bb_M_mount 38 = .ok (.aload_n 0, 1) := by decide +kernel
theorem dd_M_mount_39 : decode bb_M_mount 39 = .ok (.iload_n 1, 1) := by decide +kernel
theorem dd_M_mount_40 : decode bb_M_mount 40 = .ok (.invokevirtual 199, 3) := by decide +kernel
theorem dd_M_mount_43 : decode bb_M_mount 43 = .ok (.ifCond .ne 17, 3) := by decide +kernel
theorem dd_M_mount_46 : decode bb_M_mount 46 = .ok (.iload_n 2, 1) := by decide +kernel
theorem dd_M_mount_47 : decode bb_M_mount 47 = .ok (.iconst 1, 1) := by decide +kernel
theorem dd_M_mount_48 : decode bb_M_mount 48 = .ok (.if_icmp .eq 8, 3) := by decide +kernel
theorem dd_M_mount_51 : decode bb_M_mount 51 = .ok (.iload_n 2, 1) := by decide +kernel
theorem dd_M_mount_52 : decode bb_M_mount 52 = .ok (.iconst 2, 1) := by decide +kernel
theorem dd_M_mount_53 : decode bb_M_mount 53 = .ok (.if_icmp .ne 7, 3) := by decide +kernel
theorem dd_M_mount_56 : decode bb_M_mount 56 = .ok (.iconst 1, 1) := by decide +kernel
theorem dd_M_mount_57 : decode bb_M_mount 57 = .ok (.goto 4, 3) := by decide +kernel
theorem dd_M_mount_60 : decode bb_M_mount 60 = .ok (.iconst 0, 1) := by decide +kernel
theorem dd_M_mount_61 : decode bb_M_mount 61 = .ok (.bastore, 1) := by decide +kernel
theorem dd_M_mount_62 : decode bb_M_mount 62 = .ok (.iinc 1 1, 3) := by decide +kernel
theorem dd_M_mount_65 : decode bb_M_mount 65 = .ok (.goto (-48), 3) := by decide +kernel
theorem dd_M_mount_68 : decode bb_M_mount 68 = .ok (.aload_n 0, 1) := by decide +kernel
theorem dd_M_mount_69 : decode bb_M_mount 69 = .ok (.invokevirtual 202, 3) := by decide +kernel
theorem dd_M_mount_72 : decode bb_M_mount 72 = .ok (.ifCond .eq 17, 3) := by decide +kernel
theorem dd_M_mount_75 : decode bb_M_mount 75 = .ok (.aload_n 0, 1) := by decide +kernel
theorem dd_M_mount_76 : decode bb_M_mount 76 = .ok (.invokevirtual 206, 3) := by decide +kernel
theorem dd_M_mount_79 : decode bb_M_mount 79 = .ok (.ifCond .eq 10, 3) := by decide +kernel
theorem dd_M_mount_82 : decode bb_M_mount 82 = .ok (.aload_n 0, 1) := by decide +kernel
theorem dd_M_mount_83 : decode bb_M_mount 83 = .ok (.invokevirtual 209, 3) := by decide +kernel
theorem dd_M_mount_86 : decode bb_M_mount 86 = .ok (.ifCond .ne 9, 3) := by decide +kernel
theorem dd_M_mount_89 : decode bb_M_mount 89 = .ok (.aload_n 0, 1) := by decide +kernel
theorem dd_M_mount_90 : decode bb_M_mount 90 = .ok (.iconst 1, 1) := by decide +kernel
theorem dd_M_mount_91 : decode bb_M_mount 91 = .ok (.invokevirtual 117, 3) := by decide +kernel
theorem dd_M_mount_94 : decode bb_M_mount 94 = .ok (.ireturn, 1) := by decide +kernel
theorem dd_M_mount_95 : decode bb_M_mount 95 = .ok (.iconst 0, 1) := by decide +kernel
theorem dd_M_mount_96 : decode bb_M_mount 96 = .ok (.istore_n 1, 1) := by decide +kernel
theorem dd_M_mount_97 : decode bb_M_mount 97 = .ok (.iload_n 1, 1) := by decide +kernel
theorem dd_M_mount_98 : decode bb_M_mount 98 = .ok (.sipush 128, 3) := by decide +kernel
theorem dd_M_mount_101 : decode bb_M_mount 101 = .ok (.if_icmp .ge 16, 3) := by decide +kernel
theorem dd_M_mount_104 : decode bb_M_mount 104 = .ok (.aload_n 0, 1) := by decide +kernel
theorem dd_M_mount_105 : decode bb_M_mount 105 = .ok (.getfield 17, 3) := by decide +kernel
theorem dd_M_mount_108 : decode bb_M_mount 108 = .ok (.iload_n 1, 1) := by decide +kernel
theorem dd_M_mount_109 : decode bb_M_mount 109 = .ok (.iconst 0, 1) := by decide +kernel
theorem dd_M_mount_110 : decode bb_M_mount 110 = .ok (.bastore, 1) := by decide +kernel
theorem dd_M_mount_111 : decode bb_M_mount 111 = .ok (.iinc 1 1, 3) := by decide +kernel
theorem dd_M_mount_114 : decode bb_M_mount 114 = .ok (.goto (-17), 3) := by decide +kernel
theorem dd_M_mount_117 : decode bb_M_mount 117 = .ok (.iconst 0, 1) := by decide +kernel
theorem dd_M_mount_118 : decode bb_M_mount 118 = .ok (.istore_n 1, 1) := by decide +kernel
theorem dd_M_mount_119 : decode bb_M_mount 119 = .ok (.iload_n 1, 1) := by decide +kernel
theorem dd_M_mount_120 : decode bb_M_mount 120 = .ok (.bipush 12, 2) := by decide +kernel
theorem dd_M_mount_122 : decode bb_M_mount 122 = .ok (.if_icmp .ge 73, 3) := by decide +kernel
theorem dd_M_mount_125 : decode bb_M_mount 125 = .ok (.aload_n 0, 1) := by decide +kernel
theorem dd_M_mount_126 : decode bb_M_mount 126 = .ok (.getfield 13, 3) := by decide +kernel
theorem dd_M_mount_129 : decode bb_M_mount 129 = .ok (.iload_n 1, 1) := by decide +kernel
theorem dd_M_mount_130 : decode bb_M_mount 130 = .ok (.baload, 1) := by decide +kernel
theorem dd_M_mount_131 : decode bb_M_mount 131 = .ok (.ifCond .eq 58, 3) := by decide +kernel
theorem dd_M_mount_134 : decode bb_M_mount 134 = .ok (.aload_n 0, 1) := by decide +kernel
theorem dd_M_mount_135 : decode bb_M_mount 135 = .ok (.iload_n 1, 1) := by decide +kernel
theorem dd_M_mount_136 : decode bb_M_mount 136 = .ok (.iconst 0, 1) := by decide +kernel
theorem dd_M_mount_137 : decode bb_M_mount 137 = .ok (.invokevirtual 65, 3) := by decide +kernel
theorem dd_M_mount_140 : decode bb_M_mount 140 = .ok (.iconst 1, 1) := by decide +kernel
theorem dd_M_mount_141 : decode bb_M_mount 141 = .ok (.if_icmp .eq 6, 3) := by decide +kernel
theorem dd_M_mount_144 : decode bb_M_mount 144 = .ok (.goto 45, 3) := by decide +kernel
theorem dd_M_mount_147 : decode bb_M_mount 147 = .ok (.aload_n 0, 1) := by decide +kernel
theorem dd_M_mount_148 : decode bb_M_mount 148 = .ok (.iload_n 1, 1) := by decide +kernel
theorem dd_M_mount_149 : decode bb_M_mount 149 = .ok (.invokevirtual 145, 3) := by decide +kernel
theorem dd_M_mount_152 : decode bb_M_mount 152 = .ok (.iconst 0, 1) := by decide +kernel
theorem dd_M_mount_153 : decode bb_M_mount 153 = .ok (.istore_n 2, 1) := by decide +kernel
theorem dd_M_mount_154 : decode bb_M_mount 154 = .ok (.iload_n 2, 1) := by decide +kernel
theorem dd_M_mount_155 : decode bb_M_mount 155 = .ok (.aload_n 0, 1) := by decide +kernel
theorem dd_M_mount_156 : decode bb_M_mount 156 = .ok (.getfield 91, 3) := by decide +kernel
theorem dd_M_mount_159 : decode bb_M_mount 159 = .ok (.if_icmp .ge 30, 3) := by decide +kernel
theorem dd_M_mount_162 : decode bb_M_mount 162 = .ok (.aload_n 0, 1) := by decide +kernel
theorem dd_M_mount_163 : decode bb_M_mount 163 = .ok (.getfield 27, 3) := by decide +kernel
theorem dd_M_mount_166 : decode bb_M_mount 166 = .ok (.iload_n 2, 1) := by decide +kernel
theorem dd_M_mount_167 : decode bb_M_mount 167 = .ok (.iaload, 1) := by decide +kernel
theorem dd_M_mount_168 : decode bb_M_mount 168 = .ok (.ifCond .lt 15, 3) := by decide +kernel
theorem dd_M_mount_171 : decode bb_M_mount 171 = .ok (.aload_n 0, 1) := by decide +kernel
theorem dd_M_mount_172 : decode bb_M_mount 172 = .ok (.getfield 17, 3) := by decide +kernel
theorem dd_M_mount_175 : decode bb_M_mount 175 = .ok (.aload_n 0, 1) := by decide +kernel
theorem dd_M_mount_176 : decode bb_M_mount 176 = .ok (.getfield 27, 3) := by decide +kernel
theorem dd_M_mount_179 : decode bb_M_mount 179 = .ok (.iload_n 2, 1) := by decide +kernel
theorem dd_M_mount_180 : decode bb_M_mount 180 = .ok (.iaload, 1) := by decide +kernel
theorem dd_M_mount_181 : decode bb_M_mount 181 = .ok (.iconst 1, 1) := by decide +kernel
theorem dd_M_mount_182 : decode bb_M_mount 182 = .ok (.bastore, 1) := by decide +kernel
theorem dd_M_mount_183 : decode bb_M_mount 183 = .ok (.iinc 2 1, 3) := by decide +kernel
theorem dd_M_mount_186 : decode bb_M_mount 186 = .ok (.goto (-32), 3) := by decide +kernel
theorem dd_M_mount_189 : decode bb_M_mount 189 = .ok (.iinc 1 1, 3) := by decide +kernel
theorem dd_M_mount_192 : decode bb_M_mount 192 = .ok (.goto (-73), 3) := by decide +kernel
theorem dd_M_mount_195 : decode bb_M_mount 195 = .ok (.aload_n 0, 1) := by decide +kernel
theorem dd_M_mount_196 : decode bb_M_mount 196 = .ok (.iconst 1, 1) := by decide +kernel
theorem dd_M_mount_197 : decode bb_M_mount 197 = .ok (.putfield 50, 3) := by decide +kernel
theorem dd_M_mount_200 : decode bb_M_mount 200 = .ok (.aload_n 0, 1) := by decide +kernel
theorem dd_M_mount_201 : decode bb_M_mount 201 = .ok (.getfield 193, 3) := by decide +kernel
theorem dd_M_mount_204 : decode bb_M_mount 204 = .ok (.ireturn, 1) := by decide +kernel
theorem dd_M_on_0 : decode bb_M_on 0 = .ok (.aload_n 0, 1) := by decide +kernel
theorem dd_M_on_1 : decode bb_M_on 1 = .ok (.iconst 0, 1) := by decide +kernel
theorem dd_M_on_2 : decode bb_M_on 2 = .ok (.putfield 54, 3) := by decide +kernel
theorem dd_M_on_5 : decode bb_M_on 5 = .ok (.aload_n 0, 1) := by decide +kernel
theorem dd_M_on_6 : decode bb_M_on 6 = .ok (.getfield 50, 3) := by decide +kernel
theorem dd_M_on_9 : decode bb_M_on 9 = .ok (.ireturn, 1) := by decide +kernel
theorem dd_M_find_0 : decode bb_M_find 0 = .ok (.aload_n 0, 1) := by decide +kernel
theorem dd_M_find_1 : decode bb_M_find 1 = .ok (.iconst 0, 1) := by decide +kernel
theorem dd_M_find_2 : decode bb_M_find 2 = .ok (.putfield 54, 3) := by decide +kernel
theorem dd_M_find_5 : decode bb_M_find 5 = .ok (.aload_n 0, 1) := by decide +kernel
theorem dd_M_find_6 : decode bb_M_find 6 = .ok (.iload_n 1, 1) := by decide +kernel
theorem dd_M_find_7 : decode bb_M_find 7 = .ok (.iconst 2, 1) := by decide +kernel
theorem dd_M_find_8 : decode bb_M_find 8 = .ok (.invokevirtual 120, 3) := by decide +kernel
theorem dd_M_find_11 : decode bb_M_find 11 = .ok (.ifCond .eq 18, 3) := by decide +kernel
theorem dd_M_find_14 : decode bb_M_find 14 = .ok (.aload_n 0, 1) := by decide +kernel
theorem dd_M_find_15 : decode bb_M_find 15 = .ok (.getfield 78, 3) := by decide +kernel
theorem dd_M_find_18 : decode bb_M_find 18 = .ok (.ifCond .le 11, 3) := by decide +kernel
theorem dd_M_find_21 : decode bb_M_find 21 = .ok (.aload_n 0, 1) := by decide +kernel
theorem dd_M_find_22 : decode bb_M_find 22 = .ok (.iload_n 1, 1) := by decide +kernel
theorem dd_M_find_23 : decode bb_M_find 23 = .ok (.invokevirtual 123, 3) := by decide +kernel
theorem dd_M_find_26 : decode bb_M_find 26 = .ok (.goto 4, 3) := by decide +kernel
theorem dd_M_find_29 : decode bb_M_find 29 = .ok (.iconst (-1), 1) := by decide +kernel
theorem dd_M_find_30 : decode bb_M_find 30 = .ok (.istore_n 2, 1) := by decide +kernel
theorem dd_M_find_31 : decode bb_M_find 31 = .ok (.aload_n 0, 1) := by decide +kernel
theorem dd_M_find_32 : decode bb_M_find 32 = .ok (.iconst 0, 1) := by decide +kernel
theorem dd_M_find_33 : decode bb_M_find 33 = .ok (.putfield 78, 3) := by decide +kernel
theorem dd_M_find_36 : decode bb_M_find 36 = .ok (.iload_n 2, 1) := by decide +kernel
theorem dd_M_find_37 : decode bb_M_find 37 = .ok (.ireturn, 1) := by decide +kernel
theorem dd_M_runsOf_0 : decode bb_M_runsOf 0 = .ok (.aload_n 0, 1) := by decide +kernel
theorem dd_M_runsOf_1 : decode bb_M_runsOf 1 = .ok (.iload_n 1, 1) := by decide +kernel
theorem dd_M_runsOf_2 : decode bb_M_runsOf 2 = .ok (.iconst 3, 1) := by decide +kernel
theorem dd_M_runsOf_3 : decode bb_M_runsOf 3 = .ok (.invokevirtual 69, 3) := by decide +kernel
theorem dd_M_runsOf_6 : decode bb_M_runsOf 6 = .ok (.istore_n 2, 1) := by decide +kernel
theorem dd_M_runsOf_7 : decode bb_M_runsOf 7 = .ok (.iload_n 2, 1) := by decide +kernel
theorem dd_M_runsOf_8 : decode bb_M_runsOf 8 = .ok (.ifCond .ge 5, 3) := by decide +kernel
theorem dd_M_runsOf_11 : decode bb_M_runsOf 11 = .ok (.iconst 0, 1) := by decide +kernel
theorem dd_M_runsOf_12 : decode bb_M_runsOf 12 = .ok (.ireturn, 1) := by decide +kernel
theorem dd_M_runsOf_13 : decode bb_M_runsOf 13 = .ok (.iconst 0, 1) := by decide +kernel
theorem dd_M_runsOf_14 : decode bb_M_runsOf 14 = .ok (.istore_n 3, 1) := by decide +kernel
theorem dd_M_runsOf_15 : decode bb_M_runsOf 15 = .ok (.iinc 2 4, 3) := by decide +kernel
theorem dd_M_runsOf_18 : decode bb_M_runsOf 18 = .ok (.aload_n 0, 1) := by decide +kernel
theorem dd_M_runsOf_19 : decode bb_M_runsOf 19 = .ok (.iload_n 1, 1) := by decide +kernel
theorem dd_M_runsOf_20 : decode bb_M_runsOf 20 = .ok (.iload_n 2, 1) := by decide +kernel
theorem dd_M_runsOf_21 : decode bb_M_runsOf 21 = .ok (.invokevirtual 65, 3) := by decide +kernel
theorem dd_M_runsOf_24 : decode bb_M_runsOf 24 = .ok (.ifCond .eq 27, 3) := by decide +kernel
theorem dd_M_runsOf_27 : decode bb_M_runsOf 27 = .ok (.iload_n 2, 1) := by decide +kernel
theorem dd_M_runsOf_28 : decode bb_M_runsOf 28 = .ok (.aload_n 0, 1) := by decide +kernel
theorem dd_M_runsOf_29 : decode bb_M_runsOf 29 = .ok (.iload_n 1, 1) := by decide +kernel
theorem dd_M_runsOf_30 : decode bb_M_runsOf 30 = .ok (.iload_n 2, 1) := by decide +kernel
theorem dd_M_runsOf_31 : decode bb_M_runsOf 31 = .ok (.invokevirtual 65, 3) := by decide +kernel
theorem dd_M_runsOf_34 : decode bb_M_runsOf 34 = .ok (.iconst 1, 1) := by decide +kernel
theorem dd_M_runsOf_35 : decode bb_M_runsOf 35 = .ok (.if_icmp .ne 7, 3) := by decide +kernel
theorem dd_M_runsOf_38 : decode bb_M_runsOf 38 = .ok (.iconst 2, 1) := by decide +kernel
theorem dd_M_runsOf_39 : decode bb_M_runsOf 39 = .ok (.goto 4, 3) := by decide +kernel
theorem dd_M_runsOf_42 : decode bb_M_runsOf 42 = .ok (.iconst 3, 1) := by decide +kernel
theorem dd_M_runsOf_43 : decode bb_M_runsOf 43 = .ok (.iadd, 1) := by decide +kernel
theorem dd_M_runsOf_44 : decode bb_M_runsOf 44 = .ok (.istore_n 2, 1) := by decide +kernel
theorem dd_M_runsOf_45 : decode bb_M_runsOf 45 = .ok (.iinc 3 1, 3) := by decide +kernel
theorem dd_M_runsOf_48 : decode bb_M_runsOf 48 = .ok (.goto (-30), 3) := by decide +kernel
theorem dd_M_runsOf_51 : decode bb_M_runsOf 51 = .ok (.iload_n 3, 1) := by decide +kernel
theorem dd_M_runsOf_52 : decode bb_M_runsOf 52 = .ok (.ireturn, 1) := by decide +kernel
theorem dd_M_record_0 : decode bb_M_record 0 = .ok (.aload_n 0, 1) := by decide +kernel
theorem dd_M_record_1 : decode bb_M_record 1 = .ok (.iconst 0, 1) := by decide +kernel
theorem dd_M_record_2 : decode bb_M_record 2 = .ok (.putfield 54, 3) := by decide +kernel
theorem dd_M_record_5 : decode bb_M_record 5 = .ok (.aload_n 0, 1) := by decide +kernel
theorem dd_M_record_6 : decode bb_M_record 6 = .ok (.iload_n 1, 1) := by decide +kernel
theorem dd_M_record_7 : decode bb_M_record 7 = .ok (.invokevirtual 62, 3) := by decide +kernel
theorem dd_M_record_10 : decode bb_M_record 10 = .ok (.ifCond .ne 5, 3) := by decide +kernel
theorem dd_M_record_13 : decode bb_M_record 13 = .ok (.iconst (-1), 1) := by decide +kernel
theorem dd_M_record_14 : decode bb_M_record 14 = .ok (.ireturn, 1) := by decide +kernel
theorem dd_M_record_15 : decode bb_M_record 15 = .ok (.aload_n 0, 1) := by decide +kernel
theorem dd_M_record_16 : decode bb_M_record 16 = .ok (.iload_n 1, 1) := by decide +kernel
theorem dd_M_record_17 : decode bb_M_record 17 = .ok (.iconst 0, 1) := by decide +kernel
theorem dd_M_record_18 : decode bb_M_record 18 = .ok (.invokevirtual 65, 3) := by decide +kernel
theorem dd_M_record_21 : decode bb_M_record 21 = .ok (.iconst 1, 1) := by decide +kernel
theorem dd_M_record_22 : decode bb_M_record 22 = .ok (.if_icmp .ne 7, 3) := by decide +kernel
theorem dd_M_record_25 : decode bb_M_record 25 = .ok (.iconst 1, 1) := by decide +kernel
theorem dd_M_record_26 : decode bb_M_record 26 = .ok (.goto 4, 3) := by decide +kernel
theorem dd_M_record_29 : decode bb_M_record 29 = .ok (.iconst 0, 1) := by decide +kernel
theorem dd_M_record_30 : decode bb_M_record 30 = .ok (.istore_n 3, 1) := by decide +kernel
theorem dd_M_record_31 : decode bb_M_record 31 = .ok (.iload_n 2, 1) := by decide +kernel
theorem dd_M_record_32 : decode bb_M_record 32 = .ok (.tableswitch 131 0 6 #[44, 51, 58, 69, 77, 95, 117], 44) := by decide +kernel
theorem dd_M_record_76 : decode bb_M_record 76 = .ok (.aload_n 0, 1) := by decide +kernel
theorem dd_M_record_77 : decode bb_M_record 77 = .ok (.iload_n 1, 1) := by decide +kernel
theorem dd_M_record_78 : decode bb_M_record 78 = .ok (.iconst 0, 1) := by decide +kernel
theorem dd_M_record_79 : decode bb_M_record 79 = .ok (.invokevirtual 65, 3) := by decide +kernel
theorem dd_M_record_82 : decode bb_M_record 82 = .ok (.ireturn, 1) := by decide +kernel
theorem dd_M_record_83 : decode bb_M_record 83 = .ok (.aload_n 0, 1) := by decide +kernel
theorem dd_M_record_84 : decode bb_M_record 84 = .ok (.iload_n 1, 1) := by decide +kernel
theorem dd_M_record_85 : decode bb_M_record 85 = .ok (.iconst 1, 1) := by decide +kernel
theorem dd_M_record_86 : decode bb_M_record 86 = .ok (.invokevirtual 65, 3) := by decide +kernel
theorem dd_M_record_89 : decode bb_M_record 89 = .ok (.ireturn, 1) := by decide +kernel
theorem dd_M_record_90 : decode bb_M_record 90 = .ok (.aload_n 0, 1) := by decide +kernel
theorem dd_M_record_91 : decode bb_M_record 91 = .ok (.bipush 64, 2) := by decide +kernel
theorem dd_M_record_93 : decode bb_M_record 93 = .ok (.iload_n 1, 1) := by decide +kernel
theorem dd_M_record_94 : decode bb_M_record 94 = .ok (.imul, 1) := by decide +kernel
theorem dd_M_record_95 : decode bb_M_record 95 = .ok (.iconst 2, 1) := by decide +kernel
theorem dd_M_record_96 : decode bb_M_record 96 = .ok (.iadd, 1) := by decide +kernel
theorem dd_M_record_97 : decode bb_M_record 97 = .ok (.invokevirtual 58, 3) := by decide +kernel
theorem dd_M_record_100 : decode bb_M_record 100 = .ok (.ireturn, 1) := by decide +kernel
theorem dd_M_record_101 : decode bb_M_record 101 = .ok (.aload_n 0, 1) := by decide +kernel
theorem dd_M_record_102 : decode bb_M_record 102 = .ok (.iload_n 1, 1) := by decide +kernel
theorem dd_M_record_103 : decode bb_M_record 103 = .ok (.bipush 8, 2) := by decide +kernel
theorem dd_M_record_105 : decode bb_M_record 105 = .ok (.invokevirtual 65, 3) := by decide +kernel
theorem dd_M_record_108 : decode bb_M_record 108 = .ok (.ireturn, 1) := by decide +kernel
theorem dd_M_record_109 : decode bb_M_record 109 = .ok (.iload_n 3, 1) := by decide +kernel
theorem dd_M_record_110 : decode bb_M_record 110 = .ok (.ifCond .eq 11, 3) := by decide +kernel
theorem dd_M_record_113 : decode bb_M_record 113 = .ok (.aload_n 0, 1) := by decide +kernel
theorem dd_M_record_114 : decode bb_M_record 114 = .ok (.iload_n 1, 1) := by decide +kernel
theorem dd_M_record_115 : decode bb_M_record 115 = .ok (.invokevirtual 168, 3) := by decide +kernel
theorem dd_M_record_118 : decode bb_M_record 118 = .ok (.goto 8, 3) := by decide +kernel
theorem dd_M_record_121 : decode bb_M_record 121 = .ok (.aload_n 0, 1) := by decide +kernel
theorem dd_M_record_122 : decode bb_M_record 122 = .ok (.iload_n 1, 1) := by decide +kernel
theorem dd_M_record_123 : decode bb_M_record 123 = .ok (.invokevirtual 108, 3) := by decide +kernel
theorem dd_M_record_126 : decode bb_M_record 126 = .ok (.ireturn, 1) := by decide +kernel
theorem dd_M_record_127 : decode bb_M_record 127 = .ok (.iload_n 3, 1) := by decide +kernel
theorem dd_M_record_128 : decode bb_M_record 128 = .ok (.ifCond .ne 7, 3) := by decide +kernel
theorem dd_M_record_131 : decode bb_M_record 131 = .ok (.iconst 4, 1) := by decide +kernel
theorem dd_M_record_132 : decode bb_M_record 132 = .ok (.goto 16, 3) := by decide +kernel
theorem dd_M_record_135 : decode bb_M_record 135 = .ok (.aload_n 0, 1) := by decide +kernel
theorem dd_M_record_136 : decode bb_M_record 136 = .ok (.iload_n 1, 1) := by decide +kernel
theorem dd_M_record_137 : decode bb_M_record 137 = .ok (.invokevirtual 171, 3) := by decide +kernel
theorem dd_M_record_140 : decode bb_M_record 140 = .ok (.ifCond .eq 7, 3) := by decide +kernel
theorem dd_M_record_143 : decode bb_M_record 143 = .ok (.iconst 2, 1) := by decide +kernel
theorem dd_M_record_144 : decode bb_M_record 144 = .ok (.goto 4, 3) := by decide +kernel
theorem dd_M_record_147 : decode bb_M_record 147 = .ok (.iconst 3, 1) := by decide +kernel
theorem dd_M_record_148 : decode bb_M_record 148 = .ok (.ireturn, 1) := by decide +kernel
theorem dd_M_record_149 : decode bb_M_record 149 = .ok (.iload_n 3, 1) := by decide +kernel
theorem dd_M_record_150 : decode bb_M_record 150 = .ok (.ifCond .eq 11, 3) := by decide +kernel
theorem dd_M_record_153 : decode bb_M_record 153 = .ok (.aload_n 0, 1) := by decide +kernel
theorem dd_M_record_154 : decode bb_M_record 154 = .ok (.iload_n 1, 1) := by decide +kernel
theorem dd_M_record_155 : decode bb_M_record 155 = .ok (.invokevirtual 212, 3) := by decide +kernel
theorem dd_M_record_158 : decode bb_M_record 158 = .ok (.goto 4, 3) := by decide +kernel
theorem dd_M_record_161 : decode bb_M_record 161 = .ok (.iconst 0, 1) := by decide +kernel
theorem dd_M_record_162 : decode bb_M_record 162 = .ok (.ireturn, 1) := by decide +kernel
theorem dd_M_record_163 : decode bb_M_record 163 = .ok (.iconst (-1), 1) := by decide +kernel
theorem dd_M_record_164 : decode bb_M_record 164 = .ok (.ireturn, 1) := by decide +kernel
theorem dd_M_read_0 : decode bb_M_read 0 = .ok (.aload_n 0, 1) := by decide +kernel
theorem dd_M_read_1 : decode bb_M_read 1 = .ok (.iconst 0, 1) := by decide +kernel
theorem dd_M_read_2 : decode bb_M_read 2 = .ok (.putfield 54, 3) := by decide +kernel
theorem dd_M_read_5 : decode bb_M_read 5 = .ok (.aload_n 0, 1) := by decide +kernel
theorem dd_M_read_6 : decode bb_M_read 6 = .ok (.iload_n 1, 1) := by decide +kernel
theorem dd_M_read_7 : decode bb_M_read 7 = .ok (.invokevirtual 62, 3) := by decide +kernel
theorem dd_M_read_10 : decode bb_M_read 10 = .ok (.ifCond .eq 7, 3) := by decide +kernel
theorem dd_M_read_13 : decode bb_M_read 13 = .ok (.iload_n 2, 1) := by decide +kernel
theorem dd_M_read_14 : decode bb_M_read 14 = .ok (.ifCond .ge 5, 3) := by decide +kernel
theorem dd_M_read_17 : decode bb_M_read 17 = .ok (.iconst (-1), 1) := by decide +kernel
theorem dd_M_read_18 : decode bb_M_read 18 = .ok (.ireturn, 1) := by decide +kernel
theorem dd_M_read_19 : decode bb_M_read 19 = .ok (.aload_n 0, 1) := by decide +kernel
theorem dd_M_read_20 : decode bb_M_read 20 = .ok (.iload_n 1, 1) := by decide +kernel
theorem dd_M_read_21 : decode bb_M_read 21 = .ok (.iconst 0, 1) := by decide +kernel
theorem dd_M_read_22 : decode bb_M_read 22 = .ok (.invokevirtual 65, 3) := by decide +kernel
theorem dd_M_read_25 : decode bb_M_read 25 = .ok (.iconst 2, 1) := by decide +kernel
theorem dd_M_read_26 : decode bb_M_read 26 = .ok (.if_icmp .ne 23, 3) := by decide +kernel
theorem dd_M_read_29 : decode bb_M_read 29 = .ok (.iload_n 2, 1) := by decide +kernel
theorem dd_M_read_30 : decode bb_M_read 30 = .ok (.aload_n 0, 1) := by decide +kernel
theorem dd_M_read_31 : decode bb_M_read 31 = .ok (.iload_n 1, 1) := by decide +kernel
theorem dd_M_read_32 : decode bb_M_read 32 = .ok (.invokevirtual 108, 3) := by decide +kernel
theorem dd_M_read_35 : decode bb_M_read 35 = .ok (.if_icmp .ge 12, 3) := by decide +kernel
theorem dd_M_read_38 : decode bb_M_read 38 = .ok (.aload_n 0, 1) := by decide +kernel
theorem dd_M_read_39 : decode bb_M_read 39 = .ok (.iload_n 1, 1) := by decide +kernel
theorem dd_M_read_40 : decode bb_M_read 40 = .ok (.iload_n 2, 1) := by decide +kernel
theorem dd_M_read_41 : decode bb_M_read 41 = .ok (.invokevirtual 111, 3) := by decide +kernel
theorem dd_M_read_44 : decode bb_M_read 44 = .ok (.goto 4, 3) := by decide +kernel
theorem dd_M_read_47 : decode bb_M_read 47 = .ok (.iconst (-1), 1) := by decide +kernel
theorem dd_M_read_48 : decode bb_M_read 48 = .ok (.ireturn, 1) := by decide +kernel
theorem dd_M_read_49 : decode bb_M_read 49 = .ok (.iload_n 2, 1) := by decide +kernel
theorem dd_M_read_50 : decode bb_M_read 50 = .ok (.aload_n 0, 1) := by decide +kernel
theorem dd_M_read_51 : decode bb_M_read 51 = .ok (.iload_n 1, 1) := by decide +kernel
theorem dd_M_read_52 : decode bb_M_read 52 = .ok (.invokevirtual 168, 3) := by decide +kernel
theorem dd_M_read_55 : decode bb_M_read 55 = .ok (.if_icmp .lt 5, 3) := by decide +kernel
theorem dd_M_read_58 : decode bb_M_read 58 = .ok (.iconst (-1), 1) := by decide +kernel
theorem dd_M_read_59 : decode bb_M_read 59 = .ok (.ireturn, 1) := by decide +kernel
theorem dd_M_read_60 : decode bb_M_read 60 = .ok (.aload_n 0, 1) := by decide +kernel
theorem dd_M_read_61 : decode bb_M_read 61 = .ok (.iload_n 1, 1) := by decide +kernel
theorem dd_M_read_62 : decode bb_M_read 62 = .ok (.invokevirtual 171, 3) := by decide +kernel
theorem dd_M_read_65 : decode bb_M_read 65 = .ok (.ifCond .eq 19, 3) := by decide +kernel
theorem dd_M_read_68 : decode bb_M_read 68 = .ok (.aload_n 0, 1) := by decide +kernel
theorem dd_M_read_69 : decode bb_M_read 69 = .ok (.iload_n 1, 1) := by decide +kernel
theorem dd_M_read_70 : decode bb_M_read 70 = .ok (.aload_n 0, 1) := by decide +kernel
theorem dd_M_read_71 : decode bb_M_read 71 = .ok (.iload_n 1, 1) := by decide +kernel
theorem dd_M_read_72 : decode bb_M_read 72 = .ok (.iconst 2, 1) := by decide +kernel
theorem dd_M_read_73 : decode bb_M_read 73 = .ok (.invokevirtual 69, 3) := by decide +kernel
theorem dd_M_read_76 : decode bb_M_read 76 = .ok (.iconst 2, 1) := by decide +kernel
theorem dd_M_read_77 : decode bb_M_read 77 = .ok (.iadd, 1) := by decide +kernel
theorem dd_M_read_78 : decode bb_M_read 78 = .ok (.iload_n 2, 1) := by decide +kernel
theorem dd_M_read_79 : decode bb_M_read 79 = .ok (.iadd, 1) := by decide +kernel
theorem dd_M_read_80 : decode bb_M_read 80 = .ok (.invokevirtual 65, 3) := by decide +kernel
theorem dd_M_read_83 : decode bb_M_read 83 = .ok (.ireturn, 1) := by decide +kernel
theorem dd_M_read_84 : decode bb_M_read 84 = .ok (.aload_n 0, 1) := by decide +kernel
theorem dd_M_read_85 : decode bb_M_read 85 = .ok (.iload_n 1, 1) := by decide +kernel
theorem dd_M_read_86 : decode bb_M_read 86 = .ok (.invokevirtual 145, 3) := by decide +kernel
theorem dd_M_read_89 : decode bb_M_read 89 = .ok (.aload_n 0, 1) := by decide +kernel
theorem dd_M_read_90 : decode bb_M_read 90 = .ok (.getfield 27, 3) := by decide +kernel
theorem dd_M_read_93 : decode bb_M_read 93 = .ok (.iload_n 2, 1) := by decide +kernel
theorem dd_M_read_94 : decode bb_M_read 94 = .ok (.bipush 16, 2) := by decide +kernel
theorem dd_M_read_96 : decode bb_M_read 96 = .ok (.idiv, 1) := by decide +kernel
theorem dd_M_read_97 : decode bb_M_read 97 = .ok (.iaload, 1) := by decide +kernel
theorem dd_M_read_98 : decode bb_M_read 98 = .ok (.ifCond .ge 7, 3) := by decide +kernel
theorem dd_M_read_101 : decode bb_M_read 101 = .ok (.iconst 0, 1) := by decide +kernel
theorem dd_M_read_102 : decode bb_M_read 102 = .ok (.goto 25, 3) := by decide +kernel
theorem dd_M_read_105 : decode bb_M_read 105 = .ok (.aload_n 0, 1) := by decide +kernel
theorem dd_M_read_106 : decode bb_M_read 106 = .ok (.getfield 7, 3) := by decide +kernel
theorem dd_M_read_109 : decode bb_M_read 109 = .ok (.bipush 16, 2) := by decide +kernel
theorem dd_M_read_111 : decode bb_M_read 111 = .ok (.aload_n 0, 1) := by decide +kernel
theorem dd_M_read_112 : decode bb_M_read 112 = .ok (.getfield 27, 3) := by decide +kernel
theorem dd_M_read_115 : decode bb_M_read 115 = .ok (.iload_n 2, 1) := by decide +kernel
theorem dd_M_read_116 : decode bb_M_read 116 = .ok (.bipush 16, 2) := by decide +kernel
theorem dd_M_read_118 : decode bb_M_read 118 = .ok (.idiv, 1) := by decide +kernel
theorem dd_M_read_119 : decode bb_M_read 119 = .ok (.iaload, 1) := by decide +kernel
theorem dd_M_read_120 : decode bb_M_read 120 = .ok (.imul, 1) := by decide +kernel
theorem dd_M_read_121 : decode bb_M_read 121 = .ok (.iload_n 2, 1) := by decide +kernel
theorem dd_M_read_122 : decode bb_M_read 122 = .ok (.bipush 16, 2) := by decide +kernel
theorem dd_M_read_124 : decode bb_M_read 124 = .ok (.irem, 1) := by decide +kernel
theorem dd_M_read_125 : decode bb_M_read 125 = .ok (.iadd, 1) := by decide +kernel
theorem dd_M_read_126 : decode bb_M_read 126 = .ok (.iaload, 1) := by decide +kernel
theorem dd_M_read_127 : decode bb_M_read 127 = .ok (.ireturn, 1) := by decide +kernel
theorem dd_M_run_0 : decode bb_M_run 0 = .ok (.aload_n 0, 1) := by decide +kernel
theorem dd_M_run_1 : decode bb_M_run 1 = .ok (.iconst 0, 1) := by decide +kernel
theorem dd_M_run_2 : decode bb_M_run 2 = .ok (.putfield 54, 3) := by decide +kernel
theorem dd_M_run_5 : decode bb_M_run 5 = .ok (.aload_n 0, 1) := by decide +kernel
theorem dd_M_run_6 : decode bb_M_run 6 = .ok (.iload_n 1, 1) := by decide +kernel
theorem dd_M_run_7 : decode bb_M_run 7 = .ok (.iconst 1, 1) := by decide +kernel
theorem dd_M_run_8 : decode bb_M_run 8 = .ok (.invokevirtual 120, 3) := by decide +kernel
theorem dd_M_run_11 : decode bb_M_run 11 = .ok (.ifCond .eq 16, 3) := by decide +kernel
theorem dd_M_run_14 : decode bb_M_run 14 = .ok (.iload_n 2, 1) := by decide +kernel
theorem dd_M_run_15 : decode bb_M_run 15 = .ok (.ifCond .lt 12, 3) := by decide +kernel
theorem dd_M_run_18 : decode bb_M_run 18 = .ok (.iload_n 3, 1) := by decide +kernel
theorem dd_M_run_19 : decode bb_M_run 19 = .ok (.ifCond .lt 8, 3) := by decide +kernel
theorem dd_M_run_22 : decode bb_M_run 22 = .ok (.iload_n 3, 1) := by decide +kernel
theorem dd_M_run_23 : decode bb_M_run 23 = .ok (.iconst 1, 1) := by decide +kernel
theorem dd_M_run_24 : decode bb_M_run 24 = .ok (.if_icmp .le 5, 3) := by decide +kernel
theorem dd_M_run_27 : decode bb_M_run 27 = .ok (.iconst (-1), 1) := by decide +kernel
theorem dd_M_run_28 : decode bb_M_run 28 = .ok (.ireturn, 1) := by decide +kernel
theorem dd_M_run_29 : decode bb_M_run 29 = .ok (.iload_n 2, 1) := by decide +kernel
theorem dd_M_run_30 : decode bb_M_run 30 = .ok (.aload_n 0, 1) := by decide +kernel
theorem dd_M_run_31 : decode bb_M_run 31 = .ok (.iload_n 1, 1) := by decide +kernel
theorem dd_M_run_32 : decode bb_M_run 32 = .ok (.invokevirtual 212, 3) := by decide +kernel
theorem dd_M_run_35 : decode bb_M_run 35 = .ok (.if_icmp .lt 5, 3) := by decide +kernel
theorem dd_M_run_38 : decode bb_M_run 38 = .ok (.iconst (-1), 1) := by decide +kernel
theorem dd_M_run_39 : decode bb_M_run 39 = .ok (.ireturn, 1) := by decide +kernel
theorem dd_M_run_40 : decode bb_M_run 40 = .ok (.aload_n 0, 1) := by decide +kernel
theorem dd_M_run_41 : decode bb_M_run 41 = .ok (.iload_n 1, 1) := by decide +kernel
theorem dd_M_run_42 : decode bb_M_run 42 = .ok (.iconst 3, 1) := by decide +kernel
theorem dd_M_run_43 : decode bb_M_run 43 = .ok (.invokevirtual 69, 3) := by decide +kernel
theorem dd_M_run_46 : decode bb_M_run 46 = .ok (.iconst 4, 1) := by decide +kernel
theorem dd_M_run_47 : decode bb_M_run 47 = .ok (.iadd, 1) := by decide +kernel
theorem dd_M_run_48 : decode bb_M_run 48 = .ok (.istore 4, 2) := by decide +kernel
theorem dd_M_run_50 : decode bb_M_run 50 = .ok (.bipush 48, 2) := by decide +kernel
theorem dd_M_run_52 : decode bb_M_run 52 = .ok (.istore 5, 2) := by decide +kernel
theorem dd_M_run_54 : decode bb_M_run 54 = .ok (.iconst 0, 1) := by decide +kernel
theorem dd_M_run_55 : decode bb_M_run 55 = .ok (.istore 6, 2) := by decide +kernel
theorem dd_M_run_57 : decode bb_M_run 57 = .ok (.aload_n 0, 1) := by decide +kernel
theorem dd_M_run_58 : decode bb_M_run 58 = .ok (.iload_n 1, 1) := by decide +kernel
theorem dd_M_run_59 : decode bb_M_run 59 = .ok (.iload 4, 2) := by decide +kernel
theorem dd_M_run_61 : decode bb_M_run 61 = .ok (.invokevirtual 65, 3) := by decide +kernel
theorem dd_M_run_64 : decode bb_M_run 64 = .ok (.iconst 1, 1) := by decide +kernel
theorem dd_M_run_65 : decode bb_M_run 65 = .ok (.if_icmp .ne 7, 3) := by decide +kernel
theorem dd_M_run_68 : decode bb_M_run 68 = .ok (.iconst 1, 1) := by decide +kernel
theorem dd_M_run_69 : decode bb_M_run 69 = .ok (.goto 4, 3) := by decide +kernel
theorem dd_M_run_72 : decode bb_M_run 72 = .ok (.iconst 0, 1) := by decide +kernel
theorem dd_M_run_73 : decode bb_M_run 73 = .ok (.istore 7, 2) := by decide +kernel
theorem dd_M_run_75 : decode bb_M_run 75 = .ok (.iload 7, 2) := by decide +kernel
theorem dd_M_run_77 : decode bb_M_run 77 = .ok (.ifCond .ne 21, 3) := by decide +kernel
theorem dd_M_run_80 : decode bb_M_run 80 = .ok (.iload 5, 2) := by decide +kernel
theorem dd_M_run_82 : decode bb_M_run 82 = .ok (.aload_n 0, 1) := by decide +kernel
theorem dd_M_run_83 : decode bb_M_run 83 = .ok (.iload_n 1, 1) := by decide +kernel
theorem dd_M_run_84 : decode bb_M_run 84 = .ok (.iload 4, 2) := by decide +kernel
theorem dd_M_run_86 : decode bb_M_run 86 = .ok (.iconst 2, 1) := by decide +kernel
theorem dd_M_run_87 : decode bb_M_run 87 = .ok (.iadd, 1) := by decide +kernel
theorem dd_M_run_88 : decode bb_M_run 88 = .ok (.invokevirtual 65, 3) := by decide +kernel
theorem dd_M_run_91 : decode bb_M_run 91 = .ok (.iadd, 1) := by decide +kernel
theorem dd_M_run_92 : decode bb_M_run 92 = .ok (.sipush 255, 3) := by decide +kernel
theorem dd_M_run_95 : decode bb_M_run 95 = .ok (.iand, 1) := by decide +kernel
theorem dd_M_run_96 : decode bb_M_run 96 = .ok (.istore 5, 2) := by decide +kernel
theorem dd_M_run_98 : decode bb_M_run 98 = .ok (.iload 6, 2) := by decide +kernel
theorem dd_M_run_100 : decode bb_M_run 100 = .ok (.iload_n 2, 1) := by decide +kernel
theorem dd_M_run_101 : decode bb_M_run 101 = .ok (.if_icmp .ne 31, 3) := by decide +kernel
theorem dd_M_run_104 : decode bb_M_run 104 = .ok (.iload_n 3, 1) := by decide +kernel
theorem dd_M_run_105 : decode bb_M_run 105 = .ok (.ifCond .ne 15, 3) := by decide +kernel
theorem dd_M_run_108 : decode bb_M_run 108 = .ok (.aload_n 0, 1) := by decide +kernel
theorem dd_M_run_109 : decode bb_M_run 109 = .ok (.iload_n 1, 1) := by decide +kernel
theorem dd_M_run_110 : decode bb_M_run 110 = .ok (.iload 4, 2) := by decide +kernel
theorem dd_M_run_112 : decode bb_M_run 112 = .ok (.iconst 1, 1) := by decide +kernel
theorem dd_M_run_113 : decode bb_M_run 113 = .ok (.iadd, 1) := by decide +kernel
theorem dd_M_run_114 : decode bb_M_run 114 = .ok (.invokevirtual 65, 3) := by decide +kernel
theorem dd_M_run_117 : decode bb_M_run 117 = .ok (.goto 14, 3) := by decide +kernel
theorem dd_M_run_120 : decode bb_M_run 120 = .ok (.iload 7, 2) := by decide +kernel
theorem dd_M_run_122 : decode bb_M_run 122 = .ok (.ifCond .eq 7, 3) := by decide +kernel
theorem dd_M_run_125 : decode bb_M_run 125 = .ok (.iconst (-1), 1) := by decide +kernel
theorem dd_M_run_126 : decode bb_M_run 126 = .ok (.goto 5, 3) := by decide +kernel
theorem dd_M_run_129 : decode bb_M_run 129 = .ok (.iload 5, 2) := by decide +kernel
theorem dd_M_run_131 : decode bb_M_run 131 = .ok (.ireturn, 1) := by decide +kernel
theorem dd_M_run_132 : decode bb_M_run 132 = .ok (.iinc 6 1, 3) := by decide +kernel
theorem dd_M_run_135 : decode bb_M_run 135 = .ok (.iload 4, 2) := by decide +kernel
theorem dd_M_run_137 : decode bb_M_run 137 = .ok (.iload 7, 2) := by decide +kernel
theorem dd_M_run_139 : decode bb_M_run 139 = .ok (.ifCond .eq 7, 3) := by decide +kernel
theorem dd_M_run_142 : decode bb_M_run 142 = .ok (.iconst 2, 1) := by decide +kernel
theorem dd_M_run_143 : decode bb_M_run 143 = .ok (.goto 4, 3) := by decide +kernel
theorem dd_M_run_146 : decode bb_M_run 146 = .ok (.iconst 3, 1) := by decide +kernel
theorem dd_M_run_147 : decode bb_M_run 147 = .ok (.iadd, 1) := by decide +kernel
theorem dd_M_run_148 : decode bb_M_run 148 = .ok (.istore 4, 2) := by decide +kernel
theorem dd_M_run_150 : decode bb_M_run 150 = .ok (.goto (-93), 3) := by decide +kernel
theorem dd_M_free_0 : decode bb_M_free 0 = .ok (.aload_n 0, 1) := by decide +kernel
theorem dd_M_free_1 : decode bb_M_free 1 = .ok (.iconst 0, 1) := by decide +kernel
theorem dd_M_free_2 : decode bb_M_free 2 = .ok (.putfield 54, 3) := by decide +kernel
theorem dd_M_free_5 : decode bb_M_free 5 = .ok (.aload_n 0, 1) := by decide +kernel
theorem dd_M_free_6 : decode bb_M_free 6 = .ok (.getfield 50, 3) := by decide +kernel
theorem dd_M_free_9 : decode bb_M_free 9 = .ok (.ifCond .eq 10, 3) := by decide +kernel
theorem dd_M_free_12 : decode bb_M_free 12 = .ok (.aload_n 0, 1) := by decide +kernel
theorem dd_M_free_13 : decode bb_M_free 13 = .ok (.invokevirtual 161, 3) := by decide +kernel
theorem dd_M_free_16 : decode bb_M_free 16 = .ok (.goto 4, 3) := by decide +kernel
theorem dd_M_free_19 : decode bb_M_free 19 = .ok (.iconst 0, 1) := by decide +kernel
theorem dd_M_free_20 : decode bb_M_free 20 = .ok (.ireturn, 1) := by decide +kernel
theorem dd_M_at_0 : decode bb_M_at 0 = .ok (.aload_n 0, 1) := by decide +kernel
theorem dd_M_at_1 : decode bb_M_at 1 = .ok (.iconst 0, 1) := by decide +kernel
theorem dd_M_at_2 : decode bb_M_at 2 = .ok (.putfield 54, 3) := by decide +kernel
theorem dd_M_at_5 : decode bb_M_at 5 = .ok (.iload_n 1, 1) := by decide +kernel
theorem dd_M_at_6 : decode bb_M_at 6 = .ok (.ifCond .lt 10, 3) := by decide +kernel
theorem dd_M_at_9 : decode bb_M_at 9 = .ok (.iload_n 1, 1) := by decide +kernel
theorem dd_M_at_10 : decode bb_M_at 10 = .ok (.sipush 2047, 3) := by decide +kernel
theorem dd_M_at_13 : decode bb_M_at 13 = .ok (.if_icmp .le 7, 3) := by decide +kernel
theorem dd_M_at_16 : decode bb_M_at 16 = .ok (.iconst (-1), 1) := by decide +kernel
theorem dd_M_at_17 : decode bb_M_at 17 = .ok (.goto 9, 3) := by decide +kernel
theorem dd_M_at_20 : decode bb_M_at 20 = .ok (.aload_n 0, 1) := by decide +kernel
theorem dd_M_at_21 : decode bb_M_at 21 = .ok (.getfield 7, 3) := by decide +kernel
theorem dd_M_at_24 : decode bb_M_at 24 = .ok (.iload_n 1, 1) := by decide +kernel
theorem dd_M_at_25 : decode bb_M_at 25 = .ok (.iaload, 1) := by decide +kernel
theorem dd_M_at_26 : decode bb_M_at 26 = .ok (.ireturn, 1) := by decide +kernel
theorem dd_D_init_0 : decode bb_D_init 0 = .ok (.aload_n 0, 1) := by decide +kernel
theorem dd_D_init_1 : decode bb_D_init 1 = .ok (.invokespecial 3, 3) := by decide +kernel
theorem dd_D_init_4 : decode bb_D_init 4 = .ok (.aload_n 0, 1) := by decide +kernel
theorem dd_D_init_5 : decode bb_D_init 5 = .ok (.sipush 2048, 3) := by decide +kernel
theorem dd_D_init_8 : decode bb_D_init 8 = .ok (.newarray .int, 2) := by decide +kernel
theorem dd_D_init_10 : decode bb_D_init 10 = .ok (.putfield 9, 3) := by decide +kernel
theorem dd_D_init_13 : decode bb_D_init 13 = .ok (.return_, 1) := by decide +kernel
theorem dd_D_isCutNow_0 : decode bb_D_isCutNow 0 = .ok (.aload_n 0, 1) := by decide +kernel
theorem dd_D_isCutNow_1 : decode bb_D_isCutNow 1 = .ok (.getfield 15, 3) := by decide +kernel
theorem dd_D_isCutNow_4 : decode bb_D_isCutNow 4 = .ok (.ifCond .ne 5, 3) := by decide +kernel
theorem dd_D_isCutNow_7 : decode bb_D_isCutNow 7 = .ok (.iconst 0, 1) := by decide +kernel
theorem dd_D_isCutNow_8 : decode bb_D_isCutNow 8 = .ok (.ireturn, 1) := by decide +kernel
theorem dd_D_isCutNow_9 : decode bb_D_isCutNow 9 = .ok (.aload_n 0, 1) := by decide +kernel
theorem dd_D_isCutNow_10 : decode bb_D_isCutNow 10 = .ok (.dup, 1) := by decide +kernel
theorem dd_D_isCutNow_11 : decode bb_D_isCutNow 11 = .ok (.getfield 15, 3) := by decide +kernel
theorem dd_D_isCutNow_14 : decode bb_D_isCutNow 14 = .ok (.iconst 1, 1) := by decide +kernel
theorem dd_D_isCutNow_15 : decode bb_D_isCutNow 15 = .ok (.isub, 1) := by decide +kernel
theorem dd_D_isCutNow_16 : decode bb_D_isCutNow 16 = .ok (.putfield 15, 3) := by decide +kernel
theorem dd_D_isCutNow_19 : decode bb_D_isCutNow 19 = .ok (.aload_n 0, 1) := by decide +kernel
theorem dd_D_isCutNow_20 : decode bb_D_isCutNow 20 = .ok (.getfield 15, 3) := by decide +kernel
theorem dd_D_isCutNow_23 : decode bb_D_isCutNow 23 = .ok (.ifCond .ne 7, 3) := by decide +kernel
theorem dd_D_isCutNow_26 : decode bb_D_isCutNow 26 = .ok (.iconst 1, 1) := by decide +kernel
theorem dd_D_isCutNow_27 : decode bb_D_isCutNow 27 = .ok (.goto 4, 3) := by decide +kernel
theorem dd_D_isCutNow_30 : decode bb_D_isCutNow 30 = .ok (.iconst 0, 1) := by decide +kernel
theorem dd_D_isCutNow_31 : decode bb_D_isCutNow 31 = .ok (.ireturn, 1) := by decide +kernel
theorem dd_D_laySector_0 : decode bb_D_laySector 0 = .ok (.iload_n 2, 1) := by decide +kernel
theorem dd_D_laySector_1 : decode bb_D_laySector 1 = .ok (.bipush 32, 2) := by decide +kernel
theorem dd_D_laySector_3 : decode bb_D_laySector 3 = .ok (.imul, 1) := by decide +kernel
theorem dd_D_laySector_4 : decode bb_D_laySector 4 = .ok (.istore 4, 2) := by decide +kernel
theorem dd_D_laySector_6 : decode bb_D_laySector 6 = .ok (.aload_n 3, 1) := by decide +kernel
theorem dd_D_laySector_7 : decode bb_D_laySector 7 = .ok (.iload 4, 2) := by decide +kernel
theorem dd_D_laySector_9 : decode bb_D_laySector 9 = .ok (.aload_n 0, 1) := by decide +kernel
theorem dd_D_laySector_10 : decode bb_D_laySector 10 = .ok (.getfield 9, 3) := by decide +kernel
theorem dd_D_laySector_13 : decode bb_D_laySector 13 = .ok (.iload_n 1, 1) := by decide +kernel
theorem dd_D_laySector_14 : decode bb_D_laySector 14 = .ok (.bipush 64, 2) := by decide +kernel
theorem dd_D_laySector_16 : decode bb_D_laySector 16 = .ok (.imul, 1) := by decide +kernel
theorem dd_D_laySector_17 : decode bb_D_laySector 17 = .ok (.iload 4, 2) := by decide +kernel
theorem dd_D_laySector_19 : decode bb_D_laySector 19 = .ok (.iadd, 1) := by decide +kernel
theorem dd_D_laySector_20 : decode bb_D_laySector 20 = .ok (.bipush 32, 2) := by decide +kernel
theorem dd_D_laySector_22 : decode bb_D_laySector 22 = .ok (.invokestatic 19, 3) := by decide +kernel
theorem dd_D_laySector_25 : decode bb_D_laySector 25 = .ok (.return_, 1) := by decide +kernel
theorem dd_D_liftRecord_0 : decode bb_D_liftRecord 0 = .ok (.aload_n 0, 1) := by decide +kernel
theorem dd_D_liftRecord_1 : decode bb_D_liftRecord 1 = .ok (.getfield 9, 3) := by decide +kernel
theorem dd_D_liftRecord_4 : decode bb_D_liftRecord 4 = .ok (.iload_n 1, 1) := by decide +kernel
theorem dd_D_liftRecord_5 : decode bb_D_liftRecord 5 = .ok (.bipush 64, 2) := by decide +kernel
theorem dd_D_liftRecord_7 : decode bb_D_liftRecord 7 = .ok (.imul, 1) := by decide +kernel
theorem dd_D_liftRecord_8 : decode bb_D_liftRecord 8 = .ok (.aload_n 2, 1) := by decide +kernel
theorem dd_D_liftRecord_9 : decode bb_D_liftRecord 9 = .ok (.iconst 0, 1) := by decide +kernel
theorem dd_D_liftRecord_10 : decode bb_D_liftRecord 10 = .ok (.bipush 64, 2) := by decide +kernel
theorem dd_D_liftRecord_12 : decode bb_D_liftRecord 12 = .ok (.invokestatic 19, 3) := by decide +kernel
theorem dd_D_liftRecord_15 : decode bb_D_liftRecord 15 = .ok (.return_, 1) := by decide +kernel
theorem dd_D_fileByte_0 : decode bb_D_fileByte 0 = .ok (.aload_n 1, 1) := by decide +kernel
theorem dd_D_fileByte_1 : decode bb_D_fileByte 1 = .ok (.iload_n 2, 1) := by decide +kernel
theorem dd_D_fileByte_2 : decode bb_D_fileByte 2 = .ok (.bipush 16, 2) := by decide +kernel
theorem dd_D_fileByte_4 : decode bb_D_fileByte 4 = .ok (.idiv, 1) := by decide +kernel
theorem dd_D_fileByte_5 : decode bb_D_fileByte 5 = .ok (.invokevirtual 25, 3) := by decide +kernel
theorem dd_D_fileByte_8 : decode bb_D_fileByte 8 = .ok (.istore_n 3, 1) := by decide +kernel
theorem dd_D_fileByte_9 : decode bb_D_fileByte 9 = .ok (.iload_n 3, 1) := by decide +kernel
theorem dd_D_fileByte_10 : decode bb_D_fileByte 10 = .ok (.invokestatic 31, 3) := by decide +kernel
theorem dd_D_fileByte_13 : decode bb_D_fileByte 13 = .ok (.ifCond .eq 20, 3) := by decide +kernel
theorem dd_D_fileByte_16 : decode bb_D_fileByte 16 = .ok (.aload_n 0, 1) := by decide +kernel
theorem dd_D_fileByte_17 : decode bb_D_fileByte 17 = .ok (.getfield 9, 3) := by decide +kernel
theorem dd_D_fileByte_20 : decode bb_D_fileByte 20 = .ok (.iload_n 3, 1) := by decide +kernel
theorem dd_D_fileByte_21 : decode bb_D_fileByte 21 = .ok (.bipush 16, 2) := by decide +kernel
theorem dd_D_fileByte_23 : decode bb_D_fileByte 23 = .ok (.imul, 1) := by decide +kernel
theorem dd_D_fileByte_24 : decode bb_D_fileByte 24 = .ok (.iload_n 2, 1) := by decide +kernel
theorem dd_D_fileByte_25 : decode bb_D_fileByte 25 = .ok (.bipush 16, 2) := by decide +kernel
theorem dd_D_fileByte_27 : decode bb_D_fileByte 27 = .ok (.irem, 1) := by decide +kernel
theorem dd_D_fileByte_28 : decode bb_D_fileByte 28 = .ok (.iadd, 1) := by decide +kernel
theorem dd_D_fileByte_29 : decode bb_D_fileByte 29 = .ok (.iaload, 1) := by decide +kernel
theorem dd_D_fileByte_30 : decode bb_D_fileByte 30 = .ok (.goto 4, 3) := by decide +kernel
theorem dd_D_fileByte_33 : decode bb_D_fileByte 33 = .ok (.iconst 0, 1) := by decide +kernel
theorem dd_D_fileByte_34 : decode bb_D_fileByte 34 = .ok (.ireturn, 1) := by decide +kernel
theorem dd_D_putFileByte_0 : decode bb_D_putFileByte 0 = .ok (.aload_n 1, 1) := by decide +kernel
theorem dd_D_putFileByte_1 : decode bb_D_putFileByte 1 = .ok (.iload_n 2, 1) := by decide +kernel
theorem dd_D_putFileByte_2 : decode bb_D_putFileByte 2 = .ok (.bipush 16, 2) := by decide +kernel
theorem dd_D_putFileByte_4 : decode bb_D_putFileByte 4 = .ok (.idiv, 1) := by decide +kernel
theorem dd_D_putFileByte_5 : decode bb_D_putFileByte 5 = .ok (.invokevirtual 25, 3) := by decide +kernel
theorem dd_D_putFileByte_8 : decode bb_D_putFileByte 8 = .ok (.istore 4, 2) := by decide +kernel
theorem dd_D_putFileByte_10 : decode bb_D_putFileByte 10 = .ok (.iload 4, 2) := by decide +kernel
theorem dd_D_putFileByte_12 : decode bb_D_putFileByte 12 = .ok (.invokestatic 31, 3) := by decide +kernel
theorem dd_D_putFileByte_15 : decode bb_D_putFileByte 15 = .ok (.ifCond .eq 19, 3) := by decide +kernel
theorem dd_D_putFileByte_18 : decode bb_D_putFileByte 18 = .ok (.aload_n 0, 1) := by decide +kernel
theorem dd_D_putFileByte_19 : decode bb_D_putFileByte 19 = .ok (.getfield 9, 3) := by decide +kernel
theorem dd_D_putFileByte_22 : decode bb_D_putFileByte 22 = .ok (.iload 4, 2) := by decide +kernel
theorem dd_D_putFileByte_24 : decode bb_D_putFileByte 24 = .ok (.bipush 16, 2) := by decide +kernel
theorem dd_D_putFileByte_26 : decode bb_D_putFileByte 26 = .ok (.imul, 1) := by decide +kernel
theorem dd_D_putFileByte_27 : decode bb_D_putFileByte 27 = .ok (.iload_n 2, 1) := by decide +kernel
theorem dd_D_putFileByte_28 : decode bb_D_putFileByte 28 = .ok (.bipush 16, 2) := by decide +kernel
theorem dd_D_putFileByte_30 : decode bb_D_putFileByte 30 = .ok (.irem, 1) := by decide +kernel
theorem dd_D_putFileByte_31 : decode bb_D_putFileByte 31 = .ok (.iadd, 1) := by decide +kernel
theorem dd_D_putFileByte_32 : decode bb_D_putFileByte 32 = .ok (.iload_n 3, 1) := by decide +kernel
theorem dd_D_putFileByte_33 : decode bb_D_putFileByte 33 = .ok (.iastore, 1) := by decide +kernel
theorem dd_D_putFileByte_34 : decode bb_D_putFileByte 34 = .ok (.return_, 1) := by decide +kernel
theorem dd_D_clearFile_0 : decode bb_D_clearFile 0 = .ok (.iload_n 2, 1) := by decide +kernel
theorem dd_D_clearFile_1 : decode bb_D_clearFile 1 = .ok (.istore 4, 2) := by decide +kernel
theorem dd_D_clearFile_3 : decode bb_D_clearFile 3 = .ok (.iload 4, 2) := by decide +kernel
theorem dd_D_clearFile_5 : decode bb_D_clearFile 5 = .ok (.iload_n 3, 1) := by decide +kernel
theorem dd_D_clearFile_6 : decode bb_D_clearFile 6 = .ok (.if_icmp .ge 17, 3) := by decide +kernel
theorem dd_D_clearFile_9 : decode bb_D_clearFile 9 = .ok (.aload_n 0, 1) := by decide +kernel
theorem dd_D_clearFile_10 : decode bb_D_clearFile 10 = .ok (.aload_n 1, 1) := by decide +kernel
theorem dd_D_clearFile_11 : decode bb_D_clearFile 11 = .ok (.iload 4, 2) := by decide +kernel
theorem dd_D_clearFile_13 : decode bb_D_clearFile 13 = .ok (.iconst 0, 1) := by decide +kernel
theorem dd_D_clearFile_14 : decode bb_D_clearFile 14 = .ok (.invokevirtual 35, 3) := by decide +kernel
theorem dd_D_clearFile_17 : decode bb_D_clearFile 17 = .ok (.iinc 4 1, 3) := by decide +kernel
theorem dd_D_clearFile_20 : decode bb_D_clearFile 20 = .ok (.goto (-17), 3) := by decide +kernel
theorem dd_D_clearFile_23 : decode bb_D_clearFile 23 = .ok (.return_, 1) := by decide +kernel
theorem dd_Y_init_0 : decode bb_Y_init 0 = .ok (.aload_n 0, 1) := by decide +kernel
theorem dd_Y_init_1 : decode bb_Y_init 1 = .ok (.invokespecial 3, 3) := by decide +kernel
theorem dd_Y_init_4 : decode bb_Y_init 4 = .ok (.aload_n 0, 1) := by decide +kernel
theorem dd_Y_init_5 : decode bb_Y_init 5 = .ok (.bipush 63, 2) := by decide +kernel
theorem dd_Y_init_7 : decode bb_Y_init 7 = .ok (.newarray .int, 2) := by decide +kernel
theorem dd_Y_init_9 : decode bb_Y_init 9 = .ok (.putfield 9, 3) := by decide +kernel
theorem dd_Y_init_12 : decode bb_Y_init 12 = .ok (.return_, 1) := by decide +kernel
theorem dd_Y_placeOf_0 : decode bb_Y_placeOf 0 = .ok (.iload_n 1, 1) := by decide +kernel
theorem dd_Y_placeOf_1 : decode bb_Y_placeOf 1 = .ok (.ifCond .lt 20, 3) := by decide +kernel
theorem dd_Y_placeOf_4 : decode bb_Y_placeOf 4 = .ok (.iload_n 1, 1) := by decide +kernel
theorem dd_Y_placeOf_5 : decode bb_Y_placeOf 5 = .ok (.aload_n 0, 1) := by decide +kernel
theorem dd_Y_placeOf_6 : decode bb_Y_placeOf 6 = .ok (.getfield 15, 3) := by decide +kernel
theorem dd_Y_placeOf_9 : decode bb_Y_placeOf 9 = .ok (.if_icmp .ge 12, 3) := by decide +kernel
theorem dd_Y_placeOf_12 : decode bb_Y_placeOf 12 = .ok (.aload_n 0, 1) := by decide +kernel
theorem dd_Y_placeOf_13 : decode bb_Y_placeOf 13 = .ok (.getfield 9, 3) := by decide +kernel
theorem dd_Y_placeOf_16 : decode bb_Y_placeOf 16 = .ok (.iload_n 1, 1) := by decide +kernel
theorem dd_Y_placeOf_17 : decode bb_Y_placeOf 17 = .ok (.iaload, 1) := by decide +kernel
theorem dd_Y_placeOf_18 : decode bb_Y_placeOf 18 = .ok (.goto 4, 3) := by decide +kernel
theorem dd_Y_placeOf_21 : decode bb_Y_placeOf 21 = .ok (.iconst (-1), 1) := by decide +kernel
theorem dd_Y_placeOf_22 : decode bb_Y_placeOf 22 = .ok (.ireturn, 1) := by decide +kernel
theorem dd_Y_append_0 : decode bb_Y_append 0 = .ok (.iconst 0, 1) := by decide +kernel
theorem dd_Y_append_1 : decode bb_Y_append 1 = .ok (.istore_n 3, 1) := by decide +kernel
theorem dd_Y_append_2 : decode bb_Y_append 2 = .ok (.iload_n 3, 1) := by decide +kernel
theorem dd_Y_append_3 : decode bb_Y_append 3 = .ok (.iload_n 2, 1) := by decide +kernel
theorem dd_Y_append_4 : decode bb_Y_append 4 = .ok (.if_icmp .ge 52, 3) := by decide +kernel
theorem dd_Y_append_7 : decode bb_Y_append 7 = .ok (.aload_n 0, 1) := by decide +kernel
theorem dd_Y_append_8 : decode bb_Y_append 8 = .ok (.getfield 15, 3) := by decide +kernel
theorem dd_Y_append_11 : decode bb_Y_append 11 = .ok (.aload_n 0, 1) := by decide +kernel
theorem dd_Y_append_12 : decode bb_Y_append 12 = .ok (.getfield 9, 3) := by decide +kernel
theorem dd_Y_append_15 : decode bb_Y_append 15 = .ok (.arraylength, 1) := by decide +kernel
theorem dd_Y_append_16 : decode bb_Y_append 16 = .ok (.if_icmp .ge 40, 3) := by decide +kernel
theorem dd_Y_append_19 : decode bb_Y_append 19 = .ok (.aload_n 0, 1) := by decide +kernel
theorem dd_Y_append_20 : decode bb_Y_append 20 = .ok (.getfield 9, 3) := by decide +kernel
theorem dd_Y_append_23 : decode bb_Y_append 23 = .ok (.aload_n 0, 1) := by decide +kernel
theorem dd_Y_append_24 : decode bb_Y_append 24 = .ok (.getfield 15, 3) := by decide +kernel
theorem dd_Y_append_27 : decode bb_Y_append 27 = .ok (.iload_n 1, 1) := by decide +kernel
theorem dd_Y_append_28 : decode bb_Y_append 28 = .ok (.iconst (-1), 1) := by decide +kernel
theorem dd_Y_append_29 : decode bb_Y_append 29 = .ok (.if_icmp .ne 7, 3) := by decide +kernel
theorem dd_Y_append_32 : decode bb_Y_append 32 = .ok (.iconst (-1), 1) := by decide +kernel
theorem dd_Y_append_33 : decode bb_Y_append 33 = .ok (.goto 6, 3) := by decide +kernel
theorem dd_Y_append_36 : decode bb_Y_append 36 = .ok (.iload_n 1, 1) := by decide +kernel
theorem dd_Y_append_37 : decode bb_Y_append 37 = .ok (.iload_n 3, 1) := by decide +kernel
theorem dd_Y_append_38 : decode bb_Y_append 38 = .ok (.iadd, 1) := by decide +kernel
theorem dd_Y_append_39 : decode bb_Y_append 39 = .ok (.iastore, 1) := by decide +kernel
theorem dd_Y_append_40 : decode bb_Y_append 40 = .ok (.aload_n 0, 1) := by decide +kernel
theorem dd_Y_append_41 : decode bb_Y_append 41 = .ok (.dup, 1) := by decide +kernel
theorem dd_Y_append_42 : decode bb_Y_append 42 = .ok (.getfield 15, 3) := by decide +kernel
theorem dd_Y_append_45 : decode bb_Y_append 45 = .ok (.iconst 1, 1) := by decide +kernel
theorem dd_Y_append_46 : decode bb_Y_append 46 = .ok (.iadd, 1) := by decide +kernel
theorem dd_Y_append_47 : decode bb_Y_append 47 = .ok (.putfield 15, 3) := by decide +kernel
theorem dd_Y_append_50 : decode bb_Y_append 50 = .ok (.iinc 3 1, 3) := by decide +kernel
theorem dd_Y_append_53 : decode bb_Y_append 53 = .ok (.goto (-51), 3) := by decide +kernel
theorem dd_Y_append_56 : decode bb_Y_append 56 = .ok (.return_, 1) := by decide +kernel
theorem dd_Y_copyFrom_0 : decode bb_Y_copyFrom 0 = .ok (.aload_n 1, 1) := by decide +kernel
theorem dd_Y_copyFrom_1 : decode bb_Y_copyFrom 1 = .ok (.getfield 9, 3) := by decide +kernel
theorem dd_Y_copyFrom_4 : decode bb_Y_copyFrom 4 = .ok (.iconst 0, 1) := by decide +kernel
theorem dd_Y_copyFrom_5 : decode bb_Y_copyFrom 5 = .ok (.aload_n 0, 1) := by decide +kernel
theorem dd_Y_copyFrom_6 : decode bb_Y_copyFrom 6 = .ok (.getfield 9, 3) := by decide +kernel
theorem dd_Y_copyFrom_9 : decode bb_Y_copyFrom 9 = .ok (.iconst 0, 1) := by decide +kernel
theorem dd_Y_copyFrom_10 : decode bb_Y_copyFrom 10 = .ok (.aload_n 1, 1) := by decide +kernel
theorem dd_Y_copyFrom_11 : decode bb_Y_copyFrom 11 = .ok (.getfield 15, 3) := by decide +kernel
theorem dd_Y_copyFrom_14 : decode bb_Y_copyFrom 14 = .ok (.invokestatic 19, 3) := by decide +kernel
theorem dd_Y_copyFrom_17 : decode bb_Y_copyFrom 17 = .ok (.aload_n 0, 1) := by decide +kernel
theorem dd_Y_copyFrom_18 : decode bb_Y_copyFrom 18 = .ok (.aload_n 1, 1) := by decide +kernel
theorem dd_Y_copyFrom_19 : decode bb_Y_copyFrom 19 = .ok (.getfield 15, 3) := by decide +kernel
theorem dd_Y_copyFrom_22 : decode bb_Y_copyFrom 22 = .ok (.putfield 15, 3) := by decide +kernel
theorem dd_Y_copyFrom_25 : decode bb_Y_copyFrom 25 = .ok (.return_, 1) := by decide +kernel
