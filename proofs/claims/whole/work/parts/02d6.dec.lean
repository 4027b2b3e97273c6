theorem dd_Y_startsRun_0 : decode bb_Y_startsRun 0 = .ok (.iload_n 1, 1) := by decide +kernel
theorem dd_Y_startsRun_1 : decode bb_Y_startsRun 1 = .ok (.ifCond .ne 5, 3) := by decide +kernel
theorem dd_Y_startsRun_4 : decode bb_Y_startsRun 4 = .ok (.iconst 1, 1) := by decide +kernel
theorem dd_Y_startsRun_5 : decode bb_Y_startsRun 5 = .ok (.ireturn, 1) := by decide +kernel
theorem dd_Y_startsRun_6 : decode bb_Y_startsRun 6 = .ok (.aload_n 0, 1) := by decide +kernel
theorem dd_Y_startsRun_7 : decode bb_Y_startsRun 7 = .ok (.getfield 9, 3) := by decide +kernel
theorem dd_Y_startsRun_10 : decode bb_Y_startsRun 10 = .ok (.iload_n 1, 1) := by decide +kernel
theorem dd_Y_startsRun_11 : decode bb_Y_startsRun 11 = .ok (.iaload, 1) := by decide +kernel
theorem dd_Y_startsRun_12 : decode bb_Y_startsRun 12 = .ok (.iconst (-1), 1) := by decide +kernel
theorem dd_Y_startsRun_13 : decode bb_Y_startsRun 13 = .ok (.if_icmp .eq 15, 3) := by decide +kernel
theorem dd_Y_startsRun_16 : decode bb_Y_startsRun 16 = .ok (.aload_n 0, 1) := by decide +kernel
theorem dd_Y_startsRun_17 : decode bb_Y_startsRun 17 = .ok (.getfield 9, 3) := by decide +kernel
theorem dd_Y_startsRun_20 : decode bb_Y_startsRun 20 = .ok (.iload_n 1, 1) := by decide +kernel
theorem dd_Y_startsRun_21 : decode bb_Y_startsRun 21 = .ok (.iconst 1, 1) := by decide +kernel
theorem dd_Y_startsRun_22 : decode bb_Y_startsRun 22 = .ok (.isub, 1) := by decide +kernel
theorem dd_Y_startsRun_23 : decode bb_Y_startsRun 23 = .ok (.iaload, 1) := by decide +kernel
theorem dd_Y_startsRun_24 : decode bb_Y_startsRun 24 = .ok (.iconst (-1), 1) := by decide +kernel
theorem dd_Y_startsRun_25 : decode bb_Y_startsRun 25 = .ok (.if_icmp .ne 26, 3) := by decide +kernel
theorem dd_Y_startsRun_28 : decode bb_Y_startsRun 28 = .ok (.aload_n 0, 1) := by decide +kernel
theorem dd_Y_startsRun_29 : decode bb_Y_startsRun 29 = .ok (.getfield 9, 3) := by decide +kernel
theorem dd_Y_startsRun_32 : decode bb_Y_startsRun 32 = .ok (.iload_n 1, 1) := by decide +kernel
theorem dd_Y_startsRun_33 : decode bb_Y_startsRun 33 = .ok (.iaload, 1) := by decide +kernel
theorem dd_Y_startsRun_34 : decode bb_Y_startsRun 34 = .ok (.aload_n 0, 1) := by decide +kernel
theorem dd_Y_startsRun_35 : decode bb_Y_startsRun 35 = .ok (.getfield 9, 3) := by decide +kernel
theorem dd_Y_startsRun_38 : decode bb_Y_startsRun 38 = .ok (.iload_n 1, 1) := by decide +kernel
theorem dd_Y_startsRun_39 : decode bb_Y_startsRun 39 = .ok (.iconst 1, 1) := by decide +kernel
theorem dd_Y_startsRun_40 : decode bb_Y_startsRun 40 = .ok (.isub, 1) := by decide +kernel
theorem dd_Y_startsRun_41 : decode bb_Y_startsRun 41 = .ok (.iaload, 1) := by decide +kernel
theorem dd_Y_startsRun_42 : decode bb_Y_startsRun 42 = .ok (.if_icmp .eq 7, 3) := by decide +kernel
theorem dd_Y_startsRun_45 : decode bb_Y_startsRun 45 = .ok (.iconst 1, 1) := by decide +kernel
theorem dd_Y_startsRun_46 : decode bb_Y_startsRun 46 = .ok (.goto 4, 3) := by decide +kernel
theorem dd_Y_startsRun_49 : decode bb_Y_startsRun 49 = .ok (.iconst 0, 1) := by decide +kernel
theorem dd_Y_startsRun_50 : decode bb_Y_startsRun 50 = .ok (.ireturn, 1) := by decide +kernel
theorem dd_Y_startsRun_51 : decode bb_Y_startsRun 51 = .ok (.aload_n 0, 1) := by decide +kernel
theorem dd_Y_startsRun_52 : decode bb_Y_startsRun 52 = .ok (.getfield 9, 3) := by decide +kernel
theorem dd_Y_startsRun_55 : decode bb_Y_startsRun 55 = .ok (.iload_n 1, 1) := by decide +kernel
theorem dd_Y_startsRun_56 : decode bb_Y_startsRun 56 = .ok (.iaload, 1) := by decide +kernel
theorem dd_Y_startsRun_57 : decode bb_Y_startsRun 57 = .ok (.aload_n 0, 1) := by decide +kernel
theorem dd_Y_startsRun_58 : decode bb_Y_startsRun 58 = .ok (.getfield 9, 3) := by decide +kernel
theorem dd_Y_startsRun_61 : decode bb_Y_startsRun 61 = .ok (.iload_n 1, 1) := by decide +kernel
theorem dd_Y_startsRun_62 : decode bb_Y_startsRun 62 = .ok (.iconst 1, 1) := by decide +kernel
theorem dd_Y_startsRun_63 : decode bb_Y_startsRun 63 = .ok (.isub, 1) := by decide +kernel
theorem dd_Y_startsRun_64 : decode bb_Y_startsRun 64 = .ok (.iaload, 1) := by decide +kernel
theorem dd_Y_startsRun_65 : decode bb_Y_startsRun 65 = .ok (.iconst 1, 1) := by decide +kernel
theorem dd_Y_startsRun_66 : decode bb_Y_startsRun 66 = .ok (.iadd, 1) := by decide +kernel
theorem dd_Y_startsRun_67 : decode bb_Y_startsRun 67 = .ok (.if_icmp .eq 7, 3) := by decide +kernel
theorem dd_Y_startsRun_70 : decode bb_Y_startsRun 70 = .ok (.iconst 1, 1) := by decide +kernel
theorem dd_Y_startsRun_71 : decode bb_Y_startsRun 71 = .ok (.goto 4, 3) := by decide +kernel
theorem dd_Y_startsRun_74 : decode bb_Y_startsRun 74 = .ok (.iconst 0, 1) := by decide +kernel
theorem dd_Y_startsRun_75 : decode bb_Y_startsRun 75 = .ok (.ireturn, 1) := by decide +kernel
theorem dd_Y_runCount_0 : decode bb_Y_runCount 0 = .ok (.iconst 0, 1) := by decide +kernel
theorem dd_Y_runCount_1 : decode bb_Y_runCount 1 = .ok (.istore_n 1, 1) := by decide +kernel
theorem dd_Y_runCount_2 : decode bb_Y_runCount 2 = .ok (.iconst 0, 1) := by decide +kernel
theorem dd_Y_runCount_3 : decode bb_Y_runCount 3 = .ok (.istore_n 2, 1) := by decide +kernel
theorem dd_Y_runCount_4 : decode bb_Y_runCount 4 = .ok (.iload_n 2, 1) := by decide +kernel
theorem dd_Y_runCount_5 : decode bb_Y_runCount 5 = .ok (.aload_n 0, 1) := by decide +kernel
theorem dd_Y_runCount_6 : decode bb_Y_runCount 6 = .ok (.getfield 15, 3) := by decide +kernel
theorem dd_Y_runCount_9 : decode bb_Y_runCount 9 = .ok (.if_icmp .ge 20, 3) := by decide +kernel
theorem dd_Y_runCount_12 : decode bb_Y_runCount 12 = .ok (.aload_n 0, 1) := by decide +kernel
theorem dd_Y_runCount_13 : decode bb_Y_runCount 13 = .ok (.iload_n 2, 1) := by decide +kernel
theorem dd_Y_runCount_14 : decode bb_Y_runCount 14 = .ok (.invokevirtual 25, 3) := by decide +kernel
theorem dd_Y_runCount_17 : decode bb_Y_runCount 17 = .ok (.ifCond .eq 6, 3) := by decide +kernel
theorem dd_Y_runCount_20 : decode bb_Y_runCount 20 = .ok (.iinc 1 1, 3) := by decide +kernel
theorem dd_Y_runCount_23 : decode bb_Y_runCount 23 = .ok (.iinc 2 1, 3) := by decide +kernel
theorem dd_Y_runCount_26 : decode bb_Y_runCount 26 = .ok (.goto (-22), 3) := by decide +kernel
theorem dd_Y_runCount_29 : decode bb_Y_runCount 29 = .ok (.iload_n 1, 1) := by decide +kernel
theorem dd_Y_runCount_30 : decode bb_Y_runCount 30 = .ok (.ireturn, 1) := by decide +kernel
theorem dd_Y_startOfRun_0 : decode bb_Y_startOfRun 0 = .ok (.iconst 0, 1) := by decide +kernel
theorem dd_Y_startOfRun_1 : decode bb_Y_startOfRun 1 = .ok (.istore_n 2, 1) := by decide +kernel
theorem dd_Y_startOfRun_2 : decode bb_Y_startOfRun 2 = .ok (.iconst 0, 1) := by decide +kernel
theorem dd_Y_startOfRun_3 : decode bb_Y_startOfRun 3 = .ok (.istore_n 3, 1) := by decide +kernel
theorem dd_Y_startOfRun_4 : decode bb_Y_startOfRun 4 = .ok (.iload_n 3, 1) := by decide +kernel
theorem dd_Y_startOfRun_5 : decode bb_Y_startOfRun 5 = .ok (.aload_n 0, 1) := by decide +kernel
theorem dd_Y_startOfRun_6 : decode bb_Y_startOfRun 6 = .ok (.getfield 15, 3) := by decide +kernel
theorem dd_Y_startOfRun_9 : decode bb_Y_startOfRun 9 = .ok (.if_icmp .ge 27, 3) := by decide +kernel
theorem dd_Y_startOfRun_12 : decode bb_Y_startOfRun 12 = .ok (.aload_n 0, 1) := by decide +kernel
theorem dd_Y_startOfRun_13 : decode bb_Y_startOfRun 13 = .ok (.iload_n 3, 1) := by decide +kernel
theorem dd_Y_startOfRun_14 : decode bb_Y_startOfRun 14 = .ok (.invokevirtual 25, 3) := by decide +kernel
theorem dd_Y_startOfRun_17 : decode bb_Y_startOfRun 17 = .ok (.ifCond .eq 13, 3) := by decide +kernel
theorem dd_Y_startOfRun_20 : decode bb_Y_startOfRun 20 = .ok (.iload_n 2, 1) := by decide +kernel
theorem dd_Y_startOfRun_21 : decode bb_Y_startOfRun 21 = .ok (.iload_n 1, 1) := by decide +kernel
theorem dd_Y_startOfRun_22 : decode bb_Y_startOfRun 22 = .ok (.if_icmp .ne 5, 3) := by decide +kernel
theorem dd_Y_startOfRun_25 : decode bb_Y_startOfRun 25 = .ok (.iload_n 3, 1) := by decide +kernel
theorem dd_Y_startOfRun_26 : decode bb_Y_startOfRun 26 = .ok (.ireturn, 1) := by decide +kernel
theorem dd_Y_startOfRun_27 : decode bb_Y_startOfRun 27 = .ok (.iinc 2 1, 3) := by decide +kernel
theorem dd_Y_startOfRun_30 : decode bb_Y_startOfRun 30 = .ok (.iinc 3 1, 3) := by decide +kernel
theorem dd_Y_startOfRun_33 : decode bb_Y_startOfRun 33 = .ok (.goto (-29), 3) := by decide +kernel
theorem dd_Y_startOfRun_36 : decode bb_Y_startOfRun 36 = .ok (.iconst (-1), 1) := by decide +kernel
theorem dd_Y_startOfRun_37 : decode bb_Y_startOfRun 37 = .ok (.ireturn, 1) := by decide +kernel
theorem dd_Y_lengthOfRun_0 : decode bb_Y_lengthOfRun 0 = .ok (.iload_n 1, 1) := by decide +kernel
theorem dd_Y_lengthOfRun_1 : decode bb_Y_lengthOfRun 1 = .ok (.iconst 1, 1) := by decide +kernel
theorem dd_Y_lengthOfRun_2 : decode bb_Y_lengthOfRun 2 = .ok (.iadd, 1) := by decide +kernel
theorem dd_Y_lengthOfRun_3 : decode bb_Y_lengthOfRun 3 = .ok (.istore_n 2, 1) := by decide +kernel
theorem dd_Y_lengthOfRun_4 : decode bb_Y_lengthOfRun 4 = .ok (.iload_n 2, 1) := by decide +kernel
theorem dd_Y_lengthOfRun_5 : decode bb_Y_lengthOfRun 5 = .ok (.aload_n 0, 1) := by decide +kernel
theorem dd_Y_lengthOfRun_6 : decode bb_Y_lengthOfRun 6 = .ok (.getfield 15, 3) := by decide +kernel
theorem dd_Y_lengthOfRun_9 : decode bb_Y_lengthOfRun 9 = .ok (.if_icmp .ge 17, 3) := by decide +kernel
theorem dd_Y_lengthOfRun_12 : decode bb_Y_lengthOfRun 12 = .ok (.aload_n 0, 1) := by decide +kernel
theorem dd_Y_lengthOfRun_13 : decode bb_Y_lengthOfRun 13 = .ok (.iload_n 2, 1) := by decide +kernel
theorem dd_Y_lengthOfRun_14 : decode bb_Y_lengthOfRun 14 = .ok (.invokevirtual 25, 3) := by decide +kernel
theorem dd_Y_lengthOfRun_17 : decode bb_Y_lengthOfRun 17 = .ok (.ifCond .ne 9, 3) := by decide +kernel
theorem dd_Y_lengthOfRun_20 : decode bb_Y_lengthOfRun 20 = .ok (.iinc 2 1, 3) := by decide +kernel
theorem dd_Y_lengthOfRun_23 : decode bb_Y_lengthOfRun 23 = .ok (.goto (-19), 3) := by decide +kernel
theorem dd_Y_lengthOfRun_26 : decode bb_Y_lengthOfRun 26 = .ok (.iload_n 2, 1) := by decide +kernel
theorem dd_Y_lengthOfRun_27 : decode bb_Y_lengthOfRun 27 = .ok (.iload_n 1, 1) := by decide +kernel
theorem dd_Y_lengthOfRun_28 : decode bb_Y_lengthOfRun 28 = .ok (.isub, 1) := by decide +kernel
theorem dd_Y_lengthOfRun_29 : decode bb_Y_lengthOfRun 29 = .ok (.ireturn, 1) := by decide +kernel
theorem dd_Y_attributeBytes_0 : decode bb_Y_attributeBytes 0 = .ok (.iconst 5, 1) := by decide +kernel
theorem dd_Y_attributeBytes_1 : decode bb_Y_attributeBytes 1 = .ok (.istore_n 1, 1) := by decide +kernel
theorem dd_Y_attributeBytes_2 : decode bb_Y_attributeBytes 2 = .ok (.iconst 0, 1) := by decide +kernel
theorem dd_Y_attributeBytes_3 : decode bb_Y_attributeBytes 3 = .ok (.istore_n 2, 1) := by decide +kernel
theorem dd_Y_attributeBytes_4 : decode bb_Y_attributeBytes 4 = .ok (.iload_n 2, 1) := by decide +kernel
theorem dd_Y_attributeBytes_5 : decode bb_Y_attributeBytes 5 = .ok (.aload_n 0, 1) := by decide +kernel
theorem dd_Y_attributeBytes_6 : decode bb_Y_attributeBytes 6 = .ok (.getfield 15, 3) := by decide +kernel
theorem dd_Y_attributeBytes_9 : decode bb_Y_attributeBytes 9 = .ok (.if_icmp .ge 35, 3) := by decide +kernel
theorem dd_Y_attributeBytes_12 : decode bb_Y_attributeBytes 12 = .ok (.aload_n 0, 1) := by decide +kernel
theorem dd_Y_attributeBytes_13 : decode bb_Y_attributeBytes 13 = .ok (.iload_n 2, 1) := by decide +kernel
theorem dd_Y_attributeBytes_14 : decode bb_Y_attributeBytes 14 = .ok (.invokevirtual 25, 3) := by decide +kernel
theorem dd_Y_attributeBytes_17 : decode bb_Y_attributeBytes 17 = .ok (.ifCond .eq 21, 3) := by decide +kernel
theorem dd_Y_attributeBytes_20 : decode bb_Y_attributeBytes 20 = .ok (.iload_n 1, 1) := by decide +kernel
theorem dd_Y_attributeBytes_21 : decode bb_Y_attributeBytes 21 = .ok (.aload_n 0, 1) := by decide +kernel
theorem dd_Y_attributeBytes_22 : decode bb_Y_attributeBytes 22 = .ok (.getfield 9, 3) := by decide +kernel
theorem dd_Y_attributeBytes_25 : decode bb_Y_attributeBytes 25 = .ok (.iload_n 2, 1) := by decide +kernel
theorem dd_Y_attributeBytes_26 : decode bb_Y_attributeBytes 26 = .ok (.iaload, 1) := by decide +kernel
theorem dd_Y_attributeBytes_27 : decode bb_Y_attributeBytes 27 = .ok (.iconst (-1), 1) := by decide +kernel
theorem dd_Y_attributeBytes_28 : decode bb_Y_attributeBytes 28 = .ok (.if_icmp .ne 7, 3) := by decide +kernel
theorem dd_Y_attributeBytes_31 : decode bb_Y_attributeBytes 31 = .ok (.iconst 2, 1) := by decide +kernel
theorem dd_Y_attributeBytes_32 : decode bb_Y_attributeBytes 32 = .ok (.goto 4, 3) := by decide +kernel
theorem dd_Y_attributeBytes_35 : decode bb_Y_attributeBytes 35 = .ok (.iconst 3, 1) := by decide +kernel
theorem dd_Y_attributeBytes_36 : decode bb_Y_attributeBytes 36 = .ok (.iadd, 1) := by decide +kernel
theorem dd_Y_attributeBytes_37 : decode bb_Y_attributeBytes 37 = .ok (.istore_n 1, 1) := by decide +kernel
theorem dd_Y_attributeBytes_38 : decode bb_Y_attributeBytes 38 = .ok (.iinc 2 1, 3) := by decide +kernel
theorem dd_Y_attributeBytes_41 : decode bb_Y_attributeBytes 41 = .ok (.goto (-37), 3) := by decide +kernel
theorem dd_Y_attributeBytes_44 : decode bb_Y_attributeBytes 44 = .ok (.iload_n 1, 1) := by decide +kernel
theorem dd_Y_attributeBytes_45 : decode bb_Y_attributeBytes 45 = .ok (.ireturn, 1) := by decide +kernel
theorem dd_Y_encode_0 : decode bb_Y_encode 0 = .ok (.iload_n 2, 1) := by decide +kernel
theorem dd_Y_encode_1 : decode bb_Y_encode 1 = .ok (.istore_n 3, 1) := by decide +kernel
theorem dd_Y_encode_2 : decode bb_Y_encode 2 = .ok (.iload_n 2, 1) := by decide +kernel
theorem dd_Y_encode_3 : decode bb_Y_encode 3 = .ok (.istore 4, 2) := by decide +kernel
theorem dd_Y_encode_5 : decode bb_Y_encode 5 = .ok (.bipush 48, 2) := by decide +kernel
theorem dd_Y_encode_7 : decode bb_Y_encode 7 = .ok (.istore 5, 2) := by decide +kernel
theorem dd_Y_encode_9 : decode bb_Y_encode 9 = .ok (.iconst 0, 1) := by decide +kernel
theorem dd_Y_encode_10 : decode bb_Y_encode 10 = .ok (.istore 6, 2) := by decide +kernel
theorem dd_Y_encode_12 : decode bb_Y_encode 12 = .ok (.iload 6, 2) := by decide +kernel
theorem dd_Y_encode_14 : decode bb_Y_encode 14 = .ok (.aload_n 0, 1) := by decide +kernel
theorem dd_Y_encode_15 : decode bb_Y_encode 15 = .ok (.getfield 15, 3) := by decide +kernel
theorem dd_Y_encode_18 : decode bb_Y_encode 18 = .ok (.if_icmp .ge 88, 3) := by decide +kernel
theorem dd_Y_encode_21 : decode bb_Y_encode 21 = .ok (.aload_n 0, 1) := by decide +kernel
theorem dd_Y_encode_22 : decode bb_Y_encode 22 = .ok (.iload 6, 2) := by decide +kernel
theorem dd_Y_encode_24 : decode bb_Y_encode 24 = .ok (.invokevirtual 25, 3) := by decide +kernel
theorem dd_Y_encode_27 : decode bb_Y_encode 27 = .ok (.ifCond .eq 65, 3) := by decide +kernel
theorem dd_Y_encode_30 : decode bb_Y_encode 30 = .ok (.iload_n 3, 1) := by decide +kernel
theorem dd_Y_encode_31 : decode bb_Y_encode 31 = .ok (.iconst 1, 1) := by decide +kernel
theorem dd_Y_encode_32 : decode bb_Y_encode 32 = .ok (.iadd, 1) := by decide +kernel
theorem dd_Y_encode_33 : decode bb_Y_encode 33 = .ok (.istore 4, 2) := by decide +kernel
theorem dd_Y_encode_35 : decode bb_Y_encode 35 = .ok (.aload_n 0, 1) := by decide +kernel
theorem dd_Y_encode_36 : decode bb_Y_encode 36 = .ok (.getfield 9, 3) := by decide +kernel
theorem dd_Y_encode_39 : decode bb_Y_encode 39 = .ok (.iload 6, 2) := by decide +kernel
theorem dd_Y_encode_41 : decode bb_Y_encode 41 = .ok (.iaload, 1) := by decide +kernel
theorem dd_Y_encode_42 : decode bb_Y_encode 42 = .ok (.iconst (-1), 1) := by decide +kernel
theorem dd_Y_encode_43 : decode bb_Y_encode 43 = .ok (.if_icmp .ne 13, 3) := by decide +kernel
theorem dd_Y_encode_46 : decode bb_Y_encode 46 = .ok (.aload_n 1, 1) := by decide +kernel
theorem dd_Y_encode_47 : decode bb_Y_encode 47 = .ok (.iload_n 3, 1) := by decide +kernel
theorem dd_Y_encode_48 : decode bb_Y_encode 48 = .ok (.iconst 1, 1) := by decide +kernel
theorem dd_Y_encode_49 : decode bb_Y_encode 49 = .ok (.iastore, 1) := by decide +kernel
theorem dd_Y_encode_50 : decode bb_Y_encode 50 = .ok (.iinc 3 2, 3) := by decide +kernel
theorem dd_Y_encode_53 : decode bb_Y_encode 53 = .ok (.goto 39, 3) := by decide +kernel
theorem dd_Y_encode_56 : decode bb_Y_encode 56 = .ok (.aload_n 1, 1) := by decide +kernel
theorem dd_Y_encode_57 : decode bb_Y_encode 57 = .ok (.iload_n 3, 1) := by decide +kernel
theorem dd_Y_encode_58 : decode bb_Y_encode 58 = .ok (.bipush 17, 2) := by decide +kernel
theorem dd_Y_encode_60 : decode bb_Y_encode 60 = .ok (.iastore, 1) := by decide +kernel
theorem dd_Y_encode_61 : decode bb_Y_encode 61 = .ok (.aload_n 1, 1) := by decide +kernel
theorem dd_Y_encode_62 : decode bb_Y_encode 62 = .ok (.iload_n 3, 1) := by decide +kernel
theorem dd_Y_encode_63 : decode bb_Y_encode 63 = .ok (.iconst 2, 1) := by decide +kernel
theorem dd_Y_encode_64 : decode bb_Y_encode 64 = .ok (.iadd, 1) := by decide +kernel
theorem dd_Y_encode_65 : decode bb_Y_encode 65 = .ok (.aload_n 0, 1) := by decide +kernel
theorem dd_Y_encode_66 : decode bb_Y_encode 66 = .ok (.getfield 9, 3) := by decide +kernel
theorem dd_Y_encode_69 : decode bb_Y_encode 69 = .ok (.iload 6, 2) := by decide +kernel
theorem dd_Y_encode_71 : decode bb_Y_encode 71 = .ok (.iaload, 1) := by decide +kernel
theorem dd_Y_encode_72 : decode bb_Y_encode 72 = .ok (.iload 5, 2) := by decide +kernel
theorem dd_Y_encode_74 : decode bb_Y_encode 74 = .ok (.isub, 1) := by decide +kernel
theorem dd_Y_encode_75 : decode bb_Y_encode 75 = .ok (.sipush 255, 3) := by decide +kernel
theorem dd_Y_encode_78 : decode bb_Y_encode 78 = .ok (.iand, 1) := by decide +kernel
theorem dd_Y_encode_79 : decode bb_Y_encode 79 = .ok (.iastore, 1) := by decide +kernel
theorem dd_Y_encode_80 : decode bb_Y_encode 80 = .ok (.aload_n 0, 1) := by decide +kernel
theorem dd_Y_encode_81 : decode bb_Y_encode 81 = .ok (.getfield 9, 3) := by decide +kernel
theorem dd_Y_encode_84 : decode bb_Y_encode 84 = .ok (.iload 6, 2) := by decide +kernel
theorem dd_Y_encode_86 : decode bb_Y_encode 86 = .ok (.iaload, 1) := by decide +kernel
theorem dd_Y_encode_87 : decode bb_Y_encode 87 = .ok (.istore 5, 2) := by decide +kernel
theorem dd_Y_encode_89 : decode bb_Y_encode 89 = .ok (.iinc 3 3, 3) := by decide +kernel
theorem dd_Y_encode_92 : decode bb_Y_encode 92 = .ok (.aload_n 1, 1) := by decide +kernel
theorem dd_Y_encode_93 : decode bb_Y_encode 93 = .ok (.iload 4, 2) := by decide +kernel
theorem dd_Y_encode_95 : decode bb_Y_encode 95 = .ok (.dup2, 1) := by decide +kernel
theorem dd_Y_encode_96 : decode bb_Y_encode 96 = .ok (.iaload, 1) := by decide +kernel
theorem dd_Y_encode_97 : decode bb_Y_encode 97 = .ok (.iconst 1, 1) := by decide +kernel
theorem dd_Y_encode_98 : decode bb_Y_encode 98 = .ok (.iadd, 1) := by decide +kernel
theorem dd_Y_encode_99 : decode bb_Y_encode 99 = .ok (.iastore, 1) := by decide +kernel
theorem dd_Y_encode_100 : decode bb_Y_encode 100 = .ok (.iinc 6 1, 3) := by decide +kernel
theorem dd_Y_encode_103 : decode bb_Y_encode 103 = .ok (.goto (-91), 3) := by decide +kernel
theorem dd_Y_encode_106 : decode bb_Y_encode 106 = .ok (.iload_n 3, 1) := by decide +kernel
theorem dd_Y_encode_107 : decode bb_Y_encode 107 = .ok (.ireturn, 1) := by decide +kernel
theorem dd_Y_decode_0 : decode bb_Y_decode 0 = .ok (.iload_n 2, 1) := by decide +kernel
theorem dd_Y_decode_1 : decode bb_Y_decode 1 = .ok (.istore 4, 2) := by decide +kernel
theorem dd_Y_decode_3 : decode bb_Y_decode 3 = .ok (.bipush 48, 2) := by decide +kernel
theorem dd_Y_decode_5 : decode bb_Y_decode 5 = .ok (.istore 5, 2) := by decide +kernel
theorem dd_Y_decode_7 : decode bb_Y_decode 7 = .ok (.aload_n 0, 1) := by decide +kernel
theorem dd_Y_decode_8 : decode bb_Y_decode 8 = .ok (.iconst 0, 1) := by decide +kernel
theorem dd_Y_decode_9 : decode bb_Y_decode 9 = .ok (.putfield 15, 3) := by decide +kernel
theorem dd_Y_decode_12 : decode bb_Y_decode 12 = .ok (.iload 4, 2) := by decide +kernel
theorem dd_Y_decode_14 : decode bb_Y_decode 14 = .ok (.iconst 2, 1) := by decide +kernel
theorem dd_Y_decode_15 : decode bb_Y_decode 15 = .ok (.iadd, 1) := by decide +kernel
theorem dd_Y_decode_16 : decode bb_Y_decode 16 = .ok (.iload_n 3, 1) := by decide +kernel
theorem dd_Y_decode_17 : decode bb_Y_decode 17 = .ok (.if_icmp .ge 69, 3) := by decide +kernel
theorem dd_Y_decode_20 : decode bb_Y_decode 20 = .ok (.aload_n 1, 1) := by decide +kernel
theorem dd_Y_decode_21 : decode bb_Y_decode 21 = .ok (.iload 4, 2) := by decide +kernel
theorem dd_Y_decode_23 : decode bb_Y_decode 23 = .ok (.iaload, 1) := by decide +kernel
theorem dd_Y_decode_24 : decode bb_Y_decode 24 = .ok (.ifCond .eq 62, 3) := by decide +kernel
theorem dd_Y_decode_27 : decode bb_Y_decode 27 = .ok (.aload_n 1, 1) := by decide +kernel
theorem dd_Y_decode_28 : decode bb_Y_decode 28 = .ok (.iload 4, 2) := by decide +kernel
theorem dd_Y_decode_30 : decode bb_Y_decode 30 = .ok (.iaload, 1) := by decide +kernel
theorem dd_Y_decode_31 : decode bb_Y_decode 31 = .ok (.bipush 17, 2) := by decide +kernel
theorem dd_Y_decode_33 : decode bb_Y_decode 33 = .ok (.if_icmp .ne 36, 3) := by decide +kernel
theorem dd_Y_decode_36 : decode bb_Y_decode 36 = .ok (.iload 5, 2) := by decide +kernel
theorem dd_Y_decode_38 : decode bb_Y_decode 38 = .ok (.aload_n 1, 1) := by decide +kernel
theorem dd_Y_decode_39 : decode bb_Y_decode 39 = .ok (.iload 4, 2) := by decide +kernel
theorem dd_Y_decode_41 : decode bb_Y_decode 41 = .ok (.iconst 2, 1) := by decide +kernel
theorem dd_Y_decode_42 : decode bb_Y_decode 42 = .ok (.iadd, 1) := by decide +kernel
theorem dd_Y_decode_43 : decode bb_Y_decode 43 = .ok (.iaload, 1) := by decide +kernel
theorem dd_Y_decode_44 : decode bb_Y_decode 44 = .ok (.iadd, 1) := by decide +kernel
theorem dd_Y_decode_45 : decode bb_Y_decode 45 = .ok (.sipush 255, 3) := by decide +kernel
theorem dd_Y_decode_48 : decode bb_Y_decode 48 = .ok (.iand, 1) := by decide +kernel
theorem dd_Y_decode_49 : decode bb_Y_decode 49 = .ok (.istore 5, 2) := by decide +kernel
theorem dd_Y_decode_51 : decode bb_Y_decode 51 = .ok (.aload_n 0, 1) := by decide +kernel
theorem dd_Y_decode_52 : decode bb_Y_decode 52 = .ok (.iload 5, 2) := by decide +kernel
theorem dd_Y_decode_54 : decode bb_Y_decode 54 = .ok (.aload_n 1, 1) := by decide +kernel
theorem dd_Y_decode_55 : decode bb_Y_decode 55 = .ok (.iload 4, 2) := by decide +kernel
theorem dd_Y_decode_57 : decode bb_Y_decode 57 = .ok (.iconst 1, 1) := by decide +kernel
theorem dd_Y_decode_58 : decode bb_Y_decode 58 = .ok (.iadd, 1) := by decide +kernel
theorem dd_Y_decode_59 : decode bb_Y_decode 59 = .ok (.iaload, 1) := by decide +kernel
theorem dd_Y_decode_60 : decode bb_Y_decode 60 = .ok (.invokevirtual 29, 3) := by decide +kernel
theorem dd_Y_decode_63 : decode bb_Y_decode 63 = .ok (.iinc 4 3, 3) := by decide +kernel
theorem dd_Y_decode_66 : decode bb_Y_decode 66 = .ok (.goto (-54), 3) := by decide +kernel
theorem dd_Y_decode_69 : decode bb_Y_decode 69 = .ok (.aload_n 0, 1) := by decide +kernel
theorem dd_Y_decode_70 : decode bb_Y_decode 70 = .ok (.iconst (-1), 1) := by decide +kernel
theorem dd_Y_decode_71 : decode bb_Y_decode 71 = .ok (.aload_n 1, 1) := by decide +kernel
theorem dd_Y_decode_72 : decode bb_Y_decode 72 = .ok (.iload 4, 2) := by decide +kernel
theorem dd_Y_decode_74 : decode bb_Y_decode 74 = .ok (.iconst 1, 1) := by decide +kernel
theorem dd_Y_decode_75 : decode bb_Y_decode 75 = .ok (.iadd, 1) := by decide +kernel
theorem dd_Y_decode_76 : decode bb_Y_decode 76 = .ok (.iaload, 1) := by decide +kernel
theorem dd_Y_decode_77 : decode bb_Y_decode 77 = .ok (.invokevirtual 29, 3) := by decide +kernel
theorem dd_Y_decode_80 : decode bb_Y_decode 80 = .ok (.iinc 4 2, 3) := by decide +kernel
theorem dd_Y_decode_83 : decode bb_Y_decode 83 = .ok (.goto (-71), 3) := by decide +kernel
theorem dd_Y_decode_86 : decode bb_Y_decode 86 = .ok (.return_, 1) := by decide +kernel
theorem dd_N_init_0 : decode bb_N_init 0 = .ok (.aload_n 0, 1) := by decide +kernel
theorem dd_N_init_1 : decode bb_N_init 1 = .ok (.invokespecial 3, 3) := by decide +kernel
theorem dd_N_init_4 : decode bb_N_init 4 = .ok (.aload_n 0, 1) := by decide +kernel
theorem dd_N_init_5 : decode bb_N_init 5 = .ok (.bipush 8, 2) := by decide +kernel
theorem dd_N_init_7 : decode bb_N_init 7 = .ok (.newarray .int, 2) := by decide +kernel
theorem dd_N_init_9 : decode bb_N_init 9 = .ok (.putfield 9, 3) := by decide +kernel
theorem dd_N_init_12 : decode bb_N_init 12 = .ok (.return_, 1) := by decide +kernel
theorem dd_N_append_0 : decode bb_N_append 0 = .ok (.iload_n 1, 1) := by decide +kernel
theorem dd_N_append_1 : decode bb_N_append 1 = .ok (.bipush 97, 2) := by decide +kernel
theorem dd_N_append_3 : decode bb_N_append 3 = .ok (.if_icmp .lt 9, 3) := by decide +kernel
theorem dd_N_append_6 : decode bb_N_append 6 = .ok (.iload_n 1, 1) := by decide +kernel
theorem dd_N_append_7 : decode bb_N_append 7 = .ok (.bipush 122, 2) := by decide +kernel
theorem dd_N_append_9 : decode bb_N_append 9 = .ok (.if_icmp .le 15, 3) := by decide +kernel
theorem dd_N_append_12 : decode bb_N_append 12 = .ok (.iload_n 1, 1) := by decide +kernel
theorem dd_N_append_13 : decode bb_N_append 13 = .ok (.bipush 48, 2) := by decide +kernel
theorem dd_N_append_15 : decode bb_N_append 15 = .ok (.if_icmp .lt 13, 3) := by decide +kernel
theorem dd_N_append_18 : decode bb_N_append 18 = .ok (.iload_n 1, 1) := by decide +kernel
theorem dd_N_append_19 : decode bb_N_append 19 = .ok (.bipush 57, 2) := by decide +kernel
theorem dd_N_append_21 : decode bb_N_append 21 = .ok (.if_icmp .gt 7, 3) := by decide +kernel
theorem dd_N_append_24 : decode bb_N_append 24 = .ok (.iconst 1, 1) := by decide +kernel
theorem dd_N_append_25 : decode bb_N_append 25 = .ok (.goto 4, 3) := by decide +kernel
theorem dd_N_append_28 : decode bb_N_append 28 = .ok (.iconst 0, 1) := by decide +kernel
theorem dd_N_append_29 : decode bb_N_append 29 = .ok (.istore_n 2, 1) := by decide +kernel
theorem dd_N_append_30 : decode bb_N_append 30 = .ok (.iload_n 2, 1) := by decide +kernel
theorem dd_N_append_31 : decode bb_N_append 31 = .ok (.ifCond .eq 12, 3) := by decide +kernel
theorem dd_N_append_34 : decode bb_N_append 34 = .ok (.aload_n 0, 1) := by decide +kernel
theorem dd_N_append_35 : decode bb_N_append 35 = .ok (.getfield 15, 3) := by decide +kernel
theorem dd_N_append_38 : decode bb_N_append 38 = .ok (.bipush 8, 2) := by decide +kernel
theorem dd_N_append_40 : decode bb_N_append 40 = .ok (.if_icmp .lt 5, 3) := by decide +kernel
theorem dd_N_append_43 : decode bb_N_append 43 = .ok (.iconst 0, 1) := by decide +kernel
theorem dd_N_append_44 : decode bb_N_append 44 = .ok (.ireturn, 1) := by decide +kernel
theorem dd_N_append_45 : decode bb_N_append 45 = .ok (.aload_n 0, 1) := by decide +kernel
theorem dd_N_append_46 : decode bb_N_append 46 = .ok (.getfield 9, 3) := by decide +kernel
theorem dd_N_append_49 : decode bb_N_append 49 = .ok (.aload_n 0, 1) := by decide +kernel
theorem dd_N_append_50 : decode bb_N_append 50 = .ok (.getfield 15, 3) := by decide +kernel
theorem dd_N_append_53 : decode bb_N_append 53 = .ok (.iload_n 1, 1) := by decide +kernel
theorem dd_N_append_54 : decode bb_N_append 54 = .ok (.iastore, 1) := by decide +kernel
theorem dd_N_append_55 : decode bb_N_append 55 = .ok (.aload_n 0, 1) := by decide +kernel
theorem dd_N_append_56 : decode bb_N_append 56 = .ok (.dup, 1) := by decide +kernel
theorem dd_N_append_57 : decode bb_N_append 57 = .ok (.getfield 15, 3) := by decide +kernel
theorem dd_N_append_60 : decode bb_N_append 60 = .ok (.iconst 1, 1) := by decide +kernel
theorem dd_N_append_61 : decode bb_N_append 61 = .ok (.iadd, 1) := by decide +kernel
theorem dd_N_append_62 : decode bb_N_append 62 = .ok (.putfield 15, 3) := by decide +kernel
theorem dd_N_append_65 : decode bb_N_append 65 = .ok (.iconst 1, 1) := by decide +kernel
theorem dd_N_append_66 : decode bb_N_append 66 = .ok (.ireturn, 1) := by decide +kernel
theorem dd_N_clear_0 : decode bb_N_clear 0 = .ok (.aload_n 0, 1) := by decide +kernel
theorem dd_N_clear_1 : decode bb_N_clear 1 = .ok (.iconst 0, 1) := by decide +kernel
theorem dd_N_clear_2 : decode bb_N_clear 2 = .ok (.putfield 15, 3) := by decide +kernel
theorem dd_N_clear_5 : decode bb_N_clear 5 = .ok (.return_, 1) := by decide +kernel
theorem dd_N_copyFrom_0 : decode bb_N_copyFrom 0 = .ok (.aload_n 1, 1) := by decide +kernel
theorem dd_N_copyFrom_1 : decode bb_N_copyFrom 1 = .ok (.getfield 9, 3) := by decide +kernel
theorem dd_N_copyFrom_4 : decode bb_N_copyFrom 4 = .ok (.iconst 0, 1) := by decide +kernel
theorem dd_N_copyFrom_5 : decode bb_N_copyFrom 5 = .ok (.aload_n 0, 1) := by decide +kernel
theorem dd_N_copyFrom_6 : decode bb_N_copyFrom 6 = .ok (.getfield 9, 3) := by decide +kernel
theorem dd_N_copyFrom_9 : decode bb_N_copyFrom 9 = .ok (.iconst 0, 1) := by decide +kernel
theorem dd_N_copyFrom_10 : decode bb_N_copyFrom 10 = .ok (.bipush 8, 2) := by decide +kernel
theorem dd_N_copyFrom_12 : decode bb_N_copyFrom 12 = .ok (.invokestatic 19, 3) := by decide +kernel
theorem dd_N_copyFrom_15 : decode bb_N_copyFrom 15 = .ok (.aload_n 0, 1) := by decide +kernel
theorem dd_N_copyFrom_16 : decode bb_N_copyFrom 16 = .ok (.aload_n 1, 1) := by decide +kernel
theorem dd_N_copyFrom_17 : decode bb_N_copyFrom 17 = .ok (.getfield 15, 3) := by decide +kernel
theorem dd_N_copyFrom_20 : decode bb_N_copyFrom 20 = .ok (.putfield 15, 3) := by decide +kernel
theorem dd_N_copyFrom_23 : decode bb_N_copyFrom 23 = .ok (.return_, 1) := by decide +kernel
theorem dd_N_compare_0 : decode bb_N_compare 0 = .ok (.aload_n 0, 1) := by decide +kernel
theorem dd_N_compare_1 : decode bb_N_compare 1 = .ok (.getfield 15, 3) := by decide +kernel
theorem dd_N_compare_4 : decode bb_N_compare 4 = .ok (.aload_n 1, 1) := by decide +kernel
theorem dd_N_compare_5 : decode bb_N_compare 5 = .ok (.getfield 15, 3) := by decide +kernel
theorem dd_N_compare_8 : decode bb_N_compare 8 = .ok (.invokestatic 25, 3) := by decide +kernel
theorem dd_N_compare_11 : decode bb_N_compare 11 = .ok (.istore_n 2, 1) := by decide +kernel
theorem dd_N_compare_12 : decode bb_N_compare 12 = .ok (.iconst 0, 1) := by decide +kernel
theorem dd_N_compare_13 : decode bb_N_compare 13 = .ok (.istore_n 3, 1) := by decide +kernel
theorem dd_N_compare_14 : decode bb_N_compare 14 = .ok (.iload_n 3, 1) := by decide +kernel
theorem dd_N_compare_15 : decode bb_N_compare 15 = .ok (.iload_n 2, 1) := by decide +kernel
theorem dd_N_compare_16 : decode bb_N_compare 16 = .ok (.if_icmp .ge 38, 3) := by decide +kernel
theorem dd_N_compare_19 : decode bb_N_compare 19 = .ok (.aload_n 0, 1) := by decide +kernel
theorem dd_N_compare_20 : decode bb_N_compare 20 = .ok (.getfield 9, 3) := by decide +kernel
theorem dd_N_compare_23 : decode bb_N_compare 23 = .ok (.iload_n 3, 1) := by decide +kernel
theorem dd_N_compare_24 : decode bb_N_compare 24 = .ok (.iaload, 1) := by decide +kernel
theorem dd_N_compare_25 : decode bb_N_compare 25 = .ok (.aload_n 1, 1) := by decide +kernel
theorem dd_N_compare_26 : decode bb_N_compare 26 = .ok (.getfield 9, 3) := by decide +kernel
theorem dd_N_compare_29 : decode bb_N_compare 29 = .ok (.iload_n 3, 1) := by decide +kernel
theorem dd_N_compare_30 : decode bb_N_compare 30 = .ok (.iaload, 1) := by decide +kernel
theorem dd_N_compare_31 : decode bb_N_compare 31 = .ok (.if_icmp .eq 17, 3) := by decide +kernel
theorem dd_N_compare_34 : decode bb_N_compare 34 = .ok (.aload_n 0, 1) := by decide +kernel
theorem dd_N_compare_35 : decode bb_N_compare 35 = .ok (.getfield 9, 3) := by decide +kernel
theorem dd_N_compare_38 : decode bb_N_compare 38 = .ok (.iload_n 3, 1) := by decide +kernel
theorem dd_N_compare_39 : decode bb_N_compare 39 = .ok (.iaload, 1) := by decide +kernel
theorem dd_N_compare_40 : decode bb_N_compare 40 = .ok (.aload_n 1, 1) := by decide +kernel
theorem dd_N_compare_41 : decode bb_N_compare 41 = .ok (.getfield 9, 3) := by decide +kernel
theorem dd_N_compare_44 : decode bb_N_compare 44 = .ok (.iload_n 3, 1) := by decide +kernel
theorem dd_N_compare_45 : decode bb_N_compare 45 = .ok (.iaload, 1) := by decide +kernel
theorem dd_N_compare_46 : decode bb_N_compare 46 = .ok (.isub, 1) := by decide +kernel
theorem dd_N_compare_47 : decode bb_N_compare 47 = .ok (.ireturn, 1) := by decide +kernel
theorem dd_N_compare_48 : decode bb_N_compare 48 = .ok (.iinc 3 1, 3) := by decide +kernel
theorem dd_N_compare_51 : decode bb_N_compare 51 = .ok (.goto (-37), 3) := by decide +kernel
theorem dd_N_compare_54 : decode bb_N_compare 54 = .ok (.aload_n 0, 1) := by decide +kernel
theorem dd_N_compare_55 : decode bb_N_compare 55 = .ok (.getfield 15, 3) := by decide +kernel
theorem dd_N_compare_58 : decode bb_N_compare 58 = .ok (.aload_n 1, 1) := by decide +kernel
theorem dd_N_compare_59 : decode bb_N_compare 59 = .ok (.getfield 15, 3) := by decide +kernel
theorem dd_N_compare_62 : decode bb_N_compare 62 = .ok (.isub, 1) := by decide +kernel
theorem dd_N_compare_63 : decode bb_N_compare 63 = .ok (.ireturn, 1) := by decide +kernel
theorem dd_H_init_0 : decode bb_H_init 0 = .ok (.aload_n 0, 1) := by decide +kernel
theorem dd_H_init_1 : decode bb_H_init 1 = .ok (.invokespecial 3, 3) := by decide +kernel
theorem dd_H_init_4 : decode bb_H_init 4 = .ok (.aload_n 0, 1) := by decide +kernel
theorem dd_H_init_5 : decode bb_H_init 5 = .ok (.new 9, 3) := by decide +kernel
theorem dd_H_init_8 : decode bb_H_init 8 = .ok (.dup, 1) := by decide +kernel
theorem dd_H_init_9 : decode bb_H_init 9 = .ok (.invokespecial 11, 3) := by decide +kernel
theorem dd_H_init_12 : decode bb_H_init 12 = .ok (.putfield 12, 3) := by decide +kernel
theorem dd_H_init_15 : decode bb_H_init 15 = .ok (.aload_n 0, 1) := by decide +kernel
theorem dd_H_init_16 : decode bb_H_init 16 = .ok (.bipush 54, 2) := by decide +kernel
theorem dd_H_init_18 : decode bb_H_init 18 = .ok (.newarray .int, 2) := by decide +kernel
theorem dd_H_init_20 : decode bb_H_init 20 = .ok (.putfield 18, 3) := by decide +kernel
theorem dd_H_init_23 : decode bb_H_init 23 = .ok (.aload_n 0, 1) := by decide +kernel
theorem dd_H_init_24 : decode bb_H_init 24 = .ok (.new 22, 3) := by decide +kernel
theorem dd_H_init_27 : decode bb_H_init 27 = .ok (.dup, 1) := by decide +kernel
theorem dd_H_init_28 : decode bb_H_init 28 = .ok (.invokespecial 24, 3) := by decide +kernel
theorem dd_H_init_31 : decode bb_H_init 31 = .ok (.putfield 25, 3) := by decide +kernel
theorem dd_H_init_34 : decode bb_H_init 34 = .ok (.return_, 1) := by decide +kernel
theorem dd_H_become_0 : decode bb_H_become 0 = .ok (.aload_n 0, 1) := by decide +kernel
theorem dd_H_become_1 : decode bb_H_become 1 = .ok (.iload_n 1, 1) := by decide +kernel
theorem dd_H_become_2 : decode bb_H_become 2 = .ok (.putfield 29, 3) := by decide +kernel
theorem dd_H_become_5 : decode bb_H_become 5 = .ok (.aload_n 0, 1) := by decide +kernel
theorem dd_H_become_6 : decode bb_H_become 6 = .ok (.iload_n 2, 1) := by decide +kernel
theorem dd_H_become_7 : decode bb_H_become 7 = .ok (.putfield 33, 3) := by decide +kernel
theorem dd_H_become_10 : decode bb_H_become 10 = .ok (.aload_n 0, 1) := by decide +kernel
theorem dd_H_become_11 : decode bb_H_become 11 = .ok (.iload_n 1, 1) := by decide +kernel
theorem dd_H_become_12 : decode bb_H_become 12 = .ok (.iconst 1, 1) := by decide +kernel
theorem dd_H_become_13 : decode bb_H_become 13 = .ok (.if_icmp .ne 7, 3) := by decide +kernel
theorem dd_H_become_16 : decode bb_H_become 16 = .ok (.iconst 2, 1) := by decide +kernel
theorem dd_H_become_17 : decode bb_H_become 17 = .ok (.goto 13, 3) := by decide +kernel
theorem dd_H_become_20 : decode bb_H_become 20 = .ok (.iload_n 1, 1) := by decide +kernel
theorem dd_H_become_21 : decode bb_H_become 21 = .ok (.iconst 2, 1) := by decide +kernel
theorem dd_H_become_22 : decode bb_H_become 22 = .ok (.if_icmp .ne 7, 3) := by decide +kernel
theorem dd_H_become_25 : decode bb_H_become 25 = .ok (.iconst 4, 1) := by decide +kernel
theorem dd_H_become_26 : decode bb_H_become 26 = .ok (.goto 4, 3) := by decide +kernel
theorem dd_H_become_29 : decode bb_H_become 29 = .ok (.iconst 0, 1) := by decide +kernel
theorem dd_H_become_30 : decode bb_H_become 30 = .ok (.putfield 36, 3) := by decide +kernel
theorem dd_H_become_33 : decode bb_H_become 33 = .ok (.aload_n 0, 1) := by decide +kernel
theorem dd_H_become_34 : decode bb_H_become 34 = .ok (.iconst 0, 1) := by decide +kernel
theorem dd_H_become_35 : decode bb_H_become 35 = .ok (.putfield 39, 3) := by decide +kernel
theorem dd_H_become_38 : decode bb_H_become 38 = .ok (.aload_n 0, 1) := by decide +kernel
theorem dd_H_become_39 : decode bb_H_become 39 = .ok (.getfield 12, 3) := by decide +kernel
theorem dd_H_become_42 : decode bb_H_become 42 = .ok (.invokevirtual 42, 3) := by decide +kernel
theorem dd_H_become_45 : decode bb_H_become 45 = .ok (.aload_n 0, 1) := by decide +kernel
theorem dd_H_become_46 : decode bb_H_become 46 = .ok (.getfield 25, 3) := by decide +kernel
theorem dd_H_become_49 : decode bb_H_become 49 = .ok (.iconst 0, 1) := by decide +kernel
theorem dd_H_become_50 : decode bb_H_become 50 = .ok (.putfield 45, 3) := by decide +kernel
theorem dd_H_become_53 : decode bb_H_become 53 = .ok (.return_, 1) := by decide +kernel
theorem dd_H_takeNextNumber_0 : decode bb_H_takeNextNumber 0 = .ok (.aload_n 0, 1) := by decide +kernel
theorem dd_H_takeNextNumber_1 : decode bb_H_takeNextNumber 1 = .ok (.aload_n 0, 1) := by decide +kernel
theorem dd_H_takeNextNumber_2 : decode bb_H_takeNextNumber 2 = .ok (.getfield 48, 3) := by decide +kernel
theorem dd_H_takeNextNumber_5 : decode bb_H_takeNextNumber 5 = .ok (.ldc 51, 2) := by decide +kernel
theorem dd_H_takeNextNumber_7 : decode bb_H_takeNextNumber 7 = .ok (.if_icmp .lt 7, 3) := by decide +kernel
theorem dd_H_takeNextNumber_10 : decode bb_H_takeNextNumber 10 = .ok (.iconst 1, 1) := by decide +kernel
theorem dd_H_takeNextNumber_11 : decode bb_H_takeNextNumber 11 = .ok (.goto 9, 3) := by decide +kernel
theorem dd_H_takeNextNumber_14 : decode bb_H_takeNextNumber 14 = .ok (.aload_n 0, 1) := by decide +kernel
theorem dd_H_takeNextNumber_15 : decode bb_H_takeNextNumber 15 = .ok (.getfield 48, 3) := by decide +kernel
theorem dd_H_takeNextNumber_18 : decode bb_H_takeNextNumber 18 = .ok (.iconst 1, 1) := by decide +kernel
theorem dd_H_takeNextNumber_19 : decode bb_H_takeNextNumber 19 = .ok (.iadd, 1) := by decide +kernel
theorem dd_H_takeNextNumber_20 : decode bb_H_takeNextNumber 20 = .ok (.putfield 48, 3) := by decide +kernel
theorem dd_H_takeNextNumber_23 : decode bb_H_takeNextNumber 23 = .ok (.return_, 1) := by decide +kernel
theorem dd_H_nameBytes_0 : decode bb_H_nameBytes 0 = .ok (.aload_n 0, 1) := by decide +kernel
theorem dd_H_nameBytes_1 : decode bb_H_nameBytes 1 = .ok (.getfield 12, 3) := by decide +kernel
theorem dd_H_nameBytes_4 : decode bb_H_nameBytes 4 = .ok (.getfield 52, 3) := by decide +kernel
theorem dd_H_nameBytes_7 : decode bb_H_nameBytes 7 = .ok (.ifCond .ne 7, 3) := by decide +kernel
theorem dd_H_nameBytes_10 : decode bb_H_nameBytes 10 = .ok (.iconst 0, 1) := by decide +kernel
theorem dd_H_nameBytes_11 : decode bb_H_nameBytes 11 = .ok (.goto 12, 3) := by decide +kernel
theorem dd_H_nameBytes_14 : decode bb_H_nameBytes 14 = .ok (.iconst 2, 1) := by decide +kernel
theorem dd_H_nameBytes_15 : decode bb_H_nameBytes 15 = .ok (.aload_n 0, 1) := by decide +kernel
theorem dd_H_nameBytes_16 : decode bb_H_nameBytes 16 = .ok (.getfield 12, 3) := by decide +kernel
theorem dd_H_nameBytes_19 : decode bb_H_nameBytes 19 = .ok (.getfield 52, 3) := by decide +kernel
theorem dd_H_nameBytes_22 : decode bb_H_nameBytes 22 = .ok (.iadd, 1) := by decide +kernel
theorem dd_H_nameBytes_23 : decode bb_H_nameBytes 23 = .ok (.ireturn, 1) := by decide +kernel
theorem dd_H_dataBytes_0 : decode bb_H_dataBytes 0 = .ok (.aload_n 0, 1) := by decide +kernel
theorem dd_H_dataBytes_1 : decode bb_H_dataBytes 1 = .ok (.getfield 36, 3) := by decide +kernel
theorem dd_H_dataBytes_4 : decode bb_H_dataBytes 4 = .ok (.ifCond .ne 5, 3) := by decide +kernel
theorem dd_H_dataBytes_7 : decode bb_H_dataBytes 7 = .ok (.iconst 0, 1) := by decide +kernel
theorem dd_H_dataBytes_8 : decode bb_H_dataBytes 8 = .ok (.ireturn, 1) := by decide +kernel
theorem dd_H_dataBytes_9 : decode bb_H_dataBytes 9 = .ok (.aload_n 0, 1) := by decide +kernel
theorem dd_H_dataBytes_10 : decode bb_H_dataBytes 10 = .ok (.getfield 36, 3) := by decide +kernel
theorem dd_H_dataBytes_13 : decode bb_H_dataBytes 13 = .ok (.iconst 3, 1) := by decide +kernel
theorem dd_H_dataBytes_14 : decode bb_H_dataBytes 14 = .ok (.if_icmp .ne 13, 3) := by decide +kernel
theorem dd_H_dataBytes_17 : decode bb_H_dataBytes 17 = .ok (.aload_n 0, 1) := by decide +kernel
theorem dd_H_dataBytes_18 : decode bb_H_dataBytes 18 = .ok (.getfield 25, 3) := by decide +kernel
theorem dd_H_dataBytes_21 : decode bb_H_dataBytes 21 = .ok (.invokevirtual 55, 3) := by decide +kernel
theorem dd_H_dataBytes_24 : decode bb_H_dataBytes 24 = .ok (.goto 9, 3) := by decide +kernel
theorem dd_H_dataBytes_27 : decode bb_H_dataBytes 27 = .ok (.iconst 2, 1) := by decide +kernel
theorem dd_H_dataBytes_28 : decode bb_H_dataBytes 28 = .ok (.aload_n 0, 1) := by decide +kernel
theorem dd_H_dataBytes_29 : decode bb_H_dataBytes 29 = .ok (.getfield 39, 3) := by decide +kernel
theorem dd_H_dataBytes_32 : decode bb_H_dataBytes 32 = .ok (.iadd, 1) := by decide +kernel
theorem dd_H_dataBytes_33 : decode bb_H_dataBytes 33 = .ok (.ireturn, 1) := by decide +kernel
theorem dd_H_attributeBytes_0 : decode bb_H_attributeBytes 0 = .ok (.aload_n 0, 1) := by decide +kernel
theorem dd_H_attributeBytes_1 : decode bb_H_attributeBytes 1 = .ok (.invokevirtual 59, 3) := by decide +kernel
theorem dd_H_attributeBytes_4 : decode bb_H_attributeBytes 4 = .ok (.aload_n 0, 1) := by decide +kernel
theorem dd_H_attributeBytes_5 : decode bb_H_attributeBytes 5 = .ok (.invokevirtual 62, 3) := by decide +kernel
theorem dd_H_attributeBytes_8 : decode bb_H_attributeBytes 8 = .ok (.iadd, 1) := by decide +kernel
theorem dd_H_attributeBytes_9 : decode bb_H_attributeBytes 9 = .ok (.ireturn, 1) := by decide +kernel
theorem dd_H_mostInside_0 : decode bb_H_mostInside 0 = .ok (.bipush 54, 2) := by decide +kernel
theorem dd_H_mostInside_2 : decode bb_H_mostInside 2 = .ok (.aload_n 0, 1) := by decide +kernel
theorem dd_H_mostInside_3 : decode bb_H_mostInside 3 = .ok (.invokevirtual 59, 3) := by decide +kernel
theorem dd_H_mostInside_6 : decode bb_H_mostInside 6 = .ok (.isub, 1) := by decide +kernel
theorem dd_H_mostInside_7 : decode bb_H_mostInside 7 = .ok (.iconst 2, 1) := by decide +kernel
theorem dd_H_mostInside_8 : decode bb_H_mostInside 8 = .ok (.isub, 1) := by decide +kernel
theorem dd_H_mostInside_9 : decode bb_H_mostInside 9 = .ok (.ireturn, 1) := by decide +kernel
theorem dd_H_putInside_0 : decode bb_H_putInside 0 = .ok (.aload_n 0, 1) := by decide +kernel
theorem dd_H_putInside_1 : decode bb_H_putInside 1 = .ok (.getfield 39, 3) := by decide +kernel
theorem dd_H_putInside_4 : decode bb_H_putInside 4 = .ok (.istore 5, 2) := by decide +kernel
theorem dd_H_putInside_6 : decode bb_H_putInside 6 = .ok (.iload 5, 2) := by decide +kernel
theorem dd_H_putInside_8 : decode bb_H_putInside 8 = .ok (.iload_n 1, 1) := by decide +kernel
theorem dd_H_putInside_9 : decode bb_H_putInside 9 = .ok (.if_icmp .ge 17, 3) := by decide +kernel
theorem dd_H_putInside_12 : decode bb_H_putInside 12 = .ok (.aload_n 0, 1) := by decide +kernel
theorem dd_H_putInside_13 : decode bb_H_putInside 13 = .ok (.getfield 18, 3) := by decide +kernel
theorem dd_H_putInside_16 : decode bb_H_putInside 16 = .ok (.iload 5, 2) := by decide +kernel
theorem dd_H_putInside_18 : decode bb_H_putInside 18 = .ok (.iconst 0, 1) := by decide +kernel
theorem dd_H_putInside_19 : decode bb_H_putInside 19 = .ok (.iastore, 1) := by decide +kernel
theorem dd_H_putInside_20 : decode bb_H_putInside 20 = .ok (.iinc 5 1, 3) := by decide +kernel
theorem dd_H_putInside_23 : decode bb_H_putInside 23 = .ok (.goto (-17), 3) := by decide +kernel
theorem dd_H_putInside_26 : decode bb_H_putInside 26 = .ok (.iconst 0, 1) := by decide +kernel
theorem dd_H_putInside_27 : decode bb_H_putInside 27 = .ok (.istore 5, 2) := by decide +kernel
theorem dd_H_putInside_29 : decode bb_H_putInside 29 = .ok (.iload 5, 2) := by decide +kernel
theorem dd_H_putInside_31 : decode bb_H_putInside 31 = .ok (.iload_n 2, 1) := by decide +kernel
theorem dd_H_putInside_32 : decode bb_H_putInside 32 = .ok (.if_icmp .ge 26, 3) := by decide +kernel
theorem dd_H_putInside_35 : decode bb_H_putInside 35 = .ok (.aload_n 0, 1) := by decide +kernel
theorem dd_H_putInside_36 : decode bb_H_putInside 36 = .ok (.getfield 18, 3) := by decide +kernel
theorem dd_H_putInside_39 : decode bb_H_putInside 39 = .ok (.iload_n 1, 1) := by decide +kernel
theorem dd_H_putInside_40 : decode bb_H_putInside 40 = .ok (.iload 5, 2) := by decide +kernel
theorem dd_H_putInside_42 : decode bb_H_putInside 42 = .ok (.iadd, 1) := by decide +kernel
theorem dd_H_putInside_43 : decode bb_H_putInside 43 = .ok (.iload_n 3, 1) := by decide +kernel
theorem dd_H_putInside_44 : decode bb_H_putInside 44 = .ok (.iload 5, 2) := by decide +kernel
theorem dd_H_putInside_46 : decode bb_H_putInside 46 = .ok (.iadd, 1) := by decide +kernel
theorem dd_H_putInside_47 : decode bb_H_putInside 47 = .ok (.sipush 255, 3) := by decide +kernel
theorem dd_H_putInside_50 : decode bb_H_putInside 50 = .ok (.iand, 1) := by decide +kernel
theorem dd_H_putInside_51 : decode bb_H_putInside 51 = .ok (.iastore, 1) := by decide +kernel
theorem dd_H_putInside_52 : decode bb_H_putInside 52 = .ok (.iinc 5 1, 3) := by decide +kernel
theorem dd_H_putInside_55 : decode bb_H_putInside 55 = .ok (.goto (-26), 3) := by decide +kernel
theorem dd_H_putInside_58 : decode bb_H_putInside 58 = .ok (.aload_n 0, 1) := by decide +kernel
theorem dd_H_putInside_59 : decode bb_H_putInside 59 = .ok (.iload 4, 2) := by decide +kernel
theorem dd_H_putInside_61 : decode bb_H_putInside 61 = .ok (.putfield 39, 3) := by decide +kernel
theorem dd_H_putInside_64 : decode bb_H_putInside 64 = .ok (.return_, 1) := by decide +kernel
theorem dd_H_hasList_0 : decode bb_H_hasList 0 = .ok (.aload_n 0, 1) := by decide +kernel
theorem dd_H_hasList_1 : decode bb_H_hasList 1 = .ok (.getfield 39, 3) := by decide +kernel
theorem dd_H_hasList_4 : decode bb_H_hasList 4 = .ok (.iload_n 2, 1) := by decide +kernel
theorem dd_H_hasList_5 : decode bb_H_hasList 5 = .ok (.if_icmp .eq 5, 3) := by decide +kernel
theorem dd_H_hasList_8 : decode bb_H_hasList 8 = .ok (.iconst 0, 1) := by decide +kernel
theorem dd_H_hasList_9 : decode bb_H_hasList 9 = .ok (.ireturn, 1) := by decide +kernel
theorem dd_H_hasList_10 : decode bb_H_hasList 10 = .ok (.iconst 0, 1) := by decide +kernel
theorem dd_H_hasList_11 : decode bb_H_hasList 11 = .ok (.istore_n 3, 1) := by decide +kernel
theorem dd_H_hasList_12 : decode bb_H_hasList 12 = .ok (.iload_n 3, 1) := by decide +kernel
theorem dd_H_hasList_13 : decode bb_H_hasList 13 = .ok (.iload_n 2, 1) := by decide +kernel
theorem dd_H_hasList_14 : decode bb_H_hasList 14 = .ok (.if_icmp .ge 23, 3) := by decide +kernel
theorem dd_H_hasList_17 : decode bb_H_hasList 17 = .ok (.aload_n 0, 1) := by decide +kernel
theorem dd_H_hasList_18 : decode bb_H_hasList 18 = .ok (.getfield 18, 3) := by decide +kernel
theorem dd_H_hasList_21 : decode bb_H_hasList 21 = .ok (.iload_n 3, 1) := by decide +kernel
theorem dd_H_hasList_22 : decode bb_H_hasList 22 = .ok (.iaload, 1) := by decide +kernel
theorem dd_H_hasList_23 : decode bb_H_hasList 23 = .ok (.aload_n 1, 1) := by decide +kernel
theorem dd_H_hasList_24 : decode bb_H_hasList 24 = .ok (.iload_n 3, 1) := by decide +kernel
theorem dd_H_hasList_25 : decode bb_H_hasList 25 = .ok (.iaload, 1) := by decide +kernel
theorem dd_H_hasList_26 : decode bb_H_hasList 26 = .ok (.if_icmp .eq 5, 3) := by decide +kernel
theorem dd_H_hasList_29 : decode bb_H_hasList 29 = .ok (.iconst 0, 1) := by decide +kernel
theorem dd_H_hasList_30 : decode bb_H_hasList 30 = .ok (.ireturn, 1) := by decide +kernel
theorem dd_H_hasList_31 : decode bb_H_hasList 31 = .ok (.iinc 3 1, 3) := by decide +kernel
theorem dd_H_hasList_34 : decode bb_H_hasList 34 = .ok (.goto (-22), 3) := by decide +kernel
theorem dd_H_hasList_37 : decode bb_H_hasList 37 = .ok (.iconst 1, 1) := by decide +kernel
theorem dd_H_hasList_38 : decode bb_H_hasList 38 = .ok (.ireturn, 1) := by decide +kernel
theorem dd_H_setList_0 : decode bb_H_setList 0 = .ok (.aload_n 1, 1) := by decide +kernel
theorem dd_H_setList_1 : decode bb_H_setList 1 = .ok (.iconst 0, 1) := by decide +kernel
theorem dd_H_setList_2 : decode bb_H_setList 2 = .ok (.aload_n 0, 1) := by decide +kernel
theorem dd_H_setList_3 : decode bb_H_setList 3 = .ok (.getfield 18, 3) := by decide +kernel
theorem dd_H_setList_6 : decode bb_H_setList 6 = .ok (.iconst 0, 1) := by decide +kernel
theorem dd_H_setList_7 : decode bb_H_setList 7 = .ok (.iload_n 2, 1) := by decide +kernel
theorem dd_H_setList_8 : decode bb_H_setList 8 = .ok (.invokestatic 65, 3) := by decide +kernel
theorem dd_H_setList_11 : decode bb_H_setList 11 = .ok (.aload_n 0, 1) := by decide +kernel
theorem dd_H_setList_12 : decode bb_H_setList 12 = .ok (.iload_n 2, 1) := by decide +kernel
theorem dd_H_setList_13 : decode bb_H_setList 13 = .ok (.putfield 39, 3) := by decide +kernel
theorem dd_H_setList_16 : decode bb_H_setList 16 = .ok (.return_, 1) := by decide +kernel
theorem dd_H_encode_0 : decode bb_H_encode 0 = .ok (.aload_n 1, 1) := by decide +kernel
theorem dd_H_encode_1 : decode bb_H_encode 1 = .ok (.iconst 0, 1) := by decide +kernel
theorem dd_H_encode_2 : decode bb_H_encode 2 = .ok (.invokestatic 71, 3) := by decide +kernel
theorem dd_H_encode_5 : decode bb_H_encode 5 = .ok (.aload_n 1, 1) := by decide +kernel
theorem dd_H_encode_6 : decode bb_H_encode 6 = .ok (.iconst 0, 1) := by decide +kernel
theorem dd_H_encode_7 : decode bb_H_encode 7 = .ok (.aload_n 0, 1) := by decide +kernel
theorem dd_H_encode_8 : decode bb_H_encode 8 = .ok (.getfield 29, 3) := by decide +kernel
theorem dd_H_encode_11 : decode bb_H_encode 11 = .ok (.iastore, 1) := by decide +kernel
theorem dd_H_encode_12 : decode bb_H_encode 12 = .ok (.aload_n 1, 1) := by decide +kernel
theorem dd_H_encode_13 : decode bb_H_encode 13 = .ok (.iconst 1, 1) := by decide +kernel
theorem dd_H_encode_14 : decode bb_H_encode 14 = .ok (.aload_n 0, 1) := by decide +kernel
theorem dd_H_encode_15 : decode bb_H_encode 15 = .ok (.getfield 33, 3) := by decide +kernel
theorem dd_H_encode_18 : decode bb_H_encode 18 = .ok (.iastore, 1) := by decide +kernel
theorem dd_H_encode_19 : decode bb_H_encode 19 = .ok (.aload_n 1, 1) := by decide +kernel
theorem dd_H_encode_20 : decode bb_H_encode 20 = .ok (.iconst 2, 1) := by decide +kernel
theorem dd_H_encode_21 : decode bb_H_encode 21 = .ok (.aload_n 0, 1) := by decide +kernel
theorem dd_H_encode_22 : decode bb_H_encode 22 = .ok (.getfield 48, 3) := by decide +kernel
theorem dd_H_encode_25 : decode bb_H_encode 25 = .ok (.invokestatic 77, 3) := by decide +kernel
theorem dd_H_encode_28 : decode bb_H_encode 28 = .ok (.aload_n 0, 1) := by decide +kernel
theorem dd_H_encode_29 : decode bb_H_encode 29 = .ok (.aload_n 1, 1) := by decide +kernel
theorem dd_H_encode_30 : decode bb_H_encode 30 = .ok (.aload_n 0, 1) := by decide +kernel
theorem dd_H_encode_31 : decode bb_H_encode 31 = .ok (.aload_n 1, 1) := by decide +kernel
theorem dd_H_encode_32 : decode bb_H_encode 32 = .ok (.invokevirtual 81, 3) := by decide +kernel
theorem dd_H_encode_35 : decode bb_H_encode 35 = .ok (.invokevirtual 85, 3) := by decide +kernel
theorem dd_H_encode_38 : decode bb_H_encode 38 = .ok (.istore_n 2, 1) := by decide +kernel
theorem dd_H_encode_39 : decode bb_H_encode 39 = .ok (.aload_n 1, 1) := by decide +kernel
theorem dd_H_encode_40 : decode bb_H_encode 40 = .ok (.bipush 8, 2) := by decide +kernel
theorem dd_H_encode_42 : decode bb_H_encode 42 = .ok (.iload_n 2, 1) := by decide +kernel
theorem dd_H_encode_43 : decode bb_H_encode 43 = .ok (.bipush 10, 2) := by decide +kernel
theorem dd_H_encode_45 : decode bb_H_encode 45 = .ok (.isub, 1) := by decide +kernel
theorem dd_H_encode_46 : decode bb_H_encode 46 = .ok (.iastore, 1) := by decide +kernel
theorem dd_H_encode_47 : decode bb_H_encode 47 = .ok (.aload_n 0, 1) := by decide +kernel
theorem dd_H_encode_48 : decode bb_H_encode 48 = .ok (.aload_n 1, 1) := by decide +kernel
theorem dd_H_encode_49 : decode bb_H_encode 49 = .ok (.iconst 4, 1) := by decide +kernel
theorem dd_H_encode_50 : decode bb_H_encode 50 = .ok (.bipush 30, 2) := by decide +kernel
theorem dd_H_encode_52 : decode bb_H_encode 52 = .ok (.invokevirtual 89, 3) := by decide +kernel
theorem dd_H_encode_55 : decode bb_H_encode 55 = .ok (.aload_n 0, 1) := by decide +kernel
theorem dd_H_encode_56 : decode bb_H_encode 56 = .ok (.aload_n 1, 1) := by decide +kernel
theorem dd_H_encode_57 : decode bb_H_encode 57 = .ok (.bipush 6, 2) := by decide +kernel
theorem dd_H_encode_59 : decode bb_H_encode 59 = .ok (.bipush 62, 2) := by decide +kernel
theorem dd_H_encode_61 : decode bb_H_encode 61 = .ok (.invokevirtual 89, 3) := by decide +kernel
theorem dd_H_encode_64 : decode bb_H_encode 64 = .ok (.return_, 1) := by decide +kernel
theorem dd_H_encodeName_0 : decode bb_H_encodeName 0 = .ok (.aload_n 0, 1) := by decide +kernel
theorem dd_H_encodeName_1 : decode bb_H_encodeName 1 = .ok (.getfield 12, 3) := by decide +kernel
theorem dd_H_encodeName_4 : decode bb_H_encodeName 4 = .ok (.getfield 52, 3) := by decide +kernel
theorem dd_H_encodeName_7 : decode bb_H_encodeName 7 = .ok (.ifCond .ne 6, 3) := by decide +kernel
theorem dd_H_encodeName_10 : decode bb_H_encodeName 10 = .ok (.bipush 10, 2) := by decide +kernel
theorem dd_H_encodeName_12 : decode bb_H_encodeName 12 = .ok (.ireturn, 1) := by decide +kernel
theorem dd_H_encodeName_13 : decode bb_H_encodeName 13 = .ok (.aload_n 1, 1) := by decide +kernel
theorem dd_H_encodeName_14 : decode bb_H_encodeName 14 = .ok (.bipush 10, 2) := by decide +kernel
theorem dd_H_encodeName_16 : decode bb_H_encodeName 16 = .ok (.iconst 1, 1) := by decide +kernel
theorem dd_H_encodeName_17 : decode bb_H_encodeName 17 = .ok (.iastore, 1) := by decide +kernel
theorem dd_H_encodeName_18 : decode bb_H_encodeName 18 = .ok (.aload_n 1, 1) := by decide +kernel
theorem dd_H_encodeName_19 : decode bb_H_encodeName 19 = .ok (.bipush 11, 2) := by decide +kernel
theorem dd_H_encodeName_21 : decode bb_H_encodeName 21 = .ok (.iconst 2, 1) := by decide +kernel
theorem dd_H_encodeName_22 : decode bb_H_encodeName 22 = .ok (.aload_n 0, 1) := by decide +kernel
theorem dd_H_encodeName_23 : decode bb_H_encodeName 23 = .ok (.getfield 12, 3) := by decide +kernel
theorem dd_H_encodeName_26 : decode bb_H_encodeName 26 = .ok (.getfield 52, 3) := by decide +kernel
theorem dd_H_encodeName_29 : decode bb_H_encodeName 29 = .ok (.iadd, 1) := by decide +kernel
theorem dd_H_encodeName_30 : decode bb_H_encodeName 30 = .ok (.iastore, 1) := by decide +kernel
theorem dd_H_encodeName_31 : decode bb_H_encodeName 31 = .ok (.aload_n 0, 1) := by decide +kernel
theorem dd_H_encodeName_32 : decode bb_H_encodeName 32 = .ok (.getfield 12, 3) := by decide +kernel
theorem dd_H_encodeName_35 : decode bb_H_encodeName 35 = .ok (.getfield 92, 3) := by decide +kernel
theorem dd_H_encodeName_38 : decode bb_H_encodeName 38 = .ok (.iconst 0, 1) := by decide +kernel
theorem dd_H_encodeName_39 : decode bb_H_encodeName 39 = .ok (.aload_n 1, 1) := by decide +kernel
theorem dd_H_encodeName_40 : decode bb_H_encodeName 40 = .ok (.bipush 12, 2) := by decide +kernel
theorem dd_H_encodeName_42 : decode bb_H_encodeName 42 = .ok (.aload_n 0, 1) := by decide +kernel
theorem dd_H_encodeName_43 : decode bb_H_encodeName 43 = .ok (.getfield 12, 3) := by decide +kernel
theorem dd_H_encodeName_46 : decode bb_H_encodeName 46 = .ok (.getfield 52, 3) := by decide +kernel
theorem dd_H_encodeName_49 : decode bb_H_encodeName 49 = .ok (.invokestatic 65, 3) := by decide +kernel
theorem dd_H_encodeName_52 : decode bb_H_encodeName 52 = .ok (.bipush 12, 2) := by decide +kernel
theorem dd_H_encodeName_54 : decode bb_H_encodeName 54 = .ok (.aload_n 0, 1) := by decide +kernel
theorem dd_H_encodeName_55 : decode bb_H_encodeName 55 = .ok (.getfield 12, 3) := by decide +kernel
theorem dd_H_encodeName_58 : decode bb_H_encodeName 58 = .ok (.getfield 52, 3) := by decide +kernel
theorem dd_H_encodeName_61 : decode bb_H_encodeName 61 = .ok (.iadd, 1) := by decide +kernel
theorem dd_H_encodeName_62 : decode bb_H_encodeName 62 = .ok (.ireturn, 1) := by decide +kernel
theorem dd_H_encodeData_0 : decode bb_H_encodeData 0 = .ok (.aload_n 0, 1) := by decide +kernel
theorem dd_H_encodeData_1 : decode bb_H_encodeData 1 = .ok (.getfield 36, 3) := by decide +kernel
theorem dd_H_encodeData_4 : decode bb_H_encodeData 4 = .ok (.ifCond .ne 5, 3) := by decide +kernel
theorem dd_H_encodeData_7 : decode bb_H_encodeData 7 = .ok (.iload_n 2, 1) := by decide +kernel
theorem dd_H_encodeData_8 : decode bb_H_encodeData 8 = .ok (.ireturn, 1) := by decide +kernel
theorem dd_H_encodeData_9 : decode bb_H_encodeData 9 = .ok (.iload_n 2, 1) := by decide +kernel
theorem dd_H_encodeData_10 : decode bb_H_encodeData 10 = .ok (.iconst 2, 1) := by decide +kernel
theorem dd_H_encodeData_11 : decode bb_H_encodeData 11 = .ok (.iadd, 1) := by decide +kernel
theorem dd_H_encodeData_12 : decode bb_H_encodeData 12 = .ok (.istore_n 3, 1) := by decide +kernel
theorem dd_H_encodeData_13 : decode bb_H_encodeData 13 = .ok (.aload_n 0, 1) := by decide +kernel
theorem dd_H_encodeData_14 : decode bb_H_encodeData 14 = .ok (.getfield 36, 3) := by decide +kernel
theorem dd_H_encodeData_17 : decode bb_H_encodeData 17 = .ok (.iconst 3, 1) := by decide +kernel
theorem dd_H_encodeData_18 : decode bb_H_encodeData 18 = .ok (.if_icmp .ne 29, 3) := by decide +kernel
theorem dd_H_encodeData_21 : decode bb_H_encodeData 21 = .ok (.aload_n 1, 1) := by decide +kernel
theorem dd_H_encodeData_22 : decode bb_H_encodeData 22 = .ok (.iload_n 3, 1) := by decide +kernel
theorem dd_H_encodeData_23 : decode bb_H_encodeData 23 = .ok (.aload_n 0, 1) := by decide +kernel
theorem dd_H_encodeData_24 : decode bb_H_encodeData 24 = .ok (.getfield 39, 3) := by decide +kernel
theorem dd_H_encodeData_27 : decode bb_H_encodeData 27 = .ok (.invokestatic 77, 3) := by decide +kernel
theorem dd_H_encodeData_30 : decode bb_H_encodeData 30 = .ok (.aload_n 0, 1) := by decide +kernel
theorem dd_H_encodeData_31 : decode bb_H_encodeData 31 = .ok (.getfield 25, 3) := by decide +kernel
theorem dd_H_encodeData_34 : decode bb_H_encodeData 34 = .ok (.aload_n 1, 1) := by decide +kernel
theorem dd_H_encodeData_35 : decode bb_H_encodeData 35 = .ok (.iload_n 3, 1) := by decide +kernel
theorem dd_H_encodeData_36 : decode bb_H_encodeData 36 = .ok (.iconst 2, 1) := by decide +kernel
theorem dd_H_encodeData_37 : decode bb_H_encodeData 37 = .ok (.iadd, 1) := by decide +kernel
theorem dd_H_encodeData_38 : decode bb_H_encodeData 38 = .ok (.invokevirtual 95, 3) := by decide +kernel
theorem dd_H_encodeData_41 : decode bb_H_encodeData 41 = .ok (.iconst 1, 1) := by decide +kernel
theorem dd_H_encodeData_42 : decode bb_H_encodeData 42 = .ok (.iadd, 1) := by decide +kernel
theorem dd_H_encodeData_43 : decode bb_H_encodeData 43 = .ok (.istore_n 3, 1) := by decide +kernel
theorem dd_H_encodeData_44 : decode bb_H_encodeData 44 = .ok (.goto 24, 3) := by decide +kernel
theorem dd_H_encodeData_47 : decode bb_H_encodeData 47 = .ok (.aload_n 0, 1) := by decide +kernel
theorem dd_H_encodeData_48 : decode bb_H_encodeData 48 = .ok (.getfield 18, 3) := by decide +kernel
theorem dd_H_encodeData_51 : decode bb_H_encodeData 51 = .ok (.iconst 0, 1) := by decide +kernel
theorem dd_H_encodeData_52 : decode bb_H_encodeData 52 = .ok (.aload_n 1, 1) := by decide +kernel
theorem dd_H_encodeData_53 : decode bb_H_encodeData 53 = .ok (.iload_n 3, 1) := by decide +kernel
theorem dd_H_encodeData_54 : decode bb_H_encodeData 54 = .ok (.aload_n 0, 1) := by decide +kernel
theorem dd_H_encodeData_55 : decode bb_H_encodeData 55 = .ok (.getfield 39, 3) := by decide +kernel
theorem dd_H_encodeData_58 : decode bb_H_encodeData 58 = .ok (.invokestatic 65, 3) := by decide +kernel
theorem dd_H_encodeData_61 : decode bb_H_encodeData 61 = .ok (.iload_n 3, 1) := by decide +kernel
theorem dd_H_encodeData_62 : decode bb_H_encodeData 62 = .ok (.aload_n 0, 1) := by decide +kernel
theorem dd_H_encodeData_63 : decode bb_H_encodeData 63 = .ok (.getfield 39, 3) := by decide +kernel
theorem dd_H_encodeData_66 : decode bb_H_encodeData 66 = .ok (.iadd, 1) := by decide +kernel
theorem dd_H_encodeData_67 : decode bb_H_encodeData 67 = .ok (.istore_n 3, 1) := by decide +kernel
theorem dd_H_encodeData_68 : decode bb_H_encodeData 68 = .ok (.aload_n 1, 1) := by decide +kernel
theorem dd_H_encodeData_69 : decode bb_H_encodeData 69 = .ok (.iload_n 2, 1) := by decide +kernel
theorem dd_H_encodeData_70 : decode bb_H_encodeData 70 = .ok (.aload_n 0, 1) := by decide +kernel
theorem dd_H_encodeData_71 : decode bb_H_encodeData 71 = .ok (.getfield 36, 3) := by decide +kernel
theorem dd_H_encodeData_74 : decode bb_H_encodeData 74 = .ok (.iastore, 1) := by decide +kernel
theorem dd_H_encodeData_75 : decode bb_H_encodeData 75 = .ok (.aload_n 1, 1) := by decide +kernel
theorem dd_H_encodeData_76 : decode bb_H_encodeData 76 = .ok (.iload_n 2, 1) := by decide +kernel
theorem dd_H_encodeData_77 : decode bb_H_encodeData 77 = .ok (.iconst 1, 1) := by decide +kernel
theorem dd_H_encodeData_78 : decode bb_H_encodeData 78 = .ok (.iadd, 1) := by decide +kernel
theorem dd_H_encodeData_79 : decode bb_H_encodeData 79 = .ok (.iload_n 3, 1) := by decide +kernel
theorem dd_H_encodeData_80 : decode bb_H_encodeData 80 = .ok (.iload_n 2, 1) := by decide +kernel
theorem dd_H_encodeData_81 : decode bb_H_encodeData 81 = .ok (.isub, 1) := by decide +kernel
theorem dd_H_encodeData_82 : decode bb_H_encodeData 82 = .ok (.iastore, 1) := by decide +kernel
theorem dd_H_encodeData_83 : decode bb_H_encodeData 83 = .ok (.iload_n 3, 1) := by decide +kernel
theorem dd_H_encodeData_84 : decode bb_H_encodeData 84 = .ok (.ireturn, 1) := by decide +kernel
theorem dd_H_setAside_0 : decode bb_H_setAside 0 = .ok (.aload_n 1, 1) := by decide +kernel
theorem dd_H_setAside_1 : decode bb_H_setAside 1 = .ok (.iload_n 2, 1) := by decide +kernel
theorem dd_H_setAside_2 : decode bb_H_setAside 2 = .ok (.aload_n 1, 1) := by decide +kernel
theorem dd_H_setAside_3 : decode bb_H_setAside 3 = .ok (.iload_n 3, 1) := by decide +kernel
theorem dd_H_setAside_4 : decode bb_H_setAside 4 = .ok (.invokestatic 98, 3) := by decide +kernel
theorem dd_H_setAside_7 : decode bb_H_setAside 7 = .ok (.invokestatic 77, 3) := by decide +kernel
theorem dd_H_setAside_10 : decode bb_H_setAside 10 = .ok (.aload_n 1, 1) := by decide +kernel
theorem dd_H_setAside_11 : decode bb_H_setAside 11 = .ok (.iload_n 3, 1) := by decide +kernel
theorem dd_H_setAside_12 : decode bb_H_setAside 12 = .ok (.aload_n 0, 1) := by decide +kernel
theorem dd_H_setAside_13 : decode bb_H_setAside 13 = .ok (.getfield 48, 3) := by decide +kernel
theorem dd_H_setAside_16 : decode bb_H_setAside 16 = .ok (.invokestatic 77, 3) := by decide +kernel
theorem dd_H_setAside_19 : decode bb_H_setAside 19 = .ok (.return_, 1) := by decide +kernel
theorem dd_H_decode_0 : decode bb_H_decode 0 = .ok (.aload_n 1, 1) := by decide +kernel
theorem dd_H_decode_1 : decode bb_H_decode 1 = .ok (.iconst 0, 1) := by decide +kernel
theorem dd_H_decode_2 : decode bb_H_decode 2 = .ok (.iaload, 1) := by decide +kernel
theorem dd_H_decode_3 : decode bb_H_decode 3 = .ok (.istore_n 2, 1) := by decide +kernel
theorem dd_H_decode_4 : decode bb_H_decode 4 = .ok (.aload_n 0, 1) := by decide +kernel
theorem dd_H_decode_5 : decode bb_H_decode 5 = .ok (.aload_n 1, 1) := by decide +kernel
theorem dd_H_decode_6 : decode bb_H_decode 6 = .ok (.iconst 2, 1) := by decide +kernel
theorem dd_H_decode_7 : decode bb_H_decode 7 = .ok (.invokestatic 98, 3) := by decide +kernel
theorem dd_H_decode_10 : decode bb_H_decode 10 = .ok (.putfield 48, 3) := by decide +kernel
theorem dd_H_decode_13 : decode bb_H_decode 13 = .ok (.aload_n 0, 1) := by decide +kernel
theorem dd_H_decode_14 : decode bb_H_decode 14 = .ok (.aload_n 1, 1) := by decide +kernel
theorem dd_H_decode_15 : decode bb_H_decode 15 = .ok (.invokevirtual 101, 3) := by decide +kernel
theorem dd_H_decode_18 : decode bb_H_decode 18 = .ok (.ifCond .ne 13, 3) := by decide +kernel
theorem dd_H_decode_21 : decode bb_H_decode 21 = .ok (.iload_n 2, 1) := by decide +kernel
theorem dd_H_decode_22 : decode bb_H_decode 22 = .ok (.iconst 1, 1) := by decide +kernel
theorem dd_H_decode_23 : decode bb_H_decode 23 = .ok (.if_icmp .eq 15, 3) := by decide +kernel
theorem dd_H_decode_26 : decode bb_H_decode 26 = .ok (.iload_n 2, 1) := by decide +kernel
theorem dd_H_decode_27 : decode bb_H_decode 27 = .ok (.iconst 2, 1) := by decide +kernel
theorem dd_H_decode_28 : decode bb_H_decode 28 = .ok (.if_icmp .eq 10, 3) := by decide +kernel
theorem dd_H_decode_31 : decode bb_H_decode 31 = .ok (.aload_n 0, 1) := by decide +kernel
theorem dd_H_decode_32 : decode bb_H_decode 32 = .ok (.iconst 0, 1) := by decide +kernel
theorem dd_H_decode_33 : decode bb_H_decode 33 = .ok (.iconst 0, 1) := by decide +kernel
theorem dd_H_decode_34 : decode bb_H_decode 34 = .ok (.invokevirtual 105, 3) := by decide +kernel
theorem dd_H_decode_37 : decode bb_H_decode 37 = .ok (.return_, 1) := by decide +kernel
theorem dd_H_decode_38 : decode bb_H_decode 38 = .ok (.aload_n 1, 1) := by decide +kernel
theorem dd_H_decode_39 : decode bb_H_decode 39 = .ok (.bipush 30, 2) := by decide +kernel
theorem dd_H_decode_41 : decode bb_H_decode 41 = .ok (.aload_n 1, 1) := by decide +kernel
theorem dd_H_decode_42 : decode bb_H_decode 42 = .ok (.iconst 4, 1) := by decide +kernel
theorem dd_H_decode_43 : decode bb_H_decode 43 = .ok (.invokestatic 98, 3) := by decide +kernel
theorem dd_H_decode_46 : decode bb_H_decode 46 = .ok (.invokestatic 77, 3) := by decide +kernel
theorem dd_H_decode_49 : decode bb_H_decode 49 = .ok (.aload_n 1, 1) := by decide +kernel
theorem dd_H_decode_50 : decode bb_H_decode 50 = .ok (.bipush 62, 2) := by decide +kernel
theorem dd_H_decode_52 : decode bb_H_decode 52 = .ok (.aload_n 1, 1) := by decide +kernel
theorem dd_H_decode_53 : decode bb_H_decode 53 = .ok (.bipush 6, 2) := by decide +kernel
theorem dd_H_decode_55 : decode bb_H_decode 55 = .ok (.invokestatic 98, 3) := by decide +kernel
theorem dd_H_decode_58 : decode bb_H_decode 58 = .ok (.invokestatic 77, 3) := by decide +kernel
theorem dd_H_decode_61 : decode bb_H_decode 61 = .ok (.aload_n 0, 1) := by decide +kernel
theorem dd_H_decode_62 : decode bb_H_decode 62 = .ok (.iload_n 2, 1) := by decide +kernel
theorem dd_H_decode_63 : decode bb_H_decode 63 = .ok (.aload_n 1, 1) := by decide +kernel
theorem dd_H_decode_64 : decode bb_H_decode 64 = .ok (.iconst 1, 1) := by decide +kernel
theorem dd_H_decode_65 : decode bb_H_decode 65 = .ok (.iaload, 1) := by decide +kernel
theorem dd_H_decode_66 : decode bb_H_decode 66 = .ok (.invokevirtual 105, 3) := by decide +kernel
theorem dd_H_decode_69 : decode bb_H_decode 69 = .ok (.aload_n 0, 1) := by decide +kernel
theorem dd_H_decode_70 : decode bb_H_decode 70 = .ok (.aload_n 1, 1) := by decide +kernel
theorem dd_H_decode_71 : decode bb_H_decode 71 = .ok (.invokevirtual 109, 3) := by decide +kernel
theorem dd_H_decode_74 : decode bb_H_decode 74 = .ok (.return_, 1) := by decide +kernel
theorem dd_H_isTorn_0 : decode bb_H_isTorn 0 = .ok (.aload_n 1, 1) := by decide +kernel
theorem dd_H_isTorn_1 : decode bb_H_isTorn 1 = .ok (.bipush 30, 2) := by decide +kernel
theorem dd_H_isTorn_3 : decode bb_H_isTorn 3 = .ok (.invokestatic 98, 3) := by decide +kernel
theorem dd_H_isTorn_6 : decode bb_H_isTorn 6 = .ok (.aload_n 0, 1) := by decide +kernel
theorem dd_H_isTorn_7 : decode bb_H_isTorn 7 = .ok (.getfield 48, 3) := by decide +kernel
theorem dd_H_isTorn_10 : decode bb_H_isTorn 10 = .ok (.if_icmp .ne 16, 3) := by decide +kernel
theorem dd_H_isTorn_13 : decode bb_H_isTorn 13 = .ok (.aload_n 1, 1) := by decide +kernel
theorem dd_H_isTorn_14 : decode bb_H_isTorn 14 = .ok (.bipush 62, 2) := by decide +kernel
theorem dd_H_isTorn_16 : decode bb_H_isTorn 16 = .ok (.invokestatic 98, 3) := by decide +kernel
theorem dd_H_isTorn_19 : decode bb_H_isTorn 19 = .ok (.aload_n 0, 1) := by decide +kernel
theorem dd_H_isTorn_20 : decode bb_H_isTorn 20 = .ok (.getfield 48, 3) := by decide +kernel
theorem dd_H_isTorn_23 : decode bb_H_isTorn 23 = .ok (.if_icmp .eq 7, 3) := by decide +kernel
theorem dd_H_isTorn_26 : decode bb_H_isTorn 26 = .ok (.iconst 1, 1) := by decide +kernel
theorem dd_H_isTorn_27 : decode bb_H_isTorn 27 = .ok (.goto 4, 3) := by decide +kernel
theorem dd_H_isTorn_30 : decode bb_H_isTorn 30 = .ok (.iconst 0, 1) := by decide +kernel
theorem dd_H_isTorn_31 : decode bb_H_isTorn 31 = .ok (.ireturn, 1) := by decide +kernel
