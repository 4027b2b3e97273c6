theorem dd_M_byteOf_0 : decode bb_M_byteOf 0 = .ok (.bipush 64, 2) := by decide +kernel
theorem dd_M_byteOf_2 : decode bb_M_byteOf 2 = .ok (.iload_n 1, 1) := by decide +kernel
theorem dd_M_byteOf_3 : decode bb_M_byteOf 3 = .ok (.imul, 1) := by decide +kernel
theorem dd_M_byteOf_4 : decode bb_M_byteOf 4 = .ok (.istore_n 3, 1) := by decide +kernel
theorem dd_M_byteOf_5 : decode bb_M_byteOf 5 = .ok (.iload_n 2, 1) := by decide +kernel
theorem dd_M_byteOf_6 : decode bb_M_byteOf 6 = .ok (.bipush 30, 2) := by decide +kernel
theorem dd_M_byteOf_8 : decode bb_M_byteOf 8 = .ok (.if_icmp .eq 9, 3) := by decide +kernel
theorem dd_M_byteOf_11 : decode bb_M_byteOf 11 = .ok (.iload_n 2, 1) := by decide +kernel
theorem dd_M_byteOf_12 : decode bb_M_byteOf 12 = .ok (.bipush 31, 2) := by decide +kernel
theorem dd_M_byteOf_14 : decode bb_M_byteOf 14 = .ok (.if_icmp .ne 15, 3) := by decide +kernel
theorem dd_M_byteOf_17 : decode bb_M_byteOf 17 = .ok (.aload_n 0, 1) := by decide +kernel
theorem dd_M_byteOf_18 : decode bb_M_byteOf 18 = .ok (.getfield 7, 3) := by decide +kernel
theorem dd_M_byteOf_21 : decode bb_M_byteOf 21 = .ok (.iload_n 3, 1) := by decide +kernel
theorem dd_M_byteOf_22 : decode bb_M_byteOf 22 = .ok (.iload_n 2, 1) := by decide +kernel
theorem dd_M_byteOf_23 : decode bb_M_byteOf 23 = .ok (.iadd, 1) := by decide +kernel
theorem dd_M_byteOf_24 : decode bb_M_byteOf 24 = .ok (.bipush 26, 2) := by decide +kernel
theorem dd_M_byteOf_26 : decode bb_M_byteOf 26 = .ok (.isub, 1) := by decide +kernel
theorem dd_M_byteOf_27 : decode bb_M_byteOf 27 = .ok (.iaload, 1) := by decide +kernel
theorem dd_M_byteOf_28 : decode bb_M_byteOf 28 = .ok (.ireturn, 1) := by decide +kernel
theorem dd_M_byteOf_29 : decode bb_M_byteOf 29 = .ok (.iload_n 2, 1) := by decide +kernel
theorem dd_M_byteOf_30 : decode bb_M_byteOf 30 = .ok (.bipush 62, 2) := by decide +kernel
theorem dd_M_byteOf_32 : decode bb_M_byteOf 32 = .ok (.if_icmp .eq 9, 3) := by decide +kernel
theorem dd_M_byteOf_35 : decode bb_M_byteOf 35 = .ok (.iload_n 2, 1) := by decide +kernel
theorem dd_M_byteOf_36 : decode bb_M_byteOf 36 = .ok (.bipush 63, 2) := by decide +kernel
theorem dd_M_byteOf_38 : decode bb_M_byteOf 38 = .ok (.if_icmp .ne 15, 3) := by decide +kernel
theorem dd_M_byteOf_41 : decode bb_M_byteOf 41 = .ok (.aload_n 0, 1) := by decide +kernel
theorem dd_M_byteOf_42 : decode bb_M_byteOf 42 = .ok (.getfield 7, 3) := by decide +kernel
theorem dd_M_byteOf_45 : decode bb_M_byteOf 45 = .ok (.iload_n 3, 1) := by decide +kernel
theorem dd_M_byteOf_46 : decode bb_M_byteOf 46 = .ok (.iload_n 2, 1) := by decide +kernel
theorem dd_M_byteOf_47 : decode bb_M_byteOf 47 = .ok (.iadd, 1) := by decide +kernel
theorem dd_M_byteOf_48 : decode bb_M_byteOf 48 = .ok (.bipush 56, 2) := by decide +kernel
theorem dd_M_byteOf_50 : decode bb_M_byteOf 50 = .ok (.isub, 1) := by decide +kernel
theorem dd_M_byteOf_51 : decode bb_M_byteOf 51 = .ok (.iaload, 1) := by decide +kernel
theorem dd_M_byteOf_52 : decode bb_M_byteOf 52 = .ok (.ireturn, 1) := by decide +kernel
theorem dd_M_byteOf_53 : decode bb_M_byteOf 53 = .ok (.iload_n 2, 1) := by decide +kernel
theorem dd_M_byteOf_54 : decode bb_M_byteOf 54 = .ok (.iconst 3, 1) := by decide +kernel
theorem dd_M_byteOf_55 : decode bb_M_byteOf 55 = .ok (.if_icmp .le 13, 3) := by decide +kernel
theorem dd_M_byteOf_58 : decode bb_M_byteOf 58 = .ok (.iload_n 2, 1) := by decide +kernel
theorem dd_M_byteOf_59 : decode bb_M_byteOf 59 = .ok (.bipush 8, 2) := by decide +kernel
theorem dd_M_byteOf_61 : decode bb_M_byteOf 61 = .ok (.if_icmp .ge 7, 3) := by decide +kernel
theorem dd_M_byteOf_64 : decode bb_M_byteOf 64 = .ok (.iconst 0, 1) := by decide +kernel
theorem dd_M_byteOf_65 : decode bb_M_byteOf 65 = .ok (.goto 11, 3) := by decide +kernel
theorem dd_M_byteOf_68 : decode bb_M_byteOf 68 = .ok (.aload_n 0, 1) := by decide +kernel
theorem dd_M_byteOf_69 : decode bb_M_byteOf 69 = .ok (.getfield 7, 3) := by decide +kernel
theorem dd_M_byteOf_72 : decode bb_M_byteOf 72 = .ok (.iload_n 3, 1) := by decide +kernel
theorem dd_M_byteOf_73 : decode bb_M_byteOf 73 = .ok (.iload_n 2, 1) := by decide +kernel
theorem dd_M_byteOf_74 : decode bb_M_byteOf 74 = .ok (.iadd, 1) := by decide +kernel
theorem dd_M_byteOf_75 : decode bb_M_byteOf 75 = .ok (.iaload, 1) := by decide +kernel
theorem dd_M_byteOf_76 : decode bb_M_byteOf 76 = .ok (.ireturn, 1) := by decide +kernel
theorem dd_M_wordAt_0 : decode bb_M_wordAt 0 = .ok (.aload_n 0, 1) := by decide +kernel
theorem dd_M_wordAt_1 : decode bb_M_wordAt 1 = .ok (.getfield 7, 3) := by decide +kernel
theorem dd_M_wordAt_4 : decode bb_M_wordAt 4 = .ok (.iload_n 1, 1) := by decide +kernel
theorem dd_M_wordAt_5 : decode bb_M_wordAt 5 = .ok (.iaload, 1) := by decide +kernel
theorem dd_M_wordAt_6 : decode bb_M_wordAt 6 = .ok (.sipush 256, 3) := by decide +kernel
theorem dd_M_wordAt_9 : decode bb_M_wordAt 9 = .ok (.aload_n 0, 1) := by decide +kernel
theorem dd_M_wordAt_10 : decode bb_M_wordAt 10 = .ok (.getfield 7, 3) := by decide +kernel
theorem dd_M_wordAt_13 : decode bb_M_wordAt 13 = .ok (.iload_n 1, 1) := by decide +kernel
theorem dd_M_wordAt_14 : decode bb_M_wordAt 14 = .ok (.iconst 1, 1) := by decide +kernel
theorem dd_M_wordAt_15 : decode bb_M_wordAt 15 = .ok (.iadd, 1) := by decide +kernel
theorem dd_M_wordAt_16 : decode bb_M_wordAt 16 = .ok (.iaload, 1) := by decide +kernel
theorem dd_M_wordAt_17 : decode bb_M_wordAt 17 = .ok (.imul, 1) := by decide +kernel
theorem dd_M_wordAt_18 : decode bb_M_wordAt 18 = .ok (.iadd, 1) := by decide +kernel
theorem dd_M_wordAt_19 : decode bb_M_wordAt 19 = .ok (.ireturn, 1) := by decide +kernel
theorem dd_M_isTorn_0 : decode bb_M_isTorn 0 = .ok (.aload_n 0, 1) := by decide +kernel
theorem dd_M_isTorn_1 : decode bb_M_isTorn 1 = .ok (.bipush 64, 2) := by decide +kernel
theorem dd_M_isTorn_3 : decode bb_M_isTorn 3 = .ok (.iload_n 1, 1) := by decide +kernel
theorem dd_M_isTorn_4 : decode bb_M_isTorn 4 = .ok (.imul, 1) := by decide +kernel
theorem dd_M_isTorn_5 : decode bb_M_isTorn 5 = .ok (.iconst 2, 1) := by decide +kernel
theorem dd_M_isTorn_6 : decode bb_M_isTorn 6 = .ok (.iadd, 1) := by decide +kernel
theorem dd_M_isTorn_7 : decode bb_M_isTorn 7 = .ok (.invokevirtual 58, 3) := by decide +kernel
theorem dd_M_isTorn_10 : decode bb_M_isTorn 10 = .ok (.istore_n 2, 1) := by decide +kernel
theorem dd_M_isTorn_11 : decode bb_M_isTorn 11 = .ok (.aload_n 0, 1) := by decide +kernel
theorem dd_M_isTorn_12 : decode bb_M_isTorn 12 = .ok (.bipush 64, 2) := by decide +kernel
theorem dd_M_isTorn_14 : decode bb_M_isTorn 14 = .ok (.iload_n 1, 1) := by decide +kernel
theorem dd_M_isTorn_15 : decode bb_M_isTorn 15 = .ok (.imul, 1) := by decide +kernel
theorem dd_M_isTorn_16 : decode bb_M_isTorn 16 = .ok (.bipush 30, 2) := by decide +kernel
theorem dd_M_isTorn_18 : decode bb_M_isTorn 18 = .ok (.iadd, 1) := by decide +kernel
theorem dd_M_isTorn_19 : decode bb_M_isTorn 19 = .ok (.invokevirtual 58, 3) := by decide +kernel
theorem dd_M_isTorn_22 : decode bb_M_isTorn 22 = .ok (.iload_n 2, 1) := by decide +kernel
theorem dd_M_isTorn_23 : decode bb_M_isTorn 23 = .ok (.if_icmp .ne 18, 3) := by decide +kernel
theorem dd_M_isTorn_26 : decode bb_M_isTorn 26 = .ok (.aload_n 0, 1) := by decide +kernel
theorem dd_M_isTorn_27 : decode bb_M_isTorn 27 = .ok (.bipush 64, 2) := by decide +kernel
theorem dd_M_isTorn_29 : decode bb_M_isTorn 29 = .ok (.iload_n 1, 1) := by decide +kernel
theorem dd_M_isTorn_30 : decode bb_M_isTorn 30 = .ok (.imul, 1) := by decide +kernel
theorem dd_M_isTorn_31 : decode bb_M_isTorn 31 = .ok (.bipush 62, 2) := by decide +kernel
theorem dd_M_isTorn_33 : decode bb_M_isTorn 33 = .ok (.iadd, 1) := by decide +kernel
theorem dd_M_isTorn_34 : decode bb_M_isTorn 34 = .ok (.invokevirtual 58, 3) := by decide +kernel
theorem dd_M_isTorn_37 : decode bb_M_isTorn 37 = .ok (.iload_n 2, 1) := by decide +kernel
theorem dd_M_isTorn_38 : decode bb_M_isTorn 38 = .ok (.if_icmp .eq 7, 3) := by decide +kernel
theorem dd_M_isTorn_41 : decode bb_M_isTorn 41 = .ok (.iconst 1, 1) := by decide +kernel
theorem dd_M_isTorn_42 : decode bb_M_isTorn 42 = .ok (.goto 4, 3) := by decide +kernel
theorem dd_M_isTorn_45 : decode bb_M_isTorn 45 = .ok (.iconst 0, 1) := by decide +kernel
theorem dd_M_isTorn_46 : decode bb_M_isTorn 46 = .ok (.ireturn, 1) := by decide +kernel
theorem dd_M_isRecord_0 : decode bb_M_isRecord 0 = .ok (.aload_n 0, 1) := by decide +kernel
theorem dd_M_isRecord_1 : decode bb_M_isRecord 1 = .ok (.getfield 50, 3) := by decide +kernel
theorem dd_M_isRecord_4 : decode bb_M_isRecord 4 = .ok (.ifCond .eq 26, 3) := by decide +kernel
theorem dd_M_isRecord_7 : decode bb_M_isRecord 7 = .ok (.iload_n 1, 1) := by decide +kernel
theorem dd_M_isRecord_8 : decode bb_M_isRecord 8 = .ok (.ifCond .lt 22, 3) := by decide +kernel
theorem dd_M_isRecord_11 : decode bb_M_isRecord 11 = .ok (.iload_n 1, 1) := by decide +kernel
theorem dd_M_isRecord_12 : decode bb_M_isRecord 12 = .ok (.bipush 12, 2) := by decide +kernel
theorem dd_M_isRecord_14 : decode bb_M_isRecord 14 = .ok (.if_icmp .ge 16, 3) := by decide +kernel
theorem dd_M_isRecord_17 : decode bb_M_isRecord 17 = .ok (.aload_n 0, 1) := by decide +kernel
theorem dd_M_isRecord_18 : decode bb_M_isRecord 18 = .ok (.getfield 13, 3) := by decide +kernel
theorem dd_M_isRecord_21 : decode bb_M_isRecord 21 = .ok (.iload_n 1, 1) := by decide +kernel
theorem dd_M_isRecord_22 : decode bb_M_isRecord 22 = .ok (.baload, 1) := by decide +kernel
theorem dd_M_isRecord_23 : decode bb_M_isRecord 23 = .ok (.ifCond .eq 7, 3) := by decide +kernel
theorem dd_M_isRecord_26 : decode bb_M_isRecord 26 = .ok (.iconst 1, 1) := by decide +kernel
theorem dd_M_isRecord_27 : decode bb_M_isRecord 27 = .ok (.goto 4, 3) := by decide +kernel
theorem dd_M_isRecord_30 : decode bb_M_isRecord 30 = .ok (.iconst 0, 1) := by decide +kernel
theorem dd_M_isRecord_31 : decode bb_M_isRecord 31 = .ok (.ireturn, 1) := by decide +kernel
theorem dd_M_isKind_0 : decode bb_M_isKind 0 = .ok (.aload_n 0, 1) := by decide +kernel
theorem dd_M_isKind_1 : decode bb_M_isKind 1 = .ok (.iload_n 1, 1) := by decide +kernel
theorem dd_M_isKind_2 : decode bb_M_isKind 2 = .ok (.invokevirtual 62, 3) := by decide +kernel
theorem dd_M_isKind_5 : decode bb_M_isKind 5 = .ok (.ifCond .eq 17, 3) := by decide +kernel
theorem dd_M_isKind_8 : decode bb_M_isKind 8 = .ok (.aload_n 0, 1) := by decide +kernel
theorem dd_M_isKind_9 : decode bb_M_isKind 9 = .ok (.iload_n 1, 1) := by decide +kernel
theorem dd_M_isKind_10 : decode bb_M_isKind 10 = .ok (.iconst 0, 1) := by decide +kernel
theorem dd_M_isKind_11 : decode bb_M_isKind 11 = .ok (.invokevirtual 65, 3) := by decide +kernel
theorem dd_M_isKind_14 : decode bb_M_isKind 14 = .ok (.iload_n 2, 1) := by decide +kernel
theorem dd_M_isKind_15 : decode bb_M_isKind 15 = .ok (.if_icmp .ne 7, 3) := by decide +kernel
theorem dd_M_isKind_18 : decode bb_M_isKind 18 = .ok (.iconst 1, 1) := by decide +kernel
theorem dd_M_isKind_19 : decode bb_M_isKind 19 = .ok (.goto 4, 3) := by decide +kernel
theorem dd_M_isKind_22 : decode bb_M_isKind 22 = .ok (.iconst 0, 1) := by decide +kernel
theorem dd_M_isKind_23 : decode bb_M_isKind 23 = .ok (.ireturn, 1) := by decide +kernel
theorem dd_M_attribute_0 : decode bb_M_attribute 0 = .ok (.bipush 10, 2) := by decide +kernel
theorem dd_M_attribute_2 : decode bb_M_attribute 2 = .ok (.istore_n 3, 1) := by decide +kernel
theorem dd_M_attribute_3 : decode bb_M_attribute 3 = .ok (.bipush 10, 2) := by decide +kernel
theorem dd_M_attribute_5 : decode bb_M_attribute 5 = .ok (.aload_n 0, 1) := by decide +kernel
theorem dd_M_attribute_6 : decode bb_M_attribute 6 = .ok (.iload_n 1, 1) := by decide +kernel
theorem dd_M_attribute_7 : decode bb_M_attribute 7 = .ok (.bipush 8, 2) := by decide +kernel
theorem dd_M_attribute_9 : decode bb_M_attribute 9 = .ok (.invokevirtual 65, 3) := by decide +kernel
theorem dd_M_attribute_12 : decode bb_M_attribute 12 = .ok (.iadd, 1) := by decide +kernel
theorem dd_M_attribute_13 : decode bb_M_attribute 13 = .ok (.istore 4, 2) := by decide +kernel
theorem dd_M_attribute_15 : decode bb_M_attribute 15 = .ok (.iload_n 3, 1) := by decide +kernel
theorem dd_M_attribute_16 : decode bb_M_attribute 16 = .ok (.iload 4, 2) := by decide +kernel
theorem dd_M_attribute_18 : decode bb_M_attribute 18 = .ok (.if_icmp .ge 29, 3) := by decide +kernel
theorem dd_M_attribute_21 : decode bb_M_attribute 21 = .ok (.aload_n 0, 1) := by decide +kernel
theorem dd_M_attribute_22 : decode bb_M_attribute 22 = .ok (.iload_n 1, 1) := by decide +kernel
theorem dd_M_attribute_23 : decode bb_M_attribute 23 = .ok (.iload_n 3, 1) := by decide +kernel
theorem dd_M_attribute_24 : decode bb_M_attribute 24 = .ok (.invokevirtual 65, 3) := by decide +kernel
theorem dd_M_attribute_27 : decode bb_M_attribute 27 = .ok (.iload_n 2, 1) := by decide +kernel
theorem dd_M_attribute_28 : decode bb_M_attribute 28 = .ok (.if_icmp .ne 5, 3) := by decide +kernel
theorem dd_M_attribute_31 : decode bb_M_attribute 31 = .ok (.iload_n 3, 1) := by decide +kernel
theorem dd_M_attribute_32 : decode bb_M_attribute 32 = .ok (.ireturn, 1) := by decide +kernel
theorem dd_M_attribute_33 : decode bb_M_attribute 33 = .ok (.iload_n 3, 1) := by decide +kernel
theorem dd_M_attribute_34 : decode bb_M_attribute 34 = .ok (.aload_n 0, 1) := by decide +kernel
theorem dd_M_attribute_35 : decode bb_M_attribute 35 = .ok (.iload_n 1, 1) := by decide +kernel
theorem dd_M_attribute_36 : decode bb_M_attribute 36 = .ok (.iload_n 3, 1) := by decide +kernel
theorem dd_M_attribute_37 : decode bb_M_attribute 37 = .ok (.iconst 1, 1) := by decide +kernel
theorem dd_M_attribute_38 : decode bb_M_attribute 38 = .ok (.iadd, 1) := by decide +kernel
theorem dd_M_attribute_39 : decode bb_M_attribute 39 = .ok (.invokevirtual 65, 3) := by decide +kernel
theorem dd_M_attribute_42 : decode bb_M_attribute 42 = .ok (.iadd, 1) := by decide +kernel
theorem dd_M_attribute_43 : decode bb_M_attribute 43 = .ok (.istore_n 3, 1) := by decide +kernel
theorem dd_M_attribute_44 : decode bb_M_attribute 44 = .ok (.goto (-29), 3) := by decide +kernel
theorem dd_M_attribute_47 : decode bb_M_attribute 47 = .ok (.iconst (-1), 1) := by decide +kernel
theorem dd_M_attribute_48 : decode bb_M_attribute 48 = .ok (.ireturn, 1) := by decide +kernel
theorem dd_M_nameLength_0 : decode bb_M_nameLength 0 = .ok (.aload_n 0, 1) := by decide +kernel
theorem dd_M_nameLength_1 : decode bb_M_nameLength 1 = .ok (.iload_n 1, 1) := by decide +kernel
theorem dd_M_nameLength_2 : decode bb_M_nameLength 2 = .ok (.iconst 1, 1) := by decide +kernel
theorem dd_M_nameLength_3 : decode bb_M_nameLength 3 = .ok (.invokevirtual 69, 3) := by decide +kernel
theorem dd_M_nameLength_6 : decode bb_M_nameLength 6 = .ok (.ifCond .ge 7, 3) := by decide +kernel
theorem dd_M_nameLength_9 : decode bb_M_nameLength 9 = .ok (.iconst 0, 1) := by decide +kernel
theorem dd_M_nameLength_10 : decode bb_M_nameLength 10 = .ok (.goto 12, 3) := by decide +kernel
theorem dd_M_nameLength_13 : decode bb_M_nameLength 13 = .ok (.aload_n 0, 1) := by decide +kernel
theorem dd_M_nameLength_14 : decode bb_M_nameLength 14 = .ok (.iload_n 1, 1) := by decide +kernel
theorem dd_M_nameLength_15 : decode bb_M_nameLength 15 = .ok (.bipush 11, 2) := by decide +kernel
theorem dd_M_nameLength_17 : decode bb_M_nameLength 17 = .ok (.invokevirtual 65, 3) := by decide +kernel
theorem dd_M_nameLength_20 : decode bb_M_nameLength 20 = .ok (.iconst 2, 1) := by decide +kernel
theorem dd_M_nameLength_21 : decode bb_M_nameLength 21 = .ok (.isub, 1) := by decide +kernel
theorem dd_M_nameLength_22 : decode bb_M_nameLength 22 = .ok (.ireturn, 1) := by decide +kernel
theorem dd_M_nameAt_0 : decode bb_M_nameAt 0 = .ok (.iload_n 2, 1) := by decide +kernel
theorem dd_M_nameAt_1 : decode bb_M_nameAt 1 = .ok (.aload_n 0, 1) := by decide +kernel
theorem dd_M_nameAt_2 : decode bb_M_nameAt 2 = .ok (.iload_n 1, 1) := by decide +kernel
theorem dd_M_nameAt_3 : decode bb_M_nameAt 3 = .ok (.invokevirtual 72, 3) := by decide +kernel
theorem dd_M_nameAt_6 : decode bb_M_nameAt 6 = .ok (.if_icmp .ge 15, 3) := by decide +kernel
theorem dd_M_nameAt_9 : decode bb_M_nameAt 9 = .ok (.aload_n 0, 1) := by decide +kernel
theorem dd_M_nameAt_10 : decode bb_M_nameAt 10 = .ok (.iload_n 1, 1) := by decide +kernel
theorem dd_M_nameAt_11 : decode bb_M_nameAt 11 = .ok (.bipush 12, 2) := by decide +kernel
theorem dd_M_nameAt_13 : decode bb_M_nameAt 13 = .ok (.iload_n 2, 1) := by decide +kernel
theorem dd_M_nameAt_14 : decode bb_M_nameAt 14 = .ok (.iadd, 1) := by decide +kernel
theorem dd_M_nameAt_15 : decode bb_M_nameAt 15 = .ok (.invokevirtual 65, 3) := by decide +kernel
theorem dd_M_nameAt_18 : decode bb_M_nameAt 18 = .ok (.goto 4, 3) := by decide +kernel
theorem dd_M_nameAt_21 : decode bb_M_nameAt 21 = .ok (.iconst 0, 1) := by decide +kernel
theorem dd_M_nameAt_22 : decode bb_M_nameAt 22 = .ok (.ireturn, 1) := by decide +kernel
theorem dd_M_compareNames_0 : decode bb_M_compareNames 0 = .ok (.iconst 0, 1) := by decide +kernel
theorem dd_M_compareNames_1 : decode bb_M_compareNames 1 = .ok (.istore_n 3, 1) := by decide +kernel
theorem dd_M_compareNames_2 : decode bb_M_compareNames 2 = .ok (.iload_n 3, 1) := by decide +kernel
theorem dd_M_compareNames_3 : decode bb_M_compareNames 3 = .ok (.bipush 8, 2) := by decide +kernel
theorem dd_M_compareNames_5 : decode bb_M_compareNames 5 = .ok (.if_icmp .ge 45, 3) := by decide +kernel
theorem dd_M_compareNames_8 : decode bb_M_compareNames 8 = .ok (.aload_n 0, 1) := by decide +kernel
theorem dd_M_compareNames_9 : decode bb_M_compareNames 9 = .ok (.iload_n 1, 1) := by decide +kernel
theorem dd_M_compareNames_10 : decode bb_M_compareNames 10 = .ok (.iload_n 3, 1) := by decide +kernel
theorem dd_M_compareNames_11 : decode bb_M_compareNames 11 = .ok (.invokevirtual 75, 3) := by decide +kernel
theorem dd_M_compareNames_14 : decode bb_M_compareNames 14 = .ok (.aload_n 0, 1) := by decide +kernel
theorem dd_M_compareNames_15 : decode bb_M_compareNames 15 = .ok (.iload_n 2, 1) := by decide +kernel
theorem dd_M_compareNames_16 : decode bb_M_compareNames 16 = .ok (.iload_n 3, 1) := by decide +kernel
theorem dd_M_compareNames_17 : decode bb_M_compareNames 17 = .ok (.invokevirtual 75, 3) := by decide +kernel
theorem dd_M_compareNames_20 : decode bb_M_compareNames 20 = .ok (.if_icmp .eq 24, 3) := by decide +kernel
theorem dd_M_compareNames_23 : decode bb_M_compareNames 23 = .ok (.aload_n 0, 1) := by decide +kernel
theorem dd_M_compareNames_24 : decode bb_M_compareNames 24 = .ok (.iload_n 1, 1) := by decide +kernel
theorem dd_M_compareNames_25 : decode bb_M_compareNames 25 = .ok (.iload_n 3, 1) := by decide +kernel
theorem dd_M_compareNames_26 : decode bb_M_compareNames 26 = .ok (.invokevirtual 75, 3) := by decide +kernel
theorem dd_M_compareNames_29 : decode bb_M_compareNames 29 = .ok (.aload_n 0, 1) := by decide +kernel
theorem dd_M_compareNames_30 : decode bb_M_compareNames 30 = .ok (.iload_n 2, 1) := by decide +kernel
theorem dd_M_compareNames_31 : decode bb_M_compareNames 31 = .ok (.iload_n 3, 1) := by decide +kernel
theorem dd_M_compareNames_32 : decode bb_M_compareNames 32 = .ok (.invokevirtual 75, 3) := by decide +kernel
theorem dd_M_compareNames_35 : decode bb_M_compareNames 35 = .ok (.if_icmp .ge 7, 3) := by decide +kernel
theorem dd_M_compareNames_38 : decode bb_M_compareNames 38 = .ok (.iconst (-1), 1) := by decide +kernel
theorem dd_M_compareNames_39 : decode bb_M_compareNames 39 = .ok (.goto 4, 3) := by decide +kernel
theorem dd_M_compareNames_42 : decode bb_M_compareNames 42 = .ok (.iconst 1, 1) := by decide +kernel
theorem dd_M_compareNames_43 : decode bb_M_compareNames 43 = .ok (.ireturn, 1) := by decide +kernel
theorem dd_M_compareNames_44 : decode bb_M_compareNames 44 = .ok (.iinc 3 1, 3) := by decide +kernel
theorem dd_M_compareNames_47 : decode bb_M_compareNames 47 = .ok (.goto (-45), 3) := by decide +kernel
theorem dd_M_compareNames_50 : decode bb_M_compareNames 50 = .ok (.iconst 0, 1) := by decide +kernel
theorem dd_M_compareNames_51 : decode bb_M_compareNames 51 = .ok (.ireturn, 1) := by decide +kernel
theorem dd_M_isDraft_0 : decode bb_M_isDraft 0 = .ok (.aload_n 0, 1) := by decide +kernel
theorem dd_M_isDraft_1 : decode bb_M_isDraft 1 = .ok (.iload_n 1, 1) := by decide +kernel
theorem dd_M_isDraft_2 : decode bb_M_isDraft 2 = .ok (.invokevirtual 72, 3) := by decide +kernel
theorem dd_M_isDraft_5 : decode bb_M_isDraft 5 = .ok (.aload_n 0, 1) := by decide +kernel
theorem dd_M_isDraft_6 : decode bb_M_isDraft 6 = .ok (.getfield 78, 3) := by decide +kernel
theorem dd_M_isDraft_9 : decode bb_M_isDraft 9 = .ok (.if_icmp .ne 7, 3) := by decide +kernel
theorem dd_M_isDraft_12 : decode bb_M_isDraft 12 = .ok (.iconst 1, 1) := by decide +kernel
theorem dd_M_isDraft_13 : decode bb_M_isDraft 13 = .ok (.goto 4, 3) := by decide +kernel
theorem dd_M_isDraft_16 : decode bb_M_isDraft 16 = .ok (.iconst 0, 1) := by decide +kernel
theorem dd_M_isDraft_17 : decode bb_M_isDraft 17 = .ok (.istore_n 2, 1) := by decide +kernel
theorem dd_M_isDraft_18 : decode bb_M_isDraft 18 = .ok (.iconst 0, 1) := by decide +kernel
theorem dd_M_isDraft_19 : decode bb_M_isDraft 19 = .ok (.istore_n 3, 1) := by decide +kernel
theorem dd_M_isDraft_20 : decode bb_M_isDraft 20 = .ok (.iload_n 3, 1) := by decide +kernel
theorem dd_M_isDraft_21 : decode bb_M_isDraft 21 = .ok (.aload_n 0, 1) := by decide +kernel
theorem dd_M_isDraft_22 : decode bb_M_isDraft 22 = .ok (.getfield 78, 3) := by decide +kernel
theorem dd_M_isDraft_25 : decode bb_M_isDraft 25 = .ok (.if_icmp .ge 34, 3) := by decide +kernel
theorem dd_M_isDraft_28 : decode bb_M_isDraft 28 = .ok (.iload_n 2, 1) := by decide +kernel
theorem dd_M_isDraft_29 : decode bb_M_isDraft 29 = .ok (.ifCond .eq 30, 3) := by decide +kernel
theorem dd_M_isDraft_32 : decode bb_M_isDraft 32 = .ok (.aload_n 0, 1) := by decide +kernel
theorem dd_M_isDraft_33 : decode bb_M_isDraft 33 = .ok (.iload_n 1, 1) := by decide +kernel
theorem dd_M_isDraft_34 : decode bb_M_isDraft 34 = .ok (.iload_n 3, 1) := by decide +kernel
theorem dd_M_isDraft_35 : decode bb_M_isDraft 35 = .ok (.invokevirtual 75, 3) := by decide +kernel
theorem dd_M_isDraft_38 : decode bb_M_isDraft 38 = .ok (.aload_n 0, 1) := by decide +kernel
theorem dd_M_isDraft_39 : decode bb_M_isDraft 39 = .ok (.getfield 20, 3) := by decide +kernel
theorem dd_M_isDraft_42 : decode bb_M_isDraft 42 = .ok (.iload_n 3, 1) := by decide +kernel
theorem dd_M_isDraft_43 : decode bb_M_isDraft 43 = .ok (.caload, 1) := by decide +kernel
theorem dd_M_isDraft_44 : decode bb_M_isDraft 44 = .ok (.if_icmp .ne 7, 3) := by decide +kernel
theorem dd_M_isDraft_47 : decode bb_M_isDraft 47 = .ok (.iconst 1, 1) := by decide +kernel
theorem dd_M_isDraft_48 : decode bb_M_isDraft 48 = .ok (.goto 4, 3) := by decide +kernel
theorem dd_M_isDraft_51 : decode bb_M_isDraft 51 = .ok (.iconst 0, 1) := by decide +kernel
theorem dd_M_isDraft_52 : decode bb_M_isDraft 52 = .ok (.istore_n 2, 1) := by decide +kernel
theorem dd_M_isDraft_53 : decode bb_M_isDraft 53 = .ok (.iinc 3 1, 3) := by decide +kernel
theorem dd_M_isDraft_56 : decode bb_M_isDraft 56 = .ok (.goto (-36), 3) := by decide +kernel
theorem dd_M_isDraft_59 : decode bb_M_isDraft 59 = .ok (.iload_n 2, 1) := by decide +kernel
theorem dd_M_isDraft_60 : decode bb_M_isDraft 60 = .ok (.ireturn, 1) := by decide +kernel
theorem dd_M_listLength_0 : decode bb_M_listLength 0 = .ok (.aload_n 0, 1) := by decide +kernel
theorem dd_M_listLength_1 : decode bb_M_listLength 1 = .ok (.iload_n 1, 1) := by decide +kernel
theorem dd_M_listLength_2 : decode bb_M_listLength 2 = .ok (.aload_n 0, 1) := by decide +kernel
theorem dd_M_listLength_3 : decode bb_M_listLength 3 = .ok (.iload_n 1, 1) := by decide +kernel
theorem dd_M_listLength_4 : decode bb_M_listLength 4 = .ok (.iconst 4, 1) := by decide +kernel
theorem dd_M_listLength_5 : decode bb_M_listLength 5 = .ok (.invokevirtual 69, 3) := by decide +kernel
theorem dd_M_listLength_8 : decode bb_M_listLength 8 = .ok (.iconst 1, 1) := by decide +kernel
theorem dd_M_listLength_9 : decode bb_M_listLength 9 = .ok (.iadd, 1) := by decide +kernel
theorem dd_M_listLength_10 : decode bb_M_listLength 10 = .ok (.invokevirtual 65, 3) := by decide +kernel
theorem dd_M_listLength_13 : decode bb_M_listLength 13 = .ok (.iconst 2, 1) := by decide +kernel
theorem dd_M_listLength_14 : decode bb_M_listLength 14 = .ok (.isub, 1) := by decide +kernel
theorem dd_M_listLength_15 : decode bb_M_listLength 15 = .ok (.ireturn, 1) := by decide +kernel
theorem dd_M_entry_0 : decode bb_M_entry 0 = .ok (.aload_n 0, 1) := by decide +kernel
theorem dd_M_entry_1 : decode bb_M_entry 1 = .ok (.iload_n 1, 1) := by decide +kernel
theorem dd_M_entry_2 : decode bb_M_entry 2 = .ok (.aload_n 0, 1) := by decide +kernel
theorem dd_M_entry_3 : decode bb_M_entry 3 = .ok (.iload_n 1, 1) := by decide +kernel
theorem dd_M_entry_4 : decode bb_M_entry 4 = .ok (.iconst 4, 1) := by decide +kernel
theorem dd_M_entry_5 : decode bb_M_entry 5 = .ok (.invokevirtual 69, 3) := by decide +kernel
theorem dd_M_entry_8 : decode bb_M_entry 8 = .ok (.iconst 2, 1) := by decide +kernel
theorem dd_M_entry_9 : decode bb_M_entry 9 = .ok (.iadd, 1) := by decide +kernel
theorem dd_M_entry_10 : decode bb_M_entry 10 = .ok (.iload_n 2, 1) := by decide +kernel
theorem dd_M_entry_11 : decode bb_M_entry 11 = .ok (.iadd, 1) := by decide +kernel
theorem dd_M_entry_12 : decode bb_M_entry 12 = .ok (.invokevirtual 65, 3) := by decide +kernel
theorem dd_M_entry_15 : decode bb_M_entry 15 = .ok (.ireturn, 1) := by decide +kernel
theorem dd_M_isInside_0 : decode bb_M_isInside 0 = .ok (.aload_n 0, 1) := by decide +kernel
theorem dd_M_isInside_1 : decode bb_M_isInside 1 = .ok (.iload_n 1, 1) := by decide +kernel
theorem dd_M_isInside_2 : decode bb_M_isInside 2 = .ok (.iconst 2, 1) := by decide +kernel
theorem dd_M_isInside_3 : decode bb_M_isInside 3 = .ok (.invokevirtual 69, 3) := by decide +kernel
theorem dd_M_isInside_6 : decode bb_M_isInside 6 = .ok (.ifCond .lt 7, 3) := by decide +kernel
theorem dd_M_isInside_9 : decode bb_M_isInside 9 = .ok (.iconst 1, 1) := by decide +kernel
theorem dd_M_isInside_10 : decode bb_M_isInside 10 = .ok (.goto 4, 3) := by decide +kernel
theorem dd_M_isInside_13 : decode bb_M_isInside 13 = .ok (.iconst 0, 1) := by decide +kernel
theorem dd_M_isInside_14 : decode bb_M_isInside 14 = .ok (.ireturn, 1) := by decide +kernel
theorem dd_M_sizeOf_0 : decode bb_M_sizeOf 0 = .ok (.aload_n 0, 1) := by decide +kernel
theorem dd_M_sizeOf_1 : decode bb_M_sizeOf 1 = .ok (.iload_n 1, 1) := by decide +kernel
theorem dd_M_sizeOf_2 : decode bb_M_sizeOf 2 = .ok (.iconst 2, 1) := by decide +kernel
theorem dd_M_sizeOf_3 : decode bb_M_sizeOf 3 = .ok (.invokevirtual 69, 3) := by decide +kernel
theorem dd_M_sizeOf_6 : decode bb_M_sizeOf 6 = .ok (.istore_n 2, 1) := by decide +kernel
theorem dd_M_sizeOf_7 : decode bb_M_sizeOf 7 = .ok (.iload_n 2, 1) := by decide +kernel
theorem dd_M_sizeOf_8 : decode bb_M_sizeOf 8 = .ok (.ifCond .lt 14, 3) := by decide +kernel
theorem dd_M_sizeOf_11 : decode bb_M_sizeOf 11 = .ok (.aload_n 0, 1) := by decide +kernel
theorem dd_M_sizeOf_12 : decode bb_M_sizeOf 12 = .ok (.iload_n 1, 1) := by decide +kernel
theorem dd_M_sizeOf_13 : decode bb_M_sizeOf 13 = .ok (.iload_n 2, 1) := by decide +kernel
theorem dd_M_sizeOf_14 : decode bb_M_sizeOf 14 = .ok (.iconst 1, 1) := by decide +kernel
theorem dd_M_sizeOf_15 : decode bb_M_sizeOf 15 = .ok (.iadd, 1) := by decide +kernel
theorem dd_M_sizeOf_16 : decode bb_M_sizeOf 16 = .ok (.invokevirtual 65, 3) := by decide +kernel
theorem dd_M_sizeOf_19 : decode bb_M_sizeOf 19 = .ok (.iconst 2, 1) := by decide +kernel
theorem dd_M_sizeOf_20 : decode bb_M_sizeOf 20 = .ok (.isub, 1) := by decide +kernel
theorem dd_M_sizeOf_21 : decode bb_M_sizeOf 21 = .ok (.ireturn, 1) := by decide +kernel
theorem dd_M_sizeOf_22 : decode bb_M_sizeOf 22 = .ok (.aload_n 0, 1) := by decide +kernel
theorem dd_M_sizeOf_23 : decode bb_M_sizeOf 23 = .ok (.iload_n 1, 1) := by decide +kernel
theorem dd_M_sizeOf_24 : decode bb_M_sizeOf 24 = .ok (.iconst 3, 1) := by decide +kernel
theorem dd_M_sizeOf_25 : decode bb_M_sizeOf 25 = .ok (.invokevirtual 69, 3) := by decide +kernel
theorem dd_M_sizeOf_28 : decode bb_M_sizeOf 28 = .ok (.istore_n 2, 1) := by decide +kernel
theorem dd_M_sizeOf_29 : decode bb_M_sizeOf 29 = .ok (.aload_n 0, 1) := by decide +kernel
theorem dd_M_sizeOf_30 : decode bb_M_sizeOf 30 = .ok (.iload_n 1, 1) := by decide +kernel
theorem dd_M_sizeOf_31 : decode bb_M_sizeOf 31 = .ok (.iload_n 2, 1) := by decide +kernel
theorem dd_M_sizeOf_32 : decode bb_M_sizeOf 32 = .ok (.iconst 2, 1) := by decide +kernel
theorem dd_M_sizeOf_33 : decode bb_M_sizeOf 33 = .ok (.iadd, 1) := by decide +kernel
theorem dd_M_sizeOf_34 : decode bb_M_sizeOf 34 = .ok (.invokevirtual 65, 3) := by decide +kernel
theorem dd_M_sizeOf_37 : decode bb_M_sizeOf 37 = .ok (.sipush 256, 3) := by decide +kernel
theorem dd_M_sizeOf_40 : decode bb_M_sizeOf 40 = .ok (.aload_n 0, 1) := by decide +kernel
theorem dd_M_sizeOf_41 : decode bb_M_sizeOf 41 = .ok (.iload_n 1, 1) := by decide +kernel
theorem dd_M_sizeOf_42 : decode bb_M_sizeOf 42 = .ok (.iload_n 2, 1) := by decide +kernel
theorem dd_M_sizeOf_43 : decode bb_M_sizeOf 43 = .ok (.iconst 3, 1) := by decide +kernel
theorem dd_M_sizeOf_44 : decode bb_M_sizeOf 44 = .ok (.iadd, 1) := by decide +kernel
theorem dd_M_sizeOf_45 : decode bb_M_sizeOf 45 = .ok (.invokevirtual 65, 3) := by decide +kernel
theorem dd_M_sizeOf_48 : decode bb_M_sizeOf 48 = .ok (.imul, 1) := by decide +kernel
theorem dd_M_sizeOf_49 : decode bb_M_sizeOf 49 = .ok (.iadd, 1) := by decide +kernel
theorem dd_M_sizeOf_50 : decode bb_M_sizeOf 50 = .ok (.ireturn, 1) := by decide +kernel
theorem dd_M_begin_0 : decode bb_M_begin 0 = .ok (.iconst 0, 1) := by decide +kernel
theorem dd_M_begin_1 : decode bb_M_begin 1 = .ok (.istore_n 3, 1) := by decide +kernel
theorem dd_M_begin_2 : decode bb_M_begin 2 = .ok (.iload_n 3, 1) := by decide +kernel
theorem dd_M_begin_3 : decode bb_M_begin 3 = .ok (.bipush 64, 2) := by decide +kernel
theorem dd_M_begin_5 : decode bb_M_begin 5 = .ok (.if_icmp .ge 16, 3) := by decide +kernel
theorem dd_M_begin_8 : decode bb_M_begin 8 = .ok (.aload_n 0, 1) := by decide +kernel
theorem dd_M_begin_9 : decode bb_M_begin 9 = .ok (.getfield 24, 3) := by decide +kernel
theorem dd_M_begin_12 : decode bb_M_begin 12 = .ok (.iload_n 3, 1) := by decide +kernel
theorem dd_M_begin_13 : decode bb_M_begin 13 = .ok (.iconst 0, 1) := by decide +kernel
theorem dd_M_begin_14 : decode bb_M_begin 14 = .ok (.iastore, 1) := by decide +kernel
theorem dd_M_begin_15 : decode bb_M_begin 15 = .ok (.iinc 3 1, 3) := by decide +kernel
theorem dd_M_begin_18 : decode bb_M_begin 18 = .ok (.goto (-16), 3) := by decide +kernel
theorem dd_M_begin_21 : decode bb_M_begin 21 = .ok (.aload_n 0, 1) := by decide +kernel
theorem dd_M_begin_22 : decode bb_M_begin 22 = .ok (.getfield 24, 3) := by decide +kernel
theorem dd_M_begin_25 : decode bb_M_begin 25 = .ok (.iconst 0, 1) := by decide +kernel
theorem dd_M_begin_26 : decode bb_M_begin 26 = .ok (.iload_n 1, 1) := by decide +kernel
theorem dd_M_begin_27 : decode bb_M_begin 27 = .ok (.iastore, 1) := by decide +kernel
theorem dd_M_begin_28 : decode bb_M_begin 28 = .ok (.aload_n 0, 1) := by decide +kernel
theorem dd_M_begin_29 : decode bb_M_begin 29 = .ok (.getfield 24, 3) := by decide +kernel
theorem dd_M_begin_32 : decode bb_M_begin 32 = .ok (.iconst 1, 1) := by decide +kernel
theorem dd_M_begin_33 : decode bb_M_begin 33 = .ok (.iload_n 2, 1) := by decide +kernel
theorem dd_M_begin_34 : decode bb_M_begin 34 = .ok (.iastore, 1) := by decide +kernel
theorem dd_M_begin_35 : decode bb_M_begin 35 = .ok (.aload_n 0, 1) := by decide +kernel
theorem dd_M_begin_36 : decode bb_M_begin 36 = .ok (.bipush 10, 2) := by decide +kernel
theorem dd_M_begin_38 : decode bb_M_begin 38 = .ok (.putfield 81, 3) := by decide +kernel
theorem dd_M_begin_41 : decode bb_M_begin 41 = .ok (.return_, 1) := by decide +kernel
theorem dd_M_put_0 : decode bb_M_put 0 = .ok (.aload_n 0, 1) := by decide +kernel
theorem dd_M_put_1 : decode bb_M_put 1 = .ok (.getfield 81, 3) := by decide +kernel
theorem dd_M_put_4 : decode bb_M_put 4 = .ok (.bipush 64, 2) := by decide +kernel
theorem dd_M_put_6 : decode bb_M_put 6 = .ok (.if_icmp .ge 13, 3) := by decide +kernel
theorem dd_M_put_9 : decode bb_M_put 9 = .ok (.aload_n 0, 1) := by decide +kernel
theorem dd_M_put_10 : decode bb_M_put 10 = .ok (.getfield 24, 3) := by decide +kernel
theorem dd_M_put_13 : decode bb_M_put 13 = .ok (.aload_n 0, 1) := by decide +kernel
theorem dd_M_put_14 : decode bb_M_put 14 = .ok (.getfield 81, 3) := by decide +kernel
theorem dd_M_put_17 : decode bb_M_put 17 = .ok (.iload_n 1, 1) := by decide +kernel
theorem dd_M_put_18 : decode bb_M_put 18 = .ok (.iastore, 1) := by decide +kernel
theorem dd_M_put_19 : decode bb_M_put 19 = .ok (.aload_n 0, 1) := by decide +kernel
theorem dd_M_put_20 : decode bb_M_put 20 = .ok (.dup, 1) := by decide +kernel
theorem dd_M_put_21 : decode bb_M_put 21 = .ok (.getfield 81, 3) := by decide +kernel
theorem dd_M_put_24 : decode bb_M_put 24 = .ok (.iconst 1, 1) := by decide +kernel
theorem dd_M_put_25 : decode bb_M_put 25 = .ok (.iadd, 1) := by decide +kernel
theorem dd_M_put_26 : decode bb_M_put 26 = .ok (.putfield 81, 3) := by decide +kernel
theorem dd_M_put_29 : decode bb_M_put 29 = .ok (.return_, 1) := by decide +kernel
theorem dd_M_putName_0 : decode bb_M_putName 0 = .ok (.aload_n 0, 1) := by decide +kernel
theorem dd_M_putName_1 : decode bb_M_putName 1 = .ok (.iload_n 1, 1) := by decide +kernel
theorem dd_M_putName_2 : decode bb_M_putName 2 = .ok (.invokevirtual 72, 3) := by decide +kernel
theorem dd_M_putName_5 : decode bb_M_putName 5 = .ok (.istore_n 2, 1) := by decide +kernel
theorem dd_M_putName_6 : decode bb_M_putName 6 = .ok (.iload_n 2, 1) := by decide +kernel
theorem dd_M_putName_7 : decode bb_M_putName 7 = .ok (.ifCond .ne 4, 3) := by decide +kernel
theorem dd_M_putName_10 : decode bb_M_putName 10 = .ok (.return_, 1) := by decide +kernel
theorem dd_M_putName_11 : decode bb_M_putName 11 = .ok (.aload_n 0, 1) := by decide +kernel
theorem dd_M_putName_12 : decode bb_M_putName 12 = .ok (.iconst 1, 1) := by decide +kernel
theorem dd_M_putName_13 : decode bb_M_putName 13 = .ok (.invokevirtual 84, 3) := by decide +kernel
theorem dd_M_putName_16 : decode bb_M_putName 16 = .ok (.aload_n 0, 1) := by decide +kernel
theorem dd_M_putName_17 : decode bb_M_putName 17 = .ok (.iload_n 2, 1) := by decide +kernel
theorem dd_M_putName_18 : decode bb_M_putName 18 = .ok (.iconst 2, 1) := by decide +kernel
theorem dd_M_putName_19 : decode bb_M_putName 19 = .ok (.iadd, 1) := by decide +kernel
theorem dd_M_putName_20 : decode bb_M_putName 20 = .ok (.invokevirtual 84, 3) := by decide +kernel
theorem dd_M_putName_23 : decode bb_M_putName 23 = .ok (.iconst 0, 1) := by decide +kernel
theorem dd_M_putName_24 : decode bb_M_putName 24 = .ok (.istore_n 3, 1) := by decide +kernel
theorem dd_M_putName_25 : decode bb_M_putName 25 = .ok (.iload_n 3, 1) := by decide +kernel
theorem dd_M_putName_26 : decode bb_M_putName 26 = .ok (.iload_n 2, 1) := by decide +kernel
theorem dd_M_putName_27 : decode bb_M_putName 27 = .ok (.if_icmp .ge 22, 3) := by decide +kernel
theorem dd_M_putName_30 : decode bb_M_putName 30 = .ok (.aload_n 0, 1) := by decide +kernel
theorem dd_M_putName_31 : decode bb_M_putName 31 = .ok (.aload_n 0, 1) := by decide +kernel
theorem dd_M_putName_32 : decode bb_M_putName 32 = .ok (.iload_n 1, 1) := by decide +kernel
theorem dd_M_putName_33 : decode bb_M_putName 33 = .ok (.bipush 12, 2) := by decide +kernel
theorem dd_M_putName_35 : decode bb_M_putName 35 = .ok (.iload_n 3, 1) := by decide +kernel
theorem dd_M_putName_36 : decode bb_M_putName 36 = .ok (.iadd, 1) := by decide +kernel
theorem dd_M_putName_37 : decode bb_M_putName 37 = .ok (.invokevirtual 65, 3) := by decide +kernel
theorem dd_M_putName_40 : decode bb_M_putName 40 = .ok (.invokevirtual 84, 3) := by decide +kernel
theorem dd_M_putName_43 : decode bb_M_putName 43 = .ok (.iinc 3 1, 3) := by decide +kernel
theorem dd_M_putName_46 : decode bb_M_putName 46 = .ok (.goto (-21), 3) := by decide +kernel
theorem dd_M_putName_49 : decode bb_M_putName 49 = .ok (.return_, 1) := by decide +kernel
theorem dd_M_putDraft_0 : decode bb_M_putDraft 0 = .ok (.aload_n 0, 1) := by decide +kernel
theorem dd_M_putDraft_1 : decode bb_M_putDraft 1 = .ok (.iconst 1, 1) := by decide +kernel
theorem dd_M_putDraft_2 : decode bb_M_putDraft 2 = .ok (.invokevirtual 84, 3) := by decide +kernel
theorem dd_M_putDraft_5 : decode bb_M_putDraft 5 = .ok (.aload_n 0, 1) := by decide +kernel
theorem dd_M_putDraft_6 : decode bb_M_putDraft 6 = .ok (.aload_n 0, 1) := by decide +kernel
theorem dd_M_putDraft_7 : decode bb_M_putDraft 7 = .ok (.getfield 78, 3) := by decide +kernel
theorem dd_M_putDraft_10 : decode bb_M_putDraft 10 = .ok (.iconst 2, 1) := by decide +kernel
theorem dd_M_putDraft_11 : decode bb_M_putDraft 11 = .ok (.iadd, 1) := by decide +kernel
theorem dd_M_putDraft_12 : decode bb_M_putDraft 12 = .ok (.invokevirtual 84, 3) := by decide +kernel
theorem dd_M_putDraft_15 : decode bb_M_putDraft 15 = .ok (.iconst 0, 1) := by decide +kernel
theorem dd_M_putDraft_16 : decode bb_M_putDraft 16 = .ok (.istore_n 1, 1) := by decide +kernel
theorem dd_M_putDraft_17 : decode bb_M_putDraft 17 = .ok (.iload_n 1, 1) := by decide +kernel
theorem dd_M_putDraft_18 : decode bb_M_putDraft 18 = .ok (.aload_n 0, 1) := by decide +kernel
theorem dd_M_putDraft_19 : decode bb_M_putDraft 19 = .ok (.getfield 78, 3) := by decide +kernel
theorem dd_M_putDraft_22 : decode bb_M_putDraft 22 = .ok (.if_icmp .ge 19, 3) := by decide +kernel
theorem dd_M_putDraft_25 : decode bb_M_putDraft 25 = .ok (.aload_n 0, 1) := by decide +kernel
theorem dd_M_putDraft_26 : decode bb_M_putDraft 26 = .ok (.aload_n 0, 1) := by decide +kernel
theorem dd_M_putDraft_27 : decode bb_M_putDraft 27 = .ok (.getfield 20, 3) := by decide +kernel
theorem dd_M_putDraft_30 : decode bb_M_putDraft 30 = .ok (.iload_n 1, 1) := by decide +kernel
theorem dd_M_putDraft_31 : decode bb_M_putDraft 31 = .ok (.caload, 1) := by decide +kernel
theorem dd_M_putDraft_32 : decode bb_M_putDraft 32 = .ok (.invokevirtual 84, 3) := by decide +kernel
theorem dd_M_putDraft_35 : decode bb_M_putDraft 35 = .ok (.iinc 1 1, 3) := by decide +kernel
theorem dd_M_putDraft_38 : decode bb_M_putDraft 38 = .ok (.goto (-21), 3) := by decide +kernel
theorem dd_M_putDraft_41 : decode bb_M_putDraft 41 = .ok (.return_, 1) := by decide +kernel
theorem dd_M_putList_0 : decode bb_M_putList 0 = .ok (.aload_n 0, 1) := by decide +kernel
theorem dd_M_putList_1 : decode bb_M_putList 1 = .ok (.iconst 4, 1) := by decide +kernel
theorem dd_M_putList_2 : decode bb_M_putList 2 = .ok (.invokevirtual 84, 3) := by decide +kernel
theorem dd_M_putList_5 : decode bb_M_putList 5 = .ok (.aload_n 0, 1) := by decide +kernel
theorem dd_M_putList_6 : decode bb_M_putList 6 = .ok (.aload_n 0, 1) := by decide +kernel
theorem dd_M_putList_7 : decode bb_M_putList 7 = .ok (.getfield 88, 3) := by decide +kernel
theorem dd_M_putList_10 : decode bb_M_putList 10 = .ok (.iconst 2, 1) := by decide +kernel
theorem dd_M_putList_11 : decode bb_M_putList 11 = .ok (.iadd, 1) := by decide +kernel
theorem dd_M_putList_12 : decode bb_M_putList 12 = .ok (.invokevirtual 84, 3) := by decide +kernel
theorem dd_M_putList_15 : decode bb_M_putList 15 = .ok (.iconst 0, 1) := by decide +kernel
theorem dd_M_putList_16 : decode bb_M_putList 16 = .ok (.istore_n 1, 1) := by decide +kernel
theorem dd_M_putList_17 : decode bb_M_putList 17 = .ok (.iload_n 1, 1) := by decide +kernel
theorem dd_M_putList_18 : decode bb_M_putList 18 = .ok (.aload_n 0, 1) := by decide +kernel
theorem dd_M_putList_19 : decode bb_M_putList 19 = .ok (.getfield 88, 3) := by decide +kernel
theorem dd_M_putList_22 : decode bb_M_putList 22 = .ok (.if_icmp .ge 19, 3) := by decide +kernel
theorem dd_M_putList_25 : decode bb_M_putList 25 = .ok (.aload_n 0, 1) := by decide +kernel
theorem dd_M_putList_26 : decode bb_M_putList 26 = .ok (.aload_n 0, 1) := by decide +kernel
theorem dd_M_putList_27 : decode bb_M_putList 27 = .ok (.getfield 36, 3) := by decide +kernel
theorem dd_M_putList_30 : decode bb_M_putList 30 = .ok (.iload_n 1, 1) := by decide +kernel
theorem dd_M_putList_31 : decode bb_M_putList 31 = .ok (.iaload, 1) := by decide +kernel
theorem dd_M_putList_32 : decode bb_M_putList 32 = .ok (.invokevirtual 84, 3) := by decide +kernel
theorem dd_M_putList_35 : decode bb_M_putList 35 = .ok (.iinc 1 1, 3) := by decide +kernel
theorem dd_M_putList_38 : decode bb_M_putList 38 = .ok (.goto (-21), 3) := by decide +kernel
theorem dd_M_putList_41 : decode bb_M_putList 41 = .ok (.return_, 1) := by decide +kernel
theorem dd_M_putInside_0 : decode bb_M_putInside 0 = .ok (.aload_n 0, 1) := by decide +kernel
theorem dd_M_putInside_1 : decode bb_M_putInside 1 = .ok (.iconst 2, 1) := by decide +kernel
theorem dd_M_putInside_2 : decode bb_M_putInside 2 = .ok (.invokevirtual 84, 3) := by decide +kernel
theorem dd_M_putInside_5 : decode bb_M_putInside 5 = .ok (.aload_n 0, 1) := by decide +kernel
theorem dd_M_putInside_6 : decode bb_M_putInside 6 = .ok (.iload_n 1, 1) := by decide +kernel
theorem dd_M_putInside_7 : decode bb_M_putInside 7 = .ok (.iconst 2, 1) := by decide +kernel
theorem dd_M_putInside_8 : decode bb_M_putInside 8 = .ok (.iadd, 1) := by decide +kernel
theorem dd_M_putInside_9 : decode bb_M_putInside 9 = .ok (.invokevirtual 84, 3) := by decide +kernel
theorem dd_M_putInside_12 : decode bb_M_putInside 12 = .ok (.iconst 0, 1) := by decide +kernel
theorem dd_M_putInside_13 : decode bb_M_putInside 13 = .ok (.istore_n 2, 1) := by decide +kernel
theorem dd_M_putInside_14 : decode bb_M_putInside 14 = .ok (.iload_n 2, 1) := by decide +kernel
theorem dd_M_putInside_15 : decode bb_M_putInside 15 = .ok (.iload_n 1, 1) := by decide +kernel
theorem dd_M_putInside_16 : decode bb_M_putInside 16 = .ok (.if_icmp .ge 19, 3) := by decide +kernel
theorem dd_M_putInside_19 : decode bb_M_putInside 19 = .ok (.aload_n 0, 1) := by decide +kernel
theorem dd_M_putInside_20 : decode bb_M_putInside 20 = .ok (.aload_n 0, 1) := by decide +kernel
theorem dd_M_putInside_21 : decode bb_M_putInside 21 = .ok (.getfield 33, 3) := by decide +kernel
theorem dd_M_putInside_24 : decode bb_M_putInside 24 = .ok (.iload_n 2, 1) := by decide +kernel
theorem dd_M_putInside_25 : decode bb_M_putInside 25 = .ok (.iaload, 1) := by decide +kernel
theorem dd_M_putInside_26 : decode bb_M_putInside 26 = .ok (.invokevirtual 84, 3) := by decide +kernel
theorem dd_M_putInside_29 : decode bb_M_putInside 29 = .ok (.iinc 2 1, 3) := by decide +kernel
theorem dd_M_putInside_32 : decode bb_M_putInside 32 = .ok (.goto (-18), 3) := by decide +kernel
theorem dd_M_putInside_35 : decode bb_M_putInside 35 = .ok (.return_, 1) := by decide +kernel
theorem dd_M_putOutside_0 : decode bb_M_putOutside 0 = .ok (.aload_n 0, 1) := by decide +kernel
theorem dd_M_putOutside_1 : decode bb_M_putOutside 1 = .ok (.getfield 81, 3) := by decide +kernel
theorem dd_M_putOutside_4 : decode bb_M_putOutside 4 = .ok (.istore_n 2, 1) := by decide +kernel
theorem dd_M_putOutside_5 : decode bb_M_putOutside 5 = .ok (.aload_n 0, 1) := by decide +kernel
theorem dd_M_putOutside_6 : decode bb_M_putOutside 6 = .ok (.iconst 3, 1) := by decide +kernel
theorem dd_M_putOutside_7 : decode bb_M_putOutside 7 = .ok (.invokevirtual 84, 3) := by decide +kernel
theorem dd_M_putOutside_10 : decode bb_M_putOutside 10 = .ok (.aload_n 0, 1) := by decide +kernel
theorem dd_M_putOutside_11 : decode bb_M_putOutside 11 = .ok (.iconst 0, 1) := by decide +kernel
theorem dd_M_putOutside_12 : decode bb_M_putOutside 12 = .ok (.invokevirtual 84, 3) := by decide +kernel
theorem dd_M_putOutside_15 : decode bb_M_putOutside 15 = .ok (.aload_n 0, 1) := by decide +kernel
theorem dd_M_putOutside_16 : decode bb_M_putOutside 16 = .ok (.iload_n 1, 1) := by decide +kernel
theorem dd_M_putOutside_17 : decode bb_M_putOutside 17 = .ok (.sipush 256, 3) := by decide +kernel
theorem dd_M_putOutside_20 : decode bb_M_putOutside 20 = .ok (.irem, 1) := by decide +kernel
theorem dd_M_putOutside_21 : decode bb_M_putOutside 21 = .ok (.invokevirtual 84, 3) := by decide +kernel
theorem dd_M_putOutside_24 : decode bb_M_putOutside 24 = .ok (.aload_n 0, 1) := by decide +kernel
theorem dd_M_putOutside_25 : decode bb_M_putOutside 25 = .ok (.iload_n 1, 1) := by decide +kernel
theorem dd_M_putOutside_26 : decode bb_M_putOutside 26 = .ok (.sipush 256, 3) := by decide +kernel
theorem dd_M_putOutside_29 : decode bb_M_putOutside 29 = .ok (.idiv, 1) := by decide +kernel
theorem dd_M_putOutside_30 : decode bb_M_putOutside 30 = .ok (.invokevirtual 84, 3) := by decide +kernel
theorem dd_M_putOutside_33 : decode bb_M_putOutside 33 = .ok (.bipush 48, 2) := by decide +kernel
theorem dd_M_putOutside_35 : decode bb_M_putOutside 35 = .ok (.istore_n 3, 1) := by decide +kernel
theorem dd_M_putOutside_36 : decode bb_M_putOutside 36 = .ok (.iconst 0, 1) := by decide +kernel
theorem dd_M_putOutside_37 : decode bb_M_putOutside 37 = .ok (.istore 4, 2) := by decide +kernel
theorem dd_M_putOutside_39 : decode bb_M_putOutside 39 = .ok (.iload 4, 2) := by decide +kernel
theorem dd_M_putOutside_41 : decode bb_M_putOutside 41 = .ok (.aload_n 0, 1) := by decide +kernel
theorem dd_M_putOutside_42 : decode bb_M_putOutside 42 = .ok (.getfield 91, 3) := by decide +kernel
theorem dd_M_putOutside_45 : decode bb_M_putOutside 45 = .ok (.if_icmp .ge 141, 3) := by decide +kernel
theorem dd_M_putOutside_48 : decode bb_M_putOutside 48 = .ok (.iload 4, 2) := by decide +kernel
theorem dd_M_putOutside_50 : decode bb_M_putOutside 50 = .ok (.iconst 1, 1) := by decide +kernel
theorem dd_M_putOutside_51 : decode bb_M_putOutside 51 = .ok (.iadd, 1) := by decide +kernel
theorem dd_M_putOutside_52 : decode bb_M_putOutside 52 = .ok (.istore 5, 2) := by decide +kernel
theorem dd_M_putOutside_54 : decode bb_M_putOutside 54 = .ok (.iload 5, 2) := by decide +kernel
theorem dd_M_putOutside_56 : decode bb_M_putOutside 56 = .ok (.aload_n 0, 1) := by decide +kernel
theorem dd_M_putOutside_57 : decode bb_M_putOutside 57 = .ok (.getfield 91, 3) := by decide +kernel
theorem dd_M_putOutside_60 : decode bb_M_putOutside 60 = .ok (.if_icmp .ge 55, 3) := by decide +kernel
theorem dd_M_putOutside_63 : decode bb_M_putOutside 63 = .ok (.aload_n 0, 1) := by decide +kernel
theorem dd_M_putOutside_64 : decode bb_M_putOutside 64 = .ok (.getfield 27, 3) := by decide +kernel
theorem dd_M_putOutside_67 : decode bb_M_putOutside 67 = .ok (.iload 4, 2) := by decide +kernel
theorem dd_M_putOutside_69 : decode bb_M_putOutside 69 = .ok (.iaload, 1) := by decide +kernel
theorem dd_M_putOutside_70 : decode bb_M_putOutside 70 = .ok (.ifCond .ge 16, 3) := by decide +kernel
theorem dd_M_putOutside_73 : decode bb_M_putOutside 73 = .ok (.aload_n 0, 1) := by decide +kernel
theorem dd_M_putOutside_74 : decode bb_M_putOutside 74 = .ok (.getfield 27, 3) := by decide +kernel
theorem dd_M_putOutside_77 : decode bb_M_putOutside 77 = .ok (.iload 5, 2) := by decide +kernel
theorem dd_M_putOutside_79 : decode bb_M_putOutside 79 = .ok (.iaload, 1) := by decide +kernel
theorem dd_M_putOutside_80 : decode bb_M_putOutside 80 = .ok (.ifCond .ge 35, 3) := by decide +kernel
theorem dd_M_putOutside_83 : decode bb_M_putOutside 83 = .ok (.goto 26, 3) := by decide +kernel
theorem dd_M_putOutside_86 : decode bb_M_putOutside 86 = .ok (.aload_n 0, 1) := by decide +kernel
theorem dd_M_putOutside_87 : decode bb_M_putOutside 87 = .ok (.getfield 27, 3) := by decide +kernel
theorem dd_M_putOutside_90 : decode bb_M_putOutside 90 = .ok (.iload 5, 2) := by decide +kernel
theorem dd_M_putOutside_92 : decode bb_M_putOutside 92 = .ok (.iaload, 1) := by decide +kernel
theorem dd_M_putOutside_93 : decode bb_M_putOutside 93 = .ok (.aload_n 0, 1) := by decide +kernel
theorem dd_M_putOutside_94 : decode bb_M_putOutside 94 = .ok (.getfield 27, 3) := by decide +kernel
theorem dd_M_putOutside_97 : decode bb_M_putOutside 97 = .ok (.iload 4, 2) := by decide +kernel
theorem dd_M_putOutside_99 : decode bb_M_putOutside 99 = .ok (.iaload, 1) := by decide +kernel
theorem dd_M_putOutside_100 : decode bb_M_putOutside 100 = .ok (.iload 5, 2) := by decide +kernel
theorem dd_M_putOutside_102 : decode bb_M_putOutside 102 = .ok (.iadd, 1) := by decide +kernel
theorem dd_M_putOutside_103 : decode bb_M_putOutside 103 = .ok (.iload 4, 2) := by decide +kernel
theorem dd_M_putOutside_105 : decode bb_M_putOutside 105 = .ok (.isub, 1) := by decide +kernel
theorem dd_M_putOutside_106 : decode bb_M_putOutside 106 = .ok (.if_icmp .ne 9, 3) := by decide +kernel
theorem dd_M_putOutside_109 : decode bb_M_putOutside 109 = .ok (.iinc 5 1, 3) := by decide +kernel
theorem dd_M_putOutside_112 : decode bb_M_putOutside 112 = .ok (.goto (-58), 3) := by decide +kernel
theorem dd_M_putOutside_115 : decode bb_M_putOutside 115 = .ok (.aload_n 0, 1) := by decide +kernel
theorem dd_M_putOutside_116 : decode bb_M_putOutside 116 = .ok (.aload_n 0, 1) := by decide +kernel
theorem dd_M_putOutside_117 : decode bb_M_putOutside 117 = .ok (.getfield 27, 3) := by decide +kernel
theorem dd_M_putOutside_120 : decode bb_M_putOutside 120 = .ok (.iload 4, 2) := by decide +kernel
theorem dd_M_putOutside_122 : decode bb_M_putOutside 122 = .ok (.iaload, 1) := by decide +kernel
theorem dd_M_putOutside_123 : decode bb_M_putOutside 123 = .ok (.ifCond .ge 7, 3) := by decide +kernel
theorem dd_M_putOutside_126 : decode bb_M_putOutside 126 = .ok (.iconst 1, 1) := by decide +kernel
theorem dd_M_putOutside_127 : decode bb_M_putOutside 127 = .ok (.goto 5, 3) := by decide +kernel
theorem dd_M_putOutside_130 : decode bb_M_putOutside 130 = .ok (.bipush 17, 2) := by decide +kernel
theorem dd_M_putOutside_132 : decode bb_M_putOutside 132 = .ok (.invokevirtual 84, 3) := by decide +kernel
theorem dd_M_putOutside_135 : decode bb_M_putOutside 135 = .ok (.aload_n 0, 1) := by decide +kernel
theorem dd_M_putOutside_136 : decode bb_M_putOutside 136 = .ok (.iload 5, 2) := by decide +kernel
theorem dd_M_putOutside_138 : decode bb_M_putOutside 138 = .ok (.iload 4, 2) := by decide +kernel
theorem dd_M_putOutside_140 : decode bb_M_putOutside 140 = .ok (.isub, 1) := by decide +kernel
theorem dd_M_putOutside_141 : decode bb_M_putOutside 141 = .ok (.invokevirtual 84, 3) := by decide +kernel
theorem dd_M_putOutside_144 : decode bb_M_putOutside 144 = .ok (.aload_n 0, 1) := by decide +kernel
theorem dd_M_putOutside_145 : decode bb_M_putOutside 145 = .ok (.getfield 27, 3) := by decide +kernel
theorem dd_M_putOutside_148 : decode bb_M_putOutside 148 = .ok (.iload 4, 2) := by decide +kernel
theorem dd_M_putOutside_150 : decode bb_M_putOutside 150 = .ok (.iaload, 1) := by decide +kernel
theorem dd_M_putOutside_151 : decode bb_M_putOutside 151 = .ok (.ifCond .lt 28, 3) := by decide +kernel
theorem dd_M_putOutside_154 : decode bb_M_putOutside 154 = .ok (.aload_n 0, 1) := by decide +kernel
theorem dd_M_putOutside_155 : decode bb_M_putOutside 155 = .ok (.aload_n 0, 1) := by decide +kernel
theorem dd_M_putOutside_156 : decode bb_M_putOutside 156 = .ok (.getfield 27, 3) := by decide +kernel
theorem dd_M_putOutside_159 : decode bb_M_putOutside 159 = .ok (.iload 4, 2) := by decide +kernel
theorem dd_M_putOutside_161 : decode bb_M_putOutside 161 = .ok (.iaload, 1) := by decide +kernel
theorem dd_M_putOutside_162 : decode bb_M_putOutside 162 = .ok (.iload_n 3, 1) := by decide +kernel
theorem dd_M_putOutside_163 : decode bb_M_putOutside 163 = .ok (.isub, 1) := by decide +kernel
theorem dd_M_putOutside_164 : decode bb_M_putOutside 164 = .ok (.sipush 255, 3) := by decide +kernel
theorem dd_M_putOutside_167 : decode bb_M_putOutside 167 = .ok (.iand, 1) := by decide +kernel
theorem dd_M_putOutside_168 : decode bb_M_putOutside 168 = .ok (.invokevirtual 84, 3) := by decide +kernel
theorem dd_M_putOutside_171 : decode bb_M_putOutside 171 = .ok (.aload_n 0, 1) := by decide +kernel
theorem dd_M_putOutside_172 : decode bb_M_putOutside 172 = .ok (.getfield 27, 3) := by decide +kernel
theorem dd_M_putOutside_175 : decode bb_M_putOutside 175 = .ok (.iload 4, 2) := by decide +kernel
theorem dd_M_putOutside_177 : decode bb_M_putOutside 177 = .ok (.iaload, 1) := by decide +kernel
theorem dd_M_putOutside_178 : decode bb_M_putOutside 178 = .ok (.istore_n 3, 1) := by decide +kernel
theorem dd_M_putOutside_179 : decode bb_M_putOutside 179 = .ok (.iload 5, 2) := by decide +kernel
theorem dd_M_putOutside_181 : decode bb_M_putOutside 181 = .ok (.istore 4, 2) := by decide +kernel
theorem dd_M_putOutside_183 : decode bb_M_putOutside 183 = .ok (.goto (-144), 3) := by decide +kernel
theorem dd_M_putOutside_186 : decode bb_M_putOutside 186 = .ok (.aload_n 0, 1) := by decide +kernel
theorem dd_M_putOutside_187 : decode bb_M_putOutside 187 = .ok (.iconst 0, 1) := by decide +kernel
theorem dd_M_putOutside_188 : decode bb_M_putOutside 188 = .ok (.invokevirtual 84, 3) := by decide +kernel
theorem dd_M_putOutside_191 : decode bb_M_putOutside 191 = .ok (.iload_n 2, 1) := by decide +kernel
theorem dd_M_putOutside_192 : decode bb_M_putOutside 192 = .ok (.iconst 1, 1) := by decide +kernel
theorem dd_M_putOutside_193 : decode bb_M_putOutside 193 = .ok (.iadd, 1) := by decide +kernel
theorem dd_M_putOutside_194 : decode bb_M_putOutside 194 = .ok (.bipush 64, 2) := by decide +kernel
theorem dd_M_putOutside_196 : decode bb_M_putOutside 196 = .ok (.if_icmp .ge 17, 3) := by decide +kernel
theorem dd_M_putOutside_199 : decode bb_M_putOutside 199 = .ok (.aload_n 0, 1) := by decide +kernel
theorem dd_M_putOutside_200 : decode bb_M_putOutside 200 = .ok (.getfield 24, 3) := by decide +kernel
theorem dd_M_putOutside_203 : decode bb_M_putOutside 203 = .ok (.iload_n 2, 1) := by decide +kernel
theorem dd_M_putOutside_204 : decode bb_M_putOutside 204 = .ok (.iconst 1, 1) := by decide +kernel
theorem dd_M_putOutside_205 : decode bb_M_putOutside 205 = .ok (.iadd, 1) := by decide +kernel
theorem dd_M_putOutside_206 : decode bb_M_putOutside 206 = .ok (.aload_n 0, 1) := by decide +kernel
theorem dd_M_putOutside_207 : decode bb_M_putOutside 207 = .ok (.getfield 81, 3) := by decide +kernel
theorem dd_M_putOutside_210 : decode bb_M_putOutside 210 = .ok (.iload_n 2, 1) := by decide +kernel
theorem dd_M_putOutside_211 : decode bb_M_putOutside 211 = .ok (.isub, 1) := by decide +kernel
theorem dd_M_putOutside_212 : decode bb_M_putOutside 212 = .ok (.iastore, 1) := by decide +kernel
theorem dd_M_putOutside_213 : decode bb_M_putOutside 213 = .ok (.return_, 1) := by decide +kernel
theorem dd_M_sector_0 : decode bb_M_sector 0 = .ok (.aload_n 0, 1) := by decide +kernel
theorem dd_M_sector_1 : decode bb_M_sector 1 = .ok (.getfield 94, 3) := by decide +kernel
theorem dd_M_sector_4 : decode bb_M_sector 4 = .ok (.iconst 1, 1) := by decide +kernel
theorem dd_M_sector_5 : decode bb_M_sector 5 = .ok (.if_icmp .ne 15, 3) := by decide +kernel
theorem dd_M_sector_8 : decode bb_M_sector 8 = .ok (.aload_n 0, 1) := by decide +kernel
theorem dd_M_sector_9 : decode bb_M_sector 9 = .ok (.iconst 0, 1) := by decide +kernel
theorem dd_M_sector_10 : decode bb_M_sector 10 = .ok (.putfield 94, 3) := by decide +kernel
theorem dd_M_sector_13 : decode bb_M_sector 13 = .ok (.aload_n 0, 1) := by decide +kernel
theorem dd_M_sector_14 : decode bb_M_sector 14 = .ok (.iconst 0, 1) := by decide +kernel
theorem dd_M_sector_15 : decode bb_M_sector 15 = .ok (.putfield 50, 3) := by decide +kernel
theorem dd_M_sector_18 : decode bb_M_sector 18 = .ok (.iconst 0, 1) := by decide +kernel
theorem dd_M_sector_19 : decode bb_M_sector 19 = .ok (.ireturn, 1) := by decide +kernel
theorem dd_M_sector_20 : decode bb_M_sector 20 = .ok (.aload_n 0, 1) := by decide +kernel
theorem dd_M_sector_21 : decode bb_M_sector 21 = .ok (.aload_n 0, 1) := by decide +kernel
theorem dd_M_sector_22 : decode bb_M_sector 22 = .ok (.getfield 94, 3) := by decide +kernel
theorem dd_M_sector_25 : decode bb_M_sector 25 = .ok (.ifCond .le 12, 3) := by decide +kernel
theorem dd_M_sector_28 : decode bb_M_sector 28 = .ok (.aload_n 0, 1) := by decide +kernel
theorem dd_M_sector_29 : decode bb_M_sector 29 = .ok (.getfield 94, 3) := by decide +kernel
theorem dd_M_sector_32 : decode bb_M_sector 32 = .ok (.iconst 1, 1) := by decide +kernel
theorem dd_M_sector_33 : decode bb_M_sector 33 = .ok (.isub, 1) := by decide +kernel
theorem dd_M_sector_34 : decode bb_M_sector 34 = .ok (.goto 4, 3) := by decide +kernel
theorem dd_M_sector_37 : decode bb_M_sector 37 = .ok (.iconst 0, 1) := by decide +kernel
theorem dd_M_sector_38 : decode bb_M_sector 38 = .ok (.putfield 94, 3) := by decide +kernel
theorem dd_M_sector_41 : decode bb_M_sector 41 = .ok (.bipush 32, 2) := by decide +kernel
theorem dd_M_sector_43 : decode bb_M_sector 43 = .ok (.iload_n 2, 1) := by decide +kernel
theorem dd_M_sector_44 : decode bb_M_sector 44 = .ok (.imul, 1) := by decide +kernel
theorem dd_M_sector_45 : decode bb_M_sector 45 = .ok (.istore_n 3, 1) := by decide +kernel
theorem dd_M_sector_46 : decode bb_M_sector 46 = .ok (.iload_n 3, 1) := by decide +kernel
theorem dd_M_sector_47 : decode bb_M_sector 47 = .ok (.bipush 32, 2) := by decide +kernel
theorem dd_M_sector_49 : decode bb_M_sector 49 = .ok (.iload_n 2, 1) := by decide +kernel
theorem dd_M_sector_50 : decode bb_M_sector 50 = .ok (.imul, 1) := by decide +kernel
theorem dd_M_sector_51 : decode bb_M_sector 51 = .ok (.bipush 32, 2) := by decide +kernel
theorem dd_M_sector_53 : decode bb_M_sector 53 = .ok (.iadd, 1) := by decide +kernel
theorem dd_M_sector_54 : decode bb_M_sector 54 = .ok (.if_icmp .ge 26, 3) := by decide +kernel
theorem dd_M_sector_57 : decode bb_M_sector 57 = .ok (.aload_n 0, 1) := by decide +kernel
theorem dd_M_sector_58 : decode bb_M_sector 58 = .ok (.getfield 7, 3) := by decide +kernel
theorem dd_M_sector_61 : decode bb_M_sector 61 = .ok (.bipush 64, 2) := by decide +kernel
theorem dd_M_sector_63 : decode bb_M_sector 63 = .ok (.iload_n 1, 1) := by decide +kernel
theorem dd_M_sector_64 : decode bb_M_sector 64 = .ok (.imul, 1) := by decide +kernel
theorem dd_M_sector_65 : decode bb_M_sector 65 = .ok (.iload_n 3, 1) := by decide +kernel
theorem dd_M_sector_66 : decode bb_M_sector 66 = .ok (.iadd, 1) := by decide +kernel
theorem dd_M_sector_67 : decode bb_M_sector 67 = .ok (.aload_n 0, 1) := by decide +kernel
theorem dd_M_sector_68 : decode bb_M_sector 68 = .ok (.getfield 24, 3) := by decide +kernel
theorem dd_M_sector_71 : decode bb_M_sector 71 = .ok (.iload_n 3, 1) := by decide +kernel
theorem dd_M_sector_72 : decode bb_M_sector 72 = .ok (.iaload, 1) := by decide +kernel
theorem dd_M_sector_73 : decode bb_M_sector 73 = .ok (.iastore, 1) := by decide +kernel
theorem dd_M_sector_74 : decode bb_M_sector 74 = .ok (.iinc 3 1, 3) := by decide +kernel
theorem dd_M_sector_77 : decode bb_M_sector 77 = .ok (.goto (-31), 3) := by decide +kernel
theorem dd_M_sector_80 : decode bb_M_sector 80 = .ok (.iconst 1, 1) := by decide +kernel
theorem dd_M_sector_81 : decode bb_M_sector 81 = .ok (.ireturn, 1) := by decide +kernel
