theorem dd_V_isAtOrBelow_0 : decode bb_V_isAtOrBelow 0 = .ok (.iload_n 1, 1) := by decide +kernel
theorem dd_V_isAtOrBelow_1 : decode bb_V_isAtOrBelow 1 = .ok (.istore_n 3, 1) := by decide +kernel
theorem dd_V_isAtOrBelow_2 : decode bb_V_isAtOrBelow 2 = .ok (.iconst 0, 1) := by decide +kernel
theorem dd_V_isAtOrBelow_3 : decode bb_V_isAtOrBelow 3 = .ok (.istore 4, 2) := by decide +kernel
theorem dd_V_isAtOrBelow_5 : decode bb_V_isAtOrBelow 5 = .ok (.iload 4, 2) := by decide +kernel
theorem dd_V_isAtOrBelow_7 : decode bb_V_isAtOrBelow 7 = .ok (.bipush 12, 2) := by decide +kernel
theorem dd_V_isAtOrBelow_9 : decode bb_V_isAtOrBelow 9 = .ok (.if_icmp .ge 34, 3) := by decide +kernel
theorem dd_V_isAtOrBelow_12 : decode bb_V_isAtOrBelow 12 = .ok (.aload_n 0, 1) := by decide +kernel
theorem dd_V_isAtOrBelow_13 : decode bb_V_isAtOrBelow 13 = .ok (.iload_n 3, 1) := by decide +kernel
theorem dd_V_isAtOrBelow_14 : decode bb_V_isAtOrBelow 14 = .ok (.invokevirtual 170, 3) := by decide +kernel
theorem dd_V_isAtOrBelow_17 : decode bb_V_isAtOrBelow 17 = .ok (.ifCond .eq 26, 3) := by decide +kernel
theorem dd_V_isAtOrBelow_20 : decode bb_V_isAtOrBelow 20 = .ok (.iload_n 3, 1) := by decide +kernel
theorem dd_V_isAtOrBelow_21 : decode bb_V_isAtOrBelow 21 = .ok (.iload_n 2, 1) := by decide +kernel
theorem dd_V_isAtOrBelow_22 : decode bb_V_isAtOrBelow 22 = .ok (.if_icmp .ne 5, 3) := by decide +kernel
theorem dd_V_isAtOrBelow_25 : decode bb_V_isAtOrBelow 25 = .ok (.iconst 1, 1) := by decide +kernel
theorem dd_V_isAtOrBelow_26 : decode bb_V_isAtOrBelow 26 = .ok (.ireturn, 1) := by decide +kernel
theorem dd_V_isAtOrBelow_27 : decode bb_V_isAtOrBelow 27 = .ok (.aload_n 0, 1) := by decide +kernel
theorem dd_V_isAtOrBelow_28 : decode bb_V_isAtOrBelow 28 = .ok (.getfield 18, 3) := by decide +kernel
theorem dd_V_isAtOrBelow_31 : decode bb_V_isAtOrBelow 31 = .ok (.iload_n 3, 1) := by decide +kernel
theorem dd_V_isAtOrBelow_32 : decode bb_V_isAtOrBelow 32 = .ok (.aaload, 1) := by decide +kernel
theorem dd_V_isAtOrBelow_33 : decode bb_V_isAtOrBelow 33 = .ok (.getfield 173, 3) := by decide +kernel
theorem dd_V_isAtOrBelow_36 : decode bb_V_isAtOrBelow 36 = .ok (.istore_n 3, 1) := by decide +kernel
theorem dd_V_isAtOrBelow_37 : decode bb_V_isAtOrBelow 37 = .ok (.iinc 4 1, 3) := by decide +kernel
theorem dd_V_isAtOrBelow_40 : decode bb_V_isAtOrBelow 40 = .ok (.goto (-35), 3) := by decide +kernel
theorem dd_V_isAtOrBelow_43 : decode bb_V_isAtOrBelow 43 = .ok (.iconst 0, 1) := by decide +kernel
theorem dd_V_isAtOrBelow_44 : decode bb_V_isAtOrBelow 44 = .ok (.ireturn, 1) := by decide +kernel
theorem dd_V_leadsToRoot_0 : decode bb_V_leadsToRoot 0 = .ok (.aload_n 0, 1) := by decide +kernel
theorem dd_V_leadsToRoot_1 : decode bb_V_leadsToRoot 1 = .ok (.getfield 18, 3) := by decide +kernel
theorem dd_V_leadsToRoot_4 : decode bb_V_leadsToRoot 4 = .ok (.iload_n 1, 1) := by decide +kernel
theorem dd_V_leadsToRoot_5 : decode bb_V_leadsToRoot 5 = .ok (.aaload, 1) := by decide +kernel
theorem dd_V_leadsToRoot_6 : decode bb_V_leadsToRoot 6 = .ok (.getfield 173, 3) := by decide +kernel
theorem dd_V_leadsToRoot_9 : decode bb_V_leadsToRoot 9 = .ok (.istore_n 2, 1) := by decide +kernel
theorem dd_V_leadsToRoot_10 : decode bb_V_leadsToRoot 10 = .ok (.iconst 0, 1) := by decide +kernel
theorem dd_V_leadsToRoot_11 : decode bb_V_leadsToRoot 11 = .ok (.istore_n 3, 1) := by decide +kernel
theorem dd_V_leadsToRoot_12 : decode bb_V_leadsToRoot 12 = .ok (.iload_n 3, 1) := by decide +kernel
theorem dd_V_leadsToRoot_13 : decode bb_V_leadsToRoot 13 = .ok (.bipush 12, 2) := by decide +kernel
theorem dd_V_leadsToRoot_15 : decode bb_V_leadsToRoot 15 = .ok (.if_icmp .ge 33, 3) := by decide +kernel
theorem dd_V_leadsToRoot_18 : decode bb_V_leadsToRoot 18 = .ok (.aload_n 0, 1) := by decide +kernel
theorem dd_V_leadsToRoot_19 : decode bb_V_leadsToRoot 19 = .ok (.iload_n 2, 1) := by decide +kernel
theorem dd_V_leadsToRoot_20 : decode bb_V_leadsToRoot 20 = .ok (.invokevirtual 84, 3) := by decide +kernel
theorem dd_V_leadsToRoot_23 : decode bb_V_leadsToRoot 23 = .ok (.ifCond .eq 25, 3) := by decide +kernel
theorem dd_V_leadsToRoot_26 : decode bb_V_leadsToRoot 26 = .ok (.iload_n 2, 1) := by decide +kernel
theorem dd_V_leadsToRoot_27 : decode bb_V_leadsToRoot 27 = .ok (.ifCond .ne 5, 3) := by decide +kernel
theorem dd_V_leadsToRoot_30 : decode bb_V_leadsToRoot 30 = .ok (.iconst 1, 1) := by decide +kernel
theorem dd_V_leadsToRoot_31 : decode bb_V_leadsToRoot 31 = .ok (.ireturn, 1) := by decide +kernel
theorem dd_V_leadsToRoot_32 : decode bb_V_leadsToRoot 32 = .ok (.aload_n 0, 1) := by decide +kernel
theorem dd_V_leadsToRoot_33 : decode bb_V_leadsToRoot 33 = .ok (.getfield 18, 3) := by decide +kernel
theorem dd_V_leadsToRoot_36 : decode bb_V_leadsToRoot 36 = .ok (.iload_n 2, 1) := by decide +kernel
theorem dd_V_leadsToRoot_37 : decode bb_V_leadsToRoot 37 = .ok (.aaload, 1) := by decide +kernel
theorem dd_V_leadsToRoot_38 : decode bb_V_leadsToRoot 38 = .ok (.getfield 173, 3) := by decide +kernel
theorem dd_V_leadsToRoot_41 : decode bb_V_leadsToRoot 41 = .ok (.istore_n 2, 1) := by decide +kernel
theorem dd_V_leadsToRoot_42 : decode bb_V_leadsToRoot 42 = .ok (.iinc 3 1, 3) := by decide +kernel
theorem dd_V_leadsToRoot_45 : decode bb_V_leadsToRoot 45 = .ok (.goto (-33), 3) := by decide +kernel
theorem dd_V_leadsToRoot_48 : decode bb_V_leadsToRoot 48 = .ok (.iconst 0, 1) := by decide +kernel
theorem dd_V_leadsToRoot_49 : decode bb_V_leadsToRoot 49 = .ok (.ireturn, 1) := by decide +kernel
theorem dd_V_entryNamed_0 : decode bb_V_entryNamed 0 = .ok (.aload_n 0, 1) := by decide +kernel
theorem dd_V_entryNamed_1 : decode bb_V_entryNamed 1 = .ok (.getfield 18, 3) := by decide +kernel
theorem dd_V_entryNamed_4 : decode bb_V_entryNamed 4 = .ok (.iload_n 1, 1) := by decide +kernel
theorem dd_V_entryNamed_5 : decode bb_V_entryNamed 5 = .ok (.aaload, 1) := by decide +kernel
theorem dd_V_entryNamed_6 : decode bb_V_entryNamed 6 = .ok (.astore_n 3, 1) := by decide +kernel
theorem dd_V_entryNamed_7 : decode bb_V_entryNamed 7 = .ok (.iconst 0, 1) := by decide +kernel
theorem dd_V_entryNamed_8 : decode bb_V_entryNamed 8 = .ok (.istore 4, 2) := by decide +kernel
theorem dd_V_entryNamed_10 : decode bb_V_entryNamed 10 = .ok (.iload 4, 2) := by decide +kernel
theorem dd_V_entryNamed_12 : decode bb_V_entryNamed 12 = .ok (.aload_n 3, 1) := by decide +kernel
theorem dd_V_entryNamed_13 : decode bb_V_entryNamed 13 = .ok (.getfield 123, 3) := by decide +kernel
theorem dd_V_entryNamed_16 : decode bb_V_entryNamed 16 = .ok (.if_icmp .ge 39, 3) := by decide +kernel
theorem dd_V_entryNamed_19 : decode bb_V_entryNamed 19 = .ok (.aload_n 0, 1) := by decide +kernel
theorem dd_V_entryNamed_20 : decode bb_V_entryNamed 20 = .ok (.getfield 18, 3) := by decide +kernel
theorem dd_V_entryNamed_23 : decode bb_V_entryNamed 23 = .ok (.aload_n 3, 1) := by decide +kernel
theorem dd_V_entryNamed_24 : decode bb_V_entryNamed 24 = .ok (.getfield 220, 3) := by decide +kernel
theorem dd_V_entryNamed_27 : decode bb_V_entryNamed 27 = .ok (.iload 4, 2) := by decide +kernel
theorem dd_V_entryNamed_29 : decode bb_V_entryNamed 29 = .ok (.iaload, 1) := by decide +kernel
theorem dd_V_entryNamed_30 : decode bb_V_entryNamed 30 = .ok (.aaload, 1) := by decide +kernel
theorem dd_V_entryNamed_31 : decode bb_V_entryNamed 31 = .ok (.getfield 110, 3) := by decide +kernel
theorem dd_V_entryNamed_34 : decode bb_V_entryNamed 34 = .ok (.aload_n 2, 1) := by decide +kernel
theorem dd_V_entryNamed_35 : decode bb_V_entryNamed 35 = .ok (.invokevirtual 245, 3) := by decide +kernel
theorem dd_V_entryNamed_38 : decode bb_V_entryNamed 38 = .ok (.ifCond .ne 11, 3) := by decide +kernel
theorem dd_V_entryNamed_41 : decode bb_V_entryNamed 41 = .ok (.aload_n 3, 1) := by decide +kernel
theorem dd_V_entryNamed_42 : decode bb_V_entryNamed 42 = .ok (.getfield 220, 3) := by decide +kernel
theorem dd_V_entryNamed_45 : decode bb_V_entryNamed 45 = .ok (.iload 4, 2) := by decide +kernel
theorem dd_V_entryNamed_47 : decode bb_V_entryNamed 47 = .ok (.iaload, 1) := by decide +kernel
theorem dd_V_entryNamed_48 : decode bb_V_entryNamed 48 = .ok (.ireturn, 1) := by decide +kernel
theorem dd_V_entryNamed_49 : decode bb_V_entryNamed 49 = .ok (.iinc 4 1, 3) := by decide +kernel
theorem dd_V_entryNamed_52 : decode bb_V_entryNamed 52 = .ok (.goto (-42), 3) := by decide +kernel
theorem dd_V_entryNamed_55 : decode bb_V_entryNamed 55 = .ok (.iconst (-1), 1) := by decide +kernel
theorem dd_V_entryNamed_56 : decode bb_V_entryNamed 56 = .ok (.ireturn, 1) := by decide +kernel
theorem dd_V_enter_0 : decode bb_V_enter 0 = .ok (.aload_n 0, 1) := by decide +kernel
theorem dd_V_enter_1 : decode bb_V_enter 1 = .ok (.getfield 18, 3) := by decide +kernel
theorem dd_V_enter_4 : decode bb_V_enter 4 = .ok (.iload_n 1, 1) := by decide +kernel
theorem dd_V_enter_5 : decode bb_V_enter 5 = .ok (.aaload, 1) := by decide +kernel
theorem dd_V_enter_6 : decode bb_V_enter 6 = .ok (.astore_n 3, 1) := by decide +kernel
theorem dd_V_enter_7 : decode bb_V_enter 7 = .ok (.aload_n 3, 1) := by decide +kernel
theorem dd_V_enter_8 : decode bb_V_enter 8 = .ok (.aload_n 0, 1) := by decide +kernel
theorem dd_V_enter_9 : decode bb_V_enter 9 = .ok (.aload_n 3, 1) := by decide +kernel
theorem dd_V_enter_10 : decode bb_V_enter 10 = .ok (.getfield 220, 3) := by decide +kernel
theorem dd_V_enter_13 : decode bb_V_enter 13 = .ok (.aload_n 3, 1) := by decide +kernel
theorem dd_V_enter_14 : decode bb_V_enter 14 = .ok (.getfield 123, 3) := by decide +kernel
theorem dd_V_enter_17 : decode bb_V_enter 17 = .ok (.iload_n 2, 1) := by decide +kernel
theorem dd_V_enter_18 : decode bb_V_enter 18 = .ok (.invokevirtual 249, 3) := by decide +kernel
theorem dd_V_enter_21 : decode bb_V_enter 21 = .ok (.putfield 123, 3) := by decide +kernel
theorem dd_V_enter_24 : decode bb_V_enter 24 = .ok (.return_, 1) := by decide +kernel
theorem dd_V_insertByName_0 : decode bb_V_insertByName 0 = .ok (.iload_n 2, 1) := by decide +kernel
theorem dd_V_insertByName_1 : decode bb_V_insertByName 1 = .ok (.bipush 12, 2) := by decide +kernel
theorem dd_V_insertByName_3 : decode bb_V_insertByName 3 = .ok (.if_icmp .lt 5, 3) := by decide +kernel
theorem dd_V_insertByName_6 : decode bb_V_insertByName 6 = .ok (.iload_n 2, 1) := by decide +kernel
theorem dd_V_insertByName_7 : decode bb_V_insertByName 7 = .ok (.ireturn, 1) := by decide +kernel
theorem dd_V_insertByName_8 : decode bb_V_insertByName 8 = .ok (.iload_n 2, 1) := by decide +kernel
theorem dd_V_insertByName_9 : decode bb_V_insertByName 9 = .ok (.istore 4, 2) := by decide +kernel
theorem dd_V_insertByName_11 : decode bb_V_insertByName 11 = .ok (.iload 4, 2) := by decide +kernel
theorem dd_V_insertByName_13 : decode bb_V_insertByName 13 = .ok (.ifCond .le 48, 3) := by decide +kernel
theorem dd_V_insertByName_16 : decode bb_V_insertByName 16 = .ok (.aload_n 0, 1) := by decide +kernel
theorem dd_V_insertByName_17 : decode bb_V_insertByName 17 = .ok (.getfield 18, 3) := by decide +kernel
theorem dd_V_insertByName_20 : decode bb_V_insertByName 20 = .ok (.aload_n 1, 1) := by decide +kernel
theorem dd_V_insertByName_21 : decode bb_V_insertByName 21 = .ok (.iload 4, 2) := by decide +kernel
theorem dd_V_insertByName_23 : decode bb_V_insertByName 23 = .ok (.iconst 1, 1) := by decide +kernel
theorem dd_V_insertByName_24 : decode bb_V_insertByName 24 = .ok (.isub, 1) := by decide +kernel
theorem dd_V_insertByName_25 : decode bb_V_insertByName 25 = .ok (.iaload, 1) := by decide +kernel
theorem dd_V_insertByName_26 : decode bb_V_insertByName 26 = .ok (.aaload, 1) := by decide +kernel
theorem dd_V_insertByName_27 : decode bb_V_insertByName 27 = .ok (.getfield 110, 3) := by decide +kernel
theorem dd_V_insertByName_30 : decode bb_V_insertByName 30 = .ok (.aload_n 0, 1) := by decide +kernel
theorem dd_V_insertByName_31 : decode bb_V_insertByName 31 = .ok (.getfield 18, 3) := by decide +kernel
theorem dd_V_insertByName_34 : decode bb_V_insertByName 34 = .ok (.iload_n 3, 1) := by decide +kernel
theorem dd_V_insertByName_35 : decode bb_V_insertByName 35 = .ok (.aaload, 1) := by decide +kernel
theorem dd_V_insertByName_36 : decode bb_V_insertByName 36 = .ok (.getfield 110, 3) := by decide +kernel
theorem dd_V_insertByName_39 : decode bb_V_insertByName 39 = .ok (.invokevirtual 245, 3) := by decide +kernel
theorem dd_V_insertByName_42 : decode bb_V_insertByName 42 = .ok (.ifCond .le 19, 3) := by decide +kernel
theorem dd_V_insertByName_45 : decode bb_V_insertByName 45 = .ok (.aload_n 1, 1) := by decide +kernel
theorem dd_V_insertByName_46 : decode bb_V_insertByName 46 = .ok (.iload 4, 2) := by decide +kernel
theorem dd_V_insertByName_48 : decode bb_V_insertByName 48 = .ok (.aload_n 1, 1) := by decide +kernel
theorem dd_V_insertByName_49 : decode bb_V_insertByName 49 = .ok (.iload 4, 2) := by decide +kernel
theorem dd_V_insertByName_51 : decode bb_V_insertByName 51 = .ok (.iconst 1, 1) := by decide +kernel
theorem dd_V_insertByName_52 : decode bb_V_insertByName 52 = .ok (.isub, 1) := by decide +kernel
theorem dd_V_insertByName_53 : decode bb_V_insertByName 53 = .ok (.iaload, 1) := by decide +kernel
theorem dd_V_insertByName_54 : decode bb_V_insertByName 54 = .ok (.iastore, 1) := by decide +kernel
theorem dd_V_insertByName_55 : decode bb_V_insertByName 55 = .ok (.iinc 4 (-1), 3) := by decide +kernel
theorem dd_V_insertByName_58 : decode bb_V_insertByName 58 = .ok (.goto (-47), 3) := by decide +kernel
theorem dd_V_insertByName_61 : decode bb_V_insertByName 61 = .ok (.aload_n 1, 1) := by decide +kernel
theorem dd_V_insertByName_62 : decode bb_V_insertByName 62 = .ok (.iload 4, 2) := by decide +kernel
theorem dd_V_insertByName_64 : decode bb_V_insertByName 64 = .ok (.iload_n 3, 1) := by decide +kernel
theorem dd_V_insertByName_65 : decode bb_V_insertByName 65 = .ok (.iastore, 1) := by decide +kernel
theorem dd_V_insertByName_66 : decode bb_V_insertByName 66 = .ok (.iload_n 2, 1) := by decide +kernel
theorem dd_V_insertByName_67 : decode bb_V_insertByName 67 = .ok (.iconst 1, 1) := by decide +kernel
theorem dd_V_insertByName_68 : decode bb_V_insertByName 68 = .ok (.iadd, 1) := by decide +kernel
theorem dd_V_insertByName_69 : decode bb_V_insertByName 69 = .ok (.ireturn, 1) := by decide +kernel
theorem dd_V_leave_0 : decode bb_V_leave 0 = .ok (.aload_n 0, 1) := by decide +kernel
theorem dd_V_leave_1 : decode bb_V_leave 1 = .ok (.getfield 18, 3) := by decide +kernel
theorem dd_V_leave_4 : decode bb_V_leave 4 = .ok (.iload_n 1, 1) := by decide +kernel
theorem dd_V_leave_5 : decode bb_V_leave 5 = .ok (.aaload, 1) := by decide +kernel
theorem dd_V_leave_6 : decode bb_V_leave 6 = .ok (.astore_n 3, 1) := by decide +kernel
theorem dd_V_leave_7 : decode bb_V_leave 7 = .ok (.iconst 0, 1) := by decide +kernel
theorem dd_V_leave_8 : decode bb_V_leave 8 = .ok (.istore 4, 2) := by decide +kernel
theorem dd_V_leave_10 : decode bb_V_leave 10 = .ok (.iconst 0, 1) := by decide +kernel
theorem dd_V_leave_11 : decode bb_V_leave 11 = .ok (.istore 5, 2) := by decide +kernel
theorem dd_V_leave_13 : decode bb_V_leave 13 = .ok (.iload 5, 2) := by decide +kernel
theorem dd_V_leave_15 : decode bb_V_leave 15 = .ok (.aload_n 3, 1) := by decide +kernel
theorem dd_V_leave_16 : decode bb_V_leave 16 = .ok (.getfield 123, 3) := by decide +kernel
theorem dd_V_leave_19 : decode bb_V_leave 19 = .ok (.if_icmp .ge 37, 3) := by decide +kernel
theorem dd_V_leave_22 : decode bb_V_leave 22 = .ok (.aload_n 3, 1) := by decide +kernel
theorem dd_V_leave_23 : decode bb_V_leave 23 = .ok (.getfield 220, 3) := by decide +kernel
theorem dd_V_leave_26 : decode bb_V_leave 26 = .ok (.iload 5, 2) := by decide +kernel
theorem dd_V_leave_28 : decode bb_V_leave 28 = .ok (.iaload, 1) := by decide +kernel
theorem dd_V_leave_29 : decode bb_V_leave 29 = .ok (.iload_n 2, 1) := by decide +kernel
theorem dd_V_leave_30 : decode bb_V_leave 30 = .ok (.if_icmp .eq 20, 3) := by decide +kernel
theorem dd_V_leave_33 : decode bb_V_leave 33 = .ok (.aload_n 3, 1) := by decide +kernel
theorem dd_V_leave_34 : decode bb_V_leave 34 = .ok (.getfield 220, 3) := by decide +kernel
theorem dd_V_leave_37 : decode bb_V_leave 37 = .ok (.iload 4, 2) := by decide +kernel
theorem dd_V_leave_39 : decode bb_V_leave 39 = .ok (.aload_n 3, 1) := by decide +kernel
theorem dd_V_leave_40 : decode bb_V_leave 40 = .ok (.getfield 220, 3) := by decide +kernel
theorem dd_V_leave_43 : decode bb_V_leave 43 = .ok (.iload 5, 2) := by decide +kernel
theorem dd_V_leave_45 : decode bb_V_leave 45 = .ok (.iaload, 1) := by decide +kernel
theorem dd_V_leave_46 : decode bb_V_leave 46 = .ok (.iastore, 1) := by decide +kernel
theorem dd_V_leave_47 : decode bb_V_leave 47 = .ok (.iinc 4 1, 3) := by decide +kernel
theorem dd_V_leave_50 : decode bb_V_leave 50 = .ok (.iinc 5 1, 3) := by decide +kernel
theorem dd_V_leave_53 : decode bb_V_leave 53 = .ok (.goto (-40), 3) := by decide +kernel
theorem dd_V_leave_56 : decode bb_V_leave 56 = .ok (.aload_n 3, 1) := by decide +kernel
theorem dd_V_leave_57 : decode bb_V_leave 57 = .ok (.iload 4, 2) := by decide +kernel
theorem dd_V_leave_59 : decode bb_V_leave 59 = .ok (.putfield 123, 3) := by decide +kernel
theorem dd_V_leave_62 : decode bb_V_leave 62 = .ok (.return_, 1) := by decide +kernel
theorem dd_V_store_0 : decode bb_V_store 0 = .ok (.aload_n 0, 1) := by decide +kernel
theorem dd_V_store_1 : decode bb_V_store 1 = .ok (.getfield 18, 3) := by decide +kernel
theorem dd_V_store_4 : decode bb_V_store 4 = .ok (.iload_n 1, 1) := by decide +kernel
theorem dd_V_store_5 : decode bb_V_store 5 = .ok (.aaload, 1) := by decide +kernel
theorem dd_V_store_6 : decode bb_V_store 6 = .ok (.invokevirtual 55, 3) := by decide +kernel
theorem dd_V_store_9 : decode bb_V_store 9 = .ok (.aload_n 0, 1) := by decide +kernel
theorem dd_V_store_10 : decode bb_V_store 10 = .ok (.getfield 18, 3) := by decide +kernel
theorem dd_V_store_13 : decode bb_V_store 13 = .ok (.iload_n 1, 1) := by decide +kernel
theorem dd_V_store_14 : decode bb_V_store 14 = .ok (.aaload, 1) := by decide +kernel
theorem dd_V_store_15 : decode bb_V_store 15 = .ok (.aload_n 0, 1) := by decide +kernel
theorem dd_V_store_16 : decode bb_V_store 16 = .ok (.getfield 44, 3) := by decide +kernel
theorem dd_V_store_19 : decode bb_V_store 19 = .ok (.invokevirtual 58, 3) := by decide +kernel
theorem dd_V_store_22 : decode bb_V_store 22 = .ok (.aload_n 0, 1) := by decide +kernel
theorem dd_V_store_23 : decode bb_V_store 23 = .ok (.iload_n 1, 1) := by decide +kernel
theorem dd_V_store_24 : decode bb_V_store 24 = .ok (.iconst 0, 1) := by decide +kernel
theorem dd_V_store_25 : decode bb_V_store 25 = .ok (.invokevirtual 253, 3) := by decide +kernel
theorem dd_V_store_28 : decode bb_V_store 28 = .ok (.aload_n 0, 1) := by decide +kernel
theorem dd_V_store_29 : decode bb_V_store 29 = .ok (.iload_n 1, 1) := by decide +kernel
theorem dd_V_store_30 : decode bb_V_store 30 = .ok (.iconst 1, 1) := by decide +kernel
theorem dd_V_store_31 : decode bb_V_store 31 = .ok (.invokevirtual 253, 3) := by decide +kernel
theorem dd_V_store_34 : decode bb_V_store 34 = .ok (.return_, 1) := by decide +kernel
theorem dd_V_storeSector_0 : decode bb_V_storeSector 0 = .ok (.aload_n 0, 1) := by decide +kernel
theorem dd_V_storeSector_1 : decode bb_V_storeSector 1 = .ok (.getfield 12, 3) := by decide +kernel
theorem dd_V_storeSector_4 : decode bb_V_storeSector 4 = .ok (.invokevirtual 256, 3) := by decide +kernel
theorem dd_V_storeSector_7 : decode bb_V_storeSector 7 = .ok (.ifCond .eq 19, 3) := by decide +kernel
theorem dd_V_storeSector_10 : decode bb_V_storeSector 10 = .ok (.aload_n 0, 1) := by decide +kernel
theorem dd_V_storeSector_11 : decode bb_V_storeSector 11 = .ok (.iconst 0, 1) := by decide +kernel
theorem dd_V_storeSector_12 : decode bb_V_storeSector 12 = .ok (.putfield 66, 3) := by decide +kernel
theorem dd_V_storeSector_15 : decode bb_V_storeSector 15 = .ok (.new 235, 3) := by decide +kernel
theorem dd_V_storeSector_18 : decode bb_V_storeSector 18 = .ok (.dup, 1) := by decide +kernel
theorem dd_V_storeSector_19 : decode bb_V_storeSector 19 = .ok (.ldc_w 260, 3) := by decide +kernel
theorem dd_V_storeSector_22 : decode bb_V_storeSector 22 = .ok (.invokespecial 239, 3) := by decide +kernel
theorem dd_V_storeSector_25 : decode bb_V_storeSector 25 = .ok (.athrow, 1) := by decide +kernel
theorem dd_V_storeSector_26 : decode bb_V_storeSector 26 = .ok (.aload_n 0, 1) := by decide +kernel
theorem dd_V_storeSector_27 : decode bb_V_storeSector 27 = .ok (.getfield 12, 3) := by decide +kernel
theorem dd_V_storeSector_30 : decode bb_V_storeSector 30 = .ok (.iload_n 1, 1) := by decide +kernel
theorem dd_V_storeSector_31 : decode bb_V_storeSector 31 = .ok (.iload_n 2, 1) := by decide +kernel
theorem dd_V_storeSector_32 : decode bb_V_storeSector 32 = .ok (.aload_n 0, 1) := by decide +kernel
theorem dd_V_storeSector_33 : decode bb_V_storeSector 33 = .ok (.getfield 44, 3) := by decide +kernel
theorem dd_V_storeSector_36 : decode bb_V_storeSector 36 = .ok (.invokevirtual 62, 3) := by decide +kernel
theorem dd_V_storeSector_39 : decode bb_V_storeSector 39 = .ok (.return_, 1) := by decide +kernel
theorem dd_V_makePlan_0 : decode bb_V_makePlan 0 = .ok (.bipush 48, 2) := by decide +kernel
theorem dd_V_makePlan_2 : decode bb_V_makePlan 2 = .ok (.istore 5, 2) := by decide +kernel
theorem dd_V_makePlan_4 : decode bb_V_makePlan 4 = .ok (.aload_n 0, 1) := by decide +kernel
theorem dd_V_makePlan_5 : decode bb_V_makePlan 5 = .ok (.getfield 40, 3) := by decide +kernel
theorem dd_V_makePlan_8 : decode bb_V_makePlan 8 = .ok (.iconst 0, 1) := by decide +kernel
theorem dd_V_makePlan_9 : decode bb_V_makePlan 9 = .ok (.putfield 262, 3) := by decide +kernel
theorem dd_V_makePlan_12 : decode bb_V_makePlan 12 = .ok (.iconst 0, 1) := by decide +kernel
theorem dd_V_makePlan_13 : decode bb_V_makePlan 13 = .ok (.istore 6, 2) := by decide +kernel
theorem dd_V_makePlan_15 : decode bb_V_makePlan 15 = .ok (.iload 6, 2) := by decide +kernel
theorem dd_V_makePlan_17 : decode bb_V_makePlan 17 = .ok (.iload 4, 2) := by decide +kernel
theorem dd_V_makePlan_19 : decode bb_V_makePlan 19 = .ok (.invokestatic 155, 3) := by decide +kernel
theorem dd_V_makePlan_22 : decode bb_V_makePlan 22 = .ok (.if_icmp .ge 69, 3) := by decide +kernel
theorem dd_V_makePlan_25 : decode bb_V_makePlan 25 = .ok (.aload_n 1, 1) := by decide +kernel
theorem dd_V_makePlan_26 : decode bb_V_makePlan 26 = .ok (.getfield 152, 3) := by decide +kernel
theorem dd_V_makePlan_29 : decode bb_V_makePlan 29 = .ok (.iload 6, 2) := by decide +kernel
theorem dd_V_makePlan_31 : decode bb_V_makePlan 31 = .ok (.invokevirtual 229, 3) := by decide +kernel
theorem dd_V_makePlan_34 : decode bb_V_makePlan 34 = .ok (.istore 7, 2) := by decide +kernel
theorem dd_V_makePlan_36 : decode bb_V_makePlan 36 = .ok (.iload 7, 2) := by decide +kernel
theorem dd_V_makePlan_38 : decode bb_V_makePlan 38 = .ok (.iconst (-1), 1) := by decide +kernel
theorem dd_V_makePlan_39 : decode bb_V_makePlan 39 = .ok (.if_icmp .ne 36, 3) := by decide +kernel
theorem dd_V_makePlan_42 : decode bb_V_makePlan 42 = .ok (.aload_n 1, 1) := by decide +kernel
theorem dd_V_makePlan_43 : decode bb_V_makePlan 43 = .ok (.iload 6, 2) := by decide +kernel
theorem dd_V_makePlan_45 : decode bb_V_makePlan 45 = .ok (.iload_n 2, 1) := by decide +kernel
theorem dd_V_makePlan_46 : decode bb_V_makePlan 46 = .ok (.iload_n 3, 1) := by decide +kernel
theorem dd_V_makePlan_47 : decode bb_V_makePlan 47 = .ok (.invokestatic 265, 3) := by decide +kernel
theorem dd_V_makePlan_50 : decode bb_V_makePlan 50 = .ok (.ifCond .eq 25, 3) := by decide +kernel
theorem dd_V_makePlan_53 : decode bb_V_makePlan 53 = .ok (.aload_n 0, 1) := by decide +kernel
theorem dd_V_makePlan_54 : decode bb_V_makePlan 54 = .ok (.iload 5, 2) := by decide +kernel
theorem dd_V_makePlan_56 : decode bb_V_makePlan 56 = .ok (.invokevirtual 268, 3) := by decide +kernel
theorem dd_V_makePlan_59 : decode bb_V_makePlan 59 = .ok (.istore 7, 2) := by decide +kernel
theorem dd_V_makePlan_61 : decode bb_V_makePlan 61 = .ok (.iload 7, 2) := by decide +kernel
theorem dd_V_makePlan_63 : decode bb_V_makePlan 63 = .ok (.iconst (-1), 1) := by decide +kernel
theorem dd_V_makePlan_64 : decode bb_V_makePlan 64 = .ok (.if_icmp .ne 5, 3) := by decide +kernel
theorem dd_V_makePlan_67 : decode bb_V_makePlan 67 = .ok (.iconst 0, 1) := by decide +kernel
theorem dd_V_makePlan_68 : decode bb_V_makePlan 68 = .ok (.ireturn, 1) := by decide +kernel
theorem dd_V_makePlan_69 : decode bb_V_makePlan 69 = .ok (.iload 7, 2) := by decide +kernel
theorem dd_V_makePlan_71 : decode bb_V_makePlan 71 = .ok (.iconst 1, 1) := by decide +kernel
theorem dd_V_makePlan_72 : decode bb_V_makePlan 72 = .ok (.iadd, 1) := by decide +kernel
theorem dd_V_makePlan_73 : decode bb_V_makePlan 73 = .ok (.istore 5, 2) := by decide +kernel
theorem dd_V_makePlan_75 : decode bb_V_makePlan 75 = .ok (.aload_n 0, 1) := by decide +kernel
theorem dd_V_makePlan_76 : decode bb_V_makePlan 76 = .ok (.getfield 40, 3) := by decide +kernel
theorem dd_V_makePlan_79 : decode bb_V_makePlan 79 = .ok (.iload 7, 2) := by decide +kernel
theorem dd_V_makePlan_81 : decode bb_V_makePlan 81 = .ok (.iconst 1, 1) := by decide +kernel
theorem dd_V_makePlan_82 : decode bb_V_makePlan 82 = .ok (.invokevirtual 271, 3) := by decide +kernel
theorem dd_V_makePlan_85 : decode bb_V_makePlan 85 = .ok (.iinc 6 1, 3) := by decide +kernel
theorem dd_V_makePlan_88 : decode bb_V_makePlan 88 = .ok (.goto (-73), 3) := by decide +kernel
theorem dd_V_makePlan_91 : decode bb_V_makePlan 91 = .ok (.aload_n 1, 1) := by decide +kernel
theorem dd_V_makePlan_92 : decode bb_V_makePlan 92 = .ok (.invokevirtual 273, 3) := by decide +kernel
theorem dd_V_makePlan_95 : decode bb_V_makePlan 95 = .ok (.aload_n 0, 1) := by decide +kernel
theorem dd_V_makePlan_96 : decode bb_V_makePlan 96 = .ok (.getfield 40, 3) := by decide +kernel
theorem dd_V_makePlan_99 : decode bb_V_makePlan 99 = .ok (.invokevirtual 276, 3) := by decide +kernel
theorem dd_V_makePlan_102 : decode bb_V_makePlan 102 = .ok (.iadd, 1) := by decide +kernel
theorem dd_V_makePlan_103 : decode bb_V_makePlan 103 = .ok (.bipush 54, 2) := by decide +kernel
theorem dd_V_makePlan_105 : decode bb_V_makePlan 105 = .ok (.if_icmp .gt 7, 3) := by decide +kernel
theorem dd_V_makePlan_108 : decode bb_V_makePlan 108 = .ok (.iconst 1, 1) := by decide +kernel
theorem dd_V_makePlan_109 : decode bb_V_makePlan 109 = .ok (.goto 4, 3) := by decide +kernel
theorem dd_V_makePlan_112 : decode bb_V_makePlan 112 = .ok (.iconst 0, 1) := by decide +kernel
theorem dd_V_makePlan_113 : decode bb_V_makePlan 113 = .ok (.ireturn, 1) := by decide +kernel
theorem dd_V_needsCluster_0 : decode bb_V_needsCluster 0 = .ok (.iload_n 1, 1) := by decide +kernel
theorem dd_V_needsCluster_1 : decode bb_V_needsCluster 1 = .ok (.iload_n 2, 1) := by decide +kernel
theorem dd_V_needsCluster_2 : decode bb_V_needsCluster 2 = .ok (.bipush 16, 2) := by decide +kernel
theorem dd_V_needsCluster_4 : decode bb_V_needsCluster 4 = .ok (.idiv, 1) := by decide +kernel
theorem dd_V_needsCluster_5 : decode bb_V_needsCluster 5 = .ok (.if_icmp .lt 19, 3) := by decide +kernel
theorem dd_V_needsCluster_8 : decode bb_V_needsCluster 8 = .ok (.iload_n 1, 1) := by decide +kernel
theorem dd_V_needsCluster_9 : decode bb_V_needsCluster 9 = .ok (.iload_n 2, 1) := by decide +kernel
theorem dd_V_needsCluster_10 : decode bb_V_needsCluster 10 = .ok (.iload_n 3, 1) := by decide +kernel
theorem dd_V_needsCluster_11 : decode bb_V_needsCluster 11 = .ok (.iadd, 1) := by decide +kernel
theorem dd_V_needsCluster_12 : decode bb_V_needsCluster 12 = .ok (.iconst 1, 1) := by decide +kernel
theorem dd_V_needsCluster_13 : decode bb_V_needsCluster 13 = .ok (.isub, 1) := by decide +kernel
theorem dd_V_needsCluster_14 : decode bb_V_needsCluster 14 = .ok (.bipush 16, 2) := by decide +kernel
theorem dd_V_needsCluster_16 : decode bb_V_needsCluster 16 = .ok (.idiv, 1) := by decide +kernel
theorem dd_V_needsCluster_17 : decode bb_V_needsCluster 17 = .ok (.if_icmp .gt 7, 3) := by decide +kernel
theorem dd_V_needsCluster_20 : decode bb_V_needsCluster 20 = .ok (.iconst 1, 1) := by decide +kernel
theorem dd_V_needsCluster_21 : decode bb_V_needsCluster 21 = .ok (.goto 4, 3) := by decide +kernel
theorem dd_V_needsCluster_24 : decode bb_V_needsCluster 24 = .ok (.iconst 0, 1) := by decide +kernel
theorem dd_V_needsCluster_25 : decode bb_V_needsCluster 25 = .ok (.istore 4, 2) := by decide +kernel
theorem dd_V_needsCluster_27 : decode bb_V_needsCluster 27 = .ok (.iload 4, 2) := by decide +kernel
theorem dd_V_needsCluster_29 : decode bb_V_needsCluster 29 = .ok (.ifCond .ne 22, 3) := by decide +kernel
theorem dd_V_needsCluster_32 : decode bb_V_needsCluster 32 = .ok (.aload_n 0, 1) := by decide +kernel
theorem dd_V_needsCluster_33 : decode bb_V_needsCluster 33 = .ok (.getfield 132, 3) := by decide +kernel
theorem dd_V_needsCluster_36 : decode bb_V_needsCluster 36 = .ok (.iconst 2, 1) := by decide +kernel
theorem dd_V_needsCluster_37 : decode bb_V_needsCluster 37 = .ok (.if_icmp .ne 18, 3) := by decide +kernel
theorem dd_V_needsCluster_40 : decode bb_V_needsCluster 40 = .ok (.iload_n 1, 1) := by decide +kernel
theorem dd_V_needsCluster_41 : decode bb_V_needsCluster 41 = .ok (.aload_n 0, 1) := by decide +kernel
theorem dd_V_needsCluster_42 : decode bb_V_needsCluster 42 = .ok (.getfield 123, 3) := by decide +kernel
theorem dd_V_needsCluster_45 : decode bb_V_needsCluster 45 = .ok (.invokestatic 155, 3) := by decide +kernel
theorem dd_V_needsCluster_48 : decode bb_V_needsCluster 48 = .ok (.if_icmp .ge 7, 3) := by decide +kernel
theorem dd_V_needsCluster_51 : decode bb_V_needsCluster 51 = .ok (.iconst 1, 1) := by decide +kernel
theorem dd_V_needsCluster_52 : decode bb_V_needsCluster 52 = .ok (.goto 4, 3) := by decide +kernel
theorem dd_V_needsCluster_55 : decode bb_V_needsCluster 55 = .ok (.iconst 0, 1) := by decide +kernel
theorem dd_V_needsCluster_56 : decode bb_V_needsCluster 56 = .ok (.ireturn, 1) := by decide +kernel
theorem dd_V_putOutside_0 : decode bb_V_putOutside 0 = .ok (.aload_n 0, 1) := by decide +kernel
theorem dd_V_putOutside_1 : decode bb_V_putOutside 1 = .ok (.invokevirtual 277, 3) := by decide +kernel
theorem dd_V_putOutside_4 : decode bb_V_putOutside 4 = .ok (.aload_n 1, 1) := by decide +kernel
theorem dd_V_putOutside_5 : decode bb_V_putOutside 5 = .ok (.getfield 132, 3) := by decide +kernel
theorem dd_V_putOutside_8 : decode bb_V_putOutside 8 = .ok (.iconst 2, 1) := by decide +kernel
theorem dd_V_putOutside_9 : decode bb_V_putOutside 9 = .ok (.if_icmp .ne 41, 3) := by decide +kernel
theorem dd_V_putOutside_12 : decode bb_V_putOutside 12 = .ok (.iconst 0, 1) := by decide +kernel
theorem dd_V_putOutside_13 : decode bb_V_putOutside 13 = .ok (.istore 6, 2) := by decide +kernel
theorem dd_V_putOutside_15 : decode bb_V_putOutside 15 = .ok (.iload 6, 2) := by decide +kernel
theorem dd_V_putOutside_17 : decode bb_V_putOutside 17 = .ok (.aload_n 1, 1) := by decide +kernel
theorem dd_V_putOutside_18 : decode bb_V_putOutside 18 = .ok (.getfield 123, 3) := by decide +kernel
theorem dd_V_putOutside_21 : decode bb_V_putOutside 21 = .ok (.if_icmp .ge 29, 3) := by decide +kernel
theorem dd_V_putOutside_24 : decode bb_V_putOutside 24 = .ok (.aload_n 0, 1) := by decide +kernel
theorem dd_V_putOutside_25 : decode bb_V_putOutside 25 = .ok (.getfield 12, 3) := by decide +kernel
theorem dd_V_putOutside_28 : decode bb_V_putOutside 28 = .ok (.aload_n 0, 1) := by decide +kernel
theorem dd_V_putOutside_29 : decode bb_V_putOutside 29 = .ok (.getfield 40, 3) := by decide +kernel
theorem dd_V_putOutside_32 : decode bb_V_putOutside 32 = .ok (.iload 6, 2) := by decide +kernel
theorem dd_V_putOutside_34 : decode bb_V_putOutside 34 = .ok (.aload_n 1, 1) := by decide +kernel
theorem dd_V_putOutside_35 : decode bb_V_putOutside 35 = .ok (.getfield 220, 3) := by decide +kernel
theorem dd_V_putOutside_38 : decode bb_V_putOutside 38 = .ok (.iload 6, 2) := by decide +kernel
theorem dd_V_putOutside_40 : decode bb_V_putOutside 40 = .ok (.iaload, 1) := by decide +kernel
theorem dd_V_putOutside_41 : decode bb_V_putOutside 41 = .ok (.invokevirtual 280, 3) := by decide +kernel
theorem dd_V_putOutside_44 : decode bb_V_putOutside 44 = .ok (.iinc 6 1, 3) := by decide +kernel
theorem dd_V_putOutside_47 : decode bb_V_putOutside 47 = .ok (.goto (-32), 3) := by decide +kernel
theorem dd_V_putOutside_50 : decode bb_V_putOutside 50 = .ok (.aload_n 0, 1) := by decide +kernel
theorem dd_V_putOutside_51 : decode bb_V_putOutside 51 = .ok (.getfield 12, 3) := by decide +kernel
theorem dd_V_putOutside_54 : decode bb_V_putOutside 54 = .ok (.aload_n 0, 1) := by decide +kernel
theorem dd_V_putOutside_55 : decode bb_V_putOutside 55 = .ok (.getfield 40, 3) := by decide +kernel
theorem dd_V_putOutside_58 : decode bb_V_putOutside 58 = .ok (.aload_n 1, 1) := by decide +kernel
theorem dd_V_putOutside_59 : decode bb_V_putOutside 59 = .ok (.getfield 123, 3) := by decide +kernel
theorem dd_V_putOutside_62 : decode bb_V_putOutside 62 = .ok (.iload_n 2, 1) := by decide +kernel
theorem dd_V_putOutside_63 : decode bb_V_putOutside 63 = .ok (.invokevirtual 166, 3) := by decide +kernel
theorem dd_V_putOutside_66 : decode bb_V_putOutside 66 = .ok (.iconst 0, 1) := by decide +kernel
theorem dd_V_putOutside_67 : decode bb_V_putOutside 67 = .ok (.istore 6, 2) := by decide +kernel
theorem dd_V_putOutside_69 : decode bb_V_putOutside 69 = .ok (.iload 6, 2) := by decide +kernel
theorem dd_V_putOutside_71 : decode bb_V_putOutside 71 = .ok (.iload_n 3, 1) := by decide +kernel
theorem dd_V_putOutside_72 : decode bb_V_putOutside 72 = .ok (.if_icmp .ge 33, 3) := by decide +kernel
theorem dd_V_putOutside_75 : decode bb_V_putOutside 75 = .ok (.aload_n 0, 1) := by decide +kernel
theorem dd_V_putOutside_76 : decode bb_V_putOutside 76 = .ok (.getfield 12, 3) := by decide +kernel
theorem dd_V_putOutside_79 : decode bb_V_putOutside 79 = .ok (.aload_n 0, 1) := by decide +kernel
theorem dd_V_putOutside_80 : decode bb_V_putOutside 80 = .ok (.getfield 40, 3) := by decide +kernel
theorem dd_V_putOutside_83 : decode bb_V_putOutside 83 = .ok (.iload_n 2, 1) := by decide +kernel
theorem dd_V_putOutside_84 : decode bb_V_putOutside 84 = .ok (.iload 6, 2) := by decide +kernel
theorem dd_V_putOutside_86 : decode bb_V_putOutside 86 = .ok (.iadd, 1) := by decide +kernel
theorem dd_V_putOutside_87 : decode bb_V_putOutside 87 = .ok (.iload 4, 2) := by decide +kernel
theorem dd_V_putOutside_89 : decode bb_V_putOutside 89 = .ok (.iload 6, 2) := by decide +kernel
theorem dd_V_putOutside_91 : decode bb_V_putOutside 91 = .ok (.iadd, 1) := by decide +kernel
theorem dd_V_putOutside_92 : decode bb_V_putOutside 92 = .ok (.sipush 255, 3) := by decide +kernel
theorem dd_V_putOutside_95 : decode bb_V_putOutside 95 = .ok (.iand, 1) := by decide +kernel
theorem dd_V_putOutside_96 : decode bb_V_putOutside 96 = .ok (.invokevirtual 280, 3) := by decide +kernel
theorem dd_V_putOutside_99 : decode bb_V_putOutside 99 = .ok (.iinc 6 1, 3) := by decide +kernel
theorem dd_V_putOutside_102 : decode bb_V_putOutside 102 = .ok (.goto (-33), 3) := by decide +kernel
theorem dd_V_putOutside_105 : decode bb_V_putOutside 105 = .ok (.aload_n 0, 1) := by decide +kernel
theorem dd_V_putOutside_106 : decode bb_V_putOutside 106 = .ok (.getfield 12, 3) := by decide +kernel
theorem dd_V_putOutside_109 : decode bb_V_putOutside 109 = .ok (.aload_n 0, 1) := by decide +kernel
theorem dd_V_putOutside_110 : decode bb_V_putOutside 110 = .ok (.getfield 40, 3) := by decide +kernel
theorem dd_V_putOutside_113 : decode bb_V_putOutside 113 = .ok (.iload 5, 2) := by decide +kernel
theorem dd_V_putOutside_115 : decode bb_V_putOutside 115 = .ok (.iload 5, 2) := by decide +kernel
theorem dd_V_putOutside_117 : decode bb_V_putOutside 117 = .ok (.invokestatic 163, 3) := by decide +kernel
theorem dd_V_putOutside_120 : decode bb_V_putOutside 120 = .ok (.invokevirtual 166, 3) := by decide +kernel
theorem dd_V_putOutside_123 : decode bb_V_putOutside 123 = .ok (.aload_n 1, 1) := by decide +kernel
theorem dd_V_putOutside_124 : decode bb_V_putOutside 124 = .ok (.iconst 3, 1) := by decide +kernel
theorem dd_V_putOutside_125 : decode bb_V_putOutside 125 = .ok (.putfield 132, 3) := by decide +kernel
theorem dd_V_putOutside_128 : decode bb_V_putOutside 128 = .ok (.aload_n 1, 1) := by decide +kernel
theorem dd_V_putOutside_129 : decode bb_V_putOutside 129 = .ok (.iload 5, 2) := by decide +kernel
theorem dd_V_putOutside_131 : decode bb_V_putOutside 131 = .ok (.putfield 123, 3) := by decide +kernel
theorem dd_V_putOutside_134 : decode bb_V_putOutside 134 = .ok (.aload_n 1, 1) := by decide +kernel
theorem dd_V_putOutside_135 : decode bb_V_putOutside 135 = .ok (.getfield 152, 3) := by decide +kernel
theorem dd_V_putOutside_138 : decode bb_V_putOutside 138 = .ok (.aload_n 0, 1) := by decide +kernel
theorem dd_V_putOutside_139 : decode bb_V_putOutside 139 = .ok (.getfield 40, 3) := by decide +kernel
theorem dd_V_putOutside_142 : decode bb_V_putOutside 142 = .ok (.invokevirtual 283, 3) := by decide +kernel
theorem dd_V_putOutside_145 : decode bb_V_putOutside 145 = .ok (.return_, 1) := by decide +kernel
theorem dd_V_takePlanned_0 : decode bb_V_takePlanned 0 = .ok (.iconst 0, 1) := by decide +kernel
theorem dd_V_takePlanned_1 : decode bb_V_takePlanned 1 = .ok (.istore_n 1, 1) := by decide +kernel
theorem dd_V_takePlanned_2 : decode bb_V_takePlanned 2 = .ok (.iload_n 1, 1) := by decide +kernel
theorem dd_V_takePlanned_3 : decode bb_V_takePlanned 3 = .ok (.aload_n 0, 1) := by decide +kernel
theorem dd_V_takePlanned_4 : decode bb_V_takePlanned 4 = .ok (.getfield 40, 3) := by decide +kernel
theorem dd_V_takePlanned_7 : decode bb_V_takePlanned 7 = .ok (.getfield 262, 3) := by decide +kernel
theorem dd_V_takePlanned_10 : decode bb_V_takePlanned 10 = .ok (.if_icmp .ge 63, 3) := by decide +kernel
theorem dd_V_takePlanned_13 : decode bb_V_takePlanned 13 = .ok (.aload_n 0, 1) := by decide +kernel
theorem dd_V_takePlanned_14 : decode bb_V_takePlanned 14 = .ok (.getfield 40, 3) := by decide +kernel
theorem dd_V_takePlanned_17 : decode bb_V_takePlanned 17 = .ok (.getfield 286, 3) := by decide +kernel
theorem dd_V_takePlanned_20 : decode bb_V_takePlanned 20 = .ok (.iload_n 1, 1) := by decide +kernel
theorem dd_V_takePlanned_21 : decode bb_V_takePlanned 21 = .ok (.iaload, 1) := by decide +kernel
theorem dd_V_takePlanned_22 : decode bb_V_takePlanned 22 = .ok (.istore_n 2, 1) := by decide +kernel
theorem dd_V_takePlanned_23 : decode bb_V_takePlanned 23 = .ok (.iload_n 2, 1) := by decide +kernel
theorem dd_V_takePlanned_24 : decode bb_V_takePlanned 24 = .ok (.invokestatic 289, 3) := by decide +kernel
theorem dd_V_takePlanned_27 : decode bb_V_takePlanned 27 = .ok (.ifCond .eq 40, 3) := by decide +kernel
theorem dd_V_takePlanned_30 : decode bb_V_takePlanned 30 = .ok (.aload_n 0, 1) := by decide +kernel
theorem dd_V_takePlanned_31 : decode bb_V_takePlanned 31 = .ok (.getfield 23, 3) := by decide +kernel
theorem dd_V_takePlanned_34 : decode bb_V_takePlanned 34 = .ok (.iload_n 2, 1) := by decide +kernel
theorem dd_V_takePlanned_35 : decode bb_V_takePlanned 35 = .ok (.baload, 1) := by decide +kernel
theorem dd_V_takePlanned_36 : decode bb_V_takePlanned 36 = .ok (.ifCond .ne 31, 3) := by decide +kernel
theorem dd_V_takePlanned_39 : decode bb_V_takePlanned 39 = .ok (.aload_n 0, 1) := by decide +kernel
theorem dd_V_takePlanned_40 : decode bb_V_takePlanned 40 = .ok (.getfield 23, 3) := by decide +kernel
theorem dd_V_takePlanned_43 : decode bb_V_takePlanned 43 = .ok (.iload_n 2, 1) := by decide +kernel
theorem dd_V_takePlanned_44 : decode bb_V_takePlanned 44 = .ok (.iconst 1, 1) := by decide +kernel
theorem dd_V_takePlanned_45 : decode bb_V_takePlanned 45 = .ok (.bastore, 1) := by decide +kernel
theorem dd_V_takePlanned_46 : decode bb_V_takePlanned 46 = .ok (.aload_n 0, 1) := by decide +kernel
theorem dd_V_takePlanned_47 : decode bb_V_takePlanned 47 = .ok (.getfield 12, 3) := by decide +kernel
theorem dd_V_takePlanned_50 : decode bb_V_takePlanned 50 = .ok (.aload_n 0, 1) := by decide +kernel
theorem dd_V_takePlanned_51 : decode bb_V_takePlanned 51 = .ok (.getfield 40, 3) := by decide +kernel
theorem dd_V_takePlanned_54 : decode bb_V_takePlanned 54 = .ok (.iload_n 1, 1) := by decide +kernel
theorem dd_V_takePlanned_55 : decode bb_V_takePlanned 55 = .ok (.bipush 16, 2) := by decide +kernel
theorem dd_V_takePlanned_57 : decode bb_V_takePlanned 57 = .ok (.imul, 1) := by decide +kernel
theorem dd_V_takePlanned_58 : decode bb_V_takePlanned 58 = .ok (.iload_n 1, 1) := by decide +kernel
theorem dd_V_takePlanned_59 : decode bb_V_takePlanned 59 = .ok (.iconst 1, 1) := by decide +kernel
theorem dd_V_takePlanned_60 : decode bb_V_takePlanned 60 = .ok (.iadd, 1) := by decide +kernel
theorem dd_V_takePlanned_61 : decode bb_V_takePlanned 61 = .ok (.bipush 16, 2) := by decide +kernel
theorem dd_V_takePlanned_63 : decode bb_V_takePlanned 63 = .ok (.imul, 1) := by decide +kernel
theorem dd_V_takePlanned_64 : decode bb_V_takePlanned 64 = .ok (.invokevirtual 166, 3) := by decide +kernel
theorem dd_V_takePlanned_67 : decode bb_V_takePlanned 67 = .ok (.iinc 1 1, 3) := by decide +kernel
theorem dd_V_takePlanned_70 : decode bb_V_takePlanned 70 = .ok (.goto (-68), 3) := by decide +kernel
theorem dd_V_takePlanned_73 : decode bb_V_takePlanned 73 = .ok (.return_, 1) := by decide +kernel
theorem dd_V_releaseFrom_0 : decode bb_V_releaseFrom 0 = .ok (.iconst 0, 1) := by decide +kernel
theorem dd_V_releaseFrom_1 : decode bb_V_releaseFrom 1 = .ok (.istore_n 3, 1) := by decide +kernel
theorem dd_V_releaseFrom_2 : decode bb_V_releaseFrom 2 = .ok (.iload_n 2, 1) := by decide +kernel
theorem dd_V_releaseFrom_3 : decode bb_V_releaseFrom 3 = .ok (.istore 4, 2) := by decide +kernel
theorem dd_V_releaseFrom_5 : decode bb_V_releaseFrom 5 = .ok (.iload 4, 2) := by decide +kernel
theorem dd_V_releaseFrom_7 : decode bb_V_releaseFrom 7 = .ok (.aload_n 1, 1) := by decide +kernel
theorem dd_V_releaseFrom_8 : decode bb_V_releaseFrom 8 = .ok (.getfield 262, 3) := by decide +kernel
theorem dd_V_releaseFrom_11 : decode bb_V_releaseFrom 11 = .ok (.if_icmp .ge 38, 3) := by decide +kernel
theorem dd_V_releaseFrom_14 : decode bb_V_releaseFrom 14 = .ok (.aload_n 1, 1) := by decide +kernel
theorem dd_V_releaseFrom_15 : decode bb_V_releaseFrom 15 = .ok (.getfield 286, 3) := by decide +kernel
theorem dd_V_releaseFrom_18 : decode bb_V_releaseFrom 18 = .ok (.iload 4, 2) := by decide +kernel
theorem dd_V_releaseFrom_20 : decode bb_V_releaseFrom 20 = .ok (.iaload, 1) := by decide +kernel
theorem dd_V_releaseFrom_21 : decode bb_V_releaseFrom 21 = .ok (.invokestatic 289, 3) := by decide +kernel
theorem dd_V_releaseFrom_24 : decode bb_V_releaseFrom 24 = .ok (.ifCond .eq 19, 3) := by decide +kernel
theorem dd_V_releaseFrom_27 : decode bb_V_releaseFrom 27 = .ok (.aload_n 0, 1) := by decide +kernel
theorem dd_V_releaseFrom_28 : decode bb_V_releaseFrom 28 = .ok (.getfield 23, 3) := by decide +kernel
theorem dd_V_releaseFrom_31 : decode bb_V_releaseFrom 31 = .ok (.aload_n 1, 1) := by decide +kernel
theorem dd_V_releaseFrom_32 : decode bb_V_releaseFrom 32 = .ok (.getfield 286, 3) := by decide +kernel
theorem dd_V_releaseFrom_35 : decode bb_V_releaseFrom 35 = .ok (.iload 4, 2) := by decide +kernel
theorem dd_V_releaseFrom_37 : decode bb_V_releaseFrom 37 = .ok (.iaload, 1) := by decide +kernel
theorem dd_V_releaseFrom_38 : decode bb_V_releaseFrom 38 = .ok (.iconst 0, 1) := by decide +kernel
theorem dd_V_releaseFrom_39 : decode bb_V_releaseFrom 39 = .ok (.bastore, 1) := by decide +kernel
theorem dd_V_releaseFrom_40 : decode bb_V_releaseFrom 40 = .ok (.iinc 3 1, 3) := by decide +kernel
theorem dd_V_releaseFrom_43 : decode bb_V_releaseFrom 43 = .ok (.iinc 4 1, 3) := by decide +kernel
theorem dd_V_releaseFrom_46 : decode bb_V_releaseFrom 46 = .ok (.goto (-41), 3) := by decide +kernel
theorem dd_V_releaseFrom_49 : decode bb_V_releaseFrom 49 = .ok (.aload_n 1, 1) := by decide +kernel
theorem dd_V_releaseFrom_50 : decode bb_V_releaseFrom 50 = .ok (.aload_n 1, 1) := by decide +kernel
theorem dd_V_releaseFrom_51 : decode bb_V_releaseFrom 51 = .ok (.getfield 262, 3) := by decide +kernel
theorem dd_V_releaseFrom_54 : decode bb_V_releaseFrom 54 = .ok (.iload_n 2, 1) := by decide +kernel
theorem dd_V_releaseFrom_55 : decode bb_V_releaseFrom 55 = .ok (.invokestatic 292, 3) := by decide +kernel
theorem dd_V_releaseFrom_58 : decode bb_V_releaseFrom 58 = .ok (.putfield 262, 3) := by decide +kernel
theorem dd_V_releaseFrom_61 : decode bb_V_releaseFrom 61 = .ok (.iload_n 3, 1) := by decide +kernel
theorem dd_V_releaseFrom_62 : decode bb_V_releaseFrom 62 = .ok (.ireturn, 1) := by decide +kernel
theorem dd_V_restoreRoot_0 : decode bb_V_restoreRoot 0 = .ok (.aload_n 0, 1) := by decide +kernel
theorem dd_V_restoreRoot_1 : decode bb_V_restoreRoot 1 = .ok (.iconst 0, 1) := by decide +kernel
theorem dd_V_restoreRoot_2 : decode bb_V_restoreRoot 2 = .ok (.invokevirtual 170, 3) := by decide +kernel
theorem dd_V_restoreRoot_5 : decode bb_V_restoreRoot 5 = .ok (.ifCond .eq 5, 3) := by decide +kernel
theorem dd_V_restoreRoot_8 : decode bb_V_restoreRoot 8 = .ok (.iconst 0, 1) := by decide +kernel
theorem dd_V_restoreRoot_9 : decode bb_V_restoreRoot 9 = .ok (.ireturn, 1) := by decide +kernel
theorem dd_V_restoreRoot_10 : decode bb_V_restoreRoot 10 = .ok (.aload_n 0, 1) := by decide +kernel
theorem dd_V_restoreRoot_11 : decode bb_V_restoreRoot 11 = .ok (.getfield 18, 3) := by decide +kernel
theorem dd_V_restoreRoot_14 : decode bb_V_restoreRoot 14 = .ok (.iconst 0, 1) := by decide +kernel
theorem dd_V_restoreRoot_15 : decode bb_V_restoreRoot 15 = .ok (.aaload, 1) := by decide +kernel
theorem dd_V_restoreRoot_16 : decode bb_V_restoreRoot 16 = .ok (.iconst 2, 1) := by decide +kernel
theorem dd_V_restoreRoot_17 : decode bb_V_restoreRoot 17 = .ok (.iconst 0, 1) := by decide +kernel
theorem dd_V_restoreRoot_18 : decode bb_V_restoreRoot 18 = .ok (.invokevirtual 51, 3) := by decide +kernel
theorem dd_V_restoreRoot_21 : decode bb_V_restoreRoot 21 = .ok (.aload_n 0, 1) := by decide +kernel
theorem dd_V_restoreRoot_22 : decode bb_V_restoreRoot 22 = .ok (.iconst 0, 1) := by decide +kernel
theorem dd_V_restoreRoot_23 : decode bb_V_restoreRoot 23 = .ok (.invokevirtual 113, 3) := by decide +kernel
theorem dd_V_restoreRoot_26 : decode bb_V_restoreRoot 26 = .ok (.iconst 1, 1) := by decide +kernel
theorem dd_V_restoreRoot_27 : decode bb_V_restoreRoot 27 = .ok (.ireturn, 1) := by decide +kernel
theorem dd_V_adoptStrays_0 : decode bb_V_adoptStrays 0 = .ok (.iconst 0, 1) := by decide +kernel
theorem dd_V_adoptStrays_1 : decode bb_V_adoptStrays 1 = .ok (.istore_n 1, 1) := by decide +kernel
theorem dd_V_adoptStrays_2 : decode bb_V_adoptStrays 2 = .ok (.iconst 0, 1) := by decide +kernel
theorem dd_V_adoptStrays_3 : decode bb_V_adoptStrays 3 = .ok (.istore_n 2, 1) := by decide +kernel
theorem dd_V_adoptStrays_4 : decode bb_V_adoptStrays 4 = .ok (.iload_n 2, 1) := by decide +kernel
theorem dd_V_adoptStrays_5 : decode bb_V_adoptStrays 5 = .ok (.bipush 12, 2) := by decide +kernel
theorem dd_V_adoptStrays_7 : decode bb_V_adoptStrays 7 = .ok (.if_icmp .ge 43, 3) := by decide +kernel
theorem dd_V_adoptStrays_10 : decode bb_V_adoptStrays 10 = .ok (.aload_n 0, 1) := by decide +kernel
theorem dd_V_adoptStrays_11 : decode bb_V_adoptStrays 11 = .ok (.iload_n 2, 1) := by decide +kernel
theorem dd_V_adoptStrays_12 : decode bb_V_adoptStrays 12 = .ok (.invokevirtual 170, 3) := by decide +kernel
theorem dd_V_adoptStrays_15 : decode bb_V_adoptStrays 15 = .ok (.ifCond .eq 29, 3) := by decide +kernel
theorem dd_V_adoptStrays_18 : decode bb_V_adoptStrays 18 = .ok (.aload_n 0, 1) := by decide +kernel
theorem dd_V_adoptStrays_19 : decode bb_V_adoptStrays 19 = .ok (.iload_n 2, 1) := by decide +kernel
theorem dd_V_adoptStrays_20 : decode bb_V_adoptStrays 20 = .ok (.invokevirtual 295, 3) := by decide +kernel
theorem dd_V_adoptStrays_23 : decode bb_V_adoptStrays 23 = .ok (.ifCond .ne 21, 3) := by decide +kernel
theorem dd_V_adoptStrays_26 : decode bb_V_adoptStrays 26 = .ok (.aload_n 0, 1) := by decide +kernel
theorem dd_V_adoptStrays_27 : decode bb_V_adoptStrays 27 = .ok (.getfield 18, 3) := by decide +kernel
theorem dd_V_adoptStrays_30 : decode bb_V_adoptStrays 30 = .ok (.iload_n 2, 1) := by decide +kernel
theorem dd_V_adoptStrays_31 : decode bb_V_adoptStrays 31 = .ok (.aaload, 1) := by decide +kernel
theorem dd_V_adoptStrays_32 : decode bb_V_adoptStrays 32 = .ok (.iconst 0, 1) := by decide +kernel
theorem dd_V_adoptStrays_33 : decode bb_V_adoptStrays 33 = .ok (.putfield 173, 3) := by decide +kernel
theorem dd_V_adoptStrays_36 : decode bb_V_adoptStrays 36 = .ok (.aload_n 0, 1) := by decide +kernel
theorem dd_V_adoptStrays_37 : decode bb_V_adoptStrays 37 = .ok (.iload_n 2, 1) := by decide +kernel
theorem dd_V_adoptStrays_38 : decode bb_V_adoptStrays 38 = .ok (.invokevirtual 113, 3) := by decide +kernel
theorem dd_V_adoptStrays_41 : decode bb_V_adoptStrays 41 = .ok (.iinc 1 1, 3) := by decide +kernel
theorem dd_V_adoptStrays_44 : decode bb_V_adoptStrays 44 = .ok (.iinc 2 1, 3) := by decide +kernel
theorem dd_V_adoptStrays_47 : decode bb_V_adoptStrays 47 = .ok (.goto (-43), 3) := by decide +kernel
theorem dd_V_adoptStrays_50 : decode bb_V_adoptStrays 50 = .ok (.iload_n 1, 1) := by decide +kernel
theorem dd_V_adoptStrays_51 : decode bb_V_adoptStrays 51 = .ok (.ireturn, 1) := by decide +kernel
theorem dd_V_mendLists_0 : decode bb_V_mendLists 0 = .ok (.iconst 0, 1) := by decide +kernel
theorem dd_V_mendLists_1 : decode bb_V_mendLists 1 = .ok (.istore_n 1, 1) := by decide +kernel
theorem dd_V_mendLists_2 : decode bb_V_mendLists 2 = .ok (.iconst 0, 1) := by decide +kernel
theorem dd_V_mendLists_3 : decode bb_V_mendLists 3 = .ok (.istore_n 2, 1) := by decide +kernel
theorem dd_V_mendLists_4 : decode bb_V_mendLists 4 = .ok (.iload_n 2, 1) := by decide +kernel
theorem dd_V_mendLists_5 : decode bb_V_mendLists 5 = .ok (.bipush 12, 2) := by decide +kernel
theorem dd_V_mendLists_7 : decode bb_V_mendLists 7 = .ok (.if_icmp .ge 62, 3) := by decide +kernel
theorem dd_V_mendLists_10 : decode bb_V_mendLists 10 = .ok (.aload_n 0, 1) := by decide +kernel
theorem dd_V_mendLists_11 : decode bb_V_mendLists 11 = .ok (.iload_n 2, 1) := by decide +kernel
theorem dd_V_mendLists_12 : decode bb_V_mendLists 12 = .ok (.invokevirtual 84, 3) := by decide +kernel
theorem dd_V_mendLists_15 : decode bb_V_mendLists 15 = .ok (.ifCond .eq 48, 3) := by decide +kernel
theorem dd_V_mendLists_18 : decode bb_V_mendLists 18 = .ok (.aload_n 0, 1) := by decide +kernel
theorem dd_V_mendLists_19 : decode bb_V_mendLists 19 = .ok (.iload_n 2, 1) := by decide +kernel
theorem dd_V_mendLists_20 : decode bb_V_mendLists 20 = .ok (.invokevirtual 298, 3) := by decide +kernel
theorem dd_V_mendLists_23 : decode bb_V_mendLists 23 = .ok (.istore_n 3, 1) := by decide +kernel
theorem dd_V_mendLists_24 : decode bb_V_mendLists 24 = .ok (.aload_n 0, 1) := by decide +kernel
theorem dd_V_mendLists_25 : decode bb_V_mendLists 25 = .ok (.getfield 18, 3) := by decide +kernel
theorem dd_V_mendLists_28 : decode bb_V_mendLists 28 = .ok (.iload_n 2, 1) := by decide +kernel
theorem dd_V_mendLists_29 : decode bb_V_mendLists 29 = .ok (.aaload, 1) := by decide +kernel
theorem dd_V_mendLists_30 : decode bb_V_mendLists 30 = .ok (.aload_n 0, 1) := by decide +kernel
theorem dd_V_mendLists_31 : decode bb_V_mendLists 31 = .ok (.getfield 48, 3) := by decide +kernel
theorem dd_V_mendLists_34 : decode bb_V_mendLists 34 = .ok (.iload_n 3, 1) := by decide +kernel
theorem dd_V_mendLists_35 : decode bb_V_mendLists 35 = .ok (.invokevirtual 301, 3) := by decide +kernel
theorem dd_V_mendLists_38 : decode bb_V_mendLists 38 = .ok (.ifCond .ne 25, 3) := by decide +kernel
theorem dd_V_mendLists_41 : decode bb_V_mendLists 41 = .ok (.aload_n 0, 1) := by decide +kernel
theorem dd_V_mendLists_42 : decode bb_V_mendLists 42 = .ok (.getfield 18, 3) := by decide +kernel
theorem dd_V_mendLists_45 : decode bb_V_mendLists 45 = .ok (.iload_n 2, 1) := by decide +kernel
theorem dd_V_mendLists_46 : decode bb_V_mendLists 46 = .ok (.aaload, 1) := by decide +kernel
theorem dd_V_mendLists_47 : decode bb_V_mendLists 47 = .ok (.aload_n 0, 1) := by decide +kernel
theorem dd_V_mendLists_48 : decode bb_V_mendLists 48 = .ok (.getfield 48, 3) := by decide +kernel
theorem dd_V_mendLists_51 : decode bb_V_mendLists 51 = .ok (.iload_n 3, 1) := by decide +kernel
theorem dd_V_mendLists_52 : decode bb_V_mendLists 52 = .ok (.invokevirtual 305, 3) := by decide +kernel
theorem dd_V_mendLists_55 : decode bb_V_mendLists 55 = .ok (.aload_n 0, 1) := by decide +kernel
theorem dd_V_mendLists_56 : decode bb_V_mendLists 56 = .ok (.iload_n 2, 1) := by decide +kernel
theorem dd_V_mendLists_57 : decode bb_V_mendLists 57 = .ok (.invokevirtual 113, 3) := by decide +kernel
theorem dd_V_mendLists_60 : decode bb_V_mendLists 60 = .ok (.iinc 1 1, 3) := by decide +kernel
theorem dd_V_mendLists_63 : decode bb_V_mendLists 63 = .ok (.iinc 2 1, 3) := by decide +kernel
theorem dd_V_mendLists_66 : decode bb_V_mendLists 66 = .ok (.goto (-62), 3) := by decide +kernel
theorem dd_V_mendLists_69 : decode bb_V_mendLists 69 = .ok (.iload_n 1, 1) := by decide +kernel
theorem dd_V_mendLists_70 : decode bb_V_mendLists 70 = .ok (.ireturn, 1) := by decide +kernel
theorem dd_V_collectEntries_0 : decode bb_V_collectEntries 0 = .ok (.iconst 0, 1) := by decide +kernel
theorem dd_V_collectEntries_1 : decode bb_V_collectEntries 1 = .ok (.istore_n 2, 1) := by decide +kernel
theorem dd_V_collectEntries_2 : decode bb_V_collectEntries 2 = .ok (.iconst 1, 1) := by decide +kernel
theorem dd_V_collectEntries_3 : decode bb_V_collectEntries 3 = .ok (.istore_n 3, 1) := by decide +kernel
theorem dd_V_collectEntries_4 : decode bb_V_collectEntries 4 = .ok (.iload_n 3, 1) := by decide +kernel
theorem dd_V_collectEntries_5 : decode bb_V_collectEntries 5 = .ok (.bipush 12, 2) := by decide +kernel
theorem dd_V_collectEntries_7 : decode bb_V_collectEntries 7 = .ok (.if_icmp .ge 41, 3) := by decide +kernel
theorem dd_V_collectEntries_10 : decode bb_V_collectEntries 10 = .ok (.aload_n 0, 1) := by decide +kernel
theorem dd_V_collectEntries_11 : decode bb_V_collectEntries 11 = .ok (.iload_n 3, 1) := by decide +kernel
theorem dd_V_collectEntries_12 : decode bb_V_collectEntries 12 = .ok (.invokevirtual 170, 3) := by decide +kernel
theorem dd_V_collectEntries_15 : decode bb_V_collectEntries 15 = .ok (.ifCond .eq 27, 3) := by decide +kernel
theorem dd_V_collectEntries_18 : decode bb_V_collectEntries 18 = .ok (.aload_n 0, 1) := by decide +kernel
theorem dd_V_collectEntries_19 : decode bb_V_collectEntries 19 = .ok (.getfield 18, 3) := by decide +kernel
theorem dd_V_collectEntries_22 : decode bb_V_collectEntries 22 = .ok (.iload_n 3, 1) := by decide +kernel
theorem dd_V_collectEntries_23 : decode bb_V_collectEntries 23 = .ok (.aaload, 1) := by decide +kernel
theorem dd_V_collectEntries_24 : decode bb_V_collectEntries 24 = .ok (.getfield 173, 3) := by decide +kernel
theorem dd_V_collectEntries_27 : decode bb_V_collectEntries 27 = .ok (.iload_n 1, 1) := by decide +kernel
theorem dd_V_collectEntries_28 : decode bb_V_collectEntries 28 = .ok (.if_icmp .ne 14, 3) := by decide +kernel
theorem dd_V_collectEntries_31 : decode bb_V_collectEntries 31 = .ok (.aload_n 0, 1) := by decide +kernel
theorem dd_V_collectEntries_32 : decode bb_V_collectEntries 32 = .ok (.aload_n 0, 1) := by decide +kernel
theorem dd_V_collectEntries_33 : decode bb_V_collectEntries 33 = .ok (.getfield 48, 3) := by decide +kernel
theorem dd_V_collectEntries_36 : decode bb_V_collectEntries 36 = .ok (.iload_n 2, 1) := by decide +kernel
theorem dd_V_collectEntries_37 : decode bb_V_collectEntries 37 = .ok (.iload_n 3, 1) := by decide +kernel
theorem dd_V_collectEntries_38 : decode bb_V_collectEntries 38 = .ok (.invokevirtual 249, 3) := by decide +kernel
theorem dd_V_collectEntries_41 : decode bb_V_collectEntries 41 = .ok (.istore_n 2, 1) := by decide +kernel
theorem dd_V_collectEntries_42 : decode bb_V_collectEntries 42 = .ok (.iinc 3 1, 3) := by decide +kernel
theorem dd_V_collectEntries_45 : decode bb_V_collectEntries 45 = .ok (.goto (-41), 3) := by decide +kernel
theorem dd_V_collectEntries_48 : decode bb_V_collectEntries 48 = .ok (.iload_n 2, 1) := by decide +kernel
theorem dd_V_collectEntries_49 : decode bb_V_collectEntries 49 = .ok (.ireturn, 1) := by decide +kernel
theorem dd_V_noteTaken_0 : decode bb_V_noteTaken 0 = .ok (.iconst 0, 1) := by decide +kernel
theorem dd_V_noteTaken_1 : decode bb_V_noteTaken 1 = .ok (.istore_n 1, 1) := by decide +kernel
theorem dd_V_noteTaken_2 : decode bb_V_noteTaken 2 = .ok (.iload_n 1, 1) := by decide +kernel
theorem dd_V_noteTaken_3 : decode bb_V_noteTaken 3 = .ok (.sipush 128, 3) := by decide +kernel
theorem dd_V_noteTaken_6 : decode bb_V_noteTaken 6 = .ok (.if_icmp .ge 16, 3) := by decide +kernel
theorem dd_V_noteTaken_9 : decode bb_V_noteTaken 9 = .ok (.aload_n 0, 1) := by decide +kernel
theorem dd_V_noteTaken_10 : decode bb_V_noteTaken 10 = .ok (.getfield 23, 3) := by decide +kernel
theorem dd_V_noteTaken_13 : decode bb_V_noteTaken 13 = .ok (.iload_n 1, 1) := by decide +kernel
theorem dd_V_noteTaken_14 : decode bb_V_noteTaken 14 = .ok (.iconst 0, 1) := by decide +kernel
theorem dd_V_noteTaken_15 : decode bb_V_noteTaken 15 = .ok (.bastore, 1) := by decide +kernel
theorem dd_V_noteTaken_16 : decode bb_V_noteTaken 16 = .ok (.iinc 1 1, 3) := by decide +kernel
theorem dd_V_noteTaken_19 : decode bb_V_noteTaken 19 = .ok (.goto (-17), 3) := by decide +kernel
theorem dd_V_noteTaken_22 : decode bb_V_noteTaken 22 = .ok (.iconst 0, 1) := by decide +kernel
theorem dd_V_noteTaken_23 : decode bb_V_noteTaken 23 = .ok (.istore_n 1, 1) := by decide +kernel
theorem dd_V_noteTaken_24 : decode bb_V_noteTaken 24 = .ok (.iload_n 1, 1) := by decide +kernel
theorem dd_V_noteTaken_25 : decode bb_V_noteTaken 25 = .ok (.bipush 12, 2) := by decide +kernel
theorem dd_V_noteTaken_27 : decode bb_V_noteTaken 27 = .ok (.if_icmp .ge 59, 3) := by decide +kernel
theorem dd_V_noteTaken_30 : decode bb_V_noteTaken 30 = .ok (.aload_n 0, 1) := by decide +kernel
theorem dd_V_noteTaken_31 : decode bb_V_noteTaken 31 = .ok (.getfield 18, 3) := by decide +kernel
theorem dd_V_noteTaken_34 : decode bb_V_noteTaken 34 = .ok (.iload_n 1, 1) := by decide +kernel
theorem dd_V_noteTaken_35 : decode bb_V_noteTaken 35 = .ok (.aaload, 1) := by decide +kernel
theorem dd_V_noteTaken_36 : decode bb_V_noteTaken 36 = .ok (.getfield 152, 3) := by decide +kernel
theorem dd_V_noteTaken_39 : decode bb_V_noteTaken 39 = .ok (.astore_n 2, 1) := by decide +kernel
theorem dd_V_noteTaken_40 : decode bb_V_noteTaken 40 = .ok (.iconst 0, 1) := by decide +kernel
theorem dd_V_noteTaken_41 : decode bb_V_noteTaken 41 = .ok (.istore_n 3, 1) := by decide +kernel
theorem dd_V_noteTaken_42 : decode bb_V_noteTaken 42 = .ok (.iload_n 3, 1) := by decide +kernel
theorem dd_V_noteTaken_43 : decode bb_V_noteTaken 43 = .ok (.aload_n 2, 1) := by decide +kernel
theorem dd_V_noteTaken_44 : decode bb_V_noteTaken 44 = .ok (.getfield 262, 3) := by decide +kernel
theorem dd_V_noteTaken_47 : decode bb_V_noteTaken 47 = .ok (.if_icmp .ge 33, 3) := by decide +kernel
theorem dd_V_noteTaken_50 : decode bb_V_noteTaken 50 = .ok (.aload_n 2, 1) := by decide +kernel
theorem dd_V_noteTaken_51 : decode bb_V_noteTaken 51 = .ok (.getfield 286, 3) := by decide +kernel
theorem dd_V_noteTaken_54 : decode bb_V_noteTaken 54 = .ok (.iload_n 3, 1) := by decide +kernel
theorem dd_V_noteTaken_55 : decode bb_V_noteTaken 55 = .ok (.iaload, 1) := by decide +kernel
theorem dd_V_noteTaken_56 : decode bb_V_noteTaken 56 = .ok (.invokestatic 289, 3) := by decide +kernel
theorem dd_V_noteTaken_59 : decode bb_V_noteTaken 59 = .ok (.ifCond .eq 15, 3) := by decide +kernel
theorem dd_V_noteTaken_62 : decode bb_V_noteTaken 62 = .ok (.aload_n 0, 1) := by decide +kernel
theorem dd_V_noteTaken_63 : decode bb_V_noteTaken 63 = .ok (.getfield 23, 3) := by decide +kernel
theorem dd_V_noteTaken_66 : decode bb_V_noteTaken 66 = .ok (.aload_n 2, 1) := by decide +kernel
theorem dd_V_noteTaken_67 : decode bb_V_noteTaken 67 = .ok (.getfield 286, 3) := by decide +kernel
theorem dd_V_noteTaken_70 : decode bb_V_noteTaken 70 = .ok (.iload_n 3, 1) := by decide +kernel
theorem dd_V_noteTaken_71 : decode bb_V_noteTaken 71 = .ok (.iaload, 1) := by decide +kernel
theorem dd_V_noteTaken_72 : decode bb_V_noteTaken 72 = .ok (.iconst 1, 1) := by decide +kernel
theorem dd_V_noteTaken_73 : decode bb_V_noteTaken 73 = .ok (.bastore, 1) := by decide +kernel
theorem dd_V_noteTaken_74 : decode bb_V_noteTaken 74 = .ok (.iinc 3 1, 3) := by decide +kernel
theorem dd_V_noteTaken_77 : decode bb_V_noteTaken 77 = .ok (.goto (-35), 3) := by decide +kernel
theorem dd_V_noteTaken_80 : decode bb_V_noteTaken 80 = .ok (.iinc 1 1, 3) := by decide +kernel
theorem dd_V_noteTaken_83 : decode bb_V_noteTaken 83 = .ok (.goto (-59), 3) := by decide +kernel
theorem dd_V_noteTaken_86 : decode bb_V_noteTaken 86 = .ok (.return_, 1) := by decide +kernel
theorem dd_V_isDataCluster_0 : decode bb_V_isDataCluster 0 = .ok (.iload_n 0, 1) := by decide +kernel
theorem dd_V_isDataCluster_1 : decode bb_V_isDataCluster 1 = .ok (.bipush 48, 2) := by decide +kernel
theorem dd_V_isDataCluster_3 : decode bb_V_isDataCluster 3 = .ok (.if_icmp .lt 14, 3) := by decide +kernel
theorem dd_V_isDataCluster_6 : decode bb_V_isDataCluster 6 = .ok (.iload_n 0, 1) := by decide +kernel
theorem dd_V_isDataCluster_7 : decode bb_V_isDataCluster 7 = .ok (.sipush 128, 3) := by decide +kernel
theorem dd_V_isDataCluster_10 : decode bb_V_isDataCluster 10 = .ok (.if_icmp .ge 7, 3) := by decide +kernel
theorem dd_V_isDataCluster_13 : decode bb_V_isDataCluster 13 = .ok (.iconst 1, 1) := by decide +kernel
theorem dd_V_isDataCluster_14 : decode bb_V_isDataCluster 14 = .ok (.goto 4, 3) := by decide +kernel
theorem dd_V_isDataCluster_17 : decode bb_V_isDataCluster 17 = .ok (.iconst 0, 1) := by decide +kernel
theorem dd_V_isDataCluster_18 : decode bb_V_isDataCluster 18 = .ok (.ireturn, 1) := by decide +kernel
theorem dd_V_clustersFor_0 : decode bb_V_clustersFor 0 = .ok (.iload_n 0, 1) := by decide +kernel
theorem dd_V_clustersFor_1 : decode bb_V_clustersFor 1 = .ok (.bipush 16, 2) := by decide +kernel
theorem dd_V_clustersFor_3 : decode bb_V_clustersFor 3 = .ok (.iadd, 1) := by decide +kernel
theorem dd_V_clustersFor_4 : decode bb_V_clustersFor 4 = .ok (.iconst 1, 1) := by decide +kernel
theorem dd_V_clustersFor_5 : decode bb_V_clustersFor 5 = .ok (.isub, 1) := by decide +kernel
theorem dd_V_clustersFor_6 : decode bb_V_clustersFor 6 = .ok (.bipush 16, 2) := by decide +kernel
theorem dd_V_clustersFor_8 : decode bb_V_clustersFor 8 = .ok (.idiv, 1) := by decide +kernel
theorem dd_V_clustersFor_9 : decode bb_V_clustersFor 9 = .ok (.ireturn, 1) := by decide +kernel
theorem dd_V_endOfLastCluster_0 : decode bb_V_endOfLastCluster 0 = .ok (.iload_n 0, 1) := by decide +kernel
theorem dd_V_endOfLastCluster_1 : decode bb_V_endOfLastCluster 1 = .ok (.invokestatic 155, 3) := by decide +kernel
theorem dd_V_endOfLastCluster_4 : decode bb_V_endOfLastCluster 4 = .ok (.bipush 16, 2) := by decide +kernel
theorem dd_V_endOfLastCluster_6 : decode bb_V_endOfLastCluster 6 = .ok (.imul, 1) := by decide +kernel
theorem dd_V_endOfLastCluster_7 : decode bb_V_endOfLastCluster 7 = .ok (.ireturn, 1) := by decide +kernel
theorem dd_V_wordAt_0 : decode bb_V_wordAt 0 = .ok (.aload_n 0, 1) := by decide +kernel
theorem dd_V_wordAt_1 : decode bb_V_wordAt 1 = .ok (.iload_n 1, 1) := by decide +kernel
theorem dd_V_wordAt_2 : decode bb_V_wordAt 2 = .ok (.iaload, 1) := by decide +kernel
theorem dd_V_wordAt_3 : decode bb_V_wordAt 3 = .ok (.sipush 256, 3) := by decide +kernel
theorem dd_V_wordAt_6 : decode bb_V_wordAt 6 = .ok (.aload_n 0, 1) := by decide +kernel
theorem dd_V_wordAt_7 : decode bb_V_wordAt 7 = .ok (.iload_n 1, 1) := by decide +kernel
theorem dd_V_wordAt_8 : decode bb_V_wordAt 8 = .ok (.iconst 1, 1) := by decide +kernel
theorem dd_V_wordAt_9 : decode bb_V_wordAt 9 = .ok (.iadd, 1) := by decide +kernel
theorem dd_V_wordAt_10 : decode bb_V_wordAt 10 = .ok (.iaload, 1) := by decide +kernel
theorem dd_V_wordAt_11 : decode bb_V_wordAt 11 = .ok (.imul, 1) := by decide +kernel
theorem dd_V_wordAt_12 : decode bb_V_wordAt 12 = .ok (.iadd, 1) := by decide +kernel
theorem dd_V_wordAt_13 : decode bb_V_wordAt 13 = .ok (.ireturn, 1) := by decide +kernel
theorem dd_V_putWord_0 : decode bb_V_putWord 0 = .ok (.aload_n 0, 1) := by decide +kernel
theorem dd_V_putWord_1 : decode bb_V_putWord 1 = .ok (.iload_n 1, 1) := by decide +kernel
theorem dd_V_putWord_2 : decode bb_V_putWord 2 = .ok (.iload_n 2, 1) := by decide +kernel
theorem dd_V_putWord_3 : decode bb_V_putWord 3 = .ok (.sipush 255, 3) := by decide +kernel
theorem dd_V_putWord_6 : decode bb_V_putWord 6 = .ok (.iand, 1) := by decide +kernel
theorem dd_V_putWord_7 : decode bb_V_putWord 7 = .ok (.iastore, 1) := by decide +kernel
theorem dd_V_putWord_8 : decode bb_V_putWord 8 = .ok (.aload_n 0, 1) := by decide +kernel
theorem dd_V_putWord_9 : decode bb_V_putWord 9 = .ok (.iload_n 1, 1) := by decide +kernel
theorem dd_V_putWord_10 : decode bb_V_putWord 10 = .ok (.iconst 1, 1) := by decide +kernel
theorem dd_V_putWord_11 : decode bb_V_putWord 11 = .ok (.iadd, 1) := by decide +kernel
theorem dd_V_putWord_12 : decode bb_V_putWord 12 = .ok (.iload_n 2, 1) := by decide +kernel
theorem dd_V_putWord_13 : decode bb_V_putWord 13 = .ok (.bipush 8, 2) := by decide +kernel
theorem dd_V_putWord_15 : decode bb_V_putWord 15 = .ok (.ishr, 1) := by decide +kernel
theorem dd_V_putWord_16 : decode bb_V_putWord 16 = .ok (.sipush 255, 3) := by decide +kernel
theorem dd_V_putWord_19 : decode bb_V_putWord 19 = .ok (.iand, 1) := by decide +kernel
theorem dd_V_putWord_20 : decode bb_V_putWord 20 = .ok (.iastore, 1) := by decide +kernel
theorem dd_V_putWord_21 : decode bb_V_putWord 21 = .ok (.return_, 1) := by decide +kernel
theorem dd_M_init_0 : decode bb_M_init 0 = .ok (.aload_n 0, 1) := by decide +kernel
theorem dd_M_init_1 : decode bb_M_init 1 = .ok (.invokespecial 1, 3) := by decide +kernel
theorem dd_M_init_4 : decode bb_M_init 4 = .ok (.aload_n 0, 1) := by decide +kernel
theorem dd_M_init_5 : decode bb_M_init 5 = .ok (.sipush 2048, 3) := by decide +kernel
theorem dd_M_init_8 : decode bb_M_init 8 = .ok (.newarray .int, 2) := by decide +kernel
theorem dd_M_init_10 : decode bb_M_init 10 = .ok (.putfield 7, 3) := by decide +kernel
theorem dd_M_init_13 : decode bb_M_init 13 = .ok (.aload_n 0, 1) := by decide +kernel
theorem dd_M_init_14 : decode bb_M_init 14 = .ok (.bipush 12, 2) := by decide +kernel
theorem dd_M_init_16 : decode bb_M_init 16 = .ok (.newarray .boolean, 2) := by decide +kernel
theorem dd_M_init_18 : decode bb_M_init 18 = .ok (.putfield 13, 3) := by decide +kernel
theorem dd_M_init_21 : decode bb_M_init 21 = .ok (.aload_n 0, 1) := by decide +kernel
theorem dd_M_init_22 : decode bb_M_init 22 = .ok (.sipush 128, 3) := by decide +kernel
theorem dd_M_init_25 : decode bb_M_init 25 = .ok (.newarray .boolean, 2) := by decide +kernel
theorem dd_M_init_27 : decode bb_M_init 27 = .ok (.putfield 17, 3) := by decide +kernel
theorem dd_M_init_30 : decode bb_M_init 30 = .ok (.aload_n 0, 1) := by decide +kernel
theorem dd_M_init_31 : decode bb_M_init 31 = .ok (.bipush 8, 2) := by decide +kernel
theorem dd_M_init_33 : decode bb_M_init 33 = .ok (.newarray .char, 2) := by decide +kernel
theorem dd_M_init_35 : decode bb_M_init 35 = .ok (.putfield 20, 3) := by decide +kernel
theorem dd_M_init_38 : decode bb_M_init 38 = .ok (.aload_n 0, 1) := by decide +kernel
theorem dd_M_init_39 : decode bb_M_init 39 = .ok (.bipush 64, 2) := by decide +kernel
theorem dd_M_init_41 : decode bb_M_init 41 = .ok (.newarray .int, 2) := by decide +kernel
theorem dd_M_init_43 : decode bb_M_init 43 = .ok (.putfield 24, 3) := by decide +kernel
theorem dd_M_init_46 : decode bb_M_init 46 = .ok (.aload_n 0, 1) := by decide +kernel
theorem dd_M_init_47 : decode bb_M_init 47 = .ok (.bipush 64, 2) := by decide +kernel
theorem dd_M_init_49 : decode bb_M_init 49 = .ok (.newarray .int, 2) := by decide +kernel
theorem dd_M_init_51 : decode bb_M_init 51 = .ok (.putfield 27, 3) := by decide +kernel
theorem dd_M_init_54 : decode bb_M_init 54 = .ok (.aload_n 0, 1) := by decide +kernel
theorem dd_M_init_55 : decode bb_M_init 55 = .ok (.bipush 64, 2) := by decide +kernel
theorem dd_M_init_57 : decode bb_M_init 57 = .ok (.newarray .boolean, 2) := by decide +kernel
theorem dd_M_init_59 : decode bb_M_init 59 = .ok (.putfield 30, 3) := by decide +kernel
theorem dd_M_init_62 : decode bb_M_init 62 = .ok (.aload_n 0, 1) := by decide +kernel
theorem dd_M_init_63 : decode bb_M_init 63 = .ok (.bipush 64, 2) := by decide +kernel
theorem dd_M_init_65 : decode bb_M_init 65 = .ok (.newarray .int, 2) := by decide +kernel
theorem dd_M_init_67 : decode bb_M_init 67 = .ok (.putfield 33, 3) := by decide +kernel
theorem dd_M_init_70 : decode bb_M_init 70 = .ok (.aload_n 0, 1) := by decide +kernel
theorem dd_M_init_71 : decode bb_M_init 71 = .ok (.bipush 12, 2) := by decide +kernel
theorem dd_M_init_73 : decode bb_M_init 73 = .ok (.newarray .int, 2) := by decide +kernel
theorem dd_M_init_75 : decode bb_M_init 75 = .ok (.putfield 36, 3) := by decide +kernel
theorem dd_M_init_78 : decode bb_M_init 78 = .ok (.iconst 0, 1) := by decide +kernel
theorem dd_M_init_79 : decode bb_M_init 79 = .ok (.istore_n 1, 1) := by decide +kernel
theorem dd_M_init_80 : decode bb_M_init 80 = .ok (.iload_n 1, 1) := by decide +kernel
theorem dd_M_init_81 : decode bb_M_init 81 = .ok (.bipush 12, 2) := by decide +kernel
theorem dd_M_init_83 : decode bb_M_init 83 = .ok (.if_icmp .ge 16, 3) := by decide +kernel
theorem dd_M_init_86 : decode bb_M_init 86 = .ok (.aload_n 0, 1) := by decide +kernel
theorem dd_M_init_87 : decode bb_M_init 87 = .ok (.getfield 13, 3) := by decide +kernel
theorem dd_M_init_90 : decode bb_M_init 90 = .ok (.iload_n 1, 1) := by decide +kernel
theorem dd_M_init_91 : decode bb_M_init 91 = .ok (.iconst 0, 1) := by decide +kernel
theorem dd_M_init_92 : decode bb_M_init 92 = .ok (.bastore, 1) := by decide +kernel
theorem dd_M_init_93 : decode bb_M_init 93 = .ok (.iinc 1 1, 3) := by decide +kernel
theorem dd_M_init_96 : decode bb_M_init 96 = .ok (.goto (-16), 3) := by decide +kernel
theorem dd_M_init_99 : decode bb_M_init 99 = .ok (.aload_n 0, 1) := by decide +kernel
theorem dd_M_init_100 : decode bb_M_init 100 = .ok (.iconst 2, 1) := by decide +kernel
theorem dd_M_init_101 : decode bb_M_init 101 = .ok (.iconst 0, 1) := by decide +kernel
theorem dd_M_init_102 : decode bb_M_init 102 = .ok (.invokevirtual 39, 3) := by decide +kernel
theorem dd_M_init_105 : decode bb_M_init 105 = .ok (.aload_n 0, 1) := by decide +kernel
theorem dd_M_init_106 : decode bb_M_init 106 = .ok (.invokevirtual 43, 3) := by decide +kernel
theorem dd_M_init_109 : decode bb_M_init 109 = .ok (.aload_n 0, 1) := by decide +kernel
theorem dd_M_init_110 : decode bb_M_init 110 = .ok (.iconst 0, 1) := by decide +kernel
theorem dd_M_init_111 : decode bb_M_init 111 = .ok (.invokevirtual 46, 3) := by decide +kernel
theorem dd_M_init_114 : decode bb_M_init 114 = .ok (.pop, 1) := by decide +kernel
theorem dd_M_init_115 : decode bb_M_init 115 = .ok (.aload_n 0, 1) := by decide +kernel
theorem dd_M_init_116 : decode bb_M_init 116 = .ok (.iconst 1, 1) := by decide +kernel
theorem dd_M_init_117 : decode bb_M_init 117 = .ok (.putfield 50, 3) := by decide +kernel
theorem dd_M_init_120 : decode bb_M_init 120 = .ok (.return_, 1) := by decide +kernel
theorem dd_M_thrown_0 : decode bb_M_thrown 0 = .ok (.aload_n 0, 1) := by decide +kernel
theorem dd_M_thrown_1 : decode bb_M_thrown 1 = .ok (.getfield 54, 3) := by decide +kernel
theorem dd_M_thrown_4 : decode bb_M_thrown 4 = .ok (.ireturn, 1) := by decide +kernel
theorem dd_M_refuse_0 : decode bb_M_refuse 0 = .ok (.aload_n 0, 1) := by decide +kernel
theorem dd_M_refuse_1 : decode bb_M_refuse 1 = .ok (.iload_n 1, 1) := by decide +kernel
theorem dd_M_refuse_2 : decode bb_M_refuse 2 = .ok (.putfield 54, 3) := by decide +kernel
theorem dd_M_refuse_5 : decode bb_M_refuse 5 = .ok (.iconst 0, 1) := by decide +kernel
theorem dd_M_refuse_6 : decode bb_M_refuse 6 = .ok (.ireturn, 1) := by decide +kernel
