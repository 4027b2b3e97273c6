theorem dd_H_decodeAttributes_0 : decode bb_H_decodeAttributes 0 = .ok (.bipush 10, 2) := by decide +kernel
theorem dd_H_decodeAttributes_2 : decode bb_H_decodeAttributes 2 = .ok (.aload_n 1, 1) := by decide +kernel
theorem dd_H_decodeAttributes_3 : decode bb_H_decodeAttributes 3 = .ok (.bipush 8, 2) := by decide +kernel
theorem dd_H_decodeAttributes_5 : decode bb_H_decodeAttributes 5 = .ok (.iaload, 1) := by decide +kernel
theorem dd_H_decodeAttributes_6 : decode bb_H_decodeAttributes 6 = .ok (.iadd, 1) := by decide +kernel
theorem dd_H_decodeAttributes_7 : decode bb_H_decodeAttributes 7 = .ok (.bipush 64, 2) := by decide +kernel
theorem dd_H_decodeAttributes_9 : decode bb_H_decodeAttributes 9 = .ok (.invokestatic 113, 3) := by decide +kernel
theorem dd_H_decodeAttributes_12 : decode bb_H_decodeAttributes 12 = .ok (.istore_n 2, 1) := by decide +kernel
theorem dd_H_decodeAttributes_13 : decode bb_H_decodeAttributes 13 = .ok (.bipush 10, 2) := by decide +kernel
theorem dd_H_decodeAttributes_15 : decode bb_H_decodeAttributes 15 = .ok (.istore_n 3, 1) := by decide +kernel
theorem dd_H_decodeAttributes_16 : decode bb_H_decodeAttributes 16 = .ok (.iload_n 3, 1) := by decide +kernel
theorem dd_H_decodeAttributes_17 : decode bb_H_decodeAttributes 17 = .ok (.iconst 2, 1) := by decide +kernel
theorem dd_H_decodeAttributes_18 : decode bb_H_decodeAttributes 18 = .ok (.iadd, 1) := by decide +kernel
theorem dd_H_decodeAttributes_19 : decode bb_H_decodeAttributes 19 = .ok (.iload_n 2, 1) := by decide +kernel
theorem dd_H_decodeAttributes_20 : decode bb_H_decodeAttributes 20 = .ok (.if_icmp .gt 34, 3) := by decide +kernel
theorem dd_H_decodeAttributes_23 : decode bb_H_decodeAttributes 23 = .ok (.iload_n 3, 1) := by decide +kernel
theorem dd_H_decodeAttributes_24 : decode bb_H_decodeAttributes 24 = .ok (.aload_n 1, 1) := by decide +kernel
theorem dd_H_decodeAttributes_25 : decode bb_H_decodeAttributes 25 = .ok (.iload_n 3, 1) := by decide +kernel
theorem dd_H_decodeAttributes_26 : decode bb_H_decodeAttributes 26 = .ok (.iconst 1, 1) := by decide +kernel
theorem dd_H_decodeAttributes_27 : decode bb_H_decodeAttributes 27 = .ok (.iadd, 1) := by decide +kernel
theorem dd_H_decodeAttributes_28 : decode bb_H_decodeAttributes 28 = .ok (.iaload, 1) := by decide +kernel
theorem dd_H_decodeAttributes_29 : decode bb_H_decodeAttributes 29 = .ok (.iconst 2, 1) := by decide +kernel
theorem dd_H_decodeAttributes_30 : decode bb_H_decodeAttributes 30 = .ok (.invokestatic 119, 3) := by decide +kernel
theorem dd_H_decodeAttributes_33 : decode bb_H_decodeAttributes 33 = .ok (.iadd, 1) := by decide +kernel
theorem dd_H_decodeAttributes_34 : decode bb_H_decodeAttributes 34 = .ok (.istore 4, 2) := by decide +kernel
theorem dd_H_decodeAttributes_36 : decode bb_H_decodeAttributes 36 = .ok (.aload_n 0, 1) := by decide +kernel
theorem dd_H_decodeAttributes_37 : decode bb_H_decodeAttributes 37 = .ok (.aload_n 1, 1) := by decide +kernel
theorem dd_H_decodeAttributes_38 : decode bb_H_decodeAttributes 38 = .ok (.iload_n 3, 1) := by decide +kernel
theorem dd_H_decodeAttributes_39 : decode bb_H_decodeAttributes 39 = .ok (.iload 4, 2) := by decide +kernel
theorem dd_H_decodeAttributes_41 : decode bb_H_decodeAttributes 41 = .ok (.iload_n 2, 1) := by decide +kernel
theorem dd_H_decodeAttributes_42 : decode bb_H_decodeAttributes 42 = .ok (.invokestatic 113, 3) := by decide +kernel
theorem dd_H_decodeAttributes_45 : decode bb_H_decodeAttributes 45 = .ok (.invokevirtual 122, 3) := by decide +kernel
theorem dd_H_decodeAttributes_48 : decode bb_H_decodeAttributes 48 = .ok (.iload 4, 2) := by decide +kernel
theorem dd_H_decodeAttributes_50 : decode bb_H_decodeAttributes 50 = .ok (.istore_n 3, 1) := by decide +kernel
theorem dd_H_decodeAttributes_51 : decode bb_H_decodeAttributes 51 = .ok (.goto (-35), 3) := by decide +kernel
theorem dd_H_decodeAttributes_54 : decode bb_H_decodeAttributes 54 = .ok (.return_, 1) := by decide +kernel
theorem dd_H_decodeAttribute_0 : decode bb_H_decodeAttribute 0 = .ok (.iload_n 2, 1) := by decide +kernel
theorem dd_H_decodeAttribute_1 : decode bb_H_decodeAttribute 1 = .ok (.iconst 2, 1) := by decide +kernel
theorem dd_H_decodeAttribute_2 : decode bb_H_decodeAttribute 2 = .ok (.iadd, 1) := by decide +kernel
theorem dd_H_decodeAttribute_3 : decode bb_H_decodeAttribute 3 = .ok (.istore 4, 2) := by decide +kernel
theorem dd_H_decodeAttribute_5 : decode bb_H_decodeAttribute 5 = .ok (.aload_n 1, 1) := by decide +kernel
theorem dd_H_decodeAttribute_6 : decode bb_H_decodeAttribute 6 = .ok (.iload_n 2, 1) := by decide +kernel
theorem dd_H_decodeAttribute_7 : decode bb_H_decodeAttribute 7 = .ok (.iaload, 1) := by decide +kernel
theorem dd_H_decodeAttribute_8 : decode bb_H_decodeAttribute 8 = .ok (.iconst 1, 1) := by decide +kernel
theorem dd_H_decodeAttribute_9 : decode bb_H_decodeAttribute 9 = .ok (.if_icmp .ne 34, 3) := by decide +kernel
theorem dd_H_decodeAttribute_12 : decode bb_H_decodeAttribute 12 = .ok (.iload 4, 2) := by decide +kernel
theorem dd_H_decodeAttribute_14 : decode bb_H_decodeAttribute 14 = .ok (.istore 5, 2) := by decide +kernel
theorem dd_H_decodeAttribute_16 : decode bb_H_decodeAttribute 16 = .ok (.iload 5, 2) := by decide +kernel
theorem dd_H_decodeAttribute_18 : decode bb_H_decodeAttribute 18 = .ok (.iload_n 3, 1) := by decide +kernel
theorem dd_H_decodeAttribute_19 : decode bb_H_decodeAttribute 19 = .ok (.if_icmp .ge 21, 3) := by decide +kernel
theorem dd_H_decodeAttribute_22 : decode bb_H_decodeAttribute 22 = .ok (.aload_n 0, 1) := by decide +kernel
theorem dd_H_decodeAttribute_23 : decode bb_H_decodeAttribute 23 = .ok (.getfield 12, 3) := by decide +kernel
theorem dd_H_decodeAttribute_26 : decode bb_H_decodeAttribute 26 = .ok (.aload_n 1, 1) := by decide +kernel
theorem dd_H_decodeAttribute_27 : decode bb_H_decodeAttribute 27 = .ok (.iload 5, 2) := by decide +kernel
theorem dd_H_decodeAttribute_29 : decode bb_H_decodeAttribute 29 = .ok (.iaload, 1) := by decide +kernel
theorem dd_H_decodeAttribute_30 : decode bb_H_decodeAttribute 30 = .ok (.invokevirtual 125, 3) := by decide +kernel
theorem dd_H_decodeAttribute_33 : decode bb_H_decodeAttribute 33 = .ok (.pop, 1) := by decide +kernel
theorem dd_H_decodeAttribute_34 : decode bb_H_decodeAttribute 34 = .ok (.iinc 5 1, 3) := by decide +kernel
theorem dd_H_decodeAttribute_37 : decode bb_H_decodeAttribute 37 = .ok (.goto (-21), 3) := by decide +kernel
theorem dd_H_decodeAttribute_40 : decode bb_H_decodeAttribute 40 = .ok (.goto 79, 3) := by decide +kernel
theorem dd_H_decodeAttribute_43 : decode bb_H_decodeAttribute 43 = .ok (.aload_n 1, 1) := by decide +kernel
theorem dd_H_decodeAttribute_44 : decode bb_H_decodeAttribute 44 = .ok (.iload_n 2, 1) := by decide +kernel
theorem dd_H_decodeAttribute_45 : decode bb_H_decodeAttribute 45 = .ok (.iaload, 1) := by decide +kernel
theorem dd_H_decodeAttribute_46 : decode bb_H_decodeAttribute 46 = .ok (.iconst 3, 1) := by decide +kernel
theorem dd_H_decodeAttribute_47 : decode bb_H_decodeAttribute 47 = .ok (.if_icmp .eq 36, 3) := by decide +kernel
theorem dd_H_decodeAttribute_50 : decode bb_H_decodeAttribute 50 = .ok (.aload_n 0, 1) := by decide +kernel
theorem dd_H_decodeAttribute_51 : decode bb_H_decodeAttribute 51 = .ok (.aload_n 1, 1) := by decide +kernel
theorem dd_H_decodeAttribute_52 : decode bb_H_decodeAttribute 52 = .ok (.iload_n 2, 1) := by decide +kernel
theorem dd_H_decodeAttribute_53 : decode bb_H_decodeAttribute 53 = .ok (.iaload, 1) := by decide +kernel
theorem dd_H_decodeAttribute_54 : decode bb_H_decodeAttribute 54 = .ok (.putfield 36, 3) := by decide +kernel
theorem dd_H_decodeAttribute_57 : decode bb_H_decodeAttribute 57 = .ok (.aload_n 0, 1) := by decide +kernel
theorem dd_H_decodeAttribute_58 : decode bb_H_decodeAttribute 58 = .ok (.iload_n 3, 1) := by decide +kernel
theorem dd_H_decodeAttribute_59 : decode bb_H_decodeAttribute 59 = .ok (.iload 4, 2) := by decide +kernel
theorem dd_H_decodeAttribute_61 : decode bb_H_decodeAttribute 61 = .ok (.isub, 1) := by decide +kernel
theorem dd_H_decodeAttribute_62 : decode bb_H_decodeAttribute 62 = .ok (.putfield 39, 3) := by decide +kernel
theorem dd_H_decodeAttribute_65 : decode bb_H_decodeAttribute 65 = .ok (.aload_n 1, 1) := by decide +kernel
theorem dd_H_decodeAttribute_66 : decode bb_H_decodeAttribute 66 = .ok (.iload 4, 2) := by decide +kernel
theorem dd_H_decodeAttribute_68 : decode bb_H_decodeAttribute 68 = .ok (.aload_n 0, 1) := by decide +kernel
theorem dd_H_decodeAttribute_69 : decode bb_H_decodeAttribute 69 = .ok (.getfield 18, 3) := by decide +kernel
theorem dd_H_decodeAttribute_72 : decode bb_H_decodeAttribute 72 = .ok (.iconst 0, 1) := by decide +kernel
theorem dd_H_decodeAttribute_73 : decode bb_H_decodeAttribute 73 = .ok (.aload_n 0, 1) := by decide +kernel
theorem dd_H_decodeAttribute_74 : decode bb_H_decodeAttribute 74 = .ok (.getfield 39, 3) := by decide +kernel
theorem dd_H_decodeAttribute_77 : decode bb_H_decodeAttribute 77 = .ok (.invokestatic 65, 3) := by decide +kernel
theorem dd_H_decodeAttribute_80 : decode bb_H_decodeAttribute 80 = .ok (.goto 39, 3) := by decide +kernel
theorem dd_H_decodeAttribute_83 : decode bb_H_decodeAttribute 83 = .ok (.iload 4, 2) := by decide +kernel
theorem dd_H_decodeAttribute_85 : decode bb_H_decodeAttribute 85 = .ok (.iconst 2, 1) := by decide +kernel
theorem dd_H_decodeAttribute_86 : decode bb_H_decodeAttribute 86 = .ok (.iadd, 1) := by decide +kernel
theorem dd_H_decodeAttribute_87 : decode bb_H_decodeAttribute 87 = .ok (.iload_n 3, 1) := by decide +kernel
theorem dd_H_decodeAttribute_88 : decode bb_H_decodeAttribute 88 = .ok (.if_icmp .gt 31, 3) := by decide +kernel
theorem dd_H_decodeAttribute_91 : decode bb_H_decodeAttribute 91 = .ok (.aload_n 0, 1) := by decide +kernel
theorem dd_H_decodeAttribute_92 : decode bb_H_decodeAttribute 92 = .ok (.iconst 3, 1) := by decide +kernel
theorem dd_H_decodeAttribute_93 : decode bb_H_decodeAttribute 93 = .ok (.putfield 36, 3) := by decide +kernel
theorem dd_H_decodeAttribute_96 : decode bb_H_decodeAttribute 96 = .ok (.aload_n 0, 1) := by decide +kernel
theorem dd_H_decodeAttribute_97 : decode bb_H_decodeAttribute 97 = .ok (.aload_n 1, 1) := by decide +kernel
theorem dd_H_decodeAttribute_98 : decode bb_H_decodeAttribute 98 = .ok (.iload 4, 2) := by decide +kernel
theorem dd_H_decodeAttribute_100 : decode bb_H_decodeAttribute 100 = .ok (.invokestatic 98, 3) := by decide +kernel
theorem dd_H_decodeAttribute_103 : decode bb_H_decodeAttribute 103 = .ok (.putfield 39, 3) := by decide +kernel
theorem dd_H_decodeAttribute_106 : decode bb_H_decodeAttribute 106 = .ok (.aload_n 0, 1) := by decide +kernel
theorem dd_H_decodeAttribute_107 : decode bb_H_decodeAttribute 107 = .ok (.getfield 25, 3) := by decide +kernel
theorem dd_H_decodeAttribute_110 : decode bb_H_decodeAttribute 110 = .ok (.aload_n 1, 1) := by decide +kernel
theorem dd_H_decodeAttribute_111 : decode bb_H_decodeAttribute 111 = .ok (.iload 4, 2) := by decide +kernel
theorem dd_H_decodeAttribute_113 : decode bb_H_decodeAttribute 113 = .ok (.iconst 2, 1) := by decide +kernel
theorem dd_H_decodeAttribute_114 : decode bb_H_decodeAttribute 114 = .ok (.iadd, 1) := by decide +kernel
theorem dd_H_decodeAttribute_115 : decode bb_H_decodeAttribute 115 = .ok (.iload_n 3, 1) := by decide +kernel
theorem dd_H_decodeAttribute_116 : decode bb_H_decodeAttribute 116 = .ok (.invokevirtual 129, 3) := by decide +kernel
theorem dd_H_decodeAttribute_119 : decode bb_H_decodeAttribute 119 = .ok (.return_, 1) := by decide +kernel
theorem dd_L_create_0 : decode bb_L_create 0 = .ok (.aload_n 3, 1) := by decide +kernel
theorem dd_L_create_1 : decode bb_L_create 1 = .ok (.iconst 0, 1) := by decide +kernel
theorem dd_L_create_2 : decode bb_L_create 2 = .ok (.aload_n 0, 1) := by decide +kernel
theorem dd_L_create_3 : decode bb_L_create 3 = .ok (.iload_n 1, 1) := by decide +kernel
theorem dd_L_create_4 : decode bb_L_create 4 = .ok (.iload_n 2, 1) := by decide +kernel
theorem dd_L_create_5 : decode bb_L_create 5 = .ok (.invokevirtual 7, 3) := by decide +kernel
theorem dd_L_create_8 : decode bb_L_create 8 = .ok (.i2l, 1) := by decide +kernel
theorem dd_L_create_9 : decode bb_L_create 9 = .ok (.lastore, 1) := by decide +kernel
theorem dd_L_create_10 : decode bb_L_create 10 = .ok (.goto 15, 3) := by decide +kernel
theorem dd_L_create_13 : decode bb_L_create 13 = .ok (.astore 4, 2) := by decide +kernel
theorem dd_L_create_15 : decode bb_L_create 15 = .ok (.iconst 1, 1) := by decide +kernel
theorem dd_L_create_16 : decode bb_L_create 16 = .ok (.ireturn, 1) := by decide +kernel
theorem dd_L_create_17 : decode bb_L_create 17 = .ok (.astore 4, 2) := by decide +kernel
theorem dd_L_create_19 : decode bb_L_create 19 = .ok (.iconst 2, 1) := by decide +kernel
theorem dd_L_create_20 : decode bb_L_create 20 = .ok (.ireturn, 1) := by decide +kernel
theorem dd_L_create_21 : decode bb_L_create 21 = .ok (.astore 4, 2) := by decide +kernel
theorem dd_L_create_23 : decode bb_L_create 23 = .ok (.iconst 3, 1) := by decide +kernel
theorem dd_L_create_24 : decode bb_L_create 24 = .ok (.ireturn, 1) := by decide +kernel
theorem dd_L_create_25 : decode bb_L_create 25 = .ok (.iconst 0, 1) := by decide +kernel
theorem dd_L_create_26 : decode bb_L_create 26 = .ok (.ireturn, 1) := by decide +kernel
theorem dd_L_write_0 : decode bb_L_write 0 = .ok (.aload 5, 2) := by decide +kernel
theorem dd_L_write_2 : decode bb_L_write 2 = .ok (.iconst 0, 1) := by decide +kernel
theorem dd_L_write_3 : decode bb_L_write 3 = .ok (.aload_n 0, 1) := by decide +kernel
theorem dd_L_write_4 : decode bb_L_write 4 = .ok (.iload_n 1, 1) := by decide +kernel
theorem dd_L_write_5 : decode bb_L_write 5 = .ok (.iload_n 2, 1) := by decide +kernel
theorem dd_L_write_6 : decode bb_L_write 6 = .ok (.iload_n 3, 1) := by decide +kernel
theorem dd_L_write_7 : decode bb_L_write 7 = .ok (.iload 4, 2) := by decide +kernel
theorem dd_L_write_9 : decode bb_L_write 9 = .ok (.invokevirtual 19, 3) := by decide +kernel
theorem dd_L_write_12 : decode bb_L_write 12 = .ok (.i2l, 1) := by decide +kernel
theorem dd_L_write_13 : decode bb_L_write 13 = .ok (.lastore, 1) := by decide +kernel
theorem dd_L_write_14 : decode bb_L_write 14 = .ok (.goto 15, 3) := by decide +kernel
theorem dd_L_write_17 : decode bb_L_write 17 = .ok (.astore 6, 2) := by decide +kernel
theorem dd_L_write_19 : decode bb_L_write 19 = .ok (.iconst 1, 1) := by decide +kernel
theorem dd_L_write_20 : decode bb_L_write 20 = .ok (.ireturn, 1) := by decide +kernel
theorem dd_L_write_21 : decode bb_L_write 21 = .ok (.astore 6, 2) := by decide +kernel
theorem dd_L_write_23 : decode bb_L_write 23 = .ok (.iconst 2, 1) := by decide +kernel
theorem dd_L_write_24 : decode bb_L_write 24 = .ok (.ireturn, 1) := by decide +kernel
theorem dd_L_write_25 : decode bb_L_write 25 = .ok (.astore 6, 2) := by decide +kernel
theorem dd_L_write_27 : decode bb_L_write 27 = .ok (.iconst 3, 1) := by decide +kernel
theorem dd_L_write_28 : decode bb_L_write 28 = .ok (.ireturn, 1) := by decide +kernel
theorem dd_L_write_29 : decode bb_L_write 29 = .ok (.iconst 0, 1) := by decide +kernel
theorem dd_L_write_30 : decode bb_L_write 30 = .ok (.ireturn, 1) := by decide +kernel
theorem dd_L_cut_0 : decode bb_L_cut 0 = .ok (.aload_n 3, 1) := by decide +kernel
theorem dd_L_cut_1 : decode bb_L_cut 1 = .ok (.iconst 0, 1) := by decide +kernel
theorem dd_L_cut_2 : decode bb_L_cut 2 = .ok (.aload_n 0, 1) := by decide +kernel
theorem dd_L_cut_3 : decode bb_L_cut 3 = .ok (.iload_n 1, 1) := by decide +kernel
theorem dd_L_cut_4 : decode bb_L_cut 4 = .ok (.iload_n 2, 1) := by decide +kernel
theorem dd_L_cut_5 : decode bb_L_cut 5 = .ok (.invokevirtual 23, 3) := by decide +kernel
theorem dd_L_cut_8 : decode bb_L_cut 8 = .ok (.i2l, 1) := by decide +kernel
theorem dd_L_cut_9 : decode bb_L_cut 9 = .ok (.lastore, 1) := by decide +kernel
theorem dd_L_cut_10 : decode bb_L_cut 10 = .ok (.goto 11, 3) := by decide +kernel
theorem dd_L_cut_13 : decode bb_L_cut 13 = .ok (.astore 4, 2) := by decide +kernel
theorem dd_L_cut_15 : decode bb_L_cut 15 = .ok (.iconst 1, 1) := by decide +kernel
theorem dd_L_cut_16 : decode bb_L_cut 16 = .ok (.ireturn, 1) := by decide +kernel
theorem dd_L_cut_17 : decode bb_L_cut 17 = .ok (.astore 4, 2) := by decide +kernel
theorem dd_L_cut_19 : decode bb_L_cut 19 = .ok (.iconst 2, 1) := by decide +kernel
theorem dd_L_cut_20 : decode bb_L_cut 20 = .ok (.ireturn, 1) := by decide +kernel
theorem dd_L_cut_21 : decode bb_L_cut 21 = .ok (.iconst 0, 1) := by decide +kernel
theorem dd_L_cut_22 : decode bb_L_cut 22 = .ok (.ireturn, 1) := by decide +kernel
theorem dd_L_remove_0 : decode bb_L_remove 0 = .ok (.aload_n 2, 1) := by decide +kernel
theorem dd_L_remove_1 : decode bb_L_remove 1 = .ok (.iconst 0, 1) := by decide +kernel
theorem dd_L_remove_2 : decode bb_L_remove 2 = .ok (.aload_n 0, 1) := by decide +kernel
theorem dd_L_remove_3 : decode bb_L_remove 3 = .ok (.iload_n 1, 1) := by decide +kernel
theorem dd_L_remove_4 : decode bb_L_remove 4 = .ok (.invokevirtual 27, 3) := by decide +kernel
theorem dd_L_remove_7 : decode bb_L_remove 7 = .ok (.i2l, 1) := by decide +kernel
theorem dd_L_remove_8 : decode bb_L_remove 8 = .ok (.lastore, 1) := by decide +kernel
theorem dd_L_remove_9 : decode bb_L_remove 9 = .ok (.goto 9, 3) := by decide +kernel
theorem dd_L_remove_12 : decode bb_L_remove 12 = .ok (.astore_n 3, 1) := by decide +kernel
theorem dd_L_remove_13 : decode bb_L_remove 13 = .ok (.iconst 1, 1) := by decide +kernel
theorem dd_L_remove_14 : decode bb_L_remove 14 = .ok (.ireturn, 1) := by decide +kernel
theorem dd_L_remove_15 : decode bb_L_remove 15 = .ok (.astore_n 3, 1) := by decide +kernel
theorem dd_L_remove_16 : decode bb_L_remove 16 = .ok (.iconst 2, 1) := by decide +kernel
theorem dd_L_remove_17 : decode bb_L_remove 17 = .ok (.ireturn, 1) := by decide +kernel
theorem dd_L_remove_18 : decode bb_L_remove 18 = .ok (.iconst 0, 1) := by decide +kernel
theorem dd_L_remove_19 : decode bb_L_remove 19 = .ok (.ireturn, 1) := by decide +kernel
theorem dd_L_move_0 : decode bb_L_move 0 = .ok (.aload_n 0, 1) := by decide +kernel
theorem dd_L_move_1 : decode bb_L_move 1 = .ok (.iload_n 1, 1) := by decide +kernel
theorem dd_L_move_2 : decode bb_L_move 2 = .ok (.iload_n 2, 1) := by decide +kernel
theorem dd_L_move_3 : decode bb_L_move 3 = .ok (.invokevirtual 31, 3) := by decide +kernel
theorem dd_L_move_6 : decode bb_L_move 6 = .ok (.goto 9, 3) := by decide +kernel
theorem dd_L_move_9 : decode bb_L_move 9 = .ok (.astore_n 3, 1) := by decide +kernel
theorem dd_L_move_10 : decode bb_L_move 10 = .ok (.iconst 1, 1) := by decide +kernel
theorem dd_L_move_11 : decode bb_L_move 11 = .ok (.ireturn, 1) := by decide +kernel
theorem dd_L_move_12 : decode bb_L_move 12 = .ok (.astore_n 3, 1) := by decide +kernel
theorem dd_L_move_13 : decode bb_L_move 13 = .ok (.iconst 2, 1) := by decide +kernel
theorem dd_L_move_14 : decode bb_L_move 14 = .ok (.ireturn, 1) := by decide +kernel
theorem dd_L_move_15 : decode bb_L_move 15 = .ok (.iconst 0, 1) := by decide +kernel
theorem dd_L_move_16 : decode bb_L_move 16 = .ok (.ireturn, 1) := by decide +kernel
theorem dd_L_mount_0 : decode bb_L_mount 0 = .ok (.aload_n 1, 1) := by decide +kernel
theorem dd_L_mount_1 : decode bb_L_mount 1 = .ok (.iconst 0, 1) := by decide +kernel
theorem dd_L_mount_2 : decode bb_L_mount 2 = .ok (.aload_n 0, 1) := by decide +kernel
theorem dd_L_mount_3 : decode bb_L_mount 3 = .ok (.invokevirtual 35, 3) := by decide +kernel
theorem dd_L_mount_6 : decode bb_L_mount 6 = .ok (.i2l, 1) := by decide +kernel
theorem dd_L_mount_7 : decode bb_L_mount 7 = .ok (.lastore, 1) := by decide +kernel
theorem dd_L_mount_8 : decode bb_L_mount 8 = .ok (.goto 6, 3) := by decide +kernel
theorem dd_L_mount_11 : decode bb_L_mount 11 = .ok (.astore_n 2, 1) := by decide +kernel
theorem dd_L_mount_12 : decode bb_L_mount 12 = .ok (.iconst 1, 1) := by decide +kernel
theorem dd_L_mount_13 : decode bb_L_mount 13 = .ok (.ireturn, 1) := by decide +kernel
theorem dd_L_mount_14 : decode bb_L_mount 14 = .ok (.iconst 0, 1) := by decide +kernel
theorem dd_L_mount_15 : decode bb_L_mount 15 = .ok (.ireturn, 1) := by decide +kernel
theorem dd_L_law_0 : decode bb_L_law 0 = .ok (.new 8, 3) := by decide +kernel
theorem dd_L_law_3 : decode bb_L_law 3 = .ok (.dup, 1) := by decide +kernel
theorem dd_L_law_4 : decode bb_L_law 4 = .ok (.invokespecial 39, 3) := by decide +kernel
theorem dd_L_law_7 : decode bb_L_law 7 = .ok (.astore_n 1, 1) := by decide +kernel
theorem dd_L_law_8 : decode bb_L_law 8 = .ok (.new 40, 3) := by decide +kernel
theorem dd_L_law_11 : decode bb_L_law 11 = .ok (.dup, 1) := by decide +kernel
theorem dd_L_law_12 : decode bb_L_law 12 = .ok (.invokespecial 42, 3) := by decide +kernel
theorem dd_L_law_15 : decode bb_L_law 15 = .ok (.astore_n 2, 1) := by decide +kernel
theorem dd_L_law_16 : decode bb_L_law 16 = .ok (.iconst 1, 1) := by decide +kernel
theorem dd_L_law_17 : decode bb_L_law 17 = .ok (.newarray .long, 2) := by decide +kernel
theorem dd_L_law_19 : decode bb_L_law 19 = .ok (.astore_n 3, 1) := by decide +kernel
theorem dd_L_law_20 : decode bb_L_law 20 = .ok (.iconst 0, 1) := by decide +kernel
theorem dd_L_law_21 : decode bb_L_law 21 = .ok (.istore 4, 2) := by decide +kernel
theorem dd_L_law_23 : decode bb_L_law 23 = .ok (.iload 4, 2) := by decide +kernel
theorem dd_L_law_25 : decode bb_L_law 25 = .ok (.aload_n 0, 1) := by decide +kernel
theorem dd_L_law_26 : decode bb_L_law 26 = .ok (.arraylength, 1) := by decide +kernel
theorem dd_L_law_27 : decode bb_L_law 27 = .ok (.iconst 5, 1) := by decide +kernel
theorem dd_L_law_28 : decode bb_L_law 28 = .ok (.isub, 1) := by decide +kernel
theorem dd_L_law_29 : decode bb_L_law 29 = .ok (.if_icmp .gt 732, 3) := by decide +kernel
theorem dd_L_law_32 : decode bb_L_law 32 = .ok (.aload_n 0, 1) := by decide +kernel
theorem dd_L_law_33 : decode bb_L_law 33 = .ok (.iload 4, 2) := by decide +kernel
theorem dd_L_law_35 : decode bb_L_law 35 = .ok (.iaload, 1) := by decide +kernel
theorem dd_L_law_36 : decode bb_L_law 36 = .ok (.bipush 15, 2) := by decide +kernel
theorem dd_L_law_38 : decode bb_L_law 38 = .ok (.iand, 1) := by decide +kernel
theorem dd_L_law_39 : decode bb_L_law 39 = .ok (.tableswitch 716 0 14 #[73, 100, 184, 276, 344, 400, 448, 473, 517, 530, 555, 592, 629, 678, 691], 73) := by decide +kernel
theorem dd_L_law_112 : decode bb_L_law 112 = .ok (.aload_n 1, 1) := by decide +kernel
theorem dd_L_law_113 : decode bb_L_law 113 = .ok (.aload_n 0, 1) := by decide +kernel
theorem dd_L_law_114 : decode bb_L_law 114 = .ok (.iload 4, 2) := by decide +kernel
theorem dd_L_law_116 : decode bb_L_law 116 = .ok (.iconst 1, 1) := by decide +kernel
theorem dd_L_law_117 : decode bb_L_law 117 = .ok (.iadd, 1) := by decide +kernel
theorem dd_L_law_118 : decode bb_L_law 118 = .ok (.iaload, 1) := by decide +kernel
theorem dd_L_law_119 : decode bb_L_law 119 = .ok (.i2c, 1) := by decide +kernel
theorem dd_L_law_120 : decode bb_L_law 120 = .ok (.invokevirtual 43, 3) := by decide +kernel
theorem dd_L_law_123 : decode bb_L_law 123 = .ok (.aload_n 2, 1) := by decide +kernel
theorem dd_L_law_124 : decode bb_L_law 124 = .ok (.aload_n 0, 1) := by decide +kernel
theorem dd_L_law_125 : decode bb_L_law 125 = .ok (.iload 4, 2) := by decide +kernel
theorem dd_L_law_127 : decode bb_L_law 127 = .ok (.iconst 1, 1) := by decide +kernel
theorem dd_L_law_128 : decode bb_L_law 128 = .ok (.iadd, 1) := by decide +kernel
theorem dd_L_law_129 : decode bb_L_law 129 = .ok (.iaload, 1) := by decide +kernel
theorem dd_L_law_130 : decode bb_L_law 130 = .ok (.i2c, 1) := by decide +kernel
theorem dd_L_law_131 : decode bb_L_law 131 = .ok (.invokevirtual 47, 3) := by decide +kernel
theorem dd_L_law_134 : decode bb_L_law 134 = .ok (.if_icmp .eq 621, 3) := by decide +kernel
theorem dd_L_law_137 : decode bb_L_law 137 = .ok (.iconst 0, 1) := by decide +kernel
theorem dd_L_law_138 : decode bb_L_law 138 = .ok (.ireturn, 1) := by decide +kernel
theorem dd_L_law_139 : decode bb_L_law 139 = .ok (.aload_n 1, 1) := by decide +kernel
theorem dd_L_law_140 : decode bb_L_law 140 = .ok (.aload_n 0, 1) := by decide +kernel
theorem dd_L_law_141 : decode bb_L_law 141 = .ok (.iload 4, 2) := by decide +kernel
theorem dd_L_law_143 : decode bb_L_law 143 = .ok (.iconst 1, 1) := by decide +kernel
theorem dd_L_law_144 : decode bb_L_law 144 = .ok (.iadd, 1) := by decide +kernel
theorem dd_L_law_145 : decode bb_L_law 145 = .ok (.iaload, 1) := by decide +kernel
theorem dd_L_law_146 : decode bb_L_law 146 = .ok (.aload_n 0, 1) := by decide +kernel
theorem dd_L_law_147 : decode bb_L_law 147 = .ok (.iload 4, 2) := by decide +kernel
theorem dd_L_law_149 : decode bb_L_law 149 = .ok (.iconst 2, 1) := by decide +kernel
theorem dd_L_law_150 : decode bb_L_law 150 = .ok (.iadd, 1) := by decide +kernel
theorem dd_L_law_151 : decode bb_L_law 151 = .ok (.iaload, 1) := by decide +kernel
theorem dd_L_law_152 : decode bb_L_law 152 = .ok (.ifCond .eq 7, 3) := by decide +kernel
theorem dd_L_law_155 : decode bb_L_law 155 = .ok (.iconst 1, 1) := by decide +kernel
theorem dd_L_law_156 : decode bb_L_law 156 = .ok (.goto 4, 3) := by decide +kernel
theorem dd_L_law_159 : decode bb_L_law 159 = .ok (.iconst 0, 1) := by decide +kernel
theorem dd_L_law_160 : decode bb_L_law 160 = .ok (.aload_n 3, 1) := by decide +kernel
theorem dd_L_law_161 : decode bb_L_law 161 = .ok (.invokestatic 48, 3) := by decide +kernel
theorem dd_L_law_164 : decode bb_L_law 164 = .ok (.istore 5, 2) := by decide +kernel
theorem dd_L_law_166 : decode bb_L_law 166 = .ok (.aload_n 2, 1) := by decide +kernel
theorem dd_L_law_167 : decode bb_L_law 167 = .ok (.aload_n 0, 1) := by decide +kernel
theorem dd_L_law_168 : decode bb_L_law 168 = .ok (.iload 4, 2) := by decide +kernel
theorem dd_L_law_170 : decode bb_L_law 170 = .ok (.iconst 1, 1) := by decide +kernel
theorem dd_L_law_171 : decode bb_L_law 171 = .ok (.iadd, 1) := by decide +kernel
theorem dd_L_law_172 : decode bb_L_law 172 = .ok (.iaload, 1) := by decide +kernel
theorem dd_L_law_173 : decode bb_L_law 173 = .ok (.aload_n 0, 1) := by decide +kernel
theorem dd_L_law_174 : decode bb_L_law 174 = .ok (.iload 4, 2) := by decide +kernel
theorem dd_L_law_176 : decode bb_L_law 176 = .ok (.iconst 2, 1) := by decide +kernel
theorem dd_L_law_177 : decode bb_L_law 177 = .ok (.iadd, 1) := by decide +kernel
theorem dd_L_law_178 : decode bb_L_law 178 = .ok (.iaload, 1) := by decide +kernel
theorem dd_L_law_179 : decode bb_L_law 179 = .ok (.ifCond .eq 7, 3) := by decide +kernel
theorem dd_L_law_182 : decode bb_L_law 182 = .ok (.iconst 1, 1) := by decide +kernel
theorem dd_L_law_183 : decode bb_L_law 183 = .ok (.goto 4, 3) := by decide +kernel
theorem dd_L_law_186 : decode bb_L_law 186 = .ok (.iconst 0, 1) := by decide +kernel
theorem dd_L_law_187 : decode bb_L_law 187 = .ok (.invokevirtual 53, 3) := by decide +kernel
theorem dd_L_law_190 : decode bb_L_law 190 = .ok (.istore 6, 2) := by decide +kernel
theorem dd_L_law_192 : decode bb_L_law 192 = .ok (.aload_n 2, 1) := by decide +kernel
theorem dd_L_law_193 : decode bb_L_law 193 = .ok (.invokevirtual 54, 3) := by decide +kernel
theorem dd_L_law_196 : decode bb_L_law 196 = .ok (.iload 5, 2) := by decide +kernel
theorem dd_L_law_198 : decode bb_L_law 198 = .ok (.if_icmp .eq 5, 3) := by decide +kernel
theorem dd_L_law_201 : decode bb_L_law 201 = .ok (.iconst 0, 1) := by decide +kernel
theorem dd_L_law_202 : decode bb_L_law 202 = .ok (.ireturn, 1) := by decide +kernel
theorem dd_L_law_203 : decode bb_L_law 203 = .ok (.iload 5, 2) := by decide +kernel
theorem dd_L_law_205 : decode bb_L_law 205 = .ok (.ifCond .ne 15, 3) := by decide +kernel
theorem dd_L_law_208 : decode bb_L_law 208 = .ok (.aload_n 3, 1) := by decide +kernel
theorem dd_L_law_209 : decode bb_L_law 209 = .ok (.iconst 0, 1) := by decide +kernel
theorem dd_L_law_210 : decode bb_L_law 210 = .ok (.laload, 1) := by decide +kernel
theorem dd_L_law_211 : decode bb_L_law 211 = .ok (.iload 6, 2) := by decide +kernel
theorem dd_L_law_213 : decode bb_L_law 213 = .ok (.i2l, 1) := by decide +kernel
theorem dd_L_law_214 : decode bb_L_law 214 = .ok (.lcmp, 1) := by decide +kernel
theorem dd_L_law_215 : decode bb_L_law 215 = .ok (.ifCond .eq 5, 3) := by decide +kernel
theorem dd_L_law_218 : decode bb_L_law 218 = .ok (.iconst 0, 1) := by decide +kernel
theorem dd_L_law_219 : decode bb_L_law 219 = .ok (.ireturn, 1) := by decide +kernel
theorem dd_L_law_220 : decode bb_L_law 220 = .ok (.goto 535, 3) := by decide +kernel
theorem dd_L_law_223 : decode bb_L_law 223 = .ok (.aload_n 1, 1) := by decide +kernel
theorem dd_L_law_224 : decode bb_L_law 224 = .ok (.aload_n 0, 1) := by decide +kernel
theorem dd_L_law_225 : decode bb_L_law 225 = .ok (.iload 4, 2) := by decide +kernel
theorem dd_L_law_227 : decode bb_L_law 227 = .ok (.iconst 1, 1) := by decide +kernel
theorem dd_L_law_228 : decode bb_L_law 228 = .ok (.iadd, 1) := by decide +kernel
theorem dd_L_law_229 : decode bb_L_law 229 = .ok (.iaload, 1) := by decide +kernel
theorem dd_L_law_230 : decode bb_L_law 230 = .ok (.aload_n 0, 1) := by decide +kernel
theorem dd_L_law_231 : decode bb_L_law 231 = .ok (.iload 4, 2) := by decide +kernel
theorem dd_L_law_233 : decode bb_L_law 233 = .ok (.iconst 2, 1) := by decide +kernel
theorem dd_L_law_234 : decode bb_L_law 234 = .ok (.iadd, 1) := by decide +kernel
theorem dd_L_law_235 : decode bb_L_law 235 = .ok (.iaload, 1) := by decide +kernel
theorem dd_L_law_236 : decode bb_L_law 236 = .ok (.aload_n 0, 1) := by decide +kernel
theorem dd_L_law_237 : decode bb_L_law 237 = .ok (.iload 4, 2) := by decide +kernel
theorem dd_L_law_239 : decode bb_L_law 239 = .ok (.iconst 3, 1) := by decide +kernel
theorem dd_L_law_240 : decode bb_L_law 240 = .ok (.iadd, 1) := by decide +kernel
theorem dd_L_law_241 : decode bb_L_law 241 = .ok (.iaload, 1) := by decide +kernel
theorem dd_L_law_242 : decode bb_L_law 242 = .ok (.aload_n 0, 1) := by decide +kernel
theorem dd_L_law_243 : decode bb_L_law 243 = .ok (.iload 4, 2) := by decide +kernel
theorem dd_L_law_245 : decode bb_L_law 245 = .ok (.iconst 4, 1) := by decide +kernel
theorem dd_L_law_246 : decode bb_L_law 246 = .ok (.iadd, 1) := by decide +kernel
theorem dd_L_law_247 : decode bb_L_law 247 = .ok (.iaload, 1) := by decide +kernel
theorem dd_L_law_248 : decode bb_L_law 248 = .ok (.aload_n 3, 1) := by decide +kernel
theorem dd_L_law_249 : decode bb_L_law 249 = .ok (.invokestatic 57, 3) := by decide +kernel
theorem dd_L_law_252 : decode bb_L_law 252 = .ok (.istore 5, 2) := by decide +kernel
theorem dd_L_law_254 : decode bb_L_law 254 = .ok (.aload_n 2, 1) := by decide +kernel
theorem dd_L_law_255 : decode bb_L_law 255 = .ok (.aload_n 0, 1) := by decide +kernel
theorem dd_L_law_256 : decode bb_L_law 256 = .ok (.iload 4, 2) := by decide +kernel
theorem dd_L_law_258 : decode bb_L_law 258 = .ok (.iconst 1, 1) := by decide +kernel
theorem dd_L_law_259 : decode bb_L_law 259 = .ok (.iadd, 1) := by decide +kernel
theorem dd_L_law_260 : decode bb_L_law 260 = .ok (.iaload, 1) := by decide +kernel
theorem dd_L_law_261 : decode bb_L_law 261 = .ok (.aload_n 0, 1) := by decide +kernel
theorem dd_L_law_262 : decode bb_L_law 262 = .ok (.iload 4, 2) := by decide +kernel
theorem dd_L_law_264 : decode bb_L_law 264 = .ok (.iconst 2, 1) := by decide +kernel
theorem dd_L_law_265 : decode bb_L_law 265 = .ok (.iadd, 1) := by decide +kernel
theorem dd_L_law_266 : decode bb_L_law 266 = .ok (.iaload, 1) := by decide +kernel
theorem dd_L_law_267 : decode bb_L_law 267 = .ok (.aload_n 0, 1) := by decide +kernel
theorem dd_L_law_268 : decode bb_L_law 268 = .ok (.iload 4, 2) := by decide +kernel
theorem dd_L_law_270 : decode bb_L_law 270 = .ok (.iconst 3, 1) := by decide +kernel
theorem dd_L_law_271 : decode bb_L_law 271 = .ok (.iadd, 1) := by decide +kernel
theorem dd_L_law_272 : decode bb_L_law 272 = .ok (.iaload, 1) := by decide +kernel
theorem dd_L_law_273 : decode bb_L_law 273 = .ok (.aload_n 0, 1) := by decide +kernel
theorem dd_L_law_274 : decode bb_L_law 274 = .ok (.iload 4, 2) := by decide +kernel
theorem dd_L_law_276 : decode bb_L_law 276 = .ok (.iconst 4, 1) := by decide +kernel
theorem dd_L_law_277 : decode bb_L_law 277 = .ok (.iadd, 1) := by decide +kernel
theorem dd_L_law_278 : decode bb_L_law 278 = .ok (.iaload, 1) := by decide +kernel
theorem dd_L_law_279 : decode bb_L_law 279 = .ok (.invokevirtual 60, 3) := by decide +kernel
theorem dd_L_law_282 : decode bb_L_law 282 = .ok (.istore 6, 2) := by decide +kernel
theorem dd_L_law_284 : decode bb_L_law 284 = .ok (.aload_n 2, 1) := by decide +kernel
theorem dd_L_law_285 : decode bb_L_law 285 = .ok (.invokevirtual 54, 3) := by decide +kernel
theorem dd_L_law_288 : decode bb_L_law 288 = .ok (.iload 5, 2) := by decide +kernel
theorem dd_L_law_290 : decode bb_L_law 290 = .ok (.if_icmp .eq 5, 3) := by decide +kernel
theorem dd_L_law_293 : decode bb_L_law 293 = .ok (.iconst 0, 1) := by decide +kernel
theorem dd_L_law_294 : decode bb_L_law 294 = .ok (.ireturn, 1) := by decide +kernel
theorem dd_L_law_295 : decode bb_L_law 295 = .ok (.iload 5, 2) := by decide +kernel
theorem dd_L_law_297 : decode bb_L_law 297 = .ok (.ifCond .ne 15, 3) := by decide +kernel
theorem dd_L_law_300 : decode bb_L_law 300 = .ok (.aload_n 3, 1) := by decide +kernel
theorem dd_L_law_301 : decode bb_L_law 301 = .ok (.iconst 0, 1) := by decide +kernel
theorem dd_L_law_302 : decode bb_L_law 302 = .ok (.laload, 1) := by decide +kernel
theorem dd_L_law_303 : decode bb_L_law 303 = .ok (.iload 6, 2) := by decide +kernel
theorem dd_L_law_305 : decode bb_L_law 305 = .ok (.i2l, 1) := by decide +kernel
theorem dd_L_law_306 : decode bb_L_law 306 = .ok (.lcmp, 1) := by decide +kernel
theorem dd_L_law_307 : decode bb_L_law 307 = .ok (.ifCond .eq 5, 3) := by decide +kernel
theorem dd_L_law_310 : decode bb_L_law 310 = .ok (.iconst 0, 1) := by decide +kernel
theorem dd_L_law_311 : decode bb_L_law 311 = .ok (.ireturn, 1) := by decide +kernel
theorem dd_L_law_312 : decode bb_L_law 312 = .ok (.goto 443, 3) := by decide +kernel
theorem dd_L_law_315 : decode bb_L_law 315 = .ok (.aload_n 1, 1) := by decide +kernel
theorem dd_L_law_316 : decode bb_L_law 316 = .ok (.aload_n 0, 1) := by decide +kernel
theorem dd_L_law_317 : decode bb_L_law 317 = .ok (.iload 4, 2) := by decide +kernel
theorem dd_L_law_319 : decode bb_L_law 319 = .ok (.iconst 1, 1) := by decide +kernel
theorem dd_L_law_320 : decode bb_L_law 320 = .ok (.iadd, 1) := by decide +kernel
theorem dd_L_law_321 : decode bb_L_law 321 = .ok (.iaload, 1) := by decide +kernel
theorem dd_L_law_322 : decode bb_L_law 322 = .ok (.aload_n 0, 1) := by decide +kernel
theorem dd_L_law_323 : decode bb_L_law 323 = .ok (.iload 4, 2) := by decide +kernel
theorem dd_L_law_325 : decode bb_L_law 325 = .ok (.iconst 2, 1) := by decide +kernel
theorem dd_L_law_326 : decode bb_L_law 326 = .ok (.iadd, 1) := by decide +kernel
theorem dd_L_law_327 : decode bb_L_law 327 = .ok (.iaload, 1) := by decide +kernel
theorem dd_L_law_328 : decode bb_L_law 328 = .ok (.aload_n 3, 1) := by decide +kernel
theorem dd_L_law_329 : decode bb_L_law 329 = .ok (.invokestatic 61, 3) := by decide +kernel
theorem dd_L_law_332 : decode bb_L_law 332 = .ok (.istore 5, 2) := by decide +kernel
theorem dd_L_law_334 : decode bb_L_law 334 = .ok (.aload_n 2, 1) := by decide +kernel
theorem dd_L_law_335 : decode bb_L_law 335 = .ok (.aload_n 0, 1) := by decide +kernel
theorem dd_L_law_336 : decode bb_L_law 336 = .ok (.iload 4, 2) := by decide +kernel
theorem dd_L_law_338 : decode bb_L_law 338 = .ok (.iconst 1, 1) := by decide +kernel
theorem dd_L_law_339 : decode bb_L_law 339 = .ok (.iadd, 1) := by decide +kernel
theorem dd_L_law_340 : decode bb_L_law 340 = .ok (.iaload, 1) := by decide +kernel
theorem dd_L_law_341 : decode bb_L_law 341 = .ok (.aload_n 0, 1) := by decide +kernel
theorem dd_L_law_342 : decode bb_L_law 342 = .ok (.iload 4, 2) := by decide +kernel
theorem dd_L_law_344 : decode bb_L_law 344 = .ok (.iconst 2, 1) := by decide +kernel
theorem dd_L_law_345 : decode bb_L_law 345 = .ok (.iadd, 1) := by decide +kernel
theorem dd_L_law_346 : decode bb_L_law 346 = .ok (.iaload, 1) := by decide +kernel
theorem dd_L_law_347 : decode bb_L_law 347 = .ok (.invokevirtual 64, 3) := by decide +kernel
theorem dd_L_law_350 : decode bb_L_law 350 = .ok (.istore 6, 2) := by decide +kernel
theorem dd_L_law_352 : decode bb_L_law 352 = .ok (.aload_n 2, 1) := by decide +kernel
theorem dd_L_law_353 : decode bb_L_law 353 = .ok (.invokevirtual 54, 3) := by decide +kernel
theorem dd_L_law_356 : decode bb_L_law 356 = .ok (.iload 5, 2) := by decide +kernel
theorem dd_L_law_358 : decode bb_L_law 358 = .ok (.if_icmp .eq 5, 3) := by decide +kernel
theorem dd_L_law_361 : decode bb_L_law 361 = .ok (.iconst 0, 1) := by decide +kernel
theorem dd_L_law_362 : decode bb_L_law 362 = .ok (.ireturn, 1) := by decide +kernel
theorem dd_L_law_363 : decode bb_L_law 363 = .ok (.iload 5, 2) := by decide +kernel
theorem dd_L_law_365 : decode bb_L_law 365 = .ok (.ifCond .ne 15, 3) := by decide +kernel
theorem dd_L_law_368 : decode bb_L_law 368 = .ok (.aload_n 3, 1) := by decide +kernel
theorem dd_L_law_369 : decode bb_L_law 369 = .ok (.iconst 0, 1) := by decide +kernel
theorem dd_L_law_370 : decode bb_L_law 370 = .ok (.laload, 1) := by decide +kernel
theorem dd_L_law_371 : decode bb_L_law 371 = .ok (.iload 6, 2) := by decide +kernel
theorem dd_L_law_373 : decode bb_L_law 373 = .ok (.i2l, 1) := by decide +kernel
theorem dd_L_law_374 : decode bb_L_law 374 = .ok (.lcmp, 1) := by decide +kernel
theorem dd_L_law_375 : decode bb_L_law 375 = .ok (.ifCond .eq 5, 3) := by decide +kernel
theorem dd_L_law_378 : decode bb_L_law 378 = .ok (.iconst 0, 1) := by decide +kernel
theorem dd_L_law_379 : decode bb_L_law 379 = .ok (.ireturn, 1) := by decide +kernel
theorem dd_L_law_380 : decode bb_L_law 380 = .ok (.goto 375, 3) := by decide +kernel
theorem dd_L_law_383 : decode bb_L_law 383 = .ok (.aload_n 1, 1) := by decide +kernel
theorem dd_L_law_384 : decode bb_L_law 384 = .ok (.aload_n 0, 1) := by decide +kernel
theorem dd_L_law_385 : decode bb_L_law 385 = .ok (.iload 4, 2) := by decide +kernel
theorem dd_L_law_387 : decode bb_L_law 387 = .ok (.iconst 1, 1) := by decide +kernel
theorem dd_L_law_388 : decode bb_L_law 388 = .ok (.iadd, 1) := by decide +kernel
theorem dd_L_law_389 : decode bb_L_law 389 = .ok (.iaload, 1) := by decide +kernel
theorem dd_L_law_390 : decode bb_L_law 390 = .ok (.aload_n 3, 1) := by decide +kernel
theorem dd_L_law_391 : decode bb_L_law 391 = .ok (.invokestatic 65, 3) := by decide +kernel
theorem dd_L_law_394 : decode bb_L_law 394 = .ok (.istore 5, 2) := by decide +kernel
theorem dd_L_law_396 : decode bb_L_law 396 = .ok (.aload_n 2, 1) := by decide +kernel
theorem dd_L_law_397 : decode bb_L_law 397 = .ok (.aload_n 0, 1) := by decide +kernel
theorem dd_L_law_398 : decode bb_L_law 398 = .ok (.iload 4, 2) := by decide +kernel
theorem dd_L_law_400 : decode bb_L_law 400 = .ok (.iconst 1, 1) := by decide +kernel
theorem dd_L_law_401 : decode bb_L_law 401 = .ok (.iadd, 1) := by decide +kernel
theorem dd_L_law_402 : decode bb_L_law 402 = .ok (.iaload, 1) := by decide +kernel
theorem dd_L_law_403 : decode bb_L_law 403 = .ok (.invokevirtual 68, 3) := by decide +kernel
theorem dd_L_law_406 : decode bb_L_law 406 = .ok (.istore 6, 2) := by decide +kernel
theorem dd_L_law_408 : decode bb_L_law 408 = .ok (.aload_n 2, 1) := by decide +kernel
theorem dd_L_law_409 : decode bb_L_law 409 = .ok (.invokevirtual 54, 3) := by decide +kernel
theorem dd_L_law_412 : decode bb_L_law 412 = .ok (.iload 5, 2) := by decide +kernel
theorem dd_L_law_414 : decode bb_L_law 414 = .ok (.if_icmp .eq 5, 3) := by decide +kernel
theorem dd_L_law_417 : decode bb_L_law 417 = .ok (.iconst 0, 1) := by decide +kernel
theorem dd_L_law_418 : decode bb_L_law 418 = .ok (.ireturn, 1) := by decide +kernel
theorem dd_L_law_419 : decode bb_L_law 419 = .ok (.iload 5, 2) := by decide +kernel
theorem dd_L_law_421 : decode bb_L_law 421 = .ok (.ifCond .ne 15, 3) := by decide +kernel
theorem dd_L_law_424 : decode bb_L_law 424 = .ok (.aload_n 3, 1) := by decide +kernel
theorem dd_L_law_425 : decode bb_L_law 425 = .ok (.iconst 0, 1) := by decide +kernel
theorem dd_L_law_426 : decode bb_L_law 426 = .ok (.laload, 1) := by decide +kernel
theorem dd_L_law_427 : decode bb_L_law 427 = .ok (.iload 6, 2) := by decide +kernel
theorem dd_L_law_429 : decode bb_L_law 429 = .ok (.i2l, 1) := by decide +kernel
theorem dd_L_law_430 : decode bb_L_law 430 = .ok (.lcmp, 1) := by decide +kernel
theorem dd_L_law_431 : decode bb_L_law 431 = .ok (.ifCond .eq 5, 3) := by decide +kernel
theorem dd_L_law_434 : decode bb_L_law 434 = .ok (.iconst 0, 1) := by decide +kernel
theorem dd_L_law_435 : decode bb_L_law 435 = .ok (.ireturn, 1) := by decide +kernel
theorem dd_L_law_436 : decode bb_L_law 436 = .ok (.goto 319, 3) := by decide +kernel
theorem dd_L_law_439 : decode bb_L_law 439 = .ok (.aload_n 1, 1) := by decide +kernel
theorem dd_L_law_440 : decode bb_L_law 440 = .ok (.aload_n 0, 1) := by decide +kernel
theorem dd_L_law_441 : decode bb_L_law 441 = .ok (.iload 4, 2) := by decide +kernel
theorem dd_L_law_443 : decode bb_L_law 443 = .ok (.iconst 1, 1) := by decide +kernel
theorem dd_L_law_444 : decode bb_L_law 444 = .ok (.iadd, 1) := by decide +kernel
theorem dd_L_law_445 : decode bb_L_law 445 = .ok (.iaload, 1) := by decide +kernel
theorem dd_L_law_446 : decode bb_L_law 446 = .ok (.aload_n 0, 1) := by decide +kernel
theorem dd_L_law_447 : decode bb_L_law 447 = .ok (.iload 4, 2) := by decide +kernel
theorem dd_L_law_449 : decode bb_L_law 449 = .ok (.iconst 2, 1) := by decide +kernel
theorem dd_L_law_450 : decode bb_L_law 450 = .ok (.iadd, 1) := by decide +kernel
theorem dd_L_law_451 : decode bb_L_law 451 = .ok (.iaload, 1) := by decide +kernel
theorem dd_L_law_452 : decode bb_L_law 452 = .ok (.invokestatic 69, 3) := by decide +kernel
theorem dd_L_law_455 : decode bb_L_law 455 = .ok (.istore 5, 2) := by decide +kernel
theorem dd_L_law_457 : decode bb_L_law 457 = .ok (.aload_n 2, 1) := by decide +kernel
theorem dd_L_law_458 : decode bb_L_law 458 = .ok (.aload_n 0, 1) := by decide +kernel
theorem dd_L_law_459 : decode bb_L_law 459 = .ok (.iload 4, 2) := by decide +kernel
theorem dd_L_law_461 : decode bb_L_law 461 = .ok (.iconst 1, 1) := by decide +kernel
theorem dd_L_law_462 : decode bb_L_law 462 = .ok (.iadd, 1) := by decide +kernel
theorem dd_L_law_463 : decode bb_L_law 463 = .ok (.iaload, 1) := by decide +kernel
theorem dd_L_law_464 : decode bb_L_law 464 = .ok (.aload_n 0, 1) := by decide +kernel
theorem dd_L_law_465 : decode bb_L_law 465 = .ok (.iload 4, 2) := by decide +kernel
theorem dd_L_law_467 : decode bb_L_law 467 = .ok (.iconst 2, 1) := by decide +kernel
theorem dd_L_law_468 : decode bb_L_law 468 = .ok (.iadd, 1) := by decide +kernel
theorem dd_L_law_469 : decode bb_L_law 469 = .ok (.iaload, 1) := by decide +kernel
theorem dd_L_law_470 : decode bb_L_law 470 = .ok (.invokevirtual 72, 3) := by decide +kernel
theorem dd_L_law_473 : decode bb_L_law 473 = .ok (.aload_n 2, 1) := by decide +kernel
theorem dd_L_law_474 : decode bb_L_law 474 = .ok (.invokevirtual 54, 3) := by decide +kernel
theorem dd_L_law_477 : decode bb_L_law 477 = .ok (.iload 5, 2) := by decide +kernel
theorem dd_L_law_479 : decode bb_L_law 479 = .ok (.if_icmp .eq 5, 3) := by decide +kernel
theorem dd_L_law_482 : decode bb_L_law 482 = .ok (.iconst 0, 1) := by decide +kernel
theorem dd_L_law_483 : decode bb_L_law 483 = .ok (.ireturn, 1) := by decide +kernel
theorem dd_L_law_484 : decode bb_L_law 484 = .ok (.goto 271, 3) := by decide +kernel
theorem dd_L_law_487 : decode bb_L_law 487 = .ok (.aload_n 1, 1) := by decide +kernel
theorem dd_L_law_488 : decode bb_L_law 488 = .ok (.aload_n 0, 1) := by decide +kernel
theorem dd_L_law_489 : decode bb_L_law 489 = .ok (.iload 4, 2) := by decide +kernel
theorem dd_L_law_491 : decode bb_L_law 491 = .ok (.iconst 1, 1) := by decide +kernel
theorem dd_L_law_492 : decode bb_L_law 492 = .ok (.iadd, 1) := by decide +kernel
theorem dd_L_law_493 : decode bb_L_law 493 = .ok (.iaload, 1) := by decide +kernel
theorem dd_L_law_494 : decode bb_L_law 494 = .ok (.invokevirtual 73, 3) := by decide +kernel
theorem dd_L_law_497 : decode bb_L_law 497 = .ok (.aload_n 2, 1) := by decide +kernel
theorem dd_L_law_498 : decode bb_L_law 498 = .ok (.aload_n 0, 1) := by decide +kernel
theorem dd_L_law_499 : decode bb_L_law 499 = .ok (.iload 4, 2) := by decide +kernel
theorem dd_L_law_501 : decode bb_L_law 501 = .ok (.iconst 1, 1) := by decide +kernel
theorem dd_L_law_502 : decode bb_L_law 502 = .ok (.iadd, 1) := by decide +kernel
theorem dd_L_law_503 : decode bb_L_law 503 = .ok (.iaload, 1) := by decide +kernel
theorem dd_L_law_504 : decode bb_L_law 504 = .ok (.invokevirtual 77, 3) := by decide +kernel
theorem dd_L_law_507 : decode bb_L_law 507 = .ok (.if_icmp .eq 248, 3) := by decide +kernel
theorem dd_L_law_510 : decode bb_L_law 510 = .ok (.iconst 0, 1) := by decide +kernel
theorem dd_L_law_511 : decode bb_L_law 511 = .ok (.ireturn, 1) := by decide +kernel
theorem dd_L_law_512 : decode bb_L_law 512 = .ok (.aload_n 1, 1) := by decide +kernel
theorem dd_L_law_513 : decode bb_L_law 513 = .ok (.aload_n 3, 1) := by decide +kernel
theorem dd_L_law_514 : decode bb_L_law 514 = .ok (.invokestatic 78, 3) := by decide +kernel
theorem dd_L_law_517 : decode bb_L_law 517 = .ok (.istore 5, 2) := by decide +kernel
theorem dd_L_law_519 : decode bb_L_law 519 = .ok (.aload_n 2, 1) := by decide +kernel
theorem dd_L_law_520 : decode bb_L_law 520 = .ok (.invokevirtual 81, 3) := by decide +kernel
theorem dd_L_law_523 : decode bb_L_law 523 = .ok (.istore 6, 2) := by decide +kernel
theorem dd_L_law_525 : decode bb_L_law 525 = .ok (.aload_n 2, 1) := by decide +kernel
theorem dd_L_law_526 : decode bb_L_law 526 = .ok (.invokevirtual 54, 3) := by decide +kernel
theorem dd_L_law_529 : decode bb_L_law 529 = .ok (.iload 5, 2) := by decide +kernel
theorem dd_L_law_531 : decode bb_L_law 531 = .ok (.if_icmp .eq 5, 3) := by decide +kernel
theorem dd_L_law_534 : decode bb_L_law 534 = .ok (.iconst 0, 1) := by decide +kernel
theorem dd_L_law_535 : decode bb_L_law 535 = .ok (.ireturn, 1) := by decide +kernel
theorem dd_L_law_536 : decode bb_L_law 536 = .ok (.iload 5, 2) := by decide +kernel
theorem dd_L_law_538 : decode bb_L_law 538 = .ok (.ifCond .ne 15, 3) := by decide +kernel
theorem dd_L_law_541 : decode bb_L_law 541 = .ok (.aload_n 3, 1) := by decide +kernel
theorem dd_L_law_542 : decode bb_L_law 542 = .ok (.iconst 0, 1) := by decide +kernel
theorem dd_L_law_543 : decode bb_L_law 543 = .ok (.laload, 1) := by decide +kernel
theorem dd_L_law_544 : decode bb_L_law 544 = .ok (.iload 6, 2) := by decide +kernel
theorem dd_L_law_546 : decode bb_L_law 546 = .ok (.i2l, 1) := by decide +kernel
theorem dd_L_law_547 : decode bb_L_law 547 = .ok (.lcmp, 1) := by decide +kernel
theorem dd_L_law_548 : decode bb_L_law 548 = .ok (.ifCond .eq 5, 3) := by decide +kernel
theorem dd_L_law_551 : decode bb_L_law 551 = .ok (.iconst 0, 1) := by decide +kernel
theorem dd_L_law_552 : decode bb_L_law 552 = .ok (.ireturn, 1) := by decide +kernel
theorem dd_L_law_553 : decode bb_L_law 553 = .ok (.goto 202, 3) := by decide +kernel
theorem dd_L_law_556 : decode bb_L_law 556 = .ok (.aload_n 1, 1) := by decide +kernel
theorem dd_L_law_557 : decode bb_L_law 557 = .ok (.invokevirtual 82, 3) := by decide +kernel
theorem dd_L_law_560 : decode bb_L_law 560 = .ok (.aload_n 2, 1) := by decide +kernel
theorem dd_L_law_561 : decode bb_L_law 561 = .ok (.invokevirtual 86, 3) := by decide +kernel
theorem dd_L_law_564 : decode bb_L_law 564 = .ok (.if_icmp .eq 191, 3) := by decide +kernel
theorem dd_L_law_567 : decode bb_L_law 567 = .ok (.iconst 0, 1) := by decide +kernel
theorem dd_L_law_568 : decode bb_L_law 568 = .ok (.ireturn, 1) := by decide +kernel
theorem dd_L_law_569 : decode bb_L_law 569 = .ok (.aload_n 1, 1) := by decide +kernel
theorem dd_L_law_570 : decode bb_L_law 570 = .ok (.aload_n 0, 1) := by decide +kernel
theorem dd_L_law_571 : decode bb_L_law 571 = .ok (.iload 4, 2) := by decide +kernel
theorem dd_L_law_573 : decode bb_L_law 573 = .ok (.iconst 1, 1) := by decide +kernel
theorem dd_L_law_574 : decode bb_L_law 574 = .ok (.iadd, 1) := by decide +kernel
theorem dd_L_law_575 : decode bb_L_law 575 = .ok (.iaload, 1) := by decide +kernel
theorem dd_L_law_576 : decode bb_L_law 576 = .ok (.invokevirtual 87, 3) := by decide +kernel
theorem dd_L_law_579 : decode bb_L_law 579 = .ok (.aload_n 2, 1) := by decide +kernel
theorem dd_L_law_580 : decode bb_L_law 580 = .ok (.aload_n 0, 1) := by decide +kernel
theorem dd_L_law_581 : decode bb_L_law 581 = .ok (.iload 4, 2) := by decide +kernel
theorem dd_L_law_583 : decode bb_L_law 583 = .ok (.iconst 1, 1) := by decide +kernel
theorem dd_L_law_584 : decode bb_L_law 584 = .ok (.iadd, 1) := by decide +kernel
theorem dd_L_law_585 : decode bb_L_law 585 = .ok (.iaload, 1) := by decide +kernel
theorem dd_L_law_586 : decode bb_L_law 586 = .ok (.invokevirtual 90, 3) := by decide +kernel
theorem dd_L_law_589 : decode bb_L_law 589 = .ok (.if_icmp .eq 166, 3) := by decide +kernel
theorem dd_L_law_592 : decode bb_L_law 592 = .ok (.iconst 0, 1) := by decide +kernel
theorem dd_L_law_593 : decode bb_L_law 593 = .ok (.ireturn, 1) := by decide +kernel
theorem dd_L_law_594 : decode bb_L_law 594 = .ok (.aload_n 1, 1) := by decide +kernel
theorem dd_L_law_595 : decode bb_L_law 595 = .ok (.aload_n 0, 1) := by decide +kernel
theorem dd_L_law_596 : decode bb_L_law 596 = .ok (.iload 4, 2) := by decide +kernel
theorem dd_L_law_598 : decode bb_L_law 598 = .ok (.iconst 1, 1) := by decide +kernel
theorem dd_L_law_599 : decode bb_L_law 599 = .ok (.iadd, 1) := by decide +kernel
theorem dd_L_law_600 : decode bb_L_law 600 = .ok (.iaload, 1) := by decide +kernel
theorem dd_L_law_601 : decode bb_L_law 601 = .ok (.aload_n 0, 1) := by decide +kernel
theorem dd_L_law_602 : decode bb_L_law 602 = .ok (.iload 4, 2) := by decide +kernel
theorem dd_L_law_604 : decode bb_L_law 604 = .ok (.iconst 2, 1) := by decide +kernel
theorem dd_L_law_605 : decode bb_L_law 605 = .ok (.iadd, 1) := by decide +kernel
theorem dd_L_law_606 : decode bb_L_law 606 = .ok (.iaload, 1) := by decide +kernel
theorem dd_L_law_607 : decode bb_L_law 607 = .ok (.invokevirtual 91, 3) := by decide +kernel
theorem dd_L_law_610 : decode bb_L_law 610 = .ok (.aload_n 2, 1) := by decide +kernel
theorem dd_L_law_611 : decode bb_L_law 611 = .ok (.aload_n 0, 1) := by decide +kernel
theorem dd_L_law_612 : decode bb_L_law 612 = .ok (.iload 4, 2) := by decide +kernel
theorem dd_L_law_614 : decode bb_L_law 614 = .ok (.iconst 1, 1) := by decide +kernel
theorem dd_L_law_615 : decode bb_L_law 615 = .ok (.iadd, 1) := by decide +kernel
theorem dd_L_law_616 : decode bb_L_law 616 = .ok (.iaload, 1) := by decide +kernel
theorem dd_L_law_617 : decode bb_L_law 617 = .ok (.aload_n 0, 1) := by decide +kernel
theorem dd_L_law_618 : decode bb_L_law 618 = .ok (.iload 4, 2) := by decide +kernel
theorem dd_L_law_620 : decode bb_L_law 620 = .ok (.iconst 2, 1) := by decide +kernel
theorem dd_L_law_621 : decode bb_L_law 621 = .ok (.iadd, 1) := by decide +kernel
theorem dd_L_law_622 : decode bb_L_law 622 = .ok (.iaload, 1) := by decide +kernel
theorem dd_L_law_623 : decode bb_L_law 623 = .ok (.invokevirtual 94, 3) := by decide +kernel
theorem dd_L_law_626 : decode bb_L_law 626 = .ok (.if_icmp .eq 129, 3) := by decide +kernel
theorem dd_L_law_629 : decode bb_L_law 629 = .ok (.iconst 0, 1) := by decide +kernel
theorem dd_L_law_630 : decode bb_L_law 630 = .ok (.ireturn, 1) := by decide +kernel
theorem dd_L_law_631 : decode bb_L_law 631 = .ok (.aload_n 1, 1) := by decide +kernel
theorem dd_L_law_632 : decode bb_L_law 632 = .ok (.aload_n 0, 1) := by decide +kernel
theorem dd_L_law_633 : decode bb_L_law 633 = .ok (.iload 4, 2) := by decide +kernel
theorem dd_L_law_635 : decode bb_L_law 635 = .ok (.iconst 1, 1) := by decide +kernel
theorem dd_L_law_636 : decode bb_L_law 636 = .ok (.iadd, 1) := by decide +kernel
theorem dd_L_law_637 : decode bb_L_law 637 = .ok (.iaload, 1) := by decide +kernel
theorem dd_L_law_638 : decode bb_L_law 638 = .ok (.aload_n 0, 1) := by decide +kernel
theorem dd_L_law_639 : decode bb_L_law 639 = .ok (.iload 4, 2) := by decide +kernel
theorem dd_L_law_641 : decode bb_L_law 641 = .ok (.iconst 2, 1) := by decide +kernel
theorem dd_L_law_642 : decode bb_L_law 642 = .ok (.iadd, 1) := by decide +kernel
theorem dd_L_law_643 : decode bb_L_law 643 = .ok (.iaload, 1) := by decide +kernel
theorem dd_L_law_644 : decode bb_L_law 644 = .ok (.invokevirtual 95, 3) := by decide +kernel
theorem dd_L_law_647 : decode bb_L_law 647 = .ok (.aload_n 2, 1) := by decide +kernel
theorem dd_L_law_648 : decode bb_L_law 648 = .ok (.aload_n 0, 1) := by decide +kernel
theorem dd_L_law_649 : decode bb_L_law 649 = .ok (.iload 4, 2) := by decide +kernel
theorem dd_L_law_651 : decode bb_L_law 651 = .ok (.iconst 1, 1) := by decide +kernel
theorem dd_L_law_652 : decode bb_L_law 652 = .ok (.iadd, 1) := by decide +kernel
theorem dd_L_law_653 : decode bb_L_law 653 = .ok (.iaload, 1) := by decide +kernel
theorem dd_L_law_654 : decode bb_L_law 654 = .ok (.aload_n 0, 1) := by decide +kernel
theorem dd_L_law_655 : decode bb_L_law 655 = .ok (.iload 4, 2) := by decide +kernel
theorem dd_L_law_657 : decode bb_L_law 657 = .ok (.iconst 2, 1) := by decide +kernel
theorem dd_L_law_658 : decode bb_L_law 658 = .ok (.iadd, 1) := by decide +kernel
theorem dd_L_law_659 : decode bb_L_law 659 = .ok (.iaload, 1) := by decide +kernel
theorem dd_L_law_660 : decode bb_L_law 660 = .ok (.invokevirtual 98, 3) := by decide +kernel
theorem dd_L_law_663 : decode bb_L_law 663 = .ok (.if_icmp .eq 92, 3) := by decide +kernel
theorem dd_L_law_666 : decode bb_L_law 666 = .ok (.iconst 0, 1) := by decide +kernel
theorem dd_L_law_667 : decode bb_L_law 667 = .ok (.ireturn, 1) := by decide +kernel
theorem dd_L_law_668 : decode bb_L_law 668 = .ok (.aload_n 1, 1) := by decide +kernel
theorem dd_L_law_669 : decode bb_L_law 669 = .ok (.aload_n 0, 1) := by decide +kernel
theorem dd_L_law_670 : decode bb_L_law 670 = .ok (.iload 4, 2) := by decide +kernel
theorem dd_L_law_672 : decode bb_L_law 672 = .ok (.iconst 1, 1) := by decide +kernel
theorem dd_L_law_673 : decode bb_L_law 673 = .ok (.iadd, 1) := by decide +kernel
theorem dd_L_law_674 : decode bb_L_law 674 = .ok (.iaload, 1) := by decide +kernel
theorem dd_L_law_675 : decode bb_L_law 675 = .ok (.aload_n 0, 1) := by decide +kernel
theorem dd_L_law_676 : decode bb_L_law 676 = .ok (.iload 4, 2) := by decide +kernel
theorem dd_L_law_678 : decode bb_L_law 678 = .ok (.iconst 2, 1) := by decide +kernel
theorem dd_L_law_679 : decode bb_L_law 679 = .ok (.iadd, 1) := by decide +kernel
theorem dd_L_law_680 : decode bb_L_law 680 = .ok (.iaload, 1) := by decide +kernel
theorem dd_L_law_681 : decode bb_L_law 681 = .ok (.aload_n 0, 1) := by decide +kernel
theorem dd_L_law_682 : decode bb_L_law 682 = .ok (.iload 4, 2) := by decide +kernel
theorem dd_L_law_684 : decode bb_L_law 684 = .ok (.iconst 3, 1) := by decide +kernel
theorem dd_L_law_685 : decode bb_L_law 685 = .ok (.iadd, 1) := by decide +kernel
theorem dd_L_law_686 : decode bb_L_law 686 = .ok (.iaload, 1) := by decide +kernel
theorem dd_L_law_687 : decode bb_L_law 687 = .ok (.invokevirtual 99, 3) := by decide +kernel
theorem dd_L_law_690 : decode bb_L_law 690 = .ok (.aload_n 2, 1) := by decide +kernel
theorem dd_L_law_691 : decode bb_L_law 691 = .ok (.aload_n 0, 1) := by decide +kernel
theorem dd_L_law_692 : decode bb_L_law 692 = .ok (.iload 4, 2) := by decide +kernel
theorem dd_L_law_694 : decode bb_L_law 694 = .ok (.iconst 1, 1) := by decide +kernel
theorem dd_L_law_695 : decode bb_L_law 695 = .ok (.iadd, 1) := by decide +kernel
theorem dd_L_law_696 : decode bb_L_law 696 = .ok (.iaload, 1) := by decide +kernel
theorem dd_L_law_697 : decode bb_L_law 697 = .ok (.aload_n 0, 1) := by decide +kernel
theorem dd_L_law_698 : decode bb_L_law 698 = .ok (.iload 4, 2) := by decide +kernel
theorem dd_L_law_700 : decode bb_L_law 700 = .ok (.iconst 2, 1) := by decide +kernel
theorem dd_L_law_701 : decode bb_L_law 701 = .ok (.iadd, 1) := by decide +kernel
theorem dd_L_law_702 : decode bb_L_law 702 = .ok (.iaload, 1) := by decide +kernel
theorem dd_L_law_703 : decode bb_L_law 703 = .ok (.aload_n 0, 1) := by decide +kernel
theorem dd_L_law_704 : decode bb_L_law 704 = .ok (.iload 4, 2) := by decide +kernel
theorem dd_L_law_706 : decode bb_L_law 706 = .ok (.iconst 3, 1) := by decide +kernel
theorem dd_L_law_707 : decode bb_L_law 707 = .ok (.iadd, 1) := by decide +kernel
theorem dd_L_law_708 : decode bb_L_law 708 = .ok (.iaload, 1) := by decide +kernel
theorem dd_L_law_709 : decode bb_L_law 709 = .ok (.invokevirtual 103, 3) := by decide +kernel
theorem dd_L_law_712 : decode bb_L_law 712 = .ok (.if_icmp .eq 43, 3) := by decide +kernel
theorem dd_L_law_715 : decode bb_L_law 715 = .ok (.iconst 0, 1) := by decide +kernel
theorem dd_L_law_716 : decode bb_L_law 716 = .ok (.ireturn, 1) := by decide +kernel
theorem dd_L_law_717 : decode bb_L_law 717 = .ok (.aload_n 1, 1) := by decide +kernel
theorem dd_L_law_718 : decode bb_L_law 718 = .ok (.invokevirtual 104, 3) := by decide +kernel
theorem dd_L_law_721 : decode bb_L_law 721 = .ok (.aload_n 2, 1) := by decide +kernel
theorem dd_L_law_722 : decode bb_L_law 722 = .ok (.invokevirtual 107, 3) := by decide +kernel
theorem dd_L_law_725 : decode bb_L_law 725 = .ok (.if_icmp .eq 30, 3) := by decide +kernel
theorem dd_L_law_728 : decode bb_L_law 728 = .ok (.iconst 0, 1) := by decide +kernel
theorem dd_L_law_729 : decode bb_L_law 729 = .ok (.ireturn, 1) := by decide +kernel
theorem dd_L_law_730 : decode bb_L_law 730 = .ok (.aload_n 1, 1) := by decide +kernel
theorem dd_L_law_731 : decode bb_L_law 731 = .ok (.aload_n 0, 1) := by decide +kernel
theorem dd_L_law_732 : decode bb_L_law 732 = .ok (.iload 4, 2) := by decide +kernel
theorem dd_L_law_734 : decode bb_L_law 734 = .ok (.iconst 1, 1) := by decide +kernel
theorem dd_L_law_735 : decode bb_L_law 735 = .ok (.iadd, 1) := by decide +kernel
theorem dd_L_law_736 : decode bb_L_law 736 = .ok (.iaload, 1) := by decide +kernel
theorem dd_L_law_737 : decode bb_L_law 737 = .ok (.invokevirtual 108, 3) := by decide +kernel
theorem dd_L_law_740 : decode bb_L_law 740 = .ok (.aload_n 2, 1) := by decide +kernel
theorem dd_L_law_741 : decode bb_L_law 741 = .ok (.aload_n 0, 1) := by decide +kernel
theorem dd_L_law_742 : decode bb_L_law 742 = .ok (.iload 4, 2) := by decide +kernel
theorem dd_L_law_744 : decode bb_L_law 744 = .ok (.iconst 1, 1) := by decide +kernel
theorem dd_L_law_745 : decode bb_L_law 745 = .ok (.iadd, 1) := by decide +kernel
theorem dd_L_law_746 : decode bb_L_law 746 = .ok (.iaload, 1) := by decide +kernel
theorem dd_L_law_747 : decode bb_L_law 747 = .ok (.invokevirtual 111, 3) := by decide +kernel
theorem dd_L_law_750 : decode bb_L_law 750 = .ok (.if_icmp .eq 5, 3) := by decide +kernel
theorem dd_L_law_753 : decode bb_L_law 753 = .ok (.iconst 0, 1) := by decide +kernel
theorem dd_L_law_754 : decode bb_L_law 754 = .ok (.ireturn, 1) := by decide +kernel
theorem dd_L_law_755 : decode bb_L_law 755 = .ok (.iinc 4 5, 3) := by decide +kernel
theorem dd_L_law_758 : decode bb_L_law 758 = .ok (.goto (-735), 3) := by decide +kernel
theorem dd_L_law_761 : decode bb_L_law 761 = .ok (.iconst 1, 1) := by decide +kernel
theorem dd_L_law_762 : decode bb_L_law 762 = .ok (.ireturn, 1) := by decide +kernel
