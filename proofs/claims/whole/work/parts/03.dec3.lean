theorem dX4_init_0 : decode cX4_init 0 = .ok (.aload_n 0, 1) := by decide +kernel
theorem dX4_init_1 : decode cX4_init 1 = .ok (.invokespecial 1, 3) := by decide +kernel
theorem dX4_init_4 : decode cX4_init 4 = .ok (.aload_n 0, 1) := by decide +kernel
theorem dX4_init_5 : decode cX4_init 5 = .ok (.sipush 219, 3) := by decide +kernel
theorem dX4_init_8 : decode cX4_init 8 = .ok (.newarray .int, 2) := by decide +kernel
theorem dX4_init_10 : decode cX4_init 10 = .ok (.putfield 7, 3) := by decide +kernel
theorem dX4_init_13 : decode cX4_init 13 = .ok (.aload_n 0, 1) := by decide +kernel
theorem dX4_init_14 : decode cX4_init 14 = .ok (.sipush 876, 3) := by decide +kernel
theorem dX4_init_17 : decode cX4_init 17 = .ok (.newarray .int, 2) := by decide +kernel
theorem dX4_init_19 : decode cX4_init 19 = .ok (.putfield 13, 3) := by decide +kernel
theorem dX4_init_22 : decode cX4_init 22 = .ok (.aload_n 0, 1) := by decide +kernel
theorem dX4_init_23 : decode cX4_init 23 = .ok (.sipush 219, 3) := by decide +kernel
theorem dX4_init_26 : decode cX4_init 26 = .ok (.newarray .int, 2) := by decide +kernel
theorem dX4_init_28 : decode cX4_init 28 = .ok (.putfield 16, 3) := by decide +kernel
theorem dX4_init_31 : decode cX4_init 31 = .ok (.aload_n 0, 1) := by decide +kernel
theorem dX4_init_32 : decode cX4_init 32 = .ok (.sipush 219, 3) := by decide +kernel
theorem dX4_init_35 : decode cX4_init 35 = .ok (.newarray .int, 2) := by decide +kernel
theorem dX4_init_37 : decode cX4_init 37 = .ok (.putfield 19, 3) := by decide +kernel
theorem dX4_init_40 : decode cX4_init 40 = .ok (.aload_n 0, 1) := by decide +kernel
theorem dX4_init_41 : decode cX4_init 41 = .ok (.bipush 90, 2) := by decide +kernel
theorem dX4_init_43 : decode cX4_init 43 = .ok (.newarray .int, 2) := by decide +kernel
theorem dX4_init_45 : decode cX4_init 45 = .ok (.putfield 22, 3) := by decide +kernel
theorem dX4_init_48 : decode cX4_init 48 = .ok (.iconst 0, 1) := by decide +kernel
theorem dX4_init_49 : decode cX4_init 49 = .ok (.istore_n 1, 1) := by decide +kernel
theorem dX4_init_50 : decode cX4_init 50 = .ok (.iload_n 1, 1) := by decide +kernel
theorem dX4_init_51 : decode cX4_init 51 = .ok (.bipush 6, 2) := by decide +kernel
theorem dX4_init_53 : decode cX4_init 53 = .ok (.if_icmp .ge 20, 3) := by decide +kernel
theorem dX4_init_56 : decode cX4_init 56 = .ok (.aload_n 0, 1) := by decide +kernel
theorem dX4_init_57 : decode cX4_init 57 = .ok (.getfield 7, 3) := by decide +kernel
theorem dX4_init_60 : decode cX4_init 60 = .ok (.iconst 0, 1) := by decide +kernel
theorem dX4_init_61 : decode cX4_init 61 = .ok (.iload_n 1, 1) := by decide +kernel
theorem dX4_init_62 : decode cX4_init 62 = .ok (.iadd, 1) := by decide +kernel
theorem dX4_init_63 : decode cX4_init 63 = .ok (.sipush 200, 3) := by decide +kernel
theorem dX4_init_66 : decode cX4_init 66 = .ok (.iastore, 1) := by decide +kernel
theorem dX4_init_67 : decode cX4_init 67 = .ok (.iinc 1 1, 3) := by decide +kernel
theorem dX4_init_70 : decode cX4_init 70 = .ok (.goto (-20), 3) := by decide +kernel
theorem dX4_init_73 : decode cX4_init 73 = .ok (.iconst 0, 1) := by decide +kernel
theorem dX4_init_74 : decode cX4_init 74 = .ok (.istore_n 1, 1) := by decide +kernel
theorem dX4_init_75 : decode cX4_init 75 = .ok (.iload_n 1, 1) := by decide +kernel
theorem dX4_init_76 : decode cX4_init 76 = .ok (.iconst 5, 1) := by decide +kernel
theorem dX4_init_77 : decode cX4_init 77 = .ok (.if_icmp .ge 19, 3) := by decide +kernel
theorem dX4_init_80 : decode cX4_init 80 = .ok (.aload_n 0, 1) := by decide +kernel
theorem dX4_init_81 : decode cX4_init 81 = .ok (.getfield 7, 3) := by decide +kernel
theorem dX4_init_84 : decode cX4_init 84 = .ok (.bipush 6, 2) := by decide +kernel
theorem dX4_init_86 : decode cX4_init 86 = .ok (.iload_n 1, 1) := by decide +kernel
theorem dX4_init_87 : decode cX4_init 87 = .ok (.iadd, 1) := by decide +kernel
theorem dX4_init_88 : decode cX4_init 88 = .ok (.iconst 4, 1) := by decide +kernel
theorem dX4_init_89 : decode cX4_init 89 = .ok (.iastore, 1) := by decide +kernel
theorem dX4_init_90 : decode cX4_init 90 = .ok (.iinc 1 1, 3) := by decide +kernel
theorem dX4_init_93 : decode cX4_init 93 = .ok (.goto (-18), 3) := by decide +kernel
theorem dX4_init_96 : decode cX4_init 96 = .ok (.aload_n 0, 1) := by decide +kernel
theorem dX4_init_97 : decode cX4_init 97 = .ok (.getfield 7, 3) := by decide +kernel
theorem dX4_init_100 : decode cX4_init 100 = .ok (.bipush 11, 2) := by decide +kernel
theorem dX4_init_102 : decode cX4_init 102 = .ok (.bipush 100, 2) := by decide +kernel
theorem dX4_init_104 : decode cX4_init 104 = .ok (.iastore, 1) := by decide +kernel
theorem dX4_init_105 : decode cX4_init 105 = .ok (.return_, 1) := by decide +kernel
theorem dX4_thrown_0 : decode cX4_thrown 0 = .ok (.aload_n 0, 1) := by decide +kernel
theorem dX4_thrown_1 : decode cX4_thrown 1 = .ok (.getfield 25, 3) := by decide +kernel
theorem dX4_thrown_4 : decode cX4_thrown 4 = .ok (.ireturn, 1) := by decide +kernel
theorem dX4_refused_0 : decode cX4_refused 0 = .ok (.aload_n 0, 1) := by decide +kernel
theorem dX4_refused_1 : decode cX4_refused 1 = .ok (.iload_n 1, 1) := by decide +kernel
theorem dX4_refused_2 : decode cX4_refused 2 = .ok (.putfield 25, 3) := by decide +kernel
theorem dX4_refused_5 : decode cX4_refused 5 = .ok (.iload_n 1, 1) := by decide +kernel
theorem dX4_refused_6 : decode cX4_refused 6 = .ok (.ifCond .le 7, 3) := by decide +kernel
theorem dX4_refused_9 : decode cX4_refused 9 = .ok (.iconst 1, 1) := by decide +kernel
theorem dX4_refused_10 : decode cX4_refused 10 = .ok (.goto 4, 3) := by decide +kernel
theorem dX4_refused_13 : decode cX4_refused 13 = .ok (.iconst 0, 1) := by decide +kernel
theorem dX4_refused_14 : decode cX4_refused 14 = .ok (.ireturn, 1) := by decide +kernel
theorem dX4_in_0 : decode cX4_in 0 = .ok (.iload_n 0, 1) := by decide +kernel
theorem dX4_in_1 : decode cX4_in 1 = .ok (.iload_n 1, 1) := by decide +kernel
theorem dX4_in_2 : decode cX4_in 2 = .ok (.if_icmp .lt 12, 3) := by decide +kernel
theorem dX4_in_5 : decode cX4_in 5 = .ok (.iload_n 0, 1) := by decide +kernel
theorem dX4_in_6 : decode cX4_in 6 = .ok (.iload_n 2, 1) := by decide +kernel
theorem dX4_in_7 : decode cX4_in 7 = .ok (.if_icmp .gt 7, 3) := by decide +kernel
theorem dX4_in_10 : decode cX4_in 10 = .ok (.iconst 1, 1) := by decide +kernel
theorem dX4_in_11 : decode cX4_in 11 = .ok (.goto 4, 3) := by decide +kernel
theorem dX4_in_14 : decode cX4_in 14 = .ok (.iconst 0, 1) := by decide +kernel
theorem dX4_in_15 : decode cX4_in 15 = .ok (.ireturn, 1) := by decide +kernel
theorem dX4_saves_0 : decode cX4_saves 0 = .ok (.aload_n 0, 1) := by decide +kernel
theorem dX4_saves_1 : decode cX4_saves 1 = .ok (.aload_n 0, 1) := by decide +kernel
theorem dX4_saves_2 : decode cX4_saves 2 = .ok (.getfield 7, 3) := by decide +kernel
theorem dX4_saves_5 : decode cX4_saves 5 = .ok (.invokevirtual 29, 3) := by decide +kernel
theorem dX4_saves_8 : decode cX4_saves 8 = .ok (.return_, 1) := by decide +kernel
theorem dX4_savesFrom_0 : decode cX4_savesFrom 0 = .ok (.aload_n 0, 1) := by decide +kernel
theorem dX4_savesFrom_1 : decode cX4_savesFrom 1 = .ok (.getfield 33, 3) := by decide +kernel
theorem dX4_savesFrom_4 : decode cX4_savesFrom 4 = .ok (.iconst 4, 1) := by decide +kernel
theorem dX4_savesFrom_5 : decode cX4_savesFrom 5 = .ok (.if_icmp .ne 44, 3) := by decide +kernel
theorem dX4_savesFrom_8 : decode cX4_savesFrom 8 = .ok (.iconst 0, 1) := by decide +kernel
theorem dX4_savesFrom_9 : decode cX4_savesFrom 9 = .ok (.istore_n 2, 1) := by decide +kernel
theorem dX4_savesFrom_10 : decode cX4_savesFrom 10 = .ok (.iload_n 2, 1) := by decide +kernel
theorem dX4_savesFrom_11 : decode cX4_savesFrom 11 = .ok (.sipush 657, 3) := by decide +kernel
theorem dX4_savesFrom_14 : decode cX4_savesFrom 14 = .ok (.if_icmp .ge 25, 3) := by decide +kernel
theorem dX4_savesFrom_17 : decode cX4_savesFrom 17 = .ok (.aload_n 0, 1) := by decide +kernel
theorem dX4_savesFrom_18 : decode cX4_savesFrom 18 = .ok (.getfield 13, 3) := by decide +kernel
theorem dX4_savesFrom_21 : decode cX4_savesFrom 21 = .ok (.iload_n 2, 1) := by decide +kernel
theorem dX4_savesFrom_22 : decode cX4_savesFrom 22 = .ok (.aload_n 0, 1) := by decide +kernel
theorem dX4_savesFrom_23 : decode cX4_savesFrom 23 = .ok (.getfield 13, 3) := by decide +kernel
theorem dX4_savesFrom_26 : decode cX4_savesFrom 26 = .ok (.iload_n 2, 1) := by decide +kernel
theorem dX4_savesFrom_27 : decode cX4_savesFrom 27 = .ok (.sipush 219, 3) := by decide +kernel
theorem dX4_savesFrom_30 : decode cX4_savesFrom 30 = .ok (.iadd, 1) := by decide +kernel
theorem dX4_savesFrom_31 : decode cX4_savesFrom 31 = .ok (.iaload, 1) := by decide +kernel
theorem dX4_savesFrom_32 : decode cX4_savesFrom 32 = .ok (.iastore, 1) := by decide +kernel
theorem dX4_savesFrom_33 : decode cX4_savesFrom 33 = .ok (.iinc 2 1, 3) := by decide +kernel
theorem dX4_savesFrom_36 : decode cX4_savesFrom 36 = .ok (.goto (-26), 3) := by decide +kernel
theorem dX4_savesFrom_39 : decode cX4_savesFrom 39 = .ok (.aload_n 0, 1) := by decide +kernel
theorem dX4_savesFrom_40 : decode cX4_savesFrom 40 = .ok (.dup, 1) := by decide +kernel
theorem dX4_savesFrom_41 : decode cX4_savesFrom 41 = .ok (.getfield 33, 3) := by decide +kernel
theorem dX4_savesFrom_44 : decode cX4_savesFrom 44 = .ok (.iconst 1, 1) := by decide +kernel
theorem dX4_savesFrom_45 : decode cX4_savesFrom 45 = .ok (.isub, 1) := by decide +kernel
theorem dX4_savesFrom_46 : decode cX4_savesFrom 46 = .ok (.putfield 33, 3) := by decide +kernel
theorem dX4_savesFrom_49 : decode cX4_savesFrom 49 = .ok (.iconst 0, 1) := by decide +kernel
theorem dX4_savesFrom_50 : decode cX4_savesFrom 50 = .ok (.istore_n 2, 1) := by decide +kernel
theorem dX4_savesFrom_51 : decode cX4_savesFrom 51 = .ok (.iload_n 2, 1) := by decide +kernel
theorem dX4_savesFrom_52 : decode cX4_savesFrom 52 = .ok (.sipush 219, 3) := by decide +kernel
theorem dX4_savesFrom_55 : decode cX4_savesFrom 55 = .ok (.if_icmp .ge 27, 3) := by decide +kernel
theorem dX4_savesFrom_58 : decode cX4_savesFrom 58 = .ok (.aload_n 0, 1) := by decide +kernel
theorem dX4_savesFrom_59 : decode cX4_savesFrom 59 = .ok (.getfield 13, 3) := by decide +kernel
theorem dX4_savesFrom_62 : decode cX4_savesFrom 62 = .ok (.sipush 219, 3) := by decide +kernel
theorem dX4_savesFrom_65 : decode cX4_savesFrom 65 = .ok (.aload_n 0, 1) := by decide +kernel
theorem dX4_savesFrom_66 : decode cX4_savesFrom 66 = .ok (.getfield 33, 3) := by decide +kernel
theorem dX4_savesFrom_69 : decode cX4_savesFrom 69 = .ok (.imul, 1) := by decide +kernel
theorem dX4_savesFrom_70 : decode cX4_savesFrom 70 = .ok (.iload_n 2, 1) := by decide +kernel
theorem dX4_savesFrom_71 : decode cX4_savesFrom 71 = .ok (.iadd, 1) := by decide +kernel
theorem dX4_savesFrom_72 : decode cX4_savesFrom 72 = .ok (.aload_n 1, 1) := by decide +kernel
theorem dX4_savesFrom_73 : decode cX4_savesFrom 73 = .ok (.iload_n 2, 1) := by decide +kernel
theorem dX4_savesFrom_74 : decode cX4_savesFrom 74 = .ok (.iaload, 1) := by decide +kernel
theorem dX4_savesFrom_75 : decode cX4_savesFrom 75 = .ok (.iastore, 1) := by decide +kernel
theorem dX4_savesFrom_76 : decode cX4_savesFrom 76 = .ok (.iinc 2 1, 3) := by decide +kernel
theorem dX4_savesFrom_79 : decode cX4_savesFrom 79 = .ok (.goto (-28), 3) := by decide +kernel
theorem dX4_savesFrom_82 : decode cX4_savesFrom 82 = .ok (.aload_n 0, 1) := by decide +kernel
theorem dX4_savesFrom_83 : decode cX4_savesFrom 83 = .ok (.dup, 1) := by decide +kernel
theorem dX4_savesFrom_84 : decode cX4_savesFrom 84 = .ok (.getfield 33, 3) := by decide +kernel
theorem dX4_savesFrom_87 : decode cX4_savesFrom 87 = .ok (.iconst 1, 1) := by decide +kernel
theorem dX4_savesFrom_88 : decode cX4_savesFrom 88 = .ok (.iadd, 1) := by decide +kernel
theorem dX4_savesFrom_89 : decode cX4_savesFrom 89 = .ok (.putfield 33, 3) := by decide +kernel
theorem dX4_savesFrom_92 : decode cX4_savesFrom 92 = .ok (.return_, 1) := by decide +kernel
theorem dX4_undo_0 : decode cX4_undo 0 = .ok (.aload_n 0, 1) := by decide +kernel
theorem dX4_undo_1 : decode cX4_undo 1 = .ok (.aload_n 0, 1) := by decide +kernel
theorem dX4_undo_2 : decode cX4_undo 2 = .ok (.getfield 33, 3) := by decide +kernel
theorem dX4_undo_5 : decode cX4_undo 5 = .ok (.ifCond .ne 7, 3) := by decide +kernel
theorem dX4_undo_8 : decode cX4_undo 8 = .ok (.iconst 1, 1) := by decide +kernel
theorem dX4_undo_9 : decode cX4_undo 9 = .ok (.goto 4, 3) := by decide +kernel
theorem dX4_undo_12 : decode cX4_undo 12 = .ok (.iconst 0, 1) := by decide +kernel
theorem dX4_undo_13 : decode cX4_undo 13 = .ok (.invokevirtual 36, 3) := by decide +kernel
theorem dX4_undo_16 : decode cX4_undo 16 = .ok (.ifCond .eq 5, 3) := by decide +kernel
theorem dX4_undo_19 : decode cX4_undo 19 = .ok (.iconst 0, 1) := by decide +kernel
theorem dX4_undo_20 : decode cX4_undo 20 = .ok (.ireturn, 1) := by decide +kernel
theorem dX4_undo_21 : decode cX4_undo 21 = .ok (.aload_n 0, 1) := by decide +kernel
theorem dX4_undo_22 : decode cX4_undo 22 = .ok (.dup, 1) := by decide +kernel
theorem dX4_undo_23 : decode cX4_undo 23 = .ok (.getfield 33, 3) := by decide +kernel
theorem dX4_undo_26 : decode cX4_undo 26 = .ok (.iconst 1, 1) := by decide +kernel
theorem dX4_undo_27 : decode cX4_undo 27 = .ok (.isub, 1) := by decide +kernel
theorem dX4_undo_28 : decode cX4_undo 28 = .ok (.putfield 33, 3) := by decide +kernel
theorem dX4_undo_31 : decode cX4_undo 31 = .ok (.iconst 0, 1) := by decide +kernel
theorem dX4_undo_32 : decode cX4_undo 32 = .ok (.istore_n 1, 1) := by decide +kernel
theorem dX4_undo_33 : decode cX4_undo 33 = .ok (.iload_n 1, 1) := by decide +kernel
theorem dX4_undo_34 : decode cX4_undo 34 = .ok (.sipush 219, 3) := by decide +kernel
theorem dX4_undo_37 : decode cX4_undo 37 = .ok (.if_icmp .ge 30, 3) := by decide +kernel
theorem dX4_undo_40 : decode cX4_undo 40 = .ok (.aload_n 0, 1) := by decide +kernel
theorem dX4_undo_41 : decode cX4_undo 41 = .ok (.getfield 7, 3) := by decide +kernel
theorem dX4_undo_44 : decode cX4_undo 44 = .ok (.iload_n 1, 1) := by decide +kernel
theorem dX4_undo_45 : decode cX4_undo 45 = .ok (.aload_n 0, 1) := by decide +kernel
theorem dX4_undo_46 : decode cX4_undo 46 = .ok (.getfield 13, 3) := by decide +kernel
theorem dX4_undo_49 : decode cX4_undo 49 = .ok (.sipush 219, 3) := by decide +kernel
theorem dX4_undo_52 : decode cX4_undo 52 = .ok (.aload_n 0, 1) := by decide +kernel
theorem dX4_undo_53 : decode cX4_undo 53 = .ok (.getfield 33, 3) := by decide +kernel
theorem dX4_undo_56 : decode cX4_undo 56 = .ok (.imul, 1) := by decide +kernel
theorem dX4_undo_57 : decode cX4_undo 57 = .ok (.iload_n 1, 1) := by decide +kernel
theorem dX4_undo_58 : decode cX4_undo 58 = .ok (.iadd, 1) := by decide +kernel
theorem dX4_undo_59 : decode cX4_undo 59 = .ok (.iaload, 1) := by decide +kernel
theorem dX4_undo_60 : decode cX4_undo 60 = .ok (.iastore, 1) := by decide +kernel
theorem dX4_undo_61 : decode cX4_undo 61 = .ok (.iinc 1 1, 3) := by decide +kernel
theorem dX4_undo_64 : decode cX4_undo 64 = .ok (.goto (-31), 3) := by decide +kernel
theorem dX4_undo_67 : decode cX4_undo 67 = .ok (.aload_n 0, 1) := by decide +kernel
theorem dX4_undo_68 : decode cX4_undo 68 = .ok (.getfield 33, 3) := by decide +kernel
theorem dX4_undo_71 : decode cX4_undo 71 = .ok (.ireturn, 1) := by decide +kernel
theorem dX4_copies_0 : decode cX4_copies 0 = .ok (.iconst 0, 1) := by decide +kernel
theorem dX4_copies_1 : decode cX4_copies 1 = .ok (.istore_n 2, 1) := by decide +kernel
theorem dX4_copies_2 : decode cX4_copies 2 = .ok (.iload_n 2, 1) := by decide +kernel
theorem dX4_copies_3 : decode cX4_copies 3 = .ok (.sipush 219, 3) := by decide +kernel
theorem dX4_copies_6 : decode cX4_copies 6 = .ok (.if_icmp .ge 15, 3) := by decide +kernel
theorem dX4_copies_9 : decode cX4_copies 9 = .ok (.aload_n 0, 1) := by decide +kernel
theorem dX4_copies_10 : decode cX4_copies 10 = .ok (.iload_n 2, 1) := by decide +kernel
theorem dX4_copies_11 : decode cX4_copies 11 = .ok (.aload_n 1, 1) := by decide +kernel
theorem dX4_copies_12 : decode cX4_copies 12 = .ok (.iload_n 2, 1) := by decide +kernel
theorem dX4_copies_13 : decode cX4_copies 13 = .ok (.iaload, 1) := by decide +kernel
theorem dX4_copies_14 : decode cX4_copies 14 = .ok (.iastore, 1) := by decide +kernel
theorem dX4_copies_15 : decode cX4_copies 15 = .ok (.iinc 2 1, 3) := by decide +kernel
theorem dX4_copies_18 : decode cX4_copies 18 = .ok (.goto (-16), 3) := by decide +kernel
theorem dX4_copies_21 : decode cX4_copies 21 = .ok (.return_, 1) := by decide +kernel
theorem dX4_puts_0 : decode cX4_puts 0 = .ok (.aload_n 0, 1) := by decide +kernel
theorem dX4_puts_1 : decode cX4_puts 1 = .ok (.invokevirtual 40, 3) := by decide +kernel
theorem dX4_puts_4 : decode cX4_puts 4 = .ok (.aload_n 0, 1) := by decide +kernel
theorem dX4_puts_5 : decode cX4_puts 5 = .ok (.getfield 7, 3) := by decide +kernel
theorem dX4_puts_8 : decode cX4_puts 8 = .ok (.iload_n 1, 1) := by decide +kernel
theorem dX4_puts_9 : decode cX4_puts 9 = .ok (.iaload, 1) := by decide +kernel
theorem dX4_puts_10 : decode cX4_puts 10 = .ok (.istore_n 3, 1) := by decide +kernel
theorem dX4_puts_11 : decode cX4_puts 11 = .ok (.aload_n 0, 1) := by decide +kernel
theorem dX4_puts_12 : decode cX4_puts 12 = .ok (.getfield 7, 3) := by decide +kernel
theorem dX4_puts_15 : decode cX4_puts 15 = .ok (.iload_n 1, 1) := by decide +kernel
theorem dX4_puts_16 : decode cX4_puts 16 = .ok (.iload_n 2, 1) := by decide +kernel
theorem dX4_puts_17 : decode cX4_puts 17 = .ok (.iastore, 1) := by decide +kernel
theorem dX4_puts_18 : decode cX4_puts 18 = .ok (.iload_n 3, 1) := by decide +kernel
theorem dX4_puts_19 : decode cX4_puts 19 = .ok (.ireturn, 1) := by decide +kernel
theorem dX4_isRack_0 : decode cX4_isRack 0 = .ok (.iload_n 0, 1) := by decide +kernel
theorem dX4_isRack_1 : decode cX4_isRack 1 = .ok (.iconst 0, 1) := by decide +kernel
theorem dX4_isRack_2 : decode cX4_isRack 2 = .ok (.iconst 5, 1) := by decide +kernel
theorem dX4_isRack_3 : decode cX4_isRack 3 = .ok (.invokestatic 43, 3) := by decide +kernel
theorem dX4_isRack_6 : decode cX4_isRack 6 = .ok (.ireturn, 1) := by decide +kernel
theorem dX4_isTray_0 : decode cX4_isTray 0 = .ok (.iload_n 0, 1) := by decide +kernel
theorem dX4_isTray_1 : decode cX4_isTray 1 = .ok (.iconst 0, 1) := by decide +kernel
theorem dX4_isTray_2 : decode cX4_isTray 2 = .ok (.iconst 4, 1) := by decide +kernel
theorem dX4_isTray_3 : decode cX4_isTray 3 = .ok (.invokestatic 43, 3) := by decide +kernel
theorem dX4_isTray_6 : decode cX4_isTray 6 = .ok (.ireturn, 1) := by decide +kernel
theorem dX4_setLimit_0 : decode cX4_setLimit 0 = .ok (.aload_n 0, 1) := by decide +kernel
theorem dX4_setLimit_1 : decode cX4_setLimit 1 = .ok (.iload_n 1, 1) := by decide +kernel
theorem dX4_setLimit_2 : decode cX4_setLimit 2 = .ok (.invokestatic 47, 3) := by decide +kernel
theorem dX4_setLimit_5 : decode cX4_setLimit 5 = .ok (.ifCond .ne 7, 3) := by decide +kernel
theorem dX4_setLimit_8 : decode cX4_setLimit 8 = .ok (.iconst 1, 1) := by decide +kernel
theorem dX4_setLimit_9 : decode cX4_setLimit 9 = .ok (.goto 19, 3) := by decide +kernel
theorem dX4_setLimit_12 : decode cX4_setLimit 12 = .ok (.iload_n 2, 1) := by decide +kernel
theorem dX4_setLimit_13 : decode cX4_setLimit 13 = .ok (.iconst 0, 1) := by decide +kernel
theorem dX4_setLimit_14 : decode cX4_setLimit 14 = .ok (.sipush 500, 3) := by decide +kernel
theorem dX4_setLimit_17 : decode cX4_setLimit 17 = .ok (.invokestatic 43, 3) := by decide +kernel
theorem dX4_setLimit_20 : decode cX4_setLimit 20 = .ok (.ifCond .eq 7, 3) := by decide +kernel
theorem dX4_setLimit_23 : decode cX4_setLimit 23 = .ok (.iconst 0, 1) := by decide +kernel
theorem dX4_setLimit_24 : decode cX4_setLimit 24 = .ok (.goto 4, 3) := by decide +kernel
theorem dX4_setLimit_27 : decode cX4_setLimit 27 = .ok (.iconst 2, 1) := by decide +kernel
theorem dX4_setLimit_28 : decode cX4_setLimit 28 = .ok (.invokevirtual 36, 3) := by decide +kernel
theorem dX4_setLimit_31 : decode cX4_setLimit 31 = .ok (.ifCond .eq 7, 3) := by decide +kernel
theorem dX4_setLimit_34 : decode cX4_setLimit 34 = .ok (.iconst 0, 1) := by decide +kernel
theorem dX4_setLimit_35 : decode cX4_setLimit 35 = .ok (.goto 11, 3) := by decide +kernel
theorem dX4_setLimit_38 : decode cX4_setLimit 38 = .ok (.aload_n 0, 1) := by decide +kernel
theorem dX4_setLimit_39 : decode cX4_setLimit 39 = .ok (.iconst 0, 1) := by decide +kernel
theorem dX4_setLimit_40 : decode cX4_setLimit 40 = .ok (.iload_n 1, 1) := by decide +kernel
theorem dX4_setLimit_41 : decode cX4_setLimit 41 = .ok (.iadd, 1) := by decide +kernel
theorem dX4_setLimit_42 : decode cX4_setLimit 42 = .ok (.iload_n 2, 1) := by decide +kernel
theorem dX4_setLimit_43 : decode cX4_setLimit 43 = .ok (.invokevirtual 50, 3) := by decide +kernel
theorem dX4_setLimit_46 : decode cX4_setLimit 46 = .ok (.ireturn, 1) := by decide +kernel
theorem dX4_setTray_0 : decode cX4_setTray 0 = .ok (.aload_n 0, 1) := by decide +kernel
theorem dX4_setTray_1 : decode cX4_setTray 1 = .ok (.iload_n 1, 1) := by decide +kernel
theorem dX4_setTray_2 : decode cX4_setTray 2 = .ok (.invokestatic 54, 3) := by decide +kernel
theorem dX4_setTray_5 : decode cX4_setTray 5 = .ok (.ifCond .ne 7, 3) := by decide +kernel
theorem dX4_setTray_8 : decode cX4_setTray 8 = .ok (.iconst 1, 1) := by decide +kernel
theorem dX4_setTray_9 : decode cX4_setTray 9 = .ok (.goto 18, 3) := by decide +kernel
theorem dX4_setTray_12 : decode cX4_setTray 12 = .ok (.iload_n 2, 1) := by decide +kernel
theorem dX4_setTray_13 : decode cX4_setTray 13 = .ok (.iconst 0, 1) := by decide +kernel
theorem dX4_setTray_14 : decode cX4_setTray 14 = .ok (.bipush 9, 2) := by decide +kernel
theorem dX4_setTray_16 : decode cX4_setTray 16 = .ok (.invokestatic 43, 3) := by decide +kernel
theorem dX4_setTray_19 : decode cX4_setTray 19 = .ok (.ifCond .eq 7, 3) := by decide +kernel
theorem dX4_setTray_22 : decode cX4_setTray 22 = .ok (.iconst 0, 1) := by decide +kernel
theorem dX4_setTray_23 : decode cX4_setTray 23 = .ok (.goto 4, 3) := by decide +kernel
theorem dX4_setTray_26 : decode cX4_setTray 26 = .ok (.iconst 2, 1) := by decide +kernel
theorem dX4_setTray_27 : decode cX4_setTray 27 = .ok (.invokevirtual 36, 3) := by decide +kernel
theorem dX4_setTray_30 : decode cX4_setTray 30 = .ok (.ifCond .eq 7, 3) := by decide +kernel
theorem dX4_setTray_33 : decode cX4_setTray 33 = .ok (.iconst 0, 1) := by decide +kernel
theorem dX4_setTray_34 : decode cX4_setTray 34 = .ok (.goto 12, 3) := by decide +kernel
theorem dX4_setTray_37 : decode cX4_setTray 37 = .ok (.aload_n 0, 1) := by decide +kernel
theorem dX4_setTray_38 : decode cX4_setTray 38 = .ok (.bipush 6, 2) := by decide +kernel
theorem dX4_setTray_40 : decode cX4_setTray 40 = .ok (.iload_n 1, 1) := by decide +kernel
theorem dX4_setTray_41 : decode cX4_setTray 41 = .ok (.iadd, 1) := by decide +kernel
theorem dX4_setTray_42 : decode cX4_setTray 42 = .ok (.iload_n 2, 1) := by decide +kernel
theorem dX4_setTray_43 : decode cX4_setTray 43 = .ok (.invokevirtual 50, 3) := by decide +kernel
theorem dX4_setTray_46 : decode cX4_setTray 46 = .ok (.ireturn, 1) := by decide +kernel
theorem dX4_setLevel_0 : decode cX4_setLevel 0 = .ok (.aload_n 0, 1) := by decide +kernel
theorem dX4_setLevel_1 : decode cX4_setLevel 1 = .ok (.iload_n 1, 1) := by decide +kernel
theorem dX4_setLevel_2 : decode cX4_setLevel 2 = .ok (.iconst 0, 1) := by decide +kernel
theorem dX4_setLevel_3 : decode cX4_setLevel 3 = .ok (.sipush 500, 3) := by decide +kernel
theorem dX4_setLevel_6 : decode cX4_setLevel 6 = .ok (.invokestatic 43, 3) := by decide +kernel
theorem dX4_setLevel_9 : decode cX4_setLevel 9 = .ok (.ifCond .eq 7, 3) := by decide +kernel
theorem dX4_setLevel_12 : decode cX4_setLevel 12 = .ok (.iconst 0, 1) := by decide +kernel
theorem dX4_setLevel_13 : decode cX4_setLevel 13 = .ok (.goto 4, 3) := by decide +kernel
theorem dX4_setLevel_16 : decode cX4_setLevel 16 = .ok (.iconst 1, 1) := by decide +kernel
theorem dX4_setLevel_17 : decode cX4_setLevel 17 = .ok (.invokevirtual 36, 3) := by decide +kernel
theorem dX4_setLevel_20 : decode cX4_setLevel 20 = .ok (.ifCond .eq 7, 3) := by decide +kernel
theorem dX4_setLevel_23 : decode cX4_setLevel 23 = .ok (.iconst 0, 1) := by decide +kernel
theorem dX4_setLevel_24 : decode cX4_setLevel 24 = .ok (.goto 10, 3) := by decide +kernel
theorem dX4_setLevel_27 : decode cX4_setLevel 27 = .ok (.aload_n 0, 1) := by decide +kernel
theorem dX4_setLevel_28 : decode cX4_setLevel 28 = .ok (.bipush 11, 2) := by decide +kernel
theorem dX4_setLevel_30 : decode cX4_setLevel 30 = .ok (.iload_n 1, 1) := by decide +kernel
theorem dX4_setLevel_31 : decode cX4_setLevel 31 = .ok (.invokevirtual 50, 3) := by decide +kernel
theorem dX4_setLevel_34 : decode cX4_setLevel 34 = .ok (.ireturn, 1) := by decide +kernel
theorem dX4_of_0 : decode cX4_of 0 = .ok (.aload_n 0, 1) := by decide +kernel
theorem dX4_of_1 : decode cX4_of 1 = .ok (.getfield 7, 3) := by decide +kernel
theorem dX4_of_4 : decode cX4_of 4 = .ok (.bipush 19, 2) := by decide +kernel
theorem dX4_of_6 : decode cX4_of 6 = .ok (.bipush 6, 2) := by decide +kernel
theorem dX4_of_8 : decode cX4_of 8 = .ok (.iload_n 1, 1) := by decide +kernel
theorem dX4_of_9 : decode cX4_of 9 = .ok (.imul, 1) := by decide +kernel
theorem dX4_of_10 : decode cX4_of 10 = .ok (.iadd, 1) := by decide +kernel
theorem dX4_of_11 : decode cX4_of 11 = .ok (.iload_n 2, 1) := by decide +kernel
theorem dX4_of_12 : decode cX4_of 12 = .ok (.iadd, 1) := by decide +kernel
theorem dX4_of_13 : decode cX4_of 13 = .ok (.iaload, 1) := by decide +kernel
theorem dX4_of_14 : decode cX4_of 14 = .ok (.ireturn, 1) := by decide +kernel
theorem dX4_isMachine_0 : decode cX4_isMachine 0 = .ok (.iload_n 1, 1) := by decide +kernel
theorem dX4_isMachine_1 : decode cX4_isMachine 1 = .ok (.iconst 0, 1) := by decide +kernel
theorem dX4_isMachine_2 : decode cX4_isMachine 2 = .ok (.aload_n 0, 1) := by decide +kernel
theorem dX4_isMachine_3 : decode cX4_isMachine 3 = .ok (.getfield 7, 3) := by decide +kernel
theorem dX4_isMachine_6 : decode cX4_isMachine 6 = .ok (.bipush 13, 2) := by decide +kernel
theorem dX4_isMachine_8 : decode cX4_isMachine 8 = .ok (.iaload, 1) := by decide +kernel
theorem dX4_isMachine_9 : decode cX4_isMachine 9 = .ok (.iconst 1, 1) := by decide +kernel
theorem dX4_isMachine_10 : decode cX4_isMachine 10 = .ok (.isub, 1) := by decide +kernel
theorem dX4_isMachine_11 : decode cX4_isMachine 11 = .ok (.invokestatic 43, 3) := by decide +kernel
theorem dX4_isMachine_14 : decode cX4_isMachine 14 = .ok (.ireturn, 1) := by decide +kernel
theorem dX4_addMachine_0 : decode cX4_addMachine 0 = .ok (.iload_n 1, 1) := by decide +kernel
theorem dX4_addMachine_1 : decode cX4_addMachine 1 = .ok (.iconst 1, 1) := by decide +kernel
theorem dX4_addMachine_2 : decode cX4_addMachine 2 = .ok (.iconst 4, 1) := by decide +kernel
theorem dX4_addMachine_3 : decode cX4_addMachine 3 = .ok (.invokestatic 43, 3) := by decide +kernel
theorem dX4_addMachine_6 : decode cX4_addMachine 6 = .ok (.ifCond .eq 36, 3) := by decide +kernel
theorem dX4_addMachine_9 : decode cX4_addMachine 9 = .ok (.iload_n 2, 1) := by decide +kernel
theorem dX4_addMachine_10 : decode cX4_addMachine 10 = .ok (.iconst 1, 1) := by decide +kernel
theorem dX4_addMachine_11 : decode cX4_addMachine 11 = .ok (.bipush 99, 2) := by decide +kernel
theorem dX4_addMachine_13 : decode cX4_addMachine 13 = .ok (.invokestatic 43, 3) := by decide +kernel
theorem dX4_addMachine_16 : decode cX4_addMachine 16 = .ok (.ifCond .eq 26, 3) := by decide +kernel
theorem dX4_addMachine_19 : decode cX4_addMachine 19 = .ok (.iload_n 3, 1) := by decide +kernel
theorem dX4_addMachine_20 : decode cX4_addMachine 20 = .ok (.iconst 0, 1) := by decide +kernel
theorem dX4_addMachine_21 : decode cX4_addMachine 21 = .ok (.iconst 2, 1) := by decide +kernel
theorem dX4_addMachine_22 : decode cX4_addMachine 22 = .ok (.invokestatic 43, 3) := by decide +kernel
theorem dX4_addMachine_25 : decode cX4_addMachine 25 = .ok (.ifCond .eq 17, 3) := by decide +kernel
theorem dX4_addMachine_28 : decode cX4_addMachine 28 = .ok (.iload 4, 2) := by decide +kernel
theorem dX4_addMachine_30 : decode cX4_addMachine 30 = .ok (.iconst 0, 1) := by decide +kernel
theorem dX4_addMachine_31 : decode cX4_addMachine 31 = .ok (.iconst 3, 1) := by decide +kernel
theorem dX4_addMachine_32 : decode cX4_addMachine 32 = .ok (.invokestatic 43, 3) := by decide +kernel
theorem dX4_addMachine_35 : decode cX4_addMachine 35 = .ok (.ifCond .eq 7, 3) := by decide +kernel
theorem dX4_addMachine_38 : decode cX4_addMachine 38 = .ok (.iconst 1, 1) := by decide +kernel
theorem dX4_addMachine_39 : decode cX4_addMachine 39 = .ok (.goto 4, 3) := by decide +kernel
theorem dX4_addMachine_42 : decode cX4_addMachine 42 = .ok (.iconst 0, 1) := by decide +kernel
theorem dX4_addMachine_43 : decode cX4_addMachine 43 = .ok (.istore 5, 2) := by decide +kernel
theorem dX4_addMachine_45 : decode cX4_addMachine 45 = .ok (.aload_n 0, 1) := by decide +kernel
theorem dX4_addMachine_46 : decode cX4_addMachine 46 = .ok (.iload 5, 2) := by decide +kernel
theorem dX4_addMachine_48 : decode cX4_addMachine 48 = .ok (.ifCond .ne 7, 3) := by decide +kernel
theorem dX4_addMachine_51 : decode cX4_addMachine 51 = .ok (.iconst 1, 1) := by decide +kernel
theorem dX4_addMachine_52 : decode cX4_addMachine 52 = .ok (.goto 20, 3) := by decide +kernel
theorem dX4_addMachine_55 : decode cX4_addMachine 55 = .ok (.aload_n 0, 1) := by decide +kernel
theorem dX4_addMachine_56 : decode cX4_addMachine 56 = .ok (.getfield 7, 3) := by decide +kernel
theorem dX4_addMachine_59 : decode cX4_addMachine 59 = .ok (.bipush 13, 2) := by decide +kernel
theorem dX4_addMachine_61 : decode cX4_addMachine 61 = .ok (.iaload, 1) := by decide +kernel
theorem dX4_addMachine_62 : decode cX4_addMachine 62 = .ok (.bipush 12, 2) := by decide +kernel
theorem dX4_addMachine_64 : decode cX4_addMachine 64 = .ok (.if_icmp .ne 7, 3) := by decide +kernel
theorem dX4_addMachine_67 : decode cX4_addMachine 67 = .ok (.iconst 2, 1) := by decide +kernel
theorem dX4_addMachine_68 : decode cX4_addMachine 68 = .ok (.goto 4, 3) := by decide +kernel
theorem dX4_addMachine_71 : decode cX4_addMachine 71 = .ok (.iconst 0, 1) := by decide +kernel
theorem dX4_addMachine_72 : decode cX4_addMachine 72 = .ok (.invokevirtual 36, 3) := by decide +kernel
theorem dX4_addMachine_75 : decode cX4_addMachine 75 = .ok (.ifCond .eq 5, 3) := by decide +kernel
theorem dX4_addMachine_78 : decode cX4_addMachine 78 = .ok (.iconst 0, 1) := by decide +kernel
theorem dX4_addMachine_79 : decode cX4_addMachine 79 = .ok (.ireturn, 1) := by decide +kernel
theorem dX4_addMachine_80 : decode cX4_addMachine 80 = .ok (.aload_n 0, 1) := by decide +kernel
theorem dX4_addMachine_81 : decode cX4_addMachine 81 = .ok (.invokevirtual 40, 3) := by decide +kernel
theorem dX4_addMachine_84 : decode cX4_addMachine 84 = .ok (.bipush 19, 2) := by decide +kernel
theorem dX4_addMachine_86 : decode cX4_addMachine 86 = .ok (.bipush 6, 2) := by decide +kernel
theorem dX4_addMachine_88 : decode cX4_addMachine 88 = .ok (.aload_n 0, 1) := by decide +kernel
theorem dX4_addMachine_89 : decode cX4_addMachine 89 = .ok (.getfield 7, 3) := by decide +kernel
theorem dX4_addMachine_92 : decode cX4_addMachine 92 = .ok (.bipush 13, 2) := by decide +kernel
theorem dX4_addMachine_94 : decode cX4_addMachine 94 = .ok (.iaload, 1) := by decide +kernel
theorem dX4_addMachine_95 : decode cX4_addMachine 95 = .ok (.imul, 1) := by decide +kernel
theorem dX4_addMachine_96 : decode cX4_addMachine 96 = .ok (.iadd, 1) := by decide +kernel
theorem dX4_addMachine_97 : decode cX4_addMachine 97 = .ok (.istore 6, 2) := by decide +kernel
theorem dX4_addMachine_99 : decode cX4_addMachine 99 = .ok (.aload_n 0, 1) := by decide +kernel
theorem dX4_addMachine_100 : decode cX4_addMachine 100 = .ok (.getfield 7, 3) := by decide +kernel
theorem dX4_addMachine_103 : decode cX4_addMachine 103 = .ok (.iload 6, 2) := by decide +kernel
theorem dX4_addMachine_105 : decode cX4_addMachine 105 = .ok (.iconst 0, 1) := by decide +kernel
theorem dX4_addMachine_106 : decode cX4_addMachine 106 = .ok (.iadd, 1) := by decide +kernel
theorem dX4_addMachine_107 : decode cX4_addMachine 107 = .ok (.iload_n 1, 1) := by decide +kernel
theorem dX4_addMachine_108 : decode cX4_addMachine 108 = .ok (.iastore, 1) := by decide +kernel
theorem dX4_addMachine_109 : decode cX4_addMachine 109 = .ok (.aload_n 0, 1) := by decide +kernel
theorem dX4_addMachine_110 : decode cX4_addMachine 110 = .ok (.getfield 7, 3) := by decide +kernel
theorem dX4_addMachine_113 : decode cX4_addMachine 113 = .ok (.iload 6, 2) := by decide +kernel
theorem dX4_addMachine_115 : decode cX4_addMachine 115 = .ok (.iconst 1, 1) := by decide +kernel
theorem dX4_addMachine_116 : decode cX4_addMachine 116 = .ok (.iadd, 1) := by decide +kernel
theorem dX4_addMachine_117 : decode cX4_addMachine 117 = .ok (.iload_n 2, 1) := by decide +kernel
theorem dX4_addMachine_118 : decode cX4_addMachine 118 = .ok (.iastore, 1) := by decide +kernel
theorem dX4_addMachine_119 : decode cX4_addMachine 119 = .ok (.aload_n 0, 1) := by decide +kernel
theorem dX4_addMachine_120 : decode cX4_addMachine 120 = .ok (.getfield 7, 3) := by decide +kernel
theorem dX4_addMachine_123 : decode cX4_addMachine 123 = .ok (.iload 6, 2) := by decide +kernel
theorem dX4_addMachine_125 : decode cX4_addMachine 125 = .ok (.iconst 2, 1) := by decide +kernel
theorem dX4_addMachine_126 : decode cX4_addMachine 126 = .ok (.iadd, 1) := by decide +kernel
theorem dX4_addMachine_127 : decode cX4_addMachine 127 = .ok (.iload_n 3, 1) := by decide +kernel
theorem dX4_addMachine_128 : decode cX4_addMachine 128 = .ok (.iastore, 1) := by decide +kernel
theorem dX4_addMachine_129 : decode cX4_addMachine 129 = .ok (.aload_n 0, 1) := by decide +kernel
theorem dX4_addMachine_130 : decode cX4_addMachine 130 = .ok (.getfield 7, 3) := by decide +kernel
theorem dX4_addMachine_133 : decode cX4_addMachine 133 = .ok (.iload 6, 2) := by decide +kernel
theorem dX4_addMachine_135 : decode cX4_addMachine 135 = .ok (.iconst 3, 1) := by decide +kernel
theorem dX4_addMachine_136 : decode cX4_addMachine 136 = .ok (.iadd, 1) := by decide +kernel
theorem dX4_addMachine_137 : decode cX4_addMachine 137 = .ok (.iload 4, 2) := by decide +kernel
theorem dX4_addMachine_139 : decode cX4_addMachine 139 = .ok (.iastore, 1) := by decide +kernel
theorem dX4_addMachine_140 : decode cX4_addMachine 140 = .ok (.aload_n 0, 1) := by decide +kernel
theorem dX4_addMachine_141 : decode cX4_addMachine 141 = .ok (.getfield 7, 3) := by decide +kernel
theorem dX4_addMachine_144 : decode cX4_addMachine 144 = .ok (.iload 6, 2) := by decide +kernel
theorem dX4_addMachine_146 : decode cX4_addMachine 146 = .ok (.iconst 4, 1) := by decide +kernel
theorem dX4_addMachine_147 : decode cX4_addMachine 147 = .ok (.iadd, 1) := by decide +kernel
theorem dX4_addMachine_148 : decode cX4_addMachine 148 = .ok (.iconst (-1), 1) := by decide +kernel
theorem dX4_addMachine_149 : decode cX4_addMachine 149 = .ok (.iastore, 1) := by decide +kernel
theorem dX4_addMachine_150 : decode cX4_addMachine 150 = .ok (.aload_n 0, 1) := by decide +kernel
theorem dX4_addMachine_151 : decode cX4_addMachine 151 = .ok (.getfield 7, 3) := by decide +kernel
theorem dX4_addMachine_154 : decode cX4_addMachine 154 = .ok (.iload 6, 2) := by decide +kernel
theorem dX4_addMachine_156 : decode cX4_addMachine 156 = .ok (.iconst 5, 1) := by decide +kernel
theorem dX4_addMachine_157 : decode cX4_addMachine 157 = .ok (.iadd, 1) := by decide +kernel
theorem dX4_addMachine_158 : decode cX4_addMachine 158 = .ok (.iconst (-1), 1) := by decide +kernel
theorem dX4_addMachine_159 : decode cX4_addMachine 159 = .ok (.iastore, 1) := by decide +kernel
theorem dX4_addMachine_160 : decode cX4_addMachine 160 = .ok (.aload_n 0, 1) := by decide +kernel
theorem dX4_addMachine_161 : decode cX4_addMachine 161 = .ok (.getfield 7, 3) := by decide +kernel
theorem dX4_addMachine_164 : decode cX4_addMachine 164 = .ok (.bipush 13, 2) := by decide +kernel
theorem dX4_addMachine_166 : decode cX4_addMachine 166 = .ok (.dup2, 1) := by decide +kernel
theorem dX4_addMachine_167 : decode cX4_addMachine 167 = .ok (.iaload, 1) := by decide +kernel
theorem dX4_addMachine_168 : decode cX4_addMachine 168 = .ok (.iconst 1, 1) := by decide +kernel
theorem dX4_addMachine_169 : decode cX4_addMachine 169 = .ok (.iadd, 1) := by decide +kernel
theorem dX4_addMachine_170 : decode cX4_addMachine 170 = .ok (.iastore, 1) := by decide +kernel
theorem dX4_addMachine_171 : decode cX4_addMachine 171 = .ok (.aload_n 0, 1) := by decide +kernel
theorem dX4_addMachine_172 : decode cX4_addMachine 172 = .ok (.getfield 7, 3) := by decide +kernel
theorem dX4_addMachine_175 : decode cX4_addMachine 175 = .ok (.bipush 13, 2) := by decide +kernel
theorem dX4_addMachine_177 : decode cX4_addMachine 177 = .ok (.iaload, 1) := by decide +kernel
theorem dX4_addMachine_178 : decode cX4_addMachine 178 = .ok (.iconst 1, 1) := by decide +kernel
theorem dX4_addMachine_179 : decode cX4_addMachine 179 = .ok (.isub, 1) := by decide +kernel
theorem dX4_addMachine_180 : decode cX4_addMachine 180 = .ok (.ireturn, 1) := by decide +kernel
theorem dX4_addCable_0 : decode cX4_addCable 0 = .ok (.aload_n 0, 1) := by decide +kernel
theorem dX4_addCable_1 : decode cX4_addCable 1 = .ok (.iload_n 1, 1) := by decide +kernel
theorem dX4_addCable_2 : decode cX4_addCable 2 = .ok (.invokevirtual 57, 3) := by decide +kernel
theorem dX4_addCable_5 : decode cX4_addCable 5 = .ok (.ifCond .eq 15, 3) := by decide +kernel
theorem dX4_addCable_8 : decode cX4_addCable 8 = .ok (.aload_n 0, 1) := by decide +kernel
theorem dX4_addCable_9 : decode cX4_addCable 9 = .ok (.iload_n 2, 1) := by decide +kernel
theorem dX4_addCable_10 : decode cX4_addCable 10 = .ok (.invokevirtual 57, 3) := by decide +kernel
theorem dX4_addCable_13 : decode cX4_addCable 13 = .ok (.ifCond .eq 7, 3) := by decide +kernel
theorem dX4_addCable_16 : decode cX4_addCable 16 = .ok (.iconst 1, 1) := by decide +kernel
theorem dX4_addCable_17 : decode cX4_addCable 17 = .ok (.goto 4, 3) := by decide +kernel
theorem dX4_addCable_20 : decode cX4_addCable 20 = .ok (.iconst 0, 1) := by decide +kernel
theorem dX4_addCable_21 : decode cX4_addCable 21 = .ok (.istore 4, 2) := by decide +kernel
theorem dX4_addCable_23 : decode cX4_addCable 23 = .ok (.aload_n 0, 1) := by decide +kernel
theorem dX4_addCable_24 : decode cX4_addCable 24 = .ok (.iload 4, 2) := by decide +kernel
theorem dX4_addCable_26 : decode cX4_addCable 26 = .ok (.ifCond .ne 7, 3) := by decide +kernel
theorem dX4_addCable_29 : decode cX4_addCable 29 = .ok (.iconst 1, 1) := by decide +kernel
theorem dX4_addCable_30 : decode cX4_addCable 30 = .ok (.goto 39, 3) := by decide +kernel
theorem dX4_addCable_33 : decode cX4_addCable 33 = .ok (.iload_n 1, 1) := by decide +kernel
theorem dX4_addCable_34 : decode cX4_addCable 34 = .ok (.iload_n 2, 1) := by decide +kernel
theorem dX4_addCable_35 : decode cX4_addCable 35 = .ok (.if_icmp .eq 13, 3) := by decide +kernel
theorem dX4_addCable_38 : decode cX4_addCable 38 = .ok (.iload_n 3, 1) := by decide +kernel
theorem dX4_addCable_39 : decode cX4_addCable 39 = .ok (.iconst 1, 1) := by decide +kernel
theorem dX4_addCable_40 : decode cX4_addCable 40 = .ok (.bipush 20, 2) := by decide +kernel
theorem dX4_addCable_42 : decode cX4_addCable 42 = .ok (.invokestatic 43, 3) := by decide +kernel
theorem dX4_addCable_45 : decode cX4_addCable 45 = .ok (.ifCond .ne 7, 3) := by decide +kernel
theorem dX4_addCable_48 : decode cX4_addCable 48 = .ok (.iconst 2, 1) := by decide +kernel
theorem dX4_addCable_49 : decode cX4_addCable 49 = .ok (.goto 20, 3) := by decide +kernel
theorem dX4_addCable_52 : decode cX4_addCable 52 = .ok (.aload_n 0, 1) := by decide +kernel
theorem dX4_addCable_53 : decode cX4_addCable 53 = .ok (.getfield 7, 3) := by decide +kernel
theorem dX4_addCable_56 : decode cX4_addCable 56 = .ok (.bipush 14, 2) := by decide +kernel
theorem dX4_addCable_58 : decode cX4_addCable 58 = .ok (.iaload, 1) := by decide +kernel
theorem dX4_addCable_59 : decode cX4_addCable 59 = .ok (.bipush 10, 2) := by decide +kernel
theorem dX4_addCable_61 : decode cX4_addCable 61 = .ok (.if_icmp .ne 7, 3) := by decide +kernel
theorem dX4_addCable_64 : decode cX4_addCable 64 = .ok (.iconst 3, 1) := by decide +kernel
theorem dX4_addCable_65 : decode cX4_addCable 65 = .ok (.goto 4, 3) := by decide +kernel
theorem dX4_addCable_68 : decode cX4_addCable 68 = .ok (.iconst 0, 1) := by decide +kernel
theorem dX4_addCable_69 : decode cX4_addCable 69 = .ok (.invokevirtual 36, 3) := by decide +kernel
theorem dX4_addCable_72 : decode cX4_addCable 72 = .ok (.ifCond .eq 5, 3) := by decide +kernel
theorem dX4_addCable_75 : decode cX4_addCable 75 = .ok (.iconst 0, 1) := by decide +kernel
theorem dX4_addCable_76 : decode cX4_addCable 76 = .ok (.ireturn, 1) := by decide +kernel
theorem dX4_addCable_77 : decode cX4_addCable 77 = .ok (.aload_n 0, 1) := by decide +kernel
theorem dX4_addCable_78 : decode cX4_addCable 78 = .ok (.invokevirtual 40, 3) := by decide +kernel
theorem dX4_addCable_81 : decode cX4_addCable 81 = .ok (.aload_n 0, 1) := by decide +kernel
theorem dX4_addCable_82 : decode cX4_addCable 82 = .ok (.bipush 91, 2) := by decide +kernel
theorem dX4_addCable_84 : decode cX4_addCable 84 = .ok (.bipush 14, 2) := by decide +kernel
theorem dX4_addCable_86 : decode cX4_addCable 86 = .ok (.iload_n 1, 1) := by decide +kernel
theorem dX4_addCable_87 : decode cX4_addCable 87 = .ok (.iload_n 2, 1) := by decide +kernel
theorem dX4_addCable_88 : decode cX4_addCable 88 = .ok (.iload_n 3, 1) := by decide +kernel
theorem dX4_addCable_89 : decode cX4_addCable 89 = .ok (.invokevirtual 60, 3) := by decide +kernel
theorem dX4_addCable_92 : decode cX4_addCable 92 = .ok (.ireturn, 1) := by decide +kernel
theorem dX4_adds_0 : decode cX4_adds 0 = .ok (.iload_n 1, 1) := by decide +kernel
theorem dX4_adds_1 : decode cX4_adds 1 = .ok (.iconst 3, 1) := by decide +kernel
theorem dX4_adds_2 : decode cX4_adds 2 = .ok (.aload_n 0, 1) := by decide +kernel
theorem dX4_adds_3 : decode cX4_adds 3 = .ok (.getfield 7, 3) := by decide +kernel
theorem dX4_adds_6 : decode cX4_adds 6 = .ok (.iload_n 2, 1) := by decide +kernel
theorem dX4_adds_7 : decode cX4_adds 7 = .ok (.iaload, 1) := by decide +kernel
theorem dX4_adds_8 : decode cX4_adds 8 = .ok (.imul, 1) := by decide +kernel
theorem dX4_adds_9 : decode cX4_adds 9 = .ok (.iadd, 1) := by decide +kernel
theorem dX4_adds_10 : decode cX4_adds 10 = .ok (.istore 6, 2) := by decide +kernel
theorem dX4_adds_12 : decode cX4_adds 12 = .ok (.aload_n 0, 1) := by decide +kernel
theorem dX4_adds_13 : decode cX4_adds 13 = .ok (.getfield 7, 3) := by decide +kernel
theorem dX4_adds_16 : decode cX4_adds 16 = .ok (.iload 6, 2) := by decide +kernel
theorem dX4_adds_18 : decode cX4_adds 18 = .ok (.iload_n 3, 1) := by decide +kernel
theorem dX4_adds_19 : decode cX4_adds 19 = .ok (.iastore, 1) := by decide +kernel
theorem dX4_adds_20 : decode cX4_adds 20 = .ok (.aload_n 0, 1) := by decide +kernel
theorem dX4_adds_21 : decode cX4_adds 21 = .ok (.getfield 7, 3) := by decide +kernel
theorem dX4_adds_24 : decode cX4_adds 24 = .ok (.iload 6, 2) := by decide +kernel
theorem dX4_adds_26 : decode cX4_adds 26 = .ok (.iconst 1, 1) := by decide +kernel
theorem dX4_adds_27 : decode cX4_adds 27 = .ok (.iadd, 1) := by decide +kernel
theorem dX4_adds_28 : decode cX4_adds 28 = .ok (.iload 4, 2) := by decide +kernel
theorem dX4_adds_30 : decode cX4_adds 30 = .ok (.iastore, 1) := by decide +kernel
theorem dX4_adds_31 : decode cX4_adds 31 = .ok (.aload_n 0, 1) := by decide +kernel
theorem dX4_adds_32 : decode cX4_adds 32 = .ok (.getfield 7, 3) := by decide +kernel
theorem dX4_adds_35 : decode cX4_adds 35 = .ok (.iload 6, 2) := by decide +kernel
theorem dX4_adds_37 : decode cX4_adds 37 = .ok (.iconst 2, 1) := by decide +kernel
theorem dX4_adds_38 : decode cX4_adds 38 = .ok (.iadd, 1) := by decide +kernel
theorem dX4_adds_39 : decode cX4_adds 39 = .ok (.iload 5, 2) := by decide +kernel
theorem dX4_adds_41 : decode cX4_adds 41 = .ok (.iastore, 1) := by decide +kernel
theorem dX4_adds_42 : decode cX4_adds 42 = .ok (.aload_n 0, 1) := by decide +kernel
theorem dX4_adds_43 : decode cX4_adds 43 = .ok (.getfield 7, 3) := by decide +kernel
theorem dX4_adds_46 : decode cX4_adds 46 = .ok (.iload_n 2, 1) := by decide +kernel
theorem dX4_adds_47 : decode cX4_adds 47 = .ok (.dup2, 1) := by decide +kernel
theorem dX4_adds_48 : decode cX4_adds 48 = .ok (.iaload, 1) := by decide +kernel
theorem dX4_adds_49 : decode cX4_adds 49 = .ok (.iconst 1, 1) := by decide +kernel
theorem dX4_adds_50 : decode cX4_adds 50 = .ok (.iadd, 1) := by decide +kernel
theorem dX4_adds_51 : decode cX4_adds 51 = .ok (.iastore, 1) := by decide +kernel
theorem dX4_adds_52 : decode cX4_adds 52 = .ok (.aload_n 0, 1) := by decide +kernel
theorem dX4_adds_53 : decode cX4_adds 53 = .ok (.getfield 7, 3) := by decide +kernel
theorem dX4_adds_56 : decode cX4_adds 56 = .ok (.iload_n 2, 1) := by decide +kernel
theorem dX4_adds_57 : decode cX4_adds 57 = .ok (.iaload, 1) := by decide +kernel
theorem dX4_adds_58 : decode cX4_adds 58 = .ok (.iconst 1, 1) := by decide +kernel
theorem dX4_adds_59 : decode cX4_adds 59 = .ok (.isub, 1) := by decide +kernel
theorem dX4_adds_60 : decode cX4_adds 60 = .ok (.ireturn, 1) := by decide +kernel
theorem dX4_drops_0 : decode cX4_drops 0 = .ok (.aload_n 0, 1) := by decide +kernel
theorem dX4_drops_1 : decode cX4_drops 1 = .ok (.getfield 7, 3) := by decide +kernel
theorem dX4_drops_4 : decode cX4_drops 4 = .ok (.iload_n 2, 1) := by decide +kernel
theorem dX4_drops_5 : decode cX4_drops 5 = .ok (.dup2, 1) := by decide +kernel
theorem dX4_drops_6 : decode cX4_drops 6 = .ok (.iaload, 1) := by decide +kernel
theorem dX4_drops_7 : decode cX4_drops 7 = .ok (.iconst 1, 1) := by decide +kernel
theorem dX4_drops_8 : decode cX4_drops 8 = .ok (.isub, 1) := by decide +kernel
theorem dX4_drops_9 : decode cX4_drops 9 = .ok (.iastore, 1) := by decide +kernel
theorem dX4_drops_10 : decode cX4_drops 10 = .ok (.iload_n 1, 1) := by decide +kernel
theorem dX4_drops_11 : decode cX4_drops 11 = .ok (.iconst 3, 1) := by decide +kernel
theorem dX4_drops_12 : decode cX4_drops 12 = .ok (.iload_n 3, 1) := by decide +kernel
theorem dX4_drops_13 : decode cX4_drops 13 = .ok (.imul, 1) := by decide +kernel
theorem dX4_drops_14 : decode cX4_drops 14 = .ok (.iadd, 1) := by decide +kernel
theorem dX4_drops_15 : decode cX4_drops 15 = .ok (.istore 4, 2) := by decide +kernel
theorem dX4_drops_17 : decode cX4_drops 17 = .ok (.iload 4, 2) := by decide +kernel
theorem dX4_drops_19 : decode cX4_drops 19 = .ok (.iload_n 1, 1) := by decide +kernel
theorem dX4_drops_20 : decode cX4_drops 20 = .ok (.iconst 3, 1) := by decide +kernel
theorem dX4_drops_21 : decode cX4_drops 21 = .ok (.aload_n 0, 1) := by decide +kernel
theorem dX4_drops_22 : decode cX4_drops 22 = .ok (.getfield 7, 3) := by decide +kernel
theorem dX4_drops_25 : decode cX4_drops 25 = .ok (.iload_n 2, 1) := by decide +kernel
theorem dX4_drops_26 : decode cX4_drops 26 = .ok (.iaload, 1) := by decide +kernel
theorem dX4_drops_27 : decode cX4_drops 27 = .ok (.imul, 1) := by decide +kernel
theorem dX4_drops_28 : decode cX4_drops 28 = .ok (.iadd, 1) := by decide +kernel
theorem dX4_drops_29 : decode cX4_drops 29 = .ok (.if_icmp .ge 25, 3) := by decide +kernel
theorem dX4_drops_32 : decode cX4_drops 32 = .ok (.aload_n 0, 1) := by decide +kernel
theorem dX4_drops_33 : decode cX4_drops 33 = .ok (.getfield 7, 3) := by decide +kernel
theorem dX4_drops_36 : decode cX4_drops 36 = .ok (.iload 4, 2) := by decide +kernel
theorem dX4_drops_38 : decode cX4_drops 38 = .ok (.aload_n 0, 1) := by decide +kernel
theorem dX4_drops_39 : decode cX4_drops 39 = .ok (.getfield 7, 3) := by decide +kernel
theorem dX4_drops_42 : decode cX4_drops 42 = .ok (.iload 4, 2) := by decide +kernel
theorem dX4_drops_44 : decode cX4_drops 44 = .ok (.iconst 3, 1) := by decide +kernel
theorem dX4_drops_45 : decode cX4_drops 45 = .ok (.iadd, 1) := by decide +kernel
theorem dX4_drops_46 : decode cX4_drops 46 = .ok (.iaload, 1) := by decide +kernel
theorem dX4_drops_47 : decode cX4_drops 47 = .ok (.iastore, 1) := by decide +kernel
theorem dX4_drops_48 : decode cX4_drops 48 = .ok (.iinc 4 1, 3) := by decide +kernel
theorem dX4_drops_51 : decode cX4_drops 51 = .ok (.goto (-34), 3) := by decide +kernel
theorem dX4_drops_54 : decode cX4_drops 54 = .ok (.aload_n 0, 1) := by decide +kernel
theorem dX4_drops_55 : decode cX4_drops 55 = .ok (.getfield 7, 3) := by decide +kernel
theorem dX4_drops_58 : decode cX4_drops 58 = .ok (.iload_n 2, 1) := by decide +kernel
theorem dX4_drops_59 : decode cX4_drops 59 = .ok (.iaload, 1) := by decide +kernel
theorem dX4_drops_60 : decode cX4_drops 60 = .ok (.ireturn, 1) := by decide +kernel
theorem dX4_isCable_0 : decode cX4_isCable 0 = .ok (.iload_n 1, 1) := by decide +kernel
theorem dX4_isCable_1 : decode cX4_isCable 1 = .ok (.iconst 0, 1) := by decide +kernel
theorem dX4_isCable_2 : decode cX4_isCable 2 = .ok (.aload_n 0, 1) := by decide +kernel
theorem dX4_isCable_3 : decode cX4_isCable 3 = .ok (.getfield 7, 3) := by decide +kernel
theorem dX4_isCable_6 : decode cX4_isCable 6 = .ok (.bipush 14, 2) := by decide +kernel
theorem dX4_isCable_8 : decode cX4_isCable 8 = .ok (.iaload, 1) := by decide +kernel
theorem dX4_isCable_9 : decode cX4_isCable 9 = .ok (.iconst 1, 1) := by decide +kernel
theorem dX4_isCable_10 : decode cX4_isCable 10 = .ok (.isub, 1) := by decide +kernel
theorem dX4_isCable_11 : decode cX4_isCable 11 = .ok (.invokestatic 43, 3) := by decide +kernel
theorem dX4_isCable_14 : decode cX4_isCable 14 = .ok (.ireturn, 1) := by decide +kernel
theorem dX4_removeCable_0 : decode cX4_removeCable 0 = .ok (.aload_n 0, 1) := by decide +kernel
theorem dX4_removeCable_1 : decode cX4_removeCable 1 = .ok (.aload_n 0, 1) := by decide +kernel
theorem dX4_removeCable_2 : decode cX4_removeCable 2 = .ok (.iload_n 1, 1) := by decide +kernel
theorem dX4_removeCable_3 : decode cX4_removeCable 3 = .ok (.invokevirtual 64, 3) := by decide +kernel
theorem dX4_removeCable_6 : decode cX4_removeCable 6 = .ok (.ifCond .eq 7, 3) := by decide +kernel
theorem dX4_removeCable_9 : decode cX4_removeCable 9 = .ok (.iconst 0, 1) := by decide +kernel
theorem dX4_removeCable_10 : decode cX4_removeCable 10 = .ok (.goto 4, 3) := by decide +kernel
theorem dX4_removeCable_13 : decode cX4_removeCable 13 = .ok (.iconst 1, 1) := by decide +kernel
theorem dX4_removeCable_14 : decode cX4_removeCable 14 = .ok (.invokevirtual 36, 3) := by decide +kernel
theorem dX4_removeCable_17 : decode cX4_removeCable 17 = .ok (.ifCond .eq 5, 3) := by decide +kernel
theorem dX4_removeCable_20 : decode cX4_removeCable 20 = .ok (.iconst 0, 1) := by decide +kernel
theorem dX4_removeCable_21 : decode cX4_removeCable 21 = .ok (.ireturn, 1) := by decide +kernel
theorem dX4_removeCable_22 : decode cX4_removeCable 22 = .ok (.aload_n 0, 1) := by decide +kernel
theorem dX4_removeCable_23 : decode cX4_removeCable 23 = .ok (.invokevirtual 40, 3) := by decide +kernel
theorem dX4_removeCable_26 : decode cX4_removeCable 26 = .ok (.aload_n 0, 1) := by decide +kernel
theorem dX4_removeCable_27 : decode cX4_removeCable 27 = .ok (.bipush 91, 2) := by decide +kernel
theorem dX4_removeCable_29 : decode cX4_removeCable 29 = .ok (.bipush 14, 2) := by decide +kernel
theorem dX4_removeCable_31 : decode cX4_removeCable 31 = .ok (.iload_n 1, 1) := by decide +kernel
theorem dX4_removeCable_32 : decode cX4_removeCable 32 = .ok (.invokevirtual 67, 3) := by decide +kernel
theorem dX4_removeCable_35 : decode cX4_removeCable 35 = .ok (.ireturn, 1) := by decide +kernel
theorem dX4_addFreeze_0 : decode cX4_addFreeze 0 = .ok (.iload_n 1, 1) := by decide +kernel
theorem dX4_addFreeze_1 : decode cX4_addFreeze 1 = .ok (.iconst 0, 1) := by decide +kernel
theorem dX4_addFreeze_2 : decode cX4_addFreeze 2 = .ok (.iconst 3, 1) := by decide +kernel
theorem dX4_addFreeze_3 : decode cX4_addFreeze 3 = .ok (.invokestatic 43, 3) := by decide +kernel
theorem dX4_addFreeze_6 : decode cX4_addFreeze 6 = .ok (.ifCond .eq 28, 3) := by decide +kernel
theorem dX4_addFreeze_9 : decode cX4_addFreeze 9 = .ok (.iload_n 2, 1) := by decide +kernel
theorem dX4_addFreeze_10 : decode cX4_addFreeze 10 = .ok (.iconst 0, 1) := by decide +kernel
theorem dX4_addFreeze_11 : decode cX4_addFreeze 11 = .ok (.sipush 999, 3) := by decide +kernel
theorem dX4_addFreeze_14 : decode cX4_addFreeze 14 = .ok (.invokestatic 43, 3) := by decide +kernel
theorem dX4_addFreeze_17 : decode cX4_addFreeze 17 = .ok (.ifCond .eq 17, 3) := by decide +kernel
theorem dX4_addFreeze_20 : decode cX4_addFreeze 20 = .ok (.iload_n 3, 1) := by decide +kernel
theorem dX4_addFreeze_21 : decode cX4_addFreeze 21 = .ok (.iconst 1, 1) := by decide +kernel
theorem dX4_addFreeze_22 : decode cX4_addFreeze 22 = .ok (.bipush 99, 2) := by decide +kernel
theorem dX4_addFreeze_24 : decode cX4_addFreeze 24 = .ok (.invokestatic 43, 3) := by decide +kernel
theorem dX4_addFreeze_27 : decode cX4_addFreeze 27 = .ok (.ifCond .eq 7, 3) := by decide +kernel
theorem dX4_addFreeze_30 : decode cX4_addFreeze 30 = .ok (.iconst 1, 1) := by decide +kernel
theorem dX4_addFreeze_31 : decode cX4_addFreeze 31 = .ok (.goto 4, 3) := by decide +kernel
theorem dX4_addFreeze_34 : decode cX4_addFreeze 34 = .ok (.iconst 0, 1) := by decide +kernel
theorem dX4_addFreeze_35 : decode cX4_addFreeze 35 = .ok (.istore 4, 2) := by decide +kernel
theorem dX4_addFreeze_37 : decode cX4_addFreeze 37 = .ok (.aload_n 0, 1) := by decide +kernel
theorem dX4_addFreeze_38 : decode cX4_addFreeze 38 = .ok (.iload 4, 2) := by decide +kernel
theorem dX4_addFreeze_40 : decode cX4_addFreeze 40 = .ok (.ifCond .ne 7, 3) := by decide +kernel
theorem dX4_addFreeze_43 : decode cX4_addFreeze 43 = .ok (.iconst 1, 1) := by decide +kernel
theorem dX4_addFreeze_44 : decode cX4_addFreeze 44 = .ok (.goto 20, 3) := by decide +kernel
theorem dX4_addFreeze_47 : decode cX4_addFreeze 47 = .ok (.aload_n 0, 1) := by decide +kernel
theorem dX4_addFreeze_48 : decode cX4_addFreeze 48 = .ok (.getfield 7, 3) := by decide +kernel
theorem dX4_addFreeze_51 : decode cX4_addFreeze 51 = .ok (.bipush 15, 2) := by decide +kernel
theorem dX4_addFreeze_53 : decode cX4_addFreeze 53 = .ok (.iaload, 1) := by decide +kernel
theorem dX4_addFreeze_54 : decode cX4_addFreeze 54 = .ok (.bipush 6, 2) := by decide +kernel
theorem dX4_addFreeze_56 : decode cX4_addFreeze 56 = .ok (.if_icmp .ne 7, 3) := by decide +kernel
theorem dX4_addFreeze_59 : decode cX4_addFreeze 59 = .ok (.iconst 2, 1) := by decide +kernel
theorem dX4_addFreeze_60 : decode cX4_addFreeze 60 = .ok (.goto 4, 3) := by decide +kernel
theorem dX4_addFreeze_63 : decode cX4_addFreeze 63 = .ok (.iconst 0, 1) := by decide +kernel
theorem dX4_addFreeze_64 : decode cX4_addFreeze 64 = .ok (.invokevirtual 36, 3) := by decide +kernel
theorem dX4_addFreeze_67 : decode cX4_addFreeze 67 = .ok (.ifCond .eq 5, 3) := by decide +kernel
theorem dX4_addFreeze_70 : decode cX4_addFreeze 70 = .ok (.iconst 0, 1) := by decide +kernel
theorem dX4_addFreeze_71 : decode cX4_addFreeze 71 = .ok (.ireturn, 1) := by decide +kernel
theorem dX4_addFreeze_72 : decode cX4_addFreeze 72 = .ok (.aload_n 0, 1) := by decide +kernel
theorem dX4_addFreeze_73 : decode cX4_addFreeze 73 = .ok (.invokevirtual 40, 3) := by decide +kernel
theorem dX4_addFreeze_76 : decode cX4_addFreeze 76 = .ok (.aload_n 0, 1) := by decide +kernel
theorem dX4_addFreeze_77 : decode cX4_addFreeze 77 = .ok (.bipush 121, 2) := by decide +kernel
theorem dX4_addFreeze_79 : decode cX4_addFreeze 79 = .ok (.bipush 15, 2) := by decide +kernel
theorem dX4_addFreeze_81 : decode cX4_addFreeze 81 = .ok (.iload_n 1, 1) := by decide +kernel
theorem dX4_addFreeze_82 : decode cX4_addFreeze 82 = .ok (.iload_n 2, 1) := by decide +kernel
theorem dX4_addFreeze_83 : decode cX4_addFreeze 83 = .ok (.iload_n 3, 1) := by decide +kernel
theorem dX4_addFreeze_84 : decode cX4_addFreeze 84 = .ok (.invokevirtual 60, 3) := by decide +kernel
theorem dX4_addFreeze_87 : decode cX4_addFreeze 87 = .ok (.ireturn, 1) := by decide +kernel
theorem dX4_removeFreeze_0 : decode cX4_removeFreeze 0 = .ok (.aload_n 0, 1) := by decide +kernel
theorem dX4_removeFreeze_1 : decode cX4_removeFreeze 1 = .ok (.iload_n 1, 1) := by decide +kernel
theorem dX4_removeFreeze_2 : decode cX4_removeFreeze 2 = .ok (.iconst 0, 1) := by decide +kernel
theorem dX4_removeFreeze_3 : decode cX4_removeFreeze 3 = .ok (.aload_n 0, 1) := by decide +kernel
theorem dX4_removeFreeze_4 : decode cX4_removeFreeze 4 = .ok (.getfield 7, 3) := by decide +kernel
theorem dX4_removeFreeze_7 : decode cX4_removeFreeze 7 = .ok (.bipush 15, 2) := by decide +kernel
theorem dX4_removeFreeze_9 : decode cX4_removeFreeze 9 = .ok (.iaload, 1) := by decide +kernel
theorem dX4_removeFreeze_10 : decode cX4_removeFreeze 10 = .ok (.iconst 1, 1) := by decide +kernel
theorem dX4_removeFreeze_11 : decode cX4_removeFreeze 11 = .ok (.isub, 1) := by decide +kernel
theorem dX4_removeFreeze_12 : decode cX4_removeFreeze 12 = .ok (.invokestatic 43, 3) := by decide +kernel
theorem dX4_removeFreeze_15 : decode cX4_removeFreeze 15 = .ok (.ifCond .eq 7, 3) := by decide +kernel
theorem dX4_removeFreeze_18 : decode cX4_removeFreeze 18 = .ok (.iconst 0, 1) := by decide +kernel
theorem dX4_removeFreeze_19 : decode cX4_removeFreeze 19 = .ok (.goto 4, 3) := by decide +kernel
theorem dX4_removeFreeze_22 : decode cX4_removeFreeze 22 = .ok (.iconst 1, 1) := by decide +kernel
theorem dX4_removeFreeze_23 : decode cX4_removeFreeze 23 = .ok (.invokevirtual 36, 3) := by decide +kernel
theorem dX4_removeFreeze_26 : decode cX4_removeFreeze 26 = .ok (.ifCond .eq 5, 3) := by decide +kernel
theorem dX4_removeFreeze_29 : decode cX4_removeFreeze 29 = .ok (.iconst 0, 1) := by decide +kernel
theorem dX4_removeFreeze_30 : decode cX4_removeFreeze 30 = .ok (.ireturn, 1) := by decide +kernel
theorem dX4_removeFreeze_31 : decode cX4_removeFreeze 31 = .ok (.aload_n 0, 1) := by decide +kernel
theorem dX4_removeFreeze_32 : decode cX4_removeFreeze 32 = .ok (.invokevirtual 40, 3) := by decide +kernel
theorem dX4_removeFreeze_35 : decode cX4_removeFreeze 35 = .ok (.aload_n 0, 1) := by decide +kernel
theorem dX4_removeFreeze_36 : decode cX4_removeFreeze 36 = .ok (.bipush 121, 2) := by decide +kernel
theorem dX4_removeFreeze_38 : decode cX4_removeFreeze 38 = .ok (.bipush 15, 2) := by decide +kernel
theorem dX4_removeFreeze_40 : decode cX4_removeFreeze 40 = .ok (.iload_n 1, 1) := by decide +kernel
theorem dX4_removeFreeze_41 : decode cX4_removeFreeze 41 = .ok (.invokevirtual 67, 3) := by decide +kernel
theorem dX4_removeFreeze_44 : decode cX4_removeFreeze 44 = .ok (.ireturn, 1) := by decide +kernel
theorem dX4_pass_0 : decode cX4_pass 0 = .ok (.aload_n 0, 1) := by decide +kernel
theorem dX4_pass_1 : decode cX4_pass 1 = .ok (.iload_n 1, 1) := by decide +kernel
theorem dX4_pass_2 : decode cX4_pass 2 = .ok (.iconst 1, 1) := by decide +kernel
theorem dX4_pass_3 : decode cX4_pass 3 = .ok (.bipush 99, 2) := by decide +kernel
theorem dX4_pass_5 : decode cX4_pass 5 = .ok (.invokestatic 43, 3) := by decide +kernel
theorem dX4_pass_8 : decode cX4_pass 8 = .ok (.ifCond .ne 7, 3) := by decide +kernel
theorem dX4_pass_11 : decode cX4_pass 11 = .ok (.iconst 1, 1) := by decide +kernel
theorem dX4_pass_12 : decode cX4_pass 12 = .ok (.goto 23, 3) := by decide +kernel
theorem dX4_pass_15 : decode cX4_pass 15 = .ok (.aload_n 0, 1) := by decide +kernel
theorem dX4_pass_16 : decode cX4_pass 16 = .ok (.getfield 7, 3) := by decide +kernel
theorem dX4_pass_19 : decode cX4_pass 19 = .ok (.bipush 12, 2) := by decide +kernel
theorem dX4_pass_21 : decode cX4_pass 21 = .ok (.iaload, 1) := by decide +kernel
theorem dX4_pass_22 : decode cX4_pass 22 = .ok (.iload_n 1, 1) := by decide +kernel
theorem dX4_pass_23 : decode cX4_pass 23 = .ok (.iadd, 1) := by decide +kernel
theorem dX4_pass_24 : decode cX4_pass 24 = .ok (.sipush 2000, 3) := by decide +kernel
theorem dX4_pass_27 : decode cX4_pass 27 = .ok (.if_icmp .le 7, 3) := by decide +kernel
theorem dX4_pass_30 : decode cX4_pass 30 = .ok (.iconst 2, 1) := by decide +kernel
theorem dX4_pass_31 : decode cX4_pass 31 = .ok (.goto 4, 3) := by decide +kernel
theorem dX4_pass_34 : decode cX4_pass 34 = .ok (.iconst 0, 1) := by decide +kernel
theorem dX4_pass_35 : decode cX4_pass 35 = .ok (.invokevirtual 36, 3) := by decide +kernel
theorem dX4_pass_38 : decode cX4_pass 38 = .ok (.ifCond .eq 5, 3) := by decide +kernel
theorem dX4_pass_41 : decode cX4_pass 41 = .ok (.iconst 0, 1) := by decide +kernel
theorem dX4_pass_42 : decode cX4_pass 42 = .ok (.ireturn, 1) := by decide +kernel
theorem dX4_pass_43 : decode cX4_pass 43 = .ok (.aload_n 0, 1) := by decide +kernel
theorem dX4_pass_44 : decode cX4_pass 44 = .ok (.invokevirtual 40, 3) := by decide +kernel
theorem dX4_pass_47 : decode cX4_pass 47 = .ok (.aload_n 0, 1) := by decide +kernel
theorem dX4_pass_48 : decode cX4_pass 48 = .ok (.getfield 7, 3) := by decide +kernel
theorem dX4_pass_51 : decode cX4_pass 51 = .ok (.bipush 12, 2) := by decide +kernel
theorem dX4_pass_53 : decode cX4_pass 53 = .ok (.dup2, 1) := by decide +kernel
theorem dX4_pass_54 : decode cX4_pass 54 = .ok (.iaload, 1) := by decide +kernel
theorem dX4_pass_55 : decode cX4_pass 55 = .ok (.iload_n 1, 1) := by decide +kernel
theorem dX4_pass_56 : decode cX4_pass 56 = .ok (.iadd, 1) := by decide +kernel
theorem dX4_pass_57 : decode cX4_pass 57 = .ok (.iastore, 1) := by decide +kernel
theorem dX4_pass_58 : decode cX4_pass 58 = .ok (.aload_n 0, 1) := by decide +kernel
theorem dX4_pass_59 : decode cX4_pass 59 = .ok (.getfield 7, 3) := by decide +kernel
theorem dX4_pass_62 : decode cX4_pass 62 = .ok (.bipush 12, 2) := by decide +kernel
theorem dX4_pass_64 : decode cX4_pass 64 = .ok (.iaload, 1) := by decide +kernel
theorem dX4_pass_65 : decode cX4_pass 65 = .ok (.ireturn, 1) := by decide +kernel
theorem dX4_isFrozen_0 : decode cX4_isFrozen 0 = .ok (.iconst 0, 1) := by decide +kernel
theorem dX4_isFrozen_1 : decode cX4_isFrozen 1 = .ok (.istore_n 2, 1) := by decide +kernel
theorem dX4_isFrozen_2 : decode cX4_isFrozen 2 = .ok (.iconst 0, 1) := by decide +kernel
theorem dX4_isFrozen_3 : decode cX4_isFrozen 3 = .ok (.istore_n 3, 1) := by decide +kernel
theorem dX4_isFrozen_4 : decode cX4_isFrozen 4 = .ok (.iload_n 3, 1) := by decide +kernel
theorem dX4_isFrozen_5 : decode cX4_isFrozen 5 = .ok (.aload_n 0, 1) := by decide +kernel
theorem dX4_isFrozen_6 : decode cX4_isFrozen 6 = .ok (.getfield 7, 3) := by decide +kernel
theorem dX4_isFrozen_9 : decode cX4_isFrozen 9 = .ok (.bipush 15, 2) := by decide +kernel
theorem dX4_isFrozen_11 : decode cX4_isFrozen 11 = .ok (.iaload, 1) := by decide +kernel
theorem dX4_isFrozen_12 : decode cX4_isFrozen 12 = .ok (.if_icmp .ge 86, 3) := by decide +kernel
theorem dX4_isFrozen_15 : decode cX4_isFrozen 15 = .ok (.bipush 121, 2) := by decide +kernel
theorem dX4_isFrozen_17 : decode cX4_isFrozen 17 = .ok (.iconst 3, 1) := by decide +kernel
theorem dX4_isFrozen_18 : decode cX4_isFrozen 18 = .ok (.iload_n 3, 1) := by decide +kernel
theorem dX4_isFrozen_19 : decode cX4_isFrozen 19 = .ok (.imul, 1) := by decide +kernel
theorem dX4_isFrozen_20 : decode cX4_isFrozen 20 = .ok (.iadd, 1) := by decide +kernel
theorem dX4_isFrozen_21 : decode cX4_isFrozen 21 = .ok (.istore 4, 2) := by decide +kernel
theorem dX4_isFrozen_23 : decode cX4_isFrozen 23 = .ok (.iload_n 2, 1) := by decide +kernel
theorem dX4_isFrozen_24 : decode cX4_isFrozen 24 = .ok (.ifCond .ne 62, 3) := by decide +kernel
theorem dX4_isFrozen_27 : decode cX4_isFrozen 27 = .ok (.aload_n 0, 1) := by decide +kernel
theorem dX4_isFrozen_28 : decode cX4_isFrozen 28 = .ok (.getfield 7, 3) := by decide +kernel
theorem dX4_isFrozen_31 : decode cX4_isFrozen 31 = .ok (.iload 4, 2) := by decide +kernel
theorem dX4_isFrozen_33 : decode cX4_isFrozen 33 = .ok (.iaload, 1) := by decide +kernel
theorem dX4_isFrozen_34 : decode cX4_isFrozen 34 = .ok (.aload_n 0, 1) := by decide +kernel
theorem dX4_isFrozen_35 : decode cX4_isFrozen 35 = .ok (.iload_n 1, 1) := by decide +kernel
theorem dX4_isFrozen_36 : decode cX4_isFrozen 36 = .ok (.iconst 3, 1) := by decide +kernel
theorem dX4_isFrozen_37 : decode cX4_isFrozen 37 = .ok (.invokevirtual 71, 3) := by decide +kernel
theorem dX4_isFrozen_40 : decode cX4_isFrozen 40 = .ok (.if_icmp .ne 50, 3) := by decide +kernel
theorem dX4_isFrozen_43 : decode cX4_isFrozen 43 = .ok (.aload_n 0, 1) := by decide +kernel
theorem dX4_isFrozen_44 : decode cX4_isFrozen 44 = .ok (.getfield 7, 3) := by decide +kernel
theorem dX4_isFrozen_47 : decode cX4_isFrozen 47 = .ok (.bipush 12, 2) := by decide +kernel
theorem dX4_isFrozen_49 : decode cX4_isFrozen 49 = .ok (.iaload, 1) := by decide +kernel
theorem dX4_isFrozen_50 : decode cX4_isFrozen 50 = .ok (.aload_n 0, 1) := by decide +kernel
theorem dX4_isFrozen_51 : decode cX4_isFrozen 51 = .ok (.getfield 7, 3) := by decide +kernel
theorem dX4_isFrozen_54 : decode cX4_isFrozen 54 = .ok (.iload 4, 2) := by decide +kernel
theorem dX4_isFrozen_56 : decode cX4_isFrozen 56 = .ok (.iconst 1, 1) := by decide +kernel
theorem dX4_isFrozen_57 : decode cX4_isFrozen 57 = .ok (.iadd, 1) := by decide +kernel
theorem dX4_isFrozen_58 : decode cX4_isFrozen 58 = .ok (.iaload, 1) := by decide +kernel
theorem dX4_isFrozen_59 : decode cX4_isFrozen 59 = .ok (.aload_n 0, 1) := by decide +kernel
theorem dX4_isFrozen_60 : decode cX4_isFrozen 60 = .ok (.getfield 7, 3) := by decide +kernel
theorem dX4_isFrozen_63 : decode cX4_isFrozen 63 = .ok (.iload 4, 2) := by decide +kernel
theorem dX4_isFrozen_65 : decode cX4_isFrozen 65 = .ok (.iconst 1, 1) := by decide +kernel
theorem dX4_isFrozen_66 : decode cX4_isFrozen 66 = .ok (.iadd, 1) := by decide +kernel
theorem dX4_isFrozen_67 : decode cX4_isFrozen 67 = .ok (.iaload, 1) := by decide +kernel
theorem dX4_isFrozen_68 : decode cX4_isFrozen 68 = .ok (.aload_n 0, 1) := by decide +kernel
theorem dX4_isFrozen_69 : decode cX4_isFrozen 69 = .ok (.getfield 7, 3) := by decide +kernel
theorem dX4_isFrozen_72 : decode cX4_isFrozen 72 = .ok (.iload 4, 2) := by decide +kernel
theorem dX4_isFrozen_74 : decode cX4_isFrozen 74 = .ok (.iconst 2, 1) := by decide +kernel
theorem dX4_isFrozen_75 : decode cX4_isFrozen 75 = .ok (.iadd, 1) := by decide +kernel
theorem dX4_isFrozen_76 : decode cX4_isFrozen 76 = .ok (.iaload, 1) := by decide +kernel
theorem dX4_isFrozen_77 : decode cX4_isFrozen 77 = .ok (.iadd, 1) := by decide +kernel
theorem dX4_isFrozen_78 : decode cX4_isFrozen 78 = .ok (.iconst 1, 1) := by decide +kernel
theorem dX4_isFrozen_79 : decode cX4_isFrozen 79 = .ok (.isub, 1) := by decide +kernel
theorem dX4_isFrozen_80 : decode cX4_isFrozen 80 = .ok (.invokestatic 43, 3) := by decide +kernel
theorem dX4_isFrozen_83 : decode cX4_isFrozen 83 = .ok (.ifCond .eq 7, 3) := by decide +kernel
theorem dX4_isFrozen_86 : decode cX4_isFrozen 86 = .ok (.iconst 1, 1) := by decide +kernel
theorem dX4_isFrozen_87 : decode cX4_isFrozen 87 = .ok (.goto 4, 3) := by decide +kernel
theorem dX4_isFrozen_90 : decode cX4_isFrozen 90 = .ok (.iconst 0, 1) := by decide +kernel
theorem dX4_isFrozen_91 : decode cX4_isFrozen 91 = .ok (.istore_n 2, 1) := by decide +kernel
theorem dX4_isFrozen_92 : decode cX4_isFrozen 92 = .ok (.iinc 3 1, 3) := by decide +kernel
theorem dX4_isFrozen_95 : decode cX4_isFrozen 95 = .ok (.goto (-91), 3) := by decide +kernel
theorem dX4_isFrozen_98 : decode cX4_isFrozen 98 = .ok (.iload_n 2, 1) := by decide +kernel
theorem dX4_isFrozen_99 : decode cX4_isFrozen 99 = .ok (.ireturn, 1) := by decide +kernel
theorem dX4_cablesOf_0 : decode cX4_cablesOf 0 = .ok (.iconst 0, 1) := by decide +kernel
theorem dX4_cablesOf_1 : decode cX4_cablesOf 1 = .ok (.istore_n 2, 1) := by decide +kernel
theorem dX4_cablesOf_2 : decode cX4_cablesOf 2 = .ok (.iconst 0, 1) := by decide +kernel
theorem dX4_cablesOf_3 : decode cX4_cablesOf 3 = .ok (.istore_n 3, 1) := by decide +kernel
theorem dX4_cablesOf_4 : decode cX4_cablesOf 4 = .ok (.iload_n 3, 1) := by decide +kernel
theorem dX4_cablesOf_5 : decode cX4_cablesOf 5 = .ok (.aload_n 0, 1) := by decide +kernel
theorem dX4_cablesOf_6 : decode cX4_cablesOf 6 = .ok (.getfield 7, 3) := by decide +kernel
theorem dX4_cablesOf_9 : decode cX4_cablesOf 9 = .ok (.bipush 14, 2) := by decide +kernel
theorem dX4_cablesOf_11 : decode cX4_cablesOf 11 = .ok (.iaload, 1) := by decide +kernel
theorem dX4_cablesOf_12 : decode cX4_cablesOf 12 = .ok (.if_icmp .ge 49, 3) := by decide +kernel
theorem dX4_cablesOf_15 : decode cX4_cablesOf 15 = .ok (.iload_n 2, 1) := by decide +kernel
theorem dX4_cablesOf_16 : decode cX4_cablesOf 16 = .ok (.aload_n 0, 1) := by decide +kernel
theorem dX4_cablesOf_17 : decode cX4_cablesOf 17 = .ok (.getfield 7, 3) := by decide +kernel
theorem dX4_cablesOf_20 : decode cX4_cablesOf 20 = .ok (.bipush 91, 2) := by decide +kernel
theorem dX4_cablesOf_22 : decode cX4_cablesOf 22 = .ok (.iconst 3, 1) := by decide +kernel
theorem dX4_cablesOf_23 : decode cX4_cablesOf 23 = .ok (.iload_n 3, 1) := by decide +kernel
theorem dX4_cablesOf_24 : decode cX4_cablesOf 24 = .ok (.imul, 1) := by decide +kernel
theorem dX4_cablesOf_25 : decode cX4_cablesOf 25 = .ok (.iadd, 1) := by decide +kernel
theorem dX4_cablesOf_26 : decode cX4_cablesOf 26 = .ok (.iaload, 1) := by decide +kernel
theorem dX4_cablesOf_27 : decode cX4_cablesOf 27 = .ok (.iload_n 1, 1) := by decide +kernel
theorem dX4_cablesOf_28 : decode cX4_cablesOf 28 = .ok (.if_icmp .eq 20, 3) := by decide +kernel
theorem dX4_cablesOf_31 : decode cX4_cablesOf 31 = .ok (.aload_n 0, 1) := by decide +kernel
theorem dX4_cablesOf_32 : decode cX4_cablesOf 32 = .ok (.getfield 7, 3) := by decide +kernel
theorem dX4_cablesOf_35 : decode cX4_cablesOf 35 = .ok (.bipush 91, 2) := by decide +kernel
theorem dX4_cablesOf_37 : decode cX4_cablesOf 37 = .ok (.iconst 3, 1) := by decide +kernel
theorem dX4_cablesOf_38 : decode cX4_cablesOf 38 = .ok (.iload_n 3, 1) := by decide +kernel
theorem dX4_cablesOf_39 : decode cX4_cablesOf 39 = .ok (.imul, 1) := by decide +kernel
theorem dX4_cablesOf_40 : decode cX4_cablesOf 40 = .ok (.iadd, 1) := by decide +kernel
theorem dX4_cablesOf_41 : decode cX4_cablesOf 41 = .ok (.iconst 1, 1) := by decide +kernel
theorem dX4_cablesOf_42 : decode cX4_cablesOf 42 = .ok (.iadd, 1) := by decide +kernel
theorem dX4_cablesOf_43 : decode cX4_cablesOf 43 = .ok (.iaload, 1) := by decide +kernel
theorem dX4_cablesOf_44 : decode cX4_cablesOf 44 = .ok (.iload_n 1, 1) := by decide +kernel
theorem dX4_cablesOf_45 : decode cX4_cablesOf 45 = .ok (.if_icmp .ne 7, 3) := by decide +kernel
theorem dX4_cablesOf_48 : decode cX4_cablesOf 48 = .ok (.iconst 1, 1) := by decide +kernel
theorem dX4_cablesOf_49 : decode cX4_cablesOf 49 = .ok (.goto 4, 3) := by decide +kernel
theorem dX4_cablesOf_52 : decode cX4_cablesOf 52 = .ok (.iconst 0, 1) := by decide +kernel
theorem dX4_cablesOf_53 : decode cX4_cablesOf 53 = .ok (.iadd, 1) := by decide +kernel
theorem dX4_cablesOf_54 : decode cX4_cablesOf 54 = .ok (.istore_n 2, 1) := by decide +kernel
theorem dX4_cablesOf_55 : decode cX4_cablesOf 55 = .ok (.iinc 3 1, 3) := by decide +kernel
theorem dX4_cablesOf_58 : decode cX4_cablesOf 58 = .ok (.goto (-54), 3) := by decide +kernel
theorem dX4_cablesOf_61 : decode cX4_cablesOf 61 = .ok (.iload_n 2, 1) := by decide +kernel
theorem dX4_cablesOf_62 : decode cX4_cablesOf 62 = .ok (.ireturn, 1) := by decide +kernel
theorem dX4_tellMachine_0 : decode cX4_tellMachine 0 = .ok (.iload_n 2, 1) := by decide +kernel
theorem dX4_tellMachine_1 : decode cX4_tellMachine 1 = .ok (.bipush 6, 2) := by decide +kernel
theorem dX4_tellMachine_3 : decode cX4_tellMachine 3 = .ok (.if_icmp .ge 12, 3) := by decide +kernel
theorem dX4_tellMachine_6 : decode cX4_tellMachine 6 = .ok (.aload_n 0, 1) := by decide +kernel
theorem dX4_tellMachine_7 : decode cX4_tellMachine 7 = .ok (.iload_n 1, 1) := by decide +kernel
theorem dX4_tellMachine_8 : decode cX4_tellMachine 8 = .ok (.iload_n 2, 1) := by decide +kernel
theorem dX4_tellMachine_9 : decode cX4_tellMachine 9 = .ok (.invokevirtual 71, 3) := by decide +kernel
theorem dX4_tellMachine_12 : decode cX4_tellMachine 12 = .ok (.goto 30, 3) := by decide +kernel
theorem dX4_tellMachine_15 : decode cX4_tellMachine 15 = .ok (.iload_n 2, 1) := by decide +kernel
theorem dX4_tellMachine_16 : decode cX4_tellMachine 16 = .ok (.bipush 6, 2) := by decide +kernel
theorem dX4_tellMachine_18 : decode cX4_tellMachine 18 = .ok (.if_icmp .ne 19, 3) := by decide +kernel
theorem dX4_tellMachine_21 : decode cX4_tellMachine 21 = .ok (.aload_n 0, 1) := by decide +kernel
theorem dX4_tellMachine_22 : decode cX4_tellMachine 22 = .ok (.iload_n 1, 1) := by decide +kernel
theorem dX4_tellMachine_23 : decode cX4_tellMachine 23 = .ok (.invokevirtual 74, 3) := by decide +kernel
theorem dX4_tellMachine_26 : decode cX4_tellMachine 26 = .ok (.ifCond .eq 7, 3) := by decide +kernel
theorem dX4_tellMachine_29 : decode cX4_tellMachine 29 = .ok (.iconst 1, 1) := by decide +kernel
theorem dX4_tellMachine_30 : decode cX4_tellMachine 30 = .ok (.goto 12, 3) := by decide +kernel
theorem dX4_tellMachine_33 : decode cX4_tellMachine 33 = .ok (.iconst 0, 1) := by decide +kernel
theorem dX4_tellMachine_34 : decode cX4_tellMachine 34 = .ok (.goto 8, 3) := by decide +kernel
theorem dX4_tellMachine_37 : decode cX4_tellMachine 37 = .ok (.aload_n 0, 1) := by decide +kernel
theorem dX4_tellMachine_38 : decode cX4_tellMachine 38 = .ok (.iload_n 1, 1) := by decide +kernel
theorem dX4_tellMachine_39 : decode cX4_tellMachine 39 = .ok (.invokevirtual 77, 3) := by decide +kernel
theorem dX4_tellMachine_42 : decode cX4_tellMachine 42 = .ok (.ireturn, 1) := by decide +kernel
theorem dX4_machine_0 : decode cX4_machine 0 = .ok (.aload_n 0, 1) := by decide +kernel
theorem dX4_machine_1 : decode cX4_machine 1 = .ok (.aload_n 0, 1) := by decide +kernel
theorem dX4_machine_2 : decode cX4_machine 2 = .ok (.iload_n 1, 1) := by decide +kernel
theorem dX4_machine_3 : decode cX4_machine 3 = .ok (.invokevirtual 57, 3) := by decide +kernel
theorem dX4_machine_6 : decode cX4_machine 6 = .ok (.ifCond .ne 7, 3) := by decide +kernel
theorem dX4_machine_9 : decode cX4_machine 9 = .ok (.iconst 1, 1) := by decide +kernel
theorem dX4_machine_10 : decode cX4_machine 10 = .ok (.goto 18, 3) := by decide +kernel
theorem dX4_machine_13 : decode cX4_machine 13 = .ok (.iload_n 2, 1) := by decide +kernel
theorem dX4_machine_14 : decode cX4_machine 14 = .ok (.iconst 0, 1) := by decide +kernel
theorem dX4_machine_15 : decode cX4_machine 15 = .ok (.bipush 7, 2) := by decide +kernel
theorem dX4_machine_17 : decode cX4_machine 17 = .ok (.invokestatic 43, 3) := by decide +kernel
theorem dX4_machine_20 : decode cX4_machine 20 = .ok (.ifCond .eq 7, 3) := by decide +kernel
theorem dX4_machine_23 : decode cX4_machine 23 = .ok (.iconst 0, 1) := by decide +kernel
theorem dX4_machine_24 : decode cX4_machine 24 = .ok (.goto 4, 3) := by decide +kernel
theorem dX4_machine_27 : decode cX4_machine 27 = .ok (.iconst 2, 1) := by decide +kernel
theorem dX4_machine_28 : decode cX4_machine 28 = .ok (.invokevirtual 36, 3) := by decide +kernel
theorem dX4_machine_31 : decode cX4_machine 31 = .ok (.ifCond .eq 7, 3) := by decide +kernel
theorem dX4_machine_34 : decode cX4_machine 34 = .ok (.iconst 0, 1) := by decide +kernel
theorem dX4_machine_35 : decode cX4_machine 35 = .ok (.goto 9, 3) := by decide +kernel
theorem dX4_machine_38 : decode cX4_machine 38 = .ok (.aload_n 0, 1) := by decide +kernel
theorem dX4_machine_39 : decode cX4_machine 39 = .ok (.iload_n 1, 1) := by decide +kernel
theorem dX4_machine_40 : decode cX4_machine 40 = .ok (.iload_n 2, 1) := by decide +kernel
theorem dX4_machine_41 : decode cX4_machine 41 = .ok (.invokevirtual 81, 3) := by decide +kernel
theorem dX4_machine_44 : decode cX4_machine 44 = .ok (.ireturn, 1) := by decide +kernel
theorem dX4_load_0 : decode cX4_load 0 = .ok (.iconst 0, 1) := by decide +kernel
theorem dX4_load_1 : decode cX4_load 1 = .ok (.istore_n 3, 1) := by decide +kernel
theorem dX4_load_2 : decode cX4_load 2 = .ok (.iconst 0, 1) := by decide +kernel
theorem dX4_load_3 : decode cX4_load 3 = .ok (.istore 4, 2) := by decide +kernel
theorem dX4_load_5 : decode cX4_load 5 = .ok (.iload 4, 2) := by decide +kernel
theorem dX4_load_7 : decode cX4_load 7 = .ok (.aload_n 0, 1) := by decide +kernel
theorem dX4_load_8 : decode cX4_load 8 = .ok (.getfield 7, 3) := by decide +kernel
theorem dX4_load_11 : decode cX4_load 11 = .ok (.bipush 13, 2) := by decide +kernel
theorem dX4_load_13 : decode cX4_load 13 = .ok (.iaload, 1) := by decide +kernel
theorem dX4_load_14 : decode cX4_load 14 = .ok (.if_icmp .ge 78, 3) := by decide +kernel
theorem dX4_load_17 : decode cX4_load 17 = .ok (.aload_n 0, 1) := by decide +kernel
theorem dX4_load_18 : decode cX4_load 18 = .ok (.iload 4, 2) := by decide +kernel
theorem dX4_load_20 : decode cX4_load 20 = .ok (.iconst 4, 1) := by decide +kernel
theorem dX4_load_21 : decode cX4_load 21 = .ok (.invokevirtual 71, 3) := by decide +kernel
theorem dX4_load_24 : decode cX4_load 24 = .ok (.iconst (-1), 1) := by decide +kernel
theorem dX4_load_25 : decode cX4_load 25 = .ok (.if_icmp .eq 39, 3) := by decide +kernel
theorem dX4_load_28 : decode cX4_load 28 = .ok (.iload_n 1, 1) := by decide +kernel
theorem dX4_load_29 : decode cX4_load 29 = .ok (.iconst (-1), 1) := by decide +kernel
theorem dX4_load_30 : decode cX4_load 30 = .ok (.if_icmp .eq 14, 3) := by decide +kernel
theorem dX4_load_33 : decode cX4_load 33 = .ok (.aload_n 0, 1) := by decide +kernel
theorem dX4_load_34 : decode cX4_load 34 = .ok (.iload 4, 2) := by decide +kernel
theorem dX4_load_36 : decode cX4_load 36 = .ok (.iconst 4, 1) := by decide +kernel
theorem dX4_load_37 : decode cX4_load 37 = .ok (.invokevirtual 71, 3) := by decide +kernel
theorem dX4_load_40 : decode cX4_load 40 = .ok (.iload_n 1, 1) := by decide +kernel
theorem dX4_load_41 : decode cX4_load 41 = .ok (.if_icmp .ne 23, 3) := by decide +kernel
theorem dX4_load_44 : decode cX4_load 44 = .ok (.iload_n 2, 1) := by decide +kernel
theorem dX4_load_45 : decode cX4_load 45 = .ok (.iconst (-1), 1) := by decide +kernel
theorem dX4_load_46 : decode cX4_load 46 = .ok (.if_icmp .eq 14, 3) := by decide +kernel
theorem dX4_load_49 : decode cX4_load 49 = .ok (.aload_n 0, 1) := by decide +kernel
theorem dX4_load_50 : decode cX4_load 50 = .ok (.iload 4, 2) := by decide +kernel
theorem dX4_load_52 : decode cX4_load 52 = .ok (.iconst 2, 1) := by decide +kernel
theorem dX4_load_53 : decode cX4_load 53 = .ok (.invokevirtual 71, 3) := by decide +kernel
theorem dX4_load_56 : decode cX4_load 56 = .ok (.iload_n 2, 1) := by decide +kernel
theorem dX4_load_57 : decode cX4_load 57 = .ok (.if_icmp .ne 7, 3) := by decide +kernel
theorem dX4_load_60 : decode cX4_load 60 = .ok (.iconst 1, 1) := by decide +kernel
theorem dX4_load_61 : decode cX4_load 61 = .ok (.goto 4, 3) := by decide +kernel
theorem dX4_load_64 : decode cX4_load 64 = .ok (.iconst 0, 1) := by decide +kernel
theorem dX4_load_65 : decode cX4_load 65 = .ok (.istore 5, 2) := by decide +kernel
theorem dX4_load_67 : decode cX4_load 67 = .ok (.iload_n 3, 1) := by decide +kernel
theorem dX4_load_68 : decode cX4_load 68 = .ok (.iload 5, 2) := by decide +kernel
theorem dX4_load_70 : decode cX4_load 70 = .ok (.ifCond .eq 13, 3) := by decide +kernel
theorem dX4_load_73 : decode cX4_load 73 = .ok (.aload_n 0, 1) := by decide +kernel
theorem dX4_load_74 : decode cX4_load 74 = .ok (.iload 4, 2) := by decide +kernel
theorem dX4_load_76 : decode cX4_load 76 = .ok (.iconst 1, 1) := by decide +kernel
theorem dX4_load_77 : decode cX4_load 77 = .ok (.invokevirtual 71, 3) := by decide +kernel
theorem dX4_load_80 : decode cX4_load 80 = .ok (.goto 4, 3) := by decide +kernel
theorem dX4_load_83 : decode cX4_load 83 = .ok (.iconst 0, 1) := by decide +kernel
theorem dX4_load_84 : decode cX4_load 84 = .ok (.iadd, 1) := by decide +kernel
theorem dX4_load_85 : decode cX4_load 85 = .ok (.istore_n 3, 1) := by decide +kernel
theorem dX4_load_86 : decode cX4_load 86 = .ok (.iinc 4 1, 3) := by decide +kernel
theorem dX4_load_89 : decode cX4_load 89 = .ok (.goto (-84), 3) := by decide +kernel
theorem dX4_load_92 : decode cX4_load 92 = .ok (.iload_n 3, 1) := by decide +kernel
theorem dX4_load_93 : decode cX4_load 93 = .ok (.ireturn, 1) := by decide +kernel
theorem dX4_machineAt_0 : decode cX4_machineAt 0 = .ok (.iconst 0, 1) := by decide +kernel
theorem dX4_machineAt_1 : decode cX4_machineAt 1 = .ok (.istore_n 3, 1) := by decide +kernel
theorem dX4_machineAt_2 : decode cX4_machineAt 2 = .ok (.iload_n 3, 1) := by decide +kernel
theorem dX4_machineAt_3 : decode cX4_machineAt 3 = .ok (.aload_n 0, 1) := by decide +kernel
theorem dX4_machineAt_4 : decode cX4_machineAt 4 = .ok (.getfield 7, 3) := by decide +kernel
theorem dX4_machineAt_7 : decode cX4_machineAt 7 = .ok (.bipush 13, 2) := by decide +kernel
theorem dX4_machineAt_9 : decode cX4_machineAt 9 = .ok (.iaload, 1) := by decide +kernel
theorem dX4_machineAt_10 : decode cX4_machineAt 10 = .ok (.if_icmp .ge 49, 3) := by decide +kernel
theorem dX4_machineAt_13 : decode cX4_machineAt 13 = .ok (.aload_n 0, 1) := by decide +kernel
theorem dX4_machineAt_14 : decode cX4_machineAt 14 = .ok (.iload_n 3, 1) := by decide +kernel
theorem dX4_machineAt_15 : decode cX4_machineAt 15 = .ok (.iconst 4, 1) := by decide +kernel
theorem dX4_machineAt_16 : decode cX4_machineAt 16 = .ok (.invokevirtual 71, 3) := by decide +kernel
theorem dX4_machineAt_19 : decode cX4_machineAt 19 = .ok (.iload_n 1, 1) := by decide +kernel
theorem dX4_machineAt_20 : decode cX4_machineAt 20 = .ok (.if_icmp .ne 33, 3) := by decide +kernel
theorem dX4_machineAt_23 : decode cX4_machineAt 23 = .ok (.iload_n 2, 1) := by decide +kernel
theorem dX4_machineAt_24 : decode cX4_machineAt 24 = .ok (.aload_n 0, 1) := by decide +kernel
theorem dX4_machineAt_25 : decode cX4_machineAt 25 = .ok (.iload_n 3, 1) := by decide +kernel
theorem dX4_machineAt_26 : decode cX4_machineAt 26 = .ok (.iconst 5, 1) := by decide +kernel
theorem dX4_machineAt_27 : decode cX4_machineAt 27 = .ok (.invokevirtual 71, 3) := by decide +kernel
theorem dX4_machineAt_30 : decode cX4_machineAt 30 = .ok (.aload_n 0, 1) := by decide +kernel
theorem dX4_machineAt_31 : decode cX4_machineAt 31 = .ok (.iload_n 3, 1) := by decide +kernel
theorem dX4_machineAt_32 : decode cX4_machineAt 32 = .ok (.iconst 5, 1) := by decide +kernel
theorem dX4_machineAt_33 : decode cX4_machineAt 33 = .ok (.invokevirtual 71, 3) := by decide +kernel
theorem dX4_machineAt_36 : decode cX4_machineAt 36 = .ok (.aload_n 0, 1) := by decide +kernel
theorem dX4_machineAt_37 : decode cX4_machineAt 37 = .ok (.iload_n 3, 1) := by decide +kernel
theorem dX4_machineAt_38 : decode cX4_machineAt 38 = .ok (.iconst 0, 1) := by decide +kernel
theorem dX4_machineAt_39 : decode cX4_machineAt 39 = .ok (.invokevirtual 71, 3) := by decide +kernel
theorem dX4_machineAt_42 : decode cX4_machineAt 42 = .ok (.iadd, 1) := by decide +kernel
theorem dX4_machineAt_43 : decode cX4_machineAt 43 = .ok (.iconst 1, 1) := by decide +kernel
theorem dX4_machineAt_44 : decode cX4_machineAt 44 = .ok (.isub, 1) := by decide +kernel
theorem dX4_machineAt_45 : decode cX4_machineAt 45 = .ok (.invokestatic 43, 3) := by decide +kernel
theorem dX4_machineAt_48 : decode cX4_machineAt 48 = .ok (.ifCond .eq 5, 3) := by decide +kernel
theorem dX4_machineAt_51 : decode cX4_machineAt 51 = .ok (.iload_n 3, 1) := by decide +kernel
theorem dX4_machineAt_52 : decode cX4_machineAt 52 = .ok (.ireturn, 1) := by decide +kernel
theorem dX4_machineAt_53 : decode cX4_machineAt 53 = .ok (.iinc 3 1, 3) := by decide +kernel
theorem dX4_machineAt_56 : decode cX4_machineAt 56 = .ok (.goto (-54), 3) := by decide +kernel
theorem dX4_machineAt_59 : decode cX4_machineAt 59 = .ok (.iconst (-1), 1) := by decide +kernel
theorem dX4_machineAt_60 : decode cX4_machineAt 60 = .ok (.ireturn, 1) := by decide +kernel
theorem dX4_areFree_0 : decode cX4_areFree 0 = .ok (.iload_n 2, 1) := by decide +kernel
theorem dX4_areFree_1 : decode cX4_areFree 1 = .ok (.iload_n 3, 1) := by decide +kernel
theorem dX4_areFree_2 : decode cX4_areFree 2 = .ok (.iadd, 1) := by decide +kernel
theorem dX4_areFree_3 : decode cX4_areFree 3 = .ok (.bipush 10, 2) := by decide +kernel
theorem dX4_areFree_5 : decode cX4_areFree 5 = .ok (.if_icmp .gt 7, 3) := by decide +kernel
theorem dX4_areFree_8 : decode cX4_areFree 8 = .ok (.iconst 1, 1) := by decide +kernel
theorem dX4_areFree_9 : decode cX4_areFree 9 = .ok (.goto 4, 3) := by decide +kernel
theorem dX4_areFree_12 : decode cX4_areFree 12 = .ok (.iconst 0, 1) := by decide +kernel
theorem dX4_areFree_13 : decode cX4_areFree 13 = .ok (.istore 5, 2) := by decide +kernel
theorem dX4_areFree_15 : decode cX4_areFree 15 = .ok (.iload_n 2, 1) := by decide +kernel
theorem dX4_areFree_16 : decode cX4_areFree 16 = .ok (.istore 6, 2) := by decide +kernel
theorem dX4_areFree_18 : decode cX4_areFree 18 = .ok (.iload 6, 2) := by decide +kernel
theorem dX4_areFree_20 : decode cX4_areFree 20 = .ok (.iload_n 2, 1) := by decide +kernel
theorem dX4_areFree_21 : decode cX4_areFree 21 = .ok (.iload_n 3, 1) := by decide +kernel
theorem dX4_areFree_22 : decode cX4_areFree 22 = .ok (.iadd, 1) := by decide +kernel
theorem dX4_areFree_23 : decode cX4_areFree 23 = .ok (.if_icmp .ge 43, 3) := by decide +kernel
theorem dX4_areFree_26 : decode cX4_areFree 26 = .ok (.iload 5, 2) := by decide +kernel
theorem dX4_areFree_28 : decode cX4_areFree 28 = .ok (.ifCond .eq 38, 3) := by decide +kernel
theorem dX4_areFree_31 : decode cX4_areFree 31 = .ok (.aload_n 0, 1) := by decide +kernel
theorem dX4_areFree_32 : decode cX4_areFree 32 = .ok (.iload_n 1, 1) := by decide +kernel
theorem dX4_areFree_33 : decode cX4_areFree 33 = .ok (.iload 6, 2) := by decide +kernel
theorem dX4_areFree_35 : decode cX4_areFree 35 = .ok (.invokevirtual 84, 3) := by decide +kernel
theorem dX4_areFree_38 : decode cX4_areFree 38 = .ok (.istore 7, 2) := by decide +kernel
theorem dX4_areFree_40 : decode cX4_areFree 40 = .ok (.iload 7, 2) := by decide +kernel
theorem dX4_areFree_42 : decode cX4_areFree 42 = .ok (.iconst (-1), 1) := by decide +kernel
theorem dX4_areFree_43 : decode cX4_areFree 43 = .ok (.if_icmp .eq 10, 3) := by decide +kernel
theorem dX4_areFree_46 : decode cX4_areFree 46 = .ok (.iload 7, 2) := by decide +kernel
theorem dX4_areFree_48 : decode cX4_areFree 48 = .ok (.iload 4, 2) := by decide +kernel
theorem dX4_areFree_50 : decode cX4_areFree 50 = .ok (.if_icmp .ne 7, 3) := by decide +kernel
theorem dX4_areFree_53 : decode cX4_areFree 53 = .ok (.iconst 1, 1) := by decide +kernel
theorem dX4_areFree_54 : decode cX4_areFree 54 = .ok (.goto 4, 3) := by decide +kernel
theorem dX4_areFree_57 : decode cX4_areFree 57 = .ok (.iconst 0, 1) := by decide +kernel
theorem dX4_areFree_58 : decode cX4_areFree 58 = .ok (.istore 5, 2) := by decide +kernel
theorem dX4_areFree_60 : decode cX4_areFree 60 = .ok (.iinc 6 1, 3) := by decide +kernel
theorem dX4_areFree_63 : decode cX4_areFree 63 = .ok (.goto (-45), 3) := by decide +kernel
theorem dX4_areFree_66 : decode cX4_areFree 66 = .ok (.iload 5, 2) := by decide +kernel
theorem dX4_areFree_68 : decode cX4_areFree 68 = .ok (.ireturn, 1) := by decide +kernel
theorem dX4_lowest_0 : decode cX4_lowest 0 = .ok (.iconst 0, 1) := by decide +kernel
theorem dX4_lowest_1 : decode cX4_lowest 1 = .ok (.istore_n 3, 1) := by decide +kernel
theorem dX4_lowest_2 : decode cX4_lowest 2 = .ok (.iload_n 3, 1) := by decide +kernel
theorem dX4_lowest_3 : decode cX4_lowest 3 = .ok (.bipush 10, 2) := by decide +kernel
theorem dX4_lowest_5 : decode cX4_lowest 5 = .ok (.if_icmp .ge 22, 3) := by decide +kernel
theorem dX4_lowest_8 : decode cX4_lowest 8 = .ok (.aload_n 0, 1) := by decide +kernel
theorem dX4_lowest_9 : decode cX4_lowest 9 = .ok (.iload_n 1, 1) := by decide +kernel
theorem dX4_lowest_10 : decode cX4_lowest 10 = .ok (.iload_n 3, 1) := by decide +kernel
theorem dX4_lowest_11 : decode cX4_lowest 11 = .ok (.iload_n 2, 1) := by decide +kernel
theorem dX4_lowest_12 : decode cX4_lowest 12 = .ok (.iconst (-1), 1) := by decide +kernel
theorem dX4_lowest_13 : decode cX4_lowest 13 = .ok (.invokevirtual 87, 3) := by decide +kernel
theorem dX4_lowest_16 : decode cX4_lowest 16 = .ok (.ifCond .eq 5, 3) := by decide +kernel
theorem dX4_lowest_19 : decode cX4_lowest 19 = .ok (.iload_n 3, 1) := by decide +kernel
theorem dX4_lowest_20 : decode cX4_lowest 20 = .ok (.ireturn, 1) := by decide +kernel
theorem dX4_lowest_21 : decode cX4_lowest 21 = .ok (.iinc 3 1, 3) := by decide +kernel
theorem dX4_lowest_24 : decode cX4_lowest 24 = .ok (.goto (-22), 3) := by decide +kernel
theorem dX4_lowest_27 : decode cX4_lowest 27 = .ok (.iconst (-1), 1) := by decide +kernel
theorem dX4_lowest_28 : decode cX4_lowest 28 = .ok (.ireturn, 1) := by decide +kernel
theorem dX4_freeSlots_0 : decode cX4_freeSlots 0 = .ok (.iconst 0, 1) := by decide +kernel
theorem dX4_freeSlots_1 : decode cX4_freeSlots 1 = .ok (.istore_n 2, 1) := by decide +kernel
theorem dX4_freeSlots_2 : decode cX4_freeSlots 2 = .ok (.iconst 0, 1) := by decide +kernel
theorem dX4_freeSlots_3 : decode cX4_freeSlots 3 = .ok (.istore_n 3, 1) := by decide +kernel
theorem dX4_freeSlots_4 : decode cX4_freeSlots 4 = .ok (.iload_n 3, 1) := by decide +kernel
theorem dX4_freeSlots_5 : decode cX4_freeSlots 5 = .ok (.bipush 10, 2) := by decide +kernel
theorem dX4_freeSlots_7 : decode cX4_freeSlots 7 = .ok (.if_icmp .ge 27, 3) := by decide +kernel
theorem dX4_freeSlots_10 : decode cX4_freeSlots 10 = .ok (.iload_n 2, 1) := by decide +kernel
theorem dX4_freeSlots_11 : decode cX4_freeSlots 11 = .ok (.aload_n 0, 1) := by decide +kernel
theorem dX4_freeSlots_12 : decode cX4_freeSlots 12 = .ok (.iload_n 1, 1) := by decide +kernel
theorem dX4_freeSlots_13 : decode cX4_freeSlots 13 = .ok (.iload_n 3, 1) := by decide +kernel
theorem dX4_freeSlots_14 : decode cX4_freeSlots 14 = .ok (.invokevirtual 84, 3) := by decide +kernel
theorem dX4_freeSlots_17 : decode cX4_freeSlots 17 = .ok (.iconst (-1), 1) := by decide +kernel
theorem dX4_freeSlots_18 : decode cX4_freeSlots 18 = .ok (.if_icmp .ne 7, 3) := by decide +kernel
theorem dX4_freeSlots_21 : decode cX4_freeSlots 21 = .ok (.iconst 1, 1) := by decide +kernel
theorem dX4_freeSlots_22 : decode cX4_freeSlots 22 = .ok (.goto 4, 3) := by decide +kernel
theorem dX4_freeSlots_25 : decode cX4_freeSlots 25 = .ok (.iconst 0, 1) := by decide +kernel
theorem dX4_freeSlots_26 : decode cX4_freeSlots 26 = .ok (.iadd, 1) := by decide +kernel
theorem dX4_freeSlots_27 : decode cX4_freeSlots 27 = .ok (.istore_n 2, 1) := by decide +kernel
theorem dX4_freeSlots_28 : decode cX4_freeSlots 28 = .ok (.iinc 3 1, 3) := by decide +kernel
theorem dX4_freeSlots_31 : decode cX4_freeSlots 31 = .ok (.goto (-27), 3) := by decide +kernel
theorem dX4_freeSlots_34 : decode cX4_freeSlots 34 = .ok (.iload_n 2, 1) := by decide +kernel
theorem dX4_freeSlots_35 : decode cX4_freeSlots 35 = .ok (.ireturn, 1) := by decide +kernel
theorem dX4_machinesIn_0 : decode cX4_machinesIn 0 = .ok (.iconst 0, 1) := by decide +kernel
theorem dX4_machinesIn_1 : decode cX4_machinesIn 1 = .ok (.istore_n 2, 1) := by decide +kernel
theorem dX4_machinesIn_2 : decode cX4_machinesIn 2 = .ok (.iconst 0, 1) := by decide +kernel
theorem dX4_machinesIn_3 : decode cX4_machinesIn 3 = .ok (.istore_n 3, 1) := by decide +kernel
theorem dX4_machinesIn_4 : decode cX4_machinesIn 4 = .ok (.iload_n 3, 1) := by decide +kernel
theorem dX4_machinesIn_5 : decode cX4_machinesIn 5 = .ok (.aload_n 0, 1) := by decide +kernel
theorem dX4_machinesIn_6 : decode cX4_machinesIn 6 = .ok (.getfield 7, 3) := by decide +kernel
theorem dX4_machinesIn_9 : decode cX4_machinesIn 9 = .ok (.bipush 13, 2) := by decide +kernel
theorem dX4_machinesIn_11 : decode cX4_machinesIn 11 = .ok (.iaload, 1) := by decide +kernel
theorem dX4_machinesIn_12 : decode cX4_machinesIn 12 = .ok (.if_icmp .ge 27, 3) := by decide +kernel
theorem dX4_machinesIn_15 : decode cX4_machinesIn 15 = .ok (.iload_n 2, 1) := by decide +kernel
theorem dX4_machinesIn_16 : decode cX4_machinesIn 16 = .ok (.aload_n 0, 1) := by decide +kernel
theorem dX4_machinesIn_17 : decode cX4_machinesIn 17 = .ok (.iload_n 3, 1) := by decide +kernel
theorem dX4_machinesIn_18 : decode cX4_machinesIn 18 = .ok (.iconst 4, 1) := by decide +kernel
theorem dX4_machinesIn_19 : decode cX4_machinesIn 19 = .ok (.invokevirtual 71, 3) := by decide +kernel
theorem dX4_machinesIn_22 : decode cX4_machinesIn 22 = .ok (.iload_n 1, 1) := by decide +kernel
theorem dX4_machinesIn_23 : decode cX4_machinesIn 23 = .ok (.if_icmp .ne 7, 3) := by decide +kernel
theorem dX4_machinesIn_26 : decode cX4_machinesIn 26 = .ok (.iconst 1, 1) := by decide +kernel
theorem dX4_machinesIn_27 : decode cX4_machinesIn 27 = .ok (.goto 4, 3) := by decide +kernel
theorem dX4_machinesIn_30 : decode cX4_machinesIn 30 = .ok (.iconst 0, 1) := by decide +kernel
theorem dX4_machinesIn_31 : decode cX4_machinesIn 31 = .ok (.iadd, 1) := by decide +kernel
theorem dX4_machinesIn_32 : decode cX4_machinesIn 32 = .ok (.istore_n 2, 1) := by decide +kernel
theorem dX4_machinesIn_33 : decode cX4_machinesIn 33 = .ok (.iinc 3 1, 3) := by decide +kernel
theorem dX4_machinesIn_36 : decode cX4_machinesIn 36 = .ok (.goto (-32), 3) := by decide +kernel
theorem dX4_machinesIn_39 : decode cX4_machinesIn 39 = .ok (.iload_n 2, 1) := by decide +kernel
theorem dX4_machinesIn_40 : decode cX4_machinesIn 40 = .ok (.ireturn, 1) := by decide +kernel
theorem dX4_tellRack_0 : decode cX4_tellRack 0 = .ok (.iload_n 2, 1) := by decide +kernel
theorem dX4_tellRack_1 : decode cX4_tellRack 1 = .ok (.tableswitch 80 0 6 #[43, 52, 59, 59, 59, 68, 74], 43) := by decide +kernel
theorem dX4_tellRack_44 : decode cX4_tellRack 44 = .ok (.aload_n 0, 1) := by decide +kernel
theorem dX4_tellRack_45 : decode cX4_tellRack 45 = .ok (.getfield 7, 3) := by decide +kernel
theorem dX4_tellRack_48 : decode cX4_tellRack 48 = .ok (.iconst 0, 1) := by decide +kernel
theorem dX4_tellRack_49 : decode cX4_tellRack 49 = .ok (.iload_n 1, 1) := by decide +kernel
theorem dX4_tellRack_50 : decode cX4_tellRack 50 = .ok (.iadd, 1) := by decide +kernel
theorem dX4_tellRack_51 : decode cX4_tellRack 51 = .ok (.iaload, 1) := by decide +kernel
theorem dX4_tellRack_52 : decode cX4_tellRack 52 = .ok (.ireturn, 1) := by decide +kernel
theorem dX4_tellRack_53 : decode cX4_tellRack 53 = .ok (.aload_n 0, 1) := by decide +kernel
theorem dX4_tellRack_54 : decode cX4_tellRack 54 = .ok (.iload_n 1, 1) := by decide +kernel
theorem dX4_tellRack_55 : decode cX4_tellRack 55 = .ok (.iconst (-1), 1) := by decide +kernel
theorem dX4_tellRack_56 : decode cX4_tellRack 56 = .ok (.invokevirtual 91, 3) := by decide +kernel
theorem dX4_tellRack_59 : decode cX4_tellRack 59 = .ok (.ireturn, 1) := by decide +kernel
theorem dX4_tellRack_60 : decode cX4_tellRack 60 = .ok (.aload_n 0, 1) := by decide +kernel
theorem dX4_tellRack_61 : decode cX4_tellRack 61 = .ok (.iload_n 1, 1) := by decide +kernel
theorem dX4_tellRack_62 : decode cX4_tellRack 62 = .ok (.iload_n 2, 1) := by decide +kernel
theorem dX4_tellRack_63 : decode cX4_tellRack 63 = .ok (.iconst 2, 1) := by decide +kernel
theorem dX4_tellRack_64 : decode cX4_tellRack 64 = .ok (.isub, 1) := by decide +kernel
theorem dX4_tellRack_65 : decode cX4_tellRack 65 = .ok (.invokevirtual 91, 3) := by decide +kernel
theorem dX4_tellRack_68 : decode cX4_tellRack 68 = .ok (.ireturn, 1) := by decide +kernel
theorem dX4_tellRack_69 : decode cX4_tellRack 69 = .ok (.aload_n 0, 1) := by decide +kernel
theorem dX4_tellRack_70 : decode cX4_tellRack 70 = .ok (.iload_n 1, 1) := by decide +kernel
theorem dX4_tellRack_71 : decode cX4_tellRack 71 = .ok (.invokevirtual 94, 3) := by decide +kernel
theorem dX4_tellRack_74 : decode cX4_tellRack 74 = .ok (.ireturn, 1) := by decide +kernel
theorem dX4_tellRack_75 : decode cX4_tellRack 75 = .ok (.aload_n 0, 1) := by decide +kernel
theorem dX4_tellRack_76 : decode cX4_tellRack 76 = .ok (.iload_n 1, 1) := by decide +kernel
theorem dX4_tellRack_77 : decode cX4_tellRack 77 = .ok (.invokevirtual 97, 3) := by decide +kernel
theorem dX4_tellRack_80 : decode cX4_tellRack 80 = .ok (.ireturn, 1) := by decide +kernel
theorem dX4_tellRack_81 : decode cX4_tellRack 81 = .ok (.iconst 4, 1) := by decide +kernel
theorem dX4_tellRack_82 : decode cX4_tellRack 82 = .ok (.istore_n 3, 1) := by decide +kernel
theorem dX4_tellRack_83 : decode cX4_tellRack 83 = .ok (.iload_n 3, 1) := by decide +kernel
theorem dX4_tellRack_84 : decode cX4_tellRack 84 = .ok (.ifCond .le 19, 3) := by decide +kernel
theorem dX4_tellRack_87 : decode cX4_tellRack 87 = .ok (.aload_n 0, 1) := by decide +kernel
theorem dX4_tellRack_88 : decode cX4_tellRack 88 = .ok (.iload_n 1, 1) := by decide +kernel
theorem dX4_tellRack_89 : decode cX4_tellRack 89 = .ok (.iload_n 3, 1) := by decide +kernel
theorem dX4_tellRack_90 : decode cX4_tellRack 90 = .ok (.invokevirtual 100, 3) := by decide +kernel
theorem dX4_tellRack_93 : decode cX4_tellRack 93 = .ok (.iconst (-1), 1) := by decide +kernel
theorem dX4_tellRack_94 : decode cX4_tellRack 94 = .ok (.if_icmp .ne 9, 3) := by decide +kernel
theorem dX4_tellRack_97 : decode cX4_tellRack 97 = .ok (.iinc 3 (-1), 3) := by decide +kernel
theorem dX4_tellRack_100 : decode cX4_tellRack 100 = .ok (.goto (-17), 3) := by decide +kernel
theorem dX4_tellRack_103 : decode cX4_tellRack 103 = .ok (.iload_n 3, 1) := by decide +kernel
theorem dX4_tellRack_104 : decode cX4_tellRack 104 = .ok (.ireturn, 1) := by decide +kernel
theorem dX4_rack_0 : decode cX4_rack 0 = .ok (.aload_n 0, 1) := by decide +kernel
theorem dX4_rack_1 : decode cX4_rack 1 = .ok (.iload_n 1, 1) := by decide +kernel
theorem dX4_rack_2 : decode cX4_rack 2 = .ok (.invokestatic 47, 3) := by decide +kernel
theorem dX4_rack_5 : decode cX4_rack 5 = .ok (.ifCond .ne 7, 3) := by decide +kernel
theorem dX4_rack_8 : decode cX4_rack 8 = .ok (.iconst 1, 1) := by decide +kernel
theorem dX4_rack_9 : decode cX4_rack 9 = .ok (.goto 18, 3) := by decide +kernel
theorem dX4_rack_12 : decode cX4_rack 12 = .ok (.iload_n 2, 1) := by decide +kernel
theorem dX4_rack_13 : decode cX4_rack 13 = .ok (.iconst 0, 1) := by decide +kernel
theorem dX4_rack_14 : decode cX4_rack 14 = .ok (.bipush 7, 2) := by decide +kernel
theorem dX4_rack_16 : decode cX4_rack 16 = .ok (.invokestatic 43, 3) := by decide +kernel
theorem dX4_rack_19 : decode cX4_rack 19 = .ok (.ifCond .eq 7, 3) := by decide +kernel
theorem dX4_rack_22 : decode cX4_rack 22 = .ok (.iconst 0, 1) := by decide +kernel
theorem dX4_rack_23 : decode cX4_rack 23 = .ok (.goto 4, 3) := by decide +kernel
theorem dX4_rack_26 : decode cX4_rack 26 = .ok (.iconst 2, 1) := by decide +kernel
theorem dX4_rack_27 : decode cX4_rack 27 = .ok (.invokevirtual 36, 3) := by decide +kernel
theorem dX4_rack_30 : decode cX4_rack 30 = .ok (.ifCond .eq 7, 3) := by decide +kernel
theorem dX4_rack_33 : decode cX4_rack 33 = .ok (.iconst 0, 1) := by decide +kernel
theorem dX4_rack_34 : decode cX4_rack 34 = .ok (.goto 9, 3) := by decide +kernel
theorem dX4_rack_37 : decode cX4_rack 37 = .ok (.aload_n 0, 1) := by decide +kernel
theorem dX4_rack_38 : decode cX4_rack 38 = .ok (.iload_n 1, 1) := by decide +kernel
theorem dX4_rack_39 : decode cX4_rack 39 = .ok (.iload_n 2, 1) := by decide +kernel
theorem dX4_rack_40 : decode cX4_rack 40 = .ok (.invokevirtual 103, 3) := by decide +kernel
theorem dX4_rack_43 : decode cX4_rack 43 = .ok (.ireturn, 1) := by decide +kernel
theorem dX4_slot_0 : decode cX4_slot 0 = .ok (.aload_n 0, 1) := by decide +kernel
theorem dX4_slot_1 : decode cX4_slot 1 = .ok (.iload_n 1, 1) := by decide +kernel
theorem dX4_slot_2 : decode cX4_slot 2 = .ok (.invokestatic 47, 3) := by decide +kernel
theorem dX4_slot_5 : decode cX4_slot 5 = .ok (.ifCond .eq 17, 3) := by decide +kernel
theorem dX4_slot_8 : decode cX4_slot 8 = .ok (.iload_n 2, 1) := by decide +kernel
theorem dX4_slot_9 : decode cX4_slot 9 = .ok (.iconst 0, 1) := by decide +kernel
theorem dX4_slot_10 : decode cX4_slot 10 = .ok (.bipush 9, 2) := by decide +kernel
theorem dX4_slot_12 : decode cX4_slot 12 = .ok (.invokestatic 43, 3) := by decide +kernel
theorem dX4_slot_15 : decode cX4_slot 15 = .ok (.ifCond .eq 7, 3) := by decide +kernel
theorem dX4_slot_18 : decode cX4_slot 18 = .ok (.iconst 0, 1) := by decide +kernel
theorem dX4_slot_19 : decode cX4_slot 19 = .ok (.goto 4, 3) := by decide +kernel
theorem dX4_slot_22 : decode cX4_slot 22 = .ok (.iconst 1, 1) := by decide +kernel
theorem dX4_slot_23 : decode cX4_slot 23 = .ok (.invokevirtual 36, 3) := by decide +kernel
theorem dX4_slot_26 : decode cX4_slot 26 = .ok (.ifCond .eq 7, 3) := by decide +kernel
theorem dX4_slot_29 : decode cX4_slot 29 = .ok (.iconst 0, 1) := by decide +kernel
theorem dX4_slot_30 : decode cX4_slot 30 = .ok (.goto 9, 3) := by decide +kernel
theorem dX4_slot_33 : decode cX4_slot 33 = .ok (.aload_n 0, 1) := by decide +kernel
theorem dX4_slot_34 : decode cX4_slot 34 = .ok (.iload_n 1, 1) := by decide +kernel
theorem dX4_slot_35 : decode cX4_slot 35 = .ok (.iload_n 2, 1) := by decide +kernel
theorem dX4_slot_36 : decode cX4_slot 36 = .ok (.invokevirtual 84, 3) := by decide +kernel
theorem dX4_slot_39 : decode cX4_slot 39 = .ok (.ireturn, 1) := by decide +kernel
theorem dX4_needs_0 : decode cX4_needs 0 = .ok (.aload_n 0, 1) := by decide +kernel
theorem dX4_needs_1 : decode cX4_needs 1 = .ok (.aload_n 0, 1) := by decide +kernel
theorem dX4_needs_2 : decode cX4_needs 2 = .ok (.getfield 7, 3) := by decide +kernel
theorem dX4_needs_5 : decode cX4_needs 5 = .ok (.bipush 91, 2) := by decide +kernel
theorem dX4_needs_7 : decode cX4_needs 7 = .ok (.iconst 3, 1) := by decide +kernel
theorem dX4_needs_8 : decode cX4_needs 8 = .ok (.iload_n 1, 1) := by decide +kernel
theorem dX4_needs_9 : decode cX4_needs 9 = .ok (.imul, 1) := by decide +kernel
theorem dX4_needs_10 : decode cX4_needs 10 = .ok (.iadd, 1) := by decide +kernel
theorem dX4_needs_11 : decode cX4_needs 11 = .ok (.iaload, 1) := by decide +kernel
theorem dX4_needs_12 : decode cX4_needs 12 = .ok (.iconst 4, 1) := by decide +kernel
theorem dX4_needs_13 : decode cX4_needs 13 = .ok (.invokevirtual 71, 3) := by decide +kernel
theorem dX4_needs_16 : decode cX4_needs 16 = .ok (.istore_n 2, 1) := by decide +kernel
theorem dX4_needs_17 : decode cX4_needs 17 = .ok (.aload_n 0, 1) := by decide +kernel
theorem dX4_needs_18 : decode cX4_needs 18 = .ok (.aload_n 0, 1) := by decide +kernel
theorem dX4_needs_19 : decode cX4_needs 19 = .ok (.getfield 7, 3) := by decide +kernel
theorem dX4_needs_22 : decode cX4_needs 22 = .ok (.bipush 91, 2) := by decide +kernel
theorem dX4_needs_24 : decode cX4_needs 24 = .ok (.iconst 3, 1) := by decide +kernel
theorem dX4_needs_25 : decode cX4_needs 25 = .ok (.iload_n 1, 1) := by decide +kernel
theorem dX4_needs_26 : decode cX4_needs 26 = .ok (.imul, 1) := by decide +kernel
theorem dX4_needs_27 : decode cX4_needs 27 = .ok (.iadd, 1) := by decide +kernel
theorem dX4_needs_28 : decode cX4_needs 28 = .ok (.iconst 1, 1) := by decide +kernel
theorem dX4_needs_29 : decode cX4_needs 29 = .ok (.iadd, 1) := by decide +kernel
theorem dX4_needs_30 : decode cX4_needs 30 = .ok (.iaload, 1) := by decide +kernel
theorem dX4_needs_31 : decode cX4_needs 31 = .ok (.iconst 4, 1) := by decide +kernel
theorem dX4_needs_32 : decode cX4_needs 32 = .ok (.invokevirtual 71, 3) := by decide +kernel
theorem dX4_needs_35 : decode cX4_needs 35 = .ok (.istore_n 3, 1) := by decide +kernel
theorem dX4_needs_36 : decode cX4_needs 36 = .ok (.iload_n 2, 1) := by decide +kernel
theorem dX4_needs_37 : decode cX4_needs 37 = .ok (.iload_n 3, 1) := by decide +kernel
theorem dX4_needs_38 : decode cX4_needs 38 = .ok (.if_icmp .ge 9, 3) := by decide +kernel
theorem dX4_needs_41 : decode cX4_needs 41 = .ok (.iload_n 3, 1) := by decide +kernel
theorem dX4_needs_42 : decode cX4_needs 42 = .ok (.iload_n 2, 1) := by decide +kernel
theorem dX4_needs_43 : decode cX4_needs 43 = .ok (.isub, 1) := by decide +kernel
theorem dX4_needs_44 : decode cX4_needs 44 = .ok (.goto 6, 3) := by decide +kernel
theorem dX4_needs_47 : decode cX4_needs 47 = .ok (.iload_n 2, 1) := by decide +kernel
theorem dX4_needs_48 : decode cX4_needs 48 = .ok (.iload_n 3, 1) := by decide +kernel
theorem dX4_needs_49 : decode cX4_needs 49 = .ok (.isub, 1) := by decide +kernel
theorem dX4_needs_50 : decode cX4_needs 50 = .ok (.istore 4, 2) := by decide +kernel
theorem dX4_needs_52 : decode cX4_needs 52 = .ok (.iload_n 2, 1) := by decide +kernel
theorem dX4_needs_53 : decode cX4_needs 53 = .ok (.iconst (-1), 1) := by decide +kernel
theorem dX4_needs_54 : decode cX4_needs 54 = .ok (.if_icmp .eq 8, 3) := by decide +kernel
theorem dX4_needs_57 : decode cX4_needs 57 = .ok (.iload_n 3, 1) := by decide +kernel
theorem dX4_needs_58 : decode cX4_needs 58 = .ok (.iconst (-1), 1) := by decide +kernel
theorem dX4_needs_59 : decode cX4_needs 59 = .ok (.if_icmp .ne 7, 3) := by decide +kernel
theorem dX4_needs_62 : decode cX4_needs 62 = .ok (.iconst 0, 1) := by decide +kernel
theorem dX4_needs_63 : decode cX4_needs 63 = .ok (.goto 9, 3) := by decide +kernel
theorem dX4_needs_66 : decode cX4_needs 66 = .ok (.iconst 2, 1) := by decide +kernel
theorem dX4_needs_67 : decode cX4_needs 67 = .ok (.iconst 3, 1) := by decide +kernel
theorem dX4_needs_68 : decode cX4_needs 68 = .ok (.iload 4, 2) := by decide +kernel
theorem dX4_needs_70 : decode cX4_needs 70 = .ok (.imul, 1) := by decide +kernel
theorem dX4_needs_71 : decode cX4_needs 71 = .ok (.iadd, 1) := by decide +kernel
theorem dX4_needs_72 : decode cX4_needs 72 = .ok (.ireturn, 1) := by decide +kernel
theorem dX4_tellCable_0 : decode cX4_tellCable 0 = .ok (.iload_n 2, 1) := by decide +kernel
theorem dX4_tellCable_1 : decode cX4_tellCable 1 = .ok (.iconst 3, 1) := by decide +kernel
theorem dX4_tellCable_2 : decode cX4_tellCable 2 = .ok (.if_icmp .ge 19, 3) := by decide +kernel
theorem dX4_tellCable_5 : decode cX4_tellCable 5 = .ok (.aload_n 0, 1) := by decide +kernel
theorem dX4_tellCable_6 : decode cX4_tellCable 6 = .ok (.getfield 7, 3) := by decide +kernel
theorem dX4_tellCable_9 : decode cX4_tellCable 9 = .ok (.bipush 91, 2) := by decide +kernel
theorem dX4_tellCable_11 : decode cX4_tellCable 11 = .ok (.iconst 3, 1) := by decide +kernel
theorem dX4_tellCable_12 : decode cX4_tellCable 12 = .ok (.iload_n 1, 1) := by decide +kernel
theorem dX4_tellCable_13 : decode cX4_tellCable 13 = .ok (.imul, 1) := by decide +kernel
theorem dX4_tellCable_14 : decode cX4_tellCable 14 = .ok (.iadd, 1) := by decide +kernel
theorem dX4_tellCable_15 : decode cX4_tellCable 15 = .ok (.iload_n 2, 1) := by decide +kernel
theorem dX4_tellCable_16 : decode cX4_tellCable 16 = .ok (.iadd, 1) := by decide +kernel
theorem dX4_tellCable_17 : decode cX4_tellCable 17 = .ok (.iaload, 1) := by decide +kernel
theorem dX4_tellCable_18 : decode cX4_tellCable 18 = .ok (.goto 8, 3) := by decide +kernel
theorem dX4_tellCable_21 : decode cX4_tellCable 21 = .ok (.aload_n 0, 1) := by decide +kernel
theorem dX4_tellCable_22 : decode cX4_tellCable 22 = .ok (.iload_n 1, 1) := by decide +kernel
theorem dX4_tellCable_23 : decode cX4_tellCable 23 = .ok (.invokevirtual 106, 3) := by decide +kernel
theorem dX4_tellCable_26 : decode cX4_tellCable 26 = .ok (.ireturn, 1) := by decide +kernel
theorem dX4_cable_0 : decode cX4_cable 0 = .ok (.aload_n 0, 1) := by decide +kernel
theorem dX4_cable_1 : decode cX4_cable 1 = .ok (.aload_n 0, 1) := by decide +kernel
theorem dX4_cable_2 : decode cX4_cable 2 = .ok (.iload_n 1, 1) := by decide +kernel
theorem dX4_cable_3 : decode cX4_cable 3 = .ok (.invokevirtual 64, 3) := by decide +kernel
theorem dX4_cable_6 : decode cX4_cable 6 = .ok (.ifCond .ne 7, 3) := by decide +kernel
theorem dX4_cable_9 : decode cX4_cable 9 = .ok (.iconst 1, 1) := by decide +kernel
theorem dX4_cable_10 : decode cX4_cable 10 = .ok (.goto 17, 3) := by decide +kernel
theorem dX4_cable_13 : decode cX4_cable 13 = .ok (.iload_n 2, 1) := by decide +kernel
theorem dX4_cable_14 : decode cX4_cable 14 = .ok (.iconst 0, 1) := by decide +kernel
theorem dX4_cable_15 : decode cX4_cable 15 = .ok (.iconst 3, 1) := by decide +kernel
theorem dX4_cable_16 : decode cX4_cable 16 = .ok (.invokestatic 43, 3) := by decide +kernel
theorem dX4_cable_19 : decode cX4_cable 19 = .ok (.ifCond .eq 7, 3) := by decide +kernel
theorem dX4_cable_22 : decode cX4_cable 22 = .ok (.iconst 0, 1) := by decide +kernel
theorem dX4_cable_23 : decode cX4_cable 23 = .ok (.goto 4, 3) := by decide +kernel
theorem dX4_cable_26 : decode cX4_cable 26 = .ok (.iconst 2, 1) := by decide +kernel
theorem dX4_cable_27 : decode cX4_cable 27 = .ok (.invokevirtual 36, 3) := by decide +kernel
theorem dX4_cable_30 : decode cX4_cable 30 = .ok (.ifCond .eq 7, 3) := by decide +kernel
theorem dX4_cable_33 : decode cX4_cable 33 = .ok (.iconst 0, 1) := by decide +kernel
theorem dX4_cable_34 : decode cX4_cable 34 = .ok (.goto 9, 3) := by decide +kernel
theorem dX4_cable_37 : decode cX4_cable 37 = .ok (.aload_n 0, 1) := by decide +kernel
theorem dX4_cable_38 : decode cX4_cable 38 = .ok (.iload_n 1, 1) := by decide +kernel
theorem dX4_cable_39 : decode cX4_cable 39 = .ok (.iload_n 2, 1) := by decide +kernel
theorem dX4_cable_40 : decode cX4_cable 40 = .ok (.invokevirtual 109, 3) := by decide +kernel
theorem dX4_cable_43 : decode cX4_cable 43 = .ok (.ireturn, 1) := by decide +kernel
theorem dX4_inTray_0 : decode cX4_inTray 0 = .ok (.iconst 0, 1) := by decide +kernel
theorem dX4_inTray_1 : decode cX4_inTray 1 = .ok (.istore_n 2, 1) := by decide +kernel
theorem dX4_inTray_2 : decode cX4_inTray 2 = .ok (.iconst 0, 1) := by decide +kernel
theorem dX4_inTray_3 : decode cX4_inTray 3 = .ok (.istore_n 3, 1) := by decide +kernel
theorem dX4_inTray_4 : decode cX4_inTray 4 = .ok (.iload_n 3, 1) := by decide +kernel
theorem dX4_inTray_5 : decode cX4_inTray 5 = .ok (.aload_n 0, 1) := by decide +kernel
theorem dX4_inTray_6 : decode cX4_inTray 6 = .ok (.getfield 7, 3) := by decide +kernel
theorem dX4_inTray_9 : decode cX4_inTray 9 = .ok (.bipush 14, 2) := by decide +kernel
theorem dX4_inTray_11 : decode cX4_inTray 11 = .ok (.iaload, 1) := by decide +kernel
theorem dX4_inTray_12 : decode cX4_inTray 12 = .ok (.if_icmp .ge 104, 3) := by decide +kernel
theorem dX4_inTray_15 : decode cX4_inTray 15 = .ok (.aload_n 0, 1) := by decide +kernel
theorem dX4_inTray_16 : decode cX4_inTray 16 = .ok (.aload_n 0, 1) := by decide +kernel
theorem dX4_inTray_17 : decode cX4_inTray 17 = .ok (.getfield 7, 3) := by decide +kernel
theorem dX4_inTray_20 : decode cX4_inTray 20 = .ok (.bipush 91, 2) := by decide +kernel
theorem dX4_inTray_22 : decode cX4_inTray 22 = .ok (.iconst 3, 1) := by decide +kernel
theorem dX4_inTray_23 : decode cX4_inTray 23 = .ok (.iload_n 3, 1) := by decide +kernel
theorem dX4_inTray_24 : decode cX4_inTray 24 = .ok (.imul, 1) := by decide +kernel
theorem dX4_inTray_25 : decode cX4_inTray 25 = .ok (.iadd, 1) := by decide +kernel
theorem dX4_inTray_26 : decode cX4_inTray 26 = .ok (.iaload, 1) := by decide +kernel
theorem dX4_inTray_27 : decode cX4_inTray 27 = .ok (.iconst 4, 1) := by decide +kernel
theorem dX4_inTray_28 : decode cX4_inTray 28 = .ok (.invokevirtual 71, 3) := by decide +kernel
theorem dX4_inTray_31 : decode cX4_inTray 31 = .ok (.istore 4, 2) := by decide +kernel
theorem dX4_inTray_33 : decode cX4_inTray 33 = .ok (.aload_n 0, 1) := by decide +kernel
theorem dX4_inTray_34 : decode cX4_inTray 34 = .ok (.aload_n 0, 1) := by decide +kernel
theorem dX4_inTray_35 : decode cX4_inTray 35 = .ok (.getfield 7, 3) := by decide +kernel
theorem dX4_inTray_38 : decode cX4_inTray 38 = .ok (.bipush 91, 2) := by decide +kernel
theorem dX4_inTray_40 : decode cX4_inTray 40 = .ok (.iconst 3, 1) := by decide +kernel
theorem dX4_inTray_41 : decode cX4_inTray 41 = .ok (.iload_n 3, 1) := by decide +kernel
theorem dX4_inTray_42 : decode cX4_inTray 42 = .ok (.imul, 1) := by decide +kernel
theorem dX4_inTray_43 : decode cX4_inTray 43 = .ok (.iadd, 1) := by decide +kernel
theorem dX4_inTray_44 : decode cX4_inTray 44 = .ok (.iconst 1, 1) := by decide +kernel
theorem dX4_inTray_45 : decode cX4_inTray 45 = .ok (.iadd, 1) := by decide +kernel
theorem dX4_inTray_46 : decode cX4_inTray 46 = .ok (.iaload, 1) := by decide +kernel
theorem dX4_inTray_47 : decode cX4_inTray 47 = .ok (.iconst 4, 1) := by decide +kernel
theorem dX4_inTray_48 : decode cX4_inTray 48 = .ok (.invokevirtual 71, 3) := by decide +kernel
theorem dX4_inTray_51 : decode cX4_inTray 51 = .ok (.istore 5, 2) := by decide +kernel
theorem dX4_inTray_53 : decode cX4_inTray 53 = .ok (.iload 4, 2) := by decide +kernel
theorem dX4_inTray_55 : decode cX4_inTray 55 = .ok (.iconst (-1), 1) := by decide +kernel
theorem dX4_inTray_56 : decode cX4_inTray 56 = .ok (.if_icmp .eq 38, 3) := by decide +kernel
theorem dX4_inTray_59 : decode cX4_inTray 59 = .ok (.iload 5, 2) := by decide +kernel
theorem dX4_inTray_61 : decode cX4_inTray 61 = .ok (.iconst (-1), 1) := by decide +kernel
theorem dX4_inTray_62 : decode cX4_inTray 62 = .ok (.if_icmp .eq 32, 3) := by decide +kernel
theorem dX4_inTray_65 : decode cX4_inTray 65 = .ok (.iload 4, 2) := by decide +kernel
theorem dX4_inTray_67 : decode cX4_inTray 67 = .ok (.iload_n 1, 1) := by decide +kernel
theorem dX4_inTray_68 : decode cX4_inTray 68 = .ok (.if_icmp .gt 7, 3) := by decide +kernel
theorem dX4_inTray_71 : decode cX4_inTray 71 = .ok (.iconst 1, 1) := by decide +kernel
theorem dX4_inTray_72 : decode cX4_inTray 72 = .ok (.goto 4, 3) := by decide +kernel
theorem dX4_inTray_75 : decode cX4_inTray 75 = .ok (.iconst 0, 1) := by decide +kernel
theorem dX4_inTray_76 : decode cX4_inTray 76 = .ok (.iload 5, 2) := by decide +kernel
theorem dX4_inTray_78 : decode cX4_inTray 78 = .ok (.iload_n 1, 1) := by decide +kernel
theorem dX4_inTray_79 : decode cX4_inTray 79 = .ok (.if_icmp .gt 7, 3) := by decide +kernel
theorem dX4_inTray_82 : decode cX4_inTray 82 = .ok (.iconst 1, 1) := by decide +kernel
theorem dX4_inTray_83 : decode cX4_inTray 83 = .ok (.goto 4, 3) := by decide +kernel
theorem dX4_inTray_86 : decode cX4_inTray 86 = .ok (.iconst 0, 1) := by decide +kernel
theorem dX4_inTray_87 : decode cX4_inTray 87 = .ok (.if_icmp .eq 7, 3) := by decide +kernel
theorem dX4_inTray_90 : decode cX4_inTray 90 = .ok (.iconst 1, 1) := by decide +kernel
theorem dX4_inTray_91 : decode cX4_inTray 91 = .ok (.goto 4, 3) := by decide +kernel
theorem dX4_inTray_94 : decode cX4_inTray 94 = .ok (.iconst 0, 1) := by decide +kernel
theorem dX4_inTray_95 : decode cX4_inTray 95 = .ok (.istore 6, 2) := by decide +kernel
theorem dX4_inTray_97 : decode cX4_inTray 97 = .ok (.iload_n 2, 1) := by decide +kernel
theorem dX4_inTray_98 : decode cX4_inTray 98 = .ok (.iload 6, 2) := by decide +kernel
theorem dX4_inTray_100 : decode cX4_inTray 100 = .ok (.ifCond .eq 7, 3) := by decide +kernel
theorem dX4_inTray_103 : decode cX4_inTray 103 = .ok (.iconst 1, 1) := by decide +kernel
theorem dX4_inTray_104 : decode cX4_inTray 104 = .ok (.goto 4, 3) := by decide +kernel
theorem dX4_inTray_107 : decode cX4_inTray 107 = .ok (.iconst 0, 1) := by decide +kernel
theorem dX4_inTray_108 : decode cX4_inTray 108 = .ok (.iadd, 1) := by decide +kernel
theorem dX4_inTray_109 : decode cX4_inTray 109 = .ok (.istore_n 2, 1) := by decide +kernel
theorem dX4_inTray_110 : decode cX4_inTray 110 = .ok (.iinc 3 1, 3) := by decide +kernel
theorem dX4_inTray_113 : decode cX4_inTray 113 = .ok (.goto (-109), 3) := by decide +kernel
theorem dX4_inTray_116 : decode cX4_inTray 116 = .ok (.iload_n 2, 1) := by decide +kernel
theorem dX4_inTray_117 : decode cX4_inTray 117 = .ok (.ireturn, 1) := by decide +kernel
theorem dX4_tray_0 : decode cX4_tray 0 = .ok (.aload_n 0, 1) := by decide +kernel
theorem dX4_tray_1 : decode cX4_tray 1 = .ok (.iload_n 1, 1) := by decide +kernel
theorem dX4_tray_2 : decode cX4_tray 2 = .ok (.invokestatic 54, 3) := by decide +kernel
theorem dX4_tray_5 : decode cX4_tray 5 = .ok (.ifCond .eq 7, 3) := by decide +kernel
theorem dX4_tray_8 : decode cX4_tray 8 = .ok (.iconst 0, 1) := by decide +kernel
theorem dX4_tray_9 : decode cX4_tray 9 = .ok (.goto 4, 3) := by decide +kernel
theorem dX4_tray_12 : decode cX4_tray 12 = .ok (.iconst 1, 1) := by decide +kernel
theorem dX4_tray_13 : decode cX4_tray 13 = .ok (.invokevirtual 36, 3) := by decide +kernel
theorem dX4_tray_16 : decode cX4_tray 16 = .ok (.ifCond .eq 7, 3) := by decide +kernel
theorem dX4_tray_19 : decode cX4_tray 19 = .ok (.iconst 0, 1) := by decide +kernel
theorem dX4_tray_20 : decode cX4_tray 20 = .ok (.goto 8, 3) := by decide +kernel
theorem dX4_tray_23 : decode cX4_tray 23 = .ok (.aload_n 0, 1) := by decide +kernel
theorem dX4_tray_24 : decode cX4_tray 24 = .ok (.iload_n 1, 1) := by decide +kernel
theorem dX4_tray_25 : decode cX4_tray 25 = .ok (.invokevirtual 112, 3) := by decide +kernel
theorem dX4_tray_28 : decode cX4_tray 28 = .ok (.ireturn, 1) := by decide +kernel
theorem dX4_difference_0 : decode cX4_difference 0 = .ok (.iconst 0, 1) := by decide +kernel
theorem dX4_difference_1 : decode cX4_difference 1 = .ok (.istore_n 1, 1) := by decide +kernel
theorem dX4_difference_2 : decode cX4_difference 2 = .ok (.sipush 1188, 3) := by decide +kernel
theorem dX4_difference_5 : decode cX4_difference 5 = .ok (.istore_n 2, 1) := by decide +kernel
theorem dX4_difference_6 : decode cX4_difference 6 = .ok (.iconst 0, 1) := by decide +kernel
theorem dX4_difference_7 : decode cX4_difference 7 = .ok (.istore_n 3, 1) := by decide +kernel
theorem dX4_difference_8 : decode cX4_difference 8 = .ok (.iload_n 3, 1) := by decide +kernel
theorem dX4_difference_9 : decode cX4_difference 9 = .ok (.iconst 3, 1) := by decide +kernel
theorem dX4_difference_10 : decode cX4_difference 10 = .ok (.if_icmp .ge 43, 3) := by decide +kernel
theorem dX4_difference_13 : decode cX4_difference 13 = .ok (.aload_n 0, 1) := by decide +kernel
theorem dX4_difference_14 : decode cX4_difference 14 = .ok (.iconst (-1), 1) := by decide +kernel
theorem dX4_difference_15 : decode cX4_difference 15 = .ok (.iload_n 3, 1) := by decide +kernel
theorem dX4_difference_16 : decode cX4_difference 16 = .ok (.invokevirtual 91, 3) := by decide +kernel
theorem dX4_difference_19 : decode cX4_difference 19 = .ok (.istore 4, 2) := by decide +kernel
theorem dX4_difference_21 : decode cX4_difference 21 = .ok (.iload 4, 2) := by decide +kernel
theorem dX4_difference_23 : decode cX4_difference 23 = .ok (.iload_n 1, 1) := by decide +kernel
theorem dX4_difference_24 : decode cX4_difference 24 = .ok (.if_icmp .le 8, 3) := by decide +kernel
theorem dX4_difference_27 : decode cX4_difference 27 = .ok (.iload 4, 2) := by decide +kernel
theorem dX4_difference_29 : decode cX4_difference 29 = .ok (.goto 4, 3) := by decide +kernel
theorem dX4_difference_32 : decode cX4_difference 32 = .ok (.iload_n 1, 1) := by decide +kernel
theorem dX4_difference_33 : decode cX4_difference 33 = .ok (.istore_n 1, 1) := by decide +kernel
theorem dX4_difference_34 : decode cX4_difference 34 = .ok (.iload 4, 2) := by decide +kernel
theorem dX4_difference_36 : decode cX4_difference 36 = .ok (.iload_n 2, 1) := by decide +kernel
theorem dX4_difference_37 : decode cX4_difference 37 = .ok (.if_icmp .ge 8, 3) := by decide +kernel
theorem dX4_difference_40 : decode cX4_difference 40 = .ok (.iload 4, 2) := by decide +kernel
theorem dX4_difference_42 : decode cX4_difference 42 = .ok (.goto 4, 3) := by decide +kernel
theorem dX4_difference_45 : decode cX4_difference 45 = .ok (.iload_n 2, 1) := by decide +kernel
theorem dX4_difference_46 : decode cX4_difference 46 = .ok (.istore_n 2, 1) := by decide +kernel
theorem dX4_difference_47 : decode cX4_difference 47 = .ok (.iinc 3 1, 3) := by decide +kernel
theorem dX4_difference_50 : decode cX4_difference 50 = .ok (.goto (-42), 3) := by decide +kernel
theorem dX4_difference_53 : decode cX4_difference 53 = .ok (.iload_n 1, 1) := by decide +kernel
theorem dX4_difference_54 : decode cX4_difference 54 = .ok (.iload_n 2, 1) := by decide +kernel
theorem dX4_difference_55 : decode cX4_difference 55 = .ok (.isub, 1) := by decide +kernel
theorem dX4_difference_56 : decode cX4_difference 56 = .ok (.ireturn, 1) := by decide +kernel
theorem dX4_wrong_0 : decode cX4_wrong 0 = .ok (.iconst 0, 1) := by decide +kernel
theorem dX4_wrong_1 : decode cX4_wrong 1 = .ok (.istore_n 1, 1) := by decide +kernel
theorem dX4_wrong_2 : decode cX4_wrong 2 = .ok (.iload_n 1, 1) := by decide +kernel
theorem dX4_wrong_3 : decode cX4_wrong 3 = .ok (.bipush 6, 2) := by decide +kernel
theorem dX4_wrong_5 : decode cX4_wrong 5 = .ok (.if_icmp .ge 28, 3) := by decide +kernel
theorem dX4_wrong_8 : decode cX4_wrong 8 = .ok (.aload_n 0, 1) := by decide +kernel
theorem dX4_wrong_9 : decode cX4_wrong 9 = .ok (.iload_n 1, 1) := by decide +kernel
theorem dX4_wrong_10 : decode cX4_wrong 10 = .ok (.iconst (-1), 1) := by decide +kernel
theorem dX4_wrong_11 : decode cX4_wrong 11 = .ok (.invokevirtual 91, 3) := by decide +kernel
theorem dX4_wrong_14 : decode cX4_wrong 14 = .ok (.aload_n 0, 1) := by decide +kernel
theorem dX4_wrong_15 : decode cX4_wrong 15 = .ok (.getfield 7, 3) := by decide +kernel
theorem dX4_wrong_18 : decode cX4_wrong 18 = .ok (.iconst 0, 1) := by decide +kernel
theorem dX4_wrong_19 : decode cX4_wrong 19 = .ok (.iload_n 1, 1) := by decide +kernel
theorem dX4_wrong_20 : decode cX4_wrong 20 = .ok (.iadd, 1) := by decide +kernel
theorem dX4_wrong_21 : decode cX4_wrong 21 = .ok (.iaload, 1) := by decide +kernel
theorem dX4_wrong_22 : decode cX4_wrong 22 = .ok (.if_icmp .le 5, 3) := by decide +kernel
theorem dX4_wrong_25 : decode cX4_wrong 25 = .ok (.iconst 4, 1) := by decide +kernel
theorem dX4_wrong_26 : decode cX4_wrong 26 = .ok (.ireturn, 1) := by decide +kernel
theorem dX4_wrong_27 : decode cX4_wrong 27 = .ok (.iinc 1 1, 3) := by decide +kernel
theorem dX4_wrong_30 : decode cX4_wrong 30 = .ok (.goto (-28), 3) := by decide +kernel
theorem dX4_wrong_33 : decode cX4_wrong 33 = .ok (.iconst 0, 1) := by decide +kernel
theorem dX4_wrong_34 : decode cX4_wrong 34 = .ok (.istore_n 1, 1) := by decide +kernel
theorem dX4_wrong_35 : decode cX4_wrong 35 = .ok (.iload_n 1, 1) := by decide +kernel
theorem dX4_wrong_36 : decode cX4_wrong 36 = .ok (.iconst 5, 1) := by decide +kernel
theorem dX4_wrong_37 : decode cX4_wrong 37 = .ok (.if_icmp .ge 28, 3) := by decide +kernel
theorem dX4_wrong_40 : decode cX4_wrong 40 = .ok (.aload_n 0, 1) := by decide +kernel
theorem dX4_wrong_41 : decode cX4_wrong 41 = .ok (.iload_n 1, 1) := by decide +kernel
theorem dX4_wrong_42 : decode cX4_wrong 42 = .ok (.invokevirtual 112, 3) := by decide +kernel
theorem dX4_wrong_45 : decode cX4_wrong 45 = .ok (.aload_n 0, 1) := by decide +kernel
theorem dX4_wrong_46 : decode cX4_wrong 46 = .ok (.getfield 7, 3) := by decide +kernel
theorem dX4_wrong_49 : decode cX4_wrong 49 = .ok (.bipush 6, 2) := by decide +kernel
theorem dX4_wrong_51 : decode cX4_wrong 51 = .ok (.iload_n 1, 1) := by decide +kernel
theorem dX4_wrong_52 : decode cX4_wrong 52 = .ok (.iadd, 1) := by decide +kernel
theorem dX4_wrong_53 : decode cX4_wrong 53 = .ok (.iaload, 1) := by decide +kernel
theorem dX4_wrong_54 : decode cX4_wrong 54 = .ok (.if_icmp .le 5, 3) := by decide +kernel
theorem dX4_wrong_57 : decode cX4_wrong 57 = .ok (.iconst 5, 1) := by decide +kernel
theorem dX4_wrong_58 : decode cX4_wrong 58 = .ok (.ireturn, 1) := by decide +kernel
theorem dX4_wrong_59 : decode cX4_wrong 59 = .ok (.iinc 1 1, 3) := by decide +kernel
theorem dX4_wrong_62 : decode cX4_wrong 62 = .ok (.goto (-27), 3) := by decide +kernel
theorem dX4_wrong_65 : decode cX4_wrong 65 = .ok (.iconst 0, 1) := by decide +kernel
theorem dX4_wrong_66 : decode cX4_wrong 66 = .ok (.istore_n 1, 1) := by decide +kernel
theorem dX4_wrong_67 : decode cX4_wrong 67 = .ok (.iload_n 1, 1) := by decide +kernel
theorem dX4_wrong_68 : decode cX4_wrong 68 = .ok (.aload_n 0, 1) := by decide +kernel
theorem dX4_wrong_69 : decode cX4_wrong 69 = .ok (.getfield 7, 3) := by decide +kernel
theorem dX4_wrong_72 : decode cX4_wrong 72 = .ok (.bipush 14, 2) := by decide +kernel
theorem dX4_wrong_74 : decode cX4_wrong 74 = .ok (.iaload, 1) := by decide +kernel
theorem dX4_wrong_75 : decode cX4_wrong 75 = .ok (.if_icmp .ge 33, 3) := by decide +kernel
theorem dX4_wrong_78 : decode cX4_wrong 78 = .ok (.aload_n 0, 1) := by decide +kernel
theorem dX4_wrong_79 : decode cX4_wrong 79 = .ok (.iload_n 1, 1) := by decide +kernel
theorem dX4_wrong_80 : decode cX4_wrong 80 = .ok (.invokevirtual 106, 3) := by decide +kernel
theorem dX4_wrong_83 : decode cX4_wrong 83 = .ok (.aload_n 0, 1) := by decide +kernel
theorem dX4_wrong_84 : decode cX4_wrong 84 = .ok (.getfield 7, 3) := by decide +kernel
theorem dX4_wrong_87 : decode cX4_wrong 87 = .ok (.bipush 91, 2) := by decide +kernel
theorem dX4_wrong_89 : decode cX4_wrong 89 = .ok (.iconst 3, 1) := by decide +kernel
theorem dX4_wrong_90 : decode cX4_wrong 90 = .ok (.iload_n 1, 1) := by decide +kernel
theorem dX4_wrong_91 : decode cX4_wrong 91 = .ok (.imul, 1) := by decide +kernel
theorem dX4_wrong_92 : decode cX4_wrong 92 = .ok (.iadd, 1) := by decide +kernel
theorem dX4_wrong_93 : decode cX4_wrong 93 = .ok (.iconst 2, 1) := by decide +kernel
theorem dX4_wrong_94 : decode cX4_wrong 94 = .ok (.iadd, 1) := by decide +kernel
theorem dX4_wrong_95 : decode cX4_wrong 95 = .ok (.iaload, 1) := by decide +kernel
theorem dX4_wrong_96 : decode cX4_wrong 96 = .ok (.if_icmp .le 6, 3) := by decide +kernel
theorem dX4_wrong_99 : decode cX4_wrong 99 = .ok (.bipush 6, 2) := by decide +kernel
theorem dX4_wrong_101 : decode cX4_wrong 101 = .ok (.ireturn, 1) := by decide +kernel
theorem dX4_wrong_102 : decode cX4_wrong 102 = .ok (.iinc 1 1, 3) := by decide +kernel
theorem dX4_wrong_105 : decode cX4_wrong 105 = .ok (.goto (-38), 3) := by decide +kernel
theorem dX4_wrong_108 : decode cX4_wrong 108 = .ok (.aload_n 0, 1) := by decide +kernel
theorem dX4_wrong_109 : decode cX4_wrong 109 = .ok (.invokevirtual 115, 3) := by decide +kernel
theorem dX4_wrong_112 : decode cX4_wrong 112 = .ok (.aload_n 0, 1) := by decide +kernel
theorem dX4_wrong_113 : decode cX4_wrong 113 = .ok (.getfield 7, 3) := by decide +kernel
theorem dX4_wrong_116 : decode cX4_wrong 116 = .ok (.bipush 11, 2) := by decide +kernel
theorem dX4_wrong_118 : decode cX4_wrong 118 = .ok (.iaload, 1) := by decide +kernel
theorem dX4_wrong_119 : decode cX4_wrong 119 = .ok (.if_icmp .le 8, 3) := by decide +kernel
theorem dX4_wrong_122 : decode cX4_wrong 122 = .ok (.bipush 7, 2) := by decide +kernel
theorem dX4_wrong_124 : decode cX4_wrong 124 = .ok (.goto 4, 3) := by decide +kernel
theorem dX4_wrong_127 : decode cX4_wrong 127 = .ok (.iconst 0, 1) := by decide +kernel
theorem dX4_wrong_128 : decode cX4_wrong 128 = .ok (.ireturn, 1) := by decide +kernel
theorem dX4_standing_0 : decode cX4_standing 0 = .ok (.iconst 0, 1) := by decide +kernel
theorem dX4_standing_1 : decode cX4_standing 1 = .ok (.istore_n 1, 1) := by decide +kernel
theorem dX4_standing_2 : decode cX4_standing 2 = .ok (.iconst 0, 1) := by decide +kernel
theorem dX4_standing_3 : decode cX4_standing 3 = .ok (.istore_n 2, 1) := by decide +kernel
theorem dX4_standing_4 : decode cX4_standing 4 = .ok (.iload_n 2, 1) := by decide +kernel
theorem dX4_standing_5 : decode cX4_standing 5 = .ok (.aload_n 0, 1) := by decide +kernel
theorem dX4_standing_6 : decode cX4_standing 6 = .ok (.getfield 7, 3) := by decide +kernel
theorem dX4_standing_9 : decode cX4_standing 9 = .ok (.bipush 13, 2) := by decide +kernel
theorem dX4_standing_11 : decode cX4_standing 11 = .ok (.iaload, 1) := by decide +kernel
theorem dX4_standing_12 : decode cX4_standing 12 = .ok (.if_icmp .ge 27, 3) := by decide +kernel
theorem dX4_standing_15 : decode cX4_standing 15 = .ok (.iload_n 1, 1) := by decide +kernel
theorem dX4_standing_16 : decode cX4_standing 16 = .ok (.aload_n 0, 1) := by decide +kernel
theorem dX4_standing_17 : decode cX4_standing 17 = .ok (.iload_n 2, 1) := by decide +kernel
theorem dX4_standing_18 : decode cX4_standing 18 = .ok (.iconst 4, 1) := by decide +kernel
theorem dX4_standing_19 : decode cX4_standing 19 = .ok (.invokevirtual 71, 3) := by decide +kernel
theorem dX4_standing_22 : decode cX4_standing 22 = .ok (.iconst (-1), 1) := by decide +kernel
theorem dX4_standing_23 : decode cX4_standing 23 = .ok (.if_icmp .ne 7, 3) := by decide +kernel
theorem dX4_standing_26 : decode cX4_standing 26 = .ok (.iconst 0, 1) := by decide +kernel
theorem dX4_standing_27 : decode cX4_standing 27 = .ok (.goto 4, 3) := by decide +kernel
theorem dX4_standing_30 : decode cX4_standing 30 = .ok (.iconst 1, 1) := by decide +kernel
theorem dX4_standing_31 : decode cX4_standing 31 = .ok (.iadd, 1) := by decide +kernel
theorem dX4_standing_32 : decode cX4_standing 32 = .ok (.istore_n 1, 1) := by decide +kernel
theorem dX4_standing_33 : decode cX4_standing 33 = .ok (.iinc 2 1, 3) := by decide +kernel
theorem dX4_standing_36 : decode cX4_standing 36 = .ok (.goto (-32), 3) := by decide +kernel
theorem dX4_standing_39 : decode cX4_standing 39 = .ok (.iload_n 1, 1) := by decide +kernel
theorem dX4_standing_40 : decode cX4_standing 40 = .ok (.ireturn, 1) := by decide +kernel
theorem dX4_tellValue_0 : decode cX4_tellValue 0 = .ok (.iload_n 1, 1) := by decide +kernel
theorem dX4_tellValue_1 : decode cX4_tellValue 1 = .ok (.tableswitch 124 0 10 #[59, 67, 72, 80, 88, 96, 104, 104, 104, 114, 119], 59) := by decide +kernel
theorem dX4_tellValue_60 : decode cX4_tellValue 60 = .ok (.aload_n 0, 1) := by decide +kernel
theorem dX4_tellValue_61 : decode cX4_tellValue 61 = .ok (.getfield 7, 3) := by decide +kernel
theorem dX4_tellValue_64 : decode cX4_tellValue 64 = .ok (.bipush 13, 2) := by decide +kernel
theorem dX4_tellValue_66 : decode cX4_tellValue 66 = .ok (.iaload, 1) := by decide +kernel
theorem dX4_tellValue_67 : decode cX4_tellValue 67 = .ok (.ireturn, 1) := by decide +kernel
theorem dX4_tellValue_68 : decode cX4_tellValue 68 = .ok (.aload_n 0, 1) := by decide +kernel
theorem dX4_tellValue_69 : decode cX4_tellValue 69 = .ok (.invokevirtual 119, 3) := by decide +kernel
theorem dX4_tellValue_72 : decode cX4_tellValue 72 = .ok (.ireturn, 1) := by decide +kernel
theorem dX4_tellValue_73 : decode cX4_tellValue 73 = .ok (.aload_n 0, 1) := by decide +kernel
theorem dX4_tellValue_74 : decode cX4_tellValue 74 = .ok (.getfield 7, 3) := by decide +kernel
theorem dX4_tellValue_77 : decode cX4_tellValue 77 = .ok (.bipush 14, 2) := by decide +kernel
theorem dX4_tellValue_79 : decode cX4_tellValue 79 = .ok (.iaload, 1) := by decide +kernel
theorem dX4_tellValue_80 : decode cX4_tellValue 80 = .ok (.ireturn, 1) := by decide +kernel
theorem dX4_tellValue_81 : decode cX4_tellValue 81 = .ok (.aload_n 0, 1) := by decide +kernel
theorem dX4_tellValue_82 : decode cX4_tellValue 82 = .ok (.getfield 7, 3) := by decide +kernel
theorem dX4_tellValue_85 : decode cX4_tellValue 85 = .ok (.bipush 15, 2) := by decide +kernel
theorem dX4_tellValue_87 : decode cX4_tellValue 87 = .ok (.iaload, 1) := by decide +kernel
theorem dX4_tellValue_88 : decode cX4_tellValue 88 = .ok (.ireturn, 1) := by decide +kernel
theorem dX4_tellValue_89 : decode cX4_tellValue 89 = .ok (.aload_n 0, 1) := by decide +kernel
theorem dX4_tellValue_90 : decode cX4_tellValue 90 = .ok (.getfield 7, 3) := by decide +kernel
theorem dX4_tellValue_93 : decode cX4_tellValue 93 = .ok (.bipush 12, 2) := by decide +kernel
theorem dX4_tellValue_95 : decode cX4_tellValue 95 = .ok (.iaload, 1) := by decide +kernel
theorem dX4_tellValue_96 : decode cX4_tellValue 96 = .ok (.ireturn, 1) := by decide +kernel
theorem dX4_tellValue_97 : decode cX4_tellValue 97 = .ok (.aload_n 0, 1) := by decide +kernel
theorem dX4_tellValue_98 : decode cX4_tellValue 98 = .ok (.getfield 7, 3) := by decide +kernel
theorem dX4_tellValue_101 : decode cX4_tellValue 101 = .ok (.bipush 11, 2) := by decide +kernel
theorem dX4_tellValue_103 : decode cX4_tellValue 103 = .ok (.iaload, 1) := by decide +kernel
theorem dX4_tellValue_104 : decode cX4_tellValue 104 = .ok (.ireturn, 1) := by decide +kernel
theorem dX4_tellValue_105 : decode cX4_tellValue 105 = .ok (.aload_n 0, 1) := by decide +kernel
theorem dX4_tellValue_106 : decode cX4_tellValue 106 = .ok (.iconst (-1), 1) := by decide +kernel
theorem dX4_tellValue_107 : decode cX4_tellValue 107 = .ok (.iload_n 1, 1) := by decide +kernel
theorem dX4_tellValue_108 : decode cX4_tellValue 108 = .ok (.bipush 6, 2) := by decide +kernel
theorem dX4_tellValue_110 : decode cX4_tellValue 110 = .ok (.isub, 1) := by decide +kernel
theorem dX4_tellValue_111 : decode cX4_tellValue 111 = .ok (.invokevirtual 91, 3) := by decide +kernel
theorem dX4_tellValue_114 : decode cX4_tellValue 114 = .ok (.ireturn, 1) := by decide +kernel
theorem dX4_tellValue_115 : decode cX4_tellValue 115 = .ok (.aload_n 0, 1) := by decide +kernel
theorem dX4_tellValue_116 : decode cX4_tellValue 116 = .ok (.invokevirtual 115, 3) := by decide +kernel
theorem dX4_tellValue_119 : decode cX4_tellValue 119 = .ok (.ireturn, 1) := by decide +kernel
theorem dX4_tellValue_120 : decode cX4_tellValue 120 = .ok (.aload_n 0, 1) := by decide +kernel
theorem dX4_tellValue_121 : decode cX4_tellValue 121 = .ok (.invokevirtual 122, 3) := by decide +kernel
theorem dX4_tellValue_124 : decode cX4_tellValue 124 = .ok (.ireturn, 1) := by decide +kernel
theorem dX4_tellValue_125 : decode cX4_tellValue 125 = .ok (.aload_n 0, 1) := by decide +kernel
theorem dX4_tellValue_126 : decode cX4_tellValue 126 = .ok (.getfield 7, 3) := by decide +kernel
theorem dX4_tellValue_129 : decode cX4_tellValue 129 = .ok (.bipush 16, 2) := by decide +kernel
theorem dX4_tellValue_131 : decode cX4_tellValue 131 = .ok (.iload_n 1, 1) := by decide +kernel
theorem dX4_tellValue_132 : decode cX4_tellValue 132 = .ok (.iadd, 1) := by decide +kernel
theorem dX4_tellValue_133 : decode cX4_tellValue 133 = .ok (.bipush 11, 2) := by decide +kernel
theorem dX4_tellValue_135 : decode cX4_tellValue 135 = .ok (.isub, 1) := by decide +kernel
theorem dX4_tellValue_136 : decode cX4_tellValue 136 = .ok (.iaload, 1) := by decide +kernel
theorem dX4_tellValue_137 : decode cX4_tellValue 137 = .ok (.ireturn, 1) := by decide +kernel
theorem dX4_value_0 : decode cX4_value 0 = .ok (.aload_n 0, 1) := by decide +kernel
theorem dX4_value_1 : decode cX4_value 1 = .ok (.iload_n 1, 1) := by decide +kernel
theorem dX4_value_2 : decode cX4_value 2 = .ok (.iconst 0, 1) := by decide +kernel
theorem dX4_value_3 : decode cX4_value 3 = .ok (.bipush 13, 2) := by decide +kernel
theorem dX4_value_5 : decode cX4_value 5 = .ok (.invokestatic 43, 3) := by decide +kernel
theorem dX4_value_8 : decode cX4_value 8 = .ok (.ifCond .eq 7, 3) := by decide +kernel
theorem dX4_value_11 : decode cX4_value 11 = .ok (.iconst 0, 1) := by decide +kernel
theorem dX4_value_12 : decode cX4_value 12 = .ok (.goto 4, 3) := by decide +kernel
theorem dX4_value_15 : decode cX4_value 15 = .ok (.iconst 1, 1) := by decide +kernel
theorem dX4_value_16 : decode cX4_value 16 = .ok (.invokevirtual 36, 3) := by decide +kernel
theorem dX4_value_19 : decode cX4_value 19 = .ok (.ifCond .eq 7, 3) := by decide +kernel
theorem dX4_value_22 : decode cX4_value 22 = .ok (.iconst 0, 1) := by decide +kernel
theorem dX4_value_23 : decode cX4_value 23 = .ok (.goto 8, 3) := by decide +kernel
theorem dX4_value_26 : decode cX4_value 26 = .ok (.aload_n 0, 1) := by decide +kernel
theorem dX4_value_27 : decode cX4_value 27 = .ok (.iload_n 1, 1) := by decide +kernel
theorem dX4_value_28 : decode cX4_value 28 = .ok (.invokevirtual 125, 3) := by decide +kernel
theorem dX4_value_31 : decode cX4_value 31 = .ok (.ireturn, 1) := by decide +kernel
theorem dX4_places_0 : decode cX4_places 0 = .ok (.bipush 19, 2) := by decide +kernel
theorem dX4_places_2 : decode cX4_places 2 = .ok (.bipush 6, 2) := by decide +kernel
theorem dX4_places_4 : decode cX4_places 4 = .ok (.iload_n 1, 1) := by decide +kernel
theorem dX4_places_5 : decode cX4_places 5 = .ok (.imul, 1) := by decide +kernel
theorem dX4_places_6 : decode cX4_places 6 = .ok (.iadd, 1) := by decide +kernel
theorem dX4_places_7 : decode cX4_places 7 = .ok (.istore 5, 2) := by decide +kernel
theorem dX4_places_9 : decode cX4_places 9 = .ok (.aload_n 0, 1) := by decide +kernel
theorem dX4_places_10 : decode cX4_places 10 = .ok (.getfield 7, 3) := by decide +kernel
theorem dX4_places_13 : decode cX4_places 13 = .ok (.iload 5, 2) := by decide +kernel
theorem dX4_places_15 : decode cX4_places 15 = .ok (.iconst 4, 1) := by decide +kernel
theorem dX4_places_16 : decode cX4_places 16 = .ok (.iadd, 1) := by decide +kernel
theorem dX4_places_17 : decode cX4_places 17 = .ok (.iload_n 2, 1) := by decide +kernel
theorem dX4_places_18 : decode cX4_places 18 = .ok (.iastore, 1) := by decide +kernel
theorem dX4_places_19 : decode cX4_places 19 = .ok (.aload_n 0, 1) := by decide +kernel
theorem dX4_places_20 : decode cX4_places 20 = .ok (.getfield 7, 3) := by decide +kernel
theorem dX4_places_23 : decode cX4_places 23 = .ok (.iload 5, 2) := by decide +kernel
theorem dX4_places_25 : decode cX4_places 25 = .ok (.iconst 5, 1) := by decide +kernel
theorem dX4_places_26 : decode cX4_places 26 = .ok (.iadd, 1) := by decide +kernel
theorem dX4_places_27 : decode cX4_places 27 = .ok (.iload_n 3, 1) := by decide +kernel
theorem dX4_places_28 : decode cX4_places 28 = .ok (.iastore, 1) := by decide +kernel
theorem dX4_places_29 : decode cX4_places 29 = .ok (.aload_n 0, 1) := by decide +kernel
theorem dX4_places_30 : decode cX4_places 30 = .ok (.getfield 7, 3) := by decide +kernel
theorem dX4_places_33 : decode cX4_places 33 = .ok (.iload 5, 2) := by decide +kernel
theorem dX4_places_35 : decode cX4_places 35 = .ok (.iconst 2, 1) := by decide +kernel
theorem dX4_places_36 : decode cX4_places 36 = .ok (.iadd, 1) := by decide +kernel
theorem dX4_places_37 : decode cX4_places 37 = .ok (.iload 4, 2) := by decide +kernel
theorem dX4_places_39 : decode cX4_places 39 = .ok (.iastore, 1) := by decide +kernel
theorem dX4_places_40 : decode cX4_places 40 = .ok (.return_, 1) := by decide +kernel
theorem dX4_steps_0 : decode cX4_steps 0 = .ok (.aload_n 0, 1) := by decide +kernel
theorem dX4_steps_1 : decode cX4_steps 1 = .ok (.iload_n 1, 1) := by decide +kernel
theorem dX4_steps_2 : decode cX4_steps 2 = .ok (.iconst 4, 1) := by decide +kernel
theorem dX4_steps_3 : decode cX4_steps 3 = .ok (.invokevirtual 71, 3) := by decide +kernel
theorem dX4_steps_6 : decode cX4_steps 6 = .ok (.istore 5, 2) := by decide +kernel
theorem dX4_steps_8 : decode cX4_steps 8 = .ok (.aload_n 0, 1) := by decide +kernel
theorem dX4_steps_9 : decode cX4_steps 9 = .ok (.iload_n 1, 1) := by decide +kernel
theorem dX4_steps_10 : decode cX4_steps 10 = .ok (.iconst 5, 1) := by decide +kernel
theorem dX4_steps_11 : decode cX4_steps 11 = .ok (.invokevirtual 71, 3) := by decide +kernel
theorem dX4_steps_14 : decode cX4_steps 14 = .ok (.istore 6, 2) := by decide +kernel
theorem dX4_steps_16 : decode cX4_steps 16 = .ok (.aload_n 0, 1) := by decide +kernel
theorem dX4_steps_17 : decode cX4_steps 17 = .ok (.iload_n 1, 1) := by decide +kernel
theorem dX4_steps_18 : decode cX4_steps 18 = .ok (.iconst 2, 1) := by decide +kernel
theorem dX4_steps_19 : decode cX4_steps 19 = .ok (.invokevirtual 71, 3) := by decide +kernel
theorem dX4_steps_22 : decode cX4_steps 22 = .ok (.istore 7, 2) := by decide +kernel
theorem dX4_steps_24 : decode cX4_steps 24 = .ok (.aload_n 0, 1) := by decide +kernel
theorem dX4_steps_25 : decode cX4_steps 25 = .ok (.iload_n 1, 1) := by decide +kernel
theorem dX4_steps_26 : decode cX4_steps 26 = .ok (.iload_n 2, 1) := by decide +kernel
theorem dX4_steps_27 : decode cX4_steps 27 = .ok (.iload_n 3, 1) := by decide +kernel
theorem dX4_steps_28 : decode cX4_steps 28 = .ok (.iload 4, 2) := by decide +kernel
theorem dX4_steps_30 : decode cX4_steps 30 = .ok (.invokevirtual 128, 3) := by decide +kernel
theorem dX4_steps_33 : decode cX4_steps 33 = .ok (.aload_n 0, 1) := by decide +kernel
theorem dX4_steps_34 : decode cX4_steps 34 = .ok (.invokevirtual 122, 3) := by decide +kernel
theorem dX4_steps_37 : decode cX4_steps 37 = .ok (.istore 8, 2) := by decide +kernel
theorem dX4_steps_39 : decode cX4_steps 39 = .ok (.iload 8, 2) := by decide +kernel
theorem dX4_steps_41 : decode cX4_steps 41 = .ok (.ifCond .le 17, 3) := by decide +kernel
theorem dX4_steps_44 : decode cX4_steps 44 = .ok (.aload_n 0, 1) := by decide +kernel
theorem dX4_steps_45 : decode cX4_steps 45 = .ok (.iload_n 1, 1) := by decide +kernel
theorem dX4_steps_46 : decode cX4_steps 46 = .ok (.iload 5, 2) := by decide +kernel
theorem dX4_steps_48 : decode cX4_steps 48 = .ok (.iload 6, 2) := by decide +kernel
theorem dX4_steps_50 : decode cX4_steps 50 = .ok (.iload 7, 2) := by decide +kernel
theorem dX4_steps_52 : decode cX4_steps 52 = .ok (.invokevirtual 128, 3) := by decide +kernel
theorem dX4_steps_55 : decode cX4_steps 55 = .ok (.iload 8, 2) := by decide +kernel
theorem dX4_steps_57 : decode cX4_steps 57 = .ok (.ireturn, 1) := by decide +kernel
theorem dX4_steps_58 : decode cX4_steps 58 = .ok (.aload_n 0, 1) := by decide +kernel
theorem dX4_steps_59 : decode cX4_steps 59 = .ok (.getfield 7, 3) := by decide +kernel
theorem dX4_steps_62 : decode cX4_steps 62 = .ok (.bipush 16, 2) := by decide +kernel
theorem dX4_steps_64 : decode cX4_steps 64 = .ok (.iaload, 1) := by decide +kernel
theorem dX4_steps_65 : decode cX4_steps 65 = .ok (.bipush 20, 2) := by decide +kernel
theorem dX4_steps_67 : decode cX4_steps 67 = .ok (.if_icmp .ne 49, 3) := by decide +kernel
theorem dX4_steps_70 : decode cX4_steps 70 = .ok (.sipush 139, 3) := by decide +kernel
theorem dX4_steps_73 : decode cX4_steps 73 = .ok (.istore 9, 2) := by decide +kernel
theorem dX4_steps_75 : decode cX4_steps 75 = .ok (.iload 9, 2) := by decide +kernel
theorem dX4_steps_77 : decode cX4_steps 77 = .ok (.sipush 215, 3) := by decide +kernel
theorem dX4_steps_80 : decode cX4_steps 80 = .ok (.if_icmp .ge 25, 3) := by decide +kernel
theorem dX4_steps_83 : decode cX4_steps 83 = .ok (.aload_n 0, 1) := by decide +kernel
theorem dX4_steps_84 : decode cX4_steps 84 = .ok (.getfield 7, 3) := by decide +kernel
theorem dX4_steps_87 : decode cX4_steps 87 = .ok (.iload 9, 2) := by decide +kernel
theorem dX4_steps_89 : decode cX4_steps 89 = .ok (.aload_n 0, 1) := by decide +kernel
theorem dX4_steps_90 : decode cX4_steps 90 = .ok (.getfield 7, 3) := by decide +kernel
theorem dX4_steps_93 : decode cX4_steps 93 = .ok (.iload 9, 2) := by decide +kernel
theorem dX4_steps_95 : decode cX4_steps 95 = .ok (.iconst 4, 1) := by decide +kernel
theorem dX4_steps_96 : decode cX4_steps 96 = .ok (.iadd, 1) := by decide +kernel
theorem dX4_steps_97 : decode cX4_steps 97 = .ok (.iaload, 1) := by decide +kernel
theorem dX4_steps_98 : decode cX4_steps 98 = .ok (.iastore, 1) := by decide +kernel
theorem dX4_steps_99 : decode cX4_steps 99 = .ok (.iinc 9 1, 3) := by decide +kernel
theorem dX4_steps_102 : decode cX4_steps 102 = .ok (.goto (-27), 3) := by decide +kernel
theorem dX4_steps_105 : decode cX4_steps 105 = .ok (.aload_n 0, 1) := by decide +kernel
theorem dX4_steps_106 : decode cX4_steps 106 = .ok (.getfield 7, 3) := by decide +kernel
theorem dX4_steps_109 : decode cX4_steps 109 = .ok (.bipush 16, 2) := by decide +kernel
theorem dX4_steps_111 : decode cX4_steps 111 = .ok (.dup2, 1) := by decide +kernel
theorem dX4_steps_112 : decode cX4_steps 112 = .ok (.iaload, 1) := by decide +kernel
theorem dX4_steps_113 : decode cX4_steps 113 = .ok (.iconst 1, 1) := by decide +kernel
theorem dX4_steps_114 : decode cX4_steps 114 = .ok (.isub, 1) := by decide +kernel
theorem dX4_steps_115 : decode cX4_steps 115 = .ok (.iastore, 1) := by decide +kernel
theorem dX4_steps_116 : decode cX4_steps 116 = .ok (.sipush 139, 3) := by decide +kernel
theorem dX4_steps_119 : decode cX4_steps 119 = .ok (.iconst 4, 1) := by decide +kernel
theorem dX4_steps_120 : decode cX4_steps 120 = .ok (.aload_n 0, 1) := by decide +kernel
theorem dX4_steps_121 : decode cX4_steps 121 = .ok (.getfield 7, 3) := by decide +kernel
theorem dX4_steps_124 : decode cX4_steps 124 = .ok (.bipush 16, 2) := by decide +kernel
theorem dX4_steps_126 : decode cX4_steps 126 = .ok (.iaload, 1) := by decide +kernel
theorem dX4_steps_127 : decode cX4_steps 127 = .ok (.imul, 1) := by decide +kernel
theorem dX4_steps_128 : decode cX4_steps 128 = .ok (.iadd, 1) := by decide +kernel
theorem dX4_steps_129 : decode cX4_steps 129 = .ok (.istore 9, 2) := by decide +kernel
theorem dX4_steps_131 : decode cX4_steps 131 = .ok (.aload_n 0, 1) := by decide +kernel
theorem dX4_steps_132 : decode cX4_steps 132 = .ok (.getfield 7, 3) := by decide +kernel
theorem dX4_steps_135 : decode cX4_steps 135 = .ok (.iload 9, 2) := by decide +kernel
theorem dX4_steps_137 : decode cX4_steps 137 = .ok (.iload_n 1, 1) := by decide +kernel
theorem dX4_steps_138 : decode cX4_steps 138 = .ok (.iastore, 1) := by decide +kernel
theorem dX4_steps_139 : decode cX4_steps 139 = .ok (.aload_n 0, 1) := by decide +kernel
theorem dX4_steps_140 : decode cX4_steps 140 = .ok (.getfield 7, 3) := by decide +kernel
theorem dX4_steps_143 : decode cX4_steps 143 = .ok (.iload 9, 2) := by decide +kernel
theorem dX4_steps_145 : decode cX4_steps 145 = .ok (.iconst 1, 1) := by decide +kernel
theorem dX4_steps_146 : decode cX4_steps 146 = .ok (.iadd, 1) := by decide +kernel
theorem dX4_steps_147 : decode cX4_steps 147 = .ok (.iload 5, 2) := by decide +kernel
theorem dX4_steps_149 : decode cX4_steps 149 = .ok (.iastore, 1) := by decide +kernel
theorem dX4_steps_150 : decode cX4_steps 150 = .ok (.aload_n 0, 1) := by decide +kernel
theorem dX4_steps_151 : decode cX4_steps 151 = .ok (.getfield 7, 3) := by decide +kernel
theorem dX4_steps_154 : decode cX4_steps 154 = .ok (.iload 9, 2) := by decide +kernel
theorem dX4_steps_156 : decode cX4_steps 156 = .ok (.iconst 2, 1) := by decide +kernel
theorem dX4_steps_157 : decode cX4_steps 157 = .ok (.iadd, 1) := by decide +kernel
theorem dX4_steps_158 : decode cX4_steps 158 = .ok (.iload 6, 2) := by decide +kernel
theorem dX4_steps_160 : decode cX4_steps 160 = .ok (.iastore, 1) := by decide +kernel
theorem dX4_steps_161 : decode cX4_steps 161 = .ok (.aload_n 0, 1) := by decide +kernel
theorem dX4_steps_162 : decode cX4_steps 162 = .ok (.getfield 7, 3) := by decide +kernel
theorem dX4_steps_165 : decode cX4_steps 165 = .ok (.iload 9, 2) := by decide +kernel
theorem dX4_steps_167 : decode cX4_steps 167 = .ok (.iconst 3, 1) := by decide +kernel
theorem dX4_steps_168 : decode cX4_steps 168 = .ok (.iadd, 1) := by decide +kernel
theorem dX4_steps_169 : decode cX4_steps 169 = .ok (.iload 7, 2) := by decide +kernel
theorem dX4_steps_171 : decode cX4_steps 171 = .ok (.iastore, 1) := by decide +kernel
theorem dX4_steps_172 : decode cX4_steps 172 = .ok (.aload_n 0, 1) := by decide +kernel
theorem dX4_steps_173 : decode cX4_steps 173 = .ok (.getfield 7, 3) := by decide +kernel
theorem dX4_steps_176 : decode cX4_steps 176 = .ok (.bipush 16, 2) := by decide +kernel
theorem dX4_steps_178 : decode cX4_steps 178 = .ok (.dup2, 1) := by decide +kernel
theorem dX4_steps_179 : decode cX4_steps 179 = .ok (.iaload, 1) := by decide +kernel
theorem dX4_steps_180 : decode cX4_steps 180 = .ok (.iconst 1, 1) := by decide +kernel
theorem dX4_steps_181 : decode cX4_steps 181 = .ok (.iadd, 1) := by decide +kernel
theorem dX4_steps_182 : decode cX4_steps 182 = .ok (.iastore, 1) := by decide +kernel
theorem dX4_steps_183 : decode cX4_steps 183 = .ok (.aload_n 0, 1) := by decide +kernel
theorem dX4_steps_184 : decode cX4_steps 184 = .ok (.getfield 7, 3) := by decide +kernel
theorem dX4_steps_187 : decode cX4_steps 187 = .ok (.bipush 17, 2) := by decide +kernel
theorem dX4_steps_189 : decode cX4_steps 189 = .ok (.dup2, 1) := by decide +kernel
theorem dX4_steps_190 : decode cX4_steps 190 = .ok (.iaload, 1) := by decide +kernel
theorem dX4_steps_191 : decode cX4_steps 191 = .ok (.iconst 1, 1) := by decide +kernel
theorem dX4_steps_192 : decode cX4_steps 192 = .ok (.iadd, 1) := by decide +kernel
theorem dX4_steps_193 : decode cX4_steps 193 = .ok (.iastore, 1) := by decide +kernel
theorem dX4_steps_194 : decode cX4_steps 194 = .ok (.iconst 0, 1) := by decide +kernel
theorem dX4_steps_195 : decode cX4_steps 195 = .ok (.ireturn, 1) := by decide +kernel
theorem dX4_moves_0 : decode cX4_moves 0 = .ok (.aload_n 0, 1) := by decide +kernel
theorem dX4_moves_1 : decode cX4_moves 1 = .ok (.iload_n 1, 1) := by decide +kernel
theorem dX4_moves_2 : decode cX4_moves 2 = .ok (.invokevirtual 74, 3) := by decide +kernel
theorem dX4_moves_5 : decode cX4_moves 5 = .ok (.ifCond .eq 5, 3) := by decide +kernel
theorem dX4_moves_8 : decode cX4_moves 8 = .ok (.iconst 1, 1) := by decide +kernel
theorem dX4_moves_9 : decode cX4_moves 9 = .ok (.ireturn, 1) := by decide +kernel
theorem dX4_moves_10 : decode cX4_moves 10 = .ok (.aload_n 0, 1) := by decide +kernel
theorem dX4_moves_11 : decode cX4_moves 11 = .ok (.iload_n 1, 1) := by decide +kernel
theorem dX4_moves_12 : decode cX4_moves 12 = .ok (.iconst 4, 1) := by decide +kernel
theorem dX4_moves_13 : decode cX4_moves 13 = .ok (.invokevirtual 71, 3) := by decide +kernel
theorem dX4_moves_16 : decode cX4_moves 16 = .ok (.iload_n 2, 1) := by decide +kernel
theorem dX4_moves_17 : decode cX4_moves 17 = .ok (.if_icmp .ne 5, 3) := by decide +kernel
theorem dX4_moves_20 : decode cX4_moves 20 = .ok (.iconst 2, 1) := by decide +kernel
theorem dX4_moves_21 : decode cX4_moves 21 = .ok (.ireturn, 1) := by decide +kernel
theorem dX4_moves_22 : decode cX4_moves 22 = .ok (.iload_n 2, 1) := by decide +kernel
theorem dX4_moves_23 : decode cX4_moves 23 = .ok (.iconst (-1), 1) := by decide +kernel
theorem dX4_moves_24 : decode cX4_moves 24 = .ok (.if_icmp .ne 7, 3) := by decide +kernel
theorem dX4_moves_27 : decode cX4_moves 27 = .ok (.iconst (-1), 1) := by decide +kernel
theorem dX4_moves_28 : decode cX4_moves 28 = .ok (.goto 14, 3) := by decide +kernel
theorem dX4_moves_31 : decode cX4_moves 31 = .ok (.aload_n 0, 1) := by decide +kernel
theorem dX4_moves_32 : decode cX4_moves 32 = .ok (.iload_n 2, 1) := by decide +kernel
theorem dX4_moves_33 : decode cX4_moves 33 = .ok (.aload_n 0, 1) := by decide +kernel
theorem dX4_moves_34 : decode cX4_moves 34 = .ok (.iload_n 1, 1) := by decide +kernel
theorem dX4_moves_35 : decode cX4_moves 35 = .ok (.iconst 0, 1) := by decide +kernel
theorem dX4_moves_36 : decode cX4_moves 36 = .ok (.invokevirtual 71, 3) := by decide +kernel
theorem dX4_moves_39 : decode cX4_moves 39 = .ok (.invokevirtual 100, 3) := by decide +kernel
theorem dX4_moves_42 : decode cX4_moves 42 = .ok (.istore_n 3, 1) := by decide +kernel
theorem dX4_moves_43 : decode cX4_moves 43 = .ok (.iload_n 2, 1) := by decide +kernel
theorem dX4_moves_44 : decode cX4_moves 44 = .ok (.iconst (-1), 1) := by decide +kernel
theorem dX4_moves_45 : decode cX4_moves 45 = .ok (.if_icmp .eq 12, 3) := by decide +kernel
theorem dX4_moves_48 : decode cX4_moves 48 = .ok (.iload_n 3, 1) := by decide +kernel
theorem dX4_moves_49 : decode cX4_moves 49 = .ok (.iconst (-1), 1) := by decide +kernel
theorem dX4_moves_50 : decode cX4_moves 50 = .ok (.if_icmp .ne 7, 3) := by decide +kernel
theorem dX4_moves_53 : decode cX4_moves 53 = .ok (.iconst 3, 1) := by decide +kernel
theorem dX4_moves_54 : decode cX4_moves 54 = .ok (.goto 16, 3) := by decide +kernel
theorem dX4_moves_57 : decode cX4_moves 57 = .ok (.aload_n 0, 1) := by decide +kernel
theorem dX4_moves_58 : decode cX4_moves 58 = .ok (.iload_n 1, 1) := by decide +kernel
theorem dX4_moves_59 : decode cX4_moves 59 = .ok (.iload_n 2, 1) := by decide +kernel
theorem dX4_moves_60 : decode cX4_moves 60 = .ok (.iload_n 3, 1) := by decide +kernel
theorem dX4_moves_61 : decode cX4_moves 61 = .ok (.aload_n 0, 1) := by decide +kernel
theorem dX4_moves_62 : decode cX4_moves 62 = .ok (.iload_n 1, 1) := by decide +kernel
theorem dX4_moves_63 : decode cX4_moves 63 = .ok (.iconst 2, 1) := by decide +kernel
theorem dX4_moves_64 : decode cX4_moves 64 = .ok (.invokevirtual 71, 3) := by decide +kernel
theorem dX4_moves_67 : decode cX4_moves 67 = .ok (.invokevirtual 132, 3) := by decide +kernel
theorem dX4_moves_70 : decode cX4_moves 70 = .ok (.ireturn, 1) := by decide +kernel
theorem dX4_changes_0 : decode cX4_changes 0 = .ok (.aload_n 0, 1) := by decide +kernel
theorem dX4_changes_1 : decode cX4_changes 1 = .ok (.iload_n 1, 1) := by decide +kernel
theorem dX4_changes_2 : decode cX4_changes 2 = .ok (.invokevirtual 74, 3) := by decide +kernel
theorem dX4_changes_5 : decode cX4_changes 5 = .ok (.ifCond .eq 7, 3) := by decide +kernel
theorem dX4_changes_8 : decode cX4_changes 8 = .ok (.iconst 1, 1) := by decide +kernel
theorem dX4_changes_9 : decode cX4_changes 9 = .ok (.goto 35, 3) := by decide +kernel
theorem dX4_changes_12 : decode cX4_changes 12 = .ok (.aload_n 0, 1) := by decide +kernel
theorem dX4_changes_13 : decode cX4_changes 13 = .ok (.iload_n 1, 1) := by decide +kernel
theorem dX4_changes_14 : decode cX4_changes 14 = .ok (.iconst 2, 1) := by decide +kernel
theorem dX4_changes_15 : decode cX4_changes 15 = .ok (.invokevirtual 71, 3) := by decide +kernel
theorem dX4_changes_18 : decode cX4_changes 18 = .ok (.iload_n 2, 1) := by decide +kernel
theorem dX4_changes_19 : decode cX4_changes 19 = .ok (.if_icmp .ne 7, 3) := by decide +kernel
theorem dX4_changes_22 : decode cX4_changes 22 = .ok (.iconst 2, 1) := by decide +kernel
theorem dX4_changes_23 : decode cX4_changes 23 = .ok (.goto 21, 3) := by decide +kernel
theorem dX4_changes_26 : decode cX4_changes 26 = .ok (.aload_n 0, 1) := by decide +kernel
theorem dX4_changes_27 : decode cX4_changes 27 = .ok (.iload_n 1, 1) := by decide +kernel
theorem dX4_changes_28 : decode cX4_changes 28 = .ok (.aload_n 0, 1) := by decide +kernel
theorem dX4_changes_29 : decode cX4_changes 29 = .ok (.iload_n 1, 1) := by decide +kernel
theorem dX4_changes_30 : decode cX4_changes 30 = .ok (.iconst 4, 1) := by decide +kernel
theorem dX4_changes_31 : decode cX4_changes 31 = .ok (.invokevirtual 71, 3) := by decide +kernel
theorem dX4_changes_34 : decode cX4_changes 34 = .ok (.aload_n 0, 1) := by decide +kernel
theorem dX4_changes_35 : decode cX4_changes 35 = .ok (.iload_n 1, 1) := by decide +kernel
theorem dX4_changes_36 : decode cX4_changes 36 = .ok (.iconst 5, 1) := by decide +kernel
theorem dX4_changes_37 : decode cX4_changes 37 = .ok (.invokevirtual 71, 3) := by decide +kernel
theorem dX4_changes_40 : decode cX4_changes 40 = .ok (.iload_n 2, 1) := by decide +kernel
theorem dX4_changes_41 : decode cX4_changes 41 = .ok (.invokevirtual 132, 3) := by decide +kernel
theorem dX4_changes_44 : decode cX4_changes 44 = .ok (.ireturn, 1) := by decide +kernel
theorem dX4_backs_0 : decode cX4_backs 0 = .ok (.aload_n 0, 1) := by decide +kernel
theorem dX4_backs_1 : decode cX4_backs 1 = .ok (.getfield 7, 3) := by decide +kernel
theorem dX4_backs_4 : decode cX4_backs 4 = .ok (.bipush 16, 2) := by decide +kernel
theorem dX4_backs_6 : decode cX4_backs 6 = .ok (.iaload, 1) := by decide +kernel
theorem dX4_backs_7 : decode cX4_backs 7 = .ok (.ifCond .ne 5, 3) := by decide +kernel
theorem dX4_backs_10 : decode cX4_backs 10 = .ok (.iconst 2, 1) := by decide +kernel
theorem dX4_backs_11 : decode cX4_backs 11 = .ok (.ireturn, 1) := by decide +kernel
theorem dX4_backs_12 : decode cX4_backs 12 = .ok (.sipush 139, 3) := by decide +kernel
theorem dX4_backs_15 : decode cX4_backs 15 = .ok (.iconst 4, 1) := by decide +kernel
theorem dX4_backs_16 : decode cX4_backs 16 = .ok (.aload_n 0, 1) := by decide +kernel
theorem dX4_backs_17 : decode cX4_backs 17 = .ok (.getfield 7, 3) := by decide +kernel
theorem dX4_backs_20 : decode cX4_backs 20 = .ok (.bipush 16, 2) := by decide +kernel
theorem dX4_backs_22 : decode cX4_backs 22 = .ok (.iaload, 1) := by decide +kernel
theorem dX4_backs_23 : decode cX4_backs 23 = .ok (.iconst 1, 1) := by decide +kernel
theorem dX4_backs_24 : decode cX4_backs 24 = .ok (.isub, 1) := by decide +kernel
theorem dX4_backs_25 : decode cX4_backs 25 = .ok (.imul, 1) := by decide +kernel
theorem dX4_backs_26 : decode cX4_backs 26 = .ok (.iadd, 1) := by decide +kernel
theorem dX4_backs_27 : decode cX4_backs 27 = .ok (.istore_n 1, 1) := by decide +kernel
theorem dX4_backs_28 : decode cX4_backs 28 = .ok (.aload_n 0, 1) := by decide +kernel
theorem dX4_backs_29 : decode cX4_backs 29 = .ok (.getfield 7, 3) := by decide +kernel
theorem dX4_backs_32 : decode cX4_backs 32 = .ok (.iload_n 1, 1) := by decide +kernel
theorem dX4_backs_33 : decode cX4_backs 33 = .ok (.iaload, 1) := by decide +kernel
theorem dX4_backs_34 : decode cX4_backs 34 = .ok (.istore_n 2, 1) := by decide +kernel
theorem dX4_backs_35 : decode cX4_backs 35 = .ok (.aload_n 0, 1) := by decide +kernel
theorem dX4_backs_36 : decode cX4_backs 36 = .ok (.iload_n 2, 1) := by decide +kernel
theorem dX4_backs_37 : decode cX4_backs 37 = .ok (.invokevirtual 74, 3) := by decide +kernel
theorem dX4_backs_40 : decode cX4_backs 40 = .ok (.ifCond .eq 5, 3) := by decide +kernel
theorem dX4_backs_43 : decode cX4_backs 43 = .ok (.iconst 1, 1) := by decide +kernel
theorem dX4_backs_44 : decode cX4_backs 44 = .ok (.ireturn, 1) := by decide +kernel
theorem dX4_backs_45 : decode cX4_backs 45 = .ok (.aload_n 0, 1) := by decide +kernel
theorem dX4_backs_46 : decode cX4_backs 46 = .ok (.getfield 7, 3) := by decide +kernel
theorem dX4_backs_49 : decode cX4_backs 49 = .ok (.iload_n 1, 1) := by decide +kernel
theorem dX4_backs_50 : decode cX4_backs 50 = .ok (.iconst 1, 1) := by decide +kernel
theorem dX4_backs_51 : decode cX4_backs 51 = .ok (.iadd, 1) := by decide +kernel
theorem dX4_backs_52 : decode cX4_backs 52 = .ok (.iaload, 1) := by decide +kernel
theorem dX4_backs_53 : decode cX4_backs 53 = .ok (.iconst (-1), 1) := by decide +kernel
theorem dX4_backs_54 : decode cX4_backs 54 = .ok (.if_icmp .eq 35, 3) := by decide +kernel
theorem dX4_backs_57 : decode cX4_backs 57 = .ok (.aload_n 0, 1) := by decide +kernel
theorem dX4_backs_58 : decode cX4_backs 58 = .ok (.aload_n 0, 1) := by decide +kernel
theorem dX4_backs_59 : decode cX4_backs 59 = .ok (.getfield 7, 3) := by decide +kernel
theorem dX4_backs_62 : decode cX4_backs 62 = .ok (.iload_n 1, 1) := by decide +kernel
theorem dX4_backs_63 : decode cX4_backs 63 = .ok (.iconst 1, 1) := by decide +kernel
theorem dX4_backs_64 : decode cX4_backs 64 = .ok (.iadd, 1) := by decide +kernel
theorem dX4_backs_65 : decode cX4_backs 65 = .ok (.iaload, 1) := by decide +kernel
theorem dX4_backs_66 : decode cX4_backs 66 = .ok (.aload_n 0, 1) := by decide +kernel
theorem dX4_backs_67 : decode cX4_backs 67 = .ok (.getfield 7, 3) := by decide +kernel
theorem dX4_backs_70 : decode cX4_backs 70 = .ok (.iload_n 1, 1) := by decide +kernel
theorem dX4_backs_71 : decode cX4_backs 71 = .ok (.iconst 2, 1) := by decide +kernel
theorem dX4_backs_72 : decode cX4_backs 72 = .ok (.iadd, 1) := by decide +kernel
theorem dX4_backs_73 : decode cX4_backs 73 = .ok (.iaload, 1) := by decide +kernel
theorem dX4_backs_74 : decode cX4_backs 74 = .ok (.aload_n 0, 1) := by decide +kernel
theorem dX4_backs_75 : decode cX4_backs 75 = .ok (.iload_n 2, 1) := by decide +kernel
theorem dX4_backs_76 : decode cX4_backs 76 = .ok (.iconst 0, 1) := by decide +kernel
theorem dX4_backs_77 : decode cX4_backs 77 = .ok (.invokevirtual 71, 3) := by decide +kernel
theorem dX4_backs_80 : decode cX4_backs 80 = .ok (.iload_n 2, 1) := by decide +kernel
theorem dX4_backs_81 : decode cX4_backs 81 = .ok (.invokevirtual 87, 3) := by decide +kernel
theorem dX4_backs_84 : decode cX4_backs 84 = .ok (.ifCond .ne 5, 3) := by decide +kernel
theorem dX4_backs_87 : decode cX4_backs 87 = .ok (.iconst 3, 1) := by decide +kernel
theorem dX4_backs_88 : decode cX4_backs 88 = .ok (.ireturn, 1) := by decide +kernel
theorem dX4_backs_89 : decode cX4_backs 89 = .ok (.aload_n 0, 1) := by decide +kernel
theorem dX4_backs_90 : decode cX4_backs 90 = .ok (.iload_n 2, 1) := by decide +kernel
theorem dX4_backs_91 : decode cX4_backs 91 = .ok (.iconst 4, 1) := by decide +kernel
theorem dX4_backs_92 : decode cX4_backs 92 = .ok (.invokevirtual 71, 3) := by decide +kernel
theorem dX4_backs_95 : decode cX4_backs 95 = .ok (.istore_n 3, 1) := by decide +kernel
theorem dX4_backs_96 : decode cX4_backs 96 = .ok (.aload_n 0, 1) := by decide +kernel
theorem dX4_backs_97 : decode cX4_backs 97 = .ok (.iload_n 2, 1) := by decide +kernel
theorem dX4_backs_98 : decode cX4_backs 98 = .ok (.iconst 5, 1) := by decide +kernel
theorem dX4_backs_99 : decode cX4_backs 99 = .ok (.invokevirtual 71, 3) := by decide +kernel
theorem dX4_backs_102 : decode cX4_backs 102 = .ok (.istore 4, 2) := by decide +kernel
theorem dX4_backs_104 : decode cX4_backs 104 = .ok (.aload_n 0, 1) := by decide +kernel
theorem dX4_backs_105 : decode cX4_backs 105 = .ok (.iload_n 2, 1) := by decide +kernel
theorem dX4_backs_106 : decode cX4_backs 106 = .ok (.iconst 2, 1) := by decide +kernel
theorem dX4_backs_107 : decode cX4_backs 107 = .ok (.invokevirtual 71, 3) := by decide +kernel
theorem dX4_backs_110 : decode cX4_backs 110 = .ok (.istore 5, 2) := by decide +kernel
theorem dX4_backs_112 : decode cX4_backs 112 = .ok (.aload_n 0, 1) := by decide +kernel
theorem dX4_backs_113 : decode cX4_backs 113 = .ok (.iload_n 2, 1) := by decide +kernel
theorem dX4_backs_114 : decode cX4_backs 114 = .ok (.aload_n 0, 1) := by decide +kernel
theorem dX4_backs_115 : decode cX4_backs 115 = .ok (.getfield 7, 3) := by decide +kernel
theorem dX4_backs_118 : decode cX4_backs 118 = .ok (.iload_n 1, 1) := by decide +kernel
theorem dX4_backs_119 : decode cX4_backs 119 = .ok (.iconst 1, 1) := by decide +kernel
theorem dX4_backs_120 : decode cX4_backs 120 = .ok (.iadd, 1) := by decide +kernel
theorem dX4_backs_121 : decode cX4_backs 121 = .ok (.iaload, 1) := by decide +kernel
theorem dX4_backs_122 : decode cX4_backs 122 = .ok (.aload_n 0, 1) := by decide +kernel
theorem dX4_backs_123 : decode cX4_backs 123 = .ok (.getfield 7, 3) := by decide +kernel
theorem dX4_backs_126 : decode cX4_backs 126 = .ok (.iload_n 1, 1) := by decide +kernel
theorem dX4_backs_127 : decode cX4_backs 127 = .ok (.iconst 2, 1) := by decide +kernel
theorem dX4_backs_128 : decode cX4_backs 128 = .ok (.iadd, 1) := by decide +kernel
theorem dX4_backs_129 : decode cX4_backs 129 = .ok (.iaload, 1) := by decide +kernel
theorem dX4_backs_130 : decode cX4_backs 130 = .ok (.aload_n 0, 1) := by decide +kernel
theorem dX4_backs_131 : decode cX4_backs 131 = .ok (.getfield 7, 3) := by decide +kernel
theorem dX4_backs_134 : decode cX4_backs 134 = .ok (.iload_n 1, 1) := by decide +kernel
theorem dX4_backs_135 : decode cX4_backs 135 = .ok (.iconst 3, 1) := by decide +kernel
theorem dX4_backs_136 : decode cX4_backs 136 = .ok (.iadd, 1) := by decide +kernel
theorem dX4_backs_137 : decode cX4_backs 137 = .ok (.iaload, 1) := by decide +kernel
theorem dX4_backs_138 : decode cX4_backs 138 = .ok (.invokevirtual 128, 3) := by decide +kernel
theorem dX4_backs_141 : decode cX4_backs 141 = .ok (.aload_n 0, 1) := by decide +kernel
theorem dX4_backs_142 : decode cX4_backs 142 = .ok (.invokevirtual 122, 3) := by decide +kernel
theorem dX4_backs_145 : decode cX4_backs 145 = .ok (.istore 6, 2) := by decide +kernel
theorem dX4_backs_147 : decode cX4_backs 147 = .ok (.iload 6, 2) := by decide +kernel
theorem dX4_backs_149 : decode cX4_backs 149 = .ok (.ifCond .le 16, 3) := by decide +kernel
theorem dX4_backs_152 : decode cX4_backs 152 = .ok (.aload_n 0, 1) := by decide +kernel
theorem dX4_backs_153 : decode cX4_backs 153 = .ok (.iload_n 2, 1) := by decide +kernel
theorem dX4_backs_154 : decode cX4_backs 154 = .ok (.iload_n 3, 1) := by decide +kernel
theorem dX4_backs_155 : decode cX4_backs 155 = .ok (.iload 4, 2) := by decide +kernel
theorem dX4_backs_157 : decode cX4_backs 157 = .ok (.iload 5, 2) := by decide +kernel
theorem dX4_backs_159 : decode cX4_backs 159 = .ok (.invokevirtual 128, 3) := by decide +kernel
theorem dX4_backs_162 : decode cX4_backs 162 = .ok (.iload 6, 2) := by decide +kernel
theorem dX4_backs_164 : decode cX4_backs 164 = .ok (.ireturn, 1) := by decide +kernel
theorem dX4_backs_165 : decode cX4_backs 165 = .ok (.aload_n 0, 1) := by decide +kernel
theorem dX4_backs_166 : decode cX4_backs 166 = .ok (.getfield 7, 3) := by decide +kernel
theorem dX4_backs_169 : decode cX4_backs 169 = .ok (.bipush 16, 2) := by decide +kernel
theorem dX4_backs_171 : decode cX4_backs 171 = .ok (.dup2, 1) := by decide +kernel
theorem dX4_backs_172 : decode cX4_backs 172 = .ok (.iaload, 1) := by decide +kernel
theorem dX4_backs_173 : decode cX4_backs 173 = .ok (.iconst 1, 1) := by decide +kernel
theorem dX4_backs_174 : decode cX4_backs 174 = .ok (.isub, 1) := by decide +kernel
theorem dX4_backs_175 : decode cX4_backs 175 = .ok (.iastore, 1) := by decide +kernel
theorem dX4_backs_176 : decode cX4_backs 176 = .ok (.aload_n 0, 1) := by decide +kernel
theorem dX4_backs_177 : decode cX4_backs 177 = .ok (.getfield 7, 3) := by decide +kernel
theorem dX4_backs_180 : decode cX4_backs 180 = .ok (.bipush 18, 2) := by decide +kernel
theorem dX4_backs_182 : decode cX4_backs 182 = .ok (.dup2, 1) := by decide +kernel
theorem dX4_backs_183 : decode cX4_backs 183 = .ok (.iaload, 1) := by decide +kernel
theorem dX4_backs_184 : decode cX4_backs 184 = .ok (.iconst 1, 1) := by decide +kernel
theorem dX4_backs_185 : decode cX4_backs 185 = .ok (.iadd, 1) := by decide +kernel
theorem dX4_backs_186 : decode cX4_backs 186 = .ok (.iastore, 1) := by decide +kernel
theorem dX4_backs_187 : decode cX4_backs 187 = .ok (.iconst 0, 1) := by decide +kernel
theorem dX4_backs_188 : decode cX4_backs 188 = .ok (.ireturn, 1) := by decide +kernel
theorem dX4_isPlace_0 : decode cX4_isPlace 0 = .ok (.iload_n 0, 1) := by decide +kernel
theorem dX4_isPlace_1 : decode cX4_isPlace 1 = .ok (.iconst (-1), 1) := by decide +kernel
theorem dX4_isPlace_2 : decode cX4_isPlace 2 = .ok (.iconst 5, 1) := by decide +kernel
theorem dX4_isPlace_3 : decode cX4_isPlace 3 = .ok (.invokestatic 43, 3) := by decide +kernel
theorem dX4_isPlace_6 : decode cX4_isPlace 6 = .ok (.ireturn, 1) := by decide +kernel
theorem dX4_ends_0 : decode cX4_ends 0 = .ok (.iload_n 1, 1) := by decide +kernel
theorem dX4_ends_1 : decode cX4_ends 1 = .ok (.ifCond .ne 11, 3) := by decide +kernel
theorem dX4_ends_4 : decode cX4_ends 4 = .ok (.aload_n 0, 1) := by decide +kernel
theorem dX4_ends_5 : decode cX4_ends 5 = .ok (.aload_n 0, 1) := by decide +kernel
theorem dX4_ends_6 : decode cX4_ends 6 = .ok (.getfield 16, 3) := by decide +kernel
theorem dX4_ends_9 : decode cX4_ends 9 = .ok (.invokevirtual 29, 3) := by decide +kernel
theorem dX4_ends_12 : decode cX4_ends 12 = .ok (.iload_n 1, 1) := by decide +kernel
theorem dX4_ends_13 : decode cX4_ends 13 = .ok (.ireturn, 1) := by decide +kernel
theorem dX4_move_0 : decode cX4_move 0 = .ok (.aload_n 0, 1) := by decide +kernel
theorem dX4_move_1 : decode cX4_move 1 = .ok (.aload_n 0, 1) := by decide +kernel
theorem dX4_move_2 : decode cX4_move 2 = .ok (.iload_n 1, 1) := by decide +kernel
theorem dX4_move_3 : decode cX4_move 3 = .ok (.invokevirtual 57, 3) := by decide +kernel
theorem dX4_move_6 : decode cX4_move 6 = .ok (.ifCond .ne 7, 3) := by decide +kernel
theorem dX4_move_9 : decode cX4_move 9 = .ok (.iconst 1, 1) := by decide +kernel
theorem dX4_move_10 : decode cX4_move 10 = .ok (.goto 15, 3) := by decide +kernel
theorem dX4_move_13 : decode cX4_move 13 = .ok (.iload_n 2, 1) := by decide +kernel
theorem dX4_move_14 : decode cX4_move 14 = .ok (.invokestatic 136, 3) := by decide +kernel
theorem dX4_move_17 : decode cX4_move 17 = .ok (.ifCond .eq 7, 3) := by decide +kernel
theorem dX4_move_20 : decode cX4_move 20 = .ok (.iconst 0, 1) := by decide +kernel
theorem dX4_move_21 : decode cX4_move 21 = .ok (.goto 4, 3) := by decide +kernel
theorem dX4_move_24 : decode cX4_move 24 = .ok (.iconst 2, 1) := by decide +kernel
theorem dX4_move_25 : decode cX4_move 25 = .ok (.invokevirtual 36, 3) := by decide +kernel
theorem dX4_move_28 : decode cX4_move 28 = .ok (.ifCond .eq 5, 3) := by decide +kernel
theorem dX4_move_31 : decode cX4_move 31 = .ok (.iconst 0, 1) := by decide +kernel
theorem dX4_move_32 : decode cX4_move 32 = .ok (.ireturn, 1) := by decide +kernel
theorem dX4_move_33 : decode cX4_move 33 = .ok (.aload_n 0, 1) := by decide +kernel
theorem dX4_move_34 : decode cX4_move 34 = .ok (.getfield 16, 3) := by decide +kernel
theorem dX4_move_37 : decode cX4_move 37 = .ok (.aload_n 0, 1) := by decide +kernel
theorem dX4_move_38 : decode cX4_move 38 = .ok (.getfield 7, 3) := by decide +kernel
theorem dX4_move_41 : decode cX4_move 41 = .ok (.invokestatic 139, 3) := by decide +kernel
theorem dX4_move_44 : decode cX4_move 44 = .ok (.aload_n 0, 1) := by decide +kernel
theorem dX4_move_45 : decode cX4_move 45 = .ok (.aload_n 0, 1) := by decide +kernel
theorem dX4_move_46 : decode cX4_move 46 = .ok (.iload_n 1, 1) := by decide +kernel
theorem dX4_move_47 : decode cX4_move 47 = .ok (.iload_n 2, 1) := by decide +kernel
theorem dX4_move_48 : decode cX4_move 48 = .ok (.invokevirtual 143, 3) := by decide +kernel
theorem dX4_move_51 : decode cX4_move 51 = .ok (.invokevirtual 146, 3) := by decide +kernel
theorem dX4_move_54 : decode cX4_move 54 = .ok (.ireturn, 1) := by decide +kernel
theorem dX4_change_0 : decode cX4_change 0 = .ok (.aload_n 0, 1) := by decide +kernel
theorem dX4_change_1 : decode cX4_change 1 = .ok (.aload_n 0, 1) := by decide +kernel
theorem dX4_change_2 : decode cX4_change 2 = .ok (.iload_n 1, 1) := by decide +kernel
theorem dX4_change_3 : decode cX4_change 3 = .ok (.invokevirtual 57, 3) := by decide +kernel
theorem dX4_change_6 : decode cX4_change 6 = .ok (.ifCond .ne 7, 3) := by decide +kernel
theorem dX4_change_9 : decode cX4_change 9 = .ok (.iconst 1, 1) := by decide +kernel
theorem dX4_change_10 : decode cX4_change 10 = .ok (.goto 17, 3) := by decide +kernel
theorem dX4_change_13 : decode cX4_change 13 = .ok (.iload_n 2, 1) := by decide +kernel
theorem dX4_change_14 : decode cX4_change 14 = .ok (.iconst 0, 1) := by decide +kernel
theorem dX4_change_15 : decode cX4_change 15 = .ok (.iconst 2, 1) := by decide +kernel
theorem dX4_change_16 : decode cX4_change 16 = .ok (.invokestatic 43, 3) := by decide +kernel
theorem dX4_change_19 : decode cX4_change 19 = .ok (.ifCond .eq 7, 3) := by decide +kernel
theorem dX4_change_22 : decode cX4_change 22 = .ok (.iconst 0, 1) := by decide +kernel
theorem dX4_change_23 : decode cX4_change 23 = .ok (.goto 4, 3) := by decide +kernel
theorem dX4_change_26 : decode cX4_change 26 = .ok (.iconst 2, 1) := by decide +kernel
theorem dX4_change_27 : decode cX4_change 27 = .ok (.invokevirtual 36, 3) := by decide +kernel
theorem dX4_change_30 : decode cX4_change 30 = .ok (.ifCond .eq 5, 3) := by decide +kernel
theorem dX4_change_33 : decode cX4_change 33 = .ok (.iconst 0, 1) := by decide +kernel
theorem dX4_change_34 : decode cX4_change 34 = .ok (.ireturn, 1) := by decide +kernel
theorem dX4_change_35 : decode cX4_change 35 = .ok (.aload_n 0, 1) := by decide +kernel
theorem dX4_change_36 : decode cX4_change 36 = .ok (.getfield 16, 3) := by decide +kernel
theorem dX4_change_39 : decode cX4_change 39 = .ok (.aload_n 0, 1) := by decide +kernel
theorem dX4_change_40 : decode cX4_change 40 = .ok (.getfield 7, 3) := by decide +kernel
theorem dX4_change_43 : decode cX4_change 43 = .ok (.invokestatic 139, 3) := by decide +kernel
theorem dX4_change_46 : decode cX4_change 46 = .ok (.aload_n 0, 1) := by decide +kernel
theorem dX4_change_47 : decode cX4_change 47 = .ok (.aload_n 0, 1) := by decide +kernel
theorem dX4_change_48 : decode cX4_change 48 = .ok (.iload_n 1, 1) := by decide +kernel
theorem dX4_change_49 : decode cX4_change 49 = .ok (.iload_n 2, 1) := by decide +kernel
theorem dX4_change_50 : decode cX4_change 50 = .ok (.invokevirtual 149, 3) := by decide +kernel
theorem dX4_change_53 : decode cX4_change 53 = .ok (.invokevirtual 146, 3) := by decide +kernel
theorem dX4_change_56 : decode cX4_change 56 = .ok (.ireturn, 1) := by decide +kernel
theorem dX4_backOut_0 : decode cX4_backOut 0 = .ok (.aload_n 0, 1) := by decide +kernel
theorem dX4_backOut_1 : decode cX4_backOut 1 = .ok (.iconst 0, 1) := by decide +kernel
theorem dX4_backOut_2 : decode cX4_backOut 2 = .ok (.putfield 25, 3) := by decide +kernel
theorem dX4_backOut_5 : decode cX4_backOut 5 = .ok (.aload_n 0, 1) := by decide +kernel
theorem dX4_backOut_6 : decode cX4_backOut 6 = .ok (.getfield 16, 3) := by decide +kernel
theorem dX4_backOut_9 : decode cX4_backOut 9 = .ok (.aload_n 0, 1) := by decide +kernel
theorem dX4_backOut_10 : decode cX4_backOut 10 = .ok (.getfield 7, 3) := by decide +kernel
theorem dX4_backOut_13 : decode cX4_backOut 13 = .ok (.invokestatic 139, 3) := by decide +kernel
theorem dX4_backOut_16 : decode cX4_backOut 16 = .ok (.aload_n 0, 1) := by decide +kernel
theorem dX4_backOut_17 : decode cX4_backOut 17 = .ok (.aload_n 0, 1) := by decide +kernel
theorem dX4_backOut_18 : decode cX4_backOut 18 = .ok (.invokevirtual 152, 3) := by decide +kernel
theorem dX4_backOut_21 : decode cX4_backOut 21 = .ok (.invokevirtual 146, 3) := by decide +kernel
theorem dX4_backOut_24 : decode cX4_backOut 24 = .ok (.ireturn, 1) := by decide +kernel
theorem dX4_tellPile_0 : decode cX4_tellPile 0 = .ok (.aload_n 0, 1) := by decide +kernel
theorem dX4_tellPile_1 : decode cX4_tellPile 1 = .ok (.getfield 7, 3) := by decide +kernel
theorem dX4_tellPile_4 : decode cX4_tellPile 4 = .ok (.sipush 139, 3) := by decide +kernel
theorem dX4_tellPile_7 : decode cX4_tellPile 7 = .ok (.iconst 4, 1) := by decide +kernel
theorem dX4_tellPile_8 : decode cX4_tellPile 8 = .ok (.aload_n 0, 1) := by decide +kernel
theorem dX4_tellPile_9 : decode cX4_tellPile 9 = .ok (.getfield 7, 3) := by decide +kernel
theorem dX4_tellPile_12 : decode cX4_tellPile 12 = .ok (.bipush 16, 2) := by decide +kernel
theorem dX4_tellPile_14 : decode cX4_tellPile 14 = .ok (.iaload, 1) := by decide +kernel
theorem dX4_tellPile_15 : decode cX4_tellPile 15 = .ok (.iconst 1, 1) := by decide +kernel
theorem dX4_tellPile_16 : decode cX4_tellPile 16 = .ok (.isub, 1) := by decide +kernel
theorem dX4_tellPile_17 : decode cX4_tellPile 17 = .ok (.iload_n 1, 1) := by decide +kernel
theorem dX4_tellPile_18 : decode cX4_tellPile 18 = .ok (.isub, 1) := by decide +kernel
theorem dX4_tellPile_19 : decode cX4_tellPile 19 = .ok (.imul, 1) := by decide +kernel
theorem dX4_tellPile_20 : decode cX4_tellPile 20 = .ok (.iadd, 1) := by decide +kernel
theorem dX4_tellPile_21 : decode cX4_tellPile 21 = .ok (.iload_n 2, 1) := by decide +kernel
theorem dX4_tellPile_22 : decode cX4_tellPile 22 = .ok (.iadd, 1) := by decide +kernel
theorem dX4_tellPile_23 : decode cX4_tellPile 23 = .ok (.iaload, 1) := by decide +kernel
theorem dX4_tellPile_24 : decode cX4_tellPile 24 = .ok (.ireturn, 1) := by decide +kernel
theorem dX4_pile_0 : decode cX4_pile 0 = .ok (.aload_n 0, 1) := by decide +kernel
theorem dX4_pile_1 : decode cX4_pile 1 = .ok (.iload_n 1, 1) := by decide +kernel
theorem dX4_pile_2 : decode cX4_pile 2 = .ok (.ifCond .ge 7, 3) := by decide +kernel
theorem dX4_pile_5 : decode cX4_pile 5 = .ok (.iconst 1, 1) := by decide +kernel
theorem dX4_pile_6 : decode cX4_pile 6 = .ok (.goto 17, 3) := by decide +kernel
theorem dX4_pile_9 : decode cX4_pile 9 = .ok (.iload_n 2, 1) := by decide +kernel
theorem dX4_pile_10 : decode cX4_pile 10 = .ok (.iconst 0, 1) := by decide +kernel
theorem dX4_pile_11 : decode cX4_pile 11 = .ok (.iconst 3, 1) := by decide +kernel
theorem dX4_pile_12 : decode cX4_pile 12 = .ok (.invokestatic 43, 3) := by decide +kernel
theorem dX4_pile_15 : decode cX4_pile 15 = .ok (.ifCond .eq 7, 3) := by decide +kernel
theorem dX4_pile_18 : decode cX4_pile 18 = .ok (.iconst 0, 1) := by decide +kernel
theorem dX4_pile_19 : decode cX4_pile 19 = .ok (.goto 4, 3) := by decide +kernel
theorem dX4_pile_22 : decode cX4_pile 22 = .ok (.iconst 2, 1) := by decide +kernel
theorem dX4_pile_23 : decode cX4_pile 23 = .ok (.invokevirtual 36, 3) := by decide +kernel
theorem dX4_pile_26 : decode cX4_pile 26 = .ok (.ifCond .eq 5, 3) := by decide +kernel
theorem dX4_pile_29 : decode cX4_pile 29 = .ok (.iconst 0, 1) := by decide +kernel
theorem dX4_pile_30 : decode cX4_pile 30 = .ok (.ireturn, 1) := by decide +kernel
theorem dX4_pile_31 : decode cX4_pile 31 = .ok (.iload_n 1, 1) := by decide +kernel
theorem dX4_pile_32 : decode cX4_pile 32 = .ok (.aload_n 0, 1) := by decide +kernel
theorem dX4_pile_33 : decode cX4_pile 33 = .ok (.getfield 7, 3) := by decide +kernel
theorem dX4_pile_36 : decode cX4_pile 36 = .ok (.bipush 16, 2) := by decide +kernel
theorem dX4_pile_38 : decode cX4_pile 38 = .ok (.iaload, 1) := by decide +kernel
theorem dX4_pile_39 : decode cX4_pile 39 = .ok (.if_icmp .lt 7, 3) := by decide +kernel
theorem dX4_pile_42 : decode cX4_pile 42 = .ok (.iconst (-1), 1) := by decide +kernel
theorem dX4_pile_43 : decode cX4_pile 43 = .ok (.goto 9, 3) := by decide +kernel
theorem dX4_pile_46 : decode cX4_pile 46 = .ok (.aload_n 0, 1) := by decide +kernel
theorem dX4_pile_47 : decode cX4_pile 47 = .ok (.iload_n 1, 1) := by decide +kernel
theorem dX4_pile_48 : decode cX4_pile 48 = .ok (.iload_n 2, 1) := by decide +kernel
theorem dX4_pile_49 : decode cX4_pile 49 = .ok (.invokevirtual 155, 3) := by decide +kernel
theorem dX4_pile_52 : decode cX4_pile 52 = .ok (.ireturn, 1) := by decide +kernel
theorem dX4_mayMove_0 : decode cX4_mayMove 0 = .ok (.aload_n 0, 1) := by decide +kernel
theorem dX4_mayMove_1 : decode cX4_mayMove 1 = .ok (.aload_n 0, 1) := by decide +kernel
theorem dX4_mayMove_2 : decode cX4_mayMove 2 = .ok (.iload_n 1, 1) := by decide +kernel
theorem dX4_mayMove_3 : decode cX4_mayMove 3 = .ok (.invokevirtual 57, 3) := by decide +kernel
theorem dX4_mayMove_6 : decode cX4_mayMove 6 = .ok (.ifCond .ne 7, 3) := by decide +kernel
theorem dX4_mayMove_9 : decode cX4_mayMove 9 = .ok (.iconst 1, 1) := by decide +kernel
theorem dX4_mayMove_10 : decode cX4_mayMove 10 = .ok (.goto 15, 3) := by decide +kernel
theorem dX4_mayMove_13 : decode cX4_mayMove 13 = .ok (.iload_n 2, 1) := by decide +kernel
theorem dX4_mayMove_14 : decode cX4_mayMove 14 = .ok (.invokestatic 136, 3) := by decide +kernel
theorem dX4_mayMove_17 : decode cX4_mayMove 17 = .ok (.ifCond .eq 7, 3) := by decide +kernel
theorem dX4_mayMove_20 : decode cX4_mayMove 20 = .ok (.iconst 0, 1) := by decide +kernel
theorem dX4_mayMove_21 : decode cX4_mayMove 21 = .ok (.goto 4, 3) := by decide +kernel
theorem dX4_mayMove_24 : decode cX4_mayMove 24 = .ok (.iconst 2, 1) := by decide +kernel
theorem dX4_mayMove_25 : decode cX4_mayMove 25 = .ok (.invokevirtual 36, 3) := by decide +kernel
theorem dX4_mayMove_28 : decode cX4_mayMove 28 = .ok (.ifCond .eq 5, 3) := by decide +kernel
theorem dX4_mayMove_31 : decode cX4_mayMove 31 = .ok (.iconst 0, 1) := by decide +kernel
theorem dX4_mayMove_32 : decode cX4_mayMove 32 = .ok (.ireturn, 1) := by decide +kernel
theorem dX4_mayMove_33 : decode cX4_mayMove 33 = .ok (.aload_n 0, 1) := by decide +kernel
theorem dX4_mayMove_34 : decode cX4_mayMove 34 = .ok (.getfield 19, 3) := by decide +kernel
theorem dX4_mayMove_37 : decode cX4_mayMove 37 = .ok (.aload_n 0, 1) := by decide +kernel
theorem dX4_mayMove_38 : decode cX4_mayMove 38 = .ok (.getfield 7, 3) := by decide +kernel
theorem dX4_mayMove_41 : decode cX4_mayMove 41 = .ok (.invokestatic 139, 3) := by decide +kernel
theorem dX4_mayMove_44 : decode cX4_mayMove 44 = .ok (.aload_n 0, 1) := by decide +kernel
theorem dX4_mayMove_45 : decode cX4_mayMove 45 = .ok (.iload_n 1, 1) := by decide +kernel
theorem dX4_mayMove_46 : decode cX4_mayMove 46 = .ok (.iload_n 2, 1) := by decide +kernel
theorem dX4_mayMove_47 : decode cX4_mayMove 47 = .ok (.invokevirtual 143, 3) := by decide +kernel
theorem dX4_mayMove_50 : decode cX4_mayMove 50 = .ok (.istore_n 3, 1) := by decide +kernel
theorem dX4_mayMove_51 : decode cX4_mayMove 51 = .ok (.aload_n 0, 1) := by decide +kernel
theorem dX4_mayMove_52 : decode cX4_mayMove 52 = .ok (.getfield 7, 3) := by decide +kernel
theorem dX4_mayMove_55 : decode cX4_mayMove 55 = .ok (.aload_n 0, 1) := by decide +kernel
theorem dX4_mayMove_56 : decode cX4_mayMove 56 = .ok (.getfield 19, 3) := by decide +kernel
theorem dX4_mayMove_59 : decode cX4_mayMove 59 = .ok (.invokestatic 139, 3) := by decide +kernel
theorem dX4_mayMove_62 : decode cX4_mayMove 62 = .ok (.iload_n 3, 1) := by decide +kernel
theorem dX4_mayMove_63 : decode cX4_mayMove 63 = .ok (.ireturn, 1) := by decide +kernel
theorem dX4_fullest_0 : decode cX4_fullest 0 = .ok (.iconst 0, 1) := by decide +kernel
theorem dX4_fullest_1 : decode cX4_fullest 1 = .ok (.istore_n 1, 1) := by decide +kernel
theorem dX4_fullest_2 : decode cX4_fullest 2 = .ok (.iconst 0, 1) := by decide +kernel
theorem dX4_fullest_3 : decode cX4_fullest 3 = .ok (.istore_n 2, 1) := by decide +kernel
theorem dX4_fullest_4 : decode cX4_fullest 4 = .ok (.iload_n 2, 1) := by decide +kernel
theorem dX4_fullest_5 : decode cX4_fullest 5 = .ok (.bipush 6, 2) := by decide +kernel
theorem dX4_fullest_7 : decode cX4_fullest 7 = .ok (.if_icmp .ge 27, 3) := by decide +kernel
theorem dX4_fullest_10 : decode cX4_fullest 10 = .ok (.aload_n 0, 1) := by decide +kernel
theorem dX4_fullest_11 : decode cX4_fullest 11 = .ok (.iload_n 2, 1) := by decide +kernel
theorem dX4_fullest_12 : decode cX4_fullest 12 = .ok (.iconst (-1), 1) := by decide +kernel
theorem dX4_fullest_13 : decode cX4_fullest 13 = .ok (.invokevirtual 91, 3) := by decide +kernel
theorem dX4_fullest_16 : decode cX4_fullest 16 = .ok (.istore_n 3, 1) := by decide +kernel
theorem dX4_fullest_17 : decode cX4_fullest 17 = .ok (.iload_n 3, 1) := by decide +kernel
theorem dX4_fullest_18 : decode cX4_fullest 18 = .ok (.iload_n 1, 1) := by decide +kernel
theorem dX4_fullest_19 : decode cX4_fullest 19 = .ok (.if_icmp .le 7, 3) := by decide +kernel
theorem dX4_fullest_22 : decode cX4_fullest 22 = .ok (.iload_n 3, 1) := by decide +kernel
theorem dX4_fullest_23 : decode cX4_fullest 23 = .ok (.goto 4, 3) := by decide +kernel
theorem dX4_fullest_26 : decode cX4_fullest 26 = .ok (.iload_n 1, 1) := by decide +kernel
theorem dX4_fullest_27 : decode cX4_fullest 27 = .ok (.istore_n 1, 1) := by decide +kernel
theorem dX4_fullest_28 : decode cX4_fullest 28 = .ok (.iinc 2 1, 3) := by decide +kernel
theorem dX4_fullest_31 : decode cX4_fullest 31 = .ok (.goto (-27), 3) := by decide +kernel
theorem dX4_fullest_34 : decode cX4_fullest 34 = .ok (.iload_n 1, 1) := by decide +kernel
theorem dX4_fullest_35 : decode cX4_fullest 35 = .ok (.ireturn, 1) := by decide +kernel
theorem dX4_bestRack_0 : decode cX4_bestRack 0 = .ok (.aload_n 0, 1) := by decide +kernel
theorem dX4_bestRack_1 : decode cX4_bestRack 1 = .ok (.aload_n 0, 1) := by decide +kernel
theorem dX4_bestRack_2 : decode cX4_bestRack 2 = .ok (.iload_n 1, 1) := by decide +kernel
theorem dX4_bestRack_3 : decode cX4_bestRack 3 = .ok (.invokevirtual 57, 3) := by decide +kernel
theorem dX4_bestRack_6 : decode cX4_bestRack 6 = .ok (.ifCond .eq 7, 3) := by decide +kernel
theorem dX4_bestRack_9 : decode cX4_bestRack 9 = .ok (.iconst 0, 1) := by decide +kernel
theorem dX4_bestRack_10 : decode cX4_bestRack 10 = .ok (.goto 4, 3) := by decide +kernel
theorem dX4_bestRack_13 : decode cX4_bestRack 13 = .ok (.iconst 1, 1) := by decide +kernel
theorem dX4_bestRack_14 : decode cX4_bestRack 14 = .ok (.invokevirtual 36, 3) := by decide +kernel
theorem dX4_bestRack_17 : decode cX4_bestRack 17 = .ok (.ifCond .eq 5, 3) := by decide +kernel
theorem dX4_bestRack_20 : decode cX4_bestRack 20 = .ok (.iconst 0, 1) := by decide +kernel
theorem dX4_bestRack_21 : decode cX4_bestRack 21 = .ok (.ireturn, 1) := by decide +kernel
theorem dX4_bestRack_22 : decode cX4_bestRack 22 = .ok (.iconst (-1), 1) := by decide +kernel
theorem dX4_bestRack_23 : decode cX4_bestRack 23 = .ok (.istore_n 2, 1) := by decide +kernel
theorem dX4_bestRack_24 : decode cX4_bestRack 24 = .ok (.iconst 0, 1) := by decide +kernel
theorem dX4_bestRack_25 : decode cX4_bestRack 25 = .ok (.istore_n 3, 1) := by decide +kernel
theorem dX4_bestRack_26 : decode cX4_bestRack 26 = .ok (.aload_n 0, 1) := by decide +kernel
theorem dX4_bestRack_27 : decode cX4_bestRack 27 = .ok (.getfield 19, 3) := by decide +kernel
theorem dX4_bestRack_30 : decode cX4_bestRack 30 = .ok (.aload_n 0, 1) := by decide +kernel
theorem dX4_bestRack_31 : decode cX4_bestRack 31 = .ok (.getfield 7, 3) := by decide +kernel
theorem dX4_bestRack_34 : decode cX4_bestRack 34 = .ok (.invokestatic 139, 3) := by decide +kernel
theorem dX4_bestRack_37 : decode cX4_bestRack 37 = .ok (.iconst 0, 1) := by decide +kernel
theorem dX4_bestRack_38 : decode cX4_bestRack 38 = .ok (.istore 4, 2) := by decide +kernel
theorem dX4_bestRack_40 : decode cX4_bestRack 40 = .ok (.iload 4, 2) := by decide +kernel
theorem dX4_bestRack_42 : decode cX4_bestRack 42 = .ok (.bipush 6, 2) := by decide +kernel
theorem dX4_bestRack_44 : decode cX4_bestRack 44 = .ok (.if_icmp .ge 65, 3) := by decide +kernel
theorem dX4_bestRack_47 : decode cX4_bestRack 47 = .ok (.aload_n 0, 1) := by decide +kernel
theorem dX4_bestRack_48 : decode cX4_bestRack 48 = .ok (.iload_n 1, 1) := by decide +kernel
theorem dX4_bestRack_49 : decode cX4_bestRack 49 = .ok (.iload 4, 2) := by decide +kernel
theorem dX4_bestRack_51 : decode cX4_bestRack 51 = .ok (.invokevirtual 143, 3) := by decide +kernel
theorem dX4_bestRack_54 : decode cX4_bestRack 54 = .ok (.ifCond .ne 7, 3) := by decide +kernel
theorem dX4_bestRack_57 : decode cX4_bestRack 57 = .ok (.iconst 1, 1) := by decide +kernel
theorem dX4_bestRack_58 : decode cX4_bestRack 58 = .ok (.goto 4, 3) := by decide +kernel
theorem dX4_bestRack_61 : decode cX4_bestRack 61 = .ok (.iconst 0, 1) := by decide +kernel
theorem dX4_bestRack_62 : decode cX4_bestRack 62 = .ok (.istore 5, 2) := by decide +kernel
theorem dX4_bestRack_64 : decode cX4_bestRack 64 = .ok (.aload_n 0, 1) := by decide +kernel
theorem dX4_bestRack_65 : decode cX4_bestRack 65 = .ok (.invokevirtual 158, 3) := by decide +kernel
theorem dX4_bestRack_68 : decode cX4_bestRack 68 = .ok (.istore 6, 2) := by decide +kernel
theorem dX4_bestRack_70 : decode cX4_bestRack 70 = .ok (.aload_n 0, 1) := by decide +kernel
theorem dX4_bestRack_71 : decode cX4_bestRack 71 = .ok (.getfield 7, 3) := by decide +kernel
theorem dX4_bestRack_74 : decode cX4_bestRack 74 = .ok (.aload_n 0, 1) := by decide +kernel
theorem dX4_bestRack_75 : decode cX4_bestRack 75 = .ok (.getfield 19, 3) := by decide +kernel
theorem dX4_bestRack_78 : decode cX4_bestRack 78 = .ok (.invokestatic 139, 3) := by decide +kernel
theorem dX4_bestRack_81 : decode cX4_bestRack 81 = .ok (.iload 5, 2) := by decide +kernel
theorem dX4_bestRack_83 : decode cX4_bestRack 83 = .ok (.ifCond .eq 20, 3) := by decide +kernel
theorem dX4_bestRack_86 : decode cX4_bestRack 86 = .ok (.iload_n 2, 1) := by decide +kernel
theorem dX4_bestRack_87 : decode cX4_bestRack 87 = .ok (.iconst (-1), 1) := by decide +kernel
theorem dX4_bestRack_88 : decode cX4_bestRack 88 = .ok (.if_icmp .eq 9, 3) := by decide +kernel
theorem dX4_bestRack_91 : decode cX4_bestRack 91 = .ok (.iload 6, 2) := by decide +kernel
theorem dX4_bestRack_93 : decode cX4_bestRack 93 = .ok (.iload_n 3, 1) := by decide +kernel
theorem dX4_bestRack_94 : decode cX4_bestRack 94 = .ok (.if_icmp .ge 9, 3) := by decide +kernel
theorem dX4_bestRack_97 : decode cX4_bestRack 97 = .ok (.iload 4, 2) := by decide +kernel
theorem dX4_bestRack_99 : decode cX4_bestRack 99 = .ok (.istore_n 2, 1) := by decide +kernel
theorem dX4_bestRack_100 : decode cX4_bestRack 100 = .ok (.iload 6, 2) := by decide +kernel
theorem dX4_bestRack_102 : decode cX4_bestRack 102 = .ok (.istore_n 3, 1) := by decide +kernel
theorem dX4_bestRack_103 : decode cX4_bestRack 103 = .ok (.iinc 4 1, 3) := by decide +kernel
theorem dX4_bestRack_106 : decode cX4_bestRack 106 = .ok (.goto (-66), 3) := by decide +kernel
theorem dX4_bestRack_109 : decode cX4_bestRack 109 = .ok (.iload_n 2, 1) := by decide +kernel
theorem dX4_bestRack_110 : decode cX4_bestRack 110 = .ok (.ireturn, 1) := by decide +kernel
theorem dX4_bestChange_0 : decode cX4_bestChange 0 = .ok (.aload_n 0, 1) := by decide +kernel
theorem dX4_bestChange_1 : decode cX4_bestChange 1 = .ok (.iconst 0, 1) := by decide +kernel
theorem dX4_bestChange_2 : decode cX4_bestChange 2 = .ok (.putfield 25, 3) := by decide +kernel
theorem dX4_bestChange_5 : decode cX4_bestChange 5 = .ok (.iconst (-1), 1) := by decide +kernel
theorem dX4_bestChange_6 : decode cX4_bestChange 6 = .ok (.istore_n 1, 1) := by decide +kernel
theorem dX4_bestChange_7 : decode cX4_bestChange 7 = .ok (.aload_n 0, 1) := by decide +kernel
theorem dX4_bestChange_8 : decode cX4_bestChange 8 = .ok (.invokevirtual 115, 3) := by decide +kernel
theorem dX4_bestChange_11 : decode cX4_bestChange 11 = .ok (.istore_n 2, 1) := by decide +kernel
theorem dX4_bestChange_12 : decode cX4_bestChange 12 = .ok (.aload_n 0, 1) := by decide +kernel
theorem dX4_bestChange_13 : decode cX4_bestChange 13 = .ok (.getfield 19, 3) := by decide +kernel
theorem dX4_bestChange_16 : decode cX4_bestChange 16 = .ok (.aload_n 0, 1) := by decide +kernel
theorem dX4_bestChange_17 : decode cX4_bestChange 17 = .ok (.getfield 7, 3) := by decide +kernel
theorem dX4_bestChange_20 : decode cX4_bestChange 20 = .ok (.invokestatic 139, 3) := by decide +kernel
theorem dX4_bestChange_23 : decode cX4_bestChange 23 = .ok (.iconst 0, 1) := by decide +kernel
theorem dX4_bestChange_24 : decode cX4_bestChange 24 = .ok (.istore_n 3, 1) := by decide +kernel
theorem dX4_bestChange_25 : decode cX4_bestChange 25 = .ok (.iload_n 3, 1) := by decide +kernel
theorem dX4_bestChange_26 : decode cX4_bestChange 26 = .ok (.iconst 3, 1) := by decide +kernel
theorem dX4_bestChange_27 : decode cX4_bestChange 27 = .ok (.aload_n 0, 1) := by decide +kernel
theorem dX4_bestChange_28 : decode cX4_bestChange 28 = .ok (.getfield 7, 3) := by decide +kernel
theorem dX4_bestChange_31 : decode cX4_bestChange 31 = .ok (.bipush 13, 2) := by decide +kernel
theorem dX4_bestChange_33 : decode cX4_bestChange 33 = .ok (.iaload, 1) := by decide +kernel
theorem dX4_bestChange_34 : decode cX4_bestChange 34 = .ok (.imul, 1) := by decide +kernel
theorem dX4_bestChange_35 : decode cX4_bestChange 35 = .ok (.if_icmp .ge 62, 3) := by decide +kernel
theorem dX4_bestChange_38 : decode cX4_bestChange 38 = .ok (.aload_n 0, 1) := by decide +kernel
theorem dX4_bestChange_39 : decode cX4_bestChange 39 = .ok (.iload_n 3, 1) := by decide +kernel
theorem dX4_bestChange_40 : decode cX4_bestChange 40 = .ok (.iconst 3, 1) := by decide +kernel
theorem dX4_bestChange_41 : decode cX4_bestChange 41 = .ok (.idiv, 1) := by decide +kernel
theorem dX4_bestChange_42 : decode cX4_bestChange 42 = .ok (.iload_n 3, 1) := by decide +kernel
theorem dX4_bestChange_43 : decode cX4_bestChange 43 = .ok (.iconst 3, 1) := by decide +kernel
theorem dX4_bestChange_44 : decode cX4_bestChange 44 = .ok (.irem, 1) := by decide +kernel
theorem dX4_bestChange_45 : decode cX4_bestChange 45 = .ok (.invokevirtual 149, 3) := by decide +kernel
theorem dX4_bestChange_48 : decode cX4_bestChange 48 = .ok (.ifCond .ne 7, 3) := by decide +kernel
theorem dX4_bestChange_51 : decode cX4_bestChange 51 = .ok (.iconst 1, 1) := by decide +kernel
theorem dX4_bestChange_52 : decode cX4_bestChange 52 = .ok (.goto 4, 3) := by decide +kernel
theorem dX4_bestChange_55 : decode cX4_bestChange 55 = .ok (.iconst 0, 1) := by decide +kernel
theorem dX4_bestChange_56 : decode cX4_bestChange 56 = .ok (.istore 4, 2) := by decide +kernel
theorem dX4_bestChange_58 : decode cX4_bestChange 58 = .ok (.aload_n 0, 1) := by decide +kernel
theorem dX4_bestChange_59 : decode cX4_bestChange 59 = .ok (.invokevirtual 115, 3) := by decide +kernel
theorem dX4_bestChange_62 : decode cX4_bestChange 62 = .ok (.istore 5, 2) := by decide +kernel
theorem dX4_bestChange_64 : decode cX4_bestChange 64 = .ok (.aload_n 0, 1) := by decide +kernel
theorem dX4_bestChange_65 : decode cX4_bestChange 65 = .ok (.getfield 7, 3) := by decide +kernel
theorem dX4_bestChange_68 : decode cX4_bestChange 68 = .ok (.aload_n 0, 1) := by decide +kernel
theorem dX4_bestChange_69 : decode cX4_bestChange 69 = .ok (.getfield 19, 3) := by decide +kernel
theorem dX4_bestChange_72 : decode cX4_bestChange 72 = .ok (.invokestatic 139, 3) := by decide +kernel
theorem dX4_bestChange_75 : decode cX4_bestChange 75 = .ok (.iload 4, 2) := by decide +kernel
theorem dX4_bestChange_77 : decode cX4_bestChange 77 = .ok (.ifCond .eq 14, 3) := by decide +kernel
theorem dX4_bestChange_80 : decode cX4_bestChange 80 = .ok (.iload 5, 2) := by decide +kernel
theorem dX4_bestChange_82 : decode cX4_bestChange 82 = .ok (.iload_n 2, 1) := by decide +kernel
theorem dX4_bestChange_83 : decode cX4_bestChange 83 = .ok (.if_icmp .ge 8, 3) := by decide +kernel
theorem dX4_bestChange_86 : decode cX4_bestChange 86 = .ok (.iload_n 3, 1) := by decide +kernel
theorem dX4_bestChange_87 : decode cX4_bestChange 87 = .ok (.istore_n 1, 1) := by decide +kernel
theorem dX4_bestChange_88 : decode cX4_bestChange 88 = .ok (.iload 5, 2) := by decide +kernel
theorem dX4_bestChange_90 : decode cX4_bestChange 90 = .ok (.istore_n 2, 1) := by decide +kernel
theorem dX4_bestChange_91 : decode cX4_bestChange 91 = .ok (.iinc 3 1, 3) := by decide +kernel
theorem dX4_bestChange_94 : decode cX4_bestChange 94 = .ok (.goto (-69), 3) := by decide +kernel
theorem dX4_bestChange_97 : decode cX4_bestChange 97 = .ok (.iload_n 1, 1) := by decide +kernel
theorem dX4_bestChange_98 : decode cX4_bestChange 98 = .ok (.ireturn, 1) := by decide +kernel
theorem dX4_backable_0 : decode cX4_backable 0 = .ok (.aload_n 0, 1) := by decide +kernel
theorem dX4_backable_1 : decode cX4_backable 1 = .ok (.iconst 0, 1) := by decide +kernel
theorem dX4_backable_2 : decode cX4_backable 2 = .ok (.putfield 25, 3) := by decide +kernel
theorem dX4_backable_5 : decode cX4_backable 5 = .ok (.aload_n 0, 1) := by decide +kernel
theorem dX4_backable_6 : decode cX4_backable 6 = .ok (.getfield 19, 3) := by decide +kernel
theorem dX4_backable_9 : decode cX4_backable 9 = .ok (.aload_n 0, 1) := by decide +kernel
theorem dX4_backable_10 : decode cX4_backable 10 = .ok (.getfield 7, 3) := by decide +kernel
theorem dX4_backable_13 : decode cX4_backable 13 = .ok (.invokestatic 139, 3) := by decide +kernel
theorem dX4_backable_16 : decode cX4_backable 16 = .ok (.iconst 0, 1) := by decide +kernel
theorem dX4_backable_17 : decode cX4_backable 17 = .ok (.istore_n 1, 1) := by decide +kernel
theorem dX4_backable_18 : decode cX4_backable 18 = .ok (.aload_n 0, 1) := by decide +kernel
theorem dX4_backable_19 : decode cX4_backable 19 = .ok (.invokevirtual 152, 3) := by decide +kernel
theorem dX4_backable_22 : decode cX4_backable 22 = .ok (.ifCond .ne 9, 3) := by decide +kernel
theorem dX4_backable_25 : decode cX4_backable 25 = .ok (.iinc 1 1, 3) := by decide +kernel
theorem dX4_backable_28 : decode cX4_backable 28 = .ok (.goto (-10), 3) := by decide +kernel
theorem dX4_backable_31 : decode cX4_backable 31 = .ok (.aload_n 0, 1) := by decide +kernel
theorem dX4_backable_32 : decode cX4_backable 32 = .ok (.getfield 7, 3) := by decide +kernel
theorem dX4_backable_35 : decode cX4_backable 35 = .ok (.aload_n 0, 1) := by decide +kernel
theorem dX4_backable_36 : decode cX4_backable 36 = .ok (.getfield 19, 3) := by decide +kernel
theorem dX4_backable_39 : decode cX4_backable 39 = .ok (.invokestatic 139, 3) := by decide +kernel
theorem dX4_backable_42 : decode cX4_backable 42 = .ok (.iload_n 1, 1) := by decide +kernel
theorem dX4_backable_43 : decode cX4_backable 43 = .ok (.ireturn, 1) := by decide +kernel
theorem dX4_taken_0 : decode cX4_taken 0 = .ok (.aload_n 0, 1) := by decide +kernel
theorem dX4_taken_1 : decode cX4_taken 1 = .ok (.iconst 0, 1) := by decide +kernel
theorem dX4_taken_2 : decode cX4_taken 2 = .ok (.putfield 25, 3) := by decide +kernel
theorem dX4_taken_5 : decode cX4_taken 5 = .ok (.iconst 0, 1) := by decide +kernel
theorem dX4_taken_6 : decode cX4_taken 6 = .ok (.istore_n 1, 1) := by decide +kernel
theorem dX4_taken_7 : decode cX4_taken 7 = .ok (.iconst 0, 1) := by decide +kernel
theorem dX4_taken_8 : decode cX4_taken 8 = .ok (.istore_n 2, 1) := by decide +kernel
theorem dX4_taken_9 : decode cX4_taken 9 = .ok (.iload_n 2, 1) := by decide +kernel
theorem dX4_taken_10 : decode cX4_taken 10 = .ok (.bipush 6, 2) := by decide +kernel
theorem dX4_taken_12 : decode cX4_taken 12 = .ok (.if_icmp .ge 17, 3) := by decide +kernel
theorem dX4_taken_15 : decode cX4_taken 15 = .ok (.iload_n 1, 1) := by decide +kernel
theorem dX4_taken_16 : decode cX4_taken 16 = .ok (.aload_n 0, 1) := by decide +kernel
theorem dX4_taken_17 : decode cX4_taken 17 = .ok (.iload_n 2, 1) := by decide +kernel
theorem dX4_taken_18 : decode cX4_taken 18 = .ok (.invokevirtual 97, 3) := by decide +kernel
theorem dX4_taken_21 : decode cX4_taken 21 = .ok (.iadd, 1) := by decide +kernel
theorem dX4_taken_22 : decode cX4_taken 22 = .ok (.istore_n 1, 1) := by decide +kernel
theorem dX4_taken_23 : decode cX4_taken 23 = .ok (.iinc 2 1, 3) := by decide +kernel
theorem dX4_taken_26 : decode cX4_taken 26 = .ok (.goto (-17), 3) := by decide +kernel
theorem dX4_taken_29 : decode cX4_taken 29 = .ok (.bipush 60, 2) := by decide +kernel
theorem dX4_taken_31 : decode cX4_taken 31 = .ok (.iload_n 1, 1) := by decide +kernel
theorem dX4_taken_32 : decode cX4_taken 32 = .ok (.isub, 1) := by decide +kernel
theorem dX4_taken_33 : decode cX4_taken 33 = .ok (.i2d, 1) := by decide +kernel
theorem dX4_taken_34 : decode cX4_taken 34 = .ok (.ldc2_w 161, 3) := by decide +kernel
theorem dX4_taken_37 : decode cX4_taken 37 = .ok (.ddiv, 1) := by decide +kernel
theorem dX4_taken_38 : decode cX4_taken 38 = .ok (.dreturn, 1) := by decide +kernel
theorem dX4_append_0 : decode cX4_append 0 = .ok (.aload_n 0, 1) := by decide +kernel
theorem dX4_append_1 : decode cX4_append 1 = .ok (.iload_n 1, 1) := by decide +kernel
theorem dX4_append_2 : decode cX4_append 2 = .ok (.iconst 0, 1) := by decide +kernel
theorem dX4_append_3 : decode cX4_append 3 = .ok (.bipush 127, 2) := by decide +kernel
theorem dX4_append_5 : decode cX4_append 5 = .ok (.invokestatic 43, 3) := by decide +kernel
theorem dX4_append_8 : decode cX4_append 8 = .ok (.ifCond .ne 7, 3) := by decide +kernel
theorem dX4_append_11 : decode cX4_append 11 = .ok (.iconst 1, 1) := by decide +kernel
theorem dX4_append_12 : decode cX4_append 12 = .ok (.goto 17, 3) := by decide +kernel
theorem dX4_append_15 : decode cX4_append 15 = .ok (.aload_n 0, 1) := by decide +kernel
theorem dX4_append_16 : decode cX4_append 16 = .ok (.getfield 163, 3) := by decide +kernel
theorem dX4_append_19 : decode cX4_append 19 = .ok (.bipush 90, 2) := by decide +kernel
theorem dX4_append_21 : decode cX4_append 21 = .ok (.if_icmp .ne 7, 3) := by decide +kernel
theorem dX4_append_24 : decode cX4_append 24 = .ok (.iconst 2, 1) := by decide +kernel
theorem dX4_append_25 : decode cX4_append 25 = .ok (.goto 4, 3) := by decide +kernel
theorem dX4_append_28 : decode cX4_append 28 = .ok (.iconst 0, 1) := by decide +kernel
theorem dX4_append_29 : decode cX4_append 29 = .ok (.invokevirtual 36, 3) := by decide +kernel
theorem dX4_append_32 : decode cX4_append 32 = .ok (.ifCond .eq 5, 3) := by decide +kernel
theorem dX4_append_35 : decode cX4_append 35 = .ok (.iconst 0, 1) := by decide +kernel
theorem dX4_append_36 : decode cX4_append 36 = .ok (.ireturn, 1) := by decide +kernel
theorem dX4_append_37 : decode cX4_append 37 = .ok (.aload_n 0, 1) := by decide +kernel
theorem dX4_append_38 : decode cX4_append 38 = .ok (.getfield 22, 3) := by decide +kernel
theorem dX4_append_41 : decode cX4_append 41 = .ok (.aload_n 0, 1) := by decide +kernel
theorem dX4_append_42 : decode cX4_append 42 = .ok (.getfield 163, 3) := by decide +kernel
theorem dX4_append_45 : decode cX4_append 45 = .ok (.iload_n 1, 1) := by decide +kernel
theorem dX4_append_46 : decode cX4_append 46 = .ok (.iastore, 1) := by decide +kernel
theorem dX4_append_47 : decode cX4_append 47 = .ok (.aload_n 0, 1) := by decide +kernel
theorem dX4_append_48 : decode cX4_append 48 = .ok (.dup, 1) := by decide +kernel
theorem dX4_append_49 : decode cX4_append 49 = .ok (.getfield 163, 3) := by decide +kernel
theorem dX4_append_52 : decode cX4_append 52 = .ok (.iconst 1, 1) := by decide +kernel
theorem dX4_append_53 : decode cX4_append 53 = .ok (.iadd, 1) := by decide +kernel
theorem dX4_append_54 : decode cX4_append 54 = .ok (.putfield 163, 3) := by decide +kernel
theorem dX4_append_57 : decode cX4_append 57 = .ok (.aload_n 0, 1) := by decide +kernel
theorem dX4_append_58 : decode cX4_append 58 = .ok (.getfield 163, 3) := by decide +kernel
theorem dX4_append_61 : decode cX4_append 61 = .ok (.ireturn, 1) := by decide +kernel
theorem dX4_clearText_0 : decode cX4_clearText 0 = .ok (.aload_n 0, 1) := by decide +kernel
theorem dX4_clearText_1 : decode cX4_clearText 1 = .ok (.iconst 0, 1) := by decide +kernel
theorem dX4_clearText_2 : decode cX4_clearText 2 = .ok (.putfield 25, 3) := by decide +kernel
theorem dX4_clearText_5 : decode cX4_clearText 5 = .ok (.aload_n 0, 1) := by decide +kernel
theorem dX4_clearText_6 : decode cX4_clearText 6 = .ok (.getfield 163, 3) := by decide +kernel
theorem dX4_clearText_9 : decode cX4_clearText 9 = .ok (.istore_n 1, 1) := by decide +kernel
theorem dX4_clearText_10 : decode cX4_clearText 10 = .ok (.aload_n 0, 1) := by decide +kernel
theorem dX4_clearText_11 : decode cX4_clearText 11 = .ok (.iconst 0, 1) := by decide +kernel
theorem dX4_clearText_12 : decode cX4_clearText 12 = .ok (.putfield 163, 3) := by decide +kernel
theorem dX4_clearText_15 : decode cX4_clearText 15 = .ok (.iload_n 1, 1) := by decide +kernel
theorem dX4_clearText_16 : decode cX4_clearText 16 = .ok (.ireturn, 1) := by decide +kernel
theorem dX4_isAt_0 : decode cX4_isAt 0 = .ok (.aload_n 0, 1) := by decide +kernel
theorem dX4_isAt_1 : decode cX4_isAt 1 = .ok (.getfield 166, 3) := by decide +kernel
theorem dX4_isAt_4 : decode cX4_isAt 4 = .ok (.aload_n 0, 1) := by decide +kernel
theorem dX4_isAt_5 : decode cX4_isAt 5 = .ok (.getfield 163, 3) := by decide +kernel
theorem dX4_isAt_8 : decode cX4_isAt 8 = .ok (.if_icmp .ge 24, 3) := by decide +kernel
theorem dX4_isAt_11 : decode cX4_isAt 11 = .ok (.aload_n 0, 1) := by decide +kernel
theorem dX4_isAt_12 : decode cX4_isAt 12 = .ok (.getfield 22, 3) := by decide +kernel
theorem dX4_isAt_15 : decode cX4_isAt 15 = .ok (.aload_n 0, 1) := by decide +kernel
theorem dX4_isAt_16 : decode cX4_isAt 16 = .ok (.getfield 166, 3) := by decide +kernel
theorem dX4_isAt_19 : decode cX4_isAt 19 = .ok (.iaload, 1) := by decide +kernel
theorem dX4_isAt_20 : decode cX4_isAt 20 = .ok (.iload_n 1, 1) := by decide +kernel
theorem dX4_isAt_21 : decode cX4_isAt 21 = .ok (.iload_n 2, 1) := by decide +kernel
theorem dX4_isAt_22 : decode cX4_isAt 22 = .ok (.invokestatic 43, 3) := by decide +kernel
theorem dX4_isAt_25 : decode cX4_isAt 25 = .ok (.ifCond .eq 7, 3) := by decide +kernel
theorem dX4_isAt_28 : decode cX4_isAt 28 = .ok (.iconst 1, 1) := by decide +kernel
theorem dX4_isAt_29 : decode cX4_isAt 29 = .ok (.goto 4, 3) := by decide +kernel
theorem dX4_isAt_32 : decode cX4_isAt 32 = .ok (.iconst 0, 1) := by decide +kernel
theorem dX4_isAt_33 : decode cX4_isAt 33 = .ok (.ireturn, 1) := by decide +kernel
theorem dX4_takes_0 : decode cX4_takes 0 = .ok (.aload_n 0, 1) := by decide +kernel
theorem dX4_takes_1 : decode cX4_takes 1 = .ok (.iload_n 1, 1) := by decide +kernel
theorem dX4_takes_2 : decode cX4_takes 2 = .ok (.iload_n 1, 1) := by decide +kernel
theorem dX4_takes_3 : decode cX4_takes 3 = .ok (.invokevirtual 169, 3) := by decide +kernel
theorem dX4_takes_6 : decode cX4_takes 6 = .ok (.istore_n 2, 1) := by decide +kernel
theorem dX4_takes_7 : decode cX4_takes 7 = .ok (.aload_n 0, 1) := by decide +kernel
theorem dX4_takes_8 : decode cX4_takes 8 = .ok (.dup, 1) := by decide +kernel
theorem dX4_takes_9 : decode cX4_takes 9 = .ok (.getfield 166, 3) := by decide +kernel
theorem dX4_takes_12 : decode cX4_takes 12 = .ok (.iload_n 2, 1) := by decide +kernel
theorem dX4_takes_13 : decode cX4_takes 13 = .ok (.ifCond .eq 7, 3) := by decide +kernel
theorem dX4_takes_16 : decode cX4_takes 16 = .ok (.iconst 1, 1) := by decide +kernel
theorem dX4_takes_17 : decode cX4_takes 17 = .ok (.goto 4, 3) := by decide +kernel
theorem dX4_takes_20 : decode cX4_takes 20 = .ok (.iconst 0, 1) := by decide +kernel
theorem dX4_takes_21 : decode cX4_takes 21 = .ok (.iadd, 1) := by decide +kernel
theorem dX4_takes_22 : decode cX4_takes 22 = .ok (.putfield 166, 3) := by decide +kernel
theorem dX4_takes_25 : decode cX4_takes 25 = .ok (.iload_n 2, 1) := by decide +kernel
theorem dX4_takes_26 : decode cX4_takes 26 = .ok (.ireturn, 1) := by decide +kernel
theorem dX4_takesMachine_0 : decode cX4_takesMachine 0 = .ok (.aload_n 0, 1) := by decide +kernel
theorem dX4_takesMachine_1 : decode cX4_takesMachine 1 = .ok (.getfield 166, 3) := by decide +kernel
theorem dX4_takesMachine_4 : decode cX4_takesMachine 4 = .ok (.istore_n 1, 1) := by decide +kernel
theorem dX4_takesMachine_5 : decode cX4_takesMachine 5 = .ok (.aload_n 0, 1) := by decide +kernel
theorem dX4_takesMachine_6 : decode cX4_takesMachine 6 = .ok (.iconst 0, 1) := by decide +kernel
theorem dX4_takesMachine_7 : decode cX4_takesMachine 7 = .ok (.putfield 173, 3) := by decide +kernel
theorem dX4_takesMachine_10 : decode cX4_takesMachine 10 = .ok (.aload_n 0, 1) := by decide +kernel
theorem dX4_takesMachine_11 : decode cX4_takesMachine 11 = .ok (.bipush 48, 2) := by decide +kernel
theorem dX4_takesMachine_13 : decode cX4_takesMachine 13 = .ok (.bipush 57, 2) := by decide +kernel
theorem dX4_takesMachine_15 : decode cX4_takesMachine 15 = .ok (.invokevirtual 169, 3) := by decide +kernel
theorem dX4_takesMachine_18 : decode cX4_takesMachine 18 = .ok (.ifCond .eq 50, 3) := by decide +kernel
theorem dX4_takesMachine_21 : decode cX4_takesMachine 21 = .ok (.aload_n 0, 1) := by decide +kernel
theorem dX4_takesMachine_22 : decode cX4_takesMachine 22 = .ok (.getfield 166, 3) := by decide +kernel
theorem dX4_takesMachine_25 : decode cX4_takesMachine 25 = .ok (.iload_n 1, 1) := by decide +kernel
theorem dX4_takesMachine_26 : decode cX4_takesMachine 26 = .ok (.iconst 2, 1) := by decide +kernel
theorem dX4_takesMachine_27 : decode cX4_takesMachine 27 = .ok (.iadd, 1) := by decide +kernel
theorem dX4_takesMachine_28 : decode cX4_takesMachine 28 = .ok (.if_icmp .ge 40, 3) := by decide +kernel
theorem dX4_takesMachine_31 : decode cX4_takesMachine 31 = .ok (.aload_n 0, 1) := by decide +kernel
theorem dX4_takesMachine_32 : decode cX4_takesMachine 32 = .ok (.bipush 10, 2) := by decide +kernel
theorem dX4_takesMachine_34 : decode cX4_takesMachine 34 = .ok (.aload_n 0, 1) := by decide +kernel
theorem dX4_takesMachine_35 : decode cX4_takesMachine 35 = .ok (.getfield 173, 3) := by decide +kernel
theorem dX4_takesMachine_38 : decode cX4_takesMachine 38 = .ok (.imul, 1) := by decide +kernel
theorem dX4_takesMachine_39 : decode cX4_takesMachine 39 = .ok (.aload_n 0, 1) := by decide +kernel
theorem dX4_takesMachine_40 : decode cX4_takesMachine 40 = .ok (.getfield 22, 3) := by decide +kernel
theorem dX4_takesMachine_43 : decode cX4_takesMachine 43 = .ok (.aload_n 0, 1) := by decide +kernel
theorem dX4_takesMachine_44 : decode cX4_takesMachine 44 = .ok (.getfield 166, 3) := by decide +kernel
theorem dX4_takesMachine_47 : decode cX4_takesMachine 47 = .ok (.iaload, 1) := by decide +kernel
theorem dX4_takesMachine_48 : decode cX4_takesMachine 48 = .ok (.iadd, 1) := by decide +kernel
theorem dX4_takesMachine_49 : decode cX4_takesMachine 49 = .ok (.bipush 48, 2) := by decide +kernel
theorem dX4_takesMachine_51 : decode cX4_takesMachine 51 = .ok (.isub, 1) := by decide +kernel
theorem dX4_takesMachine_52 : decode cX4_takesMachine 52 = .ok (.putfield 173, 3) := by decide +kernel
theorem dX4_takesMachine_55 : decode cX4_takesMachine 55 = .ok (.aload_n 0, 1) := by decide +kernel
theorem dX4_takesMachine_56 : decode cX4_takesMachine 56 = .ok (.dup, 1) := by decide +kernel
theorem dX4_takesMachine_57 : decode cX4_takesMachine 57 = .ok (.getfield 166, 3) := by decide +kernel
theorem dX4_takesMachine_60 : decode cX4_takesMachine 60 = .ok (.iconst 1, 1) := by decide +kernel
theorem dX4_takesMachine_61 : decode cX4_takesMachine 61 = .ok (.iadd, 1) := by decide +kernel
theorem dX4_takesMachine_62 : decode cX4_takesMachine 62 = .ok (.putfield 166, 3) := by decide +kernel
theorem dX4_takesMachine_65 : decode cX4_takesMachine 65 = .ok (.goto (-55), 3) := by decide +kernel
theorem dX4_takesMachine_68 : decode cX4_takesMachine 68 = .ok (.aload_n 0, 1) := by decide +kernel
theorem dX4_takesMachine_69 : decode cX4_takesMachine 69 = .ok (.getfield 166, 3) := by decide +kernel
theorem dX4_takesMachine_72 : decode cX4_takesMachine 72 = .ok (.iload_n 1, 1) := by decide +kernel
theorem dX4_takesMachine_73 : decode cX4_takesMachine 73 = .ok (.if_icmp .eq 14, 3) := by decide +kernel
theorem dX4_takesMachine_76 : decode cX4_takesMachine 76 = .ok (.aload_n 0, 1) := by decide +kernel
theorem dX4_takesMachine_77 : decode cX4_takesMachine 77 = .ok (.bipush 48, 2) := by decide +kernel
theorem dX4_takesMachine_79 : decode cX4_takesMachine 79 = .ok (.bipush 57, 2) := by decide +kernel
theorem dX4_takesMachine_81 : decode cX4_takesMachine 81 = .ok (.invokevirtual 169, 3) := by decide +kernel
theorem dX4_takesMachine_84 : decode cX4_takesMachine 84 = .ok (.ifCond .eq 5, 3) := by decide +kernel
theorem dX4_takesMachine_87 : decode cX4_takesMachine 87 = .ok (.iconst 0, 1) := by decide +kernel
theorem dX4_takesMachine_88 : decode cX4_takesMachine 88 = .ok (.ireturn, 1) := by decide +kernel
theorem dX4_takesMachine_89 : decode cX4_takesMachine 89 = .ok (.aload_n 0, 1) := by decide +kernel
theorem dX4_takesMachine_90 : decode cX4_takesMachine 90 = .ok (.aload_n 0, 1) := by decide +kernel
theorem dX4_takesMachine_91 : decode cX4_takesMachine 91 = .ok (.getfield 173, 3) := by decide +kernel
theorem dX4_takesMachine_94 : decode cX4_takesMachine 94 = .ok (.invokevirtual 57, 3) := by decide +kernel
theorem dX4_takesMachine_97 : decode cX4_takesMachine 97 = .ok (.istore_n 2, 1) := by decide +kernel
theorem dX4_takesMachine_98 : decode cX4_takesMachine 98 = .ok (.aload_n 0, 1) := by decide +kernel
theorem dX4_takesMachine_99 : decode cX4_takesMachine 99 = .ok (.iload_n 2, 1) := by decide +kernel
theorem dX4_takesMachine_100 : decode cX4_takesMachine 100 = .ok (.ifCond .eq 10, 3) := by decide +kernel
theorem dX4_takesMachine_103 : decode cX4_takesMachine 103 = .ok (.aload_n 0, 1) := by decide +kernel
theorem dX4_takesMachine_104 : decode cX4_takesMachine 104 = .ok (.getfield 166, 3) := by decide +kernel
theorem dX4_takesMachine_107 : decode cX4_takesMachine 107 = .ok (.goto 4, 3) := by decide +kernel
theorem dX4_takesMachine_110 : decode cX4_takesMachine 110 = .ok (.iload_n 1, 1) := by decide +kernel
theorem dX4_takesMachine_111 : decode cX4_takesMachine 111 = .ok (.putfield 166, 3) := by decide +kernel
theorem dX4_takesMachine_114 : decode cX4_takesMachine 114 = .ok (.iload_n 2, 1) := by decide +kernel
theorem dX4_takesMachine_115 : decode cX4_takesMachine 115 = .ok (.ireturn, 1) := by decide +kernel
theorem dX4_reads_0 : decode cX4_reads 0 = .ok (.aload_n 0, 1) := by decide +kernel
theorem dX4_reads_1 : decode cX4_reads 1 = .ok (.bipush 104, 2) := by decide +kernel
theorem dX4_reads_3 : decode cX4_reads 3 = .ok (.invokevirtual 176, 3) := by decide +kernel
theorem dX4_reads_6 : decode cX4_reads 6 = .ok (.ifCond .eq 15, 3) := by decide +kernel
theorem dX4_reads_9 : decode cX4_reads 9 = .ok (.aload_n 0, 1) := by decide +kernel
theorem dX4_reads_10 : decode cX4_reads 10 = .ok (.iconst 0, 1) := by decide +kernel
theorem dX4_reads_11 : decode cX4_reads 11 = .ok (.putfield 179, 3) := by decide +kernel
theorem dX4_reads_14 : decode cX4_reads 14 = .ok (.aload_n 0, 1) := by decide +kernel
theorem dX4_reads_15 : decode cX4_reads 15 = .ok (.bipush 59, 2) := by decide +kernel
theorem dX4_reads_17 : decode cX4_reads 17 = .ok (.invokevirtual 176, 3) := by decide +kernel
theorem dX4_reads_20 : decode cX4_reads 20 = .ok (.ireturn, 1) := by decide +kernel
theorem dX4_reads_21 : decode cX4_reads 21 = .ok (.aload_n 0, 1) := by decide +kernel
theorem dX4_reads_22 : decode cX4_reads 22 = .ok (.aload_n 0, 1) := by decide +kernel
theorem dX4_reads_23 : decode cX4_reads 23 = .ok (.bipush 109, 2) := by decide +kernel
theorem dX4_reads_25 : decode cX4_reads 25 = .ok (.bipush 109, 2) := by decide +kernel
theorem dX4_reads_27 : decode cX4_reads 27 = .ok (.invokevirtual 169, 3) := by decide +kernel
theorem dX4_reads_30 : decode cX4_reads 30 = .ok (.ifCond .eq 7, 3) := by decide +kernel
theorem dX4_reads_33 : decode cX4_reads 33 = .ok (.iconst 1, 1) := by decide +kernel
theorem dX4_reads_34 : decode cX4_reads 34 = .ok (.goto 4, 3) := by decide +kernel
theorem dX4_reads_37 : decode cX4_reads 37 = .ok (.iconst 2, 1) := by decide +kernel
theorem dX4_reads_38 : decode cX4_reads 38 = .ok (.putfield 179, 3) := by decide +kernel
theorem dX4_reads_41 : decode cX4_reads 41 = .ok (.aload_n 0, 1) := by decide +kernel
theorem dX4_reads_42 : decode cX4_reads 42 = .ok (.bipush 109, 2) := by decide +kernel
theorem dX4_reads_44 : decode cX4_reads 44 = .ok (.invokevirtual 176, 3) := by decide +kernel
theorem dX4_reads_47 : decode cX4_reads 47 = .ok (.ifCond .ne 12, 3) := by decide +kernel
theorem dX4_reads_50 : decode cX4_reads 50 = .ok (.aload_n 0, 1) := by decide +kernel
theorem dX4_reads_51 : decode cX4_reads 51 = .ok (.bipush 112, 2) := by decide +kernel
theorem dX4_reads_53 : decode cX4_reads 53 = .ok (.invokevirtual 176, 3) := by decide +kernel
theorem dX4_reads_56 : decode cX4_reads 56 = .ok (.ifCond .eq 19, 3) := by decide +kernel
theorem dX4_reads_59 : decode cX4_reads 59 = .ok (.aload_n 0, 1) := by decide +kernel
theorem dX4_reads_60 : decode cX4_reads 60 = .ok (.invokevirtual 182, 3) := by decide +kernel
theorem dX4_reads_63 : decode cX4_reads 63 = .ok (.ifCond .eq 12, 3) := by decide +kernel
theorem dX4_reads_66 : decode cX4_reads 66 = .ok (.aload_n 0, 1) := by decide +kernel
theorem dX4_reads_67 : decode cX4_reads 67 = .ok (.bipush 62, 2) := by decide +kernel
theorem dX4_reads_69 : decode cX4_reads 69 = .ok (.invokevirtual 176, 3) := by decide +kernel
theorem dX4_reads_72 : decode cX4_reads 72 = .ok (.ifCond .ne 5, 3) := by decide +kernel
theorem dX4_reads_75 : decode cX4_reads 75 = .ok (.iconst 0, 1) := by decide +kernel
theorem dX4_reads_76 : decode cX4_reads 76 = .ok (.ireturn, 1) := by decide +kernel
theorem dX4_reads_77 : decode cX4_reads 77 = .ok (.aload_n 0, 1) := by decide +kernel
theorem dX4_reads_78 : decode cX4_reads 78 = .ok (.getfield 179, 3) := by decide +kernel
theorem dX4_reads_81 : decode cX4_reads 81 = .ok (.iconst 1, 1) := by decide +kernel
theorem dX4_reads_82 : decode cX4_reads 82 = .ok (.if_icmp .ne 24, 3) := by decide +kernel
theorem dX4_reads_85 : decode cX4_reads 85 = .ok (.aload_n 0, 1) := by decide +kernel
theorem dX4_reads_86 : decode cX4_reads 86 = .ok (.bipush 115, 2) := by decide +kernel
theorem dX4_reads_88 : decode cX4_reads 88 = .ok (.invokevirtual 176, 3) := by decide +kernel
theorem dX4_reads_91 : decode cX4_reads 91 = .ok (.ifCond .eq 15, 3) := by decide +kernel
theorem dX4_reads_94 : decode cX4_reads 94 = .ok (.aload_n 0, 1) := by decide +kernel
theorem dX4_reads_95 : decode cX4_reads 95 = .ok (.iconst (-1), 1) := by decide +kernel
theorem dX4_reads_96 : decode cX4_reads 96 = .ok (.putfield 186, 3) := by decide +kernel
theorem dX4_reads_99 : decode cX4_reads 99 = .ok (.aload_n 0, 1) := by decide +kernel
theorem dX4_reads_100 : decode cX4_reads 100 = .ok (.bipush 59, 2) := by decide +kernel
theorem dX4_reads_102 : decode cX4_reads 102 = .ok (.invokevirtual 176, 3) := by decide +kernel
theorem dX4_reads_105 : decode cX4_reads 105 = .ok (.ireturn, 1) := by decide +kernel
theorem dX4_reads_106 : decode cX4_reads 106 = .ok (.aload_n 0, 1) := by decide +kernel
theorem dX4_reads_107 : decode cX4_reads 107 = .ok (.bipush 48, 2) := by decide +kernel
theorem dX4_reads_109 : decode cX4_reads 109 = .ok (.aload_n 0, 1) := by decide +kernel
theorem dX4_reads_110 : decode cX4_reads 110 = .ok (.getfield 179, 3) := by decide +kernel
theorem dX4_reads_113 : decode cX4_reads 113 = .ok (.iconst 1, 1) := by decide +kernel
theorem dX4_reads_114 : decode cX4_reads 114 = .ok (.if_icmp .ne 8, 3) := by decide +kernel
theorem dX4_reads_117 : decode cX4_reads 117 = .ok (.bipush 53, 2) := by decide +kernel
theorem dX4_reads_119 : decode cX4_reads 119 = .ok (.goto 5, 3) := by decide +kernel
theorem dX4_reads_122 : decode cX4_reads 122 = .ok (.bipush 50, 2) := by decide +kernel
theorem dX4_reads_124 : decode cX4_reads 124 = .ok (.invokevirtual 169, 3) := by decide +kernel
theorem dX4_reads_127 : decode cX4_reads 127 = .ok (.ifCond .ne 5, 3) := by decide +kernel
theorem dX4_reads_130 : decode cX4_reads 130 = .ok (.iconst 0, 1) := by decide +kernel
theorem dX4_reads_131 : decode cX4_reads 131 = .ok (.ireturn, 1) := by decide +kernel
theorem dX4_reads_132 : decode cX4_reads 132 = .ok (.aload_n 0, 1) := by decide +kernel
theorem dX4_reads_133 : decode cX4_reads 133 = .ok (.aload_n 0, 1) := by decide +kernel
theorem dX4_reads_134 : decode cX4_reads 134 = .ok (.getfield 22, 3) := by decide +kernel
theorem dX4_reads_137 : decode cX4_reads 137 = .ok (.aload_n 0, 1) := by decide +kernel
theorem dX4_reads_138 : decode cX4_reads 138 = .ok (.getfield 166, 3) := by decide +kernel
theorem dX4_reads_141 : decode cX4_reads 141 = .ok (.iaload, 1) := by decide +kernel
theorem dX4_reads_142 : decode cX4_reads 142 = .ok (.bipush 48, 2) := by decide +kernel
theorem dX4_reads_144 : decode cX4_reads 144 = .ok (.isub, 1) := by decide +kernel
theorem dX4_reads_145 : decode cX4_reads 145 = .ok (.putfield 186, 3) := by decide +kernel
theorem dX4_reads_148 : decode cX4_reads 148 = .ok (.aload_n 0, 1) := by decide +kernel
theorem dX4_reads_149 : decode cX4_reads 149 = .ok (.dup, 1) := by decide +kernel
theorem dX4_reads_150 : decode cX4_reads 150 = .ok (.getfield 166, 3) := by decide +kernel
theorem dX4_reads_153 : decode cX4_reads 153 = .ok (.iconst 1, 1) := by decide +kernel
theorem dX4_reads_154 : decode cX4_reads 154 = .ok (.iadd, 1) := by decide +kernel
theorem dX4_reads_155 : decode cX4_reads 155 = .ok (.putfield 166, 3) := by decide +kernel
theorem dX4_reads_158 : decode cX4_reads 158 = .ok (.aload_n 0, 1) := by decide +kernel
theorem dX4_reads_159 : decode cX4_reads 159 = .ok (.bipush 59, 2) := by decide +kernel
theorem dX4_reads_161 : decode cX4_reads 161 = .ok (.invokevirtual 176, 3) := by decide +kernel
theorem dX4_reads_164 : decode cX4_reads 164 = .ok (.ireturn, 1) := by decide +kernel
theorem dX4_plan_0 : decode cX4_plan 0 = .ok (.aload_n 0, 1) := by decide +kernel
theorem dX4_plan_1 : decode cX4_plan 1 = .ok (.iconst 0, 1) := by decide +kernel
theorem dX4_plan_2 : decode cX4_plan 2 = .ok (.putfield 25, 3) := by decide +kernel
theorem dX4_plan_5 : decode cX4_plan 5 = .ok (.aload_n 0, 1) := by decide +kernel
theorem dX4_plan_6 : decode cX4_plan 6 = .ok (.iconst 0, 1) := by decide +kernel
theorem dX4_plan_7 : decode cX4_plan 7 = .ok (.putfield 166, 3) := by decide +kernel
theorem dX4_plan_10 : decode cX4_plan 10 = .ok (.aload_n 0, 1) := by decide +kernel
theorem dX4_plan_11 : decode cX4_plan 11 = .ok (.getfield 166, 3) := by decide +kernel
theorem dX4_plan_14 : decode cX4_plan 14 = .ok (.aload_n 0, 1) := by decide +kernel
theorem dX4_plan_15 : decode cX4_plan 15 = .ok (.getfield 163, 3) := by decide +kernel
theorem dX4_plan_18 : decode cX4_plan 18 = .ok (.if_icmp .ge 18, 3) := by decide +kernel
theorem dX4_plan_21 : decode cX4_plan 21 = .ok (.aload_n 0, 1) := by decide +kernel
theorem dX4_plan_22 : decode cX4_plan 22 = .ok (.invokevirtual 189, 3) := by decide +kernel
theorem dX4_plan_25 : decode cX4_plan 25 = .ok (.ifCond .ne (-15), 3) := by decide +kernel
theorem dX4_plan_28 : decode cX4_plan 28 = .ok (.bipush (-10), 2) := by decide +kernel
theorem dX4_plan_30 : decode cX4_plan 30 = .ok (.aload_n 0, 1) := by decide +kernel
theorem dX4_plan_31 : decode cX4_plan 31 = .ok (.getfield 166, 3) := by decide +kernel
theorem dX4_plan_34 : decode cX4_plan 34 = .ok (.isub, 1) := by decide +kernel
theorem dX4_plan_35 : decode cX4_plan 35 = .ok (.ireturn, 1) := by decide +kernel
theorem dX4_plan_36 : decode cX4_plan 36 = .ok (.aload_n 0, 1) := by decide +kernel
theorem dX4_plan_37 : decode cX4_plan 37 = .ok (.getfield 16, 3) := by decide +kernel
theorem dX4_plan_40 : decode cX4_plan 40 = .ok (.aload_n 0, 1) := by decide +kernel
theorem dX4_plan_41 : decode cX4_plan 41 = .ok (.getfield 7, 3) := by decide +kernel
theorem dX4_plan_44 : decode cX4_plan 44 = .ok (.invokestatic 139, 3) := by decide +kernel
theorem dX4_plan_47 : decode cX4_plan 47 = .ok (.aload_n 0, 1) := by decide +kernel
theorem dX4_plan_48 : decode cX4_plan 48 = .ok (.iconst 0, 1) := by decide +kernel
theorem dX4_plan_49 : decode cX4_plan 49 = .ok (.putfield 166, 3) := by decide +kernel
theorem dX4_plan_52 : decode cX4_plan 52 = .ok (.iconst 0, 1) := by decide +kernel
theorem dX4_plan_53 : decode cX4_plan 53 = .ok (.istore_n 1, 1) := by decide +kernel
theorem dX4_plan_54 : decode cX4_plan 54 = .ok (.aload_n 0, 1) := by decide +kernel
theorem dX4_plan_55 : decode cX4_plan 55 = .ok (.getfield 166, 3) := by decide +kernel
theorem dX4_plan_58 : decode cX4_plan 58 = .ok (.aload_n 0, 1) := by decide +kernel
theorem dX4_plan_59 : decode cX4_plan 59 = .ok (.getfield 163, 3) := by decide +kernel
theorem dX4_plan_62 : decode cX4_plan 62 = .ok (.if_icmp .ge 136, 3) := by decide +kernel
theorem dX4_plan_65 : decode cX4_plan 65 = .ok (.aload_n 0, 1) := by decide +kernel
theorem dX4_plan_66 : decode cX4_plan 66 = .ok (.invokevirtual 189, 3) := by decide +kernel
theorem dX4_plan_69 : decode cX4_plan 69 = .ok (.istore_n 2, 1) := by decide +kernel
theorem dX4_plan_70 : decode cX4_plan 70 = .ok (.iconst 0, 1) := by decide +kernel
theorem dX4_plan_71 : decode cX4_plan 71 = .ok (.istore_n 3, 1) := by decide +kernel
theorem dX4_plan_72 : decode cX4_plan 72 = .ok (.aload_n 0, 1) := by decide +kernel
theorem dX4_plan_73 : decode cX4_plan 73 = .ok (.getfield 179, 3) := by decide +kernel
theorem dX4_plan_76 : decode cX4_plan 76 = .ok (.ifCond .ne 42, 3) := by decide +kernel
theorem dX4_plan_79 : decode cX4_plan 79 = .ok (.aload_n 0, 1) := by decide +kernel
theorem dX4_plan_80 : decode cX4_plan 80 = .ok (.getfield 7, 3) := by decide +kernel
theorem dX4_plan_83 : decode cX4_plan 83 = .ok (.bipush 12, 2) := by decide +kernel
theorem dX4_plan_85 : decode cX4_plan 85 = .ok (.dup2, 1) := by decide +kernel
theorem dX4_plan_86 : decode cX4_plan 86 = .ok (.iaload, 1) := by decide +kernel
theorem dX4_plan_87 : decode cX4_plan 87 = .ok (.iconst 1, 1) := by decide +kernel
theorem dX4_plan_88 : decode cX4_plan 88 = .ok (.iadd, 1) := by decide +kernel
theorem dX4_plan_89 : decode cX4_plan 89 = .ok (.iastore, 1) := by decide +kernel
theorem dX4_plan_90 : decode cX4_plan 90 = .ok (.aload_n 0, 1) := by decide +kernel
theorem dX4_plan_91 : decode cX4_plan 91 = .ok (.getfield 7, 3) := by decide +kernel
theorem dX4_plan_94 : decode cX4_plan 94 = .ok (.bipush 12, 2) := by decide +kernel
theorem dX4_plan_96 : decode cX4_plan 96 = .ok (.iaload, 1) := by decide +kernel
theorem dX4_plan_97 : decode cX4_plan 97 = .ok (.sipush 2000, 3) := by decide +kernel
theorem dX4_plan_100 : decode cX4_plan 100 = .ok (.if_icmp .le 54, 3) := by decide +kernel
theorem dX4_plan_103 : decode cX4_plan 103 = .ok (.aload_n 0, 1) := by decide +kernel
theorem dX4_plan_104 : decode cX4_plan 104 = .ok (.getfield 7, 3) := by decide +kernel
theorem dX4_plan_107 : decode cX4_plan 107 = .ok (.aload_n 0, 1) := by decide +kernel
theorem dX4_plan_108 : decode cX4_plan 108 = .ok (.getfield 16, 3) := by decide +kernel
theorem dX4_plan_111 : decode cX4_plan 111 = .ok (.invokestatic 139, 3) := by decide +kernel
theorem dX4_plan_114 : decode cX4_plan 114 = .ok (.sipush (-9999), 3) := by decide +kernel
theorem dX4_plan_117 : decode cX4_plan 117 = .ok (.ireturn, 1) := by decide +kernel
theorem dX4_plan_118 : decode cX4_plan 118 = .ok (.aload_n 0, 1) := by decide +kernel
theorem dX4_plan_119 : decode cX4_plan 119 = .ok (.getfield 179, 3) := by decide +kernel
theorem dX4_plan_122 : decode cX4_plan 122 = .ok (.iconst 1, 1) := by decide +kernel
theorem dX4_plan_123 : decode cX4_plan 123 = .ok (.if_icmp .ne 18, 3) := by decide +kernel
theorem dX4_plan_126 : decode cX4_plan 126 = .ok (.aload_n 0, 1) := by decide +kernel
theorem dX4_plan_127 : decode cX4_plan 127 = .ok (.aload_n 0, 1) := by decide +kernel
theorem dX4_plan_128 : decode cX4_plan 128 = .ok (.getfield 173, 3) := by decide +kernel
theorem dX4_plan_131 : decode cX4_plan 131 = .ok (.aload_n 0, 1) := by decide +kernel
theorem dX4_plan_132 : decode cX4_plan 132 = .ok (.getfield 186, 3) := by decide +kernel
theorem dX4_plan_135 : decode cX4_plan 135 = .ok (.invokevirtual 143, 3) := by decide +kernel
theorem dX4_plan_138 : decode cX4_plan 138 = .ok (.goto 15, 3) := by decide +kernel
theorem dX4_plan_141 : decode cX4_plan 141 = .ok (.aload_n 0, 1) := by decide +kernel
theorem dX4_plan_142 : decode cX4_plan 142 = .ok (.aload_n 0, 1) := by decide +kernel
theorem dX4_plan_143 : decode cX4_plan 143 = .ok (.getfield 173, 3) := by decide +kernel
theorem dX4_plan_146 : decode cX4_plan 146 = .ok (.aload_n 0, 1) := by decide +kernel
theorem dX4_plan_147 : decode cX4_plan 147 = .ok (.getfield 186, 3) := by decide +kernel
theorem dX4_plan_150 : decode cX4_plan 150 = .ok (.invokevirtual 149, 3) := by decide +kernel
theorem dX4_plan_153 : decode cX4_plan 153 = .ok (.istore_n 3, 1) := by decide +kernel
theorem dX4_plan_154 : decode cX4_plan 154 = .ok (.iload_n 3, 1) := by decide +kernel
theorem dX4_plan_155 : decode cX4_plan 155 = .ok (.ifCond .le 25, 3) := by decide +kernel
theorem dX4_plan_158 : decode cX4_plan 158 = .ok (.aload_n 0, 1) := by decide +kernel
theorem dX4_plan_159 : decode cX4_plan 159 = .ok (.getfield 7, 3) := by decide +kernel
theorem dX4_plan_162 : decode cX4_plan 162 = .ok (.aload_n 0, 1) := by decide +kernel
theorem dX4_plan_163 : decode cX4_plan 163 = .ok (.getfield 16, 3) := by decide +kernel
theorem dX4_plan_166 : decode cX4_plan 166 = .ok (.invokestatic 139, 3) := by decide +kernel
theorem dX4_plan_169 : decode cX4_plan 169 = .ok (.sipush (-1000), 3) := by decide +kernel
theorem dX4_plan_172 : decode cX4_plan 172 = .ok (.bipush 10, 2) := by decide +kernel
theorem dX4_plan_174 : decode cX4_plan 174 = .ok (.iload_n 1, 1) := by decide +kernel
theorem dX4_plan_175 : decode cX4_plan 175 = .ok (.imul, 1) := by decide +kernel
theorem dX4_plan_176 : decode cX4_plan 176 = .ok (.isub, 1) := by decide +kernel
theorem dX4_plan_177 : decode cX4_plan 177 = .ok (.iload_n 3, 1) := by decide +kernel
theorem dX4_plan_178 : decode cX4_plan 178 = .ok (.isub, 1) := by decide +kernel
theorem dX4_plan_179 : decode cX4_plan 179 = .ok (.ireturn, 1) := by decide +kernel
theorem dX4_plan_180 : decode cX4_plan 180 = .ok (.iload_n 1, 1) := by decide +kernel
theorem dX4_plan_181 : decode cX4_plan 181 = .ok (.aload_n 0, 1) := by decide +kernel
theorem dX4_plan_182 : decode cX4_plan 182 = .ok (.getfield 179, 3) := by decide +kernel
theorem dX4_plan_185 : decode cX4_plan 185 = .ok (.ifCond .ne 7, 3) := by decide +kernel
theorem dX4_plan_188 : decode cX4_plan 188 = .ok (.iconst 0, 1) := by decide +kernel
theorem dX4_plan_189 : decode cX4_plan 189 = .ok (.goto 4, 3) := by decide +kernel
theorem dX4_plan_192 : decode cX4_plan 192 = .ok (.iconst 1, 1) := by decide +kernel
theorem dX4_plan_193 : decode cX4_plan 193 = .ok (.iadd, 1) := by decide +kernel
theorem dX4_plan_194 : decode cX4_plan 194 = .ok (.istore_n 1, 1) := by decide +kernel
theorem dX4_plan_195 : decode cX4_plan 195 = .ok (.goto (-141), 3) := by decide +kernel
theorem dX4_plan_198 : decode cX4_plan 198 = .ok (.aload_n 0, 1) := by decide +kernel
theorem dX4_plan_199 : decode cX4_plan 199 = .ok (.iconst 0, 1) := by decide +kernel
theorem dX4_plan_200 : decode cX4_plan 200 = .ok (.invokevirtual 146, 3) := by decide +kernel
theorem dX4_plan_203 : decode cX4_plan 203 = .ok (.iload_n 1, 1) := by decide +kernel
theorem dX4_plan_204 : decode cX4_plan 204 = .ok (.iadd, 1) := by decide +kernel
theorem dX4_plan_205 : decode cX4_plan 205 = .ok (.ireturn, 1) := by decide +kernel
theorem dX4_mix_0 : decode cX4_mix 0 = .ok (.aload_n 0, 1) := by decide +kernel
theorem dX4_mix_1 : decode cX4_mix 1 = .ok (.ldc2_w 192, 3) := by decide +kernel
theorem dX4_mix_4 : decode cX4_mix 4 = .ok (.aload_n 0, 1) := by decide +kernel
theorem dX4_mix_5 : decode cX4_mix 5 = .ok (.getfield 194, 3) := by decide +kernel
theorem dX4_mix_8 : decode cX4_mix 8 = .ok (.lmul, 1) := by decide +kernel
theorem dX4_mix_9 : decode cX4_mix 9 = .ok (.iload_n 1, 1) := by decide +kernel
theorem dX4_mix_10 : decode cX4_mix 10 = .ok (.i2l, 1) := by decide +kernel
theorem dX4_mix_11 : decode cX4_mix 11 = .ok (.ladd, 1) := by decide +kernel
theorem dX4_mix_12 : decode cX4_mix 12 = .ok (.putfield 194, 3) := by decide +kernel
theorem dX4_mix_15 : decode cX4_mix 15 = .ok (.return_, 1) := by decide +kernel
theorem dX4_mixRoom_0 : decode cX4_mixRoom 0 = .ok (.iconst 0, 1) := by decide +kernel
theorem dX4_mixRoom_1 : decode cX4_mixRoom 1 = .ok (.istore_n 1, 1) := by decide +kernel
theorem dX4_mixRoom_2 : decode cX4_mixRoom 2 = .ok (.iload_n 1, 1) := by decide +kernel
theorem dX4_mixRoom_3 : decode cX4_mixRoom 3 = .ok (.bipush 6, 2) := by decide +kernel
theorem dX4_mixRoom_5 : decode cX4_mixRoom 5 = .ok (.if_icmp .ge 57, 3) := by decide +kernel
theorem dX4_mixRoom_8 : decode cX4_mixRoom 8 = .ok (.iconst 0, 1) := by decide +kernel
theorem dX4_mixRoom_9 : decode cX4_mixRoom 9 = .ok (.istore_n 2, 1) := by decide +kernel
theorem dX4_mixRoom_10 : decode cX4_mixRoom 10 = .ok (.iload_n 2, 1) := by decide +kernel
theorem dX4_mixRoom_11 : decode cX4_mixRoom 11 = .ok (.bipush 8, 2) := by decide +kernel
theorem dX4_mixRoom_13 : decode cX4_mixRoom 13 = .ok (.if_icmp .ge 19, 3) := by decide +kernel
theorem dX4_mixRoom_16 : decode cX4_mixRoom 16 = .ok (.aload_n 0, 1) := by decide +kernel
theorem dX4_mixRoom_17 : decode cX4_mixRoom 17 = .ok (.aload_n 0, 1) := by decide +kernel
theorem dX4_mixRoom_18 : decode cX4_mixRoom 18 = .ok (.iload_n 1, 1) := by decide +kernel
theorem dX4_mixRoom_19 : decode cX4_mixRoom 19 = .ok (.iload_n 2, 1) := by decide +kernel
theorem dX4_mixRoom_20 : decode cX4_mixRoom 20 = .ok (.invokevirtual 103, 3) := by decide +kernel
theorem dX4_mixRoom_23 : decode cX4_mixRoom 23 = .ok (.invokevirtual 198, 3) := by decide +kernel
theorem dX4_mixRoom_26 : decode cX4_mixRoom 26 = .ok (.iinc 2 1, 3) := by decide +kernel
theorem dX4_mixRoom_29 : decode cX4_mixRoom 29 = .ok (.goto (-19), 3) := by decide +kernel
theorem dX4_mixRoom_32 : decode cX4_mixRoom 32 = .ok (.iconst 0, 1) := by decide +kernel
theorem dX4_mixRoom_33 : decode cX4_mixRoom 33 = .ok (.istore_n 2, 1) := by decide +kernel
theorem dX4_mixRoom_34 : decode cX4_mixRoom 34 = .ok (.iload_n 2, 1) := by decide +kernel
theorem dX4_mixRoom_35 : decode cX4_mixRoom 35 = .ok (.bipush 10, 2) := by decide +kernel
theorem dX4_mixRoom_37 : decode cX4_mixRoom 37 = .ok (.if_icmp .ge 19, 3) := by decide +kernel
theorem dX4_mixRoom_40 : decode cX4_mixRoom 40 = .ok (.aload_n 0, 1) := by decide +kernel
theorem dX4_mixRoom_41 : decode cX4_mixRoom 41 = .ok (.aload_n 0, 1) := by decide +kernel
theorem dX4_mixRoom_42 : decode cX4_mixRoom 42 = .ok (.iload_n 1, 1) := by decide +kernel
theorem dX4_mixRoom_43 : decode cX4_mixRoom 43 = .ok (.iload_n 2, 1) := by decide +kernel
theorem dX4_mixRoom_44 : decode cX4_mixRoom 44 = .ok (.invokevirtual 84, 3) := by decide +kernel
theorem dX4_mixRoom_47 : decode cX4_mixRoom 47 = .ok (.invokevirtual 198, 3) := by decide +kernel
theorem dX4_mixRoom_50 : decode cX4_mixRoom 50 = .ok (.iinc 2 1, 3) := by decide +kernel
theorem dX4_mixRoom_53 : decode cX4_mixRoom 53 = .ok (.goto (-19), 3) := by decide +kernel
theorem dX4_mixRoom_56 : decode cX4_mixRoom 56 = .ok (.iinc 1 1, 3) := by decide +kernel
theorem dX4_mixRoom_59 : decode cX4_mixRoom 59 = .ok (.goto (-57), 3) := by decide +kernel
theorem dX4_mixRoom_62 : decode cX4_mixRoom 62 = .ok (.iconst 0, 1) := by decide +kernel
theorem dX4_mixRoom_63 : decode cX4_mixRoom 63 = .ok (.istore_n 1, 1) := by decide +kernel
theorem dX4_mixRoom_64 : decode cX4_mixRoom 64 = .ok (.iload_n 1, 1) := by decide +kernel
theorem dX4_mixRoom_65 : decode cX4_mixRoom 65 = .ok (.iconst 5, 1) := by decide +kernel
theorem dX4_mixRoom_66 : decode cX4_mixRoom 66 = .ok (.if_icmp .ge 18, 3) := by decide +kernel
theorem dX4_mixRoom_69 : decode cX4_mixRoom 69 = .ok (.aload_n 0, 1) := by decide +kernel
theorem dX4_mixRoom_70 : decode cX4_mixRoom 70 = .ok (.aload_n 0, 1) := by decide +kernel
theorem dX4_mixRoom_71 : decode cX4_mixRoom 71 = .ok (.iload_n 1, 1) := by decide +kernel
theorem dX4_mixRoom_72 : decode cX4_mixRoom 72 = .ok (.invokevirtual 112, 3) := by decide +kernel
theorem dX4_mixRoom_75 : decode cX4_mixRoom 75 = .ok (.invokevirtual 198, 3) := by decide +kernel
theorem dX4_mixRoom_78 : decode cX4_mixRoom 78 = .ok (.iinc 1 1, 3) := by decide +kernel
theorem dX4_mixRoom_81 : decode cX4_mixRoom 81 = .ok (.goto (-17), 3) := by decide +kernel
theorem dX4_mixRoom_84 : decode cX4_mixRoom 84 = .ok (.return_, 1) := by decide +kernel
theorem dX4_digest_0 : decode cX4_digest 0 = .ok (.aload_n 0, 1) := by decide +kernel
theorem dX4_digest_1 : decode cX4_digest 1 = .ok (.iconst 0, 1) := by decide +kernel
theorem dX4_digest_2 : decode cX4_digest 2 = .ok (.putfield 25, 3) := by decide +kernel
theorem dX4_digest_5 : decode cX4_digest 5 = .ok (.aload_n 0, 1) := by decide +kernel
theorem dX4_digest_6 : decode cX4_digest 6 = .ok (.ldc2_w 202, 3) := by decide +kernel
theorem dX4_digest_9 : decode cX4_digest 9 = .ok (.putfield 194, 3) := by decide +kernel
theorem dX4_digest_12 : decode cX4_digest 12 = .ok (.aload_n 0, 1) := by decide +kernel
theorem dX4_digest_13 : decode cX4_digest 13 = .ok (.aload_n 0, 1) := by decide +kernel
theorem dX4_digest_14 : decode cX4_digest 14 = .ok (.getfield 163, 3) := by decide +kernel
theorem dX4_digest_17 : decode cX4_digest 17 = .ok (.invokevirtual 198, 3) := by decide +kernel
theorem dX4_digest_20 : decode cX4_digest 20 = .ok (.iconst 0, 1) := by decide +kernel
theorem dX4_digest_21 : decode cX4_digest 21 = .ok (.istore_n 1, 1) := by decide +kernel
theorem dX4_digest_22 : decode cX4_digest 22 = .ok (.iload_n 1, 1) := by decide +kernel
theorem dX4_digest_23 : decode cX4_digest 23 = .ok (.bipush 14, 2) := by decide +kernel
theorem dX4_digest_25 : decode cX4_digest 25 = .ok (.if_icmp .ge 18, 3) := by decide +kernel
theorem dX4_digest_28 : decode cX4_digest 28 = .ok (.aload_n 0, 1) := by decide +kernel
theorem dX4_digest_29 : decode cX4_digest 29 = .ok (.aload_n 0, 1) := by decide +kernel
theorem dX4_digest_30 : decode cX4_digest 30 = .ok (.iload_n 1, 1) := by decide +kernel
theorem dX4_digest_31 : decode cX4_digest 31 = .ok (.invokevirtual 125, 3) := by decide +kernel
theorem dX4_digest_34 : decode cX4_digest 34 = .ok (.invokevirtual 198, 3) := by decide +kernel
theorem dX4_digest_37 : decode cX4_digest 37 = .ok (.iinc 1 1, 3) := by decide +kernel
theorem dX4_digest_40 : decode cX4_digest 40 = .ok (.goto (-18), 3) := by decide +kernel
theorem dX4_digest_43 : decode cX4_digest 43 = .ok (.aload_n 0, 1) := by decide +kernel
theorem dX4_digest_44 : decode cX4_digest 44 = .ok (.invokevirtual 204, 3) := by decide +kernel
theorem dX4_digest_47 : decode cX4_digest 47 = .ok (.iconst 0, 1) := by decide +kernel
theorem dX4_digest_48 : decode cX4_digest 48 = .ok (.istore_n 1, 1) := by decide +kernel
theorem dX4_digest_49 : decode cX4_digest 49 = .ok (.iload_n 1, 1) := by decide +kernel
theorem dX4_digest_50 : decode cX4_digest 50 = .ok (.bipush 8, 2) := by decide +kernel
theorem dX4_digest_52 : decode cX4_digest 52 = .ok (.aload_n 0, 1) := by decide +kernel
theorem dX4_digest_53 : decode cX4_digest 53 = .ok (.getfield 7, 3) := by decide +kernel
theorem dX4_digest_56 : decode cX4_digest 56 = .ok (.bipush 13, 2) := by decide +kernel
theorem dX4_digest_58 : decode cX4_digest 58 = .ok (.iaload, 1) := by decide +kernel
theorem dX4_digest_59 : decode cX4_digest 59 = .ok (.imul, 1) := by decide +kernel
theorem dX4_digest_60 : decode cX4_digest 60 = .ok (.if_icmp .ge 25, 3) := by decide +kernel
theorem dX4_digest_63 : decode cX4_digest 63 = .ok (.aload_n 0, 1) := by decide +kernel
theorem dX4_digest_64 : decode cX4_digest 64 = .ok (.aload_n 0, 1) := by decide +kernel
theorem dX4_digest_65 : decode cX4_digest 65 = .ok (.iload_n 1, 1) := by decide +kernel
theorem dX4_digest_66 : decode cX4_digest 66 = .ok (.bipush 8, 2) := by decide +kernel
theorem dX4_digest_68 : decode cX4_digest 68 = .ok (.idiv, 1) := by decide +kernel
theorem dX4_digest_69 : decode cX4_digest 69 = .ok (.iload_n 1, 1) := by decide +kernel
theorem dX4_digest_70 : decode cX4_digest 70 = .ok (.bipush 8, 2) := by decide +kernel
theorem dX4_digest_72 : decode cX4_digest 72 = .ok (.irem, 1) := by decide +kernel
theorem dX4_digest_73 : decode cX4_digest 73 = .ok (.invokevirtual 81, 3) := by decide +kernel
theorem dX4_digest_76 : decode cX4_digest 76 = .ok (.invokevirtual 198, 3) := by decide +kernel
theorem dX4_digest_79 : decode cX4_digest 79 = .ok (.iinc 1 1, 3) := by decide +kernel
theorem dX4_digest_82 : decode cX4_digest 82 = .ok (.goto (-33), 3) := by decide +kernel
theorem dX4_digest_85 : decode cX4_digest 85 = .ok (.iconst 0, 1) := by decide +kernel
theorem dX4_digest_86 : decode cX4_digest 86 = .ok (.istore_n 1, 1) := by decide +kernel
theorem dX4_digest_87 : decode cX4_digest 87 = .ok (.iload_n 1, 1) := by decide +kernel
theorem dX4_digest_88 : decode cX4_digest 88 = .ok (.iconst 4, 1) := by decide +kernel
theorem dX4_digest_89 : decode cX4_digest 89 = .ok (.aload_n 0, 1) := by decide +kernel
theorem dX4_digest_90 : decode cX4_digest 90 = .ok (.getfield 7, 3) := by decide +kernel
theorem dX4_digest_93 : decode cX4_digest 93 = .ok (.bipush 14, 2) := by decide +kernel
theorem dX4_digest_95 : decode cX4_digest 95 = .ok (.iaload, 1) := by decide +kernel
theorem dX4_digest_96 : decode cX4_digest 96 = .ok (.imul, 1) := by decide +kernel
theorem dX4_digest_97 : decode cX4_digest 97 = .ok (.if_icmp .ge 23, 3) := by decide +kernel
theorem dX4_digest_100 : decode cX4_digest 100 = .ok (.aload_n 0, 1) := by decide +kernel
theorem dX4_digest_101 : decode cX4_digest 101 = .ok (.aload_n 0, 1) := by decide +kernel
theorem dX4_digest_102 : decode cX4_digest 102 = .ok (.iload_n 1, 1) := by decide +kernel
theorem dX4_digest_103 : decode cX4_digest 103 = .ok (.iconst 4, 1) := by decide +kernel
theorem dX4_digest_104 : decode cX4_digest 104 = .ok (.idiv, 1) := by decide +kernel
theorem dX4_digest_105 : decode cX4_digest 105 = .ok (.iload_n 1, 1) := by decide +kernel
theorem dX4_digest_106 : decode cX4_digest 106 = .ok (.iconst 4, 1) := by decide +kernel
theorem dX4_digest_107 : decode cX4_digest 107 = .ok (.irem, 1) := by decide +kernel
theorem dX4_digest_108 : decode cX4_digest 108 = .ok (.invokevirtual 109, 3) := by decide +kernel
theorem dX4_digest_111 : decode cX4_digest 111 = .ok (.invokevirtual 198, 3) := by decide +kernel
theorem dX4_digest_114 : decode cX4_digest 114 = .ok (.iinc 1 1, 3) := by decide +kernel
theorem dX4_digest_117 : decode cX4_digest 117 = .ok (.goto (-30), 3) := by decide +kernel
theorem dX4_digest_120 : decode cX4_digest 120 = .ok (.iconst 0, 1) := by decide +kernel
theorem dX4_digest_121 : decode cX4_digest 121 = .ok (.istore_n 1, 1) := by decide +kernel
theorem dX4_digest_122 : decode cX4_digest 122 = .ok (.iload_n 1, 1) := by decide +kernel
theorem dX4_digest_123 : decode cX4_digest 123 = .ok (.iconst 4, 1) := by decide +kernel
theorem dX4_digest_124 : decode cX4_digest 124 = .ok (.aload_n 0, 1) := by decide +kernel
theorem dX4_digest_125 : decode cX4_digest 125 = .ok (.getfield 7, 3) := by decide +kernel
theorem dX4_digest_128 : decode cX4_digest 128 = .ok (.bipush 16, 2) := by decide +kernel
theorem dX4_digest_130 : decode cX4_digest 130 = .ok (.iaload, 1) := by decide +kernel
theorem dX4_digest_131 : decode cX4_digest 131 = .ok (.imul, 1) := by decide +kernel
theorem dX4_digest_132 : decode cX4_digest 132 = .ok (.if_icmp .ge 23, 3) := by decide +kernel
theorem dX4_digest_135 : decode cX4_digest 135 = .ok (.aload_n 0, 1) := by decide +kernel
theorem dX4_digest_136 : decode cX4_digest 136 = .ok (.aload_n 0, 1) := by decide +kernel
theorem dX4_digest_137 : decode cX4_digest 137 = .ok (.iload_n 1, 1) := by decide +kernel
theorem dX4_digest_138 : decode cX4_digest 138 = .ok (.iconst 4, 1) := by decide +kernel
theorem dX4_digest_139 : decode cX4_digest 139 = .ok (.idiv, 1) := by decide +kernel
theorem dX4_digest_140 : decode cX4_digest 140 = .ok (.iload_n 1, 1) := by decide +kernel
theorem dX4_digest_141 : decode cX4_digest 141 = .ok (.iconst 4, 1) := by decide +kernel
theorem dX4_digest_142 : decode cX4_digest 142 = .ok (.irem, 1) := by decide +kernel
theorem dX4_digest_143 : decode cX4_digest 143 = .ok (.invokevirtual 155, 3) := by decide +kernel
theorem dX4_digest_146 : decode cX4_digest 146 = .ok (.invokevirtual 198, 3) := by decide +kernel
theorem dX4_digest_149 : decode cX4_digest 149 = .ok (.iinc 1 1, 3) := by decide +kernel
theorem dX4_digest_152 : decode cX4_digest 152 = .ok (.goto (-30), 3) := by decide +kernel
theorem dX4_digest_155 : decode cX4_digest 155 = .ok (.aload_n 0, 1) := by decide +kernel
theorem dX4_digest_156 : decode cX4_digest 156 = .ok (.aload_n 0, 1) := by decide +kernel
theorem dX4_digest_157 : decode cX4_digest 157 = .ok (.getfield 33, 3) := by decide +kernel
theorem dX4_digest_160 : decode cX4_digest 160 = .ok (.invokevirtual 198, 3) := by decide +kernel
theorem dX4_digest_163 : decode cX4_digest 163 = .ok (.aload_n 0, 1) := by decide +kernel
theorem dX4_digest_164 : decode cX4_digest 164 = .ok (.getfield 194, 3) := by decide +kernel
theorem dX4_digest_167 : decode cX4_digest 167 = .ok (.lreturn, 1) := by decide +kernel
