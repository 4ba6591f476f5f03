theorem dX3_init_0 : decode cX3_init 0 = .ok (.aload_n 0, 1) := by decide +kernel
theorem dX3_init_1 : decode cX3_init 1 = .ok (.invokespecial 3, 3) := by decide +kernel
theorem dX3_init_4 : decode cX3_init 4 = .ok (.aload_n 0, 1) := by decide +kernel
theorem dX3_init_5 : decode cX3_init 5 = .ok (.new 9, 3) := by decide +kernel
theorem dX3_init_8 : decode cX3_init 8 = .ok (.dup, 1) := by decide +kernel
theorem dX3_init_9 : decode cX3_init 9 = .ok (.invokespecial 11, 3) := by decide +kernel
theorem dX3_init_12 : decode cX3_init 12 = .ok (.putfield 12, 3) := by decide +kernel
theorem dX3_init_15 : decode cX3_init 15 = .ok (.aload_n 0, 1) := by decide +kernel
theorem dX3_init_16 : decode cX3_init 16 = .ok (.new 9, 3) := by decide +kernel
theorem dX3_init_19 : decode cX3_init 19 = .ok (.dup, 1) := by decide +kernel
theorem dX3_init_20 : decode cX3_init 20 = .ok (.invokespecial 11, 3) := by decide +kernel
theorem dX3_init_23 : decode cX3_init 23 = .ok (.putfield 16, 3) := by decide +kernel
theorem dX3_init_26 : decode cX3_init 26 = .ok (.aload_n 0, 1) := by decide +kernel
theorem dX3_init_27 : decode cX3_init 27 = .ok (.iconst 4, 1) := by decide +kernel
theorem dX3_init_28 : decode cX3_init 28 = .ok (.anewarray 9, 3) := by decide +kernel
theorem dX3_init_31 : decode cX3_init 31 = .ok (.putfield 19, 3) := by decide +kernel
theorem dX3_init_34 : decode cX3_init 34 = .ok (.aload_n 0, 1) := by decide +kernel
theorem dX3_init_35 : decode cX3_init 35 = .ok (.iconst 0, 1) := by decide +kernel
theorem dX3_init_36 : decode cX3_init 36 = .ok (.putfield 23, 3) := by decide +kernel
theorem dX3_init_39 : decode cX3_init 39 = .ok (.aload_n 0, 1) := by decide +kernel
theorem dX3_init_40 : decode cX3_init 40 = .ok (.new 27, 3) := by decide +kernel
theorem dX3_init_43 : decode cX3_init 43 = .ok (.dup, 1) := by decide +kernel
theorem dX3_init_44 : decode cX3_init 44 = .ok (.invokespecial 29, 3) := by decide +kernel
theorem dX3_init_47 : decode cX3_init 47 = .ok (.putfield 30, 3) := by decide +kernel
theorem dX3_init_50 : decode cX3_init 50 = .ok (.iconst 0, 1) := by decide +kernel
theorem dX3_init_51 : decode cX3_init 51 = .ok (.istore_n 1, 1) := by decide +kernel
theorem dX3_init_52 : decode cX3_init 52 = .ok (.iload_n 1, 1) := by decide +kernel
theorem dX3_init_53 : decode cX3_init 53 = .ok (.iconst 4, 1) := by decide +kernel
theorem dX3_init_54 : decode cX3_init 54 = .ok (.if_icmp .ge 22, 3) := by decide +kernel
theorem dX3_init_57 : decode cX3_init 57 = .ok (.aload_n 0, 1) := by decide +kernel
theorem dX3_init_58 : decode cX3_init 58 = .ok (.getfield 19, 3) := by decide +kernel
theorem dX3_init_61 : decode cX3_init 61 = .ok (.iload_n 1, 1) := by decide +kernel
theorem dX3_init_62 : decode cX3_init 62 = .ok (.new 9, 3) := by decide +kernel
theorem dX3_init_65 : decode cX3_init 65 = .ok (.dup, 1) := by decide +kernel
theorem dX3_init_66 : decode cX3_init 66 = .ok (.invokespecial 11, 3) := by decide +kernel
theorem dX3_init_69 : decode cX3_init 69 = .ok (.aastore, 1) := by decide +kernel
theorem dX3_init_70 : decode cX3_init 70 = .ok (.iinc 1 1, 3) := by decide +kernel
theorem dX3_init_73 : decode cX3_init 73 = .ok (.goto (-21), 3) := by decide +kernel
theorem dX3_init_76 : decode cX3_init 76 = .ok (.return_, 1) := by decide +kernel
theorem dX3_setLimit_0 : decode cX3_setLimit 0 = .ok (.iload_n 1, 1) := by decide +kernel
theorem dX3_setLimit_1 : decode cX3_setLimit 1 = .ok (.invokestatic 34, 3) := by decide +kernel
theorem dX3_setLimit_4 : decode cX3_setLimit 4 = .ok (.iload_n 2, 1) := by decide +kernel
theorem dX3_setLimit_5 : decode cX3_setLimit 5 = .ok (.iconst 0, 1) := by decide +kernel
theorem dX3_setLimit_6 : decode cX3_setLimit 6 = .ok (.sipush 500, 3) := by decide +kernel
theorem dX3_setLimit_9 : decode cX3_setLimit 9 = .ok (.invokestatic 38, 3) := by decide +kernel
theorem dX3_setLimit_12 : decode cX3_setLimit 12 = .ok (.aload_n 0, 1) := by decide +kernel
theorem dX3_setLimit_13 : decode cX3_setLimit 13 = .ok (.invokevirtual 42, 3) := by decide +kernel
theorem dX3_setLimit_16 : decode cX3_setLimit 16 = .ok (.aload_n 0, 1) := by decide +kernel
theorem dX3_setLimit_17 : decode cX3_setLimit 17 = .ok (.getfield 12, 3) := by decide +kernel
theorem dX3_setLimit_20 : decode cX3_setLimit 20 = .ok (.getfield 45, 3) := by decide +kernel
theorem dX3_setLimit_23 : decode cX3_setLimit 23 = .ok (.iload_n 1, 1) := by decide +kernel
theorem dX3_setLimit_24 : decode cX3_setLimit 24 = .ok (.iaload, 1) := by decide +kernel
theorem dX3_setLimit_25 : decode cX3_setLimit 25 = .ok (.istore_n 3, 1) := by decide +kernel
theorem dX3_setLimit_26 : decode cX3_setLimit 26 = .ok (.aload_n 0, 1) := by decide +kernel
theorem dX3_setLimit_27 : decode cX3_setLimit 27 = .ok (.getfield 12, 3) := by decide +kernel
theorem dX3_setLimit_30 : decode cX3_setLimit 30 = .ok (.getfield 45, 3) := by decide +kernel
theorem dX3_setLimit_33 : decode cX3_setLimit 33 = .ok (.iload_n 1, 1) := by decide +kernel
theorem dX3_setLimit_34 : decode cX3_setLimit 34 = .ok (.iload_n 2, 1) := by decide +kernel
theorem dX3_setLimit_35 : decode cX3_setLimit 35 = .ok (.iastore, 1) := by decide +kernel
theorem dX3_setLimit_36 : decode cX3_setLimit 36 = .ok (.iload_n 3, 1) := by decide +kernel
theorem dX3_setLimit_37 : decode cX3_setLimit 37 = .ok (.ireturn, 1) := by decide +kernel
theorem dX3_setTray_0 : decode cX3_setTray 0 = .ok (.iload_n 1, 1) := by decide +kernel
theorem dX3_setTray_1 : decode cX3_setTray 1 = .ok (.invokestatic 49, 3) := by decide +kernel
theorem dX3_setTray_4 : decode cX3_setTray 4 = .ok (.iload_n 2, 1) := by decide +kernel
theorem dX3_setTray_5 : decode cX3_setTray 5 = .ok (.iconst 0, 1) := by decide +kernel
theorem dX3_setTray_6 : decode cX3_setTray 6 = .ok (.bipush 9, 2) := by decide +kernel
theorem dX3_setTray_8 : decode cX3_setTray 8 = .ok (.invokestatic 38, 3) := by decide +kernel
theorem dX3_setTray_11 : decode cX3_setTray 11 = .ok (.aload_n 0, 1) := by decide +kernel
theorem dX3_setTray_12 : decode cX3_setTray 12 = .ok (.invokevirtual 42, 3) := by decide +kernel
theorem dX3_setTray_15 : decode cX3_setTray 15 = .ok (.aload_n 0, 1) := by decide +kernel
theorem dX3_setTray_16 : decode cX3_setTray 16 = .ok (.getfield 12, 3) := by decide +kernel
theorem dX3_setTray_19 : decode cX3_setTray 19 = .ok (.getfield 52, 3) := by decide +kernel
theorem dX3_setTray_22 : decode cX3_setTray 22 = .ok (.iload_n 1, 1) := by decide +kernel
theorem dX3_setTray_23 : decode cX3_setTray 23 = .ok (.iaload, 1) := by decide +kernel
theorem dX3_setTray_24 : decode cX3_setTray 24 = .ok (.istore_n 3, 1) := by decide +kernel
theorem dX3_setTray_25 : decode cX3_setTray 25 = .ok (.aload_n 0, 1) := by decide +kernel
theorem dX3_setTray_26 : decode cX3_setTray 26 = .ok (.getfield 12, 3) := by decide +kernel
theorem dX3_setTray_29 : decode cX3_setTray 29 = .ok (.getfield 52, 3) := by decide +kernel
theorem dX3_setTray_32 : decode cX3_setTray 32 = .ok (.iload_n 1, 1) := by decide +kernel
theorem dX3_setTray_33 : decode cX3_setTray 33 = .ok (.iload_n 2, 1) := by decide +kernel
theorem dX3_setTray_34 : decode cX3_setTray 34 = .ok (.iastore, 1) := by decide +kernel
theorem dX3_setTray_35 : decode cX3_setTray 35 = .ok (.iload_n 3, 1) := by decide +kernel
theorem dX3_setTray_36 : decode cX3_setTray 36 = .ok (.ireturn, 1) := by decide +kernel
theorem dX3_setLevel_0 : decode cX3_setLevel 0 = .ok (.iload_n 1, 1) := by decide +kernel
theorem dX3_setLevel_1 : decode cX3_setLevel 1 = .ok (.iconst 0, 1) := by decide +kernel
theorem dX3_setLevel_2 : decode cX3_setLevel 2 = .ok (.sipush 500, 3) := by decide +kernel
theorem dX3_setLevel_5 : decode cX3_setLevel 5 = .ok (.invokestatic 38, 3) := by decide +kernel
theorem dX3_setLevel_8 : decode cX3_setLevel 8 = .ok (.aload_n 0, 1) := by decide +kernel
theorem dX3_setLevel_9 : decode cX3_setLevel 9 = .ok (.invokevirtual 42, 3) := by decide +kernel
theorem dX3_setLevel_12 : decode cX3_setLevel 12 = .ok (.aload_n 0, 1) := by decide +kernel
theorem dX3_setLevel_13 : decode cX3_setLevel 13 = .ok (.getfield 12, 3) := by decide +kernel
theorem dX3_setLevel_16 : decode cX3_setLevel 16 = .ok (.getfield 55, 3) := by decide +kernel
theorem dX3_setLevel_19 : decode cX3_setLevel 19 = .ok (.istore_n 2, 1) := by decide +kernel
theorem dX3_setLevel_20 : decode cX3_setLevel 20 = .ok (.aload_n 0, 1) := by decide +kernel
theorem dX3_setLevel_21 : decode cX3_setLevel 21 = .ok (.getfield 12, 3) := by decide +kernel
theorem dX3_setLevel_24 : decode cX3_setLevel 24 = .ok (.iload_n 1, 1) := by decide +kernel
theorem dX3_setLevel_25 : decode cX3_setLevel 25 = .ok (.putfield 55, 3) := by decide +kernel
theorem dX3_setLevel_28 : decode cX3_setLevel 28 = .ok (.iload_n 2, 1) := by decide +kernel
theorem dX3_setLevel_29 : decode cX3_setLevel 29 = .ok (.ireturn, 1) := by decide +kernel
theorem dX3_addMachine_0 : decode cX3_addMachine 0 = .ok (.iload_n 1, 1) := by decide +kernel
theorem dX3_addMachine_1 : decode cX3_addMachine 1 = .ok (.iconst 1, 1) := by decide +kernel
theorem dX3_addMachine_2 : decode cX3_addMachine 2 = .ok (.iconst 4, 1) := by decide +kernel
theorem dX3_addMachine_3 : decode cX3_addMachine 3 = .ok (.invokestatic 38, 3) := by decide +kernel
theorem dX3_addMachine_6 : decode cX3_addMachine 6 = .ok (.iload_n 2, 1) := by decide +kernel
theorem dX3_addMachine_7 : decode cX3_addMachine 7 = .ok (.iconst 1, 1) := by decide +kernel
theorem dX3_addMachine_8 : decode cX3_addMachine 8 = .ok (.bipush 99, 2) := by decide +kernel
theorem dX3_addMachine_10 : decode cX3_addMachine 10 = .ok (.invokestatic 38, 3) := by decide +kernel
theorem dX3_addMachine_13 : decode cX3_addMachine 13 = .ok (.iload_n 3, 1) := by decide +kernel
theorem dX3_addMachine_14 : decode cX3_addMachine 14 = .ok (.iconst 0, 1) := by decide +kernel
theorem dX3_addMachine_15 : decode cX3_addMachine 15 = .ok (.iconst 2, 1) := by decide +kernel
theorem dX3_addMachine_16 : decode cX3_addMachine 16 = .ok (.invokestatic 38, 3) := by decide +kernel
theorem dX3_addMachine_19 : decode cX3_addMachine 19 = .ok (.iload 4, 2) := by decide +kernel
theorem dX3_addMachine_21 : decode cX3_addMachine 21 = .ok (.iconst 0, 1) := by decide +kernel
theorem dX3_addMachine_22 : decode cX3_addMachine 22 = .ok (.iconst 3, 1) := by decide +kernel
theorem dX3_addMachine_23 : decode cX3_addMachine 23 = .ok (.invokestatic 38, 3) := by decide +kernel
theorem dX3_addMachine_26 : decode cX3_addMachine 26 = .ok (.aload_n 0, 1) := by decide +kernel
theorem dX3_addMachine_27 : decode cX3_addMachine 27 = .ok (.getfield 12, 3) := by decide +kernel
theorem dX3_addMachine_30 : decode cX3_addMachine 30 = .ok (.getfield 58, 3) := by decide +kernel
theorem dX3_addMachine_33 : decode cX3_addMachine 33 = .ok (.invokestatic 62, 3) := by decide +kernel
theorem dX3_addMachine_36 : decode cX3_addMachine 36 = .ok (.aload_n 0, 1) := by decide +kernel
theorem dX3_addMachine_37 : decode cX3_addMachine 37 = .ok (.invokevirtual 42, 3) := by decide +kernel
theorem dX3_addMachine_40 : decode cX3_addMachine 40 = .ok (.aload_n 0, 1) := by decide +kernel
theorem dX3_addMachine_41 : decode cX3_addMachine 41 = .ok (.getfield 12, 3) := by decide +kernel
theorem dX3_addMachine_44 : decode cX3_addMachine 44 = .ok (.getfield 58, 3) := by decide +kernel
theorem dX3_addMachine_47 : decode cX3_addMachine 47 = .ok (.invokevirtual 66, 3) := by decide +kernel
theorem dX3_addMachine_50 : decode cX3_addMachine 50 = .ok (.istore 5, 2) := by decide +kernel
theorem dX3_addMachine_52 : decode cX3_addMachine 52 = .ok (.aload_n 0, 1) := by decide +kernel
theorem dX3_addMachine_53 : decode cX3_addMachine 53 = .ok (.getfield 12, 3) := by decide +kernel
theorem dX3_addMachine_56 : decode cX3_addMachine 56 = .ok (.getfield 58, 3) := by decide +kernel
theorem dX3_addMachine_59 : decode cX3_addMachine 59 = .ok (.iload 5, 2) := by decide +kernel
theorem dX3_addMachine_61 : decode cX3_addMachine 61 = .ok (.iconst 0, 1) := by decide +kernel
theorem dX3_addMachine_62 : decode cX3_addMachine 62 = .ok (.iload_n 1, 1) := by decide +kernel
theorem dX3_addMachine_63 : decode cX3_addMachine 63 = .ok (.invokevirtual 72, 3) := by decide +kernel
theorem dX3_addMachine_66 : decode cX3_addMachine 66 = .ok (.aload_n 0, 1) := by decide +kernel
theorem dX3_addMachine_67 : decode cX3_addMachine 67 = .ok (.getfield 12, 3) := by decide +kernel
theorem dX3_addMachine_70 : decode cX3_addMachine 70 = .ok (.getfield 58, 3) := by decide +kernel
theorem dX3_addMachine_73 : decode cX3_addMachine 73 = .ok (.iload 5, 2) := by decide +kernel
theorem dX3_addMachine_75 : decode cX3_addMachine 75 = .ok (.iconst 1, 1) := by decide +kernel
theorem dX3_addMachine_76 : decode cX3_addMachine 76 = .ok (.iload_n 2, 1) := by decide +kernel
theorem dX3_addMachine_77 : decode cX3_addMachine 77 = .ok (.invokevirtual 72, 3) := by decide +kernel
theorem dX3_addMachine_80 : decode cX3_addMachine 80 = .ok (.aload_n 0, 1) := by decide +kernel
theorem dX3_addMachine_81 : decode cX3_addMachine 81 = .ok (.getfield 12, 3) := by decide +kernel
theorem dX3_addMachine_84 : decode cX3_addMachine 84 = .ok (.getfield 58, 3) := by decide +kernel
theorem dX3_addMachine_87 : decode cX3_addMachine 87 = .ok (.iload 5, 2) := by decide +kernel
theorem dX3_addMachine_89 : decode cX3_addMachine 89 = .ok (.iconst 3, 1) := by decide +kernel
theorem dX3_addMachine_90 : decode cX3_addMachine 90 = .ok (.iload 4, 2) := by decide +kernel
theorem dX3_addMachine_92 : decode cX3_addMachine 92 = .ok (.invokevirtual 72, 3) := by decide +kernel
theorem dX3_addMachine_95 : decode cX3_addMachine 95 = .ok (.aload_n 0, 1) := by decide +kernel
theorem dX3_addMachine_96 : decode cX3_addMachine 96 = .ok (.getfield 12, 3) := by decide +kernel
theorem dX3_addMachine_99 : decode cX3_addMachine 99 = .ok (.iload 5, 2) := by decide +kernel
theorem dX3_addMachine_101 : decode cX3_addMachine 101 = .ok (.iconst (-1), 1) := by decide +kernel
theorem dX3_addMachine_102 : decode cX3_addMachine 102 = .ok (.iconst (-1), 1) := by decide +kernel
theorem dX3_addMachine_103 : decode cX3_addMachine 103 = .ok (.iload_n 3, 1) := by decide +kernel
theorem dX3_addMachine_104 : decode cX3_addMachine 104 = .ok (.invokevirtual 75, 3) := by decide +kernel
theorem dX3_addMachine_107 : decode cX3_addMachine 107 = .ok (.iload 5, 2) := by decide +kernel
theorem dX3_addMachine_109 : decode cX3_addMachine 109 = .ok (.ireturn, 1) := by decide +kernel
theorem dX3_addCable_0 : decode cX3_addCable 0 = .ok (.aload_n 0, 1) := by decide +kernel
theorem dX3_addCable_1 : decode cX3_addCable 1 = .ok (.iload_n 1, 1) := by decide +kernel
theorem dX3_addCable_2 : decode cX3_addCable 2 = .ok (.invokevirtual 79, 3) := by decide +kernel
theorem dX3_addCable_5 : decode cX3_addCable 5 = .ok (.aload_n 0, 1) := by decide +kernel
theorem dX3_addCable_6 : decode cX3_addCable 6 = .ok (.iload_n 2, 1) := by decide +kernel
theorem dX3_addCable_7 : decode cX3_addCable 7 = .ok (.invokevirtual 79, 3) := by decide +kernel
theorem dX3_addCable_10 : decode cX3_addCable 10 = .ok (.iload_n 1, 1) := by decide +kernel
theorem dX3_addCable_11 : decode cX3_addCable 11 = .ok (.iload_n 2, 1) := by decide +kernel
theorem dX3_addCable_12 : decode cX3_addCable 12 = .ok (.if_icmp .ne 13, 3) := by decide +kernel
theorem dX3_addCable_15 : decode cX3_addCable 15 = .ok (.new 82, 3) := by decide +kernel
theorem dX3_addCable_18 : decode cX3_addCable 18 = .ok (.dup, 1) := by decide +kernel
theorem dX3_addCable_19 : decode cX3_addCable 19 = .ok (.ldc 84, 2) := by decide +kernel
theorem dX3_addCable_21 : decode cX3_addCable 21 = .ok (.invokespecial 86, 3) := by decide +kernel
theorem dX3_addCable_24 : decode cX3_addCable 24 = .ok (.athrow, 1) := by decide +kernel
theorem dX3_addCable_25 : decode cX3_addCable 25 = .ok (.iload_n 3, 1) := by decide +kernel
theorem dX3_addCable_26 : decode cX3_addCable 26 = .ok (.iconst 1, 1) := by decide +kernel
theorem dX3_addCable_27 : decode cX3_addCable 27 = .ok (.bipush 20, 2) := by decide +kernel
theorem dX3_addCable_29 : decode cX3_addCable 29 = .ok (.invokestatic 38, 3) := by decide +kernel
theorem dX3_addCable_32 : decode cX3_addCable 32 = .ok (.aload_n 0, 1) := by decide +kernel
theorem dX3_addCable_33 : decode cX3_addCable 33 = .ok (.getfield 12, 3) := by decide +kernel
theorem dX3_addCable_36 : decode cX3_addCable 36 = .ok (.getfield 89, 3) := by decide +kernel
theorem dX3_addCable_39 : decode cX3_addCable 39 = .ok (.invokestatic 62, 3) := by decide +kernel
theorem dX3_addCable_42 : decode cX3_addCable 42 = .ok (.aload_n 0, 1) := by decide +kernel
theorem dX3_addCable_43 : decode cX3_addCable 43 = .ok (.invokevirtual 42, 3) := by decide +kernel
theorem dX3_addCable_46 : decode cX3_addCable 46 = .ok (.aload_n 0, 1) := by decide +kernel
theorem dX3_addCable_47 : decode cX3_addCable 47 = .ok (.getfield 12, 3) := by decide +kernel
theorem dX3_addCable_50 : decode cX3_addCable 50 = .ok (.getfield 89, 3) := by decide +kernel
theorem dX3_addCable_53 : decode cX3_addCable 53 = .ok (.invokevirtual 66, 3) := by decide +kernel
theorem dX3_addCable_56 : decode cX3_addCable 56 = .ok (.istore 4, 2) := by decide +kernel
theorem dX3_addCable_58 : decode cX3_addCable 58 = .ok (.aload_n 0, 1) := by decide +kernel
theorem dX3_addCable_59 : decode cX3_addCable 59 = .ok (.getfield 12, 3) := by decide +kernel
theorem dX3_addCable_62 : decode cX3_addCable 62 = .ok (.getfield 89, 3) := by decide +kernel
theorem dX3_addCable_65 : decode cX3_addCable 65 = .ok (.iload 4, 2) := by decide +kernel
theorem dX3_addCable_67 : decode cX3_addCable 67 = .ok (.iconst 0, 1) := by decide +kernel
theorem dX3_addCable_68 : decode cX3_addCable 68 = .ok (.iload_n 1, 1) := by decide +kernel
theorem dX3_addCable_69 : decode cX3_addCable 69 = .ok (.invokevirtual 72, 3) := by decide +kernel
theorem dX3_addCable_72 : decode cX3_addCable 72 = .ok (.aload_n 0, 1) := by decide +kernel
theorem dX3_addCable_73 : decode cX3_addCable 73 = .ok (.getfield 12, 3) := by decide +kernel
theorem dX3_addCable_76 : decode cX3_addCable 76 = .ok (.getfield 89, 3) := by decide +kernel
theorem dX3_addCable_79 : decode cX3_addCable 79 = .ok (.iload 4, 2) := by decide +kernel
theorem dX3_addCable_81 : decode cX3_addCable 81 = .ok (.iconst 1, 1) := by decide +kernel
theorem dX3_addCable_82 : decode cX3_addCable 82 = .ok (.iload_n 2, 1) := by decide +kernel
theorem dX3_addCable_83 : decode cX3_addCable 83 = .ok (.invokevirtual 72, 3) := by decide +kernel
theorem dX3_addCable_86 : decode cX3_addCable 86 = .ok (.aload_n 0, 1) := by decide +kernel
theorem dX3_addCable_87 : decode cX3_addCable 87 = .ok (.getfield 12, 3) := by decide +kernel
theorem dX3_addCable_90 : decode cX3_addCable 90 = .ok (.getfield 89, 3) := by decide +kernel
theorem dX3_addCable_93 : decode cX3_addCable 93 = .ok (.iload 4, 2) := by decide +kernel
theorem dX3_addCable_95 : decode cX3_addCable 95 = .ok (.iconst 2, 1) := by decide +kernel
theorem dX3_addCable_96 : decode cX3_addCable 96 = .ok (.iload_n 3, 1) := by decide +kernel
theorem dX3_addCable_97 : decode cX3_addCable 97 = .ok (.invokevirtual 72, 3) := by decide +kernel
theorem dX3_addCable_100 : decode cX3_addCable 100 = .ok (.iload 4, 2) := by decide +kernel
theorem dX3_addCable_102 : decode cX3_addCable 102 = .ok (.ireturn, 1) := by decide +kernel
theorem dX3_removeCable_0 : decode cX3_removeCable 0 = .ok (.aload_n 0, 1) := by decide +kernel
theorem dX3_removeCable_1 : decode cX3_removeCable 1 = .ok (.iload_n 1, 1) := by decide +kernel
theorem dX3_removeCable_2 : decode cX3_removeCable 2 = .ok (.invokevirtual 92, 3) := by decide +kernel
theorem dX3_removeCable_5 : decode cX3_removeCable 5 = .ok (.aload_n 0, 1) := by decide +kernel
theorem dX3_removeCable_6 : decode cX3_removeCable 6 = .ok (.invokevirtual 42, 3) := by decide +kernel
theorem dX3_removeCable_9 : decode cX3_removeCable 9 = .ok (.aload_n 0, 1) := by decide +kernel
theorem dX3_removeCable_10 : decode cX3_removeCable 10 = .ok (.getfield 12, 3) := by decide +kernel
theorem dX3_removeCable_13 : decode cX3_removeCable 13 = .ok (.getfield 89, 3) := by decide +kernel
theorem dX3_removeCable_16 : decode cX3_removeCable 16 = .ok (.iload_n 1, 1) := by decide +kernel
theorem dX3_removeCable_17 : decode cX3_removeCable 17 = .ok (.invokevirtual 95, 3) := by decide +kernel
theorem dX3_removeCable_20 : decode cX3_removeCable 20 = .ok (.aload_n 0, 1) := by decide +kernel
theorem dX3_removeCable_21 : decode cX3_removeCable 21 = .ok (.getfield 12, 3) := by decide +kernel
theorem dX3_removeCable_24 : decode cX3_removeCable 24 = .ok (.getfield 89, 3) := by decide +kernel
theorem dX3_removeCable_27 : decode cX3_removeCable 27 = .ok (.getfield 98, 3) := by decide +kernel
theorem dX3_removeCable_30 : decode cX3_removeCable 30 = .ok (.ireturn, 1) := by decide +kernel
theorem dX3_addFreeze_0 : decode cX3_addFreeze 0 = .ok (.iload_n 1, 1) := by decide +kernel
theorem dX3_addFreeze_1 : decode cX3_addFreeze 1 = .ok (.iconst 0, 1) := by decide +kernel
theorem dX3_addFreeze_2 : decode cX3_addFreeze 2 = .ok (.iconst 3, 1) := by decide +kernel
theorem dX3_addFreeze_3 : decode cX3_addFreeze 3 = .ok (.invokestatic 38, 3) := by decide +kernel
theorem dX3_addFreeze_6 : decode cX3_addFreeze 6 = .ok (.iload_n 2, 1) := by decide +kernel
theorem dX3_addFreeze_7 : decode cX3_addFreeze 7 = .ok (.iconst 0, 1) := by decide +kernel
theorem dX3_addFreeze_8 : decode cX3_addFreeze 8 = .ok (.sipush 999, 3) := by decide +kernel
theorem dX3_addFreeze_11 : decode cX3_addFreeze 11 = .ok (.invokestatic 38, 3) := by decide +kernel
theorem dX3_addFreeze_14 : decode cX3_addFreeze 14 = .ok (.iload_n 3, 1) := by decide +kernel
theorem dX3_addFreeze_15 : decode cX3_addFreeze 15 = .ok (.iconst 1, 1) := by decide +kernel
theorem dX3_addFreeze_16 : decode cX3_addFreeze 16 = .ok (.bipush 99, 2) := by decide +kernel
theorem dX3_addFreeze_18 : decode cX3_addFreeze 18 = .ok (.invokestatic 38, 3) := by decide +kernel
theorem dX3_addFreeze_21 : decode cX3_addFreeze 21 = .ok (.aload_n 0, 1) := by decide +kernel
theorem dX3_addFreeze_22 : decode cX3_addFreeze 22 = .ok (.getfield 12, 3) := by decide +kernel
theorem dX3_addFreeze_25 : decode cX3_addFreeze 25 = .ok (.getfield 101, 3) := by decide +kernel
theorem dX3_addFreeze_28 : decode cX3_addFreeze 28 = .ok (.invokestatic 62, 3) := by decide +kernel
theorem dX3_addFreeze_31 : decode cX3_addFreeze 31 = .ok (.aload_n 0, 1) := by decide +kernel
theorem dX3_addFreeze_32 : decode cX3_addFreeze 32 = .ok (.invokevirtual 42, 3) := by decide +kernel
theorem dX3_addFreeze_35 : decode cX3_addFreeze 35 = .ok (.aload_n 0, 1) := by decide +kernel
theorem dX3_addFreeze_36 : decode cX3_addFreeze 36 = .ok (.getfield 12, 3) := by decide +kernel
theorem dX3_addFreeze_39 : decode cX3_addFreeze 39 = .ok (.getfield 101, 3) := by decide +kernel
theorem dX3_addFreeze_42 : decode cX3_addFreeze 42 = .ok (.invokevirtual 66, 3) := by decide +kernel
theorem dX3_addFreeze_45 : decode cX3_addFreeze 45 = .ok (.istore 4, 2) := by decide +kernel
theorem dX3_addFreeze_47 : decode cX3_addFreeze 47 = .ok (.aload_n 0, 1) := by decide +kernel
theorem dX3_addFreeze_48 : decode cX3_addFreeze 48 = .ok (.getfield 12, 3) := by decide +kernel
theorem dX3_addFreeze_51 : decode cX3_addFreeze 51 = .ok (.getfield 101, 3) := by decide +kernel
theorem dX3_addFreeze_54 : decode cX3_addFreeze 54 = .ok (.iload 4, 2) := by decide +kernel
theorem dX3_addFreeze_56 : decode cX3_addFreeze 56 = .ok (.iconst 0, 1) := by decide +kernel
theorem dX3_addFreeze_57 : decode cX3_addFreeze 57 = .ok (.iload_n 1, 1) := by decide +kernel
theorem dX3_addFreeze_58 : decode cX3_addFreeze 58 = .ok (.invokevirtual 72, 3) := by decide +kernel
theorem dX3_addFreeze_61 : decode cX3_addFreeze 61 = .ok (.aload_n 0, 1) := by decide +kernel
theorem dX3_addFreeze_62 : decode cX3_addFreeze 62 = .ok (.getfield 12, 3) := by decide +kernel
theorem dX3_addFreeze_65 : decode cX3_addFreeze 65 = .ok (.getfield 101, 3) := by decide +kernel
theorem dX3_addFreeze_68 : decode cX3_addFreeze 68 = .ok (.iload 4, 2) := by decide +kernel
theorem dX3_addFreeze_70 : decode cX3_addFreeze 70 = .ok (.iconst 1, 1) := by decide +kernel
theorem dX3_addFreeze_71 : decode cX3_addFreeze 71 = .ok (.iload_n 2, 1) := by decide +kernel
theorem dX3_addFreeze_72 : decode cX3_addFreeze 72 = .ok (.invokevirtual 72, 3) := by decide +kernel
theorem dX3_addFreeze_75 : decode cX3_addFreeze 75 = .ok (.aload_n 0, 1) := by decide +kernel
theorem dX3_addFreeze_76 : decode cX3_addFreeze 76 = .ok (.getfield 12, 3) := by decide +kernel
theorem dX3_addFreeze_79 : decode cX3_addFreeze 79 = .ok (.getfield 101, 3) := by decide +kernel
theorem dX3_addFreeze_82 : decode cX3_addFreeze 82 = .ok (.iload 4, 2) := by decide +kernel
theorem dX3_addFreeze_84 : decode cX3_addFreeze 84 = .ok (.iconst 2, 1) := by decide +kernel
theorem dX3_addFreeze_85 : decode cX3_addFreeze 85 = .ok (.iload_n 3, 1) := by decide +kernel
theorem dX3_addFreeze_86 : decode cX3_addFreeze 86 = .ok (.invokevirtual 72, 3) := by decide +kernel
theorem dX3_addFreeze_89 : decode cX3_addFreeze 89 = .ok (.iload 4, 2) := by decide +kernel
theorem dX3_addFreeze_91 : decode cX3_addFreeze 91 = .ok (.ireturn, 1) := by decide +kernel
theorem dX3_removeFreeze_0 : decode cX3_removeFreeze 0 = .ok (.aload_n 0, 1) := by decide +kernel
theorem dX3_removeFreeze_1 : decode cX3_removeFreeze 1 = .ok (.getfield 12, 3) := by decide +kernel
theorem dX3_removeFreeze_4 : decode cX3_removeFreeze 4 = .ok (.getfield 101, 3) := by decide +kernel
theorem dX3_removeFreeze_7 : decode cX3_removeFreeze 7 = .ok (.iload_n 1, 1) := by decide +kernel
theorem dX3_removeFreeze_8 : decode cX3_removeFreeze 8 = .ok (.invokevirtual 104, 3) := by decide +kernel
theorem dX3_removeFreeze_11 : decode cX3_removeFreeze 11 = .ok (.ifCond .ne 13, 3) := by decide +kernel
theorem dX3_removeFreeze_14 : decode cX3_removeFreeze 14 = .ok (.new 108, 3) := by decide +kernel
theorem dX3_removeFreeze_17 : decode cX3_removeFreeze 17 = .ok (.dup, 1) := by decide +kernel
theorem dX3_removeFreeze_18 : decode cX3_removeFreeze 18 = .ok (.ldc 110, 2) := by decide +kernel
theorem dX3_removeFreeze_20 : decode cX3_removeFreeze 20 = .ok (.invokespecial 112, 3) := by decide +kernel
theorem dX3_removeFreeze_23 : decode cX3_removeFreeze 23 = .ok (.athrow, 1) := by decide +kernel
theorem dX3_removeFreeze_24 : decode cX3_removeFreeze 24 = .ok (.aload_n 0, 1) := by decide +kernel
theorem dX3_removeFreeze_25 : decode cX3_removeFreeze 25 = .ok (.invokevirtual 42, 3) := by decide +kernel
theorem dX3_removeFreeze_28 : decode cX3_removeFreeze 28 = .ok (.aload_n 0, 1) := by decide +kernel
theorem dX3_removeFreeze_29 : decode cX3_removeFreeze 29 = .ok (.getfield 12, 3) := by decide +kernel
theorem dX3_removeFreeze_32 : decode cX3_removeFreeze 32 = .ok (.getfield 101, 3) := by decide +kernel
theorem dX3_removeFreeze_35 : decode cX3_removeFreeze 35 = .ok (.iload_n 1, 1) := by decide +kernel
theorem dX3_removeFreeze_36 : decode cX3_removeFreeze 36 = .ok (.invokevirtual 95, 3) := by decide +kernel
theorem dX3_removeFreeze_39 : decode cX3_removeFreeze 39 = .ok (.aload_n 0, 1) := by decide +kernel
theorem dX3_removeFreeze_40 : decode cX3_removeFreeze 40 = .ok (.getfield 12, 3) := by decide +kernel
theorem dX3_removeFreeze_43 : decode cX3_removeFreeze 43 = .ok (.getfield 101, 3) := by decide +kernel
theorem dX3_removeFreeze_46 : decode cX3_removeFreeze 46 = .ok (.getfield 98, 3) := by decide +kernel
theorem dX3_removeFreeze_49 : decode cX3_removeFreeze 49 = .ok (.ireturn, 1) := by decide +kernel
theorem dX3_pass_0 : decode cX3_pass 0 = .ok (.iload_n 1, 1) := by decide +kernel
theorem dX3_pass_1 : decode cX3_pass 1 = .ok (.iconst 1, 1) := by decide +kernel
theorem dX3_pass_2 : decode cX3_pass 2 = .ok (.bipush 99, 2) := by decide +kernel
theorem dX3_pass_4 : decode cX3_pass 4 = .ok (.invokestatic 38, 3) := by decide +kernel
theorem dX3_pass_7 : decode cX3_pass 7 = .ok (.aload_n 0, 1) := by decide +kernel
theorem dX3_pass_8 : decode cX3_pass 8 = .ok (.getfield 12, 3) := by decide +kernel
theorem dX3_pass_11 : decode cX3_pass 11 = .ok (.getfield 113, 3) := by decide +kernel
theorem dX3_pass_14 : decode cX3_pass 14 = .ok (.iload_n 1, 1) := by decide +kernel
theorem dX3_pass_15 : decode cX3_pass 15 = .ok (.iadd, 1) := by decide +kernel
theorem dX3_pass_16 : decode cX3_pass 16 = .ok (.sipush 2000, 3) := by decide +kernel
theorem dX3_pass_19 : decode cX3_pass 19 = .ok (.if_icmp .le 13, 3) := by decide +kernel
theorem dX3_pass_22 : decode cX3_pass 22 = .ok (.new 116, 3) := by decide +kernel
theorem dX3_pass_25 : decode cX3_pass 25 = .ok (.dup, 1) := by decide +kernel
theorem dX3_pass_26 : decode cX3_pass 26 = .ok (.ldc 118, 2) := by decide +kernel
theorem dX3_pass_28 : decode cX3_pass 28 = .ok (.invokespecial 120, 3) := by decide +kernel
theorem dX3_pass_31 : decode cX3_pass 31 = .ok (.athrow, 1) := by decide +kernel
theorem dX3_pass_32 : decode cX3_pass 32 = .ok (.aload_n 0, 1) := by decide +kernel
theorem dX3_pass_33 : decode cX3_pass 33 = .ok (.invokevirtual 42, 3) := by decide +kernel
theorem dX3_pass_36 : decode cX3_pass 36 = .ok (.aload_n 0, 1) := by decide +kernel
theorem dX3_pass_37 : decode cX3_pass 37 = .ok (.getfield 12, 3) := by decide +kernel
theorem dX3_pass_40 : decode cX3_pass 40 = .ok (.dup, 1) := by decide +kernel
theorem dX3_pass_41 : decode cX3_pass 41 = .ok (.getfield 113, 3) := by decide +kernel
theorem dX3_pass_44 : decode cX3_pass 44 = .ok (.iload_n 1, 1) := by decide +kernel
theorem dX3_pass_45 : decode cX3_pass 45 = .ok (.iadd, 1) := by decide +kernel
theorem dX3_pass_46 : decode cX3_pass 46 = .ok (.putfield 113, 3) := by decide +kernel
theorem dX3_pass_49 : decode cX3_pass 49 = .ok (.aload_n 0, 1) := by decide +kernel
theorem dX3_pass_50 : decode cX3_pass 50 = .ok (.getfield 12, 3) := by decide +kernel
theorem dX3_pass_53 : decode cX3_pass 53 = .ok (.getfield 113, 3) := by decide +kernel
theorem dX3_pass_56 : decode cX3_pass 56 = .ok (.ireturn, 1) := by decide +kernel
theorem dX3_machine_0 : decode cX3_machine 0 = .ok (.aload_n 0, 1) := by decide +kernel
theorem dX3_machine_1 : decode cX3_machine 1 = .ok (.iload_n 1, 1) := by decide +kernel
theorem dX3_machine_2 : decode cX3_machine 2 = .ok (.invokevirtual 79, 3) := by decide +kernel
theorem dX3_machine_5 : decode cX3_machine 5 = .ok (.iload_n 2, 1) := by decide +kernel
theorem dX3_machine_6 : decode cX3_machine 6 = .ok (.iconst 0, 1) := by decide +kernel
theorem dX3_machine_7 : decode cX3_machine 7 = .ok (.bipush 7, 2) := by decide +kernel
theorem dX3_machine_9 : decode cX3_machine 9 = .ok (.invokestatic 38, 3) := by decide +kernel
theorem dX3_machine_12 : decode cX3_machine 12 = .ok (.iload_n 2, 1) := by decide +kernel
theorem dX3_machine_13 : decode cX3_machine 13 = .ok (.bipush 7, 2) := by decide +kernel
theorem dX3_machine_15 : decode cX3_machine 15 = .ok (.if_icmp .ne 12, 3) := by decide +kernel
theorem dX3_machine_18 : decode cX3_machine 18 = .ok (.aload_n 0, 1) := by decide +kernel
theorem dX3_machine_19 : decode cX3_machine 19 = .ok (.getfield 12, 3) := by decide +kernel
theorem dX3_machine_22 : decode cX3_machine 22 = .ok (.iload_n 1, 1) := by decide +kernel
theorem dX3_machine_23 : decode cX3_machine 23 = .ok (.invokevirtual 121, 3) := by decide +kernel
theorem dX3_machine_26 : decode cX3_machine 26 = .ok (.ireturn, 1) := by decide +kernel
theorem dX3_machine_27 : decode cX3_machine 27 = .ok (.iload_n 2, 1) := by decide +kernel
theorem dX3_machine_28 : decode cX3_machine 28 = .ok (.bipush 6, 2) := by decide +kernel
theorem dX3_machine_30 : decode cX3_machine 30 = .ok (.if_icmp .ne 20, 3) := by decide +kernel
theorem dX3_machine_33 : decode cX3_machine 33 = .ok (.aload_n 0, 1) := by decide +kernel
theorem dX3_machine_34 : decode cX3_machine 34 = .ok (.getfield 12, 3) := by decide +kernel
theorem dX3_machine_37 : decode cX3_machine 37 = .ok (.iload_n 1, 1) := by decide +kernel
theorem dX3_machine_38 : decode cX3_machine 38 = .ok (.invokevirtual 125, 3) := by decide +kernel
theorem dX3_machine_41 : decode cX3_machine 41 = .ok (.ifCond .eq 7, 3) := by decide +kernel
theorem dX3_machine_44 : decode cX3_machine 44 = .ok (.iconst 1, 1) := by decide +kernel
theorem dX3_machine_45 : decode cX3_machine 45 = .ok (.goto 4, 3) := by decide +kernel
theorem dX3_machine_48 : decode cX3_machine 48 = .ok (.iconst 0, 1) := by decide +kernel
theorem dX3_machine_49 : decode cX3_machine 49 = .ok (.ireturn, 1) := by decide +kernel
theorem dX3_machine_50 : decode cX3_machine 50 = .ok (.aload_n 0, 1) := by decide +kernel
theorem dX3_machine_51 : decode cX3_machine 51 = .ok (.getfield 12, 3) := by decide +kernel
theorem dX3_machine_54 : decode cX3_machine 54 = .ok (.getfield 58, 3) := by decide +kernel
theorem dX3_machine_57 : decode cX3_machine 57 = .ok (.iload_n 1, 1) := by decide +kernel
theorem dX3_machine_58 : decode cX3_machine 58 = .ok (.iload_n 2, 1) := by decide +kernel
theorem dX3_machine_59 : decode cX3_machine 59 = .ok (.invokevirtual 128, 3) := by decide +kernel
theorem dX3_machine_62 : decode cX3_machine 62 = .ok (.ireturn, 1) := by decide +kernel
theorem dX3_rack_0 : decode cX3_rack 0 = .ok (.iload_n 1, 1) := by decide +kernel
theorem dX3_rack_1 : decode cX3_rack 1 = .ok (.invokestatic 34, 3) := by decide +kernel
theorem dX3_rack_4 : decode cX3_rack 4 = .ok (.iload_n 2, 1) := by decide +kernel
theorem dX3_rack_5 : decode cX3_rack 5 = .ok (.iconst 0, 1) := by decide +kernel
theorem dX3_rack_6 : decode cX3_rack 6 = .ok (.bipush 7, 2) := by decide +kernel
theorem dX3_rack_8 : decode cX3_rack 8 = .ok (.invokestatic 38, 3) := by decide +kernel
theorem dX3_rack_11 : decode cX3_rack 11 = .ok (.iload_n 2, 1) := by decide +kernel
theorem dX3_rack_12 : decode cX3_rack 12 = .ok (.tableswitch 97 0 7 #[48, 58, 97, 97, 97, 67, 76, 88], 48) := by decide +kernel
theorem dX3_rack_60 : decode cX3_rack 60 = .ok (.aload_n 0, 1) := by decide +kernel
theorem dX3_rack_61 : decode cX3_rack 61 = .ok (.getfield 12, 3) := by decide +kernel
theorem dX3_rack_64 : decode cX3_rack 64 = .ok (.getfield 45, 3) := by decide +kernel
theorem dX3_rack_67 : decode cX3_rack 67 = .ok (.iload_n 1, 1) := by decide +kernel
theorem dX3_rack_68 : decode cX3_rack 68 = .ok (.iaload, 1) := by decide +kernel
theorem dX3_rack_69 : decode cX3_rack 69 = .ok (.ireturn, 1) := by decide +kernel
theorem dX3_rack_70 : decode cX3_rack 70 = .ok (.aload_n 0, 1) := by decide +kernel
theorem dX3_rack_71 : decode cX3_rack 71 = .ok (.getfield 12, 3) := by decide +kernel
theorem dX3_rack_74 : decode cX3_rack 74 = .ok (.iload_n 1, 1) := by decide +kernel
theorem dX3_rack_75 : decode cX3_rack 75 = .ok (.invokevirtual 132, 3) := by decide +kernel
theorem dX3_rack_78 : decode cX3_rack 78 = .ok (.ireturn, 1) := by decide +kernel
theorem dX3_rack_79 : decode cX3_rack 79 = .ok (.aload_n 0, 1) := by decide +kernel
theorem dX3_rack_80 : decode cX3_rack 80 = .ok (.getfield 12, 3) := by decide +kernel
theorem dX3_rack_83 : decode cX3_rack 83 = .ok (.iload_n 1, 1) := by decide +kernel
theorem dX3_rack_84 : decode cX3_rack 84 = .ok (.invokevirtual 135, 3) := by decide +kernel
theorem dX3_rack_87 : decode cX3_rack 87 = .ok (.ireturn, 1) := by decide +kernel
theorem dX3_rack_88 : decode cX3_rack 88 = .ok (.bipush 10, 2) := by decide +kernel
theorem dX3_rack_90 : decode cX3_rack 90 = .ok (.aload_n 0, 1) := by decide +kernel
theorem dX3_rack_91 : decode cX3_rack 91 = .ok (.getfield 12, 3) := by decide +kernel
theorem dX3_rack_94 : decode cX3_rack 94 = .ok (.iload_n 1, 1) := by decide +kernel
theorem dX3_rack_95 : decode cX3_rack 95 = .ok (.invokevirtual 138, 3) := by decide +kernel
theorem dX3_rack_98 : decode cX3_rack 98 = .ok (.isub, 1) := by decide +kernel
theorem dX3_rack_99 : decode cX3_rack 99 = .ok (.ireturn, 1) := by decide +kernel
theorem dX3_rack_100 : decode cX3_rack 100 = .ok (.aload_n 0, 1) := by decide +kernel
theorem dX3_rack_101 : decode cX3_rack 101 = .ok (.getfield 12, 3) := by decide +kernel
theorem dX3_rack_104 : decode cX3_rack 104 = .ok (.iload_n 1, 1) := by decide +kernel
theorem dX3_rack_105 : decode cX3_rack 105 = .ok (.invokevirtual 141, 3) := by decide +kernel
theorem dX3_rack_108 : decode cX3_rack 108 = .ok (.ireturn, 1) := by decide +kernel
theorem dX3_rack_109 : decode cX3_rack 109 = .ok (.aload_n 0, 1) := by decide +kernel
theorem dX3_rack_110 : decode cX3_rack 110 = .ok (.getfield 12, 3) := by decide +kernel
theorem dX3_rack_113 : decode cX3_rack 113 = .ok (.iload_n 1, 1) := by decide +kernel
theorem dX3_rack_114 : decode cX3_rack 114 = .ok (.iload_n 2, 1) := by decide +kernel
theorem dX3_rack_115 : decode cX3_rack 115 = .ok (.iconst 2, 1) := by decide +kernel
theorem dX3_rack_116 : decode cX3_rack 116 = .ok (.isub, 1) := by decide +kernel
theorem dX3_rack_117 : decode cX3_rack 117 = .ok (.invokevirtual 144, 3) := by decide +kernel
theorem dX3_rack_120 : decode cX3_rack 120 = .ok (.ireturn, 1) := by decide +kernel
theorem dX3_slot_0 : decode cX3_slot 0 = .ok (.iload_n 1, 1) := by decide +kernel
theorem dX3_slot_1 : decode cX3_slot 1 = .ok (.invokestatic 34, 3) := by decide +kernel
theorem dX3_slot_4 : decode cX3_slot 4 = .ok (.iload_n 2, 1) := by decide +kernel
theorem dX3_slot_5 : decode cX3_slot 5 = .ok (.ifCond .lt 9, 3) := by decide +kernel
theorem dX3_slot_8 : decode cX3_slot 8 = .ok (.iload_n 2, 1) := by decide +kernel
theorem dX3_slot_9 : decode cX3_slot 9 = .ok (.bipush 10, 2) := by decide +kernel
theorem dX3_slot_11 : decode cX3_slot 11 = .ok (.if_icmp .lt 13, 3) := by decide +kernel
theorem dX3_slot_14 : decode cX3_slot 14 = .ok (.new 108, 3) := by decide +kernel
theorem dX3_slot_17 : decode cX3_slot 17 = .ok (.dup, 1) := by decide +kernel
theorem dX3_slot_18 : decode cX3_slot 18 = .ok (.ldc 147, 2) := by decide +kernel
theorem dX3_slot_20 : decode cX3_slot 20 = .ok (.invokespecial 112, 3) := by decide +kernel
theorem dX3_slot_23 : decode cX3_slot 23 = .ok (.athrow, 1) := by decide +kernel
theorem dX3_slot_24 : decode cX3_slot 24 = .ok (.aload_n 0, 1) := by decide +kernel
theorem dX3_slot_25 : decode cX3_slot 25 = .ok (.getfield 12, 3) := by decide +kernel
theorem dX3_slot_28 : decode cX3_slot 28 = .ok (.iload_n 1, 1) := by decide +kernel
theorem dX3_slot_29 : decode cX3_slot 29 = .ok (.iload_n 2, 1) := by decide +kernel
theorem dX3_slot_30 : decode cX3_slot 30 = .ok (.invokevirtual 149, 3) := by decide +kernel
theorem dX3_slot_33 : decode cX3_slot 33 = .ok (.ireturn, 1) := by decide +kernel
theorem dX3_cable_0 : decode cX3_cable 0 = .ok (.aload_n 0, 1) := by decide +kernel
theorem dX3_cable_1 : decode cX3_cable 1 = .ok (.iload_n 1, 1) := by decide +kernel
theorem dX3_cable_2 : decode cX3_cable 2 = .ok (.invokevirtual 92, 3) := by decide +kernel
theorem dX3_cable_5 : decode cX3_cable 5 = .ok (.iload_n 2, 1) := by decide +kernel
theorem dX3_cable_6 : decode cX3_cable 6 = .ok (.iconst 0, 1) := by decide +kernel
theorem dX3_cable_7 : decode cX3_cable 7 = .ok (.iconst 3, 1) := by decide +kernel
theorem dX3_cable_8 : decode cX3_cable 8 = .ok (.invokestatic 38, 3) := by decide +kernel
theorem dX3_cable_11 : decode cX3_cable 11 = .ok (.iload_n 2, 1) := by decide +kernel
theorem dX3_cable_12 : decode cX3_cable 12 = .ok (.iconst 3, 1) := by decide +kernel
theorem dX3_cable_13 : decode cX3_cable 13 = .ok (.if_icmp .ne 14, 3) := by decide +kernel
theorem dX3_cable_16 : decode cX3_cable 16 = .ok (.aload_n 0, 1) := by decide +kernel
theorem dX3_cable_17 : decode cX3_cable 17 = .ok (.getfield 12, 3) := by decide +kernel
theorem dX3_cable_20 : decode cX3_cable 20 = .ok (.iload_n 1, 1) := by decide +kernel
theorem dX3_cable_21 : decode cX3_cable 21 = .ok (.invokevirtual 152, 3) := by decide +kernel
theorem dX3_cable_24 : decode cX3_cable 24 = .ok (.goto 15, 3) := by decide +kernel
theorem dX3_cable_27 : decode cX3_cable 27 = .ok (.aload_n 0, 1) := by decide +kernel
theorem dX3_cable_28 : decode cX3_cable 28 = .ok (.getfield 12, 3) := by decide +kernel
theorem dX3_cable_31 : decode cX3_cable 31 = .ok (.getfield 89, 3) := by decide +kernel
theorem dX3_cable_34 : decode cX3_cable 34 = .ok (.iload_n 1, 1) := by decide +kernel
theorem dX3_cable_35 : decode cX3_cable 35 = .ok (.iload_n 2, 1) := by decide +kernel
theorem dX3_cable_36 : decode cX3_cable 36 = .ok (.invokevirtual 128, 3) := by decide +kernel
theorem dX3_cable_39 : decode cX3_cable 39 = .ok (.ireturn, 1) := by decide +kernel
theorem dX3_tray_0 : decode cX3_tray 0 = .ok (.iload_n 1, 1) := by decide +kernel
theorem dX3_tray_1 : decode cX3_tray 1 = .ok (.invokestatic 49, 3) := by decide +kernel
theorem dX3_tray_4 : decode cX3_tray 4 = .ok (.aload_n 0, 1) := by decide +kernel
theorem dX3_tray_5 : decode cX3_tray 5 = .ok (.getfield 12, 3) := by decide +kernel
theorem dX3_tray_8 : decode cX3_tray 8 = .ok (.iload_n 1, 1) := by decide +kernel
theorem dX3_tray_9 : decode cX3_tray 9 = .ok (.invokevirtual 155, 3) := by decide +kernel
theorem dX3_tray_12 : decode cX3_tray 12 = .ok (.ireturn, 1) := by decide +kernel
theorem dX3_value_0 : decode cX3_value 0 = .ok (.iload_n 1, 1) := by decide +kernel
theorem dX3_value_1 : decode cX3_value 1 = .ok (.iconst 0, 1) := by decide +kernel
theorem dX3_value_2 : decode cX3_value 2 = .ok (.bipush 13, 2) := by decide +kernel
theorem dX3_value_4 : decode cX3_value 4 = .ok (.invokestatic 38, 3) := by decide +kernel
theorem dX3_value_7 : decode cX3_value 7 = .ok (.iload_n 1, 1) := by decide +kernel
theorem dX3_value_8 : decode cX3_value 8 = .ok (.tableswitch 172 0 13 #[72, 83, 91, 102, 113, 121, 172, 172, 172, 129, 137, 145, 156, 164], 72) := by decide +kernel
theorem dX3_value_80 : decode cX3_value 80 = .ok (.aload_n 0, 1) := by decide +kernel
theorem dX3_value_81 : decode cX3_value 81 = .ok (.getfield 12, 3) := by decide +kernel
theorem dX3_value_84 : decode cX3_value 84 = .ok (.getfield 58, 3) := by decide +kernel
theorem dX3_value_87 : decode cX3_value 87 = .ok (.getfield 98, 3) := by decide +kernel
theorem dX3_value_90 : decode cX3_value 90 = .ok (.ireturn, 1) := by decide +kernel
theorem dX3_value_91 : decode cX3_value 91 = .ok (.aload_n 0, 1) := by decide +kernel
theorem dX3_value_92 : decode cX3_value 92 = .ok (.getfield 12, 3) := by decide +kernel
theorem dX3_value_95 : decode cX3_value 95 = .ok (.invokevirtual 158, 3) := by decide +kernel
theorem dX3_value_98 : decode cX3_value 98 = .ok (.ireturn, 1) := by decide +kernel
theorem dX3_value_99 : decode cX3_value 99 = .ok (.aload_n 0, 1) := by decide +kernel
theorem dX3_value_100 : decode cX3_value 100 = .ok (.getfield 12, 3) := by decide +kernel
theorem dX3_value_103 : decode cX3_value 103 = .ok (.getfield 89, 3) := by decide +kernel
theorem dX3_value_106 : decode cX3_value 106 = .ok (.getfield 98, 3) := by decide +kernel
theorem dX3_value_109 : decode cX3_value 109 = .ok (.ireturn, 1) := by decide +kernel
theorem dX3_value_110 : decode cX3_value 110 = .ok (.aload_n 0, 1) := by decide +kernel
theorem dX3_value_111 : decode cX3_value 111 = .ok (.getfield 12, 3) := by decide +kernel
theorem dX3_value_114 : decode cX3_value 114 = .ok (.getfield 101, 3) := by decide +kernel
theorem dX3_value_117 : decode cX3_value 117 = .ok (.getfield 98, 3) := by decide +kernel
theorem dX3_value_120 : decode cX3_value 120 = .ok (.ireturn, 1) := by decide +kernel
theorem dX3_value_121 : decode cX3_value 121 = .ok (.aload_n 0, 1) := by decide +kernel
theorem dX3_value_122 : decode cX3_value 122 = .ok (.getfield 12, 3) := by decide +kernel
theorem dX3_value_125 : decode cX3_value 125 = .ok (.getfield 113, 3) := by decide +kernel
theorem dX3_value_128 : decode cX3_value 128 = .ok (.ireturn, 1) := by decide +kernel
theorem dX3_value_129 : decode cX3_value 129 = .ok (.aload_n 0, 1) := by decide +kernel
theorem dX3_value_130 : decode cX3_value 130 = .ok (.getfield 12, 3) := by decide +kernel
theorem dX3_value_133 : decode cX3_value 133 = .ok (.getfield 55, 3) := by decide +kernel
theorem dX3_value_136 : decode cX3_value 136 = .ok (.ireturn, 1) := by decide +kernel
theorem dX3_value_137 : decode cX3_value 137 = .ok (.aload_n 0, 1) := by decide +kernel
theorem dX3_value_138 : decode cX3_value 138 = .ok (.getfield 12, 3) := by decide +kernel
theorem dX3_value_141 : decode cX3_value 141 = .ok (.invokevirtual 161, 3) := by decide +kernel
theorem dX3_value_144 : decode cX3_value 144 = .ok (.ireturn, 1) := by decide +kernel
theorem dX3_value_145 : decode cX3_value 145 = .ok (.aload_n 0, 1) := by decide +kernel
theorem dX3_value_146 : decode cX3_value 146 = .ok (.getfield 12, 3) := by decide +kernel
theorem dX3_value_149 : decode cX3_value 149 = .ok (.invokevirtual 164, 3) := by decide +kernel
theorem dX3_value_152 : decode cX3_value 152 = .ok (.ireturn, 1) := by decide +kernel
theorem dX3_value_153 : decode cX3_value 153 = .ok (.aload_n 0, 1) := by decide +kernel
theorem dX3_value_154 : decode cX3_value 154 = .ok (.getfield 12, 3) := by decide +kernel
theorem dX3_value_157 : decode cX3_value 157 = .ok (.getfield 167, 3) := by decide +kernel
theorem dX3_value_160 : decode cX3_value 160 = .ok (.getfield 98, 3) := by decide +kernel
theorem dX3_value_163 : decode cX3_value 163 = .ok (.ireturn, 1) := by decide +kernel
theorem dX3_value_164 : decode cX3_value 164 = .ok (.aload_n 0, 1) := by decide +kernel
theorem dX3_value_165 : decode cX3_value 165 = .ok (.getfield 12, 3) := by decide +kernel
theorem dX3_value_168 : decode cX3_value 168 = .ok (.getfield 170, 3) := by decide +kernel
theorem dX3_value_171 : decode cX3_value 171 = .ok (.ireturn, 1) := by decide +kernel
theorem dX3_value_172 : decode cX3_value 172 = .ok (.aload_n 0, 1) := by decide +kernel
theorem dX3_value_173 : decode cX3_value 173 = .ok (.getfield 12, 3) := by decide +kernel
theorem dX3_value_176 : decode cX3_value 176 = .ok (.getfield 173, 3) := by decide +kernel
theorem dX3_value_179 : decode cX3_value 179 = .ok (.ireturn, 1) := by decide +kernel
theorem dX3_value_180 : decode cX3_value 180 = .ok (.aload_n 0, 1) := by decide +kernel
theorem dX3_value_181 : decode cX3_value 181 = .ok (.getfield 12, 3) := by decide +kernel
theorem dX3_value_184 : decode cX3_value 184 = .ok (.iload_n 1, 1) := by decide +kernel
theorem dX3_value_185 : decode cX3_value 185 = .ok (.bipush 6, 2) := by decide +kernel
theorem dX3_value_187 : decode cX3_value 187 = .ok (.isub, 1) := by decide +kernel
theorem dX3_value_188 : decode cX3_value 188 = .ok (.invokevirtual 176, 3) := by decide +kernel
theorem dX3_value_191 : decode cX3_value 191 = .ok (.ireturn, 1) := by decide +kernel
theorem dX3_move_0 : decode cX3_move 0 = .ok (.aload_n 0, 1) := by decide +kernel
theorem dX3_move_1 : decode cX3_move 1 = .ok (.iload_n 1, 1) := by decide +kernel
theorem dX3_move_2 : decode cX3_move 2 = .ok (.invokevirtual 79, 3) := by decide +kernel
theorem dX3_move_5 : decode cX3_move 5 = .ok (.iload_n 2, 1) := by decide +kernel
theorem dX3_move_6 : decode cX3_move 6 = .ok (.iconst (-1), 1) := by decide +kernel
theorem dX3_move_7 : decode cX3_move 7 = .ok (.iconst 5, 1) := by decide +kernel
theorem dX3_move_8 : decode cX3_move 8 = .ok (.invokestatic 38, 3) := by decide +kernel
theorem dX3_move_11 : decode cX3_move 11 = .ok (.aload_n 0, 1) := by decide +kernel
theorem dX3_move_12 : decode cX3_move 12 = .ok (.getfield 12, 3) := by decide +kernel
theorem dX3_move_15 : decode cX3_move 15 = .ok (.iload_n 1, 1) := by decide +kernel
theorem dX3_move_16 : decode cX3_move 16 = .ok (.iload_n 2, 1) := by decide +kernel
theorem dX3_move_17 : decode cX3_move 17 = .ok (.invokevirtual 179, 3) := by decide +kernel
theorem dX3_move_20 : decode cX3_move 20 = .ok (.istore_n 3, 1) := by decide +kernel
theorem dX3_move_21 : decode cX3_move 21 = .ok (.iload_n 3, 1) := by decide +kernel
theorem dX3_move_22 : decode cX3_move 22 = .ok (.ifCond .ne 16, 3) := by decide +kernel
theorem dX3_move_25 : decode cX3_move 25 = .ok (.aload_n 0, 1) := by decide +kernel
theorem dX3_move_26 : decode cX3_move 26 = .ok (.invokevirtual 42, 3) := by decide +kernel
theorem dX3_move_29 : decode cX3_move 29 = .ok (.aload_n 0, 1) := by decide +kernel
theorem dX3_move_30 : decode cX3_move 30 = .ok (.getfield 12, 3) := by decide +kernel
theorem dX3_move_33 : decode cX3_move 33 = .ok (.iload_n 1, 1) := by decide +kernel
theorem dX3_move_34 : decode cX3_move 34 = .ok (.iload_n 2, 1) := by decide +kernel
theorem dX3_move_35 : decode cX3_move 35 = .ok (.invokevirtual 182, 3) := by decide +kernel
theorem dX3_move_38 : decode cX3_move 38 = .ok (.iload_n 3, 1) := by decide +kernel
theorem dX3_move_39 : decode cX3_move 39 = .ok (.ireturn, 1) := by decide +kernel
theorem dX3_change_0 : decode cX3_change 0 = .ok (.aload_n 0, 1) := by decide +kernel
theorem dX3_change_1 : decode cX3_change 1 = .ok (.iload_n 1, 1) := by decide +kernel
theorem dX3_change_2 : decode cX3_change 2 = .ok (.invokevirtual 79, 3) := by decide +kernel
theorem dX3_change_5 : decode cX3_change 5 = .ok (.iload_n 2, 1) := by decide +kernel
theorem dX3_change_6 : decode cX3_change 6 = .ok (.iconst 0, 1) := by decide +kernel
theorem dX3_change_7 : decode cX3_change 7 = .ok (.iconst 2, 1) := by decide +kernel
theorem dX3_change_8 : decode cX3_change 8 = .ok (.invokestatic 38, 3) := by decide +kernel
theorem dX3_change_11 : decode cX3_change 11 = .ok (.aload_n 0, 1) := by decide +kernel
theorem dX3_change_12 : decode cX3_change 12 = .ok (.getfield 12, 3) := by decide +kernel
theorem dX3_change_15 : decode cX3_change 15 = .ok (.iload_n 1, 1) := by decide +kernel
theorem dX3_change_16 : decode cX3_change 16 = .ok (.iload_n 2, 1) := by decide +kernel
theorem dX3_change_17 : decode cX3_change 17 = .ok (.invokevirtual 186, 3) := by decide +kernel
theorem dX3_change_20 : decode cX3_change 20 = .ok (.istore_n 3, 1) := by decide +kernel
theorem dX3_change_21 : decode cX3_change 21 = .ok (.iload_n 3, 1) := by decide +kernel
theorem dX3_change_22 : decode cX3_change 22 = .ok (.ifCond .ne 16, 3) := by decide +kernel
theorem dX3_change_25 : decode cX3_change 25 = .ok (.aload_n 0, 1) := by decide +kernel
theorem dX3_change_26 : decode cX3_change 26 = .ok (.invokevirtual 42, 3) := by decide +kernel
theorem dX3_change_29 : decode cX3_change 29 = .ok (.aload_n 0, 1) := by decide +kernel
theorem dX3_change_30 : decode cX3_change 30 = .ok (.getfield 12, 3) := by decide +kernel
theorem dX3_change_33 : decode cX3_change 33 = .ok (.iload_n 1, 1) := by decide +kernel
theorem dX3_change_34 : decode cX3_change 34 = .ok (.iload_n 2, 1) := by decide +kernel
theorem dX3_change_35 : decode cX3_change 35 = .ok (.invokevirtual 189, 3) := by decide +kernel
theorem dX3_change_38 : decode cX3_change 38 = .ok (.iload_n 3, 1) := by decide +kernel
theorem dX3_change_39 : decode cX3_change 39 = .ok (.ireturn, 1) := by decide +kernel
theorem dX3_backOut_0 : decode cX3_backOut 0 = .ok (.aload_n 0, 1) := by decide +kernel
theorem dX3_backOut_1 : decode cX3_backOut 1 = .ok (.getfield 12, 3) := by decide +kernel
theorem dX3_backOut_4 : decode cX3_backOut 4 = .ok (.invokevirtual 192, 3) := by decide +kernel
theorem dX3_backOut_7 : decode cX3_backOut 7 = .ok (.istore_n 1, 1) := by decide +kernel
theorem dX3_backOut_8 : decode cX3_backOut 8 = .ok (.iload_n 1, 1) := by decide +kernel
theorem dX3_backOut_9 : decode cX3_backOut 9 = .ok (.ifCond .ne 14, 3) := by decide +kernel
theorem dX3_backOut_12 : decode cX3_backOut 12 = .ok (.aload_n 0, 1) := by decide +kernel
theorem dX3_backOut_13 : decode cX3_backOut 13 = .ok (.invokevirtual 42, 3) := by decide +kernel
theorem dX3_backOut_16 : decode cX3_backOut 16 = .ok (.aload_n 0, 1) := by decide +kernel
theorem dX3_backOut_17 : decode cX3_backOut 17 = .ok (.getfield 12, 3) := by decide +kernel
theorem dX3_backOut_20 : decode cX3_backOut 20 = .ok (.invokevirtual 195, 3) := by decide +kernel
theorem dX3_backOut_23 : decode cX3_backOut 23 = .ok (.iload_n 1, 1) := by decide +kernel
theorem dX3_backOut_24 : decode cX3_backOut 24 = .ok (.ireturn, 1) := by decide +kernel
theorem dX3_pile_0 : decode cX3_pile 0 = .ok (.iload_n 1, 1) := by decide +kernel
theorem dX3_pile_1 : decode cX3_pile 1 = .ok (.ifCond .ge 13, 3) := by decide +kernel
theorem dX3_pile_4 : decode cX3_pile 4 = .ok (.new 108, 3) := by decide +kernel
theorem dX3_pile_7 : decode cX3_pile 7 = .ok (.dup, 1) := by decide +kernel
theorem dX3_pile_8 : decode cX3_pile 8 = .ok (.ldc 198, 2) := by decide +kernel
theorem dX3_pile_10 : decode cX3_pile 10 = .ok (.invokespecial 112, 3) := by decide +kernel
theorem dX3_pile_13 : decode cX3_pile 13 = .ok (.athrow, 1) := by decide +kernel
theorem dX3_pile_14 : decode cX3_pile 14 = .ok (.iload_n 2, 1) := by decide +kernel
theorem dX3_pile_15 : decode cX3_pile 15 = .ok (.iconst 0, 1) := by decide +kernel
theorem dX3_pile_16 : decode cX3_pile 16 = .ok (.iconst 3, 1) := by decide +kernel
theorem dX3_pile_17 : decode cX3_pile 17 = .ok (.invokestatic 38, 3) := by decide +kernel
theorem dX3_pile_20 : decode cX3_pile 20 = .ok (.aload_n 0, 1) := by decide +kernel
theorem dX3_pile_21 : decode cX3_pile 21 = .ok (.getfield 12, 3) := by decide +kernel
theorem dX3_pile_24 : decode cX3_pile 24 = .ok (.getfield 167, 3) := by decide +kernel
theorem dX3_pile_27 : decode cX3_pile 27 = .ok (.aload_n 0, 1) := by decide +kernel
theorem dX3_pile_28 : decode cX3_pile 28 = .ok (.getfield 12, 3) := by decide +kernel
theorem dX3_pile_31 : decode cX3_pile 31 = .ok (.getfield 167, 3) := by decide +kernel
theorem dX3_pile_34 : decode cX3_pile 34 = .ok (.getfield 98, 3) := by decide +kernel
theorem dX3_pile_37 : decode cX3_pile 37 = .ok (.iconst 1, 1) := by decide +kernel
theorem dX3_pile_38 : decode cX3_pile 38 = .ok (.isub, 1) := by decide +kernel
theorem dX3_pile_39 : decode cX3_pile 39 = .ok (.iload_n 1, 1) := by decide +kernel
theorem dX3_pile_40 : decode cX3_pile 40 = .ok (.isub, 1) := by decide +kernel
theorem dX3_pile_41 : decode cX3_pile 41 = .ok (.iload_n 2, 1) := by decide +kernel
theorem dX3_pile_42 : decode cX3_pile 42 = .ok (.invokevirtual 128, 3) := by decide +kernel
theorem dX3_pile_45 : decode cX3_pile 45 = .ok (.ireturn, 1) := by decide +kernel
theorem dX3_mayMove_0 : decode cX3_mayMove 0 = .ok (.aload_n 0, 1) := by decide +kernel
theorem dX3_mayMove_1 : decode cX3_mayMove 1 = .ok (.iload_n 1, 1) := by decide +kernel
theorem dX3_mayMove_2 : decode cX3_mayMove 2 = .ok (.invokevirtual 79, 3) := by decide +kernel
theorem dX3_mayMove_5 : decode cX3_mayMove 5 = .ok (.iload_n 2, 1) := by decide +kernel
theorem dX3_mayMove_6 : decode cX3_mayMove 6 = .ok (.iconst (-1), 1) := by decide +kernel
theorem dX3_mayMove_7 : decode cX3_mayMove 7 = .ok (.iconst 5, 1) := by decide +kernel
theorem dX3_mayMove_8 : decode cX3_mayMove 8 = .ok (.invokestatic 38, 3) := by decide +kernel
theorem dX3_mayMove_11 : decode cX3_mayMove 11 = .ok (.aload_n 0, 1) := by decide +kernel
theorem dX3_mayMove_12 : decode cX3_mayMove 12 = .ok (.getfield 12, 3) := by decide +kernel
theorem dX3_mayMove_15 : decode cX3_mayMove 15 = .ok (.iload_n 1, 1) := by decide +kernel
theorem dX3_mayMove_16 : decode cX3_mayMove 16 = .ok (.iload_n 2, 1) := by decide +kernel
theorem dX3_mayMove_17 : decode cX3_mayMove 17 = .ok (.invokevirtual 179, 3) := by decide +kernel
theorem dX3_mayMove_20 : decode cX3_mayMove 20 = .ok (.ireturn, 1) := by decide +kernel
theorem dX3_bestRack_0 : decode cX3_bestRack 0 = .ok (.aload_n 0, 1) := by decide +kernel
theorem dX3_bestRack_1 : decode cX3_bestRack 1 = .ok (.iload_n 1, 1) := by decide +kernel
theorem dX3_bestRack_2 : decode cX3_bestRack 2 = .ok (.invokevirtual 79, 3) := by decide +kernel
theorem dX3_bestRack_5 : decode cX3_bestRack 5 = .ok (.iconst (-1), 1) := by decide +kernel
theorem dX3_bestRack_6 : decode cX3_bestRack 6 = .ok (.istore_n 2, 1) := by decide +kernel
theorem dX3_bestRack_7 : decode cX3_bestRack 7 = .ok (.iconst 0, 1) := by decide +kernel
theorem dX3_bestRack_8 : decode cX3_bestRack 8 = .ok (.istore_n 3, 1) := by decide +kernel
theorem dX3_bestRack_9 : decode cX3_bestRack 9 = .ok (.iconst 0, 1) := by decide +kernel
theorem dX3_bestRack_10 : decode cX3_bestRack 10 = .ok (.istore 4, 2) := by decide +kernel
theorem dX3_bestRack_12 : decode cX3_bestRack 12 = .ok (.iload 4, 2) := by decide +kernel
theorem dX3_bestRack_14 : decode cX3_bestRack 14 = .ok (.bipush 6, 2) := by decide +kernel
theorem dX3_bestRack_16 : decode cX3_bestRack 16 = .ok (.if_icmp .ge 51, 3) := by decide +kernel
theorem dX3_bestRack_19 : decode cX3_bestRack 19 = .ok (.aload_n 0, 1) := by decide +kernel
theorem dX3_bestRack_20 : decode cX3_bestRack 20 = .ok (.getfield 12, 3) := by decide +kernel
theorem dX3_bestRack_23 : decode cX3_bestRack 23 = .ok (.iload_n 1, 1) := by decide +kernel
theorem dX3_bestRack_24 : decode cX3_bestRack 24 = .ok (.iload 4, 2) := by decide +kernel
theorem dX3_bestRack_26 : decode cX3_bestRack 26 = .ok (.invokevirtual 179, 3) := by decide +kernel
theorem dX3_bestRack_29 : decode cX3_bestRack 29 = .ok (.ifCond .ne 32, 3) := by decide +kernel
theorem dX3_bestRack_32 : decode cX3_bestRack 32 = .ok (.aload_n 0, 1) := by decide +kernel
theorem dX3_bestRack_33 : decode cX3_bestRack 33 = .ok (.getfield 12, 3) := by decide +kernel
theorem dX3_bestRack_36 : decode cX3_bestRack 36 = .ok (.iload_n 1, 1) := by decide +kernel
theorem dX3_bestRack_37 : decode cX3_bestRack 37 = .ok (.iload 4, 2) := by decide +kernel
theorem dX3_bestRack_39 : decode cX3_bestRack 39 = .ok (.invokevirtual 200, 3) := by decide +kernel
theorem dX3_bestRack_42 : decode cX3_bestRack 42 = .ok (.istore 5, 2) := by decide +kernel
theorem dX3_bestRack_44 : decode cX3_bestRack 44 = .ok (.iload_n 2, 1) := by decide +kernel
theorem dX3_bestRack_45 : decode cX3_bestRack 45 = .ok (.iconst (-1), 1) := by decide +kernel
theorem dX3_bestRack_46 : decode cX3_bestRack 46 = .ok (.if_icmp .eq 9, 3) := by decide +kernel
theorem dX3_bestRack_49 : decode cX3_bestRack 49 = .ok (.iload 5, 2) := by decide +kernel
theorem dX3_bestRack_51 : decode cX3_bestRack 51 = .ok (.iload_n 3, 1) := by decide +kernel
theorem dX3_bestRack_52 : decode cX3_bestRack 52 = .ok (.if_icmp .ge 9, 3) := by decide +kernel
theorem dX3_bestRack_55 : decode cX3_bestRack 55 = .ok (.iload 4, 2) := by decide +kernel
theorem dX3_bestRack_57 : decode cX3_bestRack 57 = .ok (.istore_n 2, 1) := by decide +kernel
theorem dX3_bestRack_58 : decode cX3_bestRack 58 = .ok (.iload 5, 2) := by decide +kernel
theorem dX3_bestRack_60 : decode cX3_bestRack 60 = .ok (.istore_n 3, 1) := by decide +kernel
theorem dX3_bestRack_61 : decode cX3_bestRack 61 = .ok (.iinc 4 1, 3) := by decide +kernel
theorem dX3_bestRack_64 : decode cX3_bestRack 64 = .ok (.goto (-52), 3) := by decide +kernel
theorem dX3_bestRack_67 : decode cX3_bestRack 67 = .ok (.iload_n 2, 1) := by decide +kernel
theorem dX3_bestRack_68 : decode cX3_bestRack 68 = .ok (.ireturn, 1) := by decide +kernel
theorem dX3_bestChange_0 : decode cX3_bestChange 0 = .ok (.iconst (-1), 1) := by decide +kernel
theorem dX3_bestChange_1 : decode cX3_bestChange 1 = .ok (.istore_n 1, 1) := by decide +kernel
theorem dX3_bestChange_2 : decode cX3_bestChange 2 = .ok (.aload_n 0, 1) := by decide +kernel
theorem dX3_bestChange_3 : decode cX3_bestChange 3 = .ok (.getfield 12, 3) := by decide +kernel
theorem dX3_bestChange_6 : decode cX3_bestChange 6 = .ok (.invokevirtual 161, 3) := by decide +kernel
theorem dX3_bestChange_9 : decode cX3_bestChange 9 = .ok (.istore_n 2, 1) := by decide +kernel
theorem dX3_bestChange_10 : decode cX3_bestChange 10 = .ok (.iconst 0, 1) := by decide +kernel
theorem dX3_bestChange_11 : decode cX3_bestChange 11 = .ok (.istore_n 3, 1) := by decide +kernel
theorem dX3_bestChange_12 : decode cX3_bestChange 12 = .ok (.iload_n 3, 1) := by decide +kernel
theorem dX3_bestChange_13 : decode cX3_bestChange 13 = .ok (.aload_n 0, 1) := by decide +kernel
theorem dX3_bestChange_14 : decode cX3_bestChange 14 = .ok (.getfield 12, 3) := by decide +kernel
theorem dX3_bestChange_17 : decode cX3_bestChange 17 = .ok (.getfield 58, 3) := by decide +kernel
theorem dX3_bestChange_20 : decode cX3_bestChange 20 = .ok (.getfield 98, 3) := by decide +kernel
theorem dX3_bestChange_23 : decode cX3_bestChange 23 = .ok (.if_icmp .ge 65, 3) := by decide +kernel
theorem dX3_bestChange_26 : decode cX3_bestChange 26 = .ok (.iconst 0, 1) := by decide +kernel
theorem dX3_bestChange_27 : decode cX3_bestChange 27 = .ok (.istore 4, 2) := by decide +kernel
theorem dX3_bestChange_29 : decode cX3_bestChange 29 = .ok (.iload 4, 2) := by decide +kernel
theorem dX3_bestChange_31 : decode cX3_bestChange 31 = .ok (.iconst 3, 1) := by decide +kernel
theorem dX3_bestChange_32 : decode cX3_bestChange 32 = .ok (.if_icmp .ge 50, 3) := by decide +kernel
theorem dX3_bestChange_35 : decode cX3_bestChange 35 = .ok (.aload_n 0, 1) := by decide +kernel
theorem dX3_bestChange_36 : decode cX3_bestChange 36 = .ok (.getfield 12, 3) := by decide +kernel
theorem dX3_bestChange_39 : decode cX3_bestChange 39 = .ok (.iload_n 3, 1) := by decide +kernel
theorem dX3_bestChange_40 : decode cX3_bestChange 40 = .ok (.iload 4, 2) := by decide +kernel
theorem dX3_bestChange_42 : decode cX3_bestChange 42 = .ok (.invokevirtual 203, 3) := by decide +kernel
theorem dX3_bestChange_45 : decode cX3_bestChange 45 = .ok (.istore 5, 2) := by decide +kernel
theorem dX3_bestChange_47 : decode cX3_bestChange 47 = .ok (.iload 5, 2) := by decide +kernel
theorem dX3_bestChange_49 : decode cX3_bestChange 49 = .ok (.iload_n 2, 1) := by decide +kernel
theorem dX3_bestChange_50 : decode cX3_bestChange 50 = .ok (.if_icmp .ge 26, 3) := by decide +kernel
theorem dX3_bestChange_53 : decode cX3_bestChange 53 = .ok (.aload_n 0, 1) := by decide +kernel
theorem dX3_bestChange_54 : decode cX3_bestChange 54 = .ok (.getfield 12, 3) := by decide +kernel
theorem dX3_bestChange_57 : decode cX3_bestChange 57 = .ok (.iload_n 3, 1) := by decide +kernel
theorem dX3_bestChange_58 : decode cX3_bestChange 58 = .ok (.iload 4, 2) := by decide +kernel
theorem dX3_bestChange_60 : decode cX3_bestChange 60 = .ok (.invokevirtual 186, 3) := by decide +kernel
theorem dX3_bestChange_63 : decode cX3_bestChange 63 = .ok (.ifCond .ne 13, 3) := by decide +kernel
theorem dX3_bestChange_66 : decode cX3_bestChange 66 = .ok (.iconst 3, 1) := by decide +kernel
theorem dX3_bestChange_67 : decode cX3_bestChange 67 = .ok (.iload_n 3, 1) := by decide +kernel
theorem dX3_bestChange_68 : decode cX3_bestChange 68 = .ok (.imul, 1) := by decide +kernel
theorem dX3_bestChange_69 : decode cX3_bestChange 69 = .ok (.iload 4, 2) := by decide +kernel
theorem dX3_bestChange_71 : decode cX3_bestChange 71 = .ok (.iadd, 1) := by decide +kernel
theorem dX3_bestChange_72 : decode cX3_bestChange 72 = .ok (.istore_n 1, 1) := by decide +kernel
theorem dX3_bestChange_73 : decode cX3_bestChange 73 = .ok (.iload 5, 2) := by decide +kernel
theorem dX3_bestChange_75 : decode cX3_bestChange 75 = .ok (.istore_n 2, 1) := by decide +kernel
theorem dX3_bestChange_76 : decode cX3_bestChange 76 = .ok (.iinc 4 1, 3) := by decide +kernel
theorem dX3_bestChange_79 : decode cX3_bestChange 79 = .ok (.goto (-50), 3) := by decide +kernel
theorem dX3_bestChange_82 : decode cX3_bestChange 82 = .ok (.iinc 3 1, 3) := by decide +kernel
theorem dX3_bestChange_85 : decode cX3_bestChange 85 = .ok (.goto (-73), 3) := by decide +kernel
theorem dX3_bestChange_88 : decode cX3_bestChange 88 = .ok (.iload_n 1, 1) := by decide +kernel
theorem dX3_bestChange_89 : decode cX3_bestChange 89 = .ok (.ireturn, 1) := by decide +kernel
theorem dX3_backable_0 : decode cX3_backable 0 = .ok (.aload_n 0, 1) := by decide +kernel
theorem dX3_backable_1 : decode cX3_backable 1 = .ok (.getfield 16, 3) := by decide +kernel
theorem dX3_backable_4 : decode cX3_backable 4 = .ok (.aload_n 0, 1) := by decide +kernel
theorem dX3_backable_5 : decode cX3_backable 5 = .ok (.getfield 12, 3) := by decide +kernel
theorem dX3_backable_8 : decode cX3_backable 8 = .ok (.invokevirtual 206, 3) := by decide +kernel
theorem dX3_backable_11 : decode cX3_backable 11 = .ok (.iconst 0, 1) := by decide +kernel
theorem dX3_backable_12 : decode cX3_backable 12 = .ok (.istore_n 1, 1) := by decide +kernel
theorem dX3_backable_13 : decode cX3_backable 13 = .ok (.iload_n 1, 1) := by decide +kernel
theorem dX3_backable_14 : decode cX3_backable 14 = .ok (.bipush 20, 2) := by decide +kernel
theorem dX3_backable_16 : decode cX3_backable 16 = .ok (.if_icmp .ge 26, 3) := by decide +kernel
theorem dX3_backable_19 : decode cX3_backable 19 = .ok (.aload_n 0, 1) := by decide +kernel
theorem dX3_backable_20 : decode cX3_backable 20 = .ok (.getfield 16, 3) := by decide +kernel
theorem dX3_backable_23 : decode cX3_backable 23 = .ok (.invokevirtual 192, 3) := by decide +kernel
theorem dX3_backable_26 : decode cX3_backable 26 = .ok (.ifCond .ne 16, 3) := by decide +kernel
theorem dX3_backable_29 : decode cX3_backable 29 = .ok (.aload_n 0, 1) := by decide +kernel
theorem dX3_backable_30 : decode cX3_backable 30 = .ok (.getfield 16, 3) := by decide +kernel
theorem dX3_backable_33 : decode cX3_backable 33 = .ok (.invokevirtual 195, 3) := by decide +kernel
theorem dX3_backable_36 : decode cX3_backable 36 = .ok (.iinc 1 1, 3) := by decide +kernel
theorem dX3_backable_39 : decode cX3_backable 39 = .ok (.goto (-26), 3) := by decide +kernel
theorem dX3_backable_42 : decode cX3_backable 42 = .ok (.iload_n 1, 1) := by decide +kernel
theorem dX3_backable_43 : decode cX3_backable 43 = .ok (.ireturn, 1) := by decide +kernel
theorem dX3_taken_0 : decode cX3_taken 0 = .ok (.iconst 0, 1) := by decide +kernel
theorem dX3_taken_1 : decode cX3_taken 1 = .ok (.istore_n 1, 1) := by decide +kernel
theorem dX3_taken_2 : decode cX3_taken 2 = .ok (.iconst 0, 1) := by decide +kernel
theorem dX3_taken_3 : decode cX3_taken 3 = .ok (.istore_n 2, 1) := by decide +kernel
theorem dX3_taken_4 : decode cX3_taken 4 = .ok (.iload_n 2, 1) := by decide +kernel
theorem dX3_taken_5 : decode cX3_taken 5 = .ok (.bipush 6, 2) := by decide +kernel
theorem dX3_taken_7 : decode cX3_taken 7 = .ok (.if_icmp .ge 20, 3) := by decide +kernel
theorem dX3_taken_10 : decode cX3_taken 10 = .ok (.iload_n 1, 1) := by decide +kernel
theorem dX3_taken_11 : decode cX3_taken 11 = .ok (.aload_n 0, 1) := by decide +kernel
theorem dX3_taken_12 : decode cX3_taken 12 = .ok (.getfield 12, 3) := by decide +kernel
theorem dX3_taken_15 : decode cX3_taken 15 = .ok (.iload_n 2, 1) := by decide +kernel
theorem dX3_taken_16 : decode cX3_taken 16 = .ok (.invokevirtual 138, 3) := by decide +kernel
theorem dX3_taken_19 : decode cX3_taken 19 = .ok (.iadd, 1) := by decide +kernel
theorem dX3_taken_20 : decode cX3_taken 20 = .ok (.istore_n 1, 1) := by decide +kernel
theorem dX3_taken_21 : decode cX3_taken 21 = .ok (.iinc 2 1, 3) := by decide +kernel
theorem dX3_taken_24 : decode cX3_taken 24 = .ok (.goto (-20), 3) := by decide +kernel
theorem dX3_taken_27 : decode cX3_taken 27 = .ok (.iload_n 1, 1) := by decide +kernel
theorem dX3_taken_28 : decode cX3_taken 28 = .ok (.i2d, 1) := by decide +kernel
theorem dX3_taken_29 : decode cX3_taken 29 = .ok (.ldc2_w 210, 3) := by decide +kernel
theorem dX3_taken_32 : decode cX3_taken 32 = .ok (.ddiv, 1) := by decide +kernel
theorem dX3_taken_33 : decode cX3_taken 33 = .ok (.dreturn, 1) := by decide +kernel
theorem dX3_append_0 : decode cX3_append 0 = .ok (.iload_n 1, 1) := by decide +kernel
theorem dX3_append_1 : decode cX3_append 1 = .ok (.iconst 0, 1) := by decide +kernel
theorem dX3_append_2 : decode cX3_append 2 = .ok (.bipush 127, 2) := by decide +kernel
theorem dX3_append_4 : decode cX3_append 4 = .ok (.invokestatic 38, 3) := by decide +kernel
theorem dX3_append_7 : decode cX3_append 7 = .ok (.aload_n 0, 1) := by decide +kernel
theorem dX3_append_8 : decode cX3_append 8 = .ok (.getfield 30, 3) := by decide +kernel
theorem dX3_append_11 : decode cX3_append 11 = .ok (.getfield 212, 3) := by decide +kernel
theorem dX3_append_14 : decode cX3_append 14 = .ok (.bipush 90, 2) := by decide +kernel
theorem dX3_append_16 : decode cX3_append 16 = .ok (.if_icmp .lt 13, 3) := by decide +kernel
theorem dX3_append_19 : decode cX3_append 19 = .ok (.new 116, 3) := by decide +kernel
theorem dX3_append_22 : decode cX3_append 22 = .ok (.dup, 1) := by decide +kernel
theorem dX3_append_23 : decode cX3_append 23 = .ok (.ldc 215, 2) := by decide +kernel
theorem dX3_append_25 : decode cX3_append 25 = .ok (.invokespecial 120, 3) := by decide +kernel
theorem dX3_append_28 : decode cX3_append 28 = .ok (.athrow, 1) := by decide +kernel
theorem dX3_append_29 : decode cX3_append 29 = .ok (.aload_n 0, 1) := by decide +kernel
theorem dX3_append_30 : decode cX3_append 30 = .ok (.getfield 30, 3) := by decide +kernel
theorem dX3_append_33 : decode cX3_append 33 = .ok (.getfield 217, 3) := by decide +kernel
theorem dX3_append_36 : decode cX3_append 36 = .ok (.aload_n 0, 1) := by decide +kernel
theorem dX3_append_37 : decode cX3_append 37 = .ok (.getfield 30, 3) := by decide +kernel
theorem dX3_append_40 : decode cX3_append 40 = .ok (.getfield 212, 3) := by decide +kernel
theorem dX3_append_43 : decode cX3_append 43 = .ok (.iload_n 1, 1) := by decide +kernel
theorem dX3_append_44 : decode cX3_append 44 = .ok (.iastore, 1) := by decide +kernel
theorem dX3_append_45 : decode cX3_append 45 = .ok (.aload_n 0, 1) := by decide +kernel
theorem dX3_append_46 : decode cX3_append 46 = .ok (.getfield 30, 3) := by decide +kernel
theorem dX3_append_49 : decode cX3_append 49 = .ok (.dup, 1) := by decide +kernel
theorem dX3_append_50 : decode cX3_append 50 = .ok (.getfield 212, 3) := by decide +kernel
theorem dX3_append_53 : decode cX3_append 53 = .ok (.iconst 1, 1) := by decide +kernel
theorem dX3_append_54 : decode cX3_append 54 = .ok (.iadd, 1) := by decide +kernel
theorem dX3_append_55 : decode cX3_append 55 = .ok (.putfield 212, 3) := by decide +kernel
theorem dX3_append_58 : decode cX3_append 58 = .ok (.aload_n 0, 1) := by decide +kernel
theorem dX3_append_59 : decode cX3_append 59 = .ok (.getfield 30, 3) := by decide +kernel
theorem dX3_append_62 : decode cX3_append 62 = .ok (.getfield 212, 3) := by decide +kernel
theorem dX3_append_65 : decode cX3_append 65 = .ok (.ireturn, 1) := by decide +kernel
theorem dX3_clearText_0 : decode cX3_clearText 0 = .ok (.aload_n 0, 1) := by decide +kernel
theorem dX3_clearText_1 : decode cX3_clearText 1 = .ok (.getfield 30, 3) := by decide +kernel
theorem dX3_clearText_4 : decode cX3_clearText 4 = .ok (.getfield 212, 3) := by decide +kernel
theorem dX3_clearText_7 : decode cX3_clearText 7 = .ok (.istore_n 1, 1) := by decide +kernel
theorem dX3_clearText_8 : decode cX3_clearText 8 = .ok (.aload_n 0, 1) := by decide +kernel
theorem dX3_clearText_9 : decode cX3_clearText 9 = .ok (.getfield 30, 3) := by decide +kernel
theorem dX3_clearText_12 : decode cX3_clearText 12 = .ok (.iconst 0, 1) := by decide +kernel
theorem dX3_clearText_13 : decode cX3_clearText 13 = .ok (.putfield 212, 3) := by decide +kernel
theorem dX3_clearText_16 : decode cX3_clearText 16 = .ok (.iload_n 1, 1) := by decide +kernel
theorem dX3_clearText_17 : decode cX3_clearText 17 = .ok (.ireturn, 1) := by decide +kernel
theorem dX3_plan_0 : decode cX3_plan 0 = .ok (.aload_n 0, 1) := by decide +kernel
theorem dX3_plan_1 : decode cX3_plan 1 = .ok (.getfield 30, 3) := by decide +kernel
theorem dX3_plan_4 : decode cX3_plan 4 = .ok (.aload_n 0, 1) := by decide +kernel
theorem dX3_plan_5 : decode cX3_plan 5 = .ok (.getfield 12, 3) := by decide +kernel
theorem dX3_plan_8 : decode cX3_plan 8 = .ok (.getfield 58, 3) := by decide +kernel
theorem dX3_plan_11 : decode cX3_plan 11 = .ok (.getfield 98, 3) := by decide +kernel
theorem dX3_plan_14 : decode cX3_plan 14 = .ok (.invokevirtual 220, 3) := by decide +kernel
theorem dX3_plan_17 : decode cX3_plan 17 = .ok (.istore_n 1, 1) := by decide +kernel
theorem dX3_plan_18 : decode cX3_plan 18 = .ok (.iload_n 1, 1) := by decide +kernel
theorem dX3_plan_19 : decode cX3_plan 19 = .ok (.iconst (-1), 1) := by decide +kernel
theorem dX3_plan_20 : decode cX3_plan 20 = .ok (.if_icmp .eq 8, 3) := by decide +kernel
theorem dX3_plan_23 : decode cX3_plan 23 = .ok (.bipush (-10), 2) := by decide +kernel
theorem dX3_plan_25 : decode cX3_plan 25 = .ok (.iload_n 1, 1) := by decide +kernel
theorem dX3_plan_26 : decode cX3_plan 26 = .ok (.isub, 1) := by decide +kernel
theorem dX3_plan_27 : decode cX3_plan 27 = .ok (.ireturn, 1) := by decide +kernel
theorem dX3_plan_28 : decode cX3_plan 28 = .ok (.aload_n 0, 1) := by decide +kernel
theorem dX3_plan_29 : decode cX3_plan 29 = .ok (.getfield 16, 3) := by decide +kernel
theorem dX3_plan_32 : decode cX3_plan 32 = .ok (.aload_n 0, 1) := by decide +kernel
theorem dX3_plan_33 : decode cX3_plan 33 = .ok (.getfield 12, 3) := by decide +kernel
theorem dX3_plan_36 : decode cX3_plan 36 = .ok (.invokevirtual 206, 3) := by decide +kernel
theorem dX3_plan_39 : decode cX3_plan 39 = .ok (.aload_n 0, 1) := by decide +kernel
theorem dX3_plan_40 : decode cX3_plan 40 = .ok (.getfield 30, 3) := by decide +kernel
theorem dX3_plan_43 : decode cX3_plan 43 = .ok (.aload_n 0, 1) := by decide +kernel
theorem dX3_plan_44 : decode cX3_plan 44 = .ok (.getfield 16, 3) := by decide +kernel
theorem dX3_plan_47 : decode cX3_plan 47 = .ok (.invokevirtual 223, 3) := by decide +kernel
theorem dX3_plan_50 : decode cX3_plan 50 = .ok (.istore_n 2, 1) := by decide +kernel
theorem dX3_plan_51 : decode cX3_plan 51 = .ok (.iload_n 2, 1) := by decide +kernel
theorem dX3_plan_52 : decode cX3_plan 52 = .ok (.ifCond .lt 25, 3) := by decide +kernel
theorem dX3_plan_55 : decode cX3_plan 55 = .ok (.aload_n 0, 1) := by decide +kernel
theorem dX3_plan_56 : decode cX3_plan 56 = .ok (.invokevirtual 42, 3) := by decide +kernel
theorem dX3_plan_59 : decode cX3_plan 59 = .ok (.aload_n 0, 1) := by decide +kernel
theorem dX3_plan_60 : decode cX3_plan 60 = .ok (.getfield 12, 3) := by decide +kernel
theorem dX3_plan_63 : decode cX3_plan 63 = .ok (.astore_n 3, 1) := by decide +kernel
theorem dX3_plan_64 : decode cX3_plan 64 = .ok (.aload_n 0, 1) := by decide +kernel
theorem dX3_plan_65 : decode cX3_plan 65 = .ok (.aload_n 0, 1) := by decide +kernel
theorem dX3_plan_66 : decode cX3_plan 66 = .ok (.getfield 16, 3) := by decide +kernel
theorem dX3_plan_69 : decode cX3_plan 69 = .ok (.putfield 12, 3) := by decide +kernel
theorem dX3_plan_72 : decode cX3_plan 72 = .ok (.aload_n 0, 1) := by decide +kernel
theorem dX3_plan_73 : decode cX3_plan 73 = .ok (.aload_n 3, 1) := by decide +kernel
theorem dX3_plan_74 : decode cX3_plan 74 = .ok (.putfield 16, 3) := by decide +kernel
theorem dX3_plan_77 : decode cX3_plan 77 = .ok (.iload_n 2, 1) := by decide +kernel
theorem dX3_plan_78 : decode cX3_plan 78 = .ok (.ireturn, 1) := by decide +kernel
theorem dX3_undo_0 : decode cX3_undo 0 = .ok (.aload_n 0, 1) := by decide +kernel
theorem dX3_undo_1 : decode cX3_undo 1 = .ok (.getfield 23, 3) := by decide +kernel
theorem dX3_undo_4 : decode cX3_undo 4 = .ok (.ifCond .gt 13, 3) := by decide +kernel
theorem dX3_undo_7 : decode cX3_undo 7 = .ok (.new 116, 3) := by decide +kernel
theorem dX3_undo_10 : decode cX3_undo 10 = .ok (.dup, 1) := by decide +kernel
theorem dX3_undo_11 : decode cX3_undo 11 = .ok (.ldc 227, 2) := by decide +kernel
theorem dX3_undo_13 : decode cX3_undo 13 = .ok (.invokespecial 120, 3) := by decide +kernel
theorem dX3_undo_16 : decode cX3_undo 16 = .ok (.athrow, 1) := by decide +kernel
theorem dX3_undo_17 : decode cX3_undo 17 = .ok (.aload_n 0, 1) := by decide +kernel
theorem dX3_undo_18 : decode cX3_undo 18 = .ok (.dup, 1) := by decide +kernel
theorem dX3_undo_19 : decode cX3_undo 19 = .ok (.getfield 23, 3) := by decide +kernel
theorem dX3_undo_22 : decode cX3_undo 22 = .ok (.iconst 1, 1) := by decide +kernel
theorem dX3_undo_23 : decode cX3_undo 23 = .ok (.isub, 1) := by decide +kernel
theorem dX3_undo_24 : decode cX3_undo 24 = .ok (.putfield 23, 3) := by decide +kernel
theorem dX3_undo_27 : decode cX3_undo 27 = .ok (.aload_n 0, 1) := by decide +kernel
theorem dX3_undo_28 : decode cX3_undo 28 = .ok (.getfield 12, 3) := by decide +kernel
theorem dX3_undo_31 : decode cX3_undo 31 = .ok (.astore_n 1, 1) := by decide +kernel
theorem dX3_undo_32 : decode cX3_undo 32 = .ok (.aload_n 0, 1) := by decide +kernel
theorem dX3_undo_33 : decode cX3_undo 33 = .ok (.aload_n 0, 1) := by decide +kernel
theorem dX3_undo_34 : decode cX3_undo 34 = .ok (.getfield 19, 3) := by decide +kernel
theorem dX3_undo_37 : decode cX3_undo 37 = .ok (.aload_n 0, 1) := by decide +kernel
theorem dX3_undo_38 : decode cX3_undo 38 = .ok (.getfield 23, 3) := by decide +kernel
theorem dX3_undo_41 : decode cX3_undo 41 = .ok (.aaload, 1) := by decide +kernel
theorem dX3_undo_42 : decode cX3_undo 42 = .ok (.putfield 12, 3) := by decide +kernel
theorem dX3_undo_45 : decode cX3_undo 45 = .ok (.aload_n 0, 1) := by decide +kernel
theorem dX3_undo_46 : decode cX3_undo 46 = .ok (.getfield 19, 3) := by decide +kernel
theorem dX3_undo_49 : decode cX3_undo 49 = .ok (.aload_n 0, 1) := by decide +kernel
theorem dX3_undo_50 : decode cX3_undo 50 = .ok (.getfield 23, 3) := by decide +kernel
theorem dX3_undo_53 : decode cX3_undo 53 = .ok (.aload_n 1, 1) := by decide +kernel
theorem dX3_undo_54 : decode cX3_undo 54 = .ok (.aastore, 1) := by decide +kernel
theorem dX3_undo_55 : decode cX3_undo 55 = .ok (.aload_n 0, 1) := by decide +kernel
theorem dX3_undo_56 : decode cX3_undo 56 = .ok (.getfield 23, 3) := by decide +kernel
theorem dX3_undo_59 : decode cX3_undo 59 = .ok (.ireturn, 1) := by decide +kernel
theorem dX3_digest_0 : decode cX3_digest 0 = .ok (.ldc2_w 229, 3) := by decide +kernel
theorem dX3_digest_3 : decode cX3_digest 3 = .ok (.aload_n 0, 1) := by decide +kernel
theorem dX3_digest_4 : decode cX3_digest 4 = .ok (.getfield 30, 3) := by decide +kernel
theorem dX3_digest_7 : decode cX3_digest 7 = .ok (.getfield 212, 3) := by decide +kernel
theorem dX3_digest_10 : decode cX3_digest 10 = .ok (.invokestatic 231, 3) := by decide +kernel
theorem dX3_digest_13 : decode cX3_digest 13 = .ok (.lstore_n 1, 1) := by decide +kernel
theorem dX3_digest_14 : decode cX3_digest 14 = .ok (.iconst 0, 1) := by decide +kernel
theorem dX3_digest_15 : decode cX3_digest 15 = .ok (.istore_n 3, 1) := by decide +kernel
theorem dX3_digest_16 : decode cX3_digest 16 = .ok (.iload_n 3, 1) := by decide +kernel
theorem dX3_digest_17 : decode cX3_digest 17 = .ok (.bipush 13, 2) := by decide +kernel
theorem dX3_digest_19 : decode cX3_digest 19 = .ok (.if_icmp .gt 19, 3) := by decide +kernel
theorem dX3_digest_22 : decode cX3_digest 22 = .ok (.lload_n 1, 1) := by decide +kernel
theorem dX3_digest_23 : decode cX3_digest 23 = .ok (.aload_n 0, 1) := by decide +kernel
theorem dX3_digest_24 : decode cX3_digest 24 = .ok (.iload_n 3, 1) := by decide +kernel
theorem dX3_digest_25 : decode cX3_digest 25 = .ok (.invokevirtual 235, 3) := by decide +kernel
theorem dX3_digest_28 : decode cX3_digest 28 = .ok (.invokestatic 231, 3) := by decide +kernel
theorem dX3_digest_31 : decode cX3_digest 31 = .ok (.lstore_n 1, 1) := by decide +kernel
theorem dX3_digest_32 : decode cX3_digest 32 = .ok (.iinc 3 1, 3) := by decide +kernel
theorem dX3_digest_35 : decode cX3_digest 35 = .ok (.goto (-19), 3) := by decide +kernel
theorem dX3_digest_38 : decode cX3_digest 38 = .ok (.iconst 0, 1) := by decide +kernel
theorem dX3_digest_39 : decode cX3_digest 39 = .ok (.istore_n 3, 1) := by decide +kernel
theorem dX3_digest_40 : decode cX3_digest 40 = .ok (.iload_n 3, 1) := by decide +kernel
theorem dX3_digest_41 : decode cX3_digest 41 = .ok (.bipush 6, 2) := by decide +kernel
theorem dX3_digest_43 : decode cX3_digest 43 = .ok (.if_icmp .ge 16, 3) := by decide +kernel
theorem dX3_digest_46 : decode cX3_digest 46 = .ok (.aload_n 0, 1) := by decide +kernel
theorem dX3_digest_47 : decode cX3_digest 47 = .ok (.lload_n 1, 1) := by decide +kernel
theorem dX3_digest_48 : decode cX3_digest 48 = .ok (.iload_n 3, 1) := by decide +kernel
theorem dX3_digest_49 : decode cX3_digest 49 = .ok (.invokevirtual 238, 3) := by decide +kernel
theorem dX3_digest_52 : decode cX3_digest 52 = .ok (.lstore_n 1, 1) := by decide +kernel
theorem dX3_digest_53 : decode cX3_digest 53 = .ok (.iinc 3 1, 3) := by decide +kernel
theorem dX3_digest_56 : decode cX3_digest 56 = .ok (.goto (-16), 3) := by decide +kernel
theorem dX3_digest_59 : decode cX3_digest 59 = .ok (.iconst 0, 1) := by decide +kernel
theorem dX3_digest_60 : decode cX3_digest 60 = .ok (.istore_n 3, 1) := by decide +kernel
theorem dX3_digest_61 : decode cX3_digest 61 = .ok (.iload_n 3, 1) := by decide +kernel
theorem dX3_digest_62 : decode cX3_digest 62 = .ok (.iconst 5, 1) := by decide +kernel
theorem dX3_digest_63 : decode cX3_digest 63 = .ok (.if_icmp .ge 19, 3) := by decide +kernel
theorem dX3_digest_66 : decode cX3_digest 66 = .ok (.lload_n 1, 1) := by decide +kernel
theorem dX3_digest_67 : decode cX3_digest 67 = .ok (.aload_n 0, 1) := by decide +kernel
theorem dX3_digest_68 : decode cX3_digest 68 = .ok (.iload_n 3, 1) := by decide +kernel
theorem dX3_digest_69 : decode cX3_digest 69 = .ok (.invokevirtual 241, 3) := by decide +kernel
theorem dX3_digest_72 : decode cX3_digest 72 = .ok (.invokestatic 231, 3) := by decide +kernel
theorem dX3_digest_75 : decode cX3_digest 75 = .ok (.lstore_n 1, 1) := by decide +kernel
theorem dX3_digest_76 : decode cX3_digest 76 = .ok (.iinc 3 1, 3) := by decide +kernel
theorem dX3_digest_79 : decode cX3_digest 79 = .ok (.goto (-18), 3) := by decide +kernel
theorem dX3_digest_82 : decode cX3_digest 82 = .ok (.iconst 0, 1) := by decide +kernel
theorem dX3_digest_83 : decode cX3_digest 83 = .ok (.istore_n 3, 1) := by decide +kernel
theorem dX3_digest_84 : decode cX3_digest 84 = .ok (.iload_n 3, 1) := by decide +kernel
theorem dX3_digest_85 : decode cX3_digest 85 = .ok (.aload_n 0, 1) := by decide +kernel
theorem dX3_digest_86 : decode cX3_digest 86 = .ok (.getfield 12, 3) := by decide +kernel
theorem dX3_digest_89 : decode cX3_digest 89 = .ok (.getfield 58, 3) := by decide +kernel
theorem dX3_digest_92 : decode cX3_digest 92 = .ok (.getfield 98, 3) := by decide +kernel
theorem dX3_digest_95 : decode cX3_digest 95 = .ok (.if_icmp .ge 37, 3) := by decide +kernel
theorem dX3_digest_98 : decode cX3_digest 98 = .ok (.iconst 0, 1) := by decide +kernel
theorem dX3_digest_99 : decode cX3_digest 99 = .ok (.istore 4, 2) := by decide +kernel
theorem dX3_digest_101 : decode cX3_digest 101 = .ok (.iload 4, 2) := by decide +kernel
theorem dX3_digest_103 : decode cX3_digest 103 = .ok (.bipush 7, 2) := by decide +kernel
theorem dX3_digest_105 : decode cX3_digest 105 = .ok (.if_icmp .gt 21, 3) := by decide +kernel
theorem dX3_digest_108 : decode cX3_digest 108 = .ok (.lload_n 1, 1) := by decide +kernel
theorem dX3_digest_109 : decode cX3_digest 109 = .ok (.aload_n 0, 1) := by decide +kernel
theorem dX3_digest_110 : decode cX3_digest 110 = .ok (.iload_n 3, 1) := by decide +kernel
theorem dX3_digest_111 : decode cX3_digest 111 = .ok (.iload 4, 2) := by decide +kernel
theorem dX3_digest_113 : decode cX3_digest 113 = .ok (.invokevirtual 244, 3) := by decide +kernel
theorem dX3_digest_116 : decode cX3_digest 116 = .ok (.invokestatic 231, 3) := by decide +kernel
theorem dX3_digest_119 : decode cX3_digest 119 = .ok (.lstore_n 1, 1) := by decide +kernel
theorem dX3_digest_120 : decode cX3_digest 120 = .ok (.iinc 4 1, 3) := by decide +kernel
theorem dX3_digest_123 : decode cX3_digest 123 = .ok (.goto (-22), 3) := by decide +kernel
theorem dX3_digest_126 : decode cX3_digest 126 = .ok (.iinc 3 1, 3) := by decide +kernel
theorem dX3_digest_129 : decode cX3_digest 129 = .ok (.goto (-45), 3) := by decide +kernel
theorem dX3_digest_132 : decode cX3_digest 132 = .ok (.iconst 0, 1) := by decide +kernel
theorem dX3_digest_133 : decode cX3_digest 133 = .ok (.istore_n 3, 1) := by decide +kernel
theorem dX3_digest_134 : decode cX3_digest 134 = .ok (.iload_n 3, 1) := by decide +kernel
theorem dX3_digest_135 : decode cX3_digest 135 = .ok (.aload_n 0, 1) := by decide +kernel
theorem dX3_digest_136 : decode cX3_digest 136 = .ok (.getfield 12, 3) := by decide +kernel
theorem dX3_digest_139 : decode cX3_digest 139 = .ok (.getfield 89, 3) := by decide +kernel
theorem dX3_digest_142 : decode cX3_digest 142 = .ok (.getfield 98, 3) := by decide +kernel
theorem dX3_digest_145 : decode cX3_digest 145 = .ok (.if_icmp .ge 36, 3) := by decide +kernel
theorem dX3_digest_148 : decode cX3_digest 148 = .ok (.iconst 0, 1) := by decide +kernel
theorem dX3_digest_149 : decode cX3_digest 149 = .ok (.istore 4, 2) := by decide +kernel
theorem dX3_digest_151 : decode cX3_digest 151 = .ok (.iload 4, 2) := by decide +kernel
theorem dX3_digest_153 : decode cX3_digest 153 = .ok (.iconst 3, 1) := by decide +kernel
theorem dX3_digest_154 : decode cX3_digest 154 = .ok (.if_icmp .gt 21, 3) := by decide +kernel
theorem dX3_digest_157 : decode cX3_digest 157 = .ok (.lload_n 1, 1) := by decide +kernel
theorem dX3_digest_158 : decode cX3_digest 158 = .ok (.aload_n 0, 1) := by decide +kernel
theorem dX3_digest_159 : decode cX3_digest 159 = .ok (.iload_n 3, 1) := by decide +kernel
theorem dX3_digest_160 : decode cX3_digest 160 = .ok (.iload 4, 2) := by decide +kernel
theorem dX3_digest_162 : decode cX3_digest 162 = .ok (.invokevirtual 247, 3) := by decide +kernel
theorem dX3_digest_165 : decode cX3_digest 165 = .ok (.invokestatic 231, 3) := by decide +kernel
theorem dX3_digest_168 : decode cX3_digest 168 = .ok (.lstore_n 1, 1) := by decide +kernel
theorem dX3_digest_169 : decode cX3_digest 169 = .ok (.iinc 4 1, 3) := by decide +kernel
theorem dX3_digest_172 : decode cX3_digest 172 = .ok (.goto (-21), 3) := by decide +kernel
theorem dX3_digest_175 : decode cX3_digest 175 = .ok (.iinc 3 1, 3) := by decide +kernel
theorem dX3_digest_178 : decode cX3_digest 178 = .ok (.goto (-44), 3) := by decide +kernel
theorem dX3_digest_181 : decode cX3_digest 181 = .ok (.iconst 0, 1) := by decide +kernel
theorem dX3_digest_182 : decode cX3_digest 182 = .ok (.istore_n 3, 1) := by decide +kernel
theorem dX3_digest_183 : decode cX3_digest 183 = .ok (.iload_n 3, 1) := by decide +kernel
theorem dX3_digest_184 : decode cX3_digest 184 = .ok (.aload_n 0, 1) := by decide +kernel
theorem dX3_digest_185 : decode cX3_digest 185 = .ok (.getfield 12, 3) := by decide +kernel
theorem dX3_digest_188 : decode cX3_digest 188 = .ok (.getfield 167, 3) := by decide +kernel
theorem dX3_digest_191 : decode cX3_digest 191 = .ok (.getfield 98, 3) := by decide +kernel
theorem dX3_digest_194 : decode cX3_digest 194 = .ok (.if_icmp .ge 36, 3) := by decide +kernel
theorem dX3_digest_197 : decode cX3_digest 197 = .ok (.iconst 0, 1) := by decide +kernel
theorem dX3_digest_198 : decode cX3_digest 198 = .ok (.istore 4, 2) := by decide +kernel
theorem dX3_digest_200 : decode cX3_digest 200 = .ok (.iload 4, 2) := by decide +kernel
theorem dX3_digest_202 : decode cX3_digest 202 = .ok (.iconst 4, 1) := by decide +kernel
theorem dX3_digest_203 : decode cX3_digest 203 = .ok (.if_icmp .ge 21, 3) := by decide +kernel
theorem dX3_digest_206 : decode cX3_digest 206 = .ok (.lload_n 1, 1) := by decide +kernel
theorem dX3_digest_207 : decode cX3_digest 207 = .ok (.aload_n 0, 1) := by decide +kernel
theorem dX3_digest_208 : decode cX3_digest 208 = .ok (.iload_n 3, 1) := by decide +kernel
theorem dX3_digest_209 : decode cX3_digest 209 = .ok (.iload 4, 2) := by decide +kernel
theorem dX3_digest_211 : decode cX3_digest 211 = .ok (.invokevirtual 250, 3) := by decide +kernel
theorem dX3_digest_214 : decode cX3_digest 214 = .ok (.invokestatic 231, 3) := by decide +kernel
theorem dX3_digest_217 : decode cX3_digest 217 = .ok (.lstore_n 1, 1) := by decide +kernel
theorem dX3_digest_218 : decode cX3_digest 218 = .ok (.iinc 4 1, 3) := by decide +kernel
theorem dX3_digest_221 : decode cX3_digest 221 = .ok (.goto (-21), 3) := by decide +kernel
theorem dX3_digest_224 : decode cX3_digest 224 = .ok (.iinc 3 1, 3) := by decide +kernel
theorem dX3_digest_227 : decode cX3_digest 227 = .ok (.goto (-44), 3) := by decide +kernel
theorem dX3_digest_230 : decode cX3_digest 230 = .ok (.lload_n 1, 1) := by decide +kernel
theorem dX3_digest_231 : decode cX3_digest 231 = .ok (.aload_n 0, 1) := by decide +kernel
theorem dX3_digest_232 : decode cX3_digest 232 = .ok (.getfield 23, 3) := by decide +kernel
theorem dX3_digest_235 : decode cX3_digest 235 = .ok (.invokestatic 231, 3) := by decide +kernel
theorem dX3_digest_238 : decode cX3_digest 238 = .ok (.lreturn, 1) := by decide +kernel
theorem dX3_mixRack_0 : decode cX3_mixRack 0 = .ok (.lload_n 1, 1) := by decide +kernel
theorem dX3_mixRack_1 : decode cX3_mixRack 1 = .ok (.lstore 4, 2) := by decide +kernel
theorem dX3_mixRack_3 : decode cX3_mixRack 3 = .ok (.iconst 0, 1) := by decide +kernel
theorem dX3_mixRack_4 : decode cX3_mixRack 4 = .ok (.istore 6, 2) := by decide +kernel
theorem dX3_mixRack_6 : decode cX3_mixRack 6 = .ok (.iload 6, 2) := by decide +kernel
theorem dX3_mixRack_8 : decode cX3_mixRack 8 = .ok (.bipush 7, 2) := by decide +kernel
theorem dX3_mixRack_10 : decode cX3_mixRack 10 = .ok (.if_icmp .gt 23, 3) := by decide +kernel
theorem dX3_mixRack_13 : decode cX3_mixRack 13 = .ok (.lload 4, 2) := by decide +kernel
theorem dX3_mixRack_15 : decode cX3_mixRack 15 = .ok (.aload_n 0, 1) := by decide +kernel
theorem dX3_mixRack_16 : decode cX3_mixRack 16 = .ok (.iload_n 3, 1) := by decide +kernel
theorem dX3_mixRack_17 : decode cX3_mixRack 17 = .ok (.iload 6, 2) := by decide +kernel
theorem dX3_mixRack_19 : decode cX3_mixRack 19 = .ok (.invokevirtual 253, 3) := by decide +kernel
theorem dX3_mixRack_22 : decode cX3_mixRack 22 = .ok (.invokestatic 231, 3) := by decide +kernel
theorem dX3_mixRack_25 : decode cX3_mixRack 25 = .ok (.lstore 4, 2) := by decide +kernel
theorem dX3_mixRack_27 : decode cX3_mixRack 27 = .ok (.iinc 6 1, 3) := by decide +kernel
theorem dX3_mixRack_30 : decode cX3_mixRack 30 = .ok (.goto (-24), 3) := by decide +kernel
theorem dX3_mixRack_33 : decode cX3_mixRack 33 = .ok (.iconst 0, 1) := by decide +kernel
theorem dX3_mixRack_34 : decode cX3_mixRack 34 = .ok (.istore 6, 2) := by decide +kernel
theorem dX3_mixRack_36 : decode cX3_mixRack 36 = .ok (.iload 6, 2) := by decide +kernel
theorem dX3_mixRack_38 : decode cX3_mixRack 38 = .ok (.bipush 10, 2) := by decide +kernel
theorem dX3_mixRack_40 : decode cX3_mixRack 40 = .ok (.if_icmp .ge 23, 3) := by decide +kernel
theorem dX3_mixRack_43 : decode cX3_mixRack 43 = .ok (.lload 4, 2) := by decide +kernel
theorem dX3_mixRack_45 : decode cX3_mixRack 45 = .ok (.aload_n 0, 1) := by decide +kernel
theorem dX3_mixRack_46 : decode cX3_mixRack 46 = .ok (.iload_n 3, 1) := by decide +kernel
theorem dX3_mixRack_47 : decode cX3_mixRack 47 = .ok (.iload 6, 2) := by decide +kernel
theorem dX3_mixRack_49 : decode cX3_mixRack 49 = .ok (.invokevirtual 256, 3) := by decide +kernel
theorem dX3_mixRack_52 : decode cX3_mixRack 52 = .ok (.invokestatic 231, 3) := by decide +kernel
theorem dX3_mixRack_55 : decode cX3_mixRack 55 = .ok (.lstore 4, 2) := by decide +kernel
theorem dX3_mixRack_57 : decode cX3_mixRack 57 = .ok (.iinc 6 1, 3) := by decide +kernel
theorem dX3_mixRack_60 : decode cX3_mixRack 60 = .ok (.goto (-24), 3) := by decide +kernel
theorem dX3_mixRack_63 : decode cX3_mixRack 63 = .ok (.lload 4, 2) := by decide +kernel
theorem dX3_mixRack_65 : decode cX3_mixRack 65 = .ok (.lreturn, 1) := by decide +kernel
theorem dX3_mix_0 : decode cX3_mix 0 = .ok (.ldc2_w 259, 3) := by decide +kernel
theorem dX3_mix_3 : decode cX3_mix 3 = .ok (.lload_n 0, 1) := by decide +kernel
theorem dX3_mix_4 : decode cX3_mix 4 = .ok (.lmul, 1) := by decide +kernel
theorem dX3_mix_5 : decode cX3_mix 5 = .ok (.iload_n 2, 1) := by decide +kernel
theorem dX3_mix_6 : decode cX3_mix 6 = .ok (.i2l, 1) := by decide +kernel
theorem dX3_mix_7 : decode cX3_mix 7 = .ok (.ladd, 1) := by decide +kernel
theorem dX3_mix_8 : decode cX3_mix 8 = .ok (.lreturn, 1) := by decide +kernel
theorem dX3_save_0 : decode cX3_save 0 = .ok (.aload_n 0, 1) := by decide +kernel
theorem dX3_save_1 : decode cX3_save 1 = .ok (.getfield 23, 3) := by decide +kernel
theorem dX3_save_4 : decode cX3_save 4 = .ok (.iconst 4, 1) := by decide +kernel
theorem dX3_save_5 : decode cX3_save 5 = .ok (.if_icmp .lt 49, 3) := by decide +kernel
theorem dX3_save_8 : decode cX3_save 8 = .ok (.aload_n 0, 1) := by decide +kernel
theorem dX3_save_9 : decode cX3_save 9 = .ok (.getfield 19, 3) := by decide +kernel
theorem dX3_save_12 : decode cX3_save 12 = .ok (.iconst 0, 1) := by decide +kernel
theorem dX3_save_13 : decode cX3_save 13 = .ok (.aaload, 1) := by decide +kernel
theorem dX3_save_14 : decode cX3_save 14 = .ok (.astore_n 1, 1) := by decide +kernel
theorem dX3_save_15 : decode cX3_save 15 = .ok (.iconst 1, 1) := by decide +kernel
theorem dX3_save_16 : decode cX3_save 16 = .ok (.istore_n 2, 1) := by decide +kernel
theorem dX3_save_17 : decode cX3_save 17 = .ok (.iload_n 2, 1) := by decide +kernel
theorem dX3_save_18 : decode cX3_save 18 = .ok (.iconst 4, 1) := by decide +kernel
theorem dX3_save_19 : decode cX3_save 19 = .ok (.if_icmp .ge 23, 3) := by decide +kernel
theorem dX3_save_22 : decode cX3_save 22 = .ok (.aload_n 0, 1) := by decide +kernel
theorem dX3_save_23 : decode cX3_save 23 = .ok (.getfield 19, 3) := by decide +kernel
theorem dX3_save_26 : decode cX3_save 26 = .ok (.iload_n 2, 1) := by decide +kernel
theorem dX3_save_27 : decode cX3_save 27 = .ok (.iconst 1, 1) := by decide +kernel
theorem dX3_save_28 : decode cX3_save 28 = .ok (.isub, 1) := by decide +kernel
theorem dX3_save_29 : decode cX3_save 29 = .ok (.aload_n 0, 1) := by decide +kernel
theorem dX3_save_30 : decode cX3_save 30 = .ok (.getfield 19, 3) := by decide +kernel
theorem dX3_save_33 : decode cX3_save 33 = .ok (.iload_n 2, 1) := by decide +kernel
theorem dX3_save_34 : decode cX3_save 34 = .ok (.aaload, 1) := by decide +kernel
theorem dX3_save_35 : decode cX3_save 35 = .ok (.aastore, 1) := by decide +kernel
theorem dX3_save_36 : decode cX3_save 36 = .ok (.iinc 2 1, 3) := by decide +kernel
theorem dX3_save_39 : decode cX3_save 39 = .ok (.goto (-22), 3) := by decide +kernel
theorem dX3_save_42 : decode cX3_save 42 = .ok (.aload_n 0, 1) := by decide +kernel
theorem dX3_save_43 : decode cX3_save 43 = .ok (.getfield 19, 3) := by decide +kernel
theorem dX3_save_46 : decode cX3_save 46 = .ok (.iconst 3, 1) := by decide +kernel
theorem dX3_save_47 : decode cX3_save 47 = .ok (.aload_n 1, 1) := by decide +kernel
theorem dX3_save_48 : decode cX3_save 48 = .ok (.aastore, 1) := by decide +kernel
theorem dX3_save_49 : decode cX3_save 49 = .ok (.aload_n 0, 1) := by decide +kernel
theorem dX3_save_50 : decode cX3_save 50 = .ok (.iconst 3, 1) := by decide +kernel
theorem dX3_save_51 : decode cX3_save 51 = .ok (.putfield 23, 3) := by decide +kernel
theorem dX3_save_54 : decode cX3_save 54 = .ok (.aload_n 0, 1) := by decide +kernel
theorem dX3_save_55 : decode cX3_save 55 = .ok (.getfield 19, 3) := by decide +kernel
theorem dX3_save_58 : decode cX3_save 58 = .ok (.aload_n 0, 1) := by decide +kernel
theorem dX3_save_59 : decode cX3_save 59 = .ok (.getfield 23, 3) := by decide +kernel
theorem dX3_save_62 : decode cX3_save 62 = .ok (.aaload, 1) := by decide +kernel
theorem dX3_save_63 : decode cX3_save 63 = .ok (.aload_n 0, 1) := by decide +kernel
theorem dX3_save_64 : decode cX3_save 64 = .ok (.getfield 12, 3) := by decide +kernel
theorem dX3_save_67 : decode cX3_save 67 = .ok (.invokevirtual 206, 3) := by decide +kernel
theorem dX3_save_70 : decode cX3_save 70 = .ok (.aload_n 0, 1) := by decide +kernel
theorem dX3_save_71 : decode cX3_save 71 = .ok (.dup, 1) := by decide +kernel
theorem dX3_save_72 : decode cX3_save 72 = .ok (.getfield 23, 3) := by decide +kernel
theorem dX3_save_75 : decode cX3_save 75 = .ok (.iconst 1, 1) := by decide +kernel
theorem dX3_save_76 : decode cX3_save 76 = .ok (.iadd, 1) := by decide +kernel
theorem dX3_save_77 : decode cX3_save 77 = .ok (.putfield 23, 3) := by decide +kernel
theorem dX3_save_80 : decode cX3_save 80 = .ok (.return_, 1) := by decide +kernel
theorem dX3_checkMachine_0 : decode cX3_checkMachine 0 = .ok (.aload_n 0, 1) := by decide +kernel
theorem dX3_checkMachine_1 : decode cX3_checkMachine 1 = .ok (.getfield 12, 3) := by decide +kernel
theorem dX3_checkMachine_4 : decode cX3_checkMachine 4 = .ok (.getfield 58, 3) := by decide +kernel
theorem dX3_checkMachine_7 : decode cX3_checkMachine 7 = .ok (.iload_n 1, 1) := by decide +kernel
theorem dX3_checkMachine_8 : decode cX3_checkMachine 8 = .ok (.invokevirtual 104, 3) := by decide +kernel
theorem dX3_checkMachine_11 : decode cX3_checkMachine 11 = .ok (.ifCond .ne 14, 3) := by decide +kernel
theorem dX3_checkMachine_14 : decode cX3_checkMachine 14 = .ok (.new 108, 3) := by decide +kernel
theorem dX3_checkMachine_17 : decode cX3_checkMachine 17 = .ok (.dup, 1) := by decide +kernel
theorem dX3_checkMachine_18 : decode cX3_checkMachine 18 = .ok (.ldc_w 261, 3) := by decide +kernel
theorem dX3_checkMachine_21 : decode cX3_checkMachine 21 = .ok (.invokespecial 112, 3) := by decide +kernel
theorem dX3_checkMachine_24 : decode cX3_checkMachine 24 = .ok (.athrow, 1) := by decide +kernel
theorem dX3_checkMachine_25 : decode cX3_checkMachine 25 = .ok (.return_, 1) := by decide +kernel
theorem dX3_checkCable_0 : decode cX3_checkCable 0 = .ok (.aload_n 0, 1) := by decide +kernel
theorem dX3_checkCable_1 : decode cX3_checkCable 1 = .ok (.getfield 12, 3) := by decide +kernel
theorem dX3_checkCable_4 : decode cX3_checkCable 4 = .ok (.getfield 89, 3) := by decide +kernel
theorem dX3_checkCable_7 : decode cX3_checkCable 7 = .ok (.iload_n 1, 1) := by decide +kernel
theorem dX3_checkCable_8 : decode cX3_checkCable 8 = .ok (.invokevirtual 104, 3) := by decide +kernel
theorem dX3_checkCable_11 : decode cX3_checkCable 11 = .ok (.ifCond .ne 14, 3) := by decide +kernel
theorem dX3_checkCable_14 : decode cX3_checkCable 14 = .ok (.new 108, 3) := by decide +kernel
theorem dX3_checkCable_17 : decode cX3_checkCable 17 = .ok (.dup, 1) := by decide +kernel
theorem dX3_checkCable_18 : decode cX3_checkCable 18 = .ok (.ldc_w 263, 3) := by decide +kernel
theorem dX3_checkCable_21 : decode cX3_checkCable 21 = .ok (.invokespecial 112, 3) := by decide +kernel
theorem dX3_checkCable_24 : decode cX3_checkCable 24 = .ok (.athrow, 1) := by decide +kernel
theorem dX3_checkCable_25 : decode cX3_checkCable 25 = .ok (.return_, 1) := by decide +kernel
theorem dX3_checkRack_0 : decode cX3_checkRack 0 = .ok (.iload_n 0, 1) := by decide +kernel
theorem dX3_checkRack_1 : decode cX3_checkRack 1 = .ok (.ifCond .lt 9, 3) := by decide +kernel
theorem dX3_checkRack_4 : decode cX3_checkRack 4 = .ok (.iload_n 0, 1) := by decide +kernel
theorem dX3_checkRack_5 : decode cX3_checkRack 5 = .ok (.bipush 6, 2) := by decide +kernel
theorem dX3_checkRack_7 : decode cX3_checkRack 7 = .ok (.if_icmp .lt 14, 3) := by decide +kernel
theorem dX3_checkRack_10 : decode cX3_checkRack 10 = .ok (.new 108, 3) := by decide +kernel
theorem dX3_checkRack_13 : decode cX3_checkRack 13 = .ok (.dup, 1) := by decide +kernel
theorem dX3_checkRack_14 : decode cX3_checkRack 14 = .ok (.ldc_w 265, 3) := by decide +kernel
theorem dX3_checkRack_17 : decode cX3_checkRack 17 = .ok (.invokespecial 112, 3) := by decide +kernel
theorem dX3_checkRack_20 : decode cX3_checkRack 20 = .ok (.athrow, 1) := by decide +kernel
theorem dX3_checkRack_21 : decode cX3_checkRack 21 = .ok (.return_, 1) := by decide +kernel
theorem dX3_checkTray_0 : decode cX3_checkTray 0 = .ok (.iload_n 0, 1) := by decide +kernel
theorem dX3_checkTray_1 : decode cX3_checkTray 1 = .ok (.ifCond .lt 8, 3) := by decide +kernel
theorem dX3_checkTray_4 : decode cX3_checkTray 4 = .ok (.iload_n 0, 1) := by decide +kernel
theorem dX3_checkTray_5 : decode cX3_checkTray 5 = .ok (.iconst 5, 1) := by decide +kernel
theorem dX3_checkTray_6 : decode cX3_checkTray 6 = .ok (.if_icmp .lt 14, 3) := by decide +kernel
theorem dX3_checkTray_9 : decode cX3_checkTray 9 = .ok (.new 108, 3) := by decide +kernel
theorem dX3_checkTray_12 : decode cX3_checkTray 12 = .ok (.dup, 1) := by decide +kernel
theorem dX3_checkTray_13 : decode cX3_checkTray 13 = .ok (.ldc_w 267, 3) := by decide +kernel
theorem dX3_checkTray_16 : decode cX3_checkTray 16 = .ok (.invokespecial 112, 3) := by decide +kernel
theorem dX3_checkTray_19 : decode cX3_checkTray 19 = .ok (.athrow, 1) := by decide +kernel
theorem dX3_checkTray_20 : decode cX3_checkTray 20 = .ok (.return_, 1) := by decide +kernel
theorem dX3_checkRange_0 : decode cX3_checkRange 0 = .ok (.iload_n 0, 1) := by decide +kernel
theorem dX3_checkRange_1 : decode cX3_checkRange 1 = .ok (.iload_n 1, 1) := by decide +kernel
theorem dX3_checkRange_2 : decode cX3_checkRange 2 = .ok (.if_icmp .lt 8, 3) := by decide +kernel
theorem dX3_checkRange_5 : decode cX3_checkRange 5 = .ok (.iload_n 0, 1) := by decide +kernel
theorem dX3_checkRange_6 : decode cX3_checkRange 6 = .ok (.iload_n 2, 1) := by decide +kernel
theorem dX3_checkRange_7 : decode cX3_checkRange 7 = .ok (.if_icmp .le 14, 3) := by decide +kernel
theorem dX3_checkRange_10 : decode cX3_checkRange 10 = .ok (.new 82, 3) := by decide +kernel
theorem dX3_checkRange_13 : decode cX3_checkRange 13 = .ok (.dup, 1) := by decide +kernel
theorem dX3_checkRange_14 : decode cX3_checkRange 14 = .ok (.ldc_w 269, 3) := by decide +kernel
theorem dX3_checkRange_17 : decode cX3_checkRange 17 = .ok (.invokespecial 86, 3) := by decide +kernel
theorem dX3_checkRange_20 : decode cX3_checkRange 20 = .ok (.athrow, 1) := by decide +kernel
theorem dX3_checkRange_21 : decode cX3_checkRange 21 = .ok (.return_, 1) := by decide +kernel
theorem dX3_checkSpace_0 : decode cX3_checkSpace 0 = .ok (.aload_n 0, 1) := by decide +kernel
theorem dX3_checkSpace_1 : decode cX3_checkSpace 1 = .ok (.invokevirtual 271, 3) := by decide +kernel
theorem dX3_checkSpace_4 : decode cX3_checkSpace 4 = .ok (.ifCond .eq 14, 3) := by decide +kernel
theorem dX3_checkSpace_7 : decode cX3_checkSpace 7 = .ok (.new 116, 3) := by decide +kernel
theorem dX3_checkSpace_10 : decode cX3_checkSpace 10 = .ok (.dup, 1) := by decide +kernel
theorem dX3_checkSpace_11 : decode cX3_checkSpace 11 = .ok (.ldc_w 275, 3) := by decide +kernel
theorem dX3_checkSpace_14 : decode cX3_checkSpace 14 = .ok (.invokespecial 120, 3) := by decide +kernel
theorem dX3_checkSpace_17 : decode cX3_checkSpace 17 = .ok (.athrow, 1) := by decide +kernel
theorem dX3_checkSpace_18 : decode cX3_checkSpace 18 = .ok (.return_, 1) := by decide +kernel
