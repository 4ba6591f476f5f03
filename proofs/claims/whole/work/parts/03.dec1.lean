theorem dX2_init_0 : decode cX2_init 0 = .ok (.aload_n 0, 1) := by decide +kernel
theorem dX2_init_1 : decode cX2_init 1 = .ok (.invokespecial 3, 3) := by decide +kernel
theorem dX2_init_4 : decode cX2_init 4 = .ok (.aload_n 0, 1) := by decide +kernel
theorem dX2_init_5 : decode cX2_init 5 = .ok (.iconst 0, 1) := by decide +kernel
theorem dX2_init_6 : decode cX2_init 6 = .ok (.putfield 9, 3) := by decide +kernel
theorem dX2_init_9 : decode cX2_init 9 = .ok (.aload_n 0, 1) := by decide +kernel
theorem dX2_init_10 : decode cX2_init 10 = .ok (.iload_n 1, 1) := by decide +kernel
theorem dX2_init_11 : decode cX2_init 11 = .ok (.putfield 15, 3) := by decide +kernel
theorem dX2_init_14 : decode cX2_init 14 = .ok (.aload_n 0, 1) := by decide +kernel
theorem dX2_init_15 : decode cX2_init 15 = .ok (.iload_n 2, 1) := by decide +kernel
theorem dX2_init_16 : decode cX2_init 16 = .ok (.putfield 18, 3) := by decide +kernel
theorem dX2_init_19 : decode cX2_init 19 = .ok (.aload_n 0, 1) := by decide +kernel
theorem dX2_init_20 : decode cX2_init 20 = .ok (.iload_n 1, 1) := by decide +kernel
theorem dX2_init_21 : decode cX2_init 21 = .ok (.iload_n 2, 1) := by decide +kernel
theorem dX2_init_22 : decode cX2_init 22 = .ok (.imul, 1) := by decide +kernel
theorem dX2_init_23 : decode cX2_init 23 = .ok (.newarray .int, 2) := by decide +kernel
theorem dX2_init_25 : decode cX2_init 25 = .ok (.putfield 21, 3) := by decide +kernel
theorem dX2_init_28 : decode cX2_init 28 = .ok (.return_, 1) := by decide +kernel
theorem dX2_hasRow_0 : decode cX2_hasRow 0 = .ok (.iload_n 1, 1) := by decide +kernel
theorem dX2_hasRow_1 : decode cX2_hasRow 1 = .ok (.ifCond .lt 15, 3) := by decide +kernel
theorem dX2_hasRow_4 : decode cX2_hasRow 4 = .ok (.iload_n 1, 1) := by decide +kernel
theorem dX2_hasRow_5 : decode cX2_hasRow 5 = .ok (.aload_n 0, 1) := by decide +kernel
theorem dX2_hasRow_6 : decode cX2_hasRow 6 = .ok (.getfield 9, 3) := by decide +kernel
theorem dX2_hasRow_9 : decode cX2_hasRow 9 = .ok (.if_icmp .ge 7, 3) := by decide +kernel
theorem dX2_hasRow_12 : decode cX2_hasRow 12 = .ok (.iconst 1, 1) := by decide +kernel
theorem dX2_hasRow_13 : decode cX2_hasRow 13 = .ok (.goto 4, 3) := by decide +kernel
theorem dX2_hasRow_16 : decode cX2_hasRow 16 = .ok (.iconst 0, 1) := by decide +kernel
theorem dX2_hasRow_17 : decode cX2_hasRow 17 = .ok (.ireturn, 1) := by decide +kernel
theorem dX2_isFull_0 : decode cX2_isFull 0 = .ok (.aload_n 0, 1) := by decide +kernel
theorem dX2_isFull_1 : decode cX2_isFull 1 = .ok (.getfield 9, 3) := by decide +kernel
theorem dX2_isFull_4 : decode cX2_isFull 4 = .ok (.aload_n 0, 1) := by decide +kernel
theorem dX2_isFull_5 : decode cX2_isFull 5 = .ok (.getfield 15, 3) := by decide +kernel
theorem dX2_isFull_8 : decode cX2_isFull 8 = .ok (.if_icmp .lt 7, 3) := by decide +kernel
theorem dX2_isFull_11 : decode cX2_isFull 11 = .ok (.iconst 1, 1) := by decide +kernel
theorem dX2_isFull_12 : decode cX2_isFull 12 = .ok (.goto 4, 3) := by decide +kernel
theorem dX2_isFull_15 : decode cX2_isFull 15 = .ok (.iconst 0, 1) := by decide +kernel
theorem dX2_isFull_16 : decode cX2_isFull 16 = .ok (.ireturn, 1) := by decide +kernel
theorem dX2_at_0 : decode cX2_at 0 = .ok (.iload_n 1, 1) := by decide +kernel
theorem dX2_at_1 : decode cX2_at 1 = .ok (.ifCond .lt 23, 3) := by decide +kernel
theorem dX2_at_4 : decode cX2_at 4 = .ok (.iload_n 1, 1) := by decide +kernel
theorem dX2_at_5 : decode cX2_at 5 = .ok (.aload_n 0, 1) := by decide +kernel
theorem dX2_at_6 : decode cX2_at 6 = .ok (.getfield 9, 3) := by decide +kernel
theorem dX2_at_9 : decode cX2_at 9 = .ok (.if_icmp .ge 15, 3) := by decide +kernel
theorem dX2_at_12 : decode cX2_at 12 = .ok (.iload_n 2, 1) := by decide +kernel
theorem dX2_at_13 : decode cX2_at 13 = .ok (.ifCond .lt 11, 3) := by decide +kernel
theorem dX2_at_16 : decode cX2_at 16 = .ok (.iload_n 2, 1) := by decide +kernel
theorem dX2_at_17 : decode cX2_at 17 = .ok (.aload_n 0, 1) := by decide +kernel
theorem dX2_at_18 : decode cX2_at 18 = .ok (.getfield 18, 3) := by decide +kernel
theorem dX2_at_21 : decode cX2_at 21 = .ok (.if_icmp .lt 5, 3) := by decide +kernel
theorem dX2_at_24 : decode cX2_at 24 = .ok (.iconst (-1), 1) := by decide +kernel
theorem dX2_at_25 : decode cX2_at 25 = .ok (.ireturn, 1) := by decide +kernel
theorem dX2_at_26 : decode cX2_at 26 = .ok (.aload_n 0, 1) := by decide +kernel
theorem dX2_at_27 : decode cX2_at 27 = .ok (.getfield 21, 3) := by decide +kernel
theorem dX2_at_30 : decode cX2_at 30 = .ok (.iload_n 1, 1) := by decide +kernel
theorem dX2_at_31 : decode cX2_at 31 = .ok (.aload_n 0, 1) := by decide +kernel
theorem dX2_at_32 : decode cX2_at 32 = .ok (.getfield 18, 3) := by decide +kernel
theorem dX2_at_35 : decode cX2_at 35 = .ok (.imul, 1) := by decide +kernel
theorem dX2_at_36 : decode cX2_at 36 = .ok (.iload_n 2, 1) := by decide +kernel
theorem dX2_at_37 : decode cX2_at 37 = .ok (.iadd, 1) := by decide +kernel
theorem dX2_at_38 : decode cX2_at 38 = .ok (.iaload, 1) := by decide +kernel
theorem dX2_at_39 : decode cX2_at 39 = .ok (.ireturn, 1) := by decide +kernel
theorem dX2_put_0 : decode cX2_put 0 = .ok (.iload_n 1, 1) := by decide +kernel
theorem dX2_put_1 : decode cX2_put 1 = .ok (.ifCond .lt 37, 3) := by decide +kernel
theorem dX2_put_4 : decode cX2_put 4 = .ok (.iload_n 1, 1) := by decide +kernel
theorem dX2_put_5 : decode cX2_put 5 = .ok (.aload_n 0, 1) := by decide +kernel
theorem dX2_put_6 : decode cX2_put 6 = .ok (.getfield 9, 3) := by decide +kernel
theorem dX2_put_9 : decode cX2_put 9 = .ok (.if_icmp .ge 29, 3) := by decide +kernel
theorem dX2_put_12 : decode cX2_put 12 = .ok (.iload_n 2, 1) := by decide +kernel
theorem dX2_put_13 : decode cX2_put 13 = .ok (.ifCond .lt 25, 3) := by decide +kernel
theorem dX2_put_16 : decode cX2_put 16 = .ok (.iload_n 2, 1) := by decide +kernel
theorem dX2_put_17 : decode cX2_put 17 = .ok (.aload_n 0, 1) := by decide +kernel
theorem dX2_put_18 : decode cX2_put 18 = .ok (.getfield 18, 3) := by decide +kernel
theorem dX2_put_21 : decode cX2_put 21 = .ok (.if_icmp .ge 17, 3) := by decide +kernel
theorem dX2_put_24 : decode cX2_put 24 = .ok (.aload_n 0, 1) := by decide +kernel
theorem dX2_put_25 : decode cX2_put 25 = .ok (.getfield 21, 3) := by decide +kernel
theorem dX2_put_28 : decode cX2_put 28 = .ok (.iload_n 1, 1) := by decide +kernel
theorem dX2_put_29 : decode cX2_put 29 = .ok (.aload_n 0, 1) := by decide +kernel
theorem dX2_put_30 : decode cX2_put 30 = .ok (.getfield 18, 3) := by decide +kernel
theorem dX2_put_33 : decode cX2_put 33 = .ok (.imul, 1) := by decide +kernel
theorem dX2_put_34 : decode cX2_put 34 = .ok (.iload_n 2, 1) := by decide +kernel
theorem dX2_put_35 : decode cX2_put 35 = .ok (.iadd, 1) := by decide +kernel
theorem dX2_put_36 : decode cX2_put 36 = .ok (.iload_n 3, 1) := by decide +kernel
theorem dX2_put_37 : decode cX2_put 37 = .ok (.iastore, 1) := by decide +kernel
theorem dX2_put_38 : decode cX2_put 38 = .ok (.return_, 1) := by decide +kernel
theorem dX2_addRow_0 : decode cX2_addRow 0 = .ok (.aload_n 0, 1) := by decide +kernel
theorem dX2_addRow_1 : decode cX2_addRow 1 = .ok (.invokevirtual 25, 3) := by decide +kernel
theorem dX2_addRow_4 : decode cX2_addRow 4 = .ok (.ifCond .eq 5, 3) := by decide +kernel
theorem dX2_addRow_7 : decode cX2_addRow 7 = .ok (.iconst (-1), 1) := by decide +kernel
theorem dX2_addRow_8 : decode cX2_addRow 8 = .ok (.ireturn, 1) := by decide +kernel
theorem dX2_addRow_9 : decode cX2_addRow 9 = .ok (.aload_n 0, 1) := by decide +kernel
theorem dX2_addRow_10 : decode cX2_addRow 10 = .ok (.dup, 1) := by decide +kernel
theorem dX2_addRow_11 : decode cX2_addRow 11 = .ok (.getfield 9, 3) := by decide +kernel
theorem dX2_addRow_14 : decode cX2_addRow 14 = .ok (.iconst 1, 1) := by decide +kernel
theorem dX2_addRow_15 : decode cX2_addRow 15 = .ok (.iadd, 1) := by decide +kernel
theorem dX2_addRow_16 : decode cX2_addRow 16 = .ok (.putfield 9, 3) := by decide +kernel
theorem dX2_addRow_19 : decode cX2_addRow 19 = .ok (.aload_n 0, 1) := by decide +kernel
theorem dX2_addRow_20 : decode cX2_addRow 20 = .ok (.getfield 9, 3) := by decide +kernel
theorem dX2_addRow_23 : decode cX2_addRow 23 = .ok (.iconst 1, 1) := by decide +kernel
theorem dX2_addRow_24 : decode cX2_addRow 24 = .ok (.isub, 1) := by decide +kernel
theorem dX2_addRow_25 : decode cX2_addRow 25 = .ok (.ireturn, 1) := by decide +kernel
theorem dX2_removeRow_0 : decode cX2_removeRow 0 = .ok (.aload_n 0, 1) := by decide +kernel
theorem dX2_removeRow_1 : decode cX2_removeRow 1 = .ok (.iload_n 1, 1) := by decide +kernel
theorem dX2_removeRow_2 : decode cX2_removeRow 2 = .ok (.invokevirtual 29, 3) := by decide +kernel
theorem dX2_removeRow_5 : decode cX2_removeRow 5 = .ok (.ifCond .eq 56, 3) := by decide +kernel
theorem dX2_removeRow_8 : decode cX2_removeRow 8 = .ok (.aload_n 0, 1) := by decide +kernel
theorem dX2_removeRow_9 : decode cX2_removeRow 9 = .ok (.dup, 1) := by decide +kernel
theorem dX2_removeRow_10 : decode cX2_removeRow 10 = .ok (.getfield 9, 3) := by decide +kernel
theorem dX2_removeRow_13 : decode cX2_removeRow 13 = .ok (.iconst 1, 1) := by decide +kernel
theorem dX2_removeRow_14 : decode cX2_removeRow 14 = .ok (.isub, 1) := by decide +kernel
theorem dX2_removeRow_15 : decode cX2_removeRow 15 = .ok (.putfield 9, 3) := by decide +kernel
theorem dX2_removeRow_18 : decode cX2_removeRow 18 = .ok (.iload_n 1, 1) := by decide +kernel
theorem dX2_removeRow_19 : decode cX2_removeRow 19 = .ok (.aload_n 0, 1) := by decide +kernel
theorem dX2_removeRow_20 : decode cX2_removeRow 20 = .ok (.getfield 18, 3) := by decide +kernel
theorem dX2_removeRow_23 : decode cX2_removeRow 23 = .ok (.imul, 1) := by decide +kernel
theorem dX2_removeRow_24 : decode cX2_removeRow 24 = .ok (.istore_n 2, 1) := by decide +kernel
theorem dX2_removeRow_25 : decode cX2_removeRow 25 = .ok (.iload_n 2, 1) := by decide +kernel
theorem dX2_removeRow_26 : decode cX2_removeRow 26 = .ok (.aload_n 0, 1) := by decide +kernel
theorem dX2_removeRow_27 : decode cX2_removeRow 27 = .ok (.getfield 9, 3) := by decide +kernel
theorem dX2_removeRow_30 : decode cX2_removeRow 30 = .ok (.aload_n 0, 1) := by decide +kernel
theorem dX2_removeRow_31 : decode cX2_removeRow 31 = .ok (.getfield 18, 3) := by decide +kernel
theorem dX2_removeRow_34 : decode cX2_removeRow 34 = .ok (.imul, 1) := by decide +kernel
theorem dX2_removeRow_35 : decode cX2_removeRow 35 = .ok (.if_icmp .ge 26, 3) := by decide +kernel
theorem dX2_removeRow_38 : decode cX2_removeRow 38 = .ok (.aload_n 0, 1) := by decide +kernel
theorem dX2_removeRow_39 : decode cX2_removeRow 39 = .ok (.getfield 21, 3) := by decide +kernel
theorem dX2_removeRow_42 : decode cX2_removeRow 42 = .ok (.iload_n 2, 1) := by decide +kernel
theorem dX2_removeRow_43 : decode cX2_removeRow 43 = .ok (.aload_n 0, 1) := by decide +kernel
theorem dX2_removeRow_44 : decode cX2_removeRow 44 = .ok (.getfield 21, 3) := by decide +kernel
theorem dX2_removeRow_47 : decode cX2_removeRow 47 = .ok (.iload_n 2, 1) := by decide +kernel
theorem dX2_removeRow_48 : decode cX2_removeRow 48 = .ok (.aload_n 0, 1) := by decide +kernel
theorem dX2_removeRow_49 : decode cX2_removeRow 49 = .ok (.getfield 18, 3) := by decide +kernel
theorem dX2_removeRow_52 : decode cX2_removeRow 52 = .ok (.iadd, 1) := by decide +kernel
theorem dX2_removeRow_53 : decode cX2_removeRow 53 = .ok (.iaload, 1) := by decide +kernel
theorem dX2_removeRow_54 : decode cX2_removeRow 54 = .ok (.iastore, 1) := by decide +kernel
theorem dX2_removeRow_55 : decode cX2_removeRow 55 = .ok (.iinc 2 1, 3) := by decide +kernel
theorem dX2_removeRow_58 : decode cX2_removeRow 58 = .ok (.goto (-33), 3) := by decide +kernel
theorem dX2_removeRow_61 : decode cX2_removeRow 61 = .ok (.return_, 1) := by decide +kernel
theorem dX2_copyFrom_0 : decode cX2_copyFrom 0 = .ok (.aload_n 1, 1) := by decide +kernel
theorem dX2_copyFrom_1 : decode cX2_copyFrom 1 = .ok (.getfield 21, 3) := by decide +kernel
theorem dX2_copyFrom_4 : decode cX2_copyFrom 4 = .ok (.arraylength, 1) := by decide +kernel
theorem dX2_copyFrom_5 : decode cX2_copyFrom 5 = .ok (.aload_n 0, 1) := by decide +kernel
theorem dX2_copyFrom_6 : decode cX2_copyFrom 6 = .ok (.getfield 21, 3) := by decide +kernel
theorem dX2_copyFrom_9 : decode cX2_copyFrom 9 = .ok (.arraylength, 1) := by decide +kernel
theorem dX2_copyFrom_10 : decode cX2_copyFrom 10 = .ok (.if_icmp .ne 29, 3) := by decide +kernel
theorem dX2_copyFrom_13 : decode cX2_copyFrom 13 = .ok (.aload_n 1, 1) := by decide +kernel
theorem dX2_copyFrom_14 : decode cX2_copyFrom 14 = .ok (.getfield 21, 3) := by decide +kernel
theorem dX2_copyFrom_17 : decode cX2_copyFrom 17 = .ok (.iconst 0, 1) := by decide +kernel
theorem dX2_copyFrom_18 : decode cX2_copyFrom 18 = .ok (.aload_n 0, 1) := by decide +kernel
theorem dX2_copyFrom_19 : decode cX2_copyFrom 19 = .ok (.getfield 21, 3) := by decide +kernel
theorem dX2_copyFrom_22 : decode cX2_copyFrom 22 = .ok (.iconst 0, 1) := by decide +kernel
theorem dX2_copyFrom_23 : decode cX2_copyFrom 23 = .ok (.aload_n 0, 1) := by decide +kernel
theorem dX2_copyFrom_24 : decode cX2_copyFrom 24 = .ok (.getfield 21, 3) := by decide +kernel
theorem dX2_copyFrom_27 : decode cX2_copyFrom 27 = .ok (.arraylength, 1) := by decide +kernel
theorem dX2_copyFrom_28 : decode cX2_copyFrom 28 = .ok (.invokestatic 33, 3) := by decide +kernel
theorem dX2_copyFrom_31 : decode cX2_copyFrom 31 = .ok (.aload_n 0, 1) := by decide +kernel
theorem dX2_copyFrom_32 : decode cX2_copyFrom 32 = .ok (.aload_n 1, 1) := by decide +kernel
theorem dX2_copyFrom_33 : decode cX2_copyFrom 33 = .ok (.getfield 9, 3) := by decide +kernel
theorem dX2_copyFrom_36 : decode cX2_copyFrom 36 = .ok (.putfield 9, 3) := by decide +kernel
theorem dX2_copyFrom_39 : decode cX2_copyFrom 39 = .ok (.return_, 1) := by decide +kernel
theorem dX1_init_0 : decode cX1_init 0 = .ok (.aload_n 0, 1) := by decide +kernel
theorem dX1_init_1 : decode cX1_init 1 = .ok (.invokespecial 3, 3) := by decide +kernel
theorem dX1_init_4 : decode cX1_init 4 = .ok (.aload_n 0, 1) := by decide +kernel
theorem dX1_init_5 : decode cX1_init 5 = .ok (.new 9, 3) := by decide +kernel
theorem dX1_init_8 : decode cX1_init 8 = .ok (.dup, 1) := by decide +kernel
theorem dX1_init_9 : decode cX1_init 9 = .ok (.bipush 12, 2) := by decide +kernel
theorem dX1_init_11 : decode cX1_init 11 = .ok (.bipush 6, 2) := by decide +kernel
theorem dX1_init_13 : decode cX1_init 13 = .ok (.invokespecial 11, 3) := by decide +kernel
theorem dX1_init_16 : decode cX1_init 16 = .ok (.putfield 14, 3) := by decide +kernel
theorem dX1_init_19 : decode cX1_init 19 = .ok (.aload_n 0, 1) := by decide +kernel
theorem dX1_init_20 : decode cX1_init 20 = .ok (.new 9, 3) := by decide +kernel
theorem dX1_init_23 : decode cX1_init 23 = .ok (.dup, 1) := by decide +kernel
theorem dX1_init_24 : decode cX1_init 24 = .ok (.bipush 10, 2) := by decide +kernel
theorem dX1_init_26 : decode cX1_init 26 = .ok (.iconst 3, 1) := by decide +kernel
theorem dX1_init_27 : decode cX1_init 27 = .ok (.invokespecial 11, 3) := by decide +kernel
theorem dX1_init_30 : decode cX1_init 30 = .ok (.putfield 20, 3) := by decide +kernel
theorem dX1_init_33 : decode cX1_init 33 = .ok (.aload_n 0, 1) := by decide +kernel
theorem dX1_init_34 : decode cX1_init 34 = .ok (.new 9, 3) := by decide +kernel
theorem dX1_init_37 : decode cX1_init 37 = .ok (.dup, 1) := by decide +kernel
theorem dX1_init_38 : decode cX1_init 38 = .ok (.bipush 6, 2) := by decide +kernel
theorem dX1_init_40 : decode cX1_init 40 = .ok (.iconst 3, 1) := by decide +kernel
theorem dX1_init_41 : decode cX1_init 41 = .ok (.invokespecial 11, 3) := by decide +kernel
theorem dX1_init_44 : decode cX1_init 44 = .ok (.putfield 23, 3) := by decide +kernel
theorem dX1_init_47 : decode cX1_init 47 = .ok (.aload_n 0, 1) := by decide +kernel
theorem dX1_init_48 : decode cX1_init 48 = .ok (.new 9, 3) := by decide +kernel
theorem dX1_init_51 : decode cX1_init 51 = .ok (.dup, 1) := by decide +kernel
theorem dX1_init_52 : decode cX1_init 52 = .ok (.bipush 20, 2) := by decide +kernel
theorem dX1_init_54 : decode cX1_init 54 = .ok (.iconst 4, 1) := by decide +kernel
theorem dX1_init_55 : decode cX1_init 55 = .ok (.invokespecial 11, 3) := by decide +kernel
theorem dX1_init_58 : decode cX1_init 58 = .ok (.putfield 26, 3) := by decide +kernel
theorem dX1_init_61 : decode cX1_init 61 = .ok (.aload_n 0, 1) := by decide +kernel
theorem dX1_init_62 : decode cX1_init 62 = .ok (.bipush 6, 2) := by decide +kernel
theorem dX1_init_64 : decode cX1_init 64 = .ok (.newarray .int, 2) := by decide +kernel
theorem dX1_init_66 : decode cX1_init 66 = .ok (.putfield 29, 3) := by decide +kernel
theorem dX1_init_69 : decode cX1_init 69 = .ok (.aload_n 0, 1) := by decide +kernel
theorem dX1_init_70 : decode cX1_init 70 = .ok (.iconst 5, 1) := by decide +kernel
theorem dX1_init_71 : decode cX1_init 71 = .ok (.newarray .int, 2) := by decide +kernel
theorem dX1_init_73 : decode cX1_init 73 = .ok (.putfield 33, 3) := by decide +kernel
theorem dX1_init_76 : decode cX1_init 76 = .ok (.aload_n 0, 1) := by decide +kernel
theorem dX1_init_77 : decode cX1_init 77 = .ok (.bipush 100, 2) := by decide +kernel
theorem dX1_init_79 : decode cX1_init 79 = .ok (.putfield 36, 3) := by decide +kernel
theorem dX1_init_82 : decode cX1_init 82 = .ok (.aload_n 0, 1) := by decide +kernel
theorem dX1_init_83 : decode cX1_init 83 = .ok (.iconst 0, 1) := by decide +kernel
theorem dX1_init_84 : decode cX1_init 84 = .ok (.putfield 40, 3) := by decide +kernel
theorem dX1_init_87 : decode cX1_init 87 = .ok (.aload_n 0, 1) := by decide +kernel
theorem dX1_init_88 : decode cX1_init 88 = .ok (.iconst 0, 1) := by decide +kernel
theorem dX1_init_89 : decode cX1_init 89 = .ok (.putfield 43, 3) := by decide +kernel
theorem dX1_init_92 : decode cX1_init 92 = .ok (.aload_n 0, 1) := by decide +kernel
theorem dX1_init_93 : decode cX1_init 93 = .ok (.iconst 0, 1) := by decide +kernel
theorem dX1_init_94 : decode cX1_init 94 = .ok (.putfield 46, 3) := by decide +kernel
theorem dX1_init_97 : decode cX1_init 97 = .ok (.iconst 0, 1) := by decide +kernel
theorem dX1_init_98 : decode cX1_init 98 = .ok (.istore_n 1, 1) := by decide +kernel
theorem dX1_init_99 : decode cX1_init 99 = .ok (.iload_n 1, 1) := by decide +kernel
theorem dX1_init_100 : decode cX1_init 100 = .ok (.bipush 6, 2) := by decide +kernel
theorem dX1_init_102 : decode cX1_init 102 = .ok (.if_icmp .ge 18, 3) := by decide +kernel
theorem dX1_init_105 : decode cX1_init 105 = .ok (.aload_n 0, 1) := by decide +kernel
theorem dX1_init_106 : decode cX1_init 106 = .ok (.getfield 29, 3) := by decide +kernel
theorem dX1_init_109 : decode cX1_init 109 = .ok (.iload_n 1, 1) := by decide +kernel
theorem dX1_init_110 : decode cX1_init 110 = .ok (.sipush 200, 3) := by decide +kernel
theorem dX1_init_113 : decode cX1_init 113 = .ok (.iastore, 1) := by decide +kernel
theorem dX1_init_114 : decode cX1_init 114 = .ok (.iinc 1 1, 3) := by decide +kernel
theorem dX1_init_117 : decode cX1_init 117 = .ok (.goto (-18), 3) := by decide +kernel
theorem dX1_init_120 : decode cX1_init 120 = .ok (.iconst 0, 1) := by decide +kernel
theorem dX1_init_121 : decode cX1_init 121 = .ok (.istore_n 1, 1) := by decide +kernel
theorem dX1_init_122 : decode cX1_init 122 = .ok (.iload_n 1, 1) := by decide +kernel
theorem dX1_init_123 : decode cX1_init 123 = .ok (.iconst 5, 1) := by decide +kernel
theorem dX1_init_124 : decode cX1_init 124 = .ok (.if_icmp .ge 16, 3) := by decide +kernel
theorem dX1_init_127 : decode cX1_init 127 = .ok (.aload_n 0, 1) := by decide +kernel
theorem dX1_init_128 : decode cX1_init 128 = .ok (.getfield 33, 3) := by decide +kernel
theorem dX1_init_131 : decode cX1_init 131 = .ok (.iload_n 1, 1) := by decide +kernel
theorem dX1_init_132 : decode cX1_init 132 = .ok (.iconst 4, 1) := by decide +kernel
theorem dX1_init_133 : decode cX1_init 133 = .ok (.iastore, 1) := by decide +kernel
theorem dX1_init_134 : decode cX1_init 134 = .ok (.iinc 1 1, 3) := by decide +kernel
theorem dX1_init_137 : decode cX1_init 137 = .ok (.goto (-15), 3) := by decide +kernel
theorem dX1_init_140 : decode cX1_init 140 = .ok (.return_, 1) := by decide +kernel
theorem dX1_copyFrom_0 : decode cX1_copyFrom 0 = .ok (.aload_n 0, 1) := by decide +kernel
theorem dX1_copyFrom_1 : decode cX1_copyFrom 1 = .ok (.getfield 14, 3) := by decide +kernel
theorem dX1_copyFrom_4 : decode cX1_copyFrom 4 = .ok (.aload_n 1, 1) := by decide +kernel
theorem dX1_copyFrom_5 : decode cX1_copyFrom 5 = .ok (.getfield 14, 3) := by decide +kernel
theorem dX1_copyFrom_8 : decode cX1_copyFrom 8 = .ok (.invokevirtual 49, 3) := by decide +kernel
theorem dX1_copyFrom_11 : decode cX1_copyFrom 11 = .ok (.aload_n 0, 1) := by decide +kernel
theorem dX1_copyFrom_12 : decode cX1_copyFrom 12 = .ok (.getfield 20, 3) := by decide +kernel
theorem dX1_copyFrom_15 : decode cX1_copyFrom 15 = .ok (.aload_n 1, 1) := by decide +kernel
theorem dX1_copyFrom_16 : decode cX1_copyFrom 16 = .ok (.getfield 20, 3) := by decide +kernel
theorem dX1_copyFrom_19 : decode cX1_copyFrom 19 = .ok (.invokevirtual 49, 3) := by decide +kernel
theorem dX1_copyFrom_22 : decode cX1_copyFrom 22 = .ok (.aload_n 0, 1) := by decide +kernel
theorem dX1_copyFrom_23 : decode cX1_copyFrom 23 = .ok (.getfield 23, 3) := by decide +kernel
theorem dX1_copyFrom_26 : decode cX1_copyFrom 26 = .ok (.aload_n 1, 1) := by decide +kernel
theorem dX1_copyFrom_27 : decode cX1_copyFrom 27 = .ok (.getfield 23, 3) := by decide +kernel
theorem dX1_copyFrom_30 : decode cX1_copyFrom 30 = .ok (.invokevirtual 49, 3) := by decide +kernel
theorem dX1_copyFrom_33 : decode cX1_copyFrom 33 = .ok (.aload_n 0, 1) := by decide +kernel
theorem dX1_copyFrom_34 : decode cX1_copyFrom 34 = .ok (.getfield 26, 3) := by decide +kernel
theorem dX1_copyFrom_37 : decode cX1_copyFrom 37 = .ok (.aload_n 1, 1) := by decide +kernel
theorem dX1_copyFrom_38 : decode cX1_copyFrom 38 = .ok (.getfield 26, 3) := by decide +kernel
theorem dX1_copyFrom_41 : decode cX1_copyFrom 41 = .ok (.invokevirtual 49, 3) := by decide +kernel
theorem dX1_copyFrom_44 : decode cX1_copyFrom 44 = .ok (.aload_n 1, 1) := by decide +kernel
theorem dX1_copyFrom_45 : decode cX1_copyFrom 45 = .ok (.getfield 29, 3) := by decide +kernel
theorem dX1_copyFrom_48 : decode cX1_copyFrom 48 = .ok (.iconst 0, 1) := by decide +kernel
theorem dX1_copyFrom_49 : decode cX1_copyFrom 49 = .ok (.aload_n 0, 1) := by decide +kernel
theorem dX1_copyFrom_50 : decode cX1_copyFrom 50 = .ok (.getfield 29, 3) := by decide +kernel
theorem dX1_copyFrom_53 : decode cX1_copyFrom 53 = .ok (.iconst 0, 1) := by decide +kernel
theorem dX1_copyFrom_54 : decode cX1_copyFrom 54 = .ok (.bipush 6, 2) := by decide +kernel
theorem dX1_copyFrom_56 : decode cX1_copyFrom 56 = .ok (.invokestatic 53, 3) := by decide +kernel
theorem dX1_copyFrom_59 : decode cX1_copyFrom 59 = .ok (.aload_n 1, 1) := by decide +kernel
theorem dX1_copyFrom_60 : decode cX1_copyFrom 60 = .ok (.getfield 33, 3) := by decide +kernel
theorem dX1_copyFrom_63 : decode cX1_copyFrom 63 = .ok (.iconst 0, 1) := by decide +kernel
theorem dX1_copyFrom_64 : decode cX1_copyFrom 64 = .ok (.aload_n 0, 1) := by decide +kernel
theorem dX1_copyFrom_65 : decode cX1_copyFrom 65 = .ok (.getfield 33, 3) := by decide +kernel
theorem dX1_copyFrom_68 : decode cX1_copyFrom 68 = .ok (.iconst 0, 1) := by decide +kernel
theorem dX1_copyFrom_69 : decode cX1_copyFrom 69 = .ok (.iconst 5, 1) := by decide +kernel
theorem dX1_copyFrom_70 : decode cX1_copyFrom 70 = .ok (.invokestatic 53, 3) := by decide +kernel
theorem dX1_copyFrom_73 : decode cX1_copyFrom 73 = .ok (.aload_n 0, 1) := by decide +kernel
theorem dX1_copyFrom_74 : decode cX1_copyFrom 74 = .ok (.aload_n 1, 1) := by decide +kernel
theorem dX1_copyFrom_75 : decode cX1_copyFrom 75 = .ok (.getfield 36, 3) := by decide +kernel
theorem dX1_copyFrom_78 : decode cX1_copyFrom 78 = .ok (.putfield 36, 3) := by decide +kernel
theorem dX1_copyFrom_81 : decode cX1_copyFrom 81 = .ok (.aload_n 0, 1) := by decide +kernel
theorem dX1_copyFrom_82 : decode cX1_copyFrom 82 = .ok (.aload_n 1, 1) := by decide +kernel
theorem dX1_copyFrom_83 : decode cX1_copyFrom 83 = .ok (.getfield 40, 3) := by decide +kernel
theorem dX1_copyFrom_86 : decode cX1_copyFrom 86 = .ok (.putfield 40, 3) := by decide +kernel
theorem dX1_copyFrom_89 : decode cX1_copyFrom 89 = .ok (.aload_n 0, 1) := by decide +kernel
theorem dX1_copyFrom_90 : decode cX1_copyFrom 90 = .ok (.aload_n 1, 1) := by decide +kernel
theorem dX1_copyFrom_91 : decode cX1_copyFrom 91 = .ok (.getfield 43, 3) := by decide +kernel
theorem dX1_copyFrom_94 : decode cX1_copyFrom 94 = .ok (.putfield 43, 3) := by decide +kernel
theorem dX1_copyFrom_97 : decode cX1_copyFrom 97 = .ok (.aload_n 0, 1) := by decide +kernel
theorem dX1_copyFrom_98 : decode cX1_copyFrom 98 = .ok (.aload_n 1, 1) := by decide +kernel
theorem dX1_copyFrom_99 : decode cX1_copyFrom 99 = .ok (.getfield 46, 3) := by decide +kernel
theorem dX1_copyFrom_102 : decode cX1_copyFrom 102 = .ok (.putfield 46, 3) := by decide +kernel
theorem dX1_copyFrom_105 : decode cX1_copyFrom 105 = .ok (.return_, 1) := by decide +kernel
theorem dX1_standsIn_0 : decode cX1_standsIn 0 = .ok (.aload_n 0, 1) := by decide +kernel
theorem dX1_standsIn_1 : decode cX1_standsIn 1 = .ok (.getfield 14, 3) := by decide +kernel
theorem dX1_standsIn_4 : decode cX1_standsIn 4 = .ok (.iload_n 1, 1) := by decide +kernel
theorem dX1_standsIn_5 : decode cX1_standsIn 5 = .ok (.iconst 4, 1) := by decide +kernel
theorem dX1_standsIn_6 : decode cX1_standsIn 6 = .ok (.invokevirtual 59, 3) := by decide +kernel
theorem dX1_standsIn_9 : decode cX1_standsIn 9 = .ok (.iload_n 2, 1) := by decide +kernel
theorem dX1_standsIn_10 : decode cX1_standsIn 10 = .ok (.if_icmp .ne 7, 3) := by decide +kernel
theorem dX1_standsIn_13 : decode cX1_standsIn 13 = .ok (.iconst 1, 1) := by decide +kernel
theorem dX1_standsIn_14 : decode cX1_standsIn 14 = .ok (.goto 4, 3) := by decide +kernel
theorem dX1_standsIn_17 : decode cX1_standsIn 17 = .ok (.iconst 0, 1) := by decide +kernel
theorem dX1_standsIn_18 : decode cX1_standsIn 18 = .ok (.ireturn, 1) := by decide +kernel
theorem dX1_machinesStanding_0 : decode cX1_machinesStanding 0 = .ok (.iconst 0, 1) := by decide +kernel
theorem dX1_machinesStanding_1 : decode cX1_machinesStanding 1 = .ok (.istore_n 1, 1) := by decide +kernel
theorem dX1_machinesStanding_2 : decode cX1_machinesStanding 2 = .ok (.iconst 0, 1) := by decide +kernel
theorem dX1_machinesStanding_3 : decode cX1_machinesStanding 3 = .ok (.istore_n 2, 1) := by decide +kernel
theorem dX1_machinesStanding_4 : decode cX1_machinesStanding 4 = .ok (.iload_n 2, 1) := by decide +kernel
theorem dX1_machinesStanding_5 : decode cX1_machinesStanding 5 = .ok (.aload_n 0, 1) := by decide +kernel
theorem dX1_machinesStanding_6 : decode cX1_machinesStanding 6 = .ok (.getfield 14, 3) := by decide +kernel
theorem dX1_machinesStanding_9 : decode cX1_machinesStanding 9 = .ok (.getfield 63, 3) := by decide +kernel
theorem dX1_machinesStanding_12 : decode cX1_machinesStanding 12 = .ok (.if_icmp .ge 21, 3) := by decide +kernel
theorem dX1_machinesStanding_15 : decode cX1_machinesStanding 15 = .ok (.aload_n 0, 1) := by decide +kernel
theorem dX1_machinesStanding_16 : decode cX1_machinesStanding 16 = .ok (.iload_n 2, 1) := by decide +kernel
theorem dX1_machinesStanding_17 : decode cX1_machinesStanding 17 = .ok (.iconst (-1), 1) := by decide +kernel
theorem dX1_machinesStanding_18 : decode cX1_machinesStanding 18 = .ok (.invokevirtual 66, 3) := by decide +kernel
theorem dX1_machinesStanding_21 : decode cX1_machinesStanding 21 = .ok (.ifCond .ne 6, 3) := by decide +kernel
theorem dX1_machinesStanding_24 : decode cX1_machinesStanding 24 = .ok (.iinc 1 1, 3) := by decide +kernel
theorem dX1_machinesStanding_27 : decode cX1_machinesStanding 27 = .ok (.iinc 2 1, 3) := by decide +kernel
theorem dX1_machinesStanding_30 : decode cX1_machinesStanding 30 = .ok (.goto (-26), 3) := by decide +kernel
theorem dX1_machinesStanding_33 : decode cX1_machinesStanding 33 = .ok (.iload_n 1, 1) := by decide +kernel
theorem dX1_machinesStanding_34 : decode cX1_machinesStanding 34 = .ok (.ireturn, 1) := by decide +kernel
theorem dX1_machinesIn_0 : decode cX1_machinesIn 0 = .ok (.iconst 0, 1) := by decide +kernel
theorem dX1_machinesIn_1 : decode cX1_machinesIn 1 = .ok (.istore_n 2, 1) := by decide +kernel
theorem dX1_machinesIn_2 : decode cX1_machinesIn 2 = .ok (.iconst 0, 1) := by decide +kernel
theorem dX1_machinesIn_3 : decode cX1_machinesIn 3 = .ok (.istore_n 3, 1) := by decide +kernel
theorem dX1_machinesIn_4 : decode cX1_machinesIn 4 = .ok (.iload_n 3, 1) := by decide +kernel
theorem dX1_machinesIn_5 : decode cX1_machinesIn 5 = .ok (.aload_n 0, 1) := by decide +kernel
theorem dX1_machinesIn_6 : decode cX1_machinesIn 6 = .ok (.getfield 14, 3) := by decide +kernel
theorem dX1_machinesIn_9 : decode cX1_machinesIn 9 = .ok (.getfield 63, 3) := by decide +kernel
theorem dX1_machinesIn_12 : decode cX1_machinesIn 12 = .ok (.if_icmp .ge 21, 3) := by decide +kernel
theorem dX1_machinesIn_15 : decode cX1_machinesIn 15 = .ok (.aload_n 0, 1) := by decide +kernel
theorem dX1_machinesIn_16 : decode cX1_machinesIn 16 = .ok (.iload_n 3, 1) := by decide +kernel
theorem dX1_machinesIn_17 : decode cX1_machinesIn 17 = .ok (.iload_n 1, 1) := by decide +kernel
theorem dX1_machinesIn_18 : decode cX1_machinesIn 18 = .ok (.invokevirtual 66, 3) := by decide +kernel
theorem dX1_machinesIn_21 : decode cX1_machinesIn 21 = .ok (.ifCond .eq 6, 3) := by decide +kernel
theorem dX1_machinesIn_24 : decode cX1_machinesIn 24 = .ok (.iinc 2 1, 3) := by decide +kernel
theorem dX1_machinesIn_27 : decode cX1_machinesIn 27 = .ok (.iinc 3 1, 3) := by decide +kernel
theorem dX1_machinesIn_30 : decode cX1_machinesIn 30 = .ok (.goto (-26), 3) := by decide +kernel
theorem dX1_machinesIn_33 : decode cX1_machinesIn 33 = .ok (.iload_n 2, 1) := by decide +kernel
theorem dX1_machinesIn_34 : decode cX1_machinesIn 34 = .ok (.ireturn, 1) := by decide +kernel
theorem dX1_slotsTakenIn_0 : decode cX1_slotsTakenIn 0 = .ok (.iconst 0, 1) := by decide +kernel
theorem dX1_slotsTakenIn_1 : decode cX1_slotsTakenIn 1 = .ok (.istore_n 2, 1) := by decide +kernel
theorem dX1_slotsTakenIn_2 : decode cX1_slotsTakenIn 2 = .ok (.iconst 0, 1) := by decide +kernel
theorem dX1_slotsTakenIn_3 : decode cX1_slotsTakenIn 3 = .ok (.istore_n 3, 1) := by decide +kernel
theorem dX1_slotsTakenIn_4 : decode cX1_slotsTakenIn 4 = .ok (.iload_n 3, 1) := by decide +kernel
theorem dX1_slotsTakenIn_5 : decode cX1_slotsTakenIn 5 = .ok (.aload_n 0, 1) := by decide +kernel
theorem dX1_slotsTakenIn_6 : decode cX1_slotsTakenIn 6 = .ok (.getfield 14, 3) := by decide +kernel
theorem dX1_slotsTakenIn_9 : decode cX1_slotsTakenIn 9 = .ok (.getfield 63, 3) := by decide +kernel
theorem dX1_slotsTakenIn_12 : decode cX1_slotsTakenIn 12 = .ok (.if_icmp .ge 30, 3) := by decide +kernel
theorem dX1_slotsTakenIn_15 : decode cX1_slotsTakenIn 15 = .ok (.aload_n 0, 1) := by decide +kernel
theorem dX1_slotsTakenIn_16 : decode cX1_slotsTakenIn 16 = .ok (.iload_n 3, 1) := by decide +kernel
theorem dX1_slotsTakenIn_17 : decode cX1_slotsTakenIn 17 = .ok (.iload_n 1, 1) := by decide +kernel
theorem dX1_slotsTakenIn_18 : decode cX1_slotsTakenIn 18 = .ok (.invokevirtual 66, 3) := by decide +kernel
theorem dX1_slotsTakenIn_21 : decode cX1_slotsTakenIn 21 = .ok (.ifCond .eq 15, 3) := by decide +kernel
theorem dX1_slotsTakenIn_24 : decode cX1_slotsTakenIn 24 = .ok (.iload_n 2, 1) := by decide +kernel
theorem dX1_slotsTakenIn_25 : decode cX1_slotsTakenIn 25 = .ok (.aload_n 0, 1) := by decide +kernel
theorem dX1_slotsTakenIn_26 : decode cX1_slotsTakenIn 26 = .ok (.getfield 14, 3) := by decide +kernel
theorem dX1_slotsTakenIn_29 : decode cX1_slotsTakenIn 29 = .ok (.iload_n 3, 1) := by decide +kernel
theorem dX1_slotsTakenIn_30 : decode cX1_slotsTakenIn 30 = .ok (.iconst 0, 1) := by decide +kernel
theorem dX1_slotsTakenIn_31 : decode cX1_slotsTakenIn 31 = .ok (.invokevirtual 59, 3) := by decide +kernel
theorem dX1_slotsTakenIn_34 : decode cX1_slotsTakenIn 34 = .ok (.iadd, 1) := by decide +kernel
theorem dX1_slotsTakenIn_35 : decode cX1_slotsTakenIn 35 = .ok (.istore_n 2, 1) := by decide +kernel
theorem dX1_slotsTakenIn_36 : decode cX1_slotsTakenIn 36 = .ok (.iinc 3 1, 3) := by decide +kernel
theorem dX1_slotsTakenIn_39 : decode cX1_slotsTakenIn 39 = .ok (.goto (-35), 3) := by decide +kernel
theorem dX1_slotsTakenIn_42 : decode cX1_slotsTakenIn 42 = .ok (.iload_n 2, 1) := by decide +kernel
theorem dX1_slotsTakenIn_43 : decode cX1_slotsTakenIn 43 = .ok (.ireturn, 1) := by decide +kernel
theorem dX1_machineAt_0 : decode cX1_machineAt 0 = .ok (.aload_n 0, 1) := by decide +kernel
theorem dX1_machineAt_1 : decode cX1_machineAt 1 = .ok (.iload_n 1, 1) := by decide +kernel
theorem dX1_machineAt_2 : decode cX1_machineAt 2 = .ok (.iload_n 2, 1) := by decide +kernel
theorem dX1_machineAt_3 : decode cX1_machineAt 3 = .ok (.iconst 1, 1) := by decide +kernel
theorem dX1_machineAt_4 : decode cX1_machineAt 4 = .ok (.iconst (-1), 1) := by decide +kernel
theorem dX1_machineAt_5 : decode cX1_machineAt 5 = .ok (.invokevirtual 70, 3) := by decide +kernel
theorem dX1_machineAt_8 : decode cX1_machineAt 8 = .ok (.ireturn, 1) := by decide +kernel
theorem dX1_machineWithin_0 : decode cX1_machineWithin 0 = .ok (.iconst 0, 1) := by decide +kernel
theorem dX1_machineWithin_1 : decode cX1_machineWithin 1 = .ok (.istore 5, 2) := by decide +kernel
theorem dX1_machineWithin_3 : decode cX1_machineWithin 3 = .ok (.iload 5, 2) := by decide +kernel
theorem dX1_machineWithin_5 : decode cX1_machineWithin 5 = .ok (.aload_n 0, 1) := by decide +kernel
theorem dX1_machineWithin_6 : decode cX1_machineWithin 6 = .ok (.getfield 14, 3) := by decide +kernel
theorem dX1_machineWithin_9 : decode cX1_machineWithin 9 = .ok (.getfield 63, 3) := by decide +kernel
theorem dX1_machineWithin_12 : decode cX1_machineWithin 12 = .ok (.if_icmp .ge 70, 3) := by decide +kernel
theorem dX1_machineWithin_15 : decode cX1_machineWithin 15 = .ok (.iload 5, 2) := by decide +kernel
theorem dX1_machineWithin_17 : decode cX1_machineWithin 17 = .ok (.iload 4, 2) := by decide +kernel
theorem dX1_machineWithin_19 : decode cX1_machineWithin 19 = .ok (.if_icmp .eq 57, 3) := by decide +kernel
theorem dX1_machineWithin_22 : decode cX1_machineWithin 22 = .ok (.aload_n 0, 1) := by decide +kernel
theorem dX1_machineWithin_23 : decode cX1_machineWithin 23 = .ok (.iload 5, 2) := by decide +kernel
theorem dX1_machineWithin_25 : decode cX1_machineWithin 25 = .ok (.iload_n 1, 1) := by decide +kernel
theorem dX1_machineWithin_26 : decode cX1_machineWithin 26 = .ok (.invokevirtual 66, 3) := by decide +kernel
theorem dX1_machineWithin_29 : decode cX1_machineWithin 29 = .ok (.ifCond .eq 47, 3) := by decide +kernel
theorem dX1_machineWithin_32 : decode cX1_machineWithin 32 = .ok (.aload_n 0, 1) := by decide +kernel
theorem dX1_machineWithin_33 : decode cX1_machineWithin 33 = .ok (.getfield 14, 3) := by decide +kernel
theorem dX1_machineWithin_36 : decode cX1_machineWithin 36 = .ok (.iload 5, 2) := by decide +kernel
theorem dX1_machineWithin_38 : decode cX1_machineWithin 38 = .ok (.iconst 5, 1) := by decide +kernel
theorem dX1_machineWithin_39 : decode cX1_machineWithin 39 = .ok (.invokevirtual 59, 3) := by decide +kernel
theorem dX1_machineWithin_42 : decode cX1_machineWithin 42 = .ok (.istore 6, 2) := by decide +kernel
theorem dX1_machineWithin_44 : decode cX1_machineWithin 44 = .ok (.iload 6, 2) := by decide +kernel
theorem dX1_machineWithin_46 : decode cX1_machineWithin 46 = .ok (.aload_n 0, 1) := by decide +kernel
theorem dX1_machineWithin_47 : decode cX1_machineWithin 47 = .ok (.getfield 14, 3) := by decide +kernel
theorem dX1_machineWithin_50 : decode cX1_machineWithin 50 = .ok (.iload 5, 2) := by decide +kernel
theorem dX1_machineWithin_52 : decode cX1_machineWithin 52 = .ok (.iconst 0, 1) := by decide +kernel
theorem dX1_machineWithin_53 : decode cX1_machineWithin 53 = .ok (.invokevirtual 59, 3) := by decide +kernel
theorem dX1_machineWithin_56 : decode cX1_machineWithin 56 = .ok (.iadd, 1) := by decide +kernel
theorem dX1_machineWithin_57 : decode cX1_machineWithin 57 = .ok (.istore 7, 2) := by decide +kernel
theorem dX1_machineWithin_59 : decode cX1_machineWithin 59 = .ok (.iload 6, 2) := by decide +kernel
theorem dX1_machineWithin_61 : decode cX1_machineWithin 61 = .ok (.iload_n 2, 1) := by decide +kernel
theorem dX1_machineWithin_62 : decode cX1_machineWithin 62 = .ok (.iload_n 3, 1) := by decide +kernel
theorem dX1_machineWithin_63 : decode cX1_machineWithin 63 = .ok (.iadd, 1) := by decide +kernel
theorem dX1_machineWithin_64 : decode cX1_machineWithin 64 = .ok (.if_icmp .ge 12, 3) := by decide +kernel
theorem dX1_machineWithin_67 : decode cX1_machineWithin 67 = .ok (.iload_n 2, 1) := by decide +kernel
theorem dX1_machineWithin_68 : decode cX1_machineWithin 68 = .ok (.iload 7, 2) := by decide +kernel
theorem dX1_machineWithin_70 : decode cX1_machineWithin 70 = .ok (.if_icmp .ge 6, 3) := by decide +kernel
theorem dX1_machineWithin_73 : decode cX1_machineWithin 73 = .ok (.iload 5, 2) := by decide +kernel
theorem dX1_machineWithin_75 : decode cX1_machineWithin 75 = .ok (.ireturn, 1) := by decide +kernel
theorem dX1_machineWithin_76 : decode cX1_machineWithin 76 = .ok (.iinc 5 1, 3) := by decide +kernel
theorem dX1_machineWithin_79 : decode cX1_machineWithin 79 = .ok (.goto (-76), 3) := by decide +kernel
theorem dX1_machineWithin_82 : decode cX1_machineWithin 82 = .ok (.iconst (-1), 1) := by decide +kernel
theorem dX1_machineWithin_83 : decode cX1_machineWithin 83 = .ok (.ireturn, 1) := by decide +kernel
theorem dX1_lowestSlotFor_0 : decode cX1_lowestSlotFor 0 = .ok (.iconst 0, 1) := by decide +kernel
theorem dX1_lowestSlotFor_1 : decode cX1_lowestSlotFor 1 = .ok (.istore_n 3, 1) := by decide +kernel
theorem dX1_lowestSlotFor_2 : decode cX1_lowestSlotFor 2 = .ok (.iload_n 3, 1) := by decide +kernel
theorem dX1_lowestSlotFor_3 : decode cX1_lowestSlotFor 3 = .ok (.iload_n 2, 1) := by decide +kernel
theorem dX1_lowestSlotFor_4 : decode cX1_lowestSlotFor 4 = .ok (.iadd, 1) := by decide +kernel
theorem dX1_lowestSlotFor_5 : decode cX1_lowestSlotFor 5 = .ok (.bipush 10, 2) := by decide +kernel
theorem dX1_lowestSlotFor_7 : decode cX1_lowestSlotFor 7 = .ok (.if_icmp .gt 23, 3) := by decide +kernel
theorem dX1_lowestSlotFor_10 : decode cX1_lowestSlotFor 10 = .ok (.aload_n 0, 1) := by decide +kernel
theorem dX1_lowestSlotFor_11 : decode cX1_lowestSlotFor 11 = .ok (.iload_n 1, 1) := by decide +kernel
theorem dX1_lowestSlotFor_12 : decode cX1_lowestSlotFor 12 = .ok (.iload_n 3, 1) := by decide +kernel
theorem dX1_lowestSlotFor_13 : decode cX1_lowestSlotFor 13 = .ok (.iload_n 2, 1) := by decide +kernel
theorem dX1_lowestSlotFor_14 : decode cX1_lowestSlotFor 14 = .ok (.iconst (-1), 1) := by decide +kernel
theorem dX1_lowestSlotFor_15 : decode cX1_lowestSlotFor 15 = .ok (.invokevirtual 70, 3) := by decide +kernel
theorem dX1_lowestSlotFor_18 : decode cX1_lowestSlotFor 18 = .ok (.iconst (-1), 1) := by decide +kernel
theorem dX1_lowestSlotFor_19 : decode cX1_lowestSlotFor 19 = .ok (.if_icmp .ne 5, 3) := by decide +kernel
theorem dX1_lowestSlotFor_22 : decode cX1_lowestSlotFor 22 = .ok (.iload_n 3, 1) := by decide +kernel
theorem dX1_lowestSlotFor_23 : decode cX1_lowestSlotFor 23 = .ok (.ireturn, 1) := by decide +kernel
theorem dX1_lowestSlotFor_24 : decode cX1_lowestSlotFor 24 = .ok (.iinc 3 1, 3) := by decide +kernel
theorem dX1_lowestSlotFor_27 : decode cX1_lowestSlotFor 27 = .ok (.goto (-25), 3) := by decide +kernel
theorem dX1_lowestSlotFor_30 : decode cX1_lowestSlotFor 30 = .ok (.iconst (-1), 1) := by decide +kernel
theorem dX1_lowestSlotFor_31 : decode cX1_lowestSlotFor 31 = .ok (.ireturn, 1) := by decide +kernel
theorem dX1_greatestSizeFor_0 : decode cX1_greatestSizeFor 0 = .ok (.iconst 4, 1) := by decide +kernel
theorem dX1_greatestSizeFor_1 : decode cX1_greatestSizeFor 1 = .ok (.istore_n 2, 1) := by decide +kernel
theorem dX1_greatestSizeFor_2 : decode cX1_greatestSizeFor 2 = .ok (.iload_n 2, 1) := by decide +kernel
theorem dX1_greatestSizeFor_3 : decode cX1_greatestSizeFor 3 = .ok (.ifCond .le 21, 3) := by decide +kernel
theorem dX1_greatestSizeFor_6 : decode cX1_greatestSizeFor 6 = .ok (.aload_n 0, 1) := by decide +kernel
theorem dX1_greatestSizeFor_7 : decode cX1_greatestSizeFor 7 = .ok (.iload_n 1, 1) := by decide +kernel
theorem dX1_greatestSizeFor_8 : decode cX1_greatestSizeFor 8 = .ok (.iload_n 2, 1) := by decide +kernel
theorem dX1_greatestSizeFor_9 : decode cX1_greatestSizeFor 9 = .ok (.invokevirtual 74, 3) := by decide +kernel
theorem dX1_greatestSizeFor_12 : decode cX1_greatestSizeFor 12 = .ok (.iconst (-1), 1) := by decide +kernel
theorem dX1_greatestSizeFor_13 : decode cX1_greatestSizeFor 13 = .ok (.if_icmp .eq 5, 3) := by decide +kernel
theorem dX1_greatestSizeFor_16 : decode cX1_greatestSizeFor 16 = .ok (.iload_n 2, 1) := by decide +kernel
theorem dX1_greatestSizeFor_17 : decode cX1_greatestSizeFor 17 = .ok (.ireturn, 1) := by decide +kernel
theorem dX1_greatestSizeFor_18 : decode cX1_greatestSizeFor 18 = .ok (.iinc 2 (-1), 3) := by decide +kernel
theorem dX1_greatestSizeFor_21 : decode cX1_greatestSizeFor 21 = .ok (.goto (-19), 3) := by decide +kernel
theorem dX1_greatestSizeFor_24 : decode cX1_greatestSizeFor 24 = .ok (.iconst 0, 1) := by decide +kernel
theorem dX1_greatestSizeFor_25 : decode cX1_greatestSizeFor 25 = .ok (.ireturn, 1) := by decide +kernel
theorem dX1_loadOfRack_0 : decode cX1_loadOfRack 0 = .ok (.iconst 0, 1) := by decide +kernel
theorem dX1_loadOfRack_1 : decode cX1_loadOfRack 1 = .ok (.istore_n 2, 1) := by decide +kernel
theorem dX1_loadOfRack_2 : decode cX1_loadOfRack 2 = .ok (.iconst 0, 1) := by decide +kernel
theorem dX1_loadOfRack_3 : decode cX1_loadOfRack 3 = .ok (.istore_n 3, 1) := by decide +kernel
theorem dX1_loadOfRack_4 : decode cX1_loadOfRack 4 = .ok (.iload_n 3, 1) := by decide +kernel
theorem dX1_loadOfRack_5 : decode cX1_loadOfRack 5 = .ok (.aload_n 0, 1) := by decide +kernel
theorem dX1_loadOfRack_6 : decode cX1_loadOfRack 6 = .ok (.getfield 14, 3) := by decide +kernel
theorem dX1_loadOfRack_9 : decode cX1_loadOfRack 9 = .ok (.getfield 63, 3) := by decide +kernel
theorem dX1_loadOfRack_12 : decode cX1_loadOfRack 12 = .ok (.if_icmp .ge 30, 3) := by decide +kernel
theorem dX1_loadOfRack_15 : decode cX1_loadOfRack 15 = .ok (.aload_n 0, 1) := by decide +kernel
theorem dX1_loadOfRack_16 : decode cX1_loadOfRack 16 = .ok (.iload_n 3, 1) := by decide +kernel
theorem dX1_loadOfRack_17 : decode cX1_loadOfRack 17 = .ok (.iload_n 1, 1) := by decide +kernel
theorem dX1_loadOfRack_18 : decode cX1_loadOfRack 18 = .ok (.invokevirtual 66, 3) := by decide +kernel
theorem dX1_loadOfRack_21 : decode cX1_loadOfRack 21 = .ok (.ifCond .eq 15, 3) := by decide +kernel
theorem dX1_loadOfRack_24 : decode cX1_loadOfRack 24 = .ok (.iload_n 2, 1) := by decide +kernel
theorem dX1_loadOfRack_25 : decode cX1_loadOfRack 25 = .ok (.aload_n 0, 1) := by decide +kernel
theorem dX1_loadOfRack_26 : decode cX1_loadOfRack 26 = .ok (.getfield 14, 3) := by decide +kernel
theorem dX1_loadOfRack_29 : decode cX1_loadOfRack 29 = .ok (.iload_n 3, 1) := by decide +kernel
theorem dX1_loadOfRack_30 : decode cX1_loadOfRack 30 = .ok (.iconst 1, 1) := by decide +kernel
theorem dX1_loadOfRack_31 : decode cX1_loadOfRack 31 = .ok (.invokevirtual 59, 3) := by decide +kernel
theorem dX1_loadOfRack_34 : decode cX1_loadOfRack 34 = .ok (.iadd, 1) := by decide +kernel
theorem dX1_loadOfRack_35 : decode cX1_loadOfRack 35 = .ok (.istore_n 2, 1) := by decide +kernel
theorem dX1_loadOfRack_36 : decode cX1_loadOfRack 36 = .ok (.iinc 3 1, 3) := by decide +kernel
theorem dX1_loadOfRack_39 : decode cX1_loadOfRack 39 = .ok (.goto (-35), 3) := by decide +kernel
theorem dX1_loadOfRack_42 : decode cX1_loadOfRack 42 = .ok (.iload_n 2, 1) := by decide +kernel
theorem dX1_loadOfRack_43 : decode cX1_loadOfRack 43 = .ok (.ireturn, 1) := by decide +kernel
theorem dX1_loadOfRackOnPhase_0 : decode cX1_loadOfRackOnPhase 0 = .ok (.iconst 0, 1) := by decide +kernel
theorem dX1_loadOfRackOnPhase_1 : decode cX1_loadOfRackOnPhase 1 = .ok (.istore_n 3, 1) := by decide +kernel
theorem dX1_loadOfRackOnPhase_2 : decode cX1_loadOfRackOnPhase 2 = .ok (.iconst 0, 1) := by decide +kernel
theorem dX1_loadOfRackOnPhase_3 : decode cX1_loadOfRackOnPhase 3 = .ok (.istore 4, 2) := by decide +kernel
theorem dX1_loadOfRackOnPhase_5 : decode cX1_loadOfRackOnPhase 5 = .ok (.iload 4, 2) := by decide +kernel
theorem dX1_loadOfRackOnPhase_7 : decode cX1_loadOfRackOnPhase 7 = .ok (.aload_n 0, 1) := by decide +kernel
theorem dX1_loadOfRackOnPhase_8 : decode cX1_loadOfRackOnPhase 8 = .ok (.getfield 14, 3) := by decide +kernel
theorem dX1_loadOfRackOnPhase_11 : decode cX1_loadOfRackOnPhase 11 = .ok (.getfield 63, 3) := by decide +kernel
theorem dX1_loadOfRackOnPhase_14 : decode cX1_loadOfRackOnPhase 14 = .ok (.if_icmp .ge 46, 3) := by decide +kernel
theorem dX1_loadOfRackOnPhase_17 : decode cX1_loadOfRackOnPhase 17 = .ok (.aload_n 0, 1) := by decide +kernel
theorem dX1_loadOfRackOnPhase_18 : decode cX1_loadOfRackOnPhase 18 = .ok (.iload 4, 2) := by decide +kernel
theorem dX1_loadOfRackOnPhase_20 : decode cX1_loadOfRackOnPhase 20 = .ok (.iload_n 1, 1) := by decide +kernel
theorem dX1_loadOfRackOnPhase_21 : decode cX1_loadOfRackOnPhase 21 = .ok (.invokevirtual 66, 3) := by decide +kernel
theorem dX1_loadOfRackOnPhase_24 : decode cX1_loadOfRackOnPhase 24 = .ok (.ifCond .eq 30, 3) := by decide +kernel
theorem dX1_loadOfRackOnPhase_27 : decode cX1_loadOfRackOnPhase 27 = .ok (.aload_n 0, 1) := by decide +kernel
theorem dX1_loadOfRackOnPhase_28 : decode cX1_loadOfRackOnPhase 28 = .ok (.getfield 14, 3) := by decide +kernel
theorem dX1_loadOfRackOnPhase_31 : decode cX1_loadOfRackOnPhase 31 = .ok (.iload 4, 2) := by decide +kernel
theorem dX1_loadOfRackOnPhase_33 : decode cX1_loadOfRackOnPhase 33 = .ok (.iconst 2, 1) := by decide +kernel
theorem dX1_loadOfRackOnPhase_34 : decode cX1_loadOfRackOnPhase 34 = .ok (.invokevirtual 59, 3) := by decide +kernel
theorem dX1_loadOfRackOnPhase_37 : decode cX1_loadOfRackOnPhase 37 = .ok (.iload_n 2, 1) := by decide +kernel
theorem dX1_loadOfRackOnPhase_38 : decode cX1_loadOfRackOnPhase 38 = .ok (.if_icmp .ne 16, 3) := by decide +kernel
theorem dX1_loadOfRackOnPhase_41 : decode cX1_loadOfRackOnPhase 41 = .ok (.iload_n 3, 1) := by decide +kernel
theorem dX1_loadOfRackOnPhase_42 : decode cX1_loadOfRackOnPhase 42 = .ok (.aload_n 0, 1) := by decide +kernel
theorem dX1_loadOfRackOnPhase_43 : decode cX1_loadOfRackOnPhase 43 = .ok (.getfield 14, 3) := by decide +kernel
theorem dX1_loadOfRackOnPhase_46 : decode cX1_loadOfRackOnPhase 46 = .ok (.iload 4, 2) := by decide +kernel
theorem dX1_loadOfRackOnPhase_48 : decode cX1_loadOfRackOnPhase 48 = .ok (.iconst 1, 1) := by decide +kernel
theorem dX1_loadOfRackOnPhase_49 : decode cX1_loadOfRackOnPhase 49 = .ok (.invokevirtual 59, 3) := by decide +kernel
theorem dX1_loadOfRackOnPhase_52 : decode cX1_loadOfRackOnPhase 52 = .ok (.iadd, 1) := by decide +kernel
theorem dX1_loadOfRackOnPhase_53 : decode cX1_loadOfRackOnPhase 53 = .ok (.istore_n 3, 1) := by decide +kernel
theorem dX1_loadOfRackOnPhase_54 : decode cX1_loadOfRackOnPhase 54 = .ok (.iinc 4 1, 3) := by decide +kernel
theorem dX1_loadOfRackOnPhase_57 : decode cX1_loadOfRackOnPhase 57 = .ok (.goto (-52), 3) := by decide +kernel
theorem dX1_loadOfRackOnPhase_60 : decode cX1_loadOfRackOnPhase 60 = .ok (.iload_n 3, 1) := by decide +kernel
theorem dX1_loadOfRackOnPhase_61 : decode cX1_loadOfRackOnPhase 61 = .ok (.ireturn, 1) := by decide +kernel
theorem dX1_loadOfPhase_0 : decode cX1_loadOfPhase 0 = .ok (.iconst 0, 1) := by decide +kernel
theorem dX1_loadOfPhase_1 : decode cX1_loadOfPhase 1 = .ok (.istore_n 2, 1) := by decide +kernel
theorem dX1_loadOfPhase_2 : decode cX1_loadOfPhase 2 = .ok (.iconst 0, 1) := by decide +kernel
theorem dX1_loadOfPhase_3 : decode cX1_loadOfPhase 3 = .ok (.istore_n 3, 1) := by decide +kernel
theorem dX1_loadOfPhase_4 : decode cX1_loadOfPhase 4 = .ok (.iload_n 3, 1) := by decide +kernel
theorem dX1_loadOfPhase_5 : decode cX1_loadOfPhase 5 = .ok (.aload_n 0, 1) := by decide +kernel
theorem dX1_loadOfPhase_6 : decode cX1_loadOfPhase 6 = .ok (.getfield 14, 3) := by decide +kernel
theorem dX1_loadOfPhase_9 : decode cX1_loadOfPhase 9 = .ok (.getfield 63, 3) := by decide +kernel
theorem dX1_loadOfPhase_12 : decode cX1_loadOfPhase 12 = .ok (.if_icmp .ge 47, 3) := by decide +kernel
theorem dX1_loadOfPhase_15 : decode cX1_loadOfPhase 15 = .ok (.aload_n 0, 1) := by decide +kernel
theorem dX1_loadOfPhase_16 : decode cX1_loadOfPhase 16 = .ok (.getfield 14, 3) := by decide +kernel
theorem dX1_loadOfPhase_19 : decode cX1_loadOfPhase 19 = .ok (.iload_n 3, 1) := by decide +kernel
theorem dX1_loadOfPhase_20 : decode cX1_loadOfPhase 20 = .ok (.iconst 2, 1) := by decide +kernel
theorem dX1_loadOfPhase_21 : decode cX1_loadOfPhase 21 = .ok (.invokevirtual 59, 3) := by decide +kernel
theorem dX1_loadOfPhase_24 : decode cX1_loadOfPhase 24 = .ok (.iload_n 1, 1) := by decide +kernel
theorem dX1_loadOfPhase_25 : decode cX1_loadOfPhase 25 = .ok (.if_icmp .ne 28, 3) := by decide +kernel
theorem dX1_loadOfPhase_28 : decode cX1_loadOfPhase 28 = .ok (.aload_n 0, 1) := by decide +kernel
theorem dX1_loadOfPhase_29 : decode cX1_loadOfPhase 29 = .ok (.getfield 14, 3) := by decide +kernel
theorem dX1_loadOfPhase_32 : decode cX1_loadOfPhase 32 = .ok (.iload_n 3, 1) := by decide +kernel
theorem dX1_loadOfPhase_33 : decode cX1_loadOfPhase 33 = .ok (.iconst 4, 1) := by decide +kernel
theorem dX1_loadOfPhase_34 : decode cX1_loadOfPhase 34 = .ok (.invokevirtual 59, 3) := by decide +kernel
theorem dX1_loadOfPhase_37 : decode cX1_loadOfPhase 37 = .ok (.iconst (-1), 1) := by decide +kernel
theorem dX1_loadOfPhase_38 : decode cX1_loadOfPhase 38 = .ok (.if_icmp .eq 15, 3) := by decide +kernel
theorem dX1_loadOfPhase_41 : decode cX1_loadOfPhase 41 = .ok (.iload_n 2, 1) := by decide +kernel
theorem dX1_loadOfPhase_42 : decode cX1_loadOfPhase 42 = .ok (.aload_n 0, 1) := by decide +kernel
theorem dX1_loadOfPhase_43 : decode cX1_loadOfPhase 43 = .ok (.getfield 14, 3) := by decide +kernel
theorem dX1_loadOfPhase_46 : decode cX1_loadOfPhase 46 = .ok (.iload_n 3, 1) := by decide +kernel
theorem dX1_loadOfPhase_47 : decode cX1_loadOfPhase 47 = .ok (.iconst 1, 1) := by decide +kernel
theorem dX1_loadOfPhase_48 : decode cX1_loadOfPhase 48 = .ok (.invokevirtual 59, 3) := by decide +kernel
theorem dX1_loadOfPhase_51 : decode cX1_loadOfPhase 51 = .ok (.iadd, 1) := by decide +kernel
theorem dX1_loadOfPhase_52 : decode cX1_loadOfPhase 52 = .ok (.istore_n 2, 1) := by decide +kernel
theorem dX1_loadOfPhase_53 : decode cX1_loadOfPhase 53 = .ok (.iinc 3 1, 3) := by decide +kernel
theorem dX1_loadOfPhase_56 : decode cX1_loadOfPhase 56 = .ok (.goto (-52), 3) := by decide +kernel
theorem dX1_loadOfPhase_59 : decode cX1_loadOfPhase 59 = .ok (.iload_n 2, 1) := by decide +kernel
theorem dX1_loadOfPhase_60 : decode cX1_loadOfPhase 60 = .ok (.ireturn, 1) := by decide +kernel
theorem dX1_difference_0 : decode cX1_difference 0 = .ok (.aload_n 0, 1) := by decide +kernel
theorem dX1_difference_1 : decode cX1_difference 1 = .ok (.iconst 0, 1) := by decide +kernel
theorem dX1_difference_2 : decode cX1_difference 2 = .ok (.invokevirtual 77, 3) := by decide +kernel
theorem dX1_difference_5 : decode cX1_difference 5 = .ok (.istore_n 1, 1) := by decide +kernel
theorem dX1_difference_6 : decode cX1_difference 6 = .ok (.iload_n 1, 1) := by decide +kernel
theorem dX1_difference_7 : decode cX1_difference 7 = .ok (.istore_n 2, 1) := by decide +kernel
theorem dX1_difference_8 : decode cX1_difference 8 = .ok (.iconst 1, 1) := by decide +kernel
theorem dX1_difference_9 : decode cX1_difference 9 = .ok (.istore_n 3, 1) := by decide +kernel
theorem dX1_difference_10 : decode cX1_difference 10 = .ok (.iload_n 3, 1) := by decide +kernel
theorem dX1_difference_11 : decode cX1_difference 11 = .ok (.iconst 3, 1) := by decide +kernel
theorem dX1_difference_12 : decode cX1_difference 12 = .ok (.if_icmp .ge 30, 3) := by decide +kernel
theorem dX1_difference_15 : decode cX1_difference 15 = .ok (.aload_n 0, 1) := by decide +kernel
theorem dX1_difference_16 : decode cX1_difference 16 = .ok (.iload_n 3, 1) := by decide +kernel
theorem dX1_difference_17 : decode cX1_difference 17 = .ok (.invokevirtual 77, 3) := by decide +kernel
theorem dX1_difference_20 : decode cX1_difference 20 = .ok (.istore 4, 2) := by decide +kernel
theorem dX1_difference_22 : decode cX1_difference 22 = .ok (.iload_n 1, 1) := by decide +kernel
theorem dX1_difference_23 : decode cX1_difference 23 = .ok (.iload 4, 2) := by decide +kernel
theorem dX1_difference_25 : decode cX1_difference 25 = .ok (.invokestatic 81, 3) := by decide +kernel
theorem dX1_difference_28 : decode cX1_difference 28 = .ok (.istore_n 1, 1) := by decide +kernel
theorem dX1_difference_29 : decode cX1_difference 29 = .ok (.iload_n 2, 1) := by decide +kernel
theorem dX1_difference_30 : decode cX1_difference 30 = .ok (.iload 4, 2) := by decide +kernel
theorem dX1_difference_32 : decode cX1_difference 32 = .ok (.invokestatic 86, 3) := by decide +kernel
theorem dX1_difference_35 : decode cX1_difference 35 = .ok (.istore_n 2, 1) := by decide +kernel
theorem dX1_difference_36 : decode cX1_difference 36 = .ok (.iinc 3 1, 3) := by decide +kernel
theorem dX1_difference_39 : decode cX1_difference 39 = .ok (.goto (-29), 3) := by decide +kernel
theorem dX1_difference_42 : decode cX1_difference 42 = .ok (.iload_n 1, 1) := by decide +kernel
theorem dX1_difference_43 : decode cX1_difference 43 = .ok (.iload_n 2, 1) := by decide +kernel
theorem dX1_difference_44 : decode cX1_difference 44 = .ok (.isub, 1) := by decide +kernel
theorem dX1_difference_45 : decode cX1_difference 45 = .ok (.ireturn, 1) := by decide +kernel
theorem dX1_differenceWith_0 : decode cX1_differenceWith 0 = .ok (.aload_n 0, 1) := by decide +kernel
theorem dX1_differenceWith_1 : decode cX1_differenceWith 1 = .ok (.getfield 14, 3) := by decide +kernel
theorem dX1_differenceWith_4 : decode cX1_differenceWith 4 = .ok (.iload_n 1, 1) := by decide +kernel
theorem dX1_differenceWith_5 : decode cX1_differenceWith 5 = .ok (.iconst 2, 1) := by decide +kernel
theorem dX1_differenceWith_6 : decode cX1_differenceWith 6 = .ok (.invokevirtual 59, 3) := by decide +kernel
theorem dX1_differenceWith_9 : decode cX1_differenceWith 9 = .ok (.istore_n 3, 1) := by decide +kernel
theorem dX1_differenceWith_10 : decode cX1_differenceWith 10 = .ok (.aload_n 0, 1) := by decide +kernel
theorem dX1_differenceWith_11 : decode cX1_differenceWith 11 = .ok (.getfield 14, 3) := by decide +kernel
theorem dX1_differenceWith_14 : decode cX1_differenceWith 14 = .ok (.iload_n 1, 1) := by decide +kernel
theorem dX1_differenceWith_15 : decode cX1_differenceWith 15 = .ok (.iconst 2, 1) := by decide +kernel
theorem dX1_differenceWith_16 : decode cX1_differenceWith 16 = .ok (.iload_n 2, 1) := by decide +kernel
theorem dX1_differenceWith_17 : decode cX1_differenceWith 17 = .ok (.invokevirtual 89, 3) := by decide +kernel
theorem dX1_differenceWith_20 : decode cX1_differenceWith 20 = .ok (.aload_n 0, 1) := by decide +kernel
theorem dX1_differenceWith_21 : decode cX1_differenceWith 21 = .ok (.invokevirtual 93, 3) := by decide +kernel
theorem dX1_differenceWith_24 : decode cX1_differenceWith 24 = .ok (.istore 4, 2) := by decide +kernel
theorem dX1_differenceWith_26 : decode cX1_differenceWith 26 = .ok (.aload_n 0, 1) := by decide +kernel
theorem dX1_differenceWith_27 : decode cX1_differenceWith 27 = .ok (.getfield 14, 3) := by decide +kernel
theorem dX1_differenceWith_30 : decode cX1_differenceWith 30 = .ok (.iload_n 1, 1) := by decide +kernel
theorem dX1_differenceWith_31 : decode cX1_differenceWith 31 = .ok (.iconst 2, 1) := by decide +kernel
theorem dX1_differenceWith_32 : decode cX1_differenceWith 32 = .ok (.iload_n 3, 1) := by decide +kernel
theorem dX1_differenceWith_33 : decode cX1_differenceWith 33 = .ok (.invokevirtual 89, 3) := by decide +kernel
theorem dX1_differenceWith_36 : decode cX1_differenceWith 36 = .ok (.iload 4, 2) := by decide +kernel
theorem dX1_differenceWith_38 : decode cX1_differenceWith 38 = .ok (.ireturn, 1) := by decide +kernel
theorem dX1_fullestLoadWith_0 : decode cX1_fullestLoadWith 0 = .ok (.aload_n 0, 1) := by decide +kernel
theorem dX1_fullestLoadWith_1 : decode cX1_fullestLoadWith 1 = .ok (.getfield 14, 3) := by decide +kernel
theorem dX1_fullestLoadWith_4 : decode cX1_fullestLoadWith 4 = .ok (.iload_n 1, 1) := by decide +kernel
theorem dX1_fullestLoadWith_5 : decode cX1_fullestLoadWith 5 = .ok (.iconst 1, 1) := by decide +kernel
theorem dX1_fullestLoadWith_6 : decode cX1_fullestLoadWith 6 = .ok (.invokevirtual 59, 3) := by decide +kernel
theorem dX1_fullestLoadWith_9 : decode cX1_fullestLoadWith 9 = .ok (.istore_n 3, 1) := by decide +kernel
theorem dX1_fullestLoadWith_10 : decode cX1_fullestLoadWith 10 = .ok (.iconst 0, 1) := by decide +kernel
theorem dX1_fullestLoadWith_11 : decode cX1_fullestLoadWith 11 = .ok (.istore 4, 2) := by decide +kernel
theorem dX1_fullestLoadWith_13 : decode cX1_fullestLoadWith 13 = .ok (.iconst 0, 1) := by decide +kernel
theorem dX1_fullestLoadWith_14 : decode cX1_fullestLoadWith 14 = .ok (.istore 5, 2) := by decide +kernel
theorem dX1_fullestLoadWith_16 : decode cX1_fullestLoadWith 16 = .ok (.iload 5, 2) := by decide +kernel
theorem dX1_fullestLoadWith_18 : decode cX1_fullestLoadWith 18 = .ok (.bipush 6, 2) := by decide +kernel
theorem dX1_fullestLoadWith_20 : decode cX1_fullestLoadWith 20 = .ok (.if_icmp .ge 54, 3) := by decide +kernel
theorem dX1_fullestLoadWith_23 : decode cX1_fullestLoadWith 23 = .ok (.aload_n 0, 1) := by decide +kernel
theorem dX1_fullestLoadWith_24 : decode cX1_fullestLoadWith 24 = .ok (.iload 5, 2) := by decide +kernel
theorem dX1_fullestLoadWith_26 : decode cX1_fullestLoadWith 26 = .ok (.invokevirtual 97, 3) := by decide +kernel
theorem dX1_fullestLoadWith_29 : decode cX1_fullestLoadWith 29 = .ok (.istore 6, 2) := by decide +kernel
theorem dX1_fullestLoadWith_31 : decode cX1_fullestLoadWith 31 = .ok (.aload_n 0, 1) := by decide +kernel
theorem dX1_fullestLoadWith_32 : decode cX1_fullestLoadWith 32 = .ok (.iload_n 1, 1) := by decide +kernel
theorem dX1_fullestLoadWith_33 : decode cX1_fullestLoadWith 33 = .ok (.iload 5, 2) := by decide +kernel
theorem dX1_fullestLoadWith_35 : decode cX1_fullestLoadWith 35 = .ok (.invokevirtual 66, 3) := by decide +kernel
theorem dX1_fullestLoadWith_38 : decode cX1_fullestLoadWith 38 = .ok (.ifCond .eq 9, 3) := by decide +kernel
theorem dX1_fullestLoadWith_41 : decode cX1_fullestLoadWith 41 = .ok (.iload 6, 2) := by decide +kernel
theorem dX1_fullestLoadWith_43 : decode cX1_fullestLoadWith 43 = .ok (.iload_n 3, 1) := by decide +kernel
theorem dX1_fullestLoadWith_44 : decode cX1_fullestLoadWith 44 = .ok (.isub, 1) := by decide +kernel
theorem dX1_fullestLoadWith_45 : decode cX1_fullestLoadWith 45 = .ok (.istore 6, 2) := by decide +kernel
theorem dX1_fullestLoadWith_47 : decode cX1_fullestLoadWith 47 = .ok (.iload 5, 2) := by decide +kernel
theorem dX1_fullestLoadWith_49 : decode cX1_fullestLoadWith 49 = .ok (.iload_n 2, 1) := by decide +kernel
theorem dX1_fullestLoadWith_50 : decode cX1_fullestLoadWith 50 = .ok (.if_icmp .ne 9, 3) := by decide +kernel
theorem dX1_fullestLoadWith_53 : decode cX1_fullestLoadWith 53 = .ok (.iload 6, 2) := by decide +kernel
theorem dX1_fullestLoadWith_55 : decode cX1_fullestLoadWith 55 = .ok (.iload_n 3, 1) := by decide +kernel
theorem dX1_fullestLoadWith_56 : decode cX1_fullestLoadWith 56 = .ok (.iadd, 1) := by decide +kernel
theorem dX1_fullestLoadWith_57 : decode cX1_fullestLoadWith 57 = .ok (.istore 6, 2) := by decide +kernel
theorem dX1_fullestLoadWith_59 : decode cX1_fullestLoadWith 59 = .ok (.iload 4, 2) := by decide +kernel
theorem dX1_fullestLoadWith_61 : decode cX1_fullestLoadWith 61 = .ok (.iload 6, 2) := by decide +kernel
theorem dX1_fullestLoadWith_63 : decode cX1_fullestLoadWith 63 = .ok (.invokestatic 81, 3) := by decide +kernel
theorem dX1_fullestLoadWith_66 : decode cX1_fullestLoadWith 66 = .ok (.istore 4, 2) := by decide +kernel
theorem dX1_fullestLoadWith_68 : decode cX1_fullestLoadWith 68 = .ok (.iinc 5 1, 3) := by decide +kernel
theorem dX1_fullestLoadWith_71 : decode cX1_fullestLoadWith 71 = .ok (.goto (-55), 3) := by decide +kernel
theorem dX1_fullestLoadWith_74 : decode cX1_fullestLoadWith 74 = .ok (.iload 4, 2) := by decide +kernel
theorem dX1_fullestLoadWith_76 : decode cX1_fullestLoadWith 76 = .ok (.ireturn, 1) := by decide +kernel
theorem dX1_cablesOf_0 : decode cX1_cablesOf 0 = .ok (.iconst 0, 1) := by decide +kernel
theorem dX1_cablesOf_1 : decode cX1_cablesOf 1 = .ok (.istore_n 2, 1) := by decide +kernel
theorem dX1_cablesOf_2 : decode cX1_cablesOf 2 = .ok (.iconst 0, 1) := by decide +kernel
theorem dX1_cablesOf_3 : decode cX1_cablesOf 3 = .ok (.istore_n 3, 1) := by decide +kernel
theorem dX1_cablesOf_4 : decode cX1_cablesOf 4 = .ok (.iload_n 3, 1) := by decide +kernel
theorem dX1_cablesOf_5 : decode cX1_cablesOf 5 = .ok (.aload_n 0, 1) := by decide +kernel
theorem dX1_cablesOf_6 : decode cX1_cablesOf 6 = .ok (.getfield 20, 3) := by decide +kernel
theorem dX1_cablesOf_9 : decode cX1_cablesOf 9 = .ok (.getfield 63, 3) := by decide +kernel
theorem dX1_cablesOf_12 : decode cX1_cablesOf 12 = .ok (.if_icmp .ge 38, 3) := by decide +kernel
theorem dX1_cablesOf_15 : decode cX1_cablesOf 15 = .ok (.aload_n 0, 1) := by decide +kernel
theorem dX1_cablesOf_16 : decode cX1_cablesOf 16 = .ok (.getfield 20, 3) := by decide +kernel
theorem dX1_cablesOf_19 : decode cX1_cablesOf 19 = .ok (.iload_n 3, 1) := by decide +kernel
theorem dX1_cablesOf_20 : decode cX1_cablesOf 20 = .ok (.iconst 0, 1) := by decide +kernel
theorem dX1_cablesOf_21 : decode cX1_cablesOf 21 = .ok (.invokevirtual 59, 3) := by decide +kernel
theorem dX1_cablesOf_24 : decode cX1_cablesOf 24 = .ok (.iload_n 1, 1) := by decide +kernel
theorem dX1_cablesOf_25 : decode cX1_cablesOf 25 = .ok (.if_icmp .eq 16, 3) := by decide +kernel
theorem dX1_cablesOf_28 : decode cX1_cablesOf 28 = .ok (.aload_n 0, 1) := by decide +kernel
theorem dX1_cablesOf_29 : decode cX1_cablesOf 29 = .ok (.getfield 20, 3) := by decide +kernel
theorem dX1_cablesOf_32 : decode cX1_cablesOf 32 = .ok (.iload_n 3, 1) := by decide +kernel
theorem dX1_cablesOf_33 : decode cX1_cablesOf 33 = .ok (.iconst 1, 1) := by decide +kernel
theorem dX1_cablesOf_34 : decode cX1_cablesOf 34 = .ok (.invokevirtual 59, 3) := by decide +kernel
theorem dX1_cablesOf_37 : decode cX1_cablesOf 37 = .ok (.iload_n 1, 1) := by decide +kernel
theorem dX1_cablesOf_38 : decode cX1_cablesOf 38 = .ok (.if_icmp .ne 6, 3) := by decide +kernel
theorem dX1_cablesOf_41 : decode cX1_cablesOf 41 = .ok (.iinc 2 1, 3) := by decide +kernel
theorem dX1_cablesOf_44 : decode cX1_cablesOf 44 = .ok (.iinc 3 1, 3) := by decide +kernel
theorem dX1_cablesOf_47 : decode cX1_cablesOf 47 = .ok (.goto (-43), 3) := by decide +kernel
theorem dX1_cablesOf_50 : decode cX1_cablesOf 50 = .ok (.iload_n 2, 1) := by decide +kernel
theorem dX1_cablesOf_51 : decode cX1_cablesOf 51 = .ok (.ireturn, 1) := by decide +kernel
theorem dX1_rackOfEnd_0 : decode cX1_rackOfEnd 0 = .ok (.aload_n 0, 1) := by decide +kernel
theorem dX1_rackOfEnd_1 : decode cX1_rackOfEnd 1 = .ok (.getfield 14, 3) := by decide +kernel
theorem dX1_rackOfEnd_4 : decode cX1_rackOfEnd 4 = .ok (.aload_n 0, 1) := by decide +kernel
theorem dX1_rackOfEnd_5 : decode cX1_rackOfEnd 5 = .ok (.getfield 20, 3) := by decide +kernel
theorem dX1_rackOfEnd_8 : decode cX1_rackOfEnd 8 = .ok (.iload_n 1, 1) := by decide +kernel
theorem dX1_rackOfEnd_9 : decode cX1_rackOfEnd 9 = .ok (.iload_n 2, 1) := by decide +kernel
theorem dX1_rackOfEnd_10 : decode cX1_rackOfEnd 10 = .ok (.invokevirtual 59, 3) := by decide +kernel
theorem dX1_rackOfEnd_13 : decode cX1_rackOfEnd 13 = .ok (.iconst 4, 1) := by decide +kernel
theorem dX1_rackOfEnd_14 : decode cX1_rackOfEnd 14 = .ok (.invokevirtual 59, 3) := by decide +kernel
theorem dX1_rackOfEnd_17 : decode cX1_rackOfEnd 17 = .ok (.ireturn, 1) := by decide +kernel
theorem dX1_needOfCable_0 : decode cX1_needOfCable 0 = .ok (.aload_n 0, 1) := by decide +kernel
theorem dX1_needOfCable_1 : decode cX1_needOfCable 1 = .ok (.iload_n 1, 1) := by decide +kernel
theorem dX1_needOfCable_2 : decode cX1_needOfCable 2 = .ok (.iconst 0, 1) := by decide +kernel
theorem dX1_needOfCable_3 : decode cX1_needOfCable 3 = .ok (.invokevirtual 100, 3) := by decide +kernel
theorem dX1_needOfCable_6 : decode cX1_needOfCable 6 = .ok (.istore_n 2, 1) := by decide +kernel
theorem dX1_needOfCable_7 : decode cX1_needOfCable 7 = .ok (.aload_n 0, 1) := by decide +kernel
theorem dX1_needOfCable_8 : decode cX1_needOfCable 8 = .ok (.iload_n 1, 1) := by decide +kernel
theorem dX1_needOfCable_9 : decode cX1_needOfCable 9 = .ok (.iconst 1, 1) := by decide +kernel
theorem dX1_needOfCable_10 : decode cX1_needOfCable 10 = .ok (.invokevirtual 100, 3) := by decide +kernel
theorem dX1_needOfCable_13 : decode cX1_needOfCable 13 = .ok (.istore_n 3, 1) := by decide +kernel
theorem dX1_needOfCable_14 : decode cX1_needOfCable 14 = .ok (.iload_n 2, 1) := by decide +kernel
theorem dX1_needOfCable_15 : decode cX1_needOfCable 15 = .ok (.iconst (-1), 1) := by decide +kernel
theorem dX1_needOfCable_16 : decode cX1_needOfCable 16 = .ok (.if_icmp .eq 8, 3) := by decide +kernel
theorem dX1_needOfCable_19 : decode cX1_needOfCable 19 = .ok (.iload_n 3, 1) := by decide +kernel
theorem dX1_needOfCable_20 : decode cX1_needOfCable 20 = .ok (.iconst (-1), 1) := by decide +kernel
theorem dX1_needOfCable_21 : decode cX1_needOfCable 21 = .ok (.if_icmp .ne 5, 3) := by decide +kernel
theorem dX1_needOfCable_24 : decode cX1_needOfCable 24 = .ok (.iconst 0, 1) := by decide +kernel
theorem dX1_needOfCable_25 : decode cX1_needOfCable 25 = .ok (.ireturn, 1) := by decide +kernel
theorem dX1_needOfCable_26 : decode cX1_needOfCable 26 = .ok (.iconst 2, 1) := by decide +kernel
theorem dX1_needOfCable_27 : decode cX1_needOfCable 27 = .ok (.iconst 3, 1) := by decide +kernel
theorem dX1_needOfCable_28 : decode cX1_needOfCable 28 = .ok (.iload_n 2, 1) := by decide +kernel
theorem dX1_needOfCable_29 : decode cX1_needOfCable 29 = .ok (.iload_n 3, 1) := by decide +kernel
theorem dX1_needOfCable_30 : decode cX1_needOfCable 30 = .ok (.isub, 1) := by decide +kernel
theorem dX1_needOfCable_31 : decode cX1_needOfCable 31 = .ok (.invokestatic 103, 3) := by decide +kernel
theorem dX1_needOfCable_34 : decode cX1_needOfCable 34 = .ok (.imul, 1) := by decide +kernel
theorem dX1_needOfCable_35 : decode cX1_needOfCable 35 = .ok (.iadd, 1) := by decide +kernel
theorem dX1_needOfCable_36 : decode cX1_needOfCable 36 = .ok (.ireturn, 1) := by decide +kernel
theorem dX1_cablesInTray_0 : decode cX1_cablesInTray 0 = .ok (.iconst 0, 1) := by decide +kernel
theorem dX1_cablesInTray_1 : decode cX1_cablesInTray 1 = .ok (.istore_n 2, 1) := by decide +kernel
theorem dX1_cablesInTray_2 : decode cX1_cablesInTray 2 = .ok (.iconst 0, 1) := by decide +kernel
theorem dX1_cablesInTray_3 : decode cX1_cablesInTray 3 = .ok (.istore_n 3, 1) := by decide +kernel
theorem dX1_cablesInTray_4 : decode cX1_cablesInTray 4 = .ok (.iload_n 3, 1) := by decide +kernel
theorem dX1_cablesInTray_5 : decode cX1_cablesInTray 5 = .ok (.aload_n 0, 1) := by decide +kernel
theorem dX1_cablesInTray_6 : decode cX1_cablesInTray 6 = .ok (.getfield 20, 3) := by decide +kernel
theorem dX1_cablesInTray_9 : decode cX1_cablesInTray 9 = .ok (.getfield 63, 3) := by decide +kernel
theorem dX1_cablesInTray_12 : decode cX1_cablesInTray 12 = .ok (.if_icmp .ge 74, 3) := by decide +kernel
theorem dX1_cablesInTray_15 : decode cX1_cablesInTray 15 = .ok (.aload_n 0, 1) := by decide +kernel
theorem dX1_cablesInTray_16 : decode cX1_cablesInTray 16 = .ok (.iload_n 3, 1) := by decide +kernel
theorem dX1_cablesInTray_17 : decode cX1_cablesInTray 17 = .ok (.iconst 0, 1) := by decide +kernel
theorem dX1_cablesInTray_18 : decode cX1_cablesInTray 18 = .ok (.invokevirtual 100, 3) := by decide +kernel
theorem dX1_cablesInTray_21 : decode cX1_cablesInTray 21 = .ok (.istore 4, 2) := by decide +kernel
theorem dX1_cablesInTray_23 : decode cX1_cablesInTray 23 = .ok (.aload_n 0, 1) := by decide +kernel
theorem dX1_cablesInTray_24 : decode cX1_cablesInTray 24 = .ok (.iload_n 3, 1) := by decide +kernel
theorem dX1_cablesInTray_25 : decode cX1_cablesInTray 25 = .ok (.iconst 1, 1) := by decide +kernel
theorem dX1_cablesInTray_26 : decode cX1_cablesInTray 26 = .ok (.invokevirtual 100, 3) := by decide +kernel
theorem dX1_cablesInTray_29 : decode cX1_cablesInTray 29 = .ok (.istore 5, 2) := by decide +kernel
theorem dX1_cablesInTray_31 : decode cX1_cablesInTray 31 = .ok (.iload 4, 2) := by decide +kernel
theorem dX1_cablesInTray_33 : decode cX1_cablesInTray 33 = .ok (.iconst (-1), 1) := by decide +kernel
theorem dX1_cablesInTray_34 : decode cX1_cablesInTray 34 = .ok (.if_icmp .eq 9, 3) := by decide +kernel
theorem dX1_cablesInTray_37 : decode cX1_cablesInTray 37 = .ok (.iload 5, 2) := by decide +kernel
theorem dX1_cablesInTray_39 : decode cX1_cablesInTray 39 = .ok (.iconst (-1), 1) := by decide +kernel
theorem dX1_cablesInTray_40 : decode cX1_cablesInTray 40 = .ok (.if_icmp .ne 7, 3) := by decide +kernel
theorem dX1_cablesInTray_43 : decode cX1_cablesInTray 43 = .ok (.iconst 1, 1) := by decide +kernel
theorem dX1_cablesInTray_44 : decode cX1_cablesInTray 44 = .ok (.goto 4, 3) := by decide +kernel
theorem dX1_cablesInTray_47 : decode cX1_cablesInTray 47 = .ok (.iconst 0, 1) := by decide +kernel
theorem dX1_cablesInTray_48 : decode cX1_cablesInTray 48 = .ok (.istore 6, 2) := by decide +kernel
theorem dX1_cablesInTray_50 : decode cX1_cablesInTray 50 = .ok (.iload 6, 2) := by decide +kernel
theorem dX1_cablesInTray_52 : decode cX1_cablesInTray 52 = .ok (.ifCond .ne 28, 3) := by decide +kernel
theorem dX1_cablesInTray_55 : decode cX1_cablesInTray 55 = .ok (.iload 4, 2) := by decide +kernel
theorem dX1_cablesInTray_57 : decode cX1_cablesInTray 57 = .ok (.iload 5, 2) := by decide +kernel
theorem dX1_cablesInTray_59 : decode cX1_cablesInTray 59 = .ok (.invokestatic 86, 3) := by decide +kernel
theorem dX1_cablesInTray_62 : decode cX1_cablesInTray 62 = .ok (.iload_n 1, 1) := by decide +kernel
theorem dX1_cablesInTray_63 : decode cX1_cablesInTray 63 = .ok (.if_icmp .gt 17, 3) := by decide +kernel
theorem dX1_cablesInTray_66 : decode cX1_cablesInTray 66 = .ok (.iload_n 1, 1) := by decide +kernel
theorem dX1_cablesInTray_67 : decode cX1_cablesInTray 67 = .ok (.iload 4, 2) := by decide +kernel
theorem dX1_cablesInTray_69 : decode cX1_cablesInTray 69 = .ok (.iload 5, 2) := by decide +kernel
theorem dX1_cablesInTray_71 : decode cX1_cablesInTray 71 = .ok (.invokestatic 81, 3) := by decide +kernel
theorem dX1_cablesInTray_74 : decode cX1_cablesInTray 74 = .ok (.if_icmp .ge 6, 3) := by decide +kernel
theorem dX1_cablesInTray_77 : decode cX1_cablesInTray 77 = .ok (.iinc 2 1, 3) := by decide +kernel
theorem dX1_cablesInTray_80 : decode cX1_cablesInTray 80 = .ok (.iinc 3 1, 3) := by decide +kernel
theorem dX1_cablesInTray_83 : decode cX1_cablesInTray 83 = .ok (.goto (-79), 3) := by decide +kernel
theorem dX1_cablesInTray_86 : decode cX1_cablesInTray 86 = .ok (.iload_n 2, 1) := by decide +kernel
theorem dX1_cablesInTray_87 : decode cX1_cablesInTray 87 = .ok (.ireturn, 1) := by decide +kernel
theorem dX1_isFrozen_0 : decode cX1_isFrozen 0 = .ok (.aload_n 0, 1) := by decide +kernel
theorem dX1_isFrozen_1 : decode cX1_isFrozen 1 = .ok (.getfield 14, 3) := by decide +kernel
theorem dX1_isFrozen_4 : decode cX1_isFrozen 4 = .ok (.iload_n 1, 1) := by decide +kernel
theorem dX1_isFrozen_5 : decode cX1_isFrozen 5 = .ok (.iconst 3, 1) := by decide +kernel
theorem dX1_isFrozen_6 : decode cX1_isFrozen 6 = .ok (.invokevirtual 59, 3) := by decide +kernel
theorem dX1_isFrozen_9 : decode cX1_isFrozen 9 = .ok (.istore_n 2, 1) := by decide +kernel
theorem dX1_isFrozen_10 : decode cX1_isFrozen 10 = .ok (.iconst 0, 1) := by decide +kernel
theorem dX1_isFrozen_11 : decode cX1_isFrozen 11 = .ok (.istore_n 3, 1) := by decide +kernel
theorem dX1_isFrozen_12 : decode cX1_isFrozen 12 = .ok (.iload_n 3, 1) := by decide +kernel
theorem dX1_isFrozen_13 : decode cX1_isFrozen 13 = .ok (.aload_n 0, 1) := by decide +kernel
theorem dX1_isFrozen_14 : decode cX1_isFrozen 14 = .ok (.getfield 23, 3) := by decide +kernel
theorem dX1_isFrozen_17 : decode cX1_isFrozen 17 = .ok (.getfield 63, 3) := by decide +kernel
theorem dX1_isFrozen_20 : decode cX1_isFrozen 20 = .ok (.if_icmp .ge 67, 3) := by decide +kernel
theorem dX1_isFrozen_23 : decode cX1_isFrozen 23 = .ok (.aload_n 0, 1) := by decide +kernel
theorem dX1_isFrozen_24 : decode cX1_isFrozen 24 = .ok (.getfield 23, 3) := by decide +kernel
theorem dX1_isFrozen_27 : decode cX1_isFrozen 27 = .ok (.iload_n 3, 1) := by decide +kernel
theorem dX1_isFrozen_28 : decode cX1_isFrozen 28 = .ok (.iconst 1, 1) := by decide +kernel
theorem dX1_isFrozen_29 : decode cX1_isFrozen 29 = .ok (.invokevirtual 59, 3) := by decide +kernel
theorem dX1_isFrozen_32 : decode cX1_isFrozen 32 = .ok (.istore 4, 2) := by decide +kernel
theorem dX1_isFrozen_34 : decode cX1_isFrozen 34 = .ok (.iload 4, 2) := by decide +kernel
theorem dX1_isFrozen_36 : decode cX1_isFrozen 36 = .ok (.aload_n 0, 1) := by decide +kernel
theorem dX1_isFrozen_37 : decode cX1_isFrozen 37 = .ok (.getfield 23, 3) := by decide +kernel
theorem dX1_isFrozen_40 : decode cX1_isFrozen 40 = .ok (.iload_n 3, 1) := by decide +kernel
theorem dX1_isFrozen_41 : decode cX1_isFrozen 41 = .ok (.iconst 2, 1) := by decide +kernel
theorem dX1_isFrozen_42 : decode cX1_isFrozen 42 = .ok (.invokevirtual 59, 3) := by decide +kernel
theorem dX1_isFrozen_45 : decode cX1_isFrozen 45 = .ok (.iadd, 1) := by decide +kernel
theorem dX1_isFrozen_46 : decode cX1_isFrozen 46 = .ok (.istore 5, 2) := by decide +kernel
theorem dX1_isFrozen_48 : decode cX1_isFrozen 48 = .ok (.aload_n 0, 1) := by decide +kernel
theorem dX1_isFrozen_49 : decode cX1_isFrozen 49 = .ok (.getfield 23, 3) := by decide +kernel
theorem dX1_isFrozen_52 : decode cX1_isFrozen 52 = .ok (.iload_n 3, 1) := by decide +kernel
theorem dX1_isFrozen_53 : decode cX1_isFrozen 53 = .ok (.iconst 0, 1) := by decide +kernel
theorem dX1_isFrozen_54 : decode cX1_isFrozen 54 = .ok (.invokevirtual 59, 3) := by decide +kernel
theorem dX1_isFrozen_57 : decode cX1_isFrozen 57 = .ok (.iload_n 2, 1) := by decide +kernel
theorem dX1_isFrozen_58 : decode cX1_isFrozen 58 = .ok (.if_icmp .ne 23, 3) := by decide +kernel
theorem dX1_isFrozen_61 : decode cX1_isFrozen 61 = .ok (.iload 4, 2) := by decide +kernel
theorem dX1_isFrozen_63 : decode cX1_isFrozen 63 = .ok (.aload_n 0, 1) := by decide +kernel
theorem dX1_isFrozen_64 : decode cX1_isFrozen 64 = .ok (.getfield 40, 3) := by decide +kernel
theorem dX1_isFrozen_67 : decode cX1_isFrozen 67 = .ok (.if_icmp .gt 14, 3) := by decide +kernel
theorem dX1_isFrozen_70 : decode cX1_isFrozen 70 = .ok (.aload_n 0, 1) := by decide +kernel
theorem dX1_isFrozen_71 : decode cX1_isFrozen 71 = .ok (.getfield 40, 3) := by decide +kernel
theorem dX1_isFrozen_74 : decode cX1_isFrozen 74 = .ok (.iload 5, 2) := by decide +kernel
theorem dX1_isFrozen_76 : decode cX1_isFrozen 76 = .ok (.if_icmp .ge 5, 3) := by decide +kernel
theorem dX1_isFrozen_79 : decode cX1_isFrozen 79 = .ok (.iconst 1, 1) := by decide +kernel
theorem dX1_isFrozen_80 : decode cX1_isFrozen 80 = .ok (.ireturn, 1) := by decide +kernel
theorem dX1_isFrozen_81 : decode cX1_isFrozen 81 = .ok (.iinc 3 1, 3) := by decide +kernel
theorem dX1_isFrozen_84 : decode cX1_isFrozen 84 = .ok (.goto (-72), 3) := by decide +kernel
theorem dX1_isFrozen_87 : decode cX1_isFrozen 87 = .ok (.iconst 0, 1) := by decide +kernel
theorem dX1_isFrozen_88 : decode cX1_isFrozen 88 = .ok (.ireturn, 1) := by decide +kernel
theorem dX1_firstWrong_0 : decode cX1_firstWrong 0 = .ok (.iconst 0, 1) := by decide +kernel
theorem dX1_firstWrong_1 : decode cX1_firstWrong 1 = .ok (.istore_n 1, 1) := by decide +kernel
theorem dX1_firstWrong_2 : decode cX1_firstWrong 2 = .ok (.iload_n 1, 1) := by decide +kernel
theorem dX1_firstWrong_3 : decode cX1_firstWrong 3 = .ok (.bipush 6, 2) := by decide +kernel
theorem dX1_firstWrong_5 : decode cX1_firstWrong 5 = .ok (.if_icmp .ge 25, 3) := by decide +kernel
theorem dX1_firstWrong_8 : decode cX1_firstWrong 8 = .ok (.aload_n 0, 1) := by decide +kernel
theorem dX1_firstWrong_9 : decode cX1_firstWrong 9 = .ok (.iload_n 1, 1) := by decide +kernel
theorem dX1_firstWrong_10 : decode cX1_firstWrong 10 = .ok (.invokevirtual 97, 3) := by decide +kernel
theorem dX1_firstWrong_13 : decode cX1_firstWrong 13 = .ok (.aload_n 0, 1) := by decide +kernel
theorem dX1_firstWrong_14 : decode cX1_firstWrong 14 = .ok (.getfield 29, 3) := by decide +kernel
theorem dX1_firstWrong_17 : decode cX1_firstWrong 17 = .ok (.iload_n 1, 1) := by decide +kernel
theorem dX1_firstWrong_18 : decode cX1_firstWrong 18 = .ok (.iaload, 1) := by decide +kernel
theorem dX1_firstWrong_19 : decode cX1_firstWrong 19 = .ok (.if_icmp .le 5, 3) := by decide +kernel
theorem dX1_firstWrong_22 : decode cX1_firstWrong 22 = .ok (.iconst 4, 1) := by decide +kernel
theorem dX1_firstWrong_23 : decode cX1_firstWrong 23 = .ok (.ireturn, 1) := by decide +kernel
theorem dX1_firstWrong_24 : decode cX1_firstWrong 24 = .ok (.iinc 1 1, 3) := by decide +kernel
theorem dX1_firstWrong_27 : decode cX1_firstWrong 27 = .ok (.goto (-25), 3) := by decide +kernel
theorem dX1_firstWrong_30 : decode cX1_firstWrong 30 = .ok (.iconst 0, 1) := by decide +kernel
theorem dX1_firstWrong_31 : decode cX1_firstWrong 31 = .ok (.istore_n 1, 1) := by decide +kernel
theorem dX1_firstWrong_32 : decode cX1_firstWrong 32 = .ok (.iload_n 1, 1) := by decide +kernel
theorem dX1_firstWrong_33 : decode cX1_firstWrong 33 = .ok (.iconst 5, 1) := by decide +kernel
theorem dX1_firstWrong_34 : decode cX1_firstWrong 34 = .ok (.if_icmp .ge 25, 3) := by decide +kernel
theorem dX1_firstWrong_37 : decode cX1_firstWrong 37 = .ok (.aload_n 0, 1) := by decide +kernel
theorem dX1_firstWrong_38 : decode cX1_firstWrong 38 = .ok (.iload_n 1, 1) := by decide +kernel
theorem dX1_firstWrong_39 : decode cX1_firstWrong 39 = .ok (.invokevirtual 106, 3) := by decide +kernel
theorem dX1_firstWrong_42 : decode cX1_firstWrong 42 = .ok (.aload_n 0, 1) := by decide +kernel
theorem dX1_firstWrong_43 : decode cX1_firstWrong 43 = .ok (.getfield 33, 3) := by decide +kernel
theorem dX1_firstWrong_46 : decode cX1_firstWrong 46 = .ok (.iload_n 1, 1) := by decide +kernel
theorem dX1_firstWrong_47 : decode cX1_firstWrong 47 = .ok (.iaload, 1) := by decide +kernel
theorem dX1_firstWrong_48 : decode cX1_firstWrong 48 = .ok (.if_icmp .le 5, 3) := by decide +kernel
theorem dX1_firstWrong_51 : decode cX1_firstWrong 51 = .ok (.iconst 5, 1) := by decide +kernel
theorem dX1_firstWrong_52 : decode cX1_firstWrong 52 = .ok (.ireturn, 1) := by decide +kernel
theorem dX1_firstWrong_53 : decode cX1_firstWrong 53 = .ok (.iinc 1 1, 3) := by decide +kernel
theorem dX1_firstWrong_56 : decode cX1_firstWrong 56 = .ok (.goto (-24), 3) := by decide +kernel
theorem dX1_firstWrong_59 : decode cX1_firstWrong 59 = .ok (.iconst 0, 1) := by decide +kernel
theorem dX1_firstWrong_60 : decode cX1_firstWrong 60 = .ok (.istore_n 1, 1) := by decide +kernel
theorem dX1_firstWrong_61 : decode cX1_firstWrong 61 = .ok (.iload_n 1, 1) := by decide +kernel
theorem dX1_firstWrong_62 : decode cX1_firstWrong 62 = .ok (.aload_n 0, 1) := by decide +kernel
theorem dX1_firstWrong_63 : decode cX1_firstWrong 63 = .ok (.getfield 20, 3) := by decide +kernel
theorem dX1_firstWrong_66 : decode cX1_firstWrong 66 = .ok (.getfield 63, 3) := by decide +kernel
theorem dX1_firstWrong_69 : decode cX1_firstWrong 69 = .ok (.if_icmp .ge 29, 3) := by decide +kernel
theorem dX1_firstWrong_72 : decode cX1_firstWrong 72 = .ok (.aload_n 0, 1) := by decide +kernel
theorem dX1_firstWrong_73 : decode cX1_firstWrong 73 = .ok (.iload_n 1, 1) := by decide +kernel
theorem dX1_firstWrong_74 : decode cX1_firstWrong 74 = .ok (.invokevirtual 109, 3) := by decide +kernel
theorem dX1_firstWrong_77 : decode cX1_firstWrong 77 = .ok (.aload_n 0, 1) := by decide +kernel
theorem dX1_firstWrong_78 : decode cX1_firstWrong 78 = .ok (.getfield 20, 3) := by decide +kernel
theorem dX1_firstWrong_81 : decode cX1_firstWrong 81 = .ok (.iload_n 1, 1) := by decide +kernel
theorem dX1_firstWrong_82 : decode cX1_firstWrong 82 = .ok (.iconst 2, 1) := by decide +kernel
theorem dX1_firstWrong_83 : decode cX1_firstWrong 83 = .ok (.invokevirtual 59, 3) := by decide +kernel
theorem dX1_firstWrong_86 : decode cX1_firstWrong 86 = .ok (.if_icmp .le 6, 3) := by decide +kernel
theorem dX1_firstWrong_89 : decode cX1_firstWrong 89 = .ok (.bipush 6, 2) := by decide +kernel
theorem dX1_firstWrong_91 : decode cX1_firstWrong 91 = .ok (.ireturn, 1) := by decide +kernel
theorem dX1_firstWrong_92 : decode cX1_firstWrong 92 = .ok (.iinc 1 1, 3) := by decide +kernel
theorem dX1_firstWrong_95 : decode cX1_firstWrong 95 = .ok (.goto (-34), 3) := by decide +kernel
theorem dX1_firstWrong_98 : decode cX1_firstWrong 98 = .ok (.aload_n 0, 1) := by decide +kernel
theorem dX1_firstWrong_99 : decode cX1_firstWrong 99 = .ok (.invokevirtual 93, 3) := by decide +kernel
theorem dX1_firstWrong_102 : decode cX1_firstWrong 102 = .ok (.aload_n 0, 1) := by decide +kernel
theorem dX1_firstWrong_103 : decode cX1_firstWrong 103 = .ok (.getfield 36, 3) := by decide +kernel
theorem dX1_firstWrong_106 : decode cX1_firstWrong 106 = .ok (.if_icmp .le 8, 3) := by decide +kernel
theorem dX1_firstWrong_109 : decode cX1_firstWrong 109 = .ok (.bipush 7, 2) := by decide +kernel
theorem dX1_firstWrong_111 : decode cX1_firstWrong 111 = .ok (.goto 4, 3) := by decide +kernel
theorem dX1_firstWrong_114 : decode cX1_firstWrong 114 = .ok (.iconst 0, 1) := by decide +kernel
theorem dX1_firstWrong_115 : decode cX1_firstWrong 115 = .ok (.ireturn, 1) := by decide +kernel
theorem dX1_whyNotMove_0 : decode cX1_whyNotMove 0 = .ok (.aload_n 0, 1) := by decide +kernel
theorem dX1_whyNotMove_1 : decode cX1_whyNotMove 1 = .ok (.iload_n 1, 1) := by decide +kernel
theorem dX1_whyNotMove_2 : decode cX1_whyNotMove 2 = .ok (.invokevirtual 112, 3) := by decide +kernel
theorem dX1_whyNotMove_5 : decode cX1_whyNotMove 5 = .ok (.ifCond .eq 5, 3) := by decide +kernel
theorem dX1_whyNotMove_8 : decode cX1_whyNotMove 8 = .ok (.iconst 1, 1) := by decide +kernel
theorem dX1_whyNotMove_9 : decode cX1_whyNotMove 9 = .ok (.ireturn, 1) := by decide +kernel
theorem dX1_whyNotMove_10 : decode cX1_whyNotMove 10 = .ok (.aload_n 0, 1) := by decide +kernel
theorem dX1_whyNotMove_11 : decode cX1_whyNotMove 11 = .ok (.iload_n 1, 1) := by decide +kernel
theorem dX1_whyNotMove_12 : decode cX1_whyNotMove 12 = .ok (.iload_n 2, 1) := by decide +kernel
theorem dX1_whyNotMove_13 : decode cX1_whyNotMove 13 = .ok (.invokevirtual 66, 3) := by decide +kernel
theorem dX1_whyNotMove_16 : decode cX1_whyNotMove 16 = .ok (.ifCond .eq 5, 3) := by decide +kernel
theorem dX1_whyNotMove_19 : decode cX1_whyNotMove 19 = .ok (.iconst 2, 1) := by decide +kernel
theorem dX1_whyNotMove_20 : decode cX1_whyNotMove 20 = .ok (.ireturn, 1) := by decide +kernel
theorem dX1_whyNotMove_21 : decode cX1_whyNotMove 21 = .ok (.aload_n 0, 1) := by decide +kernel
theorem dX1_whyNotMove_22 : decode cX1_whyNotMove 22 = .ok (.iload_n 1, 1) := by decide +kernel
theorem dX1_whyNotMove_23 : decode cX1_whyNotMove 23 = .ok (.iload_n 2, 1) := by decide +kernel
theorem dX1_whyNotMove_24 : decode cX1_whyNotMove 24 = .ok (.invokevirtual 116, 3) := by decide +kernel
theorem dX1_whyNotMove_27 : decode cX1_whyNotMove 27 = .ok (.istore_n 3, 1) := by decide +kernel
theorem dX1_whyNotMove_28 : decode cX1_whyNotMove 28 = .ok (.iload_n 2, 1) := by decide +kernel
theorem dX1_whyNotMove_29 : decode cX1_whyNotMove 29 = .ok (.iconst (-1), 1) := by decide +kernel
theorem dX1_whyNotMove_30 : decode cX1_whyNotMove 30 = .ok (.if_icmp .eq 10, 3) := by decide +kernel
theorem dX1_whyNotMove_33 : decode cX1_whyNotMove 33 = .ok (.iload_n 3, 1) := by decide +kernel
theorem dX1_whyNotMove_34 : decode cX1_whyNotMove 34 = .ok (.iconst (-1), 1) := by decide +kernel
theorem dX1_whyNotMove_35 : decode cX1_whyNotMove 35 = .ok (.if_icmp .ne 5, 3) := by decide +kernel
theorem dX1_whyNotMove_38 : decode cX1_whyNotMove 38 = .ok (.iconst 3, 1) := by decide +kernel
theorem dX1_whyNotMove_39 : decode cX1_whyNotMove 39 = .ok (.ireturn, 1) := by decide +kernel
theorem dX1_whyNotMove_40 : decode cX1_whyNotMove 40 = .ok (.aload_n 0, 1) := by decide +kernel
theorem dX1_whyNotMove_41 : decode cX1_whyNotMove 41 = .ok (.iload_n 1, 1) := by decide +kernel
theorem dX1_whyNotMove_42 : decode cX1_whyNotMove 42 = .ok (.iload_n 2, 1) := by decide +kernel
theorem dX1_whyNotMove_43 : decode cX1_whyNotMove 43 = .ok (.iload_n 3, 1) := by decide +kernel
theorem dX1_whyNotMove_44 : decode cX1_whyNotMove 44 = .ok (.aload_n 0, 1) := by decide +kernel
theorem dX1_whyNotMove_45 : decode cX1_whyNotMove 45 = .ok (.getfield 14, 3) := by decide +kernel
theorem dX1_whyNotMove_48 : decode cX1_whyNotMove 48 = .ok (.iload_n 1, 1) := by decide +kernel
theorem dX1_whyNotMove_49 : decode cX1_whyNotMove 49 = .ok (.iconst 2, 1) := by decide +kernel
theorem dX1_whyNotMove_50 : decode cX1_whyNotMove 50 = .ok (.invokevirtual 59, 3) := by decide +kernel
theorem dX1_whyNotMove_53 : decode cX1_whyNotMove 53 = .ok (.invokevirtual 119, 3) := by decide +kernel
theorem dX1_whyNotMove_56 : decode cX1_whyNotMove 56 = .ok (.ireturn, 1) := by decide +kernel
theorem dX1_whyNotChange_0 : decode cX1_whyNotChange 0 = .ok (.aload_n 0, 1) := by decide +kernel
theorem dX1_whyNotChange_1 : decode cX1_whyNotChange 1 = .ok (.iload_n 1, 1) := by decide +kernel
theorem dX1_whyNotChange_2 : decode cX1_whyNotChange 2 = .ok (.invokevirtual 112, 3) := by decide +kernel
theorem dX1_whyNotChange_5 : decode cX1_whyNotChange 5 = .ok (.ifCond .eq 5, 3) := by decide +kernel
theorem dX1_whyNotChange_8 : decode cX1_whyNotChange 8 = .ok (.iconst 1, 1) := by decide +kernel
theorem dX1_whyNotChange_9 : decode cX1_whyNotChange 9 = .ok (.ireturn, 1) := by decide +kernel
theorem dX1_whyNotChange_10 : decode cX1_whyNotChange 10 = .ok (.aload_n 0, 1) := by decide +kernel
theorem dX1_whyNotChange_11 : decode cX1_whyNotChange 11 = .ok (.getfield 14, 3) := by decide +kernel
theorem dX1_whyNotChange_14 : decode cX1_whyNotChange 14 = .ok (.iload_n 1, 1) := by decide +kernel
theorem dX1_whyNotChange_15 : decode cX1_whyNotChange 15 = .ok (.iconst 2, 1) := by decide +kernel
theorem dX1_whyNotChange_16 : decode cX1_whyNotChange 16 = .ok (.invokevirtual 59, 3) := by decide +kernel
theorem dX1_whyNotChange_19 : decode cX1_whyNotChange 19 = .ok (.iload_n 2, 1) := by decide +kernel
theorem dX1_whyNotChange_20 : decode cX1_whyNotChange 20 = .ok (.if_icmp .ne 5, 3) := by decide +kernel
theorem dX1_whyNotChange_23 : decode cX1_whyNotChange 23 = .ok (.iconst 2, 1) := by decide +kernel
theorem dX1_whyNotChange_24 : decode cX1_whyNotChange 24 = .ok (.ireturn, 1) := by decide +kernel
theorem dX1_whyNotChange_25 : decode cX1_whyNotChange 25 = .ok (.aload_n 0, 1) := by decide +kernel
theorem dX1_whyNotChange_26 : decode cX1_whyNotChange 26 = .ok (.iload_n 1, 1) := by decide +kernel
theorem dX1_whyNotChange_27 : decode cX1_whyNotChange 27 = .ok (.aload_n 0, 1) := by decide +kernel
theorem dX1_whyNotChange_28 : decode cX1_whyNotChange 28 = .ok (.getfield 14, 3) := by decide +kernel
theorem dX1_whyNotChange_31 : decode cX1_whyNotChange 31 = .ok (.iload_n 1, 1) := by decide +kernel
theorem dX1_whyNotChange_32 : decode cX1_whyNotChange 32 = .ok (.iconst 4, 1) := by decide +kernel
theorem dX1_whyNotChange_33 : decode cX1_whyNotChange 33 = .ok (.invokevirtual 59, 3) := by decide +kernel
theorem dX1_whyNotChange_36 : decode cX1_whyNotChange 36 = .ok (.aload_n 0, 1) := by decide +kernel
theorem dX1_whyNotChange_37 : decode cX1_whyNotChange 37 = .ok (.getfield 14, 3) := by decide +kernel
theorem dX1_whyNotChange_40 : decode cX1_whyNotChange 40 = .ok (.iload_n 1, 1) := by decide +kernel
theorem dX1_whyNotChange_41 : decode cX1_whyNotChange 41 = .ok (.iconst 5, 1) := by decide +kernel
theorem dX1_whyNotChange_42 : decode cX1_whyNotChange 42 = .ok (.invokevirtual 59, 3) := by decide +kernel
theorem dX1_whyNotChange_45 : decode cX1_whyNotChange 45 = .ok (.iload_n 2, 1) := by decide +kernel
theorem dX1_whyNotChange_46 : decode cX1_whyNotChange 46 = .ok (.invokevirtual 119, 3) := by decide +kernel
theorem dX1_whyNotChange_49 : decode cX1_whyNotChange 49 = .ok (.ireturn, 1) := by decide +kernel
theorem dX1_whyNotBackOut_0 : decode cX1_whyNotBackOut 0 = .ok (.aload_n 0, 1) := by decide +kernel
theorem dX1_whyNotBackOut_1 : decode cX1_whyNotBackOut 1 = .ok (.getfield 26, 3) := by decide +kernel
theorem dX1_whyNotBackOut_4 : decode cX1_whyNotBackOut 4 = .ok (.getfield 63, 3) := by decide +kernel
theorem dX1_whyNotBackOut_7 : decode cX1_whyNotBackOut 7 = .ok (.ifCond .ne 5, 3) := by decide +kernel
theorem dX1_whyNotBackOut_10 : decode cX1_whyNotBackOut 10 = .ok (.iconst 2, 1) := by decide +kernel
theorem dX1_whyNotBackOut_11 : decode cX1_whyNotBackOut 11 = .ok (.ireturn, 1) := by decide +kernel
theorem dX1_whyNotBackOut_12 : decode cX1_whyNotBackOut 12 = .ok (.aload_n 0, 1) := by decide +kernel
theorem dX1_whyNotBackOut_13 : decode cX1_whyNotBackOut 13 = .ok (.getfield 26, 3) := by decide +kernel
theorem dX1_whyNotBackOut_16 : decode cX1_whyNotBackOut 16 = .ok (.getfield 63, 3) := by decide +kernel
theorem dX1_whyNotBackOut_19 : decode cX1_whyNotBackOut 19 = .ok (.iconst 1, 1) := by decide +kernel
theorem dX1_whyNotBackOut_20 : decode cX1_whyNotBackOut 20 = .ok (.isub, 1) := by decide +kernel
theorem dX1_whyNotBackOut_21 : decode cX1_whyNotBackOut 21 = .ok (.istore_n 1, 1) := by decide +kernel
theorem dX1_whyNotBackOut_22 : decode cX1_whyNotBackOut 22 = .ok (.aload_n 0, 1) := by decide +kernel
theorem dX1_whyNotBackOut_23 : decode cX1_whyNotBackOut 23 = .ok (.getfield 26, 3) := by decide +kernel
theorem dX1_whyNotBackOut_26 : decode cX1_whyNotBackOut 26 = .ok (.iload_n 1, 1) := by decide +kernel
theorem dX1_whyNotBackOut_27 : decode cX1_whyNotBackOut 27 = .ok (.iconst 0, 1) := by decide +kernel
theorem dX1_whyNotBackOut_28 : decode cX1_whyNotBackOut 28 = .ok (.invokevirtual 59, 3) := by decide +kernel
theorem dX1_whyNotBackOut_31 : decode cX1_whyNotBackOut 31 = .ok (.istore_n 2, 1) := by decide +kernel
theorem dX1_whyNotBackOut_32 : decode cX1_whyNotBackOut 32 = .ok (.aload_n 0, 1) := by decide +kernel
theorem dX1_whyNotBackOut_33 : decode cX1_whyNotBackOut 33 = .ok (.getfield 26, 3) := by decide +kernel
theorem dX1_whyNotBackOut_36 : decode cX1_whyNotBackOut 36 = .ok (.iload_n 1, 1) := by decide +kernel
theorem dX1_whyNotBackOut_37 : decode cX1_whyNotBackOut 37 = .ok (.iconst 1, 1) := by decide +kernel
theorem dX1_whyNotBackOut_38 : decode cX1_whyNotBackOut 38 = .ok (.invokevirtual 59, 3) := by decide +kernel
theorem dX1_whyNotBackOut_41 : decode cX1_whyNotBackOut 41 = .ok (.istore_n 3, 1) := by decide +kernel
theorem dX1_whyNotBackOut_42 : decode cX1_whyNotBackOut 42 = .ok (.aload_n 0, 1) := by decide +kernel
theorem dX1_whyNotBackOut_43 : decode cX1_whyNotBackOut 43 = .ok (.getfield 26, 3) := by decide +kernel
theorem dX1_whyNotBackOut_46 : decode cX1_whyNotBackOut 46 = .ok (.iload_n 1, 1) := by decide +kernel
theorem dX1_whyNotBackOut_47 : decode cX1_whyNotBackOut 47 = .ok (.iconst 2, 1) := by decide +kernel
theorem dX1_whyNotBackOut_48 : decode cX1_whyNotBackOut 48 = .ok (.invokevirtual 59, 3) := by decide +kernel
theorem dX1_whyNotBackOut_51 : decode cX1_whyNotBackOut 51 = .ok (.istore 4, 2) := by decide +kernel
theorem dX1_whyNotBackOut_53 : decode cX1_whyNotBackOut 53 = .ok (.aload_n 0, 1) := by decide +kernel
theorem dX1_whyNotBackOut_54 : decode cX1_whyNotBackOut 54 = .ok (.iload_n 2, 1) := by decide +kernel
theorem dX1_whyNotBackOut_55 : decode cX1_whyNotBackOut 55 = .ok (.invokevirtual 112, 3) := by decide +kernel
theorem dX1_whyNotBackOut_58 : decode cX1_whyNotBackOut 58 = .ok (.ifCond .eq 5, 3) := by decide +kernel
theorem dX1_whyNotBackOut_61 : decode cX1_whyNotBackOut 61 = .ok (.iconst 1, 1) := by decide +kernel
theorem dX1_whyNotBackOut_62 : decode cX1_whyNotBackOut 62 = .ok (.ireturn, 1) := by decide +kernel
theorem dX1_whyNotBackOut_63 : decode cX1_whyNotBackOut 63 = .ok (.iload_n 3, 1) := by decide +kernel
theorem dX1_whyNotBackOut_64 : decode cX1_whyNotBackOut 64 = .ok (.iconst (-1), 1) := by decide +kernel
theorem dX1_whyNotBackOut_65 : decode cX1_whyNotBackOut 65 = .ok (.if_icmp .eq 26, 3) := by decide +kernel
theorem dX1_whyNotBackOut_68 : decode cX1_whyNotBackOut 68 = .ok (.aload_n 0, 1) := by decide +kernel
theorem dX1_whyNotBackOut_69 : decode cX1_whyNotBackOut 69 = .ok (.iload_n 3, 1) := by decide +kernel
theorem dX1_whyNotBackOut_70 : decode cX1_whyNotBackOut 70 = .ok (.iload 4, 2) := by decide +kernel
theorem dX1_whyNotBackOut_72 : decode cX1_whyNotBackOut 72 = .ok (.aload_n 0, 1) := by decide +kernel
theorem dX1_whyNotBackOut_73 : decode cX1_whyNotBackOut 73 = .ok (.getfield 14, 3) := by decide +kernel
theorem dX1_whyNotBackOut_76 : decode cX1_whyNotBackOut 76 = .ok (.iload_n 2, 1) := by decide +kernel
theorem dX1_whyNotBackOut_77 : decode cX1_whyNotBackOut 77 = .ok (.iconst 0, 1) := by decide +kernel
theorem dX1_whyNotBackOut_78 : decode cX1_whyNotBackOut 78 = .ok (.invokevirtual 59, 3) := by decide +kernel
theorem dX1_whyNotBackOut_81 : decode cX1_whyNotBackOut 81 = .ok (.iload_n 2, 1) := by decide +kernel
theorem dX1_whyNotBackOut_82 : decode cX1_whyNotBackOut 82 = .ok (.invokevirtual 70, 3) := by decide +kernel
theorem dX1_whyNotBackOut_85 : decode cX1_whyNotBackOut 85 = .ok (.iconst (-1), 1) := by decide +kernel
theorem dX1_whyNotBackOut_86 : decode cX1_whyNotBackOut 86 = .ok (.if_icmp .eq 5, 3) := by decide +kernel
theorem dX1_whyNotBackOut_89 : decode cX1_whyNotBackOut 89 = .ok (.iconst 3, 1) := by decide +kernel
theorem dX1_whyNotBackOut_90 : decode cX1_whyNotBackOut 90 = .ok (.ireturn, 1) := by decide +kernel
theorem dX1_whyNotBackOut_91 : decode cX1_whyNotBackOut 91 = .ok (.aload_n 0, 1) := by decide +kernel
theorem dX1_whyNotBackOut_92 : decode cX1_whyNotBackOut 92 = .ok (.iload_n 2, 1) := by decide +kernel
theorem dX1_whyNotBackOut_93 : decode cX1_whyNotBackOut 93 = .ok (.iload_n 3, 1) := by decide +kernel
theorem dX1_whyNotBackOut_94 : decode cX1_whyNotBackOut 94 = .ok (.iload 4, 2) := by decide +kernel
theorem dX1_whyNotBackOut_96 : decode cX1_whyNotBackOut 96 = .ok (.aload_n 0, 1) := by decide +kernel
theorem dX1_whyNotBackOut_97 : decode cX1_whyNotBackOut 97 = .ok (.getfield 26, 3) := by decide +kernel
theorem dX1_whyNotBackOut_100 : decode cX1_whyNotBackOut 100 = .ok (.iload_n 1, 1) := by decide +kernel
theorem dX1_whyNotBackOut_101 : decode cX1_whyNotBackOut 101 = .ok (.iconst 3, 1) := by decide +kernel
theorem dX1_whyNotBackOut_102 : decode cX1_whyNotBackOut 102 = .ok (.invokevirtual 59, 3) := by decide +kernel
theorem dX1_whyNotBackOut_105 : decode cX1_whyNotBackOut 105 = .ok (.invokevirtual 119, 3) := by decide +kernel
theorem dX1_whyNotBackOut_108 : decode cX1_whyNotBackOut 108 = .ok (.ireturn, 1) := by decide +kernel
theorem dX1_slotBehindMove_0 : decode cX1_slotBehindMove 0 = .ok (.iload_n 2, 1) := by decide +kernel
theorem dX1_slotBehindMove_1 : decode cX1_slotBehindMove 1 = .ok (.iconst (-1), 1) := by decide +kernel
theorem dX1_slotBehindMove_2 : decode cX1_slotBehindMove 2 = .ok (.if_icmp .ne 7, 3) := by decide +kernel
theorem dX1_slotBehindMove_5 : decode cX1_slotBehindMove 5 = .ok (.iconst (-1), 1) := by decide +kernel
theorem dX1_slotBehindMove_6 : decode cX1_slotBehindMove 6 = .ok (.goto 17, 3) := by decide +kernel
theorem dX1_slotBehindMove_9 : decode cX1_slotBehindMove 9 = .ok (.aload_n 0, 1) := by decide +kernel
theorem dX1_slotBehindMove_10 : decode cX1_slotBehindMove 10 = .ok (.iload_n 2, 1) := by decide +kernel
theorem dX1_slotBehindMove_11 : decode cX1_slotBehindMove 11 = .ok (.aload_n 0, 1) := by decide +kernel
theorem dX1_slotBehindMove_12 : decode cX1_slotBehindMove 12 = .ok (.getfield 14, 3) := by decide +kernel
theorem dX1_slotBehindMove_15 : decode cX1_slotBehindMove 15 = .ok (.iload_n 1, 1) := by decide +kernel
theorem dX1_slotBehindMove_16 : decode cX1_slotBehindMove 16 = .ok (.iconst 0, 1) := by decide +kernel
theorem dX1_slotBehindMove_17 : decode cX1_slotBehindMove 17 = .ok (.invokevirtual 59, 3) := by decide +kernel
theorem dX1_slotBehindMove_20 : decode cX1_slotBehindMove 20 = .ok (.invokevirtual 74, 3) := by decide +kernel
theorem dX1_slotBehindMove_23 : decode cX1_slotBehindMove 23 = .ok (.ireturn, 1) := by decide +kernel
theorem dX1_firstWrongWith_0 : decode cX1_firstWrongWith 0 = .ok (.aload_n 0, 1) := by decide +kernel
theorem dX1_firstWrongWith_1 : decode cX1_firstWrongWith 1 = .ok (.getfield 14, 3) := by decide +kernel
theorem dX1_firstWrongWith_4 : decode cX1_firstWrongWith 4 = .ok (.iload_n 1, 1) := by decide +kernel
theorem dX1_firstWrongWith_5 : decode cX1_firstWrongWith 5 = .ok (.iconst 4, 1) := by decide +kernel
theorem dX1_firstWrongWith_6 : decode cX1_firstWrongWith 6 = .ok (.invokevirtual 59, 3) := by decide +kernel
theorem dX1_firstWrongWith_9 : decode cX1_firstWrongWith 9 = .ok (.istore 5, 2) := by decide +kernel
theorem dX1_firstWrongWith_11 : decode cX1_firstWrongWith 11 = .ok (.aload_n 0, 1) := by decide +kernel
theorem dX1_firstWrongWith_12 : decode cX1_firstWrongWith 12 = .ok (.getfield 14, 3) := by decide +kernel
theorem dX1_firstWrongWith_15 : decode cX1_firstWrongWith 15 = .ok (.iload_n 1, 1) := by decide +kernel
theorem dX1_firstWrongWith_16 : decode cX1_firstWrongWith 16 = .ok (.iconst 5, 1) := by decide +kernel
theorem dX1_firstWrongWith_17 : decode cX1_firstWrongWith 17 = .ok (.invokevirtual 59, 3) := by decide +kernel
theorem dX1_firstWrongWith_20 : decode cX1_firstWrongWith 20 = .ok (.istore 6, 2) := by decide +kernel
theorem dX1_firstWrongWith_22 : decode cX1_firstWrongWith 22 = .ok (.aload_n 0, 1) := by decide +kernel
theorem dX1_firstWrongWith_23 : decode cX1_firstWrongWith 23 = .ok (.getfield 14, 3) := by decide +kernel
theorem dX1_firstWrongWith_26 : decode cX1_firstWrongWith 26 = .ok (.iload_n 1, 1) := by decide +kernel
theorem dX1_firstWrongWith_27 : decode cX1_firstWrongWith 27 = .ok (.iconst 2, 1) := by decide +kernel
theorem dX1_firstWrongWith_28 : decode cX1_firstWrongWith 28 = .ok (.invokevirtual 59, 3) := by decide +kernel
theorem dX1_firstWrongWith_31 : decode cX1_firstWrongWith 31 = .ok (.istore 7, 2) := by decide +kernel
theorem dX1_firstWrongWith_33 : decode cX1_firstWrongWith 33 = .ok (.aload_n 0, 1) := by decide +kernel
theorem dX1_firstWrongWith_34 : decode cX1_firstWrongWith 34 = .ok (.iload_n 1, 1) := by decide +kernel
theorem dX1_firstWrongWith_35 : decode cX1_firstWrongWith 35 = .ok (.iload_n 2, 1) := by decide +kernel
theorem dX1_firstWrongWith_36 : decode cX1_firstWrongWith 36 = .ok (.iload_n 3, 1) := by decide +kernel
theorem dX1_firstWrongWith_37 : decode cX1_firstWrongWith 37 = .ok (.iload 4, 2) := by decide +kernel
theorem dX1_firstWrongWith_39 : decode cX1_firstWrongWith 39 = .ok (.invokevirtual 122, 3) := by decide +kernel
theorem dX1_firstWrongWith_42 : decode cX1_firstWrongWith 42 = .ok (.aload_n 0, 1) := by decide +kernel
theorem dX1_firstWrongWith_43 : decode cX1_firstWrongWith 43 = .ok (.invokevirtual 126, 3) := by decide +kernel
theorem dX1_firstWrongWith_46 : decode cX1_firstWrongWith 46 = .ok (.istore 8, 2) := by decide +kernel
theorem dX1_firstWrongWith_48 : decode cX1_firstWrongWith 48 = .ok (.aload_n 0, 1) := by decide +kernel
theorem dX1_firstWrongWith_49 : decode cX1_firstWrongWith 49 = .ok (.iload_n 1, 1) := by decide +kernel
theorem dX1_firstWrongWith_50 : decode cX1_firstWrongWith 50 = .ok (.iload 5, 2) := by decide +kernel
theorem dX1_firstWrongWith_52 : decode cX1_firstWrongWith 52 = .ok (.iload 6, 2) := by decide +kernel
theorem dX1_firstWrongWith_54 : decode cX1_firstWrongWith 54 = .ok (.iload 7, 2) := by decide +kernel
theorem dX1_firstWrongWith_56 : decode cX1_firstWrongWith 56 = .ok (.invokevirtual 122, 3) := by decide +kernel
theorem dX1_firstWrongWith_59 : decode cX1_firstWrongWith 59 = .ok (.iload 8, 2) := by decide +kernel
theorem dX1_firstWrongWith_61 : decode cX1_firstWrongWith 61 = .ok (.ireturn, 1) := by decide +kernel
theorem dX1_place_0 : decode cX1_place 0 = .ok (.aload_n 0, 1) := by decide +kernel
theorem dX1_place_1 : decode cX1_place 1 = .ok (.getfield 14, 3) := by decide +kernel
theorem dX1_place_4 : decode cX1_place 4 = .ok (.iload_n 1, 1) := by decide +kernel
theorem dX1_place_5 : decode cX1_place 5 = .ok (.iconst 4, 1) := by decide +kernel
theorem dX1_place_6 : decode cX1_place 6 = .ok (.iload_n 2, 1) := by decide +kernel
theorem dX1_place_7 : decode cX1_place 7 = .ok (.invokevirtual 89, 3) := by decide +kernel
theorem dX1_place_10 : decode cX1_place 10 = .ok (.aload_n 0, 1) := by decide +kernel
theorem dX1_place_11 : decode cX1_place 11 = .ok (.getfield 14, 3) := by decide +kernel
theorem dX1_place_14 : decode cX1_place 14 = .ok (.iload_n 1, 1) := by decide +kernel
theorem dX1_place_15 : decode cX1_place 15 = .ok (.iconst 5, 1) := by decide +kernel
theorem dX1_place_16 : decode cX1_place 16 = .ok (.iload_n 3, 1) := by decide +kernel
theorem dX1_place_17 : decode cX1_place 17 = .ok (.invokevirtual 89, 3) := by decide +kernel
theorem dX1_place_20 : decode cX1_place 20 = .ok (.aload_n 0, 1) := by decide +kernel
theorem dX1_place_21 : decode cX1_place 21 = .ok (.getfield 14, 3) := by decide +kernel
theorem dX1_place_24 : decode cX1_place 24 = .ok (.iload_n 1, 1) := by decide +kernel
theorem dX1_place_25 : decode cX1_place 25 = .ok (.iconst 2, 1) := by decide +kernel
theorem dX1_place_26 : decode cX1_place 26 = .ok (.iload 4, 2) := by decide +kernel
theorem dX1_place_28 : decode cX1_place 28 = .ok (.invokevirtual 89, 3) := by decide +kernel
theorem dX1_place_31 : decode cX1_place 31 = .ok (.return_, 1) := by decide +kernel
theorem dX1_doMove_0 : decode cX1_doMove 0 = .ok (.aload_n 0, 1) := by decide +kernel
theorem dX1_doMove_1 : decode cX1_doMove 1 = .ok (.iload_n 1, 1) := by decide +kernel
theorem dX1_doMove_2 : decode cX1_doMove 2 = .ok (.iload_n 2, 1) := by decide +kernel
theorem dX1_doMove_3 : decode cX1_doMove 3 = .ok (.invokevirtual 116, 3) := by decide +kernel
theorem dX1_doMove_6 : decode cX1_doMove 6 = .ok (.istore_n 3, 1) := by decide +kernel
theorem dX1_doMove_7 : decode cX1_doMove 7 = .ok (.aload_n 0, 1) := by decide +kernel
theorem dX1_doMove_8 : decode cX1_doMove 8 = .ok (.iload_n 1, 1) := by decide +kernel
theorem dX1_doMove_9 : decode cX1_doMove 9 = .ok (.invokevirtual 129, 3) := by decide +kernel
theorem dX1_doMove_12 : decode cX1_doMove 12 = .ok (.aload_n 0, 1) := by decide +kernel
theorem dX1_doMove_13 : decode cX1_doMove 13 = .ok (.iload_n 1, 1) := by decide +kernel
theorem dX1_doMove_14 : decode cX1_doMove 14 = .ok (.iload_n 2, 1) := by decide +kernel
theorem dX1_doMove_15 : decode cX1_doMove 15 = .ok (.iload_n 3, 1) := by decide +kernel
theorem dX1_doMove_16 : decode cX1_doMove 16 = .ok (.aload_n 0, 1) := by decide +kernel
theorem dX1_doMove_17 : decode cX1_doMove 17 = .ok (.getfield 14, 3) := by decide +kernel
theorem dX1_doMove_20 : decode cX1_doMove 20 = .ok (.iload_n 1, 1) := by decide +kernel
theorem dX1_doMove_21 : decode cX1_doMove 21 = .ok (.iconst 2, 1) := by decide +kernel
theorem dX1_doMove_22 : decode cX1_doMove 22 = .ok (.invokevirtual 59, 3) := by decide +kernel
theorem dX1_doMove_25 : decode cX1_doMove 25 = .ok (.invokevirtual 122, 3) := by decide +kernel
theorem dX1_doMove_28 : decode cX1_doMove 28 = .ok (.return_, 1) := by decide +kernel
theorem dX1_doChange_0 : decode cX1_doChange 0 = .ok (.aload_n 0, 1) := by decide +kernel
theorem dX1_doChange_1 : decode cX1_doChange 1 = .ok (.iload_n 1, 1) := by decide +kernel
theorem dX1_doChange_2 : decode cX1_doChange 2 = .ok (.invokevirtual 129, 3) := by decide +kernel
theorem dX1_doChange_5 : decode cX1_doChange 5 = .ok (.aload_n 0, 1) := by decide +kernel
theorem dX1_doChange_6 : decode cX1_doChange 6 = .ok (.getfield 14, 3) := by decide +kernel
theorem dX1_doChange_9 : decode cX1_doChange 9 = .ok (.iload_n 1, 1) := by decide +kernel
theorem dX1_doChange_10 : decode cX1_doChange 10 = .ok (.iconst 2, 1) := by decide +kernel
theorem dX1_doChange_11 : decode cX1_doChange 11 = .ok (.iload_n 2, 1) := by decide +kernel
theorem dX1_doChange_12 : decode cX1_doChange 12 = .ok (.invokevirtual 89, 3) := by decide +kernel
theorem dX1_doChange_15 : decode cX1_doChange 15 = .ok (.return_, 1) := by decide +kernel
theorem dX1_doBackOut_0 : decode cX1_doBackOut 0 = .ok (.aload_n 0, 1) := by decide +kernel
theorem dX1_doBackOut_1 : decode cX1_doBackOut 1 = .ok (.getfield 26, 3) := by decide +kernel
theorem dX1_doBackOut_4 : decode cX1_doBackOut 4 = .ok (.getfield 63, 3) := by decide +kernel
theorem dX1_doBackOut_7 : decode cX1_doBackOut 7 = .ok (.iconst 1, 1) := by decide +kernel
theorem dX1_doBackOut_8 : decode cX1_doBackOut 8 = .ok (.isub, 1) := by decide +kernel
theorem dX1_doBackOut_9 : decode cX1_doBackOut 9 = .ok (.istore_n 1, 1) := by decide +kernel
theorem dX1_doBackOut_10 : decode cX1_doBackOut 10 = .ok (.aload_n 0, 1) := by decide +kernel
theorem dX1_doBackOut_11 : decode cX1_doBackOut 11 = .ok (.getfield 26, 3) := by decide +kernel
theorem dX1_doBackOut_14 : decode cX1_doBackOut 14 = .ok (.iload_n 1, 1) := by decide +kernel
theorem dX1_doBackOut_15 : decode cX1_doBackOut 15 = .ok (.iconst 0, 1) := by decide +kernel
theorem dX1_doBackOut_16 : decode cX1_doBackOut 16 = .ok (.invokevirtual 59, 3) := by decide +kernel
theorem dX1_doBackOut_19 : decode cX1_doBackOut 19 = .ok (.istore_n 2, 1) := by decide +kernel
theorem dX1_doBackOut_20 : decode cX1_doBackOut 20 = .ok (.aload_n 0, 1) := by decide +kernel
theorem dX1_doBackOut_21 : decode cX1_doBackOut 21 = .ok (.iload_n 2, 1) := by decide +kernel
theorem dX1_doBackOut_22 : decode cX1_doBackOut 22 = .ok (.aload_n 0, 1) := by decide +kernel
theorem dX1_doBackOut_23 : decode cX1_doBackOut 23 = .ok (.getfield 26, 3) := by decide +kernel
theorem dX1_doBackOut_26 : decode cX1_doBackOut 26 = .ok (.iload_n 1, 1) := by decide +kernel
theorem dX1_doBackOut_27 : decode cX1_doBackOut 27 = .ok (.iconst 1, 1) := by decide +kernel
theorem dX1_doBackOut_28 : decode cX1_doBackOut 28 = .ok (.invokevirtual 59, 3) := by decide +kernel
theorem dX1_doBackOut_31 : decode cX1_doBackOut 31 = .ok (.aload_n 0, 1) := by decide +kernel
theorem dX1_doBackOut_32 : decode cX1_doBackOut 32 = .ok (.getfield 26, 3) := by decide +kernel
theorem dX1_doBackOut_35 : decode cX1_doBackOut 35 = .ok (.iload_n 1, 1) := by decide +kernel
theorem dX1_doBackOut_36 : decode cX1_doBackOut 36 = .ok (.iconst 2, 1) := by decide +kernel
theorem dX1_doBackOut_37 : decode cX1_doBackOut 37 = .ok (.invokevirtual 59, 3) := by decide +kernel
theorem dX1_doBackOut_40 : decode cX1_doBackOut 40 = .ok (.aload_n 0, 1) := by decide +kernel
theorem dX1_doBackOut_41 : decode cX1_doBackOut 41 = .ok (.getfield 26, 3) := by decide +kernel
theorem dX1_doBackOut_44 : decode cX1_doBackOut 44 = .ok (.iload_n 1, 1) := by decide +kernel
theorem dX1_doBackOut_45 : decode cX1_doBackOut 45 = .ok (.iconst 3, 1) := by decide +kernel
theorem dX1_doBackOut_46 : decode cX1_doBackOut 46 = .ok (.invokevirtual 59, 3) := by decide +kernel
theorem dX1_doBackOut_49 : decode cX1_doBackOut 49 = .ok (.invokevirtual 122, 3) := by decide +kernel
theorem dX1_doBackOut_52 : decode cX1_doBackOut 52 = .ok (.aload_n 0, 1) := by decide +kernel
theorem dX1_doBackOut_53 : decode cX1_doBackOut 53 = .ok (.getfield 26, 3) := by decide +kernel
theorem dX1_doBackOut_56 : decode cX1_doBackOut 56 = .ok (.iload_n 1, 1) := by decide +kernel
theorem dX1_doBackOut_57 : decode cX1_doBackOut 57 = .ok (.invokevirtual 133, 3) := by decide +kernel
theorem dX1_doBackOut_60 : decode cX1_doBackOut 60 = .ok (.aload_n 0, 1) := by decide +kernel
theorem dX1_doBackOut_61 : decode cX1_doBackOut 61 = .ok (.dup, 1) := by decide +kernel
theorem dX1_doBackOut_62 : decode cX1_doBackOut 62 = .ok (.getfield 46, 3) := by decide +kernel
theorem dX1_doBackOut_65 : decode cX1_doBackOut 65 = .ok (.iconst 1, 1) := by decide +kernel
theorem dX1_doBackOut_66 : decode cX1_doBackOut 66 = .ok (.iadd, 1) := by decide +kernel
theorem dX1_doBackOut_67 : decode cX1_doBackOut 67 = .ok (.putfield 46, 3) := by decide +kernel
theorem dX1_doBackOut_70 : decode cX1_doBackOut 70 = .ok (.return_, 1) := by decide +kernel
theorem dX1_pushStep_0 : decode cX1_pushStep 0 = .ok (.aload_n 0, 1) := by decide +kernel
theorem dX1_pushStep_1 : decode cX1_pushStep 1 = .ok (.getfield 26, 3) := by decide +kernel
theorem dX1_pushStep_4 : decode cX1_pushStep 4 = .ok (.invokevirtual 136, 3) := by decide +kernel
theorem dX1_pushStep_7 : decode cX1_pushStep 7 = .ok (.ifCond .eq 11, 3) := by decide +kernel
theorem dX1_pushStep_10 : decode cX1_pushStep 10 = .ok (.aload_n 0, 1) := by decide +kernel
theorem dX1_pushStep_11 : decode cX1_pushStep 11 = .ok (.getfield 26, 3) := by decide +kernel
theorem dX1_pushStep_14 : decode cX1_pushStep 14 = .ok (.iconst 0, 1) := by decide +kernel
theorem dX1_pushStep_15 : decode cX1_pushStep 15 = .ok (.invokevirtual 133, 3) := by decide +kernel
theorem dX1_pushStep_18 : decode cX1_pushStep 18 = .ok (.aload_n 0, 1) := by decide +kernel
theorem dX1_pushStep_19 : decode cX1_pushStep 19 = .ok (.getfield 26, 3) := by decide +kernel
theorem dX1_pushStep_22 : decode cX1_pushStep 22 = .ok (.invokevirtual 140, 3) := by decide +kernel
theorem dX1_pushStep_25 : decode cX1_pushStep 25 = .ok (.istore_n 2, 1) := by decide +kernel
theorem dX1_pushStep_26 : decode cX1_pushStep 26 = .ok (.aload_n 0, 1) := by decide +kernel
theorem dX1_pushStep_27 : decode cX1_pushStep 27 = .ok (.getfield 26, 3) := by decide +kernel
theorem dX1_pushStep_30 : decode cX1_pushStep 30 = .ok (.iload_n 2, 1) := by decide +kernel
theorem dX1_pushStep_31 : decode cX1_pushStep 31 = .ok (.iconst 0, 1) := by decide +kernel
theorem dX1_pushStep_32 : decode cX1_pushStep 32 = .ok (.iload_n 1, 1) := by decide +kernel
theorem dX1_pushStep_33 : decode cX1_pushStep 33 = .ok (.invokevirtual 89, 3) := by decide +kernel
theorem dX1_pushStep_36 : decode cX1_pushStep 36 = .ok (.aload_n 0, 1) := by decide +kernel
theorem dX1_pushStep_37 : decode cX1_pushStep 37 = .ok (.getfield 26, 3) := by decide +kernel
theorem dX1_pushStep_40 : decode cX1_pushStep 40 = .ok (.iload_n 2, 1) := by decide +kernel
theorem dX1_pushStep_41 : decode cX1_pushStep 41 = .ok (.iconst 1, 1) := by decide +kernel
theorem dX1_pushStep_42 : decode cX1_pushStep 42 = .ok (.aload_n 0, 1) := by decide +kernel
theorem dX1_pushStep_43 : decode cX1_pushStep 43 = .ok (.getfield 14, 3) := by decide +kernel
theorem dX1_pushStep_46 : decode cX1_pushStep 46 = .ok (.iload_n 1, 1) := by decide +kernel
theorem dX1_pushStep_47 : decode cX1_pushStep 47 = .ok (.iconst 4, 1) := by decide +kernel
theorem dX1_pushStep_48 : decode cX1_pushStep 48 = .ok (.invokevirtual 59, 3) := by decide +kernel
theorem dX1_pushStep_51 : decode cX1_pushStep 51 = .ok (.invokevirtual 89, 3) := by decide +kernel
theorem dX1_pushStep_54 : decode cX1_pushStep 54 = .ok (.aload_n 0, 1) := by decide +kernel
theorem dX1_pushStep_55 : decode cX1_pushStep 55 = .ok (.getfield 26, 3) := by decide +kernel
theorem dX1_pushStep_58 : decode cX1_pushStep 58 = .ok (.iload_n 2, 1) := by decide +kernel
theorem dX1_pushStep_59 : decode cX1_pushStep 59 = .ok (.iconst 2, 1) := by decide +kernel
theorem dX1_pushStep_60 : decode cX1_pushStep 60 = .ok (.aload_n 0, 1) := by decide +kernel
theorem dX1_pushStep_61 : decode cX1_pushStep 61 = .ok (.getfield 14, 3) := by decide +kernel
theorem dX1_pushStep_64 : decode cX1_pushStep 64 = .ok (.iload_n 1, 1) := by decide +kernel
theorem dX1_pushStep_65 : decode cX1_pushStep 65 = .ok (.iconst 5, 1) := by decide +kernel
theorem dX1_pushStep_66 : decode cX1_pushStep 66 = .ok (.invokevirtual 59, 3) := by decide +kernel
theorem dX1_pushStep_69 : decode cX1_pushStep 69 = .ok (.invokevirtual 89, 3) := by decide +kernel
theorem dX1_pushStep_72 : decode cX1_pushStep 72 = .ok (.aload_n 0, 1) := by decide +kernel
theorem dX1_pushStep_73 : decode cX1_pushStep 73 = .ok (.getfield 26, 3) := by decide +kernel
theorem dX1_pushStep_76 : decode cX1_pushStep 76 = .ok (.iload_n 2, 1) := by decide +kernel
theorem dX1_pushStep_77 : decode cX1_pushStep 77 = .ok (.iconst 3, 1) := by decide +kernel
theorem dX1_pushStep_78 : decode cX1_pushStep 78 = .ok (.aload_n 0, 1) := by decide +kernel
theorem dX1_pushStep_79 : decode cX1_pushStep 79 = .ok (.getfield 14, 3) := by decide +kernel
theorem dX1_pushStep_82 : decode cX1_pushStep 82 = .ok (.iload_n 1, 1) := by decide +kernel
theorem dX1_pushStep_83 : decode cX1_pushStep 83 = .ok (.iconst 2, 1) := by decide +kernel
theorem dX1_pushStep_84 : decode cX1_pushStep 84 = .ok (.invokevirtual 59, 3) := by decide +kernel
theorem dX1_pushStep_87 : decode cX1_pushStep 87 = .ok (.invokevirtual 89, 3) := by decide +kernel
theorem dX1_pushStep_90 : decode cX1_pushStep 90 = .ok (.aload_n 0, 1) := by decide +kernel
theorem dX1_pushStep_91 : decode cX1_pushStep 91 = .ok (.dup, 1) := by decide +kernel
theorem dX1_pushStep_92 : decode cX1_pushStep 92 = .ok (.getfield 43, 3) := by decide +kernel
theorem dX1_pushStep_95 : decode cX1_pushStep 95 = .ok (.iconst 1, 1) := by decide +kernel
theorem dX1_pushStep_96 : decode cX1_pushStep 96 = .ok (.iadd, 1) := by decide +kernel
theorem dX1_pushStep_97 : decode cX1_pushStep 97 = .ok (.putfield 43, 3) := by decide +kernel
theorem dX1_pushStep_100 : decode cX1_pushStep 100 = .ok (.return_, 1) := by decide +kernel
theorem dX0_init_0 : decode cX0_init 0 = .ok (.aload_n 0, 1) := by decide +kernel
theorem dX0_init_1 : decode cX0_init 1 = .ok (.invokespecial 3, 3) := by decide +kernel
theorem dX0_init_4 : decode cX0_init 4 = .ok (.aload_n 0, 1) := by decide +kernel
theorem dX0_init_5 : decode cX0_init 5 = .ok (.bipush 90, 2) := by decide +kernel
theorem dX0_init_7 : decode cX0_init 7 = .ok (.newarray .int, 2) := by decide +kernel
theorem dX0_init_9 : decode cX0_init 9 = .ok (.putfield 9, 3) := by decide +kernel
theorem dX0_init_12 : decode cX0_init 12 = .ok (.aload_n 0, 1) := by decide +kernel
theorem dX0_init_13 : decode cX0_init 13 = .ok (.iconst 0, 1) := by decide +kernel
theorem dX0_init_14 : decode cX0_init 14 = .ok (.putfield 15, 3) := by decide +kernel
theorem dX0_init_17 : decode cX0_init 17 = .ok (.aload_n 0, 1) := by decide +kernel
theorem dX0_init_18 : decode cX0_init 18 = .ok (.new 19, 3) := by decide +kernel
theorem dX0_init_21 : decode cX0_init 21 = .ok (.dup, 1) := by decide +kernel
theorem dX0_init_22 : decode cX0_init 22 = .ok (.bipush 45, 2) := by decide +kernel
theorem dX0_init_24 : decode cX0_init 24 = .ok (.iconst 3, 1) := by decide +kernel
theorem dX0_init_25 : decode cX0_init 25 = .ok (.invokespecial 21, 3) := by decide +kernel
theorem dX0_init_28 : decode cX0_init 28 = .ok (.putfield 24, 3) := by decide +kernel
theorem dX0_init_31 : decode cX0_init 31 = .ok (.aload_n 0, 1) := by decide +kernel
theorem dX0_init_32 : decode cX0_init 32 = .ok (.iconst 0, 1) := by decide +kernel
theorem dX0_init_33 : decode cX0_init 33 = .ok (.putfield 28, 3) := by decide +kernel
theorem dX0_init_36 : decode cX0_init 36 = .ok (.aload_n 0, 1) := by decide +kernel
theorem dX0_init_37 : decode cX0_init 37 = .ok (.iconst 0, 1) := by decide +kernel
theorem dX0_init_38 : decode cX0_init 38 = .ok (.putfield 31, 3) := by decide +kernel
theorem dX0_init_41 : decode cX0_init 41 = .ok (.return_, 1) := by decide +kernel
theorem dX0_read_0 : decode cX0_read 0 = .ok (.aload_n 0, 1) := by decide +kernel
theorem dX0_read_1 : decode cX0_read 1 = .ok (.getfield 24, 3) := by decide +kernel
theorem dX0_read_4 : decode cX0_read 4 = .ok (.iconst 0, 1) := by decide +kernel
theorem dX0_read_5 : decode cX0_read 5 = .ok (.putfield 34, 3) := by decide +kernel
theorem dX0_read_8 : decode cX0_read 8 = .ok (.aload_n 0, 1) := by decide +kernel
theorem dX0_read_9 : decode cX0_read 9 = .ok (.iconst 0, 1) := by decide +kernel
theorem dX0_read_10 : decode cX0_read 10 = .ok (.putfield 28, 3) := by decide +kernel
theorem dX0_read_13 : decode cX0_read 13 = .ok (.iconst (-1), 1) := by decide +kernel
theorem dX0_read_14 : decode cX0_read 14 = .ok (.istore_n 2, 1) := by decide +kernel
theorem dX0_read_15 : decode cX0_read 15 = .ok (.iconst 0, 1) := by decide +kernel
theorem dX0_read_16 : decode cX0_read 16 = .ok (.istore_n 3, 1) := by decide +kernel
theorem dX0_read_17 : decode cX0_read 17 = .ok (.iload_n 3, 1) := by decide +kernel
theorem dX0_read_18 : decode cX0_read 18 = .ok (.bipush 90, 2) := by decide +kernel
theorem dX0_read_20 : decode cX0_read 20 = .ok (.if_icmp .ge 31, 3) := by decide +kernel
theorem dX0_read_23 : decode cX0_read 23 = .ok (.iload_n 2, 1) := by decide +kernel
theorem dX0_read_24 : decode cX0_read 24 = .ok (.iconst (-1), 1) := by decide +kernel
theorem dX0_read_25 : decode cX0_read 25 = .ok (.if_icmp .ne 26, 3) := by decide +kernel
theorem dX0_read_28 : decode cX0_read 28 = .ok (.aload_n 0, 1) := by decide +kernel
theorem dX0_read_29 : decode cX0_read 29 = .ok (.getfield 28, 3) := by decide +kernel
theorem dX0_read_32 : decode cX0_read 32 = .ok (.aload_n 0, 1) := by decide +kernel
theorem dX0_read_33 : decode cX0_read 33 = .ok (.getfield 15, 3) := by decide +kernel
theorem dX0_read_36 : decode cX0_read 36 = .ok (.if_icmp .ge 15, 3) := by decide +kernel
theorem dX0_read_39 : decode cX0_read 39 = .ok (.aload_n 0, 1) := by decide +kernel
theorem dX0_read_40 : decode cX0_read 40 = .ok (.iload_n 1, 1) := by decide +kernel
theorem dX0_read_41 : decode cX0_read 41 = .ok (.invokevirtual 37, 3) := by decide +kernel
theorem dX0_read_44 : decode cX0_read 44 = .ok (.istore_n 2, 1) := by decide +kernel
theorem dX0_read_45 : decode cX0_read 45 = .ok (.iinc 3 1, 3) := by decide +kernel
theorem dX0_read_48 : decode cX0_read 48 = .ok (.goto (-31), 3) := by decide +kernel
theorem dX0_read_51 : decode cX0_read 51 = .ok (.iload_n 2, 1) := by decide +kernel
theorem dX0_read_52 : decode cX0_read 52 = .ok (.ireturn, 1) := by decide +kernel
theorem dX0_readPart_0 : decode cX0_readPart 0 = .ok (.aload_n 0, 1) := by decide +kernel
theorem dX0_readPart_1 : decode cX0_readPart 1 = .ok (.aload_n 0, 1) := by decide +kernel
theorem dX0_readPart_2 : decode cX0_readPart 2 = .ok (.getfield 28, 3) := by decide +kernel
theorem dX0_readPart_5 : decode cX0_readPart 5 = .ok (.invokevirtual 41, 3) := by decide +kernel
theorem dX0_readPart_8 : decode cX0_readPart 8 = .ok (.istore_n 2, 1) := by decide +kernel
theorem dX0_readPart_9 : decode cX0_readPart 9 = .ok (.iload_n 2, 1) := by decide +kernel
theorem dX0_readPart_10 : decode cX0_readPart 10 = .ok (.bipush 109, 2) := by decide +kernel
theorem dX0_readPart_12 : decode cX0_readPart 12 = .ok (.if_icmp .eq 20, 3) := by decide +kernel
theorem dX0_readPart_15 : decode cX0_readPart 15 = .ok (.iload_n 2, 1) := by decide +kernel
theorem dX0_readPart_16 : decode cX0_readPart 16 = .ok (.bipush 112, 2) := by decide +kernel
theorem dX0_readPart_18 : decode cX0_readPart 18 = .ok (.if_icmp .eq 14, 3) := by decide +kernel
theorem dX0_readPart_21 : decode cX0_readPart 21 = .ok (.iload_n 2, 1) := by decide +kernel
theorem dX0_readPart_22 : decode cX0_readPart 22 = .ok (.bipush 104, 2) := by decide +kernel
theorem dX0_readPart_24 : decode cX0_readPart 24 = .ok (.if_icmp .eq 8, 3) := by decide +kernel
theorem dX0_readPart_27 : decode cX0_readPart 27 = .ok (.aload_n 0, 1) := by decide +kernel
theorem dX0_readPart_28 : decode cX0_readPart 28 = .ok (.getfield 28, 3) := by decide +kernel
theorem dX0_readPart_31 : decode cX0_readPart 31 = .ok (.ireturn, 1) := by decide +kernel
theorem dX0_readPart_32 : decode cX0_readPart 32 = .ok (.aload_n 0, 1) := by decide +kernel
theorem dX0_readPart_33 : decode cX0_readPart 33 = .ok (.dup, 1) := by decide +kernel
theorem dX0_readPart_34 : decode cX0_readPart 34 = .ok (.getfield 28, 3) := by decide +kernel
theorem dX0_readPart_37 : decode cX0_readPart 37 = .ok (.iconst 1, 1) := by decide +kernel
theorem dX0_readPart_38 : decode cX0_readPart 38 = .ok (.iadd, 1) := by decide +kernel
theorem dX0_readPart_39 : decode cX0_readPart 39 = .ok (.putfield 28, 3) := by decide +kernel
theorem dX0_readPart_42 : decode cX0_readPart 42 = .ok (.aload_n 0, 1) := by decide +kernel
theorem dX0_readPart_43 : decode cX0_readPart 43 = .ok (.getfield 24, 3) := by decide +kernel
theorem dX0_readPart_46 : decode cX0_readPart 46 = .ok (.invokevirtual 44, 3) := by decide +kernel
theorem dX0_readPart_49 : decode cX0_readPart 49 = .ok (.istore_n 3, 1) := by decide +kernel
theorem dX0_readPart_50 : decode cX0_readPart 50 = .ok (.aload_n 0, 1) := by decide +kernel
theorem dX0_readPart_51 : decode cX0_readPart 51 = .ok (.getfield 24, 3) := by decide +kernel
theorem dX0_readPart_54 : decode cX0_readPart 54 = .ok (.iload_n 3, 1) := by decide +kernel
theorem dX0_readPart_55 : decode cX0_readPart 55 = .ok (.iconst 0, 1) := by decide +kernel
theorem dX0_readPart_56 : decode cX0_readPart 56 = .ok (.iload_n 2, 1) := by decide +kernel
theorem dX0_readPart_57 : decode cX0_readPart 57 = .ok (.invokevirtual 48, 3) := by decide +kernel
theorem dX0_readPart_60 : decode cX0_readPart 60 = .ok (.iload_n 2, 1) := by decide +kernel
theorem dX0_readPart_61 : decode cX0_readPart 61 = .ok (.bipush 104, 2) := by decide +kernel
theorem dX0_readPart_63 : decode cX0_readPart 63 = .ok (.if_icmp .ne 7, 3) := by decide +kernel
theorem dX0_readPart_66 : decode cX0_readPart 66 = .ok (.iconst (-1), 1) := by decide +kernel
theorem dX0_readPart_67 : decode cX0_readPart 67 = .ok (.goto 20, 3) := by decide +kernel
theorem dX0_readPart_70 : decode cX0_readPart 70 = .ok (.aload_n 0, 1) := by decide +kernel
theorem dX0_readPart_71 : decode cX0_readPart 71 = .ok (.iload_n 3, 1) := by decide +kernel
theorem dX0_readPart_72 : decode cX0_readPart 72 = .ok (.iload_n 2, 1) := by decide +kernel
theorem dX0_readPart_73 : decode cX0_readPart 73 = .ok (.bipush 109, 2) := by decide +kernel
theorem dX0_readPart_75 : decode cX0_readPart 75 = .ok (.if_icmp .ne 7, 3) := by decide +kernel
theorem dX0_readPart_78 : decode cX0_readPart 78 = .ok (.iconst 1, 1) := by decide +kernel
theorem dX0_readPart_79 : decode cX0_readPart 79 = .ok (.goto 4, 3) := by decide +kernel
theorem dX0_readPart_82 : decode cX0_readPart 82 = .ok (.iconst 0, 1) := by decide +kernel
theorem dX0_readPart_83 : decode cX0_readPart 83 = .ok (.iload_n 1, 1) := by decide +kernel
theorem dX0_readPart_84 : decode cX0_readPart 84 = .ok (.invokevirtual 52, 3) := by decide +kernel
theorem dX0_readPart_87 : decode cX0_readPart 87 = .ok (.istore 4, 2) := by decide +kernel
theorem dX0_readPart_89 : decode cX0_readPart 89 = .ok (.iload 4, 2) := by decide +kernel
theorem dX0_readPart_91 : decode cX0_readPart 91 = .ok (.iconst (-1), 1) := by decide +kernel
theorem dX0_readPart_92 : decode cX0_readPart 92 = .ok (.if_icmp .ne 12, 3) := by decide +kernel
theorem dX0_readPart_95 : decode cX0_readPart 95 = .ok (.aload_n 0, 1) := by decide +kernel
theorem dX0_readPart_96 : decode cX0_readPart 96 = .ok (.bipush 59, 2) := by decide +kernel
theorem dX0_readPart_98 : decode cX0_readPart 98 = .ok (.invokevirtual 56, 3) := by decide +kernel
theorem dX0_readPart_101 : decode cX0_readPart 101 = .ok (.goto 5, 3) := by decide +kernel
theorem dX0_readPart_104 : decode cX0_readPart 104 = .ok (.iload 4, 2) := by decide +kernel
theorem dX0_readPart_106 : decode cX0_readPart 106 = .ok (.ireturn, 1) := by decide +kernel
theorem dX0_readStep_0 : decode cX0_readStep 0 = .ok (.aload_n 0, 1) := by decide +kernel
theorem dX0_readStep_1 : decode cX0_readStep 1 = .ok (.iload_n 3, 1) := by decide +kernel
theorem dX0_readStep_2 : decode cX0_readStep 2 = .ok (.invokevirtual 59, 3) := by decide +kernel
theorem dX0_readStep_5 : decode cX0_readStep 5 = .ok (.istore 4, 2) := by decide +kernel
theorem dX0_readStep_7 : decode cX0_readStep 7 = .ok (.aload_n 0, 1) := by decide +kernel
theorem dX0_readStep_8 : decode cX0_readStep 8 = .ok (.getfield 24, 3) := by decide +kernel
theorem dX0_readStep_11 : decode cX0_readStep 11 = .ok (.iload_n 1, 1) := by decide +kernel
theorem dX0_readStep_12 : decode cX0_readStep 12 = .ok (.iconst 1, 1) := by decide +kernel
theorem dX0_readStep_13 : decode cX0_readStep 13 = .ok (.aload_n 0, 1) := by decide +kernel
theorem dX0_readStep_14 : decode cX0_readStep 14 = .ok (.getfield 31, 3) := by decide +kernel
theorem dX0_readStep_17 : decode cX0_readStep 17 = .ok (.invokevirtual 48, 3) := by decide +kernel
theorem dX0_readStep_20 : decode cX0_readStep 20 = .ok (.iload 4, 2) := by decide +kernel
theorem dX0_readStep_22 : decode cX0_readStep 22 = .ok (.iconst (-1), 1) := by decide +kernel
theorem dX0_readStep_23 : decode cX0_readStep 23 = .ok (.if_icmp .ne 11, 3) := by decide +kernel
theorem dX0_readStep_26 : decode cX0_readStep 26 = .ok (.aload_n 0, 1) := by decide +kernel
theorem dX0_readStep_27 : decode cX0_readStep 27 = .ok (.bipush 62, 2) := by decide +kernel
theorem dX0_readStep_29 : decode cX0_readStep 29 = .ok (.invokevirtual 56, 3) := by decide +kernel
theorem dX0_readStep_32 : decode cX0_readStep 32 = .ok (.istore 4, 2) := by decide +kernel
theorem dX0_readStep_34 : decode cX0_readStep 34 = .ok (.iload 4, 2) := by decide +kernel
theorem dX0_readStep_36 : decode cX0_readStep 36 = .ok (.iconst (-1), 1) := by decide +kernel
theorem dX0_readStep_37 : decode cX0_readStep 37 = .ok (.if_icmp .ne 34, 3) := by decide +kernel
theorem dX0_readStep_40 : decode cX0_readStep 40 = .ok (.iload_n 2, 1) := by decide +kernel
theorem dX0_readStep_41 : decode cX0_readStep 41 = .ok (.ifCond .eq 10, 3) := by decide +kernel
theorem dX0_readStep_44 : decode cX0_readStep 44 = .ok (.aload_n 0, 1) := by decide +kernel
theorem dX0_readStep_45 : decode cX0_readStep 45 = .ok (.invokevirtual 62, 3) := by decide +kernel
theorem dX0_readStep_48 : decode cX0_readStep 48 = .ok (.goto 8, 3) := by decide +kernel
theorem dX0_readStep_51 : decode cX0_readStep 51 = .ok (.aload_n 0, 1) := by decide +kernel
theorem dX0_readStep_52 : decode cX0_readStep 52 = .ok (.iconst 2, 1) := by decide +kernel
theorem dX0_readStep_53 : decode cX0_readStep 53 = .ok (.invokevirtual 65, 3) := by decide +kernel
theorem dX0_readStep_56 : decode cX0_readStep 56 = .ok (.istore 4, 2) := by decide +kernel
theorem dX0_readStep_58 : decode cX0_readStep 58 = .ok (.aload_n 0, 1) := by decide +kernel
theorem dX0_readStep_59 : decode cX0_readStep 59 = .ok (.getfield 24, 3) := by decide +kernel
theorem dX0_readStep_62 : decode cX0_readStep 62 = .ok (.iload_n 1, 1) := by decide +kernel
theorem dX0_readStep_63 : decode cX0_readStep 63 = .ok (.iconst 2, 1) := by decide +kernel
theorem dX0_readStep_64 : decode cX0_readStep 64 = .ok (.aload_n 0, 1) := by decide +kernel
theorem dX0_readStep_65 : decode cX0_readStep 65 = .ok (.getfield 31, 3) := by decide +kernel
theorem dX0_readStep_68 : decode cX0_readStep 68 = .ok (.invokevirtual 48, 3) := by decide +kernel
theorem dX0_readStep_71 : decode cX0_readStep 71 = .ok (.iload 4, 2) := by decide +kernel
theorem dX0_readStep_73 : decode cX0_readStep 73 = .ok (.ireturn, 1) := by decide +kernel
theorem dX0_readMachine_0 : decode cX0_readMachine 0 = .ok (.aload_n 0, 1) := by decide +kernel
theorem dX0_readMachine_1 : decode cX0_readMachine 1 = .ok (.getfield 28, 3) := by decide +kernel
theorem dX0_readMachine_4 : decode cX0_readMachine 4 = .ok (.istore_n 2, 1) := by decide +kernel
theorem dX0_readMachine_5 : decode cX0_readMachine 5 = .ok (.aload_n 0, 1) := by decide +kernel
theorem dX0_readMachine_6 : decode cX0_readMachine 6 = .ok (.aload_n 0, 1) := by decide +kernel
theorem dX0_readMachine_7 : decode cX0_readMachine 7 = .ok (.getfield 28, 3) := by decide +kernel
theorem dX0_readMachine_10 : decode cX0_readMachine 10 = .ok (.invokevirtual 41, 3) := by decide +kernel
theorem dX0_readMachine_13 : decode cX0_readMachine 13 = .ok (.invokestatic 68, 3) := by decide +kernel
theorem dX0_readMachine_16 : decode cX0_readMachine 16 = .ok (.ifCond .ne 8, 3) := by decide +kernel
theorem dX0_readMachine_19 : decode cX0_readMachine 19 = .ok (.aload_n 0, 1) := by decide +kernel
theorem dX0_readMachine_20 : decode cX0_readMachine 20 = .ok (.getfield 28, 3) := by decide +kernel
theorem dX0_readMachine_23 : decode cX0_readMachine 23 = .ok (.ireturn, 1) := by decide +kernel
theorem dX0_readMachine_24 : decode cX0_readMachine 24 = .ok (.aload_n 0, 1) := by decide +kernel
theorem dX0_readMachine_25 : decode cX0_readMachine 25 = .ok (.aload_n 0, 1) := by decide +kernel
theorem dX0_readMachine_26 : decode cX0_readMachine 26 = .ok (.getfield 28, 3) := by decide +kernel
theorem dX0_readMachine_29 : decode cX0_readMachine 29 = .ok (.invokevirtual 41, 3) := by decide +kernel
theorem dX0_readMachine_32 : decode cX0_readMachine 32 = .ok (.bipush 48, 2) := by decide +kernel
theorem dX0_readMachine_34 : decode cX0_readMachine 34 = .ok (.isub, 1) := by decide +kernel
theorem dX0_readMachine_35 : decode cX0_readMachine 35 = .ok (.istore_n 3, 1) := by decide +kernel
theorem dX0_readMachine_36 : decode cX0_readMachine 36 = .ok (.aload_n 0, 1) := by decide +kernel
theorem dX0_readMachine_37 : decode cX0_readMachine 37 = .ok (.dup, 1) := by decide +kernel
theorem dX0_readMachine_38 : decode cX0_readMachine 38 = .ok (.getfield 28, 3) := by decide +kernel
theorem dX0_readMachine_41 : decode cX0_readMachine 41 = .ok (.iconst 1, 1) := by decide +kernel
theorem dX0_readMachine_42 : decode cX0_readMachine 42 = .ok (.iadd, 1) := by decide +kernel
theorem dX0_readMachine_43 : decode cX0_readMachine 43 = .ok (.putfield 28, 3) := by decide +kernel
theorem dX0_readMachine_46 : decode cX0_readMachine 46 = .ok (.aload_n 0, 1) := by decide +kernel
theorem dX0_readMachine_47 : decode cX0_readMachine 47 = .ok (.aload_n 0, 1) := by decide +kernel
theorem dX0_readMachine_48 : decode cX0_readMachine 48 = .ok (.getfield 28, 3) := by decide +kernel
theorem dX0_readMachine_51 : decode cX0_readMachine 51 = .ok (.invokevirtual 41, 3) := by decide +kernel
theorem dX0_readMachine_54 : decode cX0_readMachine 54 = .ok (.invokestatic 68, 3) := by decide +kernel
theorem dX0_readMachine_57 : decode cX0_readMachine 57 = .ok (.ifCond .eq 30, 3) := by decide +kernel
theorem dX0_readMachine_60 : decode cX0_readMachine 60 = .ok (.bipush 10, 2) := by decide +kernel
theorem dX0_readMachine_62 : decode cX0_readMachine 62 = .ok (.iload_n 3, 1) := by decide +kernel
theorem dX0_readMachine_63 : decode cX0_readMachine 63 = .ok (.imul, 1) := by decide +kernel
theorem dX0_readMachine_64 : decode cX0_readMachine 64 = .ok (.aload_n 0, 1) := by decide +kernel
theorem dX0_readMachine_65 : decode cX0_readMachine 65 = .ok (.aload_n 0, 1) := by decide +kernel
theorem dX0_readMachine_66 : decode cX0_readMachine 66 = .ok (.getfield 28, 3) := by decide +kernel
theorem dX0_readMachine_69 : decode cX0_readMachine 69 = .ok (.invokevirtual 41, 3) := by decide +kernel
theorem dX0_readMachine_72 : decode cX0_readMachine 72 = .ok (.iadd, 1) := by decide +kernel
theorem dX0_readMachine_73 : decode cX0_readMachine 73 = .ok (.bipush 48, 2) := by decide +kernel
theorem dX0_readMachine_75 : decode cX0_readMachine 75 = .ok (.isub, 1) := by decide +kernel
theorem dX0_readMachine_76 : decode cX0_readMachine 76 = .ok (.istore_n 3, 1) := by decide +kernel
theorem dX0_readMachine_77 : decode cX0_readMachine 77 = .ok (.aload_n 0, 1) := by decide +kernel
theorem dX0_readMachine_78 : decode cX0_readMachine 78 = .ok (.dup, 1) := by decide +kernel
theorem dX0_readMachine_79 : decode cX0_readMachine 79 = .ok (.getfield 28, 3) := by decide +kernel
theorem dX0_readMachine_82 : decode cX0_readMachine 82 = .ok (.iconst 1, 1) := by decide +kernel
theorem dX0_readMachine_83 : decode cX0_readMachine 83 = .ok (.iadd, 1) := by decide +kernel
theorem dX0_readMachine_84 : decode cX0_readMachine 84 = .ok (.putfield 28, 3) := by decide +kernel
theorem dX0_readMachine_87 : decode cX0_readMachine 87 = .ok (.aload_n 0, 1) := by decide +kernel
theorem dX0_readMachine_88 : decode cX0_readMachine 88 = .ok (.aload_n 0, 1) := by decide +kernel
theorem dX0_readMachine_89 : decode cX0_readMachine 89 = .ok (.getfield 28, 3) := by decide +kernel
theorem dX0_readMachine_92 : decode cX0_readMachine 92 = .ok (.invokevirtual 41, 3) := by decide +kernel
theorem dX0_readMachine_95 : decode cX0_readMachine 95 = .ok (.invokestatic 68, 3) := by decide +kernel
theorem dX0_readMachine_98 : decode cX0_readMachine 98 = .ok (.ifCond .eq 8, 3) := by decide +kernel
theorem dX0_readMachine_101 : decode cX0_readMachine 101 = .ok (.aload_n 0, 1) := by decide +kernel
theorem dX0_readMachine_102 : decode cX0_readMachine 102 = .ok (.getfield 28, 3) := by decide +kernel
theorem dX0_readMachine_105 : decode cX0_readMachine 105 = .ok (.ireturn, 1) := by decide +kernel
theorem dX0_readMachine_106 : decode cX0_readMachine 106 = .ok (.aload_n 0, 1) := by decide +kernel
theorem dX0_readMachine_107 : decode cX0_readMachine 107 = .ok (.iload_n 3, 1) := by decide +kernel
theorem dX0_readMachine_108 : decode cX0_readMachine 108 = .ok (.putfield 31, 3) := by decide +kernel
theorem dX0_readMachine_111 : decode cX0_readMachine 111 = .ok (.iload_n 3, 1) := by decide +kernel
theorem dX0_readMachine_112 : decode cX0_readMachine 112 = .ok (.iload_n 1, 1) := by decide +kernel
theorem dX0_readMachine_113 : decode cX0_readMachine 113 = .ok (.if_icmp .ge 7, 3) := by decide +kernel
theorem dX0_readMachine_116 : decode cX0_readMachine 116 = .ok (.iconst (-1), 1) := by decide +kernel
theorem dX0_readMachine_117 : decode cX0_readMachine 117 = .ok (.goto 4, 3) := by decide +kernel
theorem dX0_readMachine_120 : decode cX0_readMachine 120 = .ok (.iload_n 2, 1) := by decide +kernel
theorem dX0_readMachine_121 : decode cX0_readMachine 121 = .ok (.ireturn, 1) := by decide +kernel
theorem dX0_readRack_0 : decode cX0_readRack 0 = .ok (.aload_n 0, 1) := by decide +kernel
theorem dX0_readRack_1 : decode cX0_readRack 1 = .ok (.aload_n 0, 1) := by decide +kernel
theorem dX0_readRack_2 : decode cX0_readRack 2 = .ok (.getfield 28, 3) := by decide +kernel
theorem dX0_readRack_5 : decode cX0_readRack 5 = .ok (.invokevirtual 41, 3) := by decide +kernel
theorem dX0_readRack_8 : decode cX0_readRack 8 = .ok (.bipush 115, 2) := by decide +kernel
theorem dX0_readRack_10 : decode cX0_readRack 10 = .ok (.if_icmp .eq 9, 3) := by decide +kernel
theorem dX0_readRack_13 : decode cX0_readRack 13 = .ok (.aload_n 0, 1) := by decide +kernel
theorem dX0_readRack_14 : decode cX0_readRack 14 = .ok (.iconst 5, 1) := by decide +kernel
theorem dX0_readRack_15 : decode cX0_readRack 15 = .ok (.invokevirtual 65, 3) := by decide +kernel
theorem dX0_readRack_18 : decode cX0_readRack 18 = .ok (.ireturn, 1) := by decide +kernel
theorem dX0_readRack_19 : decode cX0_readRack 19 = .ok (.aload_n 0, 1) := by decide +kernel
theorem dX0_readRack_20 : decode cX0_readRack 20 = .ok (.iconst (-1), 1) := by decide +kernel
theorem dX0_readRack_21 : decode cX0_readRack 21 = .ok (.putfield 31, 3) := by decide +kernel
theorem dX0_readRack_24 : decode cX0_readRack 24 = .ok (.aload_n 0, 1) := by decide +kernel
theorem dX0_readRack_25 : decode cX0_readRack 25 = .ok (.dup, 1) := by decide +kernel
theorem dX0_readRack_26 : decode cX0_readRack 26 = .ok (.getfield 28, 3) := by decide +kernel
theorem dX0_readRack_29 : decode cX0_readRack 29 = .ok (.iconst 1, 1) := by decide +kernel
theorem dX0_readRack_30 : decode cX0_readRack 30 = .ok (.iadd, 1) := by decide +kernel
theorem dX0_readRack_31 : decode cX0_readRack 31 = .ok (.putfield 28, 3) := by decide +kernel
theorem dX0_readRack_34 : decode cX0_readRack 34 = .ok (.iconst (-1), 1) := by decide +kernel
theorem dX0_readRack_35 : decode cX0_readRack 35 = .ok (.ireturn, 1) := by decide +kernel
theorem dX0_readDigit_0 : decode cX0_readDigit 0 = .ok (.aload_n 0, 1) := by decide +kernel
theorem dX0_readDigit_1 : decode cX0_readDigit 1 = .ok (.aload_n 0, 1) := by decide +kernel
theorem dX0_readDigit_2 : decode cX0_readDigit 2 = .ok (.getfield 28, 3) := by decide +kernel
theorem dX0_readDigit_5 : decode cX0_readDigit 5 = .ok (.invokevirtual 41, 3) := by decide +kernel
theorem dX0_readDigit_8 : decode cX0_readDigit 8 = .ok (.bipush 48, 2) := by decide +kernel
theorem dX0_readDigit_10 : decode cX0_readDigit 10 = .ok (.isub, 1) := by decide +kernel
theorem dX0_readDigit_11 : decode cX0_readDigit 11 = .ok (.istore_n 2, 1) := by decide +kernel
theorem dX0_readDigit_12 : decode cX0_readDigit 12 = .ok (.iload_n 2, 1) := by decide +kernel
theorem dX0_readDigit_13 : decode cX0_readDigit 13 = .ok (.ifCond .lt 8, 3) := by decide +kernel
theorem dX0_readDigit_16 : decode cX0_readDigit 16 = .ok (.iload_n 2, 1) := by decide +kernel
theorem dX0_readDigit_17 : decode cX0_readDigit 17 = .ok (.iload_n 1, 1) := by decide +kernel
theorem dX0_readDigit_18 : decode cX0_readDigit 18 = .ok (.if_icmp .le 8, 3) := by decide +kernel
theorem dX0_readDigit_21 : decode cX0_readDigit 21 = .ok (.aload_n 0, 1) := by decide +kernel
theorem dX0_readDigit_22 : decode cX0_readDigit 22 = .ok (.getfield 28, 3) := by decide +kernel
theorem dX0_readDigit_25 : decode cX0_readDigit 25 = .ok (.ireturn, 1) := by decide +kernel
theorem dX0_readDigit_26 : decode cX0_readDigit 26 = .ok (.aload_n 0, 1) := by decide +kernel
theorem dX0_readDigit_27 : decode cX0_readDigit 27 = .ok (.iload_n 2, 1) := by decide +kernel
theorem dX0_readDigit_28 : decode cX0_readDigit 28 = .ok (.putfield 31, 3) := by decide +kernel
theorem dX0_readDigit_31 : decode cX0_readDigit 31 = .ok (.aload_n 0, 1) := by decide +kernel
theorem dX0_readDigit_32 : decode cX0_readDigit 32 = .ok (.dup, 1) := by decide +kernel
theorem dX0_readDigit_33 : decode cX0_readDigit 33 = .ok (.getfield 28, 3) := by decide +kernel
theorem dX0_readDigit_36 : decode cX0_readDigit 36 = .ok (.iconst 1, 1) := by decide +kernel
theorem dX0_readDigit_37 : decode cX0_readDigit 37 = .ok (.iadd, 1) := by decide +kernel
theorem dX0_readDigit_38 : decode cX0_readDigit 38 = .ok (.putfield 28, 3) := by decide +kernel
theorem dX0_readDigit_41 : decode cX0_readDigit 41 = .ok (.iconst (-1), 1) := by decide +kernel
theorem dX0_readDigit_42 : decode cX0_readDigit 42 = .ok (.ireturn, 1) := by decide +kernel
theorem dX0_readByte_0 : decode cX0_readByte 0 = .ok (.aload_n 0, 1) := by decide +kernel
theorem dX0_readByte_1 : decode cX0_readByte 1 = .ok (.aload_n 0, 1) := by decide +kernel
theorem dX0_readByte_2 : decode cX0_readByte 2 = .ok (.getfield 28, 3) := by decide +kernel
theorem dX0_readByte_5 : decode cX0_readByte 5 = .ok (.invokevirtual 41, 3) := by decide +kernel
theorem dX0_readByte_8 : decode cX0_readByte 8 = .ok (.iload_n 1, 1) := by decide +kernel
theorem dX0_readByte_9 : decode cX0_readByte 9 = .ok (.if_icmp .eq 8, 3) := by decide +kernel
theorem dX0_readByte_12 : decode cX0_readByte 12 = .ok (.aload_n 0, 1) := by decide +kernel
theorem dX0_readByte_13 : decode cX0_readByte 13 = .ok (.getfield 28, 3) := by decide +kernel
theorem dX0_readByte_16 : decode cX0_readByte 16 = .ok (.ireturn, 1) := by decide +kernel
theorem dX0_readByte_17 : decode cX0_readByte 17 = .ok (.aload_n 0, 1) := by decide +kernel
theorem dX0_readByte_18 : decode cX0_readByte 18 = .ok (.dup, 1) := by decide +kernel
theorem dX0_readByte_19 : decode cX0_readByte 19 = .ok (.getfield 28, 3) := by decide +kernel
theorem dX0_readByte_22 : decode cX0_readByte 22 = .ok (.iconst 1, 1) := by decide +kernel
theorem dX0_readByte_23 : decode cX0_readByte 23 = .ok (.iadd, 1) := by decide +kernel
theorem dX0_readByte_24 : decode cX0_readByte 24 = .ok (.putfield 28, 3) := by decide +kernel
theorem dX0_readByte_27 : decode cX0_readByte 27 = .ok (.iconst (-1), 1) := by decide +kernel
theorem dX0_readByte_28 : decode cX0_readByte 28 = .ok (.ireturn, 1) := by decide +kernel
theorem dX0_byteAt_0 : decode cX0_byteAt 0 = .ok (.iload_n 1, 1) := by decide +kernel
theorem dX0_byteAt_1 : decode cX0_byteAt 1 = .ok (.ifCond .lt 26, 3) := by decide +kernel
theorem dX0_byteAt_4 : decode cX0_byteAt 4 = .ok (.iload_n 1, 1) := by decide +kernel
theorem dX0_byteAt_5 : decode cX0_byteAt 5 = .ok (.aload_n 0, 1) := by decide +kernel
theorem dX0_byteAt_6 : decode cX0_byteAt 6 = .ok (.getfield 15, 3) := by decide +kernel
theorem dX0_byteAt_9 : decode cX0_byteAt 9 = .ok (.if_icmp .ge 18, 3) := by decide +kernel
theorem dX0_byteAt_12 : decode cX0_byteAt 12 = .ok (.iload_n 1, 1) := by decide +kernel
theorem dX0_byteAt_13 : decode cX0_byteAt 13 = .ok (.bipush 90, 2) := by decide +kernel
theorem dX0_byteAt_15 : decode cX0_byteAt 15 = .ok (.if_icmp .ge 12, 3) := by decide +kernel
theorem dX0_byteAt_18 : decode cX0_byteAt 18 = .ok (.aload_n 0, 1) := by decide +kernel
theorem dX0_byteAt_19 : decode cX0_byteAt 19 = .ok (.getfield 9, 3) := by decide +kernel
theorem dX0_byteAt_22 : decode cX0_byteAt 22 = .ok (.iload_n 1, 1) := by decide +kernel
theorem dX0_byteAt_23 : decode cX0_byteAt 23 = .ok (.iaload, 1) := by decide +kernel
theorem dX0_byteAt_24 : decode cX0_byteAt 24 = .ok (.goto 4, 3) := by decide +kernel
theorem dX0_byteAt_27 : decode cX0_byteAt 27 = .ok (.iconst (-1), 1) := by decide +kernel
theorem dX0_byteAt_28 : decode cX0_byteAt 28 = .ok (.ireturn, 1) := by decide +kernel
theorem dX0_isDigit_0 : decode cX0_isDigit 0 = .ok (.iload_n 0, 1) := by decide +kernel
theorem dX0_isDigit_1 : decode cX0_isDigit 1 = .ok (.bipush 48, 2) := by decide +kernel
theorem dX0_isDigit_3 : decode cX0_isDigit 3 = .ok (.if_icmp .lt 13, 3) := by decide +kernel
theorem dX0_isDigit_6 : decode cX0_isDigit 6 = .ok (.iload_n 0, 1) := by decide +kernel
theorem dX0_isDigit_7 : decode cX0_isDigit 7 = .ok (.bipush 57, 2) := by decide +kernel
theorem dX0_isDigit_9 : decode cX0_isDigit 9 = .ok (.if_icmp .gt 7, 3) := by decide +kernel
theorem dX0_isDigit_12 : decode cX0_isDigit 12 = .ok (.iconst 1, 1) := by decide +kernel
theorem dX0_isDigit_13 : decode cX0_isDigit 13 = .ok (.goto 4, 3) := by decide +kernel
theorem dX0_isDigit_16 : decode cX0_isDigit 16 = .ok (.iconst 0, 1) := by decide +kernel
theorem dX0_isDigit_17 : decode cX0_isDigit 17 = .ok (.ireturn, 1) := by decide +kernel
theorem dX0_runIn_0 : decode cX0_runIn 0 = .ok (.iconst 0, 1) := by decide +kernel
theorem dX0_runIn_1 : decode cX0_runIn 1 = .ok (.istore_n 2, 1) := by decide +kernel
theorem dX0_runIn_2 : decode cX0_runIn 2 = .ok (.iconst 0, 1) := by decide +kernel
theorem dX0_runIn_3 : decode cX0_runIn 3 = .ok (.istore_n 3, 1) := by decide +kernel
theorem dX0_runIn_4 : decode cX0_runIn 4 = .ok (.iload_n 3, 1) := by decide +kernel
theorem dX0_runIn_5 : decode cX0_runIn 5 = .ok (.aload_n 0, 1) := by decide +kernel
theorem dX0_runIn_6 : decode cX0_runIn 6 = .ok (.getfield 24, 3) := by decide +kernel
theorem dX0_runIn_9 : decode cX0_runIn 9 = .ok (.getfield 34, 3) := by decide +kernel
theorem dX0_runIn_12 : decode cX0_runIn 12 = .ok (.if_icmp .ge 160, 3) := by decide +kernel
theorem dX0_runIn_15 : decode cX0_runIn 15 = .ok (.aload_n 0, 1) := by decide +kernel
theorem dX0_runIn_16 : decode cX0_runIn 16 = .ok (.getfield 24, 3) := by decide +kernel
theorem dX0_runIn_19 : decode cX0_runIn 19 = .ok (.iload_n 3, 1) := by decide +kernel
theorem dX0_runIn_20 : decode cX0_runIn 20 = .ok (.iconst 0, 1) := by decide +kernel
theorem dX0_runIn_21 : decode cX0_runIn 21 = .ok (.invokevirtual 72, 3) := by decide +kernel
theorem dX0_runIn_24 : decode cX0_runIn 24 = .ok (.istore 4, 2) := by decide +kernel
theorem dX0_runIn_26 : decode cX0_runIn 26 = .ok (.iload 4, 2) := by decide +kernel
theorem dX0_runIn_28 : decode cX0_runIn 28 = .ok (.bipush 104, 2) := by decide +kernel
theorem dX0_runIn_30 : decode cX0_runIn 30 = .ok (.if_icmp .ne 30, 3) := by decide +kernel
theorem dX0_runIn_33 : decode cX0_runIn 33 = .ok (.aload_n 1, 1) := by decide +kernel
theorem dX0_runIn_34 : decode cX0_runIn 34 = .ok (.getfield 75, 3) := by decide +kernel
theorem dX0_runIn_37 : decode cX0_runIn 37 = .ok (.sipush 2000, 3) := by decide +kernel
theorem dX0_runIn_40 : decode cX0_runIn 40 = .ok (.if_icmp .lt 7, 3) := by decide +kernel
theorem dX0_runIn_43 : decode cX0_runIn 43 = .ok (.sipush (-9999), 3) := by decide +kernel
theorem dX0_runIn_46 : decode cX0_runIn 46 = .ok (.ireturn, 1) := by decide +kernel
theorem dX0_runIn_47 : decode cX0_runIn 47 = .ok (.aload_n 1, 1) := by decide +kernel
theorem dX0_runIn_48 : decode cX0_runIn 48 = .ok (.dup, 1) := by decide +kernel
theorem dX0_runIn_49 : decode cX0_runIn 49 = .ok (.getfield 75, 3) := by decide +kernel
theorem dX0_runIn_52 : decode cX0_runIn 52 = .ok (.iconst 1, 1) := by decide +kernel
theorem dX0_runIn_53 : decode cX0_runIn 53 = .ok (.iadd, 1) := by decide +kernel
theorem dX0_runIn_54 : decode cX0_runIn 54 = .ok (.putfield 75, 3) := by decide +kernel
theorem dX0_runIn_57 : decode cX0_runIn 57 = .ok (.goto 109, 3) := by decide +kernel
theorem dX0_runIn_60 : decode cX0_runIn 60 = .ok (.aload_n 0, 1) := by decide +kernel
theorem dX0_runIn_61 : decode cX0_runIn 61 = .ok (.getfield 24, 3) := by decide +kernel
theorem dX0_runIn_64 : decode cX0_runIn 64 = .ok (.iload_n 3, 1) := by decide +kernel
theorem dX0_runIn_65 : decode cX0_runIn 65 = .ok (.iconst 1, 1) := by decide +kernel
theorem dX0_runIn_66 : decode cX0_runIn 66 = .ok (.invokevirtual 72, 3) := by decide +kernel
theorem dX0_runIn_69 : decode cX0_runIn 69 = .ok (.istore 5, 2) := by decide +kernel
theorem dX0_runIn_71 : decode cX0_runIn 71 = .ok (.aload_n 0, 1) := by decide +kernel
theorem dX0_runIn_72 : decode cX0_runIn 72 = .ok (.getfield 24, 3) := by decide +kernel
theorem dX0_runIn_75 : decode cX0_runIn 75 = .ok (.iload_n 3, 1) := by decide +kernel
theorem dX0_runIn_76 : decode cX0_runIn 76 = .ok (.iconst 2, 1) := by decide +kernel
theorem dX0_runIn_77 : decode cX0_runIn 77 = .ok (.invokevirtual 72, 3) := by decide +kernel
theorem dX0_runIn_80 : decode cX0_runIn 80 = .ok (.istore 6, 2) := by decide +kernel
theorem dX0_runIn_82 : decode cX0_runIn 82 = .ok (.iload 4, 2) := by decide +kernel
theorem dX0_runIn_84 : decode cX0_runIn 84 = .ok (.bipush 109, 2) := by decide +kernel
theorem dX0_runIn_86 : decode cX0_runIn 86 = .ok (.if_icmp .ne 7, 3) := by decide +kernel
theorem dX0_runIn_89 : decode cX0_runIn 89 = .ok (.iconst 1, 1) := by decide +kernel
theorem dX0_runIn_90 : decode cX0_runIn 90 = .ok (.goto 4, 3) := by decide +kernel
theorem dX0_runIn_93 : decode cX0_runIn 93 = .ok (.iconst 0, 1) := by decide +kernel
theorem dX0_runIn_94 : decode cX0_runIn 94 = .ok (.istore 7, 2) := by decide +kernel
theorem dX0_runIn_96 : decode cX0_runIn 96 = .ok (.iload 7, 2) := by decide +kernel
theorem dX0_runIn_98 : decode cX0_runIn 98 = .ok (.ifCond .eq 14, 3) := by decide +kernel
theorem dX0_runIn_101 : decode cX0_runIn 101 = .ok (.aload_n 1, 1) := by decide +kernel
theorem dX0_runIn_102 : decode cX0_runIn 102 = .ok (.iload 5, 2) := by decide +kernel
theorem dX0_runIn_104 : decode cX0_runIn 104 = .ok (.iload 6, 2) := by decide +kernel
theorem dX0_runIn_106 : decode cX0_runIn 106 = .ok (.invokevirtual 80, 3) := by decide +kernel
theorem dX0_runIn_109 : decode cX0_runIn 109 = .ok (.goto 11, 3) := by decide +kernel
theorem dX0_runIn_112 : decode cX0_runIn 112 = .ok (.aload_n 1, 1) := by decide +kernel
theorem dX0_runIn_113 : decode cX0_runIn 113 = .ok (.iload 5, 2) := by decide +kernel
theorem dX0_runIn_115 : decode cX0_runIn 115 = .ok (.iload 6, 2) := by decide +kernel
theorem dX0_runIn_117 : decode cX0_runIn 117 = .ok (.invokevirtual 83, 3) := by decide +kernel
theorem dX0_runIn_120 : decode cX0_runIn 120 = .ok (.istore 8, 2) := by decide +kernel
theorem dX0_runIn_122 : decode cX0_runIn 122 = .ok (.iload 8, 2) := by decide +kernel
theorem dX0_runIn_124 : decode cX0_runIn 124 = .ok (.ifCond .eq 15, 3) := by decide +kernel
theorem dX0_runIn_127 : decode cX0_runIn 127 = .ok (.sipush (-1000), 3) := by decide +kernel
theorem dX0_runIn_130 : decode cX0_runIn 130 = .ok (.bipush 10, 2) := by decide +kernel
theorem dX0_runIn_132 : decode cX0_runIn 132 = .ok (.iload_n 2, 1) := by decide +kernel
theorem dX0_runIn_133 : decode cX0_runIn 133 = .ok (.imul, 1) := by decide +kernel
theorem dX0_runIn_134 : decode cX0_runIn 134 = .ok (.isub, 1) := by decide +kernel
theorem dX0_runIn_135 : decode cX0_runIn 135 = .ok (.iload 8, 2) := by decide +kernel
theorem dX0_runIn_137 : decode cX0_runIn 137 = .ok (.isub, 1) := by decide +kernel
theorem dX0_runIn_138 : decode cX0_runIn 138 = .ok (.ireturn, 1) := by decide +kernel
theorem dX0_runIn_139 : decode cX0_runIn 139 = .ok (.iload 7, 2) := by decide +kernel
theorem dX0_runIn_141 : decode cX0_runIn 141 = .ok (.ifCond .eq 14, 3) := by decide +kernel
theorem dX0_runIn_144 : decode cX0_runIn 144 = .ok (.aload_n 1, 1) := by decide +kernel
theorem dX0_runIn_145 : decode cX0_runIn 145 = .ok (.iload 5, 2) := by decide +kernel
theorem dX0_runIn_147 : decode cX0_runIn 147 = .ok (.iload 6, 2) := by decide +kernel
theorem dX0_runIn_149 : decode cX0_runIn 149 = .ok (.invokevirtual 86, 3) := by decide +kernel
theorem dX0_runIn_152 : decode cX0_runIn 152 = .ok (.goto 11, 3) := by decide +kernel
theorem dX0_runIn_155 : decode cX0_runIn 155 = .ok (.aload_n 1, 1) := by decide +kernel
theorem dX0_runIn_156 : decode cX0_runIn 156 = .ok (.iload 5, 2) := by decide +kernel
theorem dX0_runIn_158 : decode cX0_runIn 158 = .ok (.iload 6, 2) := by decide +kernel
theorem dX0_runIn_160 : decode cX0_runIn 160 = .ok (.invokevirtual 89, 3) := by decide +kernel
theorem dX0_runIn_163 : decode cX0_runIn 163 = .ok (.iinc 2 1, 3) := by decide +kernel
theorem dX0_runIn_166 : decode cX0_runIn 166 = .ok (.iinc 3 1, 3) := by decide +kernel
theorem dX0_runIn_169 : decode cX0_runIn 169 = .ok (.goto (-165), 3) := by decide +kernel
theorem dX0_runIn_172 : decode cX0_runIn 172 = .ok (.iload_n 2, 1) := by decide +kernel
theorem dX0_runIn_173 : decode cX0_runIn 173 = .ok (.ireturn, 1) := by decide +kernel
