theorem dX0_init_0 : decode cX0_init 0 = .ok (.aload_n 0, 1) := by decide +kernel
theorem dX0_init_1 : decode cX0_init 1 = .ok (.invokespecial 1, 3) := by decide +kernel
theorem dX0_init_4 : decode cX0_init 4 = .ok (.aload_n 0, 1) := by decide +kernel
theorem dX0_init_5 : decode cX0_init 5 = .ok (.new 7, 3) := by decide +kernel
theorem dX0_init_8 : decode cX0_init 8 = .ok (.dup, 1) := by decide +kernel
theorem dX0_init_9 : decode cX0_init 9 = .ok (.invokespecial 9, 3) := by decide +kernel
theorem dX0_init_12 : decode cX0_init 12 = .ok (.putfield 10, 3) := by decide +kernel
theorem dX0_init_15 : decode cX0_init 15 = .ok (.aload_n 0, 1) := by decide +kernel
theorem dX0_init_16 : decode cX0_init 16 = .ok (.new 16, 3) := by decide +kernel
theorem dX0_init_19 : decode cX0_init 19 = .ok (.dup, 1) := by decide +kernel
theorem dX0_init_20 : decode cX0_init 20 = .ok (.invokespecial 18, 3) := by decide +kernel
theorem dX0_init_23 : decode cX0_init 23 = .ok (.putfield 19, 3) := by decide +kernel
theorem dX0_init_26 : decode cX0_init 26 = .ok (.return_, 1) := by decide +kernel
theorem dX0_enter_0 : decode cX0_enter 0 = .ok (.aload_n 1, 1) := by decide +kernel
theorem dX0_enter_1 : decode cX0_enter 1 = .ok (.getfield 23, 3) := by decide +kernel
theorem dX0_enter_4 : decode cX0_enter 4 = .ok (.istore_n 2, 1) := by decide +kernel
theorem dX0_enter_5 : decode cX0_enter 5 = .ok (.iload_n 2, 1) := by decide +kernel
theorem dX0_enter_6 : decode cX0_enter 6 = .ok (.ifCond .lt 41, 3) := by decide +kernel
theorem dX0_enter_9 : decode cX0_enter 9 = .ok (.iload_n 2, 1) := by decide +kernel
theorem dX0_enter_10 : decode cX0_enter 10 = .ok (.aload_n 0, 1) := by decide +kernel
theorem dX0_enter_11 : decode cX0_enter 11 = .ok (.getfield 19, 3) := by decide +kernel
theorem dX0_enter_14 : decode cX0_enter 14 = .ok (.invokevirtual 29, 3) := by decide +kernel
theorem dX0_enter_17 : decode cX0_enter 17 = .ok (.if_icmp .ge 30, 3) := by decide +kernel
theorem dX0_enter_20 : decode cX0_enter 20 = .ok (.aload_n 1, 1) := by decide +kernel
theorem dX0_enter_21 : decode cX0_enter 21 = .ok (.getfield 33, 3) := by decide +kernel
theorem dX0_enter_24 : decode cX0_enter 24 = .ok (.aload_n 0, 1) := by decide +kernel
theorem dX0_enter_25 : decode cX0_enter 25 = .ok (.getfield 19, 3) := by decide +kernel
theorem dX0_enter_28 : decode cX0_enter 28 = .ok (.iload_n 2, 1) := by decide +kernel
theorem dX0_enter_29 : decode cX0_enter 29 = .ok (.invokevirtual 36, 3) := by decide +kernel
theorem dX0_enter_32 : decode cX0_enter 32 = .ok (.checkcast 24, 3) := by decide +kernel
theorem dX0_enter_35 : decode cX0_enter 35 = .ok (.getfield 33, 3) := by decide +kernel
theorem dX0_enter_38 : decode cX0_enter 38 = .ok (.invokestatic 40, 3) := by decide +kernel
theorem dX0_enter_41 : decode cX0_enter 41 = .ok (.iinc 2 1, 3) := by decide +kernel
theorem dX0_enter_44 : decode cX0_enter 44 = .ok (.goto (-39), 3) := by decide +kernel
theorem dX0_enter_47 : decode cX0_enter 47 = .ok (.aload_n 0, 1) := by decide +kernel
theorem dX0_enter_48 : decode cX0_enter 48 = .ok (.getfield 10, 3) := by decide +kernel
theorem dX0_enter_51 : decode cX0_enter 51 = .ok (.aload_n 1, 1) := by decide +kernel
theorem dX0_enter_52 : decode cX0_enter 52 = .ok (.getfield 33, 3) := by decide +kernel
theorem dX0_enter_55 : decode cX0_enter 55 = .ok (.invokevirtual 44, 3) := by decide +kernel
theorem dX0_enter_58 : decode cX0_enter 58 = .ok (.aload_n 0, 1) := by decide +kernel
theorem dX0_enter_59 : decode cX0_enter 59 = .ok (.getfield 19, 3) := by decide +kernel
theorem dX0_enter_62 : decode cX0_enter 62 = .ok (.aload_n 1, 1) := by decide +kernel
theorem dX0_enter_63 : decode cX0_enter 63 = .ok (.invokevirtual 48, 3) := by decide +kernel
theorem dX0_enter_66 : decode cX0_enter 66 = .ok (.pop, 1) := by decide +kernel
theorem dX0_enter_67 : decode cX0_enter 67 = .ok (.return_, 1) := by decide +kernel
theorem dX0_countOperations_0 : decode cX0_countOperations 0 = .ok (.iconst 0, 1) := by decide +kernel
theorem dX0_countOperations_1 : decode cX0_countOperations 1 = .ok (.istore_n 1, 1) := by decide +kernel
theorem dX0_countOperations_2 : decode cX0_countOperations 2 = .ok (.iconst 0, 1) := by decide +kernel
theorem dX0_countOperations_3 : decode cX0_countOperations 3 = .ok (.istore_n 2, 1) := by decide +kernel
theorem dX0_countOperations_4 : decode cX0_countOperations 4 = .ok (.iload_n 2, 1) := by decide +kernel
theorem dX0_countOperations_5 : decode cX0_countOperations 5 = .ok (.aload_n 0, 1) := by decide +kernel
theorem dX0_countOperations_6 : decode cX0_countOperations 6 = .ok (.getfield 19, 3) := by decide +kernel
theorem dX0_countOperations_9 : decode cX0_countOperations 9 = .ok (.invokevirtual 29, 3) := by decide +kernel
theorem dX0_countOperations_12 : decode cX0_countOperations 12 = .ok (.if_icmp .ge 29, 3) := by decide +kernel
theorem dX0_countOperations_15 : decode cX0_countOperations 15 = .ok (.iload_n 1, 1) := by decide +kernel
theorem dX0_countOperations_16 : decode cX0_countOperations 16 = .ok (.aload_n 0, 1) := by decide +kernel
theorem dX0_countOperations_17 : decode cX0_countOperations 17 = .ok (.getfield 19, 3) := by decide +kernel
theorem dX0_countOperations_20 : decode cX0_countOperations 20 = .ok (.iload_n 2, 1) := by decide +kernel
theorem dX0_countOperations_21 : decode cX0_countOperations 21 = .ok (.invokevirtual 36, 3) := by decide +kernel
theorem dX0_countOperations_24 : decode cX0_countOperations 24 = .ok (.checkcast 24, 3) := by decide +kernel
theorem dX0_countOperations_27 : decode cX0_countOperations 27 = .ok (.getfield 33, 3) := by decide +kernel
theorem dX0_countOperations_30 : decode cX0_countOperations 30 = .ok (.invokevirtual 29, 3) := by decide +kernel
theorem dX0_countOperations_33 : decode cX0_countOperations 33 = .ok (.iadd, 1) := by decide +kernel
theorem dX0_countOperations_34 : decode cX0_countOperations 34 = .ok (.istore_n 1, 1) := by decide +kernel
theorem dX0_countOperations_35 : decode cX0_countOperations 35 = .ok (.iinc 2 1, 3) := by decide +kernel
theorem dX0_countOperations_38 : decode cX0_countOperations 38 = .ok (.goto (-34), 3) := by decide +kernel
theorem dX0_countOperations_41 : decode cX0_countOperations 41 = .ok (.iload_n 1, 1) := by decide +kernel
theorem dX0_countOperations_42 : decode cX0_countOperations 42 = .ok (.ireturn, 1) := by decide +kernel
theorem dX0_transformAll_0 : decode cX0_transformAll 0 = .ok (.iconst 0, 1) := by decide +kernel
theorem dX0_transformAll_1 : decode cX0_transformAll 1 = .ok (.istore_n 2, 1) := by decide +kernel
theorem dX0_transformAll_2 : decode cX0_transformAll 2 = .ok (.iload_n 2, 1) := by decide +kernel
theorem dX0_transformAll_3 : decode cX0_transformAll 3 = .ok (.aload_n 1, 1) := by decide +kernel
theorem dX0_transformAll_4 : decode cX0_transformAll 4 = .ok (.invokevirtual 29, 3) := by decide +kernel
theorem dX0_transformAll_7 : decode cX0_transformAll 7 = .ok (.if_icmp .ge 24, 3) := by decide +kernel
theorem dX0_transformAll_10 : decode cX0_transformAll 10 = .ok (.aload_n 0, 1) := by decide +kernel
theorem dX0_transformAll_11 : decode cX0_transformAll 11 = .ok (.aload_n 1, 1) := by decide +kernel
theorem dX0_transformAll_12 : decode cX0_transformAll 12 = .ok (.iload_n 2, 1) := by decide +kernel
theorem dX0_transformAll_13 : decode cX0_transformAll 13 = .ok (.invokevirtual 36, 3) := by decide +kernel
theorem dX0_transformAll_16 : decode cX0_transformAll 16 = .ok (.checkcast 52, 3) := by decide +kernel
theorem dX0_transformAll_19 : decode cX0_transformAll 19 = .ok (.invokevirtual 54, 3) := by decide +kernel
theorem dX0_transformAll_22 : decode cX0_transformAll 22 = .ok (.invokestatic 58, 3) := by decide +kernel
theorem dX0_transformAll_25 : decode cX0_transformAll 25 = .ok (.iinc 2 1, 3) := by decide +kernel
theorem dX0_transformAll_28 : decode cX0_transformAll 28 = .ok (.goto (-26), 3) := by decide +kernel
theorem dX0_transformAll_31 : decode cX0_transformAll 31 = .ok (.return_, 1) := by decide +kernel
theorem dX1_init_0 : decode cX1_init 0 = .ok (.aload_n 0, 1) := by decide +kernel
theorem dX1_init_1 : decode cX1_init 1 = .ok (.invokespecial 5, 3) := by decide +kernel
theorem dX1_init_4 : decode cX1_init 4 = .ok (.aload_n 0, 1) := by decide +kernel
theorem dX1_init_5 : decode cX1_init 5 = .ok (.sipush 201, 3) := by decide +kernel
theorem dX1_init_8 : decode cX1_init 8 = .ok (.newarray .int, 2) := by decide +kernel
theorem dX1_init_10 : decode cX1_init 10 = .ok (.putfield 11, 3) := by decide +kernel
theorem dX1_init_13 : decode cX1_init 13 = .ok (.aload_n 0, 1) := by decide +kernel
theorem dX1_init_14 : decode cX1_init 14 = .ok (.sipush 803, 3) := by decide +kernel
theorem dX1_init_17 : decode cX1_init 17 = .ok (.newarray .int, 2) := by decide +kernel
theorem dX1_init_19 : decode cX1_init 19 = .ok (.putfield 15, 3) := by decide +kernel
theorem dX1_init_22 : decode cX1_init 22 = .ok (.return_, 1) := by decide +kernel
theorem dX1_byTable_0 : decode cX1_byTable 0 = .ok (.aload_n 2, 1) := by decide +kernel
theorem dX1_byTable_1 : decode cX1_byTable 1 = .ok (.invokevirtual 18, 3) := by decide +kernel
theorem dX1_byTable_4 : decode cX1_byTable 4 = .ok (.sipush 200, 3) := by decide +kernel
theorem dX1_byTable_7 : decode cX1_byTable 7 = .ok (.invokestatic 24, 3) := by decide +kernel
theorem dX1_byTable_10 : decode cX1_byTable 10 = .ok (.istore_n 3, 1) := by decide +kernel
theorem dX1_byTable_11 : decode cX1_byTable 11 = .ok (.iconst 0, 1) := by decide +kernel
theorem dX1_byTable_12 : decode cX1_byTable 12 = .ok (.istore 4, 2) := by decide +kernel
theorem dX1_byTable_14 : decode cX1_byTable 14 = .ok (.iload 4, 2) := by decide +kernel
theorem dX1_byTable_16 : decode cX1_byTable 16 = .ok (.iload_n 3, 1) := by decide +kernel
theorem dX1_byTable_17 : decode cX1_byTable 17 = .ok (.if_icmp .gt 18, 3) := by decide +kernel
theorem dX1_byTable_20 : decode cX1_byTable 20 = .ok (.aload_n 0, 1) := by decide +kernel
theorem dX1_byTable_21 : decode cX1_byTable 21 = .ok (.getfield 11, 3) := by decide +kernel
theorem dX1_byTable_24 : decode cX1_byTable 24 = .ok (.iload 4, 2) := by decide +kernel
theorem dX1_byTable_26 : decode cX1_byTable 26 = .ok (.iload 4, 2) := by decide +kernel
theorem dX1_byTable_28 : decode cX1_byTable 28 = .ok (.iastore, 1) := by decide +kernel
theorem dX1_byTable_29 : decode cX1_byTable 29 = .ok (.iinc 4 1, 3) := by decide +kernel
theorem dX1_byTable_32 : decode cX1_byTable 32 = .ok (.goto (-18), 3) := by decide +kernel
theorem dX1_byTable_35 : decode cX1_byTable 35 = .ok (.iconst 1, 1) := by decide +kernel
theorem dX1_byTable_36 : decode cX1_byTable 36 = .ok (.istore 4, 2) := by decide +kernel
theorem dX1_byTable_38 : decode cX1_byTable 38 = .ok (.iload 4, 2) := by decide +kernel
theorem dX1_byTable_40 : decode cX1_byTable 40 = .ok (.aload_n 1, 1) := by decide +kernel
theorem dX1_byTable_41 : decode cX1_byTable 41 = .ok (.invokevirtual 18, 3) := by decide +kernel
theorem dX1_byTable_44 : decode cX1_byTable 44 = .ok (.if_icmp .gt 18, 3) := by decide +kernel
theorem dX1_byTable_47 : decode cX1_byTable 47 = .ok (.aload_n 0, 1) := by decide +kernel
theorem dX1_byTable_48 : decode cX1_byTable 48 = .ok (.aload_n 1, 1) := by decide +kernel
theorem dX1_byTable_49 : decode cX1_byTable 49 = .ok (.iload 4, 2) := by decide +kernel
theorem dX1_byTable_51 : decode cX1_byTable 51 = .ok (.aload_n 2, 1) := by decide +kernel
theorem dX1_byTable_52 : decode cX1_byTable 52 = .ok (.iload_n 3, 1) := by decide +kernel
theorem dX1_byTable_53 : decode cX1_byTable 53 = .ok (.invokevirtual 30, 3) := by decide +kernel
theorem dX1_byTable_56 : decode cX1_byTable 56 = .ok (.iinc 4 1, 3) := by decide +kernel
theorem dX1_byTable_59 : decode cX1_byTable 59 = .ok (.goto (-21), 3) := by decide +kernel
theorem dX1_byTable_62 : decode cX1_byTable 62 = .ok (.aload_n 0, 1) := by decide +kernel
theorem dX1_byTable_63 : decode cX1_byTable 63 = .ok (.getfield 11, 3) := by decide +kernel
theorem dX1_byTable_66 : decode cX1_byTable 66 = .ok (.iload_n 3, 1) := by decide +kernel
theorem dX1_byTable_67 : decode cX1_byTable 67 = .ok (.iaload, 1) := by decide +kernel
theorem dX1_byTable_68 : decode cX1_byTable 68 = .ok (.ireturn, 1) := by decide +kernel
theorem dX1_fillRow_0 : decode cX1_fillRow 0 = .ok (.aload_n 0, 1) := by decide +kernel
theorem dX1_fillRow_1 : decode cX1_fillRow 1 = .ok (.getfield 11, 3) := by decide +kernel
theorem dX1_fillRow_4 : decode cX1_fillRow 4 = .ok (.iconst 0, 1) := by decide +kernel
theorem dX1_fillRow_5 : decode cX1_fillRow 5 = .ok (.iaload, 1) := by decide +kernel
theorem dX1_fillRow_6 : decode cX1_fillRow 6 = .ok (.istore 5, 2) := by decide +kernel
theorem dX1_fillRow_8 : decode cX1_fillRow 8 = .ok (.aload_n 0, 1) := by decide +kernel
theorem dX1_fillRow_9 : decode cX1_fillRow 9 = .ok (.getfield 11, 3) := by decide +kernel
theorem dX1_fillRow_12 : decode cX1_fillRow 12 = .ok (.iconst 0, 1) := by decide +kernel
theorem dX1_fillRow_13 : decode cX1_fillRow 13 = .ok (.iload_n 2, 1) := by decide +kernel
theorem dX1_fillRow_14 : decode cX1_fillRow 14 = .ok (.iastore, 1) := by decide +kernel
theorem dX1_fillRow_15 : decode cX1_fillRow 15 = .ok (.iconst 1, 1) := by decide +kernel
theorem dX1_fillRow_16 : decode cX1_fillRow 16 = .ok (.istore 6, 2) := by decide +kernel
theorem dX1_fillRow_18 : decode cX1_fillRow 18 = .ok (.iload 6, 2) := by decide +kernel
theorem dX1_fillRow_20 : decode cX1_fillRow 20 = .ok (.iload 4, 2) := by decide +kernel
theorem dX1_fillRow_22 : decode cX1_fillRow 22 = .ok (.if_icmp .gt 65, 3) := by decide +kernel
theorem dX1_fillRow_25 : decode cX1_fillRow 25 = .ok (.aload_n 0, 1) := by decide +kernel
theorem dX1_fillRow_26 : decode cX1_fillRow 26 = .ok (.getfield 11, 3) := by decide +kernel
theorem dX1_fillRow_29 : decode cX1_fillRow 29 = .ok (.iload 6, 2) := by decide +kernel
theorem dX1_fillRow_31 : decode cX1_fillRow 31 = .ok (.iaload, 1) := by decide +kernel
theorem dX1_fillRow_32 : decode cX1_fillRow 32 = .ok (.istore 7, 2) := by decide +kernel
theorem dX1_fillRow_34 : decode cX1_fillRow 34 = .ok (.aload_n 0, 1) := by decide +kernel
theorem dX1_fillRow_35 : decode cX1_fillRow 35 = .ok (.getfield 11, 3) := by decide +kernel
theorem dX1_fillRow_38 : decode cX1_fillRow 38 = .ok (.iload 6, 2) := by decide +kernel
theorem dX1_fillRow_40 : decode cX1_fillRow 40 = .ok (.aload_n 1, 1) := by decide +kernel
theorem dX1_fillRow_41 : decode cX1_fillRow 41 = .ok (.iload_n 2, 1) := by decide +kernel
theorem dX1_fillRow_42 : decode cX1_fillRow 42 = .ok (.iconst 1, 1) := by decide +kernel
theorem dX1_fillRow_43 : decode cX1_fillRow 43 = .ok (.isub, 1) := by decide +kernel
theorem dX1_fillRow_44 : decode cX1_fillRow 44 = .ok (.aload_n 3, 1) := by decide +kernel
theorem dX1_fillRow_45 : decode cX1_fillRow 45 = .ok (.iload 6, 2) := by decide +kernel
theorem dX1_fillRow_47 : decode cX1_fillRow 47 = .ok (.iconst 1, 1) := by decide +kernel
theorem dX1_fillRow_48 : decode cX1_fillRow 48 = .ok (.isub, 1) := by decide +kernel
theorem dX1_fillRow_49 : decode cX1_fillRow 49 = .ok (.invokevirtual 34, 3) := by decide +kernel
theorem dX1_fillRow_52 : decode cX1_fillRow 52 = .ok (.ifCond .eq 8, 3) := by decide +kernel
theorem dX1_fillRow_55 : decode cX1_fillRow 55 = .ok (.iload 5, 2) := by decide +kernel
theorem dX1_fillRow_57 : decode cX1_fillRow 57 = .ok (.goto 19, 3) := by decide +kernel
theorem dX1_fillRow_60 : decode cX1_fillRow 60 = .ok (.iload 7, 2) := by decide +kernel
theorem dX1_fillRow_62 : decode cX1_fillRow 62 = .ok (.aload_n 0, 1) := by decide +kernel
theorem dX1_fillRow_63 : decode cX1_fillRow 63 = .ok (.getfield 11, 3) := by decide +kernel
theorem dX1_fillRow_66 : decode cX1_fillRow 66 = .ok (.iload 6, 2) := by decide +kernel
theorem dX1_fillRow_68 : decode cX1_fillRow 68 = .ok (.iconst 1, 1) := by decide +kernel
theorem dX1_fillRow_69 : decode cX1_fillRow 69 = .ok (.isub, 1) := by decide +kernel
theorem dX1_fillRow_70 : decode cX1_fillRow 70 = .ok (.iaload, 1) := by decide +kernel
theorem dX1_fillRow_71 : decode cX1_fillRow 71 = .ok (.invokestatic 24, 3) := by decide +kernel
theorem dX1_fillRow_74 : decode cX1_fillRow 74 = .ok (.iconst 1, 1) := by decide +kernel
theorem dX1_fillRow_75 : decode cX1_fillRow 75 = .ok (.iadd, 1) := by decide +kernel
theorem dX1_fillRow_76 : decode cX1_fillRow 76 = .ok (.iastore, 1) := by decide +kernel
theorem dX1_fillRow_77 : decode cX1_fillRow 77 = .ok (.iload 7, 2) := by decide +kernel
theorem dX1_fillRow_79 : decode cX1_fillRow 79 = .ok (.istore 5, 2) := by decide +kernel
theorem dX1_fillRow_81 : decode cX1_fillRow 81 = .ok (.iinc 6 1, 3) := by decide +kernel
theorem dX1_fillRow_84 : decode cX1_fillRow 84 = .ok (.goto (-66), 3) := by decide +kernel
theorem dX1_fillRow_87 : decode cX1_fillRow 87 = .ok (.return_, 1) := by decide +kernel
theorem dX1_byWays_0 : decode cX1_byWays 0 = .ok (.aload_n 1, 1) := by decide +kernel
theorem dX1_byWays_1 : decode cX1_byWays 1 = .ok (.invokevirtual 18, 3) := by decide +kernel
theorem dX1_byWays_4 : decode cX1_byWays 4 = .ok (.aload_n 2, 1) := by decide +kernel
theorem dX1_byWays_5 : decode cX1_byWays 5 = .ok (.invokevirtual 18, 3) := by decide +kernel
theorem dX1_byWays_8 : decode cX1_byWays 8 = .ok (.iadd, 1) := by decide +kernel
theorem dX1_byWays_9 : decode cX1_byWays 9 = .ok (.sipush 400, 3) := by decide +kernel
theorem dX1_byWays_12 : decode cX1_byWays 12 = .ok (.invokestatic 24, 3) := by decide +kernel
theorem dX1_byWays_15 : decode cX1_byWays 15 = .ok (.istore_n 3, 1) := by decide +kernel
theorem dX1_byWays_16 : decode cX1_byWays 16 = .ok (.aload_n 0, 1) := by decide +kernel
theorem dX1_byWays_17 : decode cX1_byWays 17 = .ok (.getfield 15, 3) := by decide +kernel
theorem dX1_byWays_20 : decode cX1_byWays 20 = .ok (.sipush 402, 3) := by decide +kernel
theorem dX1_byWays_23 : decode cX1_byWays 23 = .ok (.iconst 0, 1) := by decide +kernel
theorem dX1_byWays_24 : decode cX1_byWays 24 = .ok (.iastore, 1) := by decide +kernel
theorem dX1_byWays_25 : decode cX1_byWays 25 = .ok (.iconst 0, 1) := by decide +kernel
theorem dX1_byWays_26 : decode cX1_byWays 26 = .ok (.istore 4, 2) := by decide +kernel
theorem dX1_byWays_28 : decode cX1_byWays 28 = .ok (.iload 4, 2) := by decide +kernel
theorem dX1_byWays_30 : decode cX1_byWays 30 = .ok (.iload_n 3, 1) := by decide +kernel
theorem dX1_byWays_31 : decode cX1_byWays 31 = .ok (.if_icmp .ge 23, 3) := by decide +kernel
theorem dX1_byWays_34 : decode cX1_byWays 34 = .ok (.aload_n 0, 1) := by decide +kernel
theorem dX1_byWays_35 : decode cX1_byWays 35 = .ok (.aload_n 1, 1) := by decide +kernel
theorem dX1_byWays_36 : decode cX1_byWays 36 = .ok (.aload_n 2, 1) := by decide +kernel
theorem dX1_byWays_37 : decode cX1_byWays 37 = .ok (.iload 4, 2) := by decide +kernel
theorem dX1_byWays_39 : decode cX1_byWays 39 = .ok (.invokevirtual 38, 3) := by decide +kernel
theorem dX1_byWays_42 : decode cX1_byWays 42 = .ok (.ifCond .eq 6, 3) := by decide +kernel
theorem dX1_byWays_45 : decode cX1_byWays 45 = .ok (.iload 4, 2) := by decide +kernel
theorem dX1_byWays_47 : decode cX1_byWays 47 = .ok (.ireturn, 1) := by decide +kernel
theorem dX1_byWays_48 : decode cX1_byWays 48 = .ok (.iinc 4 1, 3) := by decide +kernel
theorem dX1_byWays_51 : decode cX1_byWays 51 = .ok (.goto (-23), 3) := by decide +kernel
theorem dX1_byWays_54 : decode cX1_byWays 54 = .ok (.iload_n 3, 1) := by decide +kernel
theorem dX1_byWays_55 : decode cX1_byWays 55 = .ok (.ireturn, 1) := by decide +kernel
theorem dX1_reachesEnd_0 : decode cX1_reachesEnd 0 = .ok (.iload_n 3, 1) := by decide +kernel
theorem dX1_reachesEnd_1 : decode cX1_reachesEnd 1 = .ok (.ineg, 1) := by decide +kernel
theorem dX1_reachesEnd_2 : decode cX1_reachesEnd 2 = .ok (.istore 4, 2) := by decide +kernel
theorem dX1_reachesEnd_4 : decode cX1_reachesEnd 4 = .ok (.iload 4, 2) := by decide +kernel
theorem dX1_reachesEnd_6 : decode cX1_reachesEnd 6 = .ok (.iload_n 3, 1) := by decide +kernel
theorem dX1_reachesEnd_7 : decode cX1_reachesEnd 7 = .ok (.if_icmp .gt 62, 3) := by decide +kernel
theorem dX1_reachesEnd_10 : decode cX1_reachesEnd 10 = .ok (.aload_n 0, 1) := by decide +kernel
theorem dX1_reachesEnd_11 : decode cX1_reachesEnd 11 = .ok (.aload_n 1, 1) := by decide +kernel
theorem dX1_reachesEnd_12 : decode cX1_reachesEnd 12 = .ok (.aload_n 2, 1) := by decide +kernel
theorem dX1_reachesEnd_13 : decode cX1_reachesEnd 13 = .ok (.iload 4, 2) := by decide +kernel
theorem dX1_reachesEnd_15 : decode cX1_reachesEnd 15 = .ok (.aload_n 0, 1) := by decide +kernel
theorem dX1_reachesEnd_16 : decode cX1_reachesEnd 16 = .ok (.iload 4, 2) := by decide +kernel
theorem dX1_reachesEnd_18 : decode cX1_reachesEnd 18 = .ok (.iload_n 3, 1) := by decide +kernel
theorem dX1_reachesEnd_19 : decode cX1_reachesEnd 19 = .ok (.invokevirtual 42, 3) := by decide +kernel
theorem dX1_reachesEnd_22 : decode cX1_reachesEnd 22 = .ok (.invokevirtual 45, 3) := by decide +kernel
theorem dX1_reachesEnd_25 : decode cX1_reachesEnd 25 = .ok (.istore 5, 2) := by decide +kernel
theorem dX1_reachesEnd_27 : decode cX1_reachesEnd 27 = .ok (.aload_n 0, 1) := by decide +kernel
theorem dX1_reachesEnd_28 : decode cX1_reachesEnd 28 = .ok (.getfield 15, 3) := by decide +kernel
theorem dX1_reachesEnd_31 : decode cX1_reachesEnd 31 = .ok (.sipush 401, 3) := by decide +kernel
theorem dX1_reachesEnd_34 : decode cX1_reachesEnd 34 = .ok (.iload 4, 2) := by decide +kernel
theorem dX1_reachesEnd_36 : decode cX1_reachesEnd 36 = .ok (.iadd, 1) := by decide +kernel
theorem dX1_reachesEnd_37 : decode cX1_reachesEnd 37 = .ok (.iload 5, 2) := by decide +kernel
theorem dX1_reachesEnd_39 : decode cX1_reachesEnd 39 = .ok (.iastore, 1) := by decide +kernel
theorem dX1_reachesEnd_40 : decode cX1_reachesEnd 40 = .ok (.iload 5, 2) := by decide +kernel
theorem dX1_reachesEnd_42 : decode cX1_reachesEnd 42 = .ok (.aload_n 1, 1) := by decide +kernel
theorem dX1_reachesEnd_43 : decode cX1_reachesEnd 43 = .ok (.invokevirtual 18, 3) := by decide +kernel
theorem dX1_reachesEnd_46 : decode cX1_reachesEnd 46 = .ok (.if_icmp .lt 17, 3) := by decide +kernel
theorem dX1_reachesEnd_49 : decode cX1_reachesEnd 49 = .ok (.iload 5, 2) := by decide +kernel
theorem dX1_reachesEnd_51 : decode cX1_reachesEnd 51 = .ok (.iload 4, 2) := by decide +kernel
theorem dX1_reachesEnd_53 : decode cX1_reachesEnd 53 = .ok (.isub, 1) := by decide +kernel
theorem dX1_reachesEnd_54 : decode cX1_reachesEnd 54 = .ok (.aload_n 2, 1) := by decide +kernel
theorem dX1_reachesEnd_55 : decode cX1_reachesEnd 55 = .ok (.invokevirtual 18, 3) := by decide +kernel
theorem dX1_reachesEnd_58 : decode cX1_reachesEnd 58 = .ok (.if_icmp .lt 5, 3) := by decide +kernel
theorem dX1_reachesEnd_61 : decode cX1_reachesEnd 61 = .ok (.iconst 1, 1) := by decide +kernel
theorem dX1_reachesEnd_62 : decode cX1_reachesEnd 62 = .ok (.ireturn, 1) := by decide +kernel
theorem dX1_reachesEnd_63 : decode cX1_reachesEnd 63 = .ok (.iinc 4 2, 3) := by decide +kernel
theorem dX1_reachesEnd_66 : decode cX1_reachesEnd 66 = .ok (.goto (-62), 3) := by decide +kernel
theorem dX1_reachesEnd_69 : decode cX1_reachesEnd 69 = .ok (.iconst 0, 1) := by decide +kernel
theorem dX1_reachesEnd_70 : decode cX1_reachesEnd 70 = .ok (.ireturn, 1) := by decide +kernel
theorem dX1_firstOn_0 : decode cX1_firstOn 0 = .ok (.aload_n 0, 1) := by decide +kernel
theorem dX1_firstOn_1 : decode cX1_firstOn 1 = .ok (.getfield 15, 3) := by decide +kernel
theorem dX1_firstOn_4 : decode cX1_firstOn 4 = .ok (.sipush 401, 3) := by decide +kernel
theorem dX1_firstOn_7 : decode cX1_firstOn 7 = .ok (.iload_n 1, 1) := by decide +kernel
theorem dX1_firstOn_8 : decode cX1_firstOn 8 = .ok (.iadd, 1) := by decide +kernel
theorem dX1_firstOn_9 : decode cX1_firstOn 9 = .ok (.iconst 1, 1) := by decide +kernel
theorem dX1_firstOn_10 : decode cX1_firstOn 10 = .ok (.iadd, 1) := by decide +kernel
theorem dX1_firstOn_11 : decode cX1_firstOn 11 = .ok (.iaload, 1) := by decide +kernel
theorem dX1_firstOn_12 : decode cX1_firstOn 12 = .ok (.istore_n 3, 1) := by decide +kernel
theorem dX1_firstOn_13 : decode cX1_firstOn 13 = .ok (.aload_n 0, 1) := by decide +kernel
theorem dX1_firstOn_14 : decode cX1_firstOn 14 = .ok (.getfield 15, 3) := by decide +kernel
theorem dX1_firstOn_17 : decode cX1_firstOn 17 = .ok (.sipush 401, 3) := by decide +kernel
theorem dX1_firstOn_20 : decode cX1_firstOn 20 = .ok (.iload_n 1, 1) := by decide +kernel
theorem dX1_firstOn_21 : decode cX1_firstOn 21 = .ok (.iadd, 1) := by decide +kernel
theorem dX1_firstOn_22 : decode cX1_firstOn 22 = .ok (.iconst 1, 1) := by decide +kernel
theorem dX1_firstOn_23 : decode cX1_firstOn 23 = .ok (.isub, 1) := by decide +kernel
theorem dX1_firstOn_24 : decode cX1_firstOn 24 = .ok (.iaload, 1) := by decide +kernel
theorem dX1_firstOn_25 : decode cX1_firstOn 25 = .ok (.iconst 1, 1) := by decide +kernel
theorem dX1_firstOn_26 : decode cX1_firstOn 26 = .ok (.iadd, 1) := by decide +kernel
theorem dX1_firstOn_27 : decode cX1_firstOn 27 = .ok (.istore 4, 2) := by decide +kernel
theorem dX1_firstOn_29 : decode cX1_firstOn 29 = .ok (.iload_n 1, 1) := by decide +kernel
theorem dX1_firstOn_30 : decode cX1_firstOn 30 = .ok (.iload_n 2, 1) := by decide +kernel
theorem dX1_firstOn_31 : decode cX1_firstOn 31 = .ok (.ineg, 1) := by decide +kernel
theorem dX1_firstOn_32 : decode cX1_firstOn 32 = .ok (.if_icmp .ne 5, 3) := by decide +kernel
theorem dX1_firstOn_35 : decode cX1_firstOn 35 = .ok (.iload_n 3, 1) := by decide +kernel
theorem dX1_firstOn_36 : decode cX1_firstOn 36 = .ok (.ireturn, 1) := by decide +kernel
theorem dX1_firstOn_37 : decode cX1_firstOn 37 = .ok (.iload_n 1, 1) := by decide +kernel
theorem dX1_firstOn_38 : decode cX1_firstOn 38 = .ok (.iload_n 2, 1) := by decide +kernel
theorem dX1_firstOn_39 : decode cX1_firstOn 39 = .ok (.if_icmp .eq 9, 3) := by decide +kernel
theorem dX1_firstOn_42 : decode cX1_firstOn 42 = .ok (.iload 4, 2) := by decide +kernel
theorem dX1_firstOn_44 : decode cX1_firstOn 44 = .ok (.iload_n 3, 1) := by decide +kernel
theorem dX1_firstOn_45 : decode cX1_firstOn 45 = .ok (.if_icmp .le 8, 3) := by decide +kernel
theorem dX1_firstOn_48 : decode cX1_firstOn 48 = .ok (.iload 4, 2) := by decide +kernel
theorem dX1_firstOn_50 : decode cX1_firstOn 50 = .ok (.goto 4, 3) := by decide +kernel
theorem dX1_firstOn_53 : decode cX1_firstOn 53 = .ok (.iload_n 3, 1) := by decide +kernel
theorem dX1_firstOn_54 : decode cX1_firstOn 54 = .ok (.ireturn, 1) := by decide +kernel
theorem dX1_follow_0 : decode cX1_follow 0 = .ok (.iload 4, 2) := by decide +kernel
theorem dX1_follow_2 : decode cX1_follow 2 = .ok (.istore 5, 2) := by decide +kernel
theorem dX1_follow_4 : decode cX1_follow 4 = .ok (.iload 5, 2) := by decide +kernel
theorem dX1_follow_6 : decode cX1_follow 6 = .ok (.aload_n 1, 1) := by decide +kernel
theorem dX1_follow_7 : decode cX1_follow 7 = .ok (.invokevirtual 18, 3) := by decide +kernel
theorem dX1_follow_10 : decode cX1_follow 10 = .ok (.if_icmp .ge 23, 3) := by decide +kernel
theorem dX1_follow_13 : decode cX1_follow 13 = .ok (.aload_n 1, 1) := by decide +kernel
theorem dX1_follow_14 : decode cX1_follow 14 = .ok (.iload 5, 2) := by decide +kernel
theorem dX1_follow_16 : decode cX1_follow 16 = .ok (.aload_n 2, 1) := by decide +kernel
theorem dX1_follow_17 : decode cX1_follow 17 = .ok (.iload 5, 2) := by decide +kernel
theorem dX1_follow_19 : decode cX1_follow 19 = .ok (.iload_n 3, 1) := by decide +kernel
theorem dX1_follow_20 : decode cX1_follow 20 = .ok (.isub, 1) := by decide +kernel
theorem dX1_follow_21 : decode cX1_follow 21 = .ok (.invokevirtual 34, 3) := by decide +kernel
theorem dX1_follow_24 : decode cX1_follow 24 = .ok (.ifCond .eq 9, 3) := by decide +kernel
theorem dX1_follow_27 : decode cX1_follow 27 = .ok (.iinc 5 1, 3) := by decide +kernel
theorem dX1_follow_30 : decode cX1_follow 30 = .ok (.goto (-26), 3) := by decide +kernel
theorem dX1_follow_33 : decode cX1_follow 33 = .ok (.iload 5, 2) := by decide +kernel
theorem dX1_follow_35 : decode cX1_follow 35 = .ok (.ireturn, 1) := by decide +kernel
theorem dX2_init_0 : decode cX2_init 0 = .ok (.aload_n 0, 1) := by decide +kernel
theorem dX2_init_1 : decode cX2_init 1 = .ok (.invokespecial 1, 3) := by decide +kernel
theorem dX2_init_4 : decode cX2_init 4 = .ok (.aload_n 0, 1) := by decide +kernel
theorem dX2_init_5 : decode cX2_init 5 = .ok (.new 7, 3) := by decide +kernel
theorem dX2_init_8 : decode cX2_init 8 = .ok (.dup, 1) := by decide +kernel
theorem dX2_init_9 : decode cX2_init 9 = .ok (.invokespecial 9, 3) := by decide +kernel
theorem dX2_init_12 : decode cX2_init 12 = .ok (.putfield 10, 3) := by decide +kernel
theorem dX2_init_15 : decode cX2_init 15 = .ok (.aload_n 0, 1) := by decide +kernel
theorem dX2_init_16 : decode cX2_init 16 = .ok (.new 16, 3) := by decide +kernel
theorem dX2_init_19 : decode cX2_init 19 = .ok (.dup, 1) := by decide +kernel
theorem dX2_init_20 : decode cX2_init 20 = .ok (.invokespecial 18, 3) := by decide +kernel
theorem dX2_init_23 : decode cX2_init 23 = .ok (.putfield 19, 3) := by decide +kernel
theorem dX2_init_26 : decode cX2_init 26 = .ok (.aload_n 0, 1) := by decide +kernel
theorem dX2_init_27 : decode cX2_init 27 = .ok (.new 16, 3) := by decide +kernel
theorem dX2_init_30 : decode cX2_init 30 = .ok (.dup, 1) := by decide +kernel
theorem dX2_init_31 : decode cX2_init 31 = .ok (.invokespecial 18, 3) := by decide +kernel
theorem dX2_init_34 : decode cX2_init 34 = .ok (.putfield 23, 3) := by decide +kernel
theorem dX2_init_37 : decode cX2_init 37 = .ok (.aload_n 0, 1) := by decide +kernel
theorem dX2_init_38 : decode cX2_init 38 = .ok (.new 16, 3) := by decide +kernel
theorem dX2_init_41 : decode cX2_init 41 = .ok (.dup, 1) := by decide +kernel
theorem dX2_init_42 : decode cX2_init 42 = .ok (.invokespecial 18, 3) := by decide +kernel
theorem dX2_init_45 : decode cX2_init 45 = .ok (.putfield 26, 3) := by decide +kernel
theorem dX2_init_48 : decode cX2_init 48 = .ok (.aload_n 0, 1) := by decide +kernel
theorem dX2_init_49 : decode cX2_init 49 = .ok (.new 16, 3) := by decide +kernel
theorem dX2_init_52 : decode cX2_init 52 = .ok (.dup, 1) := by decide +kernel
theorem dX2_init_53 : decode cX2_init 53 = .ok (.invokespecial 18, 3) := by decide +kernel
theorem dX2_init_56 : decode cX2_init 56 = .ok (.putfield 29, 3) := by decide +kernel
theorem dX2_init_59 : decode cX2_init 59 = .ok (.aload_n 0, 1) := by decide +kernel
theorem dX2_init_60 : decode cX2_init 60 = .ok (.new 16, 3) := by decide +kernel
theorem dX2_init_63 : decode cX2_init 63 = .ok (.dup, 1) := by decide +kernel
theorem dX2_init_64 : decode cX2_init 64 = .ok (.invokespecial 18, 3) := by decide +kernel
theorem dX2_init_67 : decode cX2_init 67 = .ok (.putfield 32, 3) := by decide +kernel
theorem dX2_init_70 : decode cX2_init 70 = .ok (.aload_n 0, 1) := by decide +kernel
theorem dX2_init_71 : decode cX2_init 71 = .ok (.iconst 0, 1) := by decide +kernel
theorem dX2_init_72 : decode cX2_init 72 = .ok (.putfield 35, 3) := by decide +kernel
theorem dX2_init_75 : decode cX2_init 75 = .ok (.aload_n 0, 1) := by decide +kernel
theorem dX2_init_76 : decode cX2_init 76 = .ok (.iconst 0, 1) := by decide +kernel
theorem dX2_init_77 : decode cX2_init 77 = .ok (.putfield 39, 3) := by decide +kernel
theorem dX2_init_80 : decode cX2_init 80 = .ok (.aload_n 0, 1) := by decide +kernel
theorem dX2_init_81 : decode cX2_init 81 = .ok (.iconst 0, 1) := by decide +kernel
theorem dX2_init_82 : decode cX2_init 82 = .ok (.putfield 42, 3) := by decide +kernel
theorem dX2_init_85 : decode cX2_init 85 = .ok (.aload_n 0, 1) := by decide +kernel
theorem dX2_init_86 : decode cX2_init 86 = .ok (.iload_n 1, 1) := by decide +kernel
theorem dX2_init_87 : decode cX2_init 87 = .ok (.putfield 45, 3) := by decide +kernel
theorem dX2_init_90 : decode cX2_init 90 = .ok (.return_, 1) := by decide +kernel
theorem dX2_make_0 : decode cX2_make 0 = .ok (.aload_n 0, 1) := by decide +kernel
theorem dX2_make_1 : decode cX2_make 1 = .ok (.aload_n 1, 1) := by decide +kernel
theorem dX2_make_2 : decode cX2_make 2 = .ok (.invokevirtual 48, 3) := by decide +kernel
theorem dX2_make_5 : decode cX2_make 5 = .ok (.aload_n 0, 1) := by decide +kernel
theorem dX2_make_6 : decode cX2_make 6 = .ok (.aload_n 1, 1) := by decide +kernel
theorem dX2_make_7 : decode cX2_make 7 = .ok (.invokevirtual 52, 3) := by decide +kernel
theorem dX2_make_10 : decode cX2_make 10 = .ok (.putfield 35, 3) := by decide +kernel
theorem dX2_make_13 : decode cX2_make 13 = .ok (.aload_n 0, 1) := by decide +kernel
theorem dX2_make_14 : decode cX2_make 14 = .ok (.aload_n 1, 1) := by decide +kernel
theorem dX2_make_15 : decode cX2_make 15 = .ok (.aload_n 0, 1) := by decide +kernel
theorem dX2_make_16 : decode cX2_make 16 = .ok (.getfield 39, 3) := by decide +kernel
theorem dX2_make_19 : decode cX2_make 19 = .ok (.invokevirtual 58, 3) := by decide +kernel
theorem dX2_make_22 : decode cX2_make 22 = .ok (.putfield 39, 3) := by decide +kernel
theorem dX2_make_25 : decode cX2_make 25 = .ok (.aload_n 0, 1) := by decide +kernel
theorem dX2_make_26 : decode cX2_make 26 = .ok (.getfield 19, 3) := by decide +kernel
theorem dX2_make_29 : decode cX2_make 29 = .ok (.invokevirtual 62, 3) := by decide +kernel
theorem dX2_make_32 : decode cX2_make 32 = .ok (.ifCond .eq 19, 3) := by decide +kernel
theorem dX2_make_35 : decode cX2_make 35 = .ok (.aload_n 0, 1) := by decide +kernel
theorem dX2_make_36 : decode cX2_make 36 = .ok (.getfield 19, 3) := by decide +kernel
theorem dX2_make_39 : decode cX2_make 39 = .ok (.aload_n 1, 1) := by decide +kernel
theorem dX2_make_40 : decode cX2_make 40 = .ok (.invokevirtual 66, 3) := by decide +kernel
theorem dX2_make_43 : decode cX2_make 43 = .ok (.pop, 1) := by decide +kernel
theorem dX2_make_44 : decode cX2_make 44 = .ok (.aload_n 0, 1) := by decide +kernel
theorem dX2_make_45 : decode cX2_make 45 = .ok (.invokevirtual 70, 3) := by decide +kernel
theorem dX2_make_48 : decode cX2_make 48 = .ok (.goto 12, 3) := by decide +kernel
theorem dX2_make_51 : decode cX2_make 51 = .ok (.aload_n 0, 1) := by decide +kernel
theorem dX2_make_52 : decode cX2_make 52 = .ok (.getfield 23, 3) := by decide +kernel
theorem dX2_make_55 : decode cX2_make 55 = .ok (.aload_n 1, 1) := by decide +kernel
theorem dX2_make_56 : decode cX2_make 56 = .ok (.invokevirtual 66, 3) := by decide +kernel
theorem dX2_make_59 : decode cX2_make 59 = .ok (.pop, 1) := by decide +kernel
theorem dX2_make_60 : decode cX2_make 60 = .ok (.return_, 1) := by decide +kernel
theorem dX2_get_0 : decode cX2_get 0 = .ok (.aload_n 0, 1) := by decide +kernel
theorem dX2_get_1 : decode cX2_get 1 = .ok (.dup, 1) := by decide +kernel
theorem dX2_get_2 : decode cX2_get 2 = .ok (.getfield 42, 3) := by decide +kernel
theorem dX2_get_5 : decode cX2_get 5 = .ok (.iconst 1, 1) := by decide +kernel
theorem dX2_get_6 : decode cX2_get 6 = .ok (.iadd, 1) := by decide +kernel
theorem dX2_get_7 : decode cX2_get 7 = .ok (.putfield 42, 3) := by decide +kernel
theorem dX2_get_10 : decode cX2_get 10 = .ok (.aload_n 1, 1) := by decide +kernel
theorem dX2_get_11 : decode cX2_get 11 = .ok (.getfield 73, 3) := by decide +kernel
theorem dX2_get_14 : decode cX2_get 14 = .ok (.aload_n 0, 1) := by decide +kernel
theorem dX2_get_15 : decode cX2_get 15 = .ok (.getfield 45, 3) := by decide +kernel
theorem dX2_get_18 : decode cX2_get 18 = .ok (.if_icmp .ne 8, 3) := by decide +kernel
theorem dX2_get_21 : decode cX2_get 21 = .ok (.aload_n 0, 1) := by decide +kernel
theorem dX2_get_22 : decode cX2_get 22 = .ok (.invokevirtual 78, 3) := by decide +kernel
theorem dX2_get_25 : decode cX2_get 25 = .ok (.return_, 1) := by decide +kernel
theorem dX2_get_26 : decode cX2_get 26 = .ok (.iconst 0, 1) := by decide +kernel
theorem dX2_get_27 : decode cX2_get 27 = .ok (.istore_n 2, 1) := by decide +kernel
theorem dX2_get_28 : decode cX2_get 28 = .ok (.iload_n 2, 1) := by decide +kernel
theorem dX2_get_29 : decode cX2_get 29 = .ok (.aload_n 1, 1) := by decide +kernel
theorem dX2_get_30 : decode cX2_get 30 = .ok (.getfield 81, 3) := by decide +kernel
theorem dX2_get_33 : decode cX2_get 33 = .ok (.invokevirtual 84, 3) := by decide +kernel
theorem dX2_get_36 : decode cX2_get 36 = .ok (.if_icmp .ge 27, 3) := by decide +kernel
theorem dX2_get_39 : decode cX2_get 39 = .ok (.aload_n 0, 1) := by decide +kernel
theorem dX2_get_40 : decode cX2_get 40 = .ok (.aload_n 1, 1) := by decide +kernel
theorem dX2_get_41 : decode cX2_get 41 = .ok (.getfield 81, 3) := by decide +kernel
theorem dX2_get_44 : decode cX2_get 44 = .ok (.iload_n 2, 1) := by decide +kernel
theorem dX2_get_45 : decode cX2_get 45 = .ok (.invokevirtual 87, 3) := by decide +kernel
theorem dX2_get_48 : decode cX2_get 48 = .ok (.checkcast 53, 3) := by decide +kernel
theorem dX2_get_51 : decode cX2_get 51 = .ok (.invokevirtual 91, 3) := by decide +kernel
theorem dX2_get_54 : decode cX2_get 54 = .ok (.invokevirtual 95, 3) := by decide +kernel
theorem dX2_get_57 : decode cX2_get 57 = .ok (.iinc 2 1, 3) := by decide +kernel
theorem dX2_get_60 : decode cX2_get 60 = .ok (.goto (-32), 3) := by decide +kernel
theorem dX2_get_63 : decode cX2_get 63 = .ok (.aload_n 0, 1) := by decide +kernel
theorem dX2_get_64 : decode cX2_get 64 = .ok (.invokevirtual 98, 3) := by decide +kernel
theorem dX2_get_67 : decode cX2_get 67 = .ok (.return_, 1) := by decide +kernel
theorem dX2_countRuns_0 : decode cX2_countRuns 0 = .ok (.iconst 0, 1) := by decide +kernel
theorem dX2_countRuns_1 : decode cX2_countRuns 1 = .ok (.istore_n 1, 1) := by decide +kernel
theorem dX2_countRuns_2 : decode cX2_countRuns 2 = .ok (.iconst 0, 1) := by decide +kernel
theorem dX2_countRuns_3 : decode cX2_countRuns 3 = .ok (.istore_n 2, 1) := by decide +kernel
theorem dX2_countRuns_4 : decode cX2_countRuns 4 = .ok (.iload_n 2, 1) := by decide +kernel
theorem dX2_countRuns_5 : decode cX2_countRuns 5 = .ok (.aload_n 0, 1) := by decide +kernel
theorem dX2_countRuns_6 : decode cX2_countRuns 6 = .ok (.getfield 23, 3) := by decide +kernel
theorem dX2_countRuns_9 : decode cX2_countRuns 9 = .ok (.invokevirtual 84, 3) := by decide +kernel
theorem dX2_countRuns_12 : decode cX2_countRuns 12 = .ok (.if_icmp .ge 20, 3) := by decide +kernel
theorem dX2_countRuns_15 : decode cX2_countRuns 15 = .ok (.aload_n 0, 1) := by decide +kernel
theorem dX2_countRuns_16 : decode cX2_countRuns 16 = .ok (.iload_n 2, 1) := by decide +kernel
theorem dX2_countRuns_17 : decode cX2_countRuns 17 = .ok (.invokevirtual 101, 3) := by decide +kernel
theorem dX2_countRuns_20 : decode cX2_countRuns 20 = .ok (.ifCond .eq 6, 3) := by decide +kernel
theorem dX2_countRuns_23 : decode cX2_countRuns 23 = .ok (.iinc 1 1, 3) := by decide +kernel
theorem dX2_countRuns_26 : decode cX2_countRuns 26 = .ok (.iinc 2 1, 3) := by decide +kernel
theorem dX2_countRuns_29 : decode cX2_countRuns 29 = .ok (.goto (-25), 3) := by decide +kernel
theorem dX2_countRuns_32 : decode cX2_countRuns 32 = .ok (.iload_n 1, 1) := by decide +kernel
theorem dX2_countRuns_33 : decode cX2_countRuns 33 = .ok (.ireturn, 1) := by decide +kernel
theorem dX2_carryOut_0 : decode cX2_carryOut 0 = .ok (.aload_n 0, 1) := by decide +kernel
theorem dX2_carryOut_1 : decode cX2_carryOut 1 = .ok (.getfield 10, 3) := by decide +kernel
theorem dX2_carryOut_4 : decode cX2_carryOut 4 = .ok (.aload_n 1, 1) := by decide +kernel
theorem dX2_carryOut_5 : decode cX2_carryOut 5 = .ok (.invokevirtual 105, 3) := by decide +kernel
theorem dX2_carryOut_8 : decode cX2_carryOut 8 = .ok (.iconst 0, 1) := by decide +kernel
theorem dX2_carryOut_9 : decode cX2_carryOut 9 = .ok (.istore_n 2, 1) := by decide +kernel
theorem dX2_carryOut_10 : decode cX2_carryOut 10 = .ok (.iload_n 2, 1) := by decide +kernel
theorem dX2_carryOut_11 : decode cX2_carryOut 11 = .ok (.aload_n 0, 1) := by decide +kernel
theorem dX2_carryOut_12 : decode cX2_carryOut 12 = .ok (.getfield 32, 3) := by decide +kernel
theorem dX2_carryOut_15 : decode cX2_carryOut 15 = .ok (.invokevirtual 84, 3) := by decide +kernel
theorem dX2_carryOut_18 : decode cX2_carryOut 18 = .ok (.if_icmp .ge 40, 3) := by decide +kernel
theorem dX2_carryOut_21 : decode cX2_carryOut 21 = .ok (.aload_n 0, 1) := by decide +kernel
theorem dX2_carryOut_22 : decode cX2_carryOut 22 = .ok (.getfield 32, 3) := by decide +kernel
theorem dX2_carryOut_25 : decode cX2_carryOut 25 = .ok (.iload_n 2, 1) := by decide +kernel
theorem dX2_carryOut_26 : decode cX2_carryOut 26 = .ok (.invokevirtual 87, 3) := by decide +kernel
theorem dX2_carryOut_29 : decode cX2_carryOut 29 = .ok (.checkcast 106, 3) := by decide +kernel
theorem dX2_carryOut_32 : decode cX2_carryOut 32 = .ok (.astore_n 3, 1) := by decide +kernel
theorem dX2_carryOut_33 : decode cX2_carryOut 33 = .ok (.aload_n 3, 1) := by decide +kernel
theorem dX2_carryOut_34 : decode cX2_carryOut 34 = .ok (.getfield 108, 3) := by decide +kernel
theorem dX2_carryOut_37 : decode cX2_carryOut 37 = .ok (.ifCond .ne 15, 3) := by decide +kernel
theorem dX2_carryOut_40 : decode cX2_carryOut 40 = .ok (.aload_n 3, 1) := by decide +kernel
theorem dX2_carryOut_41 : decode cX2_carryOut 41 = .ok (.aload_n 1, 1) := by decide +kernel
theorem dX2_carryOut_42 : decode cX2_carryOut 42 = .ok (.aload_n 3, 1) := by decide +kernel
theorem dX2_carryOut_43 : decode cX2_carryOut 43 = .ok (.getfield 112, 3) := by decide +kernel
theorem dX2_carryOut_46 : decode cX2_carryOut 46 = .ok (.invokevirtual 58, 3) := by decide +kernel
theorem dX2_carryOut_49 : decode cX2_carryOut 49 = .ok (.putfield 112, 3) := by decide +kernel
theorem dX2_carryOut_52 : decode cX2_carryOut 52 = .ok (.iinc 2 1, 3) := by decide +kernel
theorem dX2_carryOut_55 : decode cX2_carryOut 55 = .ok (.goto (-45), 3) := by decide +kernel
theorem dX2_carryOut_58 : decode cX2_carryOut 58 = .ok (.return_, 1) := by decide +kernel
theorem dX2_follow_0 : decode cX2_follow 0 = .ok (.aload_n 0, 1) := by decide +kernel
theorem dX2_follow_1 : decode cX2_follow 1 = .ok (.getfield 19, 3) := by decide +kernel
theorem dX2_follow_4 : decode cX2_follow 4 = .ok (.aload_n 1, 1) := by decide +kernel
theorem dX2_follow_5 : decode cX2_follow 5 = .ok (.invokestatic 115, 3) := by decide +kernel
theorem dX2_follow_8 : decode cX2_follow 8 = .ok (.aload_n 0, 1) := by decide +kernel
theorem dX2_follow_9 : decode cX2_follow 9 = .ok (.getfield 23, 3) := by decide +kernel
theorem dX2_follow_12 : decode cX2_follow 12 = .ok (.aload_n 1, 1) := by decide +kernel
theorem dX2_follow_13 : decode cX2_follow 13 = .ok (.invokestatic 115, 3) := by decide +kernel
theorem dX2_follow_16 : decode cX2_follow 16 = .ok (.aload_n 1, 1) := by decide +kernel
theorem dX2_follow_17 : decode cX2_follow 17 = .ok (.getfield 119, 3) := by decide +kernel
theorem dX2_follow_20 : decode cX2_follow 20 = .ok (.bipush 110, 2) := by decide +kernel
theorem dX2_follow_22 : decode cX2_follow 22 = .ok (.if_icmp .eq 28, 3) := by decide +kernel
theorem dX2_follow_25 : decode cX2_follow 25 = .ok (.aload_n 0, 1) := by decide +kernel
theorem dX2_follow_26 : decode cX2_follow 26 = .ok (.aload_n 1, 1) := by decide +kernel
theorem dX2_follow_27 : decode cX2_follow 27 = .ok (.invokevirtual 48, 3) := by decide +kernel
theorem dX2_follow_30 : decode cX2_follow 30 = .ok (.aload_n 0, 1) := by decide +kernel
theorem dX2_follow_31 : decode cX2_follow 31 = .ok (.aload_n 1, 1) := by decide +kernel
theorem dX2_follow_32 : decode cX2_follow 32 = .ok (.aload_n 0, 1) := by decide +kernel
theorem dX2_follow_33 : decode cX2_follow 33 = .ok (.getfield 35, 3) := by decide +kernel
theorem dX2_follow_36 : decode cX2_follow 36 = .ok (.invokevirtual 58, 3) := by decide +kernel
theorem dX2_follow_39 : decode cX2_follow 39 = .ok (.putfield 35, 3) := by decide +kernel
theorem dX2_follow_42 : decode cX2_follow 42 = .ok (.aload_n 0, 1) := by decide +kernel
theorem dX2_follow_43 : decode cX2_follow 43 = .ok (.aload_n 1, 1) := by decide +kernel
theorem dX2_follow_44 : decode cX2_follow 44 = .ok (.invokevirtual 52, 3) := by decide +kernel
theorem dX2_follow_47 : decode cX2_follow 47 = .ok (.putfield 39, 3) := by decide +kernel
theorem dX2_follow_50 : decode cX2_follow 50 = .ok (.return_, 1) := by decide +kernel
theorem dX2_dropNothings_0 : decode cX2_dropNothings 0 = .ok (.aload_n 0, 1) := by decide +kernel
theorem dX2_dropNothings_1 : decode cX2_dropNothings 1 = .ok (.getfield 23, 3) := by decide +kernel
theorem dX2_dropNothings_4 : decode cX2_dropNothings 4 = .ok (.invokevirtual 84, 3) := by decide +kernel
theorem dX2_dropNothings_7 : decode cX2_dropNothings 7 = .ok (.iconst 1, 1) := by decide +kernel
theorem dX2_dropNothings_8 : decode cX2_dropNothings 8 = .ok (.isub, 1) := by decide +kernel
theorem dX2_dropNothings_9 : decode cX2_dropNothings 9 = .ok (.istore_n 1, 1) := by decide +kernel
theorem dX2_dropNothings_10 : decode cX2_dropNothings 10 = .ok (.iload_n 1, 1) := by decide +kernel
theorem dX2_dropNothings_11 : decode cX2_dropNothings 11 = .ok (.ifCond .lt 37, 3) := by decide +kernel
theorem dX2_dropNothings_14 : decode cX2_dropNothings 14 = .ok (.aload_n 0, 1) := by decide +kernel
theorem dX2_dropNothings_15 : decode cX2_dropNothings 15 = .ok (.getfield 23, 3) := by decide +kernel
theorem dX2_dropNothings_18 : decode cX2_dropNothings 18 = .ok (.iload_n 1, 1) := by decide +kernel
theorem dX2_dropNothings_19 : decode cX2_dropNothings 19 = .ok (.invokevirtual 87, 3) := by decide +kernel
theorem dX2_dropNothings_22 : decode cX2_dropNothings 22 = .ok (.checkcast 53, 3) := by decide +kernel
theorem dX2_dropNothings_25 : decode cX2_dropNothings 25 = .ok (.getfield 119, 3) := by decide +kernel
theorem dX2_dropNothings_28 : decode cX2_dropNothings 28 = .ok (.bipush 110, 2) := by decide +kernel
theorem dX2_dropNothings_30 : decode cX2_dropNothings 30 = .ok (.if_icmp .ne 12, 3) := by decide +kernel
theorem dX2_dropNothings_33 : decode cX2_dropNothings 33 = .ok (.aload_n 0, 1) := by decide +kernel
theorem dX2_dropNothings_34 : decode cX2_dropNothings 34 = .ok (.getfield 23, 3) := by decide +kernel
theorem dX2_dropNothings_37 : decode cX2_dropNothings 37 = .ok (.iload_n 1, 1) := by decide +kernel
theorem dX2_dropNothings_38 : decode cX2_dropNothings 38 = .ok (.invokevirtual 123, 3) := by decide +kernel
theorem dX2_dropNothings_41 : decode cX2_dropNothings 41 = .ok (.pop, 1) := by decide +kernel
theorem dX2_dropNothings_42 : decode cX2_dropNothings 42 = .ok (.iinc 1 (-1), 3) := by decide +kernel
theorem dX2_dropNothings_45 : decode cX2_dropNothings 45 = .ok (.goto (-35), 3) := by decide +kernel
theorem dX2_dropNothings_48 : decode cX2_dropNothings 48 = .ok (.return_, 1) := by decide +kernel
theorem dX2_beginsRun_0 : decode cX2_beginsRun 0 = .ok (.iload_n 1, 1) := by decide +kernel
theorem dX2_beginsRun_1 : decode cX2_beginsRun 1 = .ok (.ifCond .eq 33, 3) := by decide +kernel
theorem dX2_beginsRun_4 : decode cX2_beginsRun 4 = .ok (.aload_n 0, 1) := by decide +kernel
theorem dX2_beginsRun_5 : decode cX2_beginsRun 5 = .ok (.getfield 23, 3) := by decide +kernel
theorem dX2_beginsRun_8 : decode cX2_beginsRun 8 = .ok (.iload_n 1, 1) := by decide +kernel
theorem dX2_beginsRun_9 : decode cX2_beginsRun 9 = .ok (.invokevirtual 87, 3) := by decide +kernel
theorem dX2_beginsRun_12 : decode cX2_beginsRun 12 = .ok (.checkcast 53, 3) := by decide +kernel
theorem dX2_beginsRun_15 : decode cX2_beginsRun 15 = .ok (.aload_n 0, 1) := by decide +kernel
theorem dX2_beginsRun_16 : decode cX2_beginsRun 16 = .ok (.getfield 23, 3) := by decide +kernel
theorem dX2_beginsRun_19 : decode cX2_beginsRun 19 = .ok (.iload_n 1, 1) := by decide +kernel
theorem dX2_beginsRun_20 : decode cX2_beginsRun 20 = .ok (.iconst 1, 1) := by decide +kernel
theorem dX2_beginsRun_21 : decode cX2_beginsRun 21 = .ok (.isub, 1) := by decide +kernel
theorem dX2_beginsRun_22 : decode cX2_beginsRun 22 = .ok (.invokevirtual 87, 3) := by decide +kernel
theorem dX2_beginsRun_25 : decode cX2_beginsRun 25 = .ok (.checkcast 53, 3) := by decide +kernel
theorem dX2_beginsRun_28 : decode cX2_beginsRun 28 = .ok (.invokevirtual 126, 3) := by decide +kernel
theorem dX2_beginsRun_31 : decode cX2_beginsRun 31 = .ok (.ifCond .ne 7, 3) := by decide +kernel
theorem dX2_beginsRun_34 : decode cX2_beginsRun 34 = .ok (.iconst 1, 1) := by decide +kernel
theorem dX2_beginsRun_35 : decode cX2_beginsRun 35 = .ok (.goto 4, 3) := by decide +kernel
theorem dX2_beginsRun_38 : decode cX2_beginsRun 38 = .ok (.iconst 0, 1) := by decide +kernel
theorem dX2_beginsRun_39 : decode cX2_beginsRun 39 = .ok (.ireturn, 1) := by decide +kernel
theorem dX2_firstRunSize_0 : decode cX2_firstRunSize 0 = .ok (.iconst 0, 1) := by decide +kernel
theorem dX2_firstRunSize_1 : decode cX2_firstRunSize 1 = .ok (.istore_n 1, 1) := by decide +kernel
theorem dX2_firstRunSize_2 : decode cX2_firstRunSize 2 = .ok (.iload_n 1, 1) := by decide +kernel
theorem dX2_firstRunSize_3 : decode cX2_firstRunSize 3 = .ok (.aload_n 0, 1) := by decide +kernel
theorem dX2_firstRunSize_4 : decode cX2_firstRunSize 4 = .ok (.getfield 23, 3) := by decide +kernel
theorem dX2_firstRunSize_7 : decode cX2_firstRunSize 7 = .ok (.invokevirtual 84, 3) := by decide +kernel
theorem dX2_firstRunSize_10 : decode cX2_firstRunSize 10 = .ok (.if_icmp .ge 21, 3) := by decide +kernel
theorem dX2_firstRunSize_13 : decode cX2_firstRunSize 13 = .ok (.iload_n 1, 1) := by decide +kernel
theorem dX2_firstRunSize_14 : decode cX2_firstRunSize 14 = .ok (.ifCond .eq 11, 3) := by decide +kernel
theorem dX2_firstRunSize_17 : decode cX2_firstRunSize 17 = .ok (.aload_n 0, 1) := by decide +kernel
theorem dX2_firstRunSize_18 : decode cX2_firstRunSize 18 = .ok (.iload_n 1, 1) := by decide +kernel
theorem dX2_firstRunSize_19 : decode cX2_firstRunSize 19 = .ok (.invokevirtual 101, 3) := by decide +kernel
theorem dX2_firstRunSize_22 : decode cX2_firstRunSize 22 = .ok (.ifCond .ne 9, 3) := by decide +kernel
theorem dX2_firstRunSize_25 : decode cX2_firstRunSize 25 = .ok (.iinc 1 1, 3) := by decide +kernel
theorem dX2_firstRunSize_28 : decode cX2_firstRunSize 28 = .ok (.goto (-26), 3) := by decide +kernel
theorem dX2_firstRunSize_31 : decode cX2_firstRunSize 31 = .ok (.iload_n 1, 1) := by decide +kernel
theorem dX2_firstRunSize_32 : decode cX2_firstRunSize 32 = .ok (.ireturn, 1) := by decide +kernel
theorem dX2_sendRun_0 : decode cX2_sendRun 0 = .ok (.aload_n 0, 1) := by decide +kernel
theorem dX2_sendRun_1 : decode cX2_sendRun 1 = .ok (.getfield 19, 3) := by decide +kernel
theorem dX2_sendRun_4 : decode cX2_sendRun 4 = .ok (.invokevirtual 130, 3) := by decide +kernel
theorem dX2_sendRun_7 : decode cX2_sendRun 7 = .ok (.aload_n 0, 1) := by decide +kernel
theorem dX2_sendRun_8 : decode cX2_sendRun 8 = .ok (.invokevirtual 133, 3) := by decide +kernel
theorem dX2_sendRun_11 : decode cX2_sendRun 11 = .ok (.istore_n 1, 1) := by decide +kernel
theorem dX2_sendRun_12 : decode cX2_sendRun 12 = .ok (.iconst 0, 1) := by decide +kernel
theorem dX2_sendRun_13 : decode cX2_sendRun 13 = .ok (.istore_n 2, 1) := by decide +kernel
theorem dX2_sendRun_14 : decode cX2_sendRun 14 = .ok (.iload_n 2, 1) := by decide +kernel
theorem dX2_sendRun_15 : decode cX2_sendRun 15 = .ok (.iload_n 1, 1) := by decide +kernel
theorem dX2_sendRun_16 : decode cX2_sendRun 16 = .ok (.if_icmp .ge 38, 3) := by decide +kernel
theorem dX2_sendRun_19 : decode cX2_sendRun 19 = .ok (.aload_n 0, 1) := by decide +kernel
theorem dX2_sendRun_20 : decode cX2_sendRun 20 = .ok (.getfield 23, 3) := by decide +kernel
theorem dX2_sendRun_23 : decode cX2_sendRun 23 = .ok (.invokevirtual 62, 3) := by decide +kernel
theorem dX2_sendRun_26 : decode cX2_sendRun 26 = .ok (.ifCond .ne 28, 3) := by decide +kernel
theorem dX2_sendRun_29 : decode cX2_sendRun 29 = .ok (.aload_n 0, 1) := by decide +kernel
theorem dX2_sendRun_30 : decode cX2_sendRun 30 = .ok (.getfield 19, 3) := by decide +kernel
theorem dX2_sendRun_33 : decode cX2_sendRun 33 = .ok (.aload_n 0, 1) := by decide +kernel
theorem dX2_sendRun_34 : decode cX2_sendRun 34 = .ok (.getfield 23, 3) := by decide +kernel
theorem dX2_sendRun_37 : decode cX2_sendRun 37 = .ok (.iconst 0, 1) := by decide +kernel
theorem dX2_sendRun_38 : decode cX2_sendRun 38 = .ok (.invokevirtual 123, 3) := by decide +kernel
theorem dX2_sendRun_41 : decode cX2_sendRun 41 = .ok (.checkcast 53, 3) := by decide +kernel
theorem dX2_sendRun_44 : decode cX2_sendRun 44 = .ok (.invokevirtual 66, 3) := by decide +kernel
theorem dX2_sendRun_47 : decode cX2_sendRun 47 = .ok (.pop, 1) := by decide +kernel
theorem dX2_sendRun_48 : decode cX2_sendRun 48 = .ok (.iinc 2 1, 3) := by decide +kernel
theorem dX2_sendRun_51 : decode cX2_sendRun 51 = .ok (.goto (-37), 3) := by decide +kernel
theorem dX2_sendRun_54 : decode cX2_sendRun 54 = .ok (.aload_n 0, 1) := by decide +kernel
theorem dX2_sendRun_55 : decode cX2_sendRun 55 = .ok (.getfield 19, 3) := by decide +kernel
theorem dX2_sendRun_58 : decode cX2_sendRun 58 = .ok (.invokevirtual 62, 3) := by decide +kernel
theorem dX2_sendRun_61 : decode cX2_sendRun 61 = .ok (.ifCond .ne 7, 3) := by decide +kernel
theorem dX2_sendRun_64 : decode cX2_sendRun 64 = .ok (.aload_n 0, 1) := by decide +kernel
theorem dX2_sendRun_65 : decode cX2_sendRun 65 = .ok (.invokevirtual 70, 3) := by decide +kernel
theorem dX2_sendRun_68 : decode cX2_sendRun 68 = .ok (.return_, 1) := by decide +kernel
theorem dX2_sendMessage_0 : decode cX2_sendMessage 0 = .ok (.new 74, 3) := by decide +kernel
theorem dX2_sendMessage_3 : decode cX2_sendMessage 3 = .ok (.dup, 1) := by decide +kernel
theorem dX2_sendMessage_4 : decode cX2_sendMessage 4 = .ok (.aload_n 0, 1) := by decide +kernel
theorem dX2_sendMessage_5 : decode cX2_sendMessage 5 = .ok (.getfield 45, 3) := by decide +kernel
theorem dX2_sendMessage_8 : decode cX2_sendMessage 8 = .ok (.aload_n 0, 1) := by decide +kernel
theorem dX2_sendMessage_9 : decode cX2_sendMessage 9 = .ok (.getfield 42, 3) := by decide +kernel
theorem dX2_sendMessage_12 : decode cX2_sendMessage 12 = .ok (.invokespecial 136, 3) := by decide +kernel
theorem dX2_sendMessage_15 : decode cX2_sendMessage 15 = .ok (.astore_n 1, 1) := by decide +kernel
theorem dX2_sendMessage_16 : decode cX2_sendMessage 16 = .ok (.iconst 0, 1) := by decide +kernel
theorem dX2_sendMessage_17 : decode cX2_sendMessage 17 = .ok (.istore_n 2, 1) := by decide +kernel
theorem dX2_sendMessage_18 : decode cX2_sendMessage 18 = .ok (.iload_n 2, 1) := by decide +kernel
theorem dX2_sendMessage_19 : decode cX2_sendMessage 19 = .ok (.aload_n 0, 1) := by decide +kernel
theorem dX2_sendMessage_20 : decode cX2_sendMessage 20 = .ok (.getfield 19, 3) := by decide +kernel
theorem dX2_sendMessage_23 : decode cX2_sendMessage 23 = .ok (.invokevirtual 84, 3) := by decide +kernel
theorem dX2_sendMessage_26 : decode cX2_sendMessage 26 = .ok (.if_icmp .ge 31, 3) := by decide +kernel
theorem dX2_sendMessage_29 : decode cX2_sendMessage 29 = .ok (.aload_n 1, 1) := by decide +kernel
theorem dX2_sendMessage_30 : decode cX2_sendMessage 30 = .ok (.getfield 81, 3) := by decide +kernel
theorem dX2_sendMessage_33 : decode cX2_sendMessage 33 = .ok (.aload_n 0, 1) := by decide +kernel
theorem dX2_sendMessage_34 : decode cX2_sendMessage 34 = .ok (.getfield 19, 3) := by decide +kernel
theorem dX2_sendMessage_37 : decode cX2_sendMessage 37 = .ok (.iload_n 2, 1) := by decide +kernel
theorem dX2_sendMessage_38 : decode cX2_sendMessage 38 = .ok (.invokevirtual 87, 3) := by decide +kernel
theorem dX2_sendMessage_41 : decode cX2_sendMessage 41 = .ok (.checkcast 53, 3) := by decide +kernel
theorem dX2_sendMessage_44 : decode cX2_sendMessage 44 = .ok (.invokevirtual 91, 3) := by decide +kernel
theorem dX2_sendMessage_47 : decode cX2_sendMessage 47 = .ok (.invokevirtual 66, 3) := by decide +kernel
theorem dX2_sendMessage_50 : decode cX2_sendMessage 50 = .ok (.pop, 1) := by decide +kernel
theorem dX2_sendMessage_51 : decode cX2_sendMessage 51 = .ok (.iinc 2 1, 3) := by decide +kernel
theorem dX2_sendMessage_54 : decode cX2_sendMessage 54 = .ok (.goto (-36), 3) := by decide +kernel
theorem dX2_sendMessage_57 : decode cX2_sendMessage 57 = .ok (.aload_n 0, 1) := by decide +kernel
theorem dX2_sendMessage_58 : decode cX2_sendMessage 58 = .ok (.getfield 26, 3) := by decide +kernel
theorem dX2_sendMessage_61 : decode cX2_sendMessage 61 = .ok (.aload_n 1, 1) := by decide +kernel
theorem dX2_sendMessage_62 : decode cX2_sendMessage 62 = .ok (.invokevirtual 66, 3) := by decide +kernel
theorem dX2_sendMessage_65 : decode cX2_sendMessage 65 = .ok (.pop, 1) := by decide +kernel
theorem dX2_sendMessage_66 : decode cX2_sendMessage 66 = .ok (.return_, 1) := by decide +kernel
theorem dX3_init_0 : decode cX3_init 0 = .ok (.aload_n 0, 1) := by decide +kernel
theorem dX3_init_1 : decode cX3_init 1 = .ok (.invokespecial 1, 3) := by decide +kernel
theorem dX3_init_4 : decode cX3_init 4 = .ok (.aload_n 0, 1) := by decide +kernel
theorem dX3_init_5 : decode cX3_init 5 = .ok (.iload_n 1, 1) := by decide +kernel
theorem dX3_init_6 : decode cX3_init 6 = .ok (.putfield 7, 3) := by decide +kernel
theorem dX3_init_9 : decode cX3_init 9 = .ok (.aload_n 0, 1) := by decide +kernel
theorem dX3_init_10 : decode cX3_init 10 = .ok (.aload_n 2, 1) := by decide +kernel
theorem dX3_init_11 : decode cX3_init 11 = .ok (.putfield 13, 3) := by decide +kernel
theorem dX3_init_14 : decode cX3_init 14 = .ok (.aload_n 0, 1) := by decide +kernel
theorem dX3_init_15 : decode cX3_init 15 = .ok (.iload_n 3, 1) := by decide +kernel
theorem dX3_init_16 : decode cX3_init 16 = .ok (.putfield 17, 3) := by decide +kernel
theorem dX3_init_19 : decode cX3_init 19 = .ok (.return_, 1) := by decide +kernel
theorem dX4_init_0 : decode cX4_init 0 = .ok (.aload_n 0, 1) := by decide +kernel
theorem dX4_init_1 : decode cX4_init 1 = .ok (.invokespecial 1, 3) := by decide +kernel
theorem dX4_init_4 : decode cX4_init 4 = .ok (.aload_n 0, 1) := by decide +kernel
theorem dX4_init_5 : decode cX4_init 5 = .ok (.iload_n 1, 1) := by decide +kernel
theorem dX4_init_6 : decode cX4_init 6 = .ok (.putfield 7, 3) := by decide +kernel
theorem dX4_init_9 : decode cX4_init 9 = .ok (.aload_n 0, 1) := by decide +kernel
theorem dX4_init_10 : decode cX4_init 10 = .ok (.iload_n 2, 1) := by decide +kernel
theorem dX4_init_11 : decode cX4_init 11 = .ok (.putfield 13, 3) := by decide +kernel
theorem dX4_init_14 : decode cX4_init 14 = .ok (.return_, 1) := by decide +kernel
theorem dX5_init_0 : decode cX5_init 0 = .ok (.aload_n 0, 1) := by decide +kernel
theorem dX5_init_1 : decode cX5_init 1 = .ok (.invokespecial 1, 3) := by decide +kernel
theorem dX5_init_4 : decode cX5_init 4 = .ok (.aload_n 0, 1) := by decide +kernel
theorem dX5_init_5 : decode cX5_init 5 = .ok (.new 7, 3) := by decide +kernel
theorem dX5_init_8 : decode cX5_init 8 = .ok (.dup, 1) := by decide +kernel
theorem dX5_init_9 : decode cX5_init 9 = .ok (.invokespecial 9, 3) := by decide +kernel
theorem dX5_init_12 : decode cX5_init 12 = .ok (.putfield 10, 3) := by decide +kernel
theorem dX5_init_15 : decode cX5_init 15 = .ok (.aload_n 0, 1) := by decide +kernel
theorem dX5_init_16 : decode cX5_init 16 = .ok (.iload_n 1, 1) := by decide +kernel
theorem dX5_init_17 : decode cX5_init 17 = .ok (.putfield 16, 3) := by decide +kernel
theorem dX5_init_20 : decode cX5_init 20 = .ok (.aload_n 0, 1) := by decide +kernel
theorem dX5_init_21 : decode cX5_init 21 = .ok (.iload_n 2, 1) := by decide +kernel
theorem dX5_init_22 : decode cX5_init 22 = .ok (.putfield 20, 3) := by decide +kernel
theorem dX5_init_25 : decode cX5_init 25 = .ok (.return_, 1) := by decide +kernel
theorem dX6_init_0 : decode cX6_init 0 = .ok (.aload_n 0, 1) := by decide +kernel
theorem dX6_init_1 : decode cX6_init 1 = .ok (.invokespecial 1, 3) := by decide +kernel
theorem dX6_init_4 : decode cX6_init 4 = .ok (.aload_n 0, 1) := by decide +kernel
theorem dX6_init_5 : decode cX6_init 5 = .ok (.iload_n 1, 1) := by decide +kernel
theorem dX6_init_6 : decode cX6_init 6 = .ok (.putfield 7, 3) := by decide +kernel
theorem dX6_init_9 : decode cX6_init 9 = .ok (.aload_n 0, 1) := by decide +kernel
theorem dX6_init_10 : decode cX6_init 10 = .ok (.iload_n 2, 1) := by decide +kernel
theorem dX6_init_11 : decode cX6_init 11 = .ok (.putfield 13, 3) := by decide +kernel
theorem dX6_init_14 : decode cX6_init 14 = .ok (.aload_n 0, 1) := by decide +kernel
theorem dX6_init_15 : decode cX6_init 15 = .ok (.iload_n 3, 1) := by decide +kernel
theorem dX6_init_16 : decode cX6_init 16 = .ok (.putfield 17, 3) := by decide +kernel
theorem dX6_init_19 : decode cX6_init 19 = .ok (.aload_n 0, 1) := by decide +kernel
theorem dX6_init_20 : decode cX6_init 20 = .ok (.aload 4, 2) := by decide +kernel
theorem dX6_init_22 : decode cX6_init 22 = .ok (.putfield 20, 3) := by decide +kernel
theorem dX6_init_25 : decode cX6_init 25 = .ok (.return_, 1) := by decide +kernel
theorem dX6_copy_0 : decode cX6_copy 0 = .ok (.new 8, 3) := by decide +kernel
theorem dX6_copy_3 : decode cX6_copy 3 = .ok (.dup, 1) := by decide +kernel
theorem dX6_copy_4 : decode cX6_copy 4 = .ok (.aload_n 0, 1) := by decide +kernel
theorem dX6_copy_5 : decode cX6_copy 5 = .ok (.getfield 7, 3) := by decide +kernel
theorem dX6_copy_8 : decode cX6_copy 8 = .ok (.aload_n 0, 1) := by decide +kernel
theorem dX6_copy_9 : decode cX6_copy 9 = .ok (.getfield 13, 3) := by decide +kernel
theorem dX6_copy_12 : decode cX6_copy 12 = .ok (.aload_n 0, 1) := by decide +kernel
theorem dX6_copy_13 : decode cX6_copy 13 = .ok (.getfield 17, 3) := by decide +kernel
theorem dX6_copy_16 : decode cX6_copy 16 = .ok (.aload_n 0, 1) := by decide +kernel
theorem dX6_copy_17 : decode cX6_copy 17 = .ok (.getfield 20, 3) := by decide +kernel
theorem dX6_copy_20 : decode cX6_copy 20 = .ok (.invokespecial 24, 3) := by decide +kernel
theorem dX6_copy_23 : decode cX6_copy 23 = .ok (.areturn, 1) := by decide +kernel
theorem dX6_transformRow_0 : decode cX6_transformRow 0 = .ok (.iconst 0, 1) := by decide +kernel
theorem dX6_transformRow_1 : decode cX6_transformRow 1 = .ok (.istore_n 2, 1) := by decide +kernel
theorem dX6_transformRow_2 : decode cX6_transformRow 2 = .ok (.iload_n 2, 1) := by decide +kernel
theorem dX6_transformRow_3 : decode cX6_transformRow 3 = .ok (.aload_n 0, 1) := by decide +kernel
theorem dX6_transformRow_4 : decode cX6_transformRow 4 = .ok (.invokevirtual 27, 3) := by decide +kernel
theorem dX6_transformRow_7 : decode cX6_transformRow 7 = .ok (.if_icmp .ge 58, 3) := by decide +kernel
theorem dX6_transformRow_10 : decode cX6_transformRow 10 = .ok (.aload_n 0, 1) := by decide +kernel
theorem dX6_transformRow_11 : decode cX6_transformRow 11 = .ok (.iload_n 2, 1) := by decide +kernel
theorem dX6_transformRow_12 : decode cX6_transformRow 12 = .ok (.invokevirtual 33, 3) := by decide +kernel
theorem dX6_transformRow_15 : decode cX6_transformRow 15 = .ok (.checkcast 8, 3) := by decide +kernel
theorem dX6_transformRow_18 : decode cX6_transformRow 18 = .ok (.astore_n 3, 1) := by decide +kernel
theorem dX6_transformRow_19 : decode cX6_transformRow 19 = .ok (.aload_n 3, 1) := by decide +kernel
theorem dX6_transformRow_20 : decode cX6_transformRow 20 = .ok (.getfield 13, 3) := by decide +kernel
theorem dX6_transformRow_23 : decode cX6_transformRow 23 = .ok (.istore 4, 2) := by decide +kernel
theorem dX6_transformRow_25 : decode cX6_transformRow 25 = .ok (.aload_n 3, 1) := by decide +kernel
theorem dX6_transformRow_26 : decode cX6_transformRow 26 = .ok (.getfield 17, 3) := by decide +kernel
theorem dX6_transformRow_29 : decode cX6_transformRow 29 = .ok (.istore 5, 2) := by decide +kernel
theorem dX6_transformRow_31 : decode cX6_transformRow 31 = .ok (.aload_n 3, 1) := by decide +kernel
theorem dX6_transformRow_32 : decode cX6_transformRow 32 = .ok (.aload_n 1, 1) := by decide +kernel
theorem dX6_transformRow_33 : decode cX6_transformRow 33 = .ok (.getfield 13, 3) := by decide +kernel
theorem dX6_transformRow_36 : decode cX6_transformRow 36 = .ok (.aload_n 1, 1) := by decide +kernel
theorem dX6_transformRow_37 : decode cX6_transformRow 37 = .ok (.getfield 17, 3) := by decide +kernel
theorem dX6_transformRow_40 : decode cX6_transformRow 40 = .ok (.aload_n 1, 1) := by decide +kernel
theorem dX6_transformRow_41 : decode cX6_transformRow 41 = .ok (.getfield 7, 3) := by decide +kernel
theorem dX6_transformRow_44 : decode cX6_transformRow 44 = .ok (.invokevirtual 37, 3) := by decide +kernel
theorem dX6_transformRow_47 : decode cX6_transformRow 47 = .ok (.aload_n 1, 1) := by decide +kernel
theorem dX6_transformRow_48 : decode cX6_transformRow 48 = .ok (.iload 4, 2) := by decide +kernel
theorem dX6_transformRow_50 : decode cX6_transformRow 50 = .ok (.iload 5, 2) := by decide +kernel
theorem dX6_transformRow_52 : decode cX6_transformRow 52 = .ok (.aload_n 3, 1) := by decide +kernel
theorem dX6_transformRow_53 : decode cX6_transformRow 53 = .ok (.getfield 7, 3) := by decide +kernel
theorem dX6_transformRow_56 : decode cX6_transformRow 56 = .ok (.invokevirtual 37, 3) := by decide +kernel
theorem dX6_transformRow_59 : decode cX6_transformRow 59 = .ok (.iinc 2 1, 3) := by decide +kernel
theorem dX6_transformRow_62 : decode cX6_transformRow 62 = .ok (.goto (-60), 3) := by decide +kernel
theorem dX6_transformRow_65 : decode cX6_transformRow 65 = .ok (.return_, 1) := by decide +kernel
theorem dX6_transform_0 : decode cX6_transform 0 = .ok (.iload_n 1, 1) := by decide +kernel
theorem dX6_transform_1 : decode cX6_transform 1 = .ok (.bipush 105, 2) := by decide +kernel
theorem dX6_transform_3 : decode cX6_transform 3 = .ok (.if_icmp .ne 12, 3) := by decide +kernel
theorem dX6_transform_6 : decode cX6_transform 6 = .ok (.aload_n 0, 1) := by decide +kernel
theorem dX6_transform_7 : decode cX6_transform 7 = .ok (.iload_n 2, 1) := by decide +kernel
theorem dX6_transform_8 : decode cX6_transform 8 = .ok (.iload_n 3, 1) := by decide +kernel
theorem dX6_transform_9 : decode cX6_transform 9 = .ok (.invokevirtual 41, 3) := by decide +kernel
theorem dX6_transform_12 : decode cX6_transform 12 = .ok (.goto 14, 3) := by decide +kernel
theorem dX6_transform_15 : decode cX6_transform 15 = .ok (.iload_n 1, 1) := by decide +kernel
theorem dX6_transform_16 : decode cX6_transform 16 = .ok (.bipush 100, 2) := by decide +kernel
theorem dX6_transform_18 : decode cX6_transform 18 = .ok (.if_icmp .ne 8, 3) := by decide +kernel
theorem dX6_transform_21 : decode cX6_transform 21 = .ok (.aload_n 0, 1) := by decide +kernel
theorem dX6_transform_22 : decode cX6_transform 22 = .ok (.iload_n 2, 1) := by decide +kernel
theorem dX6_transform_23 : decode cX6_transform 23 = .ok (.invokevirtual 45, 3) := by decide +kernel
theorem dX6_transform_26 : decode cX6_transform 26 = .ok (.return_, 1) := by decide +kernel
theorem dX6_transformByInsertion_0 : decode cX6_transformByInsertion 0 = .ok (.aload_n 0, 1) := by decide +kernel
theorem dX6_transformByInsertion_1 : decode cX6_transformByInsertion 1 = .ok (.getfield 13, 3) := by decide +kernel
theorem dX6_transformByInsertion_4 : decode cX6_transformByInsertion 4 = .ok (.bipush 100, 2) := by decide +kernel
theorem dX6_transformByInsertion_6 : decode cX6_transformByInsertion 6 = .ok (.if_icmp .eq 7, 3) := by decide +kernel
theorem dX6_transformByInsertion_9 : decode cX6_transformByInsertion 9 = .ok (.iload_n 2, 1) := by decide +kernel
theorem dX6_transformByInsertion_10 : decode cX6_transformByInsertion 10 = .ok (.ifCond .ne 7, 3) := by decide +kernel
theorem dX6_transformByInsertion_13 : decode cX6_transformByInsertion 13 = .ok (.iconst 1, 1) := by decide +kernel
theorem dX6_transformByInsertion_14 : decode cX6_transformByInsertion 14 = .ok (.goto 4, 3) := by decide +kernel
theorem dX6_transformByInsertion_17 : decode cX6_transformByInsertion 17 = .ok (.iconst 0, 1) := by decide +kernel
theorem dX6_transformByInsertion_18 : decode cX6_transformByInsertion 18 = .ok (.istore_n 3, 1) := by decide +kernel
theorem dX6_transformByInsertion_19 : decode cX6_transformByInsertion 19 = .ok (.aload_n 0, 1) := by decide +kernel
theorem dX6_transformByInsertion_20 : decode cX6_transformByInsertion 20 = .ok (.getfield 13, 3) := by decide +kernel
theorem dX6_transformByInsertion_23 : decode cX6_transformByInsertion 23 = .ok (.bipush 110, 2) := by decide +kernel
theorem dX6_transformByInsertion_25 : decode cX6_transformByInsertion 25 = .ok (.if_icmp .eq 33, 3) := by decide +kernel
theorem dX6_transformByInsertion_28 : decode cX6_transformByInsertion 28 = .ok (.iload_n 1, 1) := by decide +kernel
theorem dX6_transformByInsertion_29 : decode cX6_transformByInsertion 29 = .ok (.aload_n 0, 1) := by decide +kernel
theorem dX6_transformByInsertion_30 : decode cX6_transformByInsertion 30 = .ok (.getfield 17, 3) := by decide +kernel
theorem dX6_transformByInsertion_33 : decode cX6_transformByInsertion 33 = .ok (.if_icmp .lt 15, 3) := by decide +kernel
theorem dX6_transformByInsertion_36 : decode cX6_transformByInsertion 36 = .ok (.iload_n 1, 1) := by decide +kernel
theorem dX6_transformByInsertion_37 : decode cX6_transformByInsertion 37 = .ok (.aload_n 0, 1) := by decide +kernel
theorem dX6_transformByInsertion_38 : decode cX6_transformByInsertion 38 = .ok (.getfield 17, 3) := by decide +kernel
theorem dX6_transformByInsertion_41 : decode cX6_transformByInsertion 41 = .ok (.if_icmp .ne 17, 3) := by decide +kernel
theorem dX6_transformByInsertion_44 : decode cX6_transformByInsertion 44 = .ok (.iload_n 3, 1) := by decide +kernel
theorem dX6_transformByInsertion_45 : decode cX6_transformByInsertion 45 = .ok (.ifCond .eq 13, 3) := by decide +kernel
theorem dX6_transformByInsertion_48 : decode cX6_transformByInsertion 48 = .ok (.aload_n 0, 1) := by decide +kernel
theorem dX6_transformByInsertion_49 : decode cX6_transformByInsertion 49 = .ok (.dup, 1) := by decide +kernel
theorem dX6_transformByInsertion_50 : decode cX6_transformByInsertion 50 = .ok (.getfield 17, 3) := by decide +kernel
theorem dX6_transformByInsertion_53 : decode cX6_transformByInsertion 53 = .ok (.iconst 1, 1) := by decide +kernel
theorem dX6_transformByInsertion_54 : decode cX6_transformByInsertion 54 = .ok (.iadd, 1) := by decide +kernel
theorem dX6_transformByInsertion_55 : decode cX6_transformByInsertion 55 = .ok (.putfield 17, 3) := by decide +kernel
theorem dX6_transformByInsertion_58 : decode cX6_transformByInsertion 58 = .ok (.return_, 1) := by decide +kernel
theorem dX6_transformByDeletion_0 : decode cX6_transformByDeletion 0 = .ok (.aload_n 0, 1) := by decide +kernel
theorem dX6_transformByDeletion_1 : decode cX6_transformByDeletion 1 = .ok (.getfield 13, 3) := by decide +kernel
theorem dX6_transformByDeletion_4 : decode cX6_transformByDeletion 4 = .ok (.bipush 110, 2) := by decide +kernel
theorem dX6_transformByDeletion_6 : decode cX6_transformByDeletion 6 = .ok (.if_icmp .eq 24, 3) := by decide +kernel
theorem dX6_transformByDeletion_9 : decode cX6_transformByDeletion 9 = .ok (.iload_n 1, 1) := by decide +kernel
theorem dX6_transformByDeletion_10 : decode cX6_transformByDeletion 10 = .ok (.aload_n 0, 1) := by decide +kernel
theorem dX6_transformByDeletion_11 : decode cX6_transformByDeletion 11 = .ok (.getfield 17, 3) := by decide +kernel
theorem dX6_transformByDeletion_14 : decode cX6_transformByDeletion 14 = .ok (.if_icmp .ge 16, 3) := by decide +kernel
theorem dX6_transformByDeletion_17 : decode cX6_transformByDeletion 17 = .ok (.aload_n 0, 1) := by decide +kernel
theorem dX6_transformByDeletion_18 : decode cX6_transformByDeletion 18 = .ok (.dup, 1) := by decide +kernel
theorem dX6_transformByDeletion_19 : decode cX6_transformByDeletion 19 = .ok (.getfield 17, 3) := by decide +kernel
theorem dX6_transformByDeletion_22 : decode cX6_transformByDeletion 22 = .ok (.iconst 1, 1) := by decide +kernel
theorem dX6_transformByDeletion_23 : decode cX6_transformByDeletion 23 = .ok (.isub, 1) := by decide +kernel
theorem dX6_transformByDeletion_24 : decode cX6_transformByDeletion 24 = .ok (.putfield 17, 3) := by decide +kernel
theorem dX6_transformByDeletion_27 : decode cX6_transformByDeletion 27 = .ok (.goto 31, 3) := by decide +kernel
theorem dX6_transformByDeletion_30 : decode cX6_transformByDeletion 30 = .ok (.aload_n 0, 1) := by decide +kernel
theorem dX6_transformByDeletion_31 : decode cX6_transformByDeletion 31 = .ok (.getfield 13, 3) := by decide +kernel
theorem dX6_transformByDeletion_34 : decode cX6_transformByDeletion 34 = .ok (.bipush 100, 2) := by decide +kernel
theorem dX6_transformByDeletion_36 : decode cX6_transformByDeletion 36 = .ok (.if_icmp .ne 22, 3) := by decide +kernel
theorem dX6_transformByDeletion_39 : decode cX6_transformByDeletion 39 = .ok (.iload_n 1, 1) := by decide +kernel
theorem dX6_transformByDeletion_40 : decode cX6_transformByDeletion 40 = .ok (.aload_n 0, 1) := by decide +kernel
theorem dX6_transformByDeletion_41 : decode cX6_transformByDeletion 41 = .ok (.getfield 17, 3) := by decide +kernel
theorem dX6_transformByDeletion_44 : decode cX6_transformByDeletion 44 = .ok (.if_icmp .ne 14, 3) := by decide +kernel
theorem dX6_transformByDeletion_47 : decode cX6_transformByDeletion 47 = .ok (.aload_n 0, 1) := by decide +kernel
theorem dX6_transformByDeletion_48 : decode cX6_transformByDeletion 48 = .ok (.bipush 110, 2) := by decide +kernel
theorem dX6_transformByDeletion_50 : decode cX6_transformByDeletion 50 = .ok (.putfield 13, 3) := by decide +kernel
theorem dX6_transformByDeletion_53 : decode cX6_transformByDeletion 53 = .ok (.aload_n 0, 1) := by decide +kernel
theorem dX6_transformByDeletion_54 : decode cX6_transformByDeletion 54 = .ok (.iconst (-1), 1) := by decide +kernel
theorem dX6_transformByDeletion_55 : decode cX6_transformByDeletion 55 = .ok (.putfield 17, 3) := by decide +kernel
theorem dX6_transformByDeletion_58 : decode cX6_transformByDeletion 58 = .ok (.return_, 1) := by decide +kernel
theorem dX6_move_0 : decode cX6_move 0 = .ok (.aload_n 0, 1) := by decide +kernel
theorem dX6_move_1 : decode cX6_move 1 = .ok (.getfield 17, 3) := by decide +kernel
theorem dX6_move_4 : decode cX6_move 4 = .ok (.iload_n 1, 1) := by decide +kernel
theorem dX6_move_5 : decode cX6_move 5 = .ok (.if_icmp .lt 5, 3) := by decide +kernel
theorem dX6_move_8 : decode cX6_move 8 = .ok (.iload_n 1, 1) := by decide +kernel
theorem dX6_move_9 : decode cX6_move 9 = .ok (.ireturn, 1) := by decide +kernel
theorem dX6_move_10 : decode cX6_move 10 = .ok (.aload_n 0, 1) := by decide +kernel
theorem dX6_move_11 : decode cX6_move 11 = .ok (.getfield 13, 3) := by decide +kernel
theorem dX6_move_14 : decode cX6_move 14 = .ok (.bipush 105, 2) := by decide +kernel
theorem dX6_move_16 : decode cX6_move 16 = .ok (.if_icmp .ne 7, 3) := by decide +kernel
theorem dX6_move_19 : decode cX6_move 19 = .ok (.iload_n 1, 1) := by decide +kernel
theorem dX6_move_20 : decode cX6_move 20 = .ok (.iconst 1, 1) := by decide +kernel
theorem dX6_move_21 : decode cX6_move 21 = .ok (.iadd, 1) := by decide +kernel
theorem dX6_move_22 : decode cX6_move 22 = .ok (.ireturn, 1) := by decide +kernel
theorem dX6_move_23 : decode cX6_move 23 = .ok (.aload_n 0, 1) := by decide +kernel
theorem dX6_move_24 : decode cX6_move 24 = .ok (.getfield 13, 3) := by decide +kernel
theorem dX6_move_27 : decode cX6_move 27 = .ok (.bipush 100, 2) := by decide +kernel
theorem dX6_move_29 : decode cX6_move 29 = .ok (.if_icmp .ne 9, 3) := by decide +kernel
theorem dX6_move_32 : decode cX6_move 32 = .ok (.iload_n 1, 1) := by decide +kernel
theorem dX6_move_33 : decode cX6_move 33 = .ok (.iconst 1, 1) := by decide +kernel
theorem dX6_move_34 : decode cX6_move 34 = .ok (.isub, 1) := by decide +kernel
theorem dX6_move_35 : decode cX6_move 35 = .ok (.goto 4, 3) := by decide +kernel
theorem dX6_move_38 : decode cX6_move 38 = .ok (.iload_n 1, 1) := by decide +kernel
theorem dX6_move_39 : decode cX6_move 39 = .ok (.ireturn, 1) := by decide +kernel
theorem dX6_placeBehind_0 : decode cX6_placeBehind 0 = .ok (.aload_n 0, 1) := by decide +kernel
theorem dX6_placeBehind_1 : decode cX6_placeBehind 1 = .ok (.getfield 13, 3) := by decide +kernel
theorem dX6_placeBehind_4 : decode cX6_placeBehind 4 = .ok (.bipush 105, 2) := by decide +kernel
theorem dX6_placeBehind_6 : decode cX6_placeBehind 6 = .ok (.if_icmp .ne 12, 3) := by decide +kernel
theorem dX6_placeBehind_9 : decode cX6_placeBehind 9 = .ok (.aload_n 0, 1) := by decide +kernel
theorem dX6_placeBehind_10 : decode cX6_placeBehind 10 = .ok (.getfield 17, 3) := by decide +kernel
theorem dX6_placeBehind_13 : decode cX6_placeBehind 13 = .ok (.iconst 1, 1) := by decide +kernel
theorem dX6_placeBehind_14 : decode cX6_placeBehind 14 = .ok (.iadd, 1) := by decide +kernel
theorem dX6_placeBehind_15 : decode cX6_placeBehind 15 = .ok (.goto 7, 3) := by decide +kernel
theorem dX6_placeBehind_18 : decode cX6_placeBehind 18 = .ok (.aload_n 0, 1) := by decide +kernel
theorem dX6_placeBehind_19 : decode cX6_placeBehind 19 = .ok (.getfield 17, 3) := by decide +kernel
theorem dX6_placeBehind_22 : decode cX6_placeBehind 22 = .ok (.ireturn, 1) := by decide +kernel
theorem dX6_goesOnFrom_0 : decode cX6_goesOnFrom 0 = .ok (.aload_n 0, 1) := by decide +kernel
theorem dX6_goesOnFrom_1 : decode cX6_goesOnFrom 1 = .ok (.getfield 13, 3) := by decide +kernel
theorem dX6_goesOnFrom_4 : decode cX6_goesOnFrom 4 = .ok (.bipush 105, 2) := by decide +kernel
theorem dX6_goesOnFrom_6 : decode cX6_goesOnFrom 6 = .ok (.if_icmp .ne 31, 3) := by decide +kernel
theorem dX6_goesOnFrom_9 : decode cX6_goesOnFrom 9 = .ok (.aload_n 1, 1) := by decide +kernel
theorem dX6_goesOnFrom_10 : decode cX6_goesOnFrom 10 = .ok (.getfield 13, 3) := by decide +kernel
theorem dX6_goesOnFrom_13 : decode cX6_goesOnFrom 13 = .ok (.bipush 105, 2) := by decide +kernel
theorem dX6_goesOnFrom_15 : decode cX6_goesOnFrom 15 = .ok (.if_icmp .ne 20, 3) := by decide +kernel
theorem dX6_goesOnFrom_18 : decode cX6_goesOnFrom 18 = .ok (.aload_n 0, 1) := by decide +kernel
theorem dX6_goesOnFrom_19 : decode cX6_goesOnFrom 19 = .ok (.getfield 17, 3) := by decide +kernel
theorem dX6_goesOnFrom_22 : decode cX6_goesOnFrom 22 = .ok (.aload_n 1, 1) := by decide +kernel
theorem dX6_goesOnFrom_23 : decode cX6_goesOnFrom 23 = .ok (.getfield 17, 3) := by decide +kernel
theorem dX6_goesOnFrom_26 : decode cX6_goesOnFrom 26 = .ok (.iconst 1, 1) := by decide +kernel
theorem dX6_goesOnFrom_27 : decode cX6_goesOnFrom 27 = .ok (.iadd, 1) := by decide +kernel
theorem dX6_goesOnFrom_28 : decode cX6_goesOnFrom 28 = .ok (.if_icmp .ne 7, 3) := by decide +kernel
theorem dX6_goesOnFrom_31 : decode cX6_goesOnFrom 31 = .ok (.iconst 1, 1) := by decide +kernel
theorem dX6_goesOnFrom_32 : decode cX6_goesOnFrom 32 = .ok (.goto 4, 3) := by decide +kernel
theorem dX6_goesOnFrom_35 : decode cX6_goesOnFrom 35 = .ok (.iconst 0, 1) := by decide +kernel
theorem dX6_goesOnFrom_36 : decode cX6_goesOnFrom 36 = .ok (.ireturn, 1) := by decide +kernel
theorem dX6_goesOnFrom_37 : decode cX6_goesOnFrom 37 = .ok (.aload_n 0, 1) := by decide +kernel
theorem dX6_goesOnFrom_38 : decode cX6_goesOnFrom 38 = .ok (.getfield 13, 3) := by decide +kernel
theorem dX6_goesOnFrom_41 : decode cX6_goesOnFrom 41 = .ok (.bipush 100, 2) := by decide +kernel
theorem dX6_goesOnFrom_43 : decode cX6_goesOnFrom 43 = .ok (.if_icmp .ne 40, 3) := by decide +kernel
theorem dX6_goesOnFrom_46 : decode cX6_goesOnFrom 46 = .ok (.aload_n 1, 1) := by decide +kernel
theorem dX6_goesOnFrom_47 : decode cX6_goesOnFrom 47 = .ok (.getfield 13, 3) := by decide +kernel
theorem dX6_goesOnFrom_50 : decode cX6_goesOnFrom 50 = .ok (.bipush 100, 2) := by decide +kernel
theorem dX6_goesOnFrom_52 : decode cX6_goesOnFrom 52 = .ok (.if_icmp .ne 31, 3) := by decide +kernel
theorem dX6_goesOnFrom_55 : decode cX6_goesOnFrom 55 = .ok (.aload_n 0, 1) := by decide +kernel
theorem dX6_goesOnFrom_56 : decode cX6_goesOnFrom 56 = .ok (.getfield 17, 3) := by decide +kernel
theorem dX6_goesOnFrom_59 : decode cX6_goesOnFrom 59 = .ok (.aload_n 1, 1) := by decide +kernel
theorem dX6_goesOnFrom_60 : decode cX6_goesOnFrom 60 = .ok (.getfield 17, 3) := by decide +kernel
theorem dX6_goesOnFrom_63 : decode cX6_goesOnFrom 63 = .ok (.if_icmp .eq 16, 3) := by decide +kernel
theorem dX6_goesOnFrom_66 : decode cX6_goesOnFrom 66 = .ok (.aload_n 0, 1) := by decide +kernel
theorem dX6_goesOnFrom_67 : decode cX6_goesOnFrom 67 = .ok (.getfield 17, 3) := by decide +kernel
theorem dX6_goesOnFrom_70 : decode cX6_goesOnFrom 70 = .ok (.aload_n 1, 1) := by decide +kernel
theorem dX6_goesOnFrom_71 : decode cX6_goesOnFrom 71 = .ok (.getfield 17, 3) := by decide +kernel
theorem dX6_goesOnFrom_74 : decode cX6_goesOnFrom 74 = .ok (.iconst 1, 1) := by decide +kernel
theorem dX6_goesOnFrom_75 : decode cX6_goesOnFrom 75 = .ok (.isub, 1) := by decide +kernel
theorem dX6_goesOnFrom_76 : decode cX6_goesOnFrom 76 = .ok (.if_icmp .ne 7, 3) := by decide +kernel
theorem dX6_goesOnFrom_79 : decode cX6_goesOnFrom 79 = .ok (.iconst 1, 1) := by decide +kernel
theorem dX6_goesOnFrom_80 : decode cX6_goesOnFrom 80 = .ok (.goto 4, 3) := by decide +kernel
theorem dX6_goesOnFrom_83 : decode cX6_goesOnFrom 83 = .ok (.iconst 0, 1) := by decide +kernel
theorem dX6_goesOnFrom_84 : decode cX6_goesOnFrom 84 = .ok (.ireturn, 1) := by decide +kernel
theorem dX7_init_0 : decode cX7_init 0 = .ok (.aload_n 0, 1) := by decide +kernel
theorem dX7_init_1 : decode cX7_init 1 = .ok (.invokespecial 1, 3) := by decide +kernel
theorem dX7_init_4 : decode cX7_init 4 = .ok (.aload_n 0, 1) := by decide +kernel
theorem dX7_init_5 : decode cX7_init 5 = .ok (.new 7, 3) := by decide +kernel
theorem dX7_init_8 : decode cX7_init 8 = .ok (.dup, 1) := by decide +kernel
theorem dX7_init_9 : decode cX7_init 9 = .ok (.invokespecial 9, 3) := by decide +kernel
theorem dX7_init_12 : decode cX7_init 12 = .ok (.putfield 10, 3) := by decide +kernel
theorem dX7_init_15 : decode cX7_init 15 = .ok (.return_, 1) := by decide +kernel
theorem dX7_size_0 : decode cX7_size 0 = .ok (.aload_n 0, 1) := by decide +kernel
theorem dX7_size_1 : decode cX7_size 1 = .ok (.getfield 10, 3) := by decide +kernel
theorem dX7_size_4 : decode cX7_size 4 = .ok (.invokevirtual 16, 3) := by decide +kernel
theorem dX7_size_7 : decode cX7_size 7 = .ok (.ireturn, 1) := by decide +kernel
theorem dX7_hasCharacter_0 : decode cX7_hasCharacter 0 = .ok (.iload_n 1, 1) := by decide +kernel
theorem dX7_hasCharacter_1 : decode cX7_hasCharacter 1 = .ok (.ifCond .lt 18, 3) := by decide +kernel
theorem dX7_hasCharacter_4 : decode cX7_hasCharacter 4 = .ok (.iload_n 1, 1) := by decide +kernel
theorem dX7_hasCharacter_5 : decode cX7_hasCharacter 5 = .ok (.aload_n 0, 1) := by decide +kernel
theorem dX7_hasCharacter_6 : decode cX7_hasCharacter 6 = .ok (.getfield 10, 3) := by decide +kernel
theorem dX7_hasCharacter_9 : decode cX7_hasCharacter 9 = .ok (.invokevirtual 16, 3) := by decide +kernel
theorem dX7_hasCharacter_12 : decode cX7_hasCharacter 12 = .ok (.if_icmp .ge 7, 3) := by decide +kernel
theorem dX7_hasCharacter_15 : decode cX7_hasCharacter 15 = .ok (.iconst 1, 1) := by decide +kernel
theorem dX7_hasCharacter_16 : decode cX7_hasCharacter 16 = .ok (.goto 4, 3) := by decide +kernel
theorem dX7_hasCharacter_19 : decode cX7_hasCharacter 19 = .ok (.iconst 0, 1) := by decide +kernel
theorem dX7_hasCharacter_20 : decode cX7_hasCharacter 20 = .ok (.ireturn, 1) := by decide +kernel
theorem dX7_hasPlace_0 : decode cX7_hasPlace 0 = .ok (.iload_n 1, 1) := by decide +kernel
theorem dX7_hasPlace_1 : decode cX7_hasPlace 1 = .ok (.ifCond .lt 18, 3) := by decide +kernel
theorem dX7_hasPlace_4 : decode cX7_hasPlace 4 = .ok (.iload_n 1, 1) := by decide +kernel
theorem dX7_hasPlace_5 : decode cX7_hasPlace 5 = .ok (.aload_n 0, 1) := by decide +kernel
theorem dX7_hasPlace_6 : decode cX7_hasPlace 6 = .ok (.getfield 10, 3) := by decide +kernel
theorem dX7_hasPlace_9 : decode cX7_hasPlace 9 = .ok (.invokevirtual 16, 3) := by decide +kernel
theorem dX7_hasPlace_12 : decode cX7_hasPlace 12 = .ok (.if_icmp .gt 7, 3) := by decide +kernel
theorem dX7_hasPlace_15 : decode cX7_hasPlace 15 = .ok (.iconst 1, 1) := by decide +kernel
theorem dX7_hasPlace_16 : decode cX7_hasPlace 16 = .ok (.goto 4, 3) := by decide +kernel
theorem dX7_hasPlace_19 : decode cX7_hasPlace 19 = .ok (.iconst 0, 1) := by decide +kernel
theorem dX7_hasPlace_20 : decode cX7_hasPlace 20 = .ok (.ireturn, 1) := by decide +kernel
theorem dX7_carryOut_0 : decode cX7_carryOut 0 = .ok (.aload_n 1, 1) := by decide +kernel
theorem dX7_carryOut_1 : decode cX7_carryOut 1 = .ok (.getfield 20, 3) := by decide +kernel
theorem dX7_carryOut_4 : decode cX7_carryOut 4 = .ok (.istore_n 2, 1) := by decide +kernel
theorem dX7_carryOut_5 : decode cX7_carryOut 5 = .ok (.aload_n 1, 1) := by decide +kernel
theorem dX7_carryOut_6 : decode cX7_carryOut 6 = .ok (.getfield 26, 3) := by decide +kernel
theorem dX7_carryOut_9 : decode cX7_carryOut 9 = .ok (.bipush 105, 2) := by decide +kernel
theorem dX7_carryOut_11 : decode cX7_carryOut 11 = .ok (.if_icmp .ne 26, 3) := by decide +kernel
theorem dX7_carryOut_14 : decode cX7_carryOut 14 = .ok (.aload_n 0, 1) := by decide +kernel
theorem dX7_carryOut_15 : decode cX7_carryOut 15 = .ok (.iload_n 2, 1) := by decide +kernel
theorem dX7_carryOut_16 : decode cX7_carryOut 16 = .ok (.invokevirtual 30, 3) := by decide +kernel
theorem dX7_carryOut_19 : decode cX7_carryOut 19 = .ok (.ifCond .eq 18, 3) := by decide +kernel
theorem dX7_carryOut_22 : decode cX7_carryOut 22 = .ok (.aload_n 0, 1) := by decide +kernel
theorem dX7_carryOut_23 : decode cX7_carryOut 23 = .ok (.getfield 10, 3) := by decide +kernel
theorem dX7_carryOut_26 : decode cX7_carryOut 26 = .ok (.iload_n 2, 1) := by decide +kernel
theorem dX7_carryOut_27 : decode cX7_carryOut 27 = .ok (.aload_n 1, 1) := by decide +kernel
theorem dX7_carryOut_28 : decode cX7_carryOut 28 = .ok (.getfield 34, 3) := by decide +kernel
theorem dX7_carryOut_31 : decode cX7_carryOut 31 = .ok (.invokevirtual 38, 3) := by decide +kernel
theorem dX7_carryOut_34 : decode cX7_carryOut 34 = .ok (.goto 29, 3) := by decide +kernel
theorem dX7_carryOut_37 : decode cX7_carryOut 37 = .ok (.aload_n 1, 1) := by decide +kernel
theorem dX7_carryOut_38 : decode cX7_carryOut 38 = .ok (.getfield 26, 3) := by decide +kernel
theorem dX7_carryOut_41 : decode cX7_carryOut 41 = .ok (.bipush 100, 2) := by decide +kernel
theorem dX7_carryOut_43 : decode cX7_carryOut 43 = .ok (.if_icmp .ne 20, 3) := by decide +kernel
theorem dX7_carryOut_46 : decode cX7_carryOut 46 = .ok (.aload_n 0, 1) := by decide +kernel
theorem dX7_carryOut_47 : decode cX7_carryOut 47 = .ok (.iload_n 2, 1) := by decide +kernel
theorem dX7_carryOut_48 : decode cX7_carryOut 48 = .ok (.invokevirtual 42, 3) := by decide +kernel
theorem dX7_carryOut_51 : decode cX7_carryOut 51 = .ok (.ifCond .eq 12, 3) := by decide +kernel
theorem dX7_carryOut_54 : decode cX7_carryOut 54 = .ok (.aload_n 0, 1) := by decide +kernel
theorem dX7_carryOut_55 : decode cX7_carryOut 55 = .ok (.getfield 10, 3) := by decide +kernel
theorem dX7_carryOut_58 : decode cX7_carryOut 58 = .ok (.iload_n 2, 1) := by decide +kernel
theorem dX7_carryOut_59 : decode cX7_carryOut 59 = .ok (.invokevirtual 45, 3) := by decide +kernel
theorem dX7_carryOut_62 : decode cX7_carryOut 62 = .ok (.pop, 1) := by decide +kernel
theorem dX7_carryOut_63 : decode cX7_carryOut 63 = .ok (.return_, 1) := by decide +kernel
theorem dX7_carryOutAll_0 : decode cX7_carryOutAll 0 = .ok (.iconst 0, 1) := by decide +kernel
theorem dX7_carryOutAll_1 : decode cX7_carryOutAll 1 = .ok (.istore_n 2, 1) := by decide +kernel
theorem dX7_carryOutAll_2 : decode cX7_carryOutAll 2 = .ok (.iload_n 2, 1) := by decide +kernel
theorem dX7_carryOutAll_3 : decode cX7_carryOutAll 3 = .ok (.aload_n 1, 1) := by decide +kernel
theorem dX7_carryOutAll_4 : decode cX7_carryOutAll 4 = .ok (.invokevirtual 16, 3) := by decide +kernel
theorem dX7_carryOutAll_7 : decode cX7_carryOutAll 7 = .ok (.if_icmp .ge 21, 3) := by decide +kernel
theorem dX7_carryOutAll_10 : decode cX7_carryOutAll 10 = .ok (.aload_n 0, 1) := by decide +kernel
theorem dX7_carryOutAll_11 : decode cX7_carryOutAll 11 = .ok (.aload_n 1, 1) := by decide +kernel
theorem dX7_carryOutAll_12 : decode cX7_carryOutAll 12 = .ok (.iload_n 2, 1) := by decide +kernel
theorem dX7_carryOutAll_13 : decode cX7_carryOutAll 13 = .ok (.invokevirtual 49, 3) := by decide +kernel
theorem dX7_carryOutAll_16 : decode cX7_carryOutAll 16 = .ok (.checkcast 21, 3) := by decide +kernel
theorem dX7_carryOutAll_19 : decode cX7_carryOutAll 19 = .ok (.invokevirtual 52, 3) := by decide +kernel
theorem dX7_carryOutAll_22 : decode cX7_carryOutAll 22 = .ok (.iinc 2 1, 3) := by decide +kernel
theorem dX7_carryOutAll_25 : decode cX7_carryOutAll 25 = .ok (.goto (-23), 3) := by decide +kernel
theorem dX7_carryOutAll_28 : decode cX7_carryOutAll 28 = .ok (.return_, 1) := by decide +kernel
theorem dX7_positionOf_0 : decode cX7_positionOf 0 = .ok (.iconst 0, 1) := by decide +kernel
theorem dX7_positionOf_1 : decode cX7_positionOf 1 = .ok (.istore_n 2, 1) := by decide +kernel
theorem dX7_positionOf_2 : decode cX7_positionOf 2 = .ok (.iload_n 2, 1) := by decide +kernel
theorem dX7_positionOf_3 : decode cX7_positionOf 3 = .ok (.aload_n 0, 1) := by decide +kernel
theorem dX7_positionOf_4 : decode cX7_positionOf 4 = .ok (.getfield 10, 3) := by decide +kernel
theorem dX7_positionOf_7 : decode cX7_positionOf 7 = .ok (.invokevirtual 16, 3) := by decide +kernel
theorem dX7_positionOf_10 : decode cX7_positionOf 10 = .ok (.if_icmp .ge 23, 3) := by decide +kernel
theorem dX7_positionOf_13 : decode cX7_positionOf 13 = .ok (.aload_n 0, 1) := by decide +kernel
theorem dX7_positionOf_14 : decode cX7_positionOf 14 = .ok (.getfield 10, 3) := by decide +kernel
theorem dX7_positionOf_17 : decode cX7_positionOf 17 = .ok (.iload_n 2, 1) := by decide +kernel
theorem dX7_positionOf_18 : decode cX7_positionOf 18 = .ok (.invokevirtual 49, 3) := by decide +kernel
theorem dX7_positionOf_21 : decode cX7_positionOf 21 = .ok (.aload_n 1, 1) := by decide +kernel
theorem dX7_positionOf_22 : decode cX7_positionOf 22 = .ok (.if_acmp .ne 5, 3) := by decide +kernel
theorem dX7_positionOf_25 : decode cX7_positionOf 25 = .ok (.iload_n 2, 1) := by decide +kernel
theorem dX7_positionOf_26 : decode cX7_positionOf 26 = .ok (.ireturn, 1) := by decide +kernel
theorem dX7_positionOf_27 : decode cX7_positionOf 27 = .ok (.iinc 2 1, 3) := by decide +kernel
theorem dX7_positionOf_30 : decode cX7_positionOf 30 = .ok (.goto (-28), 3) := by decide +kernel
theorem dX7_positionOf_33 : decode cX7_positionOf 33 = .ok (.iconst (-1), 1) := by decide +kernel
theorem dX7_positionOf_34 : decode cX7_positionOf 34 = .ok (.ireturn, 1) := by decide +kernel
theorem dX7_countOf_0 : decode cX7_countOf 0 = .ok (.iconst 0, 1) := by decide +kernel
theorem dX7_countOf_1 : decode cX7_countOf 1 = .ok (.istore_n 2, 1) := by decide +kernel
theorem dX7_countOf_2 : decode cX7_countOf 2 = .ok (.iconst 0, 1) := by decide +kernel
theorem dX7_countOf_3 : decode cX7_countOf 3 = .ok (.istore_n 3, 1) := by decide +kernel
theorem dX7_countOf_4 : decode cX7_countOf 4 = .ok (.iload_n 3, 1) := by decide +kernel
theorem dX7_countOf_5 : decode cX7_countOf 5 = .ok (.aload_n 0, 1) := by decide +kernel
theorem dX7_countOf_6 : decode cX7_countOf 6 = .ok (.getfield 10, 3) := by decide +kernel
theorem dX7_countOf_9 : decode cX7_countOf 9 = .ok (.invokevirtual 16, 3) := by decide +kernel
theorem dX7_countOf_12 : decode cX7_countOf 12 = .ok (.if_icmp .ge 30, 3) := by decide +kernel
theorem dX7_countOf_15 : decode cX7_countOf 15 = .ok (.aload_n 0, 1) := by decide +kernel
theorem dX7_countOf_16 : decode cX7_countOf 16 = .ok (.getfield 10, 3) := by decide +kernel
theorem dX7_countOf_19 : decode cX7_countOf 19 = .ok (.iload_n 3, 1) := by decide +kernel
theorem dX7_countOf_20 : decode cX7_countOf 20 = .ok (.invokevirtual 49, 3) := by decide +kernel
theorem dX7_countOf_23 : decode cX7_countOf 23 = .ok (.checkcast 56, 3) := by decide +kernel
theorem dX7_countOf_26 : decode cX7_countOf 26 = .ok (.getfield 58, 3) := by decide +kernel
theorem dX7_countOf_29 : decode cX7_countOf 29 = .ok (.iload_n 1, 1) := by decide +kernel
theorem dX7_countOf_30 : decode cX7_countOf 30 = .ok (.if_icmp .ne 6, 3) := by decide +kernel
theorem dX7_countOf_33 : decode cX7_countOf 33 = .ok (.iinc 2 1, 3) := by decide +kernel
theorem dX7_countOf_36 : decode cX7_countOf 36 = .ok (.iinc 3 1, 3) := by decide +kernel
theorem dX7_countOf_39 : decode cX7_countOf 39 = .ok (.goto (-35), 3) := by decide +kernel
theorem dX7_countOf_42 : decode cX7_countOf 42 = .ok (.iload_n 2, 1) := by decide +kernel
theorem dX7_countOf_43 : decode cX7_countOf 43 = .ok (.ireturn, 1) := by decide +kernel
theorem dX7_matches_0 : decode cX7_matches 0 = .ok (.aload_n 0, 1) := by decide +kernel
theorem dX7_matches_1 : decode cX7_matches 1 = .ok (.iload_n 1, 1) := by decide +kernel
theorem dX7_matches_2 : decode cX7_matches 2 = .ok (.invokevirtual 42, 3) := by decide +kernel
theorem dX7_matches_5 : decode cX7_matches 5 = .ok (.ifCond .eq 46, 3) := by decide +kernel
theorem dX7_matches_8 : decode cX7_matches 8 = .ok (.aload_n 2, 1) := by decide +kernel
theorem dX7_matches_9 : decode cX7_matches 9 = .ok (.iload_n 3, 1) := by decide +kernel
theorem dX7_matches_10 : decode cX7_matches 10 = .ok (.invokevirtual 42, 3) := by decide +kernel
theorem dX7_matches_13 : decode cX7_matches 13 = .ok (.ifCond .eq 38, 3) := by decide +kernel
theorem dX7_matches_16 : decode cX7_matches 16 = .ok (.aload_n 0, 1) := by decide +kernel
theorem dX7_matches_17 : decode cX7_matches 17 = .ok (.getfield 10, 3) := by decide +kernel
theorem dX7_matches_20 : decode cX7_matches 20 = .ok (.iload_n 1, 1) := by decide +kernel
theorem dX7_matches_21 : decode cX7_matches 21 = .ok (.invokevirtual 49, 3) := by decide +kernel
theorem dX7_matches_24 : decode cX7_matches 24 = .ok (.checkcast 56, 3) := by decide +kernel
theorem dX7_matches_27 : decode cX7_matches 27 = .ok (.getfield 61, 3) := by decide +kernel
theorem dX7_matches_30 : decode cX7_matches 30 = .ok (.aload_n 2, 1) := by decide +kernel
theorem dX7_matches_31 : decode cX7_matches 31 = .ok (.getfield 10, 3) := by decide +kernel
theorem dX7_matches_34 : decode cX7_matches 34 = .ok (.iload_n 3, 1) := by decide +kernel
theorem dX7_matches_35 : decode cX7_matches 35 = .ok (.invokevirtual 49, 3) := by decide +kernel
theorem dX7_matches_38 : decode cX7_matches 38 = .ok (.checkcast 56, 3) := by decide +kernel
theorem dX7_matches_41 : decode cX7_matches 41 = .ok (.getfield 61, 3) := by decide +kernel
theorem dX7_matches_44 : decode cX7_matches 44 = .ok (.if_icmp .ne 7, 3) := by decide +kernel
theorem dX7_matches_47 : decode cX7_matches 47 = .ok (.iconst 1, 1) := by decide +kernel
theorem dX7_matches_48 : decode cX7_matches 48 = .ok (.goto 4, 3) := by decide +kernel
theorem dX7_matches_51 : decode cX7_matches 51 = .ok (.iconst 0, 1) := by decide +kernel
theorem dX7_matches_52 : decode cX7_matches 52 = .ok (.ireturn, 1) := by decide +kernel
theorem dX7_looksLike_0 : decode cX7_looksLike 0 = .ok (.aload_n 0, 1) := by decide +kernel
theorem dX7_looksLike_1 : decode cX7_looksLike 1 = .ok (.getfield 10, 3) := by decide +kernel
theorem dX7_looksLike_4 : decode cX7_looksLike 4 = .ok (.invokevirtual 16, 3) := by decide +kernel
theorem dX7_looksLike_7 : decode cX7_looksLike 7 = .ok (.aload_n 1, 1) := by decide +kernel
theorem dX7_looksLike_8 : decode cX7_looksLike 8 = .ok (.getfield 10, 3) := by decide +kernel
theorem dX7_looksLike_11 : decode cX7_looksLike 11 = .ok (.invokevirtual 16, 3) := by decide +kernel
theorem dX7_looksLike_14 : decode cX7_looksLike 14 = .ok (.if_icmp .eq 5, 3) := by decide +kernel
theorem dX7_looksLike_17 : decode cX7_looksLike 17 = .ok (.iconst 0, 1) := by decide +kernel
theorem dX7_looksLike_18 : decode cX7_looksLike 18 = .ok (.ireturn, 1) := by decide +kernel
theorem dX7_looksLike_19 : decode cX7_looksLike 19 = .ok (.iconst 0, 1) := by decide +kernel
theorem dX7_looksLike_20 : decode cX7_looksLike 20 = .ok (.istore_n 2, 1) := by decide +kernel
theorem dX7_looksLike_21 : decode cX7_looksLike 21 = .ok (.iload_n 2, 1) := by decide +kernel
theorem dX7_looksLike_22 : decode cX7_looksLike 22 = .ok (.aload_n 0, 1) := by decide +kernel
theorem dX7_looksLike_23 : decode cX7_looksLike 23 = .ok (.getfield 10, 3) := by decide +kernel
theorem dX7_looksLike_26 : decode cX7_looksLike 26 = .ok (.invokevirtual 16, 3) := by decide +kernel
theorem dX7_looksLike_29 : decode cX7_looksLike 29 = .ok (.if_icmp .ge 21, 3) := by decide +kernel
theorem dX7_looksLike_32 : decode cX7_looksLike 32 = .ok (.aload_n 0, 1) := by decide +kernel
theorem dX7_looksLike_33 : decode cX7_looksLike 33 = .ok (.iload_n 2, 1) := by decide +kernel
theorem dX7_looksLike_34 : decode cX7_looksLike 34 = .ok (.aload_n 1, 1) := by decide +kernel
theorem dX7_looksLike_35 : decode cX7_looksLike 35 = .ok (.iload_n 2, 1) := by decide +kernel
theorem dX7_looksLike_36 : decode cX7_looksLike 36 = .ok (.invokevirtual 64, 3) := by decide +kernel
theorem dX7_looksLike_39 : decode cX7_looksLike 39 = .ok (.ifCond .ne 5, 3) := by decide +kernel
theorem dX7_looksLike_42 : decode cX7_looksLike 42 = .ok (.iconst 0, 1) := by decide +kernel
theorem dX7_looksLike_43 : decode cX7_looksLike 43 = .ok (.ireturn, 1) := by decide +kernel
theorem dX7_looksLike_44 : decode cX7_looksLike 44 = .ok (.iinc 2 1, 3) := by decide +kernel
theorem dX7_looksLike_47 : decode cX7_looksLike 47 = .ok (.goto (-26), 3) := by decide +kernel
theorem dX7_looksLike_50 : decode cX7_looksLike 50 = .ok (.iconst 1, 1) := by decide +kernel
theorem dX7_looksLike_51 : decode cX7_looksLike 51 = .ok (.ireturn, 1) := by decide +kernel
theorem dX7_number_0 : decode cX7_number 0 = .ok (.ldc2_w 68, 3) := by decide +kernel
theorem dX7_number_3 : decode cX7_number 3 = .ok (.lstore_n 1, 1) := by decide +kernel
theorem dX7_number_4 : decode cX7_number 4 = .ok (.iconst 0, 1) := by decide +kernel
theorem dX7_number_5 : decode cX7_number 5 = .ok (.istore_n 3, 1) := by decide +kernel
theorem dX7_number_6 : decode cX7_number 6 = .ok (.iload_n 3, 1) := by decide +kernel
theorem dX7_number_7 : decode cX7_number 7 = .ok (.aload_n 0, 1) := by decide +kernel
theorem dX7_number_8 : decode cX7_number 8 = .ok (.getfield 10, 3) := by decide +kernel
theorem dX7_number_11 : decode cX7_number 11 = .ok (.invokevirtual 16, 3) := by decide +kernel
theorem dX7_number_14 : decode cX7_number 14 = .ok (.if_icmp .ge 31, 3) := by decide +kernel
theorem dX7_number_17 : decode cX7_number 17 = .ok (.lload_n 1, 1) := by decide +kernel
theorem dX7_number_18 : decode cX7_number 18 = .ok (.ldc2_w 70, 3) := by decide +kernel
theorem dX7_number_21 : decode cX7_number 21 = .ok (.lmul, 1) := by decide +kernel
theorem dX7_number_22 : decode cX7_number 22 = .ok (.aload_n 0, 1) := by decide +kernel
theorem dX7_number_23 : decode cX7_number 23 = .ok (.getfield 10, 3) := by decide +kernel
theorem dX7_number_26 : decode cX7_number 26 = .ok (.iload_n 3, 1) := by decide +kernel
theorem dX7_number_27 : decode cX7_number 27 = .ok (.invokevirtual 49, 3) := by decide +kernel
theorem dX7_number_30 : decode cX7_number 30 = .ok (.checkcast 56, 3) := by decide +kernel
theorem dX7_number_33 : decode cX7_number 33 = .ok (.getfield 61, 3) := by decide +kernel
theorem dX7_number_36 : decode cX7_number 36 = .ok (.i2l, 1) := by decide +kernel
theorem dX7_number_37 : decode cX7_number 37 = .ok (.ladd, 1) := by decide +kernel
theorem dX7_number_38 : decode cX7_number 38 = .ok (.lstore_n 1, 1) := by decide +kernel
theorem dX7_number_39 : decode cX7_number 39 = .ok (.iinc 3 1, 3) := by decide +kernel
theorem dX7_number_42 : decode cX7_number 42 = .ok (.goto (-36), 3) := by decide +kernel
theorem dX7_number_45 : decode cX7_number 45 = .ok (.lload_n 1, 1) := by decide +kernel
theorem dX7_number_46 : decode cX7_number 46 = .ok (.lreturn, 1) := by decide +kernel
theorem dX8_init_0 : decode cX8_init 0 = .ok (.aload_n 0, 1) := by decide +kernel
theorem dX8_init_1 : decode cX8_init 1 = .ok (.invokespecial 1, 3) := by decide +kernel
theorem dX8_init_4 : decode cX8_init 4 = .ok (.aload_n 0, 1) := by decide +kernel
theorem dX8_init_5 : decode cX8_init 5 = .ok (.new 7, 3) := by decide +kernel
theorem dX8_init_8 : decode cX8_init 8 = .ok (.dup, 1) := by decide +kernel
theorem dX8_init_9 : decode cX8_init 9 = .ok (.iconst 0, 1) := by decide +kernel
theorem dX8_init_10 : decode cX8_init 10 = .ok (.invokespecial 9, 3) := by decide +kernel
theorem dX8_init_13 : decode cX8_init 13 = .ok (.putfield 12, 3) := by decide +kernel
theorem dX8_init_16 : decode cX8_init 16 = .ok (.aload_n 0, 1) := by decide +kernel
theorem dX8_init_17 : decode cX8_init 17 = .ok (.new 7, 3) := by decide +kernel
theorem dX8_init_20 : decode cX8_init 20 = .ok (.dup, 1) := by decide +kernel
theorem dX8_init_21 : decode cX8_init 21 = .ok (.iconst 1, 1) := by decide +kernel
theorem dX8_init_22 : decode cX8_init 22 = .ok (.invokespecial 9, 3) := by decide +kernel
theorem dX8_init_25 : decode cX8_init 25 = .ok (.putfield 18, 3) := by decide +kernel
theorem dX8_init_28 : decode cX8_init 28 = .ok (.aload_n 0, 1) := by decide +kernel
theorem dX8_init_29 : decode cX8_init 29 = .ok (.new 21, 3) := by decide +kernel
theorem dX8_init_32 : decode cX8_init 32 = .ok (.dup, 1) := by decide +kernel
theorem dX8_init_33 : decode cX8_init 33 = .ok (.invokespecial 23, 3) := by decide +kernel
theorem dX8_init_36 : decode cX8_init 36 = .ok (.putfield 24, 3) := by decide +kernel
theorem dX8_init_39 : decode cX8_init 39 = .ok (.aload_n 0, 1) := by decide +kernel
theorem dX8_init_40 : decode cX8_init 40 = .ok (.new 28, 3) := by decide +kernel
theorem dX8_init_43 : decode cX8_init 43 = .ok (.dup, 1) := by decide +kernel
theorem dX8_init_44 : decode cX8_init 44 = .ok (.invokespecial 30, 3) := by decide +kernel
theorem dX8_init_47 : decode cX8_init 47 = .ok (.putfield 31, 3) := by decide +kernel
theorem dX8_init_50 : decode cX8_init 50 = .ok (.aload_n 0, 1) := by decide +kernel
theorem dX8_init_51 : decode cX8_init 51 = .ok (.new 35, 3) := by decide +kernel
theorem dX8_init_54 : decode cX8_init 54 = .ok (.dup, 1) := by decide +kernel
theorem dX8_init_55 : decode cX8_init 55 = .ok (.invokespecial 37, 3) := by decide +kernel
theorem dX8_init_58 : decode cX8_init 58 = .ok (.putfield 38, 3) := by decide +kernel
theorem dX8_init_61 : decode cX8_init 61 = .ok (.aload_n 0, 1) := by decide +kernel
theorem dX8_init_62 : decode cX8_init 62 = .ok (.iconst 0, 1) := by decide +kernel
theorem dX8_init_63 : decode cX8_init 63 = .ok (.putfield 42, 3) := by decide +kernel
theorem dX8_init_66 : decode cX8_init 66 = .ok (.return_, 1) := by decide +kernel
theorem dX8_insert_0 : decode cX8_insert 0 = .ok (.aload_n 0, 1) := by decide +kernel
theorem dX8_insert_1 : decode cX8_insert 1 = .ok (.iload_n 1, 1) := by decide +kernel
theorem dX8_insert_2 : decode cX8_insert 2 = .ok (.invokevirtual 46, 3) := by decide +kernel
theorem dX8_insert_5 : decode cX8_insert 5 = .ok (.astore 4, 2) := by decide +kernel
theorem dX8_insert_7 : decode cX8_insert 7 = .ok (.aload 4, 2) := by decide +kernel
theorem dX8_insert_9 : decode cX8_insert 9 = .ok (.getfield 50, 3) := by decide +kernel
theorem dX8_insert_12 : decode cX8_insert 12 = .ok (.iload_n 2, 1) := by decide +kernel
theorem dX8_insert_13 : decode cX8_insert 13 = .ok (.invokevirtual 53, 3) := by decide +kernel
theorem dX8_insert_16 : decode cX8_insert 16 = .ok (.ifCond .ne 13, 3) := by decide +kernel
theorem dX8_insert_19 : decode cX8_insert 19 = .ok (.new 57, 3) := by decide +kernel
theorem dX8_insert_22 : decode cX8_insert 22 = .ok (.dup, 1) := by decide +kernel
theorem dX8_insert_23 : decode cX8_insert 23 = .ok (.ldc 59, 2) := by decide +kernel
theorem dX8_insert_25 : decode cX8_insert 25 = .ok (.invokespecial 61, 3) := by decide +kernel
theorem dX8_insert_28 : decode cX8_insert 28 = .ok (.athrow, 1) := by decide +kernel
theorem dX8_insert_29 : decode cX8_insert 29 = .ok (.iload_n 3, 1) := by decide +kernel
theorem dX8_insert_30 : decode cX8_insert 30 = .ok (.invokestatic 64, 3) := by decide +kernel
theorem dX8_insert_33 : decode cX8_insert 33 = .ok (.aload_n 0, 1) := by decide +kernel
theorem dX8_insert_34 : decode cX8_insert 34 = .ok (.aload 4, 2) := by decide +kernel
theorem dX8_insert_36 : decode cX8_insert 36 = .ok (.invokevirtual 68, 3) := by decide +kernel
theorem dX8_insert_39 : decode cX8_insert 39 = .ok (.aload_n 0, 1) := by decide +kernel
theorem dX8_insert_40 : decode cX8_insert 40 = .ok (.aload 4, 2) := by decide +kernel
theorem dX8_insert_42 : decode cX8_insert 42 = .ok (.iload_n 2, 1) := by decide +kernel
theorem dX8_insert_43 : decode cX8_insert 43 = .ok (.iload_n 3, 1) := by decide +kernel
theorem dX8_insert_44 : decode cX8_insert 44 = .ok (.invokevirtual 72, 3) := by decide +kernel
theorem dX8_insert_47 : decode cX8_insert 47 = .ok (.aload 4, 2) := by decide +kernel
theorem dX8_insert_49 : decode cX8_insert 49 = .ok (.getfield 50, 3) := by decide +kernel
theorem dX8_insert_52 : decode cX8_insert 52 = .ok (.invokevirtual 76, 3) := by decide +kernel
theorem dX8_insert_55 : decode cX8_insert 55 = .ok (.ireturn, 1) := by decide +kernel
theorem dX8_delete_0 : decode cX8_delete 0 = .ok (.aload_n 0, 1) := by decide +kernel
theorem dX8_delete_1 : decode cX8_delete 1 = .ok (.iload_n 1, 1) := by decide +kernel
theorem dX8_delete_2 : decode cX8_delete 2 = .ok (.invokevirtual 46, 3) := by decide +kernel
theorem dX8_delete_5 : decode cX8_delete 5 = .ok (.astore_n 3, 1) := by decide +kernel
theorem dX8_delete_6 : decode cX8_delete 6 = .ok (.aload_n 3, 1) := by decide +kernel
theorem dX8_delete_7 : decode cX8_delete 7 = .ok (.getfield 50, 3) := by decide +kernel
theorem dX8_delete_10 : decode cX8_delete 10 = .ok (.iload_n 2, 1) := by decide +kernel
theorem dX8_delete_11 : decode cX8_delete 11 = .ok (.invokevirtual 80, 3) := by decide +kernel
theorem dX8_delete_14 : decode cX8_delete 14 = .ok (.ifCond .ne 13, 3) := by decide +kernel
theorem dX8_delete_17 : decode cX8_delete 17 = .ok (.new 57, 3) := by decide +kernel
theorem dX8_delete_20 : decode cX8_delete 20 = .ok (.dup, 1) := by decide +kernel
theorem dX8_delete_21 : decode cX8_delete 21 = .ok (.ldc 59, 2) := by decide +kernel
theorem dX8_delete_23 : decode cX8_delete 23 = .ok (.invokespecial 61, 3) := by decide +kernel
theorem dX8_delete_26 : decode cX8_delete 26 = .ok (.athrow, 1) := by decide +kernel
theorem dX8_delete_27 : decode cX8_delete 27 = .ok (.aload_n 0, 1) := by decide +kernel
theorem dX8_delete_28 : decode cX8_delete 28 = .ok (.invokevirtual 83, 3) := by decide +kernel
theorem dX8_delete_31 : decode cX8_delete 31 = .ok (.aload_n 0, 1) := by decide +kernel
theorem dX8_delete_32 : decode cX8_delete 32 = .ok (.aload_n 3, 1) := by decide +kernel
theorem dX8_delete_33 : decode cX8_delete 33 = .ok (.iload_n 2, 1) := by decide +kernel
theorem dX8_delete_34 : decode cX8_delete 34 = .ok (.invokevirtual 86, 3) := by decide +kernel
theorem dX8_delete_37 : decode cX8_delete 37 = .ok (.ireturn, 1) := by decide +kernel
theorem dX8_type_0 : decode cX8_type 0 = .ok (.aload_n 0, 1) := by decide +kernel
theorem dX8_type_1 : decode cX8_type 1 = .ok (.iload_n 1, 1) := by decide +kernel
theorem dX8_type_2 : decode cX8_type 2 = .ok (.invokevirtual 46, 3) := by decide +kernel
theorem dX8_type_5 : decode cX8_type 5 = .ok (.astore_n 3, 1) := by decide +kernel
theorem dX8_type_6 : decode cX8_type 6 = .ok (.iload_n 2, 1) := by decide +kernel
theorem dX8_type_7 : decode cX8_type 7 = .ok (.invokestatic 64, 3) := by decide +kernel
theorem dX8_type_10 : decode cX8_type 10 = .ok (.aload_n 0, 1) := by decide +kernel
theorem dX8_type_11 : decode cX8_type 11 = .ok (.aload_n 3, 1) := by decide +kernel
theorem dX8_type_12 : decode cX8_type 12 = .ok (.invokevirtual 68, 3) := by decide +kernel
theorem dX8_type_15 : decode cX8_type 15 = .ok (.aload_n 0, 1) := by decide +kernel
theorem dX8_type_16 : decode cX8_type 16 = .ok (.aload_n 3, 1) := by decide +kernel
theorem dX8_type_17 : decode cX8_type 17 = .ok (.aload_n 3, 1) := by decide +kernel
theorem dX8_type_18 : decode cX8_type 18 = .ok (.getfield 90, 3) := by decide +kernel
theorem dX8_type_21 : decode cX8_type 21 = .ok (.iload_n 2, 1) := by decide +kernel
theorem dX8_type_22 : decode cX8_type 22 = .ok (.invokevirtual 72, 3) := by decide +kernel
theorem dX8_type_25 : decode cX8_type 25 = .ok (.aload_n 3, 1) := by decide +kernel
theorem dX8_type_26 : decode cX8_type 26 = .ok (.getfield 90, 3) := by decide +kernel
theorem dX8_type_29 : decode cX8_type 29 = .ok (.ireturn, 1) := by decide +kernel
theorem dX8_erase_0 : decode cX8_erase 0 = .ok (.aload_n 0, 1) := by decide +kernel
theorem dX8_erase_1 : decode cX8_erase 1 = .ok (.iload_n 1, 1) := by decide +kernel
theorem dX8_erase_2 : decode cX8_erase 2 = .ok (.invokevirtual 46, 3) := by decide +kernel
theorem dX8_erase_5 : decode cX8_erase 5 = .ok (.astore_n 2, 1) := by decide +kernel
theorem dX8_erase_6 : decode cX8_erase 6 = .ok (.aload_n 2, 1) := by decide +kernel
theorem dX8_erase_7 : decode cX8_erase 7 = .ok (.getfield 90, 3) := by decide +kernel
theorem dX8_erase_10 : decode cX8_erase 10 = .ok (.iconst 1, 1) := by decide +kernel
theorem dX8_erase_11 : decode cX8_erase 11 = .ok (.isub, 1) := by decide +kernel
theorem dX8_erase_12 : decode cX8_erase 12 = .ok (.istore_n 3, 1) := by decide +kernel
theorem dX8_erase_13 : decode cX8_erase 13 = .ok (.aload_n 2, 1) := by decide +kernel
theorem dX8_erase_14 : decode cX8_erase 14 = .ok (.getfield 50, 3) := by decide +kernel
theorem dX8_erase_17 : decode cX8_erase 17 = .ok (.iload_n 3, 1) := by decide +kernel
theorem dX8_erase_18 : decode cX8_erase 18 = .ok (.invokevirtual 80, 3) := by decide +kernel
theorem dX8_erase_21 : decode cX8_erase 21 = .ok (.ifCond .ne 13, 3) := by decide +kernel
theorem dX8_erase_24 : decode cX8_erase 24 = .ok (.new 93, 3) := by decide +kernel
theorem dX8_erase_27 : decode cX8_erase 27 = .ok (.dup, 1) := by decide +kernel
theorem dX8_erase_28 : decode cX8_erase 28 = .ok (.ldc 95, 2) := by decide +kernel
theorem dX8_erase_30 : decode cX8_erase 30 = .ok (.invokespecial 97, 3) := by decide +kernel
theorem dX8_erase_33 : decode cX8_erase 33 = .ok (.athrow, 1) := by decide +kernel
theorem dX8_erase_34 : decode cX8_erase 34 = .ok (.aload_n 0, 1) := by decide +kernel
theorem dX8_erase_35 : decode cX8_erase 35 = .ok (.invokevirtual 83, 3) := by decide +kernel
theorem dX8_erase_38 : decode cX8_erase 38 = .ok (.aload_n 0, 1) := by decide +kernel
theorem dX8_erase_39 : decode cX8_erase 39 = .ok (.aload_n 2, 1) := by decide +kernel
theorem dX8_erase_40 : decode cX8_erase 40 = .ok (.iload_n 3, 1) := by decide +kernel
theorem dX8_erase_41 : decode cX8_erase 41 = .ok (.invokevirtual 86, 3) := by decide +kernel
theorem dX8_erase_44 : decode cX8_erase 44 = .ok (.ireturn, 1) := by decide +kernel
theorem dX8_moveCursor_0 : decode cX8_moveCursor 0 = .ok (.aload_n 0, 1) := by decide +kernel
theorem dX8_moveCursor_1 : decode cX8_moveCursor 1 = .ok (.iload_n 1, 1) := by decide +kernel
theorem dX8_moveCursor_2 : decode cX8_moveCursor 2 = .ok (.invokevirtual 46, 3) := by decide +kernel
theorem dX8_moveCursor_5 : decode cX8_moveCursor 5 = .ok (.astore_n 3, 1) := by decide +kernel
theorem dX8_moveCursor_6 : decode cX8_moveCursor 6 = .ok (.aload_n 3, 1) := by decide +kernel
theorem dX8_moveCursor_7 : decode cX8_moveCursor 7 = .ok (.getfield 50, 3) := by decide +kernel
theorem dX8_moveCursor_10 : decode cX8_moveCursor 10 = .ok (.iload_n 2, 1) := by decide +kernel
theorem dX8_moveCursor_11 : decode cX8_moveCursor 11 = .ok (.invokevirtual 53, 3) := by decide +kernel
theorem dX8_moveCursor_14 : decode cX8_moveCursor 14 = .ok (.ifCond .ne 13, 3) := by decide +kernel
theorem dX8_moveCursor_17 : decode cX8_moveCursor 17 = .ok (.new 57, 3) := by decide +kernel
theorem dX8_moveCursor_20 : decode cX8_moveCursor 20 = .ok (.dup, 1) := by decide +kernel
theorem dX8_moveCursor_21 : decode cX8_moveCursor 21 = .ok (.ldc 59, 2) := by decide +kernel
theorem dX8_moveCursor_23 : decode cX8_moveCursor 23 = .ok (.invokespecial 61, 3) := by decide +kernel
theorem dX8_moveCursor_26 : decode cX8_moveCursor 26 = .ok (.athrow, 1) := by decide +kernel
theorem dX8_moveCursor_27 : decode cX8_moveCursor 27 = .ok (.aload_n 3, 1) := by decide +kernel
theorem dX8_moveCursor_28 : decode cX8_moveCursor 28 = .ok (.getfield 90, 3) := by decide +kernel
theorem dX8_moveCursor_31 : decode cX8_moveCursor 31 = .ok (.istore 4, 2) := by decide +kernel
theorem dX8_moveCursor_33 : decode cX8_moveCursor 33 = .ok (.aload_n 3, 1) := by decide +kernel
theorem dX8_moveCursor_34 : decode cX8_moveCursor 34 = .ok (.iload_n 2, 1) := by decide +kernel
theorem dX8_moveCursor_35 : decode cX8_moveCursor 35 = .ok (.putfield 90, 3) := by decide +kernel
theorem dX8_moveCursor_38 : decode cX8_moveCursor 38 = .ok (.iload 4, 2) := by decide +kernel
theorem dX8_moveCursor_40 : decode cX8_moveCursor 40 = .ok (.ireturn, 1) := by decide +kernel
theorem dX8_undo_0 : decode cX8_undo 0 = .ok (.aload_n 0, 1) := by decide +kernel
theorem dX8_undo_1 : decode cX8_undo 1 = .ok (.iload_n 1, 1) := by decide +kernel
theorem dX8_undo_2 : decode cX8_undo 2 = .ok (.invokevirtual 46, 3) := by decide +kernel
theorem dX8_undo_5 : decode cX8_undo 5 = .ok (.astore_n 2, 1) := by decide +kernel
theorem dX8_undo_6 : decode cX8_undo 6 = .ok (.aload_n 2, 1) := by decide +kernel
theorem dX8_undo_7 : decode cX8_undo 7 = .ok (.getfield 98, 3) := by decide +kernel
theorem dX8_undo_10 : decode cX8_undo 10 = .ok (.invokevirtual 102, 3) := by decide +kernel
theorem dX8_undo_13 : decode cX8_undo 13 = .ok (.iconst 1, 1) := by decide +kernel
theorem dX8_undo_14 : decode cX8_undo 14 = .ok (.isub, 1) := by decide +kernel
theorem dX8_undo_15 : decode cX8_undo 15 = .ok (.istore_n 3, 1) := by decide +kernel
theorem dX8_undo_16 : decode cX8_undo 16 = .ok (.iload_n 3, 1) := by decide +kernel
theorem dX8_undo_17 : decode cX8_undo 17 = .ok (.ifCond .ge 13, 3) := by decide +kernel
theorem dX8_undo_20 : decode cX8_undo 20 = .ok (.new 93, 3) := by decide +kernel
theorem dX8_undo_23 : decode cX8_undo 23 = .ok (.dup, 1) := by decide +kernel
theorem dX8_undo_24 : decode cX8_undo 24 = .ok (.ldc 105, 2) := by decide +kernel
theorem dX8_undo_26 : decode cX8_undo 26 = .ok (.invokespecial 97, 3) := by decide +kernel
theorem dX8_undo_29 : decode cX8_undo 29 = .ok (.athrow, 1) := by decide +kernel
theorem dX8_undo_30 : decode cX8_undo 30 = .ok (.aload_n 2, 1) := by decide +kernel
theorem dX8_undo_31 : decode cX8_undo 31 = .ok (.getfield 98, 3) := by decide +kernel
theorem dX8_undo_34 : decode cX8_undo 34 = .ok (.iload_n 3, 1) := by decide +kernel
theorem dX8_undo_35 : decode cX8_undo 35 = .ok (.invokevirtual 107, 3) := by decide +kernel
theorem dX8_undo_38 : decode cX8_undo 38 = .ok (.checkcast 111, 3) := by decide +kernel
theorem dX8_undo_41 : decode cX8_undo 41 = .ok (.astore 4, 2) := by decide +kernel
theorem dX8_undo_43 : decode cX8_undo 43 = .ok (.aload 4, 2) := by decide +kernel
theorem dX8_undo_45 : decode cX8_undo 45 = .ok (.getfield 113, 3) := by decide +kernel
theorem dX8_undo_48 : decode cX8_undo 48 = .ok (.ifCond .eq 17, 3) := by decide +kernel
theorem dX8_undo_51 : decode cX8_undo 51 = .ok (.aload_n 0, 1) := by decide +kernel
theorem dX8_undo_52 : decode cX8_undo 52 = .ok (.aload_n 2, 1) := by decide +kernel
theorem dX8_undo_53 : decode cX8_undo 53 = .ok (.iload_n 3, 1) := by decide +kernel
theorem dX8_undo_54 : decode cX8_undo 54 = .ok (.aload 4, 2) := by decide +kernel
theorem dX8_undo_56 : decode cX8_undo 56 = .ok (.getfield 117, 3) := by decide +kernel
theorem dX8_undo_59 : decode cX8_undo 59 = .ok (.invokevirtual 121, 3) := by decide +kernel
theorem dX8_undo_62 : decode cX8_undo 62 = .ok (.goto 11, 3) := by decide +kernel
theorem dX8_undo_65 : decode cX8_undo 65 = .ok (.aload_n 0, 1) := by decide +kernel
theorem dX8_undo_66 : decode cX8_undo 66 = .ok (.aload_n 2, 1) := by decide +kernel
theorem dX8_undo_67 : decode cX8_undo 67 = .ok (.iload_n 3, 1) := by decide +kernel
theorem dX8_undo_68 : decode cX8_undo 68 = .ok (.aload 4, 2) := by decide +kernel
theorem dX8_undo_70 : decode cX8_undo 70 = .ok (.invokevirtual 125, 3) := by decide +kernel
theorem dX8_undo_73 : decode cX8_undo 73 = .ok (.ireturn, 1) := by decide +kernel
theorem dX8_deliverUp_0 : decode cX8_deliverUp 0 = .ok (.aload_n 0, 1) := by decide +kernel
theorem dX8_deliverUp_1 : decode cX8_deliverUp 1 = .ok (.iload_n 1, 1) := by decide +kernel
theorem dX8_deliverUp_2 : decode cX8_deliverUp 2 = .ok (.invokevirtual 46, 3) := by decide +kernel
theorem dX8_deliverUp_5 : decode cX8_deliverUp 5 = .ok (.astore_n 2, 1) := by decide +kernel
theorem dX8_deliverUp_6 : decode cX8_deliverUp 6 = .ok (.aload_n 2, 1) := by decide +kernel
theorem dX8_deliverUp_7 : decode cX8_deliverUp 7 = .ok (.getfield 129, 3) := by decide +kernel
theorem dX8_deliverUp_10 : decode cX8_deliverUp 10 = .ok (.invokevirtual 132, 3) := by decide +kernel
theorem dX8_deliverUp_13 : decode cX8_deliverUp 13 = .ok (.ifCond .eq 13, 3) := by decide +kernel
theorem dX8_deliverUp_16 : decode cX8_deliverUp 16 = .ok (.new 93, 3) := by decide +kernel
theorem dX8_deliverUp_19 : decode cX8_deliverUp 19 = .ok (.dup, 1) := by decide +kernel
theorem dX8_deliverUp_20 : decode cX8_deliverUp 20 = .ok (.ldc 136, 2) := by decide +kernel
theorem dX8_deliverUp_22 : decode cX8_deliverUp 22 = .ok (.invokespecial 97, 3) := by decide +kernel
theorem dX8_deliverUp_25 : decode cX8_deliverUp 25 = .ok (.athrow, 1) := by decide +kernel
theorem dX8_deliverUp_26 : decode cX8_deliverUp 26 = .ok (.aload_n 2, 1) := by decide +kernel
theorem dX8_deliverUp_27 : decode cX8_deliverUp 27 = .ok (.getfield 129, 3) := by decide +kernel
theorem dX8_deliverUp_30 : decode cX8_deliverUp 30 = .ok (.iconst 0, 1) := by decide +kernel
theorem dX8_deliverUp_31 : decode cX8_deliverUp 31 = .ok (.invokevirtual 138, 3) := by decide +kernel
theorem dX8_deliverUp_34 : decode cX8_deliverUp 34 = .ok (.checkcast 141, 3) := by decide +kernel
theorem dX8_deliverUp_37 : decode cX8_deliverUp 37 = .ok (.astore_n 3, 1) := by decide +kernel
theorem dX8_deliverUp_38 : decode cX8_deliverUp 38 = .ok (.aload_n 0, 1) := by decide +kernel
theorem dX8_deliverUp_39 : decode cX8_deliverUp 39 = .ok (.getfield 24, 3) := by decide +kernel
theorem dX8_deliverUp_42 : decode cX8_deliverUp 42 = .ok (.aload_n 3, 1) := by decide +kernel
theorem dX8_deliverUp_43 : decode cX8_deliverUp 43 = .ok (.invokevirtual 143, 3) := by decide +kernel
theorem dX8_deliverUp_46 : decode cX8_deliverUp 46 = .ok (.aload_n 0, 1) := by decide +kernel
theorem dX8_deliverUp_47 : decode cX8_deliverUp 47 = .ok (.getfield 12, 3) := by decide +kernel
theorem dX8_deliverUp_50 : decode cX8_deliverUp 50 = .ok (.getfield 147, 3) := by decide +kernel
theorem dX8_deliverUp_53 : decode cX8_deliverUp 53 = .ok (.aload_n 3, 1) := by decide +kernel
theorem dX8_deliverUp_54 : decode cX8_deliverUp 54 = .ok (.invokevirtual 150, 3) := by decide +kernel
theorem dX8_deliverUp_57 : decode cX8_deliverUp 57 = .ok (.pop, 1) := by decide +kernel
theorem dX8_deliverUp_58 : decode cX8_deliverUp 58 = .ok (.aload_n 0, 1) := by decide +kernel
theorem dX8_deliverUp_59 : decode cX8_deliverUp 59 = .ok (.getfield 18, 3) := by decide +kernel
theorem dX8_deliverUp_62 : decode cX8_deliverUp 62 = .ok (.getfield 147, 3) := by decide +kernel
theorem dX8_deliverUp_65 : decode cX8_deliverUp 65 = .ok (.aload_n 3, 1) := by decide +kernel
theorem dX8_deliverUp_66 : decode cX8_deliverUp 66 = .ok (.invokevirtual 150, 3) := by decide +kernel
theorem dX8_deliverUp_69 : decode cX8_deliverUp 69 = .ok (.pop, 1) := by decide +kernel
theorem dX8_deliverUp_70 : decode cX8_deliverUp 70 = .ok (.aload_n 3, 1) := by decide +kernel
theorem dX8_deliverUp_71 : decode cX8_deliverUp 71 = .ok (.getfield 154, 3) := by decide +kernel
theorem dX8_deliverUp_74 : decode cX8_deliverUp 74 = .ok (.invokevirtual 102, 3) := by decide +kernel
theorem dX8_deliverUp_77 : decode cX8_deliverUp 77 = .ok (.ireturn, 1) := by decide +kernel
theorem dX8_deliverDown_0 : decode cX8_deliverDown 0 = .ok (.aload_n 0, 1) := by decide +kernel
theorem dX8_deliverDown_1 : decode cX8_deliverDown 1 = .ok (.iload_n 1, 1) := by decide +kernel
theorem dX8_deliverDown_2 : decode cX8_deliverDown 2 = .ok (.invokevirtual 46, 3) := by decide +kernel
theorem dX8_deliverDown_5 : decode cX8_deliverDown 5 = .ok (.astore_n 2, 1) := by decide +kernel
theorem dX8_deliverDown_6 : decode cX8_deliverDown 6 = .ok (.aload_n 2, 1) := by decide +kernel
theorem dX8_deliverDown_7 : decode cX8_deliverDown 7 = .ok (.getfield 147, 3) := by decide +kernel
theorem dX8_deliverDown_10 : decode cX8_deliverDown 10 = .ok (.invokevirtual 132, 3) := by decide +kernel
theorem dX8_deliverDown_13 : decode cX8_deliverDown 13 = .ok (.ifCond .eq 13, 3) := by decide +kernel
theorem dX8_deliverDown_16 : decode cX8_deliverDown 16 = .ok (.new 93, 3) := by decide +kernel
theorem dX8_deliverDown_19 : decode cX8_deliverDown 19 = .ok (.dup, 1) := by decide +kernel
theorem dX8_deliverDown_20 : decode cX8_deliverDown 20 = .ok (.ldc 157, 2) := by decide +kernel
theorem dX8_deliverDown_22 : decode cX8_deliverDown 22 = .ok (.invokespecial 97, 3) := by decide +kernel
theorem dX8_deliverDown_25 : decode cX8_deliverDown 25 = .ok (.athrow, 1) := by decide +kernel
theorem dX8_deliverDown_26 : decode cX8_deliverDown 26 = .ok (.aload_n 2, 1) := by decide +kernel
theorem dX8_deliverDown_27 : decode cX8_deliverDown 27 = .ok (.getfield 147, 3) := by decide +kernel
theorem dX8_deliverDown_30 : decode cX8_deliverDown 30 = .ok (.iconst 0, 1) := by decide +kernel
theorem dX8_deliverDown_31 : decode cX8_deliverDown 31 = .ok (.invokevirtual 138, 3) := by decide +kernel
theorem dX8_deliverDown_34 : decode cX8_deliverDown 34 = .ok (.checkcast 141, 3) := by decide +kernel
theorem dX8_deliverDown_37 : decode cX8_deliverDown 37 = .ok (.astore_n 3, 1) := by decide +kernel
theorem dX8_deliverDown_38 : decode cX8_deliverDown 38 = .ok (.aload_n 2, 1) := by decide +kernel
theorem dX8_deliverDown_39 : decode cX8_deliverDown 39 = .ok (.aload_n 3, 1) := by decide +kernel
theorem dX8_deliverDown_40 : decode cX8_deliverDown 40 = .ok (.invokevirtual 159, 3) := by decide +kernel
theorem dX8_deliverDown_43 : decode cX8_deliverDown 43 = .ok (.aload_n 3, 1) := by decide +kernel
theorem dX8_deliverDown_44 : decode cX8_deliverDown 44 = .ok (.getfield 161, 3) := by decide +kernel
theorem dX8_deliverDown_47 : decode cX8_deliverDown 47 = .ok (.aload_n 2, 1) := by decide +kernel
theorem dX8_deliverDown_48 : decode cX8_deliverDown 48 = .ok (.getfield 164, 3) := by decide +kernel
theorem dX8_deliverDown_51 : decode cX8_deliverDown 51 = .ok (.if_icmp .ne 8, 3) := by decide +kernel
theorem dX8_deliverDown_54 : decode cX8_deliverDown 54 = .ok (.bipush 97, 2) := by decide +kernel
theorem dX8_deliverDown_56 : decode cX8_deliverDown 56 = .ok (.goto 5, 3) := by decide +kernel
theorem dX8_deliverDown_59 : decode cX8_deliverDown 59 = .ok (.bipush 111, 2) := by decide +kernel
theorem dX8_deliverDown_61 : decode cX8_deliverDown 61 = .ok (.ireturn, 1) := by decide +kernel
theorem dX8_deliverAll_0 : decode cX8_deliverAll 0 = .ok (.iconst 0, 1) := by decide +kernel
theorem dX8_deliverAll_1 : decode cX8_deliverAll 1 = .ok (.istore_n 1, 1) := by decide +kernel
theorem dX8_deliverAll_2 : decode cX8_deliverAll 2 = .ok (.iload_n 1, 1) := by decide +kernel
theorem dX8_deliverAll_3 : decode cX8_deliverAll 3 = .ok (.ldc 167, 2) := by decide +kernel
theorem dX8_deliverAll_5 : decode cX8_deliverAll 5 = .ok (.if_icmp .ge 99, 3) := by decide +kernel
theorem dX8_deliverAll_8 : decode cX8_deliverAll 8 = .ok (.aload_n 0, 1) := by decide +kernel
theorem dX8_deliverAll_9 : decode cX8_deliverAll 9 = .ok (.getfield 12, 3) := by decide +kernel
theorem dX8_deliverAll_12 : decode cX8_deliverAll 12 = .ok (.getfield 129, 3) := by decide +kernel
theorem dX8_deliverAll_15 : decode cX8_deliverAll 15 = .ok (.invokevirtual 132, 3) := by decide +kernel
theorem dX8_deliverAll_18 : decode cX8_deliverAll 18 = .ok (.ifCond .ne 12, 3) := by decide +kernel
theorem dX8_deliverAll_21 : decode cX8_deliverAll 21 = .ok (.aload_n 0, 1) := by decide +kernel
theorem dX8_deliverAll_22 : decode cX8_deliverAll 22 = .ok (.iconst 0, 1) := by decide +kernel
theorem dX8_deliverAll_23 : decode cX8_deliverAll 23 = .ok (.invokevirtual 168, 3) := by decide +kernel
theorem dX8_deliverAll_26 : decode cX8_deliverAll 26 = .ok (.pop, 1) := by decide +kernel
theorem dX8_deliverAll_27 : decode cX8_deliverAll 27 = .ok (.goto 71, 3) := by decide +kernel
theorem dX8_deliverAll_30 : decode cX8_deliverAll 30 = .ok (.aload_n 0, 1) := by decide +kernel
theorem dX8_deliverAll_31 : decode cX8_deliverAll 31 = .ok (.getfield 18, 3) := by decide +kernel
theorem dX8_deliverAll_34 : decode cX8_deliverAll 34 = .ok (.getfield 129, 3) := by decide +kernel
theorem dX8_deliverAll_37 : decode cX8_deliverAll 37 = .ok (.invokevirtual 132, 3) := by decide +kernel
theorem dX8_deliverAll_40 : decode cX8_deliverAll 40 = .ok (.ifCond .ne 12, 3) := by decide +kernel
theorem dX8_deliverAll_43 : decode cX8_deliverAll 43 = .ok (.aload_n 0, 1) := by decide +kernel
theorem dX8_deliverAll_44 : decode cX8_deliverAll 44 = .ok (.iconst 1, 1) := by decide +kernel
theorem dX8_deliverAll_45 : decode cX8_deliverAll 45 = .ok (.invokevirtual 168, 3) := by decide +kernel
theorem dX8_deliverAll_48 : decode cX8_deliverAll 48 = .ok (.pop, 1) := by decide +kernel
theorem dX8_deliverAll_49 : decode cX8_deliverAll 49 = .ok (.goto 49, 3) := by decide +kernel
theorem dX8_deliverAll_52 : decode cX8_deliverAll 52 = .ok (.aload_n 0, 1) := by decide +kernel
theorem dX8_deliverAll_53 : decode cX8_deliverAll 53 = .ok (.getfield 12, 3) := by decide +kernel
theorem dX8_deliverAll_56 : decode cX8_deliverAll 56 = .ok (.getfield 147, 3) := by decide +kernel
theorem dX8_deliverAll_59 : decode cX8_deliverAll 59 = .ok (.invokevirtual 132, 3) := by decide +kernel
theorem dX8_deliverAll_62 : decode cX8_deliverAll 62 = .ok (.ifCond .ne 12, 3) := by decide +kernel
theorem dX8_deliverAll_65 : decode cX8_deliverAll 65 = .ok (.aload_n 0, 1) := by decide +kernel
theorem dX8_deliverAll_66 : decode cX8_deliverAll 66 = .ok (.iconst 0, 1) := by decide +kernel
theorem dX8_deliverAll_67 : decode cX8_deliverAll 67 = .ok (.invokevirtual 172, 3) := by decide +kernel
theorem dX8_deliverAll_70 : decode cX8_deliverAll 70 = .ok (.pop, 1) := by decide +kernel
theorem dX8_deliverAll_71 : decode cX8_deliverAll 71 = .ok (.goto 27, 3) := by decide +kernel
theorem dX8_deliverAll_74 : decode cX8_deliverAll 74 = .ok (.aload_n 0, 1) := by decide +kernel
theorem dX8_deliverAll_75 : decode cX8_deliverAll 75 = .ok (.getfield 18, 3) := by decide +kernel
theorem dX8_deliverAll_78 : decode cX8_deliverAll 78 = .ok (.getfield 147, 3) := by decide +kernel
theorem dX8_deliverAll_81 : decode cX8_deliverAll 81 = .ok (.invokevirtual 132, 3) := by decide +kernel
theorem dX8_deliverAll_84 : decode cX8_deliverAll 84 = .ok (.ifCond .ne 12, 3) := by decide +kernel
theorem dX8_deliverAll_87 : decode cX8_deliverAll 87 = .ok (.aload_n 0, 1) := by decide +kernel
theorem dX8_deliverAll_88 : decode cX8_deliverAll 88 = .ok (.iconst 1, 1) := by decide +kernel
theorem dX8_deliverAll_89 : decode cX8_deliverAll 89 = .ok (.invokevirtual 172, 3) := by decide +kernel
theorem dX8_deliverAll_92 : decode cX8_deliverAll 92 = .ok (.pop, 1) := by decide +kernel
theorem dX8_deliverAll_93 : decode cX8_deliverAll 93 = .ok (.goto 5, 3) := by decide +kernel
theorem dX8_deliverAll_96 : decode cX8_deliverAll 96 = .ok (.iload_n 1, 1) := by decide +kernel
theorem dX8_deliverAll_97 : decode cX8_deliverAll 97 = .ok (.ireturn, 1) := by decide +kernel
theorem dX8_deliverAll_98 : decode cX8_deliverAll 98 = .ok (.iinc 1 1, 3) := by decide +kernel
theorem dX8_deliverAll_101 : decode cX8_deliverAll 101 = .ok (.goto (-99), 3) := by decide +kernel
theorem dX8_deliverAll_104 : decode cX8_deliverAll 104 = .ok (.ldc 167, 2) := by decide +kernel
theorem dX8_deliverAll_106 : decode cX8_deliverAll 106 = .ok (.ireturn, 1) := by decide +kernel
theorem dX8_length_0 : decode cX8_length 0 = .ok (.aload_n 0, 1) := by decide +kernel
theorem dX8_length_1 : decode cX8_length 1 = .ok (.iload_n 1, 1) := by decide +kernel
theorem dX8_length_2 : decode cX8_length 2 = .ok (.invokevirtual 46, 3) := by decide +kernel
theorem dX8_length_5 : decode cX8_length 5 = .ok (.getfield 50, 3) := by decide +kernel
theorem dX8_length_8 : decode cX8_length 8 = .ok (.invokevirtual 76, 3) := by decide +kernel
theorem dX8_length_11 : decode cX8_length 11 = .ok (.ireturn, 1) := by decide +kernel
theorem dX8_charAt_0 : decode cX8_charAt 0 = .ok (.aload_n 0, 1) := by decide +kernel
theorem dX8_charAt_1 : decode cX8_charAt 1 = .ok (.iload_n 1, 1) := by decide +kernel
theorem dX8_charAt_2 : decode cX8_charAt 2 = .ok (.invokevirtual 46, 3) := by decide +kernel
theorem dX8_charAt_5 : decode cX8_charAt 5 = .ok (.getfield 50, 3) := by decide +kernel
theorem dX8_charAt_8 : decode cX8_charAt 8 = .ok (.iload_n 2, 1) := by decide +kernel
theorem dX8_charAt_9 : decode cX8_charAt 9 = .ok (.invokestatic 176, 3) := by decide +kernel
theorem dX8_charAt_12 : decode cX8_charAt 12 = .ok (.getfield 180, 3) := by decide +kernel
theorem dX8_charAt_15 : decode cX8_charAt 15 = .ok (.ireturn, 1) := by decide +kernel
theorem dX8_ownerAt_0 : decode cX8_ownerAt 0 = .ok (.aload_n 0, 1) := by decide +kernel
theorem dX8_ownerAt_1 : decode cX8_ownerAt 1 = .ok (.iload_n 1, 1) := by decide +kernel
theorem dX8_ownerAt_2 : decode cX8_ownerAt 2 = .ok (.invokevirtual 46, 3) := by decide +kernel
theorem dX8_ownerAt_5 : decode cX8_ownerAt 5 = .ok (.getfield 50, 3) := by decide +kernel
theorem dX8_ownerAt_8 : decode cX8_ownerAt 8 = .ok (.iload_n 2, 1) := by decide +kernel
theorem dX8_ownerAt_9 : decode cX8_ownerAt 9 = .ok (.invokestatic 176, 3) := by decide +kernel
theorem dX8_ownerAt_12 : decode cX8_ownerAt 12 = .ok (.getfield 186, 3) := by decide +kernel
theorem dX8_ownerAt_15 : decode cX8_ownerAt 15 = .ok (.ireturn, 1) := by decide +kernel
theorem dX8_lengthByHistory_0 : decode cX8_lengthByHistory 0 = .ok (.aload_n 0, 1) := by decide +kernel
theorem dX8_lengthByHistory_1 : decode cX8_lengthByHistory 1 = .ok (.aload_n 0, 1) := by decide +kernel
theorem dX8_lengthByHistory_2 : decode cX8_lengthByHistory 2 = .ok (.iload_n 1, 1) := by decide +kernel
theorem dX8_lengthByHistory_3 : decode cX8_lengthByHistory 3 = .ok (.invokevirtual 46, 3) := by decide +kernel
theorem dX8_lengthByHistory_6 : decode cX8_lengthByHistory 6 = .ok (.invokevirtual 189, 3) := by decide +kernel
theorem dX8_lengthByHistory_9 : decode cX8_lengthByHistory 9 = .ok (.aload_n 0, 1) := by decide +kernel
theorem dX8_lengthByHistory_10 : decode cX8_lengthByHistory 10 = .ok (.getfield 31, 3) := by decide +kernel
theorem dX8_lengthByHistory_13 : decode cX8_lengthByHistory 13 = .ok (.invokevirtual 76, 3) := by decide +kernel
theorem dX8_lengthByHistory_16 : decode cX8_lengthByHistory 16 = .ok (.ireturn, 1) := by decide +kernel
theorem dX8_charByHistory_0 : decode cX8_charByHistory 0 = .ok (.aload_n 0, 1) := by decide +kernel
theorem dX8_charByHistory_1 : decode cX8_charByHistory 1 = .ok (.aload_n 0, 1) := by decide +kernel
theorem dX8_charByHistory_2 : decode cX8_charByHistory 2 = .ok (.iload_n 1, 1) := by decide +kernel
theorem dX8_charByHistory_3 : decode cX8_charByHistory 3 = .ok (.invokevirtual 46, 3) := by decide +kernel
theorem dX8_charByHistory_6 : decode cX8_charByHistory 6 = .ok (.invokevirtual 189, 3) := by decide +kernel
theorem dX8_charByHistory_9 : decode cX8_charByHistory 9 = .ok (.aload_n 0, 1) := by decide +kernel
theorem dX8_charByHistory_10 : decode cX8_charByHistory 10 = .ok (.getfield 31, 3) := by decide +kernel
theorem dX8_charByHistory_13 : decode cX8_charByHistory 13 = .ok (.iload_n 2, 1) := by decide +kernel
theorem dX8_charByHistory_14 : decode cX8_charByHistory 14 = .ok (.invokestatic 176, 3) := by decide +kernel
theorem dX8_charByHistory_17 : decode cX8_charByHistory 17 = .ok (.getfield 180, 3) := by decide +kernel
theorem dX8_charByHistory_20 : decode cX8_charByHistory 20 = .ok (.ireturn, 1) := by decide +kernel
theorem dX8_centreLength_0 : decode cX8_centreLength 0 = .ok (.aload_n 0, 1) := by decide +kernel
theorem dX8_centreLength_1 : decode cX8_centreLength 1 = .ok (.getfield 24, 3) := by decide +kernel
theorem dX8_centreLength_4 : decode cX8_centreLength 4 = .ok (.getfield 192, 3) := by decide +kernel
theorem dX8_centreLength_7 : decode cX8_centreLength 7 = .ok (.invokevirtual 76, 3) := by decide +kernel
theorem dX8_centreLength_10 : decode cX8_centreLength 10 = .ok (.ireturn, 1) := by decide +kernel
theorem dX8_centreChar_0 : decode cX8_centreChar 0 = .ok (.aload_n 0, 1) := by decide +kernel
theorem dX8_centreChar_1 : decode cX8_centreChar 1 = .ok (.getfield 24, 3) := by decide +kernel
theorem dX8_centreChar_4 : decode cX8_centreChar 4 = .ok (.getfield 192, 3) := by decide +kernel
theorem dX8_centreChar_7 : decode cX8_centreChar 7 = .ok (.iload_n 1, 1) := by decide +kernel
theorem dX8_centreChar_8 : decode cX8_centreChar 8 = .ok (.invokestatic 176, 3) := by decide +kernel
theorem dX8_centreChar_11 : decode cX8_centreChar 11 = .ok (.getfield 180, 3) := by decide +kernel
theorem dX8_centreChar_14 : decode cX8_centreChar 14 = .ok (.ireturn, 1) := by decide +kernel
theorem dX8_cursor_0 : decode cX8_cursor 0 = .ok (.aload_n 0, 1) := by decide +kernel
theorem dX8_cursor_1 : decode cX8_cursor 1 = .ok (.iload_n 1, 1) := by decide +kernel
theorem dX8_cursor_2 : decode cX8_cursor 2 = .ok (.invokevirtual 46, 3) := by decide +kernel
theorem dX8_cursor_5 : decode cX8_cursor 5 = .ok (.getfield 90, 3) := by decide +kernel
theorem dX8_cursor_8 : decode cX8_cursor 8 = .ok (.ireturn, 1) := by decide +kernel
theorem dX8_mark_0 : decode cX8_mark 0 = .ok (.aload_n 0, 1) := by decide +kernel
theorem dX8_mark_1 : decode cX8_mark 1 = .ok (.iload_n 1, 1) := by decide +kernel
theorem dX8_mark_2 : decode cX8_mark 2 = .ok (.invokevirtual 46, 3) := by decide +kernel
theorem dX8_mark_5 : decode cX8_mark 5 = .ok (.getfield 193, 3) := by decide +kernel
theorem dX8_mark_8 : decode cX8_mark 8 = .ok (.ireturn, 1) := by decide +kernel
theorem dX8_revision_0 : decode cX8_revision 0 = .ok (.aload_n 0, 1) := by decide +kernel
theorem dX8_revision_1 : decode cX8_revision 1 = .ok (.iload_n 1, 1) := by decide +kernel
theorem dX8_revision_2 : decode cX8_revision 2 = .ok (.invokevirtual 46, 3) := by decide +kernel
theorem dX8_revision_5 : decode cX8_revision 5 = .ok (.getfield 196, 3) := by decide +kernel
theorem dX8_revision_8 : decode cX8_revision 8 = .ok (.ireturn, 1) := by decide +kernel
theorem dX8_sent_0 : decode cX8_sent 0 = .ok (.aload_n 0, 1) := by decide +kernel
theorem dX8_sent_1 : decode cX8_sent 1 = .ok (.iload_n 1, 1) := by decide +kernel
theorem dX8_sent_2 : decode cX8_sent 2 = .ok (.invokevirtual 46, 3) := by decide +kernel
theorem dX8_sent_5 : decode cX8_sent 5 = .ok (.getfield 199, 3) := by decide +kernel
theorem dX8_sent_8 : decode cX8_sent 8 = .ok (.invokevirtual 102, 3) := by decide +kernel
theorem dX8_sent_11 : decode cX8_sent 11 = .ok (.ireturn, 1) := by decide +kernel
theorem dX8_waiting_0 : decode cX8_waiting 0 = .ok (.aload_n 0, 1) := by decide +kernel
theorem dX8_waiting_1 : decode cX8_waiting 1 = .ok (.iload_n 1, 1) := by decide +kernel
theorem dX8_waiting_2 : decode cX8_waiting 2 = .ok (.invokevirtual 46, 3) := by decide +kernel
theorem dX8_waiting_5 : decode cX8_waiting 5 = .ok (.getfield 202, 3) := by decide +kernel
theorem dX8_waiting_8 : decode cX8_waiting 8 = .ok (.invokevirtual 102, 3) := by decide +kernel
theorem dX8_waiting_11 : decode cX8_waiting 11 = .ok (.ireturn, 1) := by decide +kernel
theorem dX8_runs_0 : decode cX8_runs 0 = .ok (.aload_n 0, 1) := by decide +kernel
theorem dX8_runs_1 : decode cX8_runs 1 = .ok (.iload_n 1, 1) := by decide +kernel
theorem dX8_runs_2 : decode cX8_runs 2 = .ok (.invokevirtual 46, 3) := by decide +kernel
theorem dX8_runs_5 : decode cX8_runs 5 = .ok (.invokevirtual 205, 3) := by decide +kernel
theorem dX8_runs_8 : decode cX8_runs 8 = .ok (.ireturn, 1) := by decide +kernel
theorem dX8_up_0 : decode cX8_up 0 = .ok (.aload_n 0, 1) := by decide +kernel
theorem dX8_up_1 : decode cX8_up 1 = .ok (.iload_n 1, 1) := by decide +kernel
theorem dX8_up_2 : decode cX8_up 2 = .ok (.invokevirtual 46, 3) := by decide +kernel
theorem dX8_up_5 : decode cX8_up 5 = .ok (.getfield 129, 3) := by decide +kernel
theorem dX8_up_8 : decode cX8_up 8 = .ok (.invokevirtual 102, 3) := by decide +kernel
theorem dX8_up_11 : decode cX8_up 11 = .ok (.ireturn, 1) := by decide +kernel
theorem dX8_down_0 : decode cX8_down 0 = .ok (.aload_n 0, 1) := by decide +kernel
theorem dX8_down_1 : decode cX8_down 1 = .ok (.iload_n 1, 1) := by decide +kernel
theorem dX8_down_2 : decode cX8_down 2 = .ok (.invokevirtual 46, 3) := by decide +kernel
theorem dX8_down_5 : decode cX8_down 5 = .ok (.getfield 147, 3) := by decide +kernel
theorem dX8_down_8 : decode cX8_down 8 = .ok (.invokevirtual 102, 3) := by decide +kernel
theorem dX8_down_11 : decode cX8_down 11 = .ok (.ireturn, 1) := by decide +kernel
theorem dX8_kept_0 : decode cX8_kept 0 = .ok (.aload_n 0, 1) := by decide +kernel
theorem dX8_kept_1 : decode cX8_kept 1 = .ok (.iload_n 1, 1) := by decide +kernel
theorem dX8_kept_2 : decode cX8_kept 2 = .ok (.invokevirtual 46, 3) := by decide +kernel
theorem dX8_kept_5 : decode cX8_kept 5 = .ok (.getfield 98, 3) := by decide +kernel
theorem dX8_kept_8 : decode cX8_kept 8 = .ok (.invokevirtual 102, 3) := by decide +kernel
theorem dX8_kept_11 : decode cX8_kept 11 = .ok (.ireturn, 1) := by decide +kernel
theorem dX8_centreRevision_0 : decode cX8_centreRevision 0 = .ok (.aload_n 0, 1) := by decide +kernel
theorem dX8_centreRevision_1 : decode cX8_centreRevision 1 = .ok (.getfield 24, 3) := by decide +kernel
theorem dX8_centreRevision_4 : decode cX8_centreRevision 4 = .ok (.getfield 208, 3) := by decide +kernel
theorem dX8_centreRevision_7 : decode cX8_centreRevision 7 = .ok (.invokevirtual 102, 3) := by decide +kernel
theorem dX8_centreRevision_10 : decode cX8_centreRevision 10 = .ok (.ireturn, 1) := by decide +kernel
theorem dX8_historyEnd_0 : decode cX8_historyEnd 0 = .ok (.aload_n 0, 1) := by decide +kernel
theorem dX8_historyEnd_1 : decode cX8_historyEnd 1 = .ok (.iload_n 1, 1) := by decide +kernel
theorem dX8_historyEnd_2 : decode cX8_historyEnd 2 = .ok (.invokevirtual 211, 3) := by decide +kernel
theorem dX8_historyEnd_5 : decode cX8_historyEnd 5 = .ok (.getfield 161, 3) := by decide +kernel
theorem dX8_historyEnd_8 : decode cX8_historyEnd 8 = .ok (.ireturn, 1) := by decide +kernel
theorem dX8_historySize_0 : decode cX8_historySize 0 = .ok (.aload_n 0, 1) := by decide +kernel
theorem dX8_historySize_1 : decode cX8_historySize 1 = .ok (.iload_n 1, 1) := by decide +kernel
theorem dX8_historySize_2 : decode cX8_historySize 2 = .ok (.invokevirtual 211, 3) := by decide +kernel
theorem dX8_historySize_5 : decode cX8_historySize 5 = .ok (.getfield 154, 3) := by decide +kernel
theorem dX8_historySize_8 : decode cX8_historySize 8 = .ok (.invokevirtual 102, 3) := by decide +kernel
theorem dX8_historySize_11 : decode cX8_historySize 11 = .ok (.ireturn, 1) := by decide +kernel
theorem dX8_historyKind_0 : decode cX8_historyKind 0 = .ok (.aload_n 0, 1) := by decide +kernel
theorem dX8_historyKind_1 : decode cX8_historyKind 1 = .ok (.iload_n 1, 1) := by decide +kernel
theorem dX8_historyKind_2 : decode cX8_historyKind 2 = .ok (.iload_n 2, 1) := by decide +kernel
theorem dX8_historyKind_3 : decode cX8_historyKind 3 = .ok (.invokevirtual 215, 3) := by decide +kernel
theorem dX8_historyKind_6 : decode cX8_historyKind 6 = .ok (.getfield 219, 3) := by decide +kernel
theorem dX8_historyKind_9 : decode cX8_historyKind 9 = .ok (.ireturn, 1) := by decide +kernel
theorem dX8_historyPosition_0 : decode cX8_historyPosition 0 = .ok (.aload_n 0, 1) := by decide +kernel
theorem dX8_historyPosition_1 : decode cX8_historyPosition 1 = .ok (.iload_n 1, 1) := by decide +kernel
theorem dX8_historyPosition_2 : decode cX8_historyPosition 2 = .ok (.iload_n 2, 1) := by decide +kernel
theorem dX8_historyPosition_3 : decode cX8_historyPosition 3 = .ok (.invokevirtual 215, 3) := by decide +kernel
theorem dX8_historyPosition_6 : decode cX8_historyPosition 6 = .ok (.getfield 224, 3) := by decide +kernel
theorem dX8_historyPosition_9 : decode cX8_historyPosition 9 = .ok (.ireturn, 1) := by decide +kernel
theorem dX8_agree_0 : decode cX8_agree 0 = .ok (.aload_n 0, 1) := by decide +kernel
theorem dX8_agree_1 : decode cX8_agree 1 = .ok (.getfield 12, 3) := by decide +kernel
theorem dX8_agree_4 : decode cX8_agree 4 = .ok (.getfield 50, 3) := by decide +kernel
theorem dX8_agree_7 : decode cX8_agree 7 = .ok (.aload_n 0, 1) := by decide +kernel
theorem dX8_agree_8 : decode cX8_agree 8 = .ok (.getfield 18, 3) := by decide +kernel
theorem dX8_agree_11 : decode cX8_agree 11 = .ok (.getfield 50, 3) := by decide +kernel
theorem dX8_agree_14 : decode cX8_agree 14 = .ok (.invokevirtual 227, 3) := by decide +kernel
theorem dX8_agree_17 : decode cX8_agree 17 = .ok (.ifCond .eq 27, 3) := by decide +kernel
theorem dX8_agree_20 : decode cX8_agree 20 = .ok (.aload_n 0, 1) := by decide +kernel
theorem dX8_agree_21 : decode cX8_agree 21 = .ok (.getfield 12, 3) := by decide +kernel
theorem dX8_agree_24 : decode cX8_agree 24 = .ok (.getfield 50, 3) := by decide +kernel
theorem dX8_agree_27 : decode cX8_agree 27 = .ok (.aload_n 0, 1) := by decide +kernel
theorem dX8_agree_28 : decode cX8_agree 28 = .ok (.getfield 24, 3) := by decide +kernel
theorem dX8_agree_31 : decode cX8_agree 31 = .ok (.getfield 192, 3) := by decide +kernel
theorem dX8_agree_34 : decode cX8_agree 34 = .ok (.invokevirtual 227, 3) := by decide +kernel
theorem dX8_agree_37 : decode cX8_agree 37 = .ok (.ifCond .eq 7, 3) := by decide +kernel
theorem dX8_agree_40 : decode cX8_agree 40 = .ok (.iconst 1, 1) := by decide +kernel
theorem dX8_agree_41 : decode cX8_agree 41 = .ok (.goto 4, 3) := by decide +kernel
theorem dX8_agree_44 : decode cX8_agree 44 = .ok (.iconst 0, 1) := by decide +kernel
theorem dX8_agree_45 : decode cX8_agree 45 = .ok (.ireturn, 1) := by decide +kernel
theorem dX8_distance_0 : decode cX8_distance 0 = .ok (.aload_n 0, 1) := by decide +kernel
theorem dX8_distance_1 : decode cX8_distance 1 = .ok (.getfield 38, 3) := by decide +kernel
theorem dX8_distance_4 : decode cX8_distance 4 = .ok (.aload_n 0, 1) := by decide +kernel
theorem dX8_distance_5 : decode cX8_distance 5 = .ok (.getfield 12, 3) := by decide +kernel
theorem dX8_distance_8 : decode cX8_distance 8 = .ok (.getfield 50, 3) := by decide +kernel
theorem dX8_distance_11 : decode cX8_distance 11 = .ok (.aload_n 0, 1) := by decide +kernel
theorem dX8_distance_12 : decode cX8_distance 12 = .ok (.getfield 18, 3) := by decide +kernel
theorem dX8_distance_15 : decode cX8_distance 15 = .ok (.getfield 50, 3) := by decide +kernel
theorem dX8_distance_18 : decode cX8_distance 18 = .ok (.invokevirtual 231, 3) := by decide +kernel
theorem dX8_distance_21 : decode cX8_distance 21 = .ok (.ireturn, 1) := by decide +kernel
theorem dX8_distanceByWays_0 : decode cX8_distanceByWays 0 = .ok (.aload_n 0, 1) := by decide +kernel
theorem dX8_distanceByWays_1 : decode cX8_distanceByWays 1 = .ok (.getfield 38, 3) := by decide +kernel
theorem dX8_distanceByWays_4 : decode cX8_distanceByWays 4 = .ok (.aload_n 0, 1) := by decide +kernel
theorem dX8_distanceByWays_5 : decode cX8_distanceByWays 5 = .ok (.getfield 12, 3) := by decide +kernel
theorem dX8_distanceByWays_8 : decode cX8_distanceByWays 8 = .ok (.getfield 50, 3) := by decide +kernel
theorem dX8_distanceByWays_11 : decode cX8_distanceByWays 11 = .ok (.aload_n 0, 1) := by decide +kernel
theorem dX8_distanceByWays_12 : decode cX8_distanceByWays 12 = .ok (.getfield 18, 3) := by decide +kernel
theorem dX8_distanceByWays_15 : decode cX8_distanceByWays 15 = .ok (.getfield 50, 3) := by decide +kernel
theorem dX8_distanceByWays_18 : decode cX8_distanceByWays 18 = .ok (.invokevirtual 235, 3) := by decide +kernel
theorem dX8_distanceByWays_21 : decode cX8_distanceByWays 21 = .ok (.ireturn, 1) := by decide +kernel
theorem dX8_ownShare_0 : decode cX8_ownShare 0 = .ok (.aload_n 0, 1) := by decide +kernel
theorem dX8_ownShare_1 : decode cX8_ownShare 1 = .ok (.iload_n 1, 1) := by decide +kernel
theorem dX8_ownShare_2 : decode cX8_ownShare 2 = .ok (.invokevirtual 46, 3) := by decide +kernel
theorem dX8_ownShare_5 : decode cX8_ownShare 5 = .ok (.astore_n 2, 1) := by decide +kernel
theorem dX8_ownShare_6 : decode cX8_ownShare 6 = .ok (.aload_n 2, 1) := by decide +kernel
theorem dX8_ownShare_7 : decode cX8_ownShare 7 = .ok (.getfield 50, 3) := by decide +kernel
theorem dX8_ownShare_10 : decode cX8_ownShare 10 = .ok (.invokevirtual 76, 3) := by decide +kernel
theorem dX8_ownShare_13 : decode cX8_ownShare 13 = .ok (.istore_n 3, 1) := by decide +kernel
theorem dX8_ownShare_14 : decode cX8_ownShare 14 = .ok (.iload_n 3, 1) := by decide +kernel
theorem dX8_ownShare_15 : decode cX8_ownShare 15 = .ok (.ifCond .ne 13, 3) := by decide +kernel
theorem dX8_ownShare_18 : decode cX8_ownShare 18 = .ok (.new 238, 3) := by decide +kernel
theorem dX8_ownShare_21 : decode cX8_ownShare 21 = .ok (.dup, 1) := by decide +kernel
theorem dX8_ownShare_22 : decode cX8_ownShare 22 = .ok (.ldc 240, 2) := by decide +kernel
theorem dX8_ownShare_24 : decode cX8_ownShare 24 = .ok (.invokespecial 242, 3) := by decide +kernel
theorem dX8_ownShare_27 : decode cX8_ownShare 27 = .ok (.athrow, 1) := by decide +kernel
theorem dX8_ownShare_28 : decode cX8_ownShare 28 = .ok (.aload_n 2, 1) := by decide +kernel
theorem dX8_ownShare_29 : decode cX8_ownShare 29 = .ok (.getfield 50, 3) := by decide +kernel
theorem dX8_ownShare_32 : decode cX8_ownShare 32 = .ok (.iload_n 1, 1) := by decide +kernel
theorem dX8_ownShare_33 : decode cX8_ownShare 33 = .ok (.invokevirtual 243, 3) := by decide +kernel
theorem dX8_ownShare_36 : decode cX8_ownShare 36 = .ok (.i2f, 1) := by decide +kernel
theorem dX8_ownShare_37 : decode cX8_ownShare 37 = .ok (.iload_n 3, 1) := by decide +kernel
theorem dX8_ownShare_38 : decode cX8_ownShare 38 = .ok (.i2f, 1) := by decide +kernel
theorem dX8_ownShare_39 : decode cX8_ownShare 39 = .ok (.fdiv, 1) := by decide +kernel
theorem dX8_ownShare_40 : decode cX8_ownShare 40 = .ok (.freturn, 1) := by decide +kernel
theorem dX8_meanRun_0 : decode cX8_meanRun 0 = .ok (.aload_n 0, 1) := by decide +kernel
theorem dX8_meanRun_1 : decode cX8_meanRun 1 = .ok (.getfield 24, 3) := by decide +kernel
theorem dX8_meanRun_4 : decode cX8_meanRun 4 = .ok (.getfield 208, 3) := by decide +kernel
theorem dX8_meanRun_7 : decode cX8_meanRun 7 = .ok (.invokevirtual 102, 3) := by decide +kernel
theorem dX8_meanRun_10 : decode cX8_meanRun 10 = .ok (.istore_n 1, 1) := by decide +kernel
theorem dX8_meanRun_11 : decode cX8_meanRun 11 = .ok (.iload_n 1, 1) := by decide +kernel
theorem dX8_meanRun_12 : decode cX8_meanRun 12 = .ok (.ifCond .ne 13, 3) := by decide +kernel
theorem dX8_meanRun_15 : decode cX8_meanRun 15 = .ok (.new 238, 3) := by decide +kernel
theorem dX8_meanRun_18 : decode cX8_meanRun 18 = .ok (.dup, 1) := by decide +kernel
theorem dX8_meanRun_19 : decode cX8_meanRun 19 = .ok (.ldc 246, 2) := by decide +kernel
theorem dX8_meanRun_21 : decode cX8_meanRun 21 = .ok (.invokespecial 242, 3) := by decide +kernel
theorem dX8_meanRun_24 : decode cX8_meanRun 24 = .ok (.athrow, 1) := by decide +kernel
theorem dX8_meanRun_25 : decode cX8_meanRun 25 = .ok (.aload_n 0, 1) := by decide +kernel
theorem dX8_meanRun_26 : decode cX8_meanRun 26 = .ok (.getfield 24, 3) := by decide +kernel
theorem dX8_meanRun_29 : decode cX8_meanRun 29 = .ok (.invokevirtual 248, 3) := by decide +kernel
theorem dX8_meanRun_32 : decode cX8_meanRun 32 = .ok (.i2d, 1) := by decide +kernel
theorem dX8_meanRun_33 : decode cX8_meanRun 33 = .ok (.iload_n 1, 1) := by decide +kernel
theorem dX8_meanRun_34 : decode cX8_meanRun 34 = .ok (.i2d, 1) := by decide +kernel
theorem dX8_meanRun_35 : decode cX8_meanRun 35 = .ok (.ddiv, 1) := by decide +kernel
theorem dX8_meanRun_36 : decode cX8_meanRun 36 = .ok (.dreturn, 1) := by decide +kernel
theorem dX8_textNumber_0 : decode cX8_textNumber 0 = .ok (.aload_n 0, 1) := by decide +kernel
theorem dX8_textNumber_1 : decode cX8_textNumber 1 = .ok (.iload_n 1, 1) := by decide +kernel
theorem dX8_textNumber_2 : decode cX8_textNumber 2 = .ok (.invokevirtual 46, 3) := by decide +kernel
theorem dX8_textNumber_5 : decode cX8_textNumber 5 = .ok (.getfield 50, 3) := by decide +kernel
theorem dX8_textNumber_8 : decode cX8_textNumber 8 = .ok (.invokevirtual 251, 3) := by decide +kernel
theorem dX8_textNumber_11 : decode cX8_textNumber 11 = .ok (.lreturn, 1) := by decide +kernel
theorem dX8_endNumbered_0 : decode cX8_endNumbered 0 = .ok (.iload_n 1, 1) := by decide +kernel
theorem dX8_endNumbered_1 : decode cX8_endNumbered 1 = .ok (.ifCond .eq 19, 3) := by decide +kernel
theorem dX8_endNumbered_4 : decode cX8_endNumbered 4 = .ok (.iload_n 1, 1) := by decide +kernel
theorem dX8_endNumbered_5 : decode cX8_endNumbered 5 = .ok (.iconst 1, 1) := by decide +kernel
theorem dX8_endNumbered_6 : decode cX8_endNumbered 6 = .ok (.if_icmp .eq 14, 3) := by decide +kernel
theorem dX8_endNumbered_9 : decode cX8_endNumbered 9 = .ok (.new 254, 3) := by decide +kernel
theorem dX8_endNumbered_12 : decode cX8_endNumbered 12 = .ok (.dup, 1) := by decide +kernel
theorem dX8_endNumbered_13 : decode cX8_endNumbered 13 = .ok (.ldc_w 256, 3) := by decide +kernel
theorem dX8_endNumbered_16 : decode cX8_endNumbered 16 = .ok (.invokespecial 258, 3) := by decide +kernel
theorem dX8_endNumbered_19 : decode cX8_endNumbered 19 = .ok (.athrow, 1) := by decide +kernel
theorem dX8_endNumbered_20 : decode cX8_endNumbered 20 = .ok (.iload_n 1, 1) := by decide +kernel
theorem dX8_endNumbered_21 : decode cX8_endNumbered 21 = .ok (.ifCond .ne 10, 3) := by decide +kernel
theorem dX8_endNumbered_24 : decode cX8_endNumbered 24 = .ok (.aload_n 0, 1) := by decide +kernel
theorem dX8_endNumbered_25 : decode cX8_endNumbered 25 = .ok (.getfield 12, 3) := by decide +kernel
theorem dX8_endNumbered_28 : decode cX8_endNumbered 28 = .ok (.goto 7, 3) := by decide +kernel
theorem dX8_endNumbered_31 : decode cX8_endNumbered 31 = .ok (.aload_n 0, 1) := by decide +kernel
theorem dX8_endNumbered_32 : decode cX8_endNumbered 32 = .ok (.getfield 18, 3) := by decide +kernel
theorem dX8_endNumbered_35 : decode cX8_endNumbered 35 = .ok (.areturn, 1) := by decide +kernel
theorem dX8_requireWritable_0 : decode cX8_requireWritable 0 = .ok (.iload_n 0, 1) := by decide +kernel
theorem dX8_requireWritable_1 : decode cX8_requireWritable 1 = .ok (.bipush 32, 2) := by decide +kernel
theorem dX8_requireWritable_3 : decode cX8_requireWritable 3 = .ok (.if_icmp .lt 9, 3) := by decide +kernel
theorem dX8_requireWritable_6 : decode cX8_requireWritable 6 = .ok (.iload_n 0, 1) := by decide +kernel
theorem dX8_requireWritable_7 : decode cX8_requireWritable 7 = .ok (.bipush 126, 2) := by decide +kernel
theorem dX8_requireWritable_9 : decode cX8_requireWritable 9 = .ok (.if_icmp .le 14, 3) := by decide +kernel
theorem dX8_requireWritable_12 : decode cX8_requireWritable 12 = .ok (.new 57, 3) := by decide +kernel
theorem dX8_requireWritable_15 : decode cX8_requireWritable 15 = .ok (.dup, 1) := by decide +kernel
theorem dX8_requireWritable_16 : decode cX8_requireWritable 16 = .ok (.ldc_w 259, 3) := by decide +kernel
theorem dX8_requireWritable_19 : decode cX8_requireWritable 19 = .ok (.invokespecial 61, 3) := by decide +kernel
theorem dX8_requireWritable_22 : decode cX8_requireWritable 22 = .ok (.athrow, 1) := by decide +kernel
theorem dX8_requireWritable_23 : decode cX8_requireWritable 23 = .ok (.return_, 1) := by decide +kernel
theorem dX8_requireOperationLeft_0 : decode cX8_requireOperationLeft 0 = .ok (.aload_n 0, 1) := by decide +kernel
theorem dX8_requireOperationLeft_1 : decode cX8_requireOperationLeft 1 = .ok (.getfield 42, 3) := by decide +kernel
theorem dX8_requireOperationLeft_4 : decode cX8_requireOperationLeft 4 = .ok (.sipush 200, 3) := by decide +kernel
theorem dX8_requireOperationLeft_7 : decode cX8_requireOperationLeft 7 = .ok (.if_icmp .lt 14, 3) := by decide +kernel
theorem dX8_requireOperationLeft_10 : decode cX8_requireOperationLeft 10 = .ok (.new 261, 3) := by decide +kernel
theorem dX8_requireOperationLeft_13 : decode cX8_requireOperationLeft 13 = .ok (.dup, 1) := by decide +kernel
theorem dX8_requireOperationLeft_14 : decode cX8_requireOperationLeft 14 = .ok (.ldc_w 263, 3) := by decide +kernel
theorem dX8_requireOperationLeft_17 : decode cX8_requireOperationLeft 17 = .ok (.invokespecial 265, 3) := by decide +kernel
theorem dX8_requireOperationLeft_20 : decode cX8_requireOperationLeft 20 = .ok (.athrow, 1) := by decide +kernel
theorem dX8_requireOperationLeft_21 : decode cX8_requireOperationLeft 21 = .ok (.return_, 1) := by decide +kernel
theorem dX8_requireRoom_0 : decode cX8_requireRoom 0 = .ok (.aload_n 1, 1) := by decide +kernel
theorem dX8_requireRoom_1 : decode cX8_requireRoom 1 = .ok (.getfield 50, 3) := by decide +kernel
theorem dX8_requireRoom_4 : decode cX8_requireRoom 4 = .ok (.invokevirtual 76, 3) := by decide +kernel
theorem dX8_requireRoom_7 : decode cX8_requireRoom 7 = .ok (.bipush 60, 2) := by decide +kernel
theorem dX8_requireRoom_9 : decode cX8_requireRoom 9 = .ok (.if_icmp .lt 14, 3) := by decide +kernel
theorem dX8_requireRoom_12 : decode cX8_requireRoom 12 = .ok (.new 261, 3) := by decide +kernel
theorem dX8_requireRoom_15 : decode cX8_requireRoom 15 = .ok (.dup, 1) := by decide +kernel
theorem dX8_requireRoom_16 : decode cX8_requireRoom 16 = .ok (.ldc_w 266, 3) := by decide +kernel
theorem dX8_requireRoom_19 : decode cX8_requireRoom 19 = .ok (.invokespecial 265, 3) := by decide +kernel
theorem dX8_requireRoom_22 : decode cX8_requireRoom 22 = .ok (.athrow, 1) := by decide +kernel
theorem dX8_requireRoom_23 : decode cX8_requireRoom 23 = .ok (.aload_n 0, 1) := by decide +kernel
theorem dX8_requireRoom_24 : decode cX8_requireRoom 24 = .ok (.invokevirtual 83, 3) := by decide +kernel
theorem dX8_requireRoom_27 : decode cX8_requireRoom 27 = .ok (.return_, 1) := by decide +kernel
theorem dX8_letterOf_0 : decode cX8_letterOf 0 = .ok (.aload_n 0, 1) := by decide +kernel
theorem dX8_letterOf_1 : decode cX8_letterOf 1 = .ok (.iload_n 1, 1) := by decide +kernel
theorem dX8_letterOf_2 : decode cX8_letterOf 2 = .ok (.invokevirtual 80, 3) := by decide +kernel
theorem dX8_letterOf_5 : decode cX8_letterOf 5 = .ok (.ifCond .ne 13, 3) := by decide +kernel
theorem dX8_letterOf_8 : decode cX8_letterOf 8 = .ok (.new 57, 3) := by decide +kernel
theorem dX8_letterOf_11 : decode cX8_letterOf 11 = .ok (.dup, 1) := by decide +kernel
theorem dX8_letterOf_12 : decode cX8_letterOf 12 = .ok (.ldc 59, 2) := by decide +kernel
theorem dX8_letterOf_14 : decode cX8_letterOf 14 = .ok (.invokespecial 61, 3) := by decide +kernel
theorem dX8_letterOf_17 : decode cX8_letterOf 17 = .ok (.athrow, 1) := by decide +kernel
theorem dX8_letterOf_18 : decode cX8_letterOf 18 = .ok (.aload_n 0, 1) := by decide +kernel
theorem dX8_letterOf_19 : decode cX8_letterOf 19 = .ok (.getfield 268, 3) := by decide +kernel
theorem dX8_letterOf_22 : decode cX8_letterOf 22 = .ok (.iload_n 1, 1) := by decide +kernel
theorem dX8_letterOf_23 : decode cX8_letterOf 23 = .ok (.invokevirtual 107, 3) := by decide +kernel
theorem dX8_letterOf_26 : decode cX8_letterOf 26 = .ok (.checkcast 181, 3) := by decide +kernel
theorem dX8_letterOf_29 : decode cX8_letterOf 29 = .ok (.areturn, 1) := by decide +kernel
theorem dX8_messageOf_0 : decode cX8_messageOf 0 = .ok (.iload_n 1, 1) := by decide +kernel
theorem dX8_messageOf_1 : decode cX8_messageOf 1 = .ok (.ifCond .lt 17, 3) := by decide +kernel
theorem dX8_messageOf_4 : decode cX8_messageOf 4 = .ok (.iload_n 1, 1) := by decide +kernel
theorem dX8_messageOf_5 : decode cX8_messageOf 5 = .ok (.aload_n 0, 1) := by decide +kernel
theorem dX8_messageOf_6 : decode cX8_messageOf 6 = .ok (.getfield 24, 3) := by decide +kernel
theorem dX8_messageOf_9 : decode cX8_messageOf 9 = .ok (.getfield 208, 3) := by decide +kernel
theorem dX8_messageOf_12 : decode cX8_messageOf 12 = .ok (.invokevirtual 102, 3) := by decide +kernel
theorem dX8_messageOf_15 : decode cX8_messageOf 15 = .ok (.if_icmp .lt 14, 3) := by decide +kernel
theorem dX8_messageOf_18 : decode cX8_messageOf 18 = .ok (.new 93, 3) := by decide +kernel
theorem dX8_messageOf_21 : decode cX8_messageOf 21 = .ok (.dup, 1) := by decide +kernel
theorem dX8_messageOf_22 : decode cX8_messageOf 22 = .ok (.ldc_w 271, 3) := by decide +kernel
theorem dX8_messageOf_25 : decode cX8_messageOf 25 = .ok (.invokespecial 97, 3) := by decide +kernel
theorem dX8_messageOf_28 : decode cX8_messageOf 28 = .ok (.athrow, 1) := by decide +kernel
theorem dX8_messageOf_29 : decode cX8_messageOf 29 = .ok (.aload_n 0, 1) := by decide +kernel
theorem dX8_messageOf_30 : decode cX8_messageOf 30 = .ok (.getfield 24, 3) := by decide +kernel
theorem dX8_messageOf_33 : decode cX8_messageOf 33 = .ok (.getfield 208, 3) := by decide +kernel
theorem dX8_messageOf_36 : decode cX8_messageOf 36 = .ok (.iload_n 1, 1) := by decide +kernel
theorem dX8_messageOf_37 : decode cX8_messageOf 37 = .ok (.invokevirtual 107, 3) := by decide +kernel
theorem dX8_messageOf_40 : decode cX8_messageOf 40 = .ok (.checkcast 141, 3) := by decide +kernel
theorem dX8_messageOf_43 : decode cX8_messageOf 43 = .ok (.areturn, 1) := by decide +kernel
theorem dX8_operationOf_0 : decode cX8_operationOf 0 = .ok (.aload_n 0, 1) := by decide +kernel
theorem dX8_operationOf_1 : decode cX8_operationOf 1 = .ok (.iload_n 1, 1) := by decide +kernel
theorem dX8_operationOf_2 : decode cX8_operationOf 2 = .ok (.invokevirtual 211, 3) := by decide +kernel
theorem dX8_operationOf_5 : decode cX8_operationOf 5 = .ok (.getfield 154, 3) := by decide +kernel
theorem dX8_operationOf_8 : decode cX8_operationOf 8 = .ok (.astore_n 3, 1) := by decide +kernel
theorem dX8_operationOf_9 : decode cX8_operationOf 9 = .ok (.iload_n 2, 1) := by decide +kernel
theorem dX8_operationOf_10 : decode cX8_operationOf 10 = .ok (.ifCond .lt 11, 3) := by decide +kernel
theorem dX8_operationOf_13 : decode cX8_operationOf 13 = .ok (.iload_n 2, 1) := by decide +kernel
theorem dX8_operationOf_14 : decode cX8_operationOf 14 = .ok (.aload_n 3, 1) := by decide +kernel
theorem dX8_operationOf_15 : decode cX8_operationOf 15 = .ok (.invokevirtual 102, 3) := by decide +kernel
theorem dX8_operationOf_18 : decode cX8_operationOf 18 = .ok (.if_icmp .lt 14, 3) := by decide +kernel
theorem dX8_operationOf_21 : decode cX8_operationOf 21 = .ok (.new 254, 3) := by decide +kernel
theorem dX8_operationOf_24 : decode cX8_operationOf 24 = .ok (.dup, 1) := by decide +kernel
theorem dX8_operationOf_25 : decode cX8_operationOf 25 = .ok (.ldc_w 273, 3) := by decide +kernel
theorem dX8_operationOf_28 : decode cX8_operationOf 28 = .ok (.invokespecial 258, 3) := by decide +kernel
theorem dX8_operationOf_31 : decode cX8_operationOf 31 = .ok (.athrow, 1) := by decide +kernel
theorem dX8_operationOf_32 : decode cX8_operationOf 32 = .ok (.aload_n 3, 1) := by decide +kernel
theorem dX8_operationOf_33 : decode cX8_operationOf 33 = .ok (.iload_n 2, 1) := by decide +kernel
theorem dX8_operationOf_34 : decode cX8_operationOf 34 = .ok (.invokevirtual 107, 3) := by decide +kernel
theorem dX8_operationOf_37 : decode cX8_operationOf 37 = .ok (.checkcast 220, 3) := by decide +kernel
theorem dX8_operationOf_40 : decode cX8_operationOf 40 = .ok (.areturn, 1) := by decide +kernel
theorem dX8_writeKept_0 : decode cX8_writeKept 0 = .ok (.new 181, 3) := by decide +kernel
theorem dX8_writeKept_3 : decode cX8_writeKept 3 = .ok (.dup, 1) := by decide +kernel
theorem dX8_writeKept_4 : decode cX8_writeKept 4 = .ok (.iload_n 3, 1) := by decide +kernel
theorem dX8_writeKept_5 : decode cX8_writeKept 5 = .ok (.aload_n 1, 1) := by decide +kernel
theorem dX8_writeKept_6 : decode cX8_writeKept 6 = .ok (.getfield 164, 3) := by decide +kernel
theorem dX8_writeKept_9 : decode cX8_writeKept 9 = .ok (.invokespecial 275, 3) := by decide +kernel
theorem dX8_writeKept_12 : decode cX8_writeKept 12 = .ok (.astore 4, 2) := by decide +kernel
theorem dX8_writeKept_14 : decode cX8_writeKept 14 = .ok (.aload_n 1, 1) := by decide +kernel
theorem dX8_writeKept_15 : decode cX8_writeKept 15 = .ok (.new 220, 3) := by decide +kernel
theorem dX8_writeKept_18 : decode cX8_writeKept 18 = .ok (.dup, 1) := by decide +kernel
theorem dX8_writeKept_19 : decode cX8_writeKept 19 = .ok (.aload_n 1, 1) := by decide +kernel
theorem dX8_writeKept_20 : decode cX8_writeKept 20 = .ok (.getfield 164, 3) := by decide +kernel
theorem dX8_writeKept_23 : decode cX8_writeKept 23 = .ok (.bipush 105, 2) := by decide +kernel
theorem dX8_writeKept_25 : decode cX8_writeKept 25 = .ok (.iload_n 2, 1) := by decide +kernel
theorem dX8_writeKept_26 : decode cX8_writeKept 26 = .ok (.aload 4, 2) := by decide +kernel
theorem dX8_writeKept_28 : decode cX8_writeKept 28 = .ok (.invokespecial 278, 3) := by decide +kernel
theorem dX8_writeKept_31 : decode cX8_writeKept 31 = .ok (.invokevirtual 281, 3) := by decide +kernel
theorem dX8_writeKept_34 : decode cX8_writeKept 34 = .ok (.aload_n 0, 1) := by decide +kernel
theorem dX8_writeKept_35 : decode cX8_writeKept 35 = .ok (.dup, 1) := by decide +kernel
theorem dX8_writeKept_36 : decode cX8_writeKept 36 = .ok (.getfield 42, 3) := by decide +kernel
theorem dX8_writeKept_39 : decode cX8_writeKept 39 = .ok (.iconst 1, 1) := by decide +kernel
theorem dX8_writeKept_40 : decode cX8_writeKept 40 = .ok (.iadd, 1) := by decide +kernel
theorem dX8_writeKept_41 : decode cX8_writeKept 41 = .ok (.putfield 42, 3) := by decide +kernel
theorem dX8_writeKept_44 : decode cX8_writeKept 44 = .ok (.aload_n 1, 1) := by decide +kernel
theorem dX8_writeKept_45 : decode cX8_writeKept 45 = .ok (.getfield 98, 3) := by decide +kernel
theorem dX8_writeKept_48 : decode cX8_writeKept 48 = .ok (.new 111, 3) := by decide +kernel
theorem dX8_writeKept_51 : decode cX8_writeKept 51 = .ok (.dup, 1) := by decide +kernel
theorem dX8_writeKept_52 : decode cX8_writeKept 52 = .ok (.iconst 1, 1) := by decide +kernel
theorem dX8_writeKept_53 : decode cX8_writeKept 53 = .ok (.aload 4, 2) := by decide +kernel
theorem dX8_writeKept_55 : decode cX8_writeKept 55 = .ok (.iload_n 2, 1) := by decide +kernel
theorem dX8_writeKept_56 : decode cX8_writeKept 56 = .ok (.invokespecial 285, 3) := by decide +kernel
theorem dX8_writeKept_59 : decode cX8_writeKept 59 = .ok (.invokevirtual 150, 3) := by decide +kernel
theorem dX8_writeKept_62 : decode cX8_writeKept 62 = .ok (.pop, 1) := by decide +kernel
theorem dX8_writeKept_63 : decode cX8_writeKept 63 = .ok (.return_, 1) := by decide +kernel
theorem dX8_removeKept_0 : decode cX8_removeKept 0 = .ok (.aload_n 1, 1) := by decide +kernel
theorem dX8_removeKept_1 : decode cX8_removeKept 1 = .ok (.getfield 50, 3) := by decide +kernel
theorem dX8_removeKept_4 : decode cX8_removeKept 4 = .ok (.getfield 268, 3) := by decide +kernel
theorem dX8_removeKept_7 : decode cX8_removeKept 7 = .ok (.iload_n 2, 1) := by decide +kernel
theorem dX8_removeKept_8 : decode cX8_removeKept 8 = .ok (.invokevirtual 107, 3) := by decide +kernel
theorem dX8_removeKept_11 : decode cX8_removeKept 11 = .ok (.checkcast 181, 3) := by decide +kernel
theorem dX8_removeKept_14 : decode cX8_removeKept 14 = .ok (.astore_n 3, 1) := by decide +kernel
theorem dX8_removeKept_15 : decode cX8_removeKept 15 = .ok (.aload_n 1, 1) := by decide +kernel
theorem dX8_removeKept_16 : decode cX8_removeKept 16 = .ok (.new 220, 3) := by decide +kernel
theorem dX8_removeKept_19 : decode cX8_removeKept 19 = .ok (.dup, 1) := by decide +kernel
theorem dX8_removeKept_20 : decode cX8_removeKept 20 = .ok (.aload_n 1, 1) := by decide +kernel
theorem dX8_removeKept_21 : decode cX8_removeKept 21 = .ok (.getfield 164, 3) := by decide +kernel
theorem dX8_removeKept_24 : decode cX8_removeKept 24 = .ok (.bipush 100, 2) := by decide +kernel
theorem dX8_removeKept_26 : decode cX8_removeKept 26 = .ok (.iload_n 2, 1) := by decide +kernel
theorem dX8_removeKept_27 : decode cX8_removeKept 27 = .ok (.aload_n 3, 1) := by decide +kernel
theorem dX8_removeKept_28 : decode cX8_removeKept 28 = .ok (.invokespecial 278, 3) := by decide +kernel
theorem dX8_removeKept_31 : decode cX8_removeKept 31 = .ok (.invokevirtual 281, 3) := by decide +kernel
theorem dX8_removeKept_34 : decode cX8_removeKept 34 = .ok (.aload_n 0, 1) := by decide +kernel
theorem dX8_removeKept_35 : decode cX8_removeKept 35 = .ok (.dup, 1) := by decide +kernel
theorem dX8_removeKept_36 : decode cX8_removeKept 36 = .ok (.getfield 42, 3) := by decide +kernel
theorem dX8_removeKept_39 : decode cX8_removeKept 39 = .ok (.iconst 1, 1) := by decide +kernel
theorem dX8_removeKept_40 : decode cX8_removeKept 40 = .ok (.iadd, 1) := by decide +kernel
theorem dX8_removeKept_41 : decode cX8_removeKept 41 = .ok (.putfield 42, 3) := by decide +kernel
theorem dX8_removeKept_44 : decode cX8_removeKept 44 = .ok (.aload_n 1, 1) := by decide +kernel
theorem dX8_removeKept_45 : decode cX8_removeKept 45 = .ok (.getfield 98, 3) := by decide +kernel
theorem dX8_removeKept_48 : decode cX8_removeKept 48 = .ok (.new 111, 3) := by decide +kernel
theorem dX8_removeKept_51 : decode cX8_removeKept 51 = .ok (.dup, 1) := by decide +kernel
theorem dX8_removeKept_52 : decode cX8_removeKept 52 = .ok (.iconst 0, 1) := by decide +kernel
theorem dX8_removeKept_53 : decode cX8_removeKept 53 = .ok (.aload_n 3, 1) := by decide +kernel
theorem dX8_removeKept_54 : decode cX8_removeKept 54 = .ok (.iload_n 2, 1) := by decide +kernel
theorem dX8_removeKept_55 : decode cX8_removeKept 55 = .ok (.invokespecial 285, 3) := by decide +kernel
theorem dX8_removeKept_58 : decode cX8_removeKept 58 = .ok (.invokevirtual 150, 3) := by decide +kernel
theorem dX8_removeKept_61 : decode cX8_removeKept 61 = .ok (.pop, 1) := by decide +kernel
theorem dX8_removeKept_62 : decode cX8_removeKept 62 = .ok (.aload_n 3, 1) := by decide +kernel
theorem dX8_removeKept_63 : decode cX8_removeKept 63 = .ok (.getfield 180, 3) := by decide +kernel
theorem dX8_removeKept_66 : decode cX8_removeKept 66 = .ok (.ireturn, 1) := by decide +kernel
theorem dX8_takeBack_0 : decode cX8_takeBack 0 = .ok (.aload_n 1, 1) := by decide +kernel
theorem dX8_takeBack_1 : decode cX8_takeBack 1 = .ok (.getfield 50, 3) := by decide +kernel
theorem dX8_takeBack_4 : decode cX8_takeBack 4 = .ok (.aload_n 3, 1) := by decide +kernel
theorem dX8_takeBack_5 : decode cX8_takeBack 5 = .ok (.invokevirtual 288, 3) := by decide +kernel
theorem dX8_takeBack_8 : decode cX8_takeBack 8 = .ok (.istore 4, 2) := by decide +kernel
theorem dX8_takeBack_10 : decode cX8_takeBack 10 = .ok (.iload 4, 2) := by decide +kernel
theorem dX8_takeBack_12 : decode cX8_takeBack 12 = .ok (.ifCond .ge 14, 3) := by decide +kernel
theorem dX8_takeBack_15 : decode cX8_takeBack 15 = .ok (.aload_n 1, 1) := by decide +kernel
theorem dX8_takeBack_16 : decode cX8_takeBack 16 = .ok (.getfield 98, 3) := by decide +kernel
theorem dX8_takeBack_19 : decode cX8_takeBack 19 = .ok (.iload_n 2, 1) := by decide +kernel
theorem dX8_takeBack_20 : decode cX8_takeBack 20 = .ok (.invokevirtual 138, 3) := by decide +kernel
theorem dX8_takeBack_23 : decode cX8_takeBack 23 = .ok (.pop, 1) := by decide +kernel
theorem dX8_takeBack_24 : decode cX8_takeBack 24 = .ok (.iconst 0, 1) := by decide +kernel
theorem dX8_takeBack_25 : decode cX8_takeBack 25 = .ok (.ireturn, 1) := by decide +kernel
theorem dX8_takeBack_26 : decode cX8_takeBack 26 = .ok (.aload_n 0, 1) := by decide +kernel
theorem dX8_takeBack_27 : decode cX8_takeBack 27 = .ok (.invokevirtual 83, 3) := by decide +kernel
theorem dX8_takeBack_30 : decode cX8_takeBack 30 = .ok (.aload_n 1, 1) := by decide +kernel
theorem dX8_takeBack_31 : decode cX8_takeBack 31 = .ok (.getfield 98, 3) := by decide +kernel
theorem dX8_takeBack_34 : decode cX8_takeBack 34 = .ok (.iload_n 2, 1) := by decide +kernel
theorem dX8_takeBack_35 : decode cX8_takeBack 35 = .ok (.invokevirtual 138, 3) := by decide +kernel
theorem dX8_takeBack_38 : decode cX8_takeBack 38 = .ok (.pop, 1) := by decide +kernel
theorem dX8_takeBack_39 : decode cX8_takeBack 39 = .ok (.aload_n 1, 1) := by decide +kernel
theorem dX8_takeBack_40 : decode cX8_takeBack 40 = .ok (.new 220, 3) := by decide +kernel
theorem dX8_takeBack_43 : decode cX8_takeBack 43 = .ok (.dup, 1) := by decide +kernel
theorem dX8_takeBack_44 : decode cX8_takeBack 44 = .ok (.aload_n 1, 1) := by decide +kernel
theorem dX8_takeBack_45 : decode cX8_takeBack 45 = .ok (.getfield 164, 3) := by decide +kernel
theorem dX8_takeBack_48 : decode cX8_takeBack 48 = .ok (.bipush 100, 2) := by decide +kernel
theorem dX8_takeBack_50 : decode cX8_takeBack 50 = .ok (.iload 4, 2) := by decide +kernel
theorem dX8_takeBack_52 : decode cX8_takeBack 52 = .ok (.aload_n 3, 1) := by decide +kernel
theorem dX8_takeBack_53 : decode cX8_takeBack 53 = .ok (.invokespecial 278, 3) := by decide +kernel
theorem dX8_takeBack_56 : decode cX8_takeBack 56 = .ok (.invokevirtual 281, 3) := by decide +kernel
theorem dX8_takeBack_59 : decode cX8_takeBack 59 = .ok (.aload_n 0, 1) := by decide +kernel
theorem dX8_takeBack_60 : decode cX8_takeBack 60 = .ok (.dup, 1) := by decide +kernel
theorem dX8_takeBack_61 : decode cX8_takeBack 61 = .ok (.getfield 42, 3) := by decide +kernel
theorem dX8_takeBack_64 : decode cX8_takeBack 64 = .ok (.iconst 1, 1) := by decide +kernel
theorem dX8_takeBack_65 : decode cX8_takeBack 65 = .ok (.iadd, 1) := by decide +kernel
theorem dX8_takeBack_66 : decode cX8_takeBack 66 = .ok (.putfield 42, 3) := by decide +kernel
theorem dX8_takeBack_69 : decode cX8_takeBack 69 = .ok (.iconst 1, 1) := by decide +kernel
theorem dX8_takeBack_70 : decode cX8_takeBack 70 = .ok (.ireturn, 1) := by decide +kernel
theorem dX8_putBack_0 : decode cX8_putBack 0 = .ok (.aload_n 0, 1) := by decide +kernel
theorem dX8_putBack_1 : decode cX8_putBack 1 = .ok (.aload_n 1, 1) := by decide +kernel
theorem dX8_putBack_2 : decode cX8_putBack 2 = .ok (.invokevirtual 68, 3) := by decide +kernel
theorem dX8_putBack_5 : decode cX8_putBack 5 = .ok (.aload_n 1, 1) := by decide +kernel
theorem dX8_putBack_6 : decode cX8_putBack 6 = .ok (.getfield 98, 3) := by decide +kernel
theorem dX8_putBack_9 : decode cX8_putBack 9 = .ok (.iload_n 2, 1) := by decide +kernel
theorem dX8_putBack_10 : decode cX8_putBack 10 = .ok (.invokevirtual 138, 3) := by decide +kernel
theorem dX8_putBack_13 : decode cX8_putBack 13 = .ok (.pop, 1) := by decide +kernel
theorem dX8_putBack_14 : decode cX8_putBack 14 = .ok (.new 181, 3) := by decide +kernel
theorem dX8_putBack_17 : decode cX8_putBack 17 = .ok (.dup, 1) := by decide +kernel
theorem dX8_putBack_18 : decode cX8_putBack 18 = .ok (.aload_n 3, 1) := by decide +kernel
theorem dX8_putBack_19 : decode cX8_putBack 19 = .ok (.getfield 117, 3) := by decide +kernel
theorem dX8_putBack_22 : decode cX8_putBack 22 = .ok (.getfield 180, 3) := by decide +kernel
theorem dX8_putBack_25 : decode cX8_putBack 25 = .ok (.aload_n 1, 1) := by decide +kernel
theorem dX8_putBack_26 : decode cX8_putBack 26 = .ok (.getfield 164, 3) := by decide +kernel
theorem dX8_putBack_29 : decode cX8_putBack 29 = .ok (.invokespecial 275, 3) := by decide +kernel
theorem dX8_putBack_32 : decode cX8_putBack 32 = .ok (.astore 4, 2) := by decide +kernel
theorem dX8_putBack_34 : decode cX8_putBack 34 = .ok (.aload_n 1, 1) := by decide +kernel
theorem dX8_putBack_35 : decode cX8_putBack 35 = .ok (.new 220, 3) := by decide +kernel
theorem dX8_putBack_38 : decode cX8_putBack 38 = .ok (.dup, 1) := by decide +kernel
theorem dX8_putBack_39 : decode cX8_putBack 39 = .ok (.aload_n 1, 1) := by decide +kernel
theorem dX8_putBack_40 : decode cX8_putBack 40 = .ok (.getfield 164, 3) := by decide +kernel
theorem dX8_putBack_43 : decode cX8_putBack 43 = .ok (.bipush 105, 2) := by decide +kernel
theorem dX8_putBack_45 : decode cX8_putBack 45 = .ok (.aload_n 3, 1) := by decide +kernel
theorem dX8_putBack_46 : decode cX8_putBack 46 = .ok (.getfield 292, 3) := by decide +kernel
theorem dX8_putBack_49 : decode cX8_putBack 49 = .ok (.aload 4, 2) := by decide +kernel
theorem dX8_putBack_51 : decode cX8_putBack 51 = .ok (.invokespecial 278, 3) := by decide +kernel
theorem dX8_putBack_54 : decode cX8_putBack 54 = .ok (.invokevirtual 281, 3) := by decide +kernel
theorem dX8_putBack_57 : decode cX8_putBack 57 = .ok (.aload_n 0, 1) := by decide +kernel
theorem dX8_putBack_58 : decode cX8_putBack 58 = .ok (.dup, 1) := by decide +kernel
theorem dX8_putBack_59 : decode cX8_putBack 59 = .ok (.getfield 42, 3) := by decide +kernel
theorem dX8_putBack_62 : decode cX8_putBack 62 = .ok (.iconst 1, 1) := by decide +kernel
theorem dX8_putBack_63 : decode cX8_putBack 63 = .ok (.iadd, 1) := by decide +kernel
theorem dX8_putBack_64 : decode cX8_putBack 64 = .ok (.putfield 42, 3) := by decide +kernel
theorem dX8_putBack_67 : decode cX8_putBack 67 = .ok (.iconst 1, 1) := by decide +kernel
theorem dX8_putBack_68 : decode cX8_putBack 68 = .ok (.ireturn, 1) := by decide +kernel
theorem dX8_rebuild_0 : decode cX8_rebuild 0 = .ok (.aload_n 0, 1) := by decide +kernel
theorem dX8_rebuild_1 : decode cX8_rebuild 1 = .ok (.getfield 31, 3) := by decide +kernel
theorem dX8_rebuild_4 : decode cX8_rebuild 4 = .ok (.getfield 268, 3) := by decide +kernel
theorem dX8_rebuild_7 : decode cX8_rebuild 7 = .ok (.invokevirtual 295, 3) := by decide +kernel
theorem dX8_rebuild_10 : decode cX8_rebuild 10 = .ok (.iconst 0, 1) := by decide +kernel
theorem dX8_rebuild_11 : decode cX8_rebuild 11 = .ok (.istore_n 2, 1) := by decide +kernel
theorem dX8_rebuild_12 : decode cX8_rebuild 12 = .ok (.iload_n 2, 1) := by decide +kernel
theorem dX8_rebuild_13 : decode cX8_rebuild 13 = .ok (.aload_n 1, 1) := by decide +kernel
theorem dX8_rebuild_14 : decode cX8_rebuild 14 = .ok (.getfield 196, 3) := by decide +kernel
theorem dX8_rebuild_17 : decode cX8_rebuild 17 = .ok (.if_icmp .ge 47, 3) := by decide +kernel
theorem dX8_rebuild_20 : decode cX8_rebuild 20 = .ok (.iload_n 2, 1) := by decide +kernel
theorem dX8_rebuild_21 : decode cX8_rebuild 21 = .ok (.aload_n 0, 1) := by decide +kernel
theorem dX8_rebuild_22 : decode cX8_rebuild 22 = .ok (.getfield 24, 3) := by decide +kernel
theorem dX8_rebuild_25 : decode cX8_rebuild 25 = .ok (.getfield 208, 3) := by decide +kernel
theorem dX8_rebuild_28 : decode cX8_rebuild 28 = .ok (.invokevirtual 102, 3) := by decide +kernel
theorem dX8_rebuild_31 : decode cX8_rebuild 31 = .ok (.if_icmp .ge 33, 3) := by decide +kernel
theorem dX8_rebuild_34 : decode cX8_rebuild 34 = .ok (.aload_n 0, 1) := by decide +kernel
theorem dX8_rebuild_35 : decode cX8_rebuild 35 = .ok (.getfield 31, 3) := by decide +kernel
theorem dX8_rebuild_38 : decode cX8_rebuild 38 = .ok (.aload_n 0, 1) := by decide +kernel
theorem dX8_rebuild_39 : decode cX8_rebuild 39 = .ok (.getfield 24, 3) := by decide +kernel
theorem dX8_rebuild_42 : decode cX8_rebuild 42 = .ok (.getfield 208, 3) := by decide +kernel
theorem dX8_rebuild_45 : decode cX8_rebuild 45 = .ok (.iload_n 2, 1) := by decide +kernel
theorem dX8_rebuild_46 : decode cX8_rebuild 46 = .ok (.invokevirtual 107, 3) := by decide +kernel
theorem dX8_rebuild_49 : decode cX8_rebuild 49 = .ok (.checkcast 141, 3) := by decide +kernel
theorem dX8_rebuild_52 : decode cX8_rebuild 52 = .ok (.getfield 154, 3) := by decide +kernel
theorem dX8_rebuild_55 : decode cX8_rebuild 55 = .ok (.invokevirtual 298, 3) := by decide +kernel
theorem dX8_rebuild_58 : decode cX8_rebuild 58 = .ok (.iinc 2 1, 3) := by decide +kernel
theorem dX8_rebuild_61 : decode cX8_rebuild 61 = .ok (.goto (-49), 3) := by decide +kernel
theorem dX8_rebuild_64 : decode cX8_rebuild 64 = .ok (.aload_n 0, 1) := by decide +kernel
theorem dX8_rebuild_65 : decode cX8_rebuild 65 = .ok (.getfield 31, 3) := by decide +kernel
theorem dX8_rebuild_68 : decode cX8_rebuild 68 = .ok (.aload_n 1, 1) := by decide +kernel
theorem dX8_rebuild_69 : decode cX8_rebuild 69 = .ok (.getfield 199, 3) := by decide +kernel
theorem dX8_rebuild_72 : decode cX8_rebuild 72 = .ok (.invokevirtual 298, 3) := by decide +kernel
theorem dX8_rebuild_75 : decode cX8_rebuild 75 = .ok (.aload_n 0, 1) := by decide +kernel
theorem dX8_rebuild_76 : decode cX8_rebuild 76 = .ok (.getfield 31, 3) := by decide +kernel
theorem dX8_rebuild_79 : decode cX8_rebuild 79 = .ok (.aload_n 1, 1) := by decide +kernel
theorem dX8_rebuild_80 : decode cX8_rebuild 80 = .ok (.getfield 202, 3) := by decide +kernel
theorem dX8_rebuild_83 : decode cX8_rebuild 83 = .ok (.invokevirtual 298, 3) := by decide +kernel
theorem dX8_rebuild_86 : decode cX8_rebuild 86 = .ok (.return_, 1) := by decide +kernel
theorem dJx00060_init_a7421_0 : decode cJx00060_init_a7421 0 = .ok (.aload_n 0, 1) := by decide +kernel
theorem dJx00060_init_a7421_1 : decode cJx00060_init_a7421 1 = .ok (.aload_n 1, 1) := by decide +kernel
theorem dJx00060_init_a7421_2 : decode cJx00060_init_a7421 2 = .ok (.invokespecial 7, 3) := by decide +kernel
theorem dJx00060_init_a7421_5 : decode cJx00060_init_a7421 5 = .ok (.return_, 1) := by decide +kernel
theorem dJxa1e45_init_da8c8_0 : decode cJxa1e45_init_da8c8 0 = .ok (.aload_n 0, 1) := by decide +kernel
theorem dJxa1e45_init_da8c8_1 : decode cJxa1e45_init_da8c8 1 = .ok (.invokespecial 1, 3) := by decide +kernel
theorem dJxa1e45_init_da8c8_4 : decode cJxa1e45_init_da8c8 4 = .ok (.return_, 1) := by decide +kernel
theorem dJx4a65c_init_da8c8_0 : decode cJx4a65c_init_da8c8 0 = .ok (.aload_n 0, 1) := by decide +kernel
theorem dJx4a65c_init_da8c8_1 : decode cJx4a65c_init_da8c8 1 = .ok (.invokespecial 1, 3) := by decide +kernel
theorem dJx4a65c_init_da8c8_4 : decode cJx4a65c_init_da8c8 4 = .ok (.aload_n 0, 1) := by decide +kernel
theorem dJx4a65c_init_da8c8_5 : decode cJx4a65c_init_da8c8 5 = .ok (.getstatic 39, 3) := by decide +kernel
theorem dJx4a65c_init_da8c8_8 : decode cJx4a65c_init_da8c8 8 = .ok (.putfield 9, 3) := by decide +kernel
theorem dJx4a65c_init_da8c8_11 : decode cJx4a65c_init_da8c8 11 = .ok (.return_, 1) := by decide +kernel
theorem dJx4a65c_grow_92f84_0 : decode cJx4a65c_grow_92f84 0 = .ok (.aload_n 0, 1) := by decide +kernel
theorem dJx4a65c_grow_92f84_1 : decode cJx4a65c_grow_92f84 1 = .ok (.getfield 9, 3) := by decide +kernel
theorem dJx4a65c_grow_92f84_4 : decode cJx4a65c_grow_92f84 4 = .ok (.arraylength, 1) := by decide +kernel
theorem dJx4a65c_grow_92f84_5 : decode cJx4a65c_grow_92f84 5 = .ok (.istore_n 2, 1) := by decide +kernel
theorem dJx4a65c_grow_92f84_6 : decode cJx4a65c_grow_92f84 6 = .ok (.iload_n 2, 1) := by decide +kernel
theorem dJx4a65c_grow_92f84_7 : decode cJx4a65c_grow_92f84 7 = .ok (.ifCond .gt 13, 3) := by decide +kernel
theorem dJx4a65c_grow_92f84_10 : decode cJx4a65c_grow_92f84 10 = .ok (.aload_n 0, 1) := by decide +kernel
theorem dJx4a65c_grow_92f84_11 : decode cJx4a65c_grow_92f84 11 = .ok (.getfield 9, 3) := by decide +kernel
theorem dJx4a65c_grow_92f84_14 : decode cJx4a65c_grow_92f84 14 = .ok (.getstatic 39, 3) := by decide +kernel
theorem dJx4a65c_grow_92f84_17 : decode cJx4a65c_grow_92f84 17 = .ok (.if_acmp .eq 28, 3) := by decide +kernel
theorem dJx4a65c_grow_92f84_20 : decode cJx4a65c_grow_92f84 20 = .ok (.iload_n 2, 1) := by decide +kernel
theorem dJx4a65c_grow_92f84_21 : decode cJx4a65c_grow_92f84 21 = .ok (.iload_n 1, 1) := by decide +kernel
theorem dJx4a65c_grow_92f84_22 : decode cJx4a65c_grow_92f84 22 = .ok (.iload_n 2, 1) := by decide +kernel
theorem dJx4a65c_grow_92f84_23 : decode cJx4a65c_grow_92f84 23 = .ok (.isub, 1) := by decide +kernel
theorem dJx4a65c_grow_92f84_24 : decode cJx4a65c_grow_92f84 24 = .ok (.iload_n 2, 1) := by decide +kernel
theorem dJx4a65c_grow_92f84_25 : decode cJx4a65c_grow_92f84 25 = .ok (.iconst 1, 1) := by decide +kernel
theorem dJx4a65c_grow_92f84_26 : decode cJx4a65c_grow_92f84 26 = .ok (.ishr, 1) := by decide +kernel
theorem dJx4a65c_grow_92f84_27 : decode cJx4a65c_grow_92f84 27 = .ok (.invokestatic 73, 3) := by decide +kernel
theorem dJx4a65c_grow_92f84_30 : decode cJx4a65c_grow_92f84 30 = .ok (.istore_n 3, 1) := by decide +kernel
theorem dJx4a65c_grow_92f84_31 : decode cJx4a65c_grow_92f84 31 = .ok (.aload_n 0, 1) := by decide +kernel
theorem dJx4a65c_grow_92f84_32 : decode cJx4a65c_grow_92f84 32 = .ok (.aload_n 0, 1) := by decide +kernel
theorem dJx4a65c_grow_92f84_33 : decode cJx4a65c_grow_92f84 33 = .ok (.getfield 9, 3) := by decide +kernel
theorem dJx4a65c_grow_92f84_36 : decode cJx4a65c_grow_92f84 36 = .ok (.iload_n 3, 1) := by decide +kernel
theorem dJx4a65c_grow_92f84_37 : decode cJx4a65c_grow_92f84 37 = .ok (.invokestatic 66, 3) := by decide +kernel
theorem dJx4a65c_grow_92f84_40 : decode cJx4a65c_grow_92f84 40 = .ok (.dup_x1, 1) := by decide +kernel
theorem dJx4a65c_grow_92f84_41 : decode cJx4a65c_grow_92f84 41 = .ok (.putfield 9, 3) := by decide +kernel
theorem dJx4a65c_grow_92f84_44 : decode cJx4a65c_grow_92f84 44 = .ok (.areturn, 1) := by decide +kernel
theorem dJx4a65c_grow_92f84_45 : decode cJx4a65c_grow_92f84 45 = .ok (.aload_n 0, 1) := by decide +kernel
theorem dJx4a65c_grow_92f84_46 : decode cJx4a65c_grow_92f84 46 = .ok (.bipush 10, 2) := by decide +kernel
theorem dJx4a65c_grow_92f84_48 : decode cJx4a65c_grow_92f84 48 = .ok (.iload_n 1, 1) := by decide +kernel
theorem dJx4a65c_grow_92f84_49 : decode cJx4a65c_grow_92f84 49 = .ok (.invokestatic 79, 3) := by decide +kernel
theorem dJx4a65c_grow_92f84_52 : decode cJx4a65c_grow_92f84 52 = .ok (.anewarray 7, 3) := by decide +kernel
theorem dJx4a65c_grow_92f84_55 : decode cJx4a65c_grow_92f84 55 = .ok (.dup_x1, 1) := by decide +kernel
theorem dJx4a65c_grow_92f84_56 : decode cJx4a65c_grow_92f84 56 = .ok (.putfield 9, 3) := by decide +kernel
theorem dJx4a65c_grow_92f84_59 : decode cJx4a65c_grow_92f84 59 = .ok (.areturn, 1) := by decide +kernel
theorem dJx4a65c_grow_d5877_0 : decode cJx4a65c_grow_d5877 0 = .ok (.aload_n 0, 1) := by decide +kernel
theorem dJx4a65c_grow_d5877_1 : decode cJx4a65c_grow_d5877 1 = .ok (.aload_n 0, 1) := by decide +kernel
theorem dJx4a65c_grow_d5877_2 : decode cJx4a65c_grow_d5877 2 = .ok (.getfield 48, 3) := by decide +kernel
theorem dJx4a65c_grow_d5877_5 : decode cJx4a65c_grow_d5877 5 = .ok (.iconst 1, 1) := by decide +kernel
theorem dJx4a65c_grow_d5877_6 : decode cJx4a65c_grow_d5877 6 = .ok (.iadd, 1) := by decide +kernel
theorem dJx4a65c_grow_d5877_7 : decode cJx4a65c_grow_d5877 7 = .ok (.invokevirtual 69, 3) := by decide +kernel
theorem dJx4a65c_grow_d5877_10 : decode cJx4a65c_grow_d5877 10 = .ok (.areturn, 1) := by decide +kernel
theorem dJx4a65c_size_8abf5_0 : decode cJx4a65c_size_8abf5 0 = .ok (.aload_n 0, 1) := by decide +kernel
theorem dJx4a65c_size_8abf5_1 : decode cJx4a65c_size_8abf5 1 = .ok (.getfield 48, 3) := by decide +kernel
theorem dJx4a65c_size_8abf5_4 : decode cJx4a65c_size_8abf5 4 = .ok (.ireturn, 1) := by decide +kernel
theorem dJx4a65c_isEmpty_aae02_0 : decode cJx4a65c_isEmpty_aae02 0 = .ok (.aload_n 0, 1) := by decide +kernel
theorem dJx4a65c_isEmpty_aae02_1 : decode cJx4a65c_isEmpty_aae02 1 = .ok (.getfield 48, 3) := by decide +kernel
theorem dJx4a65c_isEmpty_aae02_4 : decode cJx4a65c_isEmpty_aae02 4 = .ok (.ifCond .ne 7, 3) := by decide +kernel
theorem dJx4a65c_isEmpty_aae02_7 : decode cJx4a65c_isEmpty_aae02 7 = .ok (.iconst 1, 1) := by decide +kernel
theorem dJx4a65c_isEmpty_aae02_8 : decode cJx4a65c_isEmpty_aae02 8 = .ok (.goto 4, 3) := by decide +kernel
theorem dJx4a65c_isEmpty_aae02_11 : decode cJx4a65c_isEmpty_aae02 11 = .ok (.iconst 0, 1) := by decide +kernel
theorem dJx4a65c_isEmpty_aae02_12 : decode cJx4a65c_isEmpty_aae02 12 = .ok (.ireturn, 1) := by decide +kernel
theorem dJx4a65c_elementData_915e3_0 : decode cJx4a65c_elementData_915e3 0 = .ok (.aload_n 0, 1) := by decide +kernel
theorem dJx4a65c_elementData_915e3_1 : decode cJx4a65c_elementData_915e3 1 = .ok (.getfield 9, 3) := by decide +kernel
theorem dJx4a65c_elementData_915e3_4 : decode cJx4a65c_elementData_915e3 4 = .ok (.iload_n 1, 1) := by decide +kernel
theorem dJx4a65c_elementData_915e3_5 : decode cJx4a65c_elementData_915e3 5 = .ok (.aaload, 1) := by decide +kernel
theorem dJx4a65c_elementData_915e3_6 : decode cJx4a65c_elementData_915e3 6 = .ok (.areturn, 1) := by decide +kernel
theorem dJx4a65c_get_915e3_0 : decode cJx4a65c_get_915e3 0 = .ok (.iload_n 1, 1) := by decide +kernel
theorem dJx4a65c_get_915e3_1 : decode cJx4a65c_get_915e3 1 = .ok (.aload_n 0, 1) := by decide +kernel
theorem dJx4a65c_get_915e3_2 : decode cJx4a65c_get_915e3 2 = .ok (.getfield 48, 3) := by decide +kernel
theorem dJx4a65c_get_915e3_5 : decode cJx4a65c_get_915e3 5 = .ok (.invokestatic 118, 3) := by decide +kernel
theorem dJx4a65c_get_915e3_8 : decode cJx4a65c_get_915e3 8 = .ok (.pop, 1) := by decide +kernel
theorem dJx4a65c_get_915e3_9 : decode cJx4a65c_get_915e3 9 = .ok (.aload_n 0, 1) := by decide +kernel
theorem dJx4a65c_get_915e3_10 : decode cJx4a65c_get_915e3 10 = .ok (.iload_n 1, 1) := by decide +kernel
theorem dJx4a65c_get_915e3_11 : decode cJx4a65c_get_915e3 11 = .ok (.invokevirtual 123, 3) := by decide +kernel
theorem dJx4a65c_get_915e3_14 : decode cJx4a65c_get_915e3 14 = .ok (.areturn, 1) := by decide +kernel
theorem dJx4a65c_add_72be8_0 : decode cJx4a65c_add_72be8 0 = .ok (.iload_n 3, 1) := by decide +kernel
theorem dJx4a65c_add_72be8_1 : decode cJx4a65c_add_72be8 1 = .ok (.aload_n 2, 1) := by decide +kernel
theorem dJx4a65c_add_72be8_2 : decode cJx4a65c_add_72be8 2 = .ok (.arraylength, 1) := by decide +kernel
theorem dJx4a65c_add_72be8_3 : decode cJx4a65c_add_72be8 3 = .ok (.if_icmp .ne 8, 3) := by decide +kernel
theorem dJx4a65c_add_72be8_6 : decode cJx4a65c_add_72be8 6 = .ok (.aload_n 0, 1) := by decide +kernel
theorem dJx4a65c_add_72be8_7 : decode cJx4a65c_add_72be8 7 = .ok (.invokevirtual 129, 3) := by decide +kernel
theorem dJx4a65c_add_72be8_10 : decode cJx4a65c_add_72be8 10 = .ok (.astore_n 2, 1) := by decide +kernel
theorem dJx4a65c_add_72be8_11 : decode cJx4a65c_add_72be8 11 = .ok (.aload_n 2, 1) := by decide +kernel
theorem dJx4a65c_add_72be8_12 : decode cJx4a65c_add_72be8 12 = .ok (.iload_n 3, 1) := by decide +kernel
theorem dJx4a65c_add_72be8_13 : decode cJx4a65c_add_72be8 13 = .ok (.aload_n 1, 1) := by decide +kernel
theorem dJx4a65c_add_72be8_14 : decode cJx4a65c_add_72be8 14 = .ok (.aastore, 1) := by decide +kernel
theorem dJx4a65c_add_72be8_15 : decode cJx4a65c_add_72be8 15 = .ok (.aload_n 0, 1) := by decide +kernel
theorem dJx4a65c_add_72be8_16 : decode cJx4a65c_add_72be8 16 = .ok (.iload_n 3, 1) := by decide +kernel
theorem dJx4a65c_add_72be8_17 : decode cJx4a65c_add_72be8 17 = .ok (.iconst 1, 1) := by decide +kernel
theorem dJx4a65c_add_72be8_18 : decode cJx4a65c_add_72be8 18 = .ok (.iadd, 1) := by decide +kernel
theorem dJx4a65c_add_72be8_19 : decode cJx4a65c_add_72be8 19 = .ok (.putfield 48, 3) := by decide +kernel
theorem dJx4a65c_add_72be8_22 : decode cJx4a65c_add_72be8 22 = .ok (.return_, 1) := by decide +kernel
theorem dJx4a65c_add_9ea2d_0 : decode cJx4a65c_add_9ea2d 0 = .ok (.aload_n 0, 1) := by decide +kernel
theorem dJx4a65c_add_9ea2d_1 : decode cJx4a65c_add_9ea2d 1 = .ok (.dup, 1) := by decide +kernel
theorem dJx4a65c_add_9ea2d_2 : decode cJx4a65c_add_9ea2d 2 = .ok (.getfield 63, 3) := by decide +kernel
theorem dJx4a65c_add_9ea2d_5 : decode cJx4a65c_add_9ea2d 5 = .ok (.iconst 1, 1) := by decide +kernel
theorem dJx4a65c_add_9ea2d_6 : decode cJx4a65c_add_9ea2d 6 = .ok (.iadd, 1) := by decide +kernel
theorem dJx4a65c_add_9ea2d_7 : decode cJx4a65c_add_9ea2d 7 = .ok (.putfield 63, 3) := by decide +kernel
theorem dJx4a65c_add_9ea2d_10 : decode cJx4a65c_add_9ea2d 10 = .ok (.aload_n 0, 1) := by decide +kernel
theorem dJx4a65c_add_9ea2d_11 : decode cJx4a65c_add_9ea2d 11 = .ok (.aload_n 1, 1) := by decide +kernel
theorem dJx4a65c_add_9ea2d_12 : decode cJx4a65c_add_9ea2d 12 = .ok (.aload_n 0, 1) := by decide +kernel
theorem dJx4a65c_add_9ea2d_13 : decode cJx4a65c_add_9ea2d 13 = .ok (.getfield 9, 3) := by decide +kernel
theorem dJx4a65c_add_9ea2d_16 : decode cJx4a65c_add_9ea2d 16 = .ok (.aload_n 0, 1) := by decide +kernel
theorem dJx4a65c_add_9ea2d_17 : decode cJx4a65c_add_9ea2d 17 = .ok (.getfield 48, 3) := by decide +kernel
theorem dJx4a65c_add_9ea2d_20 : decode cJx4a65c_add_9ea2d 20 = .ok (.invokevirtual 131, 3) := by decide +kernel
theorem dJx4a65c_add_9ea2d_23 : decode cJx4a65c_add_9ea2d 23 = .ok (.iconst 1, 1) := by decide +kernel
theorem dJx4a65c_add_9ea2d_24 : decode cJx4a65c_add_9ea2d 24 = .ok (.ireturn, 1) := by decide +kernel
theorem dJx4a65c_add_7a177_0 : decode cJx4a65c_add_7a177 0 = .ok (.aload_n 0, 1) := by decide +kernel
theorem dJx4a65c_add_7a177_1 : decode cJx4a65c_add_7a177 1 = .ok (.iload_n 1, 1) := by decide +kernel
theorem dJx4a65c_add_7a177_2 : decode cJx4a65c_add_7a177 2 = .ok (.invokevirtual 135, 3) := by decide +kernel
theorem dJx4a65c_add_7a177_5 : decode cJx4a65c_add_7a177 5 = .ok (.aload_n 0, 1) := by decide +kernel
theorem dJx4a65c_add_7a177_6 : decode cJx4a65c_add_7a177 6 = .ok (.dup, 1) := by decide +kernel
theorem dJx4a65c_add_7a177_7 : decode cJx4a65c_add_7a177 7 = .ok (.getfield 63, 3) := by decide +kernel
theorem dJx4a65c_add_7a177_10 : decode cJx4a65c_add_7a177 10 = .ok (.iconst 1, 1) := by decide +kernel
theorem dJx4a65c_add_7a177_11 : decode cJx4a65c_add_7a177 11 = .ok (.iadd, 1) := by decide +kernel
theorem dJx4a65c_add_7a177_12 : decode cJx4a65c_add_7a177 12 = .ok (.putfield 63, 3) := by decide +kernel
theorem dJx4a65c_add_7a177_15 : decode cJx4a65c_add_7a177 15 = .ok (.aload_n 0, 1) := by decide +kernel
theorem dJx4a65c_add_7a177_16 : decode cJx4a65c_add_7a177 16 = .ok (.getfield 48, 3) := by decide +kernel
theorem dJx4a65c_add_7a177_19 : decode cJx4a65c_add_7a177 19 = .ok (.dup, 1) := by decide +kernel
theorem dJx4a65c_add_7a177_20 : decode cJx4a65c_add_7a177 20 = .ok (.istore_n 3, 1) := by decide +kernel
theorem dJx4a65c_add_7a177_21 : decode cJx4a65c_add_7a177 21 = .ok (.aload_n 0, 1) := by decide +kernel
theorem dJx4a65c_add_7a177_22 : decode cJx4a65c_add_7a177 22 = .ok (.getfield 9, 3) := by decide +kernel
theorem dJx4a65c_add_7a177_25 : decode cJx4a65c_add_7a177 25 = .ok (.dup, 1) := by decide +kernel
theorem dJx4a65c_add_7a177_26 : decode cJx4a65c_add_7a177 26 = .ok (.astore 4, 2) := by decide +kernel
theorem dJx4a65c_add_7a177_28 : decode cJx4a65c_add_7a177 28 = .ok (.arraylength, 1) := by decide +kernel
theorem dJx4a65c_add_7a177_29 : decode cJx4a65c_add_7a177 29 = .ok (.if_icmp .ne 9, 3) := by decide +kernel
theorem dJx4a65c_add_7a177_32 : decode cJx4a65c_add_7a177 32 = .ok (.aload_n 0, 1) := by decide +kernel
theorem dJx4a65c_add_7a177_33 : decode cJx4a65c_add_7a177 33 = .ok (.invokevirtual 129, 3) := by decide +kernel
theorem dJx4a65c_add_7a177_36 : decode cJx4a65c_add_7a177 36 = .ok (.astore 4, 2) := by decide +kernel
theorem dJx4a65c_add_7a177_38 : decode cJx4a65c_add_7a177 38 = .ok (.aload 4, 2) := by decide +kernel
theorem dJx4a65c_add_7a177_40 : decode cJx4a65c_add_7a177 40 = .ok (.iload_n 1, 1) := by decide +kernel
theorem dJx4a65c_add_7a177_41 : decode cJx4a65c_add_7a177 41 = .ok (.aload 4, 2) := by decide +kernel
theorem dJx4a65c_add_7a177_43 : decode cJx4a65c_add_7a177 43 = .ok (.iload_n 1, 1) := by decide +kernel
theorem dJx4a65c_add_7a177_44 : decode cJx4a65c_add_7a177 44 = .ok (.iconst 1, 1) := by decide +kernel
theorem dJx4a65c_add_7a177_45 : decode cJx4a65c_add_7a177 45 = .ok (.iadd, 1) := by decide +kernel
theorem dJx4a65c_add_7a177_46 : decode cJx4a65c_add_7a177 46 = .ok (.iload_n 3, 1) := by decide +kernel
theorem dJx4a65c_add_7a177_47 : decode cJx4a65c_add_7a177 47 = .ok (.iload_n 1, 1) := by decide +kernel
theorem dJx4a65c_add_7a177_48 : decode cJx4a65c_add_7a177 48 = .ok (.isub, 1) := by decide +kernel
theorem dJx4a65c_add_7a177_49 : decode cJx4a65c_add_7a177 49 = .ok (.invokestatic 112, 3) := by decide +kernel
theorem dJx4a65c_add_7a177_52 : decode cJx4a65c_add_7a177 52 = .ok (.aload 4, 2) := by decide +kernel
theorem dJx4a65c_add_7a177_54 : decode cJx4a65c_add_7a177 54 = .ok (.iload_n 1, 1) := by decide +kernel
theorem dJx4a65c_add_7a177_55 : decode cJx4a65c_add_7a177 55 = .ok (.aload_n 2, 1) := by decide +kernel
theorem dJx4a65c_add_7a177_56 : decode cJx4a65c_add_7a177 56 = .ok (.aastore, 1) := by decide +kernel
theorem dJx4a65c_add_7a177_57 : decode cJx4a65c_add_7a177 57 = .ok (.aload_n 0, 1) := by decide +kernel
theorem dJx4a65c_add_7a177_58 : decode cJx4a65c_add_7a177 58 = .ok (.iload_n 3, 1) := by decide +kernel
theorem dJx4a65c_add_7a177_59 : decode cJx4a65c_add_7a177 59 = .ok (.iconst 1, 1) := by decide +kernel
theorem dJx4a65c_add_7a177_60 : decode cJx4a65c_add_7a177 60 = .ok (.iadd, 1) := by decide +kernel
theorem dJx4a65c_add_7a177_61 : decode cJx4a65c_add_7a177 61 = .ok (.putfield 48, 3) := by decide +kernel
theorem dJx4a65c_add_7a177_64 : decode cJx4a65c_add_7a177 64 = .ok (.return_, 1) := by decide +kernel
theorem dJx4a65c_remove_915e3_0 : decode cJx4a65c_remove_915e3 0 = .ok (.iload_n 1, 1) := by decide +kernel
theorem dJx4a65c_remove_915e3_1 : decode cJx4a65c_remove_915e3 1 = .ok (.aload_n 0, 1) := by decide +kernel
theorem dJx4a65c_remove_915e3_2 : decode cJx4a65c_remove_915e3 2 = .ok (.getfield 48, 3) := by decide +kernel
theorem dJx4a65c_remove_915e3_5 : decode cJx4a65c_remove_915e3 5 = .ok (.invokestatic 118, 3) := by decide +kernel
theorem dJx4a65c_remove_915e3_8 : decode cJx4a65c_remove_915e3 8 = .ok (.pop, 1) := by decide +kernel
theorem dJx4a65c_remove_915e3_9 : decode cJx4a65c_remove_915e3 9 = .ok (.aload_n 0, 1) := by decide +kernel
theorem dJx4a65c_remove_915e3_10 : decode cJx4a65c_remove_915e3 10 = .ok (.getfield 9, 3) := by decide +kernel
theorem dJx4a65c_remove_915e3_13 : decode cJx4a65c_remove_915e3 13 = .ok (.astore_n 2, 1) := by decide +kernel
theorem dJx4a65c_remove_915e3_14 : decode cJx4a65c_remove_915e3 14 = .ok (.aload_n 2, 1) := by decide +kernel
theorem dJx4a65c_remove_915e3_15 : decode cJx4a65c_remove_915e3 15 = .ok (.iload_n 1, 1) := by decide +kernel
theorem dJx4a65c_remove_915e3_16 : decode cJx4a65c_remove_915e3 16 = .ok (.aaload, 1) := by decide +kernel
theorem dJx4a65c_remove_915e3_17 : decode cJx4a65c_remove_915e3 17 = .ok (.astore_n 3, 1) := by decide +kernel
theorem dJx4a65c_remove_915e3_18 : decode cJx4a65c_remove_915e3 18 = .ok (.aload_n 0, 1) := by decide +kernel
theorem dJx4a65c_remove_915e3_19 : decode cJx4a65c_remove_915e3 19 = .ok (.aload_n 2, 1) := by decide +kernel
theorem dJx4a65c_remove_915e3_20 : decode cJx4a65c_remove_915e3 20 = .ok (.iload_n 1, 1) := by decide +kernel
theorem dJx4a65c_remove_915e3_21 : decode cJx4a65c_remove_915e3 21 = .ok (.invokevirtual 144, 3) := by decide +kernel
theorem dJx4a65c_remove_915e3_24 : decode cJx4a65c_remove_915e3 24 = .ok (.aload_n 3, 1) := by decide +kernel
theorem dJx4a65c_remove_915e3_25 : decode cJx4a65c_remove_915e3 25 = .ok (.areturn, 1) := by decide +kernel
theorem dJx4a65c_fastRemove_b59b0_0 : decode cJx4a65c_fastRemove_b59b0 0 = .ok (.aload_n 0, 1) := by decide +kernel
theorem dJx4a65c_fastRemove_b59b0_1 : decode cJx4a65c_fastRemove_b59b0 1 = .ok (.dup, 1) := by decide +kernel
theorem dJx4a65c_fastRemove_b59b0_2 : decode cJx4a65c_fastRemove_b59b0 2 = .ok (.getfield 63, 3) := by decide +kernel
theorem dJx4a65c_fastRemove_b59b0_5 : decode cJx4a65c_fastRemove_b59b0 5 = .ok (.iconst 1, 1) := by decide +kernel
theorem dJx4a65c_fastRemove_b59b0_6 : decode cJx4a65c_fastRemove_b59b0 6 = .ok (.iadd, 1) := by decide +kernel
theorem dJx4a65c_fastRemove_b59b0_7 : decode cJx4a65c_fastRemove_b59b0 7 = .ok (.putfield 63, 3) := by decide +kernel
theorem dJx4a65c_fastRemove_b59b0_10 : decode cJx4a65c_fastRemove_b59b0 10 = .ok (.aload_n 0, 1) := by decide +kernel
theorem dJx4a65c_fastRemove_b59b0_11 : decode cJx4a65c_fastRemove_b59b0 11 = .ok (.getfield 48, 3) := by decide +kernel
theorem dJx4a65c_fastRemove_b59b0_14 : decode cJx4a65c_fastRemove_b59b0 14 = .ok (.iconst 1, 1) := by decide +kernel
theorem dJx4a65c_fastRemove_b59b0_15 : decode cJx4a65c_fastRemove_b59b0 15 = .ok (.isub, 1) := by decide +kernel
theorem dJx4a65c_fastRemove_b59b0_16 : decode cJx4a65c_fastRemove_b59b0 16 = .ok (.dup, 1) := by decide +kernel
theorem dJx4a65c_fastRemove_b59b0_17 : decode cJx4a65c_fastRemove_b59b0 17 = .ok (.istore_n 3, 1) := by decide +kernel
theorem dJx4a65c_fastRemove_b59b0_18 : decode cJx4a65c_fastRemove_b59b0 18 = .ok (.iload_n 2, 1) := by decide +kernel
theorem dJx4a65c_fastRemove_b59b0_19 : decode cJx4a65c_fastRemove_b59b0 19 = .ok (.if_icmp .le 15, 3) := by decide +kernel
theorem dJx4a65c_fastRemove_b59b0_22 : decode cJx4a65c_fastRemove_b59b0 22 = .ok (.aload_n 1, 1) := by decide +kernel
theorem dJx4a65c_fastRemove_b59b0_23 : decode cJx4a65c_fastRemove_b59b0 23 = .ok (.iload_n 2, 1) := by decide +kernel
theorem dJx4a65c_fastRemove_b59b0_24 : decode cJx4a65c_fastRemove_b59b0 24 = .ok (.iconst 1, 1) := by decide +kernel
theorem dJx4a65c_fastRemove_b59b0_25 : decode cJx4a65c_fastRemove_b59b0 25 = .ok (.iadd, 1) := by decide +kernel
theorem dJx4a65c_fastRemove_b59b0_26 : decode cJx4a65c_fastRemove_b59b0 26 = .ok (.aload_n 1, 1) := by decide +kernel
theorem dJx4a65c_fastRemove_b59b0_27 : decode cJx4a65c_fastRemove_b59b0 27 = .ok (.iload_n 2, 1) := by decide +kernel
theorem dJx4a65c_fastRemove_b59b0_28 : decode cJx4a65c_fastRemove_b59b0 28 = .ok (.iload_n 3, 1) := by decide +kernel
theorem dJx4a65c_fastRemove_b59b0_29 : decode cJx4a65c_fastRemove_b59b0 29 = .ok (.iload_n 2, 1) := by decide +kernel
theorem dJx4a65c_fastRemove_b59b0_30 : decode cJx4a65c_fastRemove_b59b0 30 = .ok (.isub, 1) := by decide +kernel
theorem dJx4a65c_fastRemove_b59b0_31 : decode cJx4a65c_fastRemove_b59b0 31 = .ok (.invokestatic 112, 3) := by decide +kernel
theorem dJx4a65c_fastRemove_b59b0_34 : decode cJx4a65c_fastRemove_b59b0 34 = .ok (.aload_n 1, 1) := by decide +kernel
theorem dJx4a65c_fastRemove_b59b0_35 : decode cJx4a65c_fastRemove_b59b0 35 = .ok (.aload_n 0, 1) := by decide +kernel
theorem dJx4a65c_fastRemove_b59b0_36 : decode cJx4a65c_fastRemove_b59b0 36 = .ok (.iload_n 3, 1) := by decide +kernel
theorem dJx4a65c_fastRemove_b59b0_37 : decode cJx4a65c_fastRemove_b59b0 37 = .ok (.dup_x1, 1) := by decide +kernel
theorem dJx4a65c_fastRemove_b59b0_38 : decode cJx4a65c_fastRemove_b59b0 38 = .ok (.putfield 48, 3) := by decide +kernel
theorem dJx4a65c_fastRemove_b59b0_41 : decode cJx4a65c_fastRemove_b59b0 41 = .ok (.aconst_null, 1) := by decide +kernel
theorem dJx4a65c_fastRemove_b59b0_42 : decode cJx4a65c_fastRemove_b59b0 42 = .ok (.aastore, 1) := by decide +kernel
theorem dJx4a65c_fastRemove_b59b0_43 : decode cJx4a65c_fastRemove_b59b0 43 = .ok (.return_, 1) := by decide +kernel
theorem dJx4a65c_clear_da8c8_0 : decode cJx4a65c_clear_da8c8 0 = .ok (.aload_n 0, 1) := by decide +kernel
theorem dJx4a65c_clear_da8c8_1 : decode cJx4a65c_clear_da8c8 1 = .ok (.dup, 1) := by decide +kernel
theorem dJx4a65c_clear_da8c8_2 : decode cJx4a65c_clear_da8c8 2 = .ok (.getfield 63, 3) := by decide +kernel
theorem dJx4a65c_clear_da8c8_5 : decode cJx4a65c_clear_da8c8 5 = .ok (.iconst 1, 1) := by decide +kernel
theorem dJx4a65c_clear_da8c8_6 : decode cJx4a65c_clear_da8c8 6 = .ok (.iadd, 1) := by decide +kernel
theorem dJx4a65c_clear_da8c8_7 : decode cJx4a65c_clear_da8c8 7 = .ok (.putfield 63, 3) := by decide +kernel
theorem dJx4a65c_clear_da8c8_10 : decode cJx4a65c_clear_da8c8 10 = .ok (.aload_n 0, 1) := by decide +kernel
theorem dJx4a65c_clear_da8c8_11 : decode cJx4a65c_clear_da8c8 11 = .ok (.getfield 9, 3) := by decide +kernel
theorem dJx4a65c_clear_da8c8_14 : decode cJx4a65c_clear_da8c8 14 = .ok (.astore_n 1, 1) := by decide +kernel
theorem dJx4a65c_clear_da8c8_15 : decode cJx4a65c_clear_da8c8 15 = .ok (.aload_n 0, 1) := by decide +kernel
theorem dJx4a65c_clear_da8c8_16 : decode cJx4a65c_clear_da8c8 16 = .ok (.getfield 48, 3) := by decide +kernel
theorem dJx4a65c_clear_da8c8_19 : decode cJx4a65c_clear_da8c8 19 = .ok (.istore_n 2, 1) := by decide +kernel
theorem dJx4a65c_clear_da8c8_20 : decode cJx4a65c_clear_da8c8 20 = .ok (.aload_n 0, 1) := by decide +kernel
theorem dJx4a65c_clear_da8c8_21 : decode cJx4a65c_clear_da8c8 21 = .ok (.iconst 0, 1) := by decide +kernel
theorem dJx4a65c_clear_da8c8_22 : decode cJx4a65c_clear_da8c8 22 = .ok (.dup_x1, 1) := by decide +kernel
theorem dJx4a65c_clear_da8c8_23 : decode cJx4a65c_clear_da8c8 23 = .ok (.putfield 48, 3) := by decide +kernel
theorem dJx4a65c_clear_da8c8_26 : decode cJx4a65c_clear_da8c8 26 = .ok (.istore_n 3, 1) := by decide +kernel
theorem dJx4a65c_clear_da8c8_27 : decode cJx4a65c_clear_da8c8 27 = .ok (.iload_n 3, 1) := by decide +kernel
theorem dJx4a65c_clear_da8c8_28 : decode cJx4a65c_clear_da8c8 28 = .ok (.iload_n 2, 1) := by decide +kernel
theorem dJx4a65c_clear_da8c8_29 : decode cJx4a65c_clear_da8c8 29 = .ok (.if_icmp .ge 13, 3) := by decide +kernel
theorem dJx4a65c_clear_da8c8_32 : decode cJx4a65c_clear_da8c8 32 = .ok (.aload_n 1, 1) := by decide +kernel
theorem dJx4a65c_clear_da8c8_33 : decode cJx4a65c_clear_da8c8 33 = .ok (.iload_n 3, 1) := by decide +kernel
theorem dJx4a65c_clear_da8c8_34 : decode cJx4a65c_clear_da8c8 34 = .ok (.aconst_null, 1) := by decide +kernel
theorem dJx4a65c_clear_da8c8_35 : decode cJx4a65c_clear_da8c8 35 = .ok (.aastore, 1) := by decide +kernel
theorem dJx4a65c_clear_da8c8_36 : decode cJx4a65c_clear_da8c8 36 = .ok (.iinc 3 1, 3) := by decide +kernel
theorem dJx4a65c_clear_da8c8_39 : decode cJx4a65c_clear_da8c8 39 = .ok (.goto (-12), 3) := by decide +kernel
theorem dJx4a65c_clear_da8c8_42 : decode cJx4a65c_clear_da8c8 42 = .ok (.return_, 1) := by decide +kernel
theorem dJx4a65c_rangeCheckForAdd_d00df_0 : decode cJx4a65c_rangeCheckForAdd_d00df 0 = .ok (.iload_n 1, 1) := by decide +kernel
theorem dJx4a65c_rangeCheckForAdd_d00df_1 : decode cJx4a65c_rangeCheckForAdd_d00df 1 = .ok (.aload_n 0, 1) := by decide +kernel
theorem dJx4a65c_rangeCheckForAdd_d00df_2 : decode cJx4a65c_rangeCheckForAdd_d00df 2 = .ok (.getfield 48, 3) := by decide +kernel
theorem dJx4a65c_rangeCheckForAdd_d00df_5 : decode cJx4a65c_rangeCheckForAdd_d00df 5 = .ok (.if_icmp .gt 7, 3) := by decide +kernel
theorem dJx4a65c_rangeCheckForAdd_d00df_8 : decode cJx4a65c_rangeCheckForAdd_d00df 8 = .ok (.iload_n 1, 1) := by decide +kernel
theorem dJx4a65c_rangeCheckForAdd_d00df_9 : decode cJx4a65c_rangeCheckForAdd_d00df 9 = .ok (.ifCond .ge 16, 3) := by decide +kernel
theorem dJx4a65c_rangeCheckForAdd_d00df_12 : decode cJx4a65c_rangeCheckForAdd_d00df 12 = .ok (.new 187, 3) := by decide +kernel
theorem dJx4a65c_rangeCheckForAdd_d00df_15 : decode cJx4a65c_rangeCheckForAdd_d00df 15 = .ok (.dup, 1) := by decide +kernel
theorem dJx4a65c_rangeCheckForAdd_d00df_16 : decode cJx4a65c_rangeCheckForAdd_d00df 16 = .ok (.aload_n 0, 1) := by decide +kernel
theorem dJx4a65c_rangeCheckForAdd_d00df_17 : decode cJx4a65c_rangeCheckForAdd_d00df 17 = .ok (.iload_n 1, 1) := by decide +kernel
theorem dJx4a65c_rangeCheckForAdd_d00df_18 : decode cJx4a65c_rangeCheckForAdd_d00df 18 = .ok (.invokevirtual 198, 3) := by decide +kernel
theorem dJx4a65c_rangeCheckForAdd_d00df_21 : decode cJx4a65c_rangeCheckForAdd_d00df 21 = .ok (.invokespecial 193, 3) := by decide +kernel
theorem dJx4a65c_rangeCheckForAdd_d00df_24 : decode cJx4a65c_rangeCheckForAdd_d00df 24 = .ok (.athrow, 1) := by decide +kernel
theorem dJx4a65c_rangeCheckForAdd_d00df_25 : decode cJx4a65c_rangeCheckForAdd_d00df 25 = .ok (.return_, 1) := by decide +kernel
theorem dJx4a65c_outOfBoundsMsg_b52d3_0 : decode cJx4a65c_outOfBoundsMsg_b52d3 0 = .ok (.new 20, 3) := by decide +kernel
theorem dJx4a65c_outOfBoundsMsg_b52d3_3 : decode cJx4a65c_outOfBoundsMsg_b52d3 3 = .ok (.dup, 1) := by decide +kernel
theorem dJx4a65c_outOfBoundsMsg_b52d3_4 : decode cJx4a65c_outOfBoundsMsg_b52d3 4 = .ok (.invokespecial 22, 3) := by decide +kernel
theorem dJx4a65c_outOfBoundsMsg_b52d3_7 : decode cJx4a65c_outOfBoundsMsg_b52d3 7 = .ok (.ldc 201, 2) := by decide +kernel
theorem dJx4a65c_outOfBoundsMsg_b52d3_9 : decode cJx4a65c_outOfBoundsMsg_b52d3 9 = .ok (.invokevirtual 25, 3) := by decide +kernel
theorem dJx4a65c_outOfBoundsMsg_b52d3_12 : decode cJx4a65c_outOfBoundsMsg_b52d3 12 = .ok (.iload_n 1, 1) := by decide +kernel
theorem dJx4a65c_outOfBoundsMsg_b52d3_13 : decode cJx4a65c_outOfBoundsMsg_b52d3 13 = .ok (.invokevirtual 29, 3) := by decide +kernel
theorem dJx4a65c_outOfBoundsMsg_b52d3_16 : decode cJx4a65c_outOfBoundsMsg_b52d3 16 = .ok (.ldc 203, 2) := by decide +kernel
theorem dJx4a65c_outOfBoundsMsg_b52d3_18 : decode cJx4a65c_outOfBoundsMsg_b52d3 18 = .ok (.invokevirtual 25, 3) := by decide +kernel
theorem dJx4a65c_outOfBoundsMsg_b52d3_21 : decode cJx4a65c_outOfBoundsMsg_b52d3 21 = .ok (.aload_n 0, 1) := by decide +kernel
theorem dJx4a65c_outOfBoundsMsg_b52d3_22 : decode cJx4a65c_outOfBoundsMsg_b52d3 22 = .ok (.getfield 48, 3) := by decide +kernel
theorem dJx4a65c_outOfBoundsMsg_b52d3_25 : decode cJx4a65c_outOfBoundsMsg_b52d3 25 = .ok (.invokevirtual 29, 3) := by decide +kernel
theorem dJx4a65c_outOfBoundsMsg_b52d3_28 : decode cJx4a65c_outOfBoundsMsg_b52d3 28 = .ok (.invokevirtual 32, 3) := by decide +kernel
theorem dJx4a65c_outOfBoundsMsg_b52d3_31 : decode cJx4a65c_outOfBoundsMsg_b52d3 31 = .ok (.areturn, 1) := by decide +kernel
theorem dJ7_copyOf_1904c_0 : decode cJ7_copyOf_1904c 0 = .ok (.aload_n 0, 1) := by decide +kernel
theorem dJ7_copyOf_1904c_1 : decode cJ7_copyOf_1904c 1 = .ok (.iload_n 1, 1) := by decide +kernel
theorem dJ7_copyOf_1904c_2 : decode cJ7_copyOf_1904c 2 = .ok (.aload_n 0, 1) := by decide +kernel
theorem dJ7_copyOf_1904c_3 : decode cJ7_copyOf_1904c 3 = .ok (.invokevirtual 86, 3) := by decide +kernel
theorem dJ7_copyOf_1904c_6 : decode cJ7_copyOf_1904c 6 = .ok (.invokestatic 300, 3) := by decide +kernel
theorem dJ7_copyOf_1904c_9 : decode cJ7_copyOf_1904c 9 = .ok (.areturn, 1) := by decide +kernel
theorem dJ7_copyOf_6403c_0 : decode cJ7_copyOf_6403c 0 = .ok (.aload_n 2, 1) := by decide +kernel
theorem dJ7_copyOf_6403c_1 : decode cJ7_copyOf_6403c 1 = .ok (.ldc 110, 2) := by decide +kernel
theorem dJ7_copyOf_6403c_3 : decode cJ7_copyOf_6403c 3 = .ok (.if_acmp .ne 10, 3) := by decide +kernel
theorem dJ7_copyOf_6403c_6 : decode cJ7_copyOf_6403c 6 = .ok (.iload_n 1, 1) := by decide +kernel
theorem dJ7_copyOf_6403c_7 : decode cJ7_copyOf_6403c 7 = .ok (.anewarray 2, 3) := by decide +kernel
theorem dJ7_copyOf_6403c_10 : decode cJ7_copyOf_6403c 10 = .ok (.goto 14, 3) := by decide +kernel
theorem dJ7_copyOf_6403c_13 : decode cJ7_copyOf_6403c 13 = .ok (.aload_n 2, 1) := by decide +kernel
theorem dJ7_copyOf_6403c_14 : decode cJ7_copyOf_6403c 14 = .ok (.invokevirtual 90, 3) := by decide +kernel
theorem dJ7_copyOf_6403c_17 : decode cJ7_copyOf_6403c 17 = .ok (.iload_n 1, 1) := by decide +kernel
theorem dJ7_copyOf_6403c_18 : decode cJ7_copyOf_6403c 18 = .ok (.invokestatic 95, 3) := by decide +kernel
theorem dJ7_copyOf_6403c_21 : decode cJ7_copyOf_6403c 21 = .ok (.checkcast 110, 3) := by decide +kernel
theorem dJ7_copyOf_6403c_24 : decode cJ7_copyOf_6403c 24 = .ok (.astore_n 3, 1) := by decide +kernel
theorem dJ7_copyOf_6403c_25 : decode cJ7_copyOf_6403c 25 = .ok (.aload_n 0, 1) := by decide +kernel
theorem dJ7_copyOf_6403c_26 : decode cJ7_copyOf_6403c 26 = .ok (.iconst 0, 1) := by decide +kernel
theorem dJ7_copyOf_6403c_27 : decode cJ7_copyOf_6403c 27 = .ok (.aload_n 3, 1) := by decide +kernel
theorem dJ7_copyOf_6403c_28 : decode cJ7_copyOf_6403c 28 = .ok (.iconst 0, 1) := by decide +kernel
theorem dJ7_copyOf_6403c_29 : decode cJ7_copyOf_6403c 29 = .ok (.aload_n 0, 1) := by decide +kernel
theorem dJ7_copyOf_6403c_30 : decode cJ7_copyOf_6403c 30 = .ok (.arraylength, 1) := by decide +kernel
theorem dJ7_copyOf_6403c_31 : decode cJ7_copyOf_6403c 31 = .ok (.iload_n 1, 1) := by decide +kernel
theorem dJ7_copyOf_6403c_32 : decode cJ7_copyOf_6403c 32 = .ok (.invokestatic 304, 3) := by decide +kernel
theorem dJ7_copyOf_6403c_35 : decode cJ7_copyOf_6403c 35 = .ok (.invokestatic 150, 3) := by decide +kernel
theorem dJ7_copyOf_6403c_38 : decode cJ7_copyOf_6403c 38 = .ok (.aload_n 3, 1) := by decide +kernel
theorem dJ7_copyOf_6403c_39 : decode cJ7_copyOf_6403c 39 = .ok (.areturn, 1) := by decide +kernel
theorem dJ7_copyOf_9075b_0 : decode cJ7_copyOf_9075b 0 = .ok (.iload_n 1, 1) := by decide +kernel
theorem dJ7_copyOf_9075b_1 : decode cJ7_copyOf_9075b 1 = .ok (.aload_n 0, 1) := by decide +kernel
theorem dJ7_copyOf_9075b_2 : decode cJ7_copyOf_9075b 2 = .ok (.arraylength, 1) := by decide +kernel
theorem dJ7_copyOf_9075b_3 : decode cJ7_copyOf_9075b 3 = .ok (.if_icmp .ne 11, 3) := by decide +kernel
theorem dJ7_copyOf_9075b_6 : decode cJ7_copyOf_9075b 6 = .ok (.aload_n 0, 1) := by decide +kernel
theorem dJ7_copyOf_9075b_7 : decode cJ7_copyOf_9075b 7 = .ok (.invokevirtual 310, 3) := by decide +kernel
theorem dJ7_copyOf_9075b_10 : decode cJ7_copyOf_9075b 10 = .ok (.checkcast 311, 3) := by decide +kernel
theorem dJ7_copyOf_9075b_13 : decode cJ7_copyOf_9075b 13 = .ok (.areturn, 1) := by decide +kernel
theorem dJ7_copyOf_9075b_14 : decode cJ7_copyOf_9075b 14 = .ok (.iload_n 1, 1) := by decide +kernel
theorem dJ7_copyOf_9075b_15 : decode cJ7_copyOf_9075b 15 = .ok (.newarray .byte, 2) := by decide +kernel
theorem dJ7_copyOf_9075b_17 : decode cJ7_copyOf_9075b 17 = .ok (.astore_n 2, 1) := by decide +kernel
theorem dJ7_copyOf_9075b_18 : decode cJ7_copyOf_9075b 18 = .ok (.aload_n 0, 1) := by decide +kernel
theorem dJ7_copyOf_9075b_19 : decode cJ7_copyOf_9075b 19 = .ok (.iconst 0, 1) := by decide +kernel
theorem dJ7_copyOf_9075b_20 : decode cJ7_copyOf_9075b 20 = .ok (.aload_n 2, 1) := by decide +kernel
theorem dJ7_copyOf_9075b_21 : decode cJ7_copyOf_9075b 21 = .ok (.iconst 0, 1) := by decide +kernel
theorem dJ7_copyOf_9075b_22 : decode cJ7_copyOf_9075b 22 = .ok (.aload_n 0, 1) := by decide +kernel
theorem dJ7_copyOf_9075b_23 : decode cJ7_copyOf_9075b 23 = .ok (.arraylength, 1) := by decide +kernel
theorem dJ7_copyOf_9075b_24 : decode cJ7_copyOf_9075b 24 = .ok (.iload_n 1, 1) := by decide +kernel
theorem dJ7_copyOf_9075b_25 : decode cJ7_copyOf_9075b 25 = .ok (.invokestatic 304, 3) := by decide +kernel
theorem dJ7_copyOf_9075b_28 : decode cJ7_copyOf_9075b 28 = .ok (.invokestatic 150, 3) := by decide +kernel
theorem dJ7_copyOf_9075b_31 : decode cJ7_copyOf_9075b 31 = .ok (.aload_n 2, 1) := by decide +kernel
theorem dJ7_copyOf_9075b_32 : decode cJ7_copyOf_9075b 32 = .ok (.areturn, 1) := by decide +kernel
theorem dJ7_checkLength_df160_0 : decode cJ7_checkLength_df160 0 = .ok (.iload_n 1, 1) := by decide +kernel
theorem dJ7_checkLength_df160_1 : decode cJ7_checkLength_df160 1 = .ok (.iload_n 0, 1) := by decide +kernel
theorem dJ7_checkLength_df160_2 : decode cJ7_checkLength_df160 2 = .ok (.if_icmp .ge 35, 3) := by decide +kernel
theorem dJ7_checkLength_df160_5 : decode cJ7_checkLength_df160 5 = .ok (.new 43, 3) := by decide +kernel
theorem dJ7_checkLength_df160_8 : decode cJ7_checkLength_df160 8 = .ok (.dup, 1) := by decide +kernel
theorem dJ7_checkLength_df160_9 : decode cJ7_checkLength_df160 9 = .ok (.new 45, 3) := by decide +kernel
theorem dJ7_checkLength_df160_12 : decode cJ7_checkLength_df160 12 = .ok (.dup, 1) := by decide +kernel
theorem dJ7_checkLength_df160_13 : decode cJ7_checkLength_df160 13 = .ok (.invokespecial 47, 3) := by decide +kernel
theorem dJ7_checkLength_df160_16 : decode cJ7_checkLength_df160 16 = .ok (.iload_n 0, 1) := by decide +kernel
theorem dJ7_checkLength_df160_17 : decode cJ7_checkLength_df160 17 = .ok (.invokevirtual 54, 3) := by decide +kernel
theorem dJ7_checkLength_df160_20 : decode cJ7_checkLength_df160 20 = .ok (.ldc_w 337, 3) := by decide +kernel
theorem dJ7_checkLength_df160_23 : decode cJ7_checkLength_df160 23 = .ok (.invokevirtual 50, 3) := by decide +kernel
theorem dJ7_checkLength_df160_26 : decode cJ7_checkLength_df160 26 = .ok (.iload_n 1, 1) := by decide +kernel
theorem dJ7_checkLength_df160_27 : decode cJ7_checkLength_df160 27 = .ok (.invokevirtual 54, 3) := by decide +kernel
theorem dJ7_checkLength_df160_30 : decode cJ7_checkLength_df160 30 = .ok (.invokevirtual 61, 3) := by decide +kernel
theorem dJ7_checkLength_df160_33 : decode cJ7_checkLength_df160 33 = .ok (.invokespecial 65, 3) := by decide +kernel
theorem dJ7_checkLength_df160_36 : decode cJ7_checkLength_df160 36 = .ok (.athrow, 1) := by decide +kernel
theorem dJ7_checkLength_df160_37 : decode cJ7_checkLength_df160 37 = .ok (.return_, 1) := by decide +kernel
theorem dJ7_copyOfRange_39247_0 : decode cJ7_copyOfRange_39247 0 = .ok (.iload_n 1, 1) := by decide +kernel
theorem dJ7_copyOfRange_39247_1 : decode cJ7_copyOfRange_39247 1 = .ok (.ifCond .ne 9, 3) := by decide +kernel
theorem dJ7_copyOfRange_39247_4 : decode cJ7_copyOfRange_39247 4 = .ok (.iload_n 2, 1) := by decide +kernel
theorem dJ7_copyOfRange_39247_5 : decode cJ7_copyOfRange_39247 5 = .ok (.aload_n 0, 1) := by decide +kernel
theorem dJ7_copyOfRange_39247_6 : decode cJ7_copyOfRange_39247 6 = .ok (.arraylength, 1) := by decide +kernel
theorem dJ7_copyOfRange_39247_7 : decode cJ7_copyOfRange_39247 7 = .ok (.if_icmp .eq 10, 3) := by decide +kernel
theorem dJ7_copyOfRange_39247_10 : decode cJ7_copyOfRange_39247 10 = .ok (.aload_n 0, 1) := by decide +kernel
theorem dJ7_copyOfRange_39247_11 : decode cJ7_copyOfRange_39247 11 = .ok (.iload_n 1, 1) := by decide +kernel
theorem dJ7_copyOfRange_39247_12 : decode cJ7_copyOfRange_39247 12 = .ok (.iload_n 2, 1) := by decide +kernel
theorem dJ7_copyOfRange_39247_13 : decode cJ7_copyOfRange_39247 13 = .ok (.invokestatic 339, 3) := by decide +kernel
theorem dJ7_copyOfRange_39247_16 : decode cJ7_copyOfRange_39247 16 = .ok (.areturn, 1) := by decide +kernel
theorem dJ7_copyOfRange_39247_17 : decode cJ7_copyOfRange_39247 17 = .ok (.aload_n 0, 1) := by decide +kernel
theorem dJ7_copyOfRange_39247_18 : decode cJ7_copyOfRange_39247 18 = .ok (.invokevirtual 310, 3) := by decide +kernel
theorem dJ7_copyOfRange_39247_21 : decode cJ7_copyOfRange_39247 21 = .ok (.checkcast 311, 3) := by decide +kernel
theorem dJ7_copyOfRange_39247_24 : decode cJ7_copyOfRange_39247 24 = .ok (.areturn, 1) := by decide +kernel
theorem dJ7_copyOfRangeByte_39247_0 : decode cJ7_copyOfRangeByte_39247 0 = .ok (.iload_n 1, 1) := by decide +kernel
theorem dJ7_copyOfRangeByte_39247_1 : decode cJ7_copyOfRangeByte_39247 1 = .ok (.iload_n 2, 1) := by decide +kernel
theorem dJ7_copyOfRangeByte_39247_2 : decode cJ7_copyOfRangeByte_39247 2 = .ok (.invokestatic 343, 3) := by decide +kernel
theorem dJ7_copyOfRangeByte_39247_5 : decode cJ7_copyOfRangeByte_39247 5 = .ok (.iload_n 2, 1) := by decide +kernel
theorem dJ7_copyOfRangeByte_39247_6 : decode cJ7_copyOfRangeByte_39247 6 = .ok (.iload_n 1, 1) := by decide +kernel
theorem dJ7_copyOfRangeByte_39247_7 : decode cJ7_copyOfRangeByte_39247 7 = .ok (.isub, 1) := by decide +kernel
theorem dJ7_copyOfRangeByte_39247_8 : decode cJ7_copyOfRangeByte_39247 8 = .ok (.istore_n 3, 1) := by decide +kernel
theorem dJ7_copyOfRangeByte_39247_9 : decode cJ7_copyOfRangeByte_39247 9 = .ok (.iload_n 3, 1) := by decide +kernel
theorem dJ7_copyOfRangeByte_39247_10 : decode cJ7_copyOfRangeByte_39247 10 = .ok (.newarray .byte, 2) := by decide +kernel
theorem dJ7_copyOfRangeByte_39247_12 : decode cJ7_copyOfRangeByte_39247 12 = .ok (.astore 4, 2) := by decide +kernel
theorem dJ7_copyOfRangeByte_39247_14 : decode cJ7_copyOfRangeByte_39247 14 = .ok (.aload_n 0, 1) := by decide +kernel
theorem dJ7_copyOfRangeByte_39247_15 : decode cJ7_copyOfRangeByte_39247 15 = .ok (.iload_n 1, 1) := by decide +kernel
theorem dJ7_copyOfRangeByte_39247_16 : decode cJ7_copyOfRangeByte_39247 16 = .ok (.aload 4, 2) := by decide +kernel
theorem dJ7_copyOfRangeByte_39247_18 : decode cJ7_copyOfRangeByte_39247 18 = .ok (.iconst 0, 1) := by decide +kernel
theorem dJ7_copyOfRangeByte_39247_19 : decode cJ7_copyOfRangeByte_39247 19 = .ok (.aload_n 0, 1) := by decide +kernel
theorem dJ7_copyOfRangeByte_39247_20 : decode cJ7_copyOfRangeByte_39247 20 = .ok (.arraylength, 1) := by decide +kernel
theorem dJ7_copyOfRangeByte_39247_21 : decode cJ7_copyOfRangeByte_39247 21 = .ok (.iload_n 1, 1) := by decide +kernel
theorem dJ7_copyOfRangeByte_39247_22 : decode cJ7_copyOfRangeByte_39247 22 = .ok (.isub, 1) := by decide +kernel
theorem dJ7_copyOfRangeByte_39247_23 : decode cJ7_copyOfRangeByte_39247 23 = .ok (.iload_n 3, 1) := by decide +kernel
theorem dJ7_copyOfRangeByte_39247_24 : decode cJ7_copyOfRangeByte_39247 24 = .ok (.invokestatic 304, 3) := by decide +kernel
theorem dJ7_copyOfRangeByte_39247_27 : decode cJ7_copyOfRangeByte_39247 27 = .ok (.invokestatic 150, 3) := by decide +kernel
theorem dJ7_copyOfRangeByte_39247_30 : decode cJ7_copyOfRangeByte_39247 30 = .ok (.aload 4, 2) := by decide +kernel
theorem dJ7_copyOfRangeByte_39247_32 : decode cJ7_copyOfRangeByte_39247 32 = .ok (.areturn, 1) := by decide +kernel
theorem dJ15_checkIndex_7cf53_0 : decode cJ15_checkIndex_7cf53 0 = .ok (.iload_n 0, 1) := by decide +kernel
theorem dJ15_checkIndex_7cf53_1 : decode cJ15_checkIndex_7cf53 1 = .ok (.iload_n 1, 1) := by decide +kernel
theorem dJ15_checkIndex_7cf53_2 : decode cJ15_checkIndex_7cf53 2 = .ok (.aconst_null, 1) := by decide +kernel
theorem dJ15_checkIndex_7cf53_3 : decode cJ15_checkIndex_7cf53 3 = .ok (.invokestatic 105, 3) := by decide +kernel
theorem dJ15_checkIndex_7cf53_6 : decode cJ15_checkIndex_7cf53 6 = .ok (.ireturn, 1) := by decide +kernel
theorem dJ8_newLength_cabcc_0 : decode cJ8_newLength_cabcc 0 = .ok (.iload_n 0, 1) := by decide +kernel
theorem dJ8_newLength_cabcc_1 : decode cJ8_newLength_cabcc 1 = .ok (.iload_n 1, 1) := by decide +kernel
theorem dJ8_newLength_cabcc_2 : decode cJ8_newLength_cabcc 2 = .ok (.iload_n 2, 1) := by decide +kernel
theorem dJ8_newLength_cabcc_3 : decode cJ8_newLength_cabcc 3 = .ok (.invokestatic 194, 3) := by decide +kernel
theorem dJ8_newLength_cabcc_6 : decode cJ8_newLength_cabcc 6 = .ok (.iadd, 1) := by decide +kernel
theorem dJ8_newLength_cabcc_7 : decode cJ8_newLength_cabcc 7 = .ok (.istore_n 3, 1) := by decide +kernel
theorem dJ8_newLength_cabcc_8 : decode cJ8_newLength_cabcc 8 = .ok (.iconst 0, 1) := by decide +kernel
theorem dJ8_newLength_cabcc_9 : decode cJ8_newLength_cabcc 9 = .ok (.iload_n 3, 1) := by decide +kernel
theorem dJ8_newLength_cabcc_10 : decode cJ8_newLength_cabcc 10 = .ok (.if_icmp .ge 11, 3) := by decide +kernel
theorem dJ8_newLength_cabcc_13 : decode cJ8_newLength_cabcc 13 = .ok (.iload_n 3, 1) := by decide +kernel
theorem dJ8_newLength_cabcc_14 : decode cJ8_newLength_cabcc 14 = .ok (.ldc 200, 2) := by decide +kernel
theorem dJ8_newLength_cabcc_16 : decode cJ8_newLength_cabcc 16 = .ok (.if_icmp .gt 5, 3) := by decide +kernel
theorem dJ8_newLength_cabcc_19 : decode cJ8_newLength_cabcc 19 = .ok (.iload_n 3, 1) := by decide +kernel
theorem dJ8_newLength_cabcc_20 : decode cJ8_newLength_cabcc 20 = .ok (.ireturn, 1) := by decide +kernel
theorem dJ8_newLength_cabcc_21 : decode cJ8_newLength_cabcc 21 = .ok (.iload_n 0, 1) := by decide +kernel
theorem dJ8_newLength_cabcc_22 : decode cJ8_newLength_cabcc 22 = .ok (.iload_n 1, 1) := by decide +kernel
theorem dJ8_newLength_cabcc_23 : decode cJ8_newLength_cabcc 23 = .ok (.invokestatic 201, 3) := by decide +kernel
theorem dJ8_newLength_cabcc_26 : decode cJ8_newLength_cabcc 26 = .ok (.ireturn, 1) := by decide +kernel
theorem dJ8_hugeLength_7cf53_0 : decode cJ8_hugeLength_7cf53 0 = .ok (.iload_n 0, 1) := by decide +kernel
theorem dJ8_hugeLength_7cf53_1 : decode cJ8_hugeLength_7cf53 1 = .ok (.iload_n 1, 1) := by decide +kernel
theorem dJ8_hugeLength_7cf53_2 : decode cJ8_hugeLength_7cf53 2 = .ok (.iadd, 1) := by decide +kernel
theorem dJ8_hugeLength_7cf53_3 : decode cJ8_hugeLength_7cf53 3 = .ok (.istore_n 2, 1) := by decide +kernel
theorem dJ8_hugeLength_7cf53_4 : decode cJ8_hugeLength_7cf53 4 = .ok (.iload_n 2, 1) := by decide +kernel
theorem dJ8_hugeLength_7cf53_5 : decode cJ8_hugeLength_7cf53 5 = .ok (.ifCond .ge 44, 3) := by decide +kernel
theorem dJ8_hugeLength_7cf53_8 : decode cJ8_hugeLength_7cf53 8 = .ok (.new 204, 3) := by decide +kernel
theorem dJ8_hugeLength_7cf53_11 : decode cJ8_hugeLength_7cf53 11 = .ok (.dup, 1) := by decide +kernel
theorem dJ8_hugeLength_7cf53_12 : decode cJ8_hugeLength_7cf53 12 = .ok (.new 89, 3) := by decide +kernel
theorem dJ8_hugeLength_7cf53_15 : decode cJ8_hugeLength_7cf53 15 = .ok (.dup, 1) := by decide +kernel
theorem dJ8_hugeLength_7cf53_16 : decode cJ8_hugeLength_7cf53 16 = .ok (.invokespecial 91, 3) := by decide +kernel
theorem dJ8_hugeLength_7cf53_19 : decode cJ8_hugeLength_7cf53 19 = .ok (.ldc 206, 2) := by decide +kernel
theorem dJ8_hugeLength_7cf53_21 : decode cJ8_hugeLength_7cf53 21 = .ok (.invokevirtual 94, 3) := by decide +kernel
theorem dJ8_hugeLength_7cf53_24 : decode cJ8_hugeLength_7cf53 24 = .ok (.iload_n 0, 1) := by decide +kernel
theorem dJ8_hugeLength_7cf53_25 : decode cJ8_hugeLength_7cf53 25 = .ok (.invokevirtual 98, 3) := by decide +kernel
theorem dJ8_hugeLength_7cf53_28 : decode cJ8_hugeLength_7cf53 28 = .ok (.ldc 208, 2) := by decide +kernel
theorem dJ8_hugeLength_7cf53_30 : decode cJ8_hugeLength_7cf53 30 = .ok (.invokevirtual 94, 3) := by decide +kernel
theorem dJ8_hugeLength_7cf53_33 : decode cJ8_hugeLength_7cf53 33 = .ok (.iload_n 1, 1) := by decide +kernel
theorem dJ8_hugeLength_7cf53_34 : decode cJ8_hugeLength_7cf53 34 = .ok (.invokevirtual 98, 3) := by decide +kernel
theorem dJ8_hugeLength_7cf53_37 : decode cJ8_hugeLength_7cf53 37 = .ok (.ldc 210, 2) := by decide +kernel
theorem dJ8_hugeLength_7cf53_39 : decode cJ8_hugeLength_7cf53 39 = .ok (.invokevirtual 94, 3) := by decide +kernel
theorem dJ8_hugeLength_7cf53_42 : decode cJ8_hugeLength_7cf53 42 = .ok (.invokevirtual 101, 3) := by decide +kernel
theorem dJ8_hugeLength_7cf53_45 : decode cJ8_hugeLength_7cf53 45 = .ok (.invokespecial 212, 3) := by decide +kernel
theorem dJ8_hugeLength_7cf53_48 : decode cJ8_hugeLength_7cf53 48 = .ok (.athrow, 1) := by decide +kernel
theorem dJ8_hugeLength_7cf53_49 : decode cJ8_hugeLength_7cf53 49 = .ok (.iload_n 2, 1) := by decide +kernel
theorem dJ8_hugeLength_7cf53_50 : decode cJ8_hugeLength_7cf53 50 = .ok (.ldc 200, 2) := by decide +kernel
theorem dJ8_hugeLength_7cf53_52 : decode cJ8_hugeLength_7cf53 52 = .ok (.if_icmp .gt 6, 3) := by decide +kernel
theorem dJ8_hugeLength_7cf53_55 : decode cJ8_hugeLength_7cf53 55 = .ok (.ldc 200, 2) := by decide +kernel
theorem dJ8_hugeLength_7cf53_57 : decode cJ8_hugeLength_7cf53 57 = .ok (.ireturn, 1) := by decide +kernel
theorem dJ8_hugeLength_7cf53_58 : decode cJ8_hugeLength_7cf53 58 = .ok (.iload_n 2, 1) := by decide +kernel
theorem dJ8_hugeLength_7cf53_59 : decode cJ8_hugeLength_7cf53 59 = .ok (.ireturn, 1) := by decide +kernel
theorem dJ3_checkIndex_8e157_0 : decode cJ3_checkIndex_8e157 0 = .ok (.iload_n 0, 1) := by decide +kernel
theorem dJ3_checkIndex_8e157_1 : decode cJ3_checkIndex_8e157 1 = .ok (.ifCond .lt 8, 3) := by decide +kernel
theorem dJ3_checkIndex_8e157_4 : decode cJ3_checkIndex_8e157 4 = .ok (.iload_n 0, 1) := by decide +kernel
theorem dJ3_checkIndex_8e157_5 : decode cJ3_checkIndex_8e157 5 = .ok (.iload_n 1, 1) := by decide +kernel
theorem dJ3_checkIndex_8e157_6 : decode cJ3_checkIndex_8e157 6 = .ok (.if_icmp .lt 10, 3) := by decide +kernel
theorem dJ3_checkIndex_8e157_9 : decode cJ3_checkIndex_8e157 9 = .ok (.aload_n 2, 1) := by decide +kernel
theorem dJ3_checkIndex_8e157_10 : decode cJ3_checkIndex_8e157 10 = .ok (.iload_n 0, 1) := by decide +kernel
theorem dJ3_checkIndex_8e157_11 : decode cJ3_checkIndex_8e157 11 = .ok (.iload_n 1, 1) := by decide +kernel
theorem dJ3_checkIndex_8e157_12 : decode cJ3_checkIndex_8e157 12 = .ok (.invokestatic 95, 3) := by decide +kernel
theorem dJ3_checkIndex_8e157_15 : decode cJ3_checkIndex_8e157 15 = .ok (.athrow, 1) := by decide +kernel
theorem dJ3_checkIndex_8e157_16 : decode cJ3_checkIndex_8e157 16 = .ok (.iload_n 0, 1) := by decide +kernel
theorem dJ3_checkIndex_8e157_17 : decode cJ3_checkIndex_8e157 17 = .ok (.ireturn, 1) := by decide +kernel
theorem dJ3_checkFromToIndex_8c36e_0 : decode cJ3_checkFromToIndex_8c36e 0 = .ok (.iload_n 0, 1) := by decide +kernel
theorem dJ3_checkFromToIndex_8c36e_1 : decode cJ3_checkFromToIndex_8c36e 1 = .ok (.ifCond .lt 13, 3) := by decide +kernel
theorem dJ3_checkFromToIndex_8c36e_4 : decode cJ3_checkFromToIndex_8c36e 4 = .ok (.iload_n 0, 1) := by decide +kernel
theorem dJ3_checkFromToIndex_8c36e_5 : decode cJ3_checkFromToIndex_8c36e 5 = .ok (.iload_n 1, 1) := by decide +kernel
theorem dJ3_checkFromToIndex_8c36e_6 : decode cJ3_checkFromToIndex_8c36e 6 = .ok (.if_icmp .gt 8, 3) := by decide +kernel
theorem dJ3_checkFromToIndex_8c36e_9 : decode cJ3_checkFromToIndex_8c36e 9 = .ok (.iload_n 1, 1) := by decide +kernel
theorem dJ3_checkFromToIndex_8c36e_10 : decode cJ3_checkFromToIndex_8c36e 10 = .ok (.iload_n 2, 1) := by decide +kernel
theorem dJ3_checkFromToIndex_8c36e_11 : decode cJ3_checkFromToIndex_8c36e 11 = .ok (.if_icmp .le 11, 3) := by decide +kernel
theorem dJ3_checkFromToIndex_8c36e_14 : decode cJ3_checkFromToIndex_8c36e 14 = .ok (.aload_n 3, 1) := by decide +kernel
theorem dJ3_checkFromToIndex_8c36e_15 : decode cJ3_checkFromToIndex_8c36e 15 = .ok (.iload_n 0, 1) := by decide +kernel
theorem dJ3_checkFromToIndex_8c36e_16 : decode cJ3_checkFromToIndex_8c36e 16 = .ok (.iload_n 1, 1) := by decide +kernel
theorem dJ3_checkFromToIndex_8c36e_17 : decode cJ3_checkFromToIndex_8c36e 17 = .ok (.iload_n 2, 1) := by decide +kernel
theorem dJ3_checkFromToIndex_8c36e_18 : decode cJ3_checkFromToIndex_8c36e 18 = .ok (.invokestatic 99, 3) := by decide +kernel
theorem dJ3_checkFromToIndex_8c36e_21 : decode cJ3_checkFromToIndex_8c36e 21 = .ok (.athrow, 1) := by decide +kernel
theorem dJ3_checkFromToIndex_8c36e_22 : decode cJ3_checkFromToIndex_8c36e 22 = .ok (.iload_n 0, 1) := by decide +kernel
theorem dJ3_checkFromToIndex_8c36e_23 : decode cJ3_checkFromToIndex_8c36e 23 = .ok (.ireturn, 1) := by decide +kernel
theorem dJ3_checkFromIndexSize_8c36e_0 : decode cJ3_checkFromIndexSize_8c36e 0 = .ok (.iload_n 2, 1) := by decide +kernel
theorem dJ3_checkFromIndexSize_8c36e_1 : decode cJ3_checkFromIndexSize_8c36e 1 = .ok (.iload_n 0, 1) := by decide +kernel
theorem dJ3_checkFromIndexSize_8c36e_2 : decode cJ3_checkFromIndexSize_8c36e 2 = .ok (.ior, 1) := by decide +kernel
theorem dJ3_checkFromIndexSize_8c36e_3 : decode cJ3_checkFromIndexSize_8c36e 3 = .ok (.iload_n 1, 1) := by decide +kernel
theorem dJ3_checkFromIndexSize_8c36e_4 : decode cJ3_checkFromIndexSize_8c36e 4 = .ok (.ior, 1) := by decide +kernel
theorem dJ3_checkFromIndexSize_8c36e_5 : decode cJ3_checkFromIndexSize_8c36e 5 = .ok (.ifCond .lt 10, 3) := by decide +kernel
theorem dJ3_checkFromIndexSize_8c36e_8 : decode cJ3_checkFromIndexSize_8c36e 8 = .ok (.iload_n 1, 1) := by decide +kernel
theorem dJ3_checkFromIndexSize_8c36e_9 : decode cJ3_checkFromIndexSize_8c36e 9 = .ok (.iload_n 2, 1) := by decide +kernel
theorem dJ3_checkFromIndexSize_8c36e_10 : decode cJ3_checkFromIndexSize_8c36e 10 = .ok (.iload_n 0, 1) := by decide +kernel
theorem dJ3_checkFromIndexSize_8c36e_11 : decode cJ3_checkFromIndexSize_8c36e 11 = .ok (.isub, 1) := by decide +kernel
theorem dJ3_checkFromIndexSize_8c36e_12 : decode cJ3_checkFromIndexSize_8c36e 12 = .ok (.if_icmp .le 11, 3) := by decide +kernel
theorem dJ3_checkFromIndexSize_8c36e_15 : decode cJ3_checkFromIndexSize_8c36e 15 = .ok (.aload_n 3, 1) := by decide +kernel
theorem dJ3_checkFromIndexSize_8c36e_16 : decode cJ3_checkFromIndexSize_8c36e 16 = .ok (.iload_n 0, 1) := by decide +kernel
theorem dJ3_checkFromIndexSize_8c36e_17 : decode cJ3_checkFromIndexSize_8c36e 17 = .ok (.iload_n 1, 1) := by decide +kernel
theorem dJ3_checkFromIndexSize_8c36e_18 : decode cJ3_checkFromIndexSize_8c36e 18 = .ok (.iload_n 2, 1) := by decide +kernel
theorem dJ3_checkFromIndexSize_8c36e_19 : decode cJ3_checkFromIndexSize_8c36e 19 = .ok (.invokestatic 103, 3) := by decide +kernel
theorem dJ3_checkFromIndexSize_8c36e_22 : decode cJ3_checkFromIndexSize_8c36e 22 = .ok (.athrow, 1) := by decide +kernel
theorem dJ3_checkFromIndexSize_8c36e_23 : decode cJ3_checkFromIndexSize_8c36e 23 = .ok (.iload_n 0, 1) := by decide +kernel
theorem dJ3_checkFromIndexSize_8c36e_24 : decode cJ3_checkFromIndexSize_8c36e 24 = .ok (.ireturn, 1) := by decide +kernel
