theorem dX0_init_0 : decode cX0_init 0 = .ok (.aload_n 0, 1) := by decide +kernel
theorem dX0_init_1 : decode cX0_init 1 = .ok (.invokespecial 3, 3) := by decide +kernel
theorem dX0_init_4 : decode cX0_init 4 = .ok (.aload_n 0, 1) := by decide +kernel
theorem dX0_init_5 : decode cX0_init 5 = .ok (.new 9, 3) := by decide +kernel
theorem dX0_init_8 : decode cX0_init 8 = .ok (.dup, 1) := by decide +kernel
theorem dX0_init_9 : decode cX0_init 9 = .ok (.invokespecial 11, 3) := by decide +kernel
theorem dX0_init_12 : decode cX0_init 12 = .ok (.putfield 12, 3) := by decide +kernel
theorem dX0_init_15 : decode cX0_init 15 = .ok (.aload_n 0, 1) := by decide +kernel
theorem dX0_init_16 : decode cX0_init 16 = .ok (.iconst 0, 1) := by decide +kernel
theorem dX0_init_17 : decode cX0_init 17 = .ok (.putfield 18, 3) := by decide +kernel
theorem dX0_init_20 : decode cX0_init 20 = .ok (.iload_n 1, 1) := by decide +kernel
theorem dX0_init_21 : decode cX0_init 21 = .ok (.iconst 0, 1) := by decide +kernel
theorem dX0_init_22 : decode cX0_init 22 = .ok (.invokestatic 22, 3) := by decide +kernel
theorem dX0_init_25 : decode cX0_init 25 = .ok (.istore_n 2, 1) := by decide +kernel
theorem dX0_init_26 : decode cX0_init 26 = .ok (.aload_n 0, 1) := by decide +kernel
theorem dX0_init_27 : decode cX0_init 27 = .ok (.iload_n 2, 1) := by decide +kernel
theorem dX0_init_28 : decode cX0_init 28 = .ok (.newarray .int, 2) := by decide +kernel
theorem dX0_init_30 : decode cX0_init 30 = .ok (.putfield 28, 3) := by decide +kernel
theorem dX0_init_33 : decode cX0_init 33 = .ok (.aload_n 0, 1) := by decide +kernel
theorem dX0_init_34 : decode cX0_init 34 = .ok (.iload_n 2, 1) := by decide +kernel
theorem dX0_init_35 : decode cX0_init 35 = .ok (.newarray .int, 2) := by decide +kernel
theorem dX0_init_37 : decode cX0_init 37 = .ok (.putfield 32, 3) := by decide +kernel
theorem dX0_init_40 : decode cX0_init 40 = .ok (.aload_n 0, 1) := by decide +kernel
theorem dX0_init_41 : decode cX0_init 41 = .ok (.iload_n 2, 1) := by decide +kernel
theorem dX0_init_42 : decode cX0_init 42 = .ok (.newarray .int, 2) := by decide +kernel
theorem dX0_init_44 : decode cX0_init 44 = .ok (.putfield 35, 3) := by decide +kernel
theorem dX0_init_47 : decode cX0_init 47 = .ok (.return_, 1) := by decide +kernel
theorem dX0_clear_0 : decode cX0_clear 0 = .ok (.aload_n 0, 1) := by decide +kernel
theorem dX0_clear_1 : decode cX0_clear 1 = .ok (.iconst 0, 1) := by decide +kernel
theorem dX0_clear_2 : decode cX0_clear 2 = .ok (.putfield 18, 3) := by decide +kernel
theorem dX0_clear_5 : decode cX0_clear 5 = .ok (.aload_n 0, 1) := by decide +kernel
theorem dX0_clear_6 : decode cX0_clear 6 = .ok (.getfield 12, 3) := by decide +kernel
theorem dX0_clear_9 : decode cX0_clear 9 = .ok (.invokevirtual 38, 3) := by decide +kernel
theorem dX0_clear_12 : decode cX0_clear 12 = .ok (.return_, 1) := by decide +kernel
theorem dX0_put_0 : decode cX0_put 0 = .ok (.aload_n 0, 1) := by decide +kernel
theorem dX0_put_1 : decode cX0_put 1 = .ok (.getfield 18, 3) := by decide +kernel
theorem dX0_put_4 : decode cX0_put 4 = .ok (.aload_n 0, 1) := by decide +kernel
theorem dX0_put_5 : decode cX0_put 5 = .ok (.getfield 28, 3) := by decide +kernel
theorem dX0_put_8 : decode cX0_put 8 = .ok (.arraylength, 1) := by decide +kernel
theorem dX0_put_9 : decode cX0_put 9 = .ok (.if_icmp .ge 33, 3) := by decide +kernel
theorem dX0_put_12 : decode cX0_put 12 = .ok (.aload_n 0, 1) := by decide +kernel
theorem dX0_put_13 : decode cX0_put 13 = .ok (.getfield 28, 3) := by decide +kernel
theorem dX0_put_16 : decode cX0_put 16 = .ok (.aload_n 0, 1) := by decide +kernel
theorem dX0_put_17 : decode cX0_put 17 = .ok (.getfield 18, 3) := by decide +kernel
theorem dX0_put_20 : decode cX0_put 20 = .ok (.iload_n 1, 1) := by decide +kernel
theorem dX0_put_21 : decode cX0_put 21 = .ok (.iastore, 1) := by decide +kernel
theorem dX0_put_22 : decode cX0_put 22 = .ok (.aload_n 0, 1) := by decide +kernel
theorem dX0_put_23 : decode cX0_put 23 = .ok (.getfield 32, 3) := by decide +kernel
theorem dX0_put_26 : decode cX0_put 26 = .ok (.aload_n 0, 1) := by decide +kernel
theorem dX0_put_27 : decode cX0_put 27 = .ok (.getfield 18, 3) := by decide +kernel
theorem dX0_put_30 : decode cX0_put 30 = .ok (.iload_n 2, 1) := by decide +kernel
theorem dX0_put_31 : decode cX0_put 31 = .ok (.iastore, 1) := by decide +kernel
theorem dX0_put_32 : decode cX0_put 32 = .ok (.aload_n 0, 1) := by decide +kernel
theorem dX0_put_33 : decode cX0_put 33 = .ok (.getfield 35, 3) := by decide +kernel
theorem dX0_put_36 : decode cX0_put 36 = .ok (.aload_n 0, 1) := by decide +kernel
theorem dX0_put_37 : decode cX0_put 37 = .ok (.getfield 18, 3) := by decide +kernel
theorem dX0_put_40 : decode cX0_put 40 = .ok (.iload_n 3, 1) := by decide +kernel
theorem dX0_put_41 : decode cX0_put 41 = .ok (.iastore, 1) := by decide +kernel
theorem dX0_put_42 : decode cX0_put 42 = .ok (.aload_n 0, 1) := by decide +kernel
theorem dX0_put_43 : decode cX0_put 43 = .ok (.dup, 1) := by decide +kernel
theorem dX0_put_44 : decode cX0_put 44 = .ok (.getfield 18, 3) := by decide +kernel
theorem dX0_put_47 : decode cX0_put 47 = .ok (.iconst 1, 1) := by decide +kernel
theorem dX0_put_48 : decode cX0_put 48 = .ok (.iadd, 1) := by decide +kernel
theorem dX0_put_49 : decode cX0_put 49 = .ok (.putfield 18, 3) := by decide +kernel
theorem dX0_put_52 : decode cX0_put 52 = .ok (.aload_n 0, 1) := by decide +kernel
theorem dX0_put_53 : decode cX0_put 53 = .ok (.getfield 12, 3) := by decide +kernel
theorem dX0_put_56 : decode cX0_put 56 = .ok (.iload_n 3, 1) := by decide +kernel
theorem dX0_put_57 : decode cX0_put 57 = .ok (.invokevirtual 41, 3) := by decide +kernel
theorem dX0_put_60 : decode cX0_put 60 = .ok (.return_, 1) := by decide +kernel
theorem dX0_keptCount_0 : decode cX0_keptCount 0 = .ok (.aload_n 0, 1) := by decide +kernel
theorem dX0_keptCount_1 : decode cX0_keptCount 1 = .ok (.getfield 18, 3) := by decide +kernel
theorem dX0_keptCount_4 : decode cX0_keptCount 4 = .ok (.aload_n 0, 1) := by decide +kernel
theorem dX0_keptCount_5 : decode cX0_keptCount 5 = .ok (.getfield 28, 3) := by decide +kernel
theorem dX0_keptCount_8 : decode cX0_keptCount 8 = .ok (.arraylength, 1) := by decide +kernel
theorem dX0_keptCount_9 : decode cX0_keptCount 9 = .ok (.invokestatic 45, 3) := by decide +kernel
theorem dX0_keptCount_12 : decode cX0_keptCount 12 = .ok (.ireturn, 1) := by decide +kernel
theorem dX0_isKept_0 : decode cX0_isKept 0 = .ok (.iload_n 1, 1) := by decide +kernel
theorem dX0_isKept_1 : decode cX0_isKept 1 = .ok (.iconst 0, 1) := by decide +kernel
theorem dX0_isKept_2 : decode cX0_isKept 2 = .ok (.aload_n 0, 1) := by decide +kernel
theorem dX0_isKept_3 : decode cX0_isKept 3 = .ok (.invokevirtual 48, 3) := by decide +kernel
theorem dX0_isKept_6 : decode cX0_isKept 6 = .ok (.iconst 1, 1) := by decide +kernel
theorem dX0_isKept_7 : decode cX0_isKept 7 = .ok (.isub, 1) := by decide +kernel
theorem dX0_isKept_8 : decode cX0_isKept 8 = .ok (.invokestatic 52, 3) := by decide +kernel
theorem dX0_isKept_11 : decode cX0_isKept 11 = .ok (.ireturn, 1) := by decide +kernel
theorem dX0_firstOf_0 : decode cX0_firstOf 0 = .ok (.aload_n 0, 1) := by decide +kernel
theorem dX0_firstOf_1 : decode cX0_firstOf 1 = .ok (.iload_n 1, 1) := by decide +kernel
theorem dX0_firstOf_2 : decode cX0_firstOf 2 = .ok (.invokevirtual 56, 3) := by decide +kernel
theorem dX0_firstOf_5 : decode cX0_firstOf 5 = .ok (.ifCond .eq 12, 3) := by decide +kernel
theorem dX0_firstOf_8 : decode cX0_firstOf 8 = .ok (.aload_n 0, 1) := by decide +kernel
theorem dX0_firstOf_9 : decode cX0_firstOf 9 = .ok (.getfield 28, 3) := by decide +kernel
theorem dX0_firstOf_12 : decode cX0_firstOf 12 = .ok (.iload_n 1, 1) := by decide +kernel
theorem dX0_firstOf_13 : decode cX0_firstOf 13 = .ok (.iaload, 1) := by decide +kernel
theorem dX0_firstOf_14 : decode cX0_firstOf 14 = .ok (.goto 4, 3) := by decide +kernel
theorem dX0_firstOf_17 : decode cX0_firstOf 17 = .ok (.iconst (-1), 1) := by decide +kernel
theorem dX0_firstOf_18 : decode cX0_firstOf 18 = .ok (.ireturn, 1) := by decide +kernel
theorem dX0_lastOf_0 : decode cX0_lastOf 0 = .ok (.aload_n 0, 1) := by decide +kernel
theorem dX0_lastOf_1 : decode cX0_lastOf 1 = .ok (.iload_n 1, 1) := by decide +kernel
theorem dX0_lastOf_2 : decode cX0_lastOf 2 = .ok (.invokevirtual 56, 3) := by decide +kernel
theorem dX0_lastOf_5 : decode cX0_lastOf 5 = .ok (.ifCond .eq 12, 3) := by decide +kernel
theorem dX0_lastOf_8 : decode cX0_lastOf 8 = .ok (.aload_n 0, 1) := by decide +kernel
theorem dX0_lastOf_9 : decode cX0_lastOf 9 = .ok (.getfield 32, 3) := by decide +kernel
theorem dX0_lastOf_12 : decode cX0_lastOf 12 = .ok (.iload_n 1, 1) := by decide +kernel
theorem dX0_lastOf_13 : decode cX0_lastOf 13 = .ok (.iaload, 1) := by decide +kernel
theorem dX0_lastOf_14 : decode cX0_lastOf 14 = .ok (.goto 4, 3) := by decide +kernel
theorem dX0_lastOf_17 : decode cX0_lastOf 17 = .ok (.iconst (-1), 1) := by decide +kernel
theorem dX0_lastOf_18 : decode cX0_lastOf 18 = .ok (.ireturn, 1) := by decide +kernel
theorem dX0_partOf_0 : decode cX0_partOf 0 = .ok (.aload_n 0, 1) := by decide +kernel
theorem dX0_partOf_1 : decode cX0_partOf 1 = .ok (.iload_n 1, 1) := by decide +kernel
theorem dX0_partOf_2 : decode cX0_partOf 2 = .ok (.invokevirtual 56, 3) := by decide +kernel
theorem dX0_partOf_5 : decode cX0_partOf 5 = .ok (.ifCond .eq 12, 3) := by decide +kernel
theorem dX0_partOf_8 : decode cX0_partOf 8 = .ok (.aload_n 0, 1) := by decide +kernel
theorem dX0_partOf_9 : decode cX0_partOf 9 = .ok (.getfield 35, 3) := by decide +kernel
theorem dX0_partOf_12 : decode cX0_partOf 12 = .ok (.iload_n 1, 1) := by decide +kernel
theorem dX0_partOf_13 : decode cX0_partOf 13 = .ok (.iaload, 1) := by decide +kernel
theorem dX0_partOf_14 : decode cX0_partOf 14 = .ok (.goto 4, 3) := by decide +kernel
theorem dX0_partOf_17 : decode cX0_partOf 17 = .ok (.iconst (-1), 1) := by decide +kernel
theorem dX0_partOf_18 : decode cX0_partOf 18 = .ok (.ireturn, 1) := by decide +kernel
theorem dX0_blackened_0 : decode cX0_blackened 0 = .ok (.aload_n 1, 1) := by decide +kernel
theorem dX0_blackened_1 : decode cX0_blackened 1 = .ok (.invokevirtual 60, 3) := by decide +kernel
theorem dX0_blackened_4 : decode cX0_blackened 4 = .ok (.checkcast 61, 3) := by decide +kernel
theorem dX0_blackened_7 : decode cX0_blackened 7 = .ok (.astore_n 2, 1) := by decide +kernel
theorem dX0_blackened_8 : decode cX0_blackened 8 = .ok (.aload_n 0, 1) := by decide +kernel
theorem dX0_blackened_9 : decode cX0_blackened 9 = .ok (.invokevirtual 48, 3) := by decide +kernel
theorem dX0_blackened_12 : decode cX0_blackened 12 = .ok (.istore_n 3, 1) := by decide +kernel
theorem dX0_blackened_13 : decode cX0_blackened 13 = .ok (.iconst 0, 1) := by decide +kernel
theorem dX0_blackened_14 : decode cX0_blackened 14 = .ok (.istore 4, 2) := by decide +kernel
theorem dX0_blackened_16 : decode cX0_blackened 16 = .ok (.iload 4, 2) := by decide +kernel
theorem dX0_blackened_18 : decode cX0_blackened 18 = .ok (.iload_n 3, 1) := by decide +kernel
theorem dX0_blackened_19 : decode cX0_blackened 19 = .ok (.if_icmp .ge 49, 3) := by decide +kernel
theorem dX0_blackened_22 : decode cX0_blackened 22 = .ok (.aload_n 0, 1) := by decide +kernel
theorem dX0_blackened_23 : decode cX0_blackened 23 = .ok (.getfield 28, 3) := by decide +kernel
theorem dX0_blackened_26 : decode cX0_blackened 26 = .ok (.iload 4, 2) := by decide +kernel
theorem dX0_blackened_28 : decode cX0_blackened 28 = .ok (.iaload, 1) := by decide +kernel
theorem dX0_blackened_29 : decode cX0_blackened 29 = .ok (.istore 5, 2) := by decide +kernel
theorem dX0_blackened_31 : decode cX0_blackened 31 = .ok (.iload 5, 2) := by decide +kernel
theorem dX0_blackened_33 : decode cX0_blackened 33 = .ok (.aload_n 0, 1) := by decide +kernel
theorem dX0_blackened_34 : decode cX0_blackened 34 = .ok (.getfield 32, 3) := by decide +kernel
theorem dX0_blackened_37 : decode cX0_blackened 37 = .ok (.iload 4, 2) := by decide +kernel
theorem dX0_blackened_39 : decode cX0_blackened 39 = .ok (.iaload, 1) := by decide +kernel
theorem dX0_blackened_40 : decode cX0_blackened 40 = .ok (.if_icmp .gt 22, 3) := by decide +kernel
theorem dX0_blackened_43 : decode cX0_blackened 43 = .ok (.iload 5, 2) := by decide +kernel
theorem dX0_blackened_45 : decode cX0_blackened 45 = .ok (.aload_n 2, 1) := by decide +kernel
theorem dX0_blackened_46 : decode cX0_blackened 46 = .ok (.arraylength, 1) := by decide +kernel
theorem dX0_blackened_47 : decode cX0_blackened 47 = .ok (.if_icmp .ge 15, 3) := by decide +kernel
theorem dX0_blackened_50 : decode cX0_blackened 50 = .ok (.aload_n 2, 1) := by decide +kernel
theorem dX0_blackened_51 : decode cX0_blackened 51 = .ok (.iload 5, 2) := by decide +kernel
theorem dX0_blackened_53 : decode cX0_blackened 53 = .ok (.bipush 42, 2) := by decide +kernel
theorem dX0_blackened_55 : decode cX0_blackened 55 = .ok (.iastore, 1) := by decide +kernel
theorem dX0_blackened_56 : decode cX0_blackened 56 = .ok (.iinc 5 1, 3) := by decide +kernel
theorem dX0_blackened_59 : decode cX0_blackened 59 = .ok (.goto (-28), 3) := by decide +kernel
theorem dX0_blackened_62 : decode cX0_blackened 62 = .ok (.iinc 4 1, 3) := by decide +kernel
theorem dX0_blackened_65 : decode cX0_blackened 65 = .ok (.goto (-49), 3) := by decide +kernel
theorem dX0_blackened_68 : decode cX0_blackened 68 = .ok (.aload_n 2, 1) := by decide +kernel
theorem dX0_blackened_69 : decode cX0_blackened 69 = .ok (.areturn, 1) := by decide +kernel
theorem dX1_init_0 : decode cX1_init 0 = .ok (.aload_n 0, 1) := by decide +kernel
theorem dX1_init_1 : decode cX1_init 1 = .ok (.invokespecial 3, 3) := by decide +kernel
theorem dX1_init_4 : decode cX1_init 4 = .ok (.aload_n 0, 1) := by decide +kernel
theorem dX1_init_5 : decode cX1_init 5 = .ok (.iload_n 1, 1) := by decide +kernel
theorem dX1_init_6 : decode cX1_init 6 = .ok (.putfield 9, 3) := by decide +kernel
theorem dX1_init_9 : decode cX1_init 9 = .ok (.aload_n 0, 1) := by decide +kernel
theorem dX1_init_10 : decode cX1_init 10 = .ok (.aload_n 2, 1) := by decide +kernel
theorem dX1_init_11 : decode cX1_init 11 = .ok (.putfield 15, 3) := by decide +kernel
theorem dX1_init_14 : decode cX1_init 14 = .ok (.aload_n 0, 1) := by decide +kernel
theorem dX1_init_15 : decode cX1_init 15 = .ok (.iload_n 3, 1) := by decide +kernel
theorem dX1_init_16 : decode cX1_init 16 = .ok (.putfield 19, 3) := by decide +kernel
theorem dX1_init_19 : decode cX1_init 19 = .ok (.aload_n 0, 1) := by decide +kernel
theorem dX1_init_20 : decode cX1_init 20 = .ok (.iload 4, 2) := by decide +kernel
theorem dX1_init_22 : decode cX1_init 22 = .ok (.putfield 22, 3) := by decide +kernel
theorem dX1_init_25 : decode cX1_init 25 = .ok (.aload_n 0, 1) := by decide +kernel
theorem dX1_init_26 : decode cX1_init 26 = .ok (.iload 5, 2) := by decide +kernel
theorem dX1_init_28 : decode cX1_init 28 = .ok (.putfield 25, 3) := by decide +kernel
theorem dX1_init_31 : decode cX1_init 31 = .ok (.aload_n 0, 1) := by decide +kernel
theorem dX1_init_32 : decode cX1_init 32 = .ok (.iload 6, 2) := by decide +kernel
theorem dX1_init_34 : decode cX1_init 34 = .ok (.putfield 28, 3) := by decide +kernel
theorem dX1_init_37 : decode cX1_init 37 = .ok (.return_, 1) := by decide +kernel
theorem dX1_isOver_0 : decode cX1_isOver 0 = .ok (.aload_n 0, 1) := by decide +kernel
theorem dX1_isOver_1 : decode cX1_isOver 1 = .ok (.getfield 9, 3) := by decide +kernel
theorem dX1_isOver_4 : decode cX1_isOver 4 = .ok (.iconst 2, 1) := by decide +kernel
theorem dX1_isOver_5 : decode cX1_isOver 5 = .ok (.if_icmp .eq 11, 3) := by decide +kernel
theorem dX1_isOver_8 : decode cX1_isOver 8 = .ok (.aload_n 0, 1) := by decide +kernel
theorem dX1_isOver_9 : decode cX1_isOver 9 = .ok (.getfield 9, 3) := by decide +kernel
theorem dX1_isOver_12 : decode cX1_isOver 12 = .ok (.iconst 4, 1) := by decide +kernel
theorem dX1_isOver_13 : decode cX1_isOver 13 = .ok (.if_icmp .ne 15, 3) := by decide +kernel
theorem dX1_isOver_16 : decode cX1_isOver 16 = .ok (.aload_n 0, 1) := by decide +kernel
theorem dX1_isOver_17 : decode cX1_isOver 17 = .ok (.getfield 19, 3) := by decide +kernel
theorem dX1_isOver_20 : decode cX1_isOver 20 = .ok (.iload_n 1, 1) := by decide +kernel
theorem dX1_isOver_21 : decode cX1_isOver 21 = .ok (.if_icmp .ne 7, 3) := by decide +kernel
theorem dX1_isOver_24 : decode cX1_isOver 24 = .ok (.iconst 1, 1) := by decide +kernel
theorem dX1_isOver_25 : decode cX1_isOver 25 = .ok (.goto 4, 3) := by decide +kernel
theorem dX1_isOver_28 : decode cX1_isOver 28 = .ok (.iconst 0, 1) := by decide +kernel
theorem dX1_isOver_29 : decode cX1_isOver 29 = .ok (.ireturn, 1) := by decide +kernel
theorem dX2_init_0 : decode cX2_init 0 = .ok (.aload_n 0, 1) := by decide +kernel
theorem dX2_init_1 : decode cX2_init 1 = .ok (.invokespecial 3, 3) := by decide +kernel
theorem dX2_init_4 : decode cX2_init 4 = .ok (.aload_n 0, 1) := by decide +kernel
theorem dX2_init_5 : decode cX2_init 5 = .ok (.iconst 0, 1) := by decide +kernel
theorem dX2_init_6 : decode cX2_init 6 = .ok (.putfield 9, 3) := by decide +kernel
theorem dX2_init_9 : decode cX2_init 9 = .ok (.aload_n 0, 1) := by decide +kernel
theorem dX2_init_10 : decode cX2_init 10 = .ok (.iconst (-1), 1) := by decide +kernel
theorem dX2_init_11 : decode cX2_init 11 = .ok (.putfield 15, 3) := by decide +kernel
theorem dX2_init_14 : decode cX2_init 14 = .ok (.aload_n 0, 1) := by decide +kernel
theorem dX2_init_15 : decode cX2_init 15 = .ok (.iconst 0, 1) := by decide +kernel
theorem dX2_init_16 : decode cX2_init 16 = .ok (.putfield 18, 3) := by decide +kernel
theorem dX2_init_19 : decode cX2_init 19 = .ok (.aload_n 0, 1) := by decide +kernel
theorem dX2_init_20 : decode cX2_init 20 = .ok (.aconst_null, 1) := by decide +kernel
theorem dX2_init_21 : decode cX2_init 21 = .ok (.putfield 21, 3) := by decide +kernel
theorem dX2_init_24 : decode cX2_init 24 = .ok (.aload_n 0, 1) := by decide +kernel
theorem dX2_init_25 : decode cX2_init 25 = .ok (.bipush 8, 2) := by decide +kernel
theorem dX2_init_27 : decode cX2_init 27 = .ok (.anewarray 25, 3) := by decide +kernel
theorem dX2_init_30 : decode cX2_init 30 = .ok (.putfield 27, 3) := by decide +kernel
theorem dX2_init_33 : decode cX2_init 33 = .ok (.aload_n 0, 1) := by decide +kernel
theorem dX2_init_34 : decode cX2_init 34 = .ok (.bipush 8, 2) := by decide +kernel
theorem dX2_init_36 : decode cX2_init 36 = .ok (.newarray .boolean, 2) := by decide +kernel
theorem dX2_init_38 : decode cX2_init 38 = .ok (.putfield 31, 3) := by decide +kernel
theorem dX2_init_41 : decode cX2_init 41 = .ok (.aload_n 0, 1) := by decide +kernel
theorem dX2_init_42 : decode cX2_init 42 = .ok (.iload_n 1, 1) := by decide +kernel
theorem dX2_init_43 : decode cX2_init 43 = .ok (.putfield 35, 3) := by decide +kernel
theorem dX2_init_46 : decode cX2_init 46 = .ok (.aload_n 0, 1) := by decide +kernel
theorem dX2_init_47 : decode cX2_init 47 = .ok (.iload_n 2, 1) := by decide +kernel
theorem dX2_init_48 : decode cX2_init 48 = .ok (.putfield 38, 3) := by decide +kernel
theorem dX2_init_51 : decode cX2_init 51 = .ok (.aload_n 0, 1) := by decide +kernel
theorem dX2_init_52 : decode cX2_init 52 = .ok (.iload_n 3, 1) := by decide +kernel
theorem dX2_init_53 : decode cX2_init 53 = .ok (.putfield 41, 3) := by decide +kernel
theorem dX2_init_56 : decode cX2_init 56 = .ok (.aload_n 0, 1) := by decide +kernel
theorem dX2_init_57 : decode cX2_init 57 = .ok (.iload 4, 2) := by decide +kernel
theorem dX2_init_59 : decode cX2_init 59 = .ok (.putfield 44, 3) := by decide +kernel
theorem dX2_init_62 : decode cX2_init 62 = .ok (.aload_n 0, 1) := by decide +kernel
theorem dX2_init_63 : decode cX2_init 63 = .ok (.aload 5, 2) := by decide +kernel
theorem dX2_init_65 : decode cX2_init 65 = .ok (.putfield 47, 3) := by decide +kernel
theorem dX2_init_68 : decode cX2_init 68 = .ok (.aload_n 0, 1) := by decide +kernel
theorem dX2_init_69 : decode cX2_init 69 = .ok (.aload 6, 2) := by decide +kernel
theorem dX2_init_71 : decode cX2_init 71 = .ok (.putfield 51, 3) := by decide +kernel
theorem dX2_init_74 : decode cX2_init 74 = .ok (.aload_n 0, 1) := by decide +kernel
theorem dX2_init_75 : decode cX2_init 75 = .ok (.aload 5, 2) := by decide +kernel
theorem dX2_init_77 : decode cX2_init 77 = .ok (.putfield 55, 3) := by decide +kernel
theorem dX2_init_80 : decode cX2_init 80 = .ok (.iconst 0, 1) := by decide +kernel
theorem dX2_init_81 : decode cX2_init 81 = .ok (.istore 7, 2) := by decide +kernel
theorem dX2_init_83 : decode cX2_init 83 = .ok (.iload 7, 2) := by decide +kernel
theorem dX2_init_85 : decode cX2_init 85 = .ok (.bipush 8, 2) := by decide +kernel
theorem dX2_init_87 : decode cX2_init 87 = .ok (.if_icmp .ge 24, 3) := by decide +kernel
theorem dX2_init_90 : decode cX2_init 90 = .ok (.aload_n 0, 1) := by decide +kernel
theorem dX2_init_91 : decode cX2_init 91 = .ok (.getfield 27, 3) := by decide +kernel
theorem dX2_init_94 : decode cX2_init 94 = .ok (.iload 7, 2) := by decide +kernel
theorem dX2_init_96 : decode cX2_init 96 = .ok (.new 25, 3) := by decide +kernel
theorem dX2_init_99 : decode cX2_init 99 = .ok (.dup, 1) := by decide +kernel
theorem dX2_init_100 : decode cX2_init 100 = .ok (.iconst 0, 1) := by decide +kernel
theorem dX2_init_101 : decode cX2_init 101 = .ok (.invokespecial 58, 3) := by decide +kernel
theorem dX2_init_104 : decode cX2_init 104 = .ok (.aastore, 1) := by decide +kernel
theorem dX2_init_105 : decode cX2_init 105 = .ok (.iinc 7 1, 3) := by decide +kernel
theorem dX2_init_108 : decode cX2_init 108 = .ok (.goto (-25), 3) := by decide +kernel
theorem dX2_init_111 : decode cX2_init 111 = .ok (.return_, 1) := by decide +kernel
theorem dX3_init_0 : decode cX3_init 0 = .ok (.aload_n 0, 1) := by decide +kernel
theorem dX3_init_1 : decode cX3_init 1 = .ok (.invokespecial 1, 3) := by decide +kernel
theorem dX3_init_4 : decode cX3_init 4 = .ok (.aload_n 0, 1) := by decide +kernel
theorem dX3_init_5 : decode cX3_init 5 = .ok (.lconst 0, 1) := by decide +kernel
theorem dX3_init_6 : decode cX3_init 6 = .ok (.putfield 7, 3) := by decide +kernel
theorem dX3_init_9 : decode cX3_init 9 = .ok (.aload_n 0, 1) := by decide +kernel
theorem dX3_init_10 : decode cX3_init 10 = .ok (.lconst 0, 1) := by decide +kernel
theorem dX3_init_11 : decode cX3_init 11 = .ok (.putfield 13, 3) := by decide +kernel
theorem dX3_init_14 : decode cX3_init 14 = .ok (.aload_n 0, 1) := by decide +kernel
theorem dX3_init_15 : decode cX3_init 15 = .ok (.lconst 0, 1) := by decide +kernel
theorem dX3_init_16 : decode cX3_init 16 = .ok (.putfield 16, 3) := by decide +kernel
theorem dX3_init_19 : decode cX3_init 19 = .ok (.return_, 1) := by decide +kernel
theorem dX3_clear_0 : decode cX3_clear 0 = .ok (.aload_n 0, 1) := by decide +kernel
theorem dX3_clear_1 : decode cX3_clear 1 = .ok (.lconst 0, 1) := by decide +kernel
theorem dX3_clear_2 : decode cX3_clear 2 = .ok (.putfield 7, 3) := by decide +kernel
theorem dX3_clear_5 : decode cX3_clear 5 = .ok (.aload_n 0, 1) := by decide +kernel
theorem dX3_clear_6 : decode cX3_clear 6 = .ok (.lconst 0, 1) := by decide +kernel
theorem dX3_clear_7 : decode cX3_clear 7 = .ok (.putfield 13, 3) := by decide +kernel
theorem dX3_clear_10 : decode cX3_clear 10 = .ok (.aload_n 0, 1) := by decide +kernel
theorem dX3_clear_11 : decode cX3_clear 11 = .ok (.lconst 0, 1) := by decide +kernel
theorem dX3_clear_12 : decode cX3_clear 12 = .ok (.putfield 16, 3) := by decide +kernel
theorem dX3_clear_15 : decode cX3_clear 15 = .ok (.return_, 1) := by decide +kernel
theorem dX3_put_0 : decode cX3_put 0 = .ok (.iload_n 1, 1) := by decide +kernel
theorem dX3_put_1 : decode cX3_put 1 = .ok (.ifCond .ge 4, 3) := by decide +kernel
theorem dX3_put_4 : decode cX3_put 4 = .ok (.return_, 1) := by decide +kernel
theorem dX3_put_5 : decode cX3_put 5 = .ok (.lconst 1, 1) := by decide +kernel
theorem dX3_put_6 : decode cX3_put 6 = .ok (.iload_n 1, 1) := by decide +kernel
theorem dX3_put_7 : decode cX3_put 7 = .ok (.bipush 63, 2) := by decide +kernel
theorem dX3_put_9 : decode cX3_put 9 = .ok (.iand, 1) := by decide +kernel
theorem dX3_put_10 : decode cX3_put 10 = .ok (.lshl, 1) := by decide +kernel
theorem dX3_put_11 : decode cX3_put 11 = .ok (.lstore_n 2, 1) := by decide +kernel
theorem dX3_put_12 : decode cX3_put 12 = .ok (.iload_n 1, 1) := by decide +kernel
theorem dX3_put_13 : decode cX3_put 13 = .ok (.bipush 6, 2) := by decide +kernel
theorem dX3_put_15 : decode cX3_put 15 = .ok (.ishr, 1) := by decide +kernel
theorem dX3_put_16 : decode cX3_put 16 = .ok (.tableswitch 67 0 2 #[28, 41, 54], 28) := by decide +kernel
theorem dX3_put_44 : decode cX3_put 44 = .ok (.aload_n 0, 1) := by decide +kernel
theorem dX3_put_45 : decode cX3_put 45 = .ok (.dup, 1) := by decide +kernel
theorem dX3_put_46 : decode cX3_put 46 = .ok (.getfield 7, 3) := by decide +kernel
theorem dX3_put_49 : decode cX3_put 49 = .ok (.lload_n 2, 1) := by decide +kernel
theorem dX3_put_50 : decode cX3_put 50 = .ok (.lor, 1) := by decide +kernel
theorem dX3_put_51 : decode cX3_put 51 = .ok (.putfield 7, 3) := by decide +kernel
theorem dX3_put_54 : decode cX3_put 54 = .ok (.goto 29, 3) := by decide +kernel
theorem dX3_put_57 : decode cX3_put 57 = .ok (.aload_n 0, 1) := by decide +kernel
theorem dX3_put_58 : decode cX3_put 58 = .ok (.dup, 1) := by decide +kernel
theorem dX3_put_59 : decode cX3_put 59 = .ok (.getfield 13, 3) := by decide +kernel
theorem dX3_put_62 : decode cX3_put 62 = .ok (.lload_n 2, 1) := by decide +kernel
theorem dX3_put_63 : decode cX3_put 63 = .ok (.lor, 1) := by decide +kernel
theorem dX3_put_64 : decode cX3_put 64 = .ok (.putfield 13, 3) := by decide +kernel
theorem dX3_put_67 : decode cX3_put 67 = .ok (.goto 16, 3) := by decide +kernel
theorem dX3_put_70 : decode cX3_put 70 = .ok (.aload_n 0, 1) := by decide +kernel
theorem dX3_put_71 : decode cX3_put 71 = .ok (.dup, 1) := by decide +kernel
theorem dX3_put_72 : decode cX3_put 72 = .ok (.getfield 16, 3) := by decide +kernel
theorem dX3_put_75 : decode cX3_put 75 = .ok (.lload_n 2, 1) := by decide +kernel
theorem dX3_put_76 : decode cX3_put 76 = .ok (.lor, 1) := by decide +kernel
theorem dX3_put_77 : decode cX3_put 77 = .ok (.putfield 16, 3) := by decide +kernel
theorem dX3_put_80 : decode cX3_put 80 = .ok (.goto 3, 3) := by decide +kernel
theorem dX3_put_83 : decode cX3_put 83 = .ok (.return_, 1) := by decide +kernel
theorem dX3_putAll_0 : decode cX3_putAll 0 = .ok (.aload_n 0, 1) := by decide +kernel
theorem dX3_putAll_1 : decode cX3_putAll 1 = .ok (.dup, 1) := by decide +kernel
theorem dX3_putAll_2 : decode cX3_putAll 2 = .ok (.getfield 7, 3) := by decide +kernel
theorem dX3_putAll_5 : decode cX3_putAll 5 = .ok (.aload_n 1, 1) := by decide +kernel
theorem dX3_putAll_6 : decode cX3_putAll 6 = .ok (.getfield 7, 3) := by decide +kernel
theorem dX3_putAll_9 : decode cX3_putAll 9 = .ok (.lor, 1) := by decide +kernel
theorem dX3_putAll_10 : decode cX3_putAll 10 = .ok (.putfield 7, 3) := by decide +kernel
theorem dX3_putAll_13 : decode cX3_putAll 13 = .ok (.aload_n 0, 1) := by decide +kernel
theorem dX3_putAll_14 : decode cX3_putAll 14 = .ok (.dup, 1) := by decide +kernel
theorem dX3_putAll_15 : decode cX3_putAll 15 = .ok (.getfield 13, 3) := by decide +kernel
theorem dX3_putAll_18 : decode cX3_putAll 18 = .ok (.aload_n 1, 1) := by decide +kernel
theorem dX3_putAll_19 : decode cX3_putAll 19 = .ok (.getfield 13, 3) := by decide +kernel
theorem dX3_putAll_22 : decode cX3_putAll 22 = .ok (.lor, 1) := by decide +kernel
theorem dX3_putAll_23 : decode cX3_putAll 23 = .ok (.putfield 13, 3) := by decide +kernel
theorem dX3_putAll_26 : decode cX3_putAll 26 = .ok (.aload_n 0, 1) := by decide +kernel
theorem dX3_putAll_27 : decode cX3_putAll 27 = .ok (.dup, 1) := by decide +kernel
theorem dX3_putAll_28 : decode cX3_putAll 28 = .ok (.getfield 16, 3) := by decide +kernel
theorem dX3_putAll_31 : decode cX3_putAll 31 = .ok (.aload_n 1, 1) := by decide +kernel
theorem dX3_putAll_32 : decode cX3_putAll 32 = .ok (.getfield 16, 3) := by decide +kernel
theorem dX3_putAll_35 : decode cX3_putAll 35 = .ok (.lor, 1) := by decide +kernel
theorem dX3_putAll_36 : decode cX3_putAll 36 = .ok (.putfield 16, 3) := by decide +kernel
theorem dX3_putAll_39 : decode cX3_putAll 39 = .ok (.return_, 1) := by decide +kernel
theorem dX3_size_0 : decode cX3_size 0 = .ok (.aload_n 0, 1) := by decide +kernel
theorem dX3_size_1 : decode cX3_size 1 = .ok (.getfield 7, 3) := by decide +kernel
theorem dX3_size_4 : decode cX3_size 4 = .ok (.invokestatic 19, 3) := by decide +kernel
theorem dX3_size_7 : decode cX3_size 7 = .ok (.aload_n 0, 1) := by decide +kernel
theorem dX3_size_8 : decode cX3_size 8 = .ok (.getfield 13, 3) := by decide +kernel
theorem dX3_size_11 : decode cX3_size 11 = .ok (.invokestatic 19, 3) := by decide +kernel
theorem dX3_size_14 : decode cX3_size 14 = .ok (.iadd, 1) := by decide +kernel
theorem dX3_size_15 : decode cX3_size 15 = .ok (.aload_n 0, 1) := by decide +kernel
theorem dX3_size_16 : decode cX3_size 16 = .ok (.getfield 16, 3) := by decide +kernel
theorem dX3_size_19 : decode cX3_size 19 = .ok (.invokestatic 19, 3) := by decide +kernel
theorem dX3_size_22 : decode cX3_size 22 = .ok (.iadd, 1) := by decide +kernel
theorem dX3_size_23 : decode cX3_size 23 = .ok (.ireturn, 1) := by decide +kernel
theorem dX4_init_0 : decode cX4_init 0 = .ok (.aload_n 0, 1) := by decide +kernel
theorem dX4_init_1 : decode cX4_init 1 = .ok (.invokespecial 3, 3) := by decide +kernel
theorem dX4_init_4 : decode cX4_init 4 = .ok (.aload_n 0, 1) := by decide +kernel
theorem dX4_init_5 : decode cX4_init 5 = .ok (.iload_n 1, 1) := by decide +kernel
theorem dX4_init_6 : decode cX4_init 6 = .ok (.putfield 9, 3) := by decide +kernel
theorem dX4_init_9 : decode cX4_init 9 = .ok (.aload_n 0, 1) := by decide +kernel
theorem dX4_init_10 : decode cX4_init 10 = .ok (.iload_n 2, 1) := by decide +kernel
theorem dX4_init_11 : decode cX4_init 11 = .ok (.putfield 15, 3) := by decide +kernel
theorem dX4_init_14 : decode cX4_init 14 = .ok (.aload_n 0, 1) := by decide +kernel
theorem dX4_init_15 : decode cX4_init 15 = .ok (.iload_n 3, 1) := by decide +kernel
theorem dX4_init_16 : decode cX4_init 16 = .ok (.putfield 18, 3) := by decide +kernel
theorem dX4_init_19 : decode cX4_init 19 = .ok (.aload_n 0, 1) := by decide +kernel
theorem dX4_init_20 : decode cX4_init 20 = .ok (.iload 4, 2) := by decide +kernel
theorem dX4_init_22 : decode cX4_init 22 = .ok (.putfield 21, 3) := by decide +kernel
theorem dX4_init_25 : decode cX4_init 25 = .ok (.return_, 1) := by decide +kernel
theorem dX4_isFor_0 : decode cX4_isFor 0 = .ok (.aload_n 0, 1) := by decide +kernel
theorem dX4_isFor_1 : decode cX4_isFor 1 = .ok (.getfield 9, 3) := by decide +kernel
theorem dX4_isFor_4 : decode cX4_isFor 4 = .ok (.iconst (-1), 1) := by decide +kernel
theorem dX4_isFor_5 : decode cX4_isFor 5 = .ok (.if_icmp .eq 14, 3) := by decide +kernel
theorem dX4_isFor_8 : decode cX4_isFor 8 = .ok (.aload_n 0, 1) := by decide +kernel
theorem dX4_isFor_9 : decode cX4_isFor 9 = .ok (.getfield 9, 3) := by decide +kernel
theorem dX4_isFor_12 : decode cX4_isFor 12 = .ok (.aload_n 1, 1) := by decide +kernel
theorem dX4_isFor_13 : decode cX4_isFor 13 = .ok (.getfield 24, 3) := by decide +kernel
theorem dX4_isFor_16 : decode cX4_isFor 16 = .ok (.if_icmp .ne 26, 3) := by decide +kernel
theorem dX4_isFor_19 : decode cX4_isFor 19 = .ok (.aload_n 0, 1) := by decide +kernel
theorem dX4_isFor_20 : decode cX4_isFor 20 = .ok (.getfield 15, 3) := by decide +kernel
theorem dX4_isFor_23 : decode cX4_isFor 23 = .ok (.iconst (-1), 1) := by decide +kernel
theorem dX4_isFor_24 : decode cX4_isFor 24 = .ok (.if_icmp .eq 14, 3) := by decide +kernel
theorem dX4_isFor_27 : decode cX4_isFor 27 = .ok (.aload_n 0, 1) := by decide +kernel
theorem dX4_isFor_28 : decode cX4_isFor 28 = .ok (.getfield 15, 3) := by decide +kernel
theorem dX4_isFor_31 : decode cX4_isFor 31 = .ok (.aload_n 1, 1) := by decide +kernel
theorem dX4_isFor_32 : decode cX4_isFor 32 = .ok (.getfield 27, 3) := by decide +kernel
theorem dX4_isFor_35 : decode cX4_isFor 35 = .ok (.if_icmp .ne 7, 3) := by decide +kernel
theorem dX4_isFor_38 : decode cX4_isFor 38 = .ok (.iconst 1, 1) := by decide +kernel
theorem dX4_isFor_39 : decode cX4_isFor 39 = .ok (.goto 4, 3) := by decide +kernel
theorem dX4_isFor_42 : decode cX4_isFor 42 = .ok (.iconst 0, 1) := by decide +kernel
theorem dX4_isFor_43 : decode cX4_isFor 43 = .ok (.ireturn, 1) := by decide +kernel
theorem dX5_init_0 : decode cX5_init 0 = .ok (.aload_n 0, 1) := by decide +kernel
theorem dX5_init_1 : decode cX5_init 1 = .ok (.invokespecial 3, 3) := by decide +kernel
theorem dX5_init_4 : decode cX5_init 4 = .ok (.aload_n 0, 1) := by decide +kernel
theorem dX5_init_5 : decode cX5_init 5 = .ok (.bipush 21, 2) := by decide +kernel
theorem dX5_init_7 : decode cX5_init 7 = .ok (.anewarray 9, 3) := by decide +kernel
theorem dX5_init_10 : decode cX5_init 10 = .ok (.putfield 11, 3) := by decide +kernel
theorem dX5_init_13 : decode cX5_init 13 = .ok (.aload_n 0, 1) := by decide +kernel
theorem dX5_init_14 : decode cX5_init 14 = .ok (.iconst 0, 1) := by decide +kernel
theorem dX5_init_15 : decode cX5_init 15 = .ok (.putfield 17, 3) := by decide +kernel
theorem dX5_init_18 : decode cX5_init 18 = .ok (.return_, 1) := by decide +kernel
theorem dX5_get_0 : decode cX5_get 0 = .ok (.iload_n 1, 1) := by decide +kernel
theorem dX5_get_1 : decode cX5_get 1 = .ok (.iconst 0, 1) := by decide +kernel
theorem dX5_get_2 : decode cX5_get 2 = .ok (.aload_n 0, 1) := by decide +kernel
theorem dX5_get_3 : decode cX5_get 3 = .ok (.getfield 17, 3) := by decide +kernel
theorem dX5_get_6 : decode cX5_get 6 = .ok (.iconst 1, 1) := by decide +kernel
theorem dX5_get_7 : decode cX5_get 7 = .ok (.isub, 1) := by decide +kernel
theorem dX5_get_8 : decode cX5_get 8 = .ok (.invokestatic 21, 3) := by decide +kernel
theorem dX5_get_11 : decode cX5_get 11 = .ok (.ifCond .eq 12, 3) := by decide +kernel
theorem dX5_get_14 : decode cX5_get 14 = .ok (.aload_n 0, 1) := by decide +kernel
theorem dX5_get_15 : decode cX5_get 15 = .ok (.getfield 11, 3) := by decide +kernel
theorem dX5_get_18 : decode cX5_get 18 = .ok (.iload_n 1, 1) := by decide +kernel
theorem dX5_get_19 : decode cX5_get 19 = .ok (.aaload, 1) := by decide +kernel
theorem dX5_get_20 : decode cX5_get 20 = .ok (.goto 4, 3) := by decide +kernel
theorem dX5_get_23 : decode cX5_get 23 = .ok (.aconst_null, 1) := by decide +kernel
theorem dX5_get_24 : decode cX5_get 24 = .ok (.areturn, 1) := by decide +kernel
theorem dX5_insert_0 : decode cX5_insert 0 = .ok (.aload_n 0, 1) := by decide +kernel
theorem dX5_insert_1 : decode cX5_insert 1 = .ok (.getfield 17, 3) := by decide +kernel
theorem dX5_insert_4 : decode cX5_insert 4 = .ok (.aload_n 0, 1) := by decide +kernel
theorem dX5_insert_5 : decode cX5_insert 5 = .ok (.getfield 11, 3) := by decide +kernel
theorem dX5_insert_8 : decode cX5_insert 8 = .ok (.arraylength, 1) := by decide +kernel
theorem dX5_insert_9 : decode cX5_insert 9 = .ok (.if_icmp .ge 15, 3) := by decide +kernel
theorem dX5_insert_12 : decode cX5_insert 12 = .ok (.iload_n 1, 1) := by decide +kernel
theorem dX5_insert_13 : decode cX5_insert 13 = .ok (.iconst 0, 1) := by decide +kernel
theorem dX5_insert_14 : decode cX5_insert 14 = .ok (.aload_n 0, 1) := by decide +kernel
theorem dX5_insert_15 : decode cX5_insert 15 = .ok (.getfield 17, 3) := by decide +kernel
theorem dX5_insert_18 : decode cX5_insert 18 = .ok (.invokestatic 21, 3) := by decide +kernel
theorem dX5_insert_21 : decode cX5_insert 21 = .ok (.ifCond .ne 4, 3) := by decide +kernel
theorem dX5_insert_24 : decode cX5_insert 24 = .ok (.return_, 1) := by decide +kernel
theorem dX5_insert_25 : decode cX5_insert 25 = .ok (.aload_n 0, 1) := by decide +kernel
theorem dX5_insert_26 : decode cX5_insert 26 = .ok (.getfield 17, 3) := by decide +kernel
theorem dX5_insert_29 : decode cX5_insert 29 = .ok (.istore_n 3, 1) := by decide +kernel
theorem dX5_insert_30 : decode cX5_insert 30 = .ok (.iload_n 3, 1) := by decide +kernel
theorem dX5_insert_31 : decode cX5_insert 31 = .ok (.iload_n 1, 1) := by decide +kernel
theorem dX5_insert_32 : decode cX5_insert 32 = .ok (.if_icmp .le 23, 3) := by decide +kernel
theorem dX5_insert_35 : decode cX5_insert 35 = .ok (.aload_n 0, 1) := by decide +kernel
theorem dX5_insert_36 : decode cX5_insert 36 = .ok (.getfield 11, 3) := by decide +kernel
theorem dX5_insert_39 : decode cX5_insert 39 = .ok (.iload_n 3, 1) := by decide +kernel
theorem dX5_insert_40 : decode cX5_insert 40 = .ok (.aload_n 0, 1) := by decide +kernel
theorem dX5_insert_41 : decode cX5_insert 41 = .ok (.getfield 11, 3) := by decide +kernel
theorem dX5_insert_44 : decode cX5_insert 44 = .ok (.iload_n 3, 1) := by decide +kernel
theorem dX5_insert_45 : decode cX5_insert 45 = .ok (.iconst 1, 1) := by decide +kernel
theorem dX5_insert_46 : decode cX5_insert 46 = .ok (.isub, 1) := by decide +kernel
theorem dX5_insert_47 : decode cX5_insert 47 = .ok (.aaload, 1) := by decide +kernel
theorem dX5_insert_48 : decode cX5_insert 48 = .ok (.aastore, 1) := by decide +kernel
theorem dX5_insert_49 : decode cX5_insert 49 = .ok (.iinc 3 (-1), 3) := by decide +kernel
theorem dX5_insert_52 : decode cX5_insert 52 = .ok (.goto (-22), 3) := by decide +kernel
theorem dX5_insert_55 : decode cX5_insert 55 = .ok (.aload_n 0, 1) := by decide +kernel
theorem dX5_insert_56 : decode cX5_insert 56 = .ok (.getfield 11, 3) := by decide +kernel
theorem dX5_insert_59 : decode cX5_insert 59 = .ok (.iload_n 1, 1) := by decide +kernel
theorem dX5_insert_60 : decode cX5_insert 60 = .ok (.aload_n 2, 1) := by decide +kernel
theorem dX5_insert_61 : decode cX5_insert 61 = .ok (.aastore, 1) := by decide +kernel
theorem dX5_insert_62 : decode cX5_insert 62 = .ok (.aload_n 0, 1) := by decide +kernel
theorem dX5_insert_63 : decode cX5_insert 63 = .ok (.dup, 1) := by decide +kernel
theorem dX5_insert_64 : decode cX5_insert 64 = .ok (.getfield 17, 3) := by decide +kernel
theorem dX5_insert_67 : decode cX5_insert 67 = .ok (.iconst 1, 1) := by decide +kernel
theorem dX5_insert_68 : decode cX5_insert 68 = .ok (.iadd, 1) := by decide +kernel
theorem dX5_insert_69 : decode cX5_insert 69 = .ok (.putfield 17, 3) := by decide +kernel
theorem dX5_insert_72 : decode cX5_insert 72 = .ok (.return_, 1) := by decide +kernel
theorem dX5_remove_0 : decode cX5_remove 0 = .ok (.iload_n 1, 1) := by decide +kernel
theorem dX5_remove_1 : decode cX5_remove 1 = .ok (.iconst 0, 1) := by decide +kernel
theorem dX5_remove_2 : decode cX5_remove 2 = .ok (.aload_n 0, 1) := by decide +kernel
theorem dX5_remove_3 : decode cX5_remove 3 = .ok (.getfield 17, 3) := by decide +kernel
theorem dX5_remove_6 : decode cX5_remove 6 = .ok (.iconst 1, 1) := by decide +kernel
theorem dX5_remove_7 : decode cX5_remove 7 = .ok (.isub, 1) := by decide +kernel
theorem dX5_remove_8 : decode cX5_remove 8 = .ok (.invokestatic 21, 3) := by decide +kernel
theorem dX5_remove_11 : decode cX5_remove 11 = .ok (.ifCond .ne 4, 3) := by decide +kernel
theorem dX5_remove_14 : decode cX5_remove 14 = .ok (.return_, 1) := by decide +kernel
theorem dX5_remove_15 : decode cX5_remove 15 = .ok (.iload_n 1, 1) := by decide +kernel
theorem dX5_remove_16 : decode cX5_remove 16 = .ok (.istore_n 2, 1) := by decide +kernel
theorem dX5_remove_17 : decode cX5_remove 17 = .ok (.iload_n 2, 1) := by decide +kernel
theorem dX5_remove_18 : decode cX5_remove 18 = .ok (.iconst 1, 1) := by decide +kernel
theorem dX5_remove_19 : decode cX5_remove 19 = .ok (.iadd, 1) := by decide +kernel
theorem dX5_remove_20 : decode cX5_remove 20 = .ok (.aload_n 0, 1) := by decide +kernel
theorem dX5_remove_21 : decode cX5_remove 21 = .ok (.getfield 17, 3) := by decide +kernel
theorem dX5_remove_24 : decode cX5_remove 24 = .ok (.if_icmp .ge 23, 3) := by decide +kernel
theorem dX5_remove_27 : decode cX5_remove 27 = .ok (.aload_n 0, 1) := by decide +kernel
theorem dX5_remove_28 : decode cX5_remove 28 = .ok (.getfield 11, 3) := by decide +kernel
theorem dX5_remove_31 : decode cX5_remove 31 = .ok (.iload_n 2, 1) := by decide +kernel
theorem dX5_remove_32 : decode cX5_remove 32 = .ok (.aload_n 0, 1) := by decide +kernel
theorem dX5_remove_33 : decode cX5_remove 33 = .ok (.getfield 11, 3) := by decide +kernel
theorem dX5_remove_36 : decode cX5_remove 36 = .ok (.iload_n 2, 1) := by decide +kernel
theorem dX5_remove_37 : decode cX5_remove 37 = .ok (.iconst 1, 1) := by decide +kernel
theorem dX5_remove_38 : decode cX5_remove 38 = .ok (.iadd, 1) := by decide +kernel
theorem dX5_remove_39 : decode cX5_remove 39 = .ok (.aaload, 1) := by decide +kernel
theorem dX5_remove_40 : decode cX5_remove 40 = .ok (.aastore, 1) := by decide +kernel
theorem dX5_remove_41 : decode cX5_remove 41 = .ok (.iinc 2 1, 3) := by decide +kernel
theorem dX5_remove_44 : decode cX5_remove 44 = .ok (.goto (-27), 3) := by decide +kernel
theorem dX5_remove_47 : decode cX5_remove 47 = .ok (.aload_n 0, 1) := by decide +kernel
theorem dX5_remove_48 : decode cX5_remove 48 = .ok (.dup, 1) := by decide +kernel
theorem dX5_remove_49 : decode cX5_remove 49 = .ok (.getfield 17, 3) := by decide +kernel
theorem dX5_remove_52 : decode cX5_remove 52 = .ok (.iconst 1, 1) := by decide +kernel
theorem dX5_remove_53 : decode cX5_remove 53 = .ok (.isub, 1) := by decide +kernel
theorem dX5_remove_54 : decode cX5_remove 54 = .ok (.putfield 17, 3) := by decide +kernel
theorem dX5_remove_57 : decode cX5_remove 57 = .ok (.return_, 1) := by decide +kernel
theorem dX5_copyWith_0 : decode cX5_copyWith 0 = .ok (.aload_n 0, 1) := by decide +kernel
theorem dX5_copyWith_1 : decode cX5_copyWith 1 = .ok (.iconst 0, 1) := by decide +kernel
theorem dX5_copyWith_2 : decode cX5_copyWith 2 = .ok (.putfield 17, 3) := by decide +kernel
theorem dX5_copyWith_5 : decode cX5_copyWith 5 = .ok (.iconst 0, 1) := by decide +kernel
theorem dX5_copyWith_6 : decode cX5_copyWith 6 = .ok (.istore 4, 2) := by decide +kernel
theorem dX5_copyWith_8 : decode cX5_copyWith 8 = .ok (.iload 4, 2) := by decide +kernel
theorem dX5_copyWith_10 : decode cX5_copyWith 10 = .ok (.aload_n 1, 1) := by decide +kernel
theorem dX5_copyWith_11 : decode cX5_copyWith 11 = .ok (.getfield 17, 3) := by decide +kernel
theorem dX5_copyWith_14 : decode cX5_copyWith 14 = .ok (.if_icmp .ge 22, 3) := by decide +kernel
theorem dX5_copyWith_17 : decode cX5_copyWith 17 = .ok (.aload_n 0, 1) := by decide +kernel
theorem dX5_copyWith_18 : decode cX5_copyWith 18 = .ok (.iload 4, 2) := by decide +kernel
theorem dX5_copyWith_20 : decode cX5_copyWith 20 = .ok (.aload_n 1, 1) := by decide +kernel
theorem dX5_copyWith_21 : decode cX5_copyWith 21 = .ok (.getfield 11, 3) := by decide +kernel
theorem dX5_copyWith_24 : decode cX5_copyWith 24 = .ok (.iload 4, 2) := by decide +kernel
theorem dX5_copyWith_26 : decode cX5_copyWith 26 = .ok (.aaload, 1) := by decide +kernel
theorem dX5_copyWith_27 : decode cX5_copyWith 27 = .ok (.invokevirtual 25, 3) := by decide +kernel
theorem dX5_copyWith_30 : decode cX5_copyWith 30 = .ok (.iinc 4 1, 3) := by decide +kernel
theorem dX5_copyWith_33 : decode cX5_copyWith 33 = .ok (.goto (-25), 3) := by decide +kernel
theorem dX5_copyWith_36 : decode cX5_copyWith 36 = .ok (.aload_n 0, 1) := by decide +kernel
theorem dX5_copyWith_37 : decode cX5_copyWith 37 = .ok (.iload_n 2, 1) := by decide +kernel
theorem dX5_copyWith_38 : decode cX5_copyWith 38 = .ok (.aload_n 3, 1) := by decide +kernel
theorem dX5_copyWith_39 : decode cX5_copyWith 39 = .ok (.invokevirtual 25, 3) := by decide +kernel
theorem dX5_copyWith_42 : decode cX5_copyWith 42 = .ok (.return_, 1) := by decide +kernel
theorem dX6_init_0 : decode cX6_init 0 = .ok (.aload_n 0, 1) := by decide +kernel
theorem dX6_init_1 : decode cX6_init 1 = .ok (.invokespecial 3, 3) := by decide +kernel
theorem dX6_init_4 : decode cX6_init 4 = .ok (.aload_n 0, 1) := by decide +kernel
theorem dX6_init_5 : decode cX6_init 5 = .ok (.iconst 0, 1) := by decide +kernel
theorem dX6_init_6 : decode cX6_init 6 = .ok (.putfield 9, 3) := by decide +kernel
theorem dX6_init_9 : decode cX6_init 9 = .ok (.aload_n 0, 1) := by decide +kernel
theorem dX6_init_10 : decode cX6_init 10 = .ok (.iconst 0, 1) := by decide +kernel
theorem dX6_init_11 : decode cX6_init 11 = .ok (.putfield 15, 3) := by decide +kernel
theorem dX6_init_14 : decode cX6_init 14 = .ok (.iload_n 1, 1) := by decide +kernel
theorem dX6_init_15 : decode cX6_init 15 = .ok (.iconst 0, 1) := by decide +kernel
theorem dX6_init_16 : decode cX6_init 16 = .ok (.invokestatic 18, 3) := by decide +kernel
theorem dX6_init_19 : decode cX6_init 19 = .ok (.istore_n 2, 1) := by decide +kernel
theorem dX6_init_20 : decode cX6_init 20 = .ok (.aload_n 0, 1) := by decide +kernel
theorem dX6_init_21 : decode cX6_init 21 = .ok (.iload_n 2, 1) := by decide +kernel
theorem dX6_init_22 : decode cX6_init 22 = .ok (.newarray .int, 2) := by decide +kernel
theorem dX6_init_24 : decode cX6_init 24 = .ok (.putfield 24, 3) := by decide +kernel
theorem dX6_init_27 : decode cX6_init 27 = .ok (.aload_n 0, 1) := by decide +kernel
theorem dX6_init_28 : decode cX6_init 28 = .ok (.iload_n 2, 1) := by decide +kernel
theorem dX6_init_29 : decode cX6_init 29 = .ok (.newarray .int, 2) := by decide +kernel
theorem dX6_init_31 : decode cX6_init 31 = .ok (.putfield 28, 3) := by decide +kernel
theorem dX6_init_34 : decode cX6_init 34 = .ok (.aload_n 0, 1) := by decide +kernel
theorem dX6_init_35 : decode cX6_init 35 = .ok (.iload_n 2, 1) := by decide +kernel
theorem dX6_init_36 : decode cX6_init 36 = .ok (.newarray .int, 2) := by decide +kernel
theorem dX6_init_38 : decode cX6_init 38 = .ok (.putfield 31, 3) := by decide +kernel
theorem dX6_init_41 : decode cX6_init 41 = .ok (.iload_n 2, 1) := by decide +kernel
theorem dX6_init_42 : decode cX6_init 42 = .ok (.iconst 1, 1) := by decide +kernel
theorem dX6_init_43 : decode cX6_init 43 = .ok (.iadd, 1) := by decide +kernel
theorem dX6_init_44 : decode cX6_init 44 = .ok (.iconst 2, 1) := by decide +kernel
theorem dX6_init_45 : decode cX6_init 45 = .ok (.idiv, 1) := by decide +kernel
theorem dX6_init_46 : decode cX6_init 46 = .ok (.istore_n 3, 1) := by decide +kernel
theorem dX6_init_47 : decode cX6_init 47 = .ok (.aload_n 0, 1) := by decide +kernel
theorem dX6_init_48 : decode cX6_init 48 = .ok (.iload_n 3, 1) := by decide +kernel
theorem dX6_init_49 : decode cX6_init 49 = .ok (.newarray .int, 2) := by decide +kernel
theorem dX6_init_51 : decode cX6_init 51 = .ok (.putfield 34, 3) := by decide +kernel
theorem dX6_init_54 : decode cX6_init 54 = .ok (.aload_n 0, 1) := by decide +kernel
theorem dX6_init_55 : decode cX6_init 55 = .ok (.iload_n 3, 1) := by decide +kernel
theorem dX6_init_56 : decode cX6_init 56 = .ok (.newarray .int, 2) := by decide +kernel
theorem dX6_init_58 : decode cX6_init 58 = .ok (.putfield 37, 3) := by decide +kernel
theorem dX6_init_61 : decode cX6_init 61 = .ok (.aload_n 0, 1) := by decide +kernel
theorem dX6_init_62 : decode cX6_init 62 = .ok (.iload_n 3, 1) := by decide +kernel
theorem dX6_init_63 : decode cX6_init 63 = .ok (.newarray .int, 2) := by decide +kernel
theorem dX6_init_65 : decode cX6_init 65 = .ok (.putfield 40, 3) := by decide +kernel
theorem dX6_init_68 : decode cX6_init 68 = .ok (.return_, 1) := by decide +kernel
theorem dX6_read_0 : decode cX6_read 0 = .ok (.aload_n 0, 1) := by decide +kernel
theorem dX6_read_1 : decode cX6_read 1 = .ok (.iload_n 2, 1) := by decide +kernel
theorem dX6_read_2 : decode cX6_read 2 = .ok (.aload_n 1, 1) := by decide +kernel
theorem dX6_read_3 : decode cX6_read 3 = .ok (.arraylength, 1) := by decide +kernel
theorem dX6_read_4 : decode cX6_read 4 = .ok (.invokestatic 43, 3) := by decide +kernel
theorem dX6_read_7 : decode cX6_read 7 = .ok (.aload_n 0, 1) := by decide +kernel
theorem dX6_read_8 : decode cX6_read 8 = .ok (.getfield 24, 3) := by decide +kernel
theorem dX6_read_11 : decode cX6_read 11 = .ok (.arraylength, 1) := by decide +kernel
theorem dX6_read_12 : decode cX6_read 12 = .ok (.invokestatic 43, 3) := by decide +kernel
theorem dX6_read_15 : decode cX6_read 15 = .ok (.putfield 9, 3) := by decide +kernel
theorem dX6_read_18 : decode cX6_read 18 = .ok (.iconst 0, 1) := by decide +kernel
theorem dX6_read_19 : decode cX6_read 19 = .ok (.istore_n 3, 1) := by decide +kernel
theorem dX6_read_20 : decode cX6_read 20 = .ok (.iload_n 3, 1) := by decide +kernel
theorem dX6_read_21 : decode cX6_read 21 = .ok (.aload_n 0, 1) := by decide +kernel
theorem dX6_read_22 : decode cX6_read 22 = .ok (.getfield 9, 3) := by decide +kernel
theorem dX6_read_25 : decode cX6_read 25 = .ok (.if_icmp .ge 32, 3) := by decide +kernel
theorem dX6_read_28 : decode cX6_read 28 = .ok (.aload_n 0, 1) := by decide +kernel
theorem dX6_read_29 : decode cX6_read 29 = .ok (.getfield 24, 3) := by decide +kernel
theorem dX6_read_32 : decode cX6_read 32 = .ok (.iload_n 3, 1) := by decide +kernel
theorem dX6_read_33 : decode cX6_read 33 = .ok (.aload_n 1, 1) := by decide +kernel
theorem dX6_read_34 : decode cX6_read 34 = .ok (.iload_n 3, 1) := by decide +kernel
theorem dX6_read_35 : decode cX6_read 35 = .ok (.iaload, 1) := by decide +kernel
theorem dX6_read_36 : decode cX6_read 36 = .ok (.iastore, 1) := by decide +kernel
theorem dX6_read_37 : decode cX6_read 37 = .ok (.aload_n 0, 1) := by decide +kernel
theorem dX6_read_38 : decode cX6_read 38 = .ok (.getfield 28, 3) := by decide +kernel
theorem dX6_read_41 : decode cX6_read 41 = .ok (.iload_n 3, 1) := by decide +kernel
theorem dX6_read_42 : decode cX6_read 42 = .ok (.iload_n 3, 1) := by decide +kernel
theorem dX6_read_43 : decode cX6_read 43 = .ok (.iastore, 1) := by decide +kernel
theorem dX6_read_44 : decode cX6_read 44 = .ok (.aload_n 0, 1) := by decide +kernel
theorem dX6_read_45 : decode cX6_read 45 = .ok (.getfield 31, 3) := by decide +kernel
theorem dX6_read_48 : decode cX6_read 48 = .ok (.iload_n 3, 1) := by decide +kernel
theorem dX6_read_49 : decode cX6_read 49 = .ok (.iload_n 3, 1) := by decide +kernel
theorem dX6_read_50 : decode cX6_read 50 = .ok (.iastore, 1) := by decide +kernel
theorem dX6_read_51 : decode cX6_read 51 = .ok (.iinc 3 1, 3) := by decide +kernel
theorem dX6_read_54 : decode cX6_read 54 = .ok (.goto (-34), 3) := by decide +kernel
theorem dX6_read_57 : decode cX6_read 57 = .ok (.iconst 0, 1) := by decide +kernel
theorem dX6_read_58 : decode cX6_read 58 = .ok (.istore_n 3, 1) := by decide +kernel
theorem dX6_read_59 : decode cX6_read 59 = .ok (.iload_n 3, 1) := by decide +kernel
theorem dX6_read_60 : decode cX6_read 60 = .ok (.iconst 3, 1) := by decide +kernel
theorem dX6_read_61 : decode cX6_read 61 = .ok (.if_icmp .ge 13, 3) := by decide +kernel
theorem dX6_read_64 : decode cX6_read 64 = .ok (.aload_n 0, 1) := by decide +kernel
theorem dX6_read_65 : decode cX6_read 65 = .ok (.invokevirtual 46, 3) := by decide +kernel
theorem dX6_read_68 : decode cX6_read 68 = .ok (.iinc 3 1, 3) := by decide +kernel
theorem dX6_read_71 : decode cX6_read 71 = .ok (.goto (-12), 3) := by decide +kernel
theorem dX6_read_74 : decode cX6_read 74 = .ok (.aload_n 0, 1) := by decide +kernel
theorem dX6_read_75 : decode cX6_read 75 = .ok (.invokevirtual 49, 3) := by decide +kernel
theorem dX6_read_78 : decode cX6_read 78 = .ok (.aload_n 0, 1) := by decide +kernel
theorem dX6_read_79 : decode cX6_read 79 = .ok (.invokevirtual 52, 3) := by decide +kernel
theorem dX6_read_82 : decode cX6_read 82 = .ok (.return_, 1) := by decide +kernel
theorem dX6_unwrapOnce_0 : decode cX6_unwrapOnce 0 = .ok (.iconst 0, 1) := by decide +kernel
theorem dX6_unwrapOnce_1 : decode cX6_unwrapOnce 1 = .ok (.istore_n 1, 1) := by decide +kernel
theorem dX6_unwrapOnce_2 : decode cX6_unwrapOnce 2 = .ok (.iconst 0, 1) := by decide +kernel
theorem dX6_unwrapOnce_3 : decode cX6_unwrapOnce 3 = .ok (.istore_n 2, 1) := by decide +kernel
theorem dX6_unwrapOnce_4 : decode cX6_unwrapOnce 4 = .ok (.iload_n 1, 1) := by decide +kernel
theorem dX6_unwrapOnce_5 : decode cX6_unwrapOnce 5 = .ok (.aload_n 0, 1) := by decide +kernel
theorem dX6_unwrapOnce_6 : decode cX6_unwrapOnce 6 = .ok (.getfield 9, 3) := by decide +kernel
theorem dX6_unwrapOnce_9 : decode cX6_unwrapOnce 9 = .ok (.if_icmp .ge 82, 3) := by decide +kernel
theorem dX6_unwrapOnce_12 : decode cX6_unwrapOnce 12 = .ok (.aload_n 0, 1) := by decide +kernel
theorem dX6_unwrapOnce_13 : decode cX6_unwrapOnce 13 = .ok (.iload_n 1, 1) := by decide +kernel
theorem dX6_unwrapOnce_14 : decode cX6_unwrapOnce 14 = .ok (.invokevirtual 55, 3) := by decide +kernel
theorem dX6_unwrapOnce_17 : decode cX6_unwrapOnce 17 = .ok (.istore_n 3, 1) := by decide +kernel
theorem dX6_unwrapOnce_18 : decode cX6_unwrapOnce 18 = .ok (.iload_n 3, 1) := by decide +kernel
theorem dX6_unwrapOnce_19 : decode cX6_unwrapOnce 19 = .ok (.iconst (-1), 1) := by decide +kernel
theorem dX6_unwrapOnce_20 : decode cX6_unwrapOnce 20 = .ok (.if_icmp .ne 7, 3) := by decide +kernel
theorem dX6_unwrapOnce_23 : decode cX6_unwrapOnce 23 = .ok (.iconst 1, 1) := by decide +kernel
theorem dX6_unwrapOnce_24 : decode cX6_unwrapOnce 24 = .ok (.goto 4, 3) := by decide +kernel
theorem dX6_unwrapOnce_27 : decode cX6_unwrapOnce 27 = .ok (.iconst 3, 1) := by decide +kernel
theorem dX6_unwrapOnce_28 : decode cX6_unwrapOnce 28 = .ok (.istore 4, 2) := by decide +kernel
theorem dX6_unwrapOnce_30 : decode cX6_unwrapOnce 30 = .ok (.aload_n 0, 1) := by decide +kernel
theorem dX6_unwrapOnce_31 : decode cX6_unwrapOnce 31 = .ok (.getfield 24, 3) := by decide +kernel
theorem dX6_unwrapOnce_34 : decode cX6_unwrapOnce 34 = .ok (.iload_n 2, 1) := by decide +kernel
theorem dX6_unwrapOnce_35 : decode cX6_unwrapOnce 35 = .ok (.iload_n 3, 1) := by decide +kernel
theorem dX6_unwrapOnce_36 : decode cX6_unwrapOnce 36 = .ok (.iconst (-1), 1) := by decide +kernel
theorem dX6_unwrapOnce_37 : decode cX6_unwrapOnce 37 = .ok (.if_icmp .ne 12, 3) := by decide +kernel
theorem dX6_unwrapOnce_40 : decode cX6_unwrapOnce 40 = .ok (.aload_n 0, 1) := by decide +kernel
theorem dX6_unwrapOnce_41 : decode cX6_unwrapOnce 41 = .ok (.getfield 24, 3) := by decide +kernel
theorem dX6_unwrapOnce_44 : decode cX6_unwrapOnce 44 = .ok (.iload_n 1, 1) := by decide +kernel
theorem dX6_unwrapOnce_45 : decode cX6_unwrapOnce 45 = .ok (.iaload, 1) := by decide +kernel
theorem dX6_unwrapOnce_46 : decode cX6_unwrapOnce 46 = .ok (.goto 4, 3) := by decide +kernel
theorem dX6_unwrapOnce_49 : decode cX6_unwrapOnce 49 = .ok (.iload_n 3, 1) := by decide +kernel
theorem dX6_unwrapOnce_50 : decode cX6_unwrapOnce 50 = .ok (.iastore, 1) := by decide +kernel
theorem dX6_unwrapOnce_51 : decode cX6_unwrapOnce 51 = .ok (.aload_n 0, 1) := by decide +kernel
theorem dX6_unwrapOnce_52 : decode cX6_unwrapOnce 52 = .ok (.getfield 28, 3) := by decide +kernel
theorem dX6_unwrapOnce_55 : decode cX6_unwrapOnce 55 = .ok (.iload_n 2, 1) := by decide +kernel
theorem dX6_unwrapOnce_56 : decode cX6_unwrapOnce 56 = .ok (.aload_n 0, 1) := by decide +kernel
theorem dX6_unwrapOnce_57 : decode cX6_unwrapOnce 57 = .ok (.getfield 28, 3) := by decide +kernel
theorem dX6_unwrapOnce_60 : decode cX6_unwrapOnce 60 = .ok (.iload_n 1, 1) := by decide +kernel
theorem dX6_unwrapOnce_61 : decode cX6_unwrapOnce 61 = .ok (.iaload, 1) := by decide +kernel
theorem dX6_unwrapOnce_62 : decode cX6_unwrapOnce 62 = .ok (.iastore, 1) := by decide +kernel
theorem dX6_unwrapOnce_63 : decode cX6_unwrapOnce 63 = .ok (.aload_n 0, 1) := by decide +kernel
theorem dX6_unwrapOnce_64 : decode cX6_unwrapOnce 64 = .ok (.getfield 31, 3) := by decide +kernel
theorem dX6_unwrapOnce_67 : decode cX6_unwrapOnce 67 = .ok (.iload_n 2, 1) := by decide +kernel
theorem dX6_unwrapOnce_68 : decode cX6_unwrapOnce 68 = .ok (.aload_n 0, 1) := by decide +kernel
theorem dX6_unwrapOnce_69 : decode cX6_unwrapOnce 69 = .ok (.getfield 31, 3) := by decide +kernel
theorem dX6_unwrapOnce_72 : decode cX6_unwrapOnce 72 = .ok (.iload_n 1, 1) := by decide +kernel
theorem dX6_unwrapOnce_73 : decode cX6_unwrapOnce 73 = .ok (.iload 4, 2) := by decide +kernel
theorem dX6_unwrapOnce_75 : decode cX6_unwrapOnce 75 = .ok (.iadd, 1) := by decide +kernel
theorem dX6_unwrapOnce_76 : decode cX6_unwrapOnce 76 = .ok (.iconst 1, 1) := by decide +kernel
theorem dX6_unwrapOnce_77 : decode cX6_unwrapOnce 77 = .ok (.isub, 1) := by decide +kernel
theorem dX6_unwrapOnce_78 : decode cX6_unwrapOnce 78 = .ok (.iaload, 1) := by decide +kernel
theorem dX6_unwrapOnce_79 : decode cX6_unwrapOnce 79 = .ok (.iastore, 1) := by decide +kernel
theorem dX6_unwrapOnce_80 : decode cX6_unwrapOnce 80 = .ok (.iload_n 1, 1) := by decide +kernel
theorem dX6_unwrapOnce_81 : decode cX6_unwrapOnce 81 = .ok (.iload 4, 2) := by decide +kernel
theorem dX6_unwrapOnce_83 : decode cX6_unwrapOnce 83 = .ok (.iadd, 1) := by decide +kernel
theorem dX6_unwrapOnce_84 : decode cX6_unwrapOnce 84 = .ok (.istore_n 1, 1) := by decide +kernel
theorem dX6_unwrapOnce_85 : decode cX6_unwrapOnce 85 = .ok (.iinc 2 1, 3) := by decide +kernel
theorem dX6_unwrapOnce_88 : decode cX6_unwrapOnce 88 = .ok (.goto (-84), 3) := by decide +kernel
theorem dX6_unwrapOnce_91 : decode cX6_unwrapOnce 91 = .ok (.aload_n 0, 1) := by decide +kernel
theorem dX6_unwrapOnce_92 : decode cX6_unwrapOnce 92 = .ok (.iload_n 2, 1) := by decide +kernel
theorem dX6_unwrapOnce_93 : decode cX6_unwrapOnce 93 = .ok (.putfield 9, 3) := by decide +kernel
theorem dX6_unwrapOnce_96 : decode cX6_unwrapOnce 96 = .ok (.return_, 1) := by decide +kernel
theorem dX6_wrappedAt_0 : decode cX6_wrappedAt 0 = .ok (.aload_n 0, 1) := by decide +kernel
theorem dX6_wrappedAt_1 : decode cX6_wrappedAt 1 = .ok (.getfield 24, 3) := by decide +kernel
theorem dX6_wrappedAt_4 : decode cX6_wrappedAt 4 = .ok (.iload_n 1, 1) := by decide +kernel
theorem dX6_wrappedAt_5 : decode cX6_wrappedAt 5 = .ok (.iaload, 1) := by decide +kernel
theorem dX6_wrappedAt_6 : decode cX6_wrappedAt 6 = .ok (.bipush 37, 2) := by decide +kernel
theorem dX6_wrappedAt_8 : decode cX6_wrappedAt 8 = .ok (.if_icmp .ne 13, 3) := by decide +kernel
theorem dX6_wrappedAt_11 : decode cX6_wrappedAt 11 = .ok (.iload_n 1, 1) := by decide +kernel
theorem dX6_wrappedAt_12 : decode cX6_wrappedAt 12 = .ok (.iconst 2, 1) := by decide +kernel
theorem dX6_wrappedAt_13 : decode cX6_wrappedAt 13 = .ok (.iadd, 1) := by decide +kernel
theorem dX6_wrappedAt_14 : decode cX6_wrappedAt 14 = .ok (.aload_n 0, 1) := by decide +kernel
theorem dX6_wrappedAt_15 : decode cX6_wrappedAt 15 = .ok (.getfield 9, 3) := by decide +kernel
theorem dX6_wrappedAt_18 : decode cX6_wrappedAt 18 = .ok (.if_icmp .lt 5, 3) := by decide +kernel
theorem dX6_wrappedAt_21 : decode cX6_wrappedAt 21 = .ok (.iconst (-1), 1) := by decide +kernel
theorem dX6_wrappedAt_22 : decode cX6_wrappedAt 22 = .ok (.ireturn, 1) := by decide +kernel
theorem dX6_wrappedAt_23 : decode cX6_wrappedAt 23 = .ok (.aload_n 0, 1) := by decide +kernel
theorem dX6_wrappedAt_24 : decode cX6_wrappedAt 24 = .ok (.getfield 24, 3) := by decide +kernel
theorem dX6_wrappedAt_27 : decode cX6_wrappedAt 27 = .ok (.iload_n 1, 1) := by decide +kernel
theorem dX6_wrappedAt_28 : decode cX6_wrappedAt 28 = .ok (.iconst 1, 1) := by decide +kernel
theorem dX6_wrappedAt_29 : decode cX6_wrappedAt 29 = .ok (.iadd, 1) := by decide +kernel
theorem dX6_wrappedAt_30 : decode cX6_wrappedAt 30 = .ok (.iaload, 1) := by decide +kernel
theorem dX6_wrappedAt_31 : decode cX6_wrappedAt 31 = .ok (.invokestatic 59, 3) := by decide +kernel
theorem dX6_wrappedAt_34 : decode cX6_wrappedAt 34 = .ok (.istore_n 2, 1) := by decide +kernel
theorem dX6_wrappedAt_35 : decode cX6_wrappedAt 35 = .ok (.aload_n 0, 1) := by decide +kernel
theorem dX6_wrappedAt_36 : decode cX6_wrappedAt 36 = .ok (.getfield 24, 3) := by decide +kernel
theorem dX6_wrappedAt_39 : decode cX6_wrappedAt 39 = .ok (.iload_n 1, 1) := by decide +kernel
theorem dX6_wrappedAt_40 : decode cX6_wrappedAt 40 = .ok (.iconst 2, 1) := by decide +kernel
theorem dX6_wrappedAt_41 : decode cX6_wrappedAt 41 = .ok (.iadd, 1) := by decide +kernel
theorem dX6_wrappedAt_42 : decode cX6_wrappedAt 42 = .ok (.iaload, 1) := by decide +kernel
theorem dX6_wrappedAt_43 : decode cX6_wrappedAt 43 = .ok (.invokestatic 59, 3) := by decide +kernel
theorem dX6_wrappedAt_46 : decode cX6_wrappedAt 46 = .ok (.istore_n 3, 1) := by decide +kernel
theorem dX6_wrappedAt_47 : decode cX6_wrappedAt 47 = .ok (.iload_n 2, 1) := by decide +kernel
theorem dX6_wrappedAt_48 : decode cX6_wrappedAt 48 = .ok (.iconst (-1), 1) := by decide +kernel
theorem dX6_wrappedAt_49 : decode cX6_wrappedAt 49 = .ok (.if_icmp .eq 8, 3) := by decide +kernel
theorem dX6_wrappedAt_52 : decode cX6_wrappedAt 52 = .ok (.iload_n 3, 1) := by decide +kernel
theorem dX6_wrappedAt_53 : decode cX6_wrappedAt 53 = .ok (.iconst (-1), 1) := by decide +kernel
theorem dX6_wrappedAt_54 : decode cX6_wrappedAt 54 = .ok (.if_icmp .ne 7, 3) := by decide +kernel
theorem dX6_wrappedAt_57 : decode cX6_wrappedAt 57 = .ok (.iconst (-1), 1) := by decide +kernel
theorem dX6_wrappedAt_58 : decode cX6_wrappedAt 58 = .ok (.goto 9, 3) := by decide +kernel
theorem dX6_wrappedAt_61 : decode cX6_wrappedAt 61 = .ok (.bipush 16, 2) := by decide +kernel
theorem dX6_wrappedAt_63 : decode cX6_wrappedAt 63 = .ok (.iload_n 2, 1) := by decide +kernel
theorem dX6_wrappedAt_64 : decode cX6_wrappedAt 64 = .ok (.imul, 1) := by decide +kernel
theorem dX6_wrappedAt_65 : decode cX6_wrappedAt 65 = .ok (.iload_n 3, 1) := by decide +kernel
theorem dX6_wrappedAt_66 : decode cX6_wrappedAt 66 = .ok (.iadd, 1) := by decide +kernel
theorem dX6_wrappedAt_67 : decode cX6_wrappedAt 67 = .ok (.ireturn, 1) := by decide +kernel
theorem dX6_hexOf_0 : decode cX6_hexOf 0 = .ok (.iload_n 0, 1) := by decide +kernel
theorem dX6_hexOf_1 : decode cX6_hexOf 1 = .ok (.invokestatic 62, 3) := by decide +kernel
theorem dX6_hexOf_4 : decode cX6_hexOf 4 = .ok (.ifCond .eq 8, 3) := by decide +kernel
theorem dX6_hexOf_7 : decode cX6_hexOf 7 = .ok (.iload_n 0, 1) := by decide +kernel
theorem dX6_hexOf_8 : decode cX6_hexOf 8 = .ok (.bipush 48, 2) := by decide +kernel
theorem dX6_hexOf_10 : decode cX6_hexOf 10 = .ok (.isub, 1) := by decide +kernel
theorem dX6_hexOf_11 : decode cX6_hexOf 11 = .ok (.ireturn, 1) := by decide +kernel
theorem dX6_hexOf_12 : decode cX6_hexOf 12 = .ok (.iload_n 0, 1) := by decide +kernel
theorem dX6_hexOf_13 : decode cX6_hexOf 13 = .ok (.bipush 97, 2) := by decide +kernel
theorem dX6_hexOf_15 : decode cX6_hexOf 15 = .ok (.if_icmp .lt 17, 3) := by decide +kernel
theorem dX6_hexOf_18 : decode cX6_hexOf 18 = .ok (.iload_n 0, 1) := by decide +kernel
theorem dX6_hexOf_19 : decode cX6_hexOf 19 = .ok (.bipush 102, 2) := by decide +kernel
theorem dX6_hexOf_21 : decode cX6_hexOf 21 = .ok (.if_icmp .gt 11, 3) := by decide +kernel
theorem dX6_hexOf_24 : decode cX6_hexOf 24 = .ok (.iload_n 0, 1) := by decide +kernel
theorem dX6_hexOf_25 : decode cX6_hexOf 25 = .ok (.bipush 97, 2) := by decide +kernel
theorem dX6_hexOf_27 : decode cX6_hexOf 27 = .ok (.isub, 1) := by decide +kernel
theorem dX6_hexOf_28 : decode cX6_hexOf 28 = .ok (.bipush 10, 2) := by decide +kernel
theorem dX6_hexOf_30 : decode cX6_hexOf 30 = .ok (.iadd, 1) := by decide +kernel
theorem dX6_hexOf_31 : decode cX6_hexOf 31 = .ok (.ireturn, 1) := by decide +kernel
theorem dX6_hexOf_32 : decode cX6_hexOf 32 = .ok (.iload_n 0, 1) := by decide +kernel
theorem dX6_hexOf_33 : decode cX6_hexOf 33 = .ok (.bipush 65, 2) := by decide +kernel
theorem dX6_hexOf_35 : decode cX6_hexOf 35 = .ok (.if_icmp .lt 19, 3) := by decide +kernel
theorem dX6_hexOf_38 : decode cX6_hexOf 38 = .ok (.iload_n 0, 1) := by decide +kernel
theorem dX6_hexOf_39 : decode cX6_hexOf 39 = .ok (.bipush 70, 2) := by decide +kernel
theorem dX6_hexOf_41 : decode cX6_hexOf 41 = .ok (.if_icmp .gt 13, 3) := by decide +kernel
theorem dX6_hexOf_44 : decode cX6_hexOf 44 = .ok (.iload_n 0, 1) := by decide +kernel
theorem dX6_hexOf_45 : decode cX6_hexOf 45 = .ok (.bipush 65, 2) := by decide +kernel
theorem dX6_hexOf_47 : decode cX6_hexOf 47 = .ok (.isub, 1) := by decide +kernel
theorem dX6_hexOf_48 : decode cX6_hexOf 48 = .ok (.bipush 10, 2) := by decide +kernel
theorem dX6_hexOf_50 : decode cX6_hexOf 50 = .ok (.iadd, 1) := by decide +kernel
theorem dX6_hexOf_51 : decode cX6_hexOf 51 = .ok (.goto 4, 3) := by decide +kernel
theorem dX6_hexOf_54 : decode cX6_hexOf 54 = .ok (.iconst (-1), 1) := by decide +kernel
theorem dX6_hexOf_55 : decode cX6_hexOf 55 = .ok (.ireturn, 1) := by decide +kernel
theorem dX6_isDigit_0 : decode cX6_isDigit 0 = .ok (.iload_n 0, 1) := by decide +kernel
theorem dX6_isDigit_1 : decode cX6_isDigit 1 = .ok (.bipush 48, 2) := by decide +kernel
theorem dX6_isDigit_3 : decode cX6_isDigit 3 = .ok (.if_icmp .lt 13, 3) := by decide +kernel
theorem dX6_isDigit_6 : decode cX6_isDigit 6 = .ok (.iload_n 0, 1) := by decide +kernel
theorem dX6_isDigit_7 : decode cX6_isDigit 7 = .ok (.bipush 57, 2) := by decide +kernel
theorem dX6_isDigit_9 : decode cX6_isDigit 9 = .ok (.if_icmp .gt 7, 3) := by decide +kernel
theorem dX6_isDigit_12 : decode cX6_isDigit 12 = .ok (.iconst 1, 1) := by decide +kernel
theorem dX6_isDigit_13 : decode cX6_isDigit 13 = .ok (.goto 4, 3) := by decide +kernel
theorem dX6_isDigit_16 : decode cX6_isDigit 16 = .ok (.iconst 0, 1) := by decide +kernel
theorem dX6_isDigit_17 : decode cX6_isDigit 17 = .ok (.ireturn, 1) := by decide +kernel
theorem dX6_makeSmall_0 : decode cX6_makeSmall 0 = .ok (.iconst 0, 1) := by decide +kernel
theorem dX6_makeSmall_1 : decode cX6_makeSmall 1 = .ok (.istore_n 1, 1) := by decide +kernel
theorem dX6_makeSmall_2 : decode cX6_makeSmall 2 = .ok (.iload_n 1, 1) := by decide +kernel
theorem dX6_makeSmall_3 : decode cX6_makeSmall 3 = .ok (.aload_n 0, 1) := by decide +kernel
theorem dX6_makeSmall_4 : decode cX6_makeSmall 4 = .ok (.getfield 9, 3) := by decide +kernel
theorem dX6_makeSmall_7 : decode cX6_makeSmall 7 = .ok (.if_icmp .ge 42, 3) := by decide +kernel
theorem dX6_makeSmall_10 : decode cX6_makeSmall 10 = .ok (.aload_n 0, 1) := by decide +kernel
theorem dX6_makeSmall_11 : decode cX6_makeSmall 11 = .ok (.getfield 24, 3) := by decide +kernel
theorem dX6_makeSmall_14 : decode cX6_makeSmall 14 = .ok (.iload_n 1, 1) := by decide +kernel
theorem dX6_makeSmall_15 : decode cX6_makeSmall 15 = .ok (.iaload, 1) := by decide +kernel
theorem dX6_makeSmall_16 : decode cX6_makeSmall 16 = .ok (.bipush 65, 2) := by decide +kernel
theorem dX6_makeSmall_18 : decode cX6_makeSmall 18 = .ok (.if_icmp .lt 25, 3) := by decide +kernel
theorem dX6_makeSmall_21 : decode cX6_makeSmall 21 = .ok (.aload_n 0, 1) := by decide +kernel
theorem dX6_makeSmall_22 : decode cX6_makeSmall 22 = .ok (.getfield 24, 3) := by decide +kernel
theorem dX6_makeSmall_25 : decode cX6_makeSmall 25 = .ok (.iload_n 1, 1) := by decide +kernel
theorem dX6_makeSmall_26 : decode cX6_makeSmall 26 = .ok (.iaload, 1) := by decide +kernel
theorem dX6_makeSmall_27 : decode cX6_makeSmall 27 = .ok (.bipush 90, 2) := by decide +kernel
theorem dX6_makeSmall_29 : decode cX6_makeSmall 29 = .ok (.if_icmp .gt 14, 3) := by decide +kernel
theorem dX6_makeSmall_32 : decode cX6_makeSmall 32 = .ok (.aload_n 0, 1) := by decide +kernel
theorem dX6_makeSmall_33 : decode cX6_makeSmall 33 = .ok (.getfield 24, 3) := by decide +kernel
theorem dX6_makeSmall_36 : decode cX6_makeSmall 36 = .ok (.iload_n 1, 1) := by decide +kernel
theorem dX6_makeSmall_37 : decode cX6_makeSmall 37 = .ok (.dup2, 1) := by decide +kernel
theorem dX6_makeSmall_38 : decode cX6_makeSmall 38 = .ok (.iaload, 1) := by decide +kernel
theorem dX6_makeSmall_39 : decode cX6_makeSmall 39 = .ok (.bipush 32, 2) := by decide +kernel
theorem dX6_makeSmall_41 : decode cX6_makeSmall 41 = .ok (.iadd, 1) := by decide +kernel
theorem dX6_makeSmall_42 : decode cX6_makeSmall 42 = .ok (.iastore, 1) := by decide +kernel
theorem dX6_makeSmall_43 : decode cX6_makeSmall 43 = .ok (.iinc 1 1, 3) := by decide +kernel
theorem dX6_makeSmall_46 : decode cX6_makeSmall 46 = .ok (.goto (-44), 3) := by decide +kernel
theorem dX6_makeSmall_49 : decode cX6_makeSmall 49 = .ok (.return_, 1) := by decide +kernel
theorem dX6_isOfWord_0 : decode cX6_isOfWord 0 = .ok (.aload_n 0, 1) := by decide +kernel
theorem dX6_isOfWord_1 : decode cX6_isOfWord 1 = .ok (.getfield 24, 3) := by decide +kernel
theorem dX6_isOfWord_4 : decode cX6_isOfWord 4 = .ok (.iload_n 1, 1) := by decide +kernel
theorem dX6_isOfWord_5 : decode cX6_isOfWord 5 = .ok (.iaload, 1) := by decide +kernel
theorem dX6_isOfWord_6 : decode cX6_isOfWord 6 = .ok (.invokestatic 62, 3) := by decide +kernel
theorem dX6_isOfWord_9 : decode cX6_isOfWord 9 = .ok (.ifCond .ne 25, 3) := by decide +kernel
theorem dX6_isOfWord_12 : decode cX6_isOfWord 12 = .ok (.aload_n 0, 1) := by decide +kernel
theorem dX6_isOfWord_13 : decode cX6_isOfWord 13 = .ok (.getfield 24, 3) := by decide +kernel
theorem dX6_isOfWord_16 : decode cX6_isOfWord 16 = .ok (.iload_n 1, 1) := by decide +kernel
theorem dX6_isOfWord_17 : decode cX6_isOfWord 17 = .ok (.iaload, 1) := by decide +kernel
theorem dX6_isOfWord_18 : decode cX6_isOfWord 18 = .ok (.bipush 97, 2) := by decide +kernel
theorem dX6_isOfWord_20 : decode cX6_isOfWord 20 = .ok (.if_icmp .lt 18, 3) := by decide +kernel
theorem dX6_isOfWord_23 : decode cX6_isOfWord 23 = .ok (.aload_n 0, 1) := by decide +kernel
theorem dX6_isOfWord_24 : decode cX6_isOfWord 24 = .ok (.getfield 24, 3) := by decide +kernel
theorem dX6_isOfWord_27 : decode cX6_isOfWord 27 = .ok (.iload_n 1, 1) := by decide +kernel
theorem dX6_isOfWord_28 : decode cX6_isOfWord 28 = .ok (.iaload, 1) := by decide +kernel
theorem dX6_isOfWord_29 : decode cX6_isOfWord 29 = .ok (.bipush 122, 2) := by decide +kernel
theorem dX6_isOfWord_31 : decode cX6_isOfWord 31 = .ok (.if_icmp .gt 7, 3) := by decide +kernel
theorem dX6_isOfWord_34 : decode cX6_isOfWord 34 = .ok (.iconst 1, 1) := by decide +kernel
theorem dX6_isOfWord_35 : decode cX6_isOfWord 35 = .ok (.goto 4, 3) := by decide +kernel
theorem dX6_isOfWord_38 : decode cX6_isOfWord 38 = .ok (.iconst 0, 1) := by decide +kernel
theorem dX6_isOfWord_39 : decode cX6_isOfWord 39 = .ok (.ireturn, 1) := by decide +kernel
theorem dX6_splitWords_0 : decode cX6_splitWords 0 = .ok (.aload_n 0, 1) := by decide +kernel
theorem dX6_splitWords_1 : decode cX6_splitWords 1 = .ok (.iconst 0, 1) := by decide +kernel
theorem dX6_splitWords_2 : decode cX6_splitWords 2 = .ok (.putfield 15, 3) := by decide +kernel
theorem dX6_splitWords_5 : decode cX6_splitWords 5 = .ok (.iconst 0, 1) := by decide +kernel
theorem dX6_splitWords_6 : decode cX6_splitWords 6 = .ok (.istore_n 1, 1) := by decide +kernel
theorem dX6_splitWords_7 : decode cX6_splitWords 7 = .ok (.iconst 0, 1) := by decide +kernel
theorem dX6_splitWords_8 : decode cX6_splitWords 8 = .ok (.istore_n 2, 1) := by decide +kernel
theorem dX6_splitWords_9 : decode cX6_splitWords 9 = .ok (.iload_n 2, 1) := by decide +kernel
theorem dX6_splitWords_10 : decode cX6_splitWords 10 = .ok (.aload_n 0, 1) := by decide +kernel
theorem dX6_splitWords_11 : decode cX6_splitWords 11 = .ok (.getfield 9, 3) := by decide +kernel
theorem dX6_splitWords_14 : decode cX6_splitWords 14 = .ok (.if_icmp .gt 37, 3) := by decide +kernel
theorem dX6_splitWords_17 : decode cX6_splitWords 17 = .ok (.iload_n 2, 1) := by decide +kernel
theorem dX6_splitWords_18 : decode cX6_splitWords 18 = .ok (.aload_n 0, 1) := by decide +kernel
theorem dX6_splitWords_19 : decode cX6_splitWords 19 = .ok (.getfield 9, 3) := by decide +kernel
theorem dX6_splitWords_22 : decode cX6_splitWords 22 = .ok (.if_icmp .eq 11, 3) := by decide +kernel
theorem dX6_splitWords_25 : decode cX6_splitWords 25 = .ok (.aload_n 0, 1) := by decide +kernel
theorem dX6_splitWords_26 : decode cX6_splitWords 26 = .ok (.iload_n 2, 1) := by decide +kernel
theorem dX6_splitWords_27 : decode cX6_splitWords 27 = .ok (.invokevirtual 66, 3) := by decide +kernel
theorem dX6_splitWords_30 : decode cX6_splitWords 30 = .ok (.ifCond .ne 15, 3) := by decide +kernel
theorem dX6_splitWords_33 : decode cX6_splitWords 33 = .ok (.aload_n 0, 1) := by decide +kernel
theorem dX6_splitWords_34 : decode cX6_splitWords 34 = .ok (.iload_n 1, 1) := by decide +kernel
theorem dX6_splitWords_35 : decode cX6_splitWords 35 = .ok (.iload_n 2, 1) := by decide +kernel
theorem dX6_splitWords_36 : decode cX6_splitWords 36 = .ok (.iload_n 1, 1) := by decide +kernel
theorem dX6_splitWords_37 : decode cX6_splitWords 37 = .ok (.isub, 1) := by decide +kernel
theorem dX6_splitWords_38 : decode cX6_splitWords 38 = .ok (.invokevirtual 69, 3) := by decide +kernel
theorem dX6_splitWords_41 : decode cX6_splitWords 41 = .ok (.iload_n 2, 1) := by decide +kernel
theorem dX6_splitWords_42 : decode cX6_splitWords 42 = .ok (.iconst 1, 1) := by decide +kernel
theorem dX6_splitWords_43 : decode cX6_splitWords 43 = .ok (.iadd, 1) := by decide +kernel
theorem dX6_splitWords_44 : decode cX6_splitWords 44 = .ok (.istore_n 1, 1) := by decide +kernel
theorem dX6_splitWords_45 : decode cX6_splitWords 45 = .ok (.iinc 2 1, 3) := by decide +kernel
theorem dX6_splitWords_48 : decode cX6_splitWords 48 = .ok (.goto (-39), 3) := by decide +kernel
theorem dX6_splitWords_51 : decode cX6_splitWords 51 = .ok (.return_, 1) := by decide +kernel
theorem dX6_addWord_0 : decode cX6_addWord 0 = .ok (.iload_n 2, 1) := by decide +kernel
theorem dX6_addWord_1 : decode cX6_addWord 1 = .ok (.iconst 1, 1) := by decide +kernel
theorem dX6_addWord_2 : decode cX6_addWord 2 = .ok (.if_icmp .lt 15, 3) := by decide +kernel
theorem dX6_addWord_5 : decode cX6_addWord 5 = .ok (.aload_n 0, 1) := by decide +kernel
theorem dX6_addWord_6 : decode cX6_addWord 6 = .ok (.getfield 15, 3) := by decide +kernel
theorem dX6_addWord_9 : decode cX6_addWord 9 = .ok (.aload_n 0, 1) := by decide +kernel
theorem dX6_addWord_10 : decode cX6_addWord 10 = .ok (.getfield 34, 3) := by decide +kernel
theorem dX6_addWord_13 : decode cX6_addWord 13 = .ok (.arraylength, 1) := by decide +kernel
theorem dX6_addWord_14 : decode cX6_addWord 14 = .ok (.if_icmp .lt 4, 3) := by decide +kernel
theorem dX6_addWord_17 : decode cX6_addWord 17 = .ok (.return_, 1) := by decide +kernel
theorem dX6_addWord_18 : decode cX6_addWord 18 = .ok (.iconst 0, 1) := by decide +kernel
theorem dX6_addWord_19 : decode cX6_addWord 19 = .ok (.istore_n 3, 1) := by decide +kernel
theorem dX6_addWord_20 : decode cX6_addWord 20 = .ok (.iconst 0, 1) := by decide +kernel
theorem dX6_addWord_21 : decode cX6_addWord 21 = .ok (.istore 4, 2) := by decide +kernel
theorem dX6_addWord_23 : decode cX6_addWord 23 = .ok (.iload 4, 2) := by decide +kernel
theorem dX6_addWord_25 : decode cX6_addWord 25 = .ok (.iload_n 2, 1) := by decide +kernel
theorem dX6_addWord_26 : decode cX6_addWord 26 = .ok (.if_icmp .ge 24, 3) := by decide +kernel
theorem dX6_addWord_29 : decode cX6_addWord 29 = .ok (.bipush 31, 2) := by decide +kernel
theorem dX6_addWord_31 : decode cX6_addWord 31 = .ok (.iload_n 3, 1) := by decide +kernel
theorem dX6_addWord_32 : decode cX6_addWord 32 = .ok (.imul, 1) := by decide +kernel
theorem dX6_addWord_33 : decode cX6_addWord 33 = .ok (.aload_n 0, 1) := by decide +kernel
theorem dX6_addWord_34 : decode cX6_addWord 34 = .ok (.getfield 24, 3) := by decide +kernel
theorem dX6_addWord_37 : decode cX6_addWord 37 = .ok (.iload_n 1, 1) := by decide +kernel
theorem dX6_addWord_38 : decode cX6_addWord 38 = .ok (.iload 4, 2) := by decide +kernel
theorem dX6_addWord_40 : decode cX6_addWord 40 = .ok (.iadd, 1) := by decide +kernel
theorem dX6_addWord_41 : decode cX6_addWord 41 = .ok (.iaload, 1) := by decide +kernel
theorem dX6_addWord_42 : decode cX6_addWord 42 = .ok (.iadd, 1) := by decide +kernel
theorem dX6_addWord_43 : decode cX6_addWord 43 = .ok (.istore_n 3, 1) := by decide +kernel
theorem dX6_addWord_44 : decode cX6_addWord 44 = .ok (.iinc 4 1, 3) := by decide +kernel
theorem dX6_addWord_47 : decode cX6_addWord 47 = .ok (.goto (-24), 3) := by decide +kernel
theorem dX6_addWord_50 : decode cX6_addWord 50 = .ok (.aload_n 0, 1) := by decide +kernel
theorem dX6_addWord_51 : decode cX6_addWord 51 = .ok (.getfield 34, 3) := by decide +kernel
theorem dX6_addWord_54 : decode cX6_addWord 54 = .ok (.aload_n 0, 1) := by decide +kernel
theorem dX6_addWord_55 : decode cX6_addWord 55 = .ok (.getfield 15, 3) := by decide +kernel
theorem dX6_addWord_58 : decode cX6_addWord 58 = .ok (.iload_n 1, 1) := by decide +kernel
theorem dX6_addWord_59 : decode cX6_addWord 59 = .ok (.iastore, 1) := by decide +kernel
theorem dX6_addWord_60 : decode cX6_addWord 60 = .ok (.aload_n 0, 1) := by decide +kernel
theorem dX6_addWord_61 : decode cX6_addWord 61 = .ok (.getfield 37, 3) := by decide +kernel
theorem dX6_addWord_64 : decode cX6_addWord 64 = .ok (.aload_n 0, 1) := by decide +kernel
theorem dX6_addWord_65 : decode cX6_addWord 65 = .ok (.getfield 15, 3) := by decide +kernel
theorem dX6_addWord_68 : decode cX6_addWord 68 = .ok (.iload_n 2, 1) := by decide +kernel
theorem dX6_addWord_69 : decode cX6_addWord 69 = .ok (.iastore, 1) := by decide +kernel
theorem dX6_addWord_70 : decode cX6_addWord 70 = .ok (.aload_n 0, 1) := by decide +kernel
theorem dX6_addWord_71 : decode cX6_addWord 71 = .ok (.getfield 40, 3) := by decide +kernel
theorem dX6_addWord_74 : decode cX6_addWord 74 = .ok (.aload_n 0, 1) := by decide +kernel
theorem dX6_addWord_75 : decode cX6_addWord 75 = .ok (.getfield 15, 3) := by decide +kernel
theorem dX6_addWord_78 : decode cX6_addWord 78 = .ok (.iload_n 3, 1) := by decide +kernel
theorem dX6_addWord_79 : decode cX6_addWord 79 = .ok (.iastore, 1) := by decide +kernel
theorem dX6_addWord_80 : decode cX6_addWord 80 = .ok (.aload_n 0, 1) := by decide +kernel
theorem dX6_addWord_81 : decode cX6_addWord 81 = .ok (.dup, 1) := by decide +kernel
theorem dX6_addWord_82 : decode cX6_addWord 82 = .ok (.getfield 15, 3) := by decide +kernel
theorem dX6_addWord_85 : decode cX6_addWord 85 = .ok (.iconst 1, 1) := by decide +kernel
theorem dX6_addWord_86 : decode cX6_addWord 86 = .ok (.iadd, 1) := by decide +kernel
theorem dX6_addWord_87 : decode cX6_addWord 87 = .ok (.putfield 15, 3) := by decide +kernel
theorem dX6_addWord_90 : decode cX6_addWord 90 = .ok (.return_, 1) := by decide +kernel
theorem dX6_placeStart_0 : decode cX6_placeStart 0 = .ok (.aload_n 0, 1) := by decide +kernel
theorem dX6_placeStart_1 : decode cX6_placeStart 1 = .ok (.getfield 28, 3) := by decide +kernel
theorem dX6_placeStart_4 : decode cX6_placeStart 4 = .ok (.aload_n 0, 1) := by decide +kernel
theorem dX6_placeStart_5 : decode cX6_placeStart 5 = .ok (.getfield 34, 3) := by decide +kernel
theorem dX6_placeStart_8 : decode cX6_placeStart 8 = .ok (.iload_n 1, 1) := by decide +kernel
theorem dX6_placeStart_9 : decode cX6_placeStart 9 = .ok (.iaload, 1) := by decide +kernel
theorem dX6_placeStart_10 : decode cX6_placeStart 10 = .ok (.iaload, 1) := by decide +kernel
theorem dX6_placeStart_11 : decode cX6_placeStart 11 = .ok (.ireturn, 1) := by decide +kernel
theorem dX6_placeEnd_0 : decode cX6_placeEnd 0 = .ok (.aload_n 0, 1) := by decide +kernel
theorem dX6_placeEnd_1 : decode cX6_placeEnd 1 = .ok (.getfield 31, 3) := by decide +kernel
theorem dX6_placeEnd_4 : decode cX6_placeEnd 4 = .ok (.aload_n 0, 1) := by decide +kernel
theorem dX6_placeEnd_5 : decode cX6_placeEnd 5 = .ok (.getfield 34, 3) := by decide +kernel
theorem dX6_placeEnd_8 : decode cX6_placeEnd 8 = .ok (.iload_n 1, 1) := by decide +kernel
theorem dX6_placeEnd_9 : decode cX6_placeEnd 9 = .ok (.iaload, 1) := by decide +kernel
theorem dX6_placeEnd_10 : decode cX6_placeEnd 10 = .ok (.aload_n 0, 1) := by decide +kernel
theorem dX6_placeEnd_11 : decode cX6_placeEnd 11 = .ok (.getfield 37, 3) := by decide +kernel
theorem dX6_placeEnd_14 : decode cX6_placeEnd 14 = .ok (.iload_n 1, 1) := by decide +kernel
theorem dX6_placeEnd_15 : decode cX6_placeEnd 15 = .ok (.iaload, 1) := by decide +kernel
theorem dX6_placeEnd_16 : decode cX6_placeEnd 16 = .ok (.iadd, 1) := by decide +kernel
theorem dX6_placeEnd_17 : decode cX6_placeEnd 17 = .ok (.iconst 1, 1) := by decide +kernel
theorem dX6_placeEnd_18 : decode cX6_placeEnd 18 = .ok (.isub, 1) := by decide +kernel
theorem dX6_placeEnd_19 : decode cX6_placeEnd 19 = .ok (.iaload, 1) := by decide +kernel
theorem dX6_placeEnd_20 : decode cX6_placeEnd 20 = .ok (.ireturn, 1) := by decide +kernel
theorem dX6_isAlike_0 : decode cX6_isAlike 0 = .ok (.aload_n 0, 1) := by decide +kernel
theorem dX6_isAlike_1 : decode cX6_isAlike 1 = .ok (.getfield 40, 3) := by decide +kernel
theorem dX6_isAlike_4 : decode cX6_isAlike 4 = .ok (.iload_n 1, 1) := by decide +kernel
theorem dX6_isAlike_5 : decode cX6_isAlike 5 = .ok (.iaload, 1) := by decide +kernel
theorem dX6_isAlike_6 : decode cX6_isAlike 6 = .ok (.aload_n 2, 1) := by decide +kernel
theorem dX6_isAlike_7 : decode cX6_isAlike 7 = .ok (.getfield 40, 3) := by decide +kernel
theorem dX6_isAlike_10 : decode cX6_isAlike 10 = .ok (.iload_n 3, 1) := by decide +kernel
theorem dX6_isAlike_11 : decode cX6_isAlike 11 = .ok (.iaload, 1) := by decide +kernel
theorem dX6_isAlike_12 : decode cX6_isAlike 12 = .ok (.if_icmp .eq 5, 3) := by decide +kernel
theorem dX6_isAlike_15 : decode cX6_isAlike 15 = .ok (.iconst 0, 1) := by decide +kernel
theorem dX6_isAlike_16 : decode cX6_isAlike 16 = .ok (.ireturn, 1) := by decide +kernel
theorem dX6_isAlike_17 : decode cX6_isAlike 17 = .ok (.aload_n 0, 1) := by decide +kernel
theorem dX6_isAlike_18 : decode cX6_isAlike 18 = .ok (.getfield 37, 3) := by decide +kernel
theorem dX6_isAlike_21 : decode cX6_isAlike 21 = .ok (.iload_n 1, 1) := by decide +kernel
theorem dX6_isAlike_22 : decode cX6_isAlike 22 = .ok (.iaload, 1) := by decide +kernel
theorem dX6_isAlike_23 : decode cX6_isAlike 23 = .ok (.istore 4, 2) := by decide +kernel
theorem dX6_isAlike_25 : decode cX6_isAlike 25 = .ok (.iload 4, 2) := by decide +kernel
theorem dX6_isAlike_27 : decode cX6_isAlike 27 = .ok (.aload_n 2, 1) := by decide +kernel
theorem dX6_isAlike_28 : decode cX6_isAlike 28 = .ok (.getfield 37, 3) := by decide +kernel
theorem dX6_isAlike_31 : decode cX6_isAlike 31 = .ok (.iload_n 3, 1) := by decide +kernel
theorem dX6_isAlike_32 : decode cX6_isAlike 32 = .ok (.iaload, 1) := by decide +kernel
theorem dX6_isAlike_33 : decode cX6_isAlike 33 = .ok (.if_icmp .eq 5, 3) := by decide +kernel
theorem dX6_isAlike_36 : decode cX6_isAlike 36 = .ok (.iconst 0, 1) := by decide +kernel
theorem dX6_isAlike_37 : decode cX6_isAlike 37 = .ok (.ireturn, 1) := by decide +kernel
theorem dX6_isAlike_38 : decode cX6_isAlike 38 = .ok (.aload_n 0, 1) := by decide +kernel
theorem dX6_isAlike_39 : decode cX6_isAlike 39 = .ok (.getfield 34, 3) := by decide +kernel
theorem dX6_isAlike_42 : decode cX6_isAlike 42 = .ok (.iload_n 1, 1) := by decide +kernel
theorem dX6_isAlike_43 : decode cX6_isAlike 43 = .ok (.iaload, 1) := by decide +kernel
theorem dX6_isAlike_44 : decode cX6_isAlike 44 = .ok (.istore 5, 2) := by decide +kernel
theorem dX6_isAlike_46 : decode cX6_isAlike 46 = .ok (.aload_n 2, 1) := by decide +kernel
theorem dX6_isAlike_47 : decode cX6_isAlike 47 = .ok (.getfield 34, 3) := by decide +kernel
theorem dX6_isAlike_50 : decode cX6_isAlike 50 = .ok (.iload_n 3, 1) := by decide +kernel
theorem dX6_isAlike_51 : decode cX6_isAlike 51 = .ok (.iaload, 1) := by decide +kernel
theorem dX6_isAlike_52 : decode cX6_isAlike 52 = .ok (.istore 6, 2) := by decide +kernel
theorem dX6_isAlike_54 : decode cX6_isAlike 54 = .ok (.iconst 0, 1) := by decide +kernel
theorem dX6_isAlike_55 : decode cX6_isAlike 55 = .ok (.istore 7, 2) := by decide +kernel
theorem dX6_isAlike_57 : decode cX6_isAlike 57 = .ok (.iload 7, 2) := by decide +kernel
theorem dX6_isAlike_59 : decode cX6_isAlike 59 = .ok (.iload 4, 2) := by decide +kernel
theorem dX6_isAlike_61 : decode cX6_isAlike 61 = .ok (.if_icmp .ge 34, 3) := by decide +kernel
theorem dX6_isAlike_64 : decode cX6_isAlike 64 = .ok (.aload_n 0, 1) := by decide +kernel
theorem dX6_isAlike_65 : decode cX6_isAlike 65 = .ok (.getfield 24, 3) := by decide +kernel
theorem dX6_isAlike_68 : decode cX6_isAlike 68 = .ok (.iload 5, 2) := by decide +kernel
theorem dX6_isAlike_70 : decode cX6_isAlike 70 = .ok (.iload 7, 2) := by decide +kernel
theorem dX6_isAlike_72 : decode cX6_isAlike 72 = .ok (.iadd, 1) := by decide +kernel
theorem dX6_isAlike_73 : decode cX6_isAlike 73 = .ok (.iaload, 1) := by decide +kernel
theorem dX6_isAlike_74 : decode cX6_isAlike 74 = .ok (.aload_n 2, 1) := by decide +kernel
theorem dX6_isAlike_75 : decode cX6_isAlike 75 = .ok (.getfield 24, 3) := by decide +kernel
theorem dX6_isAlike_78 : decode cX6_isAlike 78 = .ok (.iload 6, 2) := by decide +kernel
theorem dX6_isAlike_80 : decode cX6_isAlike 80 = .ok (.iload 7, 2) := by decide +kernel
theorem dX6_isAlike_82 : decode cX6_isAlike 82 = .ok (.iadd, 1) := by decide +kernel
theorem dX6_isAlike_83 : decode cX6_isAlike 83 = .ok (.iaload, 1) := by decide +kernel
theorem dX6_isAlike_84 : decode cX6_isAlike 84 = .ok (.if_icmp .eq 5, 3) := by decide +kernel
theorem dX6_isAlike_87 : decode cX6_isAlike 87 = .ok (.iconst 0, 1) := by decide +kernel
theorem dX6_isAlike_88 : decode cX6_isAlike 88 = .ok (.ireturn, 1) := by decide +kernel
theorem dX6_isAlike_89 : decode cX6_isAlike 89 = .ok (.iinc 7 1, 3) := by decide +kernel
theorem dX6_isAlike_92 : decode cX6_isAlike 92 = .ok (.goto (-35), 3) := by decide +kernel
theorem dX6_isAlike_95 : decode cX6_isAlike 95 = .ok (.iconst 1, 1) := by decide +kernel
theorem dX6_isAlike_96 : decode cX6_isAlike 96 = .ok (.ireturn, 1) := by decide +kernel
theorem dX6_isAlikeRow_0 : decode cX6_isAlikeRow 0 = .ok (.iconst 0, 1) := by decide +kernel
theorem dX6_isAlikeRow_1 : decode cX6_isAlikeRow 1 = .ok (.istore 5, 2) := by decide +kernel
theorem dX6_isAlikeRow_3 : decode cX6_isAlikeRow 3 = .ok (.iload 5, 2) := by decide +kernel
theorem dX6_isAlikeRow_5 : decode cX6_isAlikeRow 5 = .ok (.iload 4, 2) := by decide +kernel
theorem dX6_isAlikeRow_7 : decode cX6_isAlikeRow 7 = .ok (.if_icmp .ge 27, 3) := by decide +kernel
theorem dX6_isAlikeRow_10 : decode cX6_isAlikeRow 10 = .ok (.aload_n 0, 1) := by decide +kernel
theorem dX6_isAlikeRow_11 : decode cX6_isAlikeRow 11 = .ok (.iload_n 1, 1) := by decide +kernel
theorem dX6_isAlikeRow_12 : decode cX6_isAlikeRow 12 = .ok (.iload 5, 2) := by decide +kernel
theorem dX6_isAlikeRow_14 : decode cX6_isAlikeRow 14 = .ok (.iadd, 1) := by decide +kernel
theorem dX6_isAlikeRow_15 : decode cX6_isAlikeRow 15 = .ok (.aload_n 2, 1) := by decide +kernel
theorem dX6_isAlikeRow_16 : decode cX6_isAlikeRow 16 = .ok (.iload_n 3, 1) := by decide +kernel
theorem dX6_isAlikeRow_17 : decode cX6_isAlikeRow 17 = .ok (.iload 5, 2) := by decide +kernel
theorem dX6_isAlikeRow_19 : decode cX6_isAlikeRow 19 = .ok (.iadd, 1) := by decide +kernel
theorem dX6_isAlikeRow_20 : decode cX6_isAlikeRow 20 = .ok (.invokevirtual 73, 3) := by decide +kernel
theorem dX6_isAlikeRow_23 : decode cX6_isAlikeRow 23 = .ok (.ifCond .ne 5, 3) := by decide +kernel
theorem dX6_isAlikeRow_26 : decode cX6_isAlikeRow 26 = .ok (.iconst 0, 1) := by decide +kernel
theorem dX6_isAlikeRow_27 : decode cX6_isAlikeRow 27 = .ok (.ireturn, 1) := by decide +kernel
theorem dX6_isAlikeRow_28 : decode cX6_isAlikeRow 28 = .ok (.iinc 5 1, 3) := by decide +kernel
theorem dX6_isAlikeRow_31 : decode cX6_isAlikeRow 31 = .ok (.goto (-28), 3) := by decide +kernel
theorem dX6_isAlikeRow_34 : decode cX6_isAlikeRow 34 = .ok (.iconst 1, 1) := by decide +kernel
theorem dX6_isAlikeRow_35 : decode cX6_isAlikeRow 35 = .ok (.ireturn, 1) := by decide +kernel
theorem dX6_isPart_0 : decode cX6_isPart 0 = .ok (.iconst 0, 1) := by decide +kernel
theorem dX6_isPart_1 : decode cX6_isPart 1 = .ok (.istore_n 3, 1) := by decide +kernel
theorem dX6_isPart_2 : decode cX6_isPart 2 = .ok (.iload_n 3, 1) := by decide +kernel
theorem dX6_isPart_3 : decode cX6_isPart 3 = .ok (.iload_n 2, 1) := by decide +kernel
theorem dX6_isPart_4 : decode cX6_isPart 4 = .ok (.if_icmp .ge 23, 3) := by decide +kernel
theorem dX6_isPart_7 : decode cX6_isPart 7 = .ok (.aload_n 0, 1) := by decide +kernel
theorem dX6_isPart_8 : decode cX6_isPart 8 = .ok (.getfield 37, 3) := by decide +kernel
theorem dX6_isPart_11 : decode cX6_isPart 11 = .ok (.iload_n 1, 1) := by decide +kernel
theorem dX6_isPart_12 : decode cX6_isPart 12 = .ok (.iload_n 3, 1) := by decide +kernel
theorem dX6_isPart_13 : decode cX6_isPart 13 = .ok (.iadd, 1) := by decide +kernel
theorem dX6_isPart_14 : decode cX6_isPart 14 = .ok (.iaload, 1) := by decide +kernel
theorem dX6_isPart_15 : decode cX6_isPart 15 = .ok (.iconst 4, 1) := by decide +kernel
theorem dX6_isPart_16 : decode cX6_isPart 16 = .ok (.if_icmp .lt 5, 3) := by decide +kernel
theorem dX6_isPart_19 : decode cX6_isPart 19 = .ok (.iconst 1, 1) := by decide +kernel
theorem dX6_isPart_20 : decode cX6_isPart 20 = .ok (.ireturn, 1) := by decide +kernel
theorem dX6_isPart_21 : decode cX6_isPart 21 = .ok (.iinc 3 1, 3) := by decide +kernel
theorem dX6_isPart_24 : decode cX6_isPart 24 = .ok (.goto (-22), 3) := by decide +kernel
theorem dX6_isPart_27 : decode cX6_isPart 27 = .ok (.iconst 0, 1) := by decide +kernel
theorem dX6_isPart_28 : decode cX6_isPart 28 = .ok (.ireturn, 1) := by decide +kernel
theorem dX6_collectAlike_0 : decode cX6_collectAlike 0 = .ok (.aload_n 1, 1) := by decide +kernel
theorem dX6_collectAlike_1 : decode cX6_collectAlike 1 = .ok (.ifnull 10, 3) := by decide +kernel
theorem dX6_collectAlike_4 : decode cX6_collectAlike 4 = .ok (.aload_n 1, 1) := by decide +kernel
theorem dX6_collectAlike_5 : decode cX6_collectAlike 5 = .ok (.getfield 15, 3) := by decide +kernel
theorem dX6_collectAlike_8 : decode cX6_collectAlike 8 = .ok (.ifCond .ne 4, 3) := by decide +kernel
theorem dX6_collectAlike_11 : decode cX6_collectAlike 11 = .ok (.return_, 1) := by decide +kernel
theorem dX6_collectAlike_12 : decode cX6_collectAlike 12 = .ok (.iconst 0, 1) := by decide +kernel
theorem dX6_collectAlike_13 : decode cX6_collectAlike 13 = .ok (.istore_n 3, 1) := by decide +kernel
theorem dX6_collectAlike_14 : decode cX6_collectAlike 14 = .ok (.iload_n 3, 1) := by decide +kernel
theorem dX6_collectAlike_15 : decode cX6_collectAlike 15 = .ok (.aload_n 0, 1) := by decide +kernel
theorem dX6_collectAlike_16 : decode cX6_collectAlike 16 = .ok (.getfield 15, 3) := by decide +kernel
theorem dX6_collectAlike_19 : decode cX6_collectAlike 19 = .ok (.if_icmp .ge 34, 3) := by decide +kernel
theorem dX6_collectAlike_22 : decode cX6_collectAlike 22 = .ok (.aload_n 0, 1) := by decide +kernel
theorem dX6_collectAlike_23 : decode cX6_collectAlike 23 = .ok (.iload_n 3, 1) := by decide +kernel
theorem dX6_collectAlike_24 : decode cX6_collectAlike 24 = .ok (.aload_n 1, 1) := by decide +kernel
theorem dX6_collectAlike_25 : decode cX6_collectAlike 25 = .ok (.iconst 0, 1) := by decide +kernel
theorem dX6_collectAlike_26 : decode cX6_collectAlike 26 = .ok (.invokevirtual 73, 3) := by decide +kernel
theorem dX6_collectAlike_29 : decode cX6_collectAlike 29 = .ok (.ifCond .eq 18, 3) := by decide +kernel
theorem dX6_collectAlike_32 : decode cX6_collectAlike 32 = .ok (.aload_n 2, 1) := by decide +kernel
theorem dX6_collectAlike_33 : decode cX6_collectAlike 33 = .ok (.aload_n 0, 1) := by decide +kernel
theorem dX6_collectAlike_34 : decode cX6_collectAlike 34 = .ok (.iload_n 3, 1) := by decide +kernel
theorem dX6_collectAlike_35 : decode cX6_collectAlike 35 = .ok (.invokevirtual 77, 3) := by decide +kernel
theorem dX6_collectAlike_38 : decode cX6_collectAlike 38 = .ok (.aload_n 0, 1) := by decide +kernel
theorem dX6_collectAlike_39 : decode cX6_collectAlike 39 = .ok (.iload_n 3, 1) := by decide +kernel
theorem dX6_collectAlike_40 : decode cX6_collectAlike 40 = .ok (.invokevirtual 80, 3) := by decide +kernel
theorem dX6_collectAlike_43 : decode cX6_collectAlike 43 = .ok (.iconst (-1), 1) := by decide +kernel
theorem dX6_collectAlike_44 : decode cX6_collectAlike 44 = .ok (.invokevirtual 83, 3) := by decide +kernel
theorem dX6_collectAlike_47 : decode cX6_collectAlike 47 = .ok (.iinc 3 1, 3) := by decide +kernel
theorem dX6_collectAlike_50 : decode cX6_collectAlike 50 = .ok (.goto (-36), 3) := by decide +kernel
theorem dX6_collectAlike_53 : decode cX6_collectAlike 53 = .ok (.return_, 1) := by decide +kernel
theorem dX6_collectParts_0 : decode cX6_collectParts 0 = .ok (.iconst 0, 1) := by decide +kernel
theorem dX6_collectParts_1 : decode cX6_collectParts 1 = .ok (.istore 4, 2) := by decide +kernel
theorem dX6_collectParts_3 : decode cX6_collectParts 3 = .ok (.iload 4, 2) := by decide +kernel
theorem dX6_collectParts_5 : decode cX6_collectParts 5 = .ok (.iload_n 2, 1) := by decide +kernel
theorem dX6_collectParts_6 : decode cX6_collectParts 6 = .ok (.iadd, 1) := by decide +kernel
theorem dX6_collectParts_7 : decode cX6_collectParts 7 = .ok (.aload_n 0, 1) := by decide +kernel
theorem dX6_collectParts_8 : decode cX6_collectParts 8 = .ok (.getfield 15, 3) := by decide +kernel
theorem dX6_collectParts_11 : decode cX6_collectParts 11 = .ok (.if_icmp .gt 74, 3) := by decide +kernel
theorem dX6_collectParts_14 : decode cX6_collectParts 14 = .ok (.iconst 0, 1) := by decide +kernel
theorem dX6_collectParts_15 : decode cX6_collectParts 15 = .ok (.istore 5, 2) := by decide +kernel
theorem dX6_collectParts_17 : decode cX6_collectParts 17 = .ok (.iload 5, 2) := by decide +kernel
theorem dX6_collectParts_19 : decode cX6_collectParts 19 = .ok (.iload_n 2, 1) := by decide +kernel
theorem dX6_collectParts_20 : decode cX6_collectParts 20 = .ok (.iadd, 1) := by decide +kernel
theorem dX6_collectParts_21 : decode cX6_collectParts 21 = .ok (.aload_n 1, 1) := by decide +kernel
theorem dX6_collectParts_22 : decode cX6_collectParts 22 = .ok (.getfield 15, 3) := by decide +kernel
theorem dX6_collectParts_25 : decode cX6_collectParts 25 = .ok (.if_icmp .gt 54, 3) := by decide +kernel
theorem dX6_collectParts_28 : decode cX6_collectParts 28 = .ok (.aload_n 0, 1) := by decide +kernel
theorem dX6_collectParts_29 : decode cX6_collectParts 29 = .ok (.iload 4, 2) := by decide +kernel
theorem dX6_collectParts_31 : decode cX6_collectParts 31 = .ok (.aload_n 1, 1) := by decide +kernel
theorem dX6_collectParts_32 : decode cX6_collectParts 32 = .ok (.iload 5, 2) := by decide +kernel
theorem dX6_collectParts_34 : decode cX6_collectParts 34 = .ok (.iload_n 2, 1) := by decide +kernel
theorem dX6_collectParts_35 : decode cX6_collectParts 35 = .ok (.invokevirtual 89, 3) := by decide +kernel
theorem dX6_collectParts_38 : decode cX6_collectParts 38 = .ok (.ifCond .eq 35, 3) := by decide +kernel
theorem dX6_collectParts_41 : decode cX6_collectParts 41 = .ok (.aload_n 1, 1) := by decide +kernel
theorem dX6_collectParts_42 : decode cX6_collectParts 42 = .ok (.iload 5, 2) := by decide +kernel
theorem dX6_collectParts_44 : decode cX6_collectParts 44 = .ok (.iload_n 2, 1) := by decide +kernel
theorem dX6_collectParts_45 : decode cX6_collectParts 45 = .ok (.invokevirtual 93, 3) := by decide +kernel
theorem dX6_collectParts_48 : decode cX6_collectParts 48 = .ok (.ifCond .eq 25, 3) := by decide +kernel
theorem dX6_collectParts_51 : decode cX6_collectParts 51 = .ok (.aload_n 3, 1) := by decide +kernel
theorem dX6_collectParts_52 : decode cX6_collectParts 52 = .ok (.aload_n 0, 1) := by decide +kernel
theorem dX6_collectParts_53 : decode cX6_collectParts 53 = .ok (.iload 4, 2) := by decide +kernel
theorem dX6_collectParts_55 : decode cX6_collectParts 55 = .ok (.invokevirtual 77, 3) := by decide +kernel
theorem dX6_collectParts_58 : decode cX6_collectParts 58 = .ok (.aload_n 0, 1) := by decide +kernel
theorem dX6_collectParts_59 : decode cX6_collectParts 59 = .ok (.iload 4, 2) := by decide +kernel
theorem dX6_collectParts_61 : decode cX6_collectParts 61 = .ok (.iload_n 2, 1) := by decide +kernel
theorem dX6_collectParts_62 : decode cX6_collectParts 62 = .ok (.iadd, 1) := by decide +kernel
theorem dX6_collectParts_63 : decode cX6_collectParts 63 = .ok (.iconst 1, 1) := by decide +kernel
theorem dX6_collectParts_64 : decode cX6_collectParts 64 = .ok (.isub, 1) := by decide +kernel
theorem dX6_collectParts_65 : decode cX6_collectParts 65 = .ok (.invokevirtual 80, 3) := by decide +kernel
theorem dX6_collectParts_68 : decode cX6_collectParts 68 = .ok (.iload 5, 2) := by decide +kernel
theorem dX6_collectParts_70 : decode cX6_collectParts 70 = .ok (.invokevirtual 83, 3) := by decide +kernel
theorem dX6_collectParts_73 : decode cX6_collectParts 73 = .ok (.iinc 5 1, 3) := by decide +kernel
theorem dX6_collectParts_76 : decode cX6_collectParts 76 = .ok (.goto (-59), 3) := by decide +kernel
theorem dX6_collectParts_79 : decode cX6_collectParts 79 = .ok (.iinc 4 1, 3) := by decide +kernel
theorem dX6_collectParts_82 : decode cX6_collectParts 82 = .ok (.goto (-79), 3) := by decide +kernel
theorem dX6_collectParts_85 : decode cX6_collectParts 85 = .ok (.return_, 1) := by decide +kernel
theorem dX6_collectNumbers_0 : decode cX6_collectNumbers 0 = .ok (.iconst (-1), 1) := by decide +kernel
theorem dX6_collectNumbers_1 : decode cX6_collectNumbers 1 = .ok (.istore_n 2, 1) := by decide +kernel
theorem dX6_collectNumbers_2 : decode cX6_collectNumbers 2 = .ok (.iconst 0, 1) := by decide +kernel
theorem dX6_collectNumbers_3 : decode cX6_collectNumbers 3 = .ok (.istore_n 3, 1) := by decide +kernel
theorem dX6_collectNumbers_4 : decode cX6_collectNumbers 4 = .ok (.iload_n 3, 1) := by decide +kernel
theorem dX6_collectNumbers_5 : decode cX6_collectNumbers 5 = .ok (.aload_n 0, 1) := by decide +kernel
theorem dX6_collectNumbers_6 : decode cX6_collectNumbers 6 = .ok (.getfield 9, 3) := by decide +kernel
theorem dX6_collectNumbers_9 : decode cX6_collectNumbers 9 = .ok (.if_icmp .ge 58, 3) := by decide +kernel
theorem dX6_collectNumbers_12 : decode cX6_collectNumbers 12 = .ok (.iload_n 3, 1) := by decide +kernel
theorem dX6_collectNumbers_13 : decode cX6_collectNumbers 13 = .ok (.iload_n 2, 1) := by decide +kernel
theorem dX6_collectNumbers_14 : decode cX6_collectNumbers 14 = .ok (.if_icmp .le 47, 3) := by decide +kernel
theorem dX6_collectNumbers_17 : decode cX6_collectNumbers 17 = .ok (.aload_n 0, 1) := by decide +kernel
theorem dX6_collectNumbers_18 : decode cX6_collectNumbers 18 = .ok (.getfield 24, 3) := by decide +kernel
theorem dX6_collectNumbers_21 : decode cX6_collectNumbers 21 = .ok (.iload_n 3, 1) := by decide +kernel
theorem dX6_collectNumbers_22 : decode cX6_collectNumbers 22 = .ok (.iaload, 1) := by decide +kernel
theorem dX6_collectNumbers_23 : decode cX6_collectNumbers 23 = .ok (.invokestatic 62, 3) := by decide +kernel
theorem dX6_collectNumbers_26 : decode cX6_collectNumbers 26 = .ok (.ifCond .eq 35, 3) := by decide +kernel
theorem dX6_collectNumbers_29 : decode cX6_collectNumbers 29 = .ok (.aload_n 0, 1) := by decide +kernel
theorem dX6_collectNumbers_30 : decode cX6_collectNumbers 30 = .ok (.iload_n 3, 1) := by decide +kernel
theorem dX6_collectNumbers_31 : decode cX6_collectNumbers 31 = .ok (.invokevirtual 97, 3) := by decide +kernel
theorem dX6_collectNumbers_34 : decode cX6_collectNumbers 34 = .ok (.istore_n 2, 1) := by decide +kernel
theorem dX6_collectNumbers_35 : decode cX6_collectNumbers 35 = .ok (.aload_n 0, 1) := by decide +kernel
theorem dX6_collectNumbers_36 : decode cX6_collectNumbers 36 = .ok (.iload_n 3, 1) := by decide +kernel
theorem dX6_collectNumbers_37 : decode cX6_collectNumbers 37 = .ok (.iload_n 2, 1) := by decide +kernel
theorem dX6_collectNumbers_38 : decode cX6_collectNumbers 38 = .ok (.invokevirtual 100, 3) := by decide +kernel
theorem dX6_collectNumbers_41 : decode cX6_collectNumbers 41 = .ok (.ifCond .eq 20, 3) := by decide +kernel
theorem dX6_collectNumbers_44 : decode cX6_collectNumbers 44 = .ok (.aload_n 1, 1) := by decide +kernel
theorem dX6_collectNumbers_45 : decode cX6_collectNumbers 45 = .ok (.aload_n 0, 1) := by decide +kernel
theorem dX6_collectNumbers_46 : decode cX6_collectNumbers 46 = .ok (.getfield 28, 3) := by decide +kernel
theorem dX6_collectNumbers_49 : decode cX6_collectNumbers 49 = .ok (.iload_n 3, 1) := by decide +kernel
theorem dX6_collectNumbers_50 : decode cX6_collectNumbers 50 = .ok (.iaload, 1) := by decide +kernel
theorem dX6_collectNumbers_51 : decode cX6_collectNumbers 51 = .ok (.aload_n 0, 1) := by decide +kernel
theorem dX6_collectNumbers_52 : decode cX6_collectNumbers 52 = .ok (.getfield 31, 3) := by decide +kernel
theorem dX6_collectNumbers_55 : decode cX6_collectNumbers 55 = .ok (.iload_n 2, 1) := by decide +kernel
theorem dX6_collectNumbers_56 : decode cX6_collectNumbers 56 = .ok (.iaload, 1) := by decide +kernel
theorem dX6_collectNumbers_57 : decode cX6_collectNumbers 57 = .ok (.iconst (-1), 1) := by decide +kernel
theorem dX6_collectNumbers_58 : decode cX6_collectNumbers 58 = .ok (.invokevirtual 83, 3) := by decide +kernel
theorem dX6_collectNumbers_61 : decode cX6_collectNumbers 61 = .ok (.iinc 3 1, 3) := by decide +kernel
theorem dX6_collectNumbers_64 : decode cX6_collectNumbers 64 = .ok (.goto (-60), 3) := by decide +kernel
theorem dX6_collectNumbers_67 : decode cX6_collectNumbers 67 = .ok (.return_, 1) := by decide +kernel
theorem dX6_endOfDigits_0 : decode cX6_endOfDigits 0 = .ok (.iload_n 1, 1) := by decide +kernel
theorem dX6_endOfDigits_1 : decode cX6_endOfDigits 1 = .ok (.istore_n 2, 1) := by decide +kernel
theorem dX6_endOfDigits_2 : decode cX6_endOfDigits 2 = .ok (.iload_n 1, 1) := by decide +kernel
theorem dX6_endOfDigits_3 : decode cX6_endOfDigits 3 = .ok (.iconst 1, 1) := by decide +kernel
theorem dX6_endOfDigits_4 : decode cX6_endOfDigits 4 = .ok (.iadd, 1) := by decide +kernel
theorem dX6_endOfDigits_5 : decode cX6_endOfDigits 5 = .ok (.istore_n 3, 1) := by decide +kernel
theorem dX6_endOfDigits_6 : decode cX6_endOfDigits 6 = .ok (.iload_n 3, 1) := by decide +kernel
theorem dX6_endOfDigits_7 : decode cX6_endOfDigits 7 = .ok (.aload_n 0, 1) := by decide +kernel
theorem dX6_endOfDigits_8 : decode cX6_endOfDigits 8 = .ok (.getfield 9, 3) := by decide +kernel
theorem dX6_endOfDigits_11 : decode cX6_endOfDigits 11 = .ok (.if_icmp .ge 58, 3) := by decide +kernel
theorem dX6_endOfDigits_14 : decode cX6_endOfDigits 14 = .ok (.iload_n 3, 1) := by decide +kernel
theorem dX6_endOfDigits_15 : decode cX6_endOfDigits 15 = .ok (.iload_n 2, 1) := by decide +kernel
theorem dX6_endOfDigits_16 : decode cX6_endOfDigits 16 = .ok (.iconst 2, 1) := by decide +kernel
theorem dX6_endOfDigits_17 : decode cX6_endOfDigits 17 = .ok (.iadd, 1) := by decide +kernel
theorem dX6_endOfDigits_18 : decode cX6_endOfDigits 18 = .ok (.if_icmp .gt 51, 3) := by decide +kernel
theorem dX6_endOfDigits_21 : decode cX6_endOfDigits 21 = .ok (.aload_n 0, 1) := by decide +kernel
theorem dX6_endOfDigits_22 : decode cX6_endOfDigits 22 = .ok (.getfield 24, 3) := by decide +kernel
theorem dX6_endOfDigits_25 : decode cX6_endOfDigits 25 = .ok (.iload_n 3, 1) := by decide +kernel
theorem dX6_endOfDigits_26 : decode cX6_endOfDigits 26 = .ok (.iaload, 1) := by decide +kernel
theorem dX6_endOfDigits_27 : decode cX6_endOfDigits 27 = .ok (.invokestatic 62, 3) := by decide +kernel
theorem dX6_endOfDigits_30 : decode cX6_endOfDigits 30 = .ok (.ifCond .eq 8, 3) := by decide +kernel
theorem dX6_endOfDigits_33 : decode cX6_endOfDigits 33 = .ok (.iload_n 3, 1) := by decide +kernel
theorem dX6_endOfDigits_34 : decode cX6_endOfDigits 34 = .ok (.istore_n 2, 1) := by decide +kernel
theorem dX6_endOfDigits_35 : decode cX6_endOfDigits 35 = .ok (.goto 28, 3) := by decide +kernel
theorem dX6_endOfDigits_38 : decode cX6_endOfDigits 38 = .ok (.aload_n 0, 1) := by decide +kernel
theorem dX6_endOfDigits_39 : decode cX6_endOfDigits 39 = .ok (.getfield 24, 3) := by decide +kernel
theorem dX6_endOfDigits_42 : decode cX6_endOfDigits 42 = .ok (.iload_n 3, 1) := by decide +kernel
theorem dX6_endOfDigits_43 : decode cX6_endOfDigits 43 = .ok (.iaload, 1) := by decide +kernel
theorem dX6_endOfDigits_44 : decode cX6_endOfDigits 44 = .ok (.bipush 32, 2) := by decide +kernel
theorem dX6_endOfDigits_46 : decode cX6_endOfDigits 46 = .ok (.if_icmp .eq 17, 3) := by decide +kernel
theorem dX6_endOfDigits_49 : decode cX6_endOfDigits 49 = .ok (.aload_n 0, 1) := by decide +kernel
theorem dX6_endOfDigits_50 : decode cX6_endOfDigits 50 = .ok (.getfield 24, 3) := by decide +kernel
theorem dX6_endOfDigits_53 : decode cX6_endOfDigits 53 = .ok (.iload_n 3, 1) := by decide +kernel
theorem dX6_endOfDigits_54 : decode cX6_endOfDigits 54 = .ok (.iaload, 1) := by decide +kernel
theorem dX6_endOfDigits_55 : decode cX6_endOfDigits 55 = .ok (.bipush 45, 2) := by decide +kernel
theorem dX6_endOfDigits_57 : decode cX6_endOfDigits 57 = .ok (.if_icmp .eq 6, 3) := by decide +kernel
theorem dX6_endOfDigits_60 : decode cX6_endOfDigits 60 = .ok (.goto 9, 3) := by decide +kernel
theorem dX6_endOfDigits_63 : decode cX6_endOfDigits 63 = .ok (.iinc 3 1, 3) := by decide +kernel
theorem dX6_endOfDigits_66 : decode cX6_endOfDigits 66 = .ok (.goto (-60), 3) := by decide +kernel
theorem dX6_endOfDigits_69 : decode cX6_endOfDigits 69 = .ok (.iload_n 2, 1) := by decide +kernel
theorem dX6_endOfDigits_70 : decode cX6_endOfDigits 70 = .ok (.ireturn, 1) := by decide +kernel
theorem dX6_isNumber_0 : decode cX6_isNumber 0 = .ok (.iconst 0, 1) := by decide +kernel
theorem dX6_isNumber_1 : decode cX6_isNumber 1 = .ok (.istore_n 3, 1) := by decide +kernel
theorem dX6_isNumber_2 : decode cX6_isNumber 2 = .ok (.iconst 0, 1) := by decide +kernel
theorem dX6_isNumber_3 : decode cX6_isNumber 3 = .ok (.istore 4, 2) := by decide +kernel
theorem dX6_isNumber_5 : decode cX6_isNumber 5 = .ok (.iload_n 2, 1) := by decide +kernel
theorem dX6_isNumber_6 : decode cX6_isNumber 6 = .ok (.istore 5, 2) := by decide +kernel
theorem dX6_isNumber_8 : decode cX6_isNumber 8 = .ok (.iload 5, 2) := by decide +kernel
theorem dX6_isNumber_10 : decode cX6_isNumber 10 = .ok (.iload_n 1, 1) := by decide +kernel
theorem dX6_isNumber_11 : decode cX6_isNumber 11 = .ok (.if_icmp .lt 76, 3) := by decide +kernel
theorem dX6_isNumber_14 : decode cX6_isNumber 14 = .ok (.aload_n 0, 1) := by decide +kernel
theorem dX6_isNumber_15 : decode cX6_isNumber 15 = .ok (.getfield 24, 3) := by decide +kernel
theorem dX6_isNumber_18 : decode cX6_isNumber 18 = .ok (.iload 5, 2) := by decide +kernel
theorem dX6_isNumber_20 : decode cX6_isNumber 20 = .ok (.iaload, 1) := by decide +kernel
theorem dX6_isNumber_21 : decode cX6_isNumber 21 = .ok (.invokestatic 62, 3) := by decide +kernel
theorem dX6_isNumber_24 : decode cX6_isNumber 24 = .ok (.ifCond .eq 57, 3) := by decide +kernel
theorem dX6_isNumber_27 : decode cX6_isNumber 27 = .ok (.aload_n 0, 1) := by decide +kernel
theorem dX6_isNumber_28 : decode cX6_isNumber 28 = .ok (.getfield 24, 3) := by decide +kernel
theorem dX6_isNumber_31 : decode cX6_isNumber 31 = .ok (.iload 5, 2) := by decide +kernel
theorem dX6_isNumber_33 : decode cX6_isNumber 33 = .ok (.iaload, 1) := by decide +kernel
theorem dX6_isNumber_34 : decode cX6_isNumber 34 = .ok (.bipush 48, 2) := by decide +kernel
theorem dX6_isNumber_36 : decode cX6_isNumber 36 = .ok (.isub, 1) := by decide +kernel
theorem dX6_isNumber_37 : decode cX6_isNumber 37 = .ok (.istore 6, 2) := by decide +kernel
theorem dX6_isNumber_39 : decode cX6_isNumber 39 = .ok (.iload_n 3, 1) := by decide +kernel
theorem dX6_isNumber_40 : decode cX6_isNumber 40 = .ok (.iconst 2, 1) := by decide +kernel
theorem dX6_isNumber_41 : decode cX6_isNumber 41 = .ok (.irem, 1) := by decide +kernel
theorem dX6_isNumber_42 : decode cX6_isNumber 42 = .ok (.ifCond .ne 8, 3) := by decide +kernel
theorem dX6_isNumber_45 : decode cX6_isNumber 45 = .ok (.iload 6, 2) := by decide +kernel
theorem dX6_isNumber_47 : decode cX6_isNumber 47 = .ok (.goto 7, 3) := by decide +kernel
theorem dX6_isNumber_50 : decode cX6_isNumber 50 = .ok (.iconst 2, 1) := by decide +kernel
theorem dX6_isNumber_51 : decode cX6_isNumber 51 = .ok (.iload 6, 2) := by decide +kernel
theorem dX6_isNumber_53 : decode cX6_isNumber 53 = .ok (.imul, 1) := by decide +kernel
theorem dX6_isNumber_54 : decode cX6_isNumber 54 = .ok (.istore 7, 2) := by decide +kernel
theorem dX6_isNumber_56 : decode cX6_isNumber 56 = .ok (.iload 4, 2) := by decide +kernel
theorem dX6_isNumber_58 : decode cX6_isNumber 58 = .ok (.iload 7, 2) := by decide +kernel
theorem dX6_isNumber_60 : decode cX6_isNumber 60 = .ok (.bipush 9, 2) := by decide +kernel
theorem dX6_isNumber_62 : decode cX6_isNumber 62 = .ok (.if_icmp .le 11, 3) := by decide +kernel
theorem dX6_isNumber_65 : decode cX6_isNumber 65 = .ok (.iload 7, 2) := by decide +kernel
theorem dX6_isNumber_67 : decode cX6_isNumber 67 = .ok (.bipush 9, 2) := by decide +kernel
theorem dX6_isNumber_69 : decode cX6_isNumber 69 = .ok (.isub, 1) := by decide +kernel
theorem dX6_isNumber_70 : decode cX6_isNumber 70 = .ok (.goto 5, 3) := by decide +kernel
theorem dX6_isNumber_73 : decode cX6_isNumber 73 = .ok (.iload 7, 2) := by decide +kernel
theorem dX6_isNumber_75 : decode cX6_isNumber 75 = .ok (.iadd, 1) := by decide +kernel
theorem dX6_isNumber_76 : decode cX6_isNumber 76 = .ok (.istore 4, 2) := by decide +kernel
theorem dX6_isNumber_78 : decode cX6_isNumber 78 = .ok (.iinc 3 1, 3) := by decide +kernel
theorem dX6_isNumber_81 : decode cX6_isNumber 81 = .ok (.iinc 5 (-1), 3) := by decide +kernel
theorem dX6_isNumber_84 : decode cX6_isNumber 84 = .ok (.goto (-76), 3) := by decide +kernel
theorem dX6_isNumber_87 : decode cX6_isNumber 87 = .ok (.iload_n 3, 1) := by decide +kernel
theorem dX6_isNumber_88 : decode cX6_isNumber 88 = .ok (.bipush 8, 2) := by decide +kernel
theorem dX6_isNumber_90 : decode cX6_isNumber 90 = .ok (.bipush 16, 2) := by decide +kernel
theorem dX6_isNumber_92 : decode cX6_isNumber 92 = .ok (.invokestatic 103, 3) := by decide +kernel
theorem dX6_isNumber_95 : decode cX6_isNumber 95 = .ok (.ifCond .eq 15, 3) := by decide +kernel
theorem dX6_isNumber_98 : decode cX6_isNumber 98 = .ok (.iload 4, 2) := by decide +kernel
theorem dX6_isNumber_100 : decode cX6_isNumber 100 = .ok (.bipush 10, 2) := by decide +kernel
theorem dX6_isNumber_102 : decode cX6_isNumber 102 = .ok (.irem, 1) := by decide +kernel
theorem dX6_isNumber_103 : decode cX6_isNumber 103 = .ok (.ifCond .ne 7, 3) := by decide +kernel
theorem dX6_isNumber_106 : decode cX6_isNumber 106 = .ok (.iconst 1, 1) := by decide +kernel
theorem dX6_isNumber_107 : decode cX6_isNumber 107 = .ok (.goto 4, 3) := by decide +kernel
theorem dX6_isNumber_110 : decode cX6_isNumber 110 = .ok (.iconst 0, 1) := by decide +kernel
theorem dX6_isNumber_111 : decode cX6_isNumber 111 = .ok (.ireturn, 1) := by decide +kernel
theorem dX7_init_0 : decode cX7_init 0 = .ok (.aload_n 0, 1) := by decide +kernel
theorem dX7_init_1 : decode cX7_init 1 = .ok (.invokespecial 1, 3) := by decide +kernel
theorem dX7_init_4 : decode cX7_init 4 = .ok (.aload_n 0, 1) := by decide +kernel
theorem dX7_init_5 : decode cX7_init 5 = .ok (.iconst 0, 1) := by decide +kernel
theorem dX7_init_6 : decode cX7_init 6 = .ok (.putfield 7, 3) := by decide +kernel
theorem dX7_init_9 : decode cX7_init 9 = .ok (.aload_n 0, 1) := by decide +kernel
theorem dX7_init_10 : decode cX7_init 10 = .ok (.sipush 300, 3) := by decide +kernel
theorem dX7_init_13 : decode cX7_init 13 = .ok (.newarray .int, 2) := by decide +kernel
theorem dX7_init_15 : decode cX7_init 15 = .ok (.putfield 13, 3) := by decide +kernel
theorem dX7_init_18 : decode cX7_init 18 = .ok (.aload_n 0, 1) := by decide +kernel
theorem dX7_init_19 : decode cX7_init 19 = .ok (.iconst 0, 1) := by decide +kernel
theorem dX7_init_20 : decode cX7_init 20 = .ok (.putfield 17, 3) := by decide +kernel
theorem dX7_init_23 : decode cX7_init 23 = .ok (.aload_n 0, 1) := by decide +kernel
theorem dX7_init_24 : decode cX7_init 24 = .ok (.bipush 8, 2) := by decide +kernel
theorem dX7_init_26 : decode cX7_init 26 = .ok (.anewarray 20, 3) := by decide +kernel
theorem dX7_init_29 : decode cX7_init 29 = .ok (.putfield 22, 3) := by decide +kernel
theorem dX7_init_32 : decode cX7_init 32 = .ok (.aload_n 0, 1) := by decide +kernel
theorem dX7_init_33 : decode cX7_init 33 = .ok (.bipush 8, 2) := by decide +kernel
theorem dX7_init_35 : decode cX7_init 35 = .ok (.anewarray 26, 3) := by decide +kernel
theorem dX7_init_38 : decode cX7_init 38 = .ok (.putfield 28, 3) := by decide +kernel
theorem dX7_init_41 : decode cX7_init 41 = .ok (.aload_n 0, 1) := by decide +kernel
theorem dX7_init_42 : decode cX7_init 42 = .ok (.sipush 800, 3) := by decide +kernel
theorem dX7_init_45 : decode cX7_init 45 = .ok (.newarray .boolean, 2) := by decide +kernel
theorem dX7_init_47 : decode cX7_init 47 = .ok (.putfield 32, 3) := by decide +kernel
theorem dX7_init_50 : decode cX7_init 50 = .ok (.aload_n 0, 1) := by decide +kernel
theorem dX7_init_51 : decode cX7_init 51 = .ok (.new 36, 3) := by decide +kernel
theorem dX7_init_54 : decode cX7_init 54 = .ok (.dup, 1) := by decide +kernel
theorem dX7_init_55 : decode cX7_init 55 = .ok (.invokespecial 38, 3) := by decide +kernel
theorem dX7_init_58 : decode cX7_init 58 = .ok (.putfield 39, 3) := by decide +kernel
theorem dX7_init_61 : decode cX7_init 61 = .ok (.aload_n 0, 1) := by decide +kernel
theorem dX7_init_62 : decode cX7_init 62 = .ok (.bipush 60, 2) := by decide +kernel
theorem dX7_init_64 : decode cX7_init 64 = .ok (.anewarray 43, 3) := by decide +kernel
theorem dX7_init_67 : decode cX7_init 67 = .ok (.putfield 45, 3) := by decide +kernel
theorem dX7_init_70 : decode cX7_init 70 = .ok (.aload_n 0, 1) := by decide +kernel
theorem dX7_init_71 : decode cX7_init 71 = .ok (.iconst 0, 1) := by decide +kernel
theorem dX7_init_72 : decode cX7_init 72 = .ok (.putfield 49, 3) := by decide +kernel
theorem dX7_init_75 : decode cX7_init 75 = .ok (.aload_n 0, 1) := by decide +kernel
theorem dX7_init_76 : decode cX7_init 76 = .ok (.new 20, 3) := by decide +kernel
theorem dX7_init_79 : decode cX7_init 79 = .ok (.dup, 1) := by decide +kernel
theorem dX7_init_80 : decode cX7_init 80 = .ok (.sipush 300, 3) := by decide +kernel
theorem dX7_init_83 : decode cX7_init 83 = .ok (.invokespecial 52, 3) := by decide +kernel
theorem dX7_init_86 : decode cX7_init 86 = .ok (.putfield 55, 3) := by decide +kernel
theorem dX7_init_89 : decode cX7_init 89 = .ok (.aload_n 0, 1) := by decide +kernel
theorem dX7_init_90 : decode cX7_init 90 = .ok (.new 59, 3) := by decide +kernel
theorem dX7_init_93 : decode cX7_init 93 = .ok (.dup, 1) := by decide +kernel
theorem dX7_init_94 : decode cX7_init 94 = .ok (.iconst 0, 1) := by decide +kernel
theorem dX7_init_95 : decode cX7_init 95 = .ok (.invokespecial 61, 3) := by decide +kernel
theorem dX7_init_98 : decode cX7_init 98 = .ok (.putfield 62, 3) := by decide +kernel
theorem dX7_init_101 : decode cX7_init 101 = .ok (.aload_n 0, 1) := by decide +kernel
theorem dX7_init_102 : decode cX7_init 102 = .ok (.new 66, 3) := by decide +kernel
theorem dX7_init_105 : decode cX7_init 105 = .ok (.dup, 1) := by decide +kernel
theorem dX7_init_106 : decode cX7_init 106 = .ok (.invokespecial 68, 3) := by decide +kernel
theorem dX7_init_109 : decode cX7_init 109 = .ok (.putfield 69, 3) := by decide +kernel
theorem dX7_init_112 : decode cX7_init 112 = .ok (.aload_n 0, 1) := by decide +kernel
theorem dX7_init_113 : decode cX7_init 113 = .ok (.new 36, 3) := by decide +kernel
theorem dX7_init_116 : decode cX7_init 116 = .ok (.dup, 1) := by decide +kernel
theorem dX7_init_117 : decode cX7_init 117 = .ok (.invokespecial 38, 3) := by decide +kernel
theorem dX7_init_120 : decode cX7_init 120 = .ok (.putfield 73, 3) := by decide +kernel
theorem dX7_init_123 : decode cX7_init 123 = .ok (.new 20, 3) := by decide +kernel
theorem dX7_init_126 : decode cX7_init 126 = .ok (.dup, 1) := by decide +kernel
theorem dX7_init_127 : decode cX7_init 127 = .ok (.iconst 0, 1) := by decide +kernel
theorem dX7_init_128 : decode cX7_init 128 = .ok (.invokespecial 52, 3) := by decide +kernel
theorem dX7_init_131 : decode cX7_init 131 = .ok (.astore_n 1, 1) := by decide +kernel
theorem dX7_init_132 : decode cX7_init 132 = .ok (.iconst 0, 1) := by decide +kernel
theorem dX7_init_133 : decode cX7_init 133 = .ok (.istore_n 2, 1) := by decide +kernel
theorem dX7_init_134 : decode cX7_init 134 = .ok (.iload_n 2, 1) := by decide +kernel
theorem dX7_init_135 : decode cX7_init 135 = .ok (.bipush 8, 2) := by decide +kernel
theorem dX7_init_137 : decode cX7_init 137 = .ok (.if_icmp .ge 16, 3) := by decide +kernel
theorem dX7_init_140 : decode cX7_init 140 = .ok (.aload_n 0, 1) := by decide +kernel
theorem dX7_init_141 : decode cX7_init 141 = .ok (.getfield 22, 3) := by decide +kernel
theorem dX7_init_144 : decode cX7_init 144 = .ok (.iload_n 2, 1) := by decide +kernel
theorem dX7_init_145 : decode cX7_init 145 = .ok (.aload_n 1, 1) := by decide +kernel
theorem dX7_init_146 : decode cX7_init 146 = .ok (.aastore, 1) := by decide +kernel
theorem dX7_init_147 : decode cX7_init 147 = .ok (.iinc 2 1, 3) := by decide +kernel
theorem dX7_init_150 : decode cX7_init 150 = .ok (.goto (-16), 3) := by decide +kernel
theorem dX7_init_153 : decode cX7_init 153 = .ok (.new 26, 3) := by decide +kernel
theorem dX7_init_156 : decode cX7_init 156 = .ok (.dup, 1) := by decide +kernel
theorem dX7_init_157 : decode cX7_init 157 = .ok (.iconst 0, 1) := by decide +kernel
theorem dX7_init_158 : decode cX7_init 158 = .ok (.aconst_null, 1) := by decide +kernel
theorem dX7_init_159 : decode cX7_init 159 = .ok (.iconst 0, 1) := by decide +kernel
theorem dX7_init_160 : decode cX7_init 160 = .ok (.iconst 2, 1) := by decide +kernel
theorem dX7_init_161 : decode cX7_init 161 = .ok (.iconst 1, 1) := by decide +kernel
theorem dX7_init_162 : decode cX7_init 162 = .ok (.iconst 0, 1) := by decide +kernel
theorem dX7_init_163 : decode cX7_init 163 = .ok (.invokespecial 76, 3) := by decide +kernel
theorem dX7_init_166 : decode cX7_init 166 = .ok (.astore_n 2, 1) := by decide +kernel
theorem dX7_init_167 : decode cX7_init 167 = .ok (.iconst 0, 1) := by decide +kernel
theorem dX7_init_168 : decode cX7_init 168 = .ok (.istore_n 3, 1) := by decide +kernel
theorem dX7_init_169 : decode cX7_init 169 = .ok (.iload_n 3, 1) := by decide +kernel
theorem dX7_init_170 : decode cX7_init 170 = .ok (.bipush 8, 2) := by decide +kernel
theorem dX7_init_172 : decode cX7_init 172 = .ok (.if_icmp .ge 16, 3) := by decide +kernel
theorem dX7_init_175 : decode cX7_init 175 = .ok (.aload_n 0, 1) := by decide +kernel
theorem dX7_init_176 : decode cX7_init 176 = .ok (.getfield 28, 3) := by decide +kernel
theorem dX7_init_179 : decode cX7_init 179 = .ok (.iload_n 3, 1) := by decide +kernel
theorem dX7_init_180 : decode cX7_init 180 = .ok (.aload_n 2, 1) := by decide +kernel
theorem dX7_init_181 : decode cX7_init 181 = .ok (.aastore, 1) := by decide +kernel
theorem dX7_init_182 : decode cX7_init 182 = .ok (.iinc 3 1, 3) := by decide +kernel
theorem dX7_init_185 : decode cX7_init 185 = .ok (.goto (-16), 3) := by decide +kernel
theorem dX7_init_188 : decode cX7_init 188 = .ok (.return_, 1) := by decide +kernel
theorem dX7_days_0 : decode cX7_days 0 = .ok (.iload_n 1, 1) := by decide +kernel
theorem dX7_days_1 : decode cX7_days 1 = .ok (.iconst 0, 1) := by decide +kernel
theorem dX7_days_2 : decode cX7_days 2 = .ok (.bipush 100, 2) := by decide +kernel
theorem dX7_days_4 : decode cX7_days 4 = .ok (.invokestatic 79, 3) := by decide +kernel
theorem dX7_days_7 : decode cX7_days 7 = .ok (.ifCond .eq 15, 3) := by decide +kernel
theorem dX7_days_10 : decode cX7_days 10 = .ok (.aload_n 0, 1) := by decide +kernel
theorem dX7_days_11 : decode cX7_days 11 = .ok (.getfield 7, 3) := by decide +kernel
theorem dX7_days_14 : decode cX7_days 14 = .ok (.iload_n 1, 1) := by decide +kernel
theorem dX7_days_15 : decode cX7_days 15 = .ok (.iadd, 1) := by decide +kernel
theorem dX7_days_16 : decode cX7_days 16 = .ok (.sipush 1000, 3) := by decide +kernel
theorem dX7_days_19 : decode cX7_days 19 = .ok (.if_icmp .le 5, 3) := by decide +kernel
theorem dX7_days_22 : decode cX7_days 22 = .ok (.iconst (-1), 1) := by decide +kernel
theorem dX7_days_23 : decode cX7_days 23 = .ok (.ireturn, 1) := by decide +kernel
theorem dX7_days_24 : decode cX7_days 24 = .ok (.aload_n 0, 1) := by decide +kernel
theorem dX7_days_25 : decode cX7_days 25 = .ok (.dup, 1) := by decide +kernel
theorem dX7_days_26 : decode cX7_days 26 = .ok (.getfield 7, 3) := by decide +kernel
theorem dX7_days_29 : decode cX7_days 29 = .ok (.iload_n 1, 1) := by decide +kernel
theorem dX7_days_30 : decode cX7_days 30 = .ok (.iadd, 1) := by decide +kernel
theorem dX7_days_31 : decode cX7_days 31 = .ok (.putfield 7, 3) := by decide +kernel
theorem dX7_days_34 : decode cX7_days 34 = .ok (.aload_n 0, 1) := by decide +kernel
theorem dX7_days_35 : decode cX7_days 35 = .ok (.getfield 7, 3) := by decide +kernel
theorem dX7_days_38 : decode cX7_days 38 = .ok (.ireturn, 1) := by decide +kernel
theorem dX7_feed_0 : decode cX7_feed 0 = .ok (.iload_n 1, 1) := by decide +kernel
theorem dX7_feed_1 : decode cX7_feed 1 = .ok (.invokestatic 83, 3) := by decide +kernel
theorem dX7_feed_4 : decode cX7_feed 4 = .ok (.iload_n 2, 1) := by decide +kernel
theorem dX7_feed_5 : decode cX7_feed 5 = .ok (.invokestatic 83, 3) := by decide +kernel
theorem dX7_feed_8 : decode cX7_feed 8 = .ok (.iadd, 1) := by decide +kernel
theorem dX7_feed_9 : decode cX7_feed 9 = .ok (.iload_n 3, 1) := by decide +kernel
theorem dX7_feed_10 : decode cX7_feed 10 = .ok (.invokestatic 83, 3) := by decide +kernel
theorem dX7_feed_13 : decode cX7_feed 13 = .ok (.iadd, 1) := by decide +kernel
theorem dX7_feed_14 : decode cX7_feed 14 = .ok (.iload 4, 2) := by decide +kernel
theorem dX7_feed_16 : decode cX7_feed 16 = .ok (.invokestatic 83, 3) := by decide +kernel
theorem dX7_feed_19 : decode cX7_feed 19 = .ok (.iadd, 1) := by decide +kernel
theorem dX7_feed_20 : decode cX7_feed 20 = .ok (.iload 5, 2) := by decide +kernel
theorem dX7_feed_22 : decode cX7_feed 22 = .ok (.invokestatic 83, 3) := by decide +kernel
theorem dX7_feed_25 : decode cX7_feed 25 = .ok (.iadd, 1) := by decide +kernel
theorem dX7_feed_26 : decode cX7_feed 26 = .ok (.istore 6, 2) := by decide +kernel
theorem dX7_feed_28 : decode cX7_feed 28 = .ok (.aload_n 0, 1) := by decide +kernel
theorem dX7_feed_29 : decode cX7_feed 29 = .ok (.getfield 17, 3) := by decide +kernel
theorem dX7_feed_32 : decode cX7_feed 32 = .ok (.iload 6, 2) := by decide +kernel
theorem dX7_feed_34 : decode cX7_feed 34 = .ok (.iadd, 1) := by decide +kernel
theorem dX7_feed_35 : decode cX7_feed 35 = .ok (.sipush 300, 3) := by decide +kernel
theorem dX7_feed_38 : decode cX7_feed 38 = .ok (.if_icmp .le 5, 3) := by decide +kernel
theorem dX7_feed_41 : decode cX7_feed 41 = .ok (.iconst (-1), 1) := by decide +kernel
theorem dX7_feed_42 : decode cX7_feed 42 = .ok (.ireturn, 1) := by decide +kernel
theorem dX7_feed_43 : decode cX7_feed 43 = .ok (.aload_n 0, 1) := by decide +kernel
theorem dX7_feed_44 : decode cX7_feed 44 = .ok (.iload_n 1, 1) := by decide +kernel
theorem dX7_feed_45 : decode cX7_feed 45 = .ok (.invokevirtual 87, 3) := by decide +kernel
theorem dX7_feed_48 : decode cX7_feed 48 = .ok (.aload_n 0, 1) := by decide +kernel
theorem dX7_feed_49 : decode cX7_feed 49 = .ok (.iload_n 2, 1) := by decide +kernel
theorem dX7_feed_50 : decode cX7_feed 50 = .ok (.invokevirtual 87, 3) := by decide +kernel
theorem dX7_feed_53 : decode cX7_feed 53 = .ok (.aload_n 0, 1) := by decide +kernel
theorem dX7_feed_54 : decode cX7_feed 54 = .ok (.iload_n 3, 1) := by decide +kernel
theorem dX7_feed_55 : decode cX7_feed 55 = .ok (.invokevirtual 87, 3) := by decide +kernel
theorem dX7_feed_58 : decode cX7_feed 58 = .ok (.aload_n 0, 1) := by decide +kernel
theorem dX7_feed_59 : decode cX7_feed 59 = .ok (.iload 4, 2) := by decide +kernel
theorem dX7_feed_61 : decode cX7_feed 61 = .ok (.invokevirtual 87, 3) := by decide +kernel
theorem dX7_feed_64 : decode cX7_feed 64 = .ok (.aload_n 0, 1) := by decide +kernel
theorem dX7_feed_65 : decode cX7_feed 65 = .ok (.iload 5, 2) := by decide +kernel
theorem dX7_feed_67 : decode cX7_feed 67 = .ok (.invokevirtual 87, 3) := by decide +kernel
theorem dX7_feed_70 : decode cX7_feed 70 = .ok (.aload_n 0, 1) := by decide +kernel
theorem dX7_feed_71 : decode cX7_feed 71 = .ok (.getfield 17, 3) := by decide +kernel
theorem dX7_feed_74 : decode cX7_feed 74 = .ok (.ireturn, 1) := by decide +kernel
theorem dX7_end_0 : decode cX7_end 0 = .ok (.iload_n 1, 1) := by decide +kernel
theorem dX7_end_1 : decode cX7_end 1 = .ok (.iconst 0, 1) := by decide +kernel
theorem dX7_end_2 : decode cX7_end 2 = .ok (.aload_n 0, 1) := by decide +kernel
theorem dX7_end_3 : decode cX7_end 3 = .ok (.getfield 17, 3) := by decide +kernel
theorem dX7_end_6 : decode cX7_end 6 = .ok (.invokestatic 79, 3) := by decide +kernel
theorem dX7_end_9 : decode cX7_end 9 = .ok (.ifCond .ne 5, 3) := by decide +kernel
theorem dX7_end_12 : decode cX7_end 12 = .ok (.iconst 0, 1) := by decide +kernel
theorem dX7_end_13 : decode cX7_end 13 = .ok (.ireturn, 1) := by decide +kernel
theorem dX7_end_14 : decode cX7_end 14 = .ok (.aload_n 0, 1) := by decide +kernel
theorem dX7_end_15 : decode cX7_end 15 = .ok (.iload_n 1, 1) := by decide +kernel
theorem dX7_end_16 : decode cX7_end 16 = .ok (.putfield 17, 3) := by decide +kernel
theorem dX7_end_19 : decode cX7_end 19 = .ok (.iconst 1, 1) := by decide +kernel
theorem dX7_end_20 : decode cX7_end 20 = .ok (.ireturn, 1) := by decide +kernel
theorem dX7_keep_0 : decode cX7_keep 0 = .ok (.iload_n 1, 1) := by decide +kernel
theorem dX7_keep_1 : decode cX7_keep 1 = .ok (.invokestatic 90, 3) := by decide +kernel
theorem dX7_keep_4 : decode cX7_keep 4 = .ok (.ifCond .ne 5, 3) := by decide +kernel
theorem dX7_keep_7 : decode cX7_keep 7 = .ok (.iconst (-1), 1) := by decide +kernel
theorem dX7_keep_8 : decode cX7_keep 8 = .ok (.ireturn, 1) := by decide +kernel
theorem dX7_keep_9 : decode cX7_keep 9 = .ok (.aload_n 0, 1) := by decide +kernel
theorem dX7_keep_10 : decode cX7_keep 10 = .ok (.invokevirtual 94, 3) := by decide +kernel
theorem dX7_keep_13 : decode cX7_keep 13 = .ok (.astore_n 2, 1) := by decide +kernel
theorem dX7_keep_14 : decode cX7_keep 14 = .ok (.aload_n 0, 1) := by decide +kernel
theorem dX7_keep_15 : decode cX7_keep 15 = .ok (.getfield 22, 3) := by decide +kernel
theorem dX7_keep_18 : decode cX7_keep 18 = .ok (.iload_n 1, 1) := by decide +kernel
theorem dX7_keep_19 : decode cX7_keep 19 = .ok (.aload_n 2, 1) := by decide +kernel
theorem dX7_keep_20 : decode cX7_keep 20 = .ok (.aastore, 1) := by decide +kernel
theorem dX7_keep_21 : decode cX7_keep 21 = .ok (.aload_n 0, 1) := by decide +kernel
theorem dX7_keep_22 : decode cX7_keep 22 = .ok (.iload_n 1, 1) := by decide +kernel
theorem dX7_keep_23 : decode cX7_keep 23 = .ok (.invokevirtual 98, 3) := by decide +kernel
theorem dX7_keep_26 : decode cX7_keep 26 = .ok (.aload_n 2, 1) := by decide +kernel
theorem dX7_keep_27 : decode cX7_keep 27 = .ok (.getfield 101, 3) := by decide +kernel
theorem dX7_keep_30 : decode cX7_keep 30 = .ok (.ireturn, 1) := by decide +kernel
theorem dX7_mark_0 : decode cX7_mark 0 = .ok (.iload_n 1, 1) := by decide +kernel
theorem dX7_mark_1 : decode cX7_mark 1 = .ok (.invokestatic 104, 3) := by decide +kernel
theorem dX7_mark_4 : decode cX7_mark 4 = .ok (.ifCond .eq 13, 3) := by decide +kernel
theorem dX7_mark_7 : decode cX7_mark 7 = .ok (.aload_n 0, 1) := by decide +kernel
theorem dX7_mark_8 : decode cX7_mark 8 = .ok (.invokevirtual 107, 3) := by decide +kernel
theorem dX7_mark_11 : decode cX7_mark 11 = .ok (.getfield 101, 3) := by decide +kernel
theorem dX7_mark_14 : decode cX7_mark 14 = .ok (.ifCond .ne 5, 3) := by decide +kernel
theorem dX7_mark_17 : decode cX7_mark 17 = .ok (.iconst 0, 1) := by decide +kernel
theorem dX7_mark_18 : decode cX7_mark 18 = .ok (.ireturn, 1) := by decide +kernel
theorem dX7_mark_19 : decode cX7_mark 19 = .ok (.aload_n 0, 1) := by decide +kernel
theorem dX7_mark_20 : decode cX7_mark 20 = .ok (.iload_n 1, 1) := by decide +kernel
theorem dX7_mark_21 : decode cX7_mark 21 = .ok (.new 26, 3) := by decide +kernel
theorem dX7_mark_24 : decode cX7_mark 24 = .ok (.dup, 1) := by decide +kernel
theorem dX7_mark_25 : decode cX7_mark 25 = .ok (.iconst 1, 1) := by decide +kernel
theorem dX7_mark_26 : decode cX7_mark 26 = .ok (.aload_n 0, 1) := by decide +kernel
theorem dX7_mark_27 : decode cX7_mark 27 = .ok (.invokevirtual 94, 3) := by decide +kernel
theorem dX7_mark_30 : decode cX7_mark 30 = .ok (.iconst 0, 1) := by decide +kernel
theorem dX7_mark_31 : decode cX7_mark 31 = .ok (.iconst 2, 1) := by decide +kernel
theorem dX7_mark_32 : decode cX7_mark 32 = .ok (.iconst 1, 1) := by decide +kernel
theorem dX7_mark_33 : decode cX7_mark 33 = .ok (.iconst 0, 1) := by decide +kernel
theorem dX7_mark_34 : decode cX7_mark 34 = .ok (.invokespecial 76, 3) := by decide +kernel
theorem dX7_mark_37 : decode cX7_mark 37 = .ok (.invokevirtual 110, 3) := by decide +kernel
theorem dX7_mark_40 : decode cX7_mark 40 = .ok (.iconst 1, 1) := by decide +kernel
theorem dX7_mark_41 : decode cX7_mark 41 = .ok (.ireturn, 1) := by decide +kernel
theorem dX7_near_0 : decode cX7_near 0 = .ok (.iload_n 1, 1) := by decide +kernel
theorem dX7_near_1 : decode cX7_near 1 = .ok (.invokestatic 104, 3) := by decide +kernel
theorem dX7_near_4 : decode cX7_near 4 = .ok (.ifCond .eq 17, 3) := by decide +kernel
theorem dX7_near_7 : decode cX7_near 7 = .ok (.iload_n 2, 1) := by decide +kernel
theorem dX7_near_8 : decode cX7_near 8 = .ok (.invokestatic 90, 3) := by decide +kernel
theorem dX7_near_11 : decode cX7_near 11 = .ok (.ifCond .eq 10, 3) := by decide +kernel
theorem dX7_near_14 : decode cX7_near 14 = .ok (.iload_n 3, 1) := by decide +kernel
theorem dX7_near_15 : decode cX7_near 15 = .ok (.invokestatic 114, 3) := by decide +kernel
theorem dX7_near_18 : decode cX7_near 18 = .ok (.ifCond .ne 5, 3) := by decide +kernel
theorem dX7_near_21 : decode cX7_near 21 = .ok (.iconst 0, 1) := by decide +kernel
theorem dX7_near_22 : decode cX7_near 22 = .ok (.ireturn, 1) := by decide +kernel
theorem dX7_near_23 : decode cX7_near 23 = .ok (.aload_n 0, 1) := by decide +kernel
theorem dX7_near_24 : decode cX7_near 24 = .ok (.iload_n 1, 1) := by decide +kernel
theorem dX7_near_25 : decode cX7_near 25 = .ok (.new 26, 3) := by decide +kernel
theorem dX7_near_28 : decode cX7_near 28 = .ok (.dup, 1) := by decide +kernel
theorem dX7_near_29 : decode cX7_near 29 = .ok (.iconst 2, 1) := by decide +kernel
theorem dX7_near_30 : decode cX7_near 30 = .ok (.aconst_null, 1) := by decide +kernel
theorem dX7_near_31 : decode cX7_near 31 = .ok (.iload_n 2, 1) := by decide +kernel
theorem dX7_near_32 : decode cX7_near 32 = .ok (.iload_n 3, 1) := by decide +kernel
theorem dX7_near_33 : decode cX7_near 33 = .ok (.iconst 1, 1) := by decide +kernel
theorem dX7_near_34 : decode cX7_near 34 = .ok (.iconst 0, 1) := by decide +kernel
theorem dX7_near_35 : decode cX7_near 35 = .ok (.invokespecial 76, 3) := by decide +kernel
theorem dX7_near_38 : decode cX7_near 38 = .ok (.invokevirtual 110, 3) := by decide +kernel
theorem dX7_near_41 : decode cX7_near 41 = .ok (.iconst 1, 1) := by decide +kernel
theorem dX7_near_42 : decode cX7_near 42 = .ok (.ireturn, 1) := by decide +kernel
theorem dX7_count_0 : decode cX7_count 0 = .ok (.iload_n 1, 1) := by decide +kernel
theorem dX7_count_1 : decode cX7_count 1 = .ok (.invokestatic 104, 3) := by decide +kernel
theorem dX7_count_4 : decode cX7_count 4 = .ok (.ifCond .eq 13, 3) := by decide +kernel
theorem dX7_count_7 : decode cX7_count 7 = .ok (.iload_n 2, 1) := by decide +kernel
theorem dX7_count_8 : decode cX7_count 8 = .ok (.iconst 1, 1) := by decide +kernel
theorem dX7_count_9 : decode cX7_count 9 = .ok (.bipush 20, 2) := by decide +kernel
theorem dX7_count_11 : decode cX7_count 11 = .ok (.invokestatic 79, 3) := by decide +kernel
theorem dX7_count_14 : decode cX7_count 14 = .ok (.ifCond .ne 5, 3) := by decide +kernel
theorem dX7_count_17 : decode cX7_count 17 = .ok (.iconst 0, 1) := by decide +kernel
theorem dX7_count_18 : decode cX7_count 18 = .ok (.ireturn, 1) := by decide +kernel
theorem dX7_count_19 : decode cX7_count 19 = .ok (.aload_n 0, 1) := by decide +kernel
theorem dX7_count_20 : decode cX7_count 20 = .ok (.iload_n 1, 1) := by decide +kernel
theorem dX7_count_21 : decode cX7_count 21 = .ok (.new 26, 3) := by decide +kernel
theorem dX7_count_24 : decode cX7_count 24 = .ok (.dup, 1) := by decide +kernel
theorem dX7_count_25 : decode cX7_count 25 = .ok (.iconst 3, 1) := by decide +kernel
theorem dX7_count_26 : decode cX7_count 26 = .ok (.aconst_null, 1) := by decide +kernel
theorem dX7_count_27 : decode cX7_count 27 = .ok (.iconst 0, 1) := by decide +kernel
theorem dX7_count_28 : decode cX7_count 28 = .ok (.iconst 2, 1) := by decide +kernel
theorem dX7_count_29 : decode cX7_count 29 = .ok (.iload_n 2, 1) := by decide +kernel
theorem dX7_count_30 : decode cX7_count 30 = .ok (.iconst 0, 1) := by decide +kernel
theorem dX7_count_31 : decode cX7_count 31 = .ok (.invokespecial 76, 3) := by decide +kernel
theorem dX7_count_34 : decode cX7_count 34 = .ok (.invokevirtual 110, 3) := by decide +kernel
theorem dX7_count_37 : decode cX7_count 37 = .ok (.iconst 1, 1) := by decide +kernel
theorem dX7_count_38 : decode cX7_count 38 = .ok (.ireturn, 1) := by decide +kernel
theorem dX7_pieces_0 : decode cX7_pieces 0 = .ok (.iload_n 1, 1) := by decide +kernel
theorem dX7_pieces_1 : decode cX7_pieces 1 = .ok (.invokestatic 104, 3) := by decide +kernel
theorem dX7_pieces_4 : decode cX7_pieces 4 = .ok (.ifCond .eq 17, 3) := by decide +kernel
theorem dX7_pieces_7 : decode cX7_pieces 7 = .ok (.iload_n 2, 1) := by decide +kernel
theorem dX7_pieces_8 : decode cX7_pieces 8 = .ok (.invokestatic 90, 3) := by decide +kernel
theorem dX7_pieces_11 : decode cX7_pieces 11 = .ok (.ifCond .eq 10, 3) := by decide +kernel
theorem dX7_pieces_14 : decode cX7_pieces 14 = .ok (.iload_n 3, 1) := by decide +kernel
theorem dX7_pieces_15 : decode cX7_pieces 15 = .ok (.invokestatic 114, 3) := by decide +kernel
theorem dX7_pieces_18 : decode cX7_pieces 18 = .ok (.ifCond .ne 5, 3) := by decide +kernel
theorem dX7_pieces_21 : decode cX7_pieces 21 = .ok (.iconst 0, 1) := by decide +kernel
theorem dX7_pieces_22 : decode cX7_pieces 22 = .ok (.ireturn, 1) := by decide +kernel
theorem dX7_pieces_23 : decode cX7_pieces 23 = .ok (.iload 4, 2) := by decide +kernel
theorem dX7_pieces_25 : decode cX7_pieces 25 = .ok (.iconst 1, 1) := by decide +kernel
theorem dX7_pieces_26 : decode cX7_pieces 26 = .ok (.bipush 50, 2) := by decide +kernel
theorem dX7_pieces_28 : decode cX7_pieces 28 = .ok (.invokestatic 79, 3) := by decide +kernel
theorem dX7_pieces_31 : decode cX7_pieces 31 = .ok (.ifCond .eq 14, 3) := by decide +kernel
theorem dX7_pieces_34 : decode cX7_pieces 34 = .ok (.iload 5, 2) := by decide +kernel
theorem dX7_pieces_36 : decode cX7_pieces 36 = .ok (.iconst 0, 1) := by decide +kernel
theorem dX7_pieces_37 : decode cX7_pieces 37 = .ok (.bipush 30, 2) := by decide +kernel
theorem dX7_pieces_39 : decode cX7_pieces 39 = .ok (.invokestatic 79, 3) := by decide +kernel
theorem dX7_pieces_42 : decode cX7_pieces 42 = .ok (.ifCond .ne 5, 3) := by decide +kernel
theorem dX7_pieces_45 : decode cX7_pieces 45 = .ok (.iconst 0, 1) := by decide +kernel
theorem dX7_pieces_46 : decode cX7_pieces 46 = .ok (.ireturn, 1) := by decide +kernel
theorem dX7_pieces_47 : decode cX7_pieces 47 = .ok (.aload_n 0, 1) := by decide +kernel
theorem dX7_pieces_48 : decode cX7_pieces 48 = .ok (.iload_n 1, 1) := by decide +kernel
theorem dX7_pieces_49 : decode cX7_pieces 49 = .ok (.new 26, 3) := by decide +kernel
theorem dX7_pieces_52 : decode cX7_pieces 52 = .ok (.dup, 1) := by decide +kernel
theorem dX7_pieces_53 : decode cX7_pieces 53 = .ok (.iconst 4, 1) := by decide +kernel
theorem dX7_pieces_54 : decode cX7_pieces 54 = .ok (.aconst_null, 1) := by decide +kernel
theorem dX7_pieces_55 : decode cX7_pieces 55 = .ok (.iload_n 2, 1) := by decide +kernel
theorem dX7_pieces_56 : decode cX7_pieces 56 = .ok (.iload_n 3, 1) := by decide +kernel
theorem dX7_pieces_57 : decode cX7_pieces 57 = .ok (.iload 4, 2) := by decide +kernel
theorem dX7_pieces_59 : decode cX7_pieces 59 = .ok (.iload 5, 2) := by decide +kernel
theorem dX7_pieces_61 : decode cX7_pieces 61 = .ok (.invokespecial 76, 3) := by decide +kernel
theorem dX7_pieces_64 : decode cX7_pieces 64 = .ok (.invokevirtual 110, 3) := by decide +kernel
theorem dX7_pieces_67 : decode cX7_pieces 67 = .ok (.iconst 1, 1) := by decide +kernel
theorem dX7_pieces_68 : decode cX7_pieces 68 = .ok (.ireturn, 1) := by decide +kernel
theorem dX7_allow_0 : decode cX7_allow 0 = .ok (.iload_n 1, 1) := by decide +kernel
theorem dX7_allow_1 : decode cX7_allow 1 = .ok (.invokestatic 104, 3) := by decide +kernel
theorem dX7_allow_4 : decode cX7_allow 4 = .ok (.ifCond .eq 17, 3) := by decide +kernel
theorem dX7_allow_7 : decode cX7_allow 7 = .ok (.iload_n 2, 1) := by decide +kernel
theorem dX7_allow_8 : decode cX7_allow 8 = .ok (.invokestatic 117, 3) := by decide +kernel
theorem dX7_allow_11 : decode cX7_allow 11 = .ok (.ifCond .eq 10, 3) := by decide +kernel
theorem dX7_allow_14 : decode cX7_allow 14 = .ok (.iload_n 3, 1) := by decide +kernel
theorem dX7_allow_15 : decode cX7_allow 15 = .ok (.invokestatic 117, 3) := by decide +kernel
theorem dX7_allow_18 : decode cX7_allow 18 = .ok (.ifCond .ne 5, 3) := by decide +kernel
theorem dX7_allow_21 : decode cX7_allow 21 = .ok (.iconst 0, 1) := by decide +kernel
theorem dX7_allow_22 : decode cX7_allow 22 = .ok (.ireturn, 1) := by decide +kernel
theorem dX7_allow_23 : decode cX7_allow 23 = .ok (.iload_n 1, 1) := by decide +kernel
theorem dX7_allow_24 : decode cX7_allow 24 = .ok (.iload_n 2, 1) := by decide +kernel
theorem dX7_allow_25 : decode cX7_allow 25 = .ok (.iload_n 3, 1) := by decide +kernel
theorem dX7_allow_26 : decode cX7_allow 26 = .ok (.invokestatic 120, 3) := by decide +kernel
theorem dX7_allow_29 : decode cX7_allow 29 = .ok (.istore 5, 2) := by decide +kernel
theorem dX7_allow_31 : decode cX7_allow 31 = .ok (.aload_n 0, 1) := by decide +kernel
theorem dX7_allow_32 : decode cX7_allow 32 = .ok (.getfield 32, 3) := by decide +kernel
theorem dX7_allow_35 : decode cX7_allow 35 = .ok (.iload 5, 2) := by decide +kernel
theorem dX7_allow_37 : decode cX7_allow 37 = .ok (.baload, 1) := by decide +kernel
theorem dX7_allow_38 : decode cX7_allow 38 = .ok (.iload 4, 2) := by decide +kernel
theorem dX7_allow_40 : decode cX7_allow 40 = .ok (.if_icmp .ne 5, 3) := by decide +kernel
theorem dX7_allow_43 : decode cX7_allow 43 = .ok (.iconst 0, 1) := by decide +kernel
theorem dX7_allow_44 : decode cX7_allow 44 = .ok (.ireturn, 1) := by decide +kernel
theorem dX7_allow_45 : decode cX7_allow 45 = .ok (.aload_n 0, 1) := by decide +kernel
theorem dX7_allow_46 : decode cX7_allow 46 = .ok (.getfield 32, 3) := by decide +kernel
theorem dX7_allow_49 : decode cX7_allow 49 = .ok (.iload 5, 2) := by decide +kernel
theorem dX7_allow_51 : decode cX7_allow 51 = .ok (.iload 4, 2) := by decide +kernel
theorem dX7_allow_53 : decode cX7_allow 53 = .ok (.bastore, 1) := by decide +kernel
theorem dX7_allow_54 : decode cX7_allow 54 = .ok (.iconst 1, 1) := by decide +kernel
theorem dX7_allow_55 : decode cX7_allow 55 = .ok (.ireturn, 1) := by decide +kernel
theorem dX7_rule_0 : decode cX7_rule 0 = .ok (.aload_n 0, 1) := by decide +kernel
theorem dX7_rule_1 : decode cX7_rule 1 = .ok (.getfield 39, 3) := by decide +kernel
theorem dX7_rule_4 : decode cX7_rule 4 = .ok (.getfield 124, 3) := by decide +kernel
theorem dX7_rule_7 : decode cX7_rule 7 = .ok (.bipush 20, 2) := by decide +kernel
theorem dX7_rule_9 : decode cX7_rule 9 = .ok (.if_icmp .ge 17, 3) := by decide +kernel
theorem dX7_rule_12 : decode cX7_rule 12 = .ok (.aload_n 0, 1) := by decide +kernel
theorem dX7_rule_13 : decode cX7_rule 13 = .ok (.iload_n 1, 1) := by decide +kernel
theorem dX7_rule_14 : decode cX7_rule 14 = .ok (.iload_n 2, 1) := by decide +kernel
theorem dX7_rule_15 : decode cX7_rule 15 = .ok (.iload_n 3, 1) := by decide +kernel
theorem dX7_rule_16 : decode cX7_rule 16 = .ok (.iload 4, 2) := by decide +kernel
theorem dX7_rule_18 : decode cX7_rule 18 = .ok (.iload 5, 2) := by decide +kernel
theorem dX7_rule_20 : decode cX7_rule 20 = .ok (.invokevirtual 127, 3) := by decide +kernel
theorem dX7_rule_23 : decode cX7_rule 23 = .ok (.ifCond .ne 5, 3) := by decide +kernel
theorem dX7_rule_26 : decode cX7_rule 26 = .ok (.iconst (-1), 1) := by decide +kernel
theorem dX7_rule_27 : decode cX7_rule 27 = .ok (.ireturn, 1) := by decide +kernel
theorem dX7_rule_28 : decode cX7_rule 28 = .ok (.aload_n 0, 1) := by decide +kernel
theorem dX7_rule_29 : decode cX7_rule 29 = .ok (.getfield 39, 3) := by decide +kernel
theorem dX7_rule_32 : decode cX7_rule 32 = .ok (.iload_n 1, 1) := by decide +kernel
theorem dX7_rule_33 : decode cX7_rule 33 = .ok (.new 131, 3) := by decide +kernel
theorem dX7_rule_36 : decode cX7_rule 36 = .ok (.dup, 1) := by decide +kernel
theorem dX7_rule_37 : decode cX7_rule 37 = .ok (.iload_n 2, 1) := by decide +kernel
theorem dX7_rule_38 : decode cX7_rule 38 = .ok (.iload_n 3, 1) := by decide +kernel
theorem dX7_rule_39 : decode cX7_rule 39 = .ok (.iload 4, 2) := by decide +kernel
theorem dX7_rule_41 : decode cX7_rule 41 = .ok (.iload 5, 2) := by decide +kernel
theorem dX7_rule_43 : decode cX7_rule 43 = .ok (.invokespecial 133, 3) := by decide +kernel
theorem dX7_rule_46 : decode cX7_rule 46 = .ok (.invokevirtual 136, 3) := by decide +kernel
theorem dX7_rule_49 : decode cX7_rule 49 = .ok (.aload_n 0, 1) := by decide +kernel
theorem dX7_rule_50 : decode cX7_rule 50 = .ok (.getfield 39, 3) := by decide +kernel
theorem dX7_rule_53 : decode cX7_rule 53 = .ok (.getfield 124, 3) := by decide +kernel
theorem dX7_rule_56 : decode cX7_rule 56 = .ok (.ireturn, 1) := by decide +kernel
theorem dX7_drop_0 : decode cX7_drop 0 = .ok (.iload_n 1, 1) := by decide +kernel
theorem dX7_drop_1 : decode cX7_drop 1 = .ok (.iconst 0, 1) := by decide +kernel
theorem dX7_drop_2 : decode cX7_drop 2 = .ok (.aload_n 0, 1) := by decide +kernel
theorem dX7_drop_3 : decode cX7_drop 3 = .ok (.getfield 39, 3) := by decide +kernel
theorem dX7_drop_6 : decode cX7_drop 6 = .ok (.getfield 124, 3) := by decide +kernel
theorem dX7_drop_9 : decode cX7_drop 9 = .ok (.iconst 1, 1) := by decide +kernel
theorem dX7_drop_10 : decode cX7_drop 10 = .ok (.isub, 1) := by decide +kernel
theorem dX7_drop_11 : decode cX7_drop 11 = .ok (.invokestatic 79, 3) := by decide +kernel
theorem dX7_drop_14 : decode cX7_drop 14 = .ok (.ifCond .ne 5, 3) := by decide +kernel
theorem dX7_drop_17 : decode cX7_drop 17 = .ok (.iconst 0, 1) := by decide +kernel
theorem dX7_drop_18 : decode cX7_drop 18 = .ok (.ireturn, 1) := by decide +kernel
theorem dX7_drop_19 : decode cX7_drop 19 = .ok (.aload_n 0, 1) := by decide +kernel
theorem dX7_drop_20 : decode cX7_drop 20 = .ok (.getfield 39, 3) := by decide +kernel
theorem dX7_drop_23 : decode cX7_drop 23 = .ok (.iload_n 1, 1) := by decide +kernel
theorem dX7_drop_24 : decode cX7_drop 24 = .ok (.invokevirtual 140, 3) := by decide +kernel
