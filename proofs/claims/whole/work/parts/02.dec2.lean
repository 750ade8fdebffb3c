theorem dX7_drop_27 : decode cX7_drop 27 = .ok (.iconst 1, 1) := by decide +kernel
theorem dX7_drop_28 : decode cX7_drop 28 = .ok (.ireturn, 1) := by decide +kernel
theorem dX7_quarrel_0 : decode cX7_quarrel 0 = .ok (.aload_n 0, 1) := by decide +kernel
theorem dX7_quarrel_1 : decode cX7_quarrel 1 = .ok (.getfield 39, 3) := by decide +kernel
theorem dX7_quarrel_4 : decode cX7_quarrel 4 = .ok (.iload_n 1, 1) := by decide +kernel
theorem dX7_quarrel_5 : decode cX7_quarrel 5 = .ok (.invokevirtual 143, 3) := by decide +kernel
theorem dX7_quarrel_8 : decode cX7_quarrel 8 = .ok (.astore_n 3, 1) := by decide +kernel
theorem dX7_quarrel_9 : decode cX7_quarrel 9 = .ok (.aload_n 0, 1) := by decide +kernel
theorem dX7_quarrel_10 : decode cX7_quarrel 10 = .ok (.getfield 39, 3) := by decide +kernel
theorem dX7_quarrel_13 : decode cX7_quarrel 13 = .ok (.iload_n 2, 1) := by decide +kernel
theorem dX7_quarrel_14 : decode cX7_quarrel 14 = .ok (.invokevirtual 143, 3) := by decide +kernel
theorem dX7_quarrel_17 : decode cX7_quarrel 17 = .ok (.astore 4, 2) := by decide +kernel
theorem dX7_quarrel_19 : decode cX7_quarrel 19 = .ok (.aload_n 3, 1) := by decide +kernel
theorem dX7_quarrel_20 : decode cX7_quarrel 20 = .ok (.ifnull 32, 3) := by decide +kernel
theorem dX7_quarrel_23 : decode cX7_quarrel 23 = .ok (.aload 4, 2) := by decide +kernel
theorem dX7_quarrel_25 : decode cX7_quarrel 25 = .ok (.ifnull 27, 3) := by decide +kernel
theorem dX7_quarrel_28 : decode cX7_quarrel 28 = .ok (.aload_n 3, 1) := by decide +kernel
theorem dX7_quarrel_29 : decode cX7_quarrel 29 = .ok (.getfield 147, 3) := by decide +kernel
theorem dX7_quarrel_32 : decode cX7_quarrel 32 = .ok (.aload 4, 2) := by decide +kernel
theorem dX7_quarrel_34 : decode cX7_quarrel 34 = .ok (.getfield 147, 3) := by decide +kernel
theorem dX7_quarrel_37 : decode cX7_quarrel 37 = .ok (.if_icmp .eq 15, 3) := by decide +kernel
theorem dX7_quarrel_40 : decode cX7_quarrel 40 = .ok (.aload_n 3, 1) := by decide +kernel
theorem dX7_quarrel_41 : decode cX7_quarrel 41 = .ok (.getfield 150, 3) := by decide +kernel
theorem dX7_quarrel_44 : decode cX7_quarrel 44 = .ok (.aload 4, 2) := by decide +kernel
theorem dX7_quarrel_46 : decode cX7_quarrel 46 = .ok (.getfield 150, 3) := by decide +kernel
theorem dX7_quarrel_49 : decode cX7_quarrel 49 = .ok (.if_icmp .eq 5, 3) := by decide +kernel
theorem dX7_quarrel_52 : decode cX7_quarrel 52 = .ok (.iconst (-1), 1) := by decide +kernel
theorem dX7_quarrel_53 : decode cX7_quarrel 53 = .ok (.ireturn, 1) := by decide +kernel
theorem dX7_quarrel_54 : decode cX7_quarrel 54 = .ok (.aload_n 3, 1) := by decide +kernel
theorem dX7_quarrel_55 : decode cX7_quarrel 55 = .ok (.getfield 153, 3) := by decide +kernel
theorem dX7_quarrel_58 : decode cX7_quarrel 58 = .ok (.aload 4, 2) := by decide +kernel
theorem dX7_quarrel_60 : decode cX7_quarrel 60 = .ok (.getfield 153, 3) := by decide +kernel
theorem dX7_quarrel_63 : decode cX7_quarrel 63 = .ok (.invokestatic 156, 3) := by decide +kernel
theorem dX7_quarrel_66 : decode cX7_quarrel 66 = .ok (.istore 5, 2) := by decide +kernel
theorem dX7_quarrel_68 : decode cX7_quarrel 68 = .ok (.aload_n 3, 1) := by decide +kernel
theorem dX7_quarrel_69 : decode cX7_quarrel 69 = .ok (.getfield 160, 3) := by decide +kernel
theorem dX7_quarrel_72 : decode cX7_quarrel 72 = .ok (.aload 4, 2) := by decide +kernel
theorem dX7_quarrel_74 : decode cX7_quarrel 74 = .ok (.getfield 160, 3) := by decide +kernel
theorem dX7_quarrel_77 : decode cX7_quarrel 77 = .ok (.invokestatic 156, 3) := by decide +kernel
theorem dX7_quarrel_80 : decode cX7_quarrel 80 = .ok (.istore 6, 2) := by decide +kernel
theorem dX7_quarrel_82 : decode cX7_quarrel 82 = .ok (.iload 5, 2) := by decide +kernel
theorem dX7_quarrel_84 : decode cX7_quarrel 84 = .ok (.iconst (-1), 1) := by decide +kernel
theorem dX7_quarrel_85 : decode cX7_quarrel 85 = .ok (.if_icmp .eq 9, 3) := by decide +kernel
theorem dX7_quarrel_88 : decode cX7_quarrel 88 = .ok (.iload 6, 2) := by decide +kernel
theorem dX7_quarrel_90 : decode cX7_quarrel 90 = .ok (.iconst (-1), 1) := by decide +kernel
theorem dX7_quarrel_91 : decode cX7_quarrel 91 = .ok (.if_icmp .ne 5, 3) := by decide +kernel
theorem dX7_quarrel_94 : decode cX7_quarrel 94 = .ok (.iconst (-1), 1) := by decide +kernel
theorem dX7_quarrel_95 : decode cX7_quarrel 95 = .ok (.ireturn, 1) := by decide +kernel
theorem dX7_quarrel_96 : decode cX7_quarrel 96 = .ok (.bipush 10, 2) := by decide +kernel
theorem dX7_quarrel_98 : decode cX7_quarrel 98 = .ok (.iload 5, 2) := by decide +kernel
theorem dX7_quarrel_100 : decode cX7_quarrel 100 = .ok (.imul, 1) := by decide +kernel
theorem dX7_quarrel_101 : decode cX7_quarrel 101 = .ok (.iload 6, 2) := by decide +kernel
theorem dX7_quarrel_103 : decode cX7_quarrel 103 = .ok (.iadd, 1) := by decide +kernel
theorem dX7_quarrel_104 : decode cX7_quarrel 104 = .ok (.ireturn, 1) := by decide +kernel
theorem dX7_send_0 : decode cX7_send 0 = .ok (.iload_n 1, 1) := by decide +kernel
theorem dX7_send_1 : decode cX7_send 1 = .ok (.invokestatic 117, 3) := by decide +kernel
theorem dX7_send_4 : decode cX7_send 4 = .ok (.ifCond .eq 19, 3) := by decide +kernel
theorem dX7_send_7 : decode cX7_send 7 = .ok (.iload_n 2, 1) := by decide +kernel
theorem dX7_send_8 : decode cX7_send 8 = .ok (.invokestatic 117, 3) := by decide +kernel
theorem dX7_send_11 : decode cX7_send 11 = .ok (.ifCond .eq 12, 3) := by decide +kernel
theorem dX7_send_14 : decode cX7_send 14 = .ok (.iload_n 3, 1) := by decide +kernel
theorem dX7_send_15 : decode cX7_send 15 = .ok (.iconst 0, 1) := by decide +kernel
theorem dX7_send_16 : decode cX7_send 16 = .ok (.iconst 2, 1) := by decide +kernel
theorem dX7_send_17 : decode cX7_send 17 = .ok (.invokestatic 79, 3) := by decide +kernel
theorem dX7_send_20 : decode cX7_send 20 = .ok (.ifCond .ne 5, 3) := by decide +kernel
theorem dX7_send_23 : decode cX7_send 23 = .ok (.iconst (-1), 1) := by decide +kernel
theorem dX7_send_24 : decode cX7_send 24 = .ok (.ireturn, 1) := by decide +kernel
theorem dX7_send_25 : decode cX7_send 25 = .ok (.aload_n 0, 1) := by decide +kernel
theorem dX7_send_26 : decode cX7_send 26 = .ok (.getfield 49, 3) := by decide +kernel
theorem dX7_send_29 : decode cX7_send 29 = .ok (.bipush 60, 2) := by decide +kernel
theorem dX7_send_31 : decode cX7_send 31 = .ok (.if_icmp .lt 5, 3) := by decide +kernel
theorem dX7_send_34 : decode cX7_send 34 = .ok (.iconst (-1), 1) := by decide +kernel
theorem dX7_send_35 : decode cX7_send 35 = .ok (.ireturn, 1) := by decide +kernel
theorem dX7_send_36 : decode cX7_send 36 = .ok (.aload_n 0, 1) := by decide +kernel
theorem dX7_send_37 : decode cX7_send 37 = .ok (.getfield 49, 3) := by decide +kernel
theorem dX7_send_40 : decode cX7_send 40 = .ok (.istore 4, 2) := by decide +kernel
theorem dX7_send_42 : decode cX7_send 42 = .ok (.aload_n 0, 1) := by decide +kernel
theorem dX7_send_43 : decode cX7_send 43 = .ok (.invokevirtual 163, 3) := by decide +kernel
theorem dX7_send_46 : decode cX7_send 46 = .ok (.astore 5, 2) := by decide +kernel
theorem dX7_send_48 : decode cX7_send 48 = .ok (.new 43, 3) := by decide +kernel
theorem dX7_send_51 : decode cX7_send 51 = .ok (.dup, 1) := by decide +kernel
theorem dX7_send_52 : decode cX7_send 52 = .ok (.iload_n 1, 1) := by decide +kernel
theorem dX7_send_53 : decode cX7_send 53 = .ok (.iload_n 2, 1) := by decide +kernel
theorem dX7_send_54 : decode cX7_send 54 = .ok (.iload_n 3, 1) := by decide +kernel
theorem dX7_send_55 : decode cX7_send 55 = .ok (.aload_n 0, 1) := by decide +kernel
theorem dX7_send_56 : decode cX7_send 56 = .ok (.getfield 7, 3) := by decide +kernel
theorem dX7_send_59 : decode cX7_send 59 = .ok (.aload 5, 2) := by decide +kernel
theorem dX7_send_61 : decode cX7_send 61 = .ok (.aload_n 0, 1) := by decide +kernel
theorem dX7_send_62 : decode cX7_send 62 = .ok (.invokevirtual 94, 3) := by decide +kernel
theorem dX7_send_65 : decode cX7_send 65 = .ok (.invokespecial 167, 3) := by decide +kernel
theorem dX7_send_68 : decode cX7_send 68 = .ok (.astore 6, 2) := by decide +kernel
theorem dX7_send_70 : decode cX7_send 70 = .ok (.aload_n 0, 1) := by decide +kernel
theorem dX7_send_71 : decode cX7_send 71 = .ok (.getfield 45, 3) := by decide +kernel
theorem dX7_send_74 : decode cX7_send 74 = .ok (.iload 4, 2) := by decide +kernel
theorem dX7_send_76 : decode cX7_send 76 = .ok (.aload 6, 2) := by decide +kernel
theorem dX7_send_78 : decode cX7_send 78 = .ok (.aastore, 1) := by decide +kernel
theorem dX7_send_79 : decode cX7_send 79 = .ok (.aload_n 0, 1) := by decide +kernel
theorem dX7_send_80 : decode cX7_send 80 = .ok (.dup, 1) := by decide +kernel
theorem dX7_send_81 : decode cX7_send 81 = .ok (.getfield 49, 3) := by decide +kernel
theorem dX7_send_84 : decode cX7_send 84 = .ok (.iconst 1, 1) := by decide +kernel
theorem dX7_send_85 : decode cX7_send 85 = .ok (.iadd, 1) := by decide +kernel
theorem dX7_send_86 : decode cX7_send 86 = .ok (.putfield 49, 3) := by decide +kernel
theorem dX7_send_89 : decode cX7_send 89 = .ok (.aload_n 0, 1) := by decide +kernel
theorem dX7_send_90 : decode cX7_send 90 = .ok (.invokevirtual 170, 3) := by decide +kernel
theorem dX7_send_93 : decode cX7_send 93 = .ok (.aload_n 0, 1) := by decide +kernel
theorem dX7_send_94 : decode cX7_send 94 = .ok (.aload 6, 2) := by decide +kernel
theorem dX7_send_96 : decode cX7_send 96 = .ok (.aload_n 0, 1) := by decide +kernel
theorem dX7_send_97 : decode cX7_send 97 = .ok (.aload_n 0, 1) := by decide +kernel
theorem dX7_send_98 : decode cX7_send 98 = .ok (.getfield 39, 3) := by decide +kernel
theorem dX7_send_101 : decode cX7_send 101 = .ok (.iload 4, 2) := by decide +kernel
theorem dX7_send_103 : decode cX7_send 103 = .ok (.invokevirtual 173, 3) := by decide +kernel
theorem dX7_send_106 : decode cX7_send 106 = .ok (.invokevirtual 177, 3) := by decide +kernel
theorem dX7_send_109 : decode cX7_send 109 = .ok (.iload 4, 2) := by decide +kernel
theorem dX7_send_111 : decode cX7_send 111 = .ok (.ireturn, 1) := by decide +kernel
theorem dX7_answer_0 : decode cX7_answer 0 = .ok (.aload_n 0, 1) := by decide +kernel
theorem dX7_answer_1 : decode cX7_answer 1 = .ok (.iload_n 1, 1) := by decide +kernel
theorem dX7_answer_2 : decode cX7_answer 2 = .ok (.invokevirtual 181, 3) := by decide +kernel
theorem dX7_answer_5 : decode cX7_answer 5 = .ok (.astore_n 3, 1) := by decide +kernel
theorem dX7_answer_6 : decode cX7_answer 6 = .ok (.aload_n 3, 1) := by decide +kernel
theorem dX7_answer_7 : decode cX7_answer 7 = .ok (.ifnull 11, 3) := by decide +kernel
theorem dX7_answer_10 : decode cX7_answer 10 = .ok (.aload_n 3, 1) := by decide +kernel
theorem dX7_answer_11 : decode cX7_answer 11 = .ok (.getfield 185, 3) := by decide +kernel
theorem dX7_answer_14 : decode cX7_answer 14 = .ok (.iconst 1, 1) := by decide +kernel
theorem dX7_answer_15 : decode cX7_answer 15 = .ok (.if_icmp .eq 5, 3) := by decide +kernel
theorem dX7_answer_18 : decode cX7_answer 18 = .ok (.iconst 0, 1) := by decide +kernel
theorem dX7_answer_19 : decode cX7_answer 19 = .ok (.ireturn, 1) := by decide +kernel
theorem dX7_answer_20 : decode cX7_answer 20 = .ok (.aload_n 3, 1) := by decide +kernel
theorem dX7_answer_21 : decode cX7_answer 21 = .ok (.iload_n 2, 1) := by decide +kernel
theorem dX7_answer_22 : decode cX7_answer 22 = .ok (.ifCond .eq 7, 3) := by decide +kernel
theorem dX7_answer_25 : decode cX7_answer 25 = .ok (.iconst 0, 1) := by decide +kernel
theorem dX7_answer_26 : decode cX7_answer 26 = .ok (.goto 4, 3) := by decide +kernel
theorem dX7_answer_29 : decode cX7_answer 29 = .ok (.iconst 2, 1) := by decide +kernel
theorem dX7_answer_30 : decode cX7_answer 30 = .ok (.putfield 185, 3) := by decide +kernel
theorem dX7_answer_33 : decode cX7_answer 33 = .ok (.iconst 1, 1) := by decide +kernel
theorem dX7_answer_34 : decode cX7_answer 34 = .ok (.ireturn, 1) := by decide +kernel
theorem dX7_told_0 : decode cX7_told 0 = .ok (.aload_n 0, 1) := by decide +kernel
theorem dX7_told_1 : decode cX7_told 1 = .ok (.iload_n 1, 1) := by decide +kernel
theorem dX7_told_2 : decode cX7_told 2 = .ok (.invokevirtual 181, 3) := by decide +kernel
theorem dX7_told_5 : decode cX7_told 5 = .ok (.astore_n 3, 1) := by decide +kernel
theorem dX7_told_6 : decode cX7_told 6 = .ok (.aload_n 3, 1) := by decide +kernel
theorem dX7_told_7 : decode cX7_told 7 = .ok (.ifnonnull 5, 3) := by decide +kernel
theorem dX7_told_10 : decode cX7_told 10 = .ok (.iconst (-1), 1) := by decide +kernel
theorem dX7_told_11 : decode cX7_told 11 = .ok (.ireturn, 1) := by decide +kernel
theorem dX7_told_12 : decode cX7_told 12 = .ok (.iload_n 2, 1) := by decide +kernel
theorem dX7_told_13 : decode cX7_told 13 = .ok (.tableswitch 111 0 8 #[51, 56, 61, 66, 71, 76, 81, 86, 92], 51) := by decide +kernel
theorem dX7_told_64 : decode cX7_told 64 = .ok (.aload_n 3, 1) := by decide +kernel
theorem dX7_told_65 : decode cX7_told 65 = .ok (.getfield 188, 3) := by decide +kernel
theorem dX7_told_68 : decode cX7_told 68 = .ok (.ireturn, 1) := by decide +kernel
theorem dX7_told_69 : decode cX7_told 69 = .ok (.aload_n 3, 1) := by decide +kernel
theorem dX7_told_70 : decode cX7_told 70 = .ok (.getfield 189, 3) := by decide +kernel
theorem dX7_told_73 : decode cX7_told 73 = .ok (.ireturn, 1) := by decide +kernel
theorem dX7_told_74 : decode cX7_told 74 = .ok (.aload_n 3, 1) := by decide +kernel
theorem dX7_told_75 : decode cX7_told 75 = .ok (.getfield 192, 3) := by decide +kernel
theorem dX7_told_78 : decode cX7_told 78 = .ok (.ireturn, 1) := by decide +kernel
theorem dX7_told_79 : decode cX7_told 79 = .ok (.aload_n 3, 1) := by decide +kernel
theorem dX7_told_80 : decode cX7_told 80 = .ok (.getfield 193, 3) := by decide +kernel
theorem dX7_told_83 : decode cX7_told 83 = .ok (.ireturn, 1) := by decide +kernel
theorem dX7_told_84 : decode cX7_told 84 = .ok (.aload_n 3, 1) := by decide +kernel
theorem dX7_told_85 : decode cX7_told 85 = .ok (.getfield 194, 3) := by decide +kernel
theorem dX7_told_88 : decode cX7_told 88 = .ok (.ireturn, 1) := by decide +kernel
theorem dX7_told_89 : decode cX7_told 89 = .ok (.aload_n 3, 1) := by decide +kernel
theorem dX7_told_90 : decode cX7_told 90 = .ok (.getfield 195, 3) := by decide +kernel
theorem dX7_told_93 : decode cX7_told 93 = .ok (.ireturn, 1) := by decide +kernel
theorem dX7_told_94 : decode cX7_told 94 = .ok (.aload_n 3, 1) := by decide +kernel
theorem dX7_told_95 : decode cX7_told 95 = .ok (.getfield 185, 3) := by decide +kernel
theorem dX7_told_98 : decode cX7_told 98 = .ok (.ireturn, 1) := by decide +kernel
theorem dX7_told_99 : decode cX7_told 99 = .ok (.aload_n 3, 1) := by decide +kernel
theorem dX7_told_100 : decode cX7_told 100 = .ok (.getfield 196, 3) := by decide +kernel
theorem dX7_told_103 : decode cX7_told 103 = .ok (.arraylength, 1) := by decide +kernel
theorem dX7_told_104 : decode cX7_told 104 = .ok (.ireturn, 1) := by decide +kernel
theorem dX7_told_105 : decode cX7_told 105 = .ok (.aload_n 3, 1) := by decide +kernel
theorem dX7_told_106 : decode cX7_told 106 = .ok (.getfield 199, 3) := by decide +kernel
theorem dX7_told_109 : decode cX7_told 109 = .ok (.ifnonnull 7, 3) := by decide +kernel
theorem dX7_told_112 : decode cX7_told 112 = .ok (.iconst 0, 1) := by decide +kernel
theorem dX7_told_113 : decode cX7_told 113 = .ok (.goto 10, 3) := by decide +kernel
theorem dX7_told_116 : decode cX7_told 116 = .ok (.aload_n 3, 1) := by decide +kernel
theorem dX7_told_117 : decode cX7_told 117 = .ok (.getfield 199, 3) := by decide +kernel
theorem dX7_told_120 : decode cX7_told 120 = .ok (.getfield 202, 3) := by decide +kernel
theorem dX7_told_123 : decode cX7_told 123 = .ok (.ireturn, 1) := by decide +kernel
theorem dX7_told_124 : decode cX7_told 124 = .ok (.iconst (-1), 1) := by decide +kernel
theorem dX7_told_125 : decode cX7_told 125 = .ok (.ireturn, 1) := by decide +kernel
theorem dX7_at_0 : decode cX7_at 0 = .ok (.aload_n 0, 1) := by decide +kernel
theorem dX7_at_1 : decode cX7_at 1 = .ok (.iload_n 1, 1) := by decide +kernel
theorem dX7_at_2 : decode cX7_at 2 = .ok (.invokevirtual 181, 3) := by decide +kernel
theorem dX7_at_5 : decode cX7_at 5 = .ok (.astore 4, 2) := by decide +kernel
theorem dX7_at_7 : decode cX7_at 7 = .ok (.aload 4, 2) := by decide +kernel
theorem dX7_at_9 : decode cX7_at 9 = .ok (.ifnonnull 5, 3) := by decide +kernel
theorem dX7_at_12 : decode cX7_at 12 = .ok (.iconst (-1), 1) := by decide +kernel
theorem dX7_at_13 : decode cX7_at 13 = .ok (.ireturn, 1) := by decide +kernel
theorem dX7_at_14 : decode cX7_at 14 = .ok (.iload_n 3, 1) := by decide +kernel
theorem dX7_at_15 : decode cX7_at 15 = .ok (.ifCond .eq 11, 3) := by decide +kernel
theorem dX7_at_18 : decode cX7_at 18 = .ok (.aload 4, 2) := by decide +kernel
theorem dX7_at_20 : decode cX7_at 20 = .ok (.getfield 205, 3) := by decide +kernel
theorem dX7_at_23 : decode cX7_at 23 = .ok (.goto 8, 3) := by decide +kernel
theorem dX7_at_26 : decode cX7_at 26 = .ok (.aload 4, 2) := by decide +kernel
theorem dX7_at_28 : decode cX7_at 28 = .ok (.getfield 196, 3) := by decide +kernel
theorem dX7_at_31 : decode cX7_at 31 = .ok (.astore 5, 2) := by decide +kernel
theorem dX7_at_33 : decode cX7_at 33 = .ok (.iload_n 2, 1) := by decide +kernel
theorem dX7_at_34 : decode cX7_at 34 = .ok (.iconst 0, 1) := by decide +kernel
theorem dX7_at_35 : decode cX7_at 35 = .ok (.aload 5, 2) := by decide +kernel
theorem dX7_at_37 : decode cX7_at 37 = .ok (.arraylength, 1) := by decide +kernel
theorem dX7_at_38 : decode cX7_at 38 = .ok (.iconst 1, 1) := by decide +kernel
theorem dX7_at_39 : decode cX7_at 39 = .ok (.isub, 1) := by decide +kernel
theorem dX7_at_40 : decode cX7_at 40 = .ok (.invokestatic 79, 3) := by decide +kernel
theorem dX7_at_43 : decode cX7_at 43 = .ok (.ifCond .eq 10, 3) := by decide +kernel
theorem dX7_at_46 : decode cX7_at 46 = .ok (.aload 5, 2) := by decide +kernel
theorem dX7_at_48 : decode cX7_at 48 = .ok (.iload_n 2, 1) := by decide +kernel
theorem dX7_at_49 : decode cX7_at 49 = .ok (.iaload, 1) := by decide +kernel
theorem dX7_at_50 : decode cX7_at 50 = .ok (.goto 4, 3) := by decide +kernel
theorem dX7_at_53 : decode cX7_at 53 = .ok (.iconst (-1), 1) := by decide +kernel
theorem dX7_at_54 : decode cX7_at 54 = .ok (.ireturn, 1) := by decide +kernel
theorem dX7_found_0 : decode cX7_found 0 = .ok (.aload_n 0, 1) := by decide +kernel
theorem dX7_found_1 : decode cX7_found 1 = .ok (.iload_n 1, 1) := by decide +kernel
theorem dX7_found_2 : decode cX7_found 2 = .ok (.invokevirtual 181, 3) := by decide +kernel
theorem dX7_found_5 : decode cX7_found 5 = .ok (.astore 4, 2) := by decide +kernel
theorem dX7_found_7 : decode cX7_found 7 = .ok (.aload 4, 2) := by decide +kernel
theorem dX7_found_9 : decode cX7_found 9 = .ok (.ifnull 11, 3) := by decide +kernel
theorem dX7_found_12 : decode cX7_found 12 = .ok (.aload 4, 2) := by decide +kernel
theorem dX7_found_14 : decode cX7_found 14 = .ok (.getfield 199, 3) := by decide +kernel
theorem dX7_found_17 : decode cX7_found 17 = .ok (.ifnonnull 5, 3) := by decide +kernel
theorem dX7_found_20 : decode cX7_found 20 = .ok (.iconst (-1), 1) := by decide +kernel
theorem dX7_found_21 : decode cX7_found 21 = .ok (.ireturn, 1) := by decide +kernel
theorem dX7_found_22 : decode cX7_found 22 = .ok (.iload_n 3, 1) := by decide +kernel
theorem dX7_found_23 : decode cX7_found 23 = .ok (.tableswitch 55 0 2 #[25, 35, 45], 25) := by decide +kernel
theorem dX7_found_48 : decode cX7_found 48 = .ok (.aload 4, 2) := by decide +kernel
theorem dX7_found_50 : decode cX7_found 50 = .ok (.getfield 199, 3) := by decide +kernel
theorem dX7_found_53 : decode cX7_found 53 = .ok (.iload_n 2, 1) := by decide +kernel
theorem dX7_found_54 : decode cX7_found 54 = .ok (.invokevirtual 208, 3) := by decide +kernel
theorem dX7_found_57 : decode cX7_found 57 = .ok (.ireturn, 1) := by decide +kernel
theorem dX7_found_58 : decode cX7_found 58 = .ok (.aload 4, 2) := by decide +kernel
theorem dX7_found_60 : decode cX7_found 60 = .ok (.getfield 199, 3) := by decide +kernel
theorem dX7_found_63 : decode cX7_found 63 = .ok (.iload_n 2, 1) := by decide +kernel
theorem dX7_found_64 : decode cX7_found 64 = .ok (.invokevirtual 211, 3) := by decide +kernel
theorem dX7_found_67 : decode cX7_found 67 = .ok (.ireturn, 1) := by decide +kernel
theorem dX7_found_68 : decode cX7_found 68 = .ok (.aload 4, 2) := by decide +kernel
theorem dX7_found_70 : decode cX7_found 70 = .ok (.getfield 199, 3) := by decide +kernel
theorem dX7_found_73 : decode cX7_found 73 = .ok (.iload_n 2, 1) := by decide +kernel
theorem dX7_found_74 : decode cX7_found 74 = .ok (.invokevirtual 214, 3) := by decide +kernel
theorem dX7_found_77 : decode cX7_found 77 = .ok (.ireturn, 1) := by decide +kernel
theorem dX7_found_78 : decode cX7_found 78 = .ok (.iconst (-1), 1) := by decide +kernel
theorem dX7_found_79 : decode cX7_found 79 = .ok (.ireturn, 1) := by decide +kernel
theorem dX7_words_0 : decode cX7_words 0 = .ok (.aload_n 0, 1) := by decide +kernel
theorem dX7_words_1 : decode cX7_words 1 = .ok (.invokevirtual 107, 3) := by decide +kernel
theorem dX7_words_4 : decode cX7_words 4 = .ok (.getfield 101, 3) := by decide +kernel
theorem dX7_words_7 : decode cX7_words 7 = .ok (.ireturn, 1) := by decide +kernel
theorem dX7_numbers_0 : decode cX7_numbers 0 = .ok (.aload_n 0, 1) := by decide +kernel
theorem dX7_numbers_1 : decode cX7_numbers 1 = .ok (.getfield 62, 3) := by decide +kernel
theorem dX7_numbers_4 : decode cX7_numbers 4 = .ok (.invokevirtual 217, 3) := by decide +kernel
theorem dX7_numbers_7 : decode cX7_numbers 7 = .ok (.aload_n 0, 1) := by decide +kernel
theorem dX7_numbers_8 : decode cX7_numbers 8 = .ok (.invokevirtual 107, 3) := by decide +kernel
theorem dX7_numbers_11 : decode cX7_numbers 11 = .ok (.aload_n 0, 1) := by decide +kernel
theorem dX7_numbers_12 : decode cX7_numbers 12 = .ok (.getfield 62, 3) := by decide +kernel
theorem dX7_numbers_15 : decode cX7_numbers 15 = .ok (.invokevirtual 220, 3) := by decide +kernel
theorem dX7_numbers_18 : decode cX7_numbers 18 = .ok (.aload_n 0, 1) := by decide +kernel
theorem dX7_numbers_19 : decode cX7_numbers 19 = .ok (.getfield 62, 3) := by decide +kernel
theorem dX7_numbers_22 : decode cX7_numbers 22 = .ok (.getfield 202, 3) := by decide +kernel
theorem dX7_numbers_25 : decode cX7_numbers 25 = .ok (.ireturn, 1) := by decide +kernel
theorem dX7_parts_0 : decode cX7_parts 0 = .ok (.iload_n 1, 1) := by decide +kernel
theorem dX7_parts_1 : decode cX7_parts 1 = .ok (.invokestatic 90, 3) := by decide +kernel
theorem dX7_parts_4 : decode cX7_parts 4 = .ok (.ifCond .eq 10, 3) := by decide +kernel
theorem dX7_parts_7 : decode cX7_parts 7 = .ok (.iload_n 2, 1) := by decide +kernel
theorem dX7_parts_8 : decode cX7_parts 8 = .ok (.invokestatic 114, 3) := by decide +kernel
theorem dX7_parts_11 : decode cX7_parts 11 = .ok (.ifCond .ne 5, 3) := by decide +kernel
theorem dX7_parts_14 : decode cX7_parts 14 = .ok (.iconst (-1), 1) := by decide +kernel
theorem dX7_parts_15 : decode cX7_parts 15 = .ok (.ireturn, 1) := by decide +kernel
theorem dX7_parts_16 : decode cX7_parts 16 = .ok (.aload_n 0, 1) := by decide +kernel
theorem dX7_parts_17 : decode cX7_parts 17 = .ok (.getfield 62, 3) := by decide +kernel
theorem dX7_parts_20 : decode cX7_parts 20 = .ok (.invokevirtual 217, 3) := by decide +kernel
theorem dX7_parts_23 : decode cX7_parts 23 = .ok (.aload_n 0, 1) := by decide +kernel
theorem dX7_parts_24 : decode cX7_parts 24 = .ok (.invokevirtual 107, 3) := by decide +kernel
theorem dX7_parts_27 : decode cX7_parts 27 = .ok (.aload_n 0, 1) := by decide +kernel
theorem dX7_parts_28 : decode cX7_parts 28 = .ok (.getfield 22, 3) := by decide +kernel
theorem dX7_parts_31 : decode cX7_parts 31 = .ok (.iload_n 1, 1) := by decide +kernel
theorem dX7_parts_32 : decode cX7_parts 32 = .ok (.aaload, 1) := by decide +kernel
theorem dX7_parts_33 : decode cX7_parts 33 = .ok (.iload_n 2, 1) := by decide +kernel
theorem dX7_parts_34 : decode cX7_parts 34 = .ok (.aload_n 0, 1) := by decide +kernel
theorem dX7_parts_35 : decode cX7_parts 35 = .ok (.getfield 62, 3) := by decide +kernel
theorem dX7_parts_38 : decode cX7_parts 38 = .ok (.invokevirtual 224, 3) := by decide +kernel
theorem dX7_parts_41 : decode cX7_parts 41 = .ok (.aload_n 0, 1) := by decide +kernel
theorem dX7_parts_42 : decode cX7_parts 42 = .ok (.getfield 62, 3) := by decide +kernel
theorem dX7_parts_45 : decode cX7_parts 45 = .ok (.getfield 228, 3) := by decide +kernel
theorem dX7_parts_48 : decode cX7_parts 48 = .ok (.invokevirtual 231, 3) := by decide +kernel
theorem dX7_parts_51 : decode cX7_parts 51 = .ok (.ireturn, 1) := by decide +kernel
theorem dX7_trial_0 : decode cX7_trial 0 = .ok (.aload_n 0, 1) := by decide +kernel
theorem dX7_trial_1 : decode cX7_trial 1 = .ok (.iload_n 1, 1) := by decide +kernel
theorem dX7_trial_2 : decode cX7_trial 2 = .ok (.iload_n 2, 1) := by decide +kernel
theorem dX7_trial_3 : decode cX7_trial 3 = .ok (.iload_n 3, 1) := by decide +kernel
theorem dX7_trial_4 : decode cX7_trial 4 = .ok (.iload 4, 2) := by decide +kernel
theorem dX7_trial_6 : decode cX7_trial 6 = .ok (.iload 5, 2) := by decide +kernel
theorem dX7_trial_8 : decode cX7_trial 8 = .ok (.invokevirtual 234, 3) := by decide +kernel
theorem dX7_trial_11 : decode cX7_trial 11 = .ok (.ifCond .ne 5, 3) := by decide +kernel
theorem dX7_trial_14 : decode cX7_trial 14 = .ok (.iconst (-1), 1) := by decide +kernel
theorem dX7_trial_15 : decode cX7_trial 15 = .ok (.ireturn, 1) := by decide +kernel
theorem dX7_trial_16 : decode cX7_trial 16 = .ok (.iconst 0, 1) := by decide +kernel
theorem dX7_trial_17 : decode cX7_trial 17 = .ok (.istore 6, 2) := by decide +kernel
theorem dX7_trial_19 : decode cX7_trial 19 = .ok (.iconst 0, 1) := by decide +kernel
theorem dX7_trial_20 : decode cX7_trial 20 = .ok (.istore 7, 2) := by decide +kernel
theorem dX7_trial_22 : decode cX7_trial 22 = .ok (.iload 7, 2) := by decide +kernel
theorem dX7_trial_24 : decode cX7_trial 24 = .ok (.aload_n 0, 1) := by decide +kernel
theorem dX7_trial_25 : decode cX7_trial 25 = .ok (.getfield 49, 3) := by decide +kernel
theorem dX7_trial_28 : decode cX7_trial 28 = .ok (.if_icmp .ge 21, 3) := by decide +kernel
theorem dX7_trial_31 : decode cX7_trial 31 = .ok (.aload_n 0, 1) := by decide +kernel
theorem dX7_trial_32 : decode cX7_trial 32 = .ok (.iload 7, 2) := by decide +kernel
theorem dX7_trial_34 : decode cX7_trial 34 = .ok (.invokevirtual 237, 3) := by decide +kernel
theorem dX7_trial_37 : decode cX7_trial 37 = .ok (.ifCond .eq 6, 3) := by decide +kernel
theorem dX7_trial_40 : decode cX7_trial 40 = .ok (.iinc 6 1, 3) := by decide +kernel
theorem dX7_trial_43 : decode cX7_trial 43 = .ok (.iinc 7 1, 3) := by decide +kernel
theorem dX7_trial_46 : decode cX7_trial 46 = .ok (.goto (-24), 3) := by decide +kernel
theorem dX7_trial_49 : decode cX7_trial 49 = .ok (.iload 6, 2) := by decide +kernel
theorem dX7_trial_51 : decode cX7_trial 51 = .ok (.ireturn, 1) := by decide +kernel
theorem dX7_tried_0 : decode cX7_tried 0 = .ok (.aload_n 0, 1) := by decide +kernel
theorem dX7_tried_1 : decode cX7_tried 1 = .ok (.iload_n 1, 1) := by decide +kernel
theorem dX7_tried_2 : decode cX7_tried 2 = .ok (.iload_n 2, 1) := by decide +kernel
theorem dX7_tried_3 : decode cX7_tried 3 = .ok (.iload_n 3, 1) := by decide +kernel
theorem dX7_tried_4 : decode cX7_tried 4 = .ok (.iload 4, 2) := by decide +kernel
theorem dX7_tried_6 : decode cX7_tried 6 = .ok (.iload 5, 2) := by decide +kernel
theorem dX7_tried_8 : decode cX7_tried 8 = .ok (.invokevirtual 234, 3) := by decide +kernel
theorem dX7_tried_11 : decode cX7_tried 11 = .ok (.ifCond .ne 5, 3) := by decide +kernel
theorem dX7_tried_14 : decode cX7_tried 14 = .ok (.iconst (-1), 1) := by decide +kernel
theorem dX7_tried_15 : decode cX7_tried 15 = .ok (.ireturn, 1) := by decide +kernel
theorem dX7_tried_16 : decode cX7_tried 16 = .ok (.iconst 0, 1) := by decide +kernel
theorem dX7_tried_17 : decode cX7_tried 17 = .ok (.istore 7, 2) := by decide +kernel
theorem dX7_tried_19 : decode cX7_tried 19 = .ok (.iconst 0, 1) := by decide +kernel
theorem dX7_tried_20 : decode cX7_tried 20 = .ok (.istore 8, 2) := by decide +kernel
theorem dX7_tried_22 : decode cX7_tried 22 = .ok (.iload 8, 2) := by decide +kernel
theorem dX7_tried_24 : decode cX7_tried 24 = .ok (.aload_n 0, 1) := by decide +kernel
theorem dX7_tried_25 : decode cX7_tried 25 = .ok (.getfield 49, 3) := by decide +kernel
theorem dX7_tried_28 : decode cX7_tried 28 = .ok (.if_icmp .ge 31, 3) := by decide +kernel
theorem dX7_tried_31 : decode cX7_tried 31 = .ok (.aload_n 0, 1) := by decide +kernel
theorem dX7_tried_32 : decode cX7_tried 32 = .ok (.iload 8, 2) := by decide +kernel
theorem dX7_tried_34 : decode cX7_tried 34 = .ok (.invokevirtual 237, 3) := by decide +kernel
theorem dX7_tried_37 : decode cX7_tried 37 = .ok (.ifCond .eq 16, 3) := by decide +kernel
theorem dX7_tried_40 : decode cX7_tried 40 = .ok (.iload 7, 2) := by decide +kernel
theorem dX7_tried_42 : decode cX7_tried 42 = .ok (.iload 6, 2) := by decide +kernel
theorem dX7_tried_44 : decode cX7_tried 44 = .ok (.if_icmp .ne 6, 3) := by decide +kernel
theorem dX7_tried_47 : decode cX7_tried 47 = .ok (.iload 8, 2) := by decide +kernel
theorem dX7_tried_49 : decode cX7_tried 49 = .ok (.ireturn, 1) := by decide +kernel
theorem dX7_tried_50 : decode cX7_tried 50 = .ok (.iinc 7 1, 3) := by decide +kernel
theorem dX7_tried_53 : decode cX7_tried 53 = .ok (.iinc 8 1, 3) := by decide +kernel
theorem dX7_tried_56 : decode cX7_tried 56 = .ok (.goto (-34), 3) := by decide +kernel
theorem dX7_tried_59 : decode cX7_tried 59 = .ok (.iconst (-1), 1) := by decide +kernel
theorem dX7_tried_60 : decode cX7_tried 60 = .ok (.ireturn, 1) := by decide +kernel
theorem dX7_state_0 : decode cX7_state 0 = .ok (.iload_n 1, 1) := by decide +kernel
theorem dX7_state_1 : decode cX7_state 1 = .ok (.tableswitch 83 0 6 #[43, 48, 53, 61, 66, 72, 77], 43) := by decide +kernel
theorem dX7_state_44 : decode cX7_state 44 = .ok (.aload_n 0, 1) := by decide +kernel
theorem dX7_state_45 : decode cX7_state 45 = .ok (.getfield 7, 3) := by decide +kernel
theorem dX7_state_48 : decode cX7_state 48 = .ok (.ireturn, 1) := by decide +kernel
theorem dX7_state_49 : decode cX7_state 49 = .ok (.aload_n 0, 1) := by decide +kernel
theorem dX7_state_50 : decode cX7_state 50 = .ok (.getfield 49, 3) := by decide +kernel
theorem dX7_state_53 : decode cX7_state 53 = .ok (.ireturn, 1) := by decide +kernel
theorem dX7_state_54 : decode cX7_state 54 = .ok (.aload_n 0, 1) := by decide +kernel
theorem dX7_state_55 : decode cX7_state 55 = .ok (.getfield 39, 3) := by decide +kernel
theorem dX7_state_58 : decode cX7_state 58 = .ok (.getfield 124, 3) := by decide +kernel
theorem dX7_state_61 : decode cX7_state 61 = .ok (.ireturn, 1) := by decide +kernel
theorem dX7_state_62 : decode cX7_state 62 = .ok (.aload_n 0, 1) := by decide +kernel
theorem dX7_state_63 : decode cX7_state 63 = .ok (.getfield 17, 3) := by decide +kernel
theorem dX7_state_66 : decode cX7_state 66 = .ok (.ireturn, 1) := by decide +kernel
theorem dX7_state_67 : decode cX7_state 67 = .ok (.aload_n 0, 1) := by decide +kernel
theorem dX7_state_68 : decode cX7_state 68 = .ok (.iconst 1, 1) := by decide +kernel
theorem dX7_state_69 : decode cX7_state 69 = .ok (.invokevirtual 240, 3) := by decide +kernel
theorem dX7_state_72 : decode cX7_state 72 = .ok (.ireturn, 1) := by decide +kernel
theorem dX7_state_73 : decode cX7_state 73 = .ok (.aload_n 0, 1) := by decide +kernel
theorem dX7_state_74 : decode cX7_state 74 = .ok (.invokevirtual 243, 3) := by decide +kernel
theorem dX7_state_77 : decode cX7_state 77 = .ok (.ireturn, 1) := by decide +kernel
theorem dX7_state_78 : decode cX7_state 78 = .ok (.aload_n 0, 1) := by decide +kernel
theorem dX7_state_79 : decode cX7_state 79 = .ok (.iconst 2, 1) := by decide +kernel
theorem dX7_state_80 : decode cX7_state 80 = .ok (.invokevirtual 240, 3) := by decide +kernel
theorem dX7_state_83 : decode cX7_state 83 = .ok (.ireturn, 1) := by decide +kernel
theorem dX7_state_84 : decode cX7_state 84 = .ok (.iconst (-1), 1) := by decide +kernel
theorem dX7_state_85 : decode cX7_state 85 = .ok (.ireturn, 1) := by decide +kernel
theorem dX7_within_0 : decode cX7_within 0 = .ok (.iload_n 0, 1) := by decide +kernel
theorem dX7_within_1 : decode cX7_within 1 = .ok (.iload_n 1, 1) := by decide +kernel
theorem dX7_within_2 : decode cX7_within 2 = .ok (.if_icmp .lt 12, 3) := by decide +kernel
theorem dX7_within_5 : decode cX7_within 5 = .ok (.iload_n 0, 1) := by decide +kernel
theorem dX7_within_6 : decode cX7_within 6 = .ok (.iload_n 2, 1) := by decide +kernel
theorem dX7_within_7 : decode cX7_within 7 = .ok (.if_icmp .gt 7, 3) := by decide +kernel
theorem dX7_within_10 : decode cX7_within 10 = .ok (.iconst 1, 1) := by decide +kernel
theorem dX7_within_11 : decode cX7_within 11 = .ok (.goto 4, 3) := by decide +kernel
theorem dX7_within_14 : decode cX7_within 14 = .ok (.iconst 0, 1) := by decide +kernel
theorem dX7_within_15 : decode cX7_within 15 = .ok (.ireturn, 1) := by decide +kernel
theorem dX7_isKind_0 : decode cX7_isKind 0 = .ok (.iload_n 0, 1) := by decide +kernel
theorem dX7_isKind_1 : decode cX7_isKind 1 = .ok (.iconst 0, 1) := by decide +kernel
theorem dX7_isKind_2 : decode cX7_isKind 2 = .ok (.bipush 7, 2) := by decide +kernel
theorem dX7_isKind_4 : decode cX7_isKind 4 = .ok (.invokestatic 79, 3) := by decide +kernel
theorem dX7_isKind_7 : decode cX7_isKind 7 = .ok (.ireturn, 1) := by decide +kernel
theorem dX7_isText_0 : decode cX7_isText 0 = .ok (.iload_n 0, 1) := by decide +kernel
theorem dX7_isText_1 : decode cX7_isText 1 = .ok (.iconst 0, 1) := by decide +kernel
theorem dX7_isText_2 : decode cX7_isText 2 = .ok (.bipush 7, 2) := by decide +kernel
theorem dX7_isText_4 : decode cX7_isText 4 = .ok (.invokestatic 79, 3) := by decide +kernel
theorem dX7_isText_7 : decode cX7_isText 7 = .ok (.ireturn, 1) := by decide +kernel
theorem dX7_isRow_0 : decode cX7_isRow 0 = .ok (.iload_n 0, 1) := by decide +kernel
theorem dX7_isRow_1 : decode cX7_isRow 1 = .ok (.iconst 2, 1) := by decide +kernel
theorem dX7_isRow_2 : decode cX7_isRow 2 = .ok (.bipush 8, 2) := by decide +kernel
theorem dX7_isRow_4 : decode cX7_isRow 4 = .ok (.invokestatic 79, 3) := by decide +kernel
theorem dX7_isRow_7 : decode cX7_isRow 7 = .ok (.ireturn, 1) := by decide +kernel
theorem dX7_isPerson_0 : decode cX7_isPerson 0 = .ok (.iload_n 0, 1) := by decide +kernel
theorem dX7_isPerson_1 : decode cX7_isPerson 1 = .ok (.iconst 0, 1) := by decide +kernel
theorem dX7_isPerson_2 : decode cX7_isPerson 2 = .ok (.bipush 9, 2) := by decide +kernel
theorem dX7_isPerson_4 : decode cX7_isPerson 4 = .ok (.invokestatic 79, 3) := by decide +kernel
theorem dX7_isPerson_7 : decode cX7_isPerson 7 = .ok (.ireturn, 1) := by decide +kernel
theorem dX7_isRule_0 : decode cX7_isRule 0 = .ok (.iload_n 1, 1) := by decide +kernel
theorem dX7_isRule_1 : decode cX7_isRule 1 = .ok (.iconst 0, 1) := by decide +kernel
theorem dX7_isRule_2 : decode cX7_isRule 2 = .ok (.aload_n 0, 1) := by decide +kernel
theorem dX7_isRule_3 : decode cX7_isRule 3 = .ok (.getfield 39, 3) := by decide +kernel
theorem dX7_isRule_6 : decode cX7_isRule 6 = .ok (.getfield 124, 3) := by decide +kernel
theorem dX7_isRule_9 : decode cX7_isRule 9 = .ok (.invokestatic 79, 3) := by decide +kernel
theorem dX7_isRule_12 : decode cX7_isRule 12 = .ok (.ifCond .eq 44, 3) := by decide +kernel
theorem dX7_isRule_15 : decode cX7_isRule 15 = .ok (.iload_n 2, 1) := by decide +kernel
theorem dX7_isRule_16 : decode cX7_isRule 16 = .ok (.iconst (-1), 1) := by decide +kernel
theorem dX7_isRule_17 : decode cX7_isRule 17 = .ok (.bipush 9, 2) := by decide +kernel
theorem dX7_isRule_19 : decode cX7_isRule 19 = .ok (.invokestatic 79, 3) := by decide +kernel
theorem dX7_isRule_22 : decode cX7_isRule 22 = .ok (.ifCond .eq 34, 3) := by decide +kernel
theorem dX7_isRule_25 : decode cX7_isRule 25 = .ok (.iload_n 3, 1) := by decide +kernel
theorem dX7_isRule_26 : decode cX7_isRule 26 = .ok (.iconst (-1), 1) := by decide +kernel
theorem dX7_isRule_27 : decode cX7_isRule 27 = .ok (.iconst 2, 1) := by decide +kernel
theorem dX7_isRule_28 : decode cX7_isRule 28 = .ok (.invokestatic 79, 3) := by decide +kernel
theorem dX7_isRule_31 : decode cX7_isRule 31 = .ok (.ifCond .eq 25, 3) := by decide +kernel
theorem dX7_isRule_34 : decode cX7_isRule 34 = .ok (.iload 4, 2) := by decide +kernel
theorem dX7_isRule_36 : decode cX7_isRule 36 = .ok (.invokestatic 104, 3) := by decide +kernel
theorem dX7_isRule_39 : decode cX7_isRule 39 = .ok (.ifCond .eq 17, 3) := by decide +kernel
theorem dX7_isRule_42 : decode cX7_isRule 42 = .ok (.iload 5, 2) := by decide +kernel
theorem dX7_isRule_44 : decode cX7_isRule 44 = .ok (.iconst 0, 1) := by decide +kernel
theorem dX7_isRule_45 : decode cX7_isRule 45 = .ok (.iconst 4, 1) := by decide +kernel
theorem dX7_isRule_46 : decode cX7_isRule 46 = .ok (.invokestatic 79, 3) := by decide +kernel
theorem dX7_isRule_49 : decode cX7_isRule 49 = .ok (.ifCond .eq 7, 3) := by decide +kernel
theorem dX7_isRule_52 : decode cX7_isRule 52 = .ok (.iconst 1, 1) := by decide +kernel
theorem dX7_isRule_53 : decode cX7_isRule 53 = .ok (.goto 4, 3) := by decide +kernel
theorem dX7_isRule_56 : decode cX7_isRule 56 = .ok (.iconst 0, 1) := by decide +kernel
theorem dX7_isRule_57 : decode cX7_isRule 57 = .ok (.ireturn, 1) := by decide +kernel
theorem dX7_bytesOf_0 : decode cX7_bytesOf 0 = .ok (.iconst 0, 1) := by decide +kernel
theorem dX7_bytesOf_1 : decode cX7_bytesOf 1 = .ok (.istore_n 1, 1) := by decide +kernel
theorem dX7_bytesOf_2 : decode cX7_bytesOf 2 = .ok (.bipush 24, 2) := by decide +kernel
theorem dX7_bytesOf_4 : decode cX7_bytesOf 4 = .ok (.istore_n 2, 1) := by decide +kernel
theorem dX7_bytesOf_5 : decode cX7_bytesOf 5 = .ok (.iload_n 2, 1) := by decide +kernel
theorem dX7_bytesOf_6 : decode cX7_bytesOf 6 = .ok (.ifCond .lt 22, 3) := by decide +kernel
theorem dX7_bytesOf_9 : decode cX7_bytesOf 9 = .ok (.iload_n 0, 1) := by decide +kernel
theorem dX7_bytesOf_10 : decode cX7_bytesOf 10 = .ok (.iload_n 2, 1) := by decide +kernel
theorem dX7_bytesOf_11 : decode cX7_bytesOf 11 = .ok (.iushr, 1) := by decide +kernel
theorem dX7_bytesOf_12 : decode cX7_bytesOf 12 = .ok (.sipush 255, 3) := by decide +kernel
theorem dX7_bytesOf_15 : decode cX7_bytesOf 15 = .ok (.iand, 1) := by decide +kernel
theorem dX7_bytesOf_16 : decode cX7_bytesOf 16 = .ok (.ifCond .eq 6, 3) := by decide +kernel
theorem dX7_bytesOf_19 : decode cX7_bytesOf 19 = .ok (.iinc 1 1, 3) := by decide +kernel
theorem dX7_bytesOf_22 : decode cX7_bytesOf 22 = .ok (.iinc 2 (-8), 3) := by decide +kernel
theorem dX7_bytesOf_25 : decode cX7_bytesOf 25 = .ok (.goto (-20), 3) := by decide +kernel
theorem dX7_bytesOf_28 : decode cX7_bytesOf 28 = .ok (.iload_n 1, 1) := by decide +kernel
theorem dX7_bytesOf_29 : decode cX7_bytesOf 29 = .ok (.ireturn, 1) := by decide +kernel
theorem dX7_append_0 : decode cX7_append 0 = .ok (.bipush 24, 2) := by decide +kernel
theorem dX7_append_2 : decode cX7_append 2 = .ok (.istore_n 2, 1) := by decide +kernel
theorem dX7_append_3 : decode cX7_append 3 = .ok (.iload_n 2, 1) := by decide +kernel
theorem dX7_append_4 : decode cX7_append 4 = .ok (.ifCond .lt 53, 3) := by decide +kernel
theorem dX7_append_7 : decode cX7_append 7 = .ok (.iload_n 1, 1) := by decide +kernel
theorem dX7_append_8 : decode cX7_append 8 = .ok (.iload_n 2, 1) := by decide +kernel
theorem dX7_append_9 : decode cX7_append 9 = .ok (.iushr, 1) := by decide +kernel
theorem dX7_append_10 : decode cX7_append 10 = .ok (.sipush 255, 3) := by decide +kernel
theorem dX7_append_13 : decode cX7_append 13 = .ok (.iand, 1) := by decide +kernel
theorem dX7_append_14 : decode cX7_append 14 = .ok (.istore_n 3, 1) := by decide +kernel
theorem dX7_append_15 : decode cX7_append 15 = .ok (.iload_n 3, 1) := by decide +kernel
theorem dX7_append_16 : decode cX7_append 16 = .ok (.ifCond .eq 35, 3) := by decide +kernel
theorem dX7_append_19 : decode cX7_append 19 = .ok (.aload_n 0, 1) := by decide +kernel
theorem dX7_append_20 : decode cX7_append 20 = .ok (.getfield 17, 3) := by decide +kernel
theorem dX7_append_23 : decode cX7_append 23 = .ok (.aload_n 0, 1) := by decide +kernel
theorem dX7_append_24 : decode cX7_append 24 = .ok (.getfield 13, 3) := by decide +kernel
theorem dX7_append_27 : decode cX7_append 27 = .ok (.arraylength, 1) := by decide +kernel
theorem dX7_append_28 : decode cX7_append 28 = .ok (.if_icmp .ge 23, 3) := by decide +kernel
theorem dX7_append_31 : decode cX7_append 31 = .ok (.aload_n 0, 1) := by decide +kernel
theorem dX7_append_32 : decode cX7_append 32 = .ok (.getfield 13, 3) := by decide +kernel
theorem dX7_append_35 : decode cX7_append 35 = .ok (.aload_n 0, 1) := by decide +kernel
theorem dX7_append_36 : decode cX7_append 36 = .ok (.getfield 17, 3) := by decide +kernel
theorem dX7_append_39 : decode cX7_append 39 = .ok (.iload_n 3, 1) := by decide +kernel
theorem dX7_append_40 : decode cX7_append 40 = .ok (.iastore, 1) := by decide +kernel
theorem dX7_append_41 : decode cX7_append 41 = .ok (.aload_n 0, 1) := by decide +kernel
theorem dX7_append_42 : decode cX7_append 42 = .ok (.dup, 1) := by decide +kernel
theorem dX7_append_43 : decode cX7_append 43 = .ok (.getfield 17, 3) := by decide +kernel
theorem dX7_append_46 : decode cX7_append 46 = .ok (.iconst 1, 1) := by decide +kernel
theorem dX7_append_47 : decode cX7_append 47 = .ok (.iadd, 1) := by decide +kernel
theorem dX7_append_48 : decode cX7_append 48 = .ok (.putfield 17, 3) := by decide +kernel
theorem dX7_append_51 : decode cX7_append 51 = .ok (.iinc 2 (-8), 3) := by decide +kernel
theorem dX7_append_54 : decode cX7_append 54 = .ok (.goto (-51), 3) := by decide +kernel
theorem dX7_append_57 : decode cX7_append 57 = .ok (.return_, 1) := by decide +kernel
theorem dX7_copyOfTape_0 : decode cX7_copyOfTape 0 = .ok (.aload_n 0, 1) := by decide +kernel
theorem dX7_copyOfTape_1 : decode cX7_copyOfTape 1 = .ok (.getfield 17, 3) := by decide +kernel
theorem dX7_copyOfTape_4 : decode cX7_copyOfTape 4 = .ok (.newarray .int, 2) := by decide +kernel
theorem dX7_copyOfTape_6 : decode cX7_copyOfTape 6 = .ok (.astore_n 1, 1) := by decide +kernel
theorem dX7_copyOfTape_7 : decode cX7_copyOfTape 7 = .ok (.aload_n 0, 1) := by decide +kernel
theorem dX7_copyOfTape_8 : decode cX7_copyOfTape 8 = .ok (.getfield 13, 3) := by decide +kernel
theorem dX7_copyOfTape_11 : decode cX7_copyOfTape 11 = .ok (.iconst 0, 1) := by decide +kernel
theorem dX7_copyOfTape_12 : decode cX7_copyOfTape 12 = .ok (.aload_n 1, 1) := by decide +kernel
theorem dX7_copyOfTape_13 : decode cX7_copyOfTape 13 = .ok (.iconst 0, 1) := by decide +kernel
theorem dX7_copyOfTape_14 : decode cX7_copyOfTape 14 = .ok (.aload_n 0, 1) := by decide +kernel
theorem dX7_copyOfTape_15 : decode cX7_copyOfTape 15 = .ok (.getfield 17, 3) := by decide +kernel
theorem dX7_copyOfTape_18 : decode cX7_copyOfTape 18 = .ok (.invokestatic 246, 3) := by decide +kernel
theorem dX7_copyOfTape_21 : decode cX7_copyOfTape 21 = .ok (.aload_n 1, 1) := by decide +kernel
theorem dX7_copyOfTape_22 : decode cX7_copyOfTape 22 = .ok (.areturn, 1) := by decide +kernel
theorem dX7_readTape_0 : decode cX7_readTape 0 = .ok (.aload_n 0, 1) := by decide +kernel
theorem dX7_readTape_1 : decode cX7_readTape 1 = .ok (.getfield 55, 3) := by decide +kernel
theorem dX7_readTape_4 : decode cX7_readTape 4 = .ok (.aload_n 0, 1) := by decide +kernel
theorem dX7_readTape_5 : decode cX7_readTape 5 = .ok (.getfield 13, 3) := by decide +kernel
theorem dX7_readTape_8 : decode cX7_readTape 8 = .ok (.aload_n 0, 1) := by decide +kernel
theorem dX7_readTape_9 : decode cX7_readTape 9 = .ok (.getfield 17, 3) := by decide +kernel
theorem dX7_readTape_12 : decode cX7_readTape 12 = .ok (.invokevirtual 252, 3) := by decide +kernel
theorem dX7_readTape_15 : decode cX7_readTape 15 = .ok (.aload_n 0, 1) := by decide +kernel
theorem dX7_readTape_16 : decode cX7_readTape 16 = .ok (.getfield 55, 3) := by decide +kernel
theorem dX7_readTape_19 : decode cX7_readTape 19 = .ok (.areturn, 1) := by decide +kernel
theorem dX7_takeTape_0 : decode cX7_takeTape 0 = .ok (.new 20, 3) := by decide +kernel
theorem dX7_takeTape_3 : decode cX7_takeTape 3 = .ok (.dup, 1) := by decide +kernel
theorem dX7_takeTape_4 : decode cX7_takeTape 4 = .ok (.aload_n 0, 1) := by decide +kernel
theorem dX7_takeTape_5 : decode cX7_takeTape 5 = .ok (.getfield 17, 3) := by decide +kernel
theorem dX7_takeTape_8 : decode cX7_takeTape 8 = .ok (.invokespecial 52, 3) := by decide +kernel
theorem dX7_takeTape_11 : decode cX7_takeTape 11 = .ok (.astore_n 1, 1) := by decide +kernel
theorem dX7_takeTape_12 : decode cX7_takeTape 12 = .ok (.aload_n 1, 1) := by decide +kernel
theorem dX7_takeTape_13 : decode cX7_takeTape 13 = .ok (.aload_n 0, 1) := by decide +kernel
theorem dX7_takeTape_14 : decode cX7_takeTape 14 = .ok (.getfield 13, 3) := by decide +kernel
theorem dX7_takeTape_17 : decode cX7_takeTape 17 = .ok (.aload_n 0, 1) := by decide +kernel
theorem dX7_takeTape_18 : decode cX7_takeTape 18 = .ok (.getfield 17, 3) := by decide +kernel
theorem dX7_takeTape_21 : decode cX7_takeTape 21 = .ok (.invokevirtual 252, 3) := by decide +kernel
theorem dX7_takeTape_24 : decode cX7_takeTape 24 = .ok (.aload_n 0, 1) := by decide +kernel
theorem dX7_takeTape_25 : decode cX7_takeTape 25 = .ok (.iconst 0, 1) := by decide +kernel
theorem dX7_takeTape_26 : decode cX7_takeTape 26 = .ok (.putfield 17, 3) := by decide +kernel
theorem dX7_takeTape_29 : decode cX7_takeTape 29 = .ok (.aload_n 1, 1) := by decide +kernel
theorem dX7_takeTape_30 : decode cX7_takeTape 30 = .ok (.areturn, 1) := by decide +kernel
theorem dX7_pairOf_0 : decode cX7_pairOf 0 = .ok (.iload_n 0, 1) := by decide +kernel
theorem dX7_pairOf_1 : decode cX7_pairOf 1 = .ok (.bipush 10, 2) := by decide +kernel
theorem dX7_pairOf_3 : decode cX7_pairOf 3 = .ok (.imul, 1) := by decide +kernel
theorem dX7_pairOf_4 : decode cX7_pairOf 4 = .ok (.iload_n 1, 1) := by decide +kernel
theorem dX7_pairOf_5 : decode cX7_pairOf 5 = .ok (.iadd, 1) := by decide +kernel
theorem dX7_pairOf_6 : decode cX7_pairOf 6 = .ok (.bipush 10, 2) := by decide +kernel
theorem dX7_pairOf_8 : decode cX7_pairOf 8 = .ok (.imul, 1) := by decide +kernel
theorem dX7_pairOf_9 : decode cX7_pairOf 9 = .ok (.iload_n 2, 1) := by decide +kernel
theorem dX7_pairOf_10 : decode cX7_pairOf 10 = .ok (.iadd, 1) := by decide +kernel
theorem dX7_pairOf_11 : decode cX7_pairOf 11 = .ok (.ireturn, 1) := by decide +kernel
theorem dX7_setKind_0 : decode cX7_setKind 0 = .ok (.aload_n 0, 1) := by decide +kernel
theorem dX7_setKind_1 : decode cX7_setKind 1 = .ok (.getfield 28, 3) := by decide +kernel
theorem dX7_setKind_4 : decode cX7_setKind 4 = .ok (.iload_n 1, 1) := by decide +kernel
theorem dX7_setKind_5 : decode cX7_setKind 5 = .ok (.aload_n 2, 1) := by decide +kernel
theorem dX7_setKind_6 : decode cX7_setKind 6 = .ok (.aastore, 1) := by decide +kernel
theorem dX7_setKind_7 : decode cX7_setKind 7 = .ok (.aload_n 0, 1) := by decide +kernel
theorem dX7_setKind_8 : decode cX7_setKind 8 = .ok (.iload_n 1, 1) := by decide +kernel
theorem dX7_setKind_9 : decode cX7_setKind 9 = .ok (.invokevirtual 256, 3) := by decide +kernel
theorem dX7_setKind_12 : decode cX7_setKind 12 = .ok (.return_, 1) := by decide +kernel
theorem dX7_forgetKindsOver_0 : decode cX7_forgetKindsOver 0 = .ok (.iconst 0, 1) := by decide +kernel
theorem dX7_forgetKindsOver_1 : decode cX7_forgetKindsOver 1 = .ok (.istore_n 2, 1) := by decide +kernel
theorem dX7_forgetKindsOver_2 : decode cX7_forgetKindsOver 2 = .ok (.iload_n 2, 1) := by decide +kernel
theorem dX7_forgetKindsOver_3 : decode cX7_forgetKindsOver 3 = .ok (.bipush 8, 2) := by decide +kernel
theorem dX7_forgetKindsOver_5 : decode cX7_forgetKindsOver 5 = .ok (.if_icmp .ge 27, 3) := by decide +kernel
theorem dX7_forgetKindsOver_8 : decode cX7_forgetKindsOver 8 = .ok (.aload_n 0, 1) := by decide +kernel
theorem dX7_forgetKindsOver_9 : decode cX7_forgetKindsOver 9 = .ok (.getfield 28, 3) := by decide +kernel
theorem dX7_forgetKindsOver_12 : decode cX7_forgetKindsOver 12 = .ok (.iload_n 2, 1) := by decide +kernel
theorem dX7_forgetKindsOver_13 : decode cX7_forgetKindsOver 13 = .ok (.aaload, 1) := by decide +kernel
theorem dX7_forgetKindsOver_14 : decode cX7_forgetKindsOver 14 = .ok (.iload_n 1, 1) := by decide +kernel
theorem dX7_forgetKindsOver_15 : decode cX7_forgetKindsOver 15 = .ok (.invokevirtual 259, 3) := by decide +kernel
theorem dX7_forgetKindsOver_18 : decode cX7_forgetKindsOver 18 = .ok (.ifCond .eq 8, 3) := by decide +kernel
theorem dX7_forgetKindsOver_21 : decode cX7_forgetKindsOver 21 = .ok (.aload_n 0, 1) := by decide +kernel
theorem dX7_forgetKindsOver_22 : decode cX7_forgetKindsOver 22 = .ok (.iload_n 2, 1) := by decide +kernel
theorem dX7_forgetKindsOver_23 : decode cX7_forgetKindsOver 23 = .ok (.invokevirtual 256, 3) := by decide +kernel
theorem dX7_forgetKindsOver_26 : decode cX7_forgetKindsOver 26 = .ok (.iinc 2 1, 3) := by decide +kernel
theorem dX7_forgetKindsOver_29 : decode cX7_forgetKindsOver 29 = .ok (.goto (-27), 3) := by decide +kernel
theorem dX7_forgetKindsOver_32 : decode cX7_forgetKindsOver 32 = .ok (.return_, 1) := by decide +kernel
theorem dX7_forgetSights_0 : decode cX7_forgetSights 0 = .ok (.iconst 0, 1) := by decide +kernel
theorem dX7_forgetSights_1 : decode cX7_forgetSights 1 = .ok (.istore_n 2, 1) := by decide +kernel
theorem dX7_forgetSights_2 : decode cX7_forgetSights 2 = .ok (.iload_n 2, 1) := by decide +kernel
theorem dX7_forgetSights_3 : decode cX7_forgetSights 3 = .ok (.aload_n 0, 1) := by decide +kernel
theorem dX7_forgetSights_4 : decode cX7_forgetSights 4 = .ok (.getfield 49, 3) := by decide +kernel
theorem dX7_forgetSights_7 : decode cX7_forgetSights 7 = .ok (.if_icmp .ge 21, 3) := by decide +kernel
theorem dX7_forgetSights_10 : decode cX7_forgetSights 10 = .ok (.aload_n 0, 1) := by decide +kernel
theorem dX7_forgetSights_11 : decode cX7_forgetSights 11 = .ok (.getfield 45, 3) := by decide +kernel
theorem dX7_forgetSights_14 : decode cX7_forgetSights 14 = .ok (.iload_n 2, 1) := by decide +kernel
theorem dX7_forgetSights_15 : decode cX7_forgetSights 15 = .ok (.aaload, 1) := by decide +kernel
theorem dX7_forgetSights_16 : decode cX7_forgetSights 16 = .ok (.getfield 262, 3) := by decide +kernel
theorem dX7_forgetSights_19 : decode cX7_forgetSights 19 = .ok (.iload_n 1, 1) := by decide +kernel
theorem dX7_forgetSights_20 : decode cX7_forgetSights 20 = .ok (.iconst 0, 1) := by decide +kernel
theorem dX7_forgetSights_21 : decode cX7_forgetSights 21 = .ok (.bastore, 1) := by decide +kernel
theorem dX7_forgetSights_22 : decode cX7_forgetSights 22 = .ok (.iinc 2 1, 3) := by decide +kernel
theorem dX7_forgetSights_25 : decode cX7_forgetSights 25 = .ok (.goto (-23), 3) := by decide +kernel
theorem dX7_forgetSights_28 : decode cX7_forgetSights 28 = .ok (.return_, 1) := by decide +kernel
theorem dX7_sightAll_0 : decode cX7_sightAll 0 = .ok (.iconst 0, 1) := by decide +kernel
theorem dX7_sightAll_1 : decode cX7_sightAll 1 = .ok (.istore_n 1, 1) := by decide +kernel
theorem dX7_sightAll_2 : decode cX7_sightAll 2 = .ok (.iload_n 1, 1) := by decide +kernel
theorem dX7_sightAll_3 : decode cX7_sightAll 3 = .ok (.aload_n 0, 1) := by decide +kernel
theorem dX7_sightAll_4 : decode cX7_sightAll 4 = .ok (.getfield 49, 3) := by decide +kernel
theorem dX7_sightAll_7 : decode cX7_sightAll 7 = .ok (.if_icmp .ge 75, 3) := by decide +kernel
theorem dX7_sightAll_10 : decode cX7_sightAll 10 = .ok (.aload_n 0, 1) := by decide +kernel
theorem dX7_sightAll_11 : decode cX7_sightAll 11 = .ok (.getfield 45, 3) := by decide +kernel
theorem dX7_sightAll_14 : decode cX7_sightAll 14 = .ok (.iload_n 1, 1) := by decide +kernel
theorem dX7_sightAll_15 : decode cX7_sightAll 15 = .ok (.aaload, 1) := by decide +kernel
theorem dX7_sightAll_16 : decode cX7_sightAll 16 = .ok (.astore_n 2, 1) := by decide +kernel
theorem dX7_sightAll_17 : decode cX7_sightAll 17 = .ok (.iconst 0, 1) := by decide +kernel
theorem dX7_sightAll_18 : decode cX7_sightAll 18 = .ok (.istore_n 3, 1) := by decide +kernel
theorem dX7_sightAll_19 : decode cX7_sightAll 19 = .ok (.iload_n 3, 1) := by decide +kernel
theorem dX7_sightAll_20 : decode cX7_sightAll 20 = .ok (.bipush 8, 2) := by decide +kernel
theorem dX7_sightAll_22 : decode cX7_sightAll 22 = .ok (.if_icmp .ge 54, 3) := by decide +kernel
theorem dX7_sightAll_25 : decode cX7_sightAll 25 = .ok (.aload_n 2, 1) := by decide +kernel
theorem dX7_sightAll_26 : decode cX7_sightAll 26 = .ok (.getfield 262, 3) := by decide +kernel
theorem dX7_sightAll_29 : decode cX7_sightAll 29 = .ok (.iload_n 3, 1) := by decide +kernel
theorem dX7_sightAll_30 : decode cX7_sightAll 30 = .ok (.baload, 1) := by decide +kernel
theorem dX7_sightAll_31 : decode cX7_sightAll 31 = .ok (.ifCond .ne 39, 3) := by decide +kernel
theorem dX7_sightAll_34 : decode cX7_sightAll 34 = .ok (.aload_n 2, 1) := by decide +kernel
theorem dX7_sightAll_35 : decode cX7_sightAll 35 = .ok (.getfield 265, 3) := by decide +kernel
theorem dX7_sightAll_38 : decode cX7_sightAll 38 = .ok (.iload_n 3, 1) := by decide +kernel
theorem dX7_sightAll_39 : decode cX7_sightAll 39 = .ok (.aaload, 1) := by decide +kernel
theorem dX7_sightAll_40 : decode cX7_sightAll 40 = .ok (.invokevirtual 217, 3) := by decide +kernel
theorem dX7_sightAll_43 : decode cX7_sightAll 43 = .ok (.aload_n 0, 1) := by decide +kernel
theorem dX7_sightAll_44 : decode cX7_sightAll 44 = .ok (.aload_n 0, 1) := by decide +kernel
theorem dX7_sightAll_45 : decode cX7_sightAll 45 = .ok (.getfield 28, 3) := by decide +kernel
theorem dX7_sightAll_48 : decode cX7_sightAll 48 = .ok (.iload_n 3, 1) := by decide +kernel
theorem dX7_sightAll_49 : decode cX7_sightAll 49 = .ok (.aaload, 1) := by decide +kernel
theorem dX7_sightAll_50 : decode cX7_sightAll 50 = .ok (.aload_n 2, 1) := by decide +kernel
theorem dX7_sightAll_51 : decode cX7_sightAll 51 = .ok (.getfield 269, 3) := by decide +kernel
theorem dX7_sightAll_54 : decode cX7_sightAll 54 = .ok (.aload_n 2, 1) := by decide +kernel
theorem dX7_sightAll_55 : decode cX7_sightAll 55 = .ok (.getfield 265, 3) := by decide +kernel
theorem dX7_sightAll_58 : decode cX7_sightAll 58 = .ok (.iload_n 3, 1) := by decide +kernel
theorem dX7_sightAll_59 : decode cX7_sightAll 59 = .ok (.aaload, 1) := by decide +kernel
theorem dX7_sightAll_60 : decode cX7_sightAll 60 = .ok (.invokevirtual 272, 3) := by decide +kernel
theorem dX7_sightAll_63 : decode cX7_sightAll 63 = .ok (.aload_n 2, 1) := by decide +kernel
theorem dX7_sightAll_64 : decode cX7_sightAll 64 = .ok (.getfield 262, 3) := by decide +kernel
theorem dX7_sightAll_67 : decode cX7_sightAll 67 = .ok (.iload_n 3, 1) := by decide +kernel
theorem dX7_sightAll_68 : decode cX7_sightAll 68 = .ok (.iconst 1, 1) := by decide +kernel
theorem dX7_sightAll_69 : decode cX7_sightAll 69 = .ok (.bastore, 1) := by decide +kernel
theorem dX7_sightAll_70 : decode cX7_sightAll 70 = .ok (.iinc 3 1, 3) := by decide +kernel
theorem dX7_sightAll_73 : decode cX7_sightAll 73 = .ok (.goto (-54), 3) := by decide +kernel
theorem dX7_sightAll_76 : decode cX7_sightAll 76 = .ok (.iinc 1 1, 3) := by decide +kernel
theorem dX7_sightAll_79 : decode cX7_sightAll 79 = .ok (.goto (-77), 3) := by decide +kernel
theorem dX7_sightAll_82 : decode cX7_sightAll 82 = .ok (.return_, 1) := by decide +kernel
theorem dX7_collect_0 : decode cX7_collect 0 = .ok (.aload_n 1, 1) := by decide +kernel
theorem dX7_collect_1 : decode cX7_collect 1 = .ok (.getfield 276, 3) := by decide +kernel
theorem dX7_collect_4 : decode cX7_collect 4 = .ok (.tableswitch 73 1 4 #[32, 52, 44, 52], 32) := by decide +kernel
theorem dX7_collect_36 : decode cX7_collect 36 = .ok (.aload_n 2, 1) := by decide +kernel
theorem dX7_collect_37 : decode cX7_collect 37 = .ok (.aload_n 1, 1) := by decide +kernel
theorem dX7_collect_38 : decode cX7_collect 38 = .ok (.getfield 279, 3) := by decide +kernel
theorem dX7_collect_41 : decode cX7_collect 41 = .ok (.aload_n 3, 1) := by decide +kernel
theorem dX7_collect_42 : decode cX7_collect 42 = .ok (.invokevirtual 282, 3) := by decide +kernel
theorem dX7_collect_45 : decode cX7_collect 45 = .ok (.goto 32, 3) := by decide +kernel
theorem dX7_collect_48 : decode cX7_collect 48 = .ok (.aload_n 2, 1) := by decide +kernel
theorem dX7_collect_49 : decode cX7_collect 49 = .ok (.aload_n 3, 1) := by decide +kernel
theorem dX7_collect_50 : decode cX7_collect 50 = .ok (.invokevirtual 220, 3) := by decide +kernel
theorem dX7_collect_53 : decode cX7_collect 53 = .ok (.goto 24, 3) := by decide +kernel
theorem dX7_collect_56 : decode cX7_collect 56 = .ok (.aload_n 2, 1) := by decide +kernel
theorem dX7_collect_57 : decode cX7_collect 57 = .ok (.aload_n 0, 1) := by decide +kernel
theorem dX7_collect_58 : decode cX7_collect 58 = .ok (.getfield 22, 3) := by decide +kernel
theorem dX7_collect_61 : decode cX7_collect 61 = .ok (.aload_n 1, 1) := by decide +kernel
theorem dX7_collect_62 : decode cX7_collect 62 = .ok (.getfield 286, 3) := by decide +kernel
theorem dX7_collect_65 : decode cX7_collect 65 = .ok (.aaload, 1) := by decide +kernel
theorem dX7_collect_66 : decode cX7_collect 66 = .ok (.aload_n 1, 1) := by decide +kernel
theorem dX7_collect_67 : decode cX7_collect 67 = .ok (.getfield 288, 3) := by decide +kernel
theorem dX7_collect_70 : decode cX7_collect 70 = .ok (.aload_n 3, 1) := by decide +kernel
theorem dX7_collect_71 : decode cX7_collect 71 = .ok (.invokevirtual 224, 3) := by decide +kernel
theorem dX7_collect_74 : decode cX7_collect 74 = .ok (.goto 3, 3) := by decide +kernel
theorem dX7_collect_77 : decode cX7_collect 77 = .ok (.return_, 1) := by decide +kernel
theorem dX7_has_0 : decode cX7_has 0 = .ok (.aload_n 0, 1) := by decide +kernel
theorem dX7_has_1 : decode cX7_has 1 = .ok (.getfield 45, 3) := by decide +kernel
theorem dX7_has_4 : decode cX7_has 4 = .ok (.iload_n 1, 1) := by decide +kernel
theorem dX7_has_5 : decode cX7_has 5 = .ok (.aaload, 1) := by decide +kernel
theorem dX7_has_6 : decode cX7_has 6 = .ok (.astore_n 3, 1) := by decide +kernel
theorem dX7_has_7 : decode cX7_has 7 = .ok (.aload_n 0, 1) := by decide +kernel
theorem dX7_has_8 : decode cX7_has 8 = .ok (.getfield 32, 3) := by decide +kernel
theorem dX7_has_11 : decode cX7_has 11 = .ok (.iload_n 2, 1) := by decide +kernel
theorem dX7_has_12 : decode cX7_has 12 = .ok (.aload_n 3, 1) := by decide +kernel
theorem dX7_has_13 : decode cX7_has 13 = .ok (.getfield 188, 3) := by decide +kernel
theorem dX7_has_16 : decode cX7_has 16 = .ok (.aload_n 3, 1) := by decide +kernel
theorem dX7_has_17 : decode cX7_has 17 = .ok (.getfield 189, 3) := by decide +kernel
theorem dX7_has_20 : decode cX7_has 20 = .ok (.invokestatic 120, 3) := by decide +kernel
theorem dX7_has_23 : decode cX7_has 23 = .ok (.baload, 1) := by decide +kernel
theorem dX7_has_24 : decode cX7_has 24 = .ok (.ifCond .eq 5, 3) := by decide +kernel
theorem dX7_has_27 : decode cX7_has 27 = .ok (.iconst 0, 1) := by decide +kernel
theorem dX7_has_28 : decode cX7_has 28 = .ok (.ireturn, 1) := by decide +kernel
theorem dX7_has_29 : decode cX7_has 29 = .ok (.aload_n 3, 1) := by decide +kernel
theorem dX7_has_30 : decode cX7_has 30 = .ok (.getfield 265, 3) := by decide +kernel
theorem dX7_has_33 : decode cX7_has 33 = .ok (.iload_n 2, 1) := by decide +kernel
theorem dX7_has_34 : decode cX7_has 34 = .ok (.aaload, 1) := by decide +kernel
theorem dX7_has_35 : decode cX7_has 35 = .ok (.getfield 202, 3) := by decide +kernel
theorem dX7_has_38 : decode cX7_has 38 = .ok (.istore 4, 2) := by decide +kernel
theorem dX7_has_40 : decode cX7_has 40 = .ok (.iload 4, 2) := by decide +kernel
theorem dX7_has_42 : decode cX7_has 42 = .ok (.ifCond .ne 5, 3) := by decide +kernel
theorem dX7_has_45 : decode cX7_has 45 = .ok (.iconst 0, 1) := by decide +kernel
theorem dX7_has_46 : decode cX7_has 46 = .ok (.ireturn, 1) := by decide +kernel
theorem dX7_has_47 : decode cX7_has 47 = .ok (.aload_n 0, 1) := by decide +kernel
theorem dX7_has_48 : decode cX7_has 48 = .ok (.getfield 28, 3) := by decide +kernel
theorem dX7_has_51 : decode cX7_has 51 = .ok (.iload_n 2, 1) := by decide +kernel
theorem dX7_has_52 : decode cX7_has 52 = .ok (.aaload, 1) := by decide +kernel
theorem dX7_has_53 : decode cX7_has 53 = .ok (.getfield 276, 3) := by decide +kernel
theorem dX7_has_56 : decode cX7_has 56 = .ok (.lookupswitch 72 #[(3, 28), (4, 48)], 28) := by decide +kernel
theorem dX7_has_84 : decode cX7_has 84 = .ok (.iload 4, 2) := by decide +kernel
theorem dX7_has_86 : decode cX7_has 86 = .ok (.aload_n 0, 1) := by decide +kernel
theorem dX7_has_87 : decode cX7_has 87 = .ok (.getfield 28, 3) := by decide +kernel
theorem dX7_has_90 : decode cX7_has 90 = .ok (.iload_n 2, 1) := by decide +kernel
theorem dX7_has_91 : decode cX7_has 91 = .ok (.aaload, 1) := by decide +kernel
theorem dX7_has_92 : decode cX7_has 92 = .ok (.getfield 291, 3) := by decide +kernel
theorem dX7_has_95 : decode cX7_has 95 = .ok (.if_icmp .lt 7, 3) := by decide +kernel
theorem dX7_has_98 : decode cX7_has 98 = .ok (.iconst 1, 1) := by decide +kernel
theorem dX7_has_99 : decode cX7_has 99 = .ok (.goto 4, 3) := by decide +kernel
theorem dX7_has_102 : decode cX7_has 102 = .ok (.iconst 0, 1) := by decide +kernel
theorem dX7_has_103 : decode cX7_has 103 = .ok (.ireturn, 1) := by decide +kernel
theorem dX7_has_104 : decode cX7_has 104 = .ok (.aload_n 0, 1) := by decide +kernel
theorem dX7_has_105 : decode cX7_has 105 = .ok (.iload_n 1, 1) := by decide +kernel
theorem dX7_has_106 : decode cX7_has 106 = .ok (.iload_n 2, 1) := by decide +kernel
theorem dX7_has_107 : decode cX7_has 107 = .ok (.invokevirtual 294, 3) := by decide +kernel
theorem dX7_has_110 : decode cX7_has 110 = .ok (.aload_n 0, 1) := by decide +kernel
theorem dX7_has_111 : decode cX7_has 111 = .ok (.getfield 28, 3) := by decide +kernel
theorem dX7_has_114 : decode cX7_has 114 = .ok (.iload_n 2, 1) := by decide +kernel
theorem dX7_has_115 : decode cX7_has 115 = .ok (.aaload, 1) := by decide +kernel
theorem dX7_has_116 : decode cX7_has 116 = .ok (.getfield 291, 3) := by decide +kernel
theorem dX7_has_119 : decode cX7_has 119 = .ok (.if_icmp .lt 7, 3) := by decide +kernel
theorem dX7_has_122 : decode cX7_has 122 = .ok (.iconst 1, 1) := by decide +kernel
theorem dX7_has_123 : decode cX7_has 123 = .ok (.goto 4, 3) := by decide +kernel
theorem dX7_has_126 : decode cX7_has 126 = .ok (.iconst 0, 1) := by decide +kernel
theorem dX7_has_127 : decode cX7_has 127 = .ok (.ireturn, 1) := by decide +kernel
theorem dX7_has_128 : decode cX7_has 128 = .ok (.iconst 1, 1) := by decide +kernel
theorem dX7_has_129 : decode cX7_has 129 = .ok (.ireturn, 1) := by decide +kernel
theorem dX7_piecesLetOut_0 : decode cX7_piecesLetOut 0 = .ok (.aload_n 0, 1) := by decide +kernel
theorem dX7_piecesLetOut_1 : decode cX7_piecesLetOut 1 = .ok (.getfield 45, 3) := by decide +kernel
theorem dX7_piecesLetOut_4 : decode cX7_piecesLetOut 4 = .ok (.iload_n 1, 1) := by decide +kernel
theorem dX7_piecesLetOut_5 : decode cX7_piecesLetOut 5 = .ok (.aaload, 1) := by decide +kernel
theorem dX7_piecesLetOut_6 : decode cX7_piecesLetOut 6 = .ok (.astore_n 3, 1) := by decide +kernel
theorem dX7_piecesLetOut_7 : decode cX7_piecesLetOut 7 = .ok (.aload_n 0, 1) := by decide +kernel
theorem dX7_piecesLetOut_8 : decode cX7_piecesLetOut 8 = .ok (.getfield 69, 3) := by decide +kernel
theorem dX7_piecesLetOut_11 : decode cX7_piecesLetOut 11 = .ok (.invokevirtual 297, 3) := by decide +kernel
theorem dX7_piecesLetOut_14 : decode cX7_piecesLetOut 14 = .ok (.iconst 0, 1) := by decide +kernel
theorem dX7_piecesLetOut_15 : decode cX7_piecesLetOut 15 = .ok (.istore 4, 2) := by decide +kernel
theorem dX7_piecesLetOut_17 : decode cX7_piecesLetOut 17 = .ok (.iload 4, 2) := by decide +kernel
theorem dX7_piecesLetOut_19 : decode cX7_piecesLetOut 19 = .ok (.iload_n 1, 1) := by decide +kernel
theorem dX7_piecesLetOut_20 : decode cX7_piecesLetOut 20 = .ok (.if_icmp .gt 69, 3) := by decide +kernel
theorem dX7_piecesLetOut_23 : decode cX7_piecesLetOut 23 = .ok (.aload_n 0, 1) := by decide +kernel
theorem dX7_piecesLetOut_24 : decode cX7_piecesLetOut 24 = .ok (.getfield 45, 3) := by decide +kernel
theorem dX7_piecesLetOut_27 : decode cX7_piecesLetOut 27 = .ok (.iload 4, 2) := by decide +kernel
theorem dX7_piecesLetOut_29 : decode cX7_piecesLetOut 29 = .ok (.aaload, 1) := by decide +kernel
theorem dX7_piecesLetOut_30 : decode cX7_piecesLetOut 30 = .ok (.astore 5, 2) := by decide +kernel
theorem dX7_piecesLetOut_32 : decode cX7_piecesLetOut 32 = .ok (.aload 5, 2) := by decide +kernel
theorem dX7_piecesLetOut_34 : decode cX7_piecesLetOut 34 = .ok (.getfield 188, 3) := by decide +kernel
theorem dX7_piecesLetOut_37 : decode cX7_piecesLetOut 37 = .ok (.aload_n 3, 1) := by decide +kernel
theorem dX7_piecesLetOut_38 : decode cX7_piecesLetOut 38 = .ok (.getfield 188, 3) := by decide +kernel
theorem dX7_piecesLetOut_41 : decode cX7_piecesLetOut 41 = .ok (.if_icmp .ne 42, 3) := by decide +kernel
theorem dX7_piecesLetOut_44 : decode cX7_piecesLetOut 44 = .ok (.aload_n 3, 1) := by decide +kernel
theorem dX7_piecesLetOut_45 : decode cX7_piecesLetOut 45 = .ok (.getfield 193, 3) := by decide +kernel
theorem dX7_piecesLetOut_48 : decode cX7_piecesLetOut 48 = .ok (.aload 5, 2) := by decide +kernel
theorem dX7_piecesLetOut_50 : decode cX7_piecesLetOut 50 = .ok (.getfield 193, 3) := by decide +kernel
theorem dX7_piecesLetOut_53 : decode cX7_piecesLetOut 53 = .ok (.isub, 1) := by decide +kernel
theorem dX7_piecesLetOut_54 : decode cX7_piecesLetOut 54 = .ok (.aload_n 0, 1) := by decide +kernel
theorem dX7_piecesLetOut_55 : decode cX7_piecesLetOut 55 = .ok (.getfield 28, 3) := by decide +kernel
theorem dX7_piecesLetOut_58 : decode cX7_piecesLetOut 58 = .ok (.iload_n 2, 1) := by decide +kernel
theorem dX7_piecesLetOut_59 : decode cX7_piecesLetOut 59 = .ok (.aaload, 1) := by decide +kernel
theorem dX7_piecesLetOut_60 : decode cX7_piecesLetOut 60 = .ok (.getfield 298, 3) := by decide +kernel
theorem dX7_piecesLetOut_63 : decode cX7_piecesLetOut 63 = .ok (.if_icmp .gt 20, 3) := by decide +kernel
theorem dX7_piecesLetOut_66 : decode cX7_piecesLetOut 66 = .ok (.aload_n 0, 1) := by decide +kernel
theorem dX7_piecesLetOut_67 : decode cX7_piecesLetOut 67 = .ok (.getfield 69, 3) := by decide +kernel
theorem dX7_piecesLetOut_70 : decode cX7_piecesLetOut 70 = .ok (.aload 5, 2) := by decide +kernel
theorem dX7_piecesLetOut_72 : decode cX7_piecesLetOut 72 = .ok (.getfield 265, 3) := by decide +kernel
theorem dX7_piecesLetOut_75 : decode cX7_piecesLetOut 75 = .ok (.iload_n 2, 1) := by decide +kernel
theorem dX7_piecesLetOut_76 : decode cX7_piecesLetOut 76 = .ok (.aaload, 1) := by decide +kernel
theorem dX7_piecesLetOut_77 : decode cX7_piecesLetOut 77 = .ok (.getfield 228, 3) := by decide +kernel
theorem dX7_piecesLetOut_80 : decode cX7_piecesLetOut 80 = .ok (.invokevirtual 301, 3) := by decide +kernel
theorem dX7_piecesLetOut_83 : decode cX7_piecesLetOut 83 = .ok (.iinc 4 1, 3) := by decide +kernel
theorem dX7_piecesLetOut_86 : decode cX7_piecesLetOut 86 = .ok (.goto (-69), 3) := by decide +kernel
theorem dX7_piecesLetOut_89 : decode cX7_piecesLetOut 89 = .ok (.aload_n 0, 1) := by decide +kernel
theorem dX7_piecesLetOut_90 : decode cX7_piecesLetOut 90 = .ok (.getfield 69, 3) := by decide +kernel
theorem dX7_piecesLetOut_93 : decode cX7_piecesLetOut 93 = .ok (.invokevirtual 231, 3) := by decide +kernel
theorem dX7_piecesLetOut_96 : decode cX7_piecesLetOut 96 = .ok (.ireturn, 1) := by decide +kernel
theorem dX7_letterAt_0 : decode cX7_letterAt 0 = .ok (.iload_n 1, 1) := by decide +kernel
theorem dX7_letterAt_1 : decode cX7_letterAt 1 = .ok (.iconst 0, 1) := by decide +kernel
theorem dX7_letterAt_2 : decode cX7_letterAt 2 = .ok (.aload_n 0, 1) := by decide +kernel
theorem dX7_letterAt_3 : decode cX7_letterAt 3 = .ok (.getfield 49, 3) := by decide +kernel
theorem dX7_letterAt_6 : decode cX7_letterAt 6 = .ok (.iconst 1, 1) := by decide +kernel
theorem dX7_letterAt_7 : decode cX7_letterAt 7 = .ok (.isub, 1) := by decide +kernel
theorem dX7_letterAt_8 : decode cX7_letterAt 8 = .ok (.invokestatic 79, 3) := by decide +kernel
theorem dX7_letterAt_11 : decode cX7_letterAt 11 = .ok (.ifCond .eq 12, 3) := by decide +kernel
theorem dX7_letterAt_14 : decode cX7_letterAt 14 = .ok (.aload_n 0, 1) := by decide +kernel
theorem dX7_letterAt_15 : decode cX7_letterAt 15 = .ok (.getfield 45, 3) := by decide +kernel
theorem dX7_letterAt_18 : decode cX7_letterAt 18 = .ok (.iload_n 1, 1) := by decide +kernel
theorem dX7_letterAt_19 : decode cX7_letterAt 19 = .ok (.aaload, 1) := by decide +kernel
theorem dX7_letterAt_20 : decode cX7_letterAt 20 = .ok (.goto 4, 3) := by decide +kernel
theorem dX7_letterAt_23 : decode cX7_letterAt 23 = .ok (.aconst_null, 1) := by decide +kernel
theorem dX7_letterAt_24 : decode cX7_letterAt 24 = .ok (.areturn, 1) := by decide +kernel
theorem dX7_firstRule_0 : decode cX7_firstRule 0 = .ok (.aload_n 0, 1) := by decide +kernel
theorem dX7_firstRule_1 : decode cX7_firstRule 1 = .ok (.getfield 45, 3) := by decide +kernel
theorem dX7_firstRule_4 : decode cX7_firstRule 4 = .ok (.iload_n 2, 1) := by decide +kernel
theorem dX7_firstRule_5 : decode cX7_firstRule 5 = .ok (.aaload, 1) := by decide +kernel
theorem dX7_firstRule_6 : decode cX7_firstRule 6 = .ok (.astore_n 3, 1) := by decide +kernel
theorem dX7_firstRule_7 : decode cX7_firstRule 7 = .ok (.iconst 0, 1) := by decide +kernel
theorem dX7_firstRule_8 : decode cX7_firstRule 8 = .ok (.istore 4, 2) := by decide +kernel
theorem dX7_firstRule_10 : decode cX7_firstRule 10 = .ok (.iload 4, 2) := by decide +kernel
theorem dX7_firstRule_12 : decode cX7_firstRule 12 = .ok (.aload_n 1, 1) := by decide +kernel
theorem dX7_firstRule_13 : decode cX7_firstRule 13 = .ok (.getfield 124, 3) := by decide +kernel
theorem dX7_firstRule_16 : decode cX7_firstRule 16 = .ok (.if_icmp .ge 47, 3) := by decide +kernel
theorem dX7_firstRule_19 : decode cX7_firstRule 19 = .ok (.aload_n 1, 1) := by decide +kernel
theorem dX7_firstRule_20 : decode cX7_firstRule 20 = .ok (.iload 4, 2) := by decide +kernel
theorem dX7_firstRule_22 : decode cX7_firstRule 22 = .ok (.invokevirtual 143, 3) := by decide +kernel
theorem dX7_firstRule_25 : decode cX7_firstRule 25 = .ok (.astore 5, 2) := by decide +kernel
theorem dX7_firstRule_27 : decode cX7_firstRule 27 = .ok (.aload 5, 2) := by decide +kernel
theorem dX7_firstRule_29 : decode cX7_firstRule 29 = .ok (.ifnull 28, 3) := by decide +kernel
theorem dX7_firstRule_32 : decode cX7_firstRule 32 = .ok (.aload 5, 2) := by decide +kernel
theorem dX7_firstRule_34 : decode cX7_firstRule 34 = .ok (.aload_n 3, 1) := by decide +kernel
theorem dX7_firstRule_35 : decode cX7_firstRule 35 = .ok (.invokevirtual 305, 3) := by decide +kernel
theorem dX7_firstRule_38 : decode cX7_firstRule 38 = .ok (.ifCond .eq 19, 3) := by decide +kernel
theorem dX7_firstRule_41 : decode cX7_firstRule 41 = .ok (.aload_n 0, 1) := by decide +kernel
theorem dX7_firstRule_42 : decode cX7_firstRule 42 = .ok (.iload_n 2, 1) := by decide +kernel
theorem dX7_firstRule_43 : decode cX7_firstRule 43 = .ok (.aload 5, 2) := by decide +kernel
theorem dX7_firstRule_45 : decode cX7_firstRule 45 = .ok (.getfield 150, 3) := by decide +kernel
theorem dX7_firstRule_48 : decode cX7_firstRule 48 = .ok (.invokevirtual 309, 3) := by decide +kernel
theorem dX7_firstRule_51 : decode cX7_firstRule 51 = .ok (.ifCond .eq 6, 3) := by decide +kernel
theorem dX7_firstRule_54 : decode cX7_firstRule 54 = .ok (.aload 5, 2) := by decide +kernel
theorem dX7_firstRule_56 : decode cX7_firstRule 56 = .ok (.areturn, 1) := by decide +kernel
theorem dX7_firstRule_57 : decode cX7_firstRule 57 = .ok (.iinc 4 1, 3) := by decide +kernel
theorem dX7_firstRule_60 : decode cX7_firstRule 60 = .ok (.goto (-50), 3) := by decide +kernel
theorem dX7_firstRule_63 : decode cX7_firstRule 63 = .ok (.aconst_null, 1) := by decide +kernel
theorem dX7_firstRule_64 : decode cX7_firstRule 64 = .ok (.areturn, 1) := by decide +kernel
theorem dX7_deal_0 : decode cX7_deal 0 = .ok (.aload_n 2, 1) := by decide +kernel
theorem dX7_deal_1 : decode cX7_deal 1 = .ok (.ifnonnull 4, 3) := by decide +kernel
theorem dX7_deal_4 : decode cX7_deal 4 = .ok (.return_, 1) := by decide +kernel
theorem dX7_deal_5 : decode cX7_deal 5 = .ok (.new 59, 3) := by decide +kernel
theorem dX7_deal_8 : decode cX7_deal 8 = .ok (.dup, 1) := by decide +kernel
theorem dX7_deal_9 : decode cX7_deal 9 = .ok (.aload_n 1, 1) := by decide +kernel
theorem dX7_deal_10 : decode cX7_deal 10 = .ok (.getfield 265, 3) := by decide +kernel
theorem dX7_deal_13 : decode cX7_deal 13 = .ok (.aload_n 2, 1) := by decide +kernel
theorem dX7_deal_14 : decode cX7_deal 14 = .ok (.getfield 150, 3) := by decide +kernel
theorem dX7_deal_17 : decode cX7_deal 17 = .ok (.aaload, 1) := by decide +kernel
theorem dX7_deal_18 : decode cX7_deal 18 = .ok (.getfield 202, 3) := by decide +kernel
theorem dX7_deal_21 : decode cX7_deal 21 = .ok (.invokespecial 61, 3) := by decide +kernel
theorem dX7_deal_24 : decode cX7_deal 24 = .ok (.astore_n 3, 1) := by decide +kernel
theorem dX7_deal_25 : decode cX7_deal 25 = .ok (.aload_n 0, 1) := by decide +kernel
theorem dX7_deal_26 : decode cX7_deal 26 = .ok (.aload_n 0, 1) := by decide +kernel
theorem dX7_deal_27 : decode cX7_deal 27 = .ok (.getfield 28, 3) := by decide +kernel
theorem dX7_deal_30 : decode cX7_deal 30 = .ok (.aload_n 2, 1) := by decide +kernel
theorem dX7_deal_31 : decode cX7_deal 31 = .ok (.getfield 150, 3) := by decide +kernel
theorem dX7_deal_34 : decode cX7_deal 34 = .ok (.aaload, 1) := by decide +kernel
theorem dX7_deal_35 : decode cX7_deal 35 = .ok (.aload_n 1, 1) := by decide +kernel
theorem dX7_deal_36 : decode cX7_deal 36 = .ok (.getfield 269, 3) := by decide +kernel
theorem dX7_deal_39 : decode cX7_deal 39 = .ok (.aload_n 3, 1) := by decide +kernel
theorem dX7_deal_40 : decode cX7_deal 40 = .ok (.invokevirtual 272, 3) := by decide +kernel
theorem dX7_deal_43 : decode cX7_deal 43 = .ok (.aload_n 1, 1) := by decide +kernel
theorem dX7_deal_44 : decode cX7_deal 44 = .ok (.aload_n 2, 1) := by decide +kernel
theorem dX7_deal_45 : decode cX7_deal 45 = .ok (.getfield 147, 3) := by decide +kernel
theorem dX7_deal_48 : decode cX7_deal 48 = .ok (.putfield 194, 3) := by decide +kernel
theorem dX7_deal_51 : decode cX7_deal 51 = .ok (.aload_n 1, 1) := by decide +kernel
theorem dX7_deal_52 : decode cX7_deal 52 = .ok (.aload_n 2, 1) := by decide +kernel
theorem dX7_deal_53 : decode cX7_deal 53 = .ok (.getfield 150, 3) := by decide +kernel
theorem dX7_deal_56 : decode cX7_deal 56 = .ok (.putfield 195, 3) := by decide +kernel
theorem dX7_deal_59 : decode cX7_deal 59 = .ok (.aload_n 1, 1) := by decide +kernel
theorem dX7_deal_60 : decode cX7_deal 60 = .ok (.aload_n 3, 1) := by decide +kernel
theorem dX7_deal_61 : decode cX7_deal 61 = .ok (.putfield 199, 3) := by decide +kernel
theorem dX7_deal_64 : decode cX7_deal 64 = .ok (.aload_n 2, 1) := by decide +kernel
theorem dX7_deal_65 : decode cX7_deal 65 = .ok (.getfield 147, 3) := by decide +kernel
theorem dX7_deal_68 : decode cX7_deal 68 = .ok (.iconst 2, 1) := by decide +kernel
theorem dX7_deal_69 : decode cX7_deal 69 = .ok (.if_icmp .ne 15, 3) := by decide +kernel
theorem dX7_deal_72 : decode cX7_deal 72 = .ok (.aload_n 1, 1) := by decide +kernel
theorem dX7_deal_73 : decode cX7_deal 73 = .ok (.aload_n 3, 1) := by decide +kernel
theorem dX7_deal_74 : decode cX7_deal 74 = .ok (.aload_n 1, 1) := by decide +kernel
theorem dX7_deal_75 : decode cX7_deal 75 = .ok (.getfield 196, 3) := by decide +kernel
theorem dX7_deal_78 : decode cX7_deal 78 = .ok (.invokevirtual 313, 3) := by decide +kernel
theorem dX7_deal_81 : decode cX7_deal 81 = .ok (.putfield 205, 3) := by decide +kernel
theorem dX7_deal_84 : decode cX7_deal 84 = .ok (.aload_n 2, 1) := by decide +kernel
theorem dX7_deal_85 : decode cX7_deal 85 = .ok (.getfield 147, 3) := by decide +kernel
theorem dX7_deal_88 : decode cX7_deal 88 = .ok (.iconst 3, 1) := by decide +kernel
theorem dX7_deal_89 : decode cX7_deal 89 = .ok (.if_icmp .eq 11, 3) := by decide +kernel
theorem dX7_deal_92 : decode cX7_deal 92 = .ok (.aload_n 2, 1) := by decide +kernel
theorem dX7_deal_93 : decode cX7_deal 93 = .ok (.getfield 147, 3) := by decide +kernel
theorem dX7_deal_96 : decode cX7_deal 96 = .ok (.iconst 4, 1) := by decide +kernel
theorem dX7_deal_97 : decode cX7_deal 97 = .ok (.if_icmp .ne 8, 3) := by decide +kernel
theorem dX7_deal_100 : decode cX7_deal 100 = .ok (.aload_n 1, 1) := by decide +kernel
theorem dX7_deal_101 : decode cX7_deal 101 = .ok (.iconst 1, 1) := by decide +kernel
theorem dX7_deal_102 : decode cX7_deal 102 = .ok (.putfield 185, 3) := by decide +kernel
theorem dX7_deal_105 : decode cX7_deal 105 = .ok (.return_, 1) := by decide +kernel
theorem dX7_setTrial_0 : decode cX7_setTrial 0 = .ok (.aload_n 0, 1) := by decide +kernel
theorem dX7_setTrial_1 : decode cX7_setTrial 1 = .ok (.iload_n 1, 1) := by decide +kernel
theorem dX7_setTrial_2 : decode cX7_setTrial 2 = .ok (.iload_n 2, 1) := by decide +kernel
theorem dX7_setTrial_3 : decode cX7_setTrial 3 = .ok (.iload_n 3, 1) := by decide +kernel
theorem dX7_setTrial_4 : decode cX7_setTrial 4 = .ok (.iload 4, 2) := by decide +kernel
theorem dX7_setTrial_6 : decode cX7_setTrial 6 = .ok (.iload 5, 2) := by decide +kernel
theorem dX7_setTrial_8 : decode cX7_setTrial 8 = .ok (.invokevirtual 127, 3) := by decide +kernel
theorem dX7_setTrial_11 : decode cX7_setTrial 11 = .ok (.ifCond .ne 5, 3) := by decide +kernel
theorem dX7_setTrial_14 : decode cX7_setTrial 14 = .ok (.iconst 0, 1) := by decide +kernel
theorem dX7_setTrial_15 : decode cX7_setTrial 15 = .ok (.ireturn, 1) := by decide +kernel
theorem dX7_setTrial_16 : decode cX7_setTrial 16 = .ok (.aload_n 0, 1) := by decide +kernel
theorem dX7_setTrial_17 : decode cX7_setTrial 17 = .ok (.invokevirtual 170, 3) := by decide +kernel
theorem dX7_setTrial_20 : decode cX7_setTrial 20 = .ok (.aload_n 0, 1) := by decide +kernel
theorem dX7_setTrial_21 : decode cX7_setTrial 21 = .ok (.getfield 73, 3) := by decide +kernel
theorem dX7_setTrial_24 : decode cX7_setTrial 24 = .ok (.aload_n 0, 1) := by decide +kernel
theorem dX7_setTrial_25 : decode cX7_setTrial 25 = .ok (.getfield 39, 3) := by decide +kernel
theorem dX7_setTrial_28 : decode cX7_setTrial 28 = .ok (.iload_n 1, 1) := by decide +kernel
theorem dX7_setTrial_29 : decode cX7_setTrial 29 = .ok (.new 131, 3) := by decide +kernel
theorem dX7_setTrial_32 : decode cX7_setTrial 32 = .ok (.dup, 1) := by decide +kernel
theorem dX7_setTrial_33 : decode cX7_setTrial 33 = .ok (.iload_n 2, 1) := by decide +kernel
theorem dX7_setTrial_34 : decode cX7_setTrial 34 = .ok (.iload_n 3, 1) := by decide +kernel
theorem dX7_setTrial_35 : decode cX7_setTrial 35 = .ok (.iload 4, 2) := by decide +kernel
theorem dX7_setTrial_37 : decode cX7_setTrial 37 = .ok (.iload 5, 2) := by decide +kernel
theorem dX7_setTrial_39 : decode cX7_setTrial 39 = .ok (.invokespecial 133, 3) := by decide +kernel
theorem dX7_setTrial_42 : decode cX7_setTrial 42 = .ok (.invokevirtual 317, 3) := by decide +kernel
theorem dX7_setTrial_45 : decode cX7_setTrial 45 = .ok (.iconst 1, 1) := by decide +kernel
theorem dX7_setTrial_46 : decode cX7_setTrial 46 = .ok (.ireturn, 1) := by decide +kernel
theorem dX7_isOtherByTrial_0 : decode cX7_isOtherByTrial 0 = .ok (.aload_n 0, 1) := by decide +kernel
theorem dX7_isOtherByTrial_1 : decode cX7_isOtherByTrial 1 = .ok (.aload_n 0, 1) := by decide +kernel
theorem dX7_isOtherByTrial_2 : decode cX7_isOtherByTrial 2 = .ok (.getfield 73, 3) := by decide +kernel
theorem dX7_isOtherByTrial_5 : decode cX7_isOtherByTrial 5 = .ok (.iload_n 1, 1) := by decide +kernel
theorem dX7_isOtherByTrial_6 : decode cX7_isOtherByTrial 6 = .ok (.invokevirtual 173, 3) := by decide +kernel
theorem dX7_isOtherByTrial_9 : decode cX7_isOtherByTrial 9 = .ok (.astore_n 2, 1) := by decide +kernel
theorem dX7_isOtherByTrial_10 : decode cX7_isOtherByTrial 10 = .ok (.aload_n 2, 1) := by decide +kernel
theorem dX7_isOtherByTrial_11 : decode cX7_isOtherByTrial 11 = .ok (.ifnonnull 7, 3) := by decide +kernel
theorem dX7_isOtherByTrial_14 : decode cX7_isOtherByTrial 14 = .ok (.iconst 0, 1) := by decide +kernel
theorem dX7_isOtherByTrial_15 : decode cX7_isOtherByTrial 15 = .ok (.goto 7, 3) := by decide +kernel
theorem dX7_isOtherByTrial_18 : decode cX7_isOtherByTrial 18 = .ok (.aload_n 2, 1) := by decide +kernel
theorem dX7_isOtherByTrial_19 : decode cX7_isOtherByTrial 19 = .ok (.getfield 147, 3) := by decide +kernel
theorem dX7_isOtherByTrial_22 : decode cX7_isOtherByTrial 22 = .ok (.istore_n 3, 1) := by decide +kernel
theorem dX7_isOtherByTrial_23 : decode cX7_isOtherByTrial 23 = .ok (.iload_n 3, 1) := by decide +kernel
theorem dX7_isOtherByTrial_24 : decode cX7_isOtherByTrial 24 = .ok (.aload_n 0, 1) := by decide +kernel
theorem dX7_isOtherByTrial_25 : decode cX7_isOtherByTrial 25 = .ok (.getfield 45, 3) := by decide +kernel
theorem dX7_isOtherByTrial_28 : decode cX7_isOtherByTrial 28 = .ok (.iload_n 1, 1) := by decide +kernel
theorem dX7_isOtherByTrial_29 : decode cX7_isOtherByTrial 29 = .ok (.aaload, 1) := by decide +kernel
theorem dX7_isOtherByTrial_30 : decode cX7_isOtherByTrial 30 = .ok (.getfield 194, 3) := by decide +kernel
theorem dX7_isOtherByTrial_33 : decode cX7_isOtherByTrial 33 = .ok (.if_icmp .eq 7, 3) := by decide +kernel
theorem dX7_isOtherByTrial_36 : decode cX7_isOtherByTrial 36 = .ok (.iconst 1, 1) := by decide +kernel
theorem dX7_isOtherByTrial_37 : decode cX7_isOtherByTrial 37 = .ok (.goto 4, 3) := by decide +kernel
theorem dX7_isOtherByTrial_40 : decode cX7_isOtherByTrial 40 = .ok (.iconst 0, 1) := by decide +kernel
theorem dX7_isOtherByTrial_41 : decode cX7_isOtherByTrial 41 = .ok (.ireturn, 1) := by decide +kernel
theorem dX7_lettersOfFate_0 : decode cX7_lettersOfFate 0 = .ok (.iconst 0, 1) := by decide +kernel
theorem dX7_lettersOfFate_1 : decode cX7_lettersOfFate 1 = .ok (.istore_n 2, 1) := by decide +kernel
theorem dX7_lettersOfFate_2 : decode cX7_lettersOfFate 2 = .ok (.iconst 0, 1) := by decide +kernel
theorem dX7_lettersOfFate_3 : decode cX7_lettersOfFate 3 = .ok (.istore_n 3, 1) := by decide +kernel
theorem dX7_lettersOfFate_4 : decode cX7_lettersOfFate 4 = .ok (.iload_n 3, 1) := by decide +kernel
theorem dX7_lettersOfFate_5 : decode cX7_lettersOfFate 5 = .ok (.aload_n 0, 1) := by decide +kernel
theorem dX7_lettersOfFate_6 : decode cX7_lettersOfFate 6 = .ok (.getfield 49, 3) := by decide +kernel
theorem dX7_lettersOfFate_9 : decode cX7_lettersOfFate 9 = .ok (.if_icmp .ge 25, 3) := by decide +kernel
theorem dX7_lettersOfFate_12 : decode cX7_lettersOfFate 12 = .ok (.aload_n 0, 1) := by decide +kernel
theorem dX7_lettersOfFate_13 : decode cX7_lettersOfFate 13 = .ok (.getfield 45, 3) := by decide +kernel
theorem dX7_lettersOfFate_16 : decode cX7_lettersOfFate 16 = .ok (.iload_n 3, 1) := by decide +kernel
theorem dX7_lettersOfFate_17 : decode cX7_lettersOfFate 17 = .ok (.aaload, 1) := by decide +kernel
theorem dX7_lettersOfFate_18 : decode cX7_lettersOfFate 18 = .ok (.getfield 185, 3) := by decide +kernel
theorem dX7_lettersOfFate_21 : decode cX7_lettersOfFate 21 = .ok (.iload_n 1, 1) := by decide +kernel
theorem dX7_lettersOfFate_22 : decode cX7_lettersOfFate 22 = .ok (.if_icmp .ne 6, 3) := by decide +kernel
theorem dX7_lettersOfFate_25 : decode cX7_lettersOfFate 25 = .ok (.iinc 2 1, 3) := by decide +kernel
theorem dX7_lettersOfFate_28 : decode cX7_lettersOfFate 28 = .ok (.iinc 3 1, 3) := by decide +kernel
theorem dX7_lettersOfFate_31 : decode cX7_lettersOfFate 31 = .ok (.goto (-27), 3) := by decide +kernel
theorem dX7_lettersOfFate_34 : decode cX7_lettersOfFate 34 = .ok (.iload_n 2, 1) := by decide +kernel
theorem dX7_lettersOfFate_35 : decode cX7_lettersOfFate 35 = .ok (.ireturn, 1) := by decide +kernel
theorem dX7_lettersThatWereTold_0 : decode cX7_lettersThatWereTold 0 = .ok (.iconst 0, 1) := by decide +kernel
theorem dX7_lettersThatWereTold_1 : decode cX7_lettersThatWereTold 1 = .ok (.istore_n 1, 1) := by decide +kernel
theorem dX7_lettersThatWereTold_2 : decode cX7_lettersThatWereTold 2 = .ok (.iconst 0, 1) := by decide +kernel
theorem dX7_lettersThatWereTold_3 : decode cX7_lettersThatWereTold 3 = .ok (.istore_n 2, 1) := by decide +kernel
theorem dX7_lettersThatWereTold_4 : decode cX7_lettersThatWereTold 4 = .ok (.iload_n 2, 1) := by decide +kernel
theorem dX7_lettersThatWereTold_5 : decode cX7_lettersThatWereTold 5 = .ok (.aload_n 0, 1) := by decide +kernel
theorem dX7_lettersThatWereTold_6 : decode cX7_lettersThatWereTold 6 = .ok (.getfield 49, 3) := by decide +kernel
theorem dX7_lettersThatWereTold_9 : decode cX7_lettersThatWereTold 9 = .ok (.if_icmp .ge 25, 3) := by decide +kernel
theorem dX7_lettersThatWereTold_12 : decode cX7_lettersThatWereTold 12 = .ok (.aload_n 0, 1) := by decide +kernel
theorem dX7_lettersThatWereTold_13 : decode cX7_lettersThatWereTold 13 = .ok (.getfield 45, 3) := by decide +kernel
theorem dX7_lettersThatWereTold_16 : decode cX7_lettersThatWereTold 16 = .ok (.iload_n 2, 1) := by decide +kernel
theorem dX7_lettersThatWereTold_17 : decode cX7_lettersThatWereTold 17 = .ok (.aaload, 1) := by decide +kernel
theorem dX7_lettersThatWereTold_18 : decode cX7_lettersThatWereTold 18 = .ok (.getfield 194, 3) := by decide +kernel
theorem dX7_lettersThatWereTold_21 : decode cX7_lettersThatWereTold 21 = .ok (.iconst 1, 1) := by decide +kernel
theorem dX7_lettersThatWereTold_22 : decode cX7_lettersThatWereTold 22 = .ok (.if_icmp .ne 6, 3) := by decide +kernel
theorem dX7_lettersThatWereTold_25 : decode cX7_lettersThatWereTold 25 = .ok (.iinc 1 1, 3) := by decide +kernel
theorem dX7_lettersThatWereTold_28 : decode cX7_lettersThatWereTold 28 = .ok (.iinc 2 1, 3) := by decide +kernel
theorem dX7_lettersThatWereTold_31 : decode cX7_lettersThatWereTold 31 = .ok (.goto (-27), 3) := by decide +kernel
theorem dX7_lettersThatWereTold_34 : decode cX7_lettersThatWereTold 34 = .ok (.iload_n 1, 1) := by decide +kernel
theorem dX7_lettersThatWereTold_35 : decode cX7_lettersThatWereTold 35 = .ok (.ireturn, 1) := by decide +kernel
theorem dX7_leastShared_0 : decode cX7_leastShared 0 = .ok (.iload_n 0, 1) := by decide +kernel
theorem dX7_leastShared_1 : decode cX7_leastShared 1 = .ok (.iconst (-1), 1) := by decide +kernel
theorem dX7_leastShared_2 : decode cX7_leastShared 2 = .ok (.if_icmp .ne 9, 3) := by decide +kernel
theorem dX7_leastShared_5 : decode cX7_leastShared 5 = .ok (.iload_n 1, 1) := by decide +kernel
theorem dX7_leastShared_6 : decode cX7_leastShared 6 = .ok (.iconst 0, 1) := by decide +kernel
theorem dX7_leastShared_7 : decode cX7_leastShared 7 = .ok (.invokestatic 321, 3) := by decide +kernel
theorem dX7_leastShared_10 : decode cX7_leastShared 10 = .ok (.ireturn, 1) := by decide +kernel
theorem dX7_leastShared_11 : decode cX7_leastShared 11 = .ok (.iload_n 1, 1) := by decide +kernel
theorem dX7_leastShared_12 : decode cX7_leastShared 12 = .ok (.iconst (-1), 1) := by decide +kernel
theorem dX7_leastShared_13 : decode cX7_leastShared 13 = .ok (.if_icmp .eq 8, 3) := by decide +kernel
theorem dX7_leastShared_16 : decode cX7_leastShared 16 = .ok (.iload_n 1, 1) := by decide +kernel
theorem dX7_leastShared_17 : decode cX7_leastShared 17 = .ok (.iload_n 0, 1) := by decide +kernel
theorem dX7_leastShared_18 : decode cX7_leastShared 18 = .ok (.if_icmp .ne 7, 3) := by decide +kernel
theorem dX7_leastShared_21 : decode cX7_leastShared 21 = .ok (.iload_n 0, 1) := by decide +kernel
theorem dX7_leastShared_22 : decode cX7_leastShared 22 = .ok (.goto 4, 3) := by decide +kernel
theorem dX7_leastShared_25 : decode cX7_leastShared 25 = .ok (.iconst (-1), 1) := by decide +kernel
theorem dX7_leastShared_26 : decode cX7_leastShared 26 = .ok (.ireturn, 1) := by decide +kernel
theorem dX8_init_0 : decode cX8_init 0 = .ok (.aload_n 0, 1) := by decide +kernel
theorem dX8_init_1 : decode cX8_init 1 = .ok (.invokespecial 1, 3) := by decide +kernel
theorem dX8_init_4 : decode cX8_init 4 = .ok (.aload_n 0, 1) := by decide +kernel
theorem dX8_init_5 : decode cX8_init 5 = .ok (.sipush 300, 3) := by decide +kernel
theorem dX8_init_8 : decode cX8_init 8 = .ok (.newarray .int, 2) := by decide +kernel
theorem dX8_init_10 : decode cX8_init 10 = .ok (.putfield 9, 3) := by decide +kernel
theorem dX8_init_13 : decode cX8_init 13 = .ok (.aload_n 0, 1) := by decide +kernel
theorem dX8_init_14 : decode cX8_init 14 = .ok (.sipush 300, 3) := by decide +kernel
theorem dX8_init_17 : decode cX8_init 17 = .ok (.newarray .int, 2) := by decide +kernel
theorem dX8_init_19 : decode cX8_init 19 = .ok (.putfield 13, 3) := by decide +kernel
theorem dX8_init_22 : decode cX8_init 22 = .ok (.aload_n 0, 1) := by decide +kernel
theorem dX8_init_23 : decode cX8_init 23 = .ok (.sipush 300, 3) := by decide +kernel
theorem dX8_init_26 : decode cX8_init 26 = .ok (.newarray .int, 2) := by decide +kernel
theorem dX8_init_28 : decode cX8_init 28 = .ok (.putfield 16, 3) := by decide +kernel
theorem dX8_init_31 : decode cX8_init 31 = .ok (.aload_n 0, 1) := by decide +kernel
theorem dX8_init_32 : decode cX8_init 32 = .ok (.sipush 300, 3) := by decide +kernel
theorem dX8_init_35 : decode cX8_init 35 = .ok (.newarray .int, 2) := by decide +kernel
theorem dX8_init_37 : decode cX8_init 37 = .ok (.putfield 19, 3) := by decide +kernel
theorem dX8_init_40 : decode cX8_init 40 = .ok (.aload_n 0, 1) := by decide +kernel
theorem dX8_init_41 : decode cX8_init 41 = .ok (.sipush 300, 3) := by decide +kernel
theorem dX8_init_44 : decode cX8_init 44 = .ok (.newarray .int, 2) := by decide +kernel
theorem dX8_init_46 : decode cX8_init 46 = .ok (.putfield 22, 3) := by decide +kernel
theorem dX8_init_49 : decode cX8_init 49 = .ok (.aload_n 0, 1) := by decide +kernel
theorem dX8_init_50 : decode cX8_init 50 = .ok (.sipush 300, 3) := by decide +kernel
theorem dX8_init_53 : decode cX8_init 53 = .ok (.newarray .int, 2) := by decide +kernel
theorem dX8_init_55 : decode cX8_init 55 = .ok (.putfield 25, 3) := by decide +kernel
theorem dX8_init_58 : decode cX8_init 58 = .ok (.aload_n 0, 1) := by decide +kernel
theorem dX8_init_59 : decode cX8_init 59 = .ok (.sipush 300, 3) := by decide +kernel
theorem dX8_init_62 : decode cX8_init 62 = .ok (.newarray .int, 2) := by decide +kernel
theorem dX8_init_64 : decode cX8_init 64 = .ok (.putfield 28, 3) := by decide +kernel
theorem dX8_init_67 : decode cX8_init 67 = .ok (.aload_n 0, 1) := by decide +kernel
theorem dX8_init_68 : decode cX8_init 68 = .ok (.sipush 300, 3) := by decide +kernel
theorem dX8_init_71 : decode cX8_init 71 = .ok (.newarray .int, 2) := by decide +kernel
theorem dX8_init_73 : decode cX8_init 73 = .ok (.putfield 31, 3) := by decide +kernel
theorem dX8_init_76 : decode cX8_init 76 = .ok (.aload_n 0, 1) := by decide +kernel
theorem dX8_init_77 : decode cX8_init 77 = .ok (.sipush 2400, 3) := by decide +kernel
theorem dX8_init_80 : decode cX8_init 80 = .ok (.newarray .int, 2) := by decide +kernel
theorem dX8_init_82 : decode cX8_init 82 = .ok (.putfield 34, 3) := by decide +kernel
theorem dX8_init_85 : decode cX8_init 85 = .ok (.aload_n 0, 1) := by decide +kernel
theorem dX8_init_86 : decode cX8_init 86 = .ok (.sipush 2400, 3) := by decide +kernel
theorem dX8_init_89 : decode cX8_init 89 = .ok (.newarray .int, 2) := by decide +kernel
theorem dX8_init_91 : decode cX8_init 91 = .ok (.putfield 37, 3) := by decide +kernel
theorem dX8_init_94 : decode cX8_init 94 = .ok (.aload_n 0, 1) := by decide +kernel
theorem dX8_init_95 : decode cX8_init 95 = .ok (.sipush 2400, 3) := by decide +kernel
theorem dX8_init_98 : decode cX8_init 98 = .ok (.newarray .int, 2) := by decide +kernel
theorem dX8_init_100 : decode cX8_init 100 = .ok (.putfield 40, 3) := by decide +kernel
theorem dX8_init_103 : decode cX8_init 103 = .ok (.aload_n 0, 1) := by decide +kernel
theorem dX8_init_104 : decode cX8_init 104 = .ok (.bipush 8, 2) := by decide +kernel
theorem dX8_init_106 : decode cX8_init 106 = .ok (.newarray .int, 2) := by decide +kernel
theorem dX8_init_108 : decode cX8_init 108 = .ok (.putfield 43, 3) := by decide +kernel
theorem dX8_init_111 : decode cX8_init 111 = .ok (.aload_n 0, 1) := by decide +kernel
theorem dX8_init_112 : decode cX8_init 112 = .ok (.sipush 300, 3) := by decide +kernel
theorem dX8_init_115 : decode cX8_init 115 = .ok (.newarray .boolean, 2) := by decide +kernel
theorem dX8_init_117 : decode cX8_init 117 = .ok (.putfield 46, 3) := by decide +kernel
theorem dX8_init_120 : decode cX8_init 120 = .ok (.aload_n 0, 1) := by decide +kernel
theorem dX8_init_121 : decode cX8_init 121 = .ok (.bipush 8, 2) := by decide +kernel
theorem dX8_init_123 : decode cX8_init 123 = .ok (.newarray .int, 2) := by decide +kernel
theorem dX8_init_125 : decode cX8_init 125 = .ok (.putfield 50, 3) := by decide +kernel
theorem dX8_init_128 : decode cX8_init 128 = .ok (.aload_n 0, 1) := by decide +kernel
theorem dX8_init_129 : decode cX8_init 129 = .ok (.sipush 2400, 3) := by decide +kernel
theorem dX8_init_132 : decode cX8_init 132 = .ok (.newarray .int, 2) := by decide +kernel
theorem dX8_init_134 : decode cX8_init 134 = .ok (.putfield 53, 3) := by decide +kernel
theorem dX8_init_137 : decode cX8_init 137 = .ok (.aload_n 0, 1) := by decide +kernel
theorem dX8_init_138 : decode cX8_init 138 = .ok (.bipush 8, 2) := by decide +kernel
theorem dX8_init_140 : decode cX8_init 140 = .ok (.newarray .int, 2) := by decide +kernel
theorem dX8_init_142 : decode cX8_init 142 = .ok (.putfield 56, 3) := by decide +kernel
theorem dX8_init_145 : decode cX8_init 145 = .ok (.aload_n 0, 1) := by decide +kernel
theorem dX8_init_146 : decode cX8_init 146 = .ok (.bipush 8, 2) := by decide +kernel
theorem dX8_init_148 : decode cX8_init 148 = .ok (.newarray .int, 2) := by decide +kernel
theorem dX8_init_150 : decode cX8_init 150 = .ok (.putfield 59, 3) := by decide +kernel
theorem dX8_init_153 : decode cX8_init 153 = .ok (.aload_n 0, 1) := by decide +kernel
theorem dX8_init_154 : decode cX8_init 154 = .ok (.bipush 8, 2) := by decide +kernel
theorem dX8_init_156 : decode cX8_init 156 = .ok (.newarray .int, 2) := by decide +kernel
theorem dX8_init_158 : decode cX8_init 158 = .ok (.putfield 62, 3) := by decide +kernel
theorem dX8_init_161 : decode cX8_init 161 = .ok (.aload_n 0, 1) := by decide +kernel
theorem dX8_init_162 : decode cX8_init 162 = .ok (.bipush 8, 2) := by decide +kernel
theorem dX8_init_164 : decode cX8_init 164 = .ok (.newarray .int, 2) := by decide +kernel
theorem dX8_init_166 : decode cX8_init 166 = .ok (.putfield 65, 3) := by decide +kernel
theorem dX8_init_169 : decode cX8_init 169 = .ok (.aload_n 0, 1) := by decide +kernel
theorem dX8_init_170 : decode cX8_init 170 = .ok (.bipush 8, 2) := by decide +kernel
theorem dX8_init_172 : decode cX8_init 172 = .ok (.newarray .int, 2) := by decide +kernel
theorem dX8_init_174 : decode cX8_init 174 = .ok (.putfield 68, 3) := by decide +kernel
theorem dX8_init_177 : decode cX8_init 177 = .ok (.aload_n 0, 1) := by decide +kernel
theorem dX8_init_178 : decode cX8_init 178 = .ok (.sipush 800, 3) := by decide +kernel
theorem dX8_init_181 : decode cX8_init 181 = .ok (.newarray .boolean, 2) := by decide +kernel
theorem dX8_init_183 : decode cX8_init 183 = .ok (.putfield 71, 3) := by decide +kernel
theorem dX8_init_186 : decode cX8_init 186 = .ok (.aload_n 0, 1) := by decide +kernel
theorem dX8_init_187 : decode cX8_init 187 = .ok (.sipush 18000, 3) := by decide +kernel
theorem dX8_init_190 : decode cX8_init 190 = .ok (.newarray .int, 2) := by decide +kernel
theorem dX8_init_192 : decode cX8_init 192 = .ok (.putfield 74, 3) := by decide +kernel
theorem dX8_init_195 : decode cX8_init 195 = .ok (.aload_n 0, 1) := by decide +kernel
theorem dX8_init_196 : decode cX8_init 196 = .ok (.bipush 60, 2) := by decide +kernel
theorem dX8_init_198 : decode cX8_init 198 = .ok (.newarray .int, 2) := by decide +kernel
theorem dX8_init_200 : decode cX8_init 200 = .ok (.putfield 77, 3) := by decide +kernel
theorem dX8_init_203 : decode cX8_init 203 = .ok (.aload_n 0, 1) := by decide +kernel
theorem dX8_init_204 : decode cX8_init 204 = .ok (.bipush 60, 2) := by decide +kernel
theorem dX8_init_206 : decode cX8_init 206 = .ok (.newarray .int, 2) := by decide +kernel
theorem dX8_init_208 : decode cX8_init 208 = .ok (.putfield 80, 3) := by decide +kernel
theorem dX8_init_211 : decode cX8_init 211 = .ok (.aload_n 0, 1) := by decide +kernel
theorem dX8_init_212 : decode cX8_init 212 = .ok (.bipush 60, 2) := by decide +kernel
theorem dX8_init_214 : decode cX8_init 214 = .ok (.newarray .int, 2) := by decide +kernel
theorem dX8_init_216 : decode cX8_init 216 = .ok (.putfield 83, 3) := by decide +kernel
theorem dX8_init_219 : decode cX8_init 219 = .ok (.aload_n 0, 1) := by decide +kernel
theorem dX8_init_220 : decode cX8_init 220 = .ok (.bipush 60, 2) := by decide +kernel
theorem dX8_init_222 : decode cX8_init 222 = .ok (.newarray .int, 2) := by decide +kernel
theorem dX8_init_224 : decode cX8_init 224 = .ok (.putfield 86, 3) := by decide +kernel
theorem dX8_init_227 : decode cX8_init 227 = .ok (.aload_n 0, 1) := by decide +kernel
theorem dX8_init_228 : decode cX8_init 228 = .ok (.bipush 60, 2) := by decide +kernel
theorem dX8_init_230 : decode cX8_init 230 = .ok (.newarray .int, 2) := by decide +kernel
theorem dX8_init_232 : decode cX8_init 232 = .ok (.putfield 89, 3) := by decide +kernel
theorem dX8_init_235 : decode cX8_init 235 = .ok (.aload_n 0, 1) := by decide +kernel
theorem dX8_init_236 : decode cX8_init 236 = .ok (.bipush 60, 2) := by decide +kernel
theorem dX8_init_238 : decode cX8_init 238 = .ok (.newarray .int, 2) := by decide +kernel
theorem dX8_init_240 : decode cX8_init 240 = .ok (.putfield 92, 3) := by decide +kernel
theorem dX8_init_243 : decode cX8_init 243 = .ok (.aload_n 0, 1) := by decide +kernel
theorem dX8_init_244 : decode cX8_init 244 = .ok (.bipush 60, 2) := by decide +kernel
theorem dX8_init_246 : decode cX8_init 246 = .ok (.newarray .int, 2) := by decide +kernel
theorem dX8_init_248 : decode cX8_init 248 = .ok (.putfield 95, 3) := by decide +kernel
theorem dX8_init_251 : decode cX8_init 251 = .ok (.aload_n 0, 1) := by decide +kernel
theorem dX8_init_252 : decode cX8_init 252 = .ok (.bipush 60, 2) := by decide +kernel
theorem dX8_init_254 : decode cX8_init 254 = .ok (.newarray .int, 2) := by decide +kernel
theorem dX8_init_256 : decode cX8_init 256 = .ok (.putfield 98, 3) := by decide +kernel
theorem dX8_init_259 : decode cX8_init 259 = .ok (.aload_n 0, 1) := by decide +kernel
theorem dX8_init_260 : decode cX8_init 260 = .ok (.bipush 60, 2) := by decide +kernel
theorem dX8_init_262 : decode cX8_init 262 = .ok (.newarray .int, 2) := by decide +kernel
theorem dX8_init_264 : decode cX8_init 264 = .ok (.putfield 101, 3) := by decide +kernel
theorem dX8_init_267 : decode cX8_init 267 = .ok (.aload_n 0, 1) := by decide +kernel
theorem dX8_init_268 : decode cX8_init 268 = .ok (.bipush 60, 2) := by decide +kernel
theorem dX8_init_270 : decode cX8_init 270 = .ok (.newarray .int, 2) := by decide +kernel
theorem dX8_init_272 : decode cX8_init 272 = .ok (.putfield 104, 3) := by decide +kernel
theorem dX8_init_275 : decode cX8_init 275 = .ok (.aload_n 0, 1) := by decide +kernel
theorem dX8_init_276 : decode cX8_init 276 = .ok (.sipush 1024, 3) := by decide +kernel
theorem dX8_init_279 : decode cX8_init 279 = .ok (.newarray .int, 2) := by decide +kernel
theorem dX8_init_281 : decode cX8_init 281 = .ok (.putfield 107, 3) := by decide +kernel
theorem dX8_init_284 : decode cX8_init 284 = .ok (.aload_n 0, 1) := by decide +kernel
theorem dX8_init_285 : decode cX8_init 285 = .ok (.sipush 1024, 3) := by decide +kernel
theorem dX8_init_288 : decode cX8_init 288 = .ok (.newarray .int, 2) := by decide +kernel
theorem dX8_init_290 : decode cX8_init 290 = .ok (.putfield 110, 3) := by decide +kernel
theorem dX8_init_293 : decode cX8_init 293 = .ok (.aload_n 0, 1) := by decide +kernel
theorem dX8_init_294 : decode cX8_init 294 = .ok (.sipush 1024, 3) := by decide +kernel
theorem dX8_init_297 : decode cX8_init 297 = .ok (.newarray .int, 2) := by decide +kernel
theorem dX8_init_299 : decode cX8_init 299 = .ok (.putfield 113, 3) := by decide +kernel
theorem dX8_init_302 : decode cX8_init 302 = .ok (.aload_n 0, 1) := by decide +kernel
theorem dX8_init_303 : decode cX8_init 303 = .ok (.bipush 21, 2) := by decide +kernel
theorem dX8_init_305 : decode cX8_init 305 = .ok (.newarray .int, 2) := by decide +kernel
theorem dX8_init_307 : decode cX8_init 307 = .ok (.putfield 116, 3) := by decide +kernel
theorem dX8_init_310 : decode cX8_init 310 = .ok (.aload_n 0, 1) := by decide +kernel
theorem dX8_init_311 : decode cX8_init 311 = .ok (.bipush 21, 2) := by decide +kernel
theorem dX8_init_313 : decode cX8_init 313 = .ok (.newarray .int, 2) := by decide +kernel
theorem dX8_init_315 : decode cX8_init 315 = .ok (.putfield 119, 3) := by decide +kernel
theorem dX8_init_318 : decode cX8_init 318 = .ok (.aload_n 0, 1) := by decide +kernel
theorem dX8_init_319 : decode cX8_init 319 = .ok (.bipush 21, 2) := by decide +kernel
theorem dX8_init_321 : decode cX8_init 321 = .ok (.newarray .int, 2) := by decide +kernel
theorem dX8_init_323 : decode cX8_init 323 = .ok (.putfield 122, 3) := by decide +kernel
theorem dX8_init_326 : decode cX8_init 326 = .ok (.aload_n 0, 1) := by decide +kernel
theorem dX8_init_327 : decode cX8_init 327 = .ok (.bipush 21, 2) := by decide +kernel
theorem dX8_init_329 : decode cX8_init 329 = .ok (.newarray .int, 2) := by decide +kernel
theorem dX8_init_331 : decode cX8_init 331 = .ok (.putfield 125, 3) := by decide +kernel
theorem dX8_init_334 : decode cX8_init 334 = .ok (.return_, 1) := by decide +kernel
theorem dX8_in_0 : decode cX8_in 0 = .ok (.iload_n 0, 1) := by decide +kernel
theorem dX8_in_1 : decode cX8_in 1 = .ok (.iload_n 1, 1) := by decide +kernel
theorem dX8_in_2 : decode cX8_in 2 = .ok (.if_icmp .lt 12, 3) := by decide +kernel
theorem dX8_in_5 : decode cX8_in 5 = .ok (.iload_n 0, 1) := by decide +kernel
theorem dX8_in_6 : decode cX8_in 6 = .ok (.iload_n 2, 1) := by decide +kernel
theorem dX8_in_7 : decode cX8_in 7 = .ok (.if_icmp .gt 7, 3) := by decide +kernel
theorem dX8_in_10 : decode cX8_in 10 = .ok (.iconst 1, 1) := by decide +kernel
theorem dX8_in_11 : decode cX8_in 11 = .ok (.goto 4, 3) := by decide +kernel
theorem dX8_in_14 : decode cX8_in 14 = .ok (.iconst 0, 1) := by decide +kernel
theorem dX8_in_15 : decode cX8_in 15 = .ok (.ireturn, 1) := by decide +kernel
theorem dX8_days_0 : decode cX8_days 0 = .ok (.iload_n 1, 1) := by decide +kernel
theorem dX8_days_1 : decode cX8_days 1 = .ok (.iconst 0, 1) := by decide +kernel
theorem dX8_days_2 : decode cX8_days 2 = .ok (.bipush 100, 2) := by decide +kernel
theorem dX8_days_4 : decode cX8_days 4 = .ok (.invokestatic 128, 3) := by decide +kernel
theorem dX8_days_7 : decode cX8_days 7 = .ok (.ifCond .eq 15, 3) := by decide +kernel
theorem dX8_days_10 : decode cX8_days 10 = .ok (.aload_n 0, 1) := by decide +kernel
theorem dX8_days_11 : decode cX8_days 11 = .ok (.getfield 132, 3) := by decide +kernel
theorem dX8_days_14 : decode cX8_days 14 = .ok (.iload_n 1, 1) := by decide +kernel
theorem dX8_days_15 : decode cX8_days 15 = .ok (.iadd, 1) := by decide +kernel
theorem dX8_days_16 : decode cX8_days 16 = .ok (.sipush 1000, 3) := by decide +kernel
theorem dX8_days_19 : decode cX8_days 19 = .ok (.if_icmp .le 5, 3) := by decide +kernel
theorem dX8_days_22 : decode cX8_days 22 = .ok (.iconst (-1), 1) := by decide +kernel
theorem dX8_days_23 : decode cX8_days 23 = .ok (.ireturn, 1) := by decide +kernel
theorem dX8_days_24 : decode cX8_days 24 = .ok (.aload_n 0, 1) := by decide +kernel
theorem dX8_days_25 : decode cX8_days 25 = .ok (.dup, 1) := by decide +kernel
theorem dX8_days_26 : decode cX8_days 26 = .ok (.getfield 132, 3) := by decide +kernel
theorem dX8_days_29 : decode cX8_days 29 = .ok (.iload_n 1, 1) := by decide +kernel
theorem dX8_days_30 : decode cX8_days 30 = .ok (.iadd, 1) := by decide +kernel
theorem dX8_days_31 : decode cX8_days 31 = .ok (.putfield 132, 3) := by decide +kernel
theorem dX8_days_34 : decode cX8_days 34 = .ok (.aload_n 0, 1) := by decide +kernel
theorem dX8_days_35 : decode cX8_days 35 = .ok (.getfield 132, 3) := by decide +kernel
theorem dX8_days_38 : decode cX8_days 38 = .ok (.ireturn, 1) := by decide +kernel
theorem dX8_byteOf_0 : decode cX8_byteOf 0 = .ok (.iload 5, 2) := by decide +kernel
theorem dX8_byteOf_2 : decode cX8_byteOf 2 = .ok (.iconst 4, 1) := by decide +kernel
theorem dX8_byteOf_3 : decode cX8_byteOf 3 = .ok (.if_icmp .ge 7, 3) := by decide +kernel
theorem dX8_byteOf_6 : decode cX8_byteOf 6 = .ok (.iload_n 0, 1) := by decide +kernel
theorem dX8_byteOf_7 : decode cX8_byteOf 7 = .ok (.goto 38, 3) := by decide +kernel
theorem dX8_byteOf_10 : decode cX8_byteOf 10 = .ok (.iload 5, 2) := by decide +kernel
theorem dX8_byteOf_12 : decode cX8_byteOf 12 = .ok (.bipush 8, 2) := by decide +kernel
theorem dX8_byteOf_14 : decode cX8_byteOf 14 = .ok (.if_icmp .ge 7, 3) := by decide +kernel
theorem dX8_byteOf_17 : decode cX8_byteOf 17 = .ok (.iload_n 1, 1) := by decide +kernel
theorem dX8_byteOf_18 : decode cX8_byteOf 18 = .ok (.goto 27, 3) := by decide +kernel
theorem dX8_byteOf_21 : decode cX8_byteOf 21 = .ok (.iload 5, 2) := by decide +kernel
theorem dX8_byteOf_23 : decode cX8_byteOf 23 = .ok (.bipush 12, 2) := by decide +kernel
theorem dX8_byteOf_25 : decode cX8_byteOf 25 = .ok (.if_icmp .ge 7, 3) := by decide +kernel
theorem dX8_byteOf_28 : decode cX8_byteOf 28 = .ok (.iload_n 2, 1) := by decide +kernel
theorem dX8_byteOf_29 : decode cX8_byteOf 29 = .ok (.goto 16, 3) := by decide +kernel
theorem dX8_byteOf_32 : decode cX8_byteOf 32 = .ok (.iload 5, 2) := by decide +kernel
theorem dX8_byteOf_34 : decode cX8_byteOf 34 = .ok (.bipush 16, 2) := by decide +kernel
theorem dX8_byteOf_36 : decode cX8_byteOf 36 = .ok (.if_icmp .ge 7, 3) := by decide +kernel
theorem dX8_byteOf_39 : decode cX8_byteOf 39 = .ok (.iload_n 3, 1) := by decide +kernel
theorem dX8_byteOf_40 : decode cX8_byteOf 40 = .ok (.goto 5, 3) := by decide +kernel
theorem dX8_byteOf_43 : decode cX8_byteOf 43 = .ok (.iload 4, 2) := by decide +kernel
theorem dX8_byteOf_45 : decode cX8_byteOf 45 = .ok (.istore 6, 2) := by decide +kernel
theorem dX8_byteOf_47 : decode cX8_byteOf 47 = .ok (.iload 6, 2) := by decide +kernel
theorem dX8_byteOf_49 : decode cX8_byteOf 49 = .ok (.bipush 24, 2) := by decide +kernel
theorem dX8_byteOf_51 : decode cX8_byteOf 51 = .ok (.bipush 8, 2) := by decide +kernel
theorem dX8_byteOf_53 : decode cX8_byteOf 53 = .ok (.iload 5, 2) := by decide +kernel
theorem dX8_byteOf_55 : decode cX8_byteOf 55 = .ok (.iconst 4, 1) := by decide +kernel
theorem dX8_byteOf_56 : decode cX8_byteOf 56 = .ok (.irem, 1) := by decide +kernel
theorem dX8_byteOf_57 : decode cX8_byteOf 57 = .ok (.imul, 1) := by decide +kernel
theorem dX8_byteOf_58 : decode cX8_byteOf 58 = .ok (.isub, 1) := by decide +kernel
theorem dX8_byteOf_59 : decode cX8_byteOf 59 = .ok (.ishr, 1) := by decide +kernel
theorem dX8_byteOf_60 : decode cX8_byteOf 60 = .ok (.sipush 255, 3) := by decide +kernel
theorem dX8_byteOf_63 : decode cX8_byteOf 63 = .ok (.iand, 1) := by decide +kernel
theorem dX8_byteOf_64 : decode cX8_byteOf 64 = .ok (.ireturn, 1) := by decide +kernel
theorem dX8_feed_0 : decode cX8_feed 0 = .ok (.iconst 0, 1) := by decide +kernel
theorem dX8_feed_1 : decode cX8_feed 1 = .ok (.istore 6, 2) := by decide +kernel
theorem dX8_feed_3 : decode cX8_feed 3 = .ok (.iconst 0, 1) := by decide +kernel
theorem dX8_feed_4 : decode cX8_feed 4 = .ok (.istore 7, 2) := by decide +kernel
theorem dX8_feed_6 : decode cX8_feed 6 = .ok (.iload 7, 2) := by decide +kernel
theorem dX8_feed_8 : decode cX8_feed 8 = .ok (.bipush 20, 2) := by decide +kernel
theorem dX8_feed_10 : decode cX8_feed 10 = .ok (.if_icmp .ge 34, 3) := by decide +kernel
theorem dX8_feed_13 : decode cX8_feed 13 = .ok (.iload 6, 2) := by decide +kernel
theorem dX8_feed_15 : decode cX8_feed 15 = .ok (.iload_n 1, 1) := by decide +kernel
theorem dX8_feed_16 : decode cX8_feed 16 = .ok (.iload_n 2, 1) := by decide +kernel
theorem dX8_feed_17 : decode cX8_feed 17 = .ok (.iload_n 3, 1) := by decide +kernel
theorem dX8_feed_18 : decode cX8_feed 18 = .ok (.iload 4, 2) := by decide +kernel
theorem dX8_feed_20 : decode cX8_feed 20 = .ok (.iload 5, 2) := by decide +kernel
theorem dX8_feed_22 : decode cX8_feed 22 = .ok (.iload 7, 2) := by decide +kernel
theorem dX8_feed_24 : decode cX8_feed 24 = .ok (.invokestatic 136, 3) := by decide +kernel
theorem dX8_feed_27 : decode cX8_feed 27 = .ok (.ifCond .eq 7, 3) := by decide +kernel
theorem dX8_feed_30 : decode cX8_feed 30 = .ok (.iconst 1, 1) := by decide +kernel
theorem dX8_feed_31 : decode cX8_feed 31 = .ok (.goto 4, 3) := by decide +kernel
theorem dX8_feed_34 : decode cX8_feed 34 = .ok (.iconst 0, 1) := by decide +kernel
theorem dX8_feed_35 : decode cX8_feed 35 = .ok (.iadd, 1) := by decide +kernel
theorem dX8_feed_36 : decode cX8_feed 36 = .ok (.istore 6, 2) := by decide +kernel
theorem dX8_feed_38 : decode cX8_feed 38 = .ok (.iinc 7 1, 3) := by decide +kernel
theorem dX8_feed_41 : decode cX8_feed 41 = .ok (.goto (-35), 3) := by decide +kernel
theorem dX8_feed_44 : decode cX8_feed 44 = .ok (.aload_n 0, 1) := by decide +kernel
theorem dX8_feed_45 : decode cX8_feed 45 = .ok (.getfield 140, 3) := by decide +kernel
theorem dX8_feed_48 : decode cX8_feed 48 = .ok (.iload 6, 2) := by decide +kernel
theorem dX8_feed_50 : decode cX8_feed 50 = .ok (.iadd, 1) := by decide +kernel
theorem dX8_feed_51 : decode cX8_feed 51 = .ok (.sipush 300, 3) := by decide +kernel
theorem dX8_feed_54 : decode cX8_feed 54 = .ok (.if_icmp .le 5, 3) := by decide +kernel
theorem dX8_feed_57 : decode cX8_feed 57 = .ok (.iconst (-1), 1) := by decide +kernel
theorem dX8_feed_58 : decode cX8_feed 58 = .ok (.ireturn, 1) := by decide +kernel
theorem dX8_feed_59 : decode cX8_feed 59 = .ok (.iconst 0, 1) := by decide +kernel
theorem dX8_feed_60 : decode cX8_feed 60 = .ok (.istore 7, 2) := by decide +kernel
theorem dX8_feed_62 : decode cX8_feed 62 = .ok (.iload 7, 2) := by decide +kernel
theorem dX8_feed_64 : decode cX8_feed 64 = .ok (.bipush 20, 2) := by decide +kernel
theorem dX8_feed_66 : decode cX8_feed 66 = .ok (.if_icmp .ge 49, 3) := by decide +kernel
theorem dX8_feed_69 : decode cX8_feed 69 = .ok (.iload_n 1, 1) := by decide +kernel
theorem dX8_feed_70 : decode cX8_feed 70 = .ok (.iload_n 2, 1) := by decide +kernel
theorem dX8_feed_71 : decode cX8_feed 71 = .ok (.iload_n 3, 1) := by decide +kernel
theorem dX8_feed_72 : decode cX8_feed 72 = .ok (.iload 4, 2) := by decide +kernel
theorem dX8_feed_74 : decode cX8_feed 74 = .ok (.iload 5, 2) := by decide +kernel
theorem dX8_feed_76 : decode cX8_feed 76 = .ok (.iload 7, 2) := by decide +kernel
theorem dX8_feed_78 : decode cX8_feed 78 = .ok (.invokestatic 136, 3) := by decide +kernel
theorem dX8_feed_81 : decode cX8_feed 81 = .ok (.istore 8, 2) := by decide +kernel
theorem dX8_feed_83 : decode cX8_feed 83 = .ok (.iload 8, 2) := by decide +kernel
theorem dX8_feed_85 : decode cX8_feed 85 = .ok (.ifCond .eq 24, 3) := by decide +kernel
theorem dX8_feed_88 : decode cX8_feed 88 = .ok (.aload_n 0, 1) := by decide +kernel
theorem dX8_feed_89 : decode cX8_feed 89 = .ok (.getfield 9, 3) := by decide +kernel
theorem dX8_feed_92 : decode cX8_feed 92 = .ok (.aload_n 0, 1) := by decide +kernel
theorem dX8_feed_93 : decode cX8_feed 93 = .ok (.getfield 140, 3) := by decide +kernel
theorem dX8_feed_96 : decode cX8_feed 96 = .ok (.iload 8, 2) := by decide +kernel
theorem dX8_feed_98 : decode cX8_feed 98 = .ok (.iastore, 1) := by decide +kernel
theorem dX8_feed_99 : decode cX8_feed 99 = .ok (.aload_n 0, 1) := by decide +kernel
theorem dX8_feed_100 : decode cX8_feed 100 = .ok (.dup, 1) := by decide +kernel
theorem dX8_feed_101 : decode cX8_feed 101 = .ok (.getfield 140, 3) := by decide +kernel
theorem dX8_feed_104 : decode cX8_feed 104 = .ok (.iconst 1, 1) := by decide +kernel
theorem dX8_feed_105 : decode cX8_feed 105 = .ok (.iadd, 1) := by decide +kernel
theorem dX8_feed_106 : decode cX8_feed 106 = .ok (.putfield 140, 3) := by decide +kernel
theorem dX8_feed_109 : decode cX8_feed 109 = .ok (.iinc 7 1, 3) := by decide +kernel
theorem dX8_feed_112 : decode cX8_feed 112 = .ok (.goto (-50), 3) := by decide +kernel
theorem dX8_feed_115 : decode cX8_feed 115 = .ok (.aload_n 0, 1) := by decide +kernel
theorem dX8_feed_116 : decode cX8_feed 116 = .ok (.getfield 140, 3) := by decide +kernel
theorem dX8_feed_119 : decode cX8_feed 119 = .ok (.ireturn, 1) := by decide +kernel
theorem dX8_end_0 : decode cX8_end 0 = .ok (.iload_n 1, 1) := by decide +kernel
theorem dX8_end_1 : decode cX8_end 1 = .ok (.ifCond .lt 11, 3) := by decide +kernel
theorem dX8_end_4 : decode cX8_end 4 = .ok (.iload_n 1, 1) := by decide +kernel
theorem dX8_end_5 : decode cX8_end 5 = .ok (.aload_n 0, 1) := by decide +kernel
theorem dX8_end_6 : decode cX8_end 6 = .ok (.getfield 140, 3) := by decide +kernel
theorem dX8_end_9 : decode cX8_end 9 = .ok (.if_icmp .le 5, 3) := by decide +kernel
theorem dX8_end_12 : decode cX8_end 12 = .ok (.iconst 0, 1) := by decide +kernel
theorem dX8_end_13 : decode cX8_end 13 = .ok (.ireturn, 1) := by decide +kernel
theorem dX8_end_14 : decode cX8_end 14 = .ok (.aload_n 0, 1) := by decide +kernel
theorem dX8_end_15 : decode cX8_end 15 = .ok (.iload_n 1, 1) := by decide +kernel
theorem dX8_end_16 : decode cX8_end 16 = .ok (.putfield 140, 3) := by decide +kernel
theorem dX8_end_19 : decode cX8_end 19 = .ok (.iconst 1, 1) := by decide +kernel
theorem dX8_end_20 : decode cX8_end 20 = .ok (.ireturn, 1) := by decide +kernel
theorem dX8_hex_0 : decode cX8_hex 0 = .ok (.iload_n 0, 1) := by decide +kernel
theorem dX8_hex_1 : decode cX8_hex 1 = .ok (.bipush 48, 2) := by decide +kernel
theorem dX8_hex_3 : decode cX8_hex 3 = .ok (.if_icmp .lt 14, 3) := by decide +kernel
theorem dX8_hex_6 : decode cX8_hex 6 = .ok (.iload_n 0, 1) := by decide +kernel
theorem dX8_hex_7 : decode cX8_hex 7 = .ok (.bipush 57, 2) := by decide +kernel
theorem dX8_hex_9 : decode cX8_hex 9 = .ok (.if_icmp .gt 8, 3) := by decide +kernel
theorem dX8_hex_12 : decode cX8_hex 12 = .ok (.iload_n 0, 1) := by decide +kernel
theorem dX8_hex_13 : decode cX8_hex 13 = .ok (.bipush 48, 2) := by decide +kernel
theorem dX8_hex_15 : decode cX8_hex 15 = .ok (.isub, 1) := by decide +kernel
theorem dX8_hex_16 : decode cX8_hex 16 = .ok (.ireturn, 1) := by decide +kernel
theorem dX8_hex_17 : decode cX8_hex 17 = .ok (.iload_n 0, 1) := by decide +kernel
theorem dX8_hex_18 : decode cX8_hex 18 = .ok (.bipush 97, 2) := by decide +kernel
theorem dX8_hex_20 : decode cX8_hex 20 = .ok (.if_icmp .lt 17, 3) := by decide +kernel
theorem dX8_hex_23 : decode cX8_hex 23 = .ok (.iload_n 0, 1) := by decide +kernel
theorem dX8_hex_24 : decode cX8_hex 24 = .ok (.bipush 102, 2) := by decide +kernel
theorem dX8_hex_26 : decode cX8_hex 26 = .ok (.if_icmp .gt 11, 3) := by decide +kernel
theorem dX8_hex_29 : decode cX8_hex 29 = .ok (.iload_n 0, 1) := by decide +kernel
theorem dX8_hex_30 : decode cX8_hex 30 = .ok (.bipush 97, 2) := by decide +kernel
theorem dX8_hex_32 : decode cX8_hex 32 = .ok (.isub, 1) := by decide +kernel
theorem dX8_hex_33 : decode cX8_hex 33 = .ok (.bipush 10, 2) := by decide +kernel
theorem dX8_hex_35 : decode cX8_hex 35 = .ok (.iadd, 1) := by decide +kernel
theorem dX8_hex_36 : decode cX8_hex 36 = .ok (.ireturn, 1) := by decide +kernel
theorem dX8_hex_37 : decode cX8_hex 37 = .ok (.iload_n 0, 1) := by decide +kernel
theorem dX8_hex_38 : decode cX8_hex 38 = .ok (.bipush 65, 2) := by decide +kernel
theorem dX8_hex_40 : decode cX8_hex 40 = .ok (.if_icmp .lt 19, 3) := by decide +kernel
theorem dX8_hex_43 : decode cX8_hex 43 = .ok (.iload_n 0, 1) := by decide +kernel
theorem dX8_hex_44 : decode cX8_hex 44 = .ok (.bipush 70, 2) := by decide +kernel
theorem dX8_hex_46 : decode cX8_hex 46 = .ok (.if_icmp .gt 13, 3) := by decide +kernel
theorem dX8_hex_49 : decode cX8_hex 49 = .ok (.iload_n 0, 1) := by decide +kernel
theorem dX8_hex_50 : decode cX8_hex 50 = .ok (.bipush 65, 2) := by decide +kernel
theorem dX8_hex_52 : decode cX8_hex 52 = .ok (.isub, 1) := by decide +kernel
theorem dX8_hex_53 : decode cX8_hex 53 = .ok (.bipush 10, 2) := by decide +kernel
theorem dX8_hex_55 : decode cX8_hex 55 = .ok (.iadd, 1) := by decide +kernel
theorem dX8_hex_56 : decode cX8_hex 56 = .ok (.goto 4, 3) := by decide +kernel
theorem dX8_hex_59 : decode cX8_hex 59 = .ok (.iconst (-1), 1) := by decide +kernel
theorem dX8_hex_60 : decode cX8_hex 60 = .ok (.ireturn, 1) := by decide +kernel
theorem dX8_pass_0 : decode cX8_pass 0 = .ok (.iconst 0, 1) := by decide +kernel
theorem dX8_pass_1 : decode cX8_pass 1 = .ok (.istore_n 1, 1) := by decide +kernel
theorem dX8_pass_2 : decode cX8_pass 2 = .ok (.iconst 0, 1) := by decide +kernel
theorem dX8_pass_3 : decode cX8_pass 3 = .ok (.istore_n 2, 1) := by decide +kernel
theorem dX8_pass_4 : decode cX8_pass 4 = .ok (.iload_n 2, 1) := by decide +kernel
theorem dX8_pass_5 : decode cX8_pass 5 = .ok (.aload_n 0, 1) := by decide +kernel
theorem dX8_pass_6 : decode cX8_pass 6 = .ok (.getfield 143, 3) := by decide +kernel
theorem dX8_pass_9 : decode cX8_pass 9 = .ok (.if_icmp .ge 174, 3) := by decide +kernel
theorem dX8_pass_12 : decode cX8_pass 12 = .ok (.aload_n 0, 1) := by decide +kernel
theorem dX8_pass_13 : decode cX8_pass 13 = .ok (.getfield 13, 3) := by decide +kernel
theorem dX8_pass_16 : decode cX8_pass 16 = .ok (.iload_n 2, 1) := by decide +kernel
theorem dX8_pass_17 : decode cX8_pass 17 = .ok (.iaload, 1) := by decide +kernel
theorem dX8_pass_18 : decode cX8_pass 18 = .ok (.bipush 37, 2) := by decide +kernel
theorem dX8_pass_20 : decode cX8_pass 20 = .ok (.if_icmp .ne 47, 3) := by decide +kernel
theorem dX8_pass_23 : decode cX8_pass 23 = .ok (.iload_n 2, 1) := by decide +kernel
theorem dX8_pass_24 : decode cX8_pass 24 = .ok (.iconst 2, 1) := by decide +kernel
theorem dX8_pass_25 : decode cX8_pass 25 = .ok (.iadd, 1) := by decide +kernel
theorem dX8_pass_26 : decode cX8_pass 26 = .ok (.aload_n 0, 1) := by decide +kernel
theorem dX8_pass_27 : decode cX8_pass 27 = .ok (.getfield 143, 3) := by decide +kernel
theorem dX8_pass_30 : decode cX8_pass 30 = .ok (.if_icmp .ge 37, 3) := by decide +kernel
theorem dX8_pass_33 : decode cX8_pass 33 = .ok (.aload_n 0, 1) := by decide +kernel
theorem dX8_pass_34 : decode cX8_pass 34 = .ok (.getfield 13, 3) := by decide +kernel
theorem dX8_pass_37 : decode cX8_pass 37 = .ok (.iload_n 2, 1) := by decide +kernel
theorem dX8_pass_38 : decode cX8_pass 38 = .ok (.iconst 1, 1) := by decide +kernel
theorem dX8_pass_39 : decode cX8_pass 39 = .ok (.iadd, 1) := by decide +kernel
theorem dX8_pass_40 : decode cX8_pass 40 = .ok (.iaload, 1) := by decide +kernel
theorem dX8_pass_41 : decode cX8_pass 41 = .ok (.invokestatic 146, 3) := by decide +kernel
theorem dX8_pass_44 : decode cX8_pass 44 = .ok (.iconst (-1), 1) := by decide +kernel
theorem dX8_pass_45 : decode cX8_pass 45 = .ok (.if_icmp .eq 22, 3) := by decide +kernel
theorem dX8_pass_48 : decode cX8_pass 48 = .ok (.aload_n 0, 1) := by decide +kernel
theorem dX8_pass_49 : decode cX8_pass 49 = .ok (.getfield 13, 3) := by decide +kernel
theorem dX8_pass_52 : decode cX8_pass 52 = .ok (.iload_n 2, 1) := by decide +kernel
theorem dX8_pass_53 : decode cX8_pass 53 = .ok (.iconst 2, 1) := by decide +kernel
theorem dX8_pass_54 : decode cX8_pass 54 = .ok (.iadd, 1) := by decide +kernel
theorem dX8_pass_55 : decode cX8_pass 55 = .ok (.iaload, 1) := by decide +kernel
theorem dX8_pass_56 : decode cX8_pass 56 = .ok (.invokestatic 146, 3) := by decide +kernel
theorem dX8_pass_59 : decode cX8_pass 59 = .ok (.iconst (-1), 1) := by decide +kernel
theorem dX8_pass_60 : decode cX8_pass 60 = .ok (.if_icmp .eq 7, 3) := by decide +kernel
theorem dX8_pass_63 : decode cX8_pass 63 = .ok (.iconst 1, 1) := by decide +kernel
theorem dX8_pass_64 : decode cX8_pass 64 = .ok (.goto 4, 3) := by decide +kernel
theorem dX8_pass_67 : decode cX8_pass 67 = .ok (.iconst 0, 1) := by decide +kernel
theorem dX8_pass_68 : decode cX8_pass 68 = .ok (.istore_n 3, 1) := by decide +kernel
theorem dX8_pass_69 : decode cX8_pass 69 = .ok (.iload_n 3, 1) := by decide +kernel
theorem dX8_pass_70 : decode cX8_pass 70 = .ok (.ifCond .eq 32, 3) := by decide +kernel
theorem dX8_pass_73 : decode cX8_pass 73 = .ok (.bipush 16, 2) := by decide +kernel
theorem dX8_pass_75 : decode cX8_pass 75 = .ok (.aload_n 0, 1) := by decide +kernel
theorem dX8_pass_76 : decode cX8_pass 76 = .ok (.getfield 13, 3) := by decide +kernel
theorem dX8_pass_79 : decode cX8_pass 79 = .ok (.iload_n 2, 1) := by decide +kernel
theorem dX8_pass_80 : decode cX8_pass 80 = .ok (.iconst 1, 1) := by decide +kernel
theorem dX8_pass_81 : decode cX8_pass 81 = .ok (.iadd, 1) := by decide +kernel
theorem dX8_pass_82 : decode cX8_pass 82 = .ok (.iaload, 1) := by decide +kernel
theorem dX8_pass_83 : decode cX8_pass 83 = .ok (.invokestatic 146, 3) := by decide +kernel
theorem dX8_pass_86 : decode cX8_pass 86 = .ok (.imul, 1) := by decide +kernel
theorem dX8_pass_87 : decode cX8_pass 87 = .ok (.aload_n 0, 1) := by decide +kernel
theorem dX8_pass_88 : decode cX8_pass 88 = .ok (.getfield 13, 3) := by decide +kernel
theorem dX8_pass_91 : decode cX8_pass 91 = .ok (.iload_n 2, 1) := by decide +kernel
theorem dX8_pass_92 : decode cX8_pass 92 = .ok (.iconst 2, 1) := by decide +kernel
theorem dX8_pass_93 : decode cX8_pass 93 = .ok (.iadd, 1) := by decide +kernel
theorem dX8_pass_94 : decode cX8_pass 94 = .ok (.iaload, 1) := by decide +kernel
theorem dX8_pass_95 : decode cX8_pass 95 = .ok (.invokestatic 146, 3) := by decide +kernel
theorem dX8_pass_98 : decode cX8_pass 98 = .ok (.iadd, 1) := by decide +kernel
theorem dX8_pass_99 : decode cX8_pass 99 = .ok (.goto 9, 3) := by decide +kernel
theorem dX8_pass_102 : decode cX8_pass 102 = .ok (.aload_n 0, 1) := by decide +kernel
theorem dX8_pass_103 : decode cX8_pass 103 = .ok (.getfield 13, 3) := by decide +kernel
theorem dX8_pass_106 : decode cX8_pass 106 = .ok (.iload_n 2, 1) := by decide +kernel
theorem dX8_pass_107 : decode cX8_pass 107 = .ok (.iaload, 1) := by decide +kernel
theorem dX8_pass_108 : decode cX8_pass 108 = .ok (.istore 4, 2) := by decide +kernel
theorem dX8_pass_110 : decode cX8_pass 110 = .ok (.aload_n 0, 1) := by decide +kernel
theorem dX8_pass_111 : decode cX8_pass 111 = .ok (.getfield 16, 3) := by decide +kernel
theorem dX8_pass_114 : decode cX8_pass 114 = .ok (.iload_n 2, 1) := by decide +kernel
theorem dX8_pass_115 : decode cX8_pass 115 = .ok (.iaload, 1) := by decide +kernel
theorem dX8_pass_116 : decode cX8_pass 116 = .ok (.istore 5, 2) := by decide +kernel
theorem dX8_pass_118 : decode cX8_pass 118 = .ok (.iload_n 3, 1) := by decide +kernel
theorem dX8_pass_119 : decode cX8_pass 119 = .ok (.ifCond .eq 14, 3) := by decide +kernel
theorem dX8_pass_122 : decode cX8_pass 122 = .ok (.aload_n 0, 1) := by decide +kernel
theorem dX8_pass_123 : decode cX8_pass 123 = .ok (.getfield 19, 3) := by decide +kernel
theorem dX8_pass_126 : decode cX8_pass 126 = .ok (.iload_n 2, 1) := by decide +kernel
theorem dX8_pass_127 : decode cX8_pass 127 = .ok (.iconst 2, 1) := by decide +kernel
theorem dX8_pass_128 : decode cX8_pass 128 = .ok (.iadd, 1) := by decide +kernel
theorem dX8_pass_129 : decode cX8_pass 129 = .ok (.iaload, 1) := by decide +kernel
theorem dX8_pass_130 : decode cX8_pass 130 = .ok (.goto 9, 3) := by decide +kernel
theorem dX8_pass_133 : decode cX8_pass 133 = .ok (.aload_n 0, 1) := by decide +kernel
theorem dX8_pass_134 : decode cX8_pass 134 = .ok (.getfield 19, 3) := by decide +kernel
theorem dX8_pass_137 : decode cX8_pass 137 = .ok (.iload_n 2, 1) := by decide +kernel
theorem dX8_pass_138 : decode cX8_pass 138 = .ok (.iaload, 1) := by decide +kernel
theorem dX8_pass_139 : decode cX8_pass 139 = .ok (.istore 6, 2) := by decide +kernel
theorem dX8_pass_141 : decode cX8_pass 141 = .ok (.aload_n 0, 1) := by decide +kernel
theorem dX8_pass_142 : decode cX8_pass 142 = .ok (.getfield 13, 3) := by decide +kernel
theorem dX8_pass_145 : decode cX8_pass 145 = .ok (.iload_n 1, 1) := by decide +kernel
theorem dX8_pass_146 : decode cX8_pass 146 = .ok (.iload 4, 2) := by decide +kernel
theorem dX8_pass_148 : decode cX8_pass 148 = .ok (.iastore, 1) := by decide +kernel
theorem dX8_pass_149 : decode cX8_pass 149 = .ok (.aload_n 0, 1) := by decide +kernel
theorem dX8_pass_150 : decode cX8_pass 150 = .ok (.getfield 16, 3) := by decide +kernel
theorem dX8_pass_153 : decode cX8_pass 153 = .ok (.iload_n 1, 1) := by decide +kernel
theorem dX8_pass_154 : decode cX8_pass 154 = .ok (.iload 5, 2) := by decide +kernel
theorem dX8_pass_156 : decode cX8_pass 156 = .ok (.iastore, 1) := by decide +kernel
theorem dX8_pass_157 : decode cX8_pass 157 = .ok (.aload_n 0, 1) := by decide +kernel
theorem dX8_pass_158 : decode cX8_pass 158 = .ok (.getfield 19, 3) := by decide +kernel
theorem dX8_pass_161 : decode cX8_pass 161 = .ok (.iload_n 1, 1) := by decide +kernel
theorem dX8_pass_162 : decode cX8_pass 162 = .ok (.iload 6, 2) := by decide +kernel
theorem dX8_pass_164 : decode cX8_pass 164 = .ok (.iastore, 1) := by decide +kernel
theorem dX8_pass_165 : decode cX8_pass 165 = .ok (.iinc 1 1, 3) := by decide +kernel
theorem dX8_pass_168 : decode cX8_pass 168 = .ok (.iload_n 2, 1) := by decide +kernel
theorem dX8_pass_169 : decode cX8_pass 169 = .ok (.iload_n 3, 1) := by decide +kernel
theorem dX8_pass_170 : decode cX8_pass 170 = .ok (.ifCond .eq 7, 3) := by decide +kernel
theorem dX8_pass_173 : decode cX8_pass 173 = .ok (.iconst 3, 1) := by decide +kernel
theorem dX8_pass_174 : decode cX8_pass 174 = .ok (.goto 4, 3) := by decide +kernel
theorem dX8_pass_177 : decode cX8_pass 177 = .ok (.iconst 1, 1) := by decide +kernel
theorem dX8_pass_178 : decode cX8_pass 178 = .ok (.iadd, 1) := by decide +kernel
theorem dX8_pass_179 : decode cX8_pass 179 = .ok (.istore_n 2, 1) := by decide +kernel
theorem dX8_pass_180 : decode cX8_pass 180 = .ok (.goto (-176), 3) := by decide +kernel
theorem dX8_pass_183 : decode cX8_pass 183 = .ok (.aload_n 0, 1) := by decide +kernel
theorem dX8_pass_184 : decode cX8_pass 184 = .ok (.iload_n 1, 1) := by decide +kernel
theorem dX8_pass_185 : decode cX8_pass 185 = .ok (.putfield 143, 3) := by decide +kernel
theorem dX8_pass_188 : decode cX8_pass 188 = .ok (.return_, 1) := by decide +kernel
theorem dX8_small_0 : decode cX8_small 0 = .ok (.iload_n 0, 1) := by decide +kernel
theorem dX8_small_1 : decode cX8_small 1 = .ok (.bipush 65, 2) := by decide +kernel
theorem dX8_small_3 : decode cX8_small 3 = .ok (.if_icmp .lt 19, 3) := by decide +kernel
theorem dX8_small_6 : decode cX8_small 6 = .ok (.iload_n 0, 1) := by decide +kernel
theorem dX8_small_7 : decode cX8_small 7 = .ok (.bipush 90, 2) := by decide +kernel
theorem dX8_small_9 : decode cX8_small 9 = .ok (.if_icmp .gt 13, 3) := by decide +kernel
theorem dX8_small_12 : decode cX8_small 12 = .ok (.iload_n 0, 1) := by decide +kernel
theorem dX8_small_13 : decode cX8_small 13 = .ok (.bipush 65, 2) := by decide +kernel
theorem dX8_small_15 : decode cX8_small 15 = .ok (.isub, 1) := by decide +kernel
theorem dX8_small_16 : decode cX8_small 16 = .ok (.bipush 97, 2) := by decide +kernel
theorem dX8_small_18 : decode cX8_small 18 = .ok (.iadd, 1) := by decide +kernel
theorem dX8_small_19 : decode cX8_small 19 = .ok (.goto 4, 3) := by decide +kernel
theorem dX8_small_22 : decode cX8_small 22 = .ok (.iload_n 0, 1) := by decide +kernel
theorem dX8_small_23 : decode cX8_small 23 = .ok (.ireturn, 1) := by decide +kernel
theorem dX8_isDigit_0 : decode cX8_isDigit 0 = .ok (.iload_n 0, 1) := by decide +kernel
theorem dX8_isDigit_1 : decode cX8_isDigit 1 = .ok (.bipush 48, 2) := by decide +kernel
theorem dX8_isDigit_3 : decode cX8_isDigit 3 = .ok (.if_icmp .lt 13, 3) := by decide +kernel
theorem dX8_isDigit_6 : decode cX8_isDigit 6 = .ok (.iload_n 0, 1) := by decide +kernel
theorem dX8_isDigit_7 : decode cX8_isDigit 7 = .ok (.bipush 57, 2) := by decide +kernel
theorem dX8_isDigit_9 : decode cX8_isDigit 9 = .ok (.if_icmp .gt 7, 3) := by decide +kernel
theorem dX8_isDigit_12 : decode cX8_isDigit 12 = .ok (.iconst 1, 1) := by decide +kernel
theorem dX8_isDigit_13 : decode cX8_isDigit 13 = .ok (.goto 4, 3) := by decide +kernel
theorem dX8_isDigit_16 : decode cX8_isDigit 16 = .ok (.iconst 0, 1) := by decide +kernel
theorem dX8_isDigit_17 : decode cX8_isDigit 17 = .ok (.ireturn, 1) := by decide +kernel
theorem dX8_isSign_0 : decode cX8_isSign 0 = .ok (.iload_n 0, 1) := by decide +kernel
theorem dX8_isSign_1 : decode cX8_isSign 1 = .ok (.invokestatic 150, 3) := by decide +kernel
theorem dX8_isSign_4 : decode cX8_isSign 4 = .ok (.istore_n 1, 1) := by decide +kernel
theorem dX8_isSign_5 : decode cX8_isSign 5 = .ok (.iload_n 1, 1) := by decide +kernel
theorem dX8_isSign_6 : decode cX8_isSign 6 = .ok (.bipush 97, 2) := by decide +kernel
theorem dX8_isSign_8 : decode cX8_isSign 8 = .ok (.if_icmp .lt 9, 3) := by decide +kernel
theorem dX8_isSign_11 : decode cX8_isSign 11 = .ok (.iload_n 1, 1) := by decide +kernel
theorem dX8_isSign_12 : decode cX8_isSign 12 = .ok (.bipush 122, 2) := by decide +kernel
theorem dX8_isSign_14 : decode cX8_isSign 14 = .ok (.if_icmp .le 10, 3) := by decide +kernel
theorem dX8_isSign_17 : decode cX8_isSign 17 = .ok (.iload_n 0, 1) := by decide +kernel
theorem dX8_isSign_18 : decode cX8_isSign 18 = .ok (.invokestatic 153, 3) := by decide +kernel
theorem dX8_isSign_21 : decode cX8_isSign 21 = .ok (.ifCond .eq 7, 3) := by decide +kernel
theorem dX8_isSign_24 : decode cX8_isSign 24 = .ok (.iconst 1, 1) := by decide +kernel
theorem dX8_isSign_25 : decode cX8_isSign 25 = .ok (.goto 4, 3) := by decide +kernel
theorem dX8_isSign_28 : decode cX8_isSign 28 = .ok (.iconst 0, 1) := by decide +kernel
theorem dX8_isSign_29 : decode cX8_isSign 29 = .ok (.ireturn, 1) := by decide +kernel
theorem dX8_read_0 : decode cX8_read 0 = .ok (.aload_n 0, 1) := by decide +kernel
theorem dX8_read_1 : decode cX8_read 1 = .ok (.iload_n 3, 1) := by decide +kernel
theorem dX8_read_2 : decode cX8_read 2 = .ok (.putfield 143, 3) := by decide +kernel
theorem dX8_read_5 : decode cX8_read 5 = .ok (.iconst 0, 1) := by decide +kernel
theorem dX8_read_6 : decode cX8_read 6 = .ok (.istore 4, 2) := by decide +kernel
theorem dX8_read_8 : decode cX8_read 8 = .ok (.iload 4, 2) := by decide +kernel
theorem dX8_read_10 : decode cX8_read 10 = .ok (.iload_n 3, 1) := by decide +kernel
theorem dX8_read_11 : decode cX8_read 11 = .ok (.if_icmp .ge 40, 3) := by decide +kernel
theorem dX8_read_14 : decode cX8_read 14 = .ok (.aload_n 0, 1) := by decide +kernel
theorem dX8_read_15 : decode cX8_read 15 = .ok (.getfield 13, 3) := by decide +kernel
theorem dX8_read_18 : decode cX8_read 18 = .ok (.iload 4, 2) := by decide +kernel
theorem dX8_read_20 : decode cX8_read 20 = .ok (.aload_n 1, 1) := by decide +kernel
theorem dX8_read_21 : decode cX8_read 21 = .ok (.iload_n 2, 1) := by decide +kernel
theorem dX8_read_22 : decode cX8_read 22 = .ok (.iload 4, 2) := by decide +kernel
theorem dX8_read_24 : decode cX8_read 24 = .ok (.iadd, 1) := by decide +kernel
theorem dX8_read_25 : decode cX8_read 25 = .ok (.iaload, 1) := by decide +kernel
theorem dX8_read_26 : decode cX8_read 26 = .ok (.iastore, 1) := by decide +kernel
theorem dX8_read_27 : decode cX8_read 27 = .ok (.aload_n 0, 1) := by decide +kernel
theorem dX8_read_28 : decode cX8_read 28 = .ok (.getfield 16, 3) := by decide +kernel
theorem dX8_read_31 : decode cX8_read 31 = .ok (.iload 4, 2) := by decide +kernel
theorem dX8_read_33 : decode cX8_read 33 = .ok (.iload 4, 2) := by decide +kernel
theorem dX8_read_35 : decode cX8_read 35 = .ok (.iastore, 1) := by decide +kernel
theorem dX8_read_36 : decode cX8_read 36 = .ok (.aload_n 0, 1) := by decide +kernel
theorem dX8_read_37 : decode cX8_read 37 = .ok (.getfield 19, 3) := by decide +kernel
theorem dX8_read_40 : decode cX8_read 40 = .ok (.iload 4, 2) := by decide +kernel
theorem dX8_read_42 : decode cX8_read 42 = .ok (.iload 4, 2) := by decide +kernel
theorem dX8_read_44 : decode cX8_read 44 = .ok (.iastore, 1) := by decide +kernel
theorem dX8_read_45 : decode cX8_read 45 = .ok (.iinc 4 1, 3) := by decide +kernel
theorem dX8_read_48 : decode cX8_read 48 = .ok (.goto (-40), 3) := by decide +kernel
theorem dX8_read_51 : decode cX8_read 51 = .ok (.aload_n 0, 1) := by decide +kernel
theorem dX8_read_52 : decode cX8_read 52 = .ok (.invokevirtual 157, 3) := by decide +kernel
theorem dX8_read_55 : decode cX8_read 55 = .ok (.aload_n 0, 1) := by decide +kernel
theorem dX8_read_56 : decode cX8_read 56 = .ok (.invokevirtual 157, 3) := by decide +kernel
theorem dX8_read_59 : decode cX8_read 59 = .ok (.aload_n 0, 1) := by decide +kernel
theorem dX8_read_60 : decode cX8_read 60 = .ok (.invokevirtual 157, 3) := by decide +kernel
theorem dX8_read_63 : decode cX8_read 63 = .ok (.aload_n 0, 1) := by decide +kernel
theorem dX8_read_64 : decode cX8_read 64 = .ok (.iconst 0, 1) := by decide +kernel
theorem dX8_read_65 : decode cX8_read 65 = .ok (.putfield 160, 3) := by decide +kernel
theorem dX8_read_68 : decode cX8_read 68 = .ok (.iconst 0, 1) := by decide +kernel
theorem dX8_read_69 : decode cX8_read 69 = .ok (.istore 4, 2) := by decide +kernel
theorem dX8_read_71 : decode cX8_read 71 = .ok (.iload 4, 2) := by decide +kernel
theorem dX8_read_73 : decode cX8_read 73 = .ok (.aload_n 0, 1) := by decide +kernel
theorem dX8_read_74 : decode cX8_read 74 = .ok (.getfield 143, 3) := by decide +kernel
theorem dX8_read_77 : decode cX8_read 77 = .ok (.if_icmp .ge 87, 3) := by decide +kernel
theorem dX8_read_80 : decode cX8_read 80 = .ok (.aload_n 0, 1) := by decide +kernel
theorem dX8_read_81 : decode cX8_read 81 = .ok (.getfield 13, 3) := by decide +kernel
theorem dX8_read_84 : decode cX8_read 84 = .ok (.iload 4, 2) := by decide +kernel
theorem dX8_read_86 : decode cX8_read 86 = .ok (.iaload, 1) := by decide +kernel
theorem dX8_read_87 : decode cX8_read 87 = .ok (.invokestatic 163, 3) := by decide +kernel
theorem dX8_read_90 : decode cX8_read 90 = .ok (.ifCond .ne 9, 3) := by decide +kernel
theorem dX8_read_93 : decode cX8_read 93 = .ok (.iinc 4 1, 3) := by decide +kernel
theorem dX8_read_96 : decode cX8_read 96 = .ok (.goto (-25), 3) := by decide +kernel
theorem dX8_read_99 : decode cX8_read 99 = .ok (.aload_n 0, 1) := by decide +kernel
theorem dX8_read_100 : decode cX8_read 100 = .ok (.getfield 22, 3) := by decide +kernel
theorem dX8_read_103 : decode cX8_read 103 = .ok (.aload_n 0, 1) := by decide +kernel
theorem dX8_read_104 : decode cX8_read 104 = .ok (.getfield 160, 3) := by decide +kernel
theorem dX8_read_107 : decode cX8_read 107 = .ok (.iload 4, 2) := by decide +kernel
theorem dX8_read_109 : decode cX8_read 109 = .ok (.iastore, 1) := by decide +kernel
theorem dX8_read_110 : decode cX8_read 110 = .ok (.iload 4, 2) := by decide +kernel
theorem dX8_read_112 : decode cX8_read 112 = .ok (.aload_n 0, 1) := by decide +kernel
theorem dX8_read_113 : decode cX8_read 113 = .ok (.getfield 143, 3) := by decide +kernel
theorem dX8_read_116 : decode cX8_read 116 = .ok (.if_icmp .ge 22, 3) := by decide +kernel
theorem dX8_read_119 : decode cX8_read 119 = .ok (.aload_n 0, 1) := by decide +kernel
theorem dX8_read_120 : decode cX8_read 120 = .ok (.getfield 13, 3) := by decide +kernel
theorem dX8_read_123 : decode cX8_read 123 = .ok (.iload 4, 2) := by decide +kernel
theorem dX8_read_125 : decode cX8_read 125 = .ok (.iaload, 1) := by decide +kernel
theorem dX8_read_126 : decode cX8_read 126 = .ok (.invokestatic 163, 3) := by decide +kernel
theorem dX8_read_129 : decode cX8_read 129 = .ok (.ifCond .eq 9, 3) := by decide +kernel
theorem dX8_read_132 : decode cX8_read 132 = .ok (.iinc 4 1, 3) := by decide +kernel
theorem dX8_read_135 : decode cX8_read 135 = .ok (.goto (-25), 3) := by decide +kernel
theorem dX8_read_138 : decode cX8_read 138 = .ok (.aload_n 0, 1) := by decide +kernel
theorem dX8_read_139 : decode cX8_read 139 = .ok (.getfield 25, 3) := by decide +kernel
theorem dX8_read_142 : decode cX8_read 142 = .ok (.aload_n 0, 1) := by decide +kernel
theorem dX8_read_143 : decode cX8_read 143 = .ok (.getfield 160, 3) := by decide +kernel
theorem dX8_read_146 : decode cX8_read 146 = .ok (.iload 4, 2) := by decide +kernel
theorem dX8_read_148 : decode cX8_read 148 = .ok (.iconst 1, 1) := by decide +kernel
theorem dX8_read_149 : decode cX8_read 149 = .ok (.isub, 1) := by decide +kernel
theorem dX8_read_150 : decode cX8_read 150 = .ok (.iastore, 1) := by decide +kernel
theorem dX8_read_151 : decode cX8_read 151 = .ok (.aload_n 0, 1) := by decide +kernel
theorem dX8_read_152 : decode cX8_read 152 = .ok (.dup, 1) := by decide +kernel
theorem dX8_read_153 : decode cX8_read 153 = .ok (.getfield 160, 3) := by decide +kernel
theorem dX8_read_156 : decode cX8_read 156 = .ok (.iconst 1, 1) := by decide +kernel
theorem dX8_read_157 : decode cX8_read 157 = .ok (.iadd, 1) := by decide +kernel
theorem dX8_read_158 : decode cX8_read 158 = .ok (.putfield 160, 3) := by decide +kernel
theorem dX8_read_161 : decode cX8_read 161 = .ok (.goto (-90), 3) := by decide +kernel
theorem dX8_read_164 : decode cX8_read 164 = .ok (.aload_n 0, 1) := by decide +kernel
theorem dX8_read_165 : decode cX8_read 165 = .ok (.invokevirtual 166, 3) := by decide +kernel
theorem dX8_read_168 : decode cX8_read 168 = .ok (.return_, 1) := by decide +kernel
theorem dX8_isDigitAt_0 : decode cX8_isDigitAt 0 = .ok (.iload_n 1, 1) := by decide +kernel
theorem dX8_isDigitAt_1 : decode cX8_isDigitAt 1 = .ok (.aload_n 0, 1) := by decide +kernel
theorem dX8_isDigitAt_2 : decode cX8_isDigitAt 2 = .ok (.getfield 143, 3) := by decide +kernel
theorem dX8_isDigitAt_5 : decode cX8_isDigitAt 5 = .ok (.if_icmp .ge 19, 3) := by decide +kernel
theorem dX8_isDigitAt_8 : decode cX8_isDigitAt 8 = .ok (.aload_n 0, 1) := by decide +kernel
theorem dX8_isDigitAt_9 : decode cX8_isDigitAt 9 = .ok (.getfield 13, 3) := by decide +kernel
theorem dX8_isDigitAt_12 : decode cX8_isDigitAt 12 = .ok (.iload_n 1, 1) := by decide +kernel
theorem dX8_isDigitAt_13 : decode cX8_isDigitAt 13 = .ok (.iaload, 1) := by decide +kernel
theorem dX8_isDigitAt_14 : decode cX8_isDigitAt 14 = .ok (.invokestatic 153, 3) := by decide +kernel
theorem dX8_isDigitAt_17 : decode cX8_isDigitAt 17 = .ok (.ifCond .eq 7, 3) := by decide +kernel
theorem dX8_isDigitAt_20 : decode cX8_isDigitAt 20 = .ok (.iconst 1, 1) := by decide +kernel
theorem dX8_isDigitAt_21 : decode cX8_isDigitAt 21 = .ok (.goto 4, 3) := by decide +kernel
theorem dX8_isDigitAt_24 : decode cX8_isDigitAt 24 = .ok (.iconst 0, 1) := by decide +kernel
theorem dX8_isDigitAt_25 : decode cX8_isDigitAt 25 = .ok (.ireturn, 1) := by decide +kernel
theorem dX8_readNumbers_0 : decode cX8_readNumbers 0 = .ok (.aload_n 0, 1) := by decide +kernel
theorem dX8_readNumbers_1 : decode cX8_readNumbers 1 = .ok (.iconst 0, 1) := by decide +kernel
theorem dX8_readNumbers_2 : decode cX8_readNumbers 2 = .ok (.putfield 169, 3) := by decide +kernel
theorem dX8_readNumbers_5 : decode cX8_readNumbers 5 = .ok (.iconst 0, 1) := by decide +kernel
theorem dX8_readNumbers_6 : decode cX8_readNumbers 6 = .ok (.istore_n 1, 1) := by decide +kernel
theorem dX8_readNumbers_7 : decode cX8_readNumbers 7 = .ok (.iload_n 1, 1) := by decide +kernel
theorem dX8_readNumbers_8 : decode cX8_readNumbers 8 = .ok (.aload_n 0, 1) := by decide +kernel
theorem dX8_readNumbers_9 : decode cX8_readNumbers 9 = .ok (.getfield 143, 3) := by decide +kernel
theorem dX8_readNumbers_12 : decode cX8_readNumbers 12 = .ok (.if_icmp .ge 149, 3) := by decide +kernel
theorem dX8_readNumbers_15 : decode cX8_readNumbers 15 = .ok (.aload_n 0, 1) := by decide +kernel
theorem dX8_readNumbers_16 : decode cX8_readNumbers 16 = .ok (.iload_n 1, 1) := by decide +kernel
theorem dX8_readNumbers_17 : decode cX8_readNumbers 17 = .ok (.invokevirtual 172, 3) := by decide +kernel
theorem dX8_readNumbers_20 : decode cX8_readNumbers 20 = .ok (.ifCond .ne 9, 3) := by decide +kernel
theorem dX8_readNumbers_23 : decode cX8_readNumbers 23 = .ok (.iinc 1 1, 3) := by decide +kernel
theorem dX8_readNumbers_26 : decode cX8_readNumbers 26 = .ok (.goto (-19), 3) := by decide +kernel
theorem dX8_readNumbers_29 : decode cX8_readNumbers 29 = .ok (.iload_n 1, 1) := by decide +kernel
theorem dX8_readNumbers_30 : decode cX8_readNumbers 30 = .ok (.istore_n 2, 1) := by decide +kernel
theorem dX8_readNumbers_31 : decode cX8_readNumbers 31 = .ok (.iload_n 1, 1) := by decide +kernel
theorem dX8_readNumbers_32 : decode cX8_readNumbers 32 = .ok (.istore_n 3, 1) := by decide +kernel
theorem dX8_readNumbers_33 : decode cX8_readNumbers 33 = .ok (.iconst 1, 1) := by decide +kernel
theorem dX8_readNumbers_34 : decode cX8_readNumbers 34 = .ok (.istore 4, 2) := by decide +kernel
theorem dX8_readNumbers_36 : decode cX8_readNumbers 36 = .ok (.iload 4, 2) := by decide +kernel
theorem dX8_readNumbers_38 : decode cX8_readNumbers 38 = .ok (.ifCond .eq 77, 3) := by decide +kernel
theorem dX8_readNumbers_41 : decode cX8_readNumbers 41 = .ok (.aload_n 0, 1) := by decide +kernel
theorem dX8_readNumbers_42 : decode cX8_readNumbers 42 = .ok (.iload_n 3, 1) := by decide +kernel
theorem dX8_readNumbers_43 : decode cX8_readNumbers 43 = .ok (.iconst 1, 1) := by decide +kernel
theorem dX8_readNumbers_44 : decode cX8_readNumbers 44 = .ok (.iadd, 1) := by decide +kernel
theorem dX8_readNumbers_45 : decode cX8_readNumbers 45 = .ok (.invokevirtual 172, 3) := by decide +kernel
theorem dX8_readNumbers_48 : decode cX8_readNumbers 48 = .ok (.ifCond .eq 9, 3) := by decide +kernel
theorem dX8_readNumbers_51 : decode cX8_readNumbers 51 = .ok (.iinc 3 1, 3) := by decide +kernel
theorem dX8_readNumbers_54 : decode cX8_readNumbers 54 = .ok (.goto (-18), 3) := by decide +kernel
theorem dX8_readNumbers_57 : decode cX8_readNumbers 57 = .ok (.iload_n 3, 1) := by decide +kernel
theorem dX8_readNumbers_58 : decode cX8_readNumbers 58 = .ok (.iconst 1, 1) := by decide +kernel
theorem dX8_readNumbers_59 : decode cX8_readNumbers 59 = .ok (.iadd, 1) := by decide +kernel
theorem dX8_readNumbers_60 : decode cX8_readNumbers 60 = .ok (.aload_n 0, 1) := by decide +kernel
theorem dX8_readNumbers_61 : decode cX8_readNumbers 61 = .ok (.getfield 143, 3) := by decide +kernel
theorem dX8_readNumbers_64 : decode cX8_readNumbers 64 = .ok (.if_icmp .ge 45, 3) := by decide +kernel
theorem dX8_readNumbers_67 : decode cX8_readNumbers 67 = .ok (.aload_n 0, 1) := by decide +kernel
theorem dX8_readNumbers_68 : decode cX8_readNumbers 68 = .ok (.getfield 13, 3) := by decide +kernel
