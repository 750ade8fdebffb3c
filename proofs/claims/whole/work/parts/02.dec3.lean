theorem dX8_readNumbers_71 : decode cX8_readNumbers 71 = .ok (.iload_n 3, 1) := by decide +kernel
theorem dX8_readNumbers_72 : decode cX8_readNumbers 72 = .ok (.iconst 1, 1) := by decide +kernel
theorem dX8_readNumbers_73 : decode cX8_readNumbers 73 = .ok (.iadd, 1) := by decide +kernel
theorem dX8_readNumbers_74 : decode cX8_readNumbers 74 = .ok (.iaload, 1) := by decide +kernel
theorem dX8_readNumbers_75 : decode cX8_readNumbers 75 = .ok (.bipush 32, 2) := by decide +kernel
theorem dX8_readNumbers_77 : decode cX8_readNumbers 77 = .ok (.if_icmp .eq 16, 3) := by decide +kernel
theorem dX8_readNumbers_80 : decode cX8_readNumbers 80 = .ok (.aload_n 0, 1) := by decide +kernel
theorem dX8_readNumbers_81 : decode cX8_readNumbers 81 = .ok (.getfield 13, 3) := by decide +kernel
theorem dX8_readNumbers_84 : decode cX8_readNumbers 84 = .ok (.iload_n 3, 1) := by decide +kernel
theorem dX8_readNumbers_85 : decode cX8_readNumbers 85 = .ok (.iconst 1, 1) := by decide +kernel
theorem dX8_readNumbers_86 : decode cX8_readNumbers 86 = .ok (.iadd, 1) := by decide +kernel
theorem dX8_readNumbers_87 : decode cX8_readNumbers 87 = .ok (.iaload, 1) := by decide +kernel
theorem dX8_readNumbers_88 : decode cX8_readNumbers 88 = .ok (.bipush 45, 2) := by decide +kernel
theorem dX8_readNumbers_90 : decode cX8_readNumbers 90 = .ok (.if_icmp .ne 19, 3) := by decide +kernel
theorem dX8_readNumbers_93 : decode cX8_readNumbers 93 = .ok (.aload_n 0, 1) := by decide +kernel
theorem dX8_readNumbers_94 : decode cX8_readNumbers 94 = .ok (.iload_n 3, 1) := by decide +kernel
theorem dX8_readNumbers_95 : decode cX8_readNumbers 95 = .ok (.iconst 2, 1) := by decide +kernel
theorem dX8_readNumbers_96 : decode cX8_readNumbers 96 = .ok (.iadd, 1) := by decide +kernel
theorem dX8_readNumbers_97 : decode cX8_readNumbers 97 = .ok (.invokevirtual 172, 3) := by decide +kernel
theorem dX8_readNumbers_100 : decode cX8_readNumbers 100 = .ok (.ifCond .eq 9, 3) := by decide +kernel
theorem dX8_readNumbers_103 : decode cX8_readNumbers 103 = .ok (.iinc 3 2, 3) := by decide +kernel
theorem dX8_readNumbers_106 : decode cX8_readNumbers 106 = .ok (.goto (-70), 3) := by decide +kernel
theorem dX8_readNumbers_109 : decode cX8_readNumbers 109 = .ok (.iconst 0, 1) := by decide +kernel
theorem dX8_readNumbers_110 : decode cX8_readNumbers 110 = .ok (.istore 4, 2) := by decide +kernel
theorem dX8_readNumbers_112 : decode cX8_readNumbers 112 = .ok (.goto (-76), 3) := by decide +kernel
theorem dX8_readNumbers_115 : decode cX8_readNumbers 115 = .ok (.aload_n 0, 1) := by decide +kernel
theorem dX8_readNumbers_116 : decode cX8_readNumbers 116 = .ok (.iload_n 2, 1) := by decide +kernel
theorem dX8_readNumbers_117 : decode cX8_readNumbers 117 = .ok (.iload_n 3, 1) := by decide +kernel
theorem dX8_readNumbers_118 : decode cX8_readNumbers 118 = .ok (.invokevirtual 175, 3) := by decide +kernel
theorem dX8_readNumbers_121 : decode cX8_readNumbers 121 = .ok (.ifCond .eq 33, 3) := by decide +kernel
theorem dX8_readNumbers_124 : decode cX8_readNumbers 124 = .ok (.aload_n 0, 1) := by decide +kernel
theorem dX8_readNumbers_125 : decode cX8_readNumbers 125 = .ok (.getfield 28, 3) := by decide +kernel
theorem dX8_readNumbers_128 : decode cX8_readNumbers 128 = .ok (.aload_n 0, 1) := by decide +kernel
theorem dX8_readNumbers_129 : decode cX8_readNumbers 129 = .ok (.getfield 169, 3) := by decide +kernel
theorem dX8_readNumbers_132 : decode cX8_readNumbers 132 = .ok (.iload_n 2, 1) := by decide +kernel
theorem dX8_readNumbers_133 : decode cX8_readNumbers 133 = .ok (.iastore, 1) := by decide +kernel
theorem dX8_readNumbers_134 : decode cX8_readNumbers 134 = .ok (.aload_n 0, 1) := by decide +kernel
theorem dX8_readNumbers_135 : decode cX8_readNumbers 135 = .ok (.getfield 31, 3) := by decide +kernel
theorem dX8_readNumbers_138 : decode cX8_readNumbers 138 = .ok (.aload_n 0, 1) := by decide +kernel
theorem dX8_readNumbers_139 : decode cX8_readNumbers 139 = .ok (.getfield 169, 3) := by decide +kernel
theorem dX8_readNumbers_142 : decode cX8_readNumbers 142 = .ok (.iload_n 3, 1) := by decide +kernel
theorem dX8_readNumbers_143 : decode cX8_readNumbers 143 = .ok (.iastore, 1) := by decide +kernel
theorem dX8_readNumbers_144 : decode cX8_readNumbers 144 = .ok (.aload_n 0, 1) := by decide +kernel
theorem dX8_readNumbers_145 : decode cX8_readNumbers 145 = .ok (.dup, 1) := by decide +kernel
theorem dX8_readNumbers_146 : decode cX8_readNumbers 146 = .ok (.getfield 169, 3) := by decide +kernel
theorem dX8_readNumbers_149 : decode cX8_readNumbers 149 = .ok (.iconst 1, 1) := by decide +kernel
theorem dX8_readNumbers_150 : decode cX8_readNumbers 150 = .ok (.iadd, 1) := by decide +kernel
theorem dX8_readNumbers_151 : decode cX8_readNumbers 151 = .ok (.putfield 169, 3) := by decide +kernel
theorem dX8_readNumbers_154 : decode cX8_readNumbers 154 = .ok (.iload_n 3, 1) := by decide +kernel
theorem dX8_readNumbers_155 : decode cX8_readNumbers 155 = .ok (.iconst 1, 1) := by decide +kernel
theorem dX8_readNumbers_156 : decode cX8_readNumbers 156 = .ok (.iadd, 1) := by decide +kernel
theorem dX8_readNumbers_157 : decode cX8_readNumbers 157 = .ok (.istore_n 1, 1) := by decide +kernel
theorem dX8_readNumbers_158 : decode cX8_readNumbers 158 = .ok (.goto (-151), 3) := by decide +kernel
theorem dX8_readNumbers_161 : decode cX8_readNumbers 161 = .ok (.return_, 1) := by decide +kernel
theorem dX8_isNumber_0 : decode cX8_isNumber 0 = .ok (.iconst 0, 1) := by decide +kernel
theorem dX8_isNumber_1 : decode cX8_isNumber 1 = .ok (.istore_n 3, 1) := by decide +kernel
theorem dX8_isNumber_2 : decode cX8_isNumber 2 = .ok (.iconst 0, 1) := by decide +kernel
theorem dX8_isNumber_3 : decode cX8_isNumber 3 = .ok (.istore 4, 2) := by decide +kernel
theorem dX8_isNumber_5 : decode cX8_isNumber 5 = .ok (.iload_n 2, 1) := by decide +kernel
theorem dX8_isNumber_6 : decode cX8_isNumber 6 = .ok (.istore 5, 2) := by decide +kernel
theorem dX8_isNumber_8 : decode cX8_isNumber 8 = .ok (.iload 5, 2) := by decide +kernel
theorem dX8_isNumber_10 : decode cX8_isNumber 10 = .ok (.iload_n 1, 1) := by decide +kernel
theorem dX8_isNumber_11 : decode cX8_isNumber 11 = .ok (.if_icmp .lt 76, 3) := by decide +kernel
theorem dX8_isNumber_14 : decode cX8_isNumber 14 = .ok (.aload_n 0, 1) := by decide +kernel
theorem dX8_isNumber_15 : decode cX8_isNumber 15 = .ok (.getfield 13, 3) := by decide +kernel
theorem dX8_isNumber_18 : decode cX8_isNumber 18 = .ok (.iload 5, 2) := by decide +kernel
theorem dX8_isNumber_20 : decode cX8_isNumber 20 = .ok (.iaload, 1) := by decide +kernel
theorem dX8_isNumber_21 : decode cX8_isNumber 21 = .ok (.invokestatic 153, 3) := by decide +kernel
theorem dX8_isNumber_24 : decode cX8_isNumber 24 = .ok (.ifCond .eq 57, 3) := by decide +kernel
theorem dX8_isNumber_27 : decode cX8_isNumber 27 = .ok (.aload_n 0, 1) := by decide +kernel
theorem dX8_isNumber_28 : decode cX8_isNumber 28 = .ok (.getfield 13, 3) := by decide +kernel
theorem dX8_isNumber_31 : decode cX8_isNumber 31 = .ok (.iload 5, 2) := by decide +kernel
theorem dX8_isNumber_33 : decode cX8_isNumber 33 = .ok (.iaload, 1) := by decide +kernel
theorem dX8_isNumber_34 : decode cX8_isNumber 34 = .ok (.bipush 48, 2) := by decide +kernel
theorem dX8_isNumber_36 : decode cX8_isNumber 36 = .ok (.isub, 1) := by decide +kernel
theorem dX8_isNumber_37 : decode cX8_isNumber 37 = .ok (.istore 6, 2) := by decide +kernel
theorem dX8_isNumber_39 : decode cX8_isNumber 39 = .ok (.iload_n 3, 1) := by decide +kernel
theorem dX8_isNumber_40 : decode cX8_isNumber 40 = .ok (.iconst 2, 1) := by decide +kernel
theorem dX8_isNumber_41 : decode cX8_isNumber 41 = .ok (.irem, 1) := by decide +kernel
theorem dX8_isNumber_42 : decode cX8_isNumber 42 = .ok (.iconst 1, 1) := by decide +kernel
theorem dX8_isNumber_43 : decode cX8_isNumber 43 = .ok (.if_icmp .ne 28, 3) := by decide +kernel
theorem dX8_isNumber_46 : decode cX8_isNumber 46 = .ok (.iconst 2, 1) := by decide +kernel
theorem dX8_isNumber_47 : decode cX8_isNumber 47 = .ok (.iload 6, 2) := by decide +kernel
theorem dX8_isNumber_49 : decode cX8_isNumber 49 = .ok (.imul, 1) := by decide +kernel
theorem dX8_isNumber_50 : decode cX8_isNumber 50 = .ok (.bipush 9, 2) := by decide +kernel
theorem dX8_isNumber_52 : decode cX8_isNumber 52 = .ok (.if_icmp .le 13, 3) := by decide +kernel
theorem dX8_isNumber_55 : decode cX8_isNumber 55 = .ok (.iconst 2, 1) := by decide +kernel
theorem dX8_isNumber_56 : decode cX8_isNumber 56 = .ok (.iload 6, 2) := by decide +kernel
theorem dX8_isNumber_58 : decode cX8_isNumber 58 = .ok (.imul, 1) := by decide +kernel
theorem dX8_isNumber_59 : decode cX8_isNumber 59 = .ok (.bipush 9, 2) := by decide +kernel
theorem dX8_isNumber_61 : decode cX8_isNumber 61 = .ok (.isub, 1) := by decide +kernel
theorem dX8_isNumber_62 : decode cX8_isNumber 62 = .ok (.goto 7, 3) := by decide +kernel
theorem dX8_isNumber_65 : decode cX8_isNumber 65 = .ok (.iconst 2, 1) := by decide +kernel
theorem dX8_isNumber_66 : decode cX8_isNumber 66 = .ok (.iload 6, 2) := by decide +kernel
theorem dX8_isNumber_68 : decode cX8_isNumber 68 = .ok (.imul, 1) := by decide +kernel
theorem dX8_isNumber_69 : decode cX8_isNumber 69 = .ok (.istore 6, 2) := by decide +kernel
theorem dX8_isNumber_71 : decode cX8_isNumber 71 = .ok (.iload 4, 2) := by decide +kernel
theorem dX8_isNumber_73 : decode cX8_isNumber 73 = .ok (.iload 6, 2) := by decide +kernel
theorem dX8_isNumber_75 : decode cX8_isNumber 75 = .ok (.iadd, 1) := by decide +kernel
theorem dX8_isNumber_76 : decode cX8_isNumber 76 = .ok (.istore 4, 2) := by decide +kernel
theorem dX8_isNumber_78 : decode cX8_isNumber 78 = .ok (.iinc 3 1, 3) := by decide +kernel
theorem dX8_isNumber_81 : decode cX8_isNumber 81 = .ok (.iinc 5 (-1), 3) := by decide +kernel
theorem dX8_isNumber_84 : decode cX8_isNumber 84 = .ok (.goto (-76), 3) := by decide +kernel
theorem dX8_isNumber_87 : decode cX8_isNumber 87 = .ok (.iload_n 3, 1) := by decide +kernel
theorem dX8_isNumber_88 : decode cX8_isNumber 88 = .ok (.bipush 8, 2) := by decide +kernel
theorem dX8_isNumber_90 : decode cX8_isNumber 90 = .ok (.if_icmp .lt 21, 3) := by decide +kernel
theorem dX8_isNumber_93 : decode cX8_isNumber 93 = .ok (.iload_n 3, 1) := by decide +kernel
theorem dX8_isNumber_94 : decode cX8_isNumber 94 = .ok (.bipush 16, 2) := by decide +kernel
theorem dX8_isNumber_96 : decode cX8_isNumber 96 = .ok (.if_icmp .gt 15, 3) := by decide +kernel
theorem dX8_isNumber_99 : decode cX8_isNumber 99 = .ok (.iload 4, 2) := by decide +kernel
theorem dX8_isNumber_101 : decode cX8_isNumber 101 = .ok (.bipush 10, 2) := by decide +kernel
theorem dX8_isNumber_103 : decode cX8_isNumber 103 = .ok (.irem, 1) := by decide +kernel
theorem dX8_isNumber_104 : decode cX8_isNumber 104 = .ok (.ifCond .ne 7, 3) := by decide +kernel
theorem dX8_isNumber_107 : decode cX8_isNumber 107 = .ok (.iconst 1, 1) := by decide +kernel
theorem dX8_isNumber_108 : decode cX8_isNumber 108 = .ok (.goto 4, 3) := by decide +kernel
theorem dX8_isNumber_111 : decode cX8_isNumber 111 = .ok (.iconst 0, 1) := by decide +kernel
theorem dX8_isNumber_112 : decode cX8_isNumber 112 = .ok (.ireturn, 1) := by decide +kernel
theorem dX8_keep_0 : decode cX8_keep 0 = .ok (.iload_n 1, 1) := by decide +kernel
theorem dX8_keep_1 : decode cX8_keep 1 = .ok (.iconst 0, 1) := by decide +kernel
theorem dX8_keep_2 : decode cX8_keep 2 = .ok (.bipush 7, 2) := by decide +kernel
theorem dX8_keep_4 : decode cX8_keep 4 = .ok (.invokestatic 128, 3) := by decide +kernel
theorem dX8_keep_7 : decode cX8_keep 7 = .ok (.ifCond .ne 5, 3) := by decide +kernel
theorem dX8_keep_10 : decode cX8_keep 10 = .ok (.iconst (-1), 1) := by decide +kernel
theorem dX8_keep_11 : decode cX8_keep 11 = .ok (.ireturn, 1) := by decide +kernel
theorem dX8_keep_12 : decode cX8_keep 12 = .ok (.aload_n 0, 1) := by decide +kernel
theorem dX8_keep_13 : decode cX8_keep 13 = .ok (.aload_n 0, 1) := by decide +kernel
theorem dX8_keep_14 : decode cX8_keep 14 = .ok (.getfield 9, 3) := by decide +kernel
theorem dX8_keep_17 : decode cX8_keep 17 = .ok (.iconst 0, 1) := by decide +kernel
theorem dX8_keep_18 : decode cX8_keep 18 = .ok (.aload_n 0, 1) := by decide +kernel
theorem dX8_keep_19 : decode cX8_keep 19 = .ok (.getfield 140, 3) := by decide +kernel
theorem dX8_keep_22 : decode cX8_keep 22 = .ok (.invokevirtual 179, 3) := by decide +kernel
theorem dX8_keep_25 : decode cX8_keep 25 = .ok (.aload_n 0, 1) := by decide +kernel
theorem dX8_keep_26 : decode cX8_keep 26 = .ok (.iconst 0, 1) := by decide +kernel
theorem dX8_keep_27 : decode cX8_keep 27 = .ok (.putfield 140, 3) := by decide +kernel
theorem dX8_keep_30 : decode cX8_keep 30 = .ok (.iconst 0, 1) := by decide +kernel
theorem dX8_keep_31 : decode cX8_keep 31 = .ok (.istore_n 2, 1) := by decide +kernel
theorem dX8_keep_32 : decode cX8_keep 32 = .ok (.iload_n 2, 1) := by decide +kernel
theorem dX8_keep_33 : decode cX8_keep 33 = .ok (.aload_n 0, 1) := by decide +kernel
theorem dX8_keep_34 : decode cX8_keep 34 = .ok (.getfield 143, 3) := by decide +kernel
theorem dX8_keep_37 : decode cX8_keep 37 = .ok (.if_icmp .ge 30, 3) := by decide +kernel
theorem dX8_keep_40 : decode cX8_keep 40 = .ok (.aload_n 0, 1) := by decide +kernel
theorem dX8_keep_41 : decode cX8_keep 41 = .ok (.getfield 34, 3) := by decide +kernel
theorem dX8_keep_44 : decode cX8_keep 44 = .ok (.sipush 300, 3) := by decide +kernel
theorem dX8_keep_47 : decode cX8_keep 47 = .ok (.iload_n 1, 1) := by decide +kernel
theorem dX8_keep_48 : decode cX8_keep 48 = .ok (.imul, 1) := by decide +kernel
theorem dX8_keep_49 : decode cX8_keep 49 = .ok (.iload_n 2, 1) := by decide +kernel
theorem dX8_keep_50 : decode cX8_keep 50 = .ok (.iadd, 1) := by decide +kernel
theorem dX8_keep_51 : decode cX8_keep 51 = .ok (.aload_n 0, 1) := by decide +kernel
theorem dX8_keep_52 : decode cX8_keep 52 = .ok (.getfield 13, 3) := by decide +kernel
theorem dX8_keep_55 : decode cX8_keep 55 = .ok (.iload_n 2, 1) := by decide +kernel
theorem dX8_keep_56 : decode cX8_keep 56 = .ok (.iaload, 1) := by decide +kernel
theorem dX8_keep_57 : decode cX8_keep 57 = .ok (.invokestatic 150, 3) := by decide +kernel
theorem dX8_keep_60 : decode cX8_keep 60 = .ok (.iastore, 1) := by decide +kernel
theorem dX8_keep_61 : decode cX8_keep 61 = .ok (.iinc 2 1, 3) := by decide +kernel
theorem dX8_keep_64 : decode cX8_keep 64 = .ok (.goto (-32), 3) := by decide +kernel
theorem dX8_keep_67 : decode cX8_keep 67 = .ok (.iconst 0, 1) := by decide +kernel
theorem dX8_keep_68 : decode cX8_keep 68 = .ok (.istore_n 2, 1) := by decide +kernel
theorem dX8_keep_69 : decode cX8_keep 69 = .ok (.iload_n 2, 1) := by decide +kernel
theorem dX8_keep_70 : decode cX8_keep 70 = .ok (.aload_n 0, 1) := by decide +kernel
theorem dX8_keep_71 : decode cX8_keep 71 = .ok (.getfield 160, 3) := by decide +kernel
theorem dX8_keep_74 : decode cX8_keep 74 = .ok (.if_icmp .ge 45, 3) := by decide +kernel
theorem dX8_keep_77 : decode cX8_keep 77 = .ok (.aload_n 0, 1) := by decide +kernel
theorem dX8_keep_78 : decode cX8_keep 78 = .ok (.getfield 37, 3) := by decide +kernel
theorem dX8_keep_81 : decode cX8_keep 81 = .ok (.sipush 300, 3) := by decide +kernel
theorem dX8_keep_84 : decode cX8_keep 84 = .ok (.iload_n 1, 1) := by decide +kernel
theorem dX8_keep_85 : decode cX8_keep 85 = .ok (.imul, 1) := by decide +kernel
theorem dX8_keep_86 : decode cX8_keep 86 = .ok (.iload_n 2, 1) := by decide +kernel
theorem dX8_keep_87 : decode cX8_keep 87 = .ok (.iadd, 1) := by decide +kernel
theorem dX8_keep_88 : decode cX8_keep 88 = .ok (.aload_n 0, 1) := by decide +kernel
theorem dX8_keep_89 : decode cX8_keep 89 = .ok (.getfield 22, 3) := by decide +kernel
theorem dX8_keep_92 : decode cX8_keep 92 = .ok (.iload_n 2, 1) := by decide +kernel
theorem dX8_keep_93 : decode cX8_keep 93 = .ok (.iaload, 1) := by decide +kernel
theorem dX8_keep_94 : decode cX8_keep 94 = .ok (.iastore, 1) := by decide +kernel
theorem dX8_keep_95 : decode cX8_keep 95 = .ok (.aload_n 0, 1) := by decide +kernel
theorem dX8_keep_96 : decode cX8_keep 96 = .ok (.getfield 40, 3) := by decide +kernel
theorem dX8_keep_99 : decode cX8_keep 99 = .ok (.sipush 300, 3) := by decide +kernel
theorem dX8_keep_102 : decode cX8_keep 102 = .ok (.iload_n 1, 1) := by decide +kernel
theorem dX8_keep_103 : decode cX8_keep 103 = .ok (.imul, 1) := by decide +kernel
theorem dX8_keep_104 : decode cX8_keep 104 = .ok (.iload_n 2, 1) := by decide +kernel
theorem dX8_keep_105 : decode cX8_keep 105 = .ok (.iadd, 1) := by decide +kernel
theorem dX8_keep_106 : decode cX8_keep 106 = .ok (.aload_n 0, 1) := by decide +kernel
theorem dX8_keep_107 : decode cX8_keep 107 = .ok (.getfield 25, 3) := by decide +kernel
theorem dX8_keep_110 : decode cX8_keep 110 = .ok (.iload_n 2, 1) := by decide +kernel
theorem dX8_keep_111 : decode cX8_keep 111 = .ok (.iaload, 1) := by decide +kernel
theorem dX8_keep_112 : decode cX8_keep 112 = .ok (.iastore, 1) := by decide +kernel
theorem dX8_keep_113 : decode cX8_keep 113 = .ok (.iinc 2 1, 3) := by decide +kernel
theorem dX8_keep_116 : decode cX8_keep 116 = .ok (.goto (-47), 3) := by decide +kernel
theorem dX8_keep_119 : decode cX8_keep 119 = .ok (.aload_n 0, 1) := by decide +kernel
theorem dX8_keep_120 : decode cX8_keep 120 = .ok (.getfield 43, 3) := by decide +kernel
theorem dX8_keep_123 : decode cX8_keep 123 = .ok (.iload_n 1, 1) := by decide +kernel
theorem dX8_keep_124 : decode cX8_keep 124 = .ok (.aload_n 0, 1) := by decide +kernel
theorem dX8_keep_125 : decode cX8_keep 125 = .ok (.getfield 160, 3) := by decide +kernel
theorem dX8_keep_128 : decode cX8_keep 128 = .ok (.iastore, 1) := by decide +kernel
theorem dX8_keep_129 : decode cX8_keep 129 = .ok (.aload_n 0, 1) := by decide +kernel
theorem dX8_keep_130 : decode cX8_keep 130 = .ok (.getfield 160, 3) := by decide +kernel
theorem dX8_keep_133 : decode cX8_keep 133 = .ok (.ireturn, 1) := by decide +kernel
theorem dX8_isPart_0 : decode cX8_isPart 0 = .ok (.iload_n 2, 1) := by decide +kernel
theorem dX8_isPart_1 : decode cX8_isPart 1 = .ok (.iload_n 3, 1) := by decide +kernel
theorem dX8_isPart_2 : decode cX8_isPart 2 = .ok (.iadd, 1) := by decide +kernel
theorem dX8_isPart_3 : decode cX8_isPart 3 = .ok (.aload_n 0, 1) := by decide +kernel
theorem dX8_isPart_4 : decode cX8_isPart 4 = .ok (.getfield 43, 3) := by decide +kernel
theorem dX8_isPart_7 : decode cX8_isPart 7 = .ok (.iload_n 1, 1) := by decide +kernel
theorem dX8_isPart_8 : decode cX8_isPart 8 = .ok (.iaload, 1) := by decide +kernel
theorem dX8_isPart_9 : decode cX8_isPart 9 = .ok (.if_icmp .le 5, 3) := by decide +kernel
theorem dX8_isPart_12 : decode cX8_isPart 12 = .ok (.iconst 0, 1) := by decide +kernel
theorem dX8_isPart_13 : decode cX8_isPart 13 = .ok (.ireturn, 1) := by decide +kernel
theorem dX8_isPart_14 : decode cX8_isPart 14 = .ok (.iload_n 2, 1) := by decide +kernel
theorem dX8_isPart_15 : decode cX8_isPart 15 = .ok (.istore 4, 2) := by decide +kernel
theorem dX8_isPart_17 : decode cX8_isPart 17 = .ok (.iload 4, 2) := by decide +kernel
theorem dX8_isPart_19 : decode cX8_isPart 19 = .ok (.iload_n 2, 1) := by decide +kernel
theorem dX8_isPart_20 : decode cX8_isPart 20 = .ok (.iload_n 3, 1) := by decide +kernel
theorem dX8_isPart_21 : decode cX8_isPart 21 = .ok (.iadd, 1) := by decide +kernel
theorem dX8_isPart_22 : decode cX8_isPart 22 = .ok (.if_icmp .ge 42, 3) := by decide +kernel
theorem dX8_isPart_25 : decode cX8_isPart 25 = .ok (.aload_n 0, 1) := by decide +kernel
theorem dX8_isPart_26 : decode cX8_isPart 26 = .ok (.getfield 40, 3) := by decide +kernel
theorem dX8_isPart_29 : decode cX8_isPart 29 = .ok (.sipush 300, 3) := by decide +kernel
theorem dX8_isPart_32 : decode cX8_isPart 32 = .ok (.iload_n 1, 1) := by decide +kernel
theorem dX8_isPart_33 : decode cX8_isPart 33 = .ok (.imul, 1) := by decide +kernel
theorem dX8_isPart_34 : decode cX8_isPart 34 = .ok (.iload 4, 2) := by decide +kernel
theorem dX8_isPart_36 : decode cX8_isPart 36 = .ok (.iadd, 1) := by decide +kernel
theorem dX8_isPart_37 : decode cX8_isPart 37 = .ok (.iaload, 1) := by decide +kernel
theorem dX8_isPart_38 : decode cX8_isPart 38 = .ok (.aload_n 0, 1) := by decide +kernel
theorem dX8_isPart_39 : decode cX8_isPart 39 = .ok (.getfield 37, 3) := by decide +kernel
theorem dX8_isPart_42 : decode cX8_isPart 42 = .ok (.sipush 300, 3) := by decide +kernel
theorem dX8_isPart_45 : decode cX8_isPart 45 = .ok (.iload_n 1, 1) := by decide +kernel
theorem dX8_isPart_46 : decode cX8_isPart 46 = .ok (.imul, 1) := by decide +kernel
theorem dX8_isPart_47 : decode cX8_isPart 47 = .ok (.iload 4, 2) := by decide +kernel
theorem dX8_isPart_49 : decode cX8_isPart 49 = .ok (.iadd, 1) := by decide +kernel
theorem dX8_isPart_50 : decode cX8_isPart 50 = .ok (.iaload, 1) := by decide +kernel
theorem dX8_isPart_51 : decode cX8_isPart 51 = .ok (.isub, 1) := by decide +kernel
theorem dX8_isPart_52 : decode cX8_isPart 52 = .ok (.iconst 3, 1) := by decide +kernel
theorem dX8_isPart_53 : decode cX8_isPart 53 = .ok (.if_icmp .lt 5, 3) := by decide +kernel
theorem dX8_isPart_56 : decode cX8_isPart 56 = .ok (.iconst 1, 1) := by decide +kernel
theorem dX8_isPart_57 : decode cX8_isPart 57 = .ok (.ireturn, 1) := by decide +kernel
theorem dX8_isPart_58 : decode cX8_isPart 58 = .ok (.iinc 4 1, 3) := by decide +kernel
theorem dX8_isPart_61 : decode cX8_isPart 61 = .ok (.goto (-44), 3) := by decide +kernel
theorem dX8_isPart_64 : decode cX8_isPart 64 = .ok (.iconst 0, 1) := by decide +kernel
theorem dX8_isPart_65 : decode cX8_isPart 65 = .ok (.ireturn, 1) := by decide +kernel
theorem dX8_isWord_0 : decode cX8_isWord 0 = .ok (.aload_n 0, 1) := by decide +kernel
theorem dX8_isWord_1 : decode cX8_isWord 1 = .ok (.getfield 37, 3) := by decide +kernel
theorem dX8_isWord_4 : decode cX8_isWord 4 = .ok (.sipush 300, 3) := by decide +kernel
theorem dX8_isWord_7 : decode cX8_isWord 7 = .ok (.iload_n 1, 1) := by decide +kernel
theorem dX8_isWord_8 : decode cX8_isWord 8 = .ok (.imul, 1) := by decide +kernel
theorem dX8_isWord_9 : decode cX8_isWord 9 = .ok (.iload_n 2, 1) := by decide +kernel
theorem dX8_isWord_10 : decode cX8_isWord 10 = .ok (.iadd, 1) := by decide +kernel
theorem dX8_isWord_11 : decode cX8_isWord 11 = .ok (.iaload, 1) := by decide +kernel
theorem dX8_isWord_12 : decode cX8_isWord 12 = .ok (.istore 4, 2) := by decide +kernel
theorem dX8_isWord_14 : decode cX8_isWord 14 = .ok (.aload_n 0, 1) := by decide +kernel
theorem dX8_isWord_15 : decode cX8_isWord 15 = .ok (.getfield 40, 3) := by decide +kernel
theorem dX8_isWord_18 : decode cX8_isWord 18 = .ok (.sipush 300, 3) := by decide +kernel
theorem dX8_isWord_21 : decode cX8_isWord 21 = .ok (.iload_n 1, 1) := by decide +kernel
theorem dX8_isWord_22 : decode cX8_isWord 22 = .ok (.imul, 1) := by decide +kernel
theorem dX8_isWord_23 : decode cX8_isWord 23 = .ok (.iload_n 2, 1) := by decide +kernel
theorem dX8_isWord_24 : decode cX8_isWord 24 = .ok (.iadd, 1) := by decide +kernel
theorem dX8_isWord_25 : decode cX8_isWord 25 = .ok (.iaload, 1) := by decide +kernel
theorem dX8_isWord_26 : decode cX8_isWord 26 = .ok (.iload 4, 2) := by decide +kernel
theorem dX8_isWord_28 : decode cX8_isWord 28 = .ok (.isub, 1) := by decide +kernel
theorem dX8_isWord_29 : decode cX8_isWord 29 = .ok (.istore 5, 2) := by decide +kernel
theorem dX8_isWord_31 : decode cX8_isWord 31 = .ok (.aload_n 0, 1) := by decide +kernel
theorem dX8_isWord_32 : decode cX8_isWord 32 = .ok (.getfield 25, 3) := by decide +kernel
theorem dX8_isWord_35 : decode cX8_isWord 35 = .ok (.iload_n 3, 1) := by decide +kernel
theorem dX8_isWord_36 : decode cX8_isWord 36 = .ok (.iaload, 1) := by decide +kernel
theorem dX8_isWord_37 : decode cX8_isWord 37 = .ok (.aload_n 0, 1) := by decide +kernel
theorem dX8_isWord_38 : decode cX8_isWord 38 = .ok (.getfield 22, 3) := by decide +kernel
theorem dX8_isWord_41 : decode cX8_isWord 41 = .ok (.iload_n 3, 1) := by decide +kernel
theorem dX8_isWord_42 : decode cX8_isWord 42 = .ok (.iaload, 1) := by decide +kernel
theorem dX8_isWord_43 : decode cX8_isWord 43 = .ok (.isub, 1) := by decide +kernel
theorem dX8_isWord_44 : decode cX8_isWord 44 = .ok (.iload 5, 2) := by decide +kernel
theorem dX8_isWord_46 : decode cX8_isWord 46 = .ok (.if_icmp .eq 5, 3) := by decide +kernel
theorem dX8_isWord_49 : decode cX8_isWord 49 = .ok (.iconst 0, 1) := by decide +kernel
theorem dX8_isWord_50 : decode cX8_isWord 50 = .ok (.ireturn, 1) := by decide +kernel
theorem dX8_isWord_51 : decode cX8_isWord 51 = .ok (.iconst 0, 1) := by decide +kernel
theorem dX8_isWord_52 : decode cX8_isWord 52 = .ok (.istore 6, 2) := by decide +kernel
theorem dX8_isWord_54 : decode cX8_isWord 54 = .ok (.iload 6, 2) := by decide +kernel
theorem dX8_isWord_56 : decode cX8_isWord 56 = .ok (.iload 5, 2) := by decide +kernel
theorem dX8_isWord_58 : decode cX8_isWord 58 = .ok (.if_icmp .gt 47, 3) := by decide +kernel
theorem dX8_isWord_61 : decode cX8_isWord 61 = .ok (.aload_n 0, 1) := by decide +kernel
theorem dX8_isWord_62 : decode cX8_isWord 62 = .ok (.getfield 34, 3) := by decide +kernel
theorem dX8_isWord_65 : decode cX8_isWord 65 = .ok (.sipush 300, 3) := by decide +kernel
theorem dX8_isWord_68 : decode cX8_isWord 68 = .ok (.iload_n 1, 1) := by decide +kernel
theorem dX8_isWord_69 : decode cX8_isWord 69 = .ok (.imul, 1) := by decide +kernel
theorem dX8_isWord_70 : decode cX8_isWord 70 = .ok (.iload 4, 2) := by decide +kernel
theorem dX8_isWord_72 : decode cX8_isWord 72 = .ok (.iadd, 1) := by decide +kernel
theorem dX8_isWord_73 : decode cX8_isWord 73 = .ok (.iload 6, 2) := by decide +kernel
theorem dX8_isWord_75 : decode cX8_isWord 75 = .ok (.iadd, 1) := by decide +kernel
theorem dX8_isWord_76 : decode cX8_isWord 76 = .ok (.iaload, 1) := by decide +kernel
theorem dX8_isWord_77 : decode cX8_isWord 77 = .ok (.aload_n 0, 1) := by decide +kernel
theorem dX8_isWord_78 : decode cX8_isWord 78 = .ok (.getfield 13, 3) := by decide +kernel
theorem dX8_isWord_81 : decode cX8_isWord 81 = .ok (.aload_n 0, 1) := by decide +kernel
theorem dX8_isWord_82 : decode cX8_isWord 82 = .ok (.getfield 22, 3) := by decide +kernel
theorem dX8_isWord_85 : decode cX8_isWord 85 = .ok (.iload_n 3, 1) := by decide +kernel
theorem dX8_isWord_86 : decode cX8_isWord 86 = .ok (.iaload, 1) := by decide +kernel
theorem dX8_isWord_87 : decode cX8_isWord 87 = .ok (.iload 6, 2) := by decide +kernel
theorem dX8_isWord_89 : decode cX8_isWord 89 = .ok (.iadd, 1) := by decide +kernel
theorem dX8_isWord_90 : decode cX8_isWord 90 = .ok (.iaload, 1) := by decide +kernel
theorem dX8_isWord_91 : decode cX8_isWord 91 = .ok (.invokestatic 150, 3) := by decide +kernel
theorem dX8_isWord_94 : decode cX8_isWord 94 = .ok (.if_icmp .eq 5, 3) := by decide +kernel
theorem dX8_isWord_97 : decode cX8_isWord 97 = .ok (.iconst 0, 1) := by decide +kernel
theorem dX8_isWord_98 : decode cX8_isWord 98 = .ok (.ireturn, 1) := by decide +kernel
theorem dX8_isWord_99 : decode cX8_isWord 99 = .ok (.iinc 6 1, 3) := by decide +kernel
theorem dX8_isWord_102 : decode cX8_isWord 102 = .ok (.goto (-48), 3) := by decide +kernel
theorem dX8_isWord_105 : decode cX8_isWord 105 = .ok (.iconst 1, 1) := by decide +kernel
theorem dX8_isWord_106 : decode cX8_isWord 106 = .ok (.ireturn, 1) := by decide +kernel
theorem dX8_stands_0 : decode cX8_stands 0 = .ok (.iload 4, 2) := by decide +kernel
theorem dX8_stands_2 : decode cX8_stands 2 = .ok (.iload_n 3, 1) := by decide +kernel
theorem dX8_stands_3 : decode cX8_stands 3 = .ok (.iadd, 1) := by decide +kernel
theorem dX8_stands_4 : decode cX8_stands 4 = .ok (.aload_n 0, 1) := by decide +kernel
theorem dX8_stands_5 : decode cX8_stands 5 = .ok (.getfield 160, 3) := by decide +kernel
theorem dX8_stands_8 : decode cX8_stands 8 = .ok (.if_icmp .gt 13, 3) := by decide +kernel
theorem dX8_stands_11 : decode cX8_stands 11 = .ok (.aload_n 0, 1) := by decide +kernel
theorem dX8_stands_12 : decode cX8_stands 12 = .ok (.iload_n 1, 1) := by decide +kernel
theorem dX8_stands_13 : decode cX8_stands 13 = .ok (.iload_n 2, 1) := by decide +kernel
theorem dX8_stands_14 : decode cX8_stands 14 = .ok (.iload_n 3, 1) := by decide +kernel
theorem dX8_stands_15 : decode cX8_stands 15 = .ok (.invokevirtual 183, 3) := by decide +kernel
theorem dX8_stands_18 : decode cX8_stands 18 = .ok (.ifCond .ne 5, 3) := by decide +kernel
theorem dX8_stands_21 : decode cX8_stands 21 = .ok (.iconst 0, 1) := by decide +kernel
theorem dX8_stands_22 : decode cX8_stands 22 = .ok (.ireturn, 1) := by decide +kernel
theorem dX8_stands_23 : decode cX8_stands 23 = .ok (.iconst 0, 1) := by decide +kernel
theorem dX8_stands_24 : decode cX8_stands 24 = .ok (.istore 5, 2) := by decide +kernel
theorem dX8_stands_26 : decode cX8_stands 26 = .ok (.iload 5, 2) := by decide +kernel
theorem dX8_stands_28 : decode cX8_stands 28 = .ok (.iload_n 3, 1) := by decide +kernel
theorem dX8_stands_29 : decode cX8_stands 29 = .ok (.if_icmp .ge 28, 3) := by decide +kernel
theorem dX8_stands_32 : decode cX8_stands 32 = .ok (.aload_n 0, 1) := by decide +kernel
theorem dX8_stands_33 : decode cX8_stands 33 = .ok (.iload_n 1, 1) := by decide +kernel
theorem dX8_stands_34 : decode cX8_stands 34 = .ok (.iload_n 2, 1) := by decide +kernel
theorem dX8_stands_35 : decode cX8_stands 35 = .ok (.iload 5, 2) := by decide +kernel
theorem dX8_stands_37 : decode cX8_stands 37 = .ok (.iadd, 1) := by decide +kernel
theorem dX8_stands_38 : decode cX8_stands 38 = .ok (.iload 4, 2) := by decide +kernel
theorem dX8_stands_40 : decode cX8_stands 40 = .ok (.iload 5, 2) := by decide +kernel
theorem dX8_stands_42 : decode cX8_stands 42 = .ok (.iadd, 1) := by decide +kernel
theorem dX8_stands_43 : decode cX8_stands 43 = .ok (.invokevirtual 186, 3) := by decide +kernel
theorem dX8_stands_46 : decode cX8_stands 46 = .ok (.ifCond .ne 5, 3) := by decide +kernel
theorem dX8_stands_49 : decode cX8_stands 49 = .ok (.iconst 0, 1) := by decide +kernel
theorem dX8_stands_50 : decode cX8_stands 50 = .ok (.ireturn, 1) := by decide +kernel
theorem dX8_stands_51 : decode cX8_stands 51 = .ok (.iinc 5 1, 3) := by decide +kernel
theorem dX8_stands_54 : decode cX8_stands 54 = .ok (.goto (-28), 3) := by decide +kernel
theorem dX8_stands_57 : decode cX8_stands 57 = .ok (.iconst 1, 1) := by decide +kernel
theorem dX8_stands_58 : decode cX8_stands 58 = .ok (.ireturn, 1) := by decide +kernel
theorem dX8_addParts_0 : decode cX8_addParts 0 = .ok (.iconst 0, 1) := by decide +kernel
theorem dX8_addParts_1 : decode cX8_addParts 1 = .ok (.istore_n 3, 1) := by decide +kernel
theorem dX8_addParts_2 : decode cX8_addParts 2 = .ok (.iload_n 3, 1) := by decide +kernel
theorem dX8_addParts_3 : decode cX8_addParts 3 = .ok (.iload_n 2, 1) := by decide +kernel
theorem dX8_addParts_4 : decode cX8_addParts 4 = .ok (.iadd, 1) := by decide +kernel
theorem dX8_addParts_5 : decode cX8_addParts 5 = .ok (.aload_n 0, 1) := by decide +kernel
theorem dX8_addParts_6 : decode cX8_addParts 6 = .ok (.getfield 43, 3) := by decide +kernel
theorem dX8_addParts_9 : decode cX8_addParts 9 = .ok (.iload_n 1, 1) := by decide +kernel
theorem dX8_addParts_10 : decode cX8_addParts 10 = .ok (.iaload, 1) := by decide +kernel
theorem dX8_addParts_11 : decode cX8_addParts 11 = .ok (.if_icmp .gt 53, 3) := by decide +kernel
theorem dX8_addParts_14 : decode cX8_addParts 14 = .ok (.iconst 0, 1) := by decide +kernel
theorem dX8_addParts_15 : decode cX8_addParts 15 = .ok (.istore 4, 2) := by decide +kernel
theorem dX8_addParts_17 : decode cX8_addParts 17 = .ok (.iload 4, 2) := by decide +kernel
theorem dX8_addParts_19 : decode cX8_addParts 19 = .ok (.iload_n 2, 1) := by decide +kernel
theorem dX8_addParts_20 : decode cX8_addParts 20 = .ok (.iadd, 1) := by decide +kernel
theorem dX8_addParts_21 : decode cX8_addParts 21 = .ok (.aload_n 0, 1) := by decide +kernel
theorem dX8_addParts_22 : decode cX8_addParts 22 = .ok (.getfield 160, 3) := by decide +kernel
theorem dX8_addParts_25 : decode cX8_addParts 25 = .ok (.if_icmp .gt 33, 3) := by decide +kernel
theorem dX8_addParts_28 : decode cX8_addParts 28 = .ok (.aload_n 0, 1) := by decide +kernel
theorem dX8_addParts_29 : decode cX8_addParts 29 = .ok (.getfield 46, 3) := by decide +kernel
theorem dX8_addParts_32 : decode cX8_addParts 32 = .ok (.iload_n 3, 1) := by decide +kernel
theorem dX8_addParts_33 : decode cX8_addParts 33 = .ok (.baload, 1) := by decide +kernel
theorem dX8_addParts_34 : decode cX8_addParts 34 = .ok (.ifCond .ne 24, 3) := by decide +kernel
theorem dX8_addParts_37 : decode cX8_addParts 37 = .ok (.aload_n 0, 1) := by decide +kernel
theorem dX8_addParts_38 : decode cX8_addParts 38 = .ok (.getfield 46, 3) := by decide +kernel
theorem dX8_addParts_41 : decode cX8_addParts 41 = .ok (.iload_n 3, 1) := by decide +kernel
theorem dX8_addParts_42 : decode cX8_addParts 42 = .ok (.aload_n 0, 1) := by decide +kernel
theorem dX8_addParts_43 : decode cX8_addParts 43 = .ok (.iload_n 1, 1) := by decide +kernel
theorem dX8_addParts_44 : decode cX8_addParts 44 = .ok (.iload_n 3, 1) := by decide +kernel
theorem dX8_addParts_45 : decode cX8_addParts 45 = .ok (.iload_n 2, 1) := by decide +kernel
theorem dX8_addParts_46 : decode cX8_addParts 46 = .ok (.iload 4, 2) := by decide +kernel
theorem dX8_addParts_48 : decode cX8_addParts 48 = .ok (.invokevirtual 189, 3) := by decide +kernel
theorem dX8_addParts_51 : decode cX8_addParts 51 = .ok (.bastore, 1) := by decide +kernel
theorem dX8_addParts_52 : decode cX8_addParts 52 = .ok (.iinc 4 1, 3) := by decide +kernel
theorem dX8_addParts_55 : decode cX8_addParts 55 = .ok (.goto (-38), 3) := by decide +kernel
theorem dX8_addParts_58 : decode cX8_addParts 58 = .ok (.iinc 3 1, 3) := by decide +kernel
theorem dX8_addParts_61 : decode cX8_addParts 61 = .ok (.goto (-59), 3) := by decide +kernel
theorem dX8_addParts_64 : decode cX8_addParts 64 = .ok (.return_, 1) := by decide +kernel
theorem dX8_partsHad_0 : decode cX8_partsHad 0 = .ok (.iconst 0, 1) := by decide +kernel
theorem dX8_partsHad_1 : decode cX8_partsHad 1 = .ok (.istore_n 2, 1) := by decide +kernel
theorem dX8_partsHad_2 : decode cX8_partsHad 2 = .ok (.iconst 0, 1) := by decide +kernel
theorem dX8_partsHad_3 : decode cX8_partsHad 3 = .ok (.istore_n 3, 1) := by decide +kernel
theorem dX8_partsHad_4 : decode cX8_partsHad 4 = .ok (.iload_n 3, 1) := by decide +kernel
theorem dX8_partsHad_5 : decode cX8_partsHad 5 = .ok (.aload_n 0, 1) := by decide +kernel
theorem dX8_partsHad_6 : decode cX8_partsHad 6 = .ok (.getfield 43, 3) := by decide +kernel
theorem dX8_partsHad_9 : decode cX8_partsHad 9 = .ok (.iload_n 1, 1) := by decide +kernel
theorem dX8_partsHad_10 : decode cX8_partsHad 10 = .ok (.iaload, 1) := by decide +kernel
theorem dX8_partsHad_11 : decode cX8_partsHad 11 = .ok (.if_icmp .ge 26, 3) := by decide +kernel
theorem dX8_partsHad_14 : decode cX8_partsHad 14 = .ok (.iload_n 2, 1) := by decide +kernel
theorem dX8_partsHad_15 : decode cX8_partsHad 15 = .ok (.aload_n 0, 1) := by decide +kernel
theorem dX8_partsHad_16 : decode cX8_partsHad 16 = .ok (.getfield 46, 3) := by decide +kernel
theorem dX8_partsHad_19 : decode cX8_partsHad 19 = .ok (.iload_n 3, 1) := by decide +kernel
theorem dX8_partsHad_20 : decode cX8_partsHad 20 = .ok (.baload, 1) := by decide +kernel
theorem dX8_partsHad_21 : decode cX8_partsHad 21 = .ok (.ifCond .eq 7, 3) := by decide +kernel
theorem dX8_partsHad_24 : decode cX8_partsHad 24 = .ok (.iconst 1, 1) := by decide +kernel
theorem dX8_partsHad_25 : decode cX8_partsHad 25 = .ok (.goto 4, 3) := by decide +kernel
theorem dX8_partsHad_28 : decode cX8_partsHad 28 = .ok (.iconst 0, 1) := by decide +kernel
theorem dX8_partsHad_29 : decode cX8_partsHad 29 = .ok (.iadd, 1) := by decide +kernel
theorem dX8_partsHad_30 : decode cX8_partsHad 30 = .ok (.istore_n 2, 1) := by decide +kernel
theorem dX8_partsHad_31 : decode cX8_partsHad 31 = .ok (.iinc 3 1, 3) := by decide +kernel
theorem dX8_partsHad_34 : decode cX8_partsHad 34 = .ok (.goto (-30), 3) := by decide +kernel
theorem dX8_partsHad_37 : decode cX8_partsHad 37 = .ok (.iload_n 2, 1) := by decide +kernel
theorem dX8_partsHad_38 : decode cX8_partsHad 38 = .ok (.ireturn, 1) := by decide +kernel
theorem dX8_noParts_0 : decode cX8_noParts 0 = .ok (.iconst 0, 1) := by decide +kernel
theorem dX8_noParts_1 : decode cX8_noParts 1 = .ok (.istore_n 1, 1) := by decide +kernel
theorem dX8_noParts_2 : decode cX8_noParts 2 = .ok (.iload_n 1, 1) := by decide +kernel
theorem dX8_noParts_3 : decode cX8_noParts 3 = .ok (.sipush 300, 3) := by decide +kernel
theorem dX8_noParts_6 : decode cX8_noParts 6 = .ok (.if_icmp .ge 16, 3) := by decide +kernel
theorem dX8_noParts_9 : decode cX8_noParts 9 = .ok (.aload_n 0, 1) := by decide +kernel
theorem dX8_noParts_10 : decode cX8_noParts 10 = .ok (.getfield 46, 3) := by decide +kernel
theorem dX8_noParts_13 : decode cX8_noParts 13 = .ok (.iload_n 1, 1) := by decide +kernel
theorem dX8_noParts_14 : decode cX8_noParts 14 = .ok (.iconst 0, 1) := by decide +kernel
theorem dX8_noParts_15 : decode cX8_noParts 15 = .ok (.bastore, 1) := by decide +kernel
theorem dX8_noParts_16 : decode cX8_noParts 16 = .ok (.iinc 1 1, 3) := by decide +kernel
theorem dX8_noParts_19 : decode cX8_noParts 19 = .ok (.goto (-17), 3) := by decide +kernel
theorem dX8_noParts_22 : decode cX8_noParts 22 = .ok (.return_, 1) := by decide +kernel
theorem dX8_mark_0 : decode cX8_mark 0 = .ok (.iload_n 1, 1) := by decide +kernel
theorem dX8_mark_1 : decode cX8_mark 1 = .ok (.iconst 0, 1) := by decide +kernel
theorem dX8_mark_2 : decode cX8_mark 2 = .ok (.bipush 7, 2) := by decide +kernel
theorem dX8_mark_4 : decode cX8_mark 4 = .ok (.invokestatic 128, 3) := by decide +kernel
theorem dX8_mark_7 : decode cX8_mark 7 = .ok (.ifCond .ne 5, 3) := by decide +kernel
theorem dX8_mark_10 : decode cX8_mark 10 = .ok (.iconst 0, 1) := by decide +kernel
theorem dX8_mark_11 : decode cX8_mark 11 = .ok (.ireturn, 1) := by decide +kernel
theorem dX8_mark_12 : decode cX8_mark 12 = .ok (.aload_n 0, 1) := by decide +kernel
theorem dX8_mark_13 : decode cX8_mark 13 = .ok (.aload_n 0, 1) := by decide +kernel
theorem dX8_mark_14 : decode cX8_mark 14 = .ok (.getfield 9, 3) := by decide +kernel
theorem dX8_mark_17 : decode cX8_mark 17 = .ok (.iconst 0, 1) := by decide +kernel
theorem dX8_mark_18 : decode cX8_mark 18 = .ok (.aload_n 0, 1) := by decide +kernel
theorem dX8_mark_19 : decode cX8_mark 19 = .ok (.getfield 140, 3) := by decide +kernel
theorem dX8_mark_22 : decode cX8_mark 22 = .ok (.invokevirtual 179, 3) := by decide +kernel
theorem dX8_mark_25 : decode cX8_mark 25 = .ok (.aload_n 0, 1) := by decide +kernel
theorem dX8_mark_26 : decode cX8_mark 26 = .ok (.getfield 160, 3) := by decide +kernel
theorem dX8_mark_29 : decode cX8_mark 29 = .ok (.ifCond .ne 5, 3) := by decide +kernel
theorem dX8_mark_32 : decode cX8_mark 32 = .ok (.iconst 0, 1) := by decide +kernel
theorem dX8_mark_33 : decode cX8_mark 33 = .ok (.ireturn, 1) := by decide +kernel
theorem dX8_mark_34 : decode cX8_mark 34 = .ok (.aload_n 0, 1) := by decide +kernel
theorem dX8_mark_35 : decode cX8_mark 35 = .ok (.getfield 50, 3) := by decide +kernel
theorem dX8_mark_38 : decode cX8_mark 38 = .ok (.iload_n 1, 1) := by decide +kernel
theorem dX8_mark_39 : decode cX8_mark 39 = .ok (.iconst 1, 1) := by decide +kernel
theorem dX8_mark_40 : decode cX8_mark 40 = .ok (.iastore, 1) := by decide +kernel
theorem dX8_mark_41 : decode cX8_mark 41 = .ok (.aload_n 0, 1) := by decide +kernel
theorem dX8_mark_42 : decode cX8_mark 42 = .ok (.getfield 56, 3) := by decide +kernel
theorem dX8_mark_45 : decode cX8_mark 45 = .ok (.iload_n 1, 1) := by decide +kernel
theorem dX8_mark_46 : decode cX8_mark 46 = .ok (.aload_n 0, 1) := by decide +kernel
theorem dX8_mark_47 : decode cX8_mark 47 = .ok (.getfield 25, 3) := by decide +kernel
theorem dX8_mark_50 : decode cX8_mark 50 = .ok (.iconst 0, 1) := by decide +kernel
theorem dX8_mark_51 : decode cX8_mark 51 = .ok (.iaload, 1) := by decide +kernel
theorem dX8_mark_52 : decode cX8_mark 52 = .ok (.aload_n 0, 1) := by decide +kernel
theorem dX8_mark_53 : decode cX8_mark 53 = .ok (.getfield 22, 3) := by decide +kernel
theorem dX8_mark_56 : decode cX8_mark 56 = .ok (.iconst 0, 1) := by decide +kernel
theorem dX8_mark_57 : decode cX8_mark 57 = .ok (.iaload, 1) := by decide +kernel
theorem dX8_mark_58 : decode cX8_mark 58 = .ok (.isub, 1) := by decide +kernel
theorem dX8_mark_59 : decode cX8_mark 59 = .ok (.iconst 1, 1) := by decide +kernel
theorem dX8_mark_60 : decode cX8_mark 60 = .ok (.iadd, 1) := by decide +kernel
theorem dX8_mark_61 : decode cX8_mark 61 = .ok (.iastore, 1) := by decide +kernel
theorem dX8_mark_62 : decode cX8_mark 62 = .ok (.iconst 0, 1) := by decide +kernel
theorem dX8_mark_63 : decode cX8_mark 63 = .ok (.istore_n 2, 1) := by decide +kernel
theorem dX8_mark_64 : decode cX8_mark 64 = .ok (.iload_n 2, 1) := by decide +kernel
theorem dX8_mark_65 : decode cX8_mark 65 = .ok (.aload_n 0, 1) := by decide +kernel
theorem dX8_mark_66 : decode cX8_mark 66 = .ok (.getfield 56, 3) := by decide +kernel
theorem dX8_mark_69 : decode cX8_mark 69 = .ok (.iload_n 1, 1) := by decide +kernel
theorem dX8_mark_70 : decode cX8_mark 70 = .ok (.iaload, 1) := by decide +kernel
theorem dX8_mark_71 : decode cX8_mark 71 = .ok (.if_icmp .ge 37, 3) := by decide +kernel
theorem dX8_mark_74 : decode cX8_mark 74 = .ok (.aload_n 0, 1) := by decide +kernel
theorem dX8_mark_75 : decode cX8_mark 75 = .ok (.getfield 53, 3) := by decide +kernel
theorem dX8_mark_78 : decode cX8_mark 78 = .ok (.sipush 300, 3) := by decide +kernel
theorem dX8_mark_81 : decode cX8_mark 81 = .ok (.iload_n 1, 1) := by decide +kernel
theorem dX8_mark_82 : decode cX8_mark 82 = .ok (.imul, 1) := by decide +kernel
theorem dX8_mark_83 : decode cX8_mark 83 = .ok (.iload_n 2, 1) := by decide +kernel
theorem dX8_mark_84 : decode cX8_mark 84 = .ok (.iadd, 1) := by decide +kernel
theorem dX8_mark_85 : decode cX8_mark 85 = .ok (.aload_n 0, 1) := by decide +kernel
theorem dX8_mark_86 : decode cX8_mark 86 = .ok (.getfield 13, 3) := by decide +kernel
theorem dX8_mark_89 : decode cX8_mark 89 = .ok (.aload_n 0, 1) := by decide +kernel
theorem dX8_mark_90 : decode cX8_mark 90 = .ok (.getfield 22, 3) := by decide +kernel
theorem dX8_mark_93 : decode cX8_mark 93 = .ok (.iconst 0, 1) := by decide +kernel
theorem dX8_mark_94 : decode cX8_mark 94 = .ok (.iaload, 1) := by decide +kernel
theorem dX8_mark_95 : decode cX8_mark 95 = .ok (.iload_n 2, 1) := by decide +kernel
theorem dX8_mark_96 : decode cX8_mark 96 = .ok (.iadd, 1) := by decide +kernel
theorem dX8_mark_97 : decode cX8_mark 97 = .ok (.iaload, 1) := by decide +kernel
theorem dX8_mark_98 : decode cX8_mark 98 = .ok (.invokestatic 150, 3) := by decide +kernel
theorem dX8_mark_101 : decode cX8_mark 101 = .ok (.iastore, 1) := by decide +kernel
theorem dX8_mark_102 : decode cX8_mark 102 = .ok (.iinc 2 1, 3) := by decide +kernel
theorem dX8_mark_105 : decode cX8_mark 105 = .ok (.goto (-41), 3) := by decide +kernel
theorem dX8_mark_108 : decode cX8_mark 108 = .ok (.aload_n 0, 1) := by decide +kernel
theorem dX8_mark_109 : decode cX8_mark 109 = .ok (.iconst 0, 1) := by decide +kernel
theorem dX8_mark_110 : decode cX8_mark 110 = .ok (.putfield 140, 3) := by decide +kernel
theorem dX8_mark_113 : decode cX8_mark 113 = .ok (.iconst 1, 1) := by decide +kernel
theorem dX8_mark_114 : decode cX8_mark 114 = .ok (.ireturn, 1) := by decide +kernel
theorem dX8_near_0 : decode cX8_near 0 = .ok (.iload_n 1, 1) := by decide +kernel
theorem dX8_near_1 : decode cX8_near 1 = .ok (.iconst 0, 1) := by decide +kernel
theorem dX8_near_2 : decode cX8_near 2 = .ok (.bipush 7, 2) := by decide +kernel
theorem dX8_near_4 : decode cX8_near 4 = .ok (.invokestatic 128, 3) := by decide +kernel
theorem dX8_near_7 : decode cX8_near 7 = .ok (.ifCond .eq 23, 3) := by decide +kernel
theorem dX8_near_10 : decode cX8_near 10 = .ok (.iload_n 2, 1) := by decide +kernel
theorem dX8_near_11 : decode cX8_near 11 = .ok (.iconst 0, 1) := by decide +kernel
theorem dX8_near_12 : decode cX8_near 12 = .ok (.bipush 7, 2) := by decide +kernel
theorem dX8_near_14 : decode cX8_near 14 = .ok (.invokestatic 128, 3) := by decide +kernel
theorem dX8_near_17 : decode cX8_near 17 = .ok (.ifCond .eq 13, 3) := by decide +kernel
theorem dX8_near_20 : decode cX8_near 20 = .ok (.iload_n 3, 1) := by decide +kernel
theorem dX8_near_21 : decode cX8_near 21 = .ok (.iconst 2, 1) := by decide +kernel
theorem dX8_near_22 : decode cX8_near 22 = .ok (.bipush 8, 2) := by decide +kernel
theorem dX8_near_24 : decode cX8_near 24 = .ok (.invokestatic 128, 3) := by decide +kernel
theorem dX8_near_27 : decode cX8_near 27 = .ok (.ifCond .ne 5, 3) := by decide +kernel
theorem dX8_near_30 : decode cX8_near 30 = .ok (.iconst 0, 1) := by decide +kernel
theorem dX8_near_31 : decode cX8_near 31 = .ok (.ireturn, 1) := by decide +kernel
theorem dX8_near_32 : decode cX8_near 32 = .ok (.aload_n 0, 1) := by decide +kernel
theorem dX8_near_33 : decode cX8_near 33 = .ok (.getfield 50, 3) := by decide +kernel
theorem dX8_near_36 : decode cX8_near 36 = .ok (.iload_n 1, 1) := by decide +kernel
theorem dX8_near_37 : decode cX8_near 37 = .ok (.iconst 2, 1) := by decide +kernel
theorem dX8_near_38 : decode cX8_near 38 = .ok (.iastore, 1) := by decide +kernel
theorem dX8_near_39 : decode cX8_near 39 = .ok (.aload_n 0, 1) := by decide +kernel
theorem dX8_near_40 : decode cX8_near 40 = .ok (.getfield 59, 3) := by decide +kernel
theorem dX8_near_43 : decode cX8_near 43 = .ok (.iload_n 1, 1) := by decide +kernel
theorem dX8_near_44 : decode cX8_near 44 = .ok (.iload_n 2, 1) := by decide +kernel
theorem dX8_near_45 : decode cX8_near 45 = .ok (.iastore, 1) := by decide +kernel
theorem dX8_near_46 : decode cX8_near 46 = .ok (.aload_n 0, 1) := by decide +kernel
theorem dX8_near_47 : decode cX8_near 47 = .ok (.getfield 62, 3) := by decide +kernel
theorem dX8_near_50 : decode cX8_near 50 = .ok (.iload_n 1, 1) := by decide +kernel
theorem dX8_near_51 : decode cX8_near 51 = .ok (.iload_n 3, 1) := by decide +kernel
theorem dX8_near_52 : decode cX8_near 52 = .ok (.iastore, 1) := by decide +kernel
theorem dX8_near_53 : decode cX8_near 53 = .ok (.iconst 1, 1) := by decide +kernel
theorem dX8_near_54 : decode cX8_near 54 = .ok (.ireturn, 1) := by decide +kernel
theorem dX8_count_0 : decode cX8_count 0 = .ok (.iload_n 1, 1) := by decide +kernel
theorem dX8_count_1 : decode cX8_count 1 = .ok (.iconst 0, 1) := by decide +kernel
theorem dX8_count_2 : decode cX8_count 2 = .ok (.bipush 7, 2) := by decide +kernel
theorem dX8_count_4 : decode cX8_count 4 = .ok (.invokestatic 128, 3) := by decide +kernel
theorem dX8_count_7 : decode cX8_count 7 = .ok (.ifCond .eq 13, 3) := by decide +kernel
theorem dX8_count_10 : decode cX8_count 10 = .ok (.iload_n 2, 1) := by decide +kernel
theorem dX8_count_11 : decode cX8_count 11 = .ok (.iconst 1, 1) := by decide +kernel
theorem dX8_count_12 : decode cX8_count 12 = .ok (.bipush 20, 2) := by decide +kernel
theorem dX8_count_14 : decode cX8_count 14 = .ok (.invokestatic 128, 3) := by decide +kernel
theorem dX8_count_17 : decode cX8_count 17 = .ok (.ifCond .ne 5, 3) := by decide +kernel
theorem dX8_count_20 : decode cX8_count 20 = .ok (.iconst 0, 1) := by decide +kernel
theorem dX8_count_21 : decode cX8_count 21 = .ok (.ireturn, 1) := by decide +kernel
theorem dX8_count_22 : decode cX8_count 22 = .ok (.aload_n 0, 1) := by decide +kernel
theorem dX8_count_23 : decode cX8_count 23 = .ok (.getfield 50, 3) := by decide +kernel
theorem dX8_count_26 : decode cX8_count 26 = .ok (.iload_n 1, 1) := by decide +kernel
theorem dX8_count_27 : decode cX8_count 27 = .ok (.iconst 3, 1) := by decide +kernel
theorem dX8_count_28 : decode cX8_count 28 = .ok (.iastore, 1) := by decide +kernel
theorem dX8_count_29 : decode cX8_count 29 = .ok (.aload_n 0, 1) := by decide +kernel
theorem dX8_count_30 : decode cX8_count 30 = .ok (.getfield 65, 3) := by decide +kernel
theorem dX8_count_33 : decode cX8_count 33 = .ok (.iload_n 1, 1) := by decide +kernel
theorem dX8_count_34 : decode cX8_count 34 = .ok (.iload_n 2, 1) := by decide +kernel
theorem dX8_count_35 : decode cX8_count 35 = .ok (.iastore, 1) := by decide +kernel
theorem dX8_count_36 : decode cX8_count 36 = .ok (.iconst 1, 1) := by decide +kernel
theorem dX8_count_37 : decode cX8_count 37 = .ok (.ireturn, 1) := by decide +kernel
theorem dX8_pieces_0 : decode cX8_pieces 0 = .ok (.iload_n 1, 1) := by decide +kernel
theorem dX8_pieces_1 : decode cX8_pieces 1 = .ok (.iconst 0, 1) := by decide +kernel
theorem dX8_pieces_2 : decode cX8_pieces 2 = .ok (.bipush 7, 2) := by decide +kernel
theorem dX8_pieces_4 : decode cX8_pieces 4 = .ok (.invokestatic 128, 3) := by decide +kernel
theorem dX8_pieces_7 : decode cX8_pieces 7 = .ok (.ifCond .eq 45, 3) := by decide +kernel
theorem dX8_pieces_10 : decode cX8_pieces 10 = .ok (.iload_n 2, 1) := by decide +kernel
theorem dX8_pieces_11 : decode cX8_pieces 11 = .ok (.iconst 0, 1) := by decide +kernel
theorem dX8_pieces_12 : decode cX8_pieces 12 = .ok (.bipush 7, 2) := by decide +kernel
theorem dX8_pieces_14 : decode cX8_pieces 14 = .ok (.invokestatic 128, 3) := by decide +kernel
theorem dX8_pieces_17 : decode cX8_pieces 17 = .ok (.ifCond .eq 35, 3) := by decide +kernel
theorem dX8_pieces_20 : decode cX8_pieces 20 = .ok (.iload_n 3, 1) := by decide +kernel
theorem dX8_pieces_21 : decode cX8_pieces 21 = .ok (.iconst 2, 1) := by decide +kernel
theorem dX8_pieces_22 : decode cX8_pieces 22 = .ok (.bipush 8, 2) := by decide +kernel
theorem dX8_pieces_24 : decode cX8_pieces 24 = .ok (.invokestatic 128, 3) := by decide +kernel
theorem dX8_pieces_27 : decode cX8_pieces 27 = .ok (.ifCond .eq 25, 3) := by decide +kernel
theorem dX8_pieces_30 : decode cX8_pieces 30 = .ok (.iload 4, 2) := by decide +kernel
theorem dX8_pieces_32 : decode cX8_pieces 32 = .ok (.iconst 1, 1) := by decide +kernel
theorem dX8_pieces_33 : decode cX8_pieces 33 = .ok (.bipush 50, 2) := by decide +kernel
theorem dX8_pieces_35 : decode cX8_pieces 35 = .ok (.invokestatic 128, 3) := by decide +kernel
theorem dX8_pieces_38 : decode cX8_pieces 38 = .ok (.ifCond .eq 14, 3) := by decide +kernel
theorem dX8_pieces_41 : decode cX8_pieces 41 = .ok (.iload 5, 2) := by decide +kernel
theorem dX8_pieces_43 : decode cX8_pieces 43 = .ok (.iconst 0, 1) := by decide +kernel
theorem dX8_pieces_44 : decode cX8_pieces 44 = .ok (.bipush 30, 2) := by decide +kernel
theorem dX8_pieces_46 : decode cX8_pieces 46 = .ok (.invokestatic 128, 3) := by decide +kernel
theorem dX8_pieces_49 : decode cX8_pieces 49 = .ok (.ifCond .ne 5, 3) := by decide +kernel
theorem dX8_pieces_52 : decode cX8_pieces 52 = .ok (.iconst 0, 1) := by decide +kernel
theorem dX8_pieces_53 : decode cX8_pieces 53 = .ok (.ireturn, 1) := by decide +kernel
theorem dX8_pieces_54 : decode cX8_pieces 54 = .ok (.aload_n 0, 1) := by decide +kernel
theorem dX8_pieces_55 : decode cX8_pieces 55 = .ok (.getfield 50, 3) := by decide +kernel
theorem dX8_pieces_58 : decode cX8_pieces 58 = .ok (.iload_n 1, 1) := by decide +kernel
theorem dX8_pieces_59 : decode cX8_pieces 59 = .ok (.iconst 4, 1) := by decide +kernel
theorem dX8_pieces_60 : decode cX8_pieces 60 = .ok (.iastore, 1) := by decide +kernel
theorem dX8_pieces_61 : decode cX8_pieces 61 = .ok (.aload_n 0, 1) := by decide +kernel
theorem dX8_pieces_62 : decode cX8_pieces 62 = .ok (.getfield 59, 3) := by decide +kernel
theorem dX8_pieces_65 : decode cX8_pieces 65 = .ok (.iload_n 1, 1) := by decide +kernel
theorem dX8_pieces_66 : decode cX8_pieces 66 = .ok (.iload_n 2, 1) := by decide +kernel
theorem dX8_pieces_67 : decode cX8_pieces 67 = .ok (.iastore, 1) := by decide +kernel
theorem dX8_pieces_68 : decode cX8_pieces 68 = .ok (.aload_n 0, 1) := by decide +kernel
theorem dX8_pieces_69 : decode cX8_pieces 69 = .ok (.getfield 62, 3) := by decide +kernel
theorem dX8_pieces_72 : decode cX8_pieces 72 = .ok (.iload_n 1, 1) := by decide +kernel
theorem dX8_pieces_73 : decode cX8_pieces 73 = .ok (.iload_n 3, 1) := by decide +kernel
theorem dX8_pieces_74 : decode cX8_pieces 74 = .ok (.iastore, 1) := by decide +kernel
theorem dX8_pieces_75 : decode cX8_pieces 75 = .ok (.aload_n 0, 1) := by decide +kernel
theorem dX8_pieces_76 : decode cX8_pieces 76 = .ok (.getfield 65, 3) := by decide +kernel
theorem dX8_pieces_79 : decode cX8_pieces 79 = .ok (.iload_n 1, 1) := by decide +kernel
theorem dX8_pieces_80 : decode cX8_pieces 80 = .ok (.iload 4, 2) := by decide +kernel
theorem dX8_pieces_82 : decode cX8_pieces 82 = .ok (.iastore, 1) := by decide +kernel
theorem dX8_pieces_83 : decode cX8_pieces 83 = .ok (.aload_n 0, 1) := by decide +kernel
theorem dX8_pieces_84 : decode cX8_pieces 84 = .ok (.getfield 68, 3) := by decide +kernel
theorem dX8_pieces_87 : decode cX8_pieces 87 = .ok (.iload_n 1, 1) := by decide +kernel
theorem dX8_pieces_88 : decode cX8_pieces 88 = .ok (.iload 5, 2) := by decide +kernel
theorem dX8_pieces_90 : decode cX8_pieces 90 = .ok (.iastore, 1) := by decide +kernel
theorem dX8_pieces_91 : decode cX8_pieces 91 = .ok (.iconst 1, 1) := by decide +kernel
theorem dX8_pieces_92 : decode cX8_pieces 92 = .ok (.ireturn, 1) := by decide +kernel
theorem dX8_allow_0 : decode cX8_allow 0 = .ok (.iload_n 1, 1) := by decide +kernel
theorem dX8_allow_1 : decode cX8_allow 1 = .ok (.iconst 0, 1) := by decide +kernel
theorem dX8_allow_2 : decode cX8_allow 2 = .ok (.bipush 7, 2) := by decide +kernel
theorem dX8_allow_4 : decode cX8_allow 4 = .ok (.invokestatic 128, 3) := by decide +kernel
theorem dX8_allow_7 : decode cX8_allow 7 = .ok (.ifCond .eq 23, 3) := by decide +kernel
theorem dX8_allow_10 : decode cX8_allow 10 = .ok (.iload_n 2, 1) := by decide +kernel
theorem dX8_allow_11 : decode cX8_allow 11 = .ok (.iconst 0, 1) := by decide +kernel
theorem dX8_allow_12 : decode cX8_allow 12 = .ok (.bipush 9, 2) := by decide +kernel
theorem dX8_allow_14 : decode cX8_allow 14 = .ok (.invokestatic 128, 3) := by decide +kernel
theorem dX8_allow_17 : decode cX8_allow 17 = .ok (.ifCond .eq 13, 3) := by decide +kernel
theorem dX8_allow_20 : decode cX8_allow 20 = .ok (.iload_n 3, 1) := by decide +kernel
theorem dX8_allow_21 : decode cX8_allow 21 = .ok (.iconst 0, 1) := by decide +kernel
theorem dX8_allow_22 : decode cX8_allow 22 = .ok (.bipush 9, 2) := by decide +kernel
theorem dX8_allow_24 : decode cX8_allow 24 = .ok (.invokestatic 128, 3) := by decide +kernel
theorem dX8_allow_27 : decode cX8_allow 27 = .ok (.ifCond .ne 5, 3) := by decide +kernel
theorem dX8_allow_30 : decode cX8_allow 30 = .ok (.iconst 0, 1) := by decide +kernel
theorem dX8_allow_31 : decode cX8_allow 31 = .ok (.ireturn, 1) := by decide +kernel
theorem dX8_allow_32 : decode cX8_allow 32 = .ok (.bipush 10, 2) := by decide +kernel
theorem dX8_allow_34 : decode cX8_allow 34 = .ok (.iload_n 1, 1) := by decide +kernel
theorem dX8_allow_35 : decode cX8_allow 35 = .ok (.imul, 1) := by decide +kernel
theorem dX8_allow_36 : decode cX8_allow 36 = .ok (.iload_n 2, 1) := by decide +kernel
theorem dX8_allow_37 : decode cX8_allow 37 = .ok (.iadd, 1) := by decide +kernel
theorem dX8_allow_38 : decode cX8_allow 38 = .ok (.bipush 10, 2) := by decide +kernel
theorem dX8_allow_40 : decode cX8_allow 40 = .ok (.imul, 1) := by decide +kernel
theorem dX8_allow_41 : decode cX8_allow 41 = .ok (.iload_n 3, 1) := by decide +kernel
theorem dX8_allow_42 : decode cX8_allow 42 = .ok (.iadd, 1) := by decide +kernel
theorem dX8_allow_43 : decode cX8_allow 43 = .ok (.istore 5, 2) := by decide +kernel
theorem dX8_allow_45 : decode cX8_allow 45 = .ok (.aload_n 0, 1) := by decide +kernel
theorem dX8_allow_46 : decode cX8_allow 46 = .ok (.getfield 71, 3) := by decide +kernel
theorem dX8_allow_49 : decode cX8_allow 49 = .ok (.iload 5, 2) := by decide +kernel
theorem dX8_allow_51 : decode cX8_allow 51 = .ok (.baload, 1) := by decide +kernel
theorem dX8_allow_52 : decode cX8_allow 52 = .ok (.iload 4, 2) := by decide +kernel
theorem dX8_allow_54 : decode cX8_allow 54 = .ok (.if_icmp .ne 5, 3) := by decide +kernel
theorem dX8_allow_57 : decode cX8_allow 57 = .ok (.iconst 0, 1) := by decide +kernel
theorem dX8_allow_58 : decode cX8_allow 58 = .ok (.ireturn, 1) := by decide +kernel
theorem dX8_allow_59 : decode cX8_allow 59 = .ok (.aload_n 0, 1) := by decide +kernel
theorem dX8_allow_60 : decode cX8_allow 60 = .ok (.getfield 71, 3) := by decide +kernel
theorem dX8_allow_63 : decode cX8_allow 63 = .ok (.iload 5, 2) := by decide +kernel
theorem dX8_allow_65 : decode cX8_allow 65 = .ok (.iload 4, 2) := by decide +kernel
theorem dX8_allow_67 : decode cX8_allow 67 = .ok (.bastore, 1) := by decide +kernel
theorem dX8_allow_68 : decode cX8_allow 68 = .ok (.iconst 1, 1) := by decide +kernel
theorem dX8_allow_69 : decode cX8_allow 69 = .ok (.ireturn, 1) := by decide +kernel
theorem dX8_readLetter_0 : decode cX8_readLetter 0 = .ok (.aload_n 0, 1) := by decide +kernel
theorem dX8_readLetter_1 : decode cX8_readLetter 1 = .ok (.aload_n 0, 1) := by decide +kernel
theorem dX8_readLetter_2 : decode cX8_readLetter 2 = .ok (.getfield 74, 3) := by decide +kernel
theorem dX8_readLetter_5 : decode cX8_readLetter 5 = .ok (.sipush 300, 3) := by decide +kernel
theorem dX8_readLetter_8 : decode cX8_readLetter 8 = .ok (.iload_n 1, 1) := by decide +kernel
theorem dX8_readLetter_9 : decode cX8_readLetter 9 = .ok (.imul, 1) := by decide +kernel
theorem dX8_readLetter_10 : decode cX8_readLetter 10 = .ok (.aload_n 0, 1) := by decide +kernel
theorem dX8_readLetter_11 : decode cX8_readLetter 11 = .ok (.getfield 77, 3) := by decide +kernel
theorem dX8_readLetter_14 : decode cX8_readLetter 14 = .ok (.iload_n 1, 1) := by decide +kernel
theorem dX8_readLetter_15 : decode cX8_readLetter 15 = .ok (.iaload, 1) := by decide +kernel
theorem dX8_readLetter_16 : decode cX8_readLetter 16 = .ok (.invokevirtual 179, 3) := by decide +kernel
theorem dX8_readLetter_19 : decode cX8_readLetter 19 = .ok (.return_, 1) := by decide +kernel
theorem dX8_isMark_0 : decode cX8_isMark 0 = .ok (.aload_n 0, 1) := by decide +kernel
theorem dX8_isMark_1 : decode cX8_isMark 1 = .ok (.getfield 25, 3) := by decide +kernel
theorem dX8_isMark_4 : decode cX8_isMark 4 = .ok (.iload_n 2, 1) := by decide +kernel
theorem dX8_isMark_5 : decode cX8_isMark 5 = .ok (.iaload, 1) := by decide +kernel
theorem dX8_isMark_6 : decode cX8_isMark 6 = .ok (.aload_n 0, 1) := by decide +kernel
theorem dX8_isMark_7 : decode cX8_isMark 7 = .ok (.getfield 22, 3) := by decide +kernel
theorem dX8_isMark_10 : decode cX8_isMark 10 = .ok (.iload_n 2, 1) := by decide +kernel
theorem dX8_isMark_11 : decode cX8_isMark 11 = .ok (.iaload, 1) := by decide +kernel
theorem dX8_isMark_12 : decode cX8_isMark 12 = .ok (.isub, 1) := by decide +kernel
theorem dX8_isMark_13 : decode cX8_isMark 13 = .ok (.iconst 1, 1) := by decide +kernel
theorem dX8_isMark_14 : decode cX8_isMark 14 = .ok (.iadd, 1) := by decide +kernel
theorem dX8_isMark_15 : decode cX8_isMark 15 = .ok (.aload_n 0, 1) := by decide +kernel
theorem dX8_isMark_16 : decode cX8_isMark 16 = .ok (.getfield 56, 3) := by decide +kernel
theorem dX8_isMark_19 : decode cX8_isMark 19 = .ok (.iload_n 1, 1) := by decide +kernel
theorem dX8_isMark_20 : decode cX8_isMark 20 = .ok (.iaload, 1) := by decide +kernel
theorem dX8_isMark_21 : decode cX8_isMark 21 = .ok (.if_icmp .eq 5, 3) := by decide +kernel
theorem dX8_isMark_24 : decode cX8_isMark 24 = .ok (.iconst 0, 1) := by decide +kernel
theorem dX8_isMark_25 : decode cX8_isMark 25 = .ok (.ireturn, 1) := by decide +kernel
theorem dX8_isMark_26 : decode cX8_isMark 26 = .ok (.iconst 0, 1) := by decide +kernel
theorem dX8_isMark_27 : decode cX8_isMark 27 = .ok (.istore_n 3, 1) := by decide +kernel
theorem dX8_isMark_28 : decode cX8_isMark 28 = .ok (.iload_n 3, 1) := by decide +kernel
theorem dX8_isMark_29 : decode cX8_isMark 29 = .ok (.aload_n 0, 1) := by decide +kernel
theorem dX8_isMark_30 : decode cX8_isMark 30 = .ok (.getfield 56, 3) := by decide +kernel
theorem dX8_isMark_33 : decode cX8_isMark 33 = .ok (.iload_n 1, 1) := by decide +kernel
theorem dX8_isMark_34 : decode cX8_isMark 34 = .ok (.iaload, 1) := by decide +kernel
theorem dX8_isMark_35 : decode cX8_isMark 35 = .ok (.if_icmp .ge 42, 3) := by decide +kernel
theorem dX8_isMark_38 : decode cX8_isMark 38 = .ok (.aload_n 0, 1) := by decide +kernel
theorem dX8_isMark_39 : decode cX8_isMark 39 = .ok (.getfield 53, 3) := by decide +kernel
theorem dX8_isMark_42 : decode cX8_isMark 42 = .ok (.sipush 300, 3) := by decide +kernel
theorem dX8_isMark_45 : decode cX8_isMark 45 = .ok (.iload_n 1, 1) := by decide +kernel
theorem dX8_isMark_46 : decode cX8_isMark 46 = .ok (.imul, 1) := by decide +kernel
theorem dX8_isMark_47 : decode cX8_isMark 47 = .ok (.iload_n 3, 1) := by decide +kernel
theorem dX8_isMark_48 : decode cX8_isMark 48 = .ok (.iadd, 1) := by decide +kernel
theorem dX8_isMark_49 : decode cX8_isMark 49 = .ok (.iaload, 1) := by decide +kernel
theorem dX8_isMark_50 : decode cX8_isMark 50 = .ok (.aload_n 0, 1) := by decide +kernel
theorem dX8_isMark_51 : decode cX8_isMark 51 = .ok (.getfield 13, 3) := by decide +kernel
theorem dX8_isMark_54 : decode cX8_isMark 54 = .ok (.aload_n 0, 1) := by decide +kernel
theorem dX8_isMark_55 : decode cX8_isMark 55 = .ok (.getfield 22, 3) := by decide +kernel
theorem dX8_isMark_58 : decode cX8_isMark 58 = .ok (.iload_n 2, 1) := by decide +kernel
theorem dX8_isMark_59 : decode cX8_isMark 59 = .ok (.iaload, 1) := by decide +kernel
theorem dX8_isMark_60 : decode cX8_isMark 60 = .ok (.iload_n 3, 1) := by decide +kernel
theorem dX8_isMark_61 : decode cX8_isMark 61 = .ok (.iadd, 1) := by decide +kernel
theorem dX8_isMark_62 : decode cX8_isMark 62 = .ok (.iaload, 1) := by decide +kernel
theorem dX8_isMark_63 : decode cX8_isMark 63 = .ok (.invokestatic 150, 3) := by decide +kernel
theorem dX8_isMark_66 : decode cX8_isMark 66 = .ok (.if_icmp .eq 5, 3) := by decide +kernel
theorem dX8_isMark_69 : decode cX8_isMark 69 = .ok (.iconst 0, 1) := by decide +kernel
theorem dX8_isMark_70 : decode cX8_isMark 70 = .ok (.ireturn, 1) := by decide +kernel
theorem dX8_isMark_71 : decode cX8_isMark 71 = .ok (.iinc 3 1, 3) := by decide +kernel
theorem dX8_isMark_74 : decode cX8_isMark 74 = .ok (.goto (-46), 3) := by decide +kernel
theorem dX8_isMark_77 : decode cX8_isMark 77 = .ok (.iconst 1, 1) := by decide +kernel
theorem dX8_isMark_78 : decode cX8_isMark 78 = .ok (.ireturn, 1) := by decide +kernel
theorem dX8_longer_0 : decode cX8_longer 0 = .ok (.iconst 2, 1) := by decide +kernel
theorem dX8_longer_1 : decode cX8_longer 1 = .ok (.aload_n 0, 1) := by decide +kernel
theorem dX8_longer_2 : decode cX8_longer 2 = .ok (.arraylength, 1) := by decide +kernel
theorem dX8_longer_3 : decode cX8_longer 3 = .ok (.imul, 1) := by decide +kernel
theorem dX8_longer_4 : decode cX8_longer 4 = .ok (.newarray .int, 2) := by decide +kernel
theorem dX8_longer_6 : decode cX8_longer 6 = .ok (.astore_n 1, 1) := by decide +kernel
theorem dX8_longer_7 : decode cX8_longer 7 = .ok (.iconst 0, 1) := by decide +kernel
theorem dX8_longer_8 : decode cX8_longer 8 = .ok (.istore_n 2, 1) := by decide +kernel
theorem dX8_longer_9 : decode cX8_longer 9 = .ok (.iload_n 2, 1) := by decide +kernel
theorem dX8_longer_10 : decode cX8_longer 10 = .ok (.aload_n 0, 1) := by decide +kernel
theorem dX8_longer_11 : decode cX8_longer 11 = .ok (.arraylength, 1) := by decide +kernel
theorem dX8_longer_12 : decode cX8_longer 12 = .ok (.if_icmp .ge 15, 3) := by decide +kernel
theorem dX8_longer_15 : decode cX8_longer 15 = .ok (.aload_n 1, 1) := by decide +kernel
theorem dX8_longer_16 : decode cX8_longer 16 = .ok (.iload_n 2, 1) := by decide +kernel
theorem dX8_longer_17 : decode cX8_longer 17 = .ok (.aload_n 0, 1) := by decide +kernel
theorem dX8_longer_18 : decode cX8_longer 18 = .ok (.iload_n 2, 1) := by decide +kernel
theorem dX8_longer_19 : decode cX8_longer 19 = .ok (.iaload, 1) := by decide +kernel
theorem dX8_longer_20 : decode cX8_longer 20 = .ok (.iastore, 1) := by decide +kernel
theorem dX8_longer_21 : decode cX8_longer 21 = .ok (.iinc 2 1, 3) := by decide +kernel
theorem dX8_longer_24 : decode cX8_longer 24 = .ok (.goto (-15), 3) := by decide +kernel
theorem dX8_longer_27 : decode cX8_longer 27 = .ok (.aload_n 1, 1) := by decide +kernel
theorem dX8_longer_28 : decode cX8_longer 28 = .ok (.areturn, 1) := by decide +kernel
theorem dX8_found_0 : decode cX8_found 0 = .ok (.iload 4, 2) := by decide +kernel
theorem dX8_found_2 : decode cX8_found 2 = .ok (.ifCond .eq 98, 3) := by decide +kernel
theorem dX8_found_5 : decode cX8_found 5 = .ok (.aload_n 0, 1) := by decide +kernel
theorem dX8_found_6 : decode cX8_found 6 = .ok (.getfield 193, 3) := by decide +kernel
theorem dX8_found_9 : decode cX8_found 9 = .ok (.aload_n 0, 1) := by decide +kernel
theorem dX8_found_10 : decode cX8_found 10 = .ok (.getfield 107, 3) := by decide +kernel
theorem dX8_found_13 : decode cX8_found 13 = .ok (.arraylength, 1) := by decide +kernel
theorem dX8_found_14 : decode cX8_found 14 = .ok (.if_icmp .ne 36, 3) := by decide +kernel
theorem dX8_found_17 : decode cX8_found 17 = .ok (.aload_n 0, 1) := by decide +kernel
theorem dX8_found_18 : decode cX8_found 18 = .ok (.aload_n 0, 1) := by decide +kernel
theorem dX8_found_19 : decode cX8_found 19 = .ok (.getfield 107, 3) := by decide +kernel
theorem dX8_found_22 : decode cX8_found 22 = .ok (.invokestatic 196, 3) := by decide +kernel
theorem dX8_found_25 : decode cX8_found 25 = .ok (.putfield 107, 3) := by decide +kernel
theorem dX8_found_28 : decode cX8_found 28 = .ok (.aload_n 0, 1) := by decide +kernel
theorem dX8_found_29 : decode cX8_found 29 = .ok (.aload_n 0, 1) := by decide +kernel
theorem dX8_found_30 : decode cX8_found 30 = .ok (.getfield 110, 3) := by decide +kernel
theorem dX8_found_33 : decode cX8_found 33 = .ok (.invokestatic 196, 3) := by decide +kernel
theorem dX8_found_36 : decode cX8_found 36 = .ok (.putfield 110, 3) := by decide +kernel
theorem dX8_found_39 : decode cX8_found 39 = .ok (.aload_n 0, 1) := by decide +kernel
theorem dX8_found_40 : decode cX8_found 40 = .ok (.aload_n 0, 1) := by decide +kernel
theorem dX8_found_41 : decode cX8_found 41 = .ok (.getfield 113, 3) := by decide +kernel
theorem dX8_found_44 : decode cX8_found 44 = .ok (.invokestatic 196, 3) := by decide +kernel
theorem dX8_found_47 : decode cX8_found 47 = .ok (.putfield 113, 3) := by decide +kernel
theorem dX8_found_50 : decode cX8_found 50 = .ok (.aload_n 0, 1) := by decide +kernel
theorem dX8_found_51 : decode cX8_found 51 = .ok (.getfield 107, 3) := by decide +kernel
theorem dX8_found_54 : decode cX8_found 54 = .ok (.aload_n 0, 1) := by decide +kernel
theorem dX8_found_55 : decode cX8_found 55 = .ok (.getfield 193, 3) := by decide +kernel
theorem dX8_found_58 : decode cX8_found 58 = .ok (.aload_n 0, 1) := by decide +kernel
theorem dX8_found_59 : decode cX8_found 59 = .ok (.getfield 16, 3) := by decide +kernel
theorem dX8_found_62 : decode cX8_found 62 = .ok (.iload_n 1, 1) := by decide +kernel
theorem dX8_found_63 : decode cX8_found 63 = .ok (.iaload, 1) := by decide +kernel
theorem dX8_found_64 : decode cX8_found 64 = .ok (.iastore, 1) := by decide +kernel
theorem dX8_found_65 : decode cX8_found 65 = .ok (.aload_n 0, 1) := by decide +kernel
theorem dX8_found_66 : decode cX8_found 66 = .ok (.getfield 110, 3) := by decide +kernel
theorem dX8_found_69 : decode cX8_found 69 = .ok (.aload_n 0, 1) := by decide +kernel
theorem dX8_found_70 : decode cX8_found 70 = .ok (.getfield 193, 3) := by decide +kernel
theorem dX8_found_73 : decode cX8_found 73 = .ok (.aload_n 0, 1) := by decide +kernel
theorem dX8_found_74 : decode cX8_found 74 = .ok (.getfield 19, 3) := by decide +kernel
theorem dX8_found_77 : decode cX8_found 77 = .ok (.iload_n 2, 1) := by decide +kernel
theorem dX8_found_78 : decode cX8_found 78 = .ok (.iaload, 1) := by decide +kernel
theorem dX8_found_79 : decode cX8_found 79 = .ok (.iastore, 1) := by decide +kernel
theorem dX8_found_80 : decode cX8_found 80 = .ok (.aload_n 0, 1) := by decide +kernel
theorem dX8_found_81 : decode cX8_found 81 = .ok (.getfield 113, 3) := by decide +kernel
theorem dX8_found_84 : decode cX8_found 84 = .ok (.aload_n 0, 1) := by decide +kernel
theorem dX8_found_85 : decode cX8_found 85 = .ok (.getfield 193, 3) := by decide +kernel
theorem dX8_found_88 : decode cX8_found 88 = .ok (.iload_n 3, 1) := by decide +kernel
theorem dX8_found_89 : decode cX8_found 89 = .ok (.iastore, 1) := by decide +kernel
theorem dX8_found_90 : decode cX8_found 90 = .ok (.aload_n 0, 1) := by decide +kernel
theorem dX8_found_91 : decode cX8_found 91 = .ok (.dup, 1) := by decide +kernel
theorem dX8_found_92 : decode cX8_found 92 = .ok (.getfield 193, 3) := by decide +kernel
theorem dX8_found_95 : decode cX8_found 95 = .ok (.iconst 1, 1) := by decide +kernel
theorem dX8_found_96 : decode cX8_found 96 = .ok (.iadd, 1) := by decide +kernel
theorem dX8_found_97 : decode cX8_found 97 = .ok (.putfield 193, 3) := by decide +kernel
theorem dX8_found_100 : decode cX8_found 100 = .ok (.return_, 1) := by decide +kernel
theorem dX8_find_0 : decode cX8_find 0 = .ok (.aload_n 0, 1) := by decide +kernel
theorem dX8_find_1 : decode cX8_find 1 = .ok (.getfield 50, 3) := by decide +kernel
theorem dX8_find_4 : decode cX8_find 4 = .ok (.iload_n 1, 1) := by decide +kernel
theorem dX8_find_5 : decode cX8_find 5 = .ok (.iaload, 1) := by decide +kernel
theorem dX8_find_6 : decode cX8_find 6 = .ok (.iconst 1, 1) := by decide +kernel
theorem dX8_find_7 : decode cX8_find 7 = .ok (.if_icmp .ne 60, 3) := by decide +kernel
theorem dX8_find_10 : decode cX8_find 10 = .ok (.iconst 0, 1) := by decide +kernel
theorem dX8_find_11 : decode cX8_find 11 = .ok (.istore 4, 2) := by decide +kernel
theorem dX8_find_13 : decode cX8_find 13 = .ok (.iconst 0, 1) := by decide +kernel
theorem dX8_find_14 : decode cX8_find 14 = .ok (.istore 5, 2) := by decide +kernel
theorem dX8_find_16 : decode cX8_find 16 = .ok (.iload 5, 2) := by decide +kernel
theorem dX8_find_18 : decode cX8_find 18 = .ok (.aload_n 0, 1) := by decide +kernel
theorem dX8_find_19 : decode cX8_find 19 = .ok (.getfield 160, 3) := by decide +kernel
theorem dX8_find_22 : decode cX8_find 22 = .ok (.if_icmp .ge 42, 3) := by decide +kernel
theorem dX8_find_25 : decode cX8_find 25 = .ok (.aload_n 0, 1) := by decide +kernel
theorem dX8_find_26 : decode cX8_find 26 = .ok (.iload_n 1, 1) := by decide +kernel
theorem dX8_find_27 : decode cX8_find 27 = .ok (.iload 5, 2) := by decide +kernel
theorem dX8_find_29 : decode cX8_find 29 = .ok (.invokevirtual 200, 3) := by decide +kernel
theorem dX8_find_32 : decode cX8_find 32 = .ok (.ifCond .eq 26, 3) := by decide +kernel
theorem dX8_find_35 : decode cX8_find 35 = .ok (.aload_n 0, 1) := by decide +kernel
theorem dX8_find_36 : decode cX8_find 36 = .ok (.aload_n 0, 1) := by decide +kernel
theorem dX8_find_37 : decode cX8_find 37 = .ok (.getfield 22, 3) := by decide +kernel
theorem dX8_find_40 : decode cX8_find 40 = .ok (.iload 5, 2) := by decide +kernel
theorem dX8_find_42 : decode cX8_find 42 = .ok (.iaload, 1) := by decide +kernel
theorem dX8_find_43 : decode cX8_find 43 = .ok (.aload_n 0, 1) := by decide +kernel
theorem dX8_find_44 : decode cX8_find 44 = .ok (.getfield 25, 3) := by decide +kernel
theorem dX8_find_47 : decode cX8_find 47 = .ok (.iload 5, 2) := by decide +kernel
theorem dX8_find_49 : decode cX8_find 49 = .ok (.iaload, 1) := by decide +kernel
theorem dX8_find_50 : decode cX8_find 50 = .ok (.iconst (-1), 1) := by decide +kernel
theorem dX8_find_51 : decode cX8_find 51 = .ok (.iload_n 3, 1) := by decide +kernel
theorem dX8_find_52 : decode cX8_find 52 = .ok (.invokevirtual 203, 3) := by decide +kernel
theorem dX8_find_55 : decode cX8_find 55 = .ok (.iinc 4 1, 3) := by decide +kernel
theorem dX8_find_58 : decode cX8_find 58 = .ok (.iinc 5 1, 3) := by decide +kernel
theorem dX8_find_61 : decode cX8_find 61 = .ok (.goto (-45), 3) := by decide +kernel
theorem dX8_find_64 : decode cX8_find 64 = .ok (.iload 4, 2) := by decide +kernel
theorem dX8_find_66 : decode cX8_find 66 = .ok (.ireturn, 1) := by decide +kernel
theorem dX8_find_67 : decode cX8_find 67 = .ok (.aload_n 0, 1) := by decide +kernel
theorem dX8_find_68 : decode cX8_find 68 = .ok (.getfield 50, 3) := by decide +kernel
theorem dX8_find_71 : decode cX8_find 71 = .ok (.iload_n 1, 1) := by decide +kernel
theorem dX8_find_72 : decode cX8_find 72 = .ok (.iaload, 1) := by decide +kernel
theorem dX8_find_73 : decode cX8_find 73 = .ok (.iconst 3, 1) := by decide +kernel
theorem dX8_find_74 : decode cX8_find 74 = .ok (.if_icmp .ne 76, 3) := by decide +kernel
theorem dX8_find_77 : decode cX8_find 77 = .ok (.iconst 0, 1) := by decide +kernel
theorem dX8_find_78 : decode cX8_find 78 = .ok (.istore 4, 2) := by decide +kernel
theorem dX8_find_80 : decode cX8_find 80 = .ok (.iload 4, 2) := by decide +kernel
theorem dX8_find_82 : decode cX8_find 82 = .ok (.aload_n 0, 1) := by decide +kernel
theorem dX8_find_83 : decode cX8_find 83 = .ok (.getfield 169, 3) := by decide +kernel
theorem dX8_find_86 : decode cX8_find 86 = .ok (.if_icmp .ge 42, 3) := by decide +kernel
theorem dX8_find_89 : decode cX8_find 89 = .ok (.aload_n 0, 1) := by decide +kernel
theorem dX8_find_90 : decode cX8_find 90 = .ok (.getfield 169, 3) := by decide +kernel
theorem dX8_find_93 : decode cX8_find 93 = .ok (.aload_n 0, 1) := by decide +kernel
theorem dX8_find_94 : decode cX8_find 94 = .ok (.getfield 65, 3) := by decide +kernel
theorem dX8_find_97 : decode cX8_find 97 = .ok (.iload_n 1, 1) := by decide +kernel
theorem dX8_find_98 : decode cX8_find 98 = .ok (.iaload, 1) := by decide +kernel
theorem dX8_find_99 : decode cX8_find 99 = .ok (.if_icmp .lt 29, 3) := by decide +kernel
theorem dX8_find_102 : decode cX8_find 102 = .ok (.aload_n 0, 1) := by decide +kernel
theorem dX8_find_103 : decode cX8_find 103 = .ok (.aload_n 0, 1) := by decide +kernel
theorem dX8_find_104 : decode cX8_find 104 = .ok (.getfield 28, 3) := by decide +kernel
theorem dX8_find_107 : decode cX8_find 107 = .ok (.iload 4, 2) := by decide +kernel
theorem dX8_find_109 : decode cX8_find 109 = .ok (.iaload, 1) := by decide +kernel
theorem dX8_find_110 : decode cX8_find 110 = .ok (.aload_n 0, 1) := by decide +kernel
theorem dX8_find_111 : decode cX8_find 111 = .ok (.getfield 31, 3) := by decide +kernel
theorem dX8_find_114 : decode cX8_find 114 = .ok (.iload 4, 2) := by decide +kernel
theorem dX8_find_116 : decode cX8_find 116 = .ok (.iaload, 1) := by decide +kernel
theorem dX8_find_117 : decode cX8_find 117 = .ok (.iconst (-1), 1) := by decide +kernel
theorem dX8_find_118 : decode cX8_find 118 = .ok (.iload_n 3, 1) := by decide +kernel
theorem dX8_find_119 : decode cX8_find 119 = .ok (.invokevirtual 203, 3) := by decide +kernel
theorem dX8_find_122 : decode cX8_find 122 = .ok (.iinc 4 1, 3) := by decide +kernel
theorem dX8_find_125 : decode cX8_find 125 = .ok (.goto (-45), 3) := by decide +kernel
theorem dX8_find_128 : decode cX8_find 128 = .ok (.aload_n 0, 1) := by decide +kernel
theorem dX8_find_129 : decode cX8_find 129 = .ok (.getfield 169, 3) := by decide +kernel
theorem dX8_find_132 : decode cX8_find 132 = .ok (.aload_n 0, 1) := by decide +kernel
theorem dX8_find_133 : decode cX8_find 133 = .ok (.getfield 65, 3) := by decide +kernel
theorem dX8_find_136 : decode cX8_find 136 = .ok (.iload_n 1, 1) := by decide +kernel
theorem dX8_find_137 : decode cX8_find 137 = .ok (.iaload, 1) := by decide +kernel
theorem dX8_find_138 : decode cX8_find 138 = .ok (.if_icmp .lt 10, 3) := by decide +kernel
theorem dX8_find_141 : decode cX8_find 141 = .ok (.aload_n 0, 1) := by decide +kernel
theorem dX8_find_142 : decode cX8_find 142 = .ok (.getfield 169, 3) := by decide +kernel
theorem dX8_find_145 : decode cX8_find 145 = .ok (.goto 4, 3) := by decide +kernel
theorem dX8_find_148 : decode cX8_find 148 = .ok (.iconst 0, 1) := by decide +kernel
theorem dX8_find_149 : decode cX8_find 149 = .ok (.ireturn, 1) := by decide +kernel
theorem dX8_find_150 : decode cX8_find 150 = .ok (.aload_n 0, 1) := by decide +kernel
theorem dX8_find_151 : decode cX8_find 151 = .ok (.getfield 50, 3) := by decide +kernel
theorem dX8_find_154 : decode cX8_find 154 = .ok (.iload_n 1, 1) := by decide +kernel
theorem dX8_find_155 : decode cX8_find 155 = .ok (.iaload, 1) := by decide +kernel
theorem dX8_find_156 : decode cX8_find 156 = .ok (.iconst 4, 1) := by decide +kernel
theorem dX8_find_157 : decode cX8_find 157 = .ok (.if_icmp .ne 14, 3) := by decide +kernel
theorem dX8_find_160 : decode cX8_find 160 = .ok (.aload_n 0, 1) := by decide +kernel
theorem dX8_find_161 : decode cX8_find 161 = .ok (.iload_n 1, 1) := by decide +kernel
theorem dX8_find_162 : decode cX8_find 162 = .ok (.iload_n 2, 1) := by decide +kernel
theorem dX8_find_163 : decode cX8_find 163 = .ok (.invokevirtual 207, 3) := by decide +kernel
theorem dX8_find_166 : decode cX8_find 166 = .ok (.ifCond .ne 5, 3) := by decide +kernel
theorem dX8_find_169 : decode cX8_find 169 = .ok (.iconst 0, 1) := by decide +kernel
theorem dX8_find_170 : decode cX8_find 170 = .ok (.ireturn, 1) := by decide +kernel
theorem dX8_find_171 : decode cX8_find 171 = .ok (.aload_n 0, 1) := by decide +kernel
theorem dX8_find_172 : decode cX8_find 172 = .ok (.getfield 50, 3) := by decide +kernel
theorem dX8_find_175 : decode cX8_find 175 = .ok (.iload_n 1, 1) := by decide +kernel
theorem dX8_find_176 : decode cX8_find 176 = .ok (.iaload, 1) := by decide +kernel
theorem dX8_find_177 : decode cX8_find 177 = .ok (.iconst 2, 1) := by decide +kernel
theorem dX8_find_178 : decode cX8_find 178 = .ok (.if_icmp .eq 13, 3) := by decide +kernel
theorem dX8_find_181 : decode cX8_find 181 = .ok (.aload_n 0, 1) := by decide +kernel
theorem dX8_find_182 : decode cX8_find 182 = .ok (.getfield 50, 3) := by decide +kernel
theorem dX8_find_185 : decode cX8_find 185 = .ok (.iload_n 1, 1) := by decide +kernel
theorem dX8_find_186 : decode cX8_find 186 = .ok (.iaload, 1) := by decide +kernel
theorem dX8_find_187 : decode cX8_find 187 = .ok (.iconst 4, 1) := by decide +kernel
theorem dX8_find_188 : decode cX8_find 188 = .ok (.if_icmp .ne 12, 3) := by decide +kernel
theorem dX8_find_191 : decode cX8_find 191 = .ok (.aload_n 0, 1) := by decide +kernel
theorem dX8_find_192 : decode cX8_find 192 = .ok (.iload_n 1, 1) := by decide +kernel
theorem dX8_find_193 : decode cX8_find 193 = .ok (.iload_n 3, 1) := by decide +kernel
theorem dX8_find_194 : decode cX8_find 194 = .ok (.invokevirtual 210, 3) := by decide +kernel
theorem dX8_find_197 : decode cX8_find 197 = .ok (.goto 4, 3) := by decide +kernel
theorem dX8_find_200 : decode cX8_find 200 = .ok (.iconst 0, 1) := by decide +kernel
theorem dX8_find_201 : decode cX8_find 201 = .ok (.ireturn, 1) := by decide +kernel
theorem dX8_findParts_0 : decode cX8_findParts 0 = .ok (.aload_n 0, 1) := by decide +kernel
theorem dX8_findParts_1 : decode cX8_findParts 1 = .ok (.getfield 59, 3) := by decide +kernel
theorem dX8_findParts_4 : decode cX8_findParts 4 = .ok (.iload_n 1, 1) := by decide +kernel
theorem dX8_findParts_5 : decode cX8_findParts 5 = .ok (.iaload, 1) := by decide +kernel
theorem dX8_findParts_6 : decode cX8_findParts 6 = .ok (.istore_n 3, 1) := by decide +kernel
theorem dX8_findParts_7 : decode cX8_findParts 7 = .ok (.aload_n 0, 1) := by decide +kernel
theorem dX8_findParts_8 : decode cX8_findParts 8 = .ok (.getfield 62, 3) := by decide +kernel
theorem dX8_findParts_11 : decode cX8_findParts 11 = .ok (.iload_n 1, 1) := by decide +kernel
theorem dX8_findParts_12 : decode cX8_findParts 12 = .ok (.iaload, 1) := by decide +kernel
theorem dX8_findParts_13 : decode cX8_findParts 13 = .ok (.istore 4, 2) := by decide +kernel
theorem dX8_findParts_15 : decode cX8_findParts 15 = .ok (.iconst 0, 1) := by decide +kernel
theorem dX8_findParts_16 : decode cX8_findParts 16 = .ok (.istore 5, 2) := by decide +kernel
theorem dX8_findParts_18 : decode cX8_findParts 18 = .ok (.iconst 0, 1) := by decide +kernel
theorem dX8_findParts_19 : decode cX8_findParts 19 = .ok (.istore 6, 2) := by decide +kernel
theorem dX8_findParts_21 : decode cX8_findParts 21 = .ok (.iload 6, 2) := by decide +kernel
theorem dX8_findParts_23 : decode cX8_findParts 23 = .ok (.iload 4, 2) := by decide +kernel
theorem dX8_findParts_25 : decode cX8_findParts 25 = .ok (.iadd, 1) := by decide +kernel
theorem dX8_findParts_26 : decode cX8_findParts 26 = .ok (.aload_n 0, 1) := by decide +kernel
theorem dX8_findParts_27 : decode cX8_findParts 27 = .ok (.getfield 160, 3) := by decide +kernel
theorem dX8_findParts_30 : decode cX8_findParts 30 = .ok (.if_icmp .gt 75, 3) := by decide +kernel
theorem dX8_findParts_33 : decode cX8_findParts 33 = .ok (.iconst 0, 1) := by decide +kernel
theorem dX8_findParts_34 : decode cX8_findParts 34 = .ok (.istore 7, 2) := by decide +kernel
theorem dX8_findParts_36 : decode cX8_findParts 36 = .ok (.iload 7, 2) := by decide +kernel
theorem dX8_findParts_38 : decode cX8_findParts 38 = .ok (.iload 4, 2) := by decide +kernel
theorem dX8_findParts_40 : decode cX8_findParts 40 = .ok (.iadd, 1) := by decide +kernel
theorem dX8_findParts_41 : decode cX8_findParts 41 = .ok (.aload_n 0, 1) := by decide +kernel
theorem dX8_findParts_42 : decode cX8_findParts 42 = .ok (.getfield 43, 3) := by decide +kernel
theorem dX8_findParts_45 : decode cX8_findParts 45 = .ok (.iload_n 3, 1) := by decide +kernel
theorem dX8_findParts_46 : decode cX8_findParts 46 = .ok (.iaload, 1) := by decide +kernel
theorem dX8_findParts_47 : decode cX8_findParts 47 = .ok (.if_icmp .gt 52, 3) := by decide +kernel
theorem dX8_findParts_50 : decode cX8_findParts 50 = .ok (.aload_n 0, 1) := by decide +kernel
theorem dX8_findParts_51 : decode cX8_findParts 51 = .ok (.iload_n 3, 1) := by decide +kernel
theorem dX8_findParts_52 : decode cX8_findParts 52 = .ok (.iload 7, 2) := by decide +kernel
theorem dX8_findParts_54 : decode cX8_findParts 54 = .ok (.iload 4, 2) := by decide +kernel
theorem dX8_findParts_56 : decode cX8_findParts 56 = .ok (.iload 6, 2) := by decide +kernel
theorem dX8_findParts_58 : decode cX8_findParts 58 = .ok (.invokevirtual 189, 3) := by decide +kernel
theorem dX8_findParts_61 : decode cX8_findParts 61 = .ok (.ifCond .eq 32, 3) := by decide +kernel
theorem dX8_findParts_64 : decode cX8_findParts 64 = .ok (.aload_n 0, 1) := by decide +kernel
theorem dX8_findParts_65 : decode cX8_findParts 65 = .ok (.aload_n 0, 1) := by decide +kernel
theorem dX8_findParts_66 : decode cX8_findParts 66 = .ok (.getfield 22, 3) := by decide +kernel
theorem dX8_findParts_69 : decode cX8_findParts 69 = .ok (.iload 6, 2) := by decide +kernel
theorem dX8_findParts_71 : decode cX8_findParts 71 = .ok (.iaload, 1) := by decide +kernel
theorem dX8_findParts_72 : decode cX8_findParts 72 = .ok (.aload_n 0, 1) := by decide +kernel
theorem dX8_findParts_73 : decode cX8_findParts 73 = .ok (.getfield 25, 3) := by decide +kernel
theorem dX8_findParts_76 : decode cX8_findParts 76 = .ok (.iload 6, 2) := by decide +kernel
theorem dX8_findParts_78 : decode cX8_findParts 78 = .ok (.iload 4, 2) := by decide +kernel
theorem dX8_findParts_80 : decode cX8_findParts 80 = .ok (.iadd, 1) := by decide +kernel
theorem dX8_findParts_81 : decode cX8_findParts 81 = .ok (.iconst 1, 1) := by decide +kernel
theorem dX8_findParts_82 : decode cX8_findParts 82 = .ok (.isub, 1) := by decide +kernel
theorem dX8_findParts_83 : decode cX8_findParts 83 = .ok (.iaload, 1) := by decide +kernel
theorem dX8_findParts_84 : decode cX8_findParts 84 = .ok (.iload 7, 2) := by decide +kernel
theorem dX8_findParts_86 : decode cX8_findParts 86 = .ok (.iload_n 2, 1) := by decide +kernel
theorem dX8_findParts_87 : decode cX8_findParts 87 = .ok (.invokevirtual 203, 3) := by decide +kernel
theorem dX8_findParts_90 : decode cX8_findParts 90 = .ok (.iinc 5 1, 3) := by decide +kernel
theorem dX8_findParts_93 : decode cX8_findParts 93 = .ok (.iinc 7 1, 3) := by decide +kernel
theorem dX8_findParts_96 : decode cX8_findParts 96 = .ok (.goto (-60), 3) := by decide +kernel
theorem dX8_findParts_99 : decode cX8_findParts 99 = .ok (.iinc 6 1, 3) := by decide +kernel
theorem dX8_findParts_102 : decode cX8_findParts 102 = .ok (.goto (-81), 3) := by decide +kernel
theorem dX8_findParts_105 : decode cX8_findParts 105 = .ok (.iload 5, 2) := by decide +kernel
theorem dX8_findParts_107 : decode cX8_findParts 107 = .ok (.ireturn, 1) := by decide +kernel
theorem dX8_isEnough_0 : decode cX8_isEnough 0 = .ok (.aload_n 0, 1) := by decide +kernel
theorem dX8_isEnough_1 : decode cX8_isEnough 1 = .ok (.invokevirtual 214, 3) := by decide +kernel
theorem dX8_isEnough_4 : decode cX8_isEnough 4 = .ok (.iconst 0, 1) := by decide +kernel
theorem dX8_isEnough_5 : decode cX8_isEnough 5 = .ok (.istore_n 3, 1) := by decide +kernel
theorem dX8_isEnough_6 : decode cX8_isEnough 6 = .ok (.iload_n 3, 1) := by decide +kernel
theorem dX8_isEnough_7 : decode cX8_isEnough 7 = .ok (.iload_n 2, 1) := by decide +kernel
theorem dX8_isEnough_8 : decode cX8_isEnough 8 = .ok (.if_icmp .gt 67, 3) := by decide +kernel
theorem dX8_isEnough_11 : decode cX8_isEnough 11 = .ok (.aload_n 0, 1) := by decide +kernel
theorem dX8_isEnough_12 : decode cX8_isEnough 12 = .ok (.getfield 80, 3) := by decide +kernel
theorem dX8_isEnough_15 : decode cX8_isEnough 15 = .ok (.iload_n 3, 1) := by decide +kernel
theorem dX8_isEnough_16 : decode cX8_isEnough 16 = .ok (.iaload, 1) := by decide +kernel
theorem dX8_isEnough_17 : decode cX8_isEnough 17 = .ok (.aload_n 0, 1) := by decide +kernel
theorem dX8_isEnough_18 : decode cX8_isEnough 18 = .ok (.getfield 80, 3) := by decide +kernel
theorem dX8_isEnough_21 : decode cX8_isEnough 21 = .ok (.iload_n 2, 1) := by decide +kernel
theorem dX8_isEnough_22 : decode cX8_isEnough 22 = .ok (.iaload, 1) := by decide +kernel
theorem dX8_isEnough_23 : decode cX8_isEnough 23 = .ok (.if_icmp .ne 46, 3) := by decide +kernel
theorem dX8_isEnough_26 : decode cX8_isEnough 26 = .ok (.aload_n 0, 1) := by decide +kernel
theorem dX8_isEnough_27 : decode cX8_isEnough 27 = .ok (.getfield 89, 3) := by decide +kernel
theorem dX8_isEnough_30 : decode cX8_isEnough 30 = .ok (.iload_n 2, 1) := by decide +kernel
theorem dX8_isEnough_31 : decode cX8_isEnough 31 = .ok (.iaload, 1) := by decide +kernel
theorem dX8_isEnough_32 : decode cX8_isEnough 32 = .ok (.aload_n 0, 1) := by decide +kernel
theorem dX8_isEnough_33 : decode cX8_isEnough 33 = .ok (.getfield 89, 3) := by decide +kernel
theorem dX8_isEnough_36 : decode cX8_isEnough 36 = .ok (.iload_n 3, 1) := by decide +kernel
theorem dX8_isEnough_37 : decode cX8_isEnough 37 = .ok (.iaload, 1) := by decide +kernel
theorem dX8_isEnough_38 : decode cX8_isEnough 38 = .ok (.isub, 1) := by decide +kernel
theorem dX8_isEnough_39 : decode cX8_isEnough 39 = .ok (.aload_n 0, 1) := by decide +kernel
theorem dX8_isEnough_40 : decode cX8_isEnough 40 = .ok (.getfield 68, 3) := by decide +kernel
theorem dX8_isEnough_43 : decode cX8_isEnough 43 = .ok (.iload_n 1, 1) := by decide +kernel
theorem dX8_isEnough_44 : decode cX8_isEnough 44 = .ok (.iaload, 1) := by decide +kernel
theorem dX8_isEnough_45 : decode cX8_isEnough 45 = .ok (.if_icmp .gt 24, 3) := by decide +kernel
theorem dX8_isEnough_48 : decode cX8_isEnough 48 = .ok (.aload_n 0, 1) := by decide +kernel
theorem dX8_isEnough_49 : decode cX8_isEnough 49 = .ok (.iload_n 3, 1) := by decide +kernel
theorem dX8_isEnough_50 : decode cX8_isEnough 50 = .ok (.invokevirtual 217, 3) := by decide +kernel
theorem dX8_isEnough_53 : decode cX8_isEnough 53 = .ok (.aload_n 0, 1) := by decide +kernel
theorem dX8_isEnough_54 : decode cX8_isEnough 54 = .ok (.aload_n 0, 1) := by decide +kernel
theorem dX8_isEnough_55 : decode cX8_isEnough 55 = .ok (.getfield 59, 3) := by decide +kernel
theorem dX8_isEnough_58 : decode cX8_isEnough 58 = .ok (.iload_n 1, 1) := by decide +kernel
theorem dX8_isEnough_59 : decode cX8_isEnough 59 = .ok (.iaload, 1) := by decide +kernel
theorem dX8_isEnough_60 : decode cX8_isEnough 60 = .ok (.aload_n 0, 1) := by decide +kernel
theorem dX8_isEnough_61 : decode cX8_isEnough 61 = .ok (.getfield 62, 3) := by decide +kernel
theorem dX8_isEnough_64 : decode cX8_isEnough 64 = .ok (.iload_n 1, 1) := by decide +kernel
theorem dX8_isEnough_65 : decode cX8_isEnough 65 = .ok (.iaload, 1) := by decide +kernel
theorem dX8_isEnough_66 : decode cX8_isEnough 66 = .ok (.invokevirtual 221, 3) := by decide +kernel
theorem dX8_isEnough_69 : decode cX8_isEnough 69 = .ok (.iinc 3 1, 3) := by decide +kernel
theorem dX8_isEnough_72 : decode cX8_isEnough 72 = .ok (.goto (-66), 3) := by decide +kernel
theorem dX8_isEnough_75 : decode cX8_isEnough 75 = .ok (.aload_n 0, 1) := by decide +kernel
theorem dX8_isEnough_76 : decode cX8_isEnough 76 = .ok (.iload_n 2, 1) := by decide +kernel
theorem dX8_isEnough_77 : decode cX8_isEnough 77 = .ok (.invokevirtual 217, 3) := by decide +kernel
theorem dX8_isEnough_80 : decode cX8_isEnough 80 = .ok (.aload_n 0, 1) := by decide +kernel
theorem dX8_isEnough_81 : decode cX8_isEnough 81 = .ok (.aload_n 0, 1) := by decide +kernel
theorem dX8_isEnough_82 : decode cX8_isEnough 82 = .ok (.getfield 59, 3) := by decide +kernel
theorem dX8_isEnough_85 : decode cX8_isEnough 85 = .ok (.iload_n 1, 1) := by decide +kernel
theorem dX8_isEnough_86 : decode cX8_isEnough 86 = .ok (.iaload, 1) := by decide +kernel
theorem dX8_isEnough_87 : decode cX8_isEnough 87 = .ok (.invokevirtual 225, 3) := by decide +kernel
theorem dX8_isEnough_90 : decode cX8_isEnough 90 = .ok (.aload_n 0, 1) := by decide +kernel
theorem dX8_isEnough_91 : decode cX8_isEnough 91 = .ok (.getfield 65, 3) := by decide +kernel
theorem dX8_isEnough_94 : decode cX8_isEnough 94 = .ok (.iload_n 1, 1) := by decide +kernel
theorem dX8_isEnough_95 : decode cX8_isEnough 95 = .ok (.iaload, 1) := by decide +kernel
theorem dX8_isEnough_96 : decode cX8_isEnough 96 = .ok (.if_icmp .lt 7, 3) := by decide +kernel
theorem dX8_isEnough_99 : decode cX8_isEnough 99 = .ok (.iconst 1, 1) := by decide +kernel
theorem dX8_isEnough_100 : decode cX8_isEnough 100 = .ok (.goto 4, 3) := by decide +kernel
theorem dX8_isEnough_103 : decode cX8_isEnough 103 = .ok (.iconst 0, 1) := by decide +kernel
theorem dX8_isEnough_104 : decode cX8_isEnough 104 = .ok (.ireturn, 1) := by decide +kernel
theorem dX8_isHad_0 : decode cX8_isHad 0 = .ok (.aload_n 0, 1) := by decide +kernel
theorem dX8_isHad_1 : decode cX8_isHad 1 = .ok (.getfield 71, 3) := by decide +kernel
theorem dX8_isHad_4 : decode cX8_isHad 4 = .ok (.bipush 10, 2) := by decide +kernel
theorem dX8_isHad_6 : decode cX8_isHad 6 = .ok (.iload_n 1, 1) := by decide +kernel
theorem dX8_isHad_7 : decode cX8_isHad 7 = .ok (.imul, 1) := by decide +kernel
theorem dX8_isHad_8 : decode cX8_isHad 8 = .ok (.aload_n 0, 1) := by decide +kernel
theorem dX8_isHad_9 : decode cX8_isHad 9 = .ok (.getfield 80, 3) := by decide +kernel
theorem dX8_isHad_12 : decode cX8_isHad 12 = .ok (.iload_n 2, 1) := by decide +kernel
theorem dX8_isHad_13 : decode cX8_isHad 13 = .ok (.iaload, 1) := by decide +kernel
theorem dX8_isHad_14 : decode cX8_isHad 14 = .ok (.iadd, 1) := by decide +kernel
theorem dX8_isHad_15 : decode cX8_isHad 15 = .ok (.bipush 10, 2) := by decide +kernel
theorem dX8_isHad_17 : decode cX8_isHad 17 = .ok (.imul, 1) := by decide +kernel
theorem dX8_isHad_18 : decode cX8_isHad 18 = .ok (.aload_n 0, 1) := by decide +kernel
theorem dX8_isHad_19 : decode cX8_isHad 19 = .ok (.getfield 83, 3) := by decide +kernel
theorem dX8_isHad_22 : decode cX8_isHad 22 = .ok (.iload_n 2, 1) := by decide +kernel
theorem dX8_isHad_23 : decode cX8_isHad 23 = .ok (.iaload, 1) := by decide +kernel
theorem dX8_isHad_24 : decode cX8_isHad 24 = .ok (.iadd, 1) := by decide +kernel
theorem dX8_isHad_25 : decode cX8_isHad 25 = .ok (.baload, 1) := by decide +kernel
theorem dX8_isHad_26 : decode cX8_isHad 26 = .ok (.ifCond .ne 17, 3) := by decide +kernel
theorem dX8_isHad_29 : decode cX8_isHad 29 = .ok (.aload_n 0, 1) := by decide +kernel
theorem dX8_isHad_30 : decode cX8_isHad 30 = .ok (.iload_n 1, 1) := by decide +kernel
theorem dX8_isHad_31 : decode cX8_isHad 31 = .ok (.iload_n 2, 1) := by decide +kernel
theorem dX8_isHad_32 : decode cX8_isHad 32 = .ok (.iconst 0, 1) := by decide +kernel
theorem dX8_isHad_33 : decode cX8_isHad 33 = .ok (.invokevirtual 228, 3) := by decide +kernel
theorem dX8_isHad_36 : decode cX8_isHad 36 = .ok (.ifCond .le 7, 3) := by decide +kernel
theorem dX8_isHad_39 : decode cX8_isHad 39 = .ok (.iconst 1, 1) := by decide +kernel
theorem dX8_isHad_40 : decode cX8_isHad 40 = .ok (.goto 4, 3) := by decide +kernel
theorem dX8_isHad_43 : decode cX8_isHad 43 = .ok (.iconst 0, 1) := by decide +kernel
theorem dX8_isHad_44 : decode cX8_isHad 44 = .ok (.ireturn, 1) := by decide +kernel
theorem dX8_isRule_0 : decode cX8_isRule 0 = .ok (.iload_n 1, 1) := by decide +kernel
theorem dX8_isRule_1 : decode cX8_isRule 1 = .ok (.iconst 0, 1) := by decide +kernel
theorem dX8_isRule_2 : decode cX8_isRule 2 = .ok (.aload_n 0, 1) := by decide +kernel
theorem dX8_isRule_3 : decode cX8_isRule 3 = .ok (.getfield 232, 3) := by decide +kernel
theorem dX8_isRule_6 : decode cX8_isRule 6 = .ok (.invokestatic 128, 3) := by decide +kernel
theorem dX8_isRule_9 : decode cX8_isRule 9 = .ok (.ifCond .eq 47, 3) := by decide +kernel
theorem dX8_isRule_12 : decode cX8_isRule 12 = .ok (.iload_n 2, 1) := by decide +kernel
theorem dX8_isRule_13 : decode cX8_isRule 13 = .ok (.iconst (-1), 1) := by decide +kernel
theorem dX8_isRule_14 : decode cX8_isRule 14 = .ok (.bipush 9, 2) := by decide +kernel
theorem dX8_isRule_16 : decode cX8_isRule 16 = .ok (.invokestatic 128, 3) := by decide +kernel
theorem dX8_isRule_19 : decode cX8_isRule 19 = .ok (.ifCond .eq 37, 3) := by decide +kernel
theorem dX8_isRule_22 : decode cX8_isRule 22 = .ok (.iload_n 3, 1) := by decide +kernel
theorem dX8_isRule_23 : decode cX8_isRule 23 = .ok (.iconst (-1), 1) := by decide +kernel
theorem dX8_isRule_24 : decode cX8_isRule 24 = .ok (.iconst 2, 1) := by decide +kernel
theorem dX8_isRule_25 : decode cX8_isRule 25 = .ok (.invokestatic 128, 3) := by decide +kernel
theorem dX8_isRule_28 : decode cX8_isRule 28 = .ok (.ifCond .eq 28, 3) := by decide +kernel
theorem dX8_isRule_31 : decode cX8_isRule 31 = .ok (.iload 4, 2) := by decide +kernel
theorem dX8_isRule_33 : decode cX8_isRule 33 = .ok (.iconst 0, 1) := by decide +kernel
theorem dX8_isRule_34 : decode cX8_isRule 34 = .ok (.bipush 7, 2) := by decide +kernel
theorem dX8_isRule_36 : decode cX8_isRule 36 = .ok (.invokestatic 128, 3) := by decide +kernel
theorem dX8_isRule_39 : decode cX8_isRule 39 = .ok (.ifCond .eq 17, 3) := by decide +kernel
theorem dX8_isRule_42 : decode cX8_isRule 42 = .ok (.iload 5, 2) := by decide +kernel
theorem dX8_isRule_44 : decode cX8_isRule 44 = .ok (.iconst 0, 1) := by decide +kernel
theorem dX8_isRule_45 : decode cX8_isRule 45 = .ok (.iconst 4, 1) := by decide +kernel
theorem dX8_isRule_46 : decode cX8_isRule 46 = .ok (.invokestatic 128, 3) := by decide +kernel
theorem dX8_isRule_49 : decode cX8_isRule 49 = .ok (.ifCond .eq 7, 3) := by decide +kernel
theorem dX8_isRule_52 : decode cX8_isRule 52 = .ok (.iconst 1, 1) := by decide +kernel
theorem dX8_isRule_53 : decode cX8_isRule 53 = .ok (.goto 4, 3) := by decide +kernel
theorem dX8_isRule_56 : decode cX8_isRule 56 = .ok (.iconst 0, 1) := by decide +kernel
theorem dX8_isRule_57 : decode cX8_isRule 57 = .ok (.ireturn, 1) := by decide +kernel
theorem dX8_insert_0 : decode cX8_insert 0 = .ok (.aload_n 0, 1) := by decide +kernel
theorem dX8_insert_1 : decode cX8_insert 1 = .ok (.getfield 232, 3) := by decide +kernel
theorem dX8_insert_4 : decode cX8_insert 4 = .ok (.istore 6, 2) := by decide +kernel
theorem dX8_insert_6 : decode cX8_insert 6 = .ok (.iload 6, 2) := by decide +kernel
theorem dX8_insert_8 : decode cX8_insert 8 = .ok (.iload_n 1, 1) := by decide +kernel
theorem dX8_insert_9 : decode cX8_insert 9 = .ok (.if_icmp .le 73, 3) := by decide +kernel
theorem dX8_insert_12 : decode cX8_insert 12 = .ok (.aload_n 0, 1) := by decide +kernel
theorem dX8_insert_13 : decode cX8_insert 13 = .ok (.getfield 116, 3) := by decide +kernel
theorem dX8_insert_16 : decode cX8_insert 16 = .ok (.iload 6, 2) := by decide +kernel
theorem dX8_insert_18 : decode cX8_insert 18 = .ok (.aload_n 0, 1) := by decide +kernel
theorem dX8_insert_19 : decode cX8_insert 19 = .ok (.getfield 116, 3) := by decide +kernel
theorem dX8_insert_22 : decode cX8_insert 22 = .ok (.iload 6, 2) := by decide +kernel
theorem dX8_insert_24 : decode cX8_insert 24 = .ok (.iconst 1, 1) := by decide +kernel
theorem dX8_insert_25 : decode cX8_insert 25 = .ok (.isub, 1) := by decide +kernel
theorem dX8_insert_26 : decode cX8_insert 26 = .ok (.iaload, 1) := by decide +kernel
theorem dX8_insert_27 : decode cX8_insert 27 = .ok (.iastore, 1) := by decide +kernel
theorem dX8_insert_28 : decode cX8_insert 28 = .ok (.aload_n 0, 1) := by decide +kernel
theorem dX8_insert_29 : decode cX8_insert 29 = .ok (.getfield 119, 3) := by decide +kernel
theorem dX8_insert_32 : decode cX8_insert 32 = .ok (.iload 6, 2) := by decide +kernel
theorem dX8_insert_34 : decode cX8_insert 34 = .ok (.aload_n 0, 1) := by decide +kernel
theorem dX8_insert_35 : decode cX8_insert 35 = .ok (.getfield 119, 3) := by decide +kernel
theorem dX8_insert_38 : decode cX8_insert 38 = .ok (.iload 6, 2) := by decide +kernel
theorem dX8_insert_40 : decode cX8_insert 40 = .ok (.iconst 1, 1) := by decide +kernel
theorem dX8_insert_41 : decode cX8_insert 41 = .ok (.isub, 1) := by decide +kernel
theorem dX8_insert_42 : decode cX8_insert 42 = .ok (.iaload, 1) := by decide +kernel
theorem dX8_insert_43 : decode cX8_insert 43 = .ok (.iastore, 1) := by decide +kernel
theorem dX8_insert_44 : decode cX8_insert 44 = .ok (.aload_n 0, 1) := by decide +kernel
theorem dX8_insert_45 : decode cX8_insert 45 = .ok (.getfield 122, 3) := by decide +kernel
theorem dX8_insert_48 : decode cX8_insert 48 = .ok (.iload 6, 2) := by decide +kernel
theorem dX8_insert_50 : decode cX8_insert 50 = .ok (.aload_n 0, 1) := by decide +kernel
theorem dX8_insert_51 : decode cX8_insert 51 = .ok (.getfield 122, 3) := by decide +kernel
theorem dX8_insert_54 : decode cX8_insert 54 = .ok (.iload 6, 2) := by decide +kernel
theorem dX8_insert_56 : decode cX8_insert 56 = .ok (.iconst 1, 1) := by decide +kernel
theorem dX8_insert_57 : decode cX8_insert 57 = .ok (.isub, 1) := by decide +kernel
theorem dX8_insert_58 : decode cX8_insert 58 = .ok (.iaload, 1) := by decide +kernel
theorem dX8_insert_59 : decode cX8_insert 59 = .ok (.iastore, 1) := by decide +kernel
theorem dX8_insert_60 : decode cX8_insert 60 = .ok (.aload_n 0, 1) := by decide +kernel
theorem dX8_insert_61 : decode cX8_insert 61 = .ok (.getfield 125, 3) := by decide +kernel
theorem dX8_insert_64 : decode cX8_insert 64 = .ok (.iload 6, 2) := by decide +kernel
theorem dX8_insert_66 : decode cX8_insert 66 = .ok (.aload_n 0, 1) := by decide +kernel
theorem dX8_insert_67 : decode cX8_insert 67 = .ok (.getfield 125, 3) := by decide +kernel
theorem dX8_insert_70 : decode cX8_insert 70 = .ok (.iload 6, 2) := by decide +kernel
theorem dX8_insert_72 : decode cX8_insert 72 = .ok (.iconst 1, 1) := by decide +kernel
theorem dX8_insert_73 : decode cX8_insert 73 = .ok (.isub, 1) := by decide +kernel
theorem dX8_insert_74 : decode cX8_insert 74 = .ok (.iaload, 1) := by decide +kernel
theorem dX8_insert_75 : decode cX8_insert 75 = .ok (.iastore, 1) := by decide +kernel
theorem dX8_insert_76 : decode cX8_insert 76 = .ok (.iinc 6 (-1), 3) := by decide +kernel
theorem dX8_insert_79 : decode cX8_insert 79 = .ok (.goto (-73), 3) := by decide +kernel
theorem dX8_insert_82 : decode cX8_insert 82 = .ok (.aload_n 0, 1) := by decide +kernel
theorem dX8_insert_83 : decode cX8_insert 83 = .ok (.getfield 116, 3) := by decide +kernel
theorem dX8_insert_86 : decode cX8_insert 86 = .ok (.iload_n 1, 1) := by decide +kernel
theorem dX8_insert_87 : decode cX8_insert 87 = .ok (.iload_n 2, 1) := by decide +kernel
theorem dX8_insert_88 : decode cX8_insert 88 = .ok (.iastore, 1) := by decide +kernel
theorem dX8_insert_89 : decode cX8_insert 89 = .ok (.aload_n 0, 1) := by decide +kernel
theorem dX8_insert_90 : decode cX8_insert 90 = .ok (.getfield 119, 3) := by decide +kernel
theorem dX8_insert_93 : decode cX8_insert 93 = .ok (.iload_n 1, 1) := by decide +kernel
theorem dX8_insert_94 : decode cX8_insert 94 = .ok (.iload_n 3, 1) := by decide +kernel
theorem dX8_insert_95 : decode cX8_insert 95 = .ok (.iastore, 1) := by decide +kernel
theorem dX8_insert_96 : decode cX8_insert 96 = .ok (.aload_n 0, 1) := by decide +kernel
theorem dX8_insert_97 : decode cX8_insert 97 = .ok (.getfield 122, 3) := by decide +kernel
theorem dX8_insert_100 : decode cX8_insert 100 = .ok (.iload_n 1, 1) := by decide +kernel
theorem dX8_insert_101 : decode cX8_insert 101 = .ok (.iload 4, 2) := by decide +kernel
theorem dX8_insert_103 : decode cX8_insert 103 = .ok (.iastore, 1) := by decide +kernel
theorem dX8_insert_104 : decode cX8_insert 104 = .ok (.aload_n 0, 1) := by decide +kernel
theorem dX8_insert_105 : decode cX8_insert 105 = .ok (.getfield 125, 3) := by decide +kernel
theorem dX8_insert_108 : decode cX8_insert 108 = .ok (.iload_n 1, 1) := by decide +kernel
theorem dX8_insert_109 : decode cX8_insert 109 = .ok (.iload 5, 2) := by decide +kernel
theorem dX8_insert_111 : decode cX8_insert 111 = .ok (.iastore, 1) := by decide +kernel
theorem dX8_insert_112 : decode cX8_insert 112 = .ok (.aload_n 0, 1) := by decide +kernel
theorem dX8_insert_113 : decode cX8_insert 113 = .ok (.dup, 1) := by decide +kernel
theorem dX8_insert_114 : decode cX8_insert 114 = .ok (.getfield 232, 3) := by decide +kernel
theorem dX8_insert_117 : decode cX8_insert 117 = .ok (.iconst 1, 1) := by decide +kernel
theorem dX8_insert_118 : decode cX8_insert 118 = .ok (.iadd, 1) := by decide +kernel
theorem dX8_insert_119 : decode cX8_insert 119 = .ok (.putfield 232, 3) := by decide +kernel
theorem dX8_insert_122 : decode cX8_insert 122 = .ok (.return_, 1) := by decide +kernel
theorem dX8_remove_0 : decode cX8_remove 0 = .ok (.aload_n 0, 1) := by decide +kernel
theorem dX8_remove_1 : decode cX8_remove 1 = .ok (.dup, 1) := by decide +kernel
theorem dX8_remove_2 : decode cX8_remove 2 = .ok (.getfield 232, 3) := by decide +kernel
theorem dX8_remove_5 : decode cX8_remove 5 = .ok (.iconst 1, 1) := by decide +kernel
theorem dX8_remove_6 : decode cX8_remove 6 = .ok (.isub, 1) := by decide +kernel
theorem dX8_remove_7 : decode cX8_remove 7 = .ok (.putfield 232, 3) := by decide +kernel
theorem dX8_remove_10 : decode cX8_remove 10 = .ok (.iload_n 1, 1) := by decide +kernel
theorem dX8_remove_11 : decode cX8_remove 11 = .ok (.istore_n 2, 1) := by decide +kernel
theorem dX8_remove_12 : decode cX8_remove 12 = .ok (.iload_n 2, 1) := by decide +kernel
theorem dX8_remove_13 : decode cX8_remove 13 = .ok (.aload_n 0, 1) := by decide +kernel
theorem dX8_remove_14 : decode cX8_remove 14 = .ok (.getfield 232, 3) := by decide +kernel
theorem dX8_remove_17 : decode cX8_remove 17 = .ok (.if_icmp .ge 65, 3) := by decide +kernel
theorem dX8_remove_20 : decode cX8_remove 20 = .ok (.aload_n 0, 1) := by decide +kernel
theorem dX8_remove_21 : decode cX8_remove 21 = .ok (.getfield 116, 3) := by decide +kernel
theorem dX8_remove_24 : decode cX8_remove 24 = .ok (.iload_n 2, 1) := by decide +kernel
theorem dX8_remove_25 : decode cX8_remove 25 = .ok (.aload_n 0, 1) := by decide +kernel
theorem dX8_remove_26 : decode cX8_remove 26 = .ok (.getfield 116, 3) := by decide +kernel
theorem dX8_remove_29 : decode cX8_remove 29 = .ok (.iload_n 2, 1) := by decide +kernel
theorem dX8_remove_30 : decode cX8_remove 30 = .ok (.iconst 1, 1) := by decide +kernel
theorem dX8_remove_31 : decode cX8_remove 31 = .ok (.iadd, 1) := by decide +kernel
theorem dX8_remove_32 : decode cX8_remove 32 = .ok (.iaload, 1) := by decide +kernel
theorem dX8_remove_33 : decode cX8_remove 33 = .ok (.iastore, 1) := by decide +kernel
theorem dX8_remove_34 : decode cX8_remove 34 = .ok (.aload_n 0, 1) := by decide +kernel
theorem dX8_remove_35 : decode cX8_remove 35 = .ok (.getfield 119, 3) := by decide +kernel
theorem dX8_remove_38 : decode cX8_remove 38 = .ok (.iload_n 2, 1) := by decide +kernel
theorem dX8_remove_39 : decode cX8_remove 39 = .ok (.aload_n 0, 1) := by decide +kernel
theorem dX8_remove_40 : decode cX8_remove 40 = .ok (.getfield 119, 3) := by decide +kernel
theorem dX8_remove_43 : decode cX8_remove 43 = .ok (.iload_n 2, 1) := by decide +kernel
theorem dX8_remove_44 : decode cX8_remove 44 = .ok (.iconst 1, 1) := by decide +kernel
theorem dX8_remove_45 : decode cX8_remove 45 = .ok (.iadd, 1) := by decide +kernel
theorem dX8_remove_46 : decode cX8_remove 46 = .ok (.iaload, 1) := by decide +kernel
theorem dX8_remove_47 : decode cX8_remove 47 = .ok (.iastore, 1) := by decide +kernel
theorem dX8_remove_48 : decode cX8_remove 48 = .ok (.aload_n 0, 1) := by decide +kernel
theorem dX8_remove_49 : decode cX8_remove 49 = .ok (.getfield 122, 3) := by decide +kernel
theorem dX8_remove_52 : decode cX8_remove 52 = .ok (.iload_n 2, 1) := by decide +kernel
theorem dX8_remove_53 : decode cX8_remove 53 = .ok (.aload_n 0, 1) := by decide +kernel
theorem dX8_remove_54 : decode cX8_remove 54 = .ok (.getfield 122, 3) := by decide +kernel
theorem dX8_remove_57 : decode cX8_remove 57 = .ok (.iload_n 2, 1) := by decide +kernel
theorem dX8_remove_58 : decode cX8_remove 58 = .ok (.iconst 1, 1) := by decide +kernel
theorem dX8_remove_59 : decode cX8_remove 59 = .ok (.iadd, 1) := by decide +kernel
theorem dX8_remove_60 : decode cX8_remove 60 = .ok (.iaload, 1) := by decide +kernel
theorem dX8_remove_61 : decode cX8_remove 61 = .ok (.iastore, 1) := by decide +kernel
theorem dX8_remove_62 : decode cX8_remove 62 = .ok (.aload_n 0, 1) := by decide +kernel
theorem dX8_remove_63 : decode cX8_remove 63 = .ok (.getfield 125, 3) := by decide +kernel
theorem dX8_remove_66 : decode cX8_remove 66 = .ok (.iload_n 2, 1) := by decide +kernel
theorem dX8_remove_67 : decode cX8_remove 67 = .ok (.aload_n 0, 1) := by decide +kernel
theorem dX8_remove_68 : decode cX8_remove 68 = .ok (.getfield 125, 3) := by decide +kernel
theorem dX8_remove_71 : decode cX8_remove 71 = .ok (.iload_n 2, 1) := by decide +kernel
theorem dX8_remove_72 : decode cX8_remove 72 = .ok (.iconst 1, 1) := by decide +kernel
theorem dX8_remove_73 : decode cX8_remove 73 = .ok (.iadd, 1) := by decide +kernel
theorem dX8_remove_74 : decode cX8_remove 74 = .ok (.iaload, 1) := by decide +kernel
theorem dX8_remove_75 : decode cX8_remove 75 = .ok (.iastore, 1) := by decide +kernel
theorem dX8_remove_76 : decode cX8_remove 76 = .ok (.iinc 2 1, 3) := by decide +kernel
theorem dX8_remove_79 : decode cX8_remove 79 = .ok (.goto (-67), 3) := by decide +kernel
theorem dX8_remove_82 : decode cX8_remove 82 = .ok (.return_, 1) := by decide +kernel
theorem dX8_rule_0 : decode cX8_rule 0 = .ok (.aload_n 0, 1) := by decide +kernel
theorem dX8_rule_1 : decode cX8_rule 1 = .ok (.iload_n 1, 1) := by decide +kernel
theorem dX8_rule_2 : decode cX8_rule 2 = .ok (.iload_n 2, 1) := by decide +kernel
theorem dX8_rule_3 : decode cX8_rule 3 = .ok (.iload_n 3, 1) := by decide +kernel
theorem dX8_rule_4 : decode cX8_rule 4 = .ok (.iload 4, 2) := by decide +kernel
theorem dX8_rule_6 : decode cX8_rule 6 = .ok (.iload 5, 2) := by decide +kernel
theorem dX8_rule_8 : decode cX8_rule 8 = .ok (.invokevirtual 235, 3) := by decide +kernel
theorem dX8_rule_11 : decode cX8_rule 11 = .ok (.ifCond .eq 12, 3) := by decide +kernel
theorem dX8_rule_14 : decode cX8_rule 14 = .ok (.aload_n 0, 1) := by decide +kernel
theorem dX8_rule_15 : decode cX8_rule 15 = .ok (.getfield 232, 3) := by decide +kernel
theorem dX8_rule_18 : decode cX8_rule 18 = .ok (.bipush 20, 2) := by decide +kernel
theorem dX8_rule_20 : decode cX8_rule 20 = .ok (.if_icmp .ne 5, 3) := by decide +kernel
theorem dX8_rule_23 : decode cX8_rule 23 = .ok (.iconst (-1), 1) := by decide +kernel
theorem dX8_rule_24 : decode cX8_rule 24 = .ok (.ireturn, 1) := by decide +kernel
theorem dX8_rule_25 : decode cX8_rule 25 = .ok (.aload_n 0, 1) := by decide +kernel
theorem dX8_rule_26 : decode cX8_rule 26 = .ok (.iload_n 1, 1) := by decide +kernel
theorem dX8_rule_27 : decode cX8_rule 27 = .ok (.iload_n 2, 1) := by decide +kernel
theorem dX8_rule_28 : decode cX8_rule 28 = .ok (.iload_n 3, 1) := by decide +kernel
theorem dX8_rule_29 : decode cX8_rule 29 = .ok (.iload 4, 2) := by decide +kernel
theorem dX8_rule_31 : decode cX8_rule 31 = .ok (.iload 5, 2) := by decide +kernel
theorem dX8_rule_33 : decode cX8_rule 33 = .ok (.invokevirtual 239, 3) := by decide +kernel
theorem dX8_rule_36 : decode cX8_rule 36 = .ok (.aload_n 0, 1) := by decide +kernel
theorem dX8_rule_37 : decode cX8_rule 37 = .ok (.getfield 232, 3) := by decide +kernel
theorem dX8_rule_40 : decode cX8_rule 40 = .ok (.ireturn, 1) := by decide +kernel
theorem dX8_drop_0 : decode cX8_drop 0 = .ok (.iload_n 1, 1) := by decide +kernel
theorem dX8_drop_1 : decode cX8_drop 1 = .ok (.iconst 0, 1) := by decide +kernel
theorem dX8_drop_2 : decode cX8_drop 2 = .ok (.aload_n 0, 1) := by decide +kernel
theorem dX8_drop_3 : decode cX8_drop 3 = .ok (.getfield 232, 3) := by decide +kernel
theorem dX8_drop_6 : decode cX8_drop 6 = .ok (.iconst 1, 1) := by decide +kernel
theorem dX8_drop_7 : decode cX8_drop 7 = .ok (.isub, 1) := by decide +kernel
theorem dX8_drop_8 : decode cX8_drop 8 = .ok (.invokestatic 128, 3) := by decide +kernel
theorem dX8_drop_11 : decode cX8_drop 11 = .ok (.ifCond .ne 5, 3) := by decide +kernel
theorem dX8_drop_14 : decode cX8_drop 14 = .ok (.iconst 0, 1) := by decide +kernel
theorem dX8_drop_15 : decode cX8_drop 15 = .ok (.ireturn, 1) := by decide +kernel
theorem dX8_drop_16 : decode cX8_drop 16 = .ok (.aload_n 0, 1) := by decide +kernel
theorem dX8_drop_17 : decode cX8_drop 17 = .ok (.iload_n 1, 1) := by decide +kernel
theorem dX8_drop_18 : decode cX8_drop 18 = .ok (.invokevirtual 243, 3) := by decide +kernel
theorem dX8_drop_21 : decode cX8_drop 21 = .ok (.iconst 1, 1) := by decide +kernel
theorem dX8_drop_22 : decode cX8_drop 22 = .ok (.ireturn, 1) := by decide +kernel
theorem dX8_ruleFor_0 : decode cX8_ruleFor 0 = .ok (.iconst 0, 1) := by decide +kernel
theorem dX8_ruleFor_1 : decode cX8_ruleFor 1 = .ok (.istore_n 2, 1) := by decide +kernel
theorem dX8_ruleFor_2 : decode cX8_ruleFor 2 = .ok (.iload_n 2, 1) := by decide +kernel
theorem dX8_ruleFor_3 : decode cX8_ruleFor 3 = .ok (.aload_n 0, 1) := by decide +kernel
theorem dX8_ruleFor_4 : decode cX8_ruleFor 4 = .ok (.getfield 232, 3) := by decide +kernel
theorem dX8_ruleFor_7 : decode cX8_ruleFor 7 = .ok (.if_icmp .ge 97, 3) := by decide +kernel
theorem dX8_ruleFor_10 : decode cX8_ruleFor 10 = .ok (.aload_n 0, 1) := by decide +kernel
theorem dX8_ruleFor_11 : decode cX8_ruleFor 11 = .ok (.getfield 116, 3) := by decide +kernel
theorem dX8_ruleFor_14 : decode cX8_ruleFor 14 = .ok (.iload_n 2, 1) := by decide +kernel
theorem dX8_ruleFor_15 : decode cX8_ruleFor 15 = .ok (.iaload, 1) := by decide +kernel
theorem dX8_ruleFor_16 : decode cX8_ruleFor 16 = .ok (.iconst (-1), 1) := by decide +kernel
theorem dX8_ruleFor_17 : decode cX8_ruleFor 17 = .ok (.if_icmp .eq 18, 3) := by decide +kernel
theorem dX8_ruleFor_20 : decode cX8_ruleFor 20 = .ok (.aload_n 0, 1) := by decide +kernel
theorem dX8_ruleFor_21 : decode cX8_ruleFor 21 = .ok (.getfield 116, 3) := by decide +kernel
theorem dX8_ruleFor_24 : decode cX8_ruleFor 24 = .ok (.iload_n 2, 1) := by decide +kernel
theorem dX8_ruleFor_25 : decode cX8_ruleFor 25 = .ok (.iaload, 1) := by decide +kernel
theorem dX8_ruleFor_26 : decode cX8_ruleFor 26 = .ok (.aload_n 0, 1) := by decide +kernel
theorem dX8_ruleFor_27 : decode cX8_ruleFor 27 = .ok (.getfield 80, 3) := by decide +kernel
theorem dX8_ruleFor_30 : decode cX8_ruleFor 30 = .ok (.iload_n 1, 1) := by decide +kernel
theorem dX8_ruleFor_31 : decode cX8_ruleFor 31 = .ok (.iaload, 1) := by decide +kernel
theorem dX8_ruleFor_32 : decode cX8_ruleFor 32 = .ok (.if_icmp .ne 7, 3) := by decide +kernel
theorem dX8_ruleFor_35 : decode cX8_ruleFor 35 = .ok (.iconst 1, 1) := by decide +kernel
theorem dX8_ruleFor_36 : decode cX8_ruleFor 36 = .ok (.goto 4, 3) := by decide +kernel
theorem dX8_ruleFor_39 : decode cX8_ruleFor 39 = .ok (.iconst 0, 1) := by decide +kernel
theorem dX8_ruleFor_40 : decode cX8_ruleFor 40 = .ok (.istore_n 3, 1) := by decide +kernel
theorem dX8_ruleFor_41 : decode cX8_ruleFor 41 = .ok (.aload_n 0, 1) := by decide +kernel
theorem dX8_ruleFor_42 : decode cX8_ruleFor 42 = .ok (.getfield 119, 3) := by decide +kernel
theorem dX8_ruleFor_45 : decode cX8_ruleFor 45 = .ok (.iload_n 2, 1) := by decide +kernel
theorem dX8_ruleFor_46 : decode cX8_ruleFor 46 = .ok (.iaload, 1) := by decide +kernel
theorem dX8_ruleFor_47 : decode cX8_ruleFor 47 = .ok (.iconst (-1), 1) := by decide +kernel
theorem dX8_ruleFor_48 : decode cX8_ruleFor 48 = .ok (.if_icmp .eq 18, 3) := by decide +kernel
theorem dX8_ruleFor_51 : decode cX8_ruleFor 51 = .ok (.aload_n 0, 1) := by decide +kernel
theorem dX8_ruleFor_52 : decode cX8_ruleFor 52 = .ok (.getfield 119, 3) := by decide +kernel
theorem dX8_ruleFor_55 : decode cX8_ruleFor 55 = .ok (.iload_n 2, 1) := by decide +kernel
theorem dX8_ruleFor_56 : decode cX8_ruleFor 56 = .ok (.iaload, 1) := by decide +kernel
theorem dX8_ruleFor_57 : decode cX8_ruleFor 57 = .ok (.aload_n 0, 1) := by decide +kernel
theorem dX8_ruleFor_58 : decode cX8_ruleFor 58 = .ok (.getfield 86, 3) := by decide +kernel
theorem dX8_ruleFor_61 : decode cX8_ruleFor 61 = .ok (.iload_n 1, 1) := by decide +kernel
theorem dX8_ruleFor_62 : decode cX8_ruleFor 62 = .ok (.iaload, 1) := by decide +kernel
theorem dX8_ruleFor_63 : decode cX8_ruleFor 63 = .ok (.if_icmp .ne 7, 3) := by decide +kernel
theorem dX8_ruleFor_66 : decode cX8_ruleFor 66 = .ok (.iconst 1, 1) := by decide +kernel
theorem dX8_ruleFor_67 : decode cX8_ruleFor 67 = .ok (.goto 4, 3) := by decide +kernel
theorem dX8_ruleFor_70 : decode cX8_ruleFor 70 = .ok (.iconst 0, 1) := by decide +kernel
theorem dX8_ruleFor_71 : decode cX8_ruleFor 71 = .ok (.istore 4, 2) := by decide +kernel
theorem dX8_ruleFor_73 : decode cX8_ruleFor 73 = .ok (.iload_n 3, 1) := by decide +kernel
theorem dX8_ruleFor_74 : decode cX8_ruleFor 74 = .ok (.ifCond .eq 24, 3) := by decide +kernel
theorem dX8_ruleFor_77 : decode cX8_ruleFor 77 = .ok (.iload 4, 2) := by decide +kernel
theorem dX8_ruleFor_79 : decode cX8_ruleFor 79 = .ok (.ifCond .eq 19, 3) := by decide +kernel
theorem dX8_ruleFor_82 : decode cX8_ruleFor 82 = .ok (.aload_n 0, 1) := by decide +kernel
theorem dX8_ruleFor_83 : decode cX8_ruleFor 83 = .ok (.aload_n 0, 1) := by decide +kernel
theorem dX8_ruleFor_84 : decode cX8_ruleFor 84 = .ok (.getfield 122, 3) := by decide +kernel
theorem dX8_ruleFor_87 : decode cX8_ruleFor 87 = .ok (.iload_n 2, 1) := by decide +kernel
theorem dX8_ruleFor_88 : decode cX8_ruleFor 88 = .ok (.iaload, 1) := by decide +kernel
theorem dX8_ruleFor_89 : decode cX8_ruleFor 89 = .ok (.iload_n 1, 1) := by decide +kernel
theorem dX8_ruleFor_90 : decode cX8_ruleFor 90 = .ok (.invokevirtual 246, 3) := by decide +kernel
theorem dX8_ruleFor_93 : decode cX8_ruleFor 93 = .ok (.ifCond .eq 5, 3) := by decide +kernel
theorem dX8_ruleFor_96 : decode cX8_ruleFor 96 = .ok (.iload_n 2, 1) := by decide +kernel
theorem dX8_ruleFor_97 : decode cX8_ruleFor 97 = .ok (.ireturn, 1) := by decide +kernel
theorem dX8_ruleFor_98 : decode cX8_ruleFor 98 = .ok (.iinc 2 1, 3) := by decide +kernel
theorem dX8_ruleFor_101 : decode cX8_ruleFor 101 = .ok (.goto (-99), 3) := by decide +kernel
theorem dX8_ruleFor_104 : decode cX8_ruleFor 104 = .ok (.iconst (-1), 1) := by decide +kernel
theorem dX8_ruleFor_105 : decode cX8_ruleFor 105 = .ok (.ireturn, 1) := by decide +kernel
theorem dX8_send_0 : decode cX8_send 0 = .ok (.iload_n 1, 1) := by decide +kernel
theorem dX8_send_1 : decode cX8_send 1 = .ok (.iconst 0, 1) := by decide +kernel
theorem dX8_send_2 : decode cX8_send 2 = .ok (.bipush 9, 2) := by decide +kernel
theorem dX8_send_4 : decode cX8_send 4 = .ok (.invokestatic 128, 3) := by decide +kernel
theorem dX8_send_7 : decode cX8_send 7 = .ok (.ifCond .eq 31, 3) := by decide +kernel
theorem dX8_send_10 : decode cX8_send 10 = .ok (.iload_n 2, 1) := by decide +kernel
theorem dX8_send_11 : decode cX8_send 11 = .ok (.iconst 0, 1) := by decide +kernel
theorem dX8_send_12 : decode cX8_send 12 = .ok (.bipush 9, 2) := by decide +kernel
theorem dX8_send_14 : decode cX8_send 14 = .ok (.invokestatic 128, 3) := by decide +kernel
theorem dX8_send_17 : decode cX8_send 17 = .ok (.ifCond .eq 21, 3) := by decide +kernel
theorem dX8_send_20 : decode cX8_send 20 = .ok (.iload_n 3, 1) := by decide +kernel
theorem dX8_send_21 : decode cX8_send 21 = .ok (.iconst 0, 1) := by decide +kernel
theorem dX8_send_22 : decode cX8_send 22 = .ok (.iconst 2, 1) := by decide +kernel
theorem dX8_send_23 : decode cX8_send 23 = .ok (.invokestatic 128, 3) := by decide +kernel
theorem dX8_send_26 : decode cX8_send 26 = .ok (.ifCond .eq 12, 3) := by decide +kernel
theorem dX8_send_29 : decode cX8_send 29 = .ok (.aload_n 0, 1) := by decide +kernel
theorem dX8_send_30 : decode cX8_send 30 = .ok (.getfield 249, 3) := by decide +kernel
theorem dX8_send_33 : decode cX8_send 33 = .ok (.bipush 60, 2) := by decide +kernel
theorem dX8_send_35 : decode cX8_send 35 = .ok (.if_icmp .ne 5, 3) := by decide +kernel
theorem dX8_send_38 : decode cX8_send 38 = .ok (.iconst (-1), 1) := by decide +kernel
theorem dX8_send_39 : decode cX8_send 39 = .ok (.ireturn, 1) := by decide +kernel
theorem dX8_send_40 : decode cX8_send 40 = .ok (.aload_n 0, 1) := by decide +kernel
theorem dX8_send_41 : decode cX8_send 41 = .ok (.getfield 249, 3) := by decide +kernel
theorem dX8_send_44 : decode cX8_send 44 = .ok (.istore 4, 2) := by decide +kernel
theorem dX8_send_46 : decode cX8_send 46 = .ok (.aload_n 0, 1) := by decide +kernel
theorem dX8_send_47 : decode cX8_send 47 = .ok (.dup, 1) := by decide +kernel
theorem dX8_send_48 : decode cX8_send 48 = .ok (.getfield 249, 3) := by decide +kernel
theorem dX8_send_51 : decode cX8_send 51 = .ok (.iconst 1, 1) := by decide +kernel
theorem dX8_send_52 : decode cX8_send 52 = .ok (.iadd, 1) := by decide +kernel
theorem dX8_send_53 : decode cX8_send 53 = .ok (.putfield 249, 3) := by decide +kernel
theorem dX8_send_56 : decode cX8_send 56 = .ok (.iconst 0, 1) := by decide +kernel
theorem dX8_send_57 : decode cX8_send 57 = .ok (.istore 5, 2) := by decide +kernel
theorem dX8_send_59 : decode cX8_send 59 = .ok (.iload 5, 2) := by decide +kernel
theorem dX8_send_61 : decode cX8_send 61 = .ok (.aload_n 0, 1) := by decide +kernel
theorem dX8_send_62 : decode cX8_send 62 = .ok (.getfield 140, 3) := by decide +kernel
theorem dX8_send_65 : decode cX8_send 65 = .ok (.if_icmp .ge 30, 3) := by decide +kernel
theorem dX8_send_68 : decode cX8_send 68 = .ok (.aload_n 0, 1) := by decide +kernel
theorem dX8_send_69 : decode cX8_send 69 = .ok (.getfield 74, 3) := by decide +kernel
theorem dX8_send_72 : decode cX8_send 72 = .ok (.sipush 300, 3) := by decide +kernel
theorem dX8_send_75 : decode cX8_send 75 = .ok (.iload 4, 2) := by decide +kernel
theorem dX8_send_77 : decode cX8_send 77 = .ok (.imul, 1) := by decide +kernel
theorem dX8_send_78 : decode cX8_send 78 = .ok (.iload 5, 2) := by decide +kernel
theorem dX8_send_80 : decode cX8_send 80 = .ok (.iadd, 1) := by decide +kernel
theorem dX8_send_81 : decode cX8_send 81 = .ok (.aload_n 0, 1) := by decide +kernel
theorem dX8_send_82 : decode cX8_send 82 = .ok (.getfield 9, 3) := by decide +kernel
theorem dX8_send_85 : decode cX8_send 85 = .ok (.iload 5, 2) := by decide +kernel
theorem dX8_send_87 : decode cX8_send 87 = .ok (.iaload, 1) := by decide +kernel
theorem dX8_send_88 : decode cX8_send 88 = .ok (.iastore, 1) := by decide +kernel
theorem dX8_send_89 : decode cX8_send 89 = .ok (.iinc 5 1, 3) := by decide +kernel
theorem dX8_send_92 : decode cX8_send 92 = .ok (.goto (-33), 3) := by decide +kernel
theorem dX8_send_95 : decode cX8_send 95 = .ok (.aload_n 0, 1) := by decide +kernel
theorem dX8_send_96 : decode cX8_send 96 = .ok (.getfield 77, 3) := by decide +kernel
theorem dX8_send_99 : decode cX8_send 99 = .ok (.iload 4, 2) := by decide +kernel
theorem dX8_send_101 : decode cX8_send 101 = .ok (.aload_n 0, 1) := by decide +kernel
theorem dX8_send_102 : decode cX8_send 102 = .ok (.getfield 140, 3) := by decide +kernel
theorem dX8_send_105 : decode cX8_send 105 = .ok (.iastore, 1) := by decide +kernel
theorem dX8_send_106 : decode cX8_send 106 = .ok (.aload_n 0, 1) := by decide +kernel
theorem dX8_send_107 : decode cX8_send 107 = .ok (.iconst 0, 1) := by decide +kernel
theorem dX8_send_108 : decode cX8_send 108 = .ok (.putfield 140, 3) := by decide +kernel
theorem dX8_send_111 : decode cX8_send 111 = .ok (.aload_n 0, 1) := by decide +kernel
theorem dX8_send_112 : decode cX8_send 112 = .ok (.getfield 80, 3) := by decide +kernel
theorem dX8_send_115 : decode cX8_send 115 = .ok (.iload 4, 2) := by decide +kernel
theorem dX8_send_117 : decode cX8_send 117 = .ok (.iload_n 1, 1) := by decide +kernel
theorem dX8_send_118 : decode cX8_send 118 = .ok (.iastore, 1) := by decide +kernel
theorem dX8_send_119 : decode cX8_send 119 = .ok (.aload_n 0, 1) := by decide +kernel
theorem dX8_send_120 : decode cX8_send 120 = .ok (.getfield 83, 3) := by decide +kernel
theorem dX8_send_123 : decode cX8_send 123 = .ok (.iload 4, 2) := by decide +kernel
theorem dX8_send_125 : decode cX8_send 125 = .ok (.iload_n 2, 1) := by decide +kernel
theorem dX8_send_126 : decode cX8_send 126 = .ok (.iastore, 1) := by decide +kernel
theorem dX8_send_127 : decode cX8_send 127 = .ok (.aload_n 0, 1) := by decide +kernel
theorem dX8_send_128 : decode cX8_send 128 = .ok (.getfield 86, 3) := by decide +kernel
theorem dX8_send_131 : decode cX8_send 131 = .ok (.iload 4, 2) := by decide +kernel
theorem dX8_send_133 : decode cX8_send 133 = .ok (.iload_n 3, 1) := by decide +kernel
theorem dX8_send_134 : decode cX8_send 134 = .ok (.iastore, 1) := by decide +kernel
theorem dX8_send_135 : decode cX8_send 135 = .ok (.aload_n 0, 1) := by decide +kernel
theorem dX8_send_136 : decode cX8_send 136 = .ok (.getfield 89, 3) := by decide +kernel
theorem dX8_send_139 : decode cX8_send 139 = .ok (.iload 4, 2) := by decide +kernel
theorem dX8_send_141 : decode cX8_send 141 = .ok (.aload_n 0, 1) := by decide +kernel
theorem dX8_send_142 : decode cX8_send 142 = .ok (.getfield 132, 3) := by decide +kernel
theorem dX8_send_145 : decode cX8_send 145 = .ok (.iastore, 1) := by decide +kernel
theorem dX8_send_146 : decode cX8_send 146 = .ok (.aload_n 0, 1) := by decide +kernel
theorem dX8_send_147 : decode cX8_send 147 = .ok (.iload 4, 2) := by decide +kernel
theorem dX8_send_149 : decode cX8_send 149 = .ok (.invokevirtual 217, 3) := by decide +kernel
theorem dX8_send_152 : decode cX8_send 152 = .ok (.aload_n 0, 1) := by decide +kernel
theorem dX8_send_153 : decode cX8_send 153 = .ok (.iload 4, 2) := by decide +kernel
theorem dX8_send_155 : decode cX8_send 155 = .ok (.invokevirtual 252, 3) := by decide +kernel
theorem dX8_send_158 : decode cX8_send 158 = .ok (.istore 5, 2) := by decide +kernel
theorem dX8_send_160 : decode cX8_send 160 = .ok (.aload_n 0, 1) := by decide +kernel
theorem dX8_send_161 : decode cX8_send 161 = .ok (.getfield 92, 3) := by decide +kernel
theorem dX8_send_164 : decode cX8_send 164 = .ok (.iload 4, 2) := by decide +kernel
theorem dX8_send_166 : decode cX8_send 166 = .ok (.iload 5, 2) := by decide +kernel
theorem dX8_send_168 : decode cX8_send 168 = .ok (.iconst (-1), 1) := by decide +kernel
theorem dX8_send_169 : decode cX8_send 169 = .ok (.if_icmp .ne 7, 3) := by decide +kernel
theorem dX8_send_172 : decode cX8_send 172 = .ok (.iconst 0, 1) := by decide +kernel
theorem dX8_send_173 : decode cX8_send 173 = .ok (.goto 10, 3) := by decide +kernel
theorem dX8_send_176 : decode cX8_send 176 = .ok (.aload_n 0, 1) := by decide +kernel
theorem dX8_send_177 : decode cX8_send 177 = .ok (.getfield 125, 3) := by decide +kernel
theorem dX8_send_180 : decode cX8_send 180 = .ok (.iload 5, 2) := by decide +kernel
theorem dX8_send_182 : decode cX8_send 182 = .ok (.iaload, 1) := by decide +kernel
theorem dX8_send_183 : decode cX8_send 183 = .ok (.iastore, 1) := by decide +kernel
theorem dX8_send_184 : decode cX8_send 184 = .ok (.aload_n 0, 1) := by decide +kernel
theorem dX8_send_185 : decode cX8_send 185 = .ok (.getfield 95, 3) := by decide +kernel
theorem dX8_send_188 : decode cX8_send 188 = .ok (.iload 4, 2) := by decide +kernel
theorem dX8_send_190 : decode cX8_send 190 = .ok (.iload 5, 2) := by decide +kernel
theorem dX8_send_192 : decode cX8_send 192 = .ok (.iconst (-1), 1) := by decide +kernel
theorem dX8_send_193 : decode cX8_send 193 = .ok (.if_icmp .ne 7, 3) := by decide +kernel
theorem dX8_send_196 : decode cX8_send 196 = .ok (.iconst (-1), 1) := by decide +kernel
theorem dX8_send_197 : decode cX8_send 197 = .ok (.goto 10, 3) := by decide +kernel
theorem dX8_send_200 : decode cX8_send 200 = .ok (.aload_n 0, 1) := by decide +kernel
theorem dX8_send_201 : decode cX8_send 201 = .ok (.getfield 122, 3) := by decide +kernel
theorem dX8_send_204 : decode cX8_send 204 = .ok (.iload 5, 2) := by decide +kernel
theorem dX8_send_206 : decode cX8_send 206 = .ok (.iaload, 1) := by decide +kernel
theorem dX8_send_207 : decode cX8_send 207 = .ok (.iastore, 1) := by decide +kernel
theorem dX8_send_208 : decode cX8_send 208 = .ok (.aload_n 0, 1) := by decide +kernel
theorem dX8_send_209 : decode cX8_send 209 = .ok (.getfield 98, 3) := by decide +kernel
theorem dX8_send_212 : decode cX8_send 212 = .ok (.iload 4, 2) := by decide +kernel
theorem dX8_send_214 : decode cX8_send 214 = .ok (.aload_n 0, 1) := by decide +kernel
theorem dX8_send_215 : decode cX8_send 215 = .ok (.getfield 92, 3) := by decide +kernel
theorem dX8_send_218 : decode cX8_send 218 = .ok (.iload 4, 2) := by decide +kernel
theorem dX8_send_220 : decode cX8_send 220 = .ok (.iaload, 1) := by decide +kernel
theorem dX8_send_221 : decode cX8_send 221 = .ok (.iconst 2, 1) := by decide +kernel
theorem dX8_send_222 : decode cX8_send 222 = .ok (.if_icmp .le 7, 3) := by decide +kernel
theorem dX8_send_225 : decode cX8_send 225 = .ok (.iconst 1, 1) := by decide +kernel
theorem dX8_send_226 : decode cX8_send 226 = .ok (.goto 4, 3) := by decide +kernel
theorem dX8_send_229 : decode cX8_send 229 = .ok (.iconst 0, 1) := by decide +kernel
theorem dX8_send_230 : decode cX8_send 230 = .ok (.iastore, 1) := by decide +kernel
theorem dX8_send_231 : decode cX8_send 231 = .ok (.aload_n 0, 1) := by decide +kernel
theorem dX8_send_232 : decode cX8_send 232 = .ok (.getfield 101, 3) := by decide +kernel
theorem dX8_send_235 : decode cX8_send 235 = .ok (.iload 4, 2) := by decide +kernel
theorem dX8_send_237 : decode cX8_send 237 = .ok (.aload_n 0, 1) := by decide +kernel
theorem dX8_send_238 : decode cX8_send 238 = .ok (.getfield 193, 3) := by decide +kernel
theorem dX8_send_241 : decode cX8_send 241 = .ok (.iastore, 1) := by decide +kernel
theorem dX8_send_242 : decode cX8_send 242 = .ok (.aload_n 0, 1) := by decide +kernel
theorem dX8_send_243 : decode cX8_send 243 = .ok (.getfield 104, 3) := by decide +kernel
theorem dX8_send_246 : decode cX8_send 246 = .ok (.iload 4, 2) := by decide +kernel
theorem dX8_send_248 : decode cX8_send 248 = .ok (.iload 5, 2) := by decide +kernel
theorem dX8_send_250 : decode cX8_send 250 = .ok (.iconst (-1), 1) := by decide +kernel
theorem dX8_send_251 : decode cX8_send 251 = .ok (.if_icmp .ne 7, 3) := by decide +kernel
theorem dX8_send_254 : decode cX8_send 254 = .ok (.iconst 0, 1) := by decide +kernel
theorem dX8_send_255 : decode cX8_send 255 = .ok (.goto 17, 3) := by decide +kernel
theorem dX8_send_258 : decode cX8_send 258 = .ok (.aload_n 0, 1) := by decide +kernel
theorem dX8_send_259 : decode cX8_send 259 = .ok (.aload_n 0, 1) := by decide +kernel
theorem dX8_send_260 : decode cX8_send 260 = .ok (.getfield 122, 3) := by decide +kernel
theorem dX8_send_263 : decode cX8_send 263 = .ok (.iload 5, 2) := by decide +kernel
theorem dX8_send_265 : decode cX8_send 265 = .ok (.iaload, 1) := by decide +kernel
theorem dX8_send_266 : decode cX8_send 266 = .ok (.iload 4, 2) := by decide +kernel
theorem dX8_send_268 : decode cX8_send 268 = .ok (.iconst 1, 1) := by decide +kernel
theorem dX8_send_269 : decode cX8_send 269 = .ok (.invokevirtual 228, 3) := by decide +kernel
theorem dX8_send_272 : decode cX8_send 272 = .ok (.iastore, 1) := by decide +kernel
theorem dX8_send_273 : decode cX8_send 273 = .ok (.iload 4, 2) := by decide +kernel
theorem dX8_send_275 : decode cX8_send 275 = .ok (.ireturn, 1) := by decide +kernel
theorem dX8_isLetter_0 : decode cX8_isLetter 0 = .ok (.iload_n 1, 1) := by decide +kernel
theorem dX8_isLetter_1 : decode cX8_isLetter 1 = .ok (.iconst 0, 1) := by decide +kernel
theorem dX8_isLetter_2 : decode cX8_isLetter 2 = .ok (.aload_n 0, 1) := by decide +kernel
theorem dX8_isLetter_3 : decode cX8_isLetter 3 = .ok (.getfield 249, 3) := by decide +kernel
theorem dX8_isLetter_6 : decode cX8_isLetter 6 = .ok (.iconst 1, 1) := by decide +kernel
theorem dX8_isLetter_7 : decode cX8_isLetter 7 = .ok (.isub, 1) := by decide +kernel
theorem dX8_isLetter_8 : decode cX8_isLetter 8 = .ok (.invokestatic 128, 3) := by decide +kernel
theorem dX8_isLetter_11 : decode cX8_isLetter 11 = .ok (.ireturn, 1) := by decide +kernel
theorem dX8_answer_0 : decode cX8_answer 0 = .ok (.aload_n 0, 1) := by decide +kernel
theorem dX8_answer_1 : decode cX8_answer 1 = .ok (.iload_n 1, 1) := by decide +kernel
theorem dX8_answer_2 : decode cX8_answer 2 = .ok (.invokevirtual 255, 3) := by decide +kernel
theorem dX8_answer_5 : decode cX8_answer 5 = .ok (.ifCond .eq 13, 3) := by decide +kernel
theorem dX8_answer_8 : decode cX8_answer 8 = .ok (.aload_n 0, 1) := by decide +kernel
theorem dX8_answer_9 : decode cX8_answer 9 = .ok (.getfield 98, 3) := by decide +kernel
theorem dX8_answer_12 : decode cX8_answer 12 = .ok (.iload_n 1, 1) := by decide +kernel
theorem dX8_answer_13 : decode cX8_answer 13 = .ok (.iaload, 1) := by decide +kernel
theorem dX8_answer_14 : decode cX8_answer 14 = .ok (.iconst 1, 1) := by decide +kernel
theorem dX8_answer_15 : decode cX8_answer 15 = .ok (.if_icmp .eq 5, 3) := by decide +kernel
theorem dX8_answer_18 : decode cX8_answer 18 = .ok (.iconst 0, 1) := by decide +kernel
theorem dX8_answer_19 : decode cX8_answer 19 = .ok (.ireturn, 1) := by decide +kernel
theorem dX8_answer_20 : decode cX8_answer 20 = .ok (.aload_n 0, 1) := by decide +kernel
theorem dX8_answer_21 : decode cX8_answer 21 = .ok (.getfield 98, 3) := by decide +kernel
theorem dX8_answer_24 : decode cX8_answer 24 = .ok (.iload_n 1, 1) := by decide +kernel
theorem dX8_answer_25 : decode cX8_answer 25 = .ok (.iload_n 2, 1) := by decide +kernel
theorem dX8_answer_26 : decode cX8_answer 26 = .ok (.ifCond .eq 7, 3) := by decide +kernel
theorem dX8_answer_29 : decode cX8_answer 29 = .ok (.iconst 0, 1) := by decide +kernel
theorem dX8_answer_30 : decode cX8_answer 30 = .ok (.goto 4, 3) := by decide +kernel
theorem dX8_answer_33 : decode cX8_answer 33 = .ok (.iconst 2, 1) := by decide +kernel
theorem dX8_answer_34 : decode cX8_answer 34 = .ok (.iastore, 1) := by decide +kernel
theorem dX8_answer_35 : decode cX8_answer 35 = .ok (.iconst 1, 1) := by decide +kernel
theorem dX8_answer_36 : decode cX8_answer 36 = .ok (.ireturn, 1) := by decide +kernel
theorem dX8_told_0 : decode cX8_told 0 = .ok (.aload_n 0, 1) := by decide +kernel
theorem dX8_told_1 : decode cX8_told 1 = .ok (.iload_n 1, 1) := by decide +kernel
theorem dX8_told_2 : decode cX8_told 2 = .ok (.invokevirtual 255, 3) := by decide +kernel
theorem dX8_told_5 : decode cX8_told 5 = .ok (.ifCond .ne 5, 3) := by decide +kernel
theorem dX8_told_8 : decode cX8_told 8 = .ok (.iconst (-1), 1) := by decide +kernel
theorem dX8_told_9 : decode cX8_told 9 = .ok (.ireturn, 1) := by decide +kernel
theorem dX8_told_10 : decode cX8_told 10 = .ok (.iload_n 2, 1) := by decide +kernel
theorem dX8_told_11 : decode cX8_told 11 = .ok (.tableswitch 112 0 8 #[49, 56, 63, 70, 77, 84, 91, 98, 105], 49) := by decide +kernel
theorem dX8_told_60 : decode cX8_told 60 = .ok (.aload_n 0, 1) := by decide +kernel
theorem dX8_told_61 : decode cX8_told 61 = .ok (.getfield 80, 3) := by decide +kernel
theorem dX8_told_64 : decode cX8_told 64 = .ok (.iload_n 1, 1) := by decide +kernel
theorem dX8_told_65 : decode cX8_told 65 = .ok (.iaload, 1) := by decide +kernel
theorem dX8_told_66 : decode cX8_told 66 = .ok (.ireturn, 1) := by decide +kernel
theorem dX8_told_67 : decode cX8_told 67 = .ok (.aload_n 0, 1) := by decide +kernel
theorem dX8_told_68 : decode cX8_told 68 = .ok (.getfield 83, 3) := by decide +kernel
theorem dX8_told_71 : decode cX8_told 71 = .ok (.iload_n 1, 1) := by decide +kernel
theorem dX8_told_72 : decode cX8_told 72 = .ok (.iaload, 1) := by decide +kernel
theorem dX8_told_73 : decode cX8_told 73 = .ok (.ireturn, 1) := by decide +kernel
theorem dX8_told_74 : decode cX8_told 74 = .ok (.aload_n 0, 1) := by decide +kernel
theorem dX8_told_75 : decode cX8_told 75 = .ok (.getfield 86, 3) := by decide +kernel
theorem dX8_told_78 : decode cX8_told 78 = .ok (.iload_n 1, 1) := by decide +kernel
theorem dX8_told_79 : decode cX8_told 79 = .ok (.iaload, 1) := by decide +kernel
theorem dX8_told_80 : decode cX8_told 80 = .ok (.ireturn, 1) := by decide +kernel
theorem dX8_told_81 : decode cX8_told 81 = .ok (.aload_n 0, 1) := by decide +kernel
theorem dX8_told_82 : decode cX8_told 82 = .ok (.getfield 89, 3) := by decide +kernel
theorem dX8_told_85 : decode cX8_told 85 = .ok (.iload_n 1, 1) := by decide +kernel
theorem dX8_told_86 : decode cX8_told 86 = .ok (.iaload, 1) := by decide +kernel
theorem dX8_told_87 : decode cX8_told 87 = .ok (.ireturn, 1) := by decide +kernel
theorem dX8_told_88 : decode cX8_told 88 = .ok (.aload_n 0, 1) := by decide +kernel
theorem dX8_told_89 : decode cX8_told 89 = .ok (.getfield 92, 3) := by decide +kernel
theorem dX8_told_92 : decode cX8_told 92 = .ok (.iload_n 1, 1) := by decide +kernel
theorem dX8_told_93 : decode cX8_told 93 = .ok (.iaload, 1) := by decide +kernel
theorem dX8_told_94 : decode cX8_told 94 = .ok (.ireturn, 1) := by decide +kernel
theorem dX8_told_95 : decode cX8_told 95 = .ok (.aload_n 0, 1) := by decide +kernel
theorem dX8_told_96 : decode cX8_told 96 = .ok (.getfield 95, 3) := by decide +kernel
theorem dX8_told_99 : decode cX8_told 99 = .ok (.iload_n 1, 1) := by decide +kernel
theorem dX8_told_100 : decode cX8_told 100 = .ok (.iaload, 1) := by decide +kernel
theorem dX8_told_101 : decode cX8_told 101 = .ok (.ireturn, 1) := by decide +kernel
theorem dX8_told_102 : decode cX8_told 102 = .ok (.aload_n 0, 1) := by decide +kernel
theorem dX8_told_103 : decode cX8_told 103 = .ok (.getfield 98, 3) := by decide +kernel
theorem dX8_told_106 : decode cX8_told 106 = .ok (.iload_n 1, 1) := by decide +kernel
theorem dX8_told_107 : decode cX8_told 107 = .ok (.iaload, 1) := by decide +kernel
theorem dX8_told_108 : decode cX8_told 108 = .ok (.ireturn, 1) := by decide +kernel
theorem dX8_told_109 : decode cX8_told 109 = .ok (.aload_n 0, 1) := by decide +kernel
theorem dX8_told_110 : decode cX8_told 110 = .ok (.getfield 77, 3) := by decide +kernel
theorem dX8_told_113 : decode cX8_told 113 = .ok (.iload_n 1, 1) := by decide +kernel
theorem dX8_told_114 : decode cX8_told 114 = .ok (.iaload, 1) := by decide +kernel
theorem dX8_told_115 : decode cX8_told 115 = .ok (.ireturn, 1) := by decide +kernel
theorem dX8_told_116 : decode cX8_told 116 = .ok (.aload_n 0, 1) := by decide +kernel
theorem dX8_told_117 : decode cX8_told 117 = .ok (.getfield 104, 3) := by decide +kernel
theorem dX8_told_120 : decode cX8_told 120 = .ok (.iload_n 1, 1) := by decide +kernel
theorem dX8_told_121 : decode cX8_told 121 = .ok (.iaload, 1) := by decide +kernel
theorem dX8_told_122 : decode cX8_told 122 = .ok (.ireturn, 1) := by decide +kernel
theorem dX8_told_123 : decode cX8_told 123 = .ok (.iconst (-1), 1) := by decide +kernel
theorem dX8_told_124 : decode cX8_told 124 = .ok (.ireturn, 1) := by decide +kernel
theorem dX8_at_0 : decode cX8_at 0 = .ok (.aload_n 0, 1) := by decide +kernel
theorem dX8_at_1 : decode cX8_at 1 = .ok (.iload_n 1, 1) := by decide +kernel
theorem dX8_at_2 : decode cX8_at 2 = .ok (.invokevirtual 255, 3) := by decide +kernel
theorem dX8_at_5 : decode cX8_at 5 = .ok (.ifCond .eq 19, 3) := by decide +kernel
theorem dX8_at_8 : decode cX8_at 8 = .ok (.iload_n 2, 1) := by decide +kernel
theorem dX8_at_9 : decode cX8_at 9 = .ok (.iconst 0, 1) := by decide +kernel
theorem dX8_at_10 : decode cX8_at 10 = .ok (.aload_n 0, 1) := by decide +kernel
theorem dX8_at_11 : decode cX8_at 11 = .ok (.getfield 77, 3) := by decide +kernel
theorem dX8_at_14 : decode cX8_at 14 = .ok (.iload_n 1, 1) := by decide +kernel
theorem dX8_at_15 : decode cX8_at 15 = .ok (.iaload, 1) := by decide +kernel
theorem dX8_at_16 : decode cX8_at 16 = .ok (.iconst 1, 1) := by decide +kernel
theorem dX8_at_17 : decode cX8_at 17 = .ok (.isub, 1) := by decide +kernel
theorem dX8_at_18 : decode cX8_at 18 = .ok (.invokestatic 128, 3) := by decide +kernel
theorem dX8_at_21 : decode cX8_at 21 = .ok (.ifCond .ne 5, 3) := by decide +kernel
theorem dX8_at_24 : decode cX8_at 24 = .ok (.iconst (-1), 1) := by decide +kernel
theorem dX8_at_25 : decode cX8_at 25 = .ok (.ireturn, 1) := by decide +kernel
theorem dX8_at_26 : decode cX8_at 26 = .ok (.iconst 0, 1) := by decide +kernel
theorem dX8_at_27 : decode cX8_at 27 = .ok (.istore 4, 2) := by decide +kernel
theorem dX8_at_29 : decode cX8_at 29 = .ok (.aload_n 0, 1) := by decide +kernel
theorem dX8_at_30 : decode cX8_at 30 = .ok (.getfield 101, 3) := by decide +kernel
theorem dX8_at_33 : decode cX8_at 33 = .ok (.iload_n 1, 1) := by decide +kernel
theorem dX8_at_34 : decode cX8_at 34 = .ok (.iaload, 1) := by decide +kernel
theorem dX8_at_35 : decode cX8_at 35 = .ok (.istore 5, 2) := by decide +kernel
theorem dX8_at_37 : decode cX8_at 37 = .ok (.iload_n 3, 1) := by decide +kernel
theorem dX8_at_38 : decode cX8_at 38 = .ok (.ifCond .eq 71, 3) := by decide +kernel
theorem dX8_at_41 : decode cX8_at 41 = .ok (.aload_n 0, 1) := by decide +kernel
theorem dX8_at_42 : decode cX8_at 42 = .ok (.getfield 92, 3) := by decide +kernel
theorem dX8_at_45 : decode cX8_at 45 = .ok (.iload_n 1, 1) := by decide +kernel
theorem dX8_at_46 : decode cX8_at 46 = .ok (.iaload, 1) := by decide +kernel
theorem dX8_at_47 : decode cX8_at 47 = .ok (.iconst 2, 1) := by decide +kernel
theorem dX8_at_48 : decode cX8_at 48 = .ok (.if_icmp .ne 61, 3) := by decide +kernel
theorem dX8_at_51 : decode cX8_at 51 = .ok (.iload 5, 2) := by decide +kernel
theorem dX8_at_53 : decode cX8_at 53 = .ok (.aload_n 0, 1) := by decide +kernel
theorem dX8_at_54 : decode cX8_at 54 = .ok (.getfield 101, 3) := by decide +kernel
theorem dX8_at_57 : decode cX8_at 57 = .ok (.iload_n 1, 1) := by decide +kernel
theorem dX8_at_58 : decode cX8_at 58 = .ok (.iaload, 1) := by decide +kernel
theorem dX8_at_59 : decode cX8_at 59 = .ok (.aload_n 0, 1) := by decide +kernel
theorem dX8_at_60 : decode cX8_at 60 = .ok (.getfield 104, 3) := by decide +kernel
theorem dX8_at_63 : decode cX8_at 63 = .ok (.iload_n 1, 1) := by decide +kernel
theorem dX8_at_64 : decode cX8_at 64 = .ok (.iaload, 1) := by decide +kernel
theorem dX8_at_65 : decode cX8_at 65 = .ok (.iadd, 1) := by decide +kernel
theorem dX8_at_66 : decode cX8_at 66 = .ok (.if_icmp .ge 43, 3) := by decide +kernel
theorem dX8_at_69 : decode cX8_at 69 = .ok (.iload 4, 2) := by decide +kernel
theorem dX8_at_71 : decode cX8_at 71 = .ok (.ifCond .ne 25, 3) := by decide +kernel
theorem dX8_at_74 : decode cX8_at 74 = .ok (.iload_n 2, 1) := by decide +kernel
theorem dX8_at_75 : decode cX8_at 75 = .ok (.aload_n 0, 1) := by decide +kernel
theorem dX8_at_76 : decode cX8_at 76 = .ok (.getfield 107, 3) := by decide +kernel
theorem dX8_at_79 : decode cX8_at 79 = .ok (.iload 5, 2) := by decide +kernel
theorem dX8_at_81 : decode cX8_at 81 = .ok (.iaload, 1) := by decide +kernel
theorem dX8_at_82 : decode cX8_at 82 = .ok (.if_icmp .lt 18, 3) := by decide +kernel
theorem dX8_at_85 : decode cX8_at 85 = .ok (.iload_n 2, 1) := by decide +kernel
theorem dX8_at_86 : decode cX8_at 86 = .ok (.aload_n 0, 1) := by decide +kernel
theorem dX8_at_87 : decode cX8_at 87 = .ok (.getfield 110, 3) := by decide +kernel
theorem dX8_at_90 : decode cX8_at 90 = .ok (.iload 5, 2) := by decide +kernel
theorem dX8_at_92 : decode cX8_at 92 = .ok (.iaload, 1) := by decide +kernel
theorem dX8_at_93 : decode cX8_at 93 = .ok (.if_icmp .gt 7, 3) := by decide +kernel
theorem dX8_at_96 : decode cX8_at 96 = .ok (.iconst 1, 1) := by decide +kernel
theorem dX8_at_97 : decode cX8_at 97 = .ok (.goto 4, 3) := by decide +kernel
