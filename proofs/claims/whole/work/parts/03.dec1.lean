theorem dX6_value_7 : decode cX6_value 7 = .ok (.istore 6, 2) := by decide +kernel
theorem dX6_value_9 : decode cX6_value 9 = .ok (.iload 6, 2) := by decide +kernel
theorem dX6_value_11 : decode cX6_value 11 = .ok (.ifCond .lt 154, 3) := by decide +kernel
theorem dX6_value_14 : decode cX6_value 14 = .ok (.iload 6, 2) := by decide +kernel
theorem dX6_value_16 : decode cX6_value 16 = .ok (.aload_n 0, 1) := by decide +kernel
theorem dX6_value_17 : decode cX6_value 17 = .ok (.getfield 24, 3) := by decide +kernel
theorem dX6_value_20 : decode cX6_value 20 = .ok (.if_icmp .ge 145, 3) := by decide +kernel
theorem dX6_value_23 : decode cX6_value 23 = .ok (.iload 6, 2) := by decide +kernel
theorem dX6_value_25 : decode cX6_value 25 = .ok (.aload_n 0, 1) := by decide +kernel
theorem dX6_value_26 : decode cX6_value 26 = .ok (.getfield 13, 3) := by decide +kernel
theorem dX6_value_29 : decode cX6_value 29 = .ok (.arraylength, 1) := by decide +kernel
theorem dX6_value_30 : decode cX6_value 30 = .ok (.if_icmp .ge 135, 3) := by decide +kernel
theorem dX6_value_33 : decode cX6_value 33 = .ok (.aload_n 0, 1) := by decide +kernel
theorem dX6_value_34 : decode cX6_value 34 = .ok (.getfield 13, 3) := by decide +kernel
theorem dX6_value_37 : decode cX6_value 37 = .ok (.iload 6, 2) := by decide +kernel
theorem dX6_value_39 : decode cX6_value 39 = .ok (.iaload, 1) := by decide +kernel
theorem dX6_value_40 : decode cX6_value 40 = .ok (.istore 7, 2) := by decide +kernel
theorem dX6_value_42 : decode cX6_value 42 = .ok (.iload 7, 2) := by decide +kernel
theorem dX6_value_44 : decode cX6_value 44 = .ok (.bipush (-5), 2) := by decide +kernel
theorem dX6_value_46 : decode cX6_value 46 = .ok (.if_icmp .le 33, 3) := by decide +kernel
theorem dX6_value_49 : decode cX6_value 49 = .ok (.iload 5, 2) := by decide +kernel
theorem dX6_value_51 : decode cX6_value 51 = .ok (.bipush 32, 2) := by decide +kernel
theorem dX6_value_53 : decode cX6_value 53 = .ok (.if_icmp .ge 106, 3) := by decide +kernel
theorem dX6_value_56 : decode cX6_value 56 = .ok (.aload_n 0, 1) := by decide +kernel
theorem dX6_value_57 : decode cX6_value 57 = .ok (.getfield 9, 3) := by decide +kernel
theorem dX6_value_60 : decode cX6_value 60 = .ok (.iload 5, 2) := by decide +kernel
theorem dX6_value_62 : decode cX6_value 62 = .ok (.iload 7, 2) := by decide +kernel
theorem dX6_value_64 : decode cX6_value 64 = .ok (.iload_n 1, 1) := by decide +kernel
theorem dX6_value_65 : decode cX6_value 65 = .ok (.iload_n 2, 1) := by decide +kernel
theorem dX6_value_66 : decode cX6_value 66 = .ok (.iload_n 3, 1) := by decide +kernel
theorem dX6_value_67 : decode cX6_value 67 = .ok (.iload 4, 2) := by decide +kernel
theorem dX6_value_69 : decode cX6_value 69 = .ok (.invokestatic 27, 3) := by decide +kernel
theorem dX6_value_72 : decode cX6_value 72 = .ok (.iastore, 1) := by decide +kernel
theorem dX6_value_73 : decode cX6_value 73 = .ok (.iinc 5 1, 3) := by decide +kernel
theorem dX6_value_76 : decode cX6_value 76 = .ok (.goto 83, 3) := by decide +kernel
theorem dX6_value_79 : decode cX6_value 79 = .ok (.iload 7, 2) := by decide +kernel
theorem dX6_value_81 : decode cX6_value 81 = .ok (.bipush (-5), 2) := by decide +kernel
theorem dX6_value_83 : decode cX6_value 83 = .ok (.if_icmp .ne 37, 3) := by decide +kernel
theorem dX6_value_86 : decode cX6_value 86 = .ok (.iload 5, 2) := by decide +kernel
theorem dX6_value_88 : decode cX6_value 88 = .ok (.ifCond .le 71, 3) := by decide +kernel
theorem dX6_value_91 : decode cX6_value 91 = .ok (.aload_n 0, 1) := by decide +kernel
theorem dX6_value_92 : decode cX6_value 92 = .ok (.getfield 9, 3) := by decide +kernel
theorem dX6_value_95 : decode cX6_value 95 = .ok (.iload 5, 2) := by decide +kernel
theorem dX6_value_97 : decode cX6_value 97 = .ok (.iconst 1, 1) := by decide +kernel
theorem dX6_value_98 : decode cX6_value 98 = .ok (.isub, 1) := by decide +kernel
theorem dX6_value_99 : decode cX6_value 99 = .ok (.aload_n 0, 1) := by decide +kernel
theorem dX6_value_100 : decode cX6_value 100 = .ok (.getfield 9, 3) := by decide +kernel
theorem dX6_value_103 : decode cX6_value 103 = .ok (.iload 5, 2) := by decide +kernel
theorem dX6_value_105 : decode cX6_value 105 = .ok (.iconst 1, 1) := by decide +kernel
theorem dX6_value_106 : decode cX6_value 106 = .ok (.isub, 1) := by decide +kernel
theorem dX6_value_107 : decode cX6_value 107 = .ok (.iaload, 1) := by decide +kernel
theorem dX6_value_108 : decode cX6_value 108 = .ok (.ifCond .ne 7, 3) := by decide +kernel
theorem dX6_value_111 : decode cX6_value 111 = .ok (.iconst 1, 1) := by decide +kernel
theorem dX6_value_112 : decode cX6_value 112 = .ok (.goto 4, 3) := by decide +kernel
theorem dX6_value_115 : decode cX6_value 115 = .ok (.iconst 0, 1) := by decide +kernel
theorem dX6_value_116 : decode cX6_value 116 = .ok (.iastore, 1) := by decide +kernel
theorem dX6_value_117 : decode cX6_value 117 = .ok (.goto 42, 3) := by decide +kernel
theorem dX6_value_120 : decode cX6_value 120 = .ok (.iload 5, 2) := by decide +kernel
theorem dX6_value_122 : decode cX6_value 122 = .ok (.iconst 1, 1) := by decide +kernel
theorem dX6_value_123 : decode cX6_value 123 = .ok (.if_icmp .le 36, 3) := by decide +kernel
theorem dX6_value_126 : decode cX6_value 126 = .ok (.iinc 5 (-1), 3) := by decide +kernel
theorem dX6_value_129 : decode cX6_value 129 = .ok (.aload_n 0, 1) := by decide +kernel
theorem dX6_value_130 : decode cX6_value 130 = .ok (.getfield 9, 3) := by decide +kernel
theorem dX6_value_133 : decode cX6_value 133 = .ok (.iload 5, 2) := by decide +kernel
theorem dX6_value_135 : decode cX6_value 135 = .ok (.iconst 1, 1) := by decide +kernel
theorem dX6_value_136 : decode cX6_value 136 = .ok (.isub, 1) := by decide +kernel
theorem dX6_value_137 : decode cX6_value 137 = .ok (.iload 7, 2) := by decide +kernel
theorem dX6_value_139 : decode cX6_value 139 = .ok (.aload_n 0, 1) := by decide +kernel
theorem dX6_value_140 : decode cX6_value 140 = .ok (.getfield 9, 3) := by decide +kernel
theorem dX6_value_143 : decode cX6_value 143 = .ok (.iload 5, 2) := by decide +kernel
theorem dX6_value_145 : decode cX6_value 145 = .ok (.iconst 1, 1) := by decide +kernel
theorem dX6_value_146 : decode cX6_value 146 = .ok (.isub, 1) := by decide +kernel
theorem dX6_value_147 : decode cX6_value 147 = .ok (.iaload, 1) := by decide +kernel
theorem dX6_value_148 : decode cX6_value 148 = .ok (.aload_n 0, 1) := by decide +kernel
theorem dX6_value_149 : decode cX6_value 149 = .ok (.getfield 9, 3) := by decide +kernel
theorem dX6_value_152 : decode cX6_value 152 = .ok (.iload 5, 2) := by decide +kernel
theorem dX6_value_154 : decode cX6_value 154 = .ok (.iaload, 1) := by decide +kernel
theorem dX6_value_155 : decode cX6_value 155 = .ok (.invokestatic 31, 3) := by decide +kernel
theorem dX6_value_158 : decode cX6_value 158 = .ok (.iastore, 1) := by decide +kernel
theorem dX6_value_159 : decode cX6_value 159 = .ok (.iinc 6 1, 3) := by decide +kernel
theorem dX6_value_162 : decode cX6_value 162 = .ok (.goto (-153), 3) := by decide +kernel
theorem dX6_value_165 : decode cX6_value 165 = .ok (.iload 5, 2) := by decide +kernel
theorem dX6_value_167 : decode cX6_value 167 = .ok (.ifCond .le 12, 3) := by decide +kernel
theorem dX6_value_170 : decode cX6_value 170 = .ok (.aload_n 0, 1) := by decide +kernel
theorem dX6_value_171 : decode cX6_value 171 = .ok (.getfield 9, 3) := by decide +kernel
theorem dX6_value_174 : decode cX6_value 174 = .ok (.iconst 0, 1) := by decide +kernel
theorem dX6_value_175 : decode cX6_value 175 = .ok (.iaload, 1) := by decide +kernel
theorem dX6_value_176 : decode cX6_value 176 = .ok (.goto 4, 3) := by decide +kernel
theorem dX6_value_179 : decode cX6_value 179 = .ok (.iconst 0, 1) := by decide +kernel
theorem dX6_value_180 : decode cX6_value 180 = .ok (.ireturn, 1) := by decide +kernel
theorem dX6_laid_0 : decode cX6_laid 0 = .ok (.iload_n 0, 1) := by decide +kernel
theorem dX6_laid_1 : decode cX6_laid 1 = .ok (.tableswitch 40 (-4) (-1) #[37, 35, 33, 31], 31) := by decide +kernel
theorem dX6_laid_32 : decode cX6_laid 32 = .ok (.iload_n 1, 1) := by decide +kernel
theorem dX6_laid_33 : decode cX6_laid 33 = .ok (.ireturn, 1) := by decide +kernel
theorem dX6_laid_34 : decode cX6_laid 34 = .ok (.iload_n 2, 1) := by decide +kernel
theorem dX6_laid_35 : decode cX6_laid 35 = .ok (.ireturn, 1) := by decide +kernel
theorem dX6_laid_36 : decode cX6_laid 36 = .ok (.iload_n 3, 1) := by decide +kernel
theorem dX6_laid_37 : decode cX6_laid 37 = .ok (.ireturn, 1) := by decide +kernel
theorem dX6_laid_38 : decode cX6_laid 38 = .ok (.iload 4, 2) := by decide +kernel
theorem dX6_laid_40 : decode cX6_laid 40 = .ok (.ireturn, 1) := by decide +kernel
theorem dX6_laid_41 : decode cX6_laid 41 = .ok (.iload_n 0, 1) := by decide +kernel
theorem dX6_laid_42 : decode cX6_laid 42 = .ok (.ireturn, 1) := by decide +kernel
theorem dX6_joined_0 : decode cX6_joined 0 = .ok (.iload_n 0, 1) := by decide +kernel
theorem dX6_joined_1 : decode cX6_joined 1 = .ok (.tableswitch 87 (-11) (-6) #[73, 62, 51, 47, 43, 39], 39) := by decide +kernel
theorem dX6_joined_40 : decode cX6_joined 40 = .ok (.iload_n 1, 1) := by decide +kernel
theorem dX6_joined_41 : decode cX6_joined 41 = .ok (.iload_n 2, 1) := by decide +kernel
theorem dX6_joined_42 : decode cX6_joined 42 = .ok (.imul, 1) := by decide +kernel
theorem dX6_joined_43 : decode cX6_joined 43 = .ok (.ireturn, 1) := by decide +kernel
theorem dX6_joined_44 : decode cX6_joined 44 = .ok (.iload_n 1, 1) := by decide +kernel
theorem dX6_joined_45 : decode cX6_joined 45 = .ok (.iload_n 2, 1) := by decide +kernel
theorem dX6_joined_46 : decode cX6_joined 46 = .ok (.iadd, 1) := by decide +kernel
theorem dX6_joined_47 : decode cX6_joined 47 = .ok (.ireturn, 1) := by decide +kernel
theorem dX6_joined_48 : decode cX6_joined 48 = .ok (.iload_n 1, 1) := by decide +kernel
theorem dX6_joined_49 : decode cX6_joined 49 = .ok (.iload_n 2, 1) := by decide +kernel
theorem dX6_joined_50 : decode cX6_joined 50 = .ok (.isub, 1) := by decide +kernel
theorem dX6_joined_51 : decode cX6_joined 51 = .ok (.ireturn, 1) := by decide +kernel
theorem dX6_joined_52 : decode cX6_joined 52 = .ok (.iload_n 1, 1) := by decide +kernel
theorem dX6_joined_53 : decode cX6_joined 53 = .ok (.iload_n 2, 1) := by decide +kernel
theorem dX6_joined_54 : decode cX6_joined 54 = .ok (.if_icmp .ge 7, 3) := by decide +kernel
theorem dX6_joined_57 : decode cX6_joined 57 = .ok (.iconst 1, 1) := by decide +kernel
theorem dX6_joined_58 : decode cX6_joined 58 = .ok (.goto 4, 3) := by decide +kernel
theorem dX6_joined_61 : decode cX6_joined 61 = .ok (.iconst 0, 1) := by decide +kernel
theorem dX6_joined_62 : decode cX6_joined 62 = .ok (.ireturn, 1) := by decide +kernel
theorem dX6_joined_63 : decode cX6_joined 63 = .ok (.iload_n 1, 1) := by decide +kernel
theorem dX6_joined_64 : decode cX6_joined 64 = .ok (.iload_n 2, 1) := by decide +kernel
theorem dX6_joined_65 : decode cX6_joined 65 = .ok (.if_icmp .ne 7, 3) := by decide +kernel
theorem dX6_joined_68 : decode cX6_joined 68 = .ok (.iconst 1, 1) := by decide +kernel
theorem dX6_joined_69 : decode cX6_joined 69 = .ok (.goto 4, 3) := by decide +kernel
theorem dX6_joined_72 : decode cX6_joined 72 = .ok (.iconst 0, 1) := by decide +kernel
theorem dX6_joined_73 : decode cX6_joined 73 = .ok (.ireturn, 1) := by decide +kernel
theorem dX6_joined_74 : decode cX6_joined 74 = .ok (.iload_n 1, 1) := by decide +kernel
theorem dX6_joined_75 : decode cX6_joined 75 = .ok (.ifCond .eq 11, 3) := by decide +kernel
theorem dX6_joined_78 : decode cX6_joined 78 = .ok (.iload_n 2, 1) := by decide +kernel
theorem dX6_joined_79 : decode cX6_joined 79 = .ok (.ifCond .eq 7, 3) := by decide +kernel
theorem dX6_joined_82 : decode cX6_joined 82 = .ok (.iconst 1, 1) := by decide +kernel
theorem dX6_joined_83 : decode cX6_joined 83 = .ok (.goto 4, 3) := by decide +kernel
theorem dX6_joined_86 : decode cX6_joined 86 = .ok (.iconst 0, 1) := by decide +kernel
theorem dX6_joined_87 : decode cX6_joined 87 = .ok (.ireturn, 1) := by decide +kernel
theorem dX6_joined_88 : decode cX6_joined 88 = .ok (.iload_n 1, 1) := by decide +kernel
theorem dX6_joined_89 : decode cX6_joined 89 = .ok (.ifCond .ne 7, 3) := by decide +kernel
theorem dX6_joined_92 : decode cX6_joined 92 = .ok (.iload_n 2, 1) := by decide +kernel
theorem dX6_joined_93 : decode cX6_joined 93 = .ok (.ifCond .eq 7, 3) := by decide +kernel
theorem dX6_joined_96 : decode cX6_joined 96 = .ok (.iconst 1, 1) := by decide +kernel
theorem dX6_joined_97 : decode cX6_joined 97 = .ok (.goto 4, 3) := by decide +kernel
theorem dX6_joined_100 : decode cX6_joined 100 = .ok (.iconst 0, 1) := by decide +kernel
theorem dX6_joined_101 : decode cX6_joined 101 = .ok (.ireturn, 1) := by decide +kernel
theorem dX7_init_0 : decode cX7_init 0 = .ok (.aload_n 0, 1) := by decide +kernel
theorem dX7_init_1 : decode cX7_init 1 = .ok (.invokespecial 3, 3) := by decide +kernel
theorem dX7_init_4 : decode cX7_init 4 = .ok (.aload_n 0, 1) := by decide +kernel
theorem dX7_init_5 : decode cX7_init 5 = .ok (.aload_n 1, 1) := by decide +kernel
theorem dX7_init_6 : decode cX7_init 6 = .ok (.putfield 9, 3) := by decide +kernel
theorem dX7_init_9 : decode cX7_init 9 = .ok (.aload_n 0, 1) := by decide +kernel
theorem dX7_init_10 : decode cX7_init 10 = .ok (.aload_n 2, 1) := by decide +kernel
theorem dX7_init_11 : decode cX7_init 11 = .ok (.putfield 15, 3) := by decide +kernel
theorem dX7_init_14 : decode cX7_init 14 = .ok (.return_, 1) := by decide +kernel
theorem dX7_readLevel_0 : decode cX7_readLevel 0 = .ok (.iload_n 1, 1) := by decide +kernel
theorem dX7_readLevel_1 : decode cX7_readLevel 1 = .ok (.iconst 4, 1) := by decide +kernel
theorem dX7_readLevel_2 : decode cX7_readLevel 2 = .ok (.if_icmp .lt 9, 3) := by decide +kernel
theorem dX7_readLevel_5 : decode cX7_readLevel 5 = .ok (.aload_n 0, 1) := by decide +kernel
theorem dX7_readLevel_6 : decode cX7_readLevel 6 = .ok (.iload_n 2, 1) := by decide +kernel
theorem dX7_readLevel_7 : decode cX7_readLevel 7 = .ok (.invokevirtual 19, 3) := by decide +kernel
theorem dX7_readLevel_10 : decode cX7_readLevel 10 = .ok (.ireturn, 1) := by decide +kernel
theorem dX7_readLevel_11 : decode cX7_readLevel 11 = .ok (.aload_n 0, 1) := by decide +kernel
theorem dX7_readLevel_12 : decode cX7_readLevel 12 = .ok (.iload_n 1, 1) := by decide +kernel
theorem dX7_readLevel_13 : decode cX7_readLevel 13 = .ok (.iconst 1, 1) := by decide +kernel
theorem dX7_readLevel_14 : decode cX7_readLevel 14 = .ok (.iadd, 1) := by decide +kernel
theorem dX7_readLevel_15 : decode cX7_readLevel 15 = .ok (.iload_n 2, 1) := by decide +kernel
theorem dX7_readLevel_16 : decode cX7_readLevel 16 = .ok (.invokevirtual 23, 3) := by decide +kernel
theorem dX7_readLevel_19 : decode cX7_readLevel 19 = .ok (.ifCond .ne 5, 3) := by decide +kernel
theorem dX7_readLevel_22 : decode cX7_readLevel 22 = .ok (.iconst 0, 1) := by decide +kernel
theorem dX7_readLevel_23 : decode cX7_readLevel 23 = .ok (.ireturn, 1) := by decide +kernel
theorem dX7_readLevel_24 : decode cX7_readLevel 24 = .ok (.aload_n 0, 1) := by decide +kernel
theorem dX7_readLevel_25 : decode cX7_readLevel 25 = .ok (.iload_n 1, 1) := by decide +kernel
theorem dX7_readLevel_26 : decode cX7_readLevel 26 = .ok (.invokevirtual 27, 3) := by decide +kernel
theorem dX7_readLevel_29 : decode cX7_readLevel 29 = .ok (.istore_n 3, 1) := by decide +kernel
theorem dX7_readLevel_30 : decode cX7_readLevel 30 = .ok (.iconst 0, 1) := by decide +kernel
theorem dX7_readLevel_31 : decode cX7_readLevel 31 = .ok (.istore 4, 2) := by decide +kernel
theorem dX7_readLevel_33 : decode cX7_readLevel 33 = .ok (.iload 4, 2) := by decide +kernel
theorem dX7_readLevel_35 : decode cX7_readLevel 35 = .ok (.sipush 1000, 3) := by decide +kernel
theorem dX7_readLevel_38 : decode cX7_readLevel 38 = .ok (.if_icmp .ge 57, 3) := by decide +kernel
theorem dX7_readLevel_41 : decode cX7_readLevel 41 = .ok (.iload_n 3, 1) := by decide +kernel
theorem dX7_readLevel_42 : decode cX7_readLevel 42 = .ok (.ifCond .eq 53, 3) := by decide +kernel
theorem dX7_readLevel_45 : decode cX7_readLevel 45 = .ok (.aload_n 0, 1) := by decide +kernel
theorem dX7_readLevel_46 : decode cX7_readLevel 46 = .ok (.getfield 9, 3) := by decide +kernel
theorem dX7_readLevel_49 : decode cX7_readLevel 49 = .ok (.invokevirtual 31, 3) := by decide +kernel
theorem dX7_readLevel_52 : decode cX7_readLevel 52 = .ok (.pop, 1) := by decide +kernel
theorem dX7_readLevel_53 : decode cX7_readLevel 53 = .ok (.aload_n 0, 1) := by decide +kernel
theorem dX7_readLevel_54 : decode cX7_readLevel 54 = .ok (.iload_n 1, 1) := by decide +kernel
theorem dX7_readLevel_55 : decode cX7_readLevel 55 = .ok (.iconst 1, 1) := by decide +kernel
theorem dX7_readLevel_56 : decode cX7_readLevel 56 = .ok (.iadd, 1) := by decide +kernel
theorem dX7_readLevel_57 : decode cX7_readLevel 57 = .ok (.iload_n 2, 1) := by decide +kernel
theorem dX7_readLevel_58 : decode cX7_readLevel 58 = .ok (.invokevirtual 23, 3) := by decide +kernel
theorem dX7_readLevel_61 : decode cX7_readLevel 61 = .ok (.ifCond .ne 5, 3) := by decide +kernel
theorem dX7_readLevel_64 : decode cX7_readLevel 64 = .ok (.iconst 0, 1) := by decide +kernel
theorem dX7_readLevel_65 : decode cX7_readLevel 65 = .ok (.ireturn, 1) := by decide +kernel
theorem dX7_readLevel_66 : decode cX7_readLevel 66 = .ok (.aload_n 0, 1) := by decide +kernel
theorem dX7_readLevel_67 : decode cX7_readLevel 67 = .ok (.getfield 15, 3) := by decide +kernel
theorem dX7_readLevel_70 : decode cX7_readLevel 70 = .ok (.iload_n 3, 1) := by decide +kernel
theorem dX7_readLevel_71 : decode cX7_readLevel 71 = .ok (.invokevirtual 37, 3) := by decide +kernel
theorem dX7_readLevel_74 : decode cX7_readLevel 74 = .ok (.iload_n 1, 1) := by decide +kernel
theorem dX7_readLevel_75 : decode cX7_readLevel 75 = .ok (.iconst 1, 1) := by decide +kernel
theorem dX7_readLevel_76 : decode cX7_readLevel 76 = .ok (.if_icmp .ne 7, 3) := by decide +kernel
theorem dX7_readLevel_79 : decode cX7_readLevel 79 = .ok (.iconst 0, 1) := by decide +kernel
theorem dX7_readLevel_80 : decode cX7_readLevel 80 = .ok (.goto 8, 3) := by decide +kernel
theorem dX7_readLevel_83 : decode cX7_readLevel 83 = .ok (.aload_n 0, 1) := by decide +kernel
theorem dX7_readLevel_84 : decode cX7_readLevel 84 = .ok (.iload_n 1, 1) := by decide +kernel
theorem dX7_readLevel_85 : decode cX7_readLevel 85 = .ok (.invokevirtual 27, 3) := by decide +kernel
theorem dX7_readLevel_88 : decode cX7_readLevel 88 = .ok (.istore_n 3, 1) := by decide +kernel
theorem dX7_readLevel_89 : decode cX7_readLevel 89 = .ok (.iinc 4 1, 3) := by decide +kernel
theorem dX7_readLevel_92 : decode cX7_readLevel 92 = .ok (.goto (-59), 3) := by decide +kernel
theorem dX7_readLevel_95 : decode cX7_readLevel 95 = .ok (.iconst 1, 1) := by decide +kernel
theorem dX7_readLevel_96 : decode cX7_readLevel 96 = .ok (.ireturn, 1) := by decide +kernel
theorem dX7_stepHere_0 : decode cX7_stepHere 0 = .ok (.iload_n 1, 1) := by decide +kernel
theorem dX7_stepHere_1 : decode cX7_stepHere 1 = .ok (.tableswitch 135 0 2 #[27, 63, 99], 27) := by decide +kernel
theorem dX7_stepHere_28 : decode cX7_stepHere 28 = .ok (.aload_n 0, 1) := by decide +kernel
theorem dX7_stepHere_29 : decode cX7_stepHere 29 = .ok (.getfield 9, 3) := by decide +kernel
theorem dX7_stepHere_32 : decode cX7_stepHere 32 = .ok (.getfield 43, 3) := by decide +kernel
theorem dX7_stepHere_35 : decode cX7_stepHere 35 = .ok (.bipush 18, 2) := by decide +kernel
theorem dX7_stepHere_37 : decode cX7_stepHere 37 = .ok (.if_icmp .ne 8, 3) := by decide +kernel
theorem dX7_stepHere_40 : decode cX7_stepHere 40 = .ok (.bipush (-11), 2) := by decide +kernel
theorem dX7_stepHere_42 : decode cX7_stepHere 42 = .ok (.goto 21, 3) := by decide +kernel
theorem dX7_stepHere_45 : decode cX7_stepHere 45 = .ok (.aload_n 0, 1) := by decide +kernel
theorem dX7_stepHere_46 : decode cX7_stepHere 46 = .ok (.getfield 9, 3) := by decide +kernel
theorem dX7_stepHere_49 : decode cX7_stepHere 49 = .ok (.getfield 43, 3) := by decide +kernel
theorem dX7_stepHere_52 : decode cX7_stepHere 52 = .ok (.bipush 19, 2) := by decide +kernel
theorem dX7_stepHere_54 : decode cX7_stepHere 54 = .ok (.if_icmp .ne 8, 3) := by decide +kernel
theorem dX7_stepHere_57 : decode cX7_stepHere 57 = .ok (.bipush (-12), 2) := by decide +kernel
theorem dX7_stepHere_59 : decode cX7_stepHere 59 = .ok (.goto 4, 3) := by decide +kernel
theorem dX7_stepHere_62 : decode cX7_stepHere 62 = .ok (.iconst 0, 1) := by decide +kernel
theorem dX7_stepHere_63 : decode cX7_stepHere 63 = .ok (.ireturn, 1) := by decide +kernel
theorem dX7_stepHere_64 : decode cX7_stepHere 64 = .ok (.aload_n 0, 1) := by decide +kernel
theorem dX7_stepHere_65 : decode cX7_stepHere 65 = .ok (.getfield 9, 3) := by decide +kernel
theorem dX7_stepHere_68 : decode cX7_stepHere 68 = .ok (.getfield 49, 3) := by decide +kernel
theorem dX7_stepHere_71 : decode cX7_stepHere 71 = .ok (.bipush 60, 2) := by decide +kernel
theorem dX7_stepHere_73 : decode cX7_stepHere 73 = .ok (.if_icmp .ne 8, 3) := by decide +kernel
theorem dX7_stepHere_76 : decode cX7_stepHere 76 = .ok (.bipush (-9), 2) := by decide +kernel
theorem dX7_stepHere_78 : decode cX7_stepHere 78 = .ok (.goto 21, 3) := by decide +kernel
theorem dX7_stepHere_81 : decode cX7_stepHere 81 = .ok (.aload_n 0, 1) := by decide +kernel
theorem dX7_stepHere_82 : decode cX7_stepHere 82 = .ok (.getfield 9, 3) := by decide +kernel
theorem dX7_stepHere_85 : decode cX7_stepHere 85 = .ok (.getfield 49, 3) := by decide +kernel
theorem dX7_stepHere_88 : decode cX7_stepHere 88 = .ok (.bipush 61, 2) := by decide +kernel
theorem dX7_stepHere_90 : decode cX7_stepHere 90 = .ok (.if_icmp .ne 8, 3) := by decide +kernel
theorem dX7_stepHere_93 : decode cX7_stepHere 93 = .ok (.bipush (-10), 2) := by decide +kernel
theorem dX7_stepHere_95 : decode cX7_stepHere 95 = .ok (.goto 4, 3) := by decide +kernel
theorem dX7_stepHere_98 : decode cX7_stepHere 98 = .ok (.iconst 0, 1) := by decide +kernel
theorem dX7_stepHere_99 : decode cX7_stepHere 99 = .ok (.ireturn, 1) := by decide +kernel
theorem dX7_stepHere_100 : decode cX7_stepHere 100 = .ok (.aload_n 0, 1) := by decide +kernel
theorem dX7_stepHere_101 : decode cX7_stepHere 101 = .ok (.getfield 9, 3) := by decide +kernel
theorem dX7_stepHere_104 : decode cX7_stepHere 104 = .ok (.getfield 49, 3) := by decide +kernel
theorem dX7_stepHere_107 : decode cX7_stepHere 107 = .ok (.bipush 43, 2) := by decide +kernel
theorem dX7_stepHere_109 : decode cX7_stepHere 109 = .ok (.if_icmp .ne 8, 3) := by decide +kernel
theorem dX7_stepHere_112 : decode cX7_stepHere 112 = .ok (.bipush (-7), 2) := by decide +kernel
theorem dX7_stepHere_114 : decode cX7_stepHere 114 = .ok (.goto 21, 3) := by decide +kernel
theorem dX7_stepHere_117 : decode cX7_stepHere 117 = .ok (.aload_n 0, 1) := by decide +kernel
theorem dX7_stepHere_118 : decode cX7_stepHere 118 = .ok (.getfield 9, 3) := by decide +kernel
theorem dX7_stepHere_121 : decode cX7_stepHere 121 = .ok (.getfield 49, 3) := by decide +kernel
theorem dX7_stepHere_124 : decode cX7_stepHere 124 = .ok (.bipush 45, 2) := by decide +kernel
theorem dX7_stepHere_126 : decode cX7_stepHere 126 = .ok (.if_icmp .ne 8, 3) := by decide +kernel
theorem dX7_stepHere_129 : decode cX7_stepHere 129 = .ok (.bipush (-8), 2) := by decide +kernel
theorem dX7_stepHere_131 : decode cX7_stepHere 131 = .ok (.goto 4, 3) := by decide +kernel
theorem dX7_stepHere_134 : decode cX7_stepHere 134 = .ok (.iconst 0, 1) := by decide +kernel
theorem dX7_stepHere_135 : decode cX7_stepHere 135 = .ok (.ireturn, 1) := by decide +kernel
theorem dX7_stepHere_136 : decode cX7_stepHere 136 = .ok (.aload_n 0, 1) := by decide +kernel
theorem dX7_stepHere_137 : decode cX7_stepHere 137 = .ok (.getfield 9, 3) := by decide +kernel
theorem dX7_stepHere_140 : decode cX7_stepHere 140 = .ok (.getfield 49, 3) := by decide +kernel
theorem dX7_stepHere_143 : decode cX7_stepHere 143 = .ok (.bipush 42, 2) := by decide +kernel
theorem dX7_stepHere_145 : decode cX7_stepHere 145 = .ok (.if_icmp .ne 8, 3) := by decide +kernel
theorem dX7_stepHere_148 : decode cX7_stepHere 148 = .ok (.bipush (-6), 2) := by decide +kernel
theorem dX7_stepHere_150 : decode cX7_stepHere 150 = .ok (.goto 4, 3) := by decide +kernel
theorem dX7_stepHere_153 : decode cX7_stepHere 153 = .ok (.iconst 0, 1) := by decide +kernel
theorem dX7_stepHere_154 : decode cX7_stepHere 154 = .ok (.ireturn, 1) := by decide +kernel
theorem dX7_readPart_0 : decode cX7_readPart 0 = .ok (.aload_n 0, 1) := by decide +kernel
theorem dX7_readPart_1 : decode cX7_readPart 1 = .ok (.invokevirtual 52, 3) := by decide +kernel
theorem dX7_readPart_4 : decode cX7_readPart 4 = .ok (.istore_n 2, 1) := by decide +kernel
theorem dX7_readPart_5 : decode cX7_readPart 5 = .ok (.aload_n 0, 1) := by decide +kernel
theorem dX7_readPart_6 : decode cX7_readPart 6 = .ok (.getfield 9, 3) := by decide +kernel
theorem dX7_readPart_9 : decode cX7_readPart 9 = .ok (.getfield 43, 3) := by decide +kernel
theorem dX7_readPart_12 : decode cX7_readPart 12 = .ok (.bipush 17, 2) := by decide +kernel
theorem dX7_readPart_14 : decode cX7_readPart 14 = .ok (.if_icmp .ne 7, 3) := by decide +kernel
theorem dX7_readPart_17 : decode cX7_readPart 17 = .ok (.iconst 1, 1) := by decide +kernel
theorem dX7_readPart_18 : decode cX7_readPart 18 = .ok (.goto 4, 3) := by decide +kernel
theorem dX7_readPart_21 : decode cX7_readPart 21 = .ok (.iconst 0, 1) := by decide +kernel
theorem dX7_readPart_22 : decode cX7_readPart 22 = .ok (.istore_n 3, 1) := by decide +kernel
theorem dX7_readPart_23 : decode cX7_readPart 23 = .ok (.aload_n 0, 1) := by decide +kernel
theorem dX7_readPart_24 : decode cX7_readPart 24 = .ok (.getfield 9, 3) := by decide +kernel
theorem dX7_readPart_27 : decode cX7_readPart 27 = .ok (.getfield 49, 3) := by decide +kernel
theorem dX7_readPart_30 : decode cX7_readPart 30 = .ok (.iconst 3, 1) := by decide +kernel
theorem dX7_readPart_31 : decode cX7_readPart 31 = .ok (.if_icmp .eq 32, 3) := by decide +kernel
theorem dX7_readPart_34 : decode cX7_readPart 34 = .ok (.aload_n 0, 1) := by decide +kernel
theorem dX7_readPart_35 : decode cX7_readPart 35 = .ok (.getfield 9, 3) := by decide +kernel
theorem dX7_readPart_38 : decode cX7_readPart 38 = .ok (.getfield 49, 3) := by decide +kernel
theorem dX7_readPart_41 : decode cX7_readPart 41 = .ok (.bipush 40, 2) := by decide +kernel
theorem dX7_readPart_43 : decode cX7_readPart 43 = .ok (.if_icmp .eq 20, 3) := by decide +kernel
theorem dX7_readPart_46 : decode cX7_readPart 46 = .ok (.iload_n 3, 1) := by decide +kernel
theorem dX7_readPart_47 : decode cX7_readPart 47 = .ok (.ifCond .ne 16, 3) := by decide +kernel
theorem dX7_readPart_50 : decode cX7_readPart 50 = .ok (.iload_n 2, 1) := by decide +kernel
theorem dX7_readPart_51 : decode cX7_readPart 51 = .ok (.ifCond .ne 12, 3) := by decide +kernel
theorem dX7_readPart_54 : decode cX7_readPart 54 = .ok (.aload_n 0, 1) := by decide +kernel
theorem dX7_readPart_55 : decode cX7_readPart 55 = .ok (.getfield 9, 3) := by decide +kernel
theorem dX7_readPart_58 : decode cX7_readPart 58 = .ok (.iconst 1, 1) := by decide +kernel
theorem dX7_readPart_59 : decode cX7_readPart 59 = .ok (.invokevirtual 58, 3) := by decide +kernel
theorem dX7_readPart_62 : decode cX7_readPart 62 = .ok (.ireturn, 1) := by decide +kernel
theorem dX7_readPart_63 : decode cX7_readPart 63 = .ok (.iload_n 1, 1) := by decide +kernel
theorem dX7_readPart_64 : decode cX7_readPart 64 = .ok (.iconst 5, 1) := by decide +kernel
theorem dX7_readPart_65 : decode cX7_readPart 65 = .ok (.if_icmp .lt 12, 3) := by decide +kernel
theorem dX7_readPart_68 : decode cX7_readPart 68 = .ok (.aload_n 0, 1) := by decide +kernel
theorem dX7_readPart_69 : decode cX7_readPart 69 = .ok (.getfield 9, 3) := by decide +kernel
theorem dX7_readPart_72 : decode cX7_readPart 72 = .ok (.iconst 5, 1) := by decide +kernel
theorem dX7_readPart_73 : decode cX7_readPart 73 = .ok (.invokevirtual 58, 3) := by decide +kernel
theorem dX7_readPart_76 : decode cX7_readPart 76 = .ok (.ireturn, 1) := by decide +kernel
theorem dX7_readPart_77 : decode cX7_readPart 77 = .ok (.iload_n 3, 1) := by decide +kernel
theorem dX7_readPart_78 : decode cX7_readPart 78 = .ok (.ifCond .eq 34, 3) := by decide +kernel
theorem dX7_readPart_81 : decode cX7_readPart 81 = .ok (.aload_n 0, 1) := by decide +kernel
theorem dX7_readPart_82 : decode cX7_readPart 82 = .ok (.getfield 9, 3) := by decide +kernel
theorem dX7_readPart_85 : decode cX7_readPart 85 = .ok (.invokevirtual 31, 3) := by decide +kernel
theorem dX7_readPart_88 : decode cX7_readPart 88 = .ok (.pop, 1) := by decide +kernel
theorem dX7_readPart_89 : decode cX7_readPart 89 = .ok (.aload_n 0, 1) := by decide +kernel
theorem dX7_readPart_90 : decode cX7_readPart 90 = .ok (.iload_n 1, 1) := by decide +kernel
theorem dX7_readPart_91 : decode cX7_readPart 91 = .ok (.iconst 1, 1) := by decide +kernel
theorem dX7_readPart_92 : decode cX7_readPart 92 = .ok (.iadd, 1) := by decide +kernel
theorem dX7_readPart_93 : decode cX7_readPart 93 = .ok (.invokevirtual 19, 3) := by decide +kernel
theorem dX7_readPart_96 : decode cX7_readPart 96 = .ok (.ifCond .ne 5, 3) := by decide +kernel
theorem dX7_readPart_99 : decode cX7_readPart 99 = .ok (.iconst 0, 1) := by decide +kernel
theorem dX7_readPart_100 : decode cX7_readPart 100 = .ok (.ireturn, 1) := by decide +kernel
theorem dX7_readPart_101 : decode cX7_readPart 101 = .ok (.aload_n 0, 1) := by decide +kernel
theorem dX7_readPart_102 : decode cX7_readPart 102 = .ok (.getfield 15, 3) := by decide +kernel
theorem dX7_readPart_105 : decode cX7_readPart 105 = .ok (.bipush (-5), 2) := by decide +kernel
theorem dX7_readPart_107 : decode cX7_readPart 107 = .ok (.invokevirtual 37, 3) := by decide +kernel
theorem dX7_readPart_110 : decode cX7_readPart 110 = .ok (.iconst 1, 1) := by decide +kernel
theorem dX7_readPart_111 : decode cX7_readPart 111 = .ok (.ireturn, 1) := by decide +kernel
theorem dX7_readPart_112 : decode cX7_readPart 112 = .ok (.aload_n 0, 1) := by decide +kernel
theorem dX7_readPart_113 : decode cX7_readPart 113 = .ok (.getfield 9, 3) := by decide +kernel
theorem dX7_readPart_116 : decode cX7_readPart 116 = .ok (.getfield 49, 3) := by decide +kernel
theorem dX7_readPart_119 : decode cX7_readPart 119 = .ok (.bipush 40, 2) := by decide +kernel
theorem dX7_readPart_121 : decode cX7_readPart 121 = .ok (.if_icmp .ne 55, 3) := by decide +kernel
theorem dX7_readPart_124 : decode cX7_readPart 124 = .ok (.aload_n 0, 1) := by decide +kernel
theorem dX7_readPart_125 : decode cX7_readPart 125 = .ok (.getfield 9, 3) := by decide +kernel
theorem dX7_readPart_128 : decode cX7_readPart 128 = .ok (.invokevirtual 31, 3) := by decide +kernel
theorem dX7_readPart_131 : decode cX7_readPart 131 = .ok (.pop, 1) := by decide +kernel
theorem dX7_readPart_132 : decode cX7_readPart 132 = .ok (.aload_n 0, 1) := by decide +kernel
theorem dX7_readPart_133 : decode cX7_readPart 133 = .ok (.iconst 0, 1) := by decide +kernel
theorem dX7_readPart_134 : decode cX7_readPart 134 = .ok (.iload_n 1, 1) := by decide +kernel
theorem dX7_readPart_135 : decode cX7_readPart 135 = .ok (.iconst 1, 1) := by decide +kernel
theorem dX7_readPart_136 : decode cX7_readPart 136 = .ok (.iadd, 1) := by decide +kernel
theorem dX7_readPart_137 : decode cX7_readPart 137 = .ok (.invokevirtual 23, 3) := by decide +kernel
theorem dX7_readPart_140 : decode cX7_readPart 140 = .ok (.ifCond .ne 5, 3) := by decide +kernel
theorem dX7_readPart_143 : decode cX7_readPart 143 = .ok (.iconst 0, 1) := by decide +kernel
theorem dX7_readPart_144 : decode cX7_readPart 144 = .ok (.ireturn, 1) := by decide +kernel
theorem dX7_readPart_145 : decode cX7_readPart 145 = .ok (.aload_n 0, 1) := by decide +kernel
theorem dX7_readPart_146 : decode cX7_readPart 146 = .ok (.getfield 9, 3) := by decide +kernel
theorem dX7_readPart_149 : decode cX7_readPart 149 = .ok (.getfield 49, 3) := by decide +kernel
theorem dX7_readPart_152 : decode cX7_readPart 152 = .ok (.bipush 41, 2) := by decide +kernel
theorem dX7_readPart_154 : decode cX7_readPart 154 = .ok (.if_icmp .ne 13, 3) := by decide +kernel
theorem dX7_readPart_157 : decode cX7_readPart 157 = .ok (.aload_n 0, 1) := by decide +kernel
theorem dX7_readPart_158 : decode cX7_readPart 158 = .ok (.getfield 9, 3) := by decide +kernel
theorem dX7_readPart_161 : decode cX7_readPart 161 = .ok (.invokevirtual 31, 3) := by decide +kernel
theorem dX7_readPart_164 : decode cX7_readPart 164 = .ok (.goto 11, 3) := by decide +kernel
theorem dX7_readPart_167 : decode cX7_readPart 167 = .ok (.aload_n 0, 1) := by decide +kernel
theorem dX7_readPart_168 : decode cX7_readPart 168 = .ok (.getfield 9, 3) := by decide +kernel
theorem dX7_readPart_171 : decode cX7_readPart 171 = .ok (.iconst 1, 1) := by decide +kernel
theorem dX7_readPart_172 : decode cX7_readPart 172 = .ok (.invokevirtual 58, 3) := by decide +kernel
theorem dX7_readPart_175 : decode cX7_readPart 175 = .ok (.ireturn, 1) := by decide +kernel
theorem dX7_readPart_176 : decode cX7_readPart 176 = .ok (.aload_n 0, 1) := by decide +kernel
theorem dX7_readPart_177 : decode cX7_readPart 177 = .ok (.getfield 15, 3) := by decide +kernel
theorem dX7_readPart_180 : decode cX7_readPart 180 = .ok (.iload_n 2, 1) := by decide +kernel
theorem dX7_readPart_181 : decode cX7_readPart 181 = .ok (.ifCond .eq 7, 3) := by decide +kernel
theorem dX7_readPart_184 : decode cX7_readPart 184 = .ok (.iload_n 2, 1) := by decide +kernel
theorem dX7_readPart_185 : decode cX7_readPart 185 = .ok (.goto 10, 3) := by decide +kernel
theorem dX7_readPart_188 : decode cX7_readPart 188 = .ok (.aload_n 0, 1) := by decide +kernel
theorem dX7_readPart_189 : decode cX7_readPart 189 = .ok (.getfield 9, 3) := by decide +kernel
theorem dX7_readPart_192 : decode cX7_readPart 192 = .ok (.getfield 61, 3) := by decide +kernel
theorem dX7_readPart_195 : decode cX7_readPart 195 = .ok (.invokevirtual 37, 3) := by decide +kernel
theorem dX7_readPart_198 : decode cX7_readPart 198 = .ok (.aload_n 0, 1) := by decide +kernel
theorem dX7_readPart_199 : decode cX7_readPart 199 = .ok (.getfield 9, 3) := by decide +kernel
theorem dX7_readPart_202 : decode cX7_readPart 202 = .ok (.invokevirtual 31, 3) := by decide +kernel
theorem dX7_readPart_205 : decode cX7_readPart 205 = .ok (.ireturn, 1) := by decide +kernel
theorem dX7_factHere_0 : decode cX7_factHere 0 = .ok (.aload_n 0, 1) := by decide +kernel
theorem dX7_factHere_1 : decode cX7_factHere 1 = .ok (.getfield 9, 3) := by decide +kernel
theorem dX7_factHere_4 : decode cX7_factHere 4 = .ok (.getfield 43, 3) := by decide +kernel
theorem dX7_factHere_7 : decode cX7_factHere 7 = .ok (.tableswitch 161 5 23 #[89, 161, 161, 119, 161, 161, 161, 161, 161, 161, 161, 161, 161, 161, 161, 91, 105, 133, 147], 89) := by decide +kernel
theorem dX7_factHere_96 : decode cX7_factHere 96 = .ok (.iconst (-1), 1) := by decide +kernel
theorem dX7_factHere_97 : decode cX7_factHere 97 = .ok (.ireturn, 1) := by decide +kernel
theorem dX7_factHere_98 : decode cX7_factHere 98 = .ok (.aload_n 0, 1) := by decide +kernel
theorem dX7_factHere_99 : decode cX7_factHere 99 = .ok (.getfield 64, 3) := by decide +kernel
theorem dX7_factHere_102 : decode cX7_factHere 102 = .ok (.ifCond .eq 8, 3) := by decide +kernel
theorem dX7_factHere_105 : decode cX7_factHere 105 = .ok (.bipush (-2), 2) := by decide +kernel
theorem dX7_factHere_107 : decode cX7_factHere 107 = .ok (.goto 4, 3) := by decide +kernel
theorem dX7_factHere_110 : decode cX7_factHere 110 = .ok (.iconst 0, 1) := by decide +kernel
theorem dX7_factHere_111 : decode cX7_factHere 111 = .ok (.ireturn, 1) := by decide +kernel
theorem dX7_factHere_112 : decode cX7_factHere 112 = .ok (.aload_n 0, 1) := by decide +kernel
theorem dX7_factHere_113 : decode cX7_factHere 113 = .ok (.getfield 64, 3) := by decide +kernel
theorem dX7_factHere_116 : decode cX7_factHere 116 = .ok (.ifCond .eq 8, 3) := by decide +kernel
theorem dX7_factHere_119 : decode cX7_factHere 119 = .ok (.bipush (-3), 2) := by decide +kernel
theorem dX7_factHere_121 : decode cX7_factHere 121 = .ok (.goto 4, 3) := by decide +kernel
theorem dX7_factHere_124 : decode cX7_factHere 124 = .ok (.iconst 0, 1) := by decide +kernel
theorem dX7_factHere_125 : decode cX7_factHere 125 = .ok (.ireturn, 1) := by decide +kernel
theorem dX7_factHere_126 : decode cX7_factHere 126 = .ok (.aload_n 0, 1) := by decide +kernel
theorem dX7_factHere_127 : decode cX7_factHere 127 = .ok (.getfield 64, 3) := by decide +kernel
theorem dX7_factHere_130 : decode cX7_factHere 130 = .ok (.ifCond .eq 8, 3) := by decide +kernel
theorem dX7_factHere_133 : decode cX7_factHere 133 = .ok (.bipush (-4), 2) := by decide +kernel
theorem dX7_factHere_135 : decode cX7_factHere 135 = .ok (.goto 4, 3) := by decide +kernel
theorem dX7_factHere_138 : decode cX7_factHere 138 = .ok (.iconst 0, 1) := by decide +kernel
theorem dX7_factHere_139 : decode cX7_factHere 139 = .ok (.ireturn, 1) := by decide +kernel
theorem dX7_factHere_140 : decode cX7_factHere 140 = .ok (.aload_n 0, 1) := by decide +kernel
theorem dX7_factHere_141 : decode cX7_factHere 141 = .ok (.getfield 64, 3) := by decide +kernel
theorem dX7_factHere_144 : decode cX7_factHere 144 = .ok (.ifCond .eq 7, 3) := by decide +kernel
theorem dX7_factHere_147 : decode cX7_factHere 147 = .ok (.iconst 0, 1) := by decide +kernel
theorem dX7_factHere_148 : decode cX7_factHere 148 = .ok (.goto 5, 3) := by decide +kernel
theorem dX7_factHere_151 : decode cX7_factHere 151 = .ok (.bipush (-2), 2) := by decide +kernel
theorem dX7_factHere_153 : decode cX7_factHere 153 = .ok (.ireturn, 1) := by decide +kernel
theorem dX7_factHere_154 : decode cX7_factHere 154 = .ok (.aload_n 0, 1) := by decide +kernel
theorem dX7_factHere_155 : decode cX7_factHere 155 = .ok (.getfield 64, 3) := by decide +kernel
theorem dX7_factHere_158 : decode cX7_factHere 158 = .ok (.ifCond .eq 7, 3) := by decide +kernel
theorem dX7_factHere_161 : decode cX7_factHere 161 = .ok (.iconst 0, 1) := by decide +kernel
theorem dX7_factHere_162 : decode cX7_factHere 162 = .ok (.goto 5, 3) := by decide +kernel
theorem dX7_factHere_165 : decode cX7_factHere 165 = .ok (.bipush (-3), 2) := by decide +kernel
theorem dX7_factHere_167 : decode cX7_factHere 167 = .ok (.ireturn, 1) := by decide +kernel
theorem dX7_factHere_168 : decode cX7_factHere 168 = .ok (.iconst 0, 1) := by decide +kernel
theorem dX7_factHere_169 : decode cX7_factHere 169 = .ok (.ireturn, 1) := by decide +kernel
theorem dX8_init_0 : decode cX8_init 0 = .ok (.aload_n 0, 1) := by decide +kernel
theorem dX8_init_1 : decode cX8_init 1 = .ok (.invokespecial 3, 3) := by decide +kernel
theorem dX8_init_4 : decode cX8_init 4 = .ok (.aload_n 0, 1) := by decide +kernel
theorem dX8_init_5 : decode cX8_init 5 = .ok (.bipush 6, 2) := by decide +kernel
theorem dX8_init_7 : decode cX8_init 7 = .ok (.newarray .long, 2) := by decide +kernel
theorem dX8_init_9 : decode cX8_init 9 = .ok (.putfield 9, 3) := by decide +kernel
theorem dX8_init_12 : decode cX8_init 12 = .ok (.aload_n 0, 1) := by decide +kernel
theorem dX8_init_13 : decode cX8_init 13 = .ok (.iconst 5, 1) := by decide +kernel
theorem dX8_init_14 : decode cX8_init 14 = .ok (.newarray .long, 2) := by decide +kernel
theorem dX8_init_16 : decode cX8_init 16 = .ok (.putfield 15, 3) := by decide +kernel
theorem dX8_init_19 : decode cX8_init 19 = .ok (.aload_n 0, 1) := by decide +kernel
theorem dX8_init_20 : decode cX8_init 20 = .ok (.sipush 144, 3) := by decide +kernel
theorem dX8_init_23 : decode cX8_init 23 = .ok (.newarray .int, 2) := by decide +kernel
theorem dX8_init_25 : decode cX8_init 25 = .ok (.putfield 18, 3) := by decide +kernel
theorem dX8_init_28 : decode cX8_init 28 = .ok (.aload_n 0, 1) := by decide +kernel
theorem dX8_init_29 : decode cX8_init 29 = .ok (.aload_n 1, 1) := by decide +kernel
theorem dX8_init_30 : decode cX8_init 30 = .ok (.putfield 22, 3) := by decide +kernel
theorem dX8_init_33 : decode cX8_init 33 = .ok (.aload_n 0, 1) := by decide +kernel
theorem dX8_init_34 : decode cX8_init 34 = .ok (.aload_n 2, 1) := by decide +kernel
theorem dX8_init_35 : decode cX8_init 35 = .ok (.putfield 26, 3) := by decide +kernel
theorem dX8_init_38 : decode cX8_init 38 = .ok (.aload_n 0, 1) := by decide +kernel
theorem dX8_init_39 : decode cX8_init 39 = .ok (.new 30, 3) := by decide +kernel
theorem dX8_init_42 : decode cX8_init 42 = .ok (.dup, 1) := by decide +kernel
theorem dX8_init_43 : decode cX8_init 43 = .ok (.aload_n 1, 1) := by decide +kernel
theorem dX8_init_44 : decode cX8_init 44 = .ok (.aload_n 2, 1) := by decide +kernel
theorem dX8_init_45 : decode cX8_init 45 = .ok (.invokespecial 32, 3) := by decide +kernel
theorem dX8_init_48 : decode cX8_init 48 = .ok (.putfield 35, 3) := by decide +kernel
theorem dX8_init_51 : decode cX8_init 51 = .ok (.return_, 1) := by decide +kernel
theorem dX8_read_0 : decode cX8_read 0 = .ok (.aload_n 0, 1) := by decide +kernel
theorem dX8_read_1 : decode cX8_read 1 = .ok (.getfield 26, 3) := by decide +kernel
theorem dX8_read_4 : decode cX8_read 4 = .ok (.invokevirtual 39, 3) := by decide +kernel
theorem dX8_read_7 : decode cX8_read 7 = .ok (.aload_n 0, 1) := by decide +kernel
theorem dX8_read_8 : decode cX8_read 8 = .ok (.getfield 18, 3) := by decide +kernel
theorem dX8_read_11 : decode cX8_read 11 = .ok (.iconst (-1), 1) := by decide +kernel
theorem dX8_read_12 : decode cX8_read 12 = .ok (.invokestatic 44, 3) := by decide +kernel
theorem dX8_read_15 : decode cX8_read 15 = .ok (.aload_n 0, 1) := by decide +kernel
theorem dX8_read_16 : decode cX8_read 16 = .ok (.iconst 0, 1) := by decide +kernel
theorem dX8_read_17 : decode cX8_read 17 = .ok (.putfield 50, 3) := by decide +kernel
theorem dX8_read_20 : decode cX8_read 20 = .ok (.aload_n 0, 1) := by decide +kernel
theorem dX8_read_21 : decode cX8_read 21 = .ok (.iconst 0, 1) := by decide +kernel
theorem dX8_read_22 : decode cX8_read 22 = .ok (.putfield 54, 3) := by decide +kernel
theorem dX8_read_25 : decode cX8_read 25 = .ok (.aload_n 0, 1) := by decide +kernel
theorem dX8_read_26 : decode cX8_read 26 = .ok (.iconst 0, 1) := by decide +kernel
theorem dX8_read_27 : decode cX8_read 27 = .ok (.putfield 57, 3) := by decide +kernel
theorem dX8_read_30 : decode cX8_read 30 = .ok (.aload_n 0, 1) := by decide +kernel
theorem dX8_read_31 : decode cX8_read 31 = .ok (.getfield 22, 3) := by decide +kernel
theorem dX8_read_34 : decode cX8_read 34 = .ok (.invokevirtual 61, 3) := by decide +kernel
theorem dX8_read_37 : decode cX8_read 37 = .ok (.aload_n 0, 1) := by decide +kernel
theorem dX8_read_38 : decode cX8_read 38 = .ok (.invokevirtual 66, 3) := by decide +kernel
theorem dX8_read_41 : decode cX8_read 41 = .ok (.ifCond .ne 11, 3) := by decide +kernel
theorem dX8_read_44 : decode cX8_read 44 = .ok (.aload_n 0, 1) := by decide +kernel
theorem dX8_read_45 : decode cX8_read 45 = .ok (.getfield 22, 3) := by decide +kernel
theorem dX8_read_48 : decode cX8_read 48 = .ok (.getfield 70, 3) := by decide +kernel
theorem dX8_read_51 : decode cX8_read 51 = .ok (.ireturn, 1) := by decide +kernel
theorem dX8_read_52 : decode cX8_read 52 = .ok (.iconst 0, 1) := by decide +kernel
theorem dX8_read_53 : decode cX8_read 53 = .ok (.istore_n 1, 1) := by decide +kernel
theorem dX8_read_54 : decode cX8_read 54 = .ok (.iload_n 1, 1) := by decide +kernel
theorem dX8_read_55 : decode cX8_read 55 = .ok (.sipush 1000, 3) := by decide +kernel
theorem dX8_read_58 : decode cX8_read 58 = .ok (.if_icmp .ge 34, 3) := by decide +kernel
theorem dX8_read_61 : decode cX8_read 61 = .ok (.aload_n 0, 1) := by decide +kernel
theorem dX8_read_62 : decode cX8_read 62 = .ok (.getfield 22, 3) := by decide +kernel
theorem dX8_read_65 : decode cX8_read 65 = .ok (.getfield 73, 3) := by decide +kernel
theorem dX8_read_68 : decode cX8_read 68 = .ok (.ifCond .eq 24, 3) := by decide +kernel
theorem dX8_read_71 : decode cX8_read 71 = .ok (.aload_n 0, 1) := by decide +kernel
theorem dX8_read_72 : decode cX8_read 72 = .ok (.invokevirtual 76, 3) := by decide +kernel
theorem dX8_read_75 : decode cX8_read 75 = .ok (.ifCond .ne 11, 3) := by decide +kernel
theorem dX8_read_78 : decode cX8_read 78 = .ok (.aload_n 0, 1) := by decide +kernel
theorem dX8_read_79 : decode cX8_read 79 = .ok (.getfield 22, 3) := by decide +kernel
theorem dX8_read_82 : decode cX8_read 82 = .ok (.getfield 70, 3) := by decide +kernel
theorem dX8_read_85 : decode cX8_read 85 = .ok (.ireturn, 1) := by decide +kernel
theorem dX8_read_86 : decode cX8_read 86 = .ok (.iinc 1 1, 3) := by decide +kernel
theorem dX8_read_89 : decode cX8_read 89 = .ok (.goto (-35), 3) := by decide +kernel
theorem dX8_read_92 : decode cX8_read 92 = .ok (.aload_n 0, 1) := by decide +kernel
theorem dX8_read_93 : decode cX8_read 93 = .ok (.invokevirtual 79, 3) := by decide +kernel
theorem dX8_read_96 : decode cX8_read 96 = .ok (.iconst 0, 1) := by decide +kernel
theorem dX8_read_97 : decode cX8_read 97 = .ok (.ireturn, 1) := by decide +kernel
theorem dX8_readHills_0 : decode cX8_readHills 0 = .ok (.aload_n 0, 1) := by decide +kernel
theorem dX8_readHills_1 : decode cX8_readHills 1 = .ok (.iconst 0, 1) := by decide +kernel
theorem dX8_readHills_2 : decode cX8_readHills 2 = .ok (.invokevirtual 82, 3) := by decide +kernel
theorem dX8_readHills_5 : decode cX8_readHills 5 = .ok (.ifCond .eq 13, 3) := by decide +kernel
theorem dX8_readHills_8 : decode cX8_readHills 8 = .ok (.aload_n 0, 1) := by decide +kernel
theorem dX8_readHills_9 : decode cX8_readHills 9 = .ok (.iconst 2, 1) := by decide +kernel
theorem dX8_readHills_10 : decode cX8_readHills 10 = .ok (.bipush 8, 2) := by decide +kernel
theorem dX8_readHills_12 : decode cX8_readHills 12 = .ok (.invokevirtual 86, 3) := by decide +kernel
theorem dX8_readHills_15 : decode cX8_readHills 15 = .ok (.ifCond .ne 5, 3) := by decide +kernel
theorem dX8_readHills_18 : decode cX8_readHills 18 = .ok (.iconst 0, 1) := by decide +kernel
theorem dX8_readHills_19 : decode cX8_readHills 19 = .ok (.ireturn, 1) := by decide +kernel
theorem dX8_readHills_20 : decode cX8_readHills 20 = .ok (.aload_n 0, 1) := by decide +kernel
theorem dX8_readHills_21 : decode cX8_readHills 21 = .ok (.getfield 26, 3) := by decide +kernel
theorem dX8_readHills_24 : decode cX8_readHills 24 = .ok (.aload_n 0, 1) := by decide +kernel
theorem dX8_readHills_25 : decode cX8_readHills 25 = .ok (.getfield 22, 3) := by decide +kernel
theorem dX8_readHills_28 : decode cX8_readHills 28 = .ok (.getfield 90, 3) := by decide +kernel
theorem dX8_readHills_31 : decode cX8_readHills 31 = .ok (.putfield 93, 3) := by decide +kernel
theorem dX8_readHills_34 : decode cX8_readHills 34 = .ok (.aload_n 0, 1) := by decide +kernel
theorem dX8_readHills_35 : decode cX8_readHills 35 = .ok (.getfield 22, 3) := by decide +kernel
theorem dX8_readHills_38 : decode cX8_readHills 38 = .ok (.invokevirtual 96, 3) := by decide +kernel
theorem dX8_readHills_41 : decode cX8_readHills 41 = .ok (.pop, 1) := by decide +kernel
theorem dX8_readHills_42 : decode cX8_readHills 42 = .ok (.aload_n 0, 1) := by decide +kernel
theorem dX8_readHills_43 : decode cX8_readHills 43 = .ok (.iconst 2, 1) := by decide +kernel
theorem dX8_readHills_44 : decode cX8_readHills 44 = .ok (.bipush 8, 2) := by decide +kernel
theorem dX8_readHills_46 : decode cX8_readHills 46 = .ok (.invokevirtual 86, 3) := by decide +kernel
theorem dX8_readHills_49 : decode cX8_readHills 49 = .ok (.ifCond .ne 5, 3) := by decide +kernel
theorem dX8_readHills_52 : decode cX8_readHills 52 = .ok (.iconst 0, 1) := by decide +kernel
theorem dX8_readHills_53 : decode cX8_readHills 53 = .ok (.ireturn, 1) := by decide +kernel
theorem dX8_readHills_54 : decode cX8_readHills 54 = .ok (.aload_n 0, 1) := by decide +kernel
theorem dX8_readHills_55 : decode cX8_readHills 55 = .ok (.getfield 26, 3) := by decide +kernel
theorem dX8_readHills_58 : decode cX8_readHills 58 = .ok (.aload_n 0, 1) := by decide +kernel
theorem dX8_readHills_59 : decode cX8_readHills 59 = .ok (.getfield 22, 3) := by decide +kernel
theorem dX8_readHills_62 : decode cX8_readHills 62 = .ok (.getfield 90, 3) := by decide +kernel
theorem dX8_readHills_65 : decode cX8_readHills 65 = .ok (.putfield 99, 3) := by decide +kernel
theorem dX8_readHills_68 : decode cX8_readHills 68 = .ok (.aload_n 0, 1) := by decide +kernel
theorem dX8_readHills_69 : decode cX8_readHills 69 = .ok (.getfield 22, 3) := by decide +kernel
theorem dX8_readHills_72 : decode cX8_readHills 72 = .ok (.invokevirtual 96, 3) := by decide +kernel
theorem dX8_readHills_75 : decode cX8_readHills 75 = .ok (.ifCond .eq 14, 3) := by decide +kernel
theorem dX8_readHills_78 : decode cX8_readHills 78 = .ok (.aload_n 0, 1) := by decide +kernel
theorem dX8_readHills_79 : decode cX8_readHills 79 = .ok (.invokevirtual 102, 3) := by decide +kernel
theorem dX8_readHills_82 : decode cX8_readHills 82 = .ok (.ifCond .eq 7, 3) := by decide +kernel
theorem dX8_readHills_85 : decode cX8_readHills 85 = .ok (.iconst 1, 1) := by decide +kernel
theorem dX8_readHills_86 : decode cX8_readHills 86 = .ok (.goto 4, 3) := by decide +kernel
theorem dX8_readHills_89 : decode cX8_readHills 89 = .ok (.iconst 0, 1) := by decide +kernel
theorem dX8_readHills_90 : decode cX8_readHills 90 = .ok (.ireturn, 1) := by decide +kernel
theorem dX8_readLine_0 : decode cX8_readLine 0 = .ok (.aload_n 0, 1) := by decide +kernel
theorem dX8_readLine_1 : decode cX8_readLine 1 = .ok (.getfield 22, 3) := by decide +kernel
theorem dX8_readLine_4 : decode cX8_readLine 4 = .ok (.getfield 105, 3) := by decide +kernel
theorem dX8_readLine_7 : decode cX8_readLine 7 = .ok (.tableswitch 106 1 11 #[57, 106, 106, 62, 106, 67, 72, 106, 77, 89, 101], 57) := by decide +kernel
theorem dX8_readLine_64 : decode cX8_readLine 64 = .ok (.aload_n 0, 1) := by decide +kernel
theorem dX8_readLine_65 : decode cX8_readLine 65 = .ok (.invokevirtual 108, 3) := by decide +kernel
theorem dX8_readLine_68 : decode cX8_readLine 68 = .ok (.ireturn, 1) := by decide +kernel
theorem dX8_readLine_69 : decode cX8_readLine 69 = .ok (.aload_n 0, 1) := by decide +kernel
theorem dX8_readLine_70 : decode cX8_readLine 70 = .ok (.invokevirtual 111, 3) := by decide +kernel
theorem dX8_readLine_73 : decode cX8_readLine 73 = .ok (.ireturn, 1) := by decide +kernel
theorem dX8_readLine_74 : decode cX8_readLine 74 = .ok (.aload_n 0, 1) := by decide +kernel
theorem dX8_readLine_75 : decode cX8_readLine 75 = .ok (.invokevirtual 114, 3) := by decide +kernel
theorem dX8_readLine_78 : decode cX8_readLine 78 = .ok (.ireturn, 1) := by decide +kernel
theorem dX8_readLine_79 : decode cX8_readLine 79 = .ok (.aload_n 0, 1) := by decide +kernel
theorem dX8_readLine_80 : decode cX8_readLine 80 = .ok (.invokevirtual 117, 3) := by decide +kernel
theorem dX8_readLine_83 : decode cX8_readLine 83 = .ok (.ireturn, 1) := by decide +kernel
theorem dX8_readLine_84 : decode cX8_readLine 84 = .ok (.aload_n 0, 1) := by decide +kernel
theorem dX8_readLine_85 : decode cX8_readLine 85 = .ok (.aload_n 0, 1) := by decide +kernel
theorem dX8_readLine_86 : decode cX8_readLine 86 = .ok (.getfield 26, 3) := by decide +kernel
theorem dX8_readLine_89 : decode cX8_readLine 89 = .ok (.getfield 120, 3) := by decide +kernel
theorem dX8_readLine_92 : decode cX8_readLine 92 = .ok (.invokevirtual 124, 3) := by decide +kernel
theorem dX8_readLine_95 : decode cX8_readLine 95 = .ok (.ireturn, 1) := by decide +kernel
theorem dX8_readLine_96 : decode cX8_readLine 96 = .ok (.aload_n 0, 1) := by decide +kernel
theorem dX8_readLine_97 : decode cX8_readLine 97 = .ok (.aload_n 0, 1) := by decide +kernel
theorem dX8_readLine_98 : decode cX8_readLine 98 = .ok (.getfield 26, 3) := by decide +kernel
theorem dX8_readLine_101 : decode cX8_readLine 101 = .ok (.getfield 128, 3) := by decide +kernel
theorem dX8_readLine_104 : decode cX8_readLine 104 = .ok (.invokevirtual 124, 3) := by decide +kernel
theorem dX8_readLine_107 : decode cX8_readLine 107 = .ok (.ireturn, 1) := by decide +kernel
theorem dX8_readLine_108 : decode cX8_readLine 108 = .ok (.aload_n 0, 1) := by decide +kernel
theorem dX8_readLine_109 : decode cX8_readLine 109 = .ok (.invokevirtual 131, 3) := by decide +kernel
theorem dX8_readLine_112 : decode cX8_readLine 112 = .ok (.ireturn, 1) := by decide +kernel
theorem dX8_readLine_113 : decode cX8_readLine 113 = .ok (.aload_n 0, 1) := by decide +kernel
theorem dX8_readLine_114 : decode cX8_readLine 114 = .ok (.getfield 22, 3) := by decide +kernel
theorem dX8_readLine_117 : decode cX8_readLine 117 = .ok (.iconst 1, 1) := by decide +kernel
theorem dX8_readLine_118 : decode cX8_readLine 118 = .ok (.invokevirtual 134, 3) := by decide +kernel
theorem dX8_readLine_121 : decode cX8_readLine 121 = .ok (.ireturn, 1) := by decide +kernel
theorem dX8_readPerson_0 : decode cX8_readPerson 0 = .ok (.aload_n 0, 1) := by decide +kernel
theorem dX8_readPerson_1 : decode cX8_readPerson 1 = .ok (.getfield 26, 3) := by decide +kernel
theorem dX8_readPerson_4 : decode cX8_readPerson 4 = .ok (.getfield 137, 3) := by decide +kernel
theorem dX8_readPerson_7 : decode cX8_readPerson 7 = .ok (.istore_n 1, 1) := by decide +kernel
theorem dX8_readPerson_8 : decode cX8_readPerson 8 = .ok (.iload_n 1, 1) := by decide +kernel
theorem dX8_readPerson_9 : decode cX8_readPerson 9 = .ok (.bipush 6, 2) := by decide +kernel
theorem dX8_readPerson_11 : decode cX8_readPerson 11 = .ok (.if_icmp .lt 12, 3) := by decide +kernel
theorem dX8_readPerson_14 : decode cX8_readPerson 14 = .ok (.aload_n 0, 1) := by decide +kernel
theorem dX8_readPerson_15 : decode cX8_readPerson 15 = .ok (.getfield 22, 3) := by decide +kernel
theorem dX8_readPerson_18 : decode cX8_readPerson 18 = .ok (.iconst 5, 1) := by decide +kernel
theorem dX8_readPerson_19 : decode cX8_readPerson 19 = .ok (.invokevirtual 134, 3) := by decide +kernel
theorem dX8_readPerson_22 : decode cX8_readPerson 22 = .ok (.ireturn, 1) := by decide +kernel
theorem dX8_readPerson_23 : decode cX8_readPerson 23 = .ok (.aload_n 0, 1) := by decide +kernel
theorem dX8_readPerson_24 : decode cX8_readPerson 24 = .ok (.getfield 22, 3) := by decide +kernel
theorem dX8_readPerson_27 : decode cX8_readPerson 27 = .ok (.invokevirtual 96, 3) := by decide +kernel
theorem dX8_readPerson_30 : decode cX8_readPerson 30 = .ok (.pop, 1) := by decide +kernel
theorem dX8_readPerson_31 : decode cX8_readPerson 31 = .ok (.aload_n 0, 1) := by decide +kernel
theorem dX8_readPerson_32 : decode cX8_readPerson 32 = .ok (.invokevirtual 140, 3) := by decide +kernel
theorem dX8_readPerson_35 : decode cX8_readPerson 35 = .ok (.ifCond .ne 5, 3) := by decide +kernel
theorem dX8_readPerson_38 : decode cX8_readPerson 38 = .ok (.iconst 0, 1) := by decide +kernel
theorem dX8_readPerson_39 : decode cX8_readPerson 39 = .ok (.ireturn, 1) := by decide +kernel
theorem dX8_readPerson_40 : decode cX8_readPerson 40 = .ok (.aload_n 0, 1) := by decide +kernel
theorem dX8_readPerson_41 : decode cX8_readPerson 41 = .ok (.getfield 9, 3) := by decide +kernel
theorem dX8_readPerson_44 : decode cX8_readPerson 44 = .ok (.iload_n 1, 1) := by decide +kernel
theorem dX8_readPerson_45 : decode cX8_readPerson 45 = .ok (.aload_n 0, 1) := by decide +kernel
theorem dX8_readPerson_46 : decode cX8_readPerson 46 = .ok (.getfield 22, 3) := by decide +kernel
theorem dX8_readPerson_49 : decode cX8_readPerson 49 = .ok (.getfield 143, 3) := by decide +kernel
theorem dX8_readPerson_52 : decode cX8_readPerson 52 = .ok (.lastore, 1) := by decide +kernel
theorem dX8_readPerson_53 : decode cX8_readPerson 53 = .ok (.aload_n 0, 1) := by decide +kernel
theorem dX8_readPerson_54 : decode cX8_readPerson 54 = .ok (.getfield 22, 3) := by decide +kernel
theorem dX8_readPerson_57 : decode cX8_readPerson 57 = .ok (.invokevirtual 96, 3) := by decide +kernel
theorem dX8_readPerson_60 : decode cX8_readPerson 60 = .ok (.pop, 1) := by decide +kernel
theorem dX8_readPerson_61 : decode cX8_readPerson 61 = .ok (.aload_n 0, 1) := by decide +kernel
theorem dX8_readPerson_62 : decode cX8_readPerson 62 = .ok (.getfield 22, 3) := by decide +kernel
theorem dX8_readPerson_65 : decode cX8_readPerson 65 = .ok (.getfield 105, 3) := by decide +kernel
theorem dX8_readPerson_68 : decode cX8_readPerson 68 = .ok (.bipush 12, 2) := by decide +kernel
theorem dX8_readPerson_70 : decode cX8_readPerson 70 = .ok (.if_icmp .lt 15, 3) := by decide +kernel
theorem dX8_readPerson_73 : decode cX8_readPerson 73 = .ok (.aload_n 0, 1) := by decide +kernel
theorem dX8_readPerson_74 : decode cX8_readPerson 74 = .ok (.getfield 22, 3) := by decide +kernel
theorem dX8_readPerson_77 : decode cX8_readPerson 77 = .ok (.getfield 105, 3) := by decide +kernel
theorem dX8_readPerson_80 : decode cX8_readPerson 80 = .ok (.bipush 16, 2) := by decide +kernel
theorem dX8_readPerson_82 : decode cX8_readPerson 82 = .ok (.if_icmp .le 12, 3) := by decide +kernel
theorem dX8_readPerson_85 : decode cX8_readPerson 85 = .ok (.aload_n 0, 1) := by decide +kernel
theorem dX8_readPerson_86 : decode cX8_readPerson 86 = .ok (.getfield 22, 3) := by decide +kernel
theorem dX8_readPerson_89 : decode cX8_readPerson 89 = .ok (.iconst 1, 1) := by decide +kernel
theorem dX8_readPerson_90 : decode cX8_readPerson 90 = .ok (.invokevirtual 134, 3) := by decide +kernel
theorem dX8_readPerson_93 : decode cX8_readPerson 93 = .ok (.ireturn, 1) := by decide +kernel
theorem dX8_readPerson_94 : decode cX8_readPerson 94 = .ok (.aload_n 0, 1) := by decide +kernel
theorem dX8_readPerson_95 : decode cX8_readPerson 95 = .ok (.getfield 26, 3) := by decide +kernel
theorem dX8_readPerson_98 : decode cX8_readPerson 98 = .ok (.getfield 147, 3) := by decide +kernel
theorem dX8_readPerson_101 : decode cX8_readPerson 101 = .ok (.iload_n 1, 1) := by decide +kernel
theorem dX8_readPerson_102 : decode cX8_readPerson 102 = .ok (.aload_n 0, 1) := by decide +kernel
theorem dX8_readPerson_103 : decode cX8_readPerson 103 = .ok (.getfield 22, 3) := by decide +kernel
theorem dX8_readPerson_106 : decode cX8_readPerson 106 = .ok (.getfield 105, 3) := by decide +kernel
theorem dX8_readPerson_109 : decode cX8_readPerson 109 = .ok (.bipush 12, 2) := by decide +kernel
theorem dX8_readPerson_111 : decode cX8_readPerson 111 = .ok (.isub, 1) := by decide +kernel
theorem dX8_readPerson_112 : decode cX8_readPerson 112 = .ok (.iconst 0, 1) := by decide +kernel
theorem dX8_readPerson_113 : decode cX8_readPerson 113 = .ok (.iadd, 1) := by decide +kernel
theorem dX8_readPerson_114 : decode cX8_readPerson 114 = .ok (.iastore, 1) := by decide +kernel
theorem dX8_readPerson_115 : decode cX8_readPerson 115 = .ok (.aload_n 0, 1) := by decide +kernel
theorem dX8_readPerson_116 : decode cX8_readPerson 116 = .ok (.getfield 22, 3) := by decide +kernel
theorem dX8_readPerson_119 : decode cX8_readPerson 119 = .ok (.invokevirtual 96, 3) := by decide +kernel
theorem dX8_readPerson_122 : decode cX8_readPerson 122 = .ok (.pop, 1) := by decide +kernel
theorem dX8_readPerson_123 : decode cX8_readPerson 123 = .ok (.aload_n 0, 1) := by decide +kernel
theorem dX8_readPerson_124 : decode cX8_readPerson 124 = .ok (.iconst 2, 1) := by decide +kernel
theorem dX8_readPerson_125 : decode cX8_readPerson 125 = .ok (.invokevirtual 82, 3) := by decide +kernel
theorem dX8_readPerson_128 : decode cX8_readPerson 128 = .ok (.ifCond .eq 10, 3) := by decide +kernel
theorem dX8_readPerson_131 : decode cX8_readPerson 131 = .ok (.aload_n 0, 1) := by decide +kernel
theorem dX8_readPerson_132 : decode cX8_readPerson 132 = .ok (.invokevirtual 150, 3) := by decide +kernel
theorem dX8_readPerson_135 : decode cX8_readPerson 135 = .ok (.ifCond .ne 5, 3) := by decide +kernel
theorem dX8_readPerson_138 : decode cX8_readPerson 138 = .ok (.iconst 0, 1) := by decide +kernel
theorem dX8_readPerson_139 : decode cX8_readPerson 139 = .ok (.ireturn, 1) := by decide +kernel
theorem dX8_readPerson_140 : decode cX8_readPerson 140 = .ok (.aload_n 0, 1) := by decide +kernel
theorem dX8_readPerson_141 : decode cX8_readPerson 141 = .ok (.getfield 18, 3) := by decide +kernel
theorem dX8_readPerson_144 : decode cX8_readPerson 144 = .ok (.iload_n 1, 1) := by decide +kernel
theorem dX8_readPerson_145 : decode cX8_readPerson 145 = .ok (.bipush 24, 2) := by decide +kernel
theorem dX8_readPerson_147 : decode cX8_readPerson 147 = .ok (.imul, 1) := by decide +kernel
theorem dX8_readPerson_148 : decode cX8_readPerson 148 = .ok (.aload_n 0, 1) := by decide +kernel
theorem dX8_readPerson_149 : decode cX8_readPerson 149 = .ok (.getfield 153, 3) := by decide +kernel
theorem dX8_readPerson_152 : decode cX8_readPerson 152 = .ok (.iastore, 1) := by decide +kernel
theorem dX8_readPerson_153 : decode cX8_readPerson 153 = .ok (.aload_n 0, 1) := by decide +kernel
theorem dX8_readPerson_154 : decode cX8_readPerson 154 = .ok (.iconst 3, 1) := by decide +kernel
theorem dX8_readPerson_155 : decode cX8_readPerson 155 = .ok (.invokevirtual 82, 3) := by decide +kernel
theorem dX8_readPerson_158 : decode cX8_readPerson 158 = .ok (.ifCond .eq 14, 3) := by decide +kernel
theorem dX8_readPerson_161 : decode cX8_readPerson 161 = .ok (.aload_n 0, 1) := by decide +kernel
theorem dX8_readPerson_162 : decode cX8_readPerson 162 = .ok (.iconst 0, 1) := by decide +kernel
theorem dX8_readPerson_163 : decode cX8_readPerson 163 = .ok (.sipush 9999, 3) := by decide +kernel
theorem dX8_readPerson_166 : decode cX8_readPerson 166 = .ok (.invokevirtual 86, 3) := by decide +kernel
theorem dX8_readPerson_169 : decode cX8_readPerson 169 = .ok (.ifCond .ne 5, 3) := by decide +kernel
theorem dX8_readPerson_172 : decode cX8_readPerson 172 = .ok (.iconst 0, 1) := by decide +kernel
theorem dX8_readPerson_173 : decode cX8_readPerson 173 = .ok (.ireturn, 1) := by decide +kernel
theorem dX8_readPerson_174 : decode cX8_readPerson 174 = .ok (.aload_n 0, 1) := by decide +kernel
theorem dX8_readPerson_175 : decode cX8_readPerson 175 = .ok (.getfield 26, 3) := by decide +kernel
theorem dX8_readPerson_178 : decode cX8_readPerson 178 = .ok (.getfield 156, 3) := by decide +kernel
theorem dX8_readPerson_181 : decode cX8_readPerson 181 = .ok (.iload_n 1, 1) := by decide +kernel
theorem dX8_readPerson_182 : decode cX8_readPerson 182 = .ok (.aload_n 0, 1) := by decide +kernel
theorem dX8_readPerson_183 : decode cX8_readPerson 183 = .ok (.getfield 22, 3) := by decide +kernel
theorem dX8_readPerson_186 : decode cX8_readPerson 186 = .ok (.getfield 90, 3) := by decide +kernel
theorem dX8_readPerson_189 : decode cX8_readPerson 189 = .ok (.iastore, 1) := by decide +kernel
theorem dX8_readPerson_190 : decode cX8_readPerson 190 = .ok (.aload_n 0, 1) := by decide +kernel
theorem dX8_readPerson_191 : decode cX8_readPerson 191 = .ok (.getfield 26, 3) := by decide +kernel
theorem dX8_readPerson_194 : decode cX8_readPerson 194 = .ok (.dup, 1) := by decide +kernel
theorem dX8_readPerson_195 : decode cX8_readPerson 195 = .ok (.getfield 137, 3) := by decide +kernel
theorem dX8_readPerson_198 : decode cX8_readPerson 198 = .ok (.iconst 1, 1) := by decide +kernel
theorem dX8_readPerson_199 : decode cX8_readPerson 199 = .ok (.iadd, 1) := by decide +kernel
theorem dX8_readPerson_200 : decode cX8_readPerson 200 = .ok (.putfield 137, 3) := by decide +kernel
theorem dX8_readPerson_203 : decode cX8_readPerson 203 = .ok (.aload_n 0, 1) := by decide +kernel
theorem dX8_readPerson_204 : decode cX8_readPerson 204 = .ok (.getfield 22, 3) := by decide +kernel
theorem dX8_readPerson_207 : decode cX8_readPerson 207 = .ok (.invokevirtual 96, 3) := by decide +kernel
theorem dX8_readPerson_210 : decode cX8_readPerson 210 = .ok (.ifCond .eq 14, 3) := by decide +kernel
theorem dX8_readPerson_213 : decode cX8_readPerson 213 = .ok (.aload_n 0, 1) := by decide +kernel
theorem dX8_readPerson_214 : decode cX8_readPerson 214 = .ok (.invokevirtual 102, 3) := by decide +kernel
theorem dX8_readPerson_217 : decode cX8_readPerson 217 = .ok (.ifCond .eq 7, 3) := by decide +kernel
theorem dX8_readPerson_220 : decode cX8_readPerson 220 = .ok (.iconst 1, 1) := by decide +kernel
theorem dX8_readPerson_221 : decode cX8_readPerson 221 = .ok (.goto 4, 3) := by decide +kernel
theorem dX8_readPerson_224 : decode cX8_readPerson 224 = .ok (.iconst 0, 1) := by decide +kernel
theorem dX8_readPerson_225 : decode cX8_readPerson 225 = .ok (.ireturn, 1) := by decide +kernel
theorem dX8_readGo_0 : decode cX8_readGo 0 = .ok (.aload_n 0, 1) := by decide +kernel
theorem dX8_readGo_1 : decode cX8_readGo 1 = .ok (.getfield 50, 3) := by decide +kernel
theorem dX8_readGo_4 : decode cX8_readGo 4 = .ok (.bipush 20, 2) := by decide +kernel
theorem dX8_readGo_6 : decode cX8_readGo 6 = .ok (.if_icmp .lt 12, 3) := by decide +kernel
theorem dX8_readGo_9 : decode cX8_readGo 9 = .ok (.aload_n 0, 1) := by decide +kernel
theorem dX8_readGo_10 : decode cX8_readGo 10 = .ok (.getfield 22, 3) := by decide +kernel
theorem dX8_readGo_13 : decode cX8_readGo 13 = .ok (.iconst 5, 1) := by decide +kernel
theorem dX8_readGo_14 : decode cX8_readGo 14 = .ok (.invokevirtual 134, 3) := by decide +kernel
theorem dX8_readGo_17 : decode cX8_readGo 17 = .ok (.ireturn, 1) := by decide +kernel
theorem dX8_readGo_18 : decode cX8_readGo 18 = .ok (.aload_n 0, 1) := by decide +kernel
theorem dX8_readGo_19 : decode cX8_readGo 19 = .ok (.dup, 1) := by decide +kernel
theorem dX8_readGo_20 : decode cX8_readGo 20 = .ok (.getfield 50, 3) := by decide +kernel
theorem dX8_readGo_23 : decode cX8_readGo 23 = .ok (.iconst 1, 1) := by decide +kernel
theorem dX8_readGo_24 : decode cX8_readGo 24 = .ok (.iadd, 1) := by decide +kernel
theorem dX8_readGo_25 : decode cX8_readGo 25 = .ok (.putfield 50, 3) := by decide +kernel
theorem dX8_readGo_28 : decode cX8_readGo 28 = .ok (.aload_n 0, 1) := by decide +kernel
theorem dX8_readGo_29 : decode cX8_readGo 29 = .ok (.getfield 22, 3) := by decide +kernel
theorem dX8_readGo_32 : decode cX8_readGo 32 = .ok (.invokevirtual 96, 3) := by decide +kernel
theorem dX8_readGo_35 : decode cX8_readGo 35 = .ok (.pop, 1) := by decide +kernel
theorem dX8_readGo_36 : decode cX8_readGo 36 = .ok (.aload_n 0, 1) := by decide +kernel
theorem dX8_readGo_37 : decode cX8_readGo 37 = .ok (.aload_n 0, 1) := by decide +kernel
theorem dX8_readGo_38 : decode cX8_readGo 38 = .ok (.getfield 9, 3) := by decide +kernel
theorem dX8_readGo_41 : decode cX8_readGo 41 = .ok (.aload_n 0, 1) := by decide +kernel
theorem dX8_readGo_42 : decode cX8_readGo 42 = .ok (.getfield 26, 3) := by decide +kernel
theorem dX8_readGo_45 : decode cX8_readGo 45 = .ok (.getfield 137, 3) := by decide +kernel
theorem dX8_readGo_48 : decode cX8_readGo 48 = .ok (.invokevirtual 159, 3) := by decide +kernel
theorem dX8_readGo_51 : decode cX8_readGo 51 = .ok (.ifCond .ne 5, 3) := by decide +kernel
theorem dX8_readGo_54 : decode cX8_readGo 54 = .ok (.iconst 0, 1) := by decide +kernel
theorem dX8_readGo_55 : decode cX8_readGo 55 = .ok (.ireturn, 1) := by decide +kernel
theorem dX8_readGo_56 : decode cX8_readGo 56 = .ok (.aload_n 0, 1) := by decide +kernel
theorem dX8_readGo_57 : decode cX8_readGo 57 = .ok (.getfield 163, 3) := by decide +kernel
theorem dX8_readGo_60 : decode cX8_readGo 60 = .ok (.istore_n 1, 1) := by decide +kernel
theorem dX8_readGo_61 : decode cX8_readGo 61 = .ok (.aload_n 0, 1) := by decide +kernel
theorem dX8_readGo_62 : decode cX8_readGo 62 = .ok (.getfield 22, 3) := by decide +kernel
theorem dX8_readGo_65 : decode cX8_readGo 65 = .ok (.invokevirtual 96, 3) := by decide +kernel
theorem dX8_readGo_68 : decode cX8_readGo 68 = .ok (.pop, 1) := by decide +kernel
theorem dX8_readGo_69 : decode cX8_readGo 69 = .ok (.aload_n 0, 1) := by decide +kernel
theorem dX8_readGo_70 : decode cX8_readGo 70 = .ok (.iconst 5, 1) := by decide +kernel
theorem dX8_readGo_71 : decode cX8_readGo 71 = .ok (.invokevirtual 82, 3) := by decide +kernel
theorem dX8_readGo_74 : decode cX8_readGo 74 = .ok (.ifCond .eq 13, 3) := by decide +kernel
theorem dX8_readGo_77 : decode cX8_readGo 77 = .ok (.aload_n 0, 1) := by decide +kernel
theorem dX8_readGo_78 : decode cX8_readGo 78 = .ok (.iconst 1, 1) := by decide +kernel
theorem dX8_readGo_79 : decode cX8_readGo 79 = .ok (.bipush 23, 2) := by decide +kernel
theorem dX8_readGo_81 : decode cX8_readGo 81 = .ok (.invokevirtual 86, 3) := by decide +kernel
theorem dX8_readGo_84 : decode cX8_readGo 84 = .ok (.ifCond .ne 5, 3) := by decide +kernel
theorem dX8_readGo_87 : decode cX8_readGo 87 = .ok (.iconst 0, 1) := by decide +kernel
theorem dX8_readGo_88 : decode cX8_readGo 88 = .ok (.ireturn, 1) := by decide +kernel
theorem dX8_readGo_89 : decode cX8_readGo 89 = .ok (.iload_n 1, 1) := by decide +kernel
theorem dX8_readGo_90 : decode cX8_readGo 90 = .ok (.bipush 24, 2) := by decide +kernel
theorem dX8_readGo_92 : decode cX8_readGo 92 = .ok (.imul, 1) := by decide +kernel
theorem dX8_readGo_93 : decode cX8_readGo 93 = .ok (.aload_n 0, 1) := by decide +kernel
theorem dX8_readGo_94 : decode cX8_readGo 94 = .ok (.getfield 22, 3) := by decide +kernel
theorem dX8_readGo_97 : decode cX8_readGo 97 = .ok (.getfield 90, 3) := by decide +kernel
theorem dX8_readGo_100 : decode cX8_readGo 100 = .ok (.iadd, 1) := by decide +kernel
theorem dX8_readGo_101 : decode cX8_readGo 101 = .ok (.istore_n 2, 1) := by decide +kernel
theorem dX8_readGo_102 : decode cX8_readGo 102 = .ok (.aload_n 0, 1) := by decide +kernel
theorem dX8_readGo_103 : decode cX8_readGo 103 = .ok (.getfield 18, 3) := by decide +kernel
theorem dX8_readGo_106 : decode cX8_readGo 106 = .ok (.iload_n 2, 1) := by decide +kernel
theorem dX8_readGo_107 : decode cX8_readGo 107 = .ok (.iaload, 1) := by decide +kernel
theorem dX8_readGo_108 : decode cX8_readGo 108 = .ok (.iconst (-1), 1) := by decide +kernel
theorem dX8_readGo_109 : decode cX8_readGo 109 = .ok (.if_icmp .eq 12, 3) := by decide +kernel
theorem dX8_readGo_112 : decode cX8_readGo 112 = .ok (.aload_n 0, 1) := by decide +kernel
theorem dX8_readGo_113 : decode cX8_readGo 113 = .ok (.getfield 22, 3) := by decide +kernel
theorem dX8_readGo_116 : decode cX8_readGo 116 = .ok (.iconst 3, 1) := by decide +kernel
theorem dX8_readGo_117 : decode cX8_readGo 117 = .ok (.invokevirtual 134, 3) := by decide +kernel
theorem dX8_readGo_120 : decode cX8_readGo 120 = .ok (.ireturn, 1) := by decide +kernel
theorem dX8_readGo_121 : decode cX8_readGo 121 = .ok (.aload_n 0, 1) := by decide +kernel
theorem dX8_readGo_122 : decode cX8_readGo 122 = .ok (.getfield 22, 3) := by decide +kernel
theorem dX8_readGo_125 : decode cX8_readGo 125 = .ok (.invokevirtual 96, 3) := by decide +kernel
theorem dX8_readGo_128 : decode cX8_readGo 128 = .ok (.pop, 1) := by decide +kernel
theorem dX8_readGo_129 : decode cX8_readGo 129 = .ok (.aload_n 0, 1) := by decide +kernel
theorem dX8_readGo_130 : decode cX8_readGo 130 = .ok (.iconst 2, 1) := by decide +kernel
theorem dX8_readGo_131 : decode cX8_readGo 131 = .ok (.invokevirtual 82, 3) := by decide +kernel
theorem dX8_readGo_134 : decode cX8_readGo 134 = .ok (.ifCond .eq 10, 3) := by decide +kernel
theorem dX8_readGo_137 : decode cX8_readGo 137 = .ok (.aload_n 0, 1) := by decide +kernel
theorem dX8_readGo_138 : decode cX8_readGo 138 = .ok (.invokevirtual 150, 3) := by decide +kernel
theorem dX8_readGo_141 : decode cX8_readGo 141 = .ok (.ifCond .ne 5, 3) := by decide +kernel
theorem dX8_readGo_144 : decode cX8_readGo 144 = .ok (.iconst 0, 1) := by decide +kernel
theorem dX8_readGo_145 : decode cX8_readGo 145 = .ok (.ireturn, 1) := by decide +kernel
theorem dX8_readGo_146 : decode cX8_readGo 146 = .ok (.aload_n 0, 1) := by decide +kernel
theorem dX8_readGo_147 : decode cX8_readGo 147 = .ok (.getfield 18, 3) := by decide +kernel
theorem dX8_readGo_150 : decode cX8_readGo 150 = .ok (.iload_n 2, 1) := by decide +kernel
theorem dX8_readGo_151 : decode cX8_readGo 151 = .ok (.aload_n 0, 1) := by decide +kernel
theorem dX8_readGo_152 : decode cX8_readGo 152 = .ok (.getfield 153, 3) := by decide +kernel
theorem dX8_readGo_155 : decode cX8_readGo 155 = .ok (.iastore, 1) := by decide +kernel
theorem dX8_readGo_156 : decode cX8_readGo 156 = .ok (.aload_n 0, 1) := by decide +kernel
theorem dX8_readGo_157 : decode cX8_readGo 157 = .ok (.invokevirtual 102, 3) := by decide +kernel
theorem dX8_readGo_160 : decode cX8_readGo 160 = .ok (.ireturn, 1) := by decide +kernel
theorem dX8_readBird_0 : decode cX8_readBird 0 = .ok (.aload_n 0, 1) := by decide +kernel
theorem dX8_readBird_1 : decode cX8_readBird 1 = .ok (.getfield 26, 3) := by decide +kernel
theorem dX8_readBird_4 : decode cX8_readBird 4 = .ok (.getfield 166, 3) := by decide +kernel
theorem dX8_readBird_7 : decode cX8_readBird 7 = .ok (.istore_n 1, 1) := by decide +kernel
theorem dX8_readBird_8 : decode cX8_readBird 8 = .ok (.iload_n 1, 1) := by decide +kernel
theorem dX8_readBird_9 : decode cX8_readBird 9 = .ok (.iconst 5, 1) := by decide +kernel
theorem dX8_readBird_10 : decode cX8_readBird 10 = .ok (.if_icmp .lt 12, 3) := by decide +kernel
theorem dX8_readBird_13 : decode cX8_readBird 13 = .ok (.aload_n 0, 1) := by decide +kernel
theorem dX8_readBird_14 : decode cX8_readBird 14 = .ok (.getfield 22, 3) := by decide +kernel
theorem dX8_readBird_17 : decode cX8_readBird 17 = .ok (.iconst 5, 1) := by decide +kernel
theorem dX8_readBird_18 : decode cX8_readBird 18 = .ok (.invokevirtual 134, 3) := by decide +kernel
theorem dX8_readBird_21 : decode cX8_readBird 21 = .ok (.ireturn, 1) := by decide +kernel
theorem dX8_readBird_22 : decode cX8_readBird 22 = .ok (.aload_n 0, 1) := by decide +kernel
theorem dX8_readBird_23 : decode cX8_readBird 23 = .ok (.getfield 22, 3) := by decide +kernel
theorem dX8_readBird_26 : decode cX8_readBird 26 = .ok (.invokevirtual 96, 3) := by decide +kernel
theorem dX8_readBird_29 : decode cX8_readBird 29 = .ok (.pop, 1) := by decide +kernel
theorem dX8_readBird_30 : decode cX8_readBird 30 = .ok (.aload_n 0, 1) := by decide +kernel
theorem dX8_readBird_31 : decode cX8_readBird 31 = .ok (.invokevirtual 140, 3) := by decide +kernel
theorem dX8_readBird_34 : decode cX8_readBird 34 = .ok (.ifCond .ne 5, 3) := by decide +kernel
theorem dX8_readBird_37 : decode cX8_readBird 37 = .ok (.iconst 0, 1) := by decide +kernel
theorem dX8_readBird_38 : decode cX8_readBird 38 = .ok (.ireturn, 1) := by decide +kernel
theorem dX8_readBird_39 : decode cX8_readBird 39 = .ok (.aload_n 0, 1) := by decide +kernel
theorem dX8_readBird_40 : decode cX8_readBird 40 = .ok (.getfield 15, 3) := by decide +kernel
theorem dX8_readBird_43 : decode cX8_readBird 43 = .ok (.iload_n 1, 1) := by decide +kernel
theorem dX8_readBird_44 : decode cX8_readBird 44 = .ok (.aload_n 0, 1) := by decide +kernel
theorem dX8_readBird_45 : decode cX8_readBird 45 = .ok (.getfield 22, 3) := by decide +kernel
theorem dX8_readBird_48 : decode cX8_readBird 48 = .ok (.getfield 143, 3) := by decide +kernel
theorem dX8_readBird_51 : decode cX8_readBird 51 = .ok (.lastore, 1) := by decide +kernel
theorem dX8_readBird_52 : decode cX8_readBird 52 = .ok (.aload_n 0, 1) := by decide +kernel
theorem dX8_readBird_53 : decode cX8_readBird 53 = .ok (.getfield 22, 3) := by decide +kernel
theorem dX8_readBird_56 : decode cX8_readBird 56 = .ok (.invokevirtual 96, 3) := by decide +kernel
theorem dX8_readBird_59 : decode cX8_readBird 59 = .ok (.pop, 1) := by decide +kernel
theorem dX8_readBird_60 : decode cX8_readBird 60 = .ok (.aload_n 0, 1) := by decide +kernel
theorem dX8_readBird_61 : decode cX8_readBird 61 = .ok (.iconst 2, 1) := by decide +kernel
theorem dX8_readBird_62 : decode cX8_readBird 62 = .ok (.invokevirtual 82, 3) := by decide +kernel
theorem dX8_readBird_65 : decode cX8_readBird 65 = .ok (.ifCond .eq 10, 3) := by decide +kernel
theorem dX8_readBird_68 : decode cX8_readBird 68 = .ok (.aload_n 0, 1) := by decide +kernel
theorem dX8_readBird_69 : decode cX8_readBird 69 = .ok (.invokevirtual 150, 3) := by decide +kernel
theorem dX8_readBird_72 : decode cX8_readBird 72 = .ok (.ifCond .ne 5, 3) := by decide +kernel
theorem dX8_readBird_75 : decode cX8_readBird 75 = .ok (.iconst 0, 1) := by decide +kernel
theorem dX8_readBird_76 : decode cX8_readBird 76 = .ok (.ireturn, 1) := by decide +kernel
theorem dX8_readBird_77 : decode cX8_readBird 77 = .ok (.aload_n 0, 1) := by decide +kernel
theorem dX8_readBird_78 : decode cX8_readBird 78 = .ok (.getfield 26, 3) := by decide +kernel
theorem dX8_readBird_81 : decode cX8_readBird 81 = .ok (.getfield 169, 3) := by decide +kernel
theorem dX8_readBird_84 : decode cX8_readBird 84 = .ok (.iload_n 1, 1) := by decide +kernel
theorem dX8_readBird_85 : decode cX8_readBird 85 = .ok (.aload_n 0, 1) := by decide +kernel
theorem dX8_readBird_86 : decode cX8_readBird 86 = .ok (.getfield 153, 3) := by decide +kernel
theorem dX8_readBird_89 : decode cX8_readBird 89 = .ok (.iastore, 1) := by decide +kernel
theorem dX8_readBird_90 : decode cX8_readBird 90 = .ok (.aload_n 0, 1) := by decide +kernel
theorem dX8_readBird_91 : decode cX8_readBird 91 = .ok (.getfield 26, 3) := by decide +kernel
theorem dX8_readBird_94 : decode cX8_readBird 94 = .ok (.dup, 1) := by decide +kernel
theorem dX8_readBird_95 : decode cX8_readBird 95 = .ok (.getfield 166, 3) := by decide +kernel
theorem dX8_readBird_98 : decode cX8_readBird 98 = .ok (.iconst 1, 1) := by decide +kernel
theorem dX8_readBird_99 : decode cX8_readBird 99 = .ok (.iadd, 1) := by decide +kernel
theorem dX8_readBird_100 : decode cX8_readBird 100 = .ok (.putfield 166, 3) := by decide +kernel
theorem dX8_readBird_103 : decode cX8_readBird 103 = .ok (.aload_n 0, 1) := by decide +kernel
theorem dX8_readBird_104 : decode cX8_readBird 104 = .ok (.invokevirtual 102, 3) := by decide +kernel
theorem dX8_readBird_107 : decode cX8_readBird 107 = .ok (.ireturn, 1) := by decide +kernel
theorem dX8_readCall_0 : decode cX8_readCall 0 = .ok (.aload_n 0, 1) := by decide +kernel
theorem dX8_readCall_1 : decode cX8_readCall 1 = .ok (.getfield 54, 3) := by decide +kernel
theorem dX8_readCall_4 : decode cX8_readCall 4 = .ok (.bipush 30, 2) := by decide +kernel
theorem dX8_readCall_6 : decode cX8_readCall 6 = .ok (.if_icmp .lt 12, 3) := by decide +kernel
theorem dX8_readCall_9 : decode cX8_readCall 9 = .ok (.aload_n 0, 1) := by decide +kernel
theorem dX8_readCall_10 : decode cX8_readCall 10 = .ok (.getfield 22, 3) := by decide +kernel
theorem dX8_readCall_13 : decode cX8_readCall 13 = .ok (.iconst 5, 1) := by decide +kernel
theorem dX8_readCall_14 : decode cX8_readCall 14 = .ok (.invokevirtual 134, 3) := by decide +kernel
theorem dX8_readCall_17 : decode cX8_readCall 17 = .ok (.ireturn, 1) := by decide +kernel
theorem dX8_readCall_18 : decode cX8_readCall 18 = .ok (.aload_n 0, 1) := by decide +kernel
theorem dX8_readCall_19 : decode cX8_readCall 19 = .ok (.dup, 1) := by decide +kernel
theorem dX8_readCall_20 : decode cX8_readCall 20 = .ok (.getfield 54, 3) := by decide +kernel
theorem dX8_readCall_23 : decode cX8_readCall 23 = .ok (.iconst 1, 1) := by decide +kernel
theorem dX8_readCall_24 : decode cX8_readCall 24 = .ok (.iadd, 1) := by decide +kernel
theorem dX8_readCall_25 : decode cX8_readCall 25 = .ok (.putfield 54, 3) := by decide +kernel
theorem dX8_readCall_28 : decode cX8_readCall 28 = .ok (.aload_n 0, 1) := by decide +kernel
theorem dX8_readCall_29 : decode cX8_readCall 29 = .ok (.getfield 22, 3) := by decide +kernel
theorem dX8_readCall_32 : decode cX8_readCall 32 = .ok (.invokevirtual 96, 3) := by decide +kernel
theorem dX8_readCall_35 : decode cX8_readCall 35 = .ok (.pop, 1) := by decide +kernel
theorem dX8_readCall_36 : decode cX8_readCall 36 = .ok (.aload_n 0, 1) := by decide +kernel
theorem dX8_readCall_37 : decode cX8_readCall 37 = .ok (.aload_n 0, 1) := by decide +kernel
theorem dX8_readCall_38 : decode cX8_readCall 38 = .ok (.getfield 15, 3) := by decide +kernel
theorem dX8_readCall_41 : decode cX8_readCall 41 = .ok (.aload_n 0, 1) := by decide +kernel
theorem dX8_readCall_42 : decode cX8_readCall 42 = .ok (.getfield 26, 3) := by decide +kernel
theorem dX8_readCall_45 : decode cX8_readCall 45 = .ok (.getfield 166, 3) := by decide +kernel
theorem dX8_readCall_48 : decode cX8_readCall 48 = .ok (.invokevirtual 159, 3) := by decide +kernel
theorem dX8_readCall_51 : decode cX8_readCall 51 = .ok (.ifCond .ne 5, 3) := by decide +kernel
theorem dX8_readCall_54 : decode cX8_readCall 54 = .ok (.iconst 0, 1) := by decide +kernel
theorem dX8_readCall_55 : decode cX8_readCall 55 = .ok (.ireturn, 1) := by decide +kernel
theorem dX8_readCall_56 : decode cX8_readCall 56 = .ok (.aload_n 0, 1) := by decide +kernel
theorem dX8_readCall_57 : decode cX8_readCall 57 = .ok (.getfield 163, 3) := by decide +kernel
theorem dX8_readCall_60 : decode cX8_readCall 60 = .ok (.istore_n 1, 1) := by decide +kernel
theorem dX8_readCall_61 : decode cX8_readCall 61 = .ok (.aload_n 0, 1) := by decide +kernel
theorem dX8_readCall_62 : decode cX8_readCall 62 = .ok (.getfield 22, 3) := by decide +kernel
theorem dX8_readCall_65 : decode cX8_readCall 65 = .ok (.invokevirtual 96, 3) := by decide +kernel
theorem dX8_readCall_68 : decode cX8_readCall 68 = .ok (.pop, 1) := by decide +kernel
theorem dX8_readCall_69 : decode cX8_readCall 69 = .ok (.aload_n 0, 1) := by decide +kernel
theorem dX8_readCall_70 : decode cX8_readCall 70 = .ok (.iconst 5, 1) := by decide +kernel
theorem dX8_readCall_71 : decode cX8_readCall 71 = .ok (.invokevirtual 82, 3) := by decide +kernel
theorem dX8_readCall_74 : decode cX8_readCall 74 = .ok (.ifCond .eq 13, 3) := by decide +kernel
theorem dX8_readCall_77 : decode cX8_readCall 77 = .ok (.aload_n 0, 1) := by decide +kernel
theorem dX8_readCall_78 : decode cX8_readCall 78 = .ok (.iconst 0, 1) := by decide +kernel
theorem dX8_readCall_79 : decode cX8_readCall 79 = .ok (.bipush 23, 2) := by decide +kernel
theorem dX8_readCall_81 : decode cX8_readCall 81 = .ok (.invokevirtual 86, 3) := by decide +kernel
theorem dX8_readCall_84 : decode cX8_readCall 84 = .ok (.ifCond .ne 5, 3) := by decide +kernel
theorem dX8_readCall_87 : decode cX8_readCall 87 = .ok (.iconst 0, 1) := by decide +kernel
theorem dX8_readCall_88 : decode cX8_readCall 88 = .ok (.ireturn, 1) := by decide +kernel
theorem dX8_readCall_89 : decode cX8_readCall 89 = .ok (.iload_n 1, 1) := by decide +kernel
theorem dX8_readCall_90 : decode cX8_readCall 90 = .ok (.bipush 24, 2) := by decide +kernel
theorem dX8_readCall_92 : decode cX8_readCall 92 = .ok (.imul, 1) := by decide +kernel
theorem dX8_readCall_93 : decode cX8_readCall 93 = .ok (.aload_n 0, 1) := by decide +kernel
theorem dX8_readCall_94 : decode cX8_readCall 94 = .ok (.getfield 22, 3) := by decide +kernel
theorem dX8_readCall_97 : decode cX8_readCall 97 = .ok (.getfield 90, 3) := by decide +kernel
theorem dX8_readCall_100 : decode cX8_readCall 100 = .ok (.iadd, 1) := by decide +kernel
theorem dX8_readCall_101 : decode cX8_readCall 101 = .ok (.istore_n 2, 1) := by decide +kernel
theorem dX8_readCall_102 : decode cX8_readCall 102 = .ok (.aload_n 0, 1) := by decide +kernel
theorem dX8_readCall_103 : decode cX8_readCall 103 = .ok (.getfield 26, 3) := by decide +kernel
theorem dX8_readCall_106 : decode cX8_readCall 106 = .ok (.getfield 172, 3) := by decide +kernel
theorem dX8_readCall_109 : decode cX8_readCall 109 = .ok (.iload_n 2, 1) := by decide +kernel
theorem dX8_readCall_110 : decode cX8_readCall 110 = .ok (.iaload, 1) := by decide +kernel
theorem dX8_readCall_111 : decode cX8_readCall 111 = .ok (.ifCond .eq 12, 3) := by decide +kernel
theorem dX8_readCall_114 : decode cX8_readCall 114 = .ok (.aload_n 0, 1) := by decide +kernel
theorem dX8_readCall_115 : decode cX8_readCall 115 = .ok (.getfield 22, 3) := by decide +kernel
theorem dX8_readCall_118 : decode cX8_readCall 118 = .ok (.iconst 3, 1) := by decide +kernel
theorem dX8_readCall_119 : decode cX8_readCall 119 = .ok (.invokevirtual 134, 3) := by decide +kernel
theorem dX8_readCall_122 : decode cX8_readCall 122 = .ok (.ireturn, 1) := by decide +kernel
theorem dX8_readCall_123 : decode cX8_readCall 123 = .ok (.aload_n 0, 1) := by decide +kernel
theorem dX8_readCall_124 : decode cX8_readCall 124 = .ok (.getfield 22, 3) := by decide +kernel
theorem dX8_readCall_127 : decode cX8_readCall 127 = .ok (.invokevirtual 96, 3) := by decide +kernel
theorem dX8_readCall_130 : decode cX8_readCall 130 = .ok (.pop, 1) := by decide +kernel
theorem dX8_readCall_131 : decode cX8_readCall 131 = .ok (.aload_n 0, 1) := by decide +kernel
theorem dX8_readCall_132 : decode cX8_readCall 132 = .ok (.bipush 8, 2) := by decide +kernel
theorem dX8_readCall_134 : decode cX8_readCall 134 = .ok (.invokevirtual 82, 3) := by decide +kernel
theorem dX8_readCall_137 : decode cX8_readCall 137 = .ok (.ifCond .eq 13, 3) := by decide +kernel
theorem dX8_readCall_140 : decode cX8_readCall 140 = .ok (.aload_n 0, 1) := by decide +kernel
theorem dX8_readCall_141 : decode cX8_readCall 141 = .ok (.iconst 1, 1) := by decide +kernel
theorem dX8_readCall_142 : decode cX8_readCall 142 = .ok (.bipush 9, 2) := by decide +kernel
theorem dX8_readCall_144 : decode cX8_readCall 144 = .ok (.invokevirtual 86, 3) := by decide +kernel
theorem dX8_readCall_147 : decode cX8_readCall 147 = .ok (.ifCond .ne 5, 3) := by decide +kernel
theorem dX8_readCall_150 : decode cX8_readCall 150 = .ok (.iconst 0, 1) := by decide +kernel
theorem dX8_readCall_151 : decode cX8_readCall 151 = .ok (.ireturn, 1) := by decide +kernel
theorem dX8_readCall_152 : decode cX8_readCall 152 = .ok (.aload_n 0, 1) := by decide +kernel
theorem dX8_readCall_153 : decode cX8_readCall 153 = .ok (.getfield 26, 3) := by decide +kernel
theorem dX8_readCall_156 : decode cX8_readCall 156 = .ok (.getfield 172, 3) := by decide +kernel
theorem dX8_readCall_159 : decode cX8_readCall 159 = .ok (.iload_n 2, 1) := by decide +kernel
theorem dX8_readCall_160 : decode cX8_readCall 160 = .ok (.aload_n 0, 1) := by decide +kernel
theorem dX8_readCall_161 : decode cX8_readCall 161 = .ok (.getfield 22, 3) := by decide +kernel
theorem dX8_readCall_164 : decode cX8_readCall 164 = .ok (.getfield 90, 3) := by decide +kernel
theorem dX8_readCall_167 : decode cX8_readCall 167 = .ok (.iastore, 1) := by decide +kernel
theorem dX8_readCall_168 : decode cX8_readCall 168 = .ok (.aload_n 0, 1) := by decide +kernel
theorem dX8_readCall_169 : decode cX8_readCall 169 = .ok (.getfield 22, 3) := by decide +kernel
theorem dX8_readCall_172 : decode cX8_readCall 172 = .ok (.invokevirtual 96, 3) := by decide +kernel
theorem dX8_readCall_175 : decode cX8_readCall 175 = .ok (.ifCond .eq 14, 3) := by decide +kernel
theorem dX8_readCall_178 : decode cX8_readCall 178 = .ok (.aload_n 0, 1) := by decide +kernel
theorem dX8_readCall_179 : decode cX8_readCall 179 = .ok (.invokevirtual 102, 3) := by decide +kernel
theorem dX8_readCall_182 : decode cX8_readCall 182 = .ok (.ifCond .eq 7, 3) := by decide +kernel
theorem dX8_readCall_185 : decode cX8_readCall 185 = .ok (.iconst 1, 1) := by decide +kernel
theorem dX8_readCall_186 : decode cX8_readCall 186 = .ok (.goto 4, 3) := by decide +kernel
theorem dX8_readCall_189 : decode cX8_readCall 189 = .ok (.iconst 0, 1) := by decide +kernel
theorem dX8_readCall_190 : decode cX8_readCall 190 = .ok (.ireturn, 1) := by decide +kernel
theorem dX8_readLaw_0 : decode cX8_readLaw 0 = .ok (.aload_n 1, 1) := by decide +kernel
theorem dX8_readLaw_1 : decode cX8_readLaw 1 = .ok (.getfield 175, 3) := by decide +kernel
theorem dX8_readLaw_4 : decode cX8_readLaw 4 = .ok (.ifCond .eq 12, 3) := by decide +kernel
theorem dX8_readLaw_7 : decode cX8_readLaw 7 = .ok (.aload_n 0, 1) := by decide +kernel
theorem dX8_readLaw_8 : decode cX8_readLaw 8 = .ok (.getfield 22, 3) := by decide +kernel
theorem dX8_readLaw_11 : decode cX8_readLaw 11 = .ok (.iconst 3, 1) := by decide +kernel
theorem dX8_readLaw_12 : decode cX8_readLaw 12 = .ok (.invokevirtual 134, 3) := by decide +kernel
theorem dX8_readLaw_15 : decode cX8_readLaw 15 = .ok (.ireturn, 1) := by decide +kernel
theorem dX8_readLaw_16 : decode cX8_readLaw 16 = .ok (.aload_n 0, 1) := by decide +kernel
theorem dX8_readLaw_17 : decode cX8_readLaw 17 = .ok (.getfield 22, 3) := by decide +kernel
theorem dX8_readLaw_20 : decode cX8_readLaw 20 = .ok (.invokevirtual 96, 3) := by decide +kernel
theorem dX8_readLaw_23 : decode cX8_readLaw 23 = .ok (.pop, 1) := by decide +kernel
theorem dX8_readLaw_24 : decode cX8_readLaw 24 = .ok (.aload_n 1, 1) := by decide +kernel
theorem dX8_readLaw_25 : decode cX8_readLaw 25 = .ok (.iconst 1, 1) := by decide +kernel
theorem dX8_readLaw_26 : decode cX8_readLaw 26 = .ok (.putfield 175, 3) := by decide +kernel
theorem dX8_readLaw_29 : decode cX8_readLaw 29 = .ok (.aload_n 1, 1) := by decide +kernel
theorem dX8_readLaw_30 : decode cX8_readLaw 30 = .ok (.aload_n 0, 1) := by decide +kernel
theorem dX8_readLaw_31 : decode cX8_readLaw 31 = .ok (.getfield 26, 3) := by decide +kernel
theorem dX8_readLaw_34 : decode cX8_readLaw 34 = .ok (.getfield 180, 3) := by decide +kernel
theorem dX8_readLaw_37 : decode cX8_readLaw 37 = .ok (.putfield 183, 3) := by decide +kernel
theorem dX8_readLaw_40 : decode cX8_readLaw 40 = .ok (.aload_n 0, 1) := by decide +kernel
theorem dX8_readLaw_41 : decode cX8_readLaw 41 = .ok (.getfield 35, 3) := by decide +kernel
theorem dX8_readLaw_44 : decode cX8_readLaw 44 = .ok (.aload_n 1, 1) := by decide +kernel
theorem dX8_readLaw_45 : decode cX8_readLaw 45 = .ok (.aload_n 0, 1) := by decide +kernel
theorem dX8_readLaw_46 : decode cX8_readLaw 46 = .ok (.getfield 26, 3) := by decide +kernel
theorem dX8_readLaw_49 : decode cX8_readLaw 49 = .ok (.getfield 120, 3) := by decide +kernel
theorem dX8_readLaw_52 : decode cX8_readLaw 52 = .ok (.if_acmp .ne 7, 3) := by decide +kernel
theorem dX8_readLaw_55 : decode cX8_readLaw 55 = .ok (.iconst 1, 1) := by decide +kernel
theorem dX8_readLaw_56 : decode cX8_readLaw 56 = .ok (.goto 4, 3) := by decide +kernel
theorem dX8_readLaw_59 : decode cX8_readLaw 59 = .ok (.iconst 0, 1) := by decide +kernel
theorem dX8_readLaw_60 : decode cX8_readLaw 60 = .ok (.putfield 186, 3) := by decide +kernel
theorem dX8_readLaw_63 : decode cX8_readLaw 63 = .ok (.aload_n 0, 1) := by decide +kernel
theorem dX8_readLaw_64 : decode cX8_readLaw 64 = .ok (.getfield 35, 3) := by decide +kernel
theorem dX8_readLaw_67 : decode cX8_readLaw 67 = .ok (.iconst 0, 1) := by decide +kernel
theorem dX8_readLaw_68 : decode cX8_readLaw 68 = .ok (.iconst 0, 1) := by decide +kernel
theorem dX8_readLaw_69 : decode cX8_readLaw 69 = .ok (.invokevirtual 189, 3) := by decide +kernel
theorem dX8_readLaw_72 : decode cX8_readLaw 72 = .ok (.ifCond .ne 5, 3) := by decide +kernel
theorem dX8_readLaw_75 : decode cX8_readLaw 75 = .ok (.iconst 0, 1) := by decide +kernel
theorem dX8_readLaw_76 : decode cX8_readLaw 76 = .ok (.ireturn, 1) := by decide +kernel
theorem dX8_readLaw_77 : decode cX8_readLaw 77 = .ok (.aload_n 1, 1) := by decide +kernel
theorem dX8_readLaw_78 : decode cX8_readLaw 78 = .ok (.aload_n 0, 1) := by decide +kernel
theorem dX8_readLaw_79 : decode cX8_readLaw 79 = .ok (.getfield 26, 3) := by decide +kernel
theorem dX8_readLaw_82 : decode cX8_readLaw 82 = .ok (.getfield 180, 3) := by decide +kernel
theorem dX8_readLaw_85 : decode cX8_readLaw 85 = .ok (.putfield 192, 3) := by decide +kernel
theorem dX8_readLaw_88 : decode cX8_readLaw 88 = .ok (.aload_n 0, 1) := by decide +kernel
theorem dX8_readLaw_89 : decode cX8_readLaw 89 = .ok (.invokevirtual 102, 3) := by decide +kernel
theorem dX8_readLaw_92 : decode cX8_readLaw 92 = .ok (.ireturn, 1) := by decide +kernel
theorem dX8_readHear_0 : decode cX8_readHear 0 = .ok (.aload_n 0, 1) := by decide +kernel
theorem dX8_readHear_1 : decode cX8_readHear 1 = .ok (.getfield 57, 3) := by decide +kernel
theorem dX8_readHear_4 : decode cX8_readHear 4 = .ok (.ifCond .eq 12, 3) := by decide +kernel
theorem dX8_readHear_7 : decode cX8_readHear 7 = .ok (.aload_n 0, 1) := by decide +kernel
theorem dX8_readHear_8 : decode cX8_readHear 8 = .ok (.getfield 22, 3) := by decide +kernel
theorem dX8_readHear_11 : decode cX8_readHear 11 = .ok (.iconst 3, 1) := by decide +kernel
theorem dX8_readHear_12 : decode cX8_readHear 12 = .ok (.invokevirtual 134, 3) := by decide +kernel
theorem dX8_readHear_15 : decode cX8_readHear 15 = .ok (.ireturn, 1) := by decide +kernel
theorem dX8_readHear_16 : decode cX8_readHear 16 = .ok (.aload_n 0, 1) := by decide +kernel
theorem dX8_readHear_17 : decode cX8_readHear 17 = .ok (.iconst 1, 1) := by decide +kernel
theorem dX8_readHear_18 : decode cX8_readHear 18 = .ok (.putfield 57, 3) := by decide +kernel
theorem dX8_readHear_21 : decode cX8_readHear 21 = .ok (.aload_n 0, 1) := by decide +kernel
theorem dX8_readHear_22 : decode cX8_readHear 22 = .ok (.getfield 22, 3) := by decide +kernel
theorem dX8_readHear_25 : decode cX8_readHear 25 = .ok (.invokevirtual 96, 3) := by decide +kernel
theorem dX8_readHear_28 : decode cX8_readHear 28 = .ok (.pop, 1) := by decide +kernel
theorem dX8_readHear_29 : decode cX8_readHear 29 = .ok (.aload_n 0, 1) := by decide +kernel
theorem dX8_readHear_30 : decode cX8_readHear 30 = .ok (.iconst 0, 1) := by decide +kernel
theorem dX8_readHear_31 : decode cX8_readHear 31 = .ok (.bipush 14, 2) := by decide +kernel
theorem dX8_readHear_33 : decode cX8_readHear 33 = .ok (.invokevirtual 86, 3) := by decide +kernel
theorem dX8_readHear_36 : decode cX8_readHear 36 = .ok (.ifCond .ne 5, 3) := by decide +kernel
theorem dX8_readHear_39 : decode cX8_readHear 39 = .ok (.iconst 0, 1) := by decide +kernel
theorem dX8_readHear_40 : decode cX8_readHear 40 = .ok (.ireturn, 1) := by decide +kernel
theorem dX8_readHear_41 : decode cX8_readHear 41 = .ok (.aload_n 0, 1) := by decide +kernel
theorem dX8_readHear_42 : decode cX8_readHear 42 = .ok (.getfield 26, 3) := by decide +kernel
theorem dX8_readHear_45 : decode cX8_readHear 45 = .ok (.aload_n 0, 1) := by decide +kernel
theorem dX8_readHear_46 : decode cX8_readHear 46 = .ok (.getfield 22, 3) := by decide +kernel
theorem dX8_readHear_49 : decode cX8_readHear 49 = .ok (.getfield 90, 3) := by decide +kernel
theorem dX8_readHear_52 : decode cX8_readHear 52 = .ok (.putfield 195, 3) := by decide +kernel
theorem dX8_readHear_55 : decode cX8_readHear 55 = .ok (.aload_n 0, 1) := by decide +kernel
theorem dX8_readHear_56 : decode cX8_readHear 56 = .ok (.getfield 22, 3) := by decide +kernel
theorem dX8_readHear_59 : decode cX8_readHear 59 = .ok (.invokevirtual 96, 3) := by decide +kernel
theorem dX8_readHear_62 : decode cX8_readHear 62 = .ok (.ifCond .eq 14, 3) := by decide +kernel
theorem dX8_readHear_65 : decode cX8_readHear 65 = .ok (.aload_n 0, 1) := by decide +kernel
theorem dX8_readHear_66 : decode cX8_readHear 66 = .ok (.invokevirtual 102, 3) := by decide +kernel
theorem dX8_readHear_69 : decode cX8_readHear 69 = .ok (.ifCond .eq 7, 3) := by decide +kernel
theorem dX8_readHear_72 : decode cX8_readHear 72 = .ok (.iconst 1, 1) := by decide +kernel
theorem dX8_readHear_73 : decode cX8_readHear 73 = .ok (.goto 4, 3) := by decide +kernel
theorem dX8_readHear_76 : decode cX8_readHear 76 = .ok (.iconst 0, 1) := by decide +kernel
theorem dX8_readHear_77 : decode cX8_readHear 77 = .ok (.ireturn, 1) := by decide +kernel
theorem dX8_takeKeyword_0 : decode cX8_takeKeyword 0 = .ok (.aload_n 0, 1) := by decide +kernel
theorem dX8_takeKeyword_1 : decode cX8_takeKeyword 1 = .ok (.getfield 22, 3) := by decide +kernel
theorem dX8_takeKeyword_4 : decode cX8_takeKeyword 4 = .ok (.getfield 105, 3) := by decide +kernel
theorem dX8_takeKeyword_7 : decode cX8_takeKeyword 7 = .ok (.iload_n 1, 1) := by decide +kernel
theorem dX8_takeKeyword_8 : decode cX8_takeKeyword 8 = .ok (.if_icmp .ne 13, 3) := by decide +kernel
theorem dX8_takeKeyword_11 : decode cX8_takeKeyword 11 = .ok (.aload_n 0, 1) := by decide +kernel
theorem dX8_takeKeyword_12 : decode cX8_takeKeyword 12 = .ok (.getfield 22, 3) := by decide +kernel
theorem dX8_takeKeyword_15 : decode cX8_takeKeyword 15 = .ok (.invokevirtual 96, 3) := by decide +kernel
theorem dX8_takeKeyword_18 : decode cX8_takeKeyword 18 = .ok (.goto 11, 3) := by decide +kernel
theorem dX8_takeKeyword_21 : decode cX8_takeKeyword 21 = .ok (.aload_n 0, 1) := by decide +kernel
theorem dX8_takeKeyword_22 : decode cX8_takeKeyword 22 = .ok (.getfield 22, 3) := by decide +kernel
theorem dX8_takeKeyword_25 : decode cX8_takeKeyword 25 = .ok (.iconst 1, 1) := by decide +kernel
theorem dX8_takeKeyword_26 : decode cX8_takeKeyword 26 = .ok (.invokevirtual 134, 3) := by decide +kernel
theorem dX8_takeKeyword_29 : decode cX8_takeKeyword 29 = .ok (.ireturn, 1) := by decide +kernel
theorem dX8_takeEnd_0 : decode cX8_takeEnd 0 = .ok (.aload_n 0, 1) := by decide +kernel
theorem dX8_takeEnd_1 : decode cX8_takeEnd 1 = .ok (.getfield 22, 3) := by decide +kernel
theorem dX8_takeEnd_4 : decode cX8_takeEnd 4 = .ok (.getfield 73, 3) := by decide +kernel
theorem dX8_takeEnd_7 : decode cX8_takeEnd 7 = .ok (.bipush 59, 2) := by decide +kernel
theorem dX8_takeEnd_9 : decode cX8_takeEnd 9 = .ok (.if_icmp .ne 13, 3) := by decide +kernel
theorem dX8_takeEnd_12 : decode cX8_takeEnd 12 = .ok (.aload_n 0, 1) := by decide +kernel
theorem dX8_takeEnd_13 : decode cX8_takeEnd 13 = .ok (.getfield 22, 3) := by decide +kernel
theorem dX8_takeEnd_16 : decode cX8_takeEnd 16 = .ok (.invokevirtual 96, 3) := by decide +kernel
theorem dX8_takeEnd_19 : decode cX8_takeEnd 19 = .ok (.goto 11, 3) := by decide +kernel
theorem dX8_takeEnd_22 : decode cX8_takeEnd 22 = .ok (.aload_n 0, 1) := by decide +kernel
theorem dX8_takeEnd_23 : decode cX8_takeEnd 23 = .ok (.getfield 22, 3) := by decide +kernel
theorem dX8_takeEnd_26 : decode cX8_takeEnd 26 = .ok (.iconst 1, 1) := by decide +kernel
theorem dX8_takeEnd_27 : decode cX8_takeEnd 27 = .ok (.invokevirtual 134, 3) := by decide +kernel
theorem dX8_takeEnd_30 : decode cX8_takeEnd 30 = .ok (.ireturn, 1) := by decide +kernel
theorem dX8_takeCell_0 : decode cX8_takeCell 0 = .ok (.aload_n 0, 1) := by decide +kernel
theorem dX8_takeCell_1 : decode cX8_takeCell 1 = .ok (.iconst 0, 1) := by decide +kernel
theorem dX8_takeCell_2 : decode cX8_takeCell 2 = .ok (.aload_n 0, 1) := by decide +kernel
theorem dX8_takeCell_3 : decode cX8_takeCell 3 = .ok (.getfield 26, 3) := by decide +kernel
theorem dX8_takeCell_6 : decode cX8_takeCell 6 = .ok (.getfield 93, 3) := by decide +kernel
theorem dX8_takeCell_9 : decode cX8_takeCell 9 = .ok (.iconst 1, 1) := by decide +kernel
theorem dX8_takeCell_10 : decode cX8_takeCell 10 = .ok (.isub, 1) := by decide +kernel
theorem dX8_takeCell_11 : decode cX8_takeCell 11 = .ok (.invokevirtual 86, 3) := by decide +kernel
theorem dX8_takeCell_14 : decode cX8_takeCell 14 = .ok (.ifCond .ne 5, 3) := by decide +kernel
theorem dX8_takeCell_17 : decode cX8_takeCell 17 = .ok (.iconst 0, 1) := by decide +kernel
theorem dX8_takeCell_18 : decode cX8_takeCell 18 = .ok (.ireturn, 1) := by decide +kernel
theorem dX8_takeCell_19 : decode cX8_takeCell 19 = .ok (.aload_n 0, 1) := by decide +kernel
theorem dX8_takeCell_20 : decode cX8_takeCell 20 = .ok (.getfield 22, 3) := by decide +kernel
theorem dX8_takeCell_23 : decode cX8_takeCell 23 = .ok (.getfield 90, 3) := by decide +kernel
theorem dX8_takeCell_26 : decode cX8_takeCell 26 = .ok (.istore_n 1, 1) := by decide +kernel
theorem dX8_takeCell_27 : decode cX8_takeCell 27 = .ok (.aload_n 0, 1) := by decide +kernel
theorem dX8_takeCell_28 : decode cX8_takeCell 28 = .ok (.getfield 22, 3) := by decide +kernel
theorem dX8_takeCell_31 : decode cX8_takeCell 31 = .ok (.invokevirtual 96, 3) := by decide +kernel
theorem dX8_takeCell_34 : decode cX8_takeCell 34 = .ok (.pop, 1) := by decide +kernel
theorem dX8_takeCell_35 : decode cX8_takeCell 35 = .ok (.aload_n 0, 1) := by decide +kernel
theorem dX8_takeCell_36 : decode cX8_takeCell 36 = .ok (.iconst 0, 1) := by decide +kernel
theorem dX8_takeCell_37 : decode cX8_takeCell 37 = .ok (.aload_n 0, 1) := by decide +kernel
theorem dX8_takeCell_38 : decode cX8_takeCell 38 = .ok (.getfield 26, 3) := by decide +kernel
theorem dX8_takeCell_41 : decode cX8_takeCell 41 = .ok (.getfield 99, 3) := by decide +kernel
theorem dX8_takeCell_44 : decode cX8_takeCell 44 = .ok (.iconst 1, 1) := by decide +kernel
theorem dX8_takeCell_45 : decode cX8_takeCell 45 = .ok (.isub, 1) := by decide +kernel
theorem dX8_takeCell_46 : decode cX8_takeCell 46 = .ok (.invokevirtual 86, 3) := by decide +kernel
theorem dX8_takeCell_49 : decode cX8_takeCell 49 = .ok (.ifCond .ne 5, 3) := by decide +kernel
theorem dX8_takeCell_52 : decode cX8_takeCell 52 = .ok (.iconst 0, 1) := by decide +kernel
theorem dX8_takeCell_53 : decode cX8_takeCell 53 = .ok (.ireturn, 1) := by decide +kernel
theorem dX8_takeCell_54 : decode cX8_takeCell 54 = .ok (.aload_n 0, 1) := by decide +kernel
theorem dX8_takeCell_55 : decode cX8_takeCell 55 = .ok (.aload_n 0, 1) := by decide +kernel
theorem dX8_takeCell_56 : decode cX8_takeCell 56 = .ok (.getfield 22, 3) := by decide +kernel
theorem dX8_takeCell_59 : decode cX8_takeCell 59 = .ok (.getfield 90, 3) := by decide +kernel
theorem dX8_takeCell_62 : decode cX8_takeCell 62 = .ok (.bipush 8, 2) := by decide +kernel
theorem dX8_takeCell_64 : decode cX8_takeCell 64 = .ok (.imul, 1) := by decide +kernel
theorem dX8_takeCell_65 : decode cX8_takeCell 65 = .ok (.iload_n 1, 1) := by decide +kernel
theorem dX8_takeCell_66 : decode cX8_takeCell 66 = .ok (.iadd, 1) := by decide +kernel
theorem dX8_takeCell_67 : decode cX8_takeCell 67 = .ok (.putfield 153, 3) := by decide +kernel
theorem dX8_takeCell_70 : decode cX8_takeCell 70 = .ok (.aload_n 0, 1) := by decide +kernel
theorem dX8_takeCell_71 : decode cX8_takeCell 71 = .ok (.getfield 22, 3) := by decide +kernel
theorem dX8_takeCell_74 : decode cX8_takeCell 74 = .ok (.invokevirtual 96, 3) := by decide +kernel
theorem dX8_takeCell_77 : decode cX8_takeCell 77 = .ok (.ireturn, 1) := by decide +kernel
theorem dX8_isNumber_0 : decode cX8_isNumber 0 = .ok (.aload_n 0, 1) := by decide +kernel
theorem dX8_isNumber_1 : decode cX8_isNumber 1 = .ok (.getfield 22, 3) := by decide +kernel
theorem dX8_isNumber_4 : decode cX8_isNumber 4 = .ok (.getfield 73, 3) := by decide +kernel
theorem dX8_isNumber_7 : decode cX8_isNumber 7 = .ok (.iconst 3, 1) := by decide +kernel
theorem dX8_isNumber_8 : decode cX8_isNumber 8 = .ok (.if_icmp .eq 12, 3) := by decide +kernel
theorem dX8_isNumber_11 : decode cX8_isNumber 11 = .ok (.aload_n 0, 1) := by decide +kernel
theorem dX8_isNumber_12 : decode cX8_isNumber 12 = .ok (.getfield 22, 3) := by decide +kernel
theorem dX8_isNumber_15 : decode cX8_isNumber 15 = .ok (.iconst 1, 1) := by decide +kernel
theorem dX8_isNumber_16 : decode cX8_isNumber 16 = .ok (.invokevirtual 134, 3) := by decide +kernel
theorem dX8_isNumber_19 : decode cX8_isNumber 19 = .ok (.ireturn, 1) := by decide +kernel
theorem dX8_isNumber_20 : decode cX8_isNumber 20 = .ok (.aload_n 0, 1) := by decide +kernel
theorem dX8_isNumber_21 : decode cX8_isNumber 21 = .ok (.getfield 22, 3) := by decide +kernel
theorem dX8_isNumber_24 : decode cX8_isNumber 24 = .ok (.getfield 90, 3) := by decide +kernel
theorem dX8_isNumber_27 : decode cX8_isNumber 27 = .ok (.iload_n 1, 1) := by decide +kernel
theorem dX8_isNumber_28 : decode cX8_isNumber 28 = .ok (.if_icmp .lt 14, 3) := by decide +kernel
theorem dX8_isNumber_31 : decode cX8_isNumber 31 = .ok (.aload_n 0, 1) := by decide +kernel
theorem dX8_isNumber_32 : decode cX8_isNumber 32 = .ok (.getfield 22, 3) := by decide +kernel
theorem dX8_isNumber_35 : decode cX8_isNumber 35 = .ok (.getfield 90, 3) := by decide +kernel
theorem dX8_isNumber_38 : decode cX8_isNumber 38 = .ok (.iload_n 2, 1) := by decide +kernel
theorem dX8_isNumber_39 : decode cX8_isNumber 39 = .ok (.if_icmp .le 14, 3) := by decide +kernel
theorem dX8_isNumber_42 : decode cX8_isNumber 42 = .ok (.aload_n 0, 1) := by decide +kernel
theorem dX8_isNumber_43 : decode cX8_isNumber 43 = .ok (.getfield 22, 3) := by decide +kernel
theorem dX8_isNumber_46 : decode cX8_isNumber 46 = .ok (.iconst 4, 1) := by decide +kernel
theorem dX8_isNumber_47 : decode cX8_isNumber 47 = .ok (.invokevirtual 134, 3) := by decide +kernel
theorem dX8_isNumber_50 : decode cX8_isNumber 50 = .ok (.ifCond .eq 7, 3) := by decide +kernel
theorem dX8_isNumber_53 : decode cX8_isNumber 53 = .ok (.iconst 1, 1) := by decide +kernel
theorem dX8_isNumber_54 : decode cX8_isNumber 54 = .ok (.goto 4, 3) := by decide +kernel
theorem dX8_isNumber_57 : decode cX8_isNumber 57 = .ok (.iconst 0, 1) := by decide +kernel
theorem dX8_isNumber_58 : decode cX8_isNumber 58 = .ok (.ireturn, 1) := by decide +kernel
theorem dX8_isNewName_0 : decode cX8_isNewName 0 = .ok (.aload_n 0, 1) := by decide +kernel
theorem dX8_isNewName_1 : decode cX8_isNewName 1 = .ok (.getfield 22, 3) := by decide +kernel
theorem dX8_isNewName_4 : decode cX8_isNewName 4 = .ok (.invokevirtual 198, 3) := by decide +kernel
theorem dX8_isNewName_7 : decode cX8_isNewName 7 = .ok (.ifCond .ne 12, 3) := by decide +kernel
theorem dX8_isNewName_10 : decode cX8_isNewName 10 = .ok (.aload_n 0, 1) := by decide +kernel
theorem dX8_isNewName_11 : decode cX8_isNewName 11 = .ok (.getfield 22, 3) := by decide +kernel
theorem dX8_isNewName_14 : decode cX8_isNewName 14 = .ok (.iconst 1, 1) := by decide +kernel
theorem dX8_isNewName_15 : decode cX8_isNewName 15 = .ok (.invokevirtual 134, 3) := by decide +kernel
theorem dX8_isNewName_18 : decode cX8_isNewName 18 = .ok (.ireturn, 1) := by decide +kernel
theorem dX8_isNewName_19 : decode cX8_isNewName 19 = .ok (.aload_n 0, 1) := by decide +kernel
theorem dX8_isNewName_20 : decode cX8_isNewName 20 = .ok (.aload_n 0, 1) := by decide +kernel
theorem dX8_isNewName_21 : decode cX8_isNewName 21 = .ok (.getfield 9, 3) := by decide +kernel
theorem dX8_isNewName_24 : decode cX8_isNewName 24 = .ok (.aload_n 0, 1) := by decide +kernel
theorem dX8_isNewName_25 : decode cX8_isNewName 25 = .ok (.getfield 26, 3) := by decide +kernel
theorem dX8_isNewName_28 : decode cX8_isNewName 28 = .ok (.getfield 137, 3) := by decide +kernel
theorem dX8_isNewName_31 : decode cX8_isNewName 31 = .ok (.invokevirtual 201, 3) := by decide +kernel
theorem dX8_isNewName_34 : decode cX8_isNewName 34 = .ok (.iconst (-1), 1) := by decide +kernel
theorem dX8_isNewName_35 : decode cX8_isNewName 35 = .ok (.if_icmp .ne 22, 3) := by decide +kernel
theorem dX8_isNewName_38 : decode cX8_isNewName 38 = .ok (.aload_n 0, 1) := by decide +kernel
theorem dX8_isNewName_39 : decode cX8_isNewName 39 = .ok (.aload_n 0, 1) := by decide +kernel
theorem dX8_isNewName_40 : decode cX8_isNewName 40 = .ok (.getfield 15, 3) := by decide +kernel
theorem dX8_isNewName_43 : decode cX8_isNewName 43 = .ok (.aload_n 0, 1) := by decide +kernel
theorem dX8_isNewName_44 : decode cX8_isNewName 44 = .ok (.getfield 26, 3) := by decide +kernel
theorem dX8_isNewName_47 : decode cX8_isNewName 47 = .ok (.getfield 166, 3) := by decide +kernel
theorem dX8_isNewName_50 : decode cX8_isNewName 50 = .ok (.invokevirtual 201, 3) := by decide +kernel
theorem dX8_isNewName_53 : decode cX8_isNewName 53 = .ok (.iconst (-1), 1) := by decide +kernel
theorem dX8_isNewName_54 : decode cX8_isNewName 54 = .ok (.if_icmp .eq 7, 3) := by decide +kernel
theorem dX8_isNewName_57 : decode cX8_isNewName 57 = .ok (.iconst 1, 1) := by decide +kernel
theorem dX8_isNewName_58 : decode cX8_isNewName 58 = .ok (.goto 4, 3) := by decide +kernel
theorem dX8_isNewName_61 : decode cX8_isNewName 61 = .ok (.iconst 0, 1) := by decide +kernel
theorem dX8_isNewName_62 : decode cX8_isNewName 62 = .ok (.istore_n 1, 1) := by decide +kernel
theorem dX8_isNewName_63 : decode cX8_isNewName 63 = .ok (.iload_n 1, 1) := by decide +kernel
theorem dX8_isNewName_64 : decode cX8_isNewName 64 = .ok (.ifCond .eq 14, 3) := by decide +kernel
theorem dX8_isNewName_67 : decode cX8_isNewName 67 = .ok (.aload_n 0, 1) := by decide +kernel
theorem dX8_isNewName_68 : decode cX8_isNewName 68 = .ok (.getfield 22, 3) := by decide +kernel
theorem dX8_isNewName_71 : decode cX8_isNewName 71 = .ok (.iconst 3, 1) := by decide +kernel
theorem dX8_isNewName_72 : decode cX8_isNewName 72 = .ok (.invokevirtual 134, 3) := by decide +kernel
theorem dX8_isNewName_75 : decode cX8_isNewName 75 = .ok (.ifCond .eq 7, 3) := by decide +kernel
theorem dX8_isNewName_78 : decode cX8_isNewName 78 = .ok (.iconst 1, 1) := by decide +kernel
theorem dX8_isNewName_79 : decode cX8_isNewName 79 = .ok (.goto 4, 3) := by decide +kernel
theorem dX8_isNewName_82 : decode cX8_isNewName 82 = .ok (.iconst 0, 1) := by decide +kernel
theorem dX8_isNewName_83 : decode cX8_isNewName 83 = .ok (.ireturn, 1) := by decide +kernel
theorem dX8_isKnown_0 : decode cX8_isKnown 0 = .ok (.aload_n 0, 1) := by decide +kernel
theorem dX8_isKnown_1 : decode cX8_isKnown 1 = .ok (.getfield 22, 3) := by decide +kernel
theorem dX8_isKnown_4 : decode cX8_isKnown 4 = .ok (.invokevirtual 198, 3) := by decide +kernel
theorem dX8_isKnown_7 : decode cX8_isKnown 7 = .ok (.ifCond .ne 12, 3) := by decide +kernel
theorem dX8_isKnown_10 : decode cX8_isKnown 10 = .ok (.aload_n 0, 1) := by decide +kernel
theorem dX8_isKnown_11 : decode cX8_isKnown 11 = .ok (.getfield 22, 3) := by decide +kernel
theorem dX8_isKnown_14 : decode cX8_isKnown 14 = .ok (.iconst 1, 1) := by decide +kernel
theorem dX8_isKnown_15 : decode cX8_isKnown 15 = .ok (.invokevirtual 134, 3) := by decide +kernel
theorem dX8_isKnown_18 : decode cX8_isKnown 18 = .ok (.ireturn, 1) := by decide +kernel
theorem dX8_isKnown_19 : decode cX8_isKnown 19 = .ok (.aload_n 0, 1) := by decide +kernel
theorem dX8_isKnown_20 : decode cX8_isKnown 20 = .ok (.aload_n 0, 1) := by decide +kernel
theorem dX8_isKnown_21 : decode cX8_isKnown 21 = .ok (.aload_n 1, 1) := by decide +kernel
theorem dX8_isKnown_22 : decode cX8_isKnown 22 = .ok (.iload_n 2, 1) := by decide +kernel
theorem dX8_isKnown_23 : decode cX8_isKnown 23 = .ok (.invokevirtual 201, 3) := by decide +kernel
theorem dX8_isKnown_26 : decode cX8_isKnown 26 = .ok (.putfield 163, 3) := by decide +kernel
theorem dX8_isKnown_29 : decode cX8_isKnown 29 = .ok (.aload_n 0, 1) := by decide +kernel
theorem dX8_isKnown_30 : decode cX8_isKnown 30 = .ok (.getfield 163, 3) := by decide +kernel
theorem dX8_isKnown_33 : decode cX8_isKnown 33 = .ok (.iconst (-1), 1) := by decide +kernel
theorem dX8_isKnown_34 : decode cX8_isKnown 34 = .ok (.if_icmp .ne 14, 3) := by decide +kernel
theorem dX8_isKnown_37 : decode cX8_isKnown 37 = .ok (.aload_n 0, 1) := by decide +kernel
theorem dX8_isKnown_38 : decode cX8_isKnown 38 = .ok (.getfield 22, 3) := by decide +kernel
theorem dX8_isKnown_41 : decode cX8_isKnown 41 = .ok (.iconst 2, 1) := by decide +kernel
theorem dX8_isKnown_42 : decode cX8_isKnown 42 = .ok (.invokevirtual 134, 3) := by decide +kernel
theorem dX8_isKnown_45 : decode cX8_isKnown 45 = .ok (.ifCond .eq 7, 3) := by decide +kernel
theorem dX8_isKnown_48 : decode cX8_isKnown 48 = .ok (.iconst 1, 1) := by decide +kernel
theorem dX8_isKnown_49 : decode cX8_isKnown 49 = .ok (.goto 4, 3) := by decide +kernel
theorem dX8_isKnown_52 : decode cX8_isKnown 52 = .ok (.iconst 0, 1) := by decide +kernel
theorem dX8_isKnown_53 : decode cX8_isKnown 53 = .ok (.ireturn, 1) := by decide +kernel
theorem dX8_indexOf_0 : decode cX8_indexOf 0 = .ok (.iconst 0, 1) := by decide +kernel
theorem dX8_indexOf_1 : decode cX8_indexOf 1 = .ok (.istore_n 3, 1) := by decide +kernel
theorem dX8_indexOf_2 : decode cX8_indexOf 2 = .ok (.iload_n 3, 1) := by decide +kernel
theorem dX8_indexOf_3 : decode cX8_indexOf 3 = .ok (.iload_n 2, 1) := by decide +kernel
theorem dX8_indexOf_4 : decode cX8_indexOf 4 = .ok (.if_icmp .ge 31, 3) := by decide +kernel
theorem dX8_indexOf_7 : decode cX8_indexOf 7 = .ok (.iload_n 3, 1) := by decide +kernel
theorem dX8_indexOf_8 : decode cX8_indexOf 8 = .ok (.aload_n 1, 1) := by decide +kernel
theorem dX8_indexOf_9 : decode cX8_indexOf 9 = .ok (.arraylength, 1) := by decide +kernel
theorem dX8_indexOf_10 : decode cX8_indexOf 10 = .ok (.if_icmp .ge 25, 3) := by decide +kernel
theorem dX8_indexOf_13 : decode cX8_indexOf 13 = .ok (.aload_n 1, 1) := by decide +kernel
theorem dX8_indexOf_14 : decode cX8_indexOf 14 = .ok (.iload_n 3, 1) := by decide +kernel
theorem dX8_indexOf_15 : decode cX8_indexOf 15 = .ok (.laload, 1) := by decide +kernel
theorem dX8_indexOf_16 : decode cX8_indexOf 16 = .ok (.aload_n 0, 1) := by decide +kernel
theorem dX8_indexOf_17 : decode cX8_indexOf 17 = .ok (.getfield 22, 3) := by decide +kernel
theorem dX8_indexOf_20 : decode cX8_indexOf 20 = .ok (.getfield 143, 3) := by decide +kernel
theorem dX8_indexOf_23 : decode cX8_indexOf 23 = .ok (.lcmp, 1) := by decide +kernel
theorem dX8_indexOf_24 : decode cX8_indexOf 24 = .ok (.ifCond .ne 5, 3) := by decide +kernel
theorem dX8_indexOf_27 : decode cX8_indexOf 27 = .ok (.iload_n 3, 1) := by decide +kernel
theorem dX8_indexOf_28 : decode cX8_indexOf 28 = .ok (.ireturn, 1) := by decide +kernel
theorem dX8_indexOf_29 : decode cX8_indexOf 29 = .ok (.iinc 3 1, 3) := by decide +kernel
theorem dX8_indexOf_32 : decode cX8_indexOf 32 = .ok (.goto (-30), 3) := by decide +kernel
theorem dX8_indexOf_35 : decode cX8_indexOf 35 = .ok (.iconst (-1), 1) := by decide +kernel
theorem dX8_indexOf_36 : decode cX8_indexOf 36 = .ok (.ireturn, 1) := by decide +kernel
theorem dX8_walkAll_0 : decode cX8_walkAll 0 = .ok (.iconst 0, 1) := by decide +kernel
theorem dX8_walkAll_1 : decode cX8_walkAll 1 = .ok (.istore_n 1, 1) := by decide +kernel
theorem dX8_walkAll_2 : decode cX8_walkAll 2 = .ok (.iload_n 1, 1) := by decide +kernel
theorem dX8_walkAll_3 : decode cX8_walkAll 3 = .ok (.aload_n 0, 1) := by decide +kernel
theorem dX8_walkAll_4 : decode cX8_walkAll 4 = .ok (.getfield 26, 3) := by decide +kernel
theorem dX8_walkAll_7 : decode cX8_walkAll 7 = .ok (.getfield 137, 3) := by decide +kernel
theorem dX8_walkAll_10 : decode cX8_walkAll 10 = .ok (.if_icmp .ge 63, 3) := by decide +kernel
theorem dX8_walkAll_13 : decode cX8_walkAll 13 = .ok (.iconst 0, 1) := by decide +kernel
theorem dX8_walkAll_14 : decode cX8_walkAll 14 = .ok (.istore_n 2, 1) := by decide +kernel
theorem dX8_walkAll_15 : decode cX8_walkAll 15 = .ok (.iconst 0, 1) := by decide +kernel
theorem dX8_walkAll_16 : decode cX8_walkAll 16 = .ok (.istore_n 3, 1) := by decide +kernel
theorem dX8_walkAll_17 : decode cX8_walkAll 17 = .ok (.iload_n 3, 1) := by decide +kernel
theorem dX8_walkAll_18 : decode cX8_walkAll 18 = .ok (.bipush 24, 2) := by decide +kernel
theorem dX8_walkAll_20 : decode cX8_walkAll 20 = .ok (.if_icmp .ge 47, 3) := by decide +kernel
theorem dX8_walkAll_23 : decode cX8_walkAll 23 = .ok (.iload_n 1, 1) := by decide +kernel
theorem dX8_walkAll_24 : decode cX8_walkAll 24 = .ok (.bipush 24, 2) := by decide +kernel
theorem dX8_walkAll_26 : decode cX8_walkAll 26 = .ok (.imul, 1) := by decide +kernel
theorem dX8_walkAll_27 : decode cX8_walkAll 27 = .ok (.iload_n 3, 1) := by decide +kernel
theorem dX8_walkAll_28 : decode cX8_walkAll 28 = .ok (.iadd, 1) := by decide +kernel
theorem dX8_walkAll_29 : decode cX8_walkAll 29 = .ok (.istore 4, 2) := by decide +kernel
theorem dX8_walkAll_31 : decode cX8_walkAll 31 = .ok (.aload_n 0, 1) := by decide +kernel
theorem dX8_walkAll_32 : decode cX8_walkAll 32 = .ok (.getfield 18, 3) := by decide +kernel
theorem dX8_walkAll_35 : decode cX8_walkAll 35 = .ok (.iload 4, 2) := by decide +kernel
theorem dX8_walkAll_37 : decode cX8_walkAll 37 = .ok (.iaload, 1) := by decide +kernel
theorem dX8_walkAll_38 : decode cX8_walkAll 38 = .ok (.iconst (-1), 1) := by decide +kernel
theorem dX8_walkAll_39 : decode cX8_walkAll 39 = .ok (.if_icmp .eq 11, 3) := by decide +kernel
theorem dX8_walkAll_42 : decode cX8_walkAll 42 = .ok (.aload_n 0, 1) := by decide +kernel
theorem dX8_walkAll_43 : decode cX8_walkAll 43 = .ok (.getfield 18, 3) := by decide +kernel
theorem dX8_walkAll_46 : decode cX8_walkAll 46 = .ok (.iload 4, 2) := by decide +kernel
theorem dX8_walkAll_48 : decode cX8_walkAll 48 = .ok (.iaload, 1) := by decide +kernel
theorem dX8_walkAll_49 : decode cX8_walkAll 49 = .ok (.istore_n 2, 1) := by decide +kernel
theorem dX8_walkAll_50 : decode cX8_walkAll 50 = .ok (.aload_n 0, 1) := by decide +kernel
theorem dX8_walkAll_51 : decode cX8_walkAll 51 = .ok (.getfield 26, 3) := by decide +kernel
theorem dX8_walkAll_54 : decode cX8_walkAll 54 = .ok (.getfield 205, 3) := by decide +kernel
theorem dX8_walkAll_57 : decode cX8_walkAll 57 = .ok (.iload 4, 2) := by decide +kernel
theorem dX8_walkAll_59 : decode cX8_walkAll 59 = .ok (.iload_n 2, 1) := by decide +kernel
theorem dX8_walkAll_60 : decode cX8_walkAll 60 = .ok (.iastore, 1) := by decide +kernel
theorem dX8_walkAll_61 : decode cX8_walkAll 61 = .ok (.iinc 3 1, 3) := by decide +kernel
theorem dX8_walkAll_64 : decode cX8_walkAll 64 = .ok (.goto (-47), 3) := by decide +kernel
theorem dX8_walkAll_67 : decode cX8_walkAll 67 = .ok (.iinc 1 1, 3) := by decide +kernel
theorem dX8_walkAll_70 : decode cX8_walkAll 70 = .ok (.goto (-68), 3) := by decide +kernel
theorem dX8_walkAll_73 : decode cX8_walkAll 73 = .ok (.return_, 1) := by decide +kernel
theorem dX9_init_0 : decode cX9_init 0 = .ok (.aload_n 0, 1) := by decide +kernel
theorem dX9_init_1 : decode cX9_init 1 = .ok (.invokespecial 3, 3) := by decide +kernel
theorem dX9_init_4 : decode cX9_init 4 = .ok (.aload_n 0, 1) := by decide +kernel
theorem dX9_init_5 : decode cX9_init 5 = .ok (.iconst 5, 1) := by decide +kernel
theorem dX9_init_6 : decode cX9_init 6 = .ok (.newarray .int, 2) := by decide +kernel
theorem dX9_init_8 : decode cX9_init 8 = .ok (.putfield 9, 3) := by decide +kernel
theorem dX9_init_11 : decode cX9_init 11 = .ok (.aload_n 0, 1) := by decide +kernel
theorem dX9_init_12 : decode cX9_init 12 = .ok (.sipush 180, 3) := by decide +kernel
theorem dX9_init_15 : decode cX9_init 15 = .ok (.newarray .int, 2) := by decide +kernel
theorem dX9_init_17 : decode cX9_init 17 = .ok (.putfield 15, 3) := by decide +kernel
theorem dX9_init_20 : decode cX9_init 20 = .ok (.aload_n 0, 1) := by decide +kernel
theorem dX9_init_21 : decode cX9_init 21 = .ok (.bipush 6, 2) := by decide +kernel
theorem dX9_init_23 : decode cX9_init 23 = .ok (.newarray .int, 2) := by decide +kernel
theorem dX9_init_25 : decode cX9_init 25 = .ok (.putfield 18, 3) := by decide +kernel
theorem dX9_init_28 : decode cX9_init 28 = .ok (.aload_n 0, 1) := by decide +kernel
theorem dX9_init_29 : decode cX9_init 29 = .ok (.aload_n 1, 1) := by decide +kernel
theorem dX9_init_30 : decode cX9_init 30 = .ok (.putfield 21, 3) := by decide +kernel
theorem dX9_init_33 : decode cX9_init 33 = .ok (.aload_n 0, 1) := by decide +kernel
theorem dX9_init_34 : decode cX9_init 34 = .ok (.aload_n 2, 1) := by decide +kernel
theorem dX9_init_35 : decode cX9_init 35 = .ok (.putfield 25, 3) := by decide +kernel
theorem dX9_init_38 : decode cX9_init 38 = .ok (.aload_n 0, 1) := by decide +kernel
theorem dX9_init_39 : decode cX9_init 39 = .ok (.aload_n 3, 1) := by decide +kernel
theorem dX9_init_40 : decode cX9_init 40 = .ok (.putfield 29, 3) := by decide +kernel
theorem dX9_init_43 : decode cX9_init 43 = .ok (.return_, 1) := by decide +kernel
theorem dX9_countRows_0 : decode cX9_countRows 0 = .ok (.aload_n 0, 1) := by decide +kernel
theorem dX9_countRows_1 : decode cX9_countRows 1 = .ok (.iload_n 1, 1) := by decide +kernel
theorem dX9_countRows_2 : decode cX9_countRows 2 = .ok (.iconst (-1), 1) := by decide +kernel
theorem dX9_countRows_3 : decode cX9_countRows 3 = .ok (.invokevirtual 33, 3) := by decide +kernel
theorem dX9_countRows_6 : decode cX9_countRows 6 = .ok (.pop, 1) := by decide +kernel
theorem dX9_countRows_7 : decode cX9_countRows 7 = .ok (.aload_n 0, 1) := by decide +kernel
theorem dX9_countRows_8 : decode cX9_countRows 8 = .ok (.getfield 37, 3) := by decide +kernel
theorem dX9_countRows_11 : decode cX9_countRows 11 = .ok (.ireturn, 1) := by decide +kernel
theorem dX9_findRow_0 : decode cX9_findRow 0 = .ok (.aload_n 0, 1) := by decide +kernel
theorem dX9_findRow_1 : decode cX9_findRow 1 = .ok (.iload_n 1, 1) := by decide +kernel
theorem dX9_findRow_2 : decode cX9_findRow 2 = .ok (.invokevirtual 41, 3) := by decide +kernel
theorem dX9_findRow_5 : decode cX9_findRow 5 = .ok (.aload_n 0, 1) := by decide +kernel
theorem dX9_findRow_6 : decode cX9_findRow 6 = .ok (.getfield 25, 3) := by decide +kernel
theorem dX9_findRow_9 : decode cX9_findRow 9 = .ok (.getfield 45, 3) := by decide +kernel
theorem dX9_findRow_12 : decode cX9_findRow 12 = .ok (.iconst 0, 1) := by decide +kernel
theorem dX9_findRow_13 : decode cX9_findRow 13 = .ok (.aload_n 0, 1) := by decide +kernel
theorem dX9_findRow_14 : decode cX9_findRow 14 = .ok (.getfield 18, 3) := by decide +kernel
theorem dX9_findRow_17 : decode cX9_findRow 17 = .ok (.iconst 0, 1) := by decide +kernel
theorem dX9_findRow_18 : decode cX9_findRow 18 = .ok (.bipush 6, 2) := by decide +kernel
theorem dX9_findRow_20 : decode cX9_findRow 20 = .ok (.invokestatic 50, 3) := by decide +kernel
theorem dX9_findRow_23 : decode cX9_findRow 23 = .ok (.aload_n 0, 1) := by decide +kernel
theorem dX9_findRow_24 : decode cX9_findRow 24 = .ok (.iconst 0, 1) := by decide +kernel
theorem dX9_findRow_25 : decode cX9_findRow 25 = .ok (.putfield 37, 3) := by decide +kernel
theorem dX9_findRow_28 : decode cX9_findRow 28 = .ok (.aload_n 0, 1) := by decide +kernel
theorem dX9_findRow_29 : decode cX9_findRow 29 = .ok (.iload_n 2, 1) := by decide +kernel
theorem dX9_findRow_30 : decode cX9_findRow 30 = .ok (.putfield 56, 3) := by decide +kernel
theorem dX9_findRow_33 : decode cX9_findRow 33 = .ok (.aload_n 0, 1) := by decide +kernel
theorem dX9_findRow_34 : decode cX9_findRow 34 = .ok (.iconst 0, 1) := by decide +kernel
theorem dX9_findRow_35 : decode cX9_findRow 35 = .ok (.invokevirtual 59, 3) := by decide +kernel
theorem dX9_findRow_38 : decode cX9_findRow 38 = .ok (.ireturn, 1) := by decide +kernel
theorem dX9_findWooden_0 : decode cX9_findWooden 0 = .ok (.aload_n 0, 1) := by decide +kernel
theorem dX9_findWooden_1 : decode cX9_findWooden 1 = .ok (.getfield 29, 3) := by decide +kernel
theorem dX9_findWooden_4 : decode cX9_findWooden 4 = .ok (.invokevirtual 63, 3) := by decide +kernel
theorem dX9_findWooden_7 : decode cX9_findWooden 7 = .ok (.iconst 0, 1) := by decide +kernel
theorem dX9_findWooden_8 : decode cX9_findWooden 8 = .ok (.istore_n 1, 1) := by decide +kernel
theorem dX9_findWooden_9 : decode cX9_findWooden 9 = .ok (.iload_n 1, 1) := by decide +kernel
theorem dX9_findWooden_10 : decode cX9_findWooden 10 = .ok (.aload_n 0, 1) := by decide +kernel
theorem dX9_findWooden_11 : decode cX9_findWooden 11 = .ok (.getfield 21, 3) := by decide +kernel
theorem dX9_findWooden_14 : decode cX9_findWooden 14 = .ok (.getfield 68, 3) := by decide +kernel
theorem dX9_findWooden_17 : decode cX9_findWooden 17 = .ok (.if_icmp .ge 48, 3) := by decide +kernel
theorem dX9_findWooden_20 : decode cX9_findWooden 20 = .ok (.iconst 0, 1) := by decide +kernel
theorem dX9_findWooden_21 : decode cX9_findWooden 21 = .ok (.istore_n 2, 1) := by decide +kernel
theorem dX9_findWooden_22 : decode cX9_findWooden 22 = .ok (.iload_n 2, 1) := by decide +kernel
theorem dX9_findWooden_23 : decode cX9_findWooden 23 = .ok (.aload_n 0, 1) := by decide +kernel
theorem dX9_findWooden_24 : decode cX9_findWooden 24 = .ok (.getfield 21, 3) := by decide +kernel
theorem dX9_findWooden_27 : decode cX9_findWooden 27 = .ok (.getfield 73, 3) := by decide +kernel
theorem dX9_findWooden_30 : decode cX9_findWooden 30 = .ok (.if_icmp .ge 29, 3) := by decide +kernel
theorem dX9_findWooden_33 : decode cX9_findWooden 33 = .ok (.aload_n 0, 1) := by decide +kernel
theorem dX9_findWooden_34 : decode cX9_findWooden 34 = .ok (.getfield 15, 3) := by decide +kernel
theorem dX9_findWooden_37 : decode cX9_findWooden 37 = .ok (.iload_n 1, 1) := by decide +kernel
theorem dX9_findWooden_38 : decode cX9_findWooden 38 = .ok (.iconst 0, 1) := by decide +kernel
theorem dX9_findWooden_39 : decode cX9_findWooden 39 = .ok (.iload_n 2, 1) := by decide +kernel
theorem dX9_findWooden_40 : decode cX9_findWooden 40 = .ok (.invokestatic 76, 3) := by decide +kernel
theorem dX9_findWooden_43 : decode cX9_findWooden 43 = .ok (.aload_n 0, 1) := by decide +kernel
theorem dX9_findWooden_44 : decode cX9_findWooden 44 = .ok (.getfield 29, 3) := by decide +kernel
theorem dX9_findWooden_47 : decode cX9_findWooden 47 = .ok (.iload_n 1, 1) := by decide +kernel
theorem dX9_findWooden_48 : decode cX9_findWooden 48 = .ok (.iload_n 2, 1) := by decide +kernel
theorem dX9_findWooden_49 : decode cX9_findWooden 49 = .ok (.invokevirtual 80, 3) := by decide +kernel
theorem dX9_findWooden_52 : decode cX9_findWooden 52 = .ok (.iastore, 1) := by decide +kernel
theorem dX9_findWooden_53 : decode cX9_findWooden 53 = .ok (.iinc 2 1, 3) := by decide +kernel
theorem dX9_findWooden_56 : decode cX9_findWooden 56 = .ok (.goto (-34), 3) := by decide +kernel
theorem dX9_findWooden_59 : decode cX9_findWooden 59 = .ok (.iinc 1 1, 3) := by decide +kernel
theorem dX9_findWooden_62 : decode cX9_findWooden 62 = .ok (.goto (-53), 3) := by decide +kernel
theorem dX9_findWooden_65 : decode cX9_findWooden 65 = .ok (.aload_n 0, 1) := by decide +kernel
theorem dX9_findWooden_66 : decode cX9_findWooden 66 = .ok (.iconst 0, 1) := by decide +kernel
theorem dX9_findWooden_67 : decode cX9_findWooden 67 = .ok (.putfield 37, 3) := by decide +kernel
theorem dX9_findWooden_70 : decode cX9_findWooden 70 = .ok (.aload_n 0, 1) := by decide +kernel
theorem dX9_findWooden_71 : decode cX9_findWooden 71 = .ok (.iconst (-1), 1) := by decide +kernel
theorem dX9_findWooden_72 : decode cX9_findWooden 72 = .ok (.putfield 84, 3) := by decide +kernel
theorem dX9_findWooden_75 : decode cX9_findWooden 75 = .ok (.iconst 0, 1) := by decide +kernel
theorem dX9_findWooden_76 : decode cX9_findWooden 76 = .ok (.istore_n 1, 1) := by decide +kernel
theorem dX9_findWooden_77 : decode cX9_findWooden 77 = .ok (.iload_n 1, 1) := by decide +kernel
theorem dX9_findWooden_78 : decode cX9_findWooden 78 = .ok (.iconst 1, 1) := by decide +kernel
theorem dX9_findWooden_79 : decode cX9_findWooden 79 = .ok (.aload_n 0, 1) := by decide +kernel
theorem dX9_findWooden_80 : decode cX9_findWooden 80 = .ok (.getfield 21, 3) := by decide +kernel
theorem dX9_findWooden_83 : decode cX9_findWooden 83 = .ok (.getfield 68, 3) := by decide +kernel
theorem dX9_findWooden_86 : decode cX9_findWooden 86 = .ok (.ishl, 1) := by decide +kernel
theorem dX9_findWooden_87 : decode cX9_findWooden 87 = .ok (.if_icmp .ge 66, 3) := by decide +kernel
theorem dX9_findWooden_90 : decode cX9_findWooden 90 = .ok (.iload_n 1, 1) := by decide +kernel
theorem dX9_findWooden_91 : decode cX9_findWooden 91 = .ok (.aload_n 0, 1) := by decide +kernel
theorem dX9_findWooden_92 : decode cX9_findWooden 92 = .ok (.getfield 25, 3) := by decide +kernel
theorem dX9_findWooden_95 : decode cX9_findWooden 95 = .ok (.getfield 87, 3) := by decide +kernel
theorem dX9_findWooden_98 : decode cX9_findWooden 98 = .ok (.iand, 1) := by decide +kernel
theorem dX9_findWooden_99 : decode cX9_findWooden 99 = .ok (.ifCond .ne 48, 3) := by decide +kernel
theorem dX9_findWooden_102 : decode cX9_findWooden 102 = .ok (.aload_n 0, 1) := by decide +kernel
theorem dX9_findWooden_103 : decode cX9_findWooden 103 = .ok (.iload_n 1, 1) := by decide +kernel
theorem dX9_findWooden_104 : decode cX9_findWooden 104 = .ok (.aload_n 0, 1) := by decide +kernel
theorem dX9_findWooden_105 : decode cX9_findWooden 105 = .ok (.getfield 25, 3) := by decide +kernel
theorem dX9_findWooden_108 : decode cX9_findWooden 108 = .ok (.getfield 87, 3) := by decide +kernel
theorem dX9_findWooden_111 : decode cX9_findWooden 111 = .ok (.ior, 1) := by decide +kernel
theorem dX9_findWooden_112 : decode cX9_findWooden 112 = .ok (.invokevirtual 90, 3) := by decide +kernel
theorem dX9_findWooden_115 : decode cX9_findWooden 115 = .ok (.ifCond .eq 32, 3) := by decide +kernel
theorem dX9_findWooden_118 : decode cX9_findWooden 118 = .ok (.aload_n 0, 1) := by decide +kernel
theorem dX9_findWooden_119 : decode cX9_findWooden 119 = .ok (.aload_n 0, 1) := by decide +kernel
theorem dX9_findWooden_120 : decode cX9_findWooden 120 = .ok (.getfield 37, 3) := by decide +kernel
theorem dX9_findWooden_123 : decode cX9_findWooden 123 = .ok (.ifCond .ne 7, 3) := by decide +kernel
theorem dX9_findWooden_126 : decode cX9_findWooden 126 = .ok (.iload_n 1, 1) := by decide +kernel
theorem dX9_findWooden_127 : decode cX9_findWooden 127 = .ok (.goto 7, 3) := by decide +kernel
theorem dX9_findWooden_130 : decode cX9_findWooden 130 = .ok (.aload_n 0, 1) := by decide +kernel
theorem dX9_findWooden_131 : decode cX9_findWooden 131 = .ok (.getfield 84, 3) := by decide +kernel
theorem dX9_findWooden_134 : decode cX9_findWooden 134 = .ok (.putfield 84, 3) := by decide +kernel
theorem dX9_findWooden_137 : decode cX9_findWooden 137 = .ok (.aload_n 0, 1) := by decide +kernel
theorem dX9_findWooden_138 : decode cX9_findWooden 138 = .ok (.dup, 1) := by decide +kernel
theorem dX9_findWooden_139 : decode cX9_findWooden 139 = .ok (.getfield 37, 3) := by decide +kernel
theorem dX9_findWooden_142 : decode cX9_findWooden 142 = .ok (.iconst 1, 1) := by decide +kernel
theorem dX9_findWooden_143 : decode cX9_findWooden 143 = .ok (.iadd, 1) := by decide +kernel
theorem dX9_findWooden_144 : decode cX9_findWooden 144 = .ok (.putfield 37, 3) := by decide +kernel
theorem dX9_findWooden_147 : decode cX9_findWooden 147 = .ok (.iinc 1 1, 3) := by decide +kernel
theorem dX9_findWooden_150 : decode cX9_findWooden 150 = .ok (.goto (-73), 3) := by decide +kernel
theorem dX9_findWooden_153 : decode cX9_findWooden 153 = .ok (.return_, 1) := by decide +kernel
theorem dX9_isRightWithout_0 : decode cX9_isRightWithout 0 = .ok (.iconst 0, 1) := by decide +kernel
theorem dX9_isRightWithout_1 : decode cX9_isRightWithout 1 = .ok (.istore_n 2, 1) := by decide +kernel
theorem dX9_isRightWithout_2 : decode cX9_isRightWithout 2 = .ok (.iload_n 2, 1) := by decide +kernel
theorem dX9_isRightWithout_3 : decode cX9_isRightWithout 3 = .ok (.aload_n 0, 1) := by decide +kernel
theorem dX9_isRightWithout_4 : decode cX9_isRightWithout 4 = .ok (.getfield 21, 3) := by decide +kernel
theorem dX9_isRightWithout_7 : decode cX9_isRightWithout 7 = .ok (.getfield 73, 3) := by decide +kernel
theorem dX9_isRightWithout_10 : decode cX9_isRightWithout 10 = .ok (.if_icmp .ge 88, 3) := by decide +kernel
theorem dX9_isRightWithout_13 : decode cX9_isRightWithout 13 = .ok (.iconst 0, 1) := by decide +kernel
theorem dX9_isRightWithout_14 : decode cX9_isRightWithout 14 = .ok (.istore_n 3, 1) := by decide +kernel
theorem dX9_isRightWithout_15 : decode cX9_isRightWithout 15 = .ok (.iconst 0, 1) := by decide +kernel
theorem dX9_isRightWithout_16 : decode cX9_isRightWithout 16 = .ok (.istore 4, 2) := by decide +kernel
theorem dX9_isRightWithout_18 : decode cX9_isRightWithout 18 = .ok (.iload 4, 2) := by decide +kernel
theorem dX9_isRightWithout_20 : decode cX9_isRightWithout 20 = .ok (.aload_n 0, 1) := by decide +kernel
theorem dX9_isRightWithout_21 : decode cX9_isRightWithout 21 = .ok (.getfield 21, 3) := by decide +kernel
theorem dX9_isRightWithout_24 : decode cX9_isRightWithout 24 = .ok (.getfield 68, 3) := by decide +kernel
theorem dX9_isRightWithout_27 : decode cX9_isRightWithout 27 = .ok (.if_icmp .ge 37, 3) := by decide +kernel
theorem dX9_isRightWithout_30 : decode cX9_isRightWithout 30 = .ok (.iload_n 3, 1) := by decide +kernel
theorem dX9_isRightWithout_31 : decode cX9_isRightWithout 31 = .ok (.iload_n 1, 1) := by decide +kernel
theorem dX9_isRightWithout_32 : decode cX9_isRightWithout 32 = .ok (.iload 4, 2) := by decide +kernel
theorem dX9_isRightWithout_34 : decode cX9_isRightWithout 34 = .ok (.ishr, 1) := by decide +kernel
theorem dX9_isRightWithout_35 : decode cX9_isRightWithout 35 = .ok (.iconst 1, 1) := by decide +kernel
theorem dX9_isRightWithout_36 : decode cX9_isRightWithout 36 = .ok (.iand, 1) := by decide +kernel
theorem dX9_isRightWithout_37 : decode cX9_isRightWithout 37 = .ok (.ifCond .eq 7, 3) := by decide +kernel
theorem dX9_isRightWithout_40 : decode cX9_isRightWithout 40 = .ok (.iconst 0, 1) := by decide +kernel
theorem dX9_isRightWithout_41 : decode cX9_isRightWithout 41 = .ok (.goto 15, 3) := by decide +kernel
theorem dX9_isRightWithout_44 : decode cX9_isRightWithout 44 = .ok (.aload_n 0, 1) := by decide +kernel
theorem dX9_isRightWithout_45 : decode cX9_isRightWithout 45 = .ok (.getfield 15, 3) := by decide +kernel
theorem dX9_isRightWithout_48 : decode cX9_isRightWithout 48 = .ok (.iload 4, 2) := by decide +kernel
theorem dX9_isRightWithout_50 : decode cX9_isRightWithout 50 = .ok (.iconst 0, 1) := by decide +kernel
theorem dX9_isRightWithout_51 : decode cX9_isRightWithout 51 = .ok (.iload_n 2, 1) := by decide +kernel
theorem dX9_isRightWithout_52 : decode cX9_isRightWithout 52 = .ok (.invokestatic 76, 3) := by decide +kernel
theorem dX9_isRightWithout_55 : decode cX9_isRightWithout 55 = .ok (.iaload, 1) := by decide +kernel
theorem dX9_isRightWithout_56 : decode cX9_isRightWithout 56 = .ok (.iadd, 1) := by decide +kernel
theorem dX9_isRightWithout_57 : decode cX9_isRightWithout 57 = .ok (.istore_n 3, 1) := by decide +kernel
theorem dX9_isRightWithout_58 : decode cX9_isRightWithout 58 = .ok (.iinc 4 1, 3) := by decide +kernel
theorem dX9_isRightWithout_61 : decode cX9_isRightWithout 61 = .ok (.goto (-43), 3) := by decide +kernel
theorem dX9_isRightWithout_64 : decode cX9_isRightWithout 64 = .ok (.aload_n 0, 1) := by decide +kernel
theorem dX9_isRightWithout_65 : decode cX9_isRightWithout 65 = .ok (.getfield 25, 3) := by decide +kernel
theorem dX9_isRightWithout_68 : decode cX9_isRightWithout 68 = .ok (.getfield 45, 3) := by decide +kernel
theorem dX9_isRightWithout_71 : decode cX9_isRightWithout 71 = .ok (.iload_n 2, 1) := by decide +kernel
theorem dX9_isRightWithout_72 : decode cX9_isRightWithout 72 = .ok (.iaload, 1) := by decide +kernel
theorem dX9_isRightWithout_73 : decode cX9_isRightWithout 73 = .ok (.iconst (-1), 1) := by decide +kernel
theorem dX9_isRightWithout_74 : decode cX9_isRightWithout 74 = .ok (.if_icmp .eq 18, 3) := by decide +kernel
theorem dX9_isRightWithout_77 : decode cX9_isRightWithout 77 = .ok (.aload_n 0, 1) := by decide +kernel
theorem dX9_isRightWithout_78 : decode cX9_isRightWithout 78 = .ok (.getfield 25, 3) := by decide +kernel
theorem dX9_isRightWithout_81 : decode cX9_isRightWithout 81 = .ok (.getfield 45, 3) := by decide +kernel
theorem dX9_isRightWithout_84 : decode cX9_isRightWithout 84 = .ok (.iload_n 2, 1) := by decide +kernel
theorem dX9_isRightWithout_85 : decode cX9_isRightWithout 85 = .ok (.iaload, 1) := by decide +kernel
theorem dX9_isRightWithout_86 : decode cX9_isRightWithout 86 = .ok (.iload_n 3, 1) := by decide +kernel
theorem dX9_isRightWithout_87 : decode cX9_isRightWithout 87 = .ok (.if_icmp .eq 5, 3) := by decide +kernel
theorem dX9_isRightWithout_90 : decode cX9_isRightWithout 90 = .ok (.iconst 0, 1) := by decide +kernel
theorem dX9_isRightWithout_91 : decode cX9_isRightWithout 91 = .ok (.ireturn, 1) := by decide +kernel
theorem dX9_isRightWithout_92 : decode cX9_isRightWithout 92 = .ok (.iinc 2 1, 3) := by decide +kernel
theorem dX9_isRightWithout_95 : decode cX9_isRightWithout 95 = .ok (.goto (-93), 3) := by decide +kernel
theorem dX9_isRightWithout_98 : decode cX9_isRightWithout 98 = .ok (.iconst 1, 1) := by decide +kernel
theorem dX9_isRightWithout_99 : decode cX9_isRightWithout 99 = .ok (.ireturn, 1) := by decide +kernel
theorem dX9_findPrices_0 : decode cX9_findPrices 0 = .ok (.aload_n 0, 1) := by decide +kernel
theorem dX9_findPrices_1 : decode cX9_findPrices 1 = .ok (.getfield 29, 3) := by decide +kernel
theorem dX9_findPrices_4 : decode cX9_findPrices 4 = .ok (.invokevirtual 63, 3) := by decide +kernel
theorem dX9_findPrices_7 : decode cX9_findPrices 7 = .ok (.aload_n 0, 1) := by decide +kernel
theorem dX9_findPrices_8 : decode cX9_findPrices 8 = .ok (.getfield 29, 3) := by decide +kernel
theorem dX9_findPrices_11 : decode cX9_findPrices 11 = .ok (.iload_n 1, 1) := by decide +kernel
theorem dX9_findPrices_12 : decode cX9_findPrices 12 = .ok (.invokevirtual 93, 3) := by decide +kernel
theorem dX9_findPrices_15 : decode cX9_findPrices 15 = .ok (.iconst 0, 1) := by decide +kernel
theorem dX9_findPrices_16 : decode cX9_findPrices 16 = .ok (.istore_n 2, 1) := by decide +kernel
theorem dX9_findPrices_17 : decode cX9_findPrices 17 = .ok (.iload_n 2, 1) := by decide +kernel
theorem dX9_findPrices_18 : decode cX9_findPrices 18 = .ok (.aload_n 0, 1) := by decide +kernel
theorem dX9_findPrices_19 : decode cX9_findPrices 19 = .ok (.getfield 21, 3) := by decide +kernel
theorem dX9_findPrices_22 : decode cX9_findPrices 22 = .ok (.getfield 68, 3) := by decide +kernel
theorem dX9_findPrices_25 : decode cX9_findPrices 25 = .ok (.if_icmp .ge 67, 3) := by decide +kernel
theorem dX9_findPrices_28 : decode cX9_findPrices 28 = .ok (.iconst 0, 1) := by decide +kernel
theorem dX9_findPrices_29 : decode cX9_findPrices 29 = .ok (.istore_n 3, 1) := by decide +kernel
theorem dX9_findPrices_30 : decode cX9_findPrices 30 = .ok (.iload_n 3, 1) := by decide +kernel
theorem dX9_findPrices_31 : decode cX9_findPrices 31 = .ok (.iconst 5, 1) := by decide +kernel
theorem dX9_findPrices_32 : decode cX9_findPrices 32 = .ok (.if_icmp .gt 54, 3) := by decide +kernel
theorem dX9_findPrices_35 : decode cX9_findPrices 35 = .ok (.iconst 0, 1) := by decide +kernel
theorem dX9_findPrices_36 : decode cX9_findPrices 36 = .ok (.istore 4, 2) := by decide +kernel
theorem dX9_findPrices_38 : decode cX9_findPrices 38 = .ok (.iload 4, 2) := by decide +kernel
theorem dX9_findPrices_40 : decode cX9_findPrices 40 = .ok (.aload_n 0, 1) := by decide +kernel
theorem dX9_findPrices_41 : decode cX9_findPrices 41 = .ok (.getfield 21, 3) := by decide +kernel
theorem dX9_findPrices_44 : decode cX9_findPrices 44 = .ok (.getfield 73, 3) := by decide +kernel
theorem dX9_findPrices_47 : decode cX9_findPrices 47 = .ok (.if_icmp .ge 33, 3) := by decide +kernel
theorem dX9_findPrices_50 : decode cX9_findPrices 50 = .ok (.aload_n 0, 1) := by decide +kernel
theorem dX9_findPrices_51 : decode cX9_findPrices 51 = .ok (.getfield 15, 3) := by decide +kernel
theorem dX9_findPrices_54 : decode cX9_findPrices 54 = .ok (.iload_n 2, 1) := by decide +kernel
theorem dX9_findPrices_55 : decode cX9_findPrices 55 = .ok (.iload_n 3, 1) := by decide +kernel
theorem dX9_findPrices_56 : decode cX9_findPrices 56 = .ok (.iload 4, 2) := by decide +kernel
theorem dX9_findPrices_58 : decode cX9_findPrices 58 = .ok (.invokestatic 76, 3) := by decide +kernel
theorem dX9_findPrices_61 : decode cX9_findPrices 61 = .ok (.aload_n 0, 1) := by decide +kernel
theorem dX9_findPrices_62 : decode cX9_findPrices 62 = .ok (.getfield 29, 3) := by decide +kernel
theorem dX9_findPrices_65 : decode cX9_findPrices 65 = .ok (.iload_n 2, 1) := by decide +kernel
theorem dX9_findPrices_66 : decode cX9_findPrices 66 = .ok (.iload_n 1, 1) := by decide +kernel
theorem dX9_findPrices_67 : decode cX9_findPrices 67 = .ok (.iload 4, 2) := by decide +kernel
theorem dX9_findPrices_69 : decode cX9_findPrices 69 = .ok (.iload_n 3, 1) := by decide +kernel
theorem dX9_findPrices_70 : decode cX9_findPrices 70 = .ok (.invokevirtual 96, 3) := by decide +kernel
theorem dX9_findPrices_73 : decode cX9_findPrices 73 = .ok (.iastore, 1) := by decide +kernel
theorem dX9_findPrices_74 : decode cX9_findPrices 74 = .ok (.iinc 4 1, 3) := by decide +kernel
theorem dX9_findPrices_77 : decode cX9_findPrices 77 = .ok (.goto (-39), 3) := by decide +kernel
theorem dX9_findPrices_80 : decode cX9_findPrices 80 = .ok (.iinc 3 1, 3) := by decide +kernel
theorem dX9_findPrices_83 : decode cX9_findPrices 83 = .ok (.goto (-53), 3) := by decide +kernel
theorem dX9_findPrices_86 : decode cX9_findPrices 86 = .ok (.iinc 2 1, 3) := by decide +kernel
theorem dX9_findPrices_89 : decode cX9_findPrices 89 = .ok (.goto (-72), 3) := by decide +kernel
theorem dX9_findPrices_92 : decode cX9_findPrices 92 = .ok (.return_, 1) := by decide +kernel
theorem dX9_priceAt_0 : decode cX9_priceAt 0 = .ok (.iload_n 0, 1) := by decide +kernel
theorem dX9_priceAt_1 : decode cX9_priceAt 1 = .ok (.bipush 6, 2) := by decide +kernel
theorem dX9_priceAt_3 : decode cX9_priceAt 3 = .ok (.imul, 1) := by decide +kernel
theorem dX9_priceAt_4 : decode cX9_priceAt 4 = .ok (.iload_n 1, 1) := by decide +kernel
theorem dX9_priceAt_5 : decode cX9_priceAt 5 = .ok (.iadd, 1) := by decide +kernel
theorem dX9_priceAt_6 : decode cX9_priceAt 6 = .ok (.bipush 6, 2) := by decide +kernel
theorem dX9_priceAt_8 : decode cX9_priceAt 8 = .ok (.imul, 1) := by decide +kernel
theorem dX9_priceAt_9 : decode cX9_priceAt 9 = .ok (.iload_n 2, 1) := by decide +kernel
theorem dX9_priceAt_10 : decode cX9_priceAt 10 = .ok (.iadd, 1) := by decide +kernel
theorem dX9_priceAt_11 : decode cX9_priceAt 11 = .ok (.ireturn, 1) := by decide +kernel
theorem dX9_singFrom_0 : decode cX9_singFrom 0 = .ok (.iload_n 1, 1) := by decide +kernel
theorem dX9_singFrom_1 : decode cX9_singFrom 1 = .ok (.aload_n 0, 1) := by decide +kernel
theorem dX9_singFrom_2 : decode cX9_singFrom 2 = .ok (.getfield 21, 3) := by decide +kernel
theorem dX9_singFrom_5 : decode cX9_singFrom 5 = .ok (.getfield 68, 3) := by decide +kernel
theorem dX9_singFrom_8 : decode cX9_singFrom 8 = .ok (.if_icmp .lt 49, 3) := by decide +kernel
theorem dX9_singFrom_11 : decode cX9_singFrom 11 = .ok (.aload_n 0, 1) := by decide +kernel
theorem dX9_singFrom_12 : decode cX9_singFrom 12 = .ok (.invokevirtual 100, 3) := by decide +kernel
theorem dX9_singFrom_15 : decode cX9_singFrom 15 = .ok (.istore_n 2, 1) := by decide +kernel
theorem dX9_singFrom_16 : decode cX9_singFrom 16 = .ok (.aload_n 0, 1) := by decide +kernel
theorem dX9_singFrom_17 : decode cX9_singFrom 17 = .ok (.dup, 1) := by decide +kernel
theorem dX9_singFrom_18 : decode cX9_singFrom 18 = .ok (.getfield 37, 3) := by decide +kernel
theorem dX9_singFrom_21 : decode cX9_singFrom 21 = .ok (.iload_n 2, 1) := by decide +kernel
theorem dX9_singFrom_22 : decode cX9_singFrom 22 = .ok (.ifCond .eq 7, 3) := by decide +kernel
theorem dX9_singFrom_25 : decode cX9_singFrom 25 = .ok (.iconst 1, 1) := by decide +kernel
theorem dX9_singFrom_26 : decode cX9_singFrom 26 = .ok (.goto 4, 3) := by decide +kernel
theorem dX9_singFrom_29 : decode cX9_singFrom 29 = .ok (.iconst 0, 1) := by decide +kernel
theorem dX9_singFrom_30 : decode cX9_singFrom 30 = .ok (.iadd, 1) := by decide +kernel
theorem dX9_singFrom_31 : decode cX9_singFrom 31 = .ok (.putfield 37, 3) := by decide +kernel
theorem dX9_singFrom_34 : decode cX9_singFrom 34 = .ok (.iload_n 2, 1) := by decide +kernel
theorem dX9_singFrom_35 : decode cX9_singFrom 35 = .ok (.ifCond .eq 20, 3) := by decide +kernel
theorem dX9_singFrom_38 : decode cX9_singFrom 38 = .ok (.aload_n 0, 1) := by decide +kernel
theorem dX9_singFrom_39 : decode cX9_singFrom 39 = .ok (.getfield 37, 3) := by decide +kernel
theorem dX9_singFrom_42 : decode cX9_singFrom 42 = .ok (.iconst 1, 1) := by decide +kernel
theorem dX9_singFrom_43 : decode cX9_singFrom 43 = .ok (.isub, 1) := by decide +kernel
theorem dX9_singFrom_44 : decode cX9_singFrom 44 = .ok (.aload_n 0, 1) := by decide +kernel
theorem dX9_singFrom_45 : decode cX9_singFrom 45 = .ok (.getfield 56, 3) := by decide +kernel
theorem dX9_singFrom_48 : decode cX9_singFrom 48 = .ok (.if_icmp .ne 7, 3) := by decide +kernel
theorem dX9_singFrom_51 : decode cX9_singFrom 51 = .ok (.iconst 1, 1) := by decide +kernel
theorem dX9_singFrom_52 : decode cX9_singFrom 52 = .ok (.goto 4, 3) := by decide +kernel
theorem dX9_singFrom_55 : decode cX9_singFrom 55 = .ok (.iconst 0, 1) := by decide +kernel
theorem dX9_singFrom_56 : decode cX9_singFrom 56 = .ok (.ireturn, 1) := by decide +kernel
theorem dX9_singFrom_57 : decode cX9_singFrom 57 = .ok (.aload_n 0, 1) := by decide +kernel
theorem dX9_singFrom_58 : decode cX9_singFrom 58 = .ok (.getfield 25, 3) := by decide +kernel
theorem dX9_singFrom_61 : decode cX9_singFrom 61 = .ok (.iload_n 1, 1) := by decide +kernel
theorem dX9_singFrom_62 : decode cX9_singFrom 62 = .ok (.invokevirtual 104, 3) := by decide +kernel
theorem dX9_singFrom_65 : decode cX9_singFrom 65 = .ok (.ifCond .eq 7, 3) := by decide +kernel
theorem dX9_singFrom_68 : decode cX9_singFrom 68 = .ok (.iconst 0, 1) := by decide +kernel
theorem dX9_singFrom_69 : decode cX9_singFrom 69 = .ok (.goto 4, 3) := by decide +kernel
theorem dX9_singFrom_72 : decode cX9_singFrom 72 = .ok (.iconst 5, 1) := by decide +kernel
theorem dX9_singFrom_73 : decode cX9_singFrom 73 = .ok (.istore_n 2, 1) := by decide +kernel
theorem dX9_singFrom_74 : decode cX9_singFrom 74 = .ok (.iconst 0, 1) := by decide +kernel
theorem dX9_singFrom_75 : decode cX9_singFrom 75 = .ok (.istore_n 3, 1) := by decide +kernel
theorem dX9_singFrom_76 : decode cX9_singFrom 76 = .ok (.iload_n 3, 1) := by decide +kernel
theorem dX9_singFrom_77 : decode cX9_singFrom 77 = .ok (.iload_n 2, 1) := by decide +kernel
theorem dX9_singFrom_78 : decode cX9_singFrom 78 = .ok (.if_icmp .gt 47, 3) := by decide +kernel
theorem dX9_singFrom_81 : decode cX9_singFrom 81 = .ok (.aload_n 0, 1) := by decide +kernel
theorem dX9_singFrom_82 : decode cX9_singFrom 82 = .ok (.getfield 9, 3) := by decide +kernel
theorem dX9_singFrom_85 : decode cX9_singFrom 85 = .ok (.iload_n 1, 1) := by decide +kernel
theorem dX9_singFrom_86 : decode cX9_singFrom 86 = .ok (.iload_n 3, 1) := by decide +kernel
theorem dX9_singFrom_87 : decode cX9_singFrom 87 = .ok (.iastore, 1) := by decide +kernel
theorem dX9_singFrom_88 : decode cX9_singFrom 88 = .ok (.aload_n 0, 1) := by decide +kernel
theorem dX9_singFrom_89 : decode cX9_singFrom 89 = .ok (.iload_n 1, 1) := by decide +kernel
theorem dX9_singFrom_90 : decode cX9_singFrom 90 = .ok (.iload_n 3, 1) := by decide +kernel
theorem dX9_singFrom_91 : decode cX9_singFrom 91 = .ok (.invokevirtual 107, 3) := by decide +kernel
theorem dX9_singFrom_94 : decode cX9_singFrom 94 = .ok (.istore 4, 2) := by decide +kernel
theorem dX9_singFrom_96 : decode cX9_singFrom 96 = .ok (.iload 4, 2) := by decide +kernel
theorem dX9_singFrom_98 : decode cX9_singFrom 98 = .ok (.ifCond .eq 15, 3) := by decide +kernel
theorem dX9_singFrom_101 : decode cX9_singFrom 101 = .ok (.aload_n 0, 1) := by decide +kernel
theorem dX9_singFrom_102 : decode cX9_singFrom 102 = .ok (.iload_n 1, 1) := by decide +kernel
theorem dX9_singFrom_103 : decode cX9_singFrom 103 = .ok (.iconst 1, 1) := by decide +kernel
theorem dX9_singFrom_104 : decode cX9_singFrom 104 = .ok (.iadd, 1) := by decide +kernel
theorem dX9_singFrom_105 : decode cX9_singFrom 105 = .ok (.invokevirtual 59, 3) := by decide +kernel
theorem dX9_singFrom_108 : decode cX9_singFrom 108 = .ok (.ifCond .eq 5, 3) := by decide +kernel
theorem dX9_singFrom_111 : decode cX9_singFrom 111 = .ok (.iconst 1, 1) := by decide +kernel
theorem dX9_singFrom_112 : decode cX9_singFrom 112 = .ok (.ireturn, 1) := by decide +kernel
theorem dX9_singFrom_113 : decode cX9_singFrom 113 = .ok (.aload_n 0, 1) := by decide +kernel
theorem dX9_singFrom_114 : decode cX9_singFrom 114 = .ok (.iload_n 1, 1) := by decide +kernel
theorem dX9_singFrom_115 : decode cX9_singFrom 115 = .ok (.iload_n 3, 1) := by decide +kernel
theorem dX9_singFrom_116 : decode cX9_singFrom 116 = .ok (.invokevirtual 110, 3) := by decide +kernel
theorem dX9_singFrom_119 : decode cX9_singFrom 119 = .ok (.iinc 3 1, 3) := by decide +kernel
theorem dX9_singFrom_122 : decode cX9_singFrom 122 = .ok (.goto (-46), 3) := by decide +kernel
theorem dX9_singFrom_125 : decode cX9_singFrom 125 = .ok (.iconst 0, 1) := by decide +kernel
theorem dX9_singFrom_126 : decode cX9_singFrom 126 = .ok (.ireturn, 1) := by decide +kernel
theorem dX9_pay_0 : decode cX9_pay 0 = .ok (.iconst 1, 1) := by decide +kernel
theorem dX9_pay_1 : decode cX9_pay 1 = .ok (.istore_n 3, 1) := by decide +kernel
theorem dX9_pay_2 : decode cX9_pay 2 = .ok (.iconst 0, 1) := by decide +kernel
theorem dX9_pay_3 : decode cX9_pay 3 = .ok (.istore 4, 2) := by decide +kernel
theorem dX9_pay_5 : decode cX9_pay 5 = .ok (.iload 4, 2) := by decide +kernel
theorem dX9_pay_7 : decode cX9_pay 7 = .ok (.aload_n 0, 1) := by decide +kernel
theorem dX9_pay_8 : decode cX9_pay 8 = .ok (.getfield 21, 3) := by decide +kernel
theorem dX9_pay_11 : decode cX9_pay 11 = .ok (.getfield 73, 3) := by decide +kernel
theorem dX9_pay_14 : decode cX9_pay 14 = .ok (.if_icmp .ge 65, 3) := by decide +kernel
theorem dX9_pay_17 : decode cX9_pay 17 = .ok (.aload_n 0, 1) := by decide +kernel
theorem dX9_pay_18 : decode cX9_pay 18 = .ok (.getfield 25, 3) := by decide +kernel
theorem dX9_pay_21 : decode cX9_pay 21 = .ok (.getfield 45, 3) := by decide +kernel
theorem dX9_pay_24 : decode cX9_pay 24 = .ok (.iload 4, 2) := by decide +kernel
theorem dX9_pay_26 : decode cX9_pay 26 = .ok (.iaload, 1) := by decide +kernel
theorem dX9_pay_27 : decode cX9_pay 27 = .ok (.iconst (-1), 1) := by decide +kernel
theorem dX9_pay_28 : decode cX9_pay 28 = .ok (.if_icmp .eq 45, 3) := by decide +kernel
theorem dX9_pay_31 : decode cX9_pay 31 = .ok (.aload_n 0, 1) := by decide +kernel
theorem dX9_pay_32 : decode cX9_pay 32 = .ok (.getfield 18, 3) := by decide +kernel
theorem dX9_pay_35 : decode cX9_pay 35 = .ok (.iload 4, 2) := by decide +kernel
theorem dX9_pay_37 : decode cX9_pay 37 = .ok (.dup2, 1) := by decide +kernel
theorem dX9_pay_38 : decode cX9_pay 38 = .ok (.iaload, 1) := by decide +kernel
theorem dX9_pay_39 : decode cX9_pay 39 = .ok (.aload_n 0, 1) := by decide +kernel
theorem dX9_pay_40 : decode cX9_pay 40 = .ok (.getfield 15, 3) := by decide +kernel
theorem dX9_pay_43 : decode cX9_pay 43 = .ok (.iload_n 1, 1) := by decide +kernel
theorem dX9_pay_44 : decode cX9_pay 44 = .ok (.iload_n 2, 1) := by decide +kernel
theorem dX9_pay_45 : decode cX9_pay 45 = .ok (.iload 4, 2) := by decide +kernel
theorem dX9_pay_47 : decode cX9_pay 47 = .ok (.invokestatic 76, 3) := by decide +kernel
theorem dX9_pay_50 : decode cX9_pay 50 = .ok (.iaload, 1) := by decide +kernel
theorem dX9_pay_51 : decode cX9_pay 51 = .ok (.isub, 1) := by decide +kernel
theorem dX9_pay_52 : decode cX9_pay 52 = .ok (.iastore, 1) := by decide +kernel
theorem dX9_pay_53 : decode cX9_pay 53 = .ok (.iload_n 3, 1) := by decide +kernel
theorem dX9_pay_54 : decode cX9_pay 54 = .ok (.ifCond .eq 17, 3) := by decide +kernel
theorem dX9_pay_57 : decode cX9_pay 57 = .ok (.aload_n 0, 1) := by decide +kernel
theorem dX9_pay_58 : decode cX9_pay 58 = .ok (.getfield 18, 3) := by decide +kernel
theorem dX9_pay_61 : decode cX9_pay 61 = .ok (.iload 4, 2) := by decide +kernel
theorem dX9_pay_63 : decode cX9_pay 63 = .ok (.iaload, 1) := by decide +kernel
theorem dX9_pay_64 : decode cX9_pay 64 = .ok (.ifCond .lt 7, 3) := by decide +kernel
theorem dX9_pay_67 : decode cX9_pay 67 = .ok (.iconst 1, 1) := by decide +kernel
theorem dX9_pay_68 : decode cX9_pay 68 = .ok (.goto 4, 3) := by decide +kernel
theorem dX9_pay_71 : decode cX9_pay 71 = .ok (.iconst 0, 1) := by decide +kernel
theorem dX9_pay_72 : decode cX9_pay 72 = .ok (.istore_n 3, 1) := by decide +kernel
theorem dX9_pay_73 : decode cX9_pay 73 = .ok (.iinc 4 1, 3) := by decide +kernel
theorem dX9_pay_76 : decode cX9_pay 76 = .ok (.goto (-71), 3) := by decide +kernel
theorem dX9_pay_79 : decode cX9_pay 79 = .ok (.iload_n 3, 1) := by decide +kernel
theorem dX9_pay_80 : decode cX9_pay 80 = .ok (.ireturn, 1) := by decide +kernel
theorem dX9_takeBack_0 : decode cX9_takeBack 0 = .ok (.iconst 0, 1) := by decide +kernel
theorem dX9_takeBack_1 : decode cX9_takeBack 1 = .ok (.istore_n 3, 1) := by decide +kernel
theorem dX9_takeBack_2 : decode cX9_takeBack 2 = .ok (.iload_n 3, 1) := by decide +kernel
theorem dX9_takeBack_3 : decode cX9_takeBack 3 = .ok (.aload_n 0, 1) := by decide +kernel
theorem dX9_takeBack_4 : decode cX9_takeBack 4 = .ok (.getfield 21, 3) := by decide +kernel
theorem dX9_takeBack_7 : decode cX9_takeBack 7 = .ok (.getfield 73, 3) := by decide +kernel
theorem dX9_takeBack_10 : decode cX9_takeBack 10 = .ok (.if_icmp .ge 42, 3) := by decide +kernel
theorem dX9_takeBack_13 : decode cX9_takeBack 13 = .ok (.aload_n 0, 1) := by decide +kernel
theorem dX9_takeBack_14 : decode cX9_takeBack 14 = .ok (.getfield 25, 3) := by decide +kernel
theorem dX9_takeBack_17 : decode cX9_takeBack 17 = .ok (.getfield 45, 3) := by decide +kernel
theorem dX9_takeBack_20 : decode cX9_takeBack 20 = .ok (.iload_n 3, 1) := by decide +kernel
theorem dX9_takeBack_21 : decode cX9_takeBack 21 = .ok (.iaload, 1) := by decide +kernel
theorem dX9_takeBack_22 : decode cX9_takeBack 22 = .ok (.iconst (-1), 1) := by decide +kernel
theorem dX9_takeBack_23 : decode cX9_takeBack 23 = .ok (.if_icmp .eq 23, 3) := by decide +kernel
theorem dX9_takeBack_26 : decode cX9_takeBack 26 = .ok (.aload_n 0, 1) := by decide +kernel
theorem dX9_takeBack_27 : decode cX9_takeBack 27 = .ok (.getfield 18, 3) := by decide +kernel
theorem dX9_takeBack_30 : decode cX9_takeBack 30 = .ok (.iload_n 3, 1) := by decide +kernel
theorem dX9_takeBack_31 : decode cX9_takeBack 31 = .ok (.dup2, 1) := by decide +kernel
theorem dX9_takeBack_32 : decode cX9_takeBack 32 = .ok (.iaload, 1) := by decide +kernel
theorem dX9_takeBack_33 : decode cX9_takeBack 33 = .ok (.aload_n 0, 1) := by decide +kernel
theorem dX9_takeBack_34 : decode cX9_takeBack 34 = .ok (.getfield 15, 3) := by decide +kernel
theorem dX9_takeBack_37 : decode cX9_takeBack 37 = .ok (.iload_n 1, 1) := by decide +kernel
theorem dX9_takeBack_38 : decode cX9_takeBack 38 = .ok (.iload_n 2, 1) := by decide +kernel
theorem dX9_takeBack_39 : decode cX9_takeBack 39 = .ok (.iload_n 3, 1) := by decide +kernel
theorem dX9_takeBack_40 : decode cX9_takeBack 40 = .ok (.invokestatic 76, 3) := by decide +kernel
theorem dX9_takeBack_43 : decode cX9_takeBack 43 = .ok (.iaload, 1) := by decide +kernel
theorem dX9_takeBack_44 : decode cX9_takeBack 44 = .ok (.iadd, 1) := by decide +kernel
theorem dX9_takeBack_45 : decode cX9_takeBack 45 = .ok (.iastore, 1) := by decide +kernel
theorem dX9_takeBack_46 : decode cX9_takeBack 46 = .ok (.iinc 3 1, 3) := by decide +kernel
theorem dX9_takeBack_49 : decode cX9_takeBack 49 = .ok (.goto (-47), 3) := by decide +kernel
theorem dX9_takeBack_52 : decode cX9_takeBack 52 = .ok (.return_, 1) := by decide +kernel
theorem dX9_isAllPaid_0 : decode cX9_isAllPaid 0 = .ok (.iconst 0, 1) := by decide +kernel
theorem dX9_isAllPaid_1 : decode cX9_isAllPaid 1 = .ok (.istore_n 1, 1) := by decide +kernel
theorem dX9_isAllPaid_2 : decode cX9_isAllPaid 2 = .ok (.iload_n 1, 1) := by decide +kernel
theorem dX9_isAllPaid_3 : decode cX9_isAllPaid 3 = .ok (.aload_n 0, 1) := by decide +kernel
theorem dX9_isAllPaid_4 : decode cX9_isAllPaid 4 = .ok (.getfield 21, 3) := by decide +kernel
theorem dX9_isAllPaid_7 : decode cX9_isAllPaid 7 = .ok (.getfield 73, 3) := by decide +kernel
theorem dX9_isAllPaid_10 : decode cX9_isAllPaid 10 = .ok (.if_icmp .ge 33, 3) := by decide +kernel
theorem dX9_isAllPaid_13 : decode cX9_isAllPaid 13 = .ok (.aload_n 0, 1) := by decide +kernel
theorem dX9_isAllPaid_14 : decode cX9_isAllPaid 14 = .ok (.getfield 25, 3) := by decide +kernel
theorem dX9_isAllPaid_17 : decode cX9_isAllPaid 17 = .ok (.getfield 45, 3) := by decide +kernel
theorem dX9_isAllPaid_20 : decode cX9_isAllPaid 20 = .ok (.iload_n 1, 1) := by decide +kernel
theorem dX9_isAllPaid_21 : decode cX9_isAllPaid 21 = .ok (.iaload, 1) := by decide +kernel
theorem dX9_isAllPaid_22 : decode cX9_isAllPaid 22 = .ok (.iconst (-1), 1) := by decide +kernel
theorem dX9_isAllPaid_23 : decode cX9_isAllPaid 23 = .ok (.if_icmp .eq 14, 3) := by decide +kernel
theorem dX9_isAllPaid_26 : decode cX9_isAllPaid 26 = .ok (.aload_n 0, 1) := by decide +kernel
theorem dX9_isAllPaid_27 : decode cX9_isAllPaid 27 = .ok (.getfield 18, 3) := by decide +kernel
theorem dX9_isAllPaid_30 : decode cX9_isAllPaid 30 = .ok (.iload_n 1, 1) := by decide +kernel
theorem dX9_isAllPaid_31 : decode cX9_isAllPaid 31 = .ok (.iaload, 1) := by decide +kernel
theorem dX9_isAllPaid_32 : decode cX9_isAllPaid 32 = .ok (.ifCond .eq 5, 3) := by decide +kernel
theorem dX9_isAllPaid_35 : decode cX9_isAllPaid 35 = .ok (.iconst 0, 1) := by decide +kernel
theorem dX9_isAllPaid_36 : decode cX9_isAllPaid 36 = .ok (.ireturn, 1) := by decide +kernel
theorem dX9_isAllPaid_37 : decode cX9_isAllPaid 37 = .ok (.iinc 1 1, 3) := by decide +kernel
theorem dX9_isAllPaid_40 : decode cX9_isAllPaid 40 = .ok (.goto (-38), 3) := by decide +kernel
theorem dX9_isAllPaid_43 : decode cX9_isAllPaid 43 = .ok (.iconst 1, 1) := by decide +kernel
theorem dX9_isAllPaid_44 : decode cX9_isAllPaid 44 = .ok (.ireturn, 1) := by decide +kernel
theorem dX10_init_0 : decode cX10_init 0 = .ok (.aload_n 0, 1) := by decide +kernel
theorem dX10_init_1 : decode cX10_init 1 = .ok (.invokespecial 3, 3) := by decide +kernel
theorem dX10_init_4 : decode cX10_init 4 = .ok (.aload_n 0, 1) := by decide +kernel
theorem dX10_init_5 : decode cX10_init 5 = .ok (.sipush 1000, 3) := by decide +kernel
theorem dX10_init_8 : decode cX10_init 8 = .ok (.newarray .char, 2) := by decide +kernel
theorem dX10_init_10 : decode cX10_init 10 = .ok (.putfield 9, 3) := by decide +kernel
theorem dX10_init_13 : decode cX10_init 13 = .ok (.aload_n 0, 1) := by decide +kernel
theorem dX10_init_14 : decode cX10_init 14 = .ok (.bipush 24, 2) := by decide +kernel
theorem dX10_init_16 : decode cX10_init 16 = .ok (.newarray .long, 2) := by decide +kernel
theorem dX10_init_18 : decode cX10_init 18 = .ok (.putfield 15, 3) := by decide +kernel
theorem dX10_init_21 : decode cX10_init 21 = .ok (.iconst 0, 1) := by decide +kernel
theorem dX10_init_22 : decode cX10_init 22 = .ok (.istore_n 1, 1) := by decide +kernel
theorem dX10_init_23 : decode cX10_init 23 = .ok (.iconst 0, 1) := by decide +kernel
theorem dX10_init_24 : decode cX10_init 24 = .ok (.istore_n 2, 1) := by decide +kernel
theorem dX10_init_25 : decode cX10_init 25 = .ok (.iload_n 2, 1) := by decide +kernel
theorem dX10_init_26 : decode cX10_init 26 = .ok (.ldc 19, 2) := by decide +kernel
theorem dX10_init_28 : decode cX10_init 28 = .ok (.invokevirtual 21, 3) := by decide +kernel
theorem dX10_init_31 : decode cX10_init 31 = .ok (.if_icmp .ge 56, 3) := by decide +kernel
theorem dX10_init_34 : decode cX10_init 34 = .ok (.ldc 19, 2) := by decide +kernel
