theorem dX10_init_36 : decode cX10_init 36 = .ok (.iload_n 2, 1) := by decide +kernel
theorem dX10_init_37 : decode cX10_init 37 = .ok (.invokevirtual 27, 3) := by decide +kernel
theorem dX10_init_40 : decode cX10_init 40 = .ok (.istore_n 3, 1) := by decide +kernel
theorem dX10_init_41 : decode cX10_init 41 = .ok (.iload_n 3, 1) := by decide +kernel
theorem dX10_init_42 : decode cX10_init 42 = .ok (.bipush 32, 2) := by decide +kernel
theorem dX10_init_44 : decode cX10_init 44 = .ok (.if_icmp .ne 9, 3) := by decide +kernel
theorem dX10_init_47 : decode cX10_init 47 = .ok (.iinc 1 1, 3) := by decide +kernel
theorem dX10_init_50 : decode cX10_init 50 = .ok (.goto 31, 3) := by decide +kernel
theorem dX10_init_53 : decode cX10_init 53 = .ok (.iload_n 1, 1) := by decide +kernel
theorem dX10_init_54 : decode cX10_init 54 = .ok (.bipush 24, 2) := by decide +kernel
theorem dX10_init_56 : decode cX10_init 56 = .ok (.if_icmp .ge 25, 3) := by decide +kernel
theorem dX10_init_59 : decode cX10_init 59 = .ok (.aload_n 0, 1) := by decide +kernel
theorem dX10_init_60 : decode cX10_init 60 = .ok (.getfield 15, 3) := by decide +kernel
theorem dX10_init_63 : decode cX10_init 63 = .ok (.iload_n 1, 1) := by decide +kernel
theorem dX10_init_64 : decode cX10_init 64 = .ok (.aload_n 0, 1) := by decide +kernel
theorem dX10_init_65 : decode cX10_init 65 = .ok (.getfield 15, 3) := by decide +kernel
theorem dX10_init_68 : decode cX10_init 68 = .ok (.iload_n 1, 1) := by decide +kernel
theorem dX10_init_69 : decode cX10_init 69 = .ok (.laload, 1) := by decide +kernel
theorem dX10_init_70 : decode cX10_init 70 = .ok (.iconst 5, 1) := by decide +kernel
theorem dX10_init_71 : decode cX10_init 71 = .ok (.lshl, 1) := by decide +kernel
theorem dX10_init_72 : decode cX10_init 72 = .ok (.iload_n 3, 1) := by decide +kernel
theorem dX10_init_73 : decode cX10_init 73 = .ok (.bipush 97, 2) := by decide +kernel
theorem dX10_init_75 : decode cX10_init 75 = .ok (.isub, 1) := by decide +kernel
theorem dX10_init_76 : decode cX10_init 76 = .ok (.iconst 1, 1) := by decide +kernel
theorem dX10_init_77 : decode cX10_init 77 = .ok (.iadd, 1) := by decide +kernel
theorem dX10_init_78 : decode cX10_init 78 = .ok (.i2l, 1) := by decide +kernel
theorem dX10_init_79 : decode cX10_init 79 = .ok (.ladd, 1) := by decide +kernel
theorem dX10_init_80 : decode cX10_init 80 = .ok (.lastore, 1) := by decide +kernel
theorem dX10_init_81 : decode cX10_init 81 = .ok (.iinc 2 1, 3) := by decide +kernel
theorem dX10_init_84 : decode cX10_init 84 = .ok (.goto (-59), 3) := by decide +kernel
theorem dX10_init_87 : decode cX10_init 87 = .ok (.return_, 1) := by decide +kernel
theorem dX10_addBytes_0 : decode cX10_addBytes 0 = .ok (.bipush 56, 2) := by decide +kernel
theorem dX10_addBytes_2 : decode cX10_addBytes 2 = .ok (.istore_n 3, 1) := by decide +kernel
theorem dX10_addBytes_3 : decode cX10_addBytes 3 = .ok (.iload_n 3, 1) := by decide +kernel
theorem dX10_addBytes_4 : decode cX10_addBytes 4 = .ok (.ifCond .lt 72, 3) := by decide +kernel
theorem dX10_addBytes_7 : decode cX10_addBytes 7 = .ok (.lload_n 1, 1) := by decide +kernel
theorem dX10_addBytes_8 : decode cX10_addBytes 8 = .ok (.iload_n 3, 1) := by decide +kernel
theorem dX10_addBytes_9 : decode cX10_addBytes 9 = .ok (.lushr, 1) := by decide +kernel
theorem dX10_addBytes_10 : decode cX10_addBytes 10 = .ok (.ldc2_w 31, 3) := by decide +kernel
theorem dX10_addBytes_13 : decode cX10_addBytes 13 = .ok (.land, 1) := by decide +kernel
theorem dX10_addBytes_14 : decode cX10_addBytes 14 = .ok (.l2i, 1) := by decide +kernel
theorem dX10_addBytes_15 : decode cX10_addBytes 15 = .ok (.istore 4, 2) := by decide +kernel
theorem dX10_addBytes_17 : decode cX10_addBytes 17 = .ok (.aload_n 0, 1) := by decide +kernel
theorem dX10_addBytes_18 : decode cX10_addBytes 18 = .ok (.getfield 33, 3) := by decide +kernel
theorem dX10_addBytes_21 : decode cX10_addBytes 21 = .ok (.sipush 1000, 3) := by decide +kernel
theorem dX10_addBytes_24 : decode cX10_addBytes 24 = .ok (.if_icmp .ge 46, 3) := by decide +kernel
theorem dX10_addBytes_27 : decode cX10_addBytes 27 = .ok (.iload 4, 2) := by decide +kernel
theorem dX10_addBytes_29 : decode cX10_addBytes 29 = .ok (.bipush 10, 2) := by decide +kernel
theorem dX10_addBytes_31 : decode cX10_addBytes 31 = .ok (.if_icmp .eq 17, 3) := by decide +kernel
theorem dX10_addBytes_34 : decode cX10_addBytes 34 = .ok (.iload 4, 2) := by decide +kernel
theorem dX10_addBytes_36 : decode cX10_addBytes 36 = .ok (.bipush 32, 2) := by decide +kernel
theorem dX10_addBytes_38 : decode cX10_addBytes 38 = .ok (.if_icmp .lt 32, 3) := by decide +kernel
theorem dX10_addBytes_41 : decode cX10_addBytes 41 = .ok (.iload 4, 2) := by decide +kernel
theorem dX10_addBytes_43 : decode cX10_addBytes 43 = .ok (.bipush 126, 2) := by decide +kernel
theorem dX10_addBytes_45 : decode cX10_addBytes 45 = .ok (.if_icmp .gt 25, 3) := by decide +kernel
theorem dX10_addBytes_48 : decode cX10_addBytes 48 = .ok (.aload_n 0, 1) := by decide +kernel
theorem dX10_addBytes_49 : decode cX10_addBytes 49 = .ok (.getfield 9, 3) := by decide +kernel
theorem dX10_addBytes_52 : decode cX10_addBytes 52 = .ok (.aload_n 0, 1) := by decide +kernel
theorem dX10_addBytes_53 : decode cX10_addBytes 53 = .ok (.getfield 33, 3) := by decide +kernel
theorem dX10_addBytes_56 : decode cX10_addBytes 56 = .ok (.iload 4, 2) := by decide +kernel
theorem dX10_addBytes_58 : decode cX10_addBytes 58 = .ok (.i2c, 1) := by decide +kernel
theorem dX10_addBytes_59 : decode cX10_addBytes 59 = .ok (.castore, 1) := by decide +kernel
theorem dX10_addBytes_60 : decode cX10_addBytes 60 = .ok (.aload_n 0, 1) := by decide +kernel
theorem dX10_addBytes_61 : decode cX10_addBytes 61 = .ok (.dup, 1) := by decide +kernel
theorem dX10_addBytes_62 : decode cX10_addBytes 62 = .ok (.getfield 33, 3) := by decide +kernel
theorem dX10_addBytes_65 : decode cX10_addBytes 65 = .ok (.iconst 1, 1) := by decide +kernel
theorem dX10_addBytes_66 : decode cX10_addBytes 66 = .ok (.iadd, 1) := by decide +kernel
theorem dX10_addBytes_67 : decode cX10_addBytes 67 = .ok (.putfield 33, 3) := by decide +kernel
theorem dX10_addBytes_70 : decode cX10_addBytes 70 = .ok (.iinc 3 (-8), 3) := by decide +kernel
theorem dX10_addBytes_73 : decode cX10_addBytes 73 = .ok (.goto (-70), 3) := by decide +kernel
theorem dX10_addBytes_76 : decode cX10_addBytes 76 = .ok (.return_, 1) := by decide +kernel
theorem dX10_rewind_0 : decode cX10_rewind 0 = .ok (.aload_n 0, 1) := by decide +kernel
theorem dX10_rewind_1 : decode cX10_rewind 1 = .ok (.iconst 0, 1) := by decide +kernel
theorem dX10_rewind_2 : decode cX10_rewind 2 = .ok (.putfield 36, 3) := by decide +kernel
theorem dX10_rewind_5 : decode cX10_rewind 5 = .ok (.aload_n 0, 1) := by decide +kernel
theorem dX10_rewind_6 : decode cX10_rewind 6 = .ok (.invokevirtual 39, 3) := by decide +kernel
theorem dX10_rewind_9 : decode cX10_rewind 9 = .ok (.pop, 1) := by decide +kernel
theorem dX10_rewind_10 : decode cX10_rewind 10 = .ok (.return_, 1) := by decide +kernel
theorem dX10_fail_0 : decode cX10_fail 0 = .ok (.aload_n 0, 1) := by decide +kernel
theorem dX10_fail_1 : decode cX10_fail 1 = .ok (.iload_n 1, 1) := by decide +kernel
theorem dX10_fail_2 : decode cX10_fail 2 = .ok (.bipush 16, 2) := by decide +kernel
theorem dX10_fail_4 : decode cX10_fail 4 = .ok (.aload_n 0, 1) := by decide +kernel
theorem dX10_fail_5 : decode cX10_fail 5 = .ok (.getfield 43, 3) := by decide +kernel
theorem dX10_fail_8 : decode cX10_fail 8 = .ok (.imul, 1) := by decide +kernel
theorem dX10_fail_9 : decode cX10_fail 9 = .ok (.iadd, 1) := by decide +kernel
theorem dX10_fail_10 : decode cX10_fail 10 = .ok (.putfield 46, 3) := by decide +kernel
theorem dX10_fail_13 : decode cX10_fail 13 = .ok (.iconst 0, 1) := by decide +kernel
theorem dX10_fail_14 : decode cX10_fail 14 = .ok (.ireturn, 1) := by decide +kernel
theorem dX10_step_0 : decode cX10_step 0 = .ok (.aload_n 0, 1) := by decide +kernel
theorem dX10_step_1 : decode cX10_step 1 = .ok (.getfield 36, 3) := by decide +kernel
theorem dX10_step_4 : decode cX10_step 4 = .ok (.aload_n 0, 1) := by decide +kernel
theorem dX10_step_5 : decode cX10_step 5 = .ok (.getfield 33, 3) := by decide +kernel
theorem dX10_step_8 : decode cX10_step 8 = .ok (.if_icmp .ge 44, 3) := by decide +kernel
theorem dX10_step_11 : decode cX10_step 11 = .ok (.aload_n 0, 1) := by decide +kernel
theorem dX10_step_12 : decode cX10_step 12 = .ok (.getfield 9, 3) := by decide +kernel
theorem dX10_step_15 : decode cX10_step 15 = .ok (.aload_n 0, 1) := by decide +kernel
theorem dX10_step_16 : decode cX10_step 16 = .ok (.getfield 36, 3) := by decide +kernel
theorem dX10_step_19 : decode cX10_step 19 = .ok (.caload, 1) := by decide +kernel
theorem dX10_step_20 : decode cX10_step 20 = .ok (.bipush 32, 2) := by decide +kernel
theorem dX10_step_22 : decode cX10_step 22 = .ok (.if_icmp .eq 17, 3) := by decide +kernel
theorem dX10_step_25 : decode cX10_step 25 = .ok (.aload_n 0, 1) := by decide +kernel
theorem dX10_step_26 : decode cX10_step 26 = .ok (.getfield 9, 3) := by decide +kernel
theorem dX10_step_29 : decode cX10_step 29 = .ok (.aload_n 0, 1) := by decide +kernel
theorem dX10_step_30 : decode cX10_step 30 = .ok (.getfield 36, 3) := by decide +kernel
theorem dX10_step_33 : decode cX10_step 33 = .ok (.caload, 1) := by decide +kernel
theorem dX10_step_34 : decode cX10_step 34 = .ok (.bipush 10, 2) := by decide +kernel
theorem dX10_step_36 : decode cX10_step 36 = .ok (.if_icmp .ne 16, 3) := by decide +kernel
theorem dX10_step_39 : decode cX10_step 39 = .ok (.aload_n 0, 1) := by decide +kernel
theorem dX10_step_40 : decode cX10_step 40 = .ok (.dup, 1) := by decide +kernel
theorem dX10_step_41 : decode cX10_step 41 = .ok (.getfield 36, 3) := by decide +kernel
theorem dX10_step_44 : decode cX10_step 44 = .ok (.iconst 1, 1) := by decide +kernel
theorem dX10_step_45 : decode cX10_step 45 = .ok (.iadd, 1) := by decide +kernel
theorem dX10_step_46 : decode cX10_step 46 = .ok (.putfield 36, 3) := by decide +kernel
theorem dX10_step_49 : decode cX10_step 49 = .ok (.goto (-49), 3) := by decide +kernel
theorem dX10_step_52 : decode cX10_step 52 = .ok (.aload_n 0, 1) := by decide +kernel
theorem dX10_step_53 : decode cX10_step 53 = .ok (.aload_n 0, 1) := by decide +kernel
theorem dX10_step_54 : decode cX10_step 54 = .ok (.getfield 36, 3) := by decide +kernel
theorem dX10_step_57 : decode cX10_step 57 = .ok (.putfield 43, 3) := by decide +kernel
theorem dX10_step_60 : decode cX10_step 60 = .ok (.aload_n 0, 1) := by decide +kernel
theorem dX10_step_61 : decode cX10_step 61 = .ok (.iconst 0, 1) := by decide +kernel
theorem dX10_step_62 : decode cX10_step 62 = .ok (.putfield 49, 3) := by decide +kernel
theorem dX10_step_65 : decode cX10_step 65 = .ok (.aload_n 0, 1) := by decide +kernel
theorem dX10_step_66 : decode cX10_step 66 = .ok (.iconst (-1), 1) := by decide +kernel
theorem dX10_step_67 : decode cX10_step 67 = .ok (.putfield 52, 3) := by decide +kernel
theorem dX10_step_70 : decode cX10_step 70 = .ok (.aload_n 0, 1) := by decide +kernel
theorem dX10_step_71 : decode cX10_step 71 = .ok (.lconst 0, 1) := by decide +kernel
theorem dX10_step_72 : decode cX10_step 72 = .ok (.putfield 55, 3) := by decide +kernel
theorem dX10_step_75 : decode cX10_step 75 = .ok (.aload_n 0, 1) := by decide +kernel
theorem dX10_step_76 : decode cX10_step 76 = .ok (.getfield 36, 3) := by decide +kernel
theorem dX10_step_79 : decode cX10_step 79 = .ok (.aload_n 0, 1) := by decide +kernel
theorem dX10_step_80 : decode cX10_step 80 = .ok (.getfield 33, 3) := by decide +kernel
theorem dX10_step_83 : decode cX10_step 83 = .ok (.if_icmp .ge 15, 3) := by decide +kernel
theorem dX10_step_86 : decode cX10_step 86 = .ok (.aload_n 0, 1) := by decide +kernel
theorem dX10_step_87 : decode cX10_step 87 = .ok (.getfield 9, 3) := by decide +kernel
theorem dX10_step_90 : decode cX10_step 90 = .ok (.aload_n 0, 1) := by decide +kernel
theorem dX10_step_91 : decode cX10_step 91 = .ok (.getfield 36, 3) := by decide +kernel
theorem dX10_step_94 : decode cX10_step 94 = .ok (.caload, 1) := by decide +kernel
theorem dX10_step_95 : decode cX10_step 95 = .ok (.goto 4, 3) := by decide +kernel
theorem dX10_step_98 : decode cX10_step 98 = .ok (.iconst 0, 1) := by decide +kernel
theorem dX10_step_99 : decode cX10_step 99 = .ok (.istore_n 1, 1) := by decide +kernel
theorem dX10_step_100 : decode cX10_step 100 = .ok (.aload_n 0, 1) := by decide +kernel
theorem dX10_step_101 : decode cX10_step 101 = .ok (.getfield 36, 3) := by decide +kernel
theorem dX10_step_104 : decode cX10_step 104 = .ok (.aload_n 0, 1) := by decide +kernel
theorem dX10_step_105 : decode cX10_step 105 = .ok (.getfield 33, 3) := by decide +kernel
theorem dX10_step_108 : decode cX10_step 108 = .ok (.if_icmp .lt 11, 3) := by decide +kernel
theorem dX10_step_111 : decode cX10_step 111 = .ok (.aload_n 0, 1) := by decide +kernel
theorem dX10_step_112 : decode cX10_step 112 = .ok (.iconst 0, 1) := by decide +kernel
theorem dX10_step_113 : decode cX10_step 113 = .ok (.putfield 59, 3) := by decide +kernel
theorem dX10_step_116 : decode cX10_step 116 = .ok (.goto 67, 3) := by decide +kernel
theorem dX10_step_119 : decode cX10_step 119 = .ok (.iload_n 1, 1) := by decide +kernel
theorem dX10_step_120 : decode cX10_step 120 = .ok (.bipush 97, 2) := by decide +kernel
theorem dX10_step_122 : decode cX10_step 122 = .ok (.if_icmp .lt 16, 3) := by decide +kernel
theorem dX10_step_125 : decode cX10_step 125 = .ok (.iload_n 1, 1) := by decide +kernel
theorem dX10_step_126 : decode cX10_step 126 = .ok (.bipush 122, 2) := by decide +kernel
theorem dX10_step_128 : decode cX10_step 128 = .ok (.if_icmp .gt 10, 3) := by decide +kernel
theorem dX10_step_131 : decode cX10_step 131 = .ok (.aload_n 0, 1) := by decide +kernel
theorem dX10_step_132 : decode cX10_step 132 = .ok (.invokevirtual 62, 3) := by decide +kernel
theorem dX10_step_135 : decode cX10_step 135 = .ok (.goto 48, 3) := by decide +kernel
theorem dX10_step_138 : decode cX10_step 138 = .ok (.iload_n 1, 1) := by decide +kernel
theorem dX10_step_139 : decode cX10_step 139 = .ok (.bipush 48, 2) := by decide +kernel
theorem dX10_step_141 : decode cX10_step 141 = .ok (.if_icmp .lt 16, 3) := by decide +kernel
theorem dX10_step_144 : decode cX10_step 144 = .ok (.iload_n 1, 1) := by decide +kernel
theorem dX10_step_145 : decode cX10_step 145 = .ok (.bipush 57, 2) := by decide +kernel
theorem dX10_step_147 : decode cX10_step 147 = .ok (.if_icmp .gt 10, 3) := by decide +kernel
theorem dX10_step_150 : decode cX10_step 150 = .ok (.aload_n 0, 1) := by decide +kernel
theorem dX10_step_151 : decode cX10_step 151 = .ok (.invokevirtual 65, 3) := by decide +kernel
theorem dX10_step_154 : decode cX10_step 154 = .ok (.goto 29, 3) := by decide +kernel
theorem dX10_step_157 : decode cX10_step 157 = .ok (.aload_n 0, 1) := by decide +kernel
theorem dX10_step_158 : decode cX10_step 158 = .ok (.iload_n 1, 1) := by decide +kernel
theorem dX10_step_159 : decode cX10_step 159 = .ok (.invokestatic 68, 3) := by decide +kernel
theorem dX10_step_162 : decode cX10_step 162 = .ok (.ifCond .eq 7, 3) := by decide +kernel
theorem dX10_step_165 : decode cX10_step 165 = .ok (.iload_n 1, 1) := by decide +kernel
theorem dX10_step_166 : decode cX10_step 166 = .ok (.goto 4, 3) := by decide +kernel
theorem dX10_step_169 : decode cX10_step 169 = .ok (.iconst 1, 1) := by decide +kernel
theorem dX10_step_170 : decode cX10_step 170 = .ok (.putfield 59, 3) := by decide +kernel
theorem dX10_step_173 : decode cX10_step 173 = .ok (.aload_n 0, 1) := by decide +kernel
theorem dX10_step_174 : decode cX10_step 174 = .ok (.dup, 1) := by decide +kernel
theorem dX10_step_175 : decode cX10_step 175 = .ok (.getfield 36, 3) := by decide +kernel
theorem dX10_step_178 : decode cX10_step 178 = .ok (.iconst 1, 1) := by decide +kernel
theorem dX10_step_179 : decode cX10_step 179 = .ok (.iadd, 1) := by decide +kernel
theorem dX10_step_180 : decode cX10_step 180 = .ok (.putfield 36, 3) := by decide +kernel
theorem dX10_step_183 : decode cX10_step 183 = .ok (.iconst 1, 1) := by decide +kernel
theorem dX10_step_184 : decode cX10_step 184 = .ok (.ireturn, 1) := by decide +kernel
theorem dX10_isName_0 : decode cX10_isName 0 = .ok (.aload_n 0, 1) := by decide +kernel
theorem dX10_isName_1 : decode cX10_isName 1 = .ok (.getfield 59, 3) := by decide +kernel
theorem dX10_isName_4 : decode cX10_isName 4 = .ok (.iconst 2, 1) := by decide +kernel
theorem dX10_isName_5 : decode cX10_isName 5 = .ok (.if_icmp .ne 24, 3) := by decide +kernel
theorem dX10_isName_8 : decode cX10_isName 8 = .ok (.aload_n 0, 1) := by decide +kernel
theorem dX10_isName_9 : decode cX10_isName 9 = .ok (.getfield 52, 3) := by decide +kernel
theorem dX10_isName_12 : decode cX10_isName 12 = .ok (.iconst (-1), 1) := by decide +kernel
theorem dX10_isName_13 : decode cX10_isName 13 = .ok (.if_icmp .eq 12, 3) := by decide +kernel
theorem dX10_isName_16 : decode cX10_isName 16 = .ok (.aload_n 0, 1) := by decide +kernel
theorem dX10_isName_17 : decode cX10_isName 17 = .ok (.getfield 52, 3) := by decide +kernel
theorem dX10_isName_20 : decode cX10_isName 20 = .ok (.bipush 20, 2) := by decide +kernel
theorem dX10_isName_22 : decode cX10_isName 22 = .ok (.if_icmp .lt 7, 3) := by decide +kernel
theorem dX10_isName_25 : decode cX10_isName 25 = .ok (.iconst 1, 1) := by decide +kernel
theorem dX10_isName_26 : decode cX10_isName 26 = .ok (.goto 4, 3) := by decide +kernel
theorem dX10_isName_29 : decode cX10_isName 29 = .ok (.iconst 0, 1) := by decide +kernel
theorem dX10_isName_30 : decode cX10_isName 30 = .ok (.ireturn, 1) := by decide +kernel
theorem dX10_readWord_0 : decode cX10_readWord 0 = .ok (.aload_n 0, 1) := by decide +kernel
theorem dX10_readWord_1 : decode cX10_readWord 1 = .ok (.getfield 36, 3) := by decide +kernel
theorem dX10_readWord_4 : decode cX10_readWord 4 = .ok (.aload_n 0, 1) := by decide +kernel
theorem dX10_readWord_5 : decode cX10_readWord 5 = .ok (.getfield 33, 3) := by decide +kernel
theorem dX10_readWord_8 : decode cX10_readWord 8 = .ok (.if_icmp .ge 70, 3) := by decide +kernel
theorem dX10_readWord_11 : decode cX10_readWord 11 = .ok (.aload_n 0, 1) := by decide +kernel
theorem dX10_readWord_12 : decode cX10_readWord 12 = .ok (.getfield 9, 3) := by decide +kernel
theorem dX10_readWord_15 : decode cX10_readWord 15 = .ok (.aload_n 0, 1) := by decide +kernel
theorem dX10_readWord_16 : decode cX10_readWord 16 = .ok (.getfield 36, 3) := by decide +kernel
theorem dX10_readWord_19 : decode cX10_readWord 19 = .ok (.caload, 1) := by decide +kernel
theorem dX10_readWord_20 : decode cX10_readWord 20 = .ok (.bipush 97, 2) := by decide +kernel
theorem dX10_readWord_22 : decode cX10_readWord 22 = .ok (.if_icmp .lt 56, 3) := by decide +kernel
theorem dX10_readWord_25 : decode cX10_readWord 25 = .ok (.aload_n 0, 1) := by decide +kernel
theorem dX10_readWord_26 : decode cX10_readWord 26 = .ok (.getfield 9, 3) := by decide +kernel
theorem dX10_readWord_29 : decode cX10_readWord 29 = .ok (.aload_n 0, 1) := by decide +kernel
theorem dX10_readWord_30 : decode cX10_readWord 30 = .ok (.getfield 36, 3) := by decide +kernel
theorem dX10_readWord_33 : decode cX10_readWord 33 = .ok (.caload, 1) := by decide +kernel
theorem dX10_readWord_34 : decode cX10_readWord 34 = .ok (.bipush 122, 2) := by decide +kernel
theorem dX10_readWord_36 : decode cX10_readWord 36 = .ok (.if_icmp .gt 42, 3) := by decide +kernel
theorem dX10_readWord_39 : decode cX10_readWord 39 = .ok (.aload_n 0, 1) := by decide +kernel
theorem dX10_readWord_40 : decode cX10_readWord 40 = .ok (.aload_n 0, 1) := by decide +kernel
theorem dX10_readWord_41 : decode cX10_readWord 41 = .ok (.getfield 55, 3) := by decide +kernel
theorem dX10_readWord_44 : decode cX10_readWord 44 = .ok (.iconst 5, 1) := by decide +kernel
theorem dX10_readWord_45 : decode cX10_readWord 45 = .ok (.lshl, 1) := by decide +kernel
theorem dX10_readWord_46 : decode cX10_readWord 46 = .ok (.aload_n 0, 1) := by decide +kernel
theorem dX10_readWord_47 : decode cX10_readWord 47 = .ok (.getfield 9, 3) := by decide +kernel
theorem dX10_readWord_50 : decode cX10_readWord 50 = .ok (.aload_n 0, 1) := by decide +kernel
theorem dX10_readWord_51 : decode cX10_readWord 51 = .ok (.getfield 36, 3) := by decide +kernel
theorem dX10_readWord_54 : decode cX10_readWord 54 = .ok (.caload, 1) := by decide +kernel
theorem dX10_readWord_55 : decode cX10_readWord 55 = .ok (.bipush 97, 2) := by decide +kernel
theorem dX10_readWord_57 : decode cX10_readWord 57 = .ok (.isub, 1) := by decide +kernel
theorem dX10_readWord_58 : decode cX10_readWord 58 = .ok (.iconst 1, 1) := by decide +kernel
theorem dX10_readWord_59 : decode cX10_readWord 59 = .ok (.iadd, 1) := by decide +kernel
theorem dX10_readWord_60 : decode cX10_readWord 60 = .ok (.i2l, 1) := by decide +kernel
theorem dX10_readWord_61 : decode cX10_readWord 61 = .ok (.ladd, 1) := by decide +kernel
theorem dX10_readWord_62 : decode cX10_readWord 62 = .ok (.putfield 55, 3) := by decide +kernel
theorem dX10_readWord_65 : decode cX10_readWord 65 = .ok (.aload_n 0, 1) := by decide +kernel
theorem dX10_readWord_66 : decode cX10_readWord 66 = .ok (.dup, 1) := by decide +kernel
theorem dX10_readWord_67 : decode cX10_readWord 67 = .ok (.getfield 36, 3) := by decide +kernel
theorem dX10_readWord_70 : decode cX10_readWord 70 = .ok (.iconst 1, 1) := by decide +kernel
theorem dX10_readWord_71 : decode cX10_readWord 71 = .ok (.iadd, 1) := by decide +kernel
theorem dX10_readWord_72 : decode cX10_readWord 72 = .ok (.putfield 36, 3) := by decide +kernel
theorem dX10_readWord_75 : decode cX10_readWord 75 = .ok (.goto (-75), 3) := by decide +kernel
theorem dX10_readWord_78 : decode cX10_readWord 78 = .ok (.aload_n 0, 1) := by decide +kernel
theorem dX10_readWord_79 : decode cX10_readWord 79 = .ok (.aload_n 0, 1) := by decide +kernel
theorem dX10_readWord_80 : decode cX10_readWord 80 = .ok (.getfield 36, 3) := by decide +kernel
theorem dX10_readWord_83 : decode cX10_readWord 83 = .ok (.aload_n 0, 1) := by decide +kernel
theorem dX10_readWord_84 : decode cX10_readWord 84 = .ok (.getfield 43, 3) := by decide +kernel
theorem dX10_readWord_87 : decode cX10_readWord 87 = .ok (.isub, 1) := by decide +kernel
theorem dX10_readWord_88 : decode cX10_readWord 88 = .ok (.bipush 8, 2) := by decide +kernel
theorem dX10_readWord_90 : decode cX10_readWord 90 = .ok (.if_icmp .gt 7, 3) := by decide +kernel
theorem dX10_readWord_93 : decode cX10_readWord 93 = .ok (.iconst 2, 1) := by decide +kernel
theorem dX10_readWord_94 : decode cX10_readWord 94 = .ok (.goto 4, 3) := by decide +kernel
theorem dX10_readWord_97 : decode cX10_readWord 97 = .ok (.iconst 1, 1) := by decide +kernel
theorem dX10_readWord_98 : decode cX10_readWord 98 = .ok (.putfield 59, 3) := by decide +kernel
theorem dX10_readWord_101 : decode cX10_readWord 101 = .ok (.iconst 0, 1) := by decide +kernel
theorem dX10_readWord_102 : decode cX10_readWord 102 = .ok (.istore_n 1, 1) := by decide +kernel
theorem dX10_readWord_103 : decode cX10_readWord 103 = .ok (.iload_n 1, 1) := by decide +kernel
theorem dX10_readWord_104 : decode cX10_readWord 104 = .ok (.bipush 24, 2) := by decide +kernel
theorem dX10_readWord_106 : decode cX10_readWord 106 = .ok (.if_icmp .ge 36, 3) := by decide +kernel
theorem dX10_readWord_109 : decode cX10_readWord 109 = .ok (.aload_n 0, 1) := by decide +kernel
theorem dX10_readWord_110 : decode cX10_readWord 110 = .ok (.getfield 59, 3) := by decide +kernel
theorem dX10_readWord_113 : decode cX10_readWord 113 = .ok (.iconst 2, 1) := by decide +kernel
theorem dX10_readWord_114 : decode cX10_readWord 114 = .ok (.if_icmp .ne 28, 3) := by decide +kernel
theorem dX10_readWord_117 : decode cX10_readWord 117 = .ok (.aload_n 0, 1) := by decide +kernel
theorem dX10_readWord_118 : decode cX10_readWord 118 = .ok (.getfield 15, 3) := by decide +kernel
theorem dX10_readWord_121 : decode cX10_readWord 121 = .ok (.iload_n 1, 1) := by decide +kernel
theorem dX10_readWord_122 : decode cX10_readWord 122 = .ok (.laload, 1) := by decide +kernel
theorem dX10_readWord_123 : decode cX10_readWord 123 = .ok (.aload_n 0, 1) := by decide +kernel
theorem dX10_readWord_124 : decode cX10_readWord 124 = .ok (.getfield 55, 3) := by decide +kernel
theorem dX10_readWord_127 : decode cX10_readWord 127 = .ok (.lcmp, 1) := by decide +kernel
theorem dX10_readWord_128 : decode cX10_readWord 128 = .ok (.ifCond .ne 8, 3) := by decide +kernel
theorem dX10_readWord_131 : decode cX10_readWord 131 = .ok (.aload_n 0, 1) := by decide +kernel
theorem dX10_readWord_132 : decode cX10_readWord 132 = .ok (.iload_n 1, 1) := by decide +kernel
theorem dX10_readWord_133 : decode cX10_readWord 133 = .ok (.putfield 52, 3) := by decide +kernel
theorem dX10_readWord_136 : decode cX10_readWord 136 = .ok (.iinc 1 1, 3) := by decide +kernel
theorem dX10_readWord_139 : decode cX10_readWord 139 = .ok (.goto (-36), 3) := by decide +kernel
theorem dX10_readWord_142 : decode cX10_readWord 142 = .ok (.return_, 1) := by decide +kernel
theorem dX10_readNumber_0 : decode cX10_readNumber 0 = .ok (.aload_n 0, 1) := by decide +kernel
theorem dX10_readNumber_1 : decode cX10_readNumber 1 = .ok (.getfield 36, 3) := by decide +kernel
theorem dX10_readNumber_4 : decode cX10_readNumber 4 = .ok (.aload_n 0, 1) := by decide +kernel
theorem dX10_readNumber_5 : decode cX10_readNumber 5 = .ok (.getfield 33, 3) := by decide +kernel
theorem dX10_readNumber_8 : decode cX10_readNumber 8 = .ok (.if_icmp .ge 68, 3) := by decide +kernel
theorem dX10_readNumber_11 : decode cX10_readNumber 11 = .ok (.aload_n 0, 1) := by decide +kernel
theorem dX10_readNumber_12 : decode cX10_readNumber 12 = .ok (.getfield 9, 3) := by decide +kernel
theorem dX10_readNumber_15 : decode cX10_readNumber 15 = .ok (.aload_n 0, 1) := by decide +kernel
theorem dX10_readNumber_16 : decode cX10_readNumber 16 = .ok (.getfield 36, 3) := by decide +kernel
theorem dX10_readNumber_19 : decode cX10_readNumber 19 = .ok (.caload, 1) := by decide +kernel
theorem dX10_readNumber_20 : decode cX10_readNumber 20 = .ok (.bipush 48, 2) := by decide +kernel
theorem dX10_readNumber_22 : decode cX10_readNumber 22 = .ok (.if_icmp .lt 54, 3) := by decide +kernel
theorem dX10_readNumber_25 : decode cX10_readNumber 25 = .ok (.aload_n 0, 1) := by decide +kernel
theorem dX10_readNumber_26 : decode cX10_readNumber 26 = .ok (.getfield 9, 3) := by decide +kernel
theorem dX10_readNumber_29 : decode cX10_readNumber 29 = .ok (.aload_n 0, 1) := by decide +kernel
theorem dX10_readNumber_30 : decode cX10_readNumber 30 = .ok (.getfield 36, 3) := by decide +kernel
theorem dX10_readNumber_33 : decode cX10_readNumber 33 = .ok (.caload, 1) := by decide +kernel
theorem dX10_readNumber_34 : decode cX10_readNumber 34 = .ok (.bipush 57, 2) := by decide +kernel
theorem dX10_readNumber_36 : decode cX10_readNumber 36 = .ok (.if_icmp .gt 40, 3) := by decide +kernel
theorem dX10_readNumber_39 : decode cX10_readNumber 39 = .ok (.aload_n 0, 1) := by decide +kernel
theorem dX10_readNumber_40 : decode cX10_readNumber 40 = .ok (.aload_n 0, 1) := by decide +kernel
theorem dX10_readNumber_41 : decode cX10_readNumber 41 = .ok (.getfield 49, 3) := by decide +kernel
theorem dX10_readNumber_44 : decode cX10_readNumber 44 = .ok (.bipush 10, 2) := by decide +kernel
theorem dX10_readNumber_46 : decode cX10_readNumber 46 = .ok (.imul, 1) := by decide +kernel
theorem dX10_readNumber_47 : decode cX10_readNumber 47 = .ok (.aload_n 0, 1) := by decide +kernel
theorem dX10_readNumber_48 : decode cX10_readNumber 48 = .ok (.getfield 9, 3) := by decide +kernel
theorem dX10_readNumber_51 : decode cX10_readNumber 51 = .ok (.aload_n 0, 1) := by decide +kernel
theorem dX10_readNumber_52 : decode cX10_readNumber 52 = .ok (.getfield 36, 3) := by decide +kernel
theorem dX10_readNumber_55 : decode cX10_readNumber 55 = .ok (.caload, 1) := by decide +kernel
theorem dX10_readNumber_56 : decode cX10_readNumber 56 = .ok (.bipush 48, 2) := by decide +kernel
theorem dX10_readNumber_58 : decode cX10_readNumber 58 = .ok (.isub, 1) := by decide +kernel
theorem dX10_readNumber_59 : decode cX10_readNumber 59 = .ok (.iadd, 1) := by decide +kernel
theorem dX10_readNumber_60 : decode cX10_readNumber 60 = .ok (.putfield 49, 3) := by decide +kernel
theorem dX10_readNumber_63 : decode cX10_readNumber 63 = .ok (.aload_n 0, 1) := by decide +kernel
theorem dX10_readNumber_64 : decode cX10_readNumber 64 = .ok (.dup, 1) := by decide +kernel
theorem dX10_readNumber_65 : decode cX10_readNumber 65 = .ok (.getfield 36, 3) := by decide +kernel
theorem dX10_readNumber_68 : decode cX10_readNumber 68 = .ok (.iconst 1, 1) := by decide +kernel
theorem dX10_readNumber_69 : decode cX10_readNumber 69 = .ok (.iadd, 1) := by decide +kernel
theorem dX10_readNumber_70 : decode cX10_readNumber 70 = .ok (.putfield 36, 3) := by decide +kernel
theorem dX10_readNumber_73 : decode cX10_readNumber 73 = .ok (.goto (-73), 3) := by decide +kernel
theorem dX10_readNumber_76 : decode cX10_readNumber 76 = .ok (.aload_n 0, 1) := by decide +kernel
theorem dX10_readNumber_77 : decode cX10_readNumber 77 = .ok (.aload_n 0, 1) := by decide +kernel
theorem dX10_readNumber_78 : decode cX10_readNumber 78 = .ok (.getfield 36, 3) := by decide +kernel
theorem dX10_readNumber_81 : decode cX10_readNumber 81 = .ok (.aload_n 0, 1) := by decide +kernel
theorem dX10_readNumber_82 : decode cX10_readNumber 82 = .ok (.getfield 43, 3) := by decide +kernel
theorem dX10_readNumber_85 : decode cX10_readNumber 85 = .ok (.isub, 1) := by decide +kernel
theorem dX10_readNumber_86 : decode cX10_readNumber 86 = .ok (.iconst 4, 1) := by decide +kernel
theorem dX10_readNumber_87 : decode cX10_readNumber 87 = .ok (.if_icmp .gt 7, 3) := by decide +kernel
theorem dX10_readNumber_90 : decode cX10_readNumber 90 = .ok (.iconst 3, 1) := by decide +kernel
theorem dX10_readNumber_91 : decode cX10_readNumber 91 = .ok (.goto 4, 3) := by decide +kernel
theorem dX10_readNumber_94 : decode cX10_readNumber 94 = .ok (.iconst 1, 1) := by decide +kernel
theorem dX10_readNumber_95 : decode cX10_readNumber 95 = .ok (.putfield 59, 3) := by decide +kernel
theorem dX10_readNumber_98 : decode cX10_readNumber 98 = .ok (.return_, 1) := by decide +kernel
theorem dX10_isSign_0 : decode cX10_isSign 0 = .ok (.iload_n 0, 1) := by decide +kernel
theorem dX10_isSign_1 : decode cX10_isSign 1 = .ok (.tableswitch 105 40 61 #[103, 103, 103, 103, 105, 103, 105, 105, 105, 105, 105, 105, 105, 105, 105, 105, 105, 105, 105, 103, 103, 103], 103) := by decide +kernel
theorem dX10_isSign_104 : decode cX10_isSign 104 = .ok (.iconst 1, 1) := by decide +kernel
theorem dX10_isSign_105 : decode cX10_isSign 105 = .ok (.ireturn, 1) := by decide +kernel
theorem dX10_isSign_106 : decode cX10_isSign 106 = .ok (.iconst 0, 1) := by decide +kernel
theorem dX10_isSign_107 : decode cX10_isSign 107 = .ok (.ireturn, 1) := by decide +kernel
theorem dX11_init_0 : decode cX11_init 0 = .ok (.aload_n 0, 1) := by decide +kernel
theorem dX11_init_1 : decode cX11_init 1 = .ok (.invokespecial 1, 3) := by decide +kernel
theorem dX11_init_4 : decode cX11_init 4 = .ok (.aload_n 0, 1) := by decide +kernel
theorem dX11_init_5 : decode cX11_init 5 = .ok (.new 7, 3) := by decide +kernel
theorem dX11_init_8 : decode cX11_init 8 = .ok (.dup, 1) := by decide +kernel
theorem dX11_init_9 : decode cX11_init 9 = .ok (.invokespecial 9, 3) := by decide +kernel
theorem dX11_init_12 : decode cX11_init 12 = .ok (.putfield 10, 3) := by decide +kernel
theorem dX11_init_15 : decode cX11_init 15 = .ok (.aload_n 0, 1) := by decide +kernel
theorem dX11_init_16 : decode cX11_init 16 = .ok (.new 16, 3) := by decide +kernel
theorem dX11_init_19 : decode cX11_init 19 = .ok (.dup, 1) := by decide +kernel
theorem dX11_init_20 : decode cX11_init 20 = .ok (.invokespecial 18, 3) := by decide +kernel
theorem dX11_init_23 : decode cX11_init 23 = .ok (.putfield 19, 3) := by decide +kernel
theorem dX11_init_26 : decode cX11_init 26 = .ok (.aload_n 0, 1) := by decide +kernel
theorem dX11_init_27 : decode cX11_init 27 = .ok (.new 16, 3) := by decide +kernel
theorem dX11_init_30 : decode cX11_init 30 = .ok (.dup, 1) := by decide +kernel
theorem dX11_init_31 : decode cX11_init 31 = .ok (.invokespecial 18, 3) := by decide +kernel
theorem dX11_init_34 : decode cX11_init 34 = .ok (.putfield 23, 3) := by decide +kernel
theorem dX11_init_37 : decode cX11_init 37 = .ok (.aload_n 0, 1) := by decide +kernel
theorem dX11_init_38 : decode cX11_init 38 = .ok (.new 26, 3) := by decide +kernel
theorem dX11_init_41 : decode cX11_init 41 = .ok (.dup, 1) := by decide +kernel
theorem dX11_init_42 : decode cX11_init 42 = .ok (.aload_n 0, 1) := by decide +kernel
theorem dX11_init_43 : decode cX11_init 43 = .ok (.getfield 10, 3) := by decide +kernel
theorem dX11_init_46 : decode cX11_init 46 = .ok (.aload_n 0, 1) := by decide +kernel
theorem dX11_init_47 : decode cX11_init 47 = .ok (.getfield 23, 3) := by decide +kernel
theorem dX11_init_50 : decode cX11_init 50 = .ok (.invokespecial 28, 3) := by decide +kernel
theorem dX11_init_53 : decode cX11_init 53 = .ok (.putfield 31, 3) := by decide +kernel
theorem dX11_init_56 : decode cX11_init 56 = .ok (.aload_n 0, 1) := by decide +kernel
theorem dX11_init_57 : decode cX11_init 57 = .ok (.new 35, 3) := by decide +kernel
theorem dX11_init_60 : decode cX11_init 60 = .ok (.dup, 1) := by decide +kernel
theorem dX11_init_61 : decode cX11_init 61 = .ok (.invokespecial 37, 3) := by decide +kernel
theorem dX11_init_64 : decode cX11_init 64 = .ok (.putfield 38, 3) := by decide +kernel
theorem dX11_init_67 : decode cX11_init 67 = .ok (.aload_n 0, 1) := by decide +kernel
theorem dX11_init_68 : decode cX11_init 68 = .ok (.iconst 4, 1) := by decide +kernel
theorem dX11_init_69 : decode cX11_init 69 = .ok (.anewarray 35, 3) := by decide +kernel
theorem dX11_init_72 : decode cX11_init 72 = .ok (.putfield 42, 3) := by decide +kernel
theorem dX11_init_75 : decode cX11_init 75 = .ok (.iconst 0, 1) := by decide +kernel
theorem dX11_init_76 : decode cX11_init 76 = .ok (.istore_n 1, 1) := by decide +kernel
theorem dX11_init_77 : decode cX11_init 77 = .ok (.iload_n 1, 1) := by decide +kernel
theorem dX11_init_78 : decode cX11_init 78 = .ok (.iconst 4, 1) := by decide +kernel
theorem dX11_init_79 : decode cX11_init 79 = .ok (.if_icmp .ge 22, 3) := by decide +kernel
theorem dX11_init_82 : decode cX11_init 82 = .ok (.aload_n 0, 1) := by decide +kernel
theorem dX11_init_83 : decode cX11_init 83 = .ok (.getfield 42, 3) := by decide +kernel
theorem dX11_init_86 : decode cX11_init 86 = .ok (.iload_n 1, 1) := by decide +kernel
theorem dX11_init_87 : decode cX11_init 87 = .ok (.new 35, 3) := by decide +kernel
theorem dX11_init_90 : decode cX11_init 90 = .ok (.dup, 1) := by decide +kernel
theorem dX11_init_91 : decode cX11_init 91 = .ok (.invokespecial 37, 3) := by decide +kernel
theorem dX11_init_94 : decode cX11_init 94 = .ok (.aastore, 1) := by decide +kernel
theorem dX11_init_95 : decode cX11_init 95 = .ok (.iinc 1 1, 3) := by decide +kernel
theorem dX11_init_98 : decode cX11_init 98 = .ok (.goto (-21), 3) := by decide +kernel
theorem dX11_init_101 : decode cX11_init 101 = .ok (.aload_n 0, 1) := by decide +kernel
theorem dX11_init_102 : decode cX11_init 102 = .ok (.new 46, 3) := by decide +kernel
theorem dX11_init_105 : decode cX11_init 105 = .ok (.dup, 1) := by decide +kernel
theorem dX11_init_106 : decode cX11_init 106 = .ok (.invokespecial 48, 3) := by decide +kernel
theorem dX11_init_109 : decode cX11_init 109 = .ok (.putfield 49, 3) := by decide +kernel
theorem dX11_init_112 : decode cX11_init 112 = .ok (.aload_n 0, 1) := by decide +kernel
theorem dX11_init_113 : decode cX11_init 113 = .ok (.new 53, 3) := by decide +kernel
theorem dX11_init_116 : decode cX11_init 116 = .ok (.dup, 1) := by decide +kernel
theorem dX11_init_117 : decode cX11_init 117 = .ok (.aload_n 0, 1) := by decide +kernel
theorem dX11_init_118 : decode cX11_init 118 = .ok (.getfield 19, 3) := by decide +kernel
theorem dX11_init_121 : decode cX11_init 121 = .ok (.aload_n 0, 1) := by decide +kernel
theorem dX11_init_122 : decode cX11_init 122 = .ok (.getfield 38, 3) := by decide +kernel
theorem dX11_init_125 : decode cX11_init 125 = .ok (.invokespecial 55, 3) := by decide +kernel
theorem dX11_init_128 : decode cX11_init 128 = .ok (.putfield 58, 3) := by decide +kernel
theorem dX11_init_131 : decode cX11_init 131 = .ok (.aload_n 0, 1) := by decide +kernel
theorem dX11_init_132 : decode cX11_init 132 = .ok (.new 62, 3) := by decide +kernel
theorem dX11_init_135 : decode cX11_init 135 = .ok (.dup, 1) := by decide +kernel
theorem dX11_init_136 : decode cX11_init 136 = .ok (.aload_n 0, 1) := by decide +kernel
theorem dX11_init_137 : decode cX11_init 137 = .ok (.getfield 19, 3) := by decide +kernel
theorem dX11_init_140 : decode cX11_init 140 = .ok (.aload_n 0, 1) := by decide +kernel
theorem dX11_init_141 : decode cX11_init 141 = .ok (.getfield 38, 3) := by decide +kernel
theorem dX11_init_144 : decode cX11_init 144 = .ok (.aload_n 0, 1) := by decide +kernel
theorem dX11_init_145 : decode cX11_init 145 = .ok (.getfield 58, 3) := by decide +kernel
theorem dX11_init_148 : decode cX11_init 148 = .ok (.invokespecial 64, 3) := by decide +kernel
theorem dX11_init_151 : decode cX11_init 151 = .ok (.putfield 67, 3) := by decide +kernel
theorem dX11_init_154 : decode cX11_init 154 = .ok (.aload_n 0, 1) := by decide +kernel
theorem dX11_init_155 : decode cX11_init 155 = .ok (.new 71, 3) := by decide +kernel
theorem dX11_init_158 : decode cX11_init 158 = .ok (.dup, 1) := by decide +kernel
theorem dX11_init_159 : decode cX11_init 159 = .ok (.aload_n 0, 1) := by decide +kernel
theorem dX11_init_160 : decode cX11_init 160 = .ok (.getfield 19, 3) := by decide +kernel
theorem dX11_init_163 : decode cX11_init 163 = .ok (.aload_n 0, 1) := by decide +kernel
theorem dX11_init_164 : decode cX11_init 164 = .ok (.getfield 38, 3) := by decide +kernel
theorem dX11_init_167 : decode cX11_init 167 = .ok (.aload_n 0, 1) := by decide +kernel
theorem dX11_init_168 : decode cX11_init 168 = .ok (.getfield 58, 3) := by decide +kernel
theorem dX11_init_171 : decode cX11_init 171 = .ok (.invokespecial 73, 3) := by decide +kernel
theorem dX11_init_174 : decode cX11_init 174 = .ok (.putfield 74, 3) := by decide +kernel
theorem dX11_init_177 : decode cX11_init 177 = .ok (.aload_n 0, 1) := by decide +kernel
theorem dX11_init_178 : decode cX11_init 178 = .ok (.new 78, 3) := by decide +kernel
theorem dX11_init_181 : decode cX11_init 181 = .ok (.dup, 1) := by decide +kernel
theorem dX11_init_182 : decode cX11_init 182 = .ok (.aload_n 0, 1) := by decide +kernel
theorem dX11_init_183 : decode cX11_init 183 = .ok (.getfield 19, 3) := by decide +kernel
theorem dX11_init_186 : decode cX11_init 186 = .ok (.aload_n 0, 1) := by decide +kernel
theorem dX11_init_187 : decode cX11_init 187 = .ok (.getfield 38, 3) := by decide +kernel
theorem dX11_init_190 : decode cX11_init 190 = .ok (.aload_n 0, 1) := by decide +kernel
theorem dX11_init_191 : decode cX11_init 191 = .ok (.getfield 58, 3) := by decide +kernel
theorem dX11_init_194 : decode cX11_init 194 = .ok (.invokespecial 80, 3) := by decide +kernel
theorem dX11_init_197 : decode cX11_init 197 = .ok (.putfield 81, 3) := by decide +kernel
theorem dX11_init_200 : decode cX11_init 200 = .ok (.return_, 1) := by decide +kernel
theorem dX11_feed_0 : decode cX11_feed 0 = .ok (.aload_n 0, 1) := by decide +kernel
theorem dX11_feed_1 : decode cX11_feed 1 = .ok (.getfield 10, 3) := by decide +kernel
theorem dX11_feed_4 : decode cX11_feed 4 = .ok (.lload_n 1, 1) := by decide +kernel
theorem dX11_feed_5 : decode cX11_feed 5 = .ok (.invokevirtual 85, 3) := by decide +kernel
theorem dX11_feed_8 : decode cX11_feed 8 = .ok (.aload_n 0, 1) := by decide +kernel
theorem dX11_feed_9 : decode cX11_feed 9 = .ok (.getfield 10, 3) := by decide +kernel
theorem dX11_feed_12 : decode cX11_feed 12 = .ok (.lload_n 3, 1) := by decide +kernel
theorem dX11_feed_13 : decode cX11_feed 13 = .ok (.invokevirtual 85, 3) := by decide +kernel
theorem dX11_feed_16 : decode cX11_feed 16 = .ok (.aload_n 0, 1) := by decide +kernel
theorem dX11_feed_17 : decode cX11_feed 17 = .ok (.getfield 10, 3) := by decide +kernel
theorem dX11_feed_20 : decode cX11_feed 20 = .ok (.lload 5, 2) := by decide +kernel
theorem dX11_feed_22 : decode cX11_feed 22 = .ok (.invokevirtual 85, 3) := by decide +kernel
theorem dX11_feed_25 : decode cX11_feed 25 = .ok (.aload_n 0, 1) := by decide +kernel
theorem dX11_feed_26 : decode cX11_feed 26 = .ok (.getfield 10, 3) := by decide +kernel
theorem dX11_feed_29 : decode cX11_feed 29 = .ok (.getfield 89, 3) := by decide +kernel
theorem dX11_feed_32 : decode cX11_feed 32 = .ok (.ireturn, 1) := by decide +kernel
theorem dX11_hills_0 : decode cX11_hills 0 = .ok (.aload_n 0, 1) := by decide +kernel
theorem dX11_hills_1 : decode cX11_hills 1 = .ok (.getfield 31, 3) := by decide +kernel
theorem dX11_hills_4 : decode cX11_hills 4 = .ok (.invokevirtual 93, 3) := by decide +kernel
theorem dX11_hills_7 : decode cX11_hills 7 = .ok (.istore_n 1, 1) := by decide +kernel
theorem dX11_hills_8 : decode cX11_hills 8 = .ok (.aload_n 0, 1) := by decide +kernel
theorem dX11_hills_9 : decode cX11_hills 9 = .ok (.getfield 10, 3) := by decide +kernel
theorem dX11_hills_12 : decode cX11_hills 12 = .ok (.iconst 0, 1) := by decide +kernel
theorem dX11_hills_13 : decode cX11_hills 13 = .ok (.putfield 89, 3) := by decide +kernel
theorem dX11_hills_16 : decode cX11_hills 16 = .ok (.iload_n 1, 1) := by decide +kernel
theorem dX11_hills_17 : decode cX11_hills 17 = .ok (.ifCond .ne 45, 3) := by decide +kernel
theorem dX11_hills_20 : decode cX11_hills 20 = .ok (.aload_n 0, 1) := by decide +kernel
theorem dX11_hills_21 : decode cX11_hills 21 = .ok (.getfield 19, 3) := by decide +kernel
theorem dX11_hills_24 : decode cX11_hills 24 = .ok (.aload_n 0, 1) := by decide +kernel
theorem dX11_hills_25 : decode cX11_hills 25 = .ok (.getfield 23, 3) := by decide +kernel
theorem dX11_hills_28 : decode cX11_hills 28 = .ok (.invokevirtual 97, 3) := by decide +kernel
theorem dX11_hills_31 : decode cX11_hills 31 = .ok (.aload_n 0, 1) := by decide +kernel
theorem dX11_hills_32 : decode cX11_hills 32 = .ok (.getfield 38, 3) := by decide +kernel
theorem dX11_hills_35 : decode cX11_hills 35 = .ok (.aload_n 0, 1) := by decide +kernel
theorem dX11_hills_36 : decode cX11_hills 36 = .ok (.getfield 19, 3) := by decide +kernel
theorem dX11_hills_39 : decode cX11_hills 39 = .ok (.invokevirtual 101, 3) := by decide +kernel
theorem dX11_hills_42 : decode cX11_hills 42 = .ok (.aload_n 0, 1) := by decide +kernel
theorem dX11_hills_43 : decode cX11_hills 43 = .ok (.getfield 49, 3) := by decide +kernel
theorem dX11_hills_46 : decode cX11_hills 46 = .ok (.iconst 0, 1) := by decide +kernel
theorem dX11_hills_47 : decode cX11_hills 47 = .ok (.putfield 104, 3) := by decide +kernel
theorem dX11_hills_50 : decode cX11_hills 50 = .ok (.aload_n 0, 1) := by decide +kernel
theorem dX11_hills_51 : decode cX11_hills 51 = .ok (.iconst 0, 1) := by decide +kernel
theorem dX11_hills_52 : decode cX11_hills 52 = .ok (.putfield 107, 3) := by decide +kernel
theorem dX11_hills_55 : decode cX11_hills 55 = .ok (.aload_n 0, 1) := by decide +kernel
theorem dX11_hills_56 : decode cX11_hills 56 = .ok (.getfield 58, 3) := by decide +kernel
theorem dX11_hills_59 : decode cX11_hills 59 = .ok (.invokevirtual 110, 3) := by decide +kernel
theorem dX11_hills_62 : decode cX11_hills 62 = .ok (.iload_n 1, 1) := by decide +kernel
theorem dX11_hills_63 : decode cX11_hills 63 = .ok (.ireturn, 1) := by decide +kernel
theorem dX11_person_0 : decode cX11_person 0 = .ok (.aload_n 0, 1) := by decide +kernel
theorem dX11_person_1 : decode cX11_person 1 = .ok (.iload_n 1, 1) := by decide +kernel
theorem dX11_person_2 : decode cX11_person 2 = .ok (.invokevirtual 113, 3) := by decide +kernel
theorem dX11_person_5 : decode cX11_person 5 = .ok (.ifCond .ne 5, 3) := by decide +kernel
theorem dX11_person_8 : decode cX11_person 8 = .ok (.iconst (-1), 1) := by decide +kernel
theorem dX11_person_9 : decode cX11_person 9 = .ok (.ireturn, 1) := by decide +kernel
theorem dX11_person_10 : decode cX11_person 10 = .ok (.iload_n 2, 1) := by decide +kernel
theorem dX11_person_11 : decode cX11_person 11 = .ok (.lookupswitch 45 #[(0, 25), (1, 35)], 25) := by decide +kernel
theorem dX11_person_36 : decode cX11_person 36 = .ok (.aload_n 0, 1) := by decide +kernel
theorem dX11_person_37 : decode cX11_person 37 = .ok (.getfield 19, 3) := by decide +kernel
theorem dX11_person_40 : decode cX11_person 40 = .ok (.getfield 117, 3) := by decide +kernel
theorem dX11_person_43 : decode cX11_person 43 = .ok (.iload_n 1, 1) := by decide +kernel
theorem dX11_person_44 : decode cX11_person 44 = .ok (.iaload, 1) := by decide +kernel
theorem dX11_person_45 : decode cX11_person 45 = .ok (.ireturn, 1) := by decide +kernel
theorem dX11_person_46 : decode cX11_person 46 = .ok (.aload_n 0, 1) := by decide +kernel
theorem dX11_person_47 : decode cX11_person 47 = .ok (.getfield 19, 3) := by decide +kernel
theorem dX11_person_50 : decode cX11_person 50 = .ok (.getfield 121, 3) := by decide +kernel
theorem dX11_person_53 : decode cX11_person 53 = .ok (.iload_n 1, 1) := by decide +kernel
theorem dX11_person_54 : decode cX11_person 54 = .ok (.iaload, 1) := by decide +kernel
theorem dX11_person_55 : decode cX11_person 55 = .ok (.ireturn, 1) := by decide +kernel
theorem dX11_person_56 : decode cX11_person 56 = .ok (.iconst (-1), 1) := by decide +kernel
theorem dX11_person_57 : decode cX11_person 57 = .ok (.ireturn, 1) := by decide +kernel
theorem dX11_place_0 : decode cX11_place 0 = .ok (.aload_n 0, 1) := by decide +kernel
theorem dX11_place_1 : decode cX11_place 1 = .ok (.iload_n 1, 1) := by decide +kernel
theorem dX11_place_2 : decode cX11_place 2 = .ok (.invokevirtual 113, 3) := by decide +kernel
theorem dX11_place_5 : decode cX11_place 5 = .ok (.ifCond .eq 10, 3) := by decide +kernel
theorem dX11_place_8 : decode cX11_place 8 = .ok (.iload_n 2, 1) := by decide +kernel
theorem dX11_place_9 : decode cX11_place 9 = .ok (.invokestatic 124, 3) := by decide +kernel
theorem dX11_place_12 : decode cX11_place 12 = .ok (.ifCond .ne 5, 3) := by decide +kernel
theorem dX11_place_15 : decode cX11_place 15 = .ok (.iconst (-1), 1) := by decide +kernel
theorem dX11_place_16 : decode cX11_place 16 = .ok (.ireturn, 1) := by decide +kernel
theorem dX11_place_17 : decode cX11_place 17 = .ok (.aload_n 0, 1) := by decide +kernel
theorem dX11_place_18 : decode cX11_place 18 = .ok (.getfield 19, 3) := by decide +kernel
theorem dX11_place_21 : decode cX11_place 21 = .ok (.getfield 127, 3) := by decide +kernel
theorem dX11_place_24 : decode cX11_place 24 = .ok (.iload_n 1, 1) := by decide +kernel
theorem dX11_place_25 : decode cX11_place 25 = .ok (.bipush 24, 2) := by decide +kernel
theorem dX11_place_27 : decode cX11_place 27 = .ok (.imul, 1) := by decide +kernel
theorem dX11_place_28 : decode cX11_place 28 = .ok (.iload_n 2, 1) := by decide +kernel
theorem dX11_place_29 : decode cX11_place 29 = .ok (.iadd, 1) := by decide +kernel
theorem dX11_place_30 : decode cX11_place 30 = .ok (.iaload, 1) := by decide +kernel
theorem dX11_place_31 : decode cX11_place 31 = .ok (.ireturn, 1) := by decide +kernel
theorem dX11_bird_0 : decode cX11_bird 0 = .ok (.aload_n 0, 1) := by decide +kernel
theorem dX11_bird_1 : decode cX11_bird 1 = .ok (.iload_n 1, 1) := by decide +kernel
theorem dX11_bird_2 : decode cX11_bird 2 = .ok (.invokevirtual 130, 3) := by decide +kernel
theorem dX11_bird_5 : decode cX11_bird 5 = .ok (.ifCond .ne 5, 3) := by decide +kernel
theorem dX11_bird_8 : decode cX11_bird 8 = .ok (.iconst (-1), 1) := by decide +kernel
theorem dX11_bird_9 : decode cX11_bird 9 = .ok (.ireturn, 1) := by decide +kernel
theorem dX11_bird_10 : decode cX11_bird 10 = .ok (.iload_n 2, 1) := by decide +kernel
theorem dX11_bird_11 : decode cX11_bird 11 = .ok (.tableswitch 56 0 2 #[25, 35, 47], 25) := by decide +kernel
theorem dX11_bird_36 : decode cX11_bird 36 = .ok (.aload_n 0, 1) := by decide +kernel
theorem dX11_bird_37 : decode cX11_bird 37 = .ok (.getfield 19, 3) := by decide +kernel
theorem dX11_bird_40 : decode cX11_bird 40 = .ok (.getfield 133, 3) := by decide +kernel
theorem dX11_bird_43 : decode cX11_bird 43 = .ok (.iload_n 1, 1) := by decide +kernel
theorem dX11_bird_44 : decode cX11_bird 44 = .ok (.iaload, 1) := by decide +kernel
theorem dX11_bird_45 : decode cX11_bird 45 = .ok (.ireturn, 1) := by decide +kernel
theorem dX11_bird_46 : decode cX11_bird 46 = .ok (.aload_n 0, 1) := by decide +kernel
theorem dX11_bird_47 : decode cX11_bird 47 = .ok (.getfield 38, 3) := by decide +kernel
theorem dX11_bird_50 : decode cX11_bird 50 = .ok (.getfield 136, 3) := by decide +kernel
theorem dX11_bird_53 : decode cX11_bird 53 = .ok (.iload_n 1, 1) := by decide +kernel
theorem dX11_bird_54 : decode cX11_bird 54 = .ok (.ishr, 1) := by decide +kernel
theorem dX11_bird_55 : decode cX11_bird 55 = .ok (.iconst 1, 1) := by decide +kernel
theorem dX11_bird_56 : decode cX11_bird 56 = .ok (.iand, 1) := by decide +kernel
theorem dX11_bird_57 : decode cX11_bird 57 = .ok (.ireturn, 1) := by decide +kernel
theorem dX11_bird_58 : decode cX11_bird 58 = .ok (.aload_n 0, 1) := by decide +kernel
theorem dX11_bird_59 : decode cX11_bird 59 = .ok (.getfield 38, 3) := by decide +kernel
theorem dX11_bird_62 : decode cX11_bird 62 = .ok (.iload_n 1, 1) := by decide +kernel
theorem dX11_bird_63 : decode cX11_bird 63 = .ok (.invokevirtual 139, 3) := by decide +kernel
theorem dX11_bird_66 : decode cX11_bird 66 = .ok (.ireturn, 1) := by decide +kernel
theorem dX11_bird_67 : decode cX11_bird 67 = .ok (.iconst (-1), 1) := by decide +kernel
theorem dX11_bird_68 : decode cX11_bird 68 = .ok (.ireturn, 1) := by decide +kernel
theorem dX11_calls_0 : decode cX11_calls 0 = .ok (.aload_n 0, 1) := by decide +kernel
theorem dX11_calls_1 : decode cX11_calls 1 = .ok (.iload_n 1, 1) := by decide +kernel
theorem dX11_calls_2 : decode cX11_calls 2 = .ok (.invokevirtual 130, 3) := by decide +kernel
theorem dX11_calls_5 : decode cX11_calls 5 = .ok (.ifCond .eq 10, 3) := by decide +kernel
theorem dX11_calls_8 : decode cX11_calls 8 = .ok (.iload_n 2, 1) := by decide +kernel
theorem dX11_calls_9 : decode cX11_calls 9 = .ok (.invokestatic 124, 3) := by decide +kernel
theorem dX11_calls_12 : decode cX11_calls 12 = .ok (.ifCond .ne 5, 3) := by decide +kernel
theorem dX11_calls_15 : decode cX11_calls 15 = .ok (.iconst (-1), 1) := by decide +kernel
theorem dX11_calls_16 : decode cX11_calls 16 = .ok (.ireturn, 1) := by decide +kernel
theorem dX11_calls_17 : decode cX11_calls 17 = .ok (.aload_n 0, 1) := by decide +kernel
theorem dX11_calls_18 : decode cX11_calls 18 = .ok (.getfield 38, 3) := by decide +kernel
theorem dX11_calls_21 : decode cX11_calls 21 = .ok (.getfield 143, 3) := by decide +kernel
theorem dX11_calls_24 : decode cX11_calls 24 = .ok (.iload_n 1, 1) := by decide +kernel
theorem dX11_calls_25 : decode cX11_calls 25 = .ok (.bipush 24, 2) := by decide +kernel
theorem dX11_calls_27 : decode cX11_calls 27 = .ok (.imul, 1) := by decide +kernel
theorem dX11_calls_28 : decode cX11_calls 28 = .ok (.iload_n 2, 1) := by decide +kernel
theorem dX11_calls_29 : decode cX11_calls 29 = .ok (.iadd, 1) := by decide +kernel
theorem dX11_calls_30 : decode cX11_calls 30 = .ok (.iaload, 1) := by decide +kernel
theorem dX11_calls_31 : decode cX11_calls 31 = .ok (.ireturn, 1) := by decide +kernel
theorem dX11_entry_0 : decode cX11_entry 0 = .ok (.aload_n 0, 1) := by decide +kernel
theorem dX11_entry_1 : decode cX11_entry 1 = .ok (.iload_n 1, 1) := by decide +kernel
theorem dX11_entry_2 : decode cX11_entry 2 = .ok (.invokevirtual 130, 3) := by decide +kernel
theorem dX11_entry_5 : decode cX11_entry 5 = .ok (.ifCond .eq 18, 3) := by decide +kernel
theorem dX11_entry_8 : decode cX11_entry 8 = .ok (.iload_n 2, 1) := by decide +kernel
theorem dX11_entry_9 : decode cX11_entry 9 = .ok (.invokestatic 124, 3) := by decide +kernel
theorem dX11_entry_12 : decode cX11_entry 12 = .ok (.ifCond .eq 11, 3) := by decide +kernel
theorem dX11_entry_15 : decode cX11_entry 15 = .ok (.aload_n 0, 1) := by decide +kernel
theorem dX11_entry_16 : decode cX11_entry 16 = .ok (.iload_n 3, 1) := by decide +kernel
theorem dX11_entry_17 : decode cX11_entry 17 = .ok (.invokevirtual 113, 3) := by decide +kernel
theorem dX11_entry_20 : decode cX11_entry 20 = .ok (.ifCond .ne 5, 3) := by decide +kernel
theorem dX11_entry_23 : decode cX11_entry 23 = .ok (.iconst (-1), 1) := by decide +kernel
theorem dX11_entry_24 : decode cX11_entry 24 = .ok (.ireturn, 1) := by decide +kernel
theorem dX11_entry_25 : decode cX11_entry 25 = .ok (.aload_n 0, 1) := by decide +kernel
theorem dX11_entry_26 : decode cX11_entry 26 = .ok (.getfield 58, 3) := by decide +kernel
theorem dX11_entry_29 : decode cX11_entry 29 = .ok (.invokevirtual 146, 3) := by decide +kernel
theorem dX11_entry_32 : decode cX11_entry 32 = .ok (.aload_n 0, 1) := by decide +kernel
theorem dX11_entry_33 : decode cX11_entry 33 = .ok (.getfield 58, 3) := by decide +kernel
theorem dX11_entry_36 : decode cX11_entry 36 = .ok (.iload_n 2, 1) := by decide +kernel
theorem dX11_entry_37 : decode cX11_entry 37 = .ok (.invokevirtual 149, 3) := by decide +kernel
theorem dX11_entry_40 : decode cX11_entry 40 = .ok (.aload_n 0, 1) := by decide +kernel
theorem dX11_entry_41 : decode cX11_entry 41 = .ok (.getfield 58, 3) := by decide +kernel
theorem dX11_entry_44 : decode cX11_entry 44 = .ok (.iload_n 1, 1) := by decide +kernel
theorem dX11_entry_45 : decode cX11_entry 45 = .ok (.iload_n 2, 1) := by decide +kernel
theorem dX11_entry_46 : decode cX11_entry 46 = .ok (.aload_n 0, 1) := by decide +kernel
theorem dX11_entry_47 : decode cX11_entry 47 = .ok (.getfield 38, 3) := by decide +kernel
theorem dX11_entry_50 : decode cX11_entry 50 = .ok (.getfield 136, 3) := by decide +kernel
theorem dX11_entry_53 : decode cX11_entry 53 = .ok (.invokevirtual 153, 3) := by decide +kernel
theorem dX11_entry_56 : decode cX11_entry 56 = .ok (.istore 5, 2) := by decide +kernel
theorem dX11_entry_58 : decode cX11_entry 58 = .ok (.iload 4, 2) := by decide +kernel
theorem dX11_entry_60 : decode cX11_entry 60 = .ok (.ifCond .eq 23, 3) := by decide +kernel
theorem dX11_entry_63 : decode cX11_entry 63 = .ok (.iload 5, 2) := by decide +kernel
theorem dX11_entry_65 : decode cX11_entry 65 = .ok (.ifCond .le 16, 3) := by decide +kernel
theorem dX11_entry_68 : decode cX11_entry 68 = .ok (.aload_n 0, 1) := by decide +kernel
theorem dX11_entry_69 : decode cX11_entry 69 = .ok (.getfield 58, 3) := by decide +kernel
theorem dX11_entry_72 : decode cX11_entry 72 = .ok (.iload_n 1, 1) := by decide +kernel
theorem dX11_entry_73 : decode cX11_entry 73 = .ok (.iload_n 2, 1) := by decide +kernel
theorem dX11_entry_74 : decode cX11_entry 74 = .ok (.iload_n 3, 1) := by decide +kernel
theorem dX11_entry_75 : decode cX11_entry 75 = .ok (.invokevirtual 157, 3) := by decide +kernel
theorem dX11_entry_78 : decode cX11_entry 78 = .ok (.goto 4, 3) := by decide +kernel
theorem dX11_entry_81 : decode cX11_entry 81 = .ok (.iconst (-1), 1) := by decide +kernel
theorem dX11_entry_82 : decode cX11_entry 82 = .ok (.ireturn, 1) := by decide +kernel
theorem dX11_entry_83 : decode cX11_entry 83 = .ok (.aload_n 0, 1) := by decide +kernel
theorem dX11_entry_84 : decode cX11_entry 84 = .ok (.getfield 58, 3) := by decide +kernel
theorem dX11_entry_87 : decode cX11_entry 87 = .ok (.iload_n 1, 1) := by decide +kernel
theorem dX11_entry_88 : decode cX11_entry 88 = .ok (.iload_n 2, 1) := by decide +kernel
theorem dX11_entry_89 : decode cX11_entry 89 = .ok (.iload_n 3, 1) := by decide +kernel
theorem dX11_entry_90 : decode cX11_entry 90 = .ok (.iload 5, 2) := by decide +kernel
theorem dX11_entry_92 : decode cX11_entry 92 = .ok (.invokevirtual 160, 3) := by decide +kernel
theorem dX11_entry_95 : decode cX11_entry 95 = .ok (.ireturn, 1) := by decide +kernel
theorem dX11_owed_0 : decode cX11_owed 0 = .ok (.aload_n 0, 1) := by decide +kernel
theorem dX11_owed_1 : decode cX11_owed 1 = .ok (.iload_n 1, 1) := by decide +kernel
theorem dX11_owed_2 : decode cX11_owed 2 = .ok (.invokevirtual 113, 3) := by decide +kernel
theorem dX11_owed_5 : decode cX11_owed 5 = .ok (.ifCond .eq 16, 3) := by decide +kernel
theorem dX11_owed_8 : decode cX11_owed 8 = .ok (.aload_n 0, 1) := by decide +kernel
theorem dX11_owed_9 : decode cX11_owed 9 = .ok (.iload_n 2, 1) := by decide +kernel
theorem dX11_owed_10 : decode cX11_owed 10 = .ok (.invokevirtual 113, 3) := by decide +kernel
theorem dX11_owed_13 : decode cX11_owed 13 = .ok (.ifCond .eq 8, 3) := by decide +kernel
theorem dX11_owed_16 : decode cX11_owed 16 = .ok (.iload_n 1, 1) := by decide +kernel
theorem dX11_owed_17 : decode cX11_owed 17 = .ok (.iload_n 2, 1) := by decide +kernel
theorem dX11_owed_18 : decode cX11_owed 18 = .ok (.if_icmp .ne 5, 3) := by decide +kernel
theorem dX11_owed_21 : decode cX11_owed 21 = .ok (.iconst (-1), 1) := by decide +kernel
theorem dX11_owed_22 : decode cX11_owed 22 = .ok (.ireturn, 1) := by decide +kernel
theorem dX11_owed_23 : decode cX11_owed 23 = .ok (.aload_n 0, 1) := by decide +kernel
theorem dX11_owed_24 : decode cX11_owed 24 = .ok (.getfield 58, 3) := by decide +kernel
theorem dX11_owed_27 : decode cX11_owed 27 = .ok (.invokevirtual 146, 3) := by decide +kernel
theorem dX11_owed_30 : decode cX11_owed 30 = .ok (.aload_n 0, 1) := by decide +kernel
theorem dX11_owed_31 : decode cX11_owed 31 = .ok (.getfield 58, 3) := by decide +kernel
theorem dX11_owed_34 : decode cX11_owed 34 = .ok (.aload_n 0, 1) := by decide +kernel
theorem dX11_owed_35 : decode cX11_owed 35 = .ok (.getfield 38, 3) := by decide +kernel
theorem dX11_owed_38 : decode cX11_owed 38 = .ok (.getfield 136, 3) := by decide +kernel
theorem dX11_owed_41 : decode cX11_owed 41 = .ok (.invokevirtual 164, 3) := by decide +kernel
theorem dX11_owed_44 : decode cX11_owed 44 = .ok (.aload_n 0, 1) := by decide +kernel
theorem dX11_owed_45 : decode cX11_owed 45 = .ok (.getfield 58, 3) := by decide +kernel
theorem dX11_owed_48 : decode cX11_owed 48 = .ok (.getfield 167, 3) := by decide +kernel
theorem dX11_owed_51 : decode cX11_owed 51 = .ok (.iload_n 1, 1) := by decide +kernel
theorem dX11_owed_52 : decode cX11_owed 52 = .ok (.bipush 6, 2) := by decide +kernel
theorem dX11_owed_54 : decode cX11_owed 54 = .ok (.imul, 1) := by decide +kernel
theorem dX11_owed_55 : decode cX11_owed 55 = .ok (.iload_n 2, 1) := by decide +kernel
theorem dX11_owed_56 : decode cX11_owed 56 = .ok (.iadd, 1) := by decide +kernel
theorem dX11_owed_57 : decode cX11_owed 57 = .ok (.iaload, 1) := by decide +kernel
theorem dX11_owed_58 : decode cX11_owed 58 = .ok (.ireturn, 1) := by decide +kernel
theorem dX11_balance_0 : decode cX11_balance 0 = .ok (.aload_n 0, 1) := by decide +kernel
theorem dX11_balance_1 : decode cX11_balance 1 = .ok (.iload_n 1, 1) := by decide +kernel
theorem dX11_balance_2 : decode cX11_balance 2 = .ok (.invokevirtual 113, 3) := by decide +kernel
theorem dX11_balance_5 : decode cX11_balance 5 = .ok (.ifCond .ne 13, 3) := by decide +kernel
theorem dX11_balance_8 : decode cX11_balance 8 = .ok (.new 170, 3) := by decide +kernel
theorem dX11_balance_11 : decode cX11_balance 11 = .ok (.dup, 1) := by decide +kernel
theorem dX11_balance_12 : decode cX11_balance 12 = .ok (.ldc 172, 2) := by decide +kernel
theorem dX11_balance_14 : decode cX11_balance 14 = .ok (.invokespecial 174, 3) := by decide +kernel
theorem dX11_balance_17 : decode cX11_balance 17 = .ok (.athrow, 1) := by decide +kernel
theorem dX11_balance_18 : decode cX11_balance 18 = .ok (.aload_n 0, 1) := by decide +kernel
theorem dX11_balance_19 : decode cX11_balance 19 = .ok (.iload_n 1, 1) := by decide +kernel
theorem dX11_balance_20 : decode cX11_balance 20 = .ok (.aload_n 0, 1) := by decide +kernel
theorem dX11_balance_21 : decode cX11_balance 21 = .ok (.getfield 38, 3) := by decide +kernel
theorem dX11_balance_24 : decode cX11_balance 24 = .ok (.getfield 136, 3) := by decide +kernel
theorem dX11_balance_27 : decode cX11_balance 27 = .ok (.invokevirtual 177, 3) := by decide +kernel
theorem dX11_balance_30 : decode cX11_balance 30 = .ok (.ireturn, 1) := by decide +kernel
theorem dX11_call_0 : decode cX11_call 0 = .ok (.aload_n 0, 1) := by decide +kernel
theorem dX11_call_1 : decode cX11_call 1 = .ok (.iload_n 1, 1) := by decide +kernel
theorem dX11_call_2 : decode cX11_call 2 = .ok (.invokevirtual 130, 3) := by decide +kernel
theorem dX11_call_5 : decode cX11_call 5 = .ok (.ifCond .eq 20, 3) := by decide +kernel
theorem dX11_call_8 : decode cX11_call 8 = .ok (.iload_n 2, 1) := by decide +kernel
theorem dX11_call_9 : decode cX11_call 9 = .ok (.invokestatic 124, 3) := by decide +kernel
theorem dX11_call_12 : decode cX11_call 12 = .ok (.ifCond .eq 13, 3) := by decide +kernel
theorem dX11_call_15 : decode cX11_call 15 = .ok (.iload_n 3, 1) := by decide +kernel
theorem dX11_call_16 : decode cX11_call 16 = .ok (.ifCond .lt 9, 3) := by decide +kernel
theorem dX11_call_19 : decode cX11_call 19 = .ok (.iload_n 3, 1) := by decide +kernel
theorem dX11_call_20 : decode cX11_call 20 = .ok (.bipush 9, 2) := by decide +kernel
theorem dX11_call_22 : decode cX11_call 22 = .ok (.if_icmp .le 5, 3) := by decide +kernel
theorem dX11_call_25 : decode cX11_call 25 = .ok (.iconst 0, 1) := by decide +kernel
theorem dX11_call_26 : decode cX11_call 26 = .ok (.ireturn, 1) := by decide +kernel
theorem dX11_call_27 : decode cX11_call 27 = .ok (.aload_n 0, 1) := by decide +kernel
theorem dX11_call_28 : decode cX11_call 28 = .ok (.getfield 38, 3) := by decide +kernel
theorem dX11_call_31 : decode cX11_call 31 = .ok (.getfield 143, 3) := by decide +kernel
theorem dX11_call_34 : decode cX11_call 34 = .ok (.iload_n 1, 1) := by decide +kernel
theorem dX11_call_35 : decode cX11_call 35 = .ok (.bipush 24, 2) := by decide +kernel
theorem dX11_call_37 : decode cX11_call 37 = .ok (.imul, 1) := by decide +kernel
theorem dX11_call_38 : decode cX11_call 38 = .ok (.iload_n 2, 1) := by decide +kernel
theorem dX11_call_39 : decode cX11_call 39 = .ok (.iadd, 1) := by decide +kernel
theorem dX11_call_40 : decode cX11_call 40 = .ok (.iaload, 1) := by decide +kernel
theorem dX11_call_41 : decode cX11_call 41 = .ok (.istore 4, 2) := by decide +kernel
theorem dX11_call_43 : decode cX11_call 43 = .ok (.iload 4, 2) := by decide +kernel
theorem dX11_call_45 : decode cX11_call 45 = .ok (.iload_n 3, 1) := by decide +kernel
theorem dX11_call_46 : decode cX11_call 46 = .ok (.if_icmp .eq 20, 3) := by decide +kernel
theorem dX11_call_49 : decode cX11_call 49 = .ok (.iload 4, 2) := by decide +kernel
theorem dX11_call_51 : decode cX11_call 51 = .ok (.ifCond .ne 17, 3) := by decide +kernel
theorem dX11_call_54 : decode cX11_call 54 = .ok (.aload_n 0, 1) := by decide +kernel
theorem dX11_call_55 : decode cX11_call 55 = .ok (.getfield 38, 3) := by decide +kernel
theorem dX11_call_58 : decode cX11_call 58 = .ok (.invokevirtual 181, 3) := by decide +kernel
theorem dX11_call_61 : decode cX11_call 61 = .ok (.bipush 30, 2) := by decide +kernel
theorem dX11_call_63 : decode cX11_call 63 = .ok (.if_icmp .lt 5, 3) := by decide +kernel
theorem dX11_call_66 : decode cX11_call 66 = .ok (.iconst 0, 1) := by decide +kernel
theorem dX11_call_67 : decode cX11_call 67 = .ok (.ireturn, 1) := by decide +kernel
theorem dX11_call_68 : decode cX11_call 68 = .ok (.aload_n 0, 1) := by decide +kernel
theorem dX11_call_69 : decode cX11_call 69 = .ok (.getfield 49, 3) := by decide +kernel
theorem dX11_call_72 : decode cX11_call 72 = .ok (.iload_n 1, 1) := by decide +kernel
theorem dX11_call_73 : decode cX11_call 73 = .ok (.iload_n 2, 1) := by decide +kernel
theorem dX11_call_74 : decode cX11_call 74 = .ok (.iload 4, 2) := by decide +kernel
theorem dX11_call_76 : decode cX11_call 76 = .ok (.invokevirtual 184, 3) := by decide +kernel
theorem dX11_call_79 : decode cX11_call 79 = .ok (.aload_n 0, 1) := by decide +kernel
theorem dX11_call_80 : decode cX11_call 80 = .ok (.getfield 38, 3) := by decide +kernel
theorem dX11_call_83 : decode cX11_call 83 = .ok (.getfield 143, 3) := by decide +kernel
theorem dX11_call_86 : decode cX11_call 86 = .ok (.iload_n 1, 1) := by decide +kernel
theorem dX11_call_87 : decode cX11_call 87 = .ok (.bipush 24, 2) := by decide +kernel
theorem dX11_call_89 : decode cX11_call 89 = .ok (.imul, 1) := by decide +kernel
theorem dX11_call_90 : decode cX11_call 90 = .ok (.iload_n 2, 1) := by decide +kernel
theorem dX11_call_91 : decode cX11_call 91 = .ok (.iadd, 1) := by decide +kernel
theorem dX11_call_92 : decode cX11_call 92 = .ok (.iload_n 3, 1) := by decide +kernel
theorem dX11_call_93 : decode cX11_call 93 = .ok (.iastore, 1) := by decide +kernel
theorem dX11_call_94 : decode cX11_call 94 = .ok (.iconst 1, 1) := by decide +kernel
theorem dX11_call_95 : decode cX11_call 95 = .ok (.ireturn, 1) := by decide +kernel
theorem dX11_shoot_0 : decode cX11_shoot 0 = .ok (.aload_n 0, 1) := by decide +kernel
theorem dX11_shoot_1 : decode cX11_shoot 1 = .ok (.iload_n 1, 1) := by decide +kernel
theorem dX11_shoot_2 : decode cX11_shoot 2 = .ok (.invokevirtual 130, 3) := by decide +kernel
theorem dX11_shoot_5 : decode cX11_shoot 5 = .ok (.ifCond .eq 15, 3) := by decide +kernel
theorem dX11_shoot_8 : decode cX11_shoot 8 = .ok (.aload_n 0, 1) := by decide +kernel
theorem dX11_shoot_9 : decode cX11_shoot 9 = .ok (.getfield 38, 3) := by decide +kernel
theorem dX11_shoot_12 : decode cX11_shoot 12 = .ok (.iload_n 1, 1) := by decide +kernel
theorem dX11_shoot_13 : decode cX11_shoot 13 = .ok (.invokevirtual 188, 3) := by decide +kernel
theorem dX11_shoot_16 : decode cX11_shoot 16 = .ok (.iload_n 2, 1) := by decide +kernel
theorem dX11_shoot_17 : decode cX11_shoot 17 = .ok (.if_icmp .ne 5, 3) := by decide +kernel
theorem dX11_shoot_20 : decode cX11_shoot 20 = .ok (.iconst 0, 1) := by decide +kernel
theorem dX11_shoot_21 : decode cX11_shoot 21 = .ok (.ireturn, 1) := by decide +kernel
theorem dX11_shoot_22 : decode cX11_shoot 22 = .ok (.aload_n 0, 1) := by decide +kernel
theorem dX11_shoot_23 : decode cX11_shoot 23 = .ok (.getfield 49, 3) := by decide +kernel
theorem dX11_shoot_26 : decode cX11_shoot 26 = .ok (.iload_n 1, 1) := by decide +kernel
theorem dX11_shoot_27 : decode cX11_shoot 27 = .ok (.iconst (-1), 1) := by decide +kernel
theorem dX11_shoot_28 : decode cX11_shoot 28 = .ok (.iconst 0, 1) := by decide +kernel
theorem dX11_shoot_29 : decode cX11_shoot 29 = .ok (.invokevirtual 184, 3) := by decide +kernel
theorem dX11_shoot_32 : decode cX11_shoot 32 = .ok (.aload_n 0, 1) := by decide +kernel
theorem dX11_shoot_33 : decode cX11_shoot 33 = .ok (.getfield 38, 3) := by decide +kernel
theorem dX11_shoot_36 : decode cX11_shoot 36 = .ok (.dup, 1) := by decide +kernel
theorem dX11_shoot_37 : decode cX11_shoot 37 = .ok (.getfield 136, 3) := by decide +kernel
theorem dX11_shoot_40 : decode cX11_shoot 40 = .ok (.iconst 1, 1) := by decide +kernel
theorem dX11_shoot_41 : decode cX11_shoot 41 = .ok (.iload_n 1, 1) := by decide +kernel
theorem dX11_shoot_42 : decode cX11_shoot 42 = .ok (.ishl, 1) := by decide +kernel
theorem dX11_shoot_43 : decode cX11_shoot 43 = .ok (.ixor, 1) := by decide +kernel
theorem dX11_shoot_44 : decode cX11_shoot 44 = .ok (.putfield 136, 3) := by decide +kernel
theorem dX11_shoot_47 : decode cX11_shoot 47 = .ok (.iconst 1, 1) := by decide +kernel
theorem dX11_shoot_48 : decode cX11_shoot 48 = .ok (.ireturn, 1) := by decide +kernel
theorem dX11_undo_0 : decode cX11_undo 0 = .ok (.aload_n 0, 1) := by decide +kernel
theorem dX11_undo_1 : decode cX11_undo 1 = .ok (.getfield 49, 3) := by decide +kernel
theorem dX11_undo_4 : decode cX11_undo 4 = .ok (.aload_n 0, 1) := by decide +kernel
theorem dX11_undo_5 : decode cX11_undo 5 = .ok (.getfield 38, 3) := by decide +kernel
theorem dX11_undo_8 : decode cX11_undo 8 = .ok (.invokevirtual 191, 3) := by decide +kernel
theorem dX11_undo_11 : decode cX11_undo 11 = .ok (.ireturn, 1) := by decide +kernel
theorem dX11_stand_0 : decode cX11_stand 0 = .ok (.aload_n 0, 1) := by decide +kernel
theorem dX11_stand_1 : decode cX11_stand 1 = .ok (.iload_n 1, 1) := by decide +kernel
theorem dX11_stand_2 : decode cX11_stand 2 = .ok (.invokevirtual 113, 3) := by decide +kernel
theorem dX11_stand_5 : decode cX11_stand 5 = .ok (.ifCond .eq 22, 3) := by decide +kernel
theorem dX11_stand_8 : decode cX11_stand 8 = .ok (.iload_n 2, 1) := by decide +kernel
theorem dX11_stand_9 : decode cX11_stand 9 = .ok (.iload_n 3, 1) := by decide +kernel
theorem dX11_stand_10 : decode cX11_stand 10 = .ok (.invokestatic 195, 3) := by decide +kernel
theorem dX11_stand_13 : decode cX11_stand 13 = .ok (.ifCond .eq 14, 3) := by decide +kernel
theorem dX11_stand_16 : decode cX11_stand 16 = .ok (.iload 4, 2) := by decide +kernel
theorem dX11_stand_18 : decode cX11_stand 18 = .ok (.ifCond .lt 9, 3) := by decide +kernel
theorem dX11_stand_21 : decode cX11_stand 21 = .ok (.iload 4, 2) := by decide +kernel
theorem dX11_stand_23 : decode cX11_stand 23 = .ok (.iconst 1, 1) := by decide +kernel
theorem dX11_stand_24 : decode cX11_stand 24 = .ok (.if_icmp .le 13, 3) := by decide +kernel
theorem dX11_stand_27 : decode cX11_stand 27 = .ok (.new 170, 3) := by decide +kernel
theorem dX11_stand_30 : decode cX11_stand 30 = .ok (.dup, 1) := by decide +kernel
theorem dX11_stand_31 : decode cX11_stand 31 = .ok (.ldc 199, 2) := by decide +kernel
theorem dX11_stand_33 : decode cX11_stand 33 = .ok (.invokespecial 174, 3) := by decide +kernel
theorem dX11_stand_36 : decode cX11_stand 36 = .ok (.athrow, 1) := by decide +kernel
theorem dX11_stand_37 : decode cX11_stand 37 = .ok (.aload_n 0, 1) := by decide +kernel
theorem dX11_stand_38 : decode cX11_stand 38 = .ok (.getfield 67, 3) := by decide +kernel
theorem dX11_stand_41 : decode cX11_stand 41 = .ok (.iload_n 1, 1) := by decide +kernel
theorem dX11_stand_42 : decode cX11_stand 42 = .ok (.iload_n 2, 1) := by decide +kernel
theorem dX11_stand_43 : decode cX11_stand 43 = .ok (.iload_n 3, 1) := by decide +kernel
theorem dX11_stand_44 : decode cX11_stand 44 = .ok (.invokevirtual 201, 3) := by decide +kernel
theorem dX11_stand_47 : decode cX11_stand 47 = .ok (.iload 4, 2) := by decide +kernel
theorem dX11_stand_49 : decode cX11_stand 49 = .ok (.ifCond .ne 13, 3) := by decide +kernel
theorem dX11_stand_52 : decode cX11_stand 52 = .ok (.aload_n 0, 1) := by decide +kernel
theorem dX11_stand_53 : decode cX11_stand 53 = .ok (.getfield 67, 3) := by decide +kernel
theorem dX11_stand_56 : decode cX11_stand 56 = .ok (.getfield 204, 3) := by decide +kernel
theorem dX11_stand_59 : decode cX11_stand 59 = .ok (.goto 10, 3) := by decide +kernel
theorem dX11_stand_62 : decode cX11_stand 62 = .ok (.aload_n 0, 1) := by decide +kernel
theorem dX11_stand_63 : decode cX11_stand 63 = .ok (.getfield 67, 3) := by decide +kernel
theorem dX11_stand_66 : decode cX11_stand 66 = .ok (.getfield 207, 3) := by decide +kernel
theorem dX11_stand_69 : decode cX11_stand 69 = .ok (.ireturn, 1) := by decide +kernel
theorem dX11_played_0 : decode cX11_played 0 = .ok (.iload_n 1, 1) := by decide +kernel
theorem dX11_played_1 : decode cX11_played 1 = .ok (.iload_n 2, 1) := by decide +kernel
theorem dX11_played_2 : decode cX11_played 2 = .ok (.invokestatic 195, 3) := by decide +kernel
theorem dX11_played_5 : decode cX11_played 5 = .ok (.ifCond .eq 20, 3) := by decide +kernel
theorem dX11_played_8 : decode cX11_played 8 = .ok (.iload_n 3, 1) := by decide +kernel
theorem dX11_played_9 : decode cX11_played 9 = .ok (.ifCond .lt 16, 3) := by decide +kernel
theorem dX11_played_12 : decode cX11_played 12 = .ok (.iload_n 3, 1) := by decide +kernel
theorem dX11_played_13 : decode cX11_played 13 = .ok (.iconst 2, 1) := by decide +kernel
theorem dX11_played_14 : decode cX11_played 14 = .ok (.aload_n 0, 1) := by decide +kernel
theorem dX11_played_15 : decode cX11_played 15 = .ok (.getfield 19, 3) := by decide +kernel
theorem dX11_played_18 : decode cX11_played 18 = .ok (.getfield 210, 3) := by decide +kernel
theorem dX11_played_21 : decode cX11_played 21 = .ok (.iadd, 1) := by decide +kernel
theorem dX11_played_22 : decode cX11_played 22 = .ok (.if_icmp .lt 5, 3) := by decide +kernel
theorem dX11_played_25 : decode cX11_played 25 = .ok (.iconst (-1), 1) := by decide +kernel
theorem dX11_played_26 : decode cX11_played 26 = .ok (.ireturn, 1) := by decide +kernel
theorem dX11_played_27 : decode cX11_played 27 = .ok (.aload_n 0, 1) := by decide +kernel
theorem dX11_played_28 : decode cX11_played 28 = .ok (.getfield 67, 3) := by decide +kernel
theorem dX11_played_31 : decode cX11_played 31 = .ok (.iload_n 1, 1) := by decide +kernel
theorem dX11_played_32 : decode cX11_played 32 = .ok (.iload_n 2, 1) := by decide +kernel
theorem dX11_played_33 : decode cX11_played 33 = .ok (.invokevirtual 213, 3) := by decide +kernel
theorem dX11_played_36 : decode cX11_played 36 = .ok (.iload_n 3, 1) := by decide +kernel
theorem dX11_played_37 : decode cX11_played 37 = .ok (.ifCond .ne 11, 3) := by decide +kernel
theorem dX11_played_40 : decode cX11_played 40 = .ok (.aload_n 0, 1) := by decide +kernel
theorem dX11_played_41 : decode cX11_played 41 = .ok (.getfield 67, 3) := by decide +kernel
theorem dX11_played_44 : decode cX11_played 44 = .ok (.getfield 217, 3) := by decide +kernel
theorem dX11_played_47 : decode cX11_played 47 = .ok (.ireturn, 1) := by decide +kernel
theorem dX11_played_48 : decode cX11_played 48 = .ok (.iload_n 3, 1) := by decide +kernel
theorem dX11_played_49 : decode cX11_played 49 = .ok (.iconst 1, 1) := by decide +kernel
theorem dX11_played_50 : decode cX11_played 50 = .ok (.if_icmp .ne 19, 3) := by decide +kernel
theorem dX11_played_53 : decode cX11_played 53 = .ok (.aload_n 0, 1) := by decide +kernel
theorem dX11_played_54 : decode cX11_played 54 = .ok (.getfield 67, 3) := by decide +kernel
theorem dX11_played_57 : decode cX11_played 57 = .ok (.getfield 220, 3) := by decide +kernel
theorem dX11_played_60 : decode cX11_played 60 = .ok (.ifCond .eq 7, 3) := by decide +kernel
theorem dX11_played_63 : decode cX11_played 63 = .ok (.iconst 1, 1) := by decide +kernel
theorem dX11_played_64 : decode cX11_played 64 = .ok (.goto 4, 3) := by decide +kernel
theorem dX11_played_67 : decode cX11_played 67 = .ok (.iconst 0, 1) := by decide +kernel
theorem dX11_played_68 : decode cX11_played 68 = .ok (.ireturn, 1) := by decide +kernel
theorem dX11_played_69 : decode cX11_played 69 = .ok (.aload_n 0, 1) := by decide +kernel
theorem dX11_played_70 : decode cX11_played 70 = .ok (.getfield 58, 3) := by decide +kernel
theorem dX11_played_73 : decode cX11_played 73 = .ok (.getfield 224, 3) := by decide +kernel
theorem dX11_played_76 : decode cX11_played 76 = .ok (.iload_n 3, 1) := by decide +kernel
theorem dX11_played_77 : decode cX11_played 77 = .ok (.iconst 2, 1) := by decide +kernel
theorem dX11_played_78 : decode cX11_played 78 = .ok (.isub, 1) := by decide +kernel
theorem dX11_played_79 : decode cX11_played 79 = .ok (.bipush 24, 2) := by decide +kernel
theorem dX11_played_81 : decode cX11_played 81 = .ok (.imul, 1) := by decide +kernel
theorem dX11_played_82 : decode cX11_played 82 = .ok (.iload_n 1, 1) := by decide +kernel
theorem dX11_played_83 : decode cX11_played 83 = .ok (.iadd, 1) := by decide +kernel
theorem dX11_played_84 : decode cX11_played 84 = .ok (.iaload, 1) := by decide +kernel
theorem dX11_played_85 : decode cX11_played 85 = .ok (.ireturn, 1) := by decide +kernel
theorem dX11_picnic_0 : decode cX11_picnic 0 = .ok (.iload_n 1, 1) := by decide +kernel
theorem dX11_picnic_1 : decode cX11_picnic 1 = .ok (.iconst 1, 1) := by decide +kernel
theorem dX11_picnic_2 : decode cX11_picnic 2 = .ok (.if_icmp .lt 33, 3) := by decide +kernel
theorem dX11_picnic_5 : decode cX11_picnic 5 = .ok (.iload_n 1, 1) := by decide +kernel
theorem dX11_picnic_6 : decode cX11_picnic 6 = .ok (.aload_n 0, 1) := by decide +kernel
theorem dX11_picnic_7 : decode cX11_picnic 7 = .ok (.getfield 19, 3) := by decide +kernel
theorem dX11_picnic_10 : decode cX11_picnic 10 = .ok (.getfield 210, 3) := by decide +kernel
theorem dX11_picnic_13 : decode cX11_picnic 13 = .ok (.if_icmp .gt 22, 3) := by decide +kernel
theorem dX11_picnic_16 : decode cX11_picnic 16 = .ok (.iload_n 2, 1) := by decide +kernel
theorem dX11_picnic_17 : decode cX11_picnic 17 = .ok (.iload_n 3, 1) := by decide +kernel
theorem dX11_picnic_18 : decode cX11_picnic 18 = .ok (.invokestatic 195, 3) := by decide +kernel
theorem dX11_picnic_21 : decode cX11_picnic 21 = .ok (.ifCond .eq 14, 3) := by decide +kernel
theorem dX11_picnic_24 : decode cX11_picnic 24 = .ok (.iload 4, 2) := by decide +kernel
theorem dX11_picnic_26 : decode cX11_picnic 26 = .ok (.ifCond .lt 9, 3) := by decide +kernel
theorem dX11_picnic_29 : decode cX11_picnic 29 = .ok (.iload 4, 2) := by decide +kernel
theorem dX11_picnic_31 : decode cX11_picnic 31 = .ok (.iconst 2, 1) := by decide +kernel
theorem dX11_picnic_32 : decode cX11_picnic 32 = .ok (.if_icmp .le 13, 3) := by decide +kernel
theorem dX11_picnic_35 : decode cX11_picnic 35 = .ok (.new 170, 3) := by decide +kernel
theorem dX11_picnic_38 : decode cX11_picnic 38 = .ok (.dup, 1) := by decide +kernel
theorem dX11_picnic_39 : decode cX11_picnic 39 = .ok (.ldc 227, 2) := by decide +kernel
theorem dX11_picnic_41 : decode cX11_picnic 41 = .ok (.invokespecial 174, 3) := by decide +kernel
theorem dX11_picnic_44 : decode cX11_picnic 44 = .ok (.athrow, 1) := by decide +kernel
theorem dX11_picnic_45 : decode cX11_picnic 45 = .ok (.aload_n 0, 1) := by decide +kernel
theorem dX11_picnic_46 : decode cX11_picnic 46 = .ok (.getfield 67, 3) := by decide +kernel
theorem dX11_picnic_49 : decode cX11_picnic 49 = .ok (.iload_n 1, 1) := by decide +kernel
theorem dX11_picnic_50 : decode cX11_picnic 50 = .ok (.iload_n 2, 1) := by decide +kernel
theorem dX11_picnic_51 : decode cX11_picnic 51 = .ok (.iload_n 3, 1) := by decide +kernel
theorem dX11_picnic_52 : decode cX11_picnic 52 = .ok (.invokevirtual 229, 3) := by decide +kernel
theorem dX11_picnic_55 : decode cX11_picnic 55 = .ok (.iload 4, 2) := by decide +kernel
theorem dX11_picnic_57 : decode cX11_picnic 57 = .ok (.ifCond .ne 11, 3) := by decide +kernel
theorem dX11_picnic_60 : decode cX11_picnic 60 = .ok (.aload_n 0, 1) := by decide +kernel
theorem dX11_picnic_61 : decode cX11_picnic 61 = .ok (.getfield 67, 3) := by decide +kernel
theorem dX11_picnic_64 : decode cX11_picnic 64 = .ok (.getfield 232, 3) := by decide +kernel
theorem dX11_picnic_67 : decode cX11_picnic 67 = .ok (.ireturn, 1) := by decide +kernel
theorem dX11_picnic_68 : decode cX11_picnic 68 = .ok (.iload 4, 2) := by decide +kernel
theorem dX11_picnic_70 : decode cX11_picnic 70 = .ok (.iconst 1, 1) := by decide +kernel
theorem dX11_picnic_71 : decode cX11_picnic 71 = .ok (.if_icmp .ne 13, 3) := by decide +kernel
theorem dX11_picnic_74 : decode cX11_picnic 74 = .ok (.aload_n 0, 1) := by decide +kernel
theorem dX11_picnic_75 : decode cX11_picnic 75 = .ok (.getfield 67, 3) := by decide +kernel
theorem dX11_picnic_78 : decode cX11_picnic 78 = .ok (.getfield 204, 3) := by decide +kernel
theorem dX11_picnic_81 : decode cX11_picnic 81 = .ok (.goto 10, 3) := by decide +kernel
theorem dX11_picnic_84 : decode cX11_picnic 84 = .ok (.aload_n 0, 1) := by decide +kernel
theorem dX11_picnic_85 : decode cX11_picnic 85 = .ok (.getfield 67, 3) := by decide +kernel
theorem dX11_picnic_88 : decode cX11_picnic 88 = .ok (.getfield 207, 3) := by decide +kernel
theorem dX11_picnic_91 : decode cX11_picnic 91 = .ok (.ireturn, 1) := by decide +kernel
theorem dX11_netted_0 : decode cX11_netted 0 = .ok (.iconst 0, 1) := by decide +kernel
theorem dX11_netted_1 : decode cX11_netted 1 = .ok (.istore_n 1, 1) := by decide +kernel
theorem dX11_netted_2 : decode cX11_netted 2 = .ok (.iconst 0, 1) := by decide +kernel
theorem dX11_netted_3 : decode cX11_netted 3 = .ok (.istore_n 2, 1) := by decide +kernel
theorem dX11_netted_4 : decode cX11_netted 4 = .ok (.iload_n 2, 1) := by decide +kernel
theorem dX11_netted_5 : decode cX11_netted 5 = .ok (.aload_n 0, 1) := by decide +kernel
theorem dX11_netted_6 : decode cX11_netted 6 = .ok (.getfield 19, 3) := by decide +kernel
theorem dX11_netted_9 : decode cX11_netted 9 = .ok (.getfield 210, 3) := by decide +kernel
theorem dX11_netted_12 : decode cX11_netted 12 = .ok (.if_icmp .ge 28, 3) := by decide +kernel
theorem dX11_netted_15 : decode cX11_netted 15 = .ok (.iload_n 1, 1) := by decide +kernel
theorem dX11_netted_16 : decode cX11_netted 16 = .ok (.iconst 0, 1) := by decide +kernel
theorem dX11_netted_17 : decode cX11_netted 17 = .ok (.aload_n 0, 1) := by decide +kernel
theorem dX11_netted_18 : decode cX11_netted 18 = .ok (.iload_n 2, 1) := by decide +kernel
theorem dX11_netted_19 : decode cX11_netted 19 = .ok (.aload_n 0, 1) := by decide +kernel
theorem dX11_netted_20 : decode cX11_netted 20 = .ok (.getfield 38, 3) := by decide +kernel
theorem dX11_netted_23 : decode cX11_netted 23 = .ok (.getfield 136, 3) := by decide +kernel
theorem dX11_netted_26 : decode cX11_netted 26 = .ok (.invokevirtual 177, 3) := by decide +kernel
theorem dX11_netted_29 : decode cX11_netted 29 = .ok (.invokestatic 235, 3) := by decide +kernel
theorem dX11_netted_32 : decode cX11_netted 32 = .ok (.iadd, 1) := by decide +kernel
theorem dX11_netted_33 : decode cX11_netted 33 = .ok (.istore_n 1, 1) := by decide +kernel
theorem dX11_netted_34 : decode cX11_netted 34 = .ok (.iinc 2 1, 3) := by decide +kernel
theorem dX11_netted_37 : decode cX11_netted 37 = .ok (.goto (-33), 3) := by decide +kernel
theorem dX11_netted_40 : decode cX11_netted 40 = .ok (.iload_n 1, 1) := by decide +kernel
theorem dX11_netted_41 : decode cX11_netted 41 = .ok (.ireturn, 1) := by decide +kernel
theorem dX11_without_0 : decode cX11_without 0 = .ok (.aload_n 0, 1) := by decide +kernel
theorem dX11_without_1 : decode cX11_without 1 = .ok (.iload_n 1, 1) := by decide +kernel
theorem dX11_without_2 : decode cX11_without 2 = .ok (.invokevirtual 130, 3) := by decide +kernel
theorem dX11_without_5 : decode cX11_without 5 = .ok (.ifCond .eq 22, 3) := by decide +kernel
theorem dX11_without_8 : decode cX11_without 8 = .ok (.aload_n 0, 1) := by decide +kernel
theorem dX11_without_9 : decode cX11_without 9 = .ok (.iload_n 2, 1) := by decide +kernel
theorem dX11_without_10 : decode cX11_without 10 = .ok (.invokevirtual 113, 3) := by decide +kernel
theorem dX11_without_13 : decode cX11_without 13 = .ok (.ifCond .eq 14, 3) := by decide +kernel
theorem dX11_without_16 : decode cX11_without 16 = .ok (.aload_n 0, 1) := by decide +kernel
theorem dX11_without_17 : decode cX11_without 17 = .ok (.getfield 38, 3) := by decide +kernel
theorem dX11_without_20 : decode cX11_without 20 = .ok (.iload_n 1, 1) := by decide +kernel
theorem dX11_without_21 : decode cX11_without 21 = .ok (.invokevirtual 188, 3) := by decide +kernel
theorem dX11_without_24 : decode cX11_without 24 = .ok (.ifCond .eq 13, 3) := by decide +kernel
theorem dX11_without_27 : decode cX11_without 27 = .ok (.new 170, 3) := by decide +kernel
theorem dX11_without_30 : decode cX11_without 30 = .ok (.dup, 1) := by decide +kernel
theorem dX11_without_31 : decode cX11_without 31 = .ok (.ldc 240, 2) := by decide +kernel
theorem dX11_without_33 : decode cX11_without 33 = .ok (.invokespecial 174, 3) := by decide +kernel
theorem dX11_without_36 : decode cX11_without 36 = .ok (.athrow, 1) := by decide +kernel
theorem dX11_without_37 : decode cX11_without 37 = .ok (.aload_n 0, 1) := by decide +kernel
theorem dX11_without_38 : decode cX11_without 38 = .ok (.iload_n 2, 1) := by decide +kernel
theorem dX11_without_39 : decode cX11_without 39 = .ok (.aload_n 0, 1) := by decide +kernel
theorem dX11_without_40 : decode cX11_without 40 = .ok (.getfield 38, 3) := by decide +kernel
theorem dX11_without_43 : decode cX11_without 43 = .ok (.getfield 136, 3) := by decide +kernel
theorem dX11_without_46 : decode cX11_without 46 = .ok (.iconst 1, 1) := by decide +kernel
theorem dX11_without_47 : decode cX11_without 47 = .ok (.iload_n 1, 1) := by decide +kernel
theorem dX11_without_48 : decode cX11_without 48 = .ok (.ishl, 1) := by decide +kernel
theorem dX11_without_49 : decode cX11_without 49 = .ok (.ior, 1) := by decide +kernel
theorem dX11_without_50 : decode cX11_without 50 = .ok (.invokevirtual 177, 3) := by decide +kernel
theorem dX11_without_53 : decode cX11_without 53 = .ok (.aload_n 0, 1) := by decide +kernel
theorem dX11_without_54 : decode cX11_without 54 = .ok (.iload_n 2, 1) := by decide +kernel
theorem dX11_without_55 : decode cX11_without 55 = .ok (.aload_n 0, 1) := by decide +kernel
theorem dX11_without_56 : decode cX11_without 56 = .ok (.getfield 38, 3) := by decide +kernel
theorem dX11_without_59 : decode cX11_without 59 = .ok (.getfield 136, 3) := by decide +kernel
theorem dX11_without_62 : decode cX11_without 62 = .ok (.invokevirtual 177, 3) := by decide +kernel
theorem dX11_without_65 : decode cX11_without 65 = .ok (.isub, 1) := by decide +kernel
theorem dX11_without_66 : decode cX11_without 66 = .ok (.ireturn, 1) := by decide +kernel
theorem dX11_told_0 : decode cX11_told 0 = .ok (.aload_n 0, 1) := by decide +kernel
theorem dX11_told_1 : decode cX11_told 1 = .ok (.iload_n 1, 1) := by decide +kernel
theorem dX11_told_2 : decode cX11_told 2 = .ok (.invokevirtual 113, 3) := by decide +kernel
theorem dX11_told_5 : decode cX11_told 5 = .ok (.ifCond .eq 15, 3) := by decide +kernel
theorem dX11_told_8 : decode cX11_told 8 = .ok (.iload_n 2, 1) := by decide +kernel
theorem dX11_told_9 : decode cX11_told 9 = .ok (.iconst (-1), 1) := by decide +kernel
theorem dX11_told_10 : decode cX11_told 10 = .ok (.if_icmp .lt 10, 3) := by decide +kernel
theorem dX11_told_13 : decode cX11_told 13 = .ok (.iload_n 2, 1) := by decide +kernel
theorem dX11_told_14 : decode cX11_told 14 = .ok (.sipush 9999, 3) := by decide +kernel
theorem dX11_told_17 : decode cX11_told 17 = .ok (.if_icmp .le 5, 3) := by decide +kernel
theorem dX11_told_20 : decode cX11_told 20 = .ok (.iconst 0, 1) := by decide +kernel
theorem dX11_told_21 : decode cX11_told 21 = .ok (.ireturn, 1) := by decide +kernel
theorem dX11_told_22 : decode cX11_told 22 = .ok (.aload_n 0, 1) := by decide +kernel
theorem dX11_told_23 : decode cX11_told 23 = .ok (.getfield 38, 3) := by decide +kernel
theorem dX11_told_26 : decode cX11_told 26 = .ok (.getfield 242, 3) := by decide +kernel
theorem dX11_told_29 : decode cX11_told 29 = .ok (.iload_n 1, 1) := by decide +kernel
theorem dX11_told_30 : decode cX11_told 30 = .ok (.iload_n 2, 1) := by decide +kernel
theorem dX11_told_31 : decode cX11_told 31 = .ok (.iastore, 1) := by decide +kernel
theorem dX11_told_32 : decode cX11_told 32 = .ok (.iconst 1, 1) := by decide +kernel
theorem dX11_told_33 : decode cX11_told 33 = .ok (.ireturn, 1) := by decide +kernel
theorem dX11_sang_0 : decode cX11_sang 0 = .ok (.iload_n 1, 1) := by decide +kernel
theorem dX11_sang_1 : decode cX11_sang 1 = .ok (.invokestatic 124, 3) := by decide +kernel
theorem dX11_sang_4 : decode cX11_sang 4 = .ok (.ifCond .ne 5, 3) := by decide +kernel
theorem dX11_sang_7 : decode cX11_sang 7 = .ok (.iconst (-1), 1) := by decide +kernel
theorem dX11_sang_8 : decode cX11_sang 8 = .ok (.ireturn, 1) := by decide +kernel
theorem dX11_sang_9 : decode cX11_sang 9 = .ok (.aload_n 0, 1) := by decide +kernel
theorem dX11_sang_10 : decode cX11_sang 10 = .ok (.getfield 74, 3) := by decide +kernel
theorem dX11_sang_13 : decode cX11_sang 13 = .ok (.iload_n 1, 1) := by decide +kernel
theorem dX11_sang_14 : decode cX11_sang 14 = .ok (.invokevirtual 245, 3) := by decide +kernel
theorem dX11_sang_17 : decode cX11_sang 17 = .ok (.ireturn, 1) := by decide +kernel
theorem dX11_song_0 : decode cX11_song 0 = .ok (.iload_n 1, 1) := by decide +kernel
theorem dX11_song_1 : decode cX11_song 1 = .ok (.invokestatic 124, 3) := by decide +kernel
theorem dX11_song_4 : decode cX11_song 4 = .ok (.ifCond .eq 26, 3) := by decide +kernel
theorem dX11_song_7 : decode cX11_song 7 = .ok (.iload_n 2, 1) := by decide +kernel
theorem dX11_song_8 : decode cX11_song 8 = .ok (.ifCond .lt 22, 3) := by decide +kernel
theorem dX11_song_11 : decode cX11_song 11 = .ok (.aload_n 0, 1) := by decide +kernel
theorem dX11_song_12 : decode cX11_song 12 = .ok (.iload_n 3, 1) := by decide +kernel
theorem dX11_song_13 : decode cX11_song 13 = .ok (.invokevirtual 130, 3) := by decide +kernel
theorem dX11_song_16 : decode cX11_song 16 = .ok (.ifCond .eq 14, 3) := by decide +kernel
theorem dX11_song_19 : decode cX11_song 19 = .ok (.aload_n 0, 1) := by decide +kernel
theorem dX11_song_20 : decode cX11_song 20 = .ok (.getfield 38, 3) := by decide +kernel
theorem dX11_song_23 : decode cX11_song 23 = .ok (.iload_n 3, 1) := by decide +kernel
theorem dX11_song_24 : decode cX11_song 24 = .ok (.invokevirtual 188, 3) := by decide +kernel
theorem dX11_song_27 : decode cX11_song 27 = .ok (.ifCond .eq 5, 3) := by decide +kernel
theorem dX11_song_30 : decode cX11_song 30 = .ok (.iconst (-1), 1) := by decide +kernel
theorem dX11_song_31 : decode cX11_song 31 = .ok (.ireturn, 1) := by decide +kernel
theorem dX11_song_32 : decode cX11_song 32 = .ok (.aload_n 0, 1) := by decide +kernel
theorem dX11_song_33 : decode cX11_song 33 = .ok (.getfield 74, 3) := by decide +kernel
theorem dX11_song_36 : decode cX11_song 36 = .ok (.iload_n 1, 1) := by decide +kernel
theorem dX11_song_37 : decode cX11_song 37 = .ok (.iload_n 2, 1) := by decide +kernel
theorem dX11_song_38 : decode cX11_song 38 = .ok (.invokevirtual 248, 3) := by decide +kernel
theorem dX11_song_41 : decode cX11_song 41 = .ok (.ifCond .eq 15, 3) := by decide +kernel
theorem dX11_song_44 : decode cX11_song 44 = .ok (.aload_n 0, 1) := by decide +kernel
theorem dX11_song_45 : decode cX11_song 45 = .ok (.getfield 74, 3) := by decide +kernel
theorem dX11_song_48 : decode cX11_song 48 = .ok (.getfield 251, 3) := by decide +kernel
theorem dX11_song_51 : decode cX11_song 51 = .ok (.iload_n 3, 1) := by decide +kernel
theorem dX11_song_52 : decode cX11_song 52 = .ok (.iaload, 1) := by decide +kernel
theorem dX11_song_53 : decode cX11_song 53 = .ok (.goto 4, 3) := by decide +kernel
theorem dX11_song_56 : decode cX11_song 56 = .ok (.iconst (-1), 1) := by decide +kernel
theorem dX11_song_57 : decode cX11_song 57 = .ok (.ireturn, 1) := by decide +kernel
theorem dX11_wooden_0 : decode cX11_wooden 0 = .ok (.iload_n 1, 1) := by decide +kernel
theorem dX11_wooden_1 : decode cX11_wooden 1 = .ok (.ifCond .lt 8, 3) := by decide +kernel
theorem dX11_wooden_4 : decode cX11_wooden 4 = .ok (.iload_n 1, 1) := by decide +kernel
theorem dX11_wooden_5 : decode cX11_wooden 5 = .ok (.iconst 1, 1) := by decide +kernel
theorem dX11_wooden_6 : decode cX11_wooden 6 = .ok (.if_icmp .le 5, 3) := by decide +kernel
theorem dX11_wooden_9 : decode cX11_wooden 9 = .ok (.iconst (-1), 1) := by decide +kernel
theorem dX11_wooden_10 : decode cX11_wooden 10 = .ok (.ireturn, 1) := by decide +kernel
theorem dX11_wooden_11 : decode cX11_wooden 11 = .ok (.aload_n 0, 1) := by decide +kernel
theorem dX11_wooden_12 : decode cX11_wooden 12 = .ok (.getfield 74, 3) := by decide +kernel
theorem dX11_wooden_15 : decode cX11_wooden 15 = .ok (.invokevirtual 254, 3) := by decide +kernel
theorem dX11_wooden_18 : decode cX11_wooden 18 = .ok (.iload_n 1, 1) := by decide +kernel
theorem dX11_wooden_19 : decode cX11_wooden 19 = .ok (.ifCond .ne 13, 3) := by decide +kernel
theorem dX11_wooden_22 : decode cX11_wooden 22 = .ok (.aload_n 0, 1) := by decide +kernel
theorem dX11_wooden_23 : decode cX11_wooden 23 = .ok (.getfield 74, 3) := by decide +kernel
theorem dX11_wooden_26 : decode cX11_wooden 26 = .ok (.getfield 257, 3) := by decide +kernel
theorem dX11_wooden_29 : decode cX11_wooden 29 = .ok (.goto 10, 3) := by decide +kernel
theorem dX11_wooden_32 : decode cX11_wooden 32 = .ok (.aload_n 0, 1) := by decide +kernel
theorem dX11_wooden_33 : decode cX11_wooden 33 = .ok (.getfield 74, 3) := by decide +kernel
theorem dX11_wooden_36 : decode cX11_wooden 36 = .ok (.getfield 260, 3) := by decide +kernel
theorem dX11_wooden_39 : decode cX11_wooden 39 = .ok (.ireturn, 1) := by decide +kernel
theorem dX11_june_0 : decode cX11_june 0 = .ok (.iload_n 1, 1) := by decide +kernel
theorem dX11_june_1 : decode cX11_june 1 = .ok (.iconst (-1), 1) := by decide +kernel
theorem dX11_june_2 : decode cX11_june 2 = .ok (.if_icmp .eq 14, 3) := by decide +kernel
theorem dX11_june_5 : decode cX11_june 5 = .ok (.aload_n 0, 1) := by decide +kernel
theorem dX11_june_6 : decode cX11_june 6 = .ok (.iload_n 1, 1) := by decide +kernel
theorem dX11_june_7 : decode cX11_june 7 = .ok (.invokevirtual 113, 3) := by decide +kernel
theorem dX11_june_10 : decode cX11_june 10 = .ok (.ifCond .ne 6, 3) := by decide +kernel
theorem dX11_june_13 : decode cX11_june 13 = .ok (.bipush (-2), 2) := by decide +kernel
theorem dX11_june_15 : decode cX11_june 15 = .ok (.ireturn, 1) := by decide +kernel
theorem dX11_june_16 : decode cX11_june 16 = .ok (.aload_n 0, 1) := by decide +kernel
theorem dX11_june_17 : decode cX11_june 17 = .ok (.getfield 81, 3) := by decide +kernel
theorem dX11_june_20 : decode cX11_june 20 = .ok (.invokevirtual 263, 3) := by decide +kernel
theorem dX11_june_23 : decode cX11_june 23 = .ok (.iload_n 1, 1) := by decide +kernel
theorem dX11_june_24 : decode cX11_june 24 = .ok (.iconst (-1), 1) := by decide +kernel
theorem dX11_june_25 : decode cX11_june 25 = .ok (.if_icmp .ne 13, 3) := by decide +kernel
theorem dX11_june_28 : decode cX11_june 28 = .ok (.aload_n 0, 1) := by decide +kernel
theorem dX11_june_29 : decode cX11_june 29 = .ok (.getfield 81, 3) := by decide +kernel
theorem dX11_june_32 : decode cX11_june 32 = .ok (.invokevirtual 266, 3) := by decide +kernel
theorem dX11_june_35 : decode cX11_june 35 = .ok (.goto 12, 3) := by decide +kernel
theorem dX11_june_38 : decode cX11_june 38 = .ok (.aload_n 0, 1) := by decide +kernel
theorem dX11_june_39 : decode cX11_june 39 = .ok (.getfield 81, 3) := by decide +kernel
theorem dX11_june_42 : decode cX11_june 42 = .ok (.getfield 269, 3) := by decide +kernel
theorem dX11_june_45 : decode cX11_june 45 = .ok (.iload_n 1, 1) := by decide +kernel
theorem dX11_june_46 : decode cX11_june 46 = .ok (.iaload, 1) := by decide +kernel
theorem dX11_june_47 : decode cX11_june 47 = .ok (.ireturn, 1) := by decide +kernel
theorem dX11_mark_0 : decode cX11_mark 0 = .ok (.iload_n 1, 1) := by decide +kernel
theorem dX11_mark_1 : decode cX11_mark 1 = .ok (.ifCond .lt 8, 3) := by decide +kernel
theorem dX11_mark_4 : decode cX11_mark 4 = .ok (.iload_n 1, 1) := by decide +kernel
theorem dX11_mark_5 : decode cX11_mark 5 = .ok (.iconst 4, 1) := by decide +kernel
theorem dX11_mark_6 : decode cX11_mark 6 = .ok (.if_icmp .lt 5, 3) := by decide +kernel
theorem dX11_mark_9 : decode cX11_mark 9 = .ok (.iconst 0, 1) := by decide +kernel
theorem dX11_mark_10 : decode cX11_mark 10 = .ok (.ireturn, 1) := by decide +kernel
theorem dX11_mark_11 : decode cX11_mark 11 = .ok (.iload_n 2, 1) := by decide +kernel
theorem dX11_mark_12 : decode cX11_mark 12 = .ok (.ifCond .ne 30, 3) := by decide +kernel
theorem dX11_mark_15 : decode cX11_mark 15 = .ok (.aload_n 0, 1) := by decide +kernel
theorem dX11_mark_16 : decode cX11_mark 16 = .ok (.getfield 42, 3) := by decide +kernel
theorem dX11_mark_19 : decode cX11_mark 19 = .ok (.iload_n 1, 1) := by decide +kernel
theorem dX11_mark_20 : decode cX11_mark 20 = .ok (.aaload, 1) := by decide +kernel
theorem dX11_mark_21 : decode cX11_mark 21 = .ok (.aload_n 0, 1) := by decide +kernel
theorem dX11_mark_22 : decode cX11_mark 22 = .ok (.getfield 38, 3) := by decide +kernel
theorem dX11_mark_25 : decode cX11_mark 25 = .ok (.invokevirtual 270, 3) := by decide +kernel
theorem dX11_mark_28 : decode cX11_mark 28 = .ok (.aload_n 0, 1) := by decide +kernel
theorem dX11_mark_29 : decode cX11_mark 29 = .ok (.dup, 1) := by decide +kernel
theorem dX11_mark_30 : decode cX11_mark 30 = .ok (.getfield 107, 3) := by decide +kernel
theorem dX11_mark_33 : decode cX11_mark 33 = .ok (.iconst 1, 1) := by decide +kernel
theorem dX11_mark_34 : decode cX11_mark 34 = .ok (.iload_n 1, 1) := by decide +kernel
theorem dX11_mark_35 : decode cX11_mark 35 = .ok (.ishl, 1) := by decide +kernel
theorem dX11_mark_36 : decode cX11_mark 36 = .ok (.ior, 1) := by decide +kernel
theorem dX11_mark_37 : decode cX11_mark 37 = .ok (.putfield 107, 3) := by decide +kernel
theorem dX11_mark_40 : decode cX11_mark 40 = .ok (.iconst 1, 1) := by decide +kernel
theorem dX11_mark_41 : decode cX11_mark 41 = .ok (.ireturn, 1) := by decide +kernel
theorem dX11_mark_42 : decode cX11_mark 42 = .ok (.aload_n 0, 1) := by decide +kernel
theorem dX11_mark_43 : decode cX11_mark 43 = .ok (.getfield 107, 3) := by decide +kernel
theorem dX11_mark_46 : decode cX11_mark 46 = .ok (.iload_n 1, 1) := by decide +kernel
theorem dX11_mark_47 : decode cX11_mark 47 = .ok (.ishr, 1) := by decide +kernel
theorem dX11_mark_48 : decode cX11_mark 48 = .ok (.iconst 1, 1) := by decide +kernel
theorem dX11_mark_49 : decode cX11_mark 49 = .ok (.iand, 1) := by decide +kernel
theorem dX11_mark_50 : decode cX11_mark 50 = .ok (.ifCond .ne 5, 3) := by decide +kernel
theorem dX11_mark_53 : decode cX11_mark 53 = .ok (.iconst 0, 1) := by decide +kernel
theorem dX11_mark_54 : decode cX11_mark 54 = .ok (.ireturn, 1) := by decide +kernel
theorem dX11_mark_55 : decode cX11_mark 55 = .ok (.aload_n 0, 1) := by decide +kernel
theorem dX11_mark_56 : decode cX11_mark 56 = .ok (.getfield 38, 3) := by decide +kernel
theorem dX11_mark_59 : decode cX11_mark 59 = .ok (.aload_n 0, 1) := by decide +kernel
theorem dX11_mark_60 : decode cX11_mark 60 = .ok (.getfield 42, 3) := by decide +kernel
theorem dX11_mark_63 : decode cX11_mark 63 = .ok (.iload_n 1, 1) := by decide +kernel
theorem dX11_mark_64 : decode cX11_mark 64 = .ok (.aaload, 1) := by decide +kernel
theorem dX11_mark_65 : decode cX11_mark 65 = .ok (.invokevirtual 270, 3) := by decide +kernel
theorem dX11_mark_68 : decode cX11_mark 68 = .ok (.aload_n 0, 1) := by decide +kernel
theorem dX11_mark_69 : decode cX11_mark 69 = .ok (.getfield 49, 3) := by decide +kernel
theorem dX11_mark_72 : decode cX11_mark 72 = .ok (.iconst 0, 1) := by decide +kernel
theorem dX11_mark_73 : decode cX11_mark 73 = .ok (.putfield 104, 3) := by decide +kernel
theorem dX11_mark_76 : decode cX11_mark 76 = .ok (.iconst 1, 1) := by decide +kernel
theorem dX11_mark_77 : decode cX11_mark 77 = .ok (.ireturn, 1) := by decide +kernel
theorem dX11_count_0 : decode cX11_count 0 = .ok (.iload_n 1, 1) := by decide +kernel
theorem dX11_count_1 : decode cX11_count 1 = .ok (.tableswitch 126 0 8 #[51, 59, 67, 75, 83, 91, 102, 110, 118], 51) := by decide +kernel
theorem dX11_count_52 : decode cX11_count 52 = .ok (.aload_n 0, 1) := by decide +kernel
theorem dX11_count_53 : decode cX11_count 53 = .ok (.getfield 19, 3) := by decide +kernel
theorem dX11_count_56 : decode cX11_count 56 = .ok (.getfield 273, 3) := by decide +kernel
theorem dX11_count_59 : decode cX11_count 59 = .ok (.ireturn, 1) := by decide +kernel
theorem dX11_count_60 : decode cX11_count 60 = .ok (.aload_n 0, 1) := by decide +kernel
theorem dX11_count_61 : decode cX11_count 61 = .ok (.getfield 19, 3) := by decide +kernel
theorem dX11_count_64 : decode cX11_count 64 = .ok (.getfield 276, 3) := by decide +kernel
theorem dX11_count_67 : decode cX11_count 67 = .ok (.ireturn, 1) := by decide +kernel
theorem dX11_count_68 : decode cX11_count 68 = .ok (.aload_n 0, 1) := by decide +kernel
theorem dX11_count_69 : decode cX11_count 69 = .ok (.getfield 19, 3) := by decide +kernel
theorem dX11_count_72 : decode cX11_count 72 = .ok (.getfield 210, 3) := by decide +kernel
theorem dX11_count_75 : decode cX11_count 75 = .ok (.ireturn, 1) := by decide +kernel
theorem dX11_count_76 : decode cX11_count 76 = .ok (.aload_n 0, 1) := by decide +kernel
theorem dX11_count_77 : decode cX11_count 77 = .ok (.getfield 19, 3) := by decide +kernel
theorem dX11_count_80 : decode cX11_count 80 = .ok (.getfield 279, 3) := by decide +kernel
theorem dX11_count_83 : decode cX11_count 83 = .ok (.ireturn, 1) := by decide +kernel
theorem dX11_count_84 : decode cX11_count 84 = .ok (.aload_n 0, 1) := by decide +kernel
theorem dX11_count_85 : decode cX11_count 85 = .ok (.getfield 38, 3) := by decide +kernel
theorem dX11_count_88 : decode cX11_count 88 = .ok (.invokevirtual 181, 3) := by decide +kernel
theorem dX11_count_91 : decode cX11_count 91 = .ok (.ireturn, 1) := by decide +kernel
theorem dX11_count_92 : decode cX11_count 92 = .ok (.aload_n 0, 1) := by decide +kernel
theorem dX11_count_93 : decode cX11_count 93 = .ok (.getfield 38, 3) := by decide +kernel
theorem dX11_count_96 : decode cX11_count 96 = .ok (.getfield 136, 3) := by decide +kernel
theorem dX11_count_99 : decode cX11_count 99 = .ok (.invokestatic 282, 3) := by decide +kernel
theorem dX11_count_102 : decode cX11_count 102 = .ok (.ireturn, 1) := by decide +kernel
theorem dX11_count_103 : decode cX11_count 103 = .ok (.aload_n 0, 1) := by decide +kernel
theorem dX11_count_104 : decode cX11_count 104 = .ok (.getfield 38, 3) := by decide +kernel
theorem dX11_count_107 : decode cX11_count 107 = .ok (.invokevirtual 287, 3) := by decide +kernel
theorem dX11_count_110 : decode cX11_count 110 = .ok (.ireturn, 1) := by decide +kernel
theorem dX11_count_111 : decode cX11_count 111 = .ok (.aload_n 0, 1) := by decide +kernel
theorem dX11_count_112 : decode cX11_count 112 = .ok (.getfield 49, 3) := by decide +kernel
theorem dX11_count_115 : decode cX11_count 115 = .ok (.getfield 104, 3) := by decide +kernel
theorem dX11_count_118 : decode cX11_count 118 = .ok (.ireturn, 1) := by decide +kernel
theorem dX11_count_119 : decode cX11_count 119 = .ok (.aload_n 0, 1) := by decide +kernel
theorem dX11_count_120 : decode cX11_count 120 = .ok (.getfield 10, 3) := by decide +kernel
theorem dX11_count_123 : decode cX11_count 123 = .ok (.getfield 89, 3) := by decide +kernel
theorem dX11_count_126 : decode cX11_count 126 = .ok (.ireturn, 1) := by decide +kernel
theorem dX11_count_127 : decode cX11_count 127 = .ok (.iconst (-1), 1) := by decide +kernel
theorem dX11_count_128 : decode cX11_count 128 = .ok (.ireturn, 1) := by decide +kernel
theorem dX11_isPerson_0 : decode cX11_isPerson 0 = .ok (.iload_n 1, 1) := by decide +kernel
theorem dX11_isPerson_1 : decode cX11_isPerson 1 = .ok (.ifCond .lt 18, 3) := by decide +kernel
theorem dX11_isPerson_4 : decode cX11_isPerson 4 = .ok (.iload_n 1, 1) := by decide +kernel
theorem dX11_isPerson_5 : decode cX11_isPerson 5 = .ok (.aload_n 0, 1) := by decide +kernel
theorem dX11_isPerson_6 : decode cX11_isPerson 6 = .ok (.getfield 19, 3) := by decide +kernel
theorem dX11_isPerson_9 : decode cX11_isPerson 9 = .ok (.getfield 210, 3) := by decide +kernel
theorem dX11_isPerson_12 : decode cX11_isPerson 12 = .ok (.if_icmp .ge 7, 3) := by decide +kernel
theorem dX11_isPerson_15 : decode cX11_isPerson 15 = .ok (.iconst 1, 1) := by decide +kernel
theorem dX11_isPerson_16 : decode cX11_isPerson 16 = .ok (.goto 4, 3) := by decide +kernel
theorem dX11_isPerson_19 : decode cX11_isPerson 19 = .ok (.iconst 0, 1) := by decide +kernel
theorem dX11_isPerson_20 : decode cX11_isPerson 20 = .ok (.ireturn, 1) := by decide +kernel
theorem dX11_isBird_0 : decode cX11_isBird 0 = .ok (.iload_n 1, 1) := by decide +kernel
theorem dX11_isBird_1 : decode cX11_isBird 1 = .ok (.ifCond .lt 18, 3) := by decide +kernel
theorem dX11_isBird_4 : decode cX11_isBird 4 = .ok (.iload_n 1, 1) := by decide +kernel
theorem dX11_isBird_5 : decode cX11_isBird 5 = .ok (.aload_n 0, 1) := by decide +kernel
theorem dX11_isBird_6 : decode cX11_isBird 6 = .ok (.getfield 19, 3) := by decide +kernel
theorem dX11_isBird_9 : decode cX11_isBird 9 = .ok (.getfield 279, 3) := by decide +kernel
theorem dX11_isBird_12 : decode cX11_isBird 12 = .ok (.if_icmp .ge 7, 3) := by decide +kernel
theorem dX11_isBird_15 : decode cX11_isBird 15 = .ok (.iconst 1, 1) := by decide +kernel
theorem dX11_isBird_16 : decode cX11_isBird 16 = .ok (.goto 4, 3) := by decide +kernel
theorem dX11_isBird_19 : decode cX11_isBird 19 = .ok (.iconst 0, 1) := by decide +kernel
theorem dX11_isBird_20 : decode cX11_isBird 20 = .ok (.ireturn, 1) := by decide +kernel
theorem dX11_isHour_0 : decode cX11_isHour 0 = .ok (.iload_n 0, 1) := by decide +kernel
theorem dX11_isHour_1 : decode cX11_isHour 1 = .ok (.ifCond .lt 13, 3) := by decide +kernel
theorem dX11_isHour_4 : decode cX11_isHour 4 = .ok (.iload_n 0, 1) := by decide +kernel
theorem dX11_isHour_5 : decode cX11_isHour 5 = .ok (.bipush 24, 2) := by decide +kernel
theorem dX11_isHour_7 : decode cX11_isHour 7 = .ok (.if_icmp .ge 7, 3) := by decide +kernel
theorem dX11_isHour_10 : decode cX11_isHour 10 = .ok (.iconst 1, 1) := by decide +kernel
theorem dX11_isHour_11 : decode cX11_isHour 11 = .ok (.goto 4, 3) := by decide +kernel
theorem dX11_isHour_14 : decode cX11_isHour 14 = .ok (.iconst 0, 1) := by decide +kernel
theorem dX11_isHour_15 : decode cX11_isHour 15 = .ok (.ireturn, 1) := by decide +kernel
theorem dX11_areHours_0 : decode cX11_areHours 0 = .ok (.iload_n 0, 1) := by decide +kernel
theorem dX11_areHours_1 : decode cX11_areHours 1 = .ok (.invokestatic 124, 3) := by decide +kernel
theorem dX11_areHours_4 : decode cX11_areHours 4 = .ok (.ifCond .eq 19, 3) := by decide +kernel
theorem dX11_areHours_7 : decode cX11_areHours 7 = .ok (.iload_n 1, 1) := by decide +kernel
theorem dX11_areHours_8 : decode cX11_areHours 8 = .ok (.invokestatic 124, 3) := by decide +kernel
theorem dX11_areHours_11 : decode cX11_areHours 11 = .ok (.ifCond .eq 12, 3) := by decide +kernel
theorem dX11_areHours_14 : decode cX11_areHours 14 = .ok (.iload_n 0, 1) := by decide +kernel
theorem dX11_areHours_15 : decode cX11_areHours 15 = .ok (.iload_n 1, 1) := by decide +kernel
theorem dX11_areHours_16 : decode cX11_areHours 16 = .ok (.if_icmp .gt 7, 3) := by decide +kernel
theorem dX11_areHours_19 : decode cX11_areHours 19 = .ok (.iconst 1, 1) := by decide +kernel
theorem dX11_areHours_20 : decode cX11_areHours 20 = .ok (.goto 4, 3) := by decide +kernel
theorem dX11_areHours_23 : decode cX11_areHours 23 = .ok (.iconst 0, 1) := by decide +kernel
theorem dX11_areHours_24 : decode cX11_areHours 24 = .ok (.ireturn, 1) := by decide +kernel
theorem dX11_balanceAsTold_0 : decode cX11_balanceAsTold 0 = .ok (.aload_n 0, 1) := by decide +kernel
theorem dX11_balanceAsTold_1 : decode cX11_balanceAsTold 1 = .ok (.getfield 58, 3) := by decide +kernel
theorem dX11_balanceAsTold_4 : decode cX11_balanceAsTold 4 = .ok (.invokevirtual 146, 3) := by decide +kernel
theorem dX11_balanceAsTold_7 : decode cX11_balanceAsTold 7 = .ok (.aload_n 0, 1) := by decide +kernel
theorem dX11_balanceAsTold_8 : decode cX11_balanceAsTold 8 = .ok (.getfield 58, 3) := by decide +kernel
theorem dX11_balanceAsTold_11 : decode cX11_balanceAsTold 11 = .ok (.iconst 1, 1) := by decide +kernel
theorem dX11_balanceAsTold_12 : decode cX11_balanceAsTold 12 = .ok (.iload_n 1, 1) := by decide +kernel
theorem dX11_balanceAsTold_13 : decode cX11_balanceAsTold 13 = .ok (.ishl, 1) := by decide +kernel
theorem dX11_balanceAsTold_14 : decode cX11_balanceAsTold 14 = .ok (.iconst 0, 1) := by decide +kernel
theorem dX11_balanceAsTold_15 : decode cX11_balanceAsTold 15 = .ok (.bipush 23, 2) := by decide +kernel
theorem dX11_balanceAsTold_17 : decode cX11_balanceAsTold 17 = .ok (.iload_n 2, 1) := by decide +kernel
theorem dX11_balanceAsTold_18 : decode cX11_balanceAsTold 18 = .ok (.invokevirtual 290, 3) := by decide +kernel
theorem dX11_balanceAsTold_21 : decode cX11_balanceAsTold 21 = .ok (.ireturn, 1) := by decide +kernel
theorem dX12_thrown_0 : decode cX12_thrown 0 = .ok (.aload_n 0, 1) := by decide +kernel
theorem dX12_thrown_1 : decode cX12_thrown 1 = .ok (.getfield 1, 3) := by decide +kernel
theorem dX12_thrown_4 : decode cX12_thrown 4 = .ok (.ireturn, 1) := by decide +kernel
theorem dX12_feed_0 : decode cX12_feed 0 = .ok (.aload_n 0, 1) := by decide +kernel
theorem dX12_feed_1 : decode cX12_feed 1 = .ok (.iconst 0, 1) := by decide +kernel
theorem dX12_feed_2 : decode cX12_feed 2 = .ok (.putfield 1, 3) := by decide +kernel
theorem dX12_feed_5 : decode cX12_feed 5 = .ok (.aload_n 0, 1) := by decide +kernel
theorem dX12_feed_6 : decode cX12_feed 6 = .ok (.lload_n 1, 1) := by decide +kernel
theorem dX12_feed_7 : decode cX12_feed 7 = .ok (.invokevirtual 7, 3) := by decide +kernel
theorem dX12_feed_10 : decode cX12_feed 10 = .ok (.aload_n 0, 1) := by decide +kernel
theorem dX12_feed_11 : decode cX12_feed 11 = .ok (.lload_n 3, 1) := by decide +kernel
theorem dX12_feed_12 : decode cX12_feed 12 = .ok (.invokevirtual 7, 3) := by decide +kernel
theorem dX12_feed_15 : decode cX12_feed 15 = .ok (.aload_n 0, 1) := by decide +kernel
theorem dX12_feed_16 : decode cX12_feed 16 = .ok (.lload 5, 2) := by decide +kernel
theorem dX12_feed_18 : decode cX12_feed 18 = .ok (.invokevirtual 7, 3) := by decide +kernel
theorem dX12_feed_21 : decode cX12_feed 21 = .ok (.aload_n 0, 1) := by decide +kernel
theorem dX12_feed_22 : decode cX12_feed 22 = .ok (.getfield 11, 3) := by decide +kernel
theorem dX12_feed_25 : decode cX12_feed 25 = .ok (.ireturn, 1) := by decide +kernel
theorem dX12_lay_0 : decode cX12_lay 0 = .ok (.bipush 56, 2) := by decide +kernel
theorem dX12_lay_2 : decode cX12_lay 2 = .ok (.istore_n 3, 1) := by decide +kernel
theorem dX12_lay_3 : decode cX12_lay 3 = .ok (.iload_n 3, 1) := by decide +kernel
theorem dX12_lay_4 : decode cX12_lay 4 = .ok (.ifCond .lt 71, 3) := by decide +kernel
theorem dX12_lay_7 : decode cX12_lay 7 = .ok (.lload_n 1, 1) := by decide +kernel
theorem dX12_lay_8 : decode cX12_lay 8 = .ok (.iload_n 3, 1) := by decide +kernel
theorem dX12_lay_9 : decode cX12_lay 9 = .ok (.lshr, 1) := by decide +kernel
theorem dX12_lay_10 : decode cX12_lay 10 = .ok (.l2i, 1) := by decide +kernel
theorem dX12_lay_11 : decode cX12_lay 11 = .ok (.sipush 255, 3) := by decide +kernel
theorem dX12_lay_14 : decode cX12_lay 14 = .ok (.iand, 1) := by decide +kernel
theorem dX12_lay_15 : decode cX12_lay 15 = .ok (.istore 4, 2) := by decide +kernel
theorem dX12_lay_17 : decode cX12_lay 17 = .ok (.iload 4, 2) := by decide +kernel
theorem dX12_lay_19 : decode cX12_lay 19 = .ok (.bipush 10, 2) := by decide +kernel
theorem dX12_lay_21 : decode cX12_lay 21 = .ok (.if_icmp .eq 17, 3) := by decide +kernel
theorem dX12_lay_24 : decode cX12_lay 24 = .ok (.iload 4, 2) := by decide +kernel
theorem dX12_lay_26 : decode cX12_lay 26 = .ok (.bipush 32, 2) := by decide +kernel
theorem dX12_lay_28 : decode cX12_lay 28 = .ok (.if_icmp .lt 41, 3) := by decide +kernel
theorem dX12_lay_31 : decode cX12_lay 31 = .ok (.iload 4, 2) := by decide +kernel
theorem dX12_lay_33 : decode cX12_lay 33 = .ok (.bipush 126, 2) := by decide +kernel
theorem dX12_lay_35 : decode cX12_lay 35 = .ok (.if_icmp .gt 34, 3) := by decide +kernel
theorem dX12_lay_38 : decode cX12_lay 38 = .ok (.aload_n 0, 1) := by decide +kernel
theorem dX12_lay_39 : decode cX12_lay 39 = .ok (.getfield 11, 3) := by decide +kernel
theorem dX12_lay_42 : decode cX12_lay 42 = .ok (.sipush 1000, 3) := by decide +kernel
theorem dX12_lay_45 : decode cX12_lay 45 = .ok (.if_icmp .ge 24, 3) := by decide +kernel
theorem dX12_lay_48 : decode cX12_lay 48 = .ok (.aload_n 0, 1) := by decide +kernel
theorem dX12_lay_49 : decode cX12_lay 49 = .ok (.getfield 14, 3) := by decide +kernel
theorem dX12_lay_52 : decode cX12_lay 52 = .ok (.aload_n 0, 1) := by decide +kernel
theorem dX12_lay_53 : decode cX12_lay 53 = .ok (.getfield 11, 3) := by decide +kernel
theorem dX12_lay_56 : decode cX12_lay 56 = .ok (.iload 4, 2) := by decide +kernel
theorem dX12_lay_58 : decode cX12_lay 58 = .ok (.iastore, 1) := by decide +kernel
theorem dX12_lay_59 : decode cX12_lay 59 = .ok (.aload_n 0, 1) := by decide +kernel
theorem dX12_lay_60 : decode cX12_lay 60 = .ok (.dup, 1) := by decide +kernel
theorem dX12_lay_61 : decode cX12_lay 61 = .ok (.getfield 11, 3) := by decide +kernel
theorem dX12_lay_64 : decode cX12_lay 64 = .ok (.iconst 1, 1) := by decide +kernel
theorem dX12_lay_65 : decode cX12_lay 65 = .ok (.iadd, 1) := by decide +kernel
theorem dX12_lay_66 : decode cX12_lay 66 = .ok (.putfield 11, 3) := by decide +kernel
theorem dX12_lay_69 : decode cX12_lay 69 = .ok (.iinc 3 (-8), 3) := by decide +kernel
theorem dX12_lay_72 : decode cX12_lay 72 = .ok (.goto (-69), 3) := by decide +kernel
theorem dX12_lay_75 : decode cX12_lay 75 = .ok (.return_, 1) := by decide +kernel
theorem dX12_init_0 : decode cX12_init 0 = .ok (.aload_n 0, 1) := by decide +kernel
theorem dX12_init_1 : decode cX12_init 1 = .ok (.invokespecial 18, 3) := by decide +kernel
theorem dX12_init_4 : decode cX12_init 4 = .ok (.aload_n 0, 1) := by decide +kernel
theorem dX12_init_5 : decode cX12_init 5 = .ok (.sipush 1000, 3) := by decide +kernel
theorem dX12_init_8 : decode cX12_init 8 = .ok (.newarray .int, 2) := by decide +kernel
theorem dX12_init_10 : decode cX12_init 10 = .ok (.putfield 14, 3) := by decide +kernel
theorem dX12_init_13 : decode cX12_init 13 = .ok (.aload_n 0, 1) := by decide +kernel
theorem dX12_init_14 : decode cX12_init 14 = .ok (.sipush 1002, 3) := by decide +kernel
theorem dX12_init_17 : decode cX12_init 17 = .ok (.newarray .int, 2) := by decide +kernel
theorem dX12_init_19 : decode cX12_init 19 = .ok (.putfield 24, 3) := by decide +kernel
theorem dX12_init_22 : decode cX12_init 22 = .ok (.aload_n 0, 1) := by decide +kernel
theorem dX12_init_23 : decode cX12_init 23 = .ok (.sipush 1002, 3) := by decide +kernel
theorem dX12_init_26 : decode cX12_init 26 = .ok (.newarray .int, 2) := by decide +kernel
theorem dX12_init_28 : decode cX12_init 28 = .ok (.putfield 27, 3) := by decide +kernel
theorem dX12_init_31 : decode cX12_init 31 = .ok (.aload_n 0, 1) := by decide +kernel
theorem dX12_init_32 : decode cX12_init 32 = .ok (.sipush 1002, 3) := by decide +kernel
theorem dX12_init_35 : decode cX12_init 35 = .ok (.newarray .long, 2) := by decide +kernel
theorem dX12_init_37 : decode cX12_init 37 = .ok (.putfield 30, 3) := by decide +kernel
theorem dX12_init_40 : decode cX12_init 40 = .ok (.aload_n 0, 1) := by decide +kernel
theorem dX12_init_41 : decode cX12_init 41 = .ok (.bipush 24, 2) := by decide +kernel
theorem dX12_init_43 : decode cX12_init 43 = .ok (.newarray .long, 2) := by decide +kernel
theorem dX12_init_45 : decode cX12_init 45 = .ok (.dup, 1) := by decide +kernel
theorem dX12_init_46 : decode cX12_init 46 = .ok (.iconst 0, 1) := by decide +kernel
theorem dX12_init_47 : decode cX12_init 47 = .ok (.ldc2_w 34, 3) := by decide +kernel
theorem dX12_init_50 : decode cX12_init 50 = .ok (.lastore, 1) := by decide +kernel
theorem dX12_init_51 : decode cX12_init 51 = .ok (.dup, 1) := by decide +kernel
theorem dX12_init_52 : decode cX12_init 52 = .ok (.iconst 1, 1) := by decide +kernel
theorem dX12_init_53 : decode cX12_init 53 = .ok (.ldc2_w 36, 3) := by decide +kernel
theorem dX12_init_56 : decode cX12_init 56 = .ok (.lastore, 1) := by decide +kernel
theorem dX12_init_57 : decode cX12_init 57 = .ok (.dup, 1) := by decide +kernel
theorem dX12_init_58 : decode cX12_init 58 = .ok (.iconst 2, 1) := by decide +kernel
theorem dX12_init_59 : decode cX12_init 59 = .ok (.ldc2_w 38, 3) := by decide +kernel
theorem dX12_init_62 : decode cX12_init 62 = .ok (.lastore, 1) := by decide +kernel
theorem dX12_init_63 : decode cX12_init 63 = .ok (.dup, 1) := by decide +kernel
theorem dX12_init_64 : decode cX12_init 64 = .ok (.iconst 3, 1) := by decide +kernel
theorem dX12_init_65 : decode cX12_init 65 = .ok (.ldc2_w 40, 3) := by decide +kernel
theorem dX12_init_68 : decode cX12_init 68 = .ok (.lastore, 1) := by decide +kernel
theorem dX12_init_69 : decode cX12_init 69 = .ok (.dup, 1) := by decide +kernel
theorem dX12_init_70 : decode cX12_init 70 = .ok (.iconst 4, 1) := by decide +kernel
theorem dX12_init_71 : decode cX12_init 71 = .ok (.ldc2_w 42, 3) := by decide +kernel
theorem dX12_init_74 : decode cX12_init 74 = .ok (.lastore, 1) := by decide +kernel
theorem dX12_init_75 : decode cX12_init 75 = .ok (.dup, 1) := by decide +kernel
theorem dX12_init_76 : decode cX12_init 76 = .ok (.iconst 5, 1) := by decide +kernel
theorem dX12_init_77 : decode cX12_init 77 = .ok (.ldc2_w 44, 3) := by decide +kernel
theorem dX12_init_80 : decode cX12_init 80 = .ok (.lastore, 1) := by decide +kernel
theorem dX12_init_81 : decode cX12_init 81 = .ok (.dup, 1) := by decide +kernel
theorem dX12_init_82 : decode cX12_init 82 = .ok (.bipush 6, 2) := by decide +kernel
theorem dX12_init_84 : decode cX12_init 84 = .ok (.ldc2_w 46, 3) := by decide +kernel
theorem dX12_init_87 : decode cX12_init 87 = .ok (.lastore, 1) := by decide +kernel
theorem dX12_init_88 : decode cX12_init 88 = .ok (.dup, 1) := by decide +kernel
theorem dX12_init_89 : decode cX12_init 89 = .ok (.bipush 7, 2) := by decide +kernel
theorem dX12_init_91 : decode cX12_init 91 = .ok (.ldc2_w 48, 3) := by decide +kernel
theorem dX12_init_94 : decode cX12_init 94 = .ok (.lastore, 1) := by decide +kernel
theorem dX12_init_95 : decode cX12_init 95 = .ok (.dup, 1) := by decide +kernel
theorem dX12_init_96 : decode cX12_init 96 = .ok (.bipush 8, 2) := by decide +kernel
theorem dX12_init_98 : decode cX12_init 98 = .ok (.ldc2_w 50, 3) := by decide +kernel
theorem dX12_init_101 : decode cX12_init 101 = .ok (.lastore, 1) := by decide +kernel
theorem dX12_init_102 : decode cX12_init 102 = .ok (.dup, 1) := by decide +kernel
theorem dX12_init_103 : decode cX12_init 103 = .ok (.bipush 9, 2) := by decide +kernel
theorem dX12_init_105 : decode cX12_init 105 = .ok (.ldc2_w 52, 3) := by decide +kernel
theorem dX12_init_108 : decode cX12_init 108 = .ok (.lastore, 1) := by decide +kernel
theorem dX12_init_109 : decode cX12_init 109 = .ok (.dup, 1) := by decide +kernel
theorem dX12_init_110 : decode cX12_init 110 = .ok (.bipush 10, 2) := by decide +kernel
theorem dX12_init_112 : decode cX12_init 112 = .ok (.ldc2_w 54, 3) := by decide +kernel
theorem dX12_init_115 : decode cX12_init 115 = .ok (.lastore, 1) := by decide +kernel
theorem dX12_init_116 : decode cX12_init 116 = .ok (.dup, 1) := by decide +kernel
theorem dX12_init_117 : decode cX12_init 117 = .ok (.bipush 11, 2) := by decide +kernel
theorem dX12_init_119 : decode cX12_init 119 = .ok (.ldc2_w 56, 3) := by decide +kernel
theorem dX12_init_122 : decode cX12_init 122 = .ok (.lastore, 1) := by decide +kernel
theorem dX12_init_123 : decode cX12_init 123 = .ok (.dup, 1) := by decide +kernel
theorem dX12_init_124 : decode cX12_init 124 = .ok (.bipush 12, 2) := by decide +kernel
theorem dX12_init_126 : decode cX12_init 126 = .ok (.ldc2_w 58, 3) := by decide +kernel
theorem dX12_init_129 : decode cX12_init 129 = .ok (.lastore, 1) := by decide +kernel
theorem dX12_init_130 : decode cX12_init 130 = .ok (.dup, 1) := by decide +kernel
theorem dX12_init_131 : decode cX12_init 131 = .ok (.bipush 13, 2) := by decide +kernel
theorem dX12_init_133 : decode cX12_init 133 = .ok (.ldc2_w 60, 3) := by decide +kernel
theorem dX12_init_136 : decode cX12_init 136 = .ok (.lastore, 1) := by decide +kernel
theorem dX12_init_137 : decode cX12_init 137 = .ok (.dup, 1) := by decide +kernel
theorem dX12_init_138 : decode cX12_init 138 = .ok (.bipush 14, 2) := by decide +kernel
theorem dX12_init_140 : decode cX12_init 140 = .ok (.ldc2_w 62, 3) := by decide +kernel
theorem dX12_init_143 : decode cX12_init 143 = .ok (.lastore, 1) := by decide +kernel
theorem dX12_init_144 : decode cX12_init 144 = .ok (.dup, 1) := by decide +kernel
theorem dX12_init_145 : decode cX12_init 145 = .ok (.bipush 15, 2) := by decide +kernel
theorem dX12_init_147 : decode cX12_init 147 = .ok (.ldc2_w 64, 3) := by decide +kernel
theorem dX12_init_150 : decode cX12_init 150 = .ok (.lastore, 1) := by decide +kernel
theorem dX12_init_151 : decode cX12_init 151 = .ok (.dup, 1) := by decide +kernel
theorem dX12_init_152 : decode cX12_init 152 = .ok (.bipush 16, 2) := by decide +kernel
theorem dX12_init_154 : decode cX12_init 154 = .ok (.ldc2_w 66, 3) := by decide +kernel
theorem dX12_init_157 : decode cX12_init 157 = .ok (.lastore, 1) := by decide +kernel
theorem dX12_init_158 : decode cX12_init 158 = .ok (.dup, 1) := by decide +kernel
theorem dX12_init_159 : decode cX12_init 159 = .ok (.bipush 17, 2) := by decide +kernel
theorem dX12_init_161 : decode cX12_init 161 = .ok (.ldc2_w 68, 3) := by decide +kernel
theorem dX12_init_164 : decode cX12_init 164 = .ok (.lastore, 1) := by decide +kernel
theorem dX12_init_165 : decode cX12_init 165 = .ok (.dup, 1) := by decide +kernel
theorem dX12_init_166 : decode cX12_init 166 = .ok (.bipush 18, 2) := by decide +kernel
theorem dX12_init_168 : decode cX12_init 168 = .ok (.ldc2_w 70, 3) := by decide +kernel
theorem dX12_init_171 : decode cX12_init 171 = .ok (.lastore, 1) := by decide +kernel
theorem dX12_init_172 : decode cX12_init 172 = .ok (.dup, 1) := by decide +kernel
theorem dX12_init_173 : decode cX12_init 173 = .ok (.bipush 19, 2) := by decide +kernel
theorem dX12_init_175 : decode cX12_init 175 = .ok (.ldc2_w 72, 3) := by decide +kernel
theorem dX12_init_178 : decode cX12_init 178 = .ok (.lastore, 1) := by decide +kernel
theorem dX12_init_179 : decode cX12_init 179 = .ok (.dup, 1) := by decide +kernel
theorem dX12_init_180 : decode cX12_init 180 = .ok (.bipush 20, 2) := by decide +kernel
theorem dX12_init_182 : decode cX12_init 182 = .ok (.ldc2_w 74, 3) := by decide +kernel
theorem dX12_init_185 : decode cX12_init 185 = .ok (.lastore, 1) := by decide +kernel
theorem dX12_init_186 : decode cX12_init 186 = .ok (.dup, 1) := by decide +kernel
theorem dX12_init_187 : decode cX12_init 187 = .ok (.bipush 21, 2) := by decide +kernel
theorem dX12_init_189 : decode cX12_init 189 = .ok (.ldc2_w 76, 3) := by decide +kernel
theorem dX12_init_192 : decode cX12_init 192 = .ok (.lastore, 1) := by decide +kernel
theorem dX12_init_193 : decode cX12_init 193 = .ok (.dup, 1) := by decide +kernel
theorem dX12_init_194 : decode cX12_init 194 = .ok (.bipush 22, 2) := by decide +kernel
theorem dX12_init_196 : decode cX12_init 196 = .ok (.ldc2_w 78, 3) := by decide +kernel
theorem dX12_init_199 : decode cX12_init 199 = .ok (.lastore, 1) := by decide +kernel
theorem dX12_init_200 : decode cX12_init 200 = .ok (.dup, 1) := by decide +kernel
theorem dX12_init_201 : decode cX12_init 201 = .ok (.bipush 23, 2) := by decide +kernel
theorem dX12_init_203 : decode cX12_init 203 = .ok (.ldc2_w 80, 3) := by decide +kernel
theorem dX12_init_206 : decode cX12_init 206 = .ok (.lastore, 1) := by decide +kernel
theorem dX12_init_207 : decode cX12_init 207 = .ok (.putfield 82, 3) := by decide +kernel
theorem dX12_init_210 : decode cX12_init 210 = .ok (.aload_n 0, 1) := by decide +kernel
theorem dX12_init_211 : decode cX12_init 211 = .ok (.sipush 360, 3) := by decide +kernel
theorem dX12_init_214 : decode cX12_init 214 = .ok (.newarray .int, 2) := by decide +kernel
theorem dX12_init_216 : decode cX12_init 216 = .ok (.putfield 85, 3) := by decide +kernel
theorem dX12_init_219 : decode cX12_init 219 = .ok (.aload_n 0, 1) := by decide +kernel
theorem dX12_init_220 : decode cX12_init 220 = .ok (.bipush 120, 2) := by decide +kernel
theorem dX12_init_222 : decode cX12_init 222 = .ok (.newarray .int, 2) := by decide +kernel
theorem dX12_init_224 : decode cX12_init 224 = .ok (.putfield 88, 3) := by decide +kernel
theorem dX12_init_227 : decode cX12_init 227 = .ok (.aload_n 0, 1) := by decide +kernel
theorem dX12_init_228 : decode cX12_init 228 = .ok (.sipush 144, 3) := by decide +kernel
theorem dX12_init_231 : decode cX12_init 231 = .ok (.newarray .int, 2) := by decide +kernel
theorem dX12_init_233 : decode cX12_init 233 = .ok (.putfield 91, 3) := by decide +kernel
theorem dX12_init_236 : decode cX12_init 236 = .ok (.aload_n 0, 1) := by decide +kernel
theorem dX12_init_237 : decode cX12_init 237 = .ok (.sipush 2200, 3) := by decide +kernel
theorem dX12_init_240 : decode cX12_init 240 = .ok (.newarray .int, 2) := by decide +kernel
theorem dX12_init_242 : decode cX12_init 242 = .ok (.putfield 94, 3) := by decide +kernel
theorem dX12_init_245 : decode cX12_init 245 = .ok (.aload_n 0, 1) := by decide +kernel
theorem dX12_init_246 : decode cX12_init 246 = .ok (.sipush 2200, 3) := by decide +kernel
theorem dX12_init_249 : decode cX12_init 249 = .ok (.newarray .int, 2) := by decide +kernel
theorem dX12_init_251 : decode cX12_init 251 = .ok (.putfield 97, 3) := by decide +kernel
theorem dX12_init_254 : decode cX12_init 254 = .ok (.aload_n 0, 1) := by decide +kernel
theorem dX12_init_255 : decode cX12_init 255 = .ok (.bipush 11, 2) := by decide +kernel
theorem dX12_init_257 : decode cX12_init 257 = .ok (.newarray .long, 2) := by decide +kernel
theorem dX12_init_259 : decode cX12_init 259 = .ok (.putfield 100, 3) := by decide +kernel
theorem dX12_init_262 : decode cX12_init 262 = .ok (.aload_n 0, 1) := by decide +kernel
theorem dX12_init_263 : decode cX12_init 263 = .ok (.bipush 11, 2) := by decide +kernel
theorem dX12_init_265 : decode cX12_init 265 = .ok (.newarray .int, 2) := by decide +kernel
theorem dX12_init_267 : decode cX12_init 267 = .ok (.putfield 103, 3) := by decide +kernel
theorem dX12_init_270 : decode cX12_init 270 = .ok (.aload_n 0, 1) := by decide +kernel
theorem dX12_init_271 : decode cX12_init 271 = .ok (.bipush 6, 2) := by decide +kernel
theorem dX12_init_273 : decode cX12_init 273 = .ok (.newarray .int, 2) := by decide +kernel
theorem dX12_init_275 : decode cX12_init 275 = .ok (.dup, 1) := by decide +kernel
theorem dX12_init_276 : decode cX12_init 276 = .ok (.iconst 0, 1) := by decide +kernel
theorem dX12_init_277 : decode cX12_init 277 = .ok (.iconst 5, 1) := by decide +kernel
theorem dX12_init_278 : decode cX12_init 278 = .ok (.iastore, 1) := by decide +kernel
theorem dX12_init_279 : decode cX12_init 279 = .ok (.dup, 1) := by decide +kernel
theorem dX12_init_280 : decode cX12_init 280 = .ok (.iconst 1, 1) := by decide +kernel
theorem dX12_init_281 : decode cX12_init 281 = .ok (.bipush 20, 2) := by decide +kernel
theorem dX12_init_283 : decode cX12_init 283 = .ok (.iastore, 1) := by decide +kernel
theorem dX12_init_284 : decode cX12_init 284 = .ok (.dup, 1) := by decide +kernel
theorem dX12_init_285 : decode cX12_init 285 = .ok (.iconst 2, 1) := by decide +kernel
theorem dX12_init_286 : decode cX12_init 286 = .ok (.bipush 21, 2) := by decide +kernel
theorem dX12_init_288 : decode cX12_init 288 = .ok (.iastore, 1) := by decide +kernel
theorem dX12_init_289 : decode cX12_init 289 = .ok (.dup, 1) := by decide +kernel
theorem dX12_init_290 : decode cX12_init 290 = .ok (.iconst 3, 1) := by decide +kernel
theorem dX12_init_291 : decode cX12_init 291 = .ok (.bipush 8, 2) := by decide +kernel
theorem dX12_init_293 : decode cX12_init 293 = .ok (.iastore, 1) := by decide +kernel
theorem dX12_init_294 : decode cX12_init 294 = .ok (.dup, 1) := by decide +kernel
theorem dX12_init_295 : decode cX12_init 295 = .ok (.iconst 4, 1) := by decide +kernel
theorem dX12_init_296 : decode cX12_init 296 = .ok (.bipush 22, 2) := by decide +kernel
theorem dX12_init_298 : decode cX12_init 298 = .ok (.iastore, 1) := by decide +kernel
theorem dX12_init_299 : decode cX12_init 299 = .ok (.dup, 1) := by decide +kernel
theorem dX12_init_300 : decode cX12_init 300 = .ok (.iconst 5, 1) := by decide +kernel
theorem dX12_init_301 : decode cX12_init 301 = .ok (.bipush 23, 2) := by decide +kernel
theorem dX12_init_303 : decode cX12_init 303 = .ok (.iastore, 1) := by decide +kernel
theorem dX12_init_304 : decode cX12_init 304 = .ok (.putfield 106, 3) := by decide +kernel
theorem dX12_init_307 : decode cX12_init 307 = .ok (.aload_n 0, 1) := by decide +kernel
theorem dX12_init_308 : decode cX12_init 308 = .ok (.bipush 6, 2) := by decide +kernel
theorem dX12_init_310 : decode cX12_init 310 = .ok (.newarray .int, 2) := by decide +kernel
theorem dX12_init_312 : decode cX12_init 312 = .ok (.putfield 109, 3) := by decide +kernel
theorem dX12_init_315 : decode cX12_init 315 = .ok (.aload_n 0, 1) := by decide +kernel
theorem dX12_init_316 : decode cX12_init 316 = .ok (.sipush 1100, 3) := by decide +kernel
theorem dX12_init_319 : decode cX12_init 319 = .ok (.newarray .int, 2) := by decide +kernel
theorem dX12_init_321 : decode cX12_init 321 = .ok (.putfield 112, 3) := by decide +kernel
theorem dX12_init_324 : decode cX12_init 324 = .ok (.aload_n 0, 1) := by decide +kernel
theorem dX12_init_325 : decode cX12_init 325 = .ok (.sipush 3200, 3) := by decide +kernel
theorem dX12_init_328 : decode cX12_init 328 = .ok (.newarray .int, 2) := by decide +kernel
theorem dX12_init_330 : decode cX12_init 330 = .ok (.putfield 115, 3) := by decide +kernel
theorem dX12_init_333 : decode cX12_init 333 = .ok (.aload_n 0, 1) := by decide +kernel
theorem dX12_init_334 : decode cX12_init 334 = .ok (.iconst 4, 1) := by decide +kernel
theorem dX12_init_335 : decode cX12_init 335 = .ok (.newarray .boolean, 2) := by decide +kernel
theorem dX12_init_337 : decode cX12_init 337 = .ok (.putfield 118, 3) := by decide +kernel
theorem dX12_init_340 : decode cX12_init 340 = .ok (.aload_n 0, 1) := by decide +kernel
theorem dX12_init_341 : decode cX12_init 341 = .ok (.bipush 6, 2) := by decide +kernel
theorem dX12_init_343 : decode cX12_init 343 = .ok (.newarray .int, 2) := by decide +kernel
theorem dX12_init_345 : decode cX12_init 345 = .ok (.putfield 122, 3) := by decide +kernel
theorem dX12_init_348 : decode cX12_init 348 = .ok (.aload_n 0, 1) := by decide +kernel
theorem dX12_init_349 : decode cX12_init 349 = .ok (.bipush 24, 2) := by decide +kernel
theorem dX12_init_351 : decode cX12_init 351 = .ok (.putfield 125, 3) := by decide +kernel
theorem dX12_init_354 : decode cX12_init 354 = .ok (.aload_n 0, 1) := by decide +kernel
theorem dX12_init_355 : decode cX12_init 355 = .ok (.iconst (-1), 1) := by decide +kernel
theorem dX12_init_356 : decode cX12_init 356 = .ok (.putfield 128, 3) := by decide +kernel
theorem dX12_init_359 : decode cX12_init 359 = .ok (.aload_n 0, 1) := by decide +kernel
theorem dX12_init_360 : decode cX12_init 360 = .ok (.bipush 36, 2) := by decide +kernel
theorem dX12_init_362 : decode cX12_init 362 = .ok (.newarray .int, 2) := by decide +kernel
theorem dX12_init_364 : decode cX12_init 364 = .ok (.putfield 131, 3) := by decide +kernel
theorem dX12_init_367 : decode cX12_init 367 = .ok (.aload_n 0, 1) := by decide +kernel
theorem dX12_init_368 : decode cX12_init 368 = .ok (.sipush 306, 3) := by decide +kernel
theorem dX12_init_371 : decode cX12_init 371 = .ok (.newarray .int, 2) := by decide +kernel
theorem dX12_init_373 : decode cX12_init 373 = .ok (.putfield 134, 3) := by decide +kernel
theorem dX12_init_376 : decode cX12_init 376 = .ok (.aload_n 0, 1) := by decide +kernel
theorem dX12_init_377 : decode cX12_init 377 = .ok (.sipush 180, 3) := by decide +kernel
theorem dX12_init_380 : decode cX12_init 380 = .ok (.newarray .int, 2) := by decide +kernel
theorem dX12_init_382 : decode cX12_init 382 = .ok (.putfield 137, 3) := by decide +kernel
theorem dX12_init_385 : decode cX12_init 385 = .ok (.aload_n 0, 1) := by decide +kernel
theorem dX12_init_386 : decode cX12_init 386 = .ok (.iconst 5, 1) := by decide +kernel
theorem dX12_init_387 : decode cX12_init 387 = .ok (.newarray .int, 2) := by decide +kernel
theorem dX12_init_389 : decode cX12_init 389 = .ok (.putfield 140, 3) := by decide +kernel
theorem dX12_init_392 : decode cX12_init 392 = .ok (.aload_n 0, 1) := by decide +kernel
theorem dX12_init_393 : decode cX12_init 393 = .ok (.iconst 5, 1) := by decide +kernel
theorem dX12_init_394 : decode cX12_init 394 = .ok (.newarray .int, 2) := by decide +kernel
theorem dX12_init_396 : decode cX12_init 396 = .ok (.putfield 143, 3) := by decide +kernel
theorem dX12_init_399 : decode cX12_init 399 = .ok (.aload_n 0, 1) := by decide +kernel
theorem dX12_init_400 : decode cX12_init 400 = .ok (.bipush 6, 2) := by decide +kernel
theorem dX12_init_402 : decode cX12_init 402 = .ok (.newarray .int, 2) := by decide +kernel
theorem dX12_init_404 : decode cX12_init 404 = .ok (.putfield 146, 3) := by decide +kernel
theorem dX12_init_407 : decode cX12_init 407 = .ok (.aload_n 0, 1) := by decide +kernel
theorem dX12_init_408 : decode cX12_init 408 = .ok (.iconst 0, 1) := by decide +kernel
theorem dX12_init_409 : decode cX12_init 409 = .ok (.invokevirtual 149, 3) := by decide +kernel
theorem dX12_init_412 : decode cX12_init 412 = .ok (.aload_n 0, 1) := by decide +kernel
theorem dX12_init_413 : decode cX12_init 413 = .ok (.getfield 85, 3) := by decide +kernel
theorem dX12_init_416 : decode cX12_init 416 = .ok (.iconst 0, 1) := by decide +kernel
theorem dX12_init_417 : decode cX12_init 417 = .ok (.iconst 2, 1) := by decide +kernel
theorem dX12_init_418 : decode cX12_init 418 = .ok (.iastore, 1) := by decide +kernel
theorem dX12_init_419 : decode cX12_init 419 = .ok (.aload_n 0, 1) := by decide +kernel
theorem dX12_init_420 : decode cX12_init 420 = .ok (.getfield 85, 3) := by decide +kernel
theorem dX12_init_423 : decode cX12_init 423 = .ok (.iconst 1, 1) := by decide +kernel
theorem dX12_init_424 : decode cX12_init 424 = .ok (.iconst 2, 1) := by decide +kernel
theorem dX12_init_425 : decode cX12_init 425 = .ok (.iastore, 1) := by decide +kernel
theorem dX12_init_426 : decode cX12_init 426 = .ok (.iconst 0, 1) := by decide +kernel
theorem dX12_init_427 : decode cX12_init 427 = .ok (.istore_n 1, 1) := by decide +kernel
theorem dX12_init_428 : decode cX12_init 428 = .ok (.iload_n 1, 1) := by decide +kernel
theorem dX12_init_429 : decode cX12_init 429 = .ok (.bipush 6, 2) := by decide +kernel
theorem dX12_init_431 : decode cX12_init 431 = .ok (.if_icmp .ge 19, 3) := by decide +kernel
theorem dX12_init_434 : decode cX12_init 434 = .ok (.aload_n 0, 1) := by decide +kernel
theorem dX12_init_435 : decode cX12_init 435 = .ok (.getfield 115, 3) := by decide +kernel
theorem dX12_init_438 : decode cX12_init 438 = .ok (.bipush 121, 2) := by decide +kernel
theorem dX12_init_440 : decode cX12_init 440 = .ok (.iload_n 1, 1) := by decide +kernel
theorem dX12_init_441 : decode cX12_init 441 = .ok (.iadd, 1) := by decide +kernel
theorem dX12_init_442 : decode cX12_init 442 = .ok (.iconst (-1), 1) := by decide +kernel
theorem dX12_init_443 : decode cX12_init 443 = .ok (.iastore, 1) := by decide +kernel
theorem dX12_init_444 : decode cX12_init 444 = .ok (.iinc 1 1, 3) := by decide +kernel
theorem dX12_init_447 : decode cX12_init 447 = .ok (.goto (-19), 3) := by decide +kernel
theorem dX12_init_450 : decode cX12_init 450 = .ok (.return_, 1) := by decide +kernel
theorem dX12_isLetter_0 : decode cX12_isLetter 0 = .ok (.iload_n 0, 1) := by decide +kernel
theorem dX12_isLetter_1 : decode cX12_isLetter 1 = .ok (.bipush 97, 2) := by decide +kernel
theorem dX12_isLetter_3 : decode cX12_isLetter 3 = .ok (.if_icmp .lt 13, 3) := by decide +kernel
theorem dX12_isLetter_6 : decode cX12_isLetter 6 = .ok (.iload_n 0, 1) := by decide +kernel
theorem dX12_isLetter_7 : decode cX12_isLetter 7 = .ok (.bipush 122, 2) := by decide +kernel
theorem dX12_isLetter_9 : decode cX12_isLetter 9 = .ok (.if_icmp .gt 7, 3) := by decide +kernel
theorem dX12_isLetter_12 : decode cX12_isLetter 12 = .ok (.iconst 1, 1) := by decide +kernel
theorem dX12_isLetter_13 : decode cX12_isLetter 13 = .ok (.goto 4, 3) := by decide +kernel
theorem dX12_isLetter_16 : decode cX12_isLetter 16 = .ok (.iconst 0, 1) := by decide +kernel
theorem dX12_isLetter_17 : decode cX12_isLetter 17 = .ok (.ireturn, 1) := by decide +kernel
theorem dX12_isDigit_0 : decode cX12_isDigit 0 = .ok (.iload_n 0, 1) := by decide +kernel
theorem dX12_isDigit_1 : decode cX12_isDigit 1 = .ok (.bipush 48, 2) := by decide +kernel
theorem dX12_isDigit_3 : decode cX12_isDigit 3 = .ok (.if_icmp .lt 13, 3) := by decide +kernel
theorem dX12_isDigit_6 : decode cX12_isDigit 6 = .ok (.iload_n 0, 1) := by decide +kernel
theorem dX12_isDigit_7 : decode cX12_isDigit 7 = .ok (.bipush 57, 2) := by decide +kernel
theorem dX12_isDigit_9 : decode cX12_isDigit 9 = .ok (.if_icmp .gt 7, 3) := by decide +kernel
theorem dX12_isDigit_12 : decode cX12_isDigit 12 = .ok (.iconst 1, 1) := by decide +kernel
theorem dX12_isDigit_13 : decode cX12_isDigit 13 = .ok (.goto 4, 3) := by decide +kernel
theorem dX12_isDigit_16 : decode cX12_isDigit 16 = .ok (.iconst 0, 1) := by decide +kernel
theorem dX12_isDigit_17 : decode cX12_isDigit 17 = .ok (.ireturn, 1) := by decide +kernel
theorem dX12_rank_0 : decode cX12_rank 0 = .ok (.iload_n 0, 1) := by decide +kernel
theorem dX12_rank_1 : decode cX12_rank 1 = .ok (.invokestatic 153, 3) := by decide +kernel
theorem dX12_rank_4 : decode cX12_rank 4 = .ok (.ifCond .eq 10, 3) := by decide +kernel
theorem dX12_rank_7 : decode cX12_rank 7 = .ok (.iload_n 0, 1) := by decide +kernel
theorem dX12_rank_8 : decode cX12_rank 8 = .ok (.bipush 96, 2) := by decide +kernel
theorem dX12_rank_10 : decode cX12_rank 10 = .ok (.isub, 1) := by decide +kernel
theorem dX12_rank_11 : decode cX12_rank 11 = .ok (.goto 7, 3) := by decide +kernel
theorem dX12_rank_14 : decode cX12_rank 14 = .ok (.iload_n 0, 1) := by decide +kernel
theorem dX12_rank_15 : decode cX12_rank 15 = .ok (.bipush 21, 2) := by decide +kernel
theorem dX12_rank_17 : decode cX12_rank 17 = .ok (.isub, 1) := by decide +kernel
theorem dX12_rank_18 : decode cX12_rank 18 = .ok (.ireturn, 1) := by decide +kernel
theorem dX12_isSignOf_0 : decode cX12_isSignOf 0 = .ok (.iload_n 0, 1) := by decide +kernel
theorem dX12_isSignOf_1 : decode cX12_isSignOf 1 = .ok (.bipush 40, 2) := by decide +kernel
theorem dX12_isSignOf_3 : decode cX12_isSignOf 3 = .ok (.if_icmp .eq 45, 3) := by decide +kernel
theorem dX12_isSignOf_6 : decode cX12_isSignOf 6 = .ok (.iload_n 0, 1) := by decide +kernel
theorem dX12_isSignOf_7 : decode cX12_isSignOf 7 = .ok (.bipush 41, 2) := by decide +kernel
theorem dX12_isSignOf_9 : decode cX12_isSignOf 9 = .ok (.if_icmp .eq 39, 3) := by decide +kernel
theorem dX12_isSignOf_12 : decode cX12_isSignOf 12 = .ok (.iload_n 0, 1) := by decide +kernel
theorem dX12_isSignOf_13 : decode cX12_isSignOf 13 = .ok (.bipush 59, 2) := by decide +kernel
theorem dX12_isSignOf_15 : decode cX12_isSignOf 15 = .ok (.if_icmp .eq 33, 3) := by decide +kernel
theorem dX12_isSignOf_18 : decode cX12_isSignOf 18 = .ok (.iload_n 0, 1) := by decide +kernel
theorem dX12_isSignOf_19 : decode cX12_isSignOf 19 = .ok (.bipush 61, 2) := by decide +kernel
theorem dX12_isSignOf_21 : decode cX12_isSignOf 21 = .ok (.if_icmp .eq 27, 3) := by decide +kernel
theorem dX12_isSignOf_24 : decode cX12_isSignOf 24 = .ok (.iload_n 0, 1) := by decide +kernel
theorem dX12_isSignOf_25 : decode cX12_isSignOf 25 = .ok (.bipush 60, 2) := by decide +kernel
theorem dX12_isSignOf_27 : decode cX12_isSignOf 27 = .ok (.if_icmp .eq 21, 3) := by decide +kernel
theorem dX12_isSignOf_30 : decode cX12_isSignOf 30 = .ok (.iload_n 0, 1) := by decide +kernel
theorem dX12_isSignOf_31 : decode cX12_isSignOf 31 = .ok (.bipush 43, 2) := by decide +kernel
theorem dX12_isSignOf_33 : decode cX12_isSignOf 33 = .ok (.if_icmp .eq 15, 3) := by decide +kernel
theorem dX12_isSignOf_36 : decode cX12_isSignOf 36 = .ok (.iload_n 0, 1) := by decide +kernel
theorem dX12_isSignOf_37 : decode cX12_isSignOf 37 = .ok (.bipush 45, 2) := by decide +kernel
theorem dX12_isSignOf_39 : decode cX12_isSignOf 39 = .ok (.if_icmp .eq 9, 3) := by decide +kernel
theorem dX12_isSignOf_42 : decode cX12_isSignOf 42 = .ok (.iload_n 0, 1) := by decide +kernel
theorem dX12_isSignOf_43 : decode cX12_isSignOf 43 = .ok (.bipush 42, 2) := by decide +kernel
theorem dX12_isSignOf_45 : decode cX12_isSignOf 45 = .ok (.if_icmp .ne 7, 3) := by decide +kernel
theorem dX12_isSignOf_48 : decode cX12_isSignOf 48 = .ok (.iconst 1, 1) := by decide +kernel
theorem dX12_isSignOf_49 : decode cX12_isSignOf 49 = .ok (.goto 4, 3) := by decide +kernel
theorem dX12_isSignOf_52 : decode cX12_isSignOf 52 = .ok (.iconst 0, 1) := by decide +kernel
theorem dX12_isSignOf_53 : decode cX12_isSignOf 53 = .ok (.ireturn, 1) := by decide +kernel
theorem dX12_cutAll_0 : decode cX12_cutAll 0 = .ok (.aload_n 0, 1) := by decide +kernel
theorem dX12_cutAll_1 : decode cX12_cutAll 1 = .ok (.aload_n 0, 1) := by decide +kernel
theorem dX12_cutAll_2 : decode cX12_cutAll 2 = .ok (.getfield 11, 3) := by decide +kernel
theorem dX12_cutAll_5 : decode cX12_cutAll 5 = .ok (.putfield 157, 3) := by decide +kernel
theorem dX12_cutAll_8 : decode cX12_cutAll 8 = .ok (.aload_n 0, 1) := by decide +kernel
theorem dX12_cutAll_9 : decode cX12_cutAll 9 = .ok (.iconst 0, 1) := by decide +kernel
theorem dX12_cutAll_10 : decode cX12_cutAll 10 = .ok (.putfield 11, 3) := by decide +kernel
theorem dX12_cutAll_13 : decode cX12_cutAll 13 = .ok (.iconst 0, 1) := by decide +kernel
theorem dX12_cutAll_14 : decode cX12_cutAll 14 = .ok (.istore_n 1, 1) := by decide +kernel
theorem dX12_cutAll_15 : decode cX12_cutAll 15 = .ok (.iconst 0, 1) := by decide +kernel
theorem dX12_cutAll_16 : decode cX12_cutAll 16 = .ok (.istore_n 2, 1) := by decide +kernel
theorem dX12_cutAll_17 : decode cX12_cutAll 17 = .ok (.iload_n 2, 1) := by decide +kernel
theorem dX12_cutAll_18 : decode cX12_cutAll 18 = .ok (.aload_n 0, 1) := by decide +kernel
theorem dX12_cutAll_19 : decode cX12_cutAll 19 = .ok (.getfield 157, 3) := by decide +kernel
theorem dX12_cutAll_22 : decode cX12_cutAll 22 = .ok (.if_icmp .ge 257, 3) := by decide +kernel
theorem dX12_cutAll_25 : decode cX12_cutAll 25 = .ok (.aload_n 0, 1) := by decide +kernel
theorem dX12_cutAll_26 : decode cX12_cutAll 26 = .ok (.getfield 14, 3) := by decide +kernel
theorem dX12_cutAll_29 : decode cX12_cutAll 29 = .ok (.iload_n 2, 1) := by decide +kernel
theorem dX12_cutAll_30 : decode cX12_cutAll 30 = .ok (.iaload, 1) := by decide +kernel
theorem dX12_cutAll_31 : decode cX12_cutAll 31 = .ok (.istore_n 3, 1) := by decide +kernel
theorem dX12_cutAll_32 : decode cX12_cutAll 32 = .ok (.iload_n 3, 1) := by decide +kernel
theorem dX12_cutAll_33 : decode cX12_cutAll 33 = .ok (.bipush 10, 2) := by decide +kernel
theorem dX12_cutAll_35 : decode cX12_cutAll 35 = .ok (.if_icmp .eq 9, 3) := by decide +kernel
theorem dX12_cutAll_38 : decode cX12_cutAll 38 = .ok (.iload_n 3, 1) := by decide +kernel
theorem dX12_cutAll_39 : decode cX12_cutAll 39 = .ok (.bipush 32, 2) := by decide +kernel
theorem dX12_cutAll_41 : decode cX12_cutAll 41 = .ok (.if_icmp .ne 9, 3) := by decide +kernel
theorem dX12_cutAll_44 : decode cX12_cutAll 44 = .ok (.iinc 2 1, 3) := by decide +kernel
theorem dX12_cutAll_47 : decode cX12_cutAll 47 = .ok (.goto (-30), 3) := by decide +kernel
theorem dX12_cutAll_50 : decode cX12_cutAll 50 = .ok (.iload_n 2, 1) := by decide +kernel
theorem dX12_cutAll_51 : decode cX12_cutAll 51 = .ok (.istore 4, 2) := by decide +kernel
theorem dX12_cutAll_53 : decode cX12_cutAll 53 = .ok (.lconst 0, 1) := by decide +kernel
theorem dX12_cutAll_54 : decode cX12_cutAll 54 = .ok (.lstore 5, 2) := by decide +kernel
theorem dX12_cutAll_56 : decode cX12_cutAll 56 = .ok (.aload_n 0, 1) := by decide +kernel
theorem dX12_cutAll_57 : decode cX12_cutAll 57 = .ok (.getfield 27, 3) := by decide +kernel
theorem dX12_cutAll_60 : decode cX12_cutAll 60 = .ok (.iload_n 1, 1) := by decide +kernel
theorem dX12_cutAll_61 : decode cX12_cutAll 61 = .ok (.iload_n 2, 1) := by decide +kernel
theorem dX12_cutAll_62 : decode cX12_cutAll 62 = .ok (.iastore, 1) := by decide +kernel
theorem dX12_cutAll_63 : decode cX12_cutAll 63 = .ok (.iload_n 3, 1) := by decide +kernel
theorem dX12_cutAll_64 : decode cX12_cutAll 64 = .ok (.invokestatic 153, 3) := by decide +kernel
theorem dX12_cutAll_67 : decode cX12_cutAll 67 = .ok (.ifCond .eq 85, 3) := by decide +kernel
theorem dX12_cutAll_70 : decode cX12_cutAll 70 = .ok (.iload_n 2, 1) := by decide +kernel
theorem dX12_cutAll_71 : decode cX12_cutAll 71 = .ok (.aload_n 0, 1) := by decide +kernel
theorem dX12_cutAll_72 : decode cX12_cutAll 72 = .ok (.getfield 157, 3) := by decide +kernel
theorem dX12_cutAll_75 : decode cX12_cutAll 75 = .ok (.if_icmp .ge 54, 3) := by decide +kernel
theorem dX12_cutAll_78 : decode cX12_cutAll 78 = .ok (.aload_n 0, 1) := by decide +kernel
theorem dX12_cutAll_79 : decode cX12_cutAll 79 = .ok (.getfield 14, 3) := by decide +kernel
theorem dX12_cutAll_82 : decode cX12_cutAll 82 = .ok (.iload_n 2, 1) := by decide +kernel
theorem dX12_cutAll_83 : decode cX12_cutAll 83 = .ok (.iaload, 1) := by decide +kernel
theorem dX12_cutAll_84 : decode cX12_cutAll 84 = .ok (.invokestatic 153, 3) := by decide +kernel
theorem dX12_cutAll_87 : decode cX12_cutAll 87 = .ok (.ifCond .eq 42, 3) := by decide +kernel
theorem dX12_cutAll_90 : decode cX12_cutAll 90 = .ok (.iload_n 2, 1) := by decide +kernel
theorem dX12_cutAll_91 : decode cX12_cutAll 91 = .ok (.iload 4, 2) := by decide +kernel
theorem dX12_cutAll_93 : decode cX12_cutAll 93 = .ok (.isub, 1) := by decide +kernel
theorem dX12_cutAll_94 : decode cX12_cutAll 94 = .ok (.bipush 8, 2) := by decide +kernel
theorem dX12_cutAll_96 : decode cX12_cutAll 96 = .ok (.if_icmp .ge 23, 3) := by decide +kernel
theorem dX12_cutAll_99 : decode cX12_cutAll 99 = .ok (.ldc2_w 160, 3) := by decide +kernel
theorem dX12_cutAll_102 : decode cX12_cutAll 102 = .ok (.lload 5, 2) := by decide +kernel
theorem dX12_cutAll_104 : decode cX12_cutAll 104 = .ok (.lmul, 1) := by decide +kernel
theorem dX12_cutAll_105 : decode cX12_cutAll 105 = .ok (.aload_n 0, 1) := by decide +kernel
theorem dX12_cutAll_106 : decode cX12_cutAll 106 = .ok (.getfield 14, 3) := by decide +kernel
theorem dX12_cutAll_109 : decode cX12_cutAll 109 = .ok (.iload_n 2, 1) := by decide +kernel
theorem dX12_cutAll_110 : decode cX12_cutAll 110 = .ok (.iaload, 1) := by decide +kernel
theorem dX12_cutAll_111 : decode cX12_cutAll 111 = .ok (.invokestatic 162, 3) := by decide +kernel
theorem dX12_cutAll_114 : decode cX12_cutAll 114 = .ok (.i2l, 1) := by decide +kernel
theorem dX12_cutAll_115 : decode cX12_cutAll 115 = .ok (.ladd, 1) := by decide +kernel
theorem dX12_cutAll_116 : decode cX12_cutAll 116 = .ok (.goto 5, 3) := by decide +kernel
theorem dX12_cutAll_119 : decode cX12_cutAll 119 = .ok (.lload 5, 2) := by decide +kernel
theorem dX12_cutAll_121 : decode cX12_cutAll 121 = .ok (.lstore 5, 2) := by decide +kernel
theorem dX12_cutAll_123 : decode cX12_cutAll 123 = .ok (.iinc 2 1, 3) := by decide +kernel
theorem dX12_cutAll_126 : decode cX12_cutAll 126 = .ok (.goto (-56), 3) := by decide +kernel
theorem dX12_cutAll_129 : decode cX12_cutAll 129 = .ok (.aload_n 0, 1) := by decide +kernel
theorem dX12_cutAll_130 : decode cX12_cutAll 130 = .ok (.getfield 24, 3) := by decide +kernel
theorem dX12_cutAll_133 : decode cX12_cutAll 133 = .ok (.iload_n 1, 1) := by decide +kernel
theorem dX12_cutAll_134 : decode cX12_cutAll 134 = .ok (.iload_n 2, 1) := by decide +kernel
theorem dX12_cutAll_135 : decode cX12_cutAll 135 = .ok (.iload 4, 2) := by decide +kernel
theorem dX12_cutAll_137 : decode cX12_cutAll 137 = .ok (.isub, 1) := by decide +kernel
theorem dX12_cutAll_138 : decode cX12_cutAll 138 = .ok (.bipush 8, 2) := by decide +kernel
theorem dX12_cutAll_140 : decode cX12_cutAll 140 = .ok (.if_icmp .le 7, 3) := by decide +kernel
theorem dX12_cutAll_143 : decode cX12_cutAll 143 = .ok (.iconst 4, 1) := by decide +kernel
theorem dX12_cutAll_144 : decode cX12_cutAll 144 = .ok (.goto 4, 3) := by decide +kernel
theorem dX12_cutAll_147 : decode cX12_cutAll 147 = .ok (.iconst 1, 1) := by decide +kernel
theorem dX12_cutAll_148 : decode cX12_cutAll 148 = .ok (.iastore, 1) := by decide +kernel
theorem dX12_cutAll_149 : decode cX12_cutAll 149 = .ok (.goto 116, 3) := by decide +kernel
theorem dX12_cutAll_152 : decode cX12_cutAll 152 = .ok (.iload_n 3, 1) := by decide +kernel
theorem dX12_cutAll_153 : decode cX12_cutAll 153 = .ok (.invokestatic 166, 3) := by decide +kernel
theorem dX12_cutAll_156 : decode cX12_cutAll 156 = .ok (.ifCond .eq 84, 3) := by decide +kernel
theorem dX12_cutAll_159 : decode cX12_cutAll 159 = .ok (.iload_n 2, 1) := by decide +kernel
theorem dX12_cutAll_160 : decode cX12_cutAll 160 = .ok (.aload_n 0, 1) := by decide +kernel
theorem dX12_cutAll_161 : decode cX12_cutAll 161 = .ok (.getfield 157, 3) := by decide +kernel
theorem dX12_cutAll_164 : decode cX12_cutAll 164 = .ok (.if_icmp .ge 54, 3) := by decide +kernel
theorem dX12_cutAll_167 : decode cX12_cutAll 167 = .ok (.aload_n 0, 1) := by decide +kernel
theorem dX12_cutAll_168 : decode cX12_cutAll 168 = .ok (.getfield 14, 3) := by decide +kernel
theorem dX12_cutAll_171 : decode cX12_cutAll 171 = .ok (.iload_n 2, 1) := by decide +kernel
theorem dX12_cutAll_172 : decode cX12_cutAll 172 = .ok (.iaload, 1) := by decide +kernel
theorem dX12_cutAll_173 : decode cX12_cutAll 173 = .ok (.invokestatic 166, 3) := by decide +kernel
theorem dX12_cutAll_176 : decode cX12_cutAll 176 = .ok (.ifCond .eq 42, 3) := by decide +kernel
theorem dX12_cutAll_179 : decode cX12_cutAll 179 = .ok (.iload_n 2, 1) := by decide +kernel
theorem dX12_cutAll_180 : decode cX12_cutAll 180 = .ok (.iload 4, 2) := by decide +kernel
theorem dX12_cutAll_182 : decode cX12_cutAll 182 = .ok (.isub, 1) := by decide +kernel
theorem dX12_cutAll_183 : decode cX12_cutAll 183 = .ok (.iconst 4, 1) := by decide +kernel
theorem dX12_cutAll_184 : decode cX12_cutAll 184 = .ok (.if_icmp .ge 24, 3) := by decide +kernel
theorem dX12_cutAll_187 : decode cX12_cutAll 187 = .ok (.ldc2_w 169, 3) := by decide +kernel
theorem dX12_cutAll_190 : decode cX12_cutAll 190 = .ok (.lload 5, 2) := by decide +kernel
theorem dX12_cutAll_192 : decode cX12_cutAll 192 = .ok (.lmul, 1) := by decide +kernel
theorem dX12_cutAll_193 : decode cX12_cutAll 193 = .ok (.aload_n 0, 1) := by decide +kernel
theorem dX12_cutAll_194 : decode cX12_cutAll 194 = .ok (.getfield 14, 3) := by decide +kernel
theorem dX12_cutAll_197 : decode cX12_cutAll 197 = .ok (.iload_n 2, 1) := by decide +kernel
theorem dX12_cutAll_198 : decode cX12_cutAll 198 = .ok (.iaload, 1) := by decide +kernel
theorem dX12_cutAll_199 : decode cX12_cutAll 199 = .ok (.i2l, 1) := by decide +kernel
theorem dX12_cutAll_200 : decode cX12_cutAll 200 = .ok (.ladd, 1) := by decide +kernel
theorem dX12_cutAll_201 : decode cX12_cutAll 201 = .ok (.ldc2_w 171, 3) := by decide +kernel
theorem dX12_cutAll_204 : decode cX12_cutAll 204 = .ok (.lsub, 1) := by decide +kernel
theorem dX12_cutAll_205 : decode cX12_cutAll 205 = .ok (.goto 5, 3) := by decide +kernel
theorem dX12_cutAll_208 : decode cX12_cutAll 208 = .ok (.lload 5, 2) := by decide +kernel
theorem dX12_cutAll_210 : decode cX12_cutAll 210 = .ok (.lstore 5, 2) := by decide +kernel
theorem dX12_cutAll_212 : decode cX12_cutAll 212 = .ok (.iinc 2 1, 3) := by decide +kernel
theorem dX12_cutAll_215 : decode cX12_cutAll 215 = .ok (.goto (-56), 3) := by decide +kernel
theorem dX12_cutAll_218 : decode cX12_cutAll 218 = .ok (.aload_n 0, 1) := by decide +kernel
theorem dX12_cutAll_219 : decode cX12_cutAll 219 = .ok (.getfield 24, 3) := by decide +kernel
theorem dX12_cutAll_222 : decode cX12_cutAll 222 = .ok (.iload_n 1, 1) := by decide +kernel
theorem dX12_cutAll_223 : decode cX12_cutAll 223 = .ok (.iload_n 2, 1) := by decide +kernel
theorem dX12_cutAll_224 : decode cX12_cutAll 224 = .ok (.iload 4, 2) := by decide +kernel
theorem dX12_cutAll_226 : decode cX12_cutAll 226 = .ok (.isub, 1) := by decide +kernel
theorem dX12_cutAll_227 : decode cX12_cutAll 227 = .ok (.iconst 4, 1) := by decide +kernel
theorem dX12_cutAll_228 : decode cX12_cutAll 228 = .ok (.if_icmp .le 7, 3) := by decide +kernel
theorem dX12_cutAll_231 : decode cX12_cutAll 231 = .ok (.iconst 4, 1) := by decide +kernel
theorem dX12_cutAll_232 : decode cX12_cutAll 232 = .ok (.goto 4, 3) := by decide +kernel
theorem dX12_cutAll_235 : decode cX12_cutAll 235 = .ok (.iconst 2, 1) := by decide +kernel
theorem dX12_cutAll_236 : decode cX12_cutAll 236 = .ok (.iastore, 1) := by decide +kernel
theorem dX12_cutAll_237 : decode cX12_cutAll 237 = .ok (.goto 28, 3) := by decide +kernel
theorem dX12_cutAll_240 : decode cX12_cutAll 240 = .ok (.iload_n 3, 1) := by decide +kernel
theorem dX12_cutAll_241 : decode cX12_cutAll 241 = .ok (.i2l, 1) := by decide +kernel
theorem dX12_cutAll_242 : decode cX12_cutAll 242 = .ok (.lstore 5, 2) := by decide +kernel
theorem dX12_cutAll_244 : decode cX12_cutAll 244 = .ok (.aload_n 0, 1) := by decide +kernel
theorem dX12_cutAll_245 : decode cX12_cutAll 245 = .ok (.getfield 24, 3) := by decide +kernel
theorem dX12_cutAll_248 : decode cX12_cutAll 248 = .ok (.iload_n 1, 1) := by decide +kernel
