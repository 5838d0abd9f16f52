theorem dX0_init_0 : decode cX0_init 0 = .ok (.aload_n 0, 1) := by decide +kernel
theorem dX0_init_1 : decode cX0_init 1 = .ok (.invokespecial 3, 3) := by decide +kernel
theorem dX0_init_4 : decode cX0_init 4 = .ok (.aload_n 0, 1) := by decide +kernel
theorem dX0_init_5 : decode cX0_init 5 = .ok (.sipush 144, 3) := by decide +kernel
theorem dX0_init_8 : decode cX0_init 8 = .ok (.newarray .int, 2) := by decide +kernel
theorem dX0_init_10 : decode cX0_init 10 = .ok (.putfield 9, 3) := by decide +kernel
theorem dX0_init_13 : decode cX0_init 13 = .ok (.aload_n 0, 1) := by decide +kernel
theorem dX0_init_14 : decode cX0_init 14 = .ok (.bipush 36, 2) := by decide +kernel
theorem dX0_init_16 : decode cX0_init 16 = .ok (.newarray .int, 2) := by decide +kernel
theorem dX0_init_18 : decode cX0_init 18 = .ok (.putfield 15, 3) := by decide +kernel
theorem dX0_init_21 : decode cX0_init 21 = .ok (.aload_n 0, 1) := by decide +kernel
theorem dX0_init_22 : decode cX0_init 22 = .ok (.bipush 6, 2) := by decide +kernel
theorem dX0_init_24 : decode cX0_init 24 = .ok (.newarray .int, 2) := by decide +kernel
theorem dX0_init_26 : decode cX0_init 26 = .ok (.putfield 18, 3) := by decide +kernel
theorem dX0_init_29 : decode cX0_init 29 = .ok (.aload_n 0, 1) := by decide +kernel
theorem dX0_init_30 : decode cX0_init 30 = .ok (.bipush 6, 2) := by decide +kernel
theorem dX0_init_32 : decode cX0_init 32 = .ok (.newarray .int, 2) := by decide +kernel
theorem dX0_init_34 : decode cX0_init 34 = .ok (.putfield 21, 3) := by decide +kernel
theorem dX0_init_37 : decode cX0_init 37 = .ok (.aload_n 0, 1) := by decide +kernel
theorem dX0_init_38 : decode cX0_init 38 = .ok (.sipush 1536, 3) := by decide +kernel
theorem dX0_init_41 : decode cX0_init 41 = .ok (.newarray .int, 2) := by decide +kernel
theorem dX0_init_43 : decode cX0_init 43 = .ok (.putfield 24, 3) := by decide +kernel
theorem dX0_init_46 : decode cX0_init 46 = .ok (.aload_n 0, 1) := by decide +kernel
theorem dX0_init_47 : decode cX0_init 47 = .ok (.sipush 512, 3) := by decide +kernel
theorem dX0_init_50 : decode cX0_init 50 = .ok (.newarray .int, 2) := by decide +kernel
theorem dX0_init_52 : decode cX0_init 52 = .ok (.putfield 27, 3) := by decide +kernel
theorem dX0_init_55 : decode cX0_init 55 = .ok (.aload_n 0, 1) := by decide +kernel
theorem dX0_init_56 : decode cX0_init 56 = .ok (.sipush 512, 3) := by decide +kernel
theorem dX0_init_59 : decode cX0_init 59 = .ok (.newarray .int, 2) := by decide +kernel
theorem dX0_init_61 : decode cX0_init 61 = .ok (.putfield 30, 3) := by decide +kernel
theorem dX0_init_64 : decode cX0_init 64 = .ok (.aload_n 0, 1) := by decide +kernel
theorem dX0_init_65 : decode cX0_init 65 = .ok (.aload_n 1, 1) := by decide +kernel
theorem dX0_init_66 : decode cX0_init 66 = .ok (.putfield 33, 3) := by decide +kernel
theorem dX0_init_69 : decode cX0_init 69 = .ok (.aload_n 0, 1) := by decide +kernel
theorem dX0_init_70 : decode cX0_init 70 = .ok (.aload_n 2, 1) := by decide +kernel
theorem dX0_init_71 : decode cX0_init 71 = .ok (.putfield 37, 3) := by decide +kernel
theorem dX0_init_74 : decode cX0_init 74 = .ok (.return_, 1) := by decide +kernel
theorem dX0_forget_0 : decode cX0_forget 0 = .ok (.aload_n 0, 1) := by decide +kernel
theorem dX0_forget_1 : decode cX0_forget 1 = .ok (.getfield 24, 3) := by decide +kernel
theorem dX0_forget_4 : decode cX0_forget 4 = .ok (.iconst (-1), 1) := by decide +kernel
theorem dX0_forget_5 : decode cX0_forget 5 = .ok (.invokestatic 41, 3) := by decide +kernel
theorem dX0_forget_8 : decode cX0_forget 8 = .ok (.aload_n 0, 1) := by decide +kernel
theorem dX0_forget_9 : decode cX0_forget 9 = .ok (.getfield 27, 3) := by decide +kernel
theorem dX0_forget_12 : decode cX0_forget 12 = .ok (.iconst (-1), 1) := by decide +kernel
theorem dX0_forget_13 : decode cX0_forget 13 = .ok (.invokestatic 41, 3) := by decide +kernel
theorem dX0_forget_16 : decode cX0_forget 16 = .ok (.return_, 1) := by decide +kernel
theorem dX0_allAsTold_0 : decode cX0_allAsTold 0 = .ok (.aload_n 0, 1) := by decide +kernel
theorem dX0_allAsTold_1 : decode cX0_allAsTold 1 = .ok (.getfield 33, 3) := by decide +kernel
theorem dX0_allAsTold_4 : decode cX0_allAsTold 4 = .ok (.getfield 47, 3) := by decide +kernel
theorem dX0_allAsTold_7 : decode cX0_allAsTold 7 = .ok (.iconst 0, 1) := by decide +kernel
theorem dX0_allAsTold_8 : decode cX0_allAsTold 8 = .ok (.aload_n 0, 1) := by decide +kernel
theorem dX0_allAsTold_9 : decode cX0_allAsTold 9 = .ok (.getfield 9, 3) := by decide +kernel
theorem dX0_allAsTold_12 : decode cX0_allAsTold 12 = .ok (.iconst 0, 1) := by decide +kernel
theorem dX0_allAsTold_13 : decode cX0_allAsTold 13 = .ok (.sipush 144, 3) := by decide +kernel
theorem dX0_allAsTold_16 : decode cX0_allAsTold 16 = .ok (.invokestatic 52, 3) := by decide +kernel
theorem dX0_allAsTold_19 : decode cX0_allAsTold 19 = .ok (.return_, 1) := by decide +kernel
theorem dX0_put_0 : decode cX0_put 0 = .ok (.iconst 0, 1) := by decide +kernel
theorem dX0_put_1 : decode cX0_put 1 = .ok (.istore 5, 2) := by decide +kernel
theorem dX0_put_3 : decode cX0_put 3 = .ok (.iload 5, 2) := by decide +kernel
theorem dX0_put_5 : decode cX0_put 5 = .ok (.aload_n 0, 1) := by decide +kernel
theorem dX0_put_6 : decode cX0_put 6 = .ok (.getfield 33, 3) := by decide +kernel
theorem dX0_put_9 : decode cX0_put 9 = .ok (.getfield 58, 3) := by decide +kernel
theorem dX0_put_12 : decode cX0_put 12 = .ok (.if_icmp .ge 48, 3) := by decide +kernel
theorem dX0_put_15 : decode cX0_put 15 = .ok (.iload_n 2, 1) := by decide +kernel
theorem dX0_put_16 : decode cX0_put 16 = .ok (.istore 6, 2) := by decide +kernel
theorem dX0_put_18 : decode cX0_put 18 = .ok (.iload 6, 2) := by decide +kernel
theorem dX0_put_20 : decode cX0_put 20 = .ok (.iload_n 3, 1) := by decide +kernel
theorem dX0_put_21 : decode cX0_put 21 = .ok (.if_icmp .gt 33, 3) := by decide +kernel
theorem dX0_put_24 : decode cX0_put 24 = .ok (.iload_n 1, 1) := by decide +kernel
theorem dX0_put_25 : decode cX0_put 25 = .ok (.iload 5, 2) := by decide +kernel
theorem dX0_put_27 : decode cX0_put 27 = .ok (.ishr, 1) := by decide +kernel
theorem dX0_put_28 : decode cX0_put 28 = .ok (.iconst 1, 1) := by decide +kernel
theorem dX0_put_29 : decode cX0_put 29 = .ok (.iand, 1) := by decide +kernel
theorem dX0_put_30 : decode cX0_put 30 = .ok (.ifCond .eq 24, 3) := by decide +kernel
theorem dX0_put_33 : decode cX0_put 33 = .ok (.aload_n 0, 1) := by decide +kernel
theorem dX0_put_34 : decode cX0_put 34 = .ok (.getfield 9, 3) := by decide +kernel
theorem dX0_put_37 : decode cX0_put 37 = .ok (.iload 5, 2) := by decide +kernel
theorem dX0_put_39 : decode cX0_put 39 = .ok (.bipush 24, 2) := by decide +kernel
theorem dX0_put_41 : decode cX0_put 41 = .ok (.imul, 1) := by decide +kernel
theorem dX0_put_42 : decode cX0_put 42 = .ok (.iload 6, 2) := by decide +kernel
theorem dX0_put_44 : decode cX0_put 44 = .ok (.iadd, 1) := by decide +kernel
theorem dX0_put_45 : decode cX0_put 45 = .ok (.iload 4, 2) := by decide +kernel
theorem dX0_put_47 : decode cX0_put 47 = .ok (.iastore, 1) := by decide +kernel
theorem dX0_put_48 : decode cX0_put 48 = .ok (.iinc 6 1, 3) := by decide +kernel
theorem dX0_put_51 : decode cX0_put 51 = .ok (.goto (-33), 3) := by decide +kernel
theorem dX0_put_54 : decode cX0_put 54 = .ok (.iinc 5 1, 3) := by decide +kernel
theorem dX0_put_57 : decode cX0_put 57 = .ok (.goto (-54), 3) := by decide +kernel
theorem dX0_put_60 : decode cX0_put 60 = .ok (.return_, 1) := by decide +kernel
theorem dX0_heard_0 : decode cX0_heard 0 = .ok (.iload_n 3, 1) := by decide +kernel
theorem dX0_heard_1 : decode cX0_heard 1 = .ok (.iload_n 1, 1) := by decide +kernel
theorem dX0_heard_2 : decode cX0_heard 2 = .ok (.ishr, 1) := by decide +kernel
theorem dX0_heard_3 : decode cX0_heard 3 = .ok (.iconst 1, 1) := by decide +kernel
theorem dX0_heard_4 : decode cX0_heard 4 = .ok (.iand, 1) := by decide +kernel
theorem dX0_heard_5 : decode cX0_heard 5 = .ok (.ifCond .eq 7, 3) := by decide +kernel
theorem dX0_heard_8 : decode cX0_heard 8 = .ok (.iconst 0, 1) := by decide +kernel
theorem dX0_heard_9 : decode cX0_heard 9 = .ok (.goto 17, 3) := by decide +kernel
theorem dX0_heard_12 : decode cX0_heard 12 = .ok (.aload_n 0, 1) := by decide +kernel
theorem dX0_heard_13 : decode cX0_heard 13 = .ok (.getfield 37, 3) := by decide +kernel
theorem dX0_heard_16 : decode cX0_heard 16 = .ok (.getfield 62, 3) := by decide +kernel
theorem dX0_heard_19 : decode cX0_heard 19 = .ok (.iload_n 1, 1) := by decide +kernel
theorem dX0_heard_20 : decode cX0_heard 20 = .ok (.bipush 24, 2) := by decide +kernel
theorem dX0_heard_22 : decode cX0_heard 22 = .ok (.imul, 1) := by decide +kernel
theorem dX0_heard_23 : decode cX0_heard 23 = .ok (.iload_n 2, 1) := by decide +kernel
theorem dX0_heard_24 : decode cX0_heard 24 = .ok (.iadd, 1) := by decide +kernel
theorem dX0_heard_25 : decode cX0_heard 25 = .ok (.iaload, 1) := by decide +kernel
theorem dX0_heard_26 : decode cX0_heard 26 = .ok (.ireturn, 1) := by decide +kernel
theorem dX0_lookRound_0 : decode cX0_lookRound 0 = .ok (.iconst 0, 1) := by decide +kernel
theorem dX0_lookRound_1 : decode cX0_lookRound 1 = .ok (.istore_n 2, 1) := by decide +kernel
theorem dX0_lookRound_2 : decode cX0_lookRound 2 = .ok (.iload_n 2, 1) := by decide +kernel
theorem dX0_lookRound_3 : decode cX0_lookRound 3 = .ok (.aload_n 0, 1) := by decide +kernel
theorem dX0_lookRound_4 : decode cX0_lookRound 4 = .ok (.getfield 33, 3) := by decide +kernel
theorem dX0_lookRound_7 : decode cX0_lookRound 7 = .ok (.getfield 58, 3) := by decide +kernel
theorem dX0_lookRound_10 : decode cX0_lookRound 10 = .ok (.if_icmp .ge 94, 3) := by decide +kernel
theorem dX0_lookRound_13 : decode cX0_lookRound 13 = .ok (.aload_n 0, 1) := by decide +kernel
theorem dX0_lookRound_14 : decode cX0_lookRound 14 = .ok (.getfield 9, 3) := by decide +kernel
theorem dX0_lookRound_17 : decode cX0_lookRound 17 = .ok (.iload_n 2, 1) := by decide +kernel
theorem dX0_lookRound_18 : decode cX0_lookRound 18 = .ok (.bipush 24, 2) := by decide +kernel
theorem dX0_lookRound_20 : decode cX0_lookRound 20 = .ok (.imul, 1) := by decide +kernel
theorem dX0_lookRound_21 : decode cX0_lookRound 21 = .ok (.iload_n 1, 1) := by decide +kernel
theorem dX0_lookRound_22 : decode cX0_lookRound 22 = .ok (.iadd, 1) := by decide +kernel
theorem dX0_lookRound_23 : decode cX0_lookRound 23 = .ok (.iaload, 1) := by decide +kernel
theorem dX0_lookRound_24 : decode cX0_lookRound 24 = .ok (.istore_n 3, 1) := by decide +kernel
theorem dX0_lookRound_25 : decode cX0_lookRound 25 = .ok (.iload_n 1, 1) := by decide +kernel
theorem dX0_lookRound_26 : decode cX0_lookRound 26 = .ok (.bipush 64, 2) := by decide +kernel
theorem dX0_lookRound_28 : decode cX0_lookRound 28 = .ok (.imul, 1) := by decide +kernel
theorem dX0_lookRound_29 : decode cX0_lookRound 29 = .ok (.iload_n 3, 1) := by decide +kernel
theorem dX0_lookRound_30 : decode cX0_lookRound 30 = .ok (.iadd, 1) := by decide +kernel
theorem dX0_lookRound_31 : decode cX0_lookRound 31 = .ok (.istore 4, 2) := by decide +kernel
theorem dX0_lookRound_33 : decode cX0_lookRound 33 = .ok (.aload_n 0, 1) := by decide +kernel
theorem dX0_lookRound_34 : decode cX0_lookRound 34 = .ok (.getfield 24, 3) := by decide +kernel
theorem dX0_lookRound_37 : decode cX0_lookRound 37 = .ok (.iload 4, 2) := by decide +kernel
theorem dX0_lookRound_39 : decode cX0_lookRound 39 = .ok (.iaload, 1) := by decide +kernel
theorem dX0_lookRound_40 : decode cX0_lookRound 40 = .ok (.iconst (-1), 1) := by decide +kernel
theorem dX0_lookRound_41 : decode cX0_lookRound 41 = .ok (.if_icmp .ne 35, 3) := by decide +kernel
theorem dX0_lookRound_44 : decode cX0_lookRound 44 = .ok (.aload_n 0, 1) := by decide +kernel
theorem dX0_lookRound_45 : decode cX0_lookRound 45 = .ok (.getfield 24, 3) := by decide +kernel
theorem dX0_lookRound_48 : decode cX0_lookRound 48 = .ok (.iload 4, 2) := by decide +kernel
theorem dX0_lookRound_50 : decode cX0_lookRound 50 = .ok (.aload_n 0, 1) := by decide +kernel
theorem dX0_lookRound_51 : decode cX0_lookRound 51 = .ok (.getfield 33, 3) := by decide +kernel
theorem dX0_lookRound_54 : decode cX0_lookRound 54 = .ok (.getfield 67, 3) := by decide +kernel
theorem dX0_lookRound_57 : decode cX0_lookRound 57 = .ok (.iload_n 1, 1) := by decide +kernel
theorem dX0_lookRound_58 : decode cX0_lookRound 58 = .ok (.iload_n 3, 1) := by decide +kernel
theorem dX0_lookRound_59 : decode cX0_lookRound 59 = .ok (.bipush 8, 2) := by decide +kernel
theorem dX0_lookRound_61 : decode cX0_lookRound 61 = .ok (.irem, 1) := by decide +kernel
theorem dX0_lookRound_62 : decode cX0_lookRound 62 = .ok (.iload_n 3, 1) := by decide +kernel
theorem dX0_lookRound_63 : decode cX0_lookRound 63 = .ok (.bipush 8, 2) := by decide +kernel
theorem dX0_lookRound_65 : decode cX0_lookRound 65 = .ok (.idiv, 1) := by decide +kernel
theorem dX0_lookRound_66 : decode cX0_lookRound 66 = .ok (.iconst 0, 1) := by decide +kernel
theorem dX0_lookRound_67 : decode cX0_lookRound 67 = .ok (.invokevirtual 71, 3) := by decide +kernel
theorem dX0_lookRound_70 : decode cX0_lookRound 70 = .ok (.bipush 14, 2) := by decide +kernel
theorem dX0_lookRound_72 : decode cX0_lookRound 72 = .ok (.invokestatic 77, 3) := by decide +kernel
theorem dX0_lookRound_75 : decode cX0_lookRound 75 = .ok (.iastore, 1) := by decide +kernel
theorem dX0_lookRound_76 : decode cX0_lookRound 76 = .ok (.aload_n 0, 1) := by decide +kernel
theorem dX0_lookRound_77 : decode cX0_lookRound 77 = .ok (.getfield 18, 3) := by decide +kernel
theorem dX0_lookRound_80 : decode cX0_lookRound 80 = .ok (.iload_n 2, 1) := by decide +kernel
theorem dX0_lookRound_81 : decode cX0_lookRound 81 = .ok (.iconst (-1), 1) := by decide +kernel
theorem dX0_lookRound_82 : decode cX0_lookRound 82 = .ok (.iastore, 1) := by decide +kernel
theorem dX0_lookRound_83 : decode cX0_lookRound 83 = .ok (.aload_n 0, 1) := by decide +kernel
theorem dX0_lookRound_84 : decode cX0_lookRound 84 = .ok (.getfield 21, 3) := by decide +kernel
theorem dX0_lookRound_87 : decode cX0_lookRound 87 = .ok (.iload_n 2, 1) := by decide +kernel
theorem dX0_lookRound_88 : decode cX0_lookRound 88 = .ok (.aload_n 0, 1) := by decide +kernel
theorem dX0_lookRound_89 : decode cX0_lookRound 89 = .ok (.getfield 24, 3) := by decide +kernel
theorem dX0_lookRound_92 : decode cX0_lookRound 92 = .ok (.iload 4, 2) := by decide +kernel
theorem dX0_lookRound_94 : decode cX0_lookRound 94 = .ok (.iaload, 1) := by decide +kernel
theorem dX0_lookRound_95 : decode cX0_lookRound 95 = .ok (.iconst 1, 1) := by decide +kernel
theorem dX0_lookRound_96 : decode cX0_lookRound 96 = .ok (.iadd, 1) := by decide +kernel
theorem dX0_lookRound_97 : decode cX0_lookRound 97 = .ok (.iastore, 1) := by decide +kernel
theorem dX0_lookRound_98 : decode cX0_lookRound 98 = .ok (.iinc 2 1, 3) := by decide +kernel
theorem dX0_lookRound_101 : decode cX0_lookRound 101 = .ok (.goto (-99), 3) := by decide +kernel
theorem dX0_lookRound_104 : decode cX0_lookRound 104 = .ok (.iconst 0, 1) := by decide +kernel
theorem dX0_lookRound_105 : decode cX0_lookRound 105 = .ok (.istore_n 2, 1) := by decide +kernel
theorem dX0_lookRound_106 : decode cX0_lookRound 106 = .ok (.iload_n 2, 1) := by decide +kernel
theorem dX0_lookRound_107 : decode cX0_lookRound 107 = .ok (.aload_n 0, 1) := by decide +kernel
theorem dX0_lookRound_108 : decode cX0_lookRound 108 = .ok (.getfield 33, 3) := by decide +kernel
theorem dX0_lookRound_111 : decode cX0_lookRound 111 = .ok (.getfield 58, 3) := by decide +kernel
theorem dX0_lookRound_114 : decode cX0_lookRound 114 = .ok (.if_icmp .ge 73, 3) := by decide +kernel
theorem dX0_lookRound_117 : decode cX0_lookRound 117 = .ok (.iload_n 2, 1) := by decide +kernel
theorem dX0_lookRound_118 : decode cX0_lookRound 118 = .ok (.iconst 1, 1) := by decide +kernel
theorem dX0_lookRound_119 : decode cX0_lookRound 119 = .ok (.iadd, 1) := by decide +kernel
theorem dX0_lookRound_120 : decode cX0_lookRound 120 = .ok (.istore_n 3, 1) := by decide +kernel
theorem dX0_lookRound_121 : decode cX0_lookRound 121 = .ok (.iload_n 3, 1) := by decide +kernel
theorem dX0_lookRound_122 : decode cX0_lookRound 122 = .ok (.aload_n 0, 1) := by decide +kernel
theorem dX0_lookRound_123 : decode cX0_lookRound 123 = .ok (.getfield 33, 3) := by decide +kernel
theorem dX0_lookRound_126 : decode cX0_lookRound 126 = .ok (.getfield 58, 3) := by decide +kernel
theorem dX0_lookRound_129 : decode cX0_lookRound 129 = .ok (.if_icmp .ge 52, 3) := by decide +kernel
theorem dX0_lookRound_132 : decode cX0_lookRound 132 = .ok (.aload_n 0, 1) := by decide +kernel
theorem dX0_lookRound_133 : decode cX0_lookRound 133 = .ok (.getfield 9, 3) := by decide +kernel
theorem dX0_lookRound_136 : decode cX0_lookRound 136 = .ok (.iload_n 2, 1) := by decide +kernel
theorem dX0_lookRound_137 : decode cX0_lookRound 137 = .ok (.bipush 24, 2) := by decide +kernel
theorem dX0_lookRound_139 : decode cX0_lookRound 139 = .ok (.imul, 1) := by decide +kernel
theorem dX0_lookRound_140 : decode cX0_lookRound 140 = .ok (.iload_n 1, 1) := by decide +kernel
theorem dX0_lookRound_141 : decode cX0_lookRound 141 = .ok (.iadd, 1) := by decide +kernel
theorem dX0_lookRound_142 : decode cX0_lookRound 142 = .ok (.iaload, 1) := by decide +kernel
theorem dX0_lookRound_143 : decode cX0_lookRound 143 = .ok (.aload_n 0, 1) := by decide +kernel
theorem dX0_lookRound_144 : decode cX0_lookRound 144 = .ok (.getfield 9, 3) := by decide +kernel
theorem dX0_lookRound_147 : decode cX0_lookRound 147 = .ok (.iload_n 3, 1) := by decide +kernel
theorem dX0_lookRound_148 : decode cX0_lookRound 148 = .ok (.bipush 24, 2) := by decide +kernel
theorem dX0_lookRound_150 : decode cX0_lookRound 150 = .ok (.imul, 1) := by decide +kernel
theorem dX0_lookRound_151 : decode cX0_lookRound 151 = .ok (.iload_n 1, 1) := by decide +kernel
theorem dX0_lookRound_152 : decode cX0_lookRound 152 = .ok (.iadd, 1) := by decide +kernel
theorem dX0_lookRound_153 : decode cX0_lookRound 153 = .ok (.iaload, 1) := by decide +kernel
theorem dX0_lookRound_154 : decode cX0_lookRound 154 = .ok (.invokestatic 81, 3) := by decide +kernel
theorem dX0_lookRound_157 : decode cX0_lookRound 157 = .ok (.istore 4, 2) := by decide +kernel
theorem dX0_lookRound_159 : decode cX0_lookRound 159 = .ok (.aload_n 0, 1) := by decide +kernel
theorem dX0_lookRound_160 : decode cX0_lookRound 160 = .ok (.iload_n 2, 1) := by decide +kernel
theorem dX0_lookRound_161 : decode cX0_lookRound 161 = .ok (.iload_n 3, 1) := by decide +kernel
theorem dX0_lookRound_162 : decode cX0_lookRound 162 = .ok (.iload 4, 2) := by decide +kernel
theorem dX0_lookRound_164 : decode cX0_lookRound 164 = .ok (.invokevirtual 84, 3) := by decide +kernel
theorem dX0_lookRound_167 : decode cX0_lookRound 167 = .ok (.aload_n 0, 1) := by decide +kernel
theorem dX0_lookRound_168 : decode cX0_lookRound 168 = .ok (.iload_n 3, 1) := by decide +kernel
theorem dX0_lookRound_169 : decode cX0_lookRound 169 = .ok (.iload_n 2, 1) := by decide +kernel
theorem dX0_lookRound_170 : decode cX0_lookRound 170 = .ok (.iload 4, 2) := by decide +kernel
theorem dX0_lookRound_172 : decode cX0_lookRound 172 = .ok (.invokevirtual 84, 3) := by decide +kernel
theorem dX0_lookRound_175 : decode cX0_lookRound 175 = .ok (.iinc 3 1, 3) := by decide +kernel
theorem dX0_lookRound_178 : decode cX0_lookRound 178 = .ok (.goto (-57), 3) := by decide +kernel
theorem dX0_lookRound_181 : decode cX0_lookRound 181 = .ok (.iinc 2 1, 3) := by decide +kernel
theorem dX0_lookRound_184 : decode cX0_lookRound 184 = .ok (.goto (-78), 3) := by decide +kernel
theorem dX0_lookRound_187 : decode cX0_lookRound 187 = .ok (.return_, 1) := by decide +kernel
theorem dX0_meet_0 : decode cX0_meet 0 = .ok (.iload_n 3, 1) := by decide +kernel
theorem dX0_meet_1 : decode cX0_meet 1 = .ok (.aload_n 0, 1) := by decide +kernel
theorem dX0_meet_2 : decode cX0_meet 2 = .ok (.getfield 21, 3) := by decide +kernel
theorem dX0_meet_5 : decode cX0_meet 5 = .ok (.iload_n 1, 1) := by decide +kernel
theorem dX0_meet_6 : decode cX0_meet 6 = .ok (.iaload, 1) := by decide +kernel
theorem dX0_meet_7 : decode cX0_meet 7 = .ok (.if_icmp .ge 17, 3) := by decide +kernel
theorem dX0_meet_10 : decode cX0_meet 10 = .ok (.aload_n 0, 1) := by decide +kernel
theorem dX0_meet_11 : decode cX0_meet 11 = .ok (.getfield 18, 3) := by decide +kernel
theorem dX0_meet_14 : decode cX0_meet 14 = .ok (.iload_n 1, 1) := by decide +kernel
theorem dX0_meet_15 : decode cX0_meet 15 = .ok (.iload_n 2, 1) := by decide +kernel
theorem dX0_meet_16 : decode cX0_meet 16 = .ok (.iastore, 1) := by decide +kernel
theorem dX0_meet_17 : decode cX0_meet 17 = .ok (.aload_n 0, 1) := by decide +kernel
theorem dX0_meet_18 : decode cX0_meet 18 = .ok (.getfield 21, 3) := by decide +kernel
theorem dX0_meet_21 : decode cX0_meet 21 = .ok (.iload_n 1, 1) := by decide +kernel
theorem dX0_meet_22 : decode cX0_meet 22 = .ok (.iload_n 3, 1) := by decide +kernel
theorem dX0_meet_23 : decode cX0_meet 23 = .ok (.iastore, 1) := by decide +kernel
theorem dX0_meet_24 : decode cX0_meet 24 = .ok (.return_, 1) := by decide +kernel
theorem dX0_creditor_0 : decode cX0_creditor 0 = .ok (.aload_n 0, 1) := by decide +kernel
theorem dX0_creditor_1 : decode cX0_creditor 1 = .ok (.getfield 9, 3) := by decide +kernel
theorem dX0_creditor_4 : decode cX0_creditor 4 = .ok (.iload_n 3, 1) := by decide +kernel
theorem dX0_creditor_5 : decode cX0_creditor 5 = .ok (.bipush 24, 2) := by decide +kernel
theorem dX0_creditor_7 : decode cX0_creditor 7 = .ok (.imul, 1) := by decide +kernel
theorem dX0_creditor_8 : decode cX0_creditor 8 = .ok (.iload_n 2, 1) := by decide +kernel
theorem dX0_creditor_9 : decode cX0_creditor 9 = .ok (.iadd, 1) := by decide +kernel
theorem dX0_creditor_10 : decode cX0_creditor 10 = .ok (.iaload, 1) := by decide +kernel
theorem dX0_creditor_11 : decode cX0_creditor 11 = .ok (.aload_n 0, 1) := by decide +kernel
theorem dX0_creditor_12 : decode cX0_creditor 12 = .ok (.getfield 33, 3) := by decide +kernel
theorem dX0_creditor_15 : decode cX0_creditor 15 = .ok (.getfield 88, 3) := by decide +kernel
theorem dX0_creditor_18 : decode cX0_creditor 18 = .ok (.iload_n 1, 1) := by decide +kernel
theorem dX0_creditor_19 : decode cX0_creditor 19 = .ok (.iaload, 1) := by decide +kernel
theorem dX0_creditor_20 : decode cX0_creditor 20 = .ok (.invokestatic 81, 3) := by decide +kernel
theorem dX0_creditor_23 : decode cX0_creditor 23 = .ok (.istore 4, 2) := by decide +kernel
theorem dX0_creditor_25 : decode cX0_creditor 25 = .ok (.aload_n 0, 1) := by decide +kernel
theorem dX0_creditor_26 : decode cX0_creditor 26 = .ok (.iload_n 3, 1) := by decide +kernel
theorem dX0_creditor_27 : decode cX0_creditor 27 = .ok (.iload 4, 2) := by decide +kernel
theorem dX0_creditor_29 : decode cX0_creditor 29 = .ok (.invokevirtual 91, 3) := by decide +kernel
theorem dX0_creditor_32 : decode cX0_creditor 32 = .ok (.ifCond .eq 12, 3) := by decide +kernel
theorem dX0_creditor_35 : decode cX0_creditor 35 = .ok (.aload_n 0, 1) := by decide +kernel
theorem dX0_creditor_36 : decode cX0_creditor 36 = .ok (.getfield 18, 3) := by decide +kernel
theorem dX0_creditor_39 : decode cX0_creditor 39 = .ok (.iload_n 3, 1) := by decide +kernel
theorem dX0_creditor_40 : decode cX0_creditor 40 = .ok (.iaload, 1) := by decide +kernel
theorem dX0_creditor_41 : decode cX0_creditor 41 = .ok (.goto 4, 3) := by decide +kernel
theorem dX0_creditor_44 : decode cX0_creditor 44 = .ok (.iconst (-1), 1) := by decide +kernel
theorem dX0_creditor_45 : decode cX0_creditor 45 = .ok (.ireturn, 1) := by decide +kernel
theorem dX0_hears_0 : decode cX0_hears 0 = .ok (.iload_n 2, 1) := by decide +kernel
theorem dX0_hears_1 : decode cX0_hears 1 = .ok (.aload_n 0, 1) := by decide +kernel
theorem dX0_hears_2 : decode cX0_hears 2 = .ok (.getfield 33, 3) := by decide +kernel
theorem dX0_hears_5 : decode cX0_hears 5 = .ok (.getfield 95, 3) := by decide +kernel
theorem dX0_hears_8 : decode cX0_hears 8 = .ok (.if_icmp .gt 20, 3) := by decide +kernel
theorem dX0_hears_11 : decode cX0_hears 11 = .ok (.aload_n 0, 1) := by decide +kernel
theorem dX0_hears_12 : decode cX0_hears 12 = .ok (.getfield 33, 3) := by decide +kernel
theorem dX0_hears_15 : decode cX0_hears 15 = .ok (.getfield 98, 3) := by decide +kernel
theorem dX0_hears_18 : decode cX0_hears 18 = .ok (.iload_n 1, 1) := by decide +kernel
theorem dX0_hears_19 : decode cX0_hears 19 = .ok (.iaload, 1) := by decide +kernel
theorem dX0_hears_20 : decode cX0_hears 20 = .ok (.iconst 1, 1) := by decide +kernel
theorem dX0_hears_21 : decode cX0_hears 21 = .ok (.if_icmp .eq 7, 3) := by decide +kernel
theorem dX0_hears_24 : decode cX0_hears 24 = .ok (.iconst 1, 1) := by decide +kernel
theorem dX0_hears_25 : decode cX0_hears 25 = .ok (.goto 4, 3) := by decide +kernel
theorem dX0_hears_28 : decode cX0_hears 28 = .ok (.iconst 0, 1) := by decide +kernel
theorem dX0_hears_29 : decode cX0_hears 29 = .ok (.ireturn, 1) := by decide +kernel
theorem dX0_pence_0 : decode cX0_pence 0 = .ok (.aload_n 0, 1) := by decide +kernel
theorem dX0_pence_1 : decode cX0_pence 1 = .ok (.getfield 9, 3) := by decide +kernel
theorem dX0_pence_4 : decode cX0_pence 4 = .ok (.iload_n 3, 1) := by decide +kernel
theorem dX0_pence_5 : decode cX0_pence 5 = .ok (.bipush 24, 2) := by decide +kernel
theorem dX0_pence_7 : decode cX0_pence 7 = .ok (.imul, 1) := by decide +kernel
theorem dX0_pence_8 : decode cX0_pence 8 = .ok (.iload_n 2, 1) := by decide +kernel
theorem dX0_pence_9 : decode cX0_pence 9 = .ok (.iadd, 1) := by decide +kernel
theorem dX0_pence_10 : decode cX0_pence 10 = .ok (.iaload, 1) := by decide +kernel
theorem dX0_pence_11 : decode cX0_pence 11 = .ok (.aload_n 0, 1) := by decide +kernel
theorem dX0_pence_12 : decode cX0_pence 12 = .ok (.getfield 33, 3) := by decide +kernel
theorem dX0_pence_15 : decode cX0_pence 15 = .ok (.getfield 88, 3) := by decide +kernel
theorem dX0_pence_18 : decode cX0_pence 18 = .ok (.iload_n 1, 1) := by decide +kernel
theorem dX0_pence_19 : decode cX0_pence 19 = .ok (.iaload, 1) := by decide +kernel
theorem dX0_pence_20 : decode cX0_pence 20 = .ok (.invokestatic 81, 3) := by decide +kernel
theorem dX0_pence_23 : decode cX0_pence 23 = .ok (.istore 5, 2) := by decide +kernel
theorem dX0_pence_25 : decode cX0_pence 25 = .ok (.iload 4, 2) := by decide +kernel
theorem dX0_pence_27 : decode cX0_pence 27 = .ok (.ifCond .le 23, 3) := by decide +kernel
theorem dX0_pence_30 : decode cX0_pence 30 = .ok (.aload_n 0, 1) := by decide +kernel
theorem dX0_pence_31 : decode cX0_pence 31 = .ok (.getfield 18, 3) := by decide +kernel
theorem dX0_pence_34 : decode cX0_pence 34 = .ok (.iload_n 3, 1) := by decide +kernel
theorem dX0_pence_35 : decode cX0_pence 35 = .ok (.iaload, 1) := by decide +kernel
theorem dX0_pence_36 : decode cX0_pence 36 = .ok (.iconst (-1), 1) := by decide +kernel
theorem dX0_pence_37 : decode cX0_pence 37 = .ok (.if_icmp .eq 13, 3) := by decide +kernel
theorem dX0_pence_40 : decode cX0_pence 40 = .ok (.aload_n 0, 1) := by decide +kernel
theorem dX0_pence_41 : decode cX0_pence 41 = .ok (.iload_n 3, 1) := by decide +kernel
theorem dX0_pence_42 : decode cX0_pence 42 = .ok (.iload 5, 2) := by decide +kernel
theorem dX0_pence_44 : decode cX0_pence 44 = .ok (.invokevirtual 91, 3) := by decide +kernel
theorem dX0_pence_47 : decode cX0_pence 47 = .ok (.ifCond .ne 5, 3) := by decide +kernel
theorem dX0_pence_50 : decode cX0_pence 50 = .ok (.iconst 0, 1) := by decide +kernel
theorem dX0_pence_51 : decode cX0_pence 51 = .ok (.ireturn, 1) := by decide +kernel
theorem dX0_pence_52 : decode cX0_pence 52 = .ok (.aload_n 0, 1) := by decide +kernel
theorem dX0_pence_53 : decode cX0_pence 53 = .ok (.getfield 21, 3) := by decide +kernel
theorem dX0_pence_56 : decode cX0_pence 56 = .ok (.iload_n 3, 1) := by decide +kernel
theorem dX0_pence_57 : decode cX0_pence 57 = .ok (.iaload, 1) := by decide +kernel
theorem dX0_pence_58 : decode cX0_pence 58 = .ok (.istore 6, 2) := by decide +kernel
theorem dX0_pence_60 : decode cX0_pence 60 = .ok (.iload_n 2, 1) := by decide +kernel
theorem dX0_pence_61 : decode cX0_pence 61 = .ok (.bipush 10, 2) := by decide +kernel
theorem dX0_pence_63 : decode cX0_pence 63 = .ok (.imul, 1) := by decide +kernel
theorem dX0_pence_64 : decode cX0_pence 64 = .ok (.iload 4, 2) := by decide +kernel
theorem dX0_pence_66 : decode cX0_pence 66 = .ok (.iadd, 1) := by decide +kernel
theorem dX0_pence_67 : decode cX0_pence 67 = .ok (.bipush 15, 2) := by decide +kernel
theorem dX0_pence_69 : decode cX0_pence 69 = .ok (.imul, 1) := by decide +kernel
theorem dX0_pence_70 : decode cX0_pence 70 = .ok (.iload 5, 2) := by decide +kernel
theorem dX0_pence_72 : decode cX0_pence 72 = .ok (.iadd, 1) := by decide +kernel
theorem dX0_pence_73 : decode cX0_pence 73 = .ok (.bipush 15, 2) := by decide +kernel
theorem dX0_pence_75 : decode cX0_pence 75 = .ok (.imul, 1) := by decide +kernel
theorem dX0_pence_76 : decode cX0_pence 76 = .ok (.iload 6, 2) := by decide +kernel
theorem dX0_pence_78 : decode cX0_pence 78 = .ok (.iadd, 1) := by decide +kernel
theorem dX0_pence_79 : decode cX0_pence 79 = .ok (.istore 7, 2) := by decide +kernel
theorem dX0_pence_81 : decode cX0_pence 81 = .ok (.iload 7, 2) := by decide +kernel
theorem dX0_pence_83 : decode cX0_pence 83 = .ok (.sipush 512, 3) := by decide +kernel
theorem dX0_pence_86 : decode cX0_pence 86 = .ok (.irem, 1) := by decide +kernel
theorem dX0_pence_87 : decode cX0_pence 87 = .ok (.istore 8, 2) := by decide +kernel
theorem dX0_pence_89 : decode cX0_pence 89 = .ok (.aload_n 0, 1) := by decide +kernel
theorem dX0_pence_90 : decode cX0_pence 90 = .ok (.getfield 27, 3) := by decide +kernel
theorem dX0_pence_93 : decode cX0_pence 93 = .ok (.iload 8, 2) := by decide +kernel
theorem dX0_pence_95 : decode cX0_pence 95 = .ok (.iaload, 1) := by decide +kernel
theorem dX0_pence_96 : decode cX0_pence 96 = .ok (.iload 7, 2) := by decide +kernel
theorem dX0_pence_98 : decode cX0_pence 98 = .ok (.if_icmp .eq 41, 3) := by decide +kernel
theorem dX0_pence_101 : decode cX0_pence 101 = .ok (.aload_n 0, 1) := by decide +kernel
theorem dX0_pence_102 : decode cX0_pence 102 = .ok (.getfield 27, 3) := by decide +kernel
theorem dX0_pence_105 : decode cX0_pence 105 = .ok (.iload 8, 2) := by decide +kernel
theorem dX0_pence_107 : decode cX0_pence 107 = .ok (.iload 7, 2) := by decide +kernel
theorem dX0_pence_109 : decode cX0_pence 109 = .ok (.iastore, 1) := by decide +kernel
theorem dX0_pence_110 : decode cX0_pence 110 = .ok (.aload_n 0, 1) := by decide +kernel
theorem dX0_pence_111 : decode cX0_pence 111 = .ok (.getfield 30, 3) := by decide +kernel
theorem dX0_pence_114 : decode cX0_pence 114 = .ok (.iload 8, 2) := by decide +kernel
theorem dX0_pence_116 : decode cX0_pence 116 = .ok (.aload_n 0, 1) := by decide +kernel
theorem dX0_pence_117 : decode cX0_pence 117 = .ok (.getfield 33, 3) := by decide +kernel
theorem dX0_pence_120 : decode cX0_pence 120 = .ok (.getfield 101, 3) := by decide +kernel
theorem dX0_pence_123 : decode cX0_pence 123 = .ok (.iload_n 2, 1) := by decide +kernel
theorem dX0_pence_124 : decode cX0_pence 124 = .ok (.iload 5, 2) := by decide +kernel
theorem dX0_pence_126 : decode cX0_pence 126 = .ok (.iload 6, 2) := by decide +kernel
theorem dX0_pence_128 : decode cX0_pence 128 = .ok (.iload 4, 2) := by decide +kernel
theorem dX0_pence_130 : decode cX0_pence 130 = .ok (.invokevirtual 71, 3) := by decide +kernel
theorem dX0_pence_133 : decode cX0_pence 133 = .ok (.bipush 99, 2) := by decide +kernel
theorem dX0_pence_135 : decode cX0_pence 135 = .ok (.invokestatic 77, 3) := by decide +kernel
theorem dX0_pence_138 : decode cX0_pence 138 = .ok (.iastore, 1) := by decide +kernel
theorem dX0_pence_139 : decode cX0_pence 139 = .ok (.aload_n 0, 1) := by decide +kernel
theorem dX0_pence_140 : decode cX0_pence 140 = .ok (.getfield 30, 3) := by decide +kernel
theorem dX0_pence_143 : decode cX0_pence 143 = .ok (.iload 8, 2) := by decide +kernel
theorem dX0_pence_145 : decode cX0_pence 145 = .ok (.iaload, 1) := by decide +kernel
theorem dX0_pence_146 : decode cX0_pence 146 = .ok (.iload 4, 2) := by decide +kernel
theorem dX0_pence_148 : decode cX0_pence 148 = .ok (.imul, 1) := by decide +kernel
theorem dX0_pence_149 : decode cX0_pence 149 = .ok (.istore 9, 2) := by decide +kernel
theorem dX0_pence_151 : decode cX0_pence 151 = .ok (.aload_n 0, 1) := by decide +kernel
theorem dX0_pence_152 : decode cX0_pence 152 = .ok (.getfield 33, 3) := by decide +kernel
theorem dX0_pence_155 : decode cX0_pence 155 = .ok (.getfield 98, 3) := by decide +kernel
theorem dX0_pence_158 : decode cX0_pence 158 = .ok (.iload_n 3, 1) := by decide +kernel
theorem dX0_pence_159 : decode cX0_pence 159 = .ok (.iaload, 1) := by decide +kernel
theorem dX0_pence_160 : decode cX0_pence 160 = .ok (.tableswitch 51 2 4 #[28, 33, 38], 28) := by decide +kernel
theorem dX0_pence_188 : decode cX0_pence 188 = .ok (.iload 9, 2) := by decide +kernel
theorem dX0_pence_190 : decode cX0_pence 190 = .ok (.iconst 2, 1) := by decide +kernel
theorem dX0_pence_191 : decode cX0_pence 191 = .ok (.idiv, 1) := by decide +kernel
theorem dX0_pence_192 : decode cX0_pence 192 = .ok (.ireturn, 1) := by decide +kernel
theorem dX0_pence_193 : decode cX0_pence 193 = .ok (.iload 9, 2) := by decide +kernel
theorem dX0_pence_195 : decode cX0_pence 195 = .ok (.iconst 2, 1) := by decide +kernel
theorem dX0_pence_196 : decode cX0_pence 196 = .ok (.imul, 1) := by decide +kernel
theorem dX0_pence_197 : decode cX0_pence 197 = .ok (.ireturn, 1) := by decide +kernel
theorem dX0_pence_198 : decode cX0_pence 198 = .ok (.iload 6, 2) := by decide +kernel
theorem dX0_pence_200 : decode cX0_pence 200 = .ok (.iconst 3, 1) := by decide +kernel
theorem dX0_pence_201 : decode cX0_pence 201 = .ok (.if_icmp .lt 7, 3) := by decide +kernel
theorem dX0_pence_204 : decode cX0_pence 204 = .ok (.iconst 0, 1) := by decide +kernel
theorem dX0_pence_205 : decode cX0_pence 205 = .ok (.goto 5, 3) := by decide +kernel
theorem dX0_pence_208 : decode cX0_pence 208 = .ok (.iload 9, 2) := by decide +kernel
theorem dX0_pence_210 : decode cX0_pence 210 = .ok (.ireturn, 1) := by decide +kernel
theorem dX0_pence_211 : decode cX0_pence 211 = .ok (.iload 9, 2) := by decide +kernel
theorem dX0_pence_213 : decode cX0_pence 213 = .ok (.ireturn, 1) := by decide +kernel
theorem dX0_gainOf_0 : decode cX0_gainOf 0 = .ok (.iconst 0, 1) := by decide +kernel
theorem dX0_gainOf_1 : decode cX0_gainOf 1 = .ok (.istore 5, 2) := by decide +kernel
theorem dX0_gainOf_3 : decode cX0_gainOf 3 = .ok (.iload_n 2, 1) := by decide +kernel
theorem dX0_gainOf_4 : decode cX0_gainOf 4 = .ok (.istore 6, 2) := by decide +kernel
theorem dX0_gainOf_6 : decode cX0_gainOf 6 = .ok (.iload 6, 2) := by decide +kernel
theorem dX0_gainOf_8 : decode cX0_gainOf 8 = .ok (.iload_n 3, 1) := by decide +kernel
theorem dX0_gainOf_9 : decode cX0_gainOf 9 = .ok (.if_icmp .gt 126, 3) := by decide +kernel
theorem dX0_gainOf_12 : decode cX0_gainOf 12 = .ok (.aload_n 0, 1) := by decide +kernel
theorem dX0_gainOf_13 : decode cX0_gainOf 13 = .ok (.iload 6, 2) := by decide +kernel
theorem dX0_gainOf_15 : decode cX0_gainOf 15 = .ok (.iload 4, 2) := by decide +kernel
theorem dX0_gainOf_17 : decode cX0_gainOf 17 = .ok (.invokevirtual 104, 3) := by decide +kernel
theorem dX0_gainOf_20 : decode cX0_gainOf 20 = .ok (.ifCond .ne 6, 3) := by decide +kernel
theorem dX0_gainOf_23 : decode cX0_gainOf 23 = .ok (.goto 106, 3) := by decide +kernel
theorem dX0_gainOf_26 : decode cX0_gainOf 26 = .ok (.aload_n 0, 1) := by decide +kernel
theorem dX0_gainOf_27 : decode cX0_gainOf 27 = .ok (.iload 6, 2) := by decide +kernel
theorem dX0_gainOf_29 : decode cX0_gainOf 29 = .ok (.invokevirtual 107, 3) := by decide +kernel
theorem dX0_gainOf_32 : decode cX0_gainOf 32 = .ok (.iconst 0, 1) := by decide +kernel
theorem dX0_gainOf_33 : decode cX0_gainOf 33 = .ok (.istore 7, 2) := by decide +kernel
theorem dX0_gainOf_35 : decode cX0_gainOf 35 = .ok (.iload 7, 2) := by decide +kernel
theorem dX0_gainOf_37 : decode cX0_gainOf 37 = .ok (.aload_n 0, 1) := by decide +kernel
theorem dX0_gainOf_38 : decode cX0_gainOf 38 = .ok (.getfield 33, 3) := by decide +kernel
theorem dX0_gainOf_41 : decode cX0_gainOf 41 = .ok (.getfield 111, 3) := by decide +kernel
theorem dX0_gainOf_44 : decode cX0_gainOf 44 = .ok (.if_icmp .ge 85, 3) := by decide +kernel
theorem dX0_gainOf_47 : decode cX0_gainOf 47 = .ok (.aload_n 0, 1) := by decide +kernel
theorem dX0_gainOf_48 : decode cX0_gainOf 48 = .ok (.iload 7, 2) := by decide +kernel
theorem dX0_gainOf_50 : decode cX0_gainOf 50 = .ok (.iload 6, 2) := by decide +kernel
theorem dX0_gainOf_52 : decode cX0_gainOf 52 = .ok (.iload 4, 2) := by decide +kernel
theorem dX0_gainOf_54 : decode cX0_gainOf 54 = .ok (.invokevirtual 114, 3) := by decide +kernel
theorem dX0_gainOf_57 : decode cX0_gainOf 57 = .ok (.istore 8, 2) := by decide +kernel
theorem dX0_gainOf_59 : decode cX0_gainOf 59 = .ok (.iconst 0, 1) := by decide +kernel
theorem dX0_gainOf_60 : decode cX0_gainOf 60 = .ok (.istore 9, 2) := by decide +kernel
theorem dX0_gainOf_62 : decode cX0_gainOf 62 = .ok (.iload 9, 2) := by decide +kernel
theorem dX0_gainOf_64 : decode cX0_gainOf 64 = .ok (.aload_n 0, 1) := by decide +kernel
theorem dX0_gainOf_65 : decode cX0_gainOf 65 = .ok (.getfield 33, 3) := by decide +kernel
theorem dX0_gainOf_68 : decode cX0_gainOf 68 = .ok (.getfield 58, 3) := by decide +kernel
theorem dX0_gainOf_71 : decode cX0_gainOf 71 = .ok (.if_icmp .ge 52, 3) := by decide +kernel
theorem dX0_gainOf_74 : decode cX0_gainOf 74 = .ok (.iload 8, 2) := by decide +kernel
theorem dX0_gainOf_76 : decode cX0_gainOf 76 = .ok (.ifCond .le 47, 3) := by decide +kernel
theorem dX0_gainOf_79 : decode cX0_gainOf 79 = .ok (.aload_n 0, 1) := by decide +kernel
theorem dX0_gainOf_80 : decode cX0_gainOf 80 = .ok (.iload_n 1, 1) := by decide +kernel
theorem dX0_gainOf_81 : decode cX0_gainOf 81 = .ok (.iload 9, 2) := by decide +kernel
theorem dX0_gainOf_83 : decode cX0_gainOf 83 = .ok (.invokevirtual 118, 3) := by decide +kernel
theorem dX0_gainOf_86 : decode cX0_gainOf 86 = .ok (.istore 10, 2) := by decide +kernel
theorem dX0_gainOf_88 : decode cX0_gainOf 88 = .ok (.iload 5, 2) := by decide +kernel
theorem dX0_gainOf_90 : decode cX0_gainOf 90 = .ok (.iload 10, 2) := by decide +kernel
theorem dX0_gainOf_92 : decode cX0_gainOf 92 = .ok (.ifCond .ne 7, 3) := by decide +kernel
theorem dX0_gainOf_95 : decode cX0_gainOf 95 = .ok (.iconst 0, 1) := by decide +kernel
theorem dX0_gainOf_96 : decode cX0_gainOf 96 = .ok (.goto 18, 3) := by decide +kernel
theorem dX0_gainOf_99 : decode cX0_gainOf 99 = .ok (.iload 10, 2) := by decide +kernel
theorem dX0_gainOf_101 : decode cX0_gainOf 101 = .ok (.aload_n 0, 1) := by decide +kernel
theorem dX0_gainOf_102 : decode cX0_gainOf 102 = .ok (.iload 7, 2) := by decide +kernel
theorem dX0_gainOf_104 : decode cX0_gainOf 104 = .ok (.iload 6, 2) := by decide +kernel
theorem dX0_gainOf_106 : decode cX0_gainOf 106 = .ok (.iload 9, 2) := by decide +kernel
theorem dX0_gainOf_108 : decode cX0_gainOf 108 = .ok (.iload 8, 2) := by decide +kernel
theorem dX0_gainOf_110 : decode cX0_gainOf 110 = .ok (.invokevirtual 121, 3) := by decide +kernel
theorem dX0_gainOf_113 : decode cX0_gainOf 113 = .ok (.imul, 1) := by decide +kernel
theorem dX0_gainOf_114 : decode cX0_gainOf 114 = .ok (.iadd, 1) := by decide +kernel
theorem dX0_gainOf_115 : decode cX0_gainOf 115 = .ok (.istore 5, 2) := by decide +kernel
theorem dX0_gainOf_117 : decode cX0_gainOf 117 = .ok (.iinc 9 1, 3) := by decide +kernel
theorem dX0_gainOf_120 : decode cX0_gainOf 120 = .ok (.goto (-58), 3) := by decide +kernel
theorem dX0_gainOf_123 : decode cX0_gainOf 123 = .ok (.iinc 7 1, 3) := by decide +kernel
theorem dX0_gainOf_126 : decode cX0_gainOf 126 = .ok (.goto (-91), 3) := by decide +kernel
theorem dX0_gainOf_129 : decode cX0_gainOf 129 = .ok (.iinc 6 1, 3) := by decide +kernel
theorem dX0_gainOf_132 : decode cX0_gainOf 132 = .ok (.goto (-126), 3) := by decide +kernel
theorem dX0_gainOf_135 : decode cX0_gainOf 135 = .ok (.iload 5, 2) := by decide +kernel
theorem dX0_gainOf_137 : decode cX0_gainOf 137 = .ok (.ireturn, 1) := by decide +kernel
theorem dX0_shareOf_0 : decode cX0_shareOf 0 = .ok (.aload_n 0, 1) := by decide +kernel
theorem dX0_shareOf_1 : decode cX0_shareOf 1 = .ok (.getfield 18, 3) := by decide +kernel
theorem dX0_shareOf_4 : decode cX0_shareOf 4 = .ok (.iload_n 2, 1) := by decide +kernel
theorem dX0_shareOf_5 : decode cX0_shareOf 5 = .ok (.iaload, 1) := by decide +kernel
theorem dX0_shareOf_6 : decode cX0_shareOf 6 = .ok (.istore_n 3, 1) := by decide +kernel
theorem dX0_shareOf_7 : decode cX0_shareOf 7 = .ok (.iload_n 3, 1) := by decide +kernel
theorem dX0_shareOf_8 : decode cX0_shareOf 8 = .ok (.iconst (-1), 1) := by decide +kernel
theorem dX0_shareOf_9 : decode cX0_shareOf 9 = .ok (.if_icmp .ne 7, 3) := by decide +kernel
theorem dX0_shareOf_12 : decode cX0_shareOf 12 = .ok (.iconst 0, 1) := by decide +kernel
theorem dX0_shareOf_13 : decode cX0_shareOf 13 = .ok (.goto 14, 3) := by decide +kernel
theorem dX0_shareOf_16 : decode cX0_shareOf 16 = .ok (.iload_n 1, 1) := by decide +kernel
theorem dX0_shareOf_17 : decode cX0_shareOf 17 = .ok (.iload_n 3, 1) := by decide +kernel
theorem dX0_shareOf_18 : decode cX0_shareOf 18 = .ok (.ishr, 1) := by decide +kernel
theorem dX0_shareOf_19 : decode cX0_shareOf 19 = .ok (.iconst 1, 1) := by decide +kernel
theorem dX0_shareOf_20 : decode cX0_shareOf 20 = .ok (.iand, 1) := by decide +kernel
theorem dX0_shareOf_21 : decode cX0_shareOf 21 = .ok (.iload_n 1, 1) := by decide +kernel
theorem dX0_shareOf_22 : decode cX0_shareOf 22 = .ok (.iload_n 2, 1) := by decide +kernel
theorem dX0_shareOf_23 : decode cX0_shareOf 23 = .ok (.ishr, 1) := by decide +kernel
theorem dX0_shareOf_24 : decode cX0_shareOf 24 = .ok (.iconst 1, 1) := by decide +kernel
theorem dX0_shareOf_25 : decode cX0_shareOf 25 = .ok (.iand, 1) := by decide +kernel
theorem dX0_shareOf_26 : decode cX0_shareOf 26 = .ok (.isub, 1) := by decide +kernel
theorem dX0_shareOf_27 : decode cX0_shareOf 27 = .ok (.ireturn, 1) := by decide +kernel
theorem dX0_penceOfDay_0 : decode cX0_penceOfDay 0 = .ok (.iconst 0, 1) := by decide +kernel
theorem dX0_penceOfDay_1 : decode cX0_penceOfDay 1 = .ok (.istore_n 3, 1) := by decide +kernel
theorem dX0_penceOfDay_2 : decode cX0_penceOfDay 2 = .ok (.iconst 0, 1) := by decide +kernel
theorem dX0_penceOfDay_3 : decode cX0_penceOfDay 3 = .ok (.istore 4, 2) := by decide +kernel
theorem dX0_penceOfDay_5 : decode cX0_penceOfDay 5 = .ok (.iload 4, 2) := by decide +kernel
theorem dX0_penceOfDay_7 : decode cX0_penceOfDay 7 = .ok (.bipush 24, 2) := by decide +kernel
theorem dX0_penceOfDay_9 : decode cX0_penceOfDay 9 = .ok (.if_icmp .ge 50, 3) := by decide +kernel
theorem dX0_penceOfDay_12 : decode cX0_penceOfDay 12 = .ok (.aload_n 0, 1) := by decide +kernel
theorem dX0_penceOfDay_13 : decode cX0_penceOfDay 13 = .ok (.getfield 37, 3) := by decide +kernel
theorem dX0_penceOfDay_16 : decode cX0_penceOfDay 16 = .ok (.getfield 62, 3) := by decide +kernel
theorem dX0_penceOfDay_19 : decode cX0_penceOfDay 19 = .ok (.iload_n 1, 1) := by decide +kernel
theorem dX0_penceOfDay_20 : decode cX0_penceOfDay 20 = .ok (.bipush 24, 2) := by decide +kernel
theorem dX0_penceOfDay_22 : decode cX0_penceOfDay 22 = .ok (.imul, 1) := by decide +kernel
theorem dX0_penceOfDay_23 : decode cX0_penceOfDay 23 = .ok (.iload 4, 2) := by decide +kernel
theorem dX0_penceOfDay_25 : decode cX0_penceOfDay 25 = .ok (.iadd, 1) := by decide +kernel
theorem dX0_penceOfDay_26 : decode cX0_penceOfDay 26 = .ok (.iaload, 1) := by decide +kernel
theorem dX0_penceOfDay_27 : decode cX0_penceOfDay 27 = .ok (.istore 5, 2) := by decide +kernel
theorem dX0_penceOfDay_29 : decode cX0_penceOfDay 29 = .ok (.iload 5, 2) := by decide +kernel
theorem dX0_penceOfDay_31 : decode cX0_penceOfDay 31 = .ok (.ifCond .le 22, 3) := by decide +kernel
theorem dX0_penceOfDay_34 : decode cX0_penceOfDay 34 = .ok (.aload_n 0, 1) := by decide +kernel
theorem dX0_penceOfDay_35 : decode cX0_penceOfDay 35 = .ok (.iload 4, 2) := by decide +kernel
theorem dX0_penceOfDay_37 : decode cX0_penceOfDay 37 = .ok (.invokevirtual 107, 3) := by decide +kernel
theorem dX0_penceOfDay_40 : decode cX0_penceOfDay 40 = .ok (.iload_n 3, 1) := by decide +kernel
theorem dX0_penceOfDay_41 : decode cX0_penceOfDay 41 = .ok (.aload_n 0, 1) := by decide +kernel
theorem dX0_penceOfDay_42 : decode cX0_penceOfDay 42 = .ok (.iload_n 1, 1) := by decide +kernel
theorem dX0_penceOfDay_43 : decode cX0_penceOfDay 43 = .ok (.iload 4, 2) := by decide +kernel
theorem dX0_penceOfDay_45 : decode cX0_penceOfDay 45 = .ok (.iload_n 2, 1) := by decide +kernel
theorem dX0_penceOfDay_46 : decode cX0_penceOfDay 46 = .ok (.iload 5, 2) := by decide +kernel
theorem dX0_penceOfDay_48 : decode cX0_penceOfDay 48 = .ok (.invokevirtual 121, 3) := by decide +kernel
theorem dX0_penceOfDay_51 : decode cX0_penceOfDay 51 = .ok (.iadd, 1) := by decide +kernel
theorem dX0_penceOfDay_52 : decode cX0_penceOfDay 52 = .ok (.istore_n 3, 1) := by decide +kernel
theorem dX0_penceOfDay_53 : decode cX0_penceOfDay 53 = .ok (.iinc 4 1, 3) := by decide +kernel
theorem dX0_penceOfDay_56 : decode cX0_penceOfDay 56 = .ok (.goto (-51), 3) := by decide +kernel
theorem dX0_penceOfDay_59 : decode cX0_penceOfDay 59 = .ok (.iload_n 3, 1) := by decide +kernel
theorem dX0_penceOfDay_60 : decode cX0_penceOfDay 60 = .ok (.ireturn, 1) := by decide +kernel
theorem dX0_tally_0 : decode cX0_tally 0 = .ok (.aload_n 0, 1) := by decide +kernel
theorem dX0_tally_1 : decode cX0_tally 1 = .ok (.getfield 15, 3) := by decide +kernel
theorem dX0_tally_4 : decode cX0_tally 4 = .ok (.iconst 0, 1) := by decide +kernel
theorem dX0_tally_5 : decode cX0_tally 5 = .ok (.invokestatic 41, 3) := by decide +kernel
theorem dX0_tally_8 : decode cX0_tally 8 = .ok (.iconst 0, 1) := by decide +kernel
theorem dX0_tally_9 : decode cX0_tally 9 = .ok (.istore_n 2, 1) := by decide +kernel
theorem dX0_tally_10 : decode cX0_tally 10 = .ok (.iload_n 2, 1) := by decide +kernel
theorem dX0_tally_11 : decode cX0_tally 11 = .ok (.bipush 24, 2) := by decide +kernel
theorem dX0_tally_13 : decode cX0_tally 13 = .ok (.if_icmp .ge 55, 3) := by decide +kernel
theorem dX0_tally_16 : decode cX0_tally 16 = .ok (.aload_n 0, 1) := by decide +kernel
theorem dX0_tally_17 : decode cX0_tally 17 = .ok (.iload_n 2, 1) := by decide +kernel
theorem dX0_tally_18 : decode cX0_tally 18 = .ok (.iload_n 1, 1) := by decide +kernel
theorem dX0_tally_19 : decode cX0_tally 19 = .ok (.invokevirtual 104, 3) := by decide +kernel
theorem dX0_tally_22 : decode cX0_tally 22 = .ok (.ifCond .eq 40, 3) := by decide +kernel
theorem dX0_tally_25 : decode cX0_tally 25 = .ok (.aload_n 0, 1) := by decide +kernel
theorem dX0_tally_26 : decode cX0_tally 26 = .ok (.iload_n 2, 1) := by decide +kernel
theorem dX0_tally_27 : decode cX0_tally 27 = .ok (.invokevirtual 107, 3) := by decide +kernel
theorem dX0_tally_30 : decode cX0_tally 30 = .ok (.iconst 0, 1) := by decide +kernel
theorem dX0_tally_31 : decode cX0_tally 31 = .ok (.istore_n 3, 1) := by decide +kernel
theorem dX0_tally_32 : decode cX0_tally 32 = .ok (.iload_n 3, 1) := by decide +kernel
theorem dX0_tally_33 : decode cX0_tally 33 = .ok (.aload_n 0, 1) := by decide +kernel
theorem dX0_tally_34 : decode cX0_tally 34 = .ok (.getfield 33, 3) := by decide +kernel
theorem dX0_tally_37 : decode cX0_tally 37 = .ok (.getfield 111, 3) := by decide +kernel
theorem dX0_tally_40 : decode cX0_tally 40 = .ok (.if_icmp .ge 22, 3) := by decide +kernel
theorem dX0_tally_43 : decode cX0_tally 43 = .ok (.aload_n 0, 1) := by decide +kernel
theorem dX0_tally_44 : decode cX0_tally 44 = .ok (.iload_n 3, 1) := by decide +kernel
theorem dX0_tally_45 : decode cX0_tally 45 = .ok (.iload_n 2, 1) := by decide +kernel
theorem dX0_tally_46 : decode cX0_tally 46 = .ok (.aload_n 0, 1) := by decide +kernel
theorem dX0_tally_47 : decode cX0_tally 47 = .ok (.iload_n 3, 1) := by decide +kernel
theorem dX0_tally_48 : decode cX0_tally 48 = .ok (.iload_n 2, 1) := by decide +kernel
theorem dX0_tally_49 : decode cX0_tally 49 = .ok (.iload_n 1, 1) := by decide +kernel
theorem dX0_tally_50 : decode cX0_tally 50 = .ok (.invokevirtual 114, 3) := by decide +kernel
theorem dX0_tally_53 : decode cX0_tally 53 = .ok (.invokevirtual 124, 3) := by decide +kernel
theorem dX0_tally_56 : decode cX0_tally 56 = .ok (.iinc 3 1, 3) := by decide +kernel
theorem dX0_tally_59 : decode cX0_tally 59 = .ok (.goto (-27), 3) := by decide +kernel
theorem dX0_tally_62 : decode cX0_tally 62 = .ok (.iinc 2 1, 3) := by decide +kernel
theorem dX0_tally_65 : decode cX0_tally 65 = .ok (.goto (-55), 3) := by decide +kernel
theorem dX0_tally_68 : decode cX0_tally 68 = .ok (.return_, 1) := by decide +kernel
theorem dX0_addEntries_0 : decode cX0_addEntries 0 = .ok (.iconst 0, 1) := by decide +kernel
theorem dX0_addEntries_1 : decode cX0_addEntries 1 = .ok (.istore 4, 2) := by decide +kernel
theorem dX0_addEntries_3 : decode cX0_addEntries 3 = .ok (.iload 4, 2) := by decide +kernel
theorem dX0_addEntries_5 : decode cX0_addEntries 5 = .ok (.aload_n 0, 1) := by decide +kernel
theorem dX0_addEntries_6 : decode cX0_addEntries 6 = .ok (.getfield 33, 3) := by decide +kernel
theorem dX0_addEntries_9 : decode cX0_addEntries 9 = .ok (.getfield 58, 3) := by decide +kernel
theorem dX0_addEntries_12 : decode cX0_addEntries 12 = .ok (.if_icmp .ge 49, 3) := by decide +kernel
theorem dX0_addEntries_15 : decode cX0_addEntries 15 = .ok (.aload_n 0, 1) := by decide +kernel
theorem dX0_addEntries_16 : decode cX0_addEntries 16 = .ok (.getfield 18, 3) := by decide +kernel
theorem dX0_addEntries_19 : decode cX0_addEntries 19 = .ok (.iload 4, 2) := by decide +kernel
theorem dX0_addEntries_21 : decode cX0_addEntries 21 = .ok (.iaload, 1) := by decide +kernel
theorem dX0_addEntries_22 : decode cX0_addEntries 22 = .ok (.istore 5, 2) := by decide +kernel
theorem dX0_addEntries_24 : decode cX0_addEntries 24 = .ok (.iload 5, 2) := by decide +kernel
theorem dX0_addEntries_26 : decode cX0_addEntries 26 = .ok (.iconst (-1), 1) := by decide +kernel
theorem dX0_addEntries_27 : decode cX0_addEntries 27 = .ok (.if_icmp .eq 28, 3) := by decide +kernel
theorem dX0_addEntries_30 : decode cX0_addEntries 30 = .ok (.aload_n 0, 1) := by decide +kernel
theorem dX0_addEntries_31 : decode cX0_addEntries 31 = .ok (.getfield 15, 3) := by decide +kernel
theorem dX0_addEntries_34 : decode cX0_addEntries 34 = .ok (.iload 4, 2) := by decide +kernel
theorem dX0_addEntries_36 : decode cX0_addEntries 36 = .ok (.bipush 6, 2) := by decide +kernel
theorem dX0_addEntries_38 : decode cX0_addEntries 38 = .ok (.imul, 1) := by decide +kernel
theorem dX0_addEntries_39 : decode cX0_addEntries 39 = .ok (.iload 5, 2) := by decide +kernel
theorem dX0_addEntries_41 : decode cX0_addEntries 41 = .ok (.iadd, 1) := by decide +kernel
theorem dX0_addEntries_42 : decode cX0_addEntries 42 = .ok (.dup2, 1) := by decide +kernel
theorem dX0_addEntries_43 : decode cX0_addEntries 43 = .ok (.iaload, 1) := by decide +kernel
theorem dX0_addEntries_44 : decode cX0_addEntries 44 = .ok (.aload_n 0, 1) := by decide +kernel
theorem dX0_addEntries_45 : decode cX0_addEntries 45 = .ok (.iload_n 1, 1) := by decide +kernel
theorem dX0_addEntries_46 : decode cX0_addEntries 46 = .ok (.iload_n 2, 1) := by decide +kernel
theorem dX0_addEntries_47 : decode cX0_addEntries 47 = .ok (.iload 4, 2) := by decide +kernel
theorem dX0_addEntries_49 : decode cX0_addEntries 49 = .ok (.iload_n 3, 1) := by decide +kernel
theorem dX0_addEntries_50 : decode cX0_addEntries 50 = .ok (.invokevirtual 121, 3) := by decide +kernel
theorem dX0_addEntries_53 : decode cX0_addEntries 53 = .ok (.iadd, 1) := by decide +kernel
theorem dX0_addEntries_54 : decode cX0_addEntries 54 = .ok (.iastore, 1) := by decide +kernel
theorem dX0_addEntries_55 : decode cX0_addEntries 55 = .ok (.iinc 4 1, 3) := by decide +kernel
theorem dX0_addEntries_58 : decode cX0_addEntries 58 = .ok (.goto (-55), 3) := by decide +kernel
theorem dX0_addEntries_61 : decode cX0_addEntries 61 = .ok (.return_, 1) := by decide +kernel
theorem dX0_isCalled_0 : decode cX0_isCalled 0 = .ok (.iconst 0, 1) := by decide +kernel
theorem dX0_isCalled_1 : decode cX0_isCalled 1 = .ok (.istore_n 3, 1) := by decide +kernel
theorem dX0_isCalled_2 : decode cX0_isCalled 2 = .ok (.iload_n 3, 1) := by decide +kernel
theorem dX0_isCalled_3 : decode cX0_isCalled 3 = .ok (.aload_n 0, 1) := by decide +kernel
theorem dX0_isCalled_4 : decode cX0_isCalled 4 = .ok (.getfield 33, 3) := by decide +kernel
theorem dX0_isCalled_7 : decode cX0_isCalled 7 = .ok (.getfield 111, 3) := by decide +kernel
theorem dX0_isCalled_10 : decode cX0_isCalled 10 = .ok (.if_icmp .ge 21, 3) := by decide +kernel
theorem dX0_isCalled_13 : decode cX0_isCalled 13 = .ok (.aload_n 0, 1) := by decide +kernel
theorem dX0_isCalled_14 : decode cX0_isCalled 14 = .ok (.iload_n 3, 1) := by decide +kernel
theorem dX0_isCalled_15 : decode cX0_isCalled 15 = .ok (.iload_n 1, 1) := by decide +kernel
theorem dX0_isCalled_16 : decode cX0_isCalled 16 = .ok (.iload_n 2, 1) := by decide +kernel
theorem dX0_isCalled_17 : decode cX0_isCalled 17 = .ok (.invokevirtual 114, 3) := by decide +kernel
theorem dX0_isCalled_20 : decode cX0_isCalled 20 = .ok (.ifCond .le 5, 3) := by decide +kernel
theorem dX0_isCalled_23 : decode cX0_isCalled 23 = .ok (.iconst 1, 1) := by decide +kernel
theorem dX0_isCalled_24 : decode cX0_isCalled 24 = .ok (.ireturn, 1) := by decide +kernel
theorem dX0_isCalled_25 : decode cX0_isCalled 25 = .ok (.iinc 3 1, 3) := by decide +kernel
theorem dX0_isCalled_28 : decode cX0_isCalled 28 = .ok (.goto (-26), 3) := by decide +kernel
theorem dX0_isCalled_31 : decode cX0_isCalled 31 = .ok (.iconst 0, 1) := by decide +kernel
theorem dX0_isCalled_32 : decode cX0_isCalled 32 = .ok (.ireturn, 1) := by decide +kernel
theorem dX0_within_0 : decode cX0_within 0 = .ok (.iconst 0, 1) := by decide +kernel
theorem dX0_within_1 : decode cX0_within 1 = .ok (.iload_n 0, 1) := by decide +kernel
theorem dX0_within_2 : decode cX0_within 2 = .ok (.iload_n 1, 1) := by decide +kernel
theorem dX0_within_3 : decode cX0_within 3 = .ok (.invokestatic 127, 3) := by decide +kernel
theorem dX0_within_6 : decode cX0_within 6 = .ok (.invokestatic 132, 3) := by decide +kernel
theorem dX0_within_9 : decode cX0_within 9 = .ok (.ireturn, 1) := by decide +kernel
theorem dX0_far_0 : decode cX0_far 0 = .ok (.iload_n 0, 1) := by decide +kernel
theorem dX0_far_1 : decode cX0_far 1 = .ok (.bipush 8, 2) := by decide +kernel
theorem dX0_far_3 : decode cX0_far 3 = .ok (.irem, 1) := by decide +kernel
theorem dX0_far_4 : decode cX0_far 4 = .ok (.iload_n 1, 1) := by decide +kernel
theorem dX0_far_5 : decode cX0_far 5 = .ok (.bipush 8, 2) := by decide +kernel
theorem dX0_far_7 : decode cX0_far 7 = .ok (.irem, 1) := by decide +kernel
theorem dX0_far_8 : decode cX0_far 8 = .ok (.isub, 1) := by decide +kernel
theorem dX0_far_9 : decode cX0_far 9 = .ok (.istore_n 2, 1) := by decide +kernel
theorem dX0_far_10 : decode cX0_far 10 = .ok (.iload_n 0, 1) := by decide +kernel
theorem dX0_far_11 : decode cX0_far 11 = .ok (.bipush 8, 2) := by decide +kernel
theorem dX0_far_13 : decode cX0_far 13 = .ok (.idiv, 1) := by decide +kernel
theorem dX0_far_14 : decode cX0_far 14 = .ok (.iload_n 1, 1) := by decide +kernel
theorem dX0_far_15 : decode cX0_far 15 = .ok (.bipush 8, 2) := by decide +kernel
theorem dX0_far_17 : decode cX0_far 17 = .ok (.idiv, 1) := by decide +kernel
theorem dX0_far_18 : decode cX0_far 18 = .ok (.isub, 1) := by decide +kernel
theorem dX0_far_19 : decode cX0_far 19 = .ok (.istore_n 3, 1) := by decide +kernel
theorem dX0_far_20 : decode cX0_far 20 = .ok (.iload_n 2, 1) := by decide +kernel
theorem dX0_far_21 : decode cX0_far 21 = .ok (.ifCond .ge 8, 3) := by decide +kernel
theorem dX0_far_24 : decode cX0_far 24 = .ok (.iload_n 2, 1) := by decide +kernel
theorem dX0_far_25 : decode cX0_far 25 = .ok (.ineg, 1) := by decide +kernel
theorem dX0_far_26 : decode cX0_far 26 = .ok (.goto 4, 3) := by decide +kernel
theorem dX0_far_29 : decode cX0_far 29 = .ok (.iload_n 2, 1) := by decide +kernel
theorem dX0_far_30 : decode cX0_far 30 = .ok (.iload_n 3, 1) := by decide +kernel
theorem dX0_far_31 : decode cX0_far 31 = .ok (.ifCond .ge 8, 3) := by decide +kernel
theorem dX0_far_34 : decode cX0_far 34 = .ok (.iload_n 3, 1) := by decide +kernel
theorem dX0_far_35 : decode cX0_far 35 = .ok (.ineg, 1) := by decide +kernel
theorem dX0_far_36 : decode cX0_far 36 = .ok (.goto 4, 3) := by decide +kernel
theorem dX0_far_39 : decode cX0_far 39 = .ok (.iload_n 3, 1) := by decide +kernel
theorem dX0_far_40 : decode cX0_far 40 = .ok (.iadd, 1) := by decide +kernel
theorem dX0_far_41 : decode cX0_far 41 = .ok (.ireturn, 1) := by decide +kernel
theorem dX1_init_0 : decode cX1_init 0 = .ok (.aload_n 0, 1) := by decide +kernel
theorem dX1_init_1 : decode cX1_init 1 = .ok (.invokespecial 3, 3) := by decide +kernel
theorem dX1_init_4 : decode cX1_init 4 = .ok (.aload_n 0, 1) := by decide +kernel
theorem dX1_init_5 : decode cX1_init 5 = .ok (.bipush 120, 2) := by decide +kernel
theorem dX1_init_7 : decode cX1_init 7 = .ok (.newarray .int, 2) := by decide +kernel
theorem dX1_init_9 : decode cX1_init 9 = .ok (.putfield 9, 3) := by decide +kernel
theorem dX1_init_12 : decode cX1_init 12 = .ok (.aload_n 0, 1) := by decide +kernel
theorem dX1_init_13 : decode cX1_init 13 = .ok (.bipush 6, 2) := by decide +kernel
theorem dX1_init_15 : decode cX1_init 15 = .ok (.newarray .int, 2) := by decide +kernel
theorem dX1_init_17 : decode cX1_init 17 = .ok (.putfield 15, 3) := by decide +kernel
theorem dX1_init_20 : decode cX1_init 20 = .ok (.aload_n 0, 1) := by decide +kernel
theorem dX1_init_21 : decode cX1_init 21 = .ok (.getfield 15, 3) := by decide +kernel
theorem dX1_init_24 : decode cX1_init 24 = .ok (.iconst (-1), 1) := by decide +kernel
theorem dX1_init_25 : decode cX1_init 25 = .ok (.invokestatic 18, 3) := by decide +kernel
theorem dX1_init_28 : decode cX1_init 28 = .ok (.return_, 1) := by decide +kernel
theorem dX1_begin_0 : decode cX1_begin 0 = .ok (.aload_n 1, 1) := by decide +kernel
theorem dX1_begin_1 : decode cX1_begin 1 = .ok (.getfield 24, 3) := by decide +kernel
theorem dX1_begin_4 : decode cX1_begin 4 = .ok (.iconst 0, 1) := by decide +kernel
theorem dX1_begin_5 : decode cX1_begin 5 = .ok (.aload_n 0, 1) := by decide +kernel
theorem dX1_begin_6 : decode cX1_begin 6 = .ok (.getfield 9, 3) := by decide +kernel
theorem dX1_begin_9 : decode cX1_begin 9 = .ok (.iconst 0, 1) := by decide +kernel
theorem dX1_begin_10 : decode cX1_begin 10 = .ok (.bipush 120, 2) := by decide +kernel
theorem dX1_begin_12 : decode cX1_begin 12 = .ok (.invokestatic 27, 3) := by decide +kernel
theorem dX1_begin_15 : decode cX1_begin 15 = .ok (.aload_n 0, 1) := by decide +kernel
theorem dX1_begin_16 : decode cX1_begin 16 = .ok (.iconst 0, 1) := by decide +kernel
theorem dX1_begin_17 : decode cX1_begin 17 = .ok (.putfield 33, 3) := by decide +kernel
theorem dX1_begin_20 : decode cX1_begin 20 = .ok (.aload_n 0, 1) := by decide +kernel
theorem dX1_begin_21 : decode cX1_begin 21 = .ok (.getfield 15, 3) := by decide +kernel
theorem dX1_begin_24 : decode cX1_begin 24 = .ok (.iconst (-1), 1) := by decide +kernel
theorem dX1_begin_25 : decode cX1_begin 25 = .ok (.invokestatic 18, 3) := by decide +kernel
theorem dX1_begin_28 : decode cX1_begin 28 = .ok (.return_, 1) := by decide +kernel
theorem dX1_copyFrom_0 : decode cX1_copyFrom 0 = .ok (.aload_n 1, 1) := by decide +kernel
theorem dX1_copyFrom_1 : decode cX1_copyFrom 1 = .ok (.getfield 9, 3) := by decide +kernel
theorem dX1_copyFrom_4 : decode cX1_copyFrom 4 = .ok (.iconst 0, 1) := by decide +kernel
theorem dX1_copyFrom_5 : decode cX1_copyFrom 5 = .ok (.aload_n 0, 1) := by decide +kernel
theorem dX1_copyFrom_6 : decode cX1_copyFrom 6 = .ok (.getfield 9, 3) := by decide +kernel
theorem dX1_copyFrom_9 : decode cX1_copyFrom 9 = .ok (.iconst 0, 1) := by decide +kernel
theorem dX1_copyFrom_10 : decode cX1_copyFrom 10 = .ok (.bipush 120, 2) := by decide +kernel
theorem dX1_copyFrom_12 : decode cX1_copyFrom 12 = .ok (.invokestatic 27, 3) := by decide +kernel
theorem dX1_copyFrom_15 : decode cX1_copyFrom 15 = .ok (.aload_n 0, 1) := by decide +kernel
theorem dX1_copyFrom_16 : decode cX1_copyFrom 16 = .ok (.aload_n 1, 1) := by decide +kernel
theorem dX1_copyFrom_17 : decode cX1_copyFrom 17 = .ok (.getfield 33, 3) := by decide +kernel
theorem dX1_copyFrom_20 : decode cX1_copyFrom 20 = .ok (.putfield 33, 3) := by decide +kernel
theorem dX1_copyFrom_23 : decode cX1_copyFrom 23 = .ok (.aload_n 1, 1) := by decide +kernel
theorem dX1_copyFrom_24 : decode cX1_copyFrom 24 = .ok (.getfield 15, 3) := by decide +kernel
theorem dX1_copyFrom_27 : decode cX1_copyFrom 27 = .ok (.iconst 0, 1) := by decide +kernel
theorem dX1_copyFrom_28 : decode cX1_copyFrom 28 = .ok (.aload_n 0, 1) := by decide +kernel
theorem dX1_copyFrom_29 : decode cX1_copyFrom 29 = .ok (.getfield 15, 3) := by decide +kernel
theorem dX1_copyFrom_32 : decode cX1_copyFrom 32 = .ok (.iconst 0, 1) := by decide +kernel
theorem dX1_copyFrom_33 : decode cX1_copyFrom 33 = .ok (.bipush 6, 2) := by decide +kernel
theorem dX1_copyFrom_35 : decode cX1_copyFrom 35 = .ok (.invokestatic 27, 3) := by decide +kernel
theorem dX1_copyFrom_38 : decode cX1_copyFrom 38 = .ok (.return_, 1) := by decide +kernel
theorem dX1_isShot_0 : decode cX1_isShot 0 = .ok (.aload_n 0, 1) := by decide +kernel
theorem dX1_isShot_1 : decode cX1_isShot 1 = .ok (.getfield 33, 3) := by decide +kernel
theorem dX1_isShot_4 : decode cX1_isShot 4 = .ok (.iload_n 1, 1) := by decide +kernel
theorem dX1_isShot_5 : decode cX1_isShot 5 = .ok (.ishr, 1) := by decide +kernel
theorem dX1_isShot_6 : decode cX1_isShot 6 = .ok (.iconst 1, 1) := by decide +kernel
theorem dX1_isShot_7 : decode cX1_isShot 7 = .ok (.iand, 1) := by decide +kernel
theorem dX1_isShot_8 : decode cX1_isShot 8 = .ok (.ifCond .eq 7, 3) := by decide +kernel
theorem dX1_isShot_11 : decode cX1_isShot 11 = .ok (.iconst 1, 1) := by decide +kernel
theorem dX1_isShot_12 : decode cX1_isShot 12 = .ok (.goto 4, 3) := by decide +kernel
theorem dX1_isShot_15 : decode cX1_isShot 15 = .ok (.iconst 0, 1) := by decide +kernel
theorem dX1_isShot_16 : decode cX1_isShot 16 = .ok (.ireturn, 1) := by decide +kernel
theorem dX1_timesOfDay_0 : decode cX1_timesOfDay 0 = .ok (.iconst 0, 1) := by decide +kernel
theorem dX1_timesOfDay_1 : decode cX1_timesOfDay 1 = .ok (.istore_n 2, 1) := by decide +kernel
theorem dX1_timesOfDay_2 : decode cX1_timesOfDay 2 = .ok (.iconst 0, 1) := by decide +kernel
theorem dX1_timesOfDay_3 : decode cX1_timesOfDay 3 = .ok (.istore_n 3, 1) := by decide +kernel
theorem dX1_timesOfDay_4 : decode cX1_timesOfDay 4 = .ok (.iload_n 3, 1) := by decide +kernel
theorem dX1_timesOfDay_5 : decode cX1_timesOfDay 5 = .ok (.bipush 24, 2) := by decide +kernel
theorem dX1_timesOfDay_7 : decode cX1_timesOfDay 7 = .ok (.if_icmp .ge 23, 3) := by decide +kernel
theorem dX1_timesOfDay_10 : decode cX1_timesOfDay 10 = .ok (.iload_n 2, 1) := by decide +kernel
theorem dX1_timesOfDay_11 : decode cX1_timesOfDay 11 = .ok (.aload_n 0, 1) := by decide +kernel
theorem dX1_timesOfDay_12 : decode cX1_timesOfDay 12 = .ok (.getfield 9, 3) := by decide +kernel
theorem dX1_timesOfDay_15 : decode cX1_timesOfDay 15 = .ok (.iload_n 1, 1) := by decide +kernel
theorem dX1_timesOfDay_16 : decode cX1_timesOfDay 16 = .ok (.bipush 24, 2) := by decide +kernel
theorem dX1_timesOfDay_18 : decode cX1_timesOfDay 18 = .ok (.imul, 1) := by decide +kernel
theorem dX1_timesOfDay_19 : decode cX1_timesOfDay 19 = .ok (.iload_n 3, 1) := by decide +kernel
theorem dX1_timesOfDay_20 : decode cX1_timesOfDay 20 = .ok (.iadd, 1) := by decide +kernel
theorem dX1_timesOfDay_21 : decode cX1_timesOfDay 21 = .ok (.iaload, 1) := by decide +kernel
theorem dX1_timesOfDay_22 : decode cX1_timesOfDay 22 = .ok (.iadd, 1) := by decide +kernel
theorem dX1_timesOfDay_23 : decode cX1_timesOfDay 23 = .ok (.istore_n 2, 1) := by decide +kernel
theorem dX1_timesOfDay_24 : decode cX1_timesOfDay 24 = .ok (.iinc 3 1, 3) := by decide +kernel
theorem dX1_timesOfDay_27 : decode cX1_timesOfDay 27 = .ok (.goto (-23), 3) := by decide +kernel
theorem dX1_timesOfDay_30 : decode cX1_timesOfDay 30 = .ok (.iload_n 2, 1) := by decide +kernel
theorem dX1_timesOfDay_31 : decode cX1_timesOfDay 31 = .ok (.ireturn, 1) := by decide +kernel
theorem dX1_callCount_0 : decode cX1_callCount 0 = .ok (.iconst 0, 1) := by decide +kernel
theorem dX1_callCount_1 : decode cX1_callCount 1 = .ok (.istore_n 1, 1) := by decide +kernel
theorem dX1_callCount_2 : decode cX1_callCount 2 = .ok (.iconst 0, 1) := by decide +kernel
theorem dX1_callCount_3 : decode cX1_callCount 3 = .ok (.istore_n 2, 1) := by decide +kernel
theorem dX1_callCount_4 : decode cX1_callCount 4 = .ok (.iload_n 2, 1) := by decide +kernel
theorem dX1_callCount_5 : decode cX1_callCount 5 = .ok (.aload_n 0, 1) := by decide +kernel
theorem dX1_callCount_6 : decode cX1_callCount 6 = .ok (.getfield 9, 3) := by decide +kernel
theorem dX1_callCount_9 : decode cX1_callCount 9 = .ok (.arraylength, 1) := by decide +kernel
theorem dX1_callCount_10 : decode cX1_callCount 10 = .ok (.if_icmp .ge 26, 3) := by decide +kernel
theorem dX1_callCount_13 : decode cX1_callCount 13 = .ok (.iload_n 1, 1) := by decide +kernel
theorem dX1_callCount_14 : decode cX1_callCount 14 = .ok (.aload_n 0, 1) := by decide +kernel
theorem dX1_callCount_15 : decode cX1_callCount 15 = .ok (.getfield 9, 3) := by decide +kernel
theorem dX1_callCount_18 : decode cX1_callCount 18 = .ok (.iload_n 2, 1) := by decide +kernel
theorem dX1_callCount_19 : decode cX1_callCount 19 = .ok (.iaload, 1) := by decide +kernel
theorem dX1_callCount_20 : decode cX1_callCount 20 = .ok (.ifCond .eq 7, 3) := by decide +kernel
theorem dX1_callCount_23 : decode cX1_callCount 23 = .ok (.iconst 1, 1) := by decide +kernel
theorem dX1_callCount_24 : decode cX1_callCount 24 = .ok (.goto 4, 3) := by decide +kernel
theorem dX1_callCount_27 : decode cX1_callCount 27 = .ok (.iconst 0, 1) := by decide +kernel
theorem dX1_callCount_28 : decode cX1_callCount 28 = .ok (.iadd, 1) := by decide +kernel
theorem dX1_callCount_29 : decode cX1_callCount 29 = .ok (.istore_n 1, 1) := by decide +kernel
theorem dX1_callCount_30 : decode cX1_callCount 30 = .ok (.iinc 2 1, 3) := by decide +kernel
theorem dX1_callCount_33 : decode cX1_callCount 33 = .ok (.goto (-29), 3) := by decide +kernel
theorem dX1_callCount_36 : decode cX1_callCount 36 = .ok (.iload_n 1, 1) := by decide +kernel
theorem dX1_callCount_37 : decode cX1_callCount 37 = .ok (.ireturn, 1) := by decide +kernel
theorem dX1_debtCount_0 : decode cX1_debtCount 0 = .ok (.iconst 0, 1) := by decide +kernel
theorem dX1_debtCount_1 : decode cX1_debtCount 1 = .ok (.istore_n 1, 1) := by decide +kernel
theorem dX1_debtCount_2 : decode cX1_debtCount 2 = .ok (.iconst 0, 1) := by decide +kernel
theorem dX1_debtCount_3 : decode cX1_debtCount 3 = .ok (.istore_n 2, 1) := by decide +kernel
theorem dX1_debtCount_4 : decode cX1_debtCount 4 = .ok (.iload_n 2, 1) := by decide +kernel
theorem dX1_debtCount_5 : decode cX1_debtCount 5 = .ok (.bipush 6, 2) := by decide +kernel
theorem dX1_debtCount_7 : decode cX1_debtCount 7 = .ok (.if_icmp .ge 27, 3) := by decide +kernel
theorem dX1_debtCount_10 : decode cX1_debtCount 10 = .ok (.iload_n 1, 1) := by decide +kernel
theorem dX1_debtCount_11 : decode cX1_debtCount 11 = .ok (.aload_n 0, 1) := by decide +kernel
theorem dX1_debtCount_12 : decode cX1_debtCount 12 = .ok (.getfield 15, 3) := by decide +kernel
theorem dX1_debtCount_15 : decode cX1_debtCount 15 = .ok (.iload_n 2, 1) := by decide +kernel
theorem dX1_debtCount_16 : decode cX1_debtCount 16 = .ok (.iaload, 1) := by decide +kernel
theorem dX1_debtCount_17 : decode cX1_debtCount 17 = .ok (.iconst (-1), 1) := by decide +kernel
theorem dX1_debtCount_18 : decode cX1_debtCount 18 = .ok (.if_icmp .eq 7, 3) := by decide +kernel
theorem dX1_debtCount_21 : decode cX1_debtCount 21 = .ok (.iconst 1, 1) := by decide +kernel
theorem dX1_debtCount_22 : decode cX1_debtCount 22 = .ok (.goto 4, 3) := by decide +kernel
theorem dX1_debtCount_25 : decode cX1_debtCount 25 = .ok (.iconst 0, 1) := by decide +kernel
theorem dX1_debtCount_26 : decode cX1_debtCount 26 = .ok (.iadd, 1) := by decide +kernel
theorem dX1_debtCount_27 : decode cX1_debtCount 27 = .ok (.istore_n 1, 1) := by decide +kernel
theorem dX1_debtCount_28 : decode cX1_debtCount 28 = .ok (.iinc 2 1, 3) := by decide +kernel
theorem dX1_debtCount_31 : decode cX1_debtCount 31 = .ok (.goto (-27), 3) := by decide +kernel
theorem dX1_debtCount_34 : decode cX1_debtCount 34 = .ok (.iload_n 1, 1) := by decide +kernel
theorem dX1_debtCount_35 : decode cX1_debtCount 35 = .ok (.ireturn, 1) := by decide +kernel
theorem dX2_init_0 : decode cX2_init 0 = .ok (.aload_n 0, 1) := by decide +kernel
theorem dX2_init_1 : decode cX2_init 1 = .ok (.invokespecial 3, 3) := by decide +kernel
theorem dX2_init_4 : decode cX2_init 4 = .ok (.aload_n 0, 1) := by decide +kernel
theorem dX2_init_5 : decode cX2_init 5 = .ok (.bipush 24, 2) := by decide +kernel
theorem dX2_init_7 : decode cX2_init 7 = .ok (.newarray .int, 2) := by decide +kernel
theorem dX2_init_9 : decode cX2_init 9 = .ok (.putfield 9, 3) := by decide +kernel
theorem dX2_init_12 : decode cX2_init 12 = .ok (.aload_n 0, 1) := by decide +kernel
theorem dX2_init_13 : decode cX2_init 13 = .ok (.bipush 51, 2) := by decide +kernel
theorem dX2_init_15 : decode cX2_init 15 = .ok (.newarray .long, 2) := by decide +kernel
theorem dX2_init_17 : decode cX2_init 17 = .ok (.putfield 15, 3) := by decide +kernel
theorem dX2_init_20 : decode cX2_init 20 = .ok (.aload_n 0, 1) := by decide +kernel
theorem dX2_init_21 : decode cX2_init 21 = .ok (.aload_n 1, 1) := by decide +kernel
theorem dX2_init_22 : decode cX2_init 22 = .ok (.putfield 19, 3) := by decide +kernel
theorem dX2_init_25 : decode cX2_init 25 = .ok (.aload_n 0, 1) := by decide +kernel
theorem dX2_init_26 : decode cX2_init 26 = .ok (.aload_n 2, 1) := by decide +kernel
theorem dX2_init_27 : decode cX2_init 27 = .ok (.putfield 23, 3) := by decide +kernel
theorem dX2_init_30 : decode cX2_init 30 = .ok (.aload_n 0, 1) := by decide +kernel
theorem dX2_init_31 : decode cX2_init 31 = .ok (.aload_n 3, 1) := by decide +kernel
theorem dX2_init_32 : decode cX2_init 32 = .ok (.putfield 27, 3) := by decide +kernel
theorem dX2_init_35 : decode cX2_init 35 = .ok (.return_, 1) := by decide +kernel
theorem dX2_standOf_0 : decode cX2_standOf 0 = .ok (.aload_n 0, 1) := by decide +kernel
theorem dX2_standOf_1 : decode cX2_standOf 1 = .ok (.getfield 27, 3) := by decide +kernel
theorem dX2_standOf_4 : decode cX2_standOf 4 = .ok (.invokevirtual 31, 3) := by decide +kernel
theorem dX2_standOf_7 : decode cX2_standOf 7 = .ok (.iconst 1, 1) := by decide +kernel
theorem dX2_standOf_8 : decode cX2_standOf 8 = .ok (.iload_n 1, 1) := by decide +kernel
theorem dX2_standOf_9 : decode cX2_standOf 9 = .ok (.ishl, 1) := by decide +kernel
theorem dX2_standOf_10 : decode cX2_standOf 10 = .ok (.istore 4, 2) := by decide +kernel
theorem dX2_standOf_12 : decode cX2_standOf 12 = .ok (.aload_n 0, 1) := by decide +kernel
theorem dX2_standOf_13 : decode cX2_standOf 13 = .ok (.iload 4, 2) := by decide +kernel
theorem dX2_standOf_15 : decode cX2_standOf 15 = .ok (.iload_n 2, 1) := by decide +kernel
theorem dX2_standOf_16 : decode cX2_standOf 16 = .ok (.iload_n 3, 1) := by decide +kernel
theorem dX2_standOf_17 : decode cX2_standOf 17 = .ok (.invokevirtual 36, 3) := by decide +kernel
theorem dX2_standOf_20 : decode cX2_standOf 20 = .ok (.istore 5, 2) := by decide +kernel
theorem dX2_standOf_22 : decode cX2_standOf 22 = .ok (.aload_n 0, 1) := by decide +kernel
theorem dX2_standOf_23 : decode cX2_standOf 23 = .ok (.iconst (-1), 1) := by decide +kernel
theorem dX2_standOf_24 : decode cX2_standOf 24 = .ok (.putfield 40, 3) := by decide +kernel
theorem dX2_standOf_27 : decode cX2_standOf 27 = .ok (.aload_n 0, 1) := by decide +kernel
theorem dX2_standOf_28 : decode cX2_standOf 28 = .ok (.iload 4, 2) := by decide +kernel
theorem dX2_standOf_30 : decode cX2_standOf 30 = .ok (.iload_n 2, 1) := by decide +kernel
theorem dX2_standOf_31 : decode cX2_standOf 31 = .ok (.iload_n 3, 1) := by decide +kernel
theorem dX2_standOf_32 : decode cX2_standOf 32 = .ok (.iload 5, 2) := by decide +kernel
theorem dX2_standOf_34 : decode cX2_standOf 34 = .ok (.invokevirtual 44, 3) := by decide +kernel
theorem dX2_standOf_37 : decode cX2_standOf 37 = .ok (.return_, 1) := by decide +kernel
theorem dX2_picnicOf_0 : decode cX2_picnicOf 0 = .ok (.aload_n 0, 1) := by decide +kernel
theorem dX2_picnicOf_1 : decode cX2_picnicOf 1 = .ok (.iconst (-1), 1) := by decide +kernel
theorem dX2_picnicOf_2 : decode cX2_picnicOf 2 = .ok (.putfield 40, 3) := by decide +kernel
theorem dX2_picnicOf_5 : decode cX2_picnicOf 5 = .ok (.iconst 0, 1) := by decide +kernel
theorem dX2_picnicOf_6 : decode cX2_picnicOf 6 = .ok (.istore 4, 2) := by decide +kernel
theorem dX2_picnicOf_8 : decode cX2_picnicOf 8 = .ok (.iload 4, 2) := by decide +kernel
theorem dX2_picnicOf_10 : decode cX2_picnicOf 10 = .ok (.iconst 1, 1) := by decide +kernel
theorem dX2_picnicOf_11 : decode cX2_picnicOf 11 = .ok (.aload_n 0, 1) := by decide +kernel
theorem dX2_picnicOf_12 : decode cX2_picnicOf 12 = .ok (.getfield 19, 3) := by decide +kernel
theorem dX2_picnicOf_15 : decode cX2_picnicOf 15 = .ok (.getfield 48, 3) := by decide +kernel
theorem dX2_picnicOf_18 : decode cX2_picnicOf 18 = .ok (.ishl, 1) := by decide +kernel
theorem dX2_picnicOf_19 : decode cX2_picnicOf 19 = .ok (.if_icmp .ge 41, 3) := by decide +kernel
theorem dX2_picnicOf_22 : decode cX2_picnicOf 22 = .ok (.iload 4, 2) := by decide +kernel
theorem dX2_picnicOf_24 : decode cX2_picnicOf 24 = .ok (.invokestatic 53, 3) := by decide +kernel
theorem dX2_picnicOf_27 : decode cX2_picnicOf 27 = .ok (.iload_n 1, 1) := by decide +kernel
theorem dX2_picnicOf_28 : decode cX2_picnicOf 28 = .ok (.if_icmp .ne 26, 3) := by decide +kernel
theorem dX2_picnicOf_31 : decode cX2_picnicOf 31 = .ok (.aload_n 0, 1) := by decide +kernel
theorem dX2_picnicOf_32 : decode cX2_picnicOf 32 = .ok (.getfield 27, 3) := by decide +kernel
theorem dX2_picnicOf_35 : decode cX2_picnicOf 35 = .ok (.invokevirtual 31, 3) := by decide +kernel
theorem dX2_picnicOf_38 : decode cX2_picnicOf 38 = .ok (.aload_n 0, 1) := by decide +kernel
theorem dX2_picnicOf_39 : decode cX2_picnicOf 39 = .ok (.iload 4, 2) := by decide +kernel
theorem dX2_picnicOf_41 : decode cX2_picnicOf 41 = .ok (.iload_n 2, 1) := by decide +kernel
theorem dX2_picnicOf_42 : decode cX2_picnicOf 42 = .ok (.iload_n 3, 1) := by decide +kernel
theorem dX2_picnicOf_43 : decode cX2_picnicOf 43 = .ok (.aload_n 0, 1) := by decide +kernel
theorem dX2_picnicOf_44 : decode cX2_picnicOf 44 = .ok (.iload 4, 2) := by decide +kernel
theorem dX2_picnicOf_46 : decode cX2_picnicOf 46 = .ok (.iload_n 2, 1) := by decide +kernel
theorem dX2_picnicOf_47 : decode cX2_picnicOf 47 = .ok (.iload_n 3, 1) := by decide +kernel
theorem dX2_picnicOf_48 : decode cX2_picnicOf 48 = .ok (.invokevirtual 36, 3) := by decide +kernel
theorem dX2_picnicOf_51 : decode cX2_picnicOf 51 = .ok (.invokevirtual 44, 3) := by decide +kernel
theorem dX2_picnicOf_54 : decode cX2_picnicOf 54 = .ok (.iinc 4 1, 3) := by decide +kernel
theorem dX2_picnicOf_57 : decode cX2_picnicOf 57 = .ok (.goto (-49), 3) := by decide +kernel
theorem dX2_picnicOf_60 : decode cX2_picnicOf 60 = .ok (.return_, 1) := by decide +kernel
theorem dX2_play_0 : decode cX2_play 0 = .ok (.aload_n 0, 1) := by decide +kernel
theorem dX2_play_1 : decode cX2_play 1 = .ok (.getfield 27, 3) := by decide +kernel
theorem dX2_play_4 : decode cX2_play 4 = .ok (.invokevirtual 31, 3) := by decide +kernel
theorem dX2_play_7 : decode cX2_play 7 = .ok (.aload_n 0, 1) := by decide +kernel
theorem dX2_play_8 : decode cX2_play 8 = .ok (.getfield 15, 3) := by decide +kernel
theorem dX2_play_11 : decode cX2_play 11 = .ok (.iconst 0, 1) := by decide +kernel
theorem dX2_play_12 : decode cX2_play 12 = .ok (.aload_n 0, 1) := by decide +kernel
theorem dX2_play_13 : decode cX2_play 13 = .ok (.iload_n 1, 1) := by decide +kernel
theorem dX2_play_14 : decode cX2_play 14 = .ok (.iload_n 2, 1) := by decide +kernel
theorem dX2_play_15 : decode cX2_play 15 = .ok (.invokevirtual 59, 3) := by decide +kernel
theorem dX2_play_18 : decode cX2_play 18 = .ok (.lastore, 1) := by decide +kernel
theorem dX2_play_19 : decode cX2_play 19 = .ok (.aload_n 0, 1) := by decide +kernel
theorem dX2_play_20 : decode cX2_play 20 = .ok (.iconst 0, 1) := by decide +kernel
theorem dX2_play_21 : decode cX2_play 21 = .ok (.putfield 63, 3) := by decide +kernel
theorem dX2_play_24 : decode cX2_play 24 = .ok (.aload_n 0, 1) := by decide +kernel
theorem dX2_play_25 : decode cX2_play 25 = .ok (.iconst 1, 1) := by decide +kernel
theorem dX2_play_26 : decode cX2_play 26 = .ok (.putfield 67, 3) := by decide +kernel
theorem dX2_play_29 : decode cX2_play 29 = .ok (.aload_n 0, 1) := by decide +kernel
theorem dX2_play_30 : decode cX2_play 30 = .ok (.getfield 67, 3) := by decide +kernel
theorem dX2_play_33 : decode cX2_play 33 = .ok (.bipush 50, 2) := by decide +kernel
theorem dX2_play_35 : decode cX2_play 35 = .ok (.if_icmp .gt 58, 3) := by decide +kernel
theorem dX2_play_38 : decode cX2_play 38 = .ok (.aload_n 0, 1) := by decide +kernel
theorem dX2_play_39 : decode cX2_play 39 = .ok (.iload_n 1, 1) := by decide +kernel
theorem dX2_play_40 : decode cX2_play 40 = .ok (.iload_n 2, 1) := by decide +kernel
theorem dX2_play_41 : decode cX2_play 41 = .ok (.invokevirtual 70, 3) := by decide +kernel
theorem dX2_play_44 : decode cX2_play 44 = .ok (.ifCond .ne 9, 3) := by decide +kernel
theorem dX2_play_47 : decode cX2_play 47 = .ok (.aload_n 0, 1) := by decide +kernel
theorem dX2_play_48 : decode cX2_play 48 = .ok (.iconst 1, 1) := by decide +kernel
theorem dX2_play_49 : decode cX2_play 49 = .ok (.putfield 63, 3) := by decide +kernel
theorem dX2_play_52 : decode cX2_play 52 = .ok (.return_, 1) := by decide +kernel
theorem dX2_play_53 : decode cX2_play 53 = .ok (.aload_n 0, 1) := by decide +kernel
theorem dX2_play_54 : decode cX2_play 54 = .ok (.getfield 15, 3) := by decide +kernel
theorem dX2_play_57 : decode cX2_play 57 = .ok (.aload_n 0, 1) := by decide +kernel
theorem dX2_play_58 : decode cX2_play 58 = .ok (.getfield 67, 3) := by decide +kernel
theorem dX2_play_61 : decode cX2_play 61 = .ok (.aload_n 0, 1) := by decide +kernel
theorem dX2_play_62 : decode cX2_play 62 = .ok (.iload_n 1, 1) := by decide +kernel
theorem dX2_play_63 : decode cX2_play 63 = .ok (.iload_n 2, 1) := by decide +kernel
theorem dX2_play_64 : decode cX2_play 64 = .ok (.invokevirtual 59, 3) := by decide +kernel
theorem dX2_play_67 : decode cX2_play 67 = .ok (.lastore, 1) := by decide +kernel
theorem dX2_play_68 : decode cX2_play 68 = .ok (.aload_n 0, 1) := by decide +kernel
theorem dX2_play_69 : decode cX2_play 69 = .ok (.aload_n 0, 1) := by decide +kernel
theorem dX2_play_70 : decode cX2_play 70 = .ok (.getfield 67, 3) := by decide +kernel
theorem dX2_play_73 : decode cX2_play 73 = .ok (.invokevirtual 74, 3) := by decide +kernel
theorem dX2_play_76 : decode cX2_play 76 = .ok (.ifCond .eq 4, 3) := by decide +kernel
theorem dX2_play_79 : decode cX2_play 79 = .ok (.return_, 1) := by decide +kernel
theorem dX2_play_80 : decode cX2_play 80 = .ok (.aload_n 0, 1) := by decide +kernel
theorem dX2_play_81 : decode cX2_play 81 = .ok (.dup, 1) := by decide +kernel
theorem dX2_play_82 : decode cX2_play 82 = .ok (.getfield 67, 3) := by decide +kernel
theorem dX2_play_85 : decode cX2_play 85 = .ok (.iconst 1, 1) := by decide +kernel
theorem dX2_play_86 : decode cX2_play 86 = .ok (.iadd, 1) := by decide +kernel
theorem dX2_play_87 : decode cX2_play 87 = .ok (.putfield 67, 3) := by decide +kernel
theorem dX2_play_90 : decode cX2_play 90 = .ok (.goto (-61), 3) := by decide +kernel
theorem dX2_play_93 : decode cX2_play 93 = .ok (.aload_n 0, 1) := by decide +kernel
theorem dX2_play_94 : decode cX2_play 94 = .ok (.bipush 50, 2) := by decide +kernel
theorem dX2_play_96 : decode cX2_play 96 = .ok (.putfield 67, 3) := by decide +kernel
theorem dX2_play_99 : decode cX2_play 99 = .ok (.return_, 1) := by decide +kernel
theorem dX2_playRound_0 : decode cX2_playRound 0 = .ok (.iconst 0, 1) := by decide +kernel
theorem dX2_playRound_1 : decode cX2_playRound 1 = .ok (.istore_n 3, 1) := by decide +kernel
theorem dX2_playRound_2 : decode cX2_playRound 2 = .ok (.iconst 0, 1) := by decide +kernel
theorem dX2_playRound_3 : decode cX2_playRound 3 = .ok (.istore 4, 2) := by decide +kernel
theorem dX2_playRound_5 : decode cX2_playRound 5 = .ok (.iload 4, 2) := by decide +kernel
theorem dX2_playRound_7 : decode cX2_playRound 7 = .ok (.aload_n 0, 1) := by decide +kernel
theorem dX2_playRound_8 : decode cX2_playRound 8 = .ok (.getfield 19, 3) := by decide +kernel
theorem dX2_playRound_11 : decode cX2_playRound 11 = .ok (.getfield 48, 3) := by decide +kernel
theorem dX2_playRound_14 : decode cX2_playRound 14 = .ok (.if_icmp .ge 122, 3) := by decide +kernel
theorem dX2_playRound_17 : decode cX2_playRound 17 = .ok (.iconst 1, 1) := by decide +kernel
theorem dX2_playRound_18 : decode cX2_playRound 18 = .ok (.iload 4, 2) := by decide +kernel
theorem dX2_playRound_20 : decode cX2_playRound 20 = .ok (.ishl, 1) := by decide +kernel
theorem dX2_playRound_21 : decode cX2_playRound 21 = .ok (.istore 5, 2) := by decide +kernel
theorem dX2_playRound_23 : decode cX2_playRound 23 = .ok (.aload_n 0, 1) := by decide +kernel
theorem dX2_playRound_24 : decode cX2_playRound 24 = .ok (.getfield 27, 3) := by decide +kernel
theorem dX2_playRound_27 : decode cX2_playRound 27 = .ok (.iload 5, 2) := by decide +kernel
theorem dX2_playRound_29 : decode cX2_playRound 29 = .ok (.iload_n 1, 1) := by decide +kernel
theorem dX2_playRound_30 : decode cX2_playRound 30 = .ok (.iload_n 2, 1) := by decide +kernel
theorem dX2_playRound_31 : decode cX2_playRound 31 = .ok (.aload_n 0, 1) := by decide +kernel
theorem dX2_playRound_32 : decode cX2_playRound 32 = .ok (.getfield 23, 3) := by decide +kernel
theorem dX2_playRound_35 : decode cX2_playRound 35 = .ok (.getfield 78, 3) := by decide +kernel
theorem dX2_playRound_38 : decode cX2_playRound 38 = .ok (.invokevirtual 83, 3) := by decide +kernel
theorem dX2_playRound_41 : decode cX2_playRound 41 = .ok (.istore 6, 2) := by decide +kernel
theorem dX2_playRound_43 : decode cX2_playRound 43 = .ok (.aload_n 0, 1) := by decide +kernel
theorem dX2_playRound_44 : decode cX2_playRound 44 = .ok (.getfield 27, 3) := by decide +kernel
theorem dX2_playRound_47 : decode cX2_playRound 47 = .ok (.getfield 87, 3) := by decide +kernel
theorem dX2_playRound_50 : decode cX2_playRound 50 = .ok (.iload 4, 2) := by decide +kernel
theorem dX2_playRound_52 : decode cX2_playRound 52 = .ok (.bipush 24, 2) := by decide +kernel
theorem dX2_playRound_54 : decode cX2_playRound 54 = .ok (.imul, 1) := by decide +kernel
theorem dX2_playRound_55 : decode cX2_playRound 55 = .ok (.aload_n 0, 1) := by decide +kernel
theorem dX2_playRound_56 : decode cX2_playRound 56 = .ok (.getfield 9, 3) := by decide +kernel
theorem dX2_playRound_59 : decode cX2_playRound 59 = .ok (.iconst 0, 1) := by decide +kernel
theorem dX2_playRound_60 : decode cX2_playRound 60 = .ok (.bipush 24, 2) := by decide +kernel
theorem dX2_playRound_62 : decode cX2_playRound 62 = .ok (.invokestatic 90, 3) := by decide +kernel
theorem dX2_playRound_65 : decode cX2_playRound 65 = .ok (.aload_n 0, 1) := by decide +kernel
theorem dX2_playRound_66 : decode cX2_playRound 66 = .ok (.iconst (-1), 1) := by decide +kernel
theorem dX2_playRound_67 : decode cX2_playRound 67 = .ok (.putfield 40, 3) := by decide +kernel
theorem dX2_playRound_70 : decode cX2_playRound 70 = .ok (.aload_n 0, 1) := by decide +kernel
theorem dX2_playRound_71 : decode cX2_playRound 71 = .ok (.iload 5, 2) := by decide +kernel
theorem dX2_playRound_73 : decode cX2_playRound 73 = .ok (.iload_n 1, 1) := by decide +kernel
theorem dX2_playRound_74 : decode cX2_playRound 74 = .ok (.iload_n 2, 1) := by decide +kernel
theorem dX2_playRound_75 : decode cX2_playRound 75 = .ok (.iconst 0, 1) := by decide +kernel
theorem dX2_playRound_76 : decode cX2_playRound 76 = .ok (.invokevirtual 44, 3) := by decide +kernel
theorem dX2_playRound_79 : decode cX2_playRound 79 = .ok (.aload_n 0, 1) := by decide +kernel
theorem dX2_playRound_80 : decode cX2_playRound 80 = .ok (.getfield 96, 3) := by decide +kernel
theorem dX2_playRound_83 : decode cX2_playRound 83 = .ok (.iload 6, 2) := by decide +kernel
theorem dX2_playRound_85 : decode cX2_playRound 85 = .ok (.if_icmp .le 23, 3) := by decide +kernel
theorem dX2_playRound_88 : decode cX2_playRound 88 = .ok (.aload_n 0, 1) := by decide +kernel
theorem dX2_playRound_89 : decode cX2_playRound 89 = .ok (.getfield 27, 3) := by decide +kernel
theorem dX2_playRound_92 : decode cX2_playRound 92 = .ok (.iload 5, 2) := by decide +kernel
theorem dX2_playRound_94 : decode cX2_playRound 94 = .ok (.iload_n 1, 1) := by decide +kernel
theorem dX2_playRound_95 : decode cX2_playRound 95 = .ok (.iload_n 2, 1) := by decide +kernel
theorem dX2_playRound_96 : decode cX2_playRound 96 = .ok (.aload_n 0, 1) := by decide +kernel
theorem dX2_playRound_97 : decode cX2_playRound 97 = .ok (.getfield 40, 3) := by decide +kernel
theorem dX2_playRound_100 : decode cX2_playRound 100 = .ok (.invokevirtual 99, 3) := by decide +kernel
theorem dX2_playRound_103 : decode cX2_playRound 103 = .ok (.iconst 1, 1) := by decide +kernel
theorem dX2_playRound_104 : decode cX2_playRound 104 = .ok (.istore_n 3, 1) := by decide +kernel
theorem dX2_playRound_105 : decode cX2_playRound 105 = .ok (.goto 25, 3) := by decide +kernel
theorem dX2_playRound_108 : decode cX2_playRound 108 = .ok (.aload_n 0, 1) := by decide +kernel
theorem dX2_playRound_109 : decode cX2_playRound 109 = .ok (.getfield 9, 3) := by decide +kernel
theorem dX2_playRound_112 : decode cX2_playRound 112 = .ok (.iconst 0, 1) := by decide +kernel
theorem dX2_playRound_113 : decode cX2_playRound 113 = .ok (.aload_n 0, 1) := by decide +kernel
theorem dX2_playRound_114 : decode cX2_playRound 114 = .ok (.getfield 27, 3) := by decide +kernel
theorem dX2_playRound_117 : decode cX2_playRound 117 = .ok (.getfield 87, 3) := by decide +kernel
theorem dX2_playRound_120 : decode cX2_playRound 120 = .ok (.iload 4, 2) := by decide +kernel
theorem dX2_playRound_122 : decode cX2_playRound 122 = .ok (.bipush 24, 2) := by decide +kernel
theorem dX2_playRound_124 : decode cX2_playRound 124 = .ok (.imul, 1) := by decide +kernel
theorem dX2_playRound_125 : decode cX2_playRound 125 = .ok (.bipush 24, 2) := by decide +kernel
theorem dX2_playRound_127 : decode cX2_playRound 127 = .ok (.invokestatic 90, 3) := by decide +kernel
theorem dX2_playRound_130 : decode cX2_playRound 130 = .ok (.iinc 4 1, 3) := by decide +kernel
theorem dX2_playRound_133 : decode cX2_playRound 133 = .ok (.goto (-128), 3) := by decide +kernel
theorem dX2_playRound_136 : decode cX2_playRound 136 = .ok (.iload_n 3, 1) := by decide +kernel
theorem dX2_playRound_137 : decode cX2_playRound 137 = .ok (.ireturn, 1) := by decide +kernel
theorem dX2_gainOutside_0 : decode cX2_gainOutside 0 = .ok (.aload_n 0, 1) := by decide +kernel
theorem dX2_gainOutside_1 : decode cX2_gainOutside 1 = .ok (.getfield 27, 3) := by decide +kernel
theorem dX2_gainOutside_4 : decode cX2_gainOutside 4 = .ok (.iload_n 1, 1) := by decide +kernel
theorem dX2_gainOutside_5 : decode cX2_gainOutside 5 = .ok (.iconst 0, 1) := by decide +kernel
theorem dX2_gainOutside_6 : decode cX2_gainOutside 6 = .ok (.iload_n 2, 1) := by decide +kernel
theorem dX2_gainOutside_7 : decode cX2_gainOutside 7 = .ok (.iconst 1, 1) := by decide +kernel
theorem dX2_gainOutside_8 : decode cX2_gainOutside 8 = .ok (.isub, 1) := by decide +kernel
theorem dX2_gainOutside_9 : decode cX2_gainOutside 9 = .ok (.aload_n 0, 1) := by decide +kernel
theorem dX2_gainOutside_10 : decode cX2_gainOutside 10 = .ok (.getfield 23, 3) := by decide +kernel
theorem dX2_gainOutside_13 : decode cX2_gainOutside 13 = .ok (.getfield 78, 3) := by decide +kernel
theorem dX2_gainOutside_16 : decode cX2_gainOutside 16 = .ok (.invokevirtual 83, 3) := by decide +kernel
theorem dX2_gainOutside_19 : decode cX2_gainOutside 19 = .ok (.aload_n 0, 1) := by decide +kernel
theorem dX2_gainOutside_20 : decode cX2_gainOutside 20 = .ok (.getfield 27, 3) := by decide +kernel
theorem dX2_gainOutside_23 : decode cX2_gainOutside 23 = .ok (.iload_n 1, 1) := by decide +kernel
theorem dX2_gainOutside_24 : decode cX2_gainOutside 24 = .ok (.iload_n 3, 1) := by decide +kernel
theorem dX2_gainOutside_25 : decode cX2_gainOutside 25 = .ok (.iconst 1, 1) := by decide +kernel
theorem dX2_gainOutside_26 : decode cX2_gainOutside 26 = .ok (.iadd, 1) := by decide +kernel
theorem dX2_gainOutside_27 : decode cX2_gainOutside 27 = .ok (.bipush 23, 2) := by decide +kernel
theorem dX2_gainOutside_29 : decode cX2_gainOutside 29 = .ok (.aload_n 0, 1) := by decide +kernel
theorem dX2_gainOutside_30 : decode cX2_gainOutside 30 = .ok (.getfield 23, 3) := by decide +kernel
theorem dX2_gainOutside_33 : decode cX2_gainOutside 33 = .ok (.getfield 78, 3) := by decide +kernel
theorem dX2_gainOutside_36 : decode cX2_gainOutside 36 = .ok (.invokevirtual 83, 3) := by decide +kernel
theorem dX2_gainOutside_39 : decode cX2_gainOutside 39 = .ok (.iadd, 1) := by decide +kernel
theorem dX2_gainOutside_40 : decode cX2_gainOutside 40 = .ok (.ireturn, 1) := by decide +kernel
theorem dX2_tryCells_0 : decode cX2_tryCells 0 = .ok (.iconst 0, 1) := by decide +kernel
theorem dX2_tryCells_1 : decode cX2_tryCells 1 = .ok (.istore 5, 2) := by decide +kernel
theorem dX2_tryCells_3 : decode cX2_tryCells 3 = .ok (.iload 5, 2) := by decide +kernel
theorem dX2_tryCells_5 : decode cX2_tryCells 5 = .ok (.aload_n 0, 1) := by decide +kernel
theorem dX2_tryCells_6 : decode cX2_tryCells 6 = .ok (.getfield 19, 3) := by decide +kernel
theorem dX2_tryCells_9 : decode cX2_tryCells 9 = .ok (.getfield 102, 3) := by decide +kernel
theorem dX2_tryCells_12 : decode cX2_tryCells 12 = .ok (.if_icmp .ge 108, 3) := by decide +kernel
theorem dX2_tryCells_15 : decode cX2_tryCells 15 = .ok (.iconst 0, 1) := by decide +kernel
theorem dX2_tryCells_16 : decode cX2_tryCells 16 = .ok (.istore 6, 2) := by decide +kernel
theorem dX2_tryCells_18 : decode cX2_tryCells 18 = .ok (.iload 6, 2) := by decide +kernel
theorem dX2_tryCells_20 : decode cX2_tryCells 20 = .ok (.aload_n 0, 1) := by decide +kernel
theorem dX2_tryCells_21 : decode cX2_tryCells 21 = .ok (.getfield 19, 3) := by decide +kernel
theorem dX2_tryCells_24 : decode cX2_tryCells 24 = .ok (.getfield 105, 3) := by decide +kernel
theorem dX2_tryCells_27 : decode cX2_tryCells 27 = .ok (.if_icmp .ge 87, 3) := by decide +kernel
theorem dX2_tryCells_30 : decode cX2_tryCells 30 = .ok (.iload 5, 2) := by decide +kernel
theorem dX2_tryCells_32 : decode cX2_tryCells 32 = .ok (.bipush 8, 2) := by decide +kernel
theorem dX2_tryCells_34 : decode cX2_tryCells 34 = .ok (.imul, 1) := by decide +kernel
theorem dX2_tryCells_35 : decode cX2_tryCells 35 = .ok (.iload 6, 2) := by decide +kernel
theorem dX2_tryCells_37 : decode cX2_tryCells 37 = .ok (.iadd, 1) := by decide +kernel
theorem dX2_tryCells_38 : decode cX2_tryCells 38 = .ok (.istore 7, 2) := by decide +kernel
theorem dX2_tryCells_40 : decode cX2_tryCells 40 = .ok (.aload_n 0, 1) := by decide +kernel
theorem dX2_tryCells_41 : decode cX2_tryCells 41 = .ok (.getfield 27, 3) := by decide +kernel
theorem dX2_tryCells_44 : decode cX2_tryCells 44 = .ok (.iload_n 1, 1) := by decide +kernel
theorem dX2_tryCells_45 : decode cX2_tryCells 45 = .ok (.iload_n 2, 1) := by decide +kernel
theorem dX2_tryCells_46 : decode cX2_tryCells 46 = .ok (.iload_n 3, 1) := by decide +kernel
theorem dX2_tryCells_47 : decode cX2_tryCells 47 = .ok (.iload 7, 2) := by decide +kernel
theorem dX2_tryCells_49 : decode cX2_tryCells 49 = .ok (.invokevirtual 99, 3) := by decide +kernel
theorem dX2_tryCells_52 : decode cX2_tryCells 52 = .ok (.iload 4, 2) := by decide +kernel
theorem dX2_tryCells_54 : decode cX2_tryCells 54 = .ok (.aload_n 0, 1) := by decide +kernel
theorem dX2_tryCells_55 : decode cX2_tryCells 55 = .ok (.getfield 27, 3) := by decide +kernel
theorem dX2_tryCells_58 : decode cX2_tryCells 58 = .ok (.iload_n 1, 1) := by decide +kernel
theorem dX2_tryCells_59 : decode cX2_tryCells 59 = .ok (.iload_n 2, 1) := by decide +kernel
theorem dX2_tryCells_60 : decode cX2_tryCells 60 = .ok (.iload_n 3, 1) := by decide +kernel
theorem dX2_tryCells_61 : decode cX2_tryCells 61 = .ok (.aload_n 0, 1) := by decide +kernel
theorem dX2_tryCells_62 : decode cX2_tryCells 62 = .ok (.getfield 23, 3) := by decide +kernel
theorem dX2_tryCells_65 : decode cX2_tryCells 65 = .ok (.getfield 78, 3) := by decide +kernel
theorem dX2_tryCells_68 : decode cX2_tryCells 68 = .ok (.invokevirtual 83, 3) := by decide +kernel
theorem dX2_tryCells_71 : decode cX2_tryCells 71 = .ok (.iadd, 1) := by decide +kernel
theorem dX2_tryCells_72 : decode cX2_tryCells 72 = .ok (.istore 8, 2) := by decide +kernel
theorem dX2_tryCells_74 : decode cX2_tryCells 74 = .ok (.aload_n 0, 1) := by decide +kernel
theorem dX2_tryCells_75 : decode cX2_tryCells 75 = .ok (.getfield 40, 3) := by decide +kernel
theorem dX2_tryCells_78 : decode cX2_tryCells 78 = .ok (.iconst (-1), 1) := by decide +kernel
theorem dX2_tryCells_79 : decode cX2_tryCells 79 = .ok (.if_icmp .eq 12, 3) := by decide +kernel
theorem dX2_tryCells_82 : decode cX2_tryCells 82 = .ok (.iload 8, 2) := by decide +kernel
theorem dX2_tryCells_84 : decode cX2_tryCells 84 = .ok (.aload_n 0, 1) := by decide +kernel
theorem dX2_tryCells_85 : decode cX2_tryCells 85 = .ok (.getfield 96, 3) := by decide +kernel
theorem dX2_tryCells_88 : decode cX2_tryCells 88 = .ok (.if_icmp .le 20, 3) := by decide +kernel
theorem dX2_tryCells_91 : decode cX2_tryCells 91 = .ok (.aload_n 0, 1) := by decide +kernel
theorem dX2_tryCells_92 : decode cX2_tryCells 92 = .ok (.iload 7, 2) := by decide +kernel
theorem dX2_tryCells_94 : decode cX2_tryCells 94 = .ok (.putfield 40, 3) := by decide +kernel
theorem dX2_tryCells_97 : decode cX2_tryCells 97 = .ok (.aload_n 0, 1) := by decide +kernel
theorem dX2_tryCells_98 : decode cX2_tryCells 98 = .ok (.iload 8, 2) := by decide +kernel
theorem dX2_tryCells_100 : decode cX2_tryCells 100 = .ok (.putfield 96, 3) := by decide +kernel
theorem dX2_tryCells_103 : decode cX2_tryCells 103 = .ok (.aload_n 0, 1) := by decide +kernel
theorem dX2_tryCells_104 : decode cX2_tryCells 104 = .ok (.iload_n 1, 1) := by decide +kernel
theorem dX2_tryCells_105 : decode cX2_tryCells 105 = .ok (.putfield 108, 3) := by decide +kernel
theorem dX2_tryCells_108 : decode cX2_tryCells 108 = .ok (.iinc 6 1, 3) := by decide +kernel
theorem dX2_tryCells_111 : decode cX2_tryCells 111 = .ok (.goto (-93), 3) := by decide +kernel
theorem dX2_tryCells_114 : decode cX2_tryCells 114 = .ok (.iinc 5 1, 3) := by decide +kernel
theorem dX2_tryCells_117 : decode cX2_tryCells 117 = .ok (.goto (-114), 3) := by decide +kernel
theorem dX2_tryCells_120 : decode cX2_tryCells 120 = .ok (.return_, 1) := by decide +kernel
theorem dX2_standing_0 : decode cX2_standing 0 = .ok (.lconst 0, 1) := by decide +kernel
theorem dX2_standing_1 : decode cX2_standing 1 = .ok (.lstore_n 3, 1) := by decide +kernel
theorem dX2_standing_2 : decode cX2_standing 2 = .ok (.iconst 0, 1) := by decide +kernel
theorem dX2_standing_3 : decode cX2_standing 3 = .ok (.istore 5, 2) := by decide +kernel
theorem dX2_standing_5 : decode cX2_standing 5 = .ok (.iload 5, 2) := by decide +kernel
theorem dX2_standing_7 : decode cX2_standing 7 = .ok (.aload_n 0, 1) := by decide +kernel
theorem dX2_standing_8 : decode cX2_standing 8 = .ok (.getfield 19, 3) := by decide +kernel
theorem dX2_standing_11 : decode cX2_standing 11 = .ok (.getfield 48, 3) := by decide +kernel
theorem dX2_standing_14 : decode cX2_standing 14 = .ok (.if_icmp .ge 90, 3) := by decide +kernel
theorem dX2_standing_17 : decode cX2_standing 17 = .ok (.aload_n 0, 1) := by decide +kernel
theorem dX2_standing_18 : decode cX2_standing 18 = .ok (.getfield 27, 3) := by decide +kernel
theorem dX2_standing_21 : decode cX2_standing 21 = .ok (.getfield 87, 3) := by decide +kernel
theorem dX2_standing_24 : decode cX2_standing 24 = .ok (.iload 5, 2) := by decide +kernel
theorem dX2_standing_26 : decode cX2_standing 26 = .ok (.bipush 24, 2) := by decide +kernel
theorem dX2_standing_28 : decode cX2_standing 28 = .ok (.imul, 1) := by decide +kernel
theorem dX2_standing_29 : decode cX2_standing 29 = .ok (.iload_n 1, 1) := by decide +kernel
theorem dX2_standing_30 : decode cX2_standing 30 = .ok (.iadd, 1) := by decide +kernel
theorem dX2_standing_31 : decode cX2_standing 31 = .ok (.iaload, 1) := by decide +kernel
theorem dX2_standing_32 : decode cX2_standing 32 = .ok (.istore 6, 2) := by decide +kernel
theorem dX2_standing_34 : decode cX2_standing 34 = .ok (.iload_n 1, 1) := by decide +kernel
theorem dX2_standing_35 : decode cX2_standing 35 = .ok (.iconst 1, 1) := by decide +kernel
theorem dX2_standing_36 : decode cX2_standing 36 = .ok (.iadd, 1) := by decide +kernel
theorem dX2_standing_37 : decode cX2_standing 37 = .ok (.istore 7, 2) := by decide +kernel
theorem dX2_standing_39 : decode cX2_standing 39 = .ok (.iload 7, 2) := by decide +kernel
theorem dX2_standing_41 : decode cX2_standing 41 = .ok (.iload_n 2, 1) := by decide +kernel
theorem dX2_standing_42 : decode cX2_standing 42 = .ok (.if_icmp .gt 47, 3) := by decide +kernel
theorem dX2_standing_45 : decode cX2_standing 45 = .ok (.aload_n 0, 1) := by decide +kernel
theorem dX2_standing_46 : decode cX2_standing 46 = .ok (.getfield 27, 3) := by decide +kernel
theorem dX2_standing_49 : decode cX2_standing 49 = .ok (.getfield 87, 3) := by decide +kernel
theorem dX2_standing_52 : decode cX2_standing 52 = .ok (.iload 5, 2) := by decide +kernel
theorem dX2_standing_54 : decode cX2_standing 54 = .ok (.bipush 24, 2) := by decide +kernel
theorem dX2_standing_56 : decode cX2_standing 56 = .ok (.imul, 1) := by decide +kernel
theorem dX2_standing_57 : decode cX2_standing 57 = .ok (.iload 7, 2) := by decide +kernel
theorem dX2_standing_59 : decode cX2_standing 59 = .ok (.iadd, 1) := by decide +kernel
theorem dX2_standing_60 : decode cX2_standing 60 = .ok (.iaload, 1) := by decide +kernel
theorem dX2_standing_61 : decode cX2_standing 61 = .ok (.aload_n 0, 1) := by decide +kernel
theorem dX2_standing_62 : decode cX2_standing 62 = .ok (.getfield 27, 3) := by decide +kernel
theorem dX2_standing_65 : decode cX2_standing 65 = .ok (.getfield 87, 3) := by decide +kernel
theorem dX2_standing_68 : decode cX2_standing 68 = .ok (.iload 5, 2) := by decide +kernel
theorem dX2_standing_70 : decode cX2_standing 70 = .ok (.bipush 24, 2) := by decide +kernel
theorem dX2_standing_72 : decode cX2_standing 72 = .ok (.imul, 1) := by decide +kernel
theorem dX2_standing_73 : decode cX2_standing 73 = .ok (.iload_n 1, 1) := by decide +kernel
theorem dX2_standing_74 : decode cX2_standing 74 = .ok (.iadd, 1) := by decide +kernel
theorem dX2_standing_75 : decode cX2_standing 75 = .ok (.iaload, 1) := by decide +kernel
theorem dX2_standing_76 : decode cX2_standing 76 = .ok (.if_icmp .eq 7, 3) := by decide +kernel
theorem dX2_standing_79 : decode cX2_standing 79 = .ok (.bipush 64, 2) := by decide +kernel
theorem dX2_standing_81 : decode cX2_standing 81 = .ok (.istore 6, 2) := by decide +kernel
theorem dX2_standing_83 : decode cX2_standing 83 = .ok (.iinc 7 1, 3) := by decide +kernel
theorem dX2_standing_86 : decode cX2_standing 86 = .ok (.goto (-47), 3) := by decide +kernel
theorem dX2_standing_89 : decode cX2_standing 89 = .ok (.lload_n 3, 1) := by decide +kernel
theorem dX2_standing_90 : decode cX2_standing 90 = .ok (.bipush 7, 2) := by decide +kernel
theorem dX2_standing_92 : decode cX2_standing 92 = .ok (.lshl, 1) := by decide +kernel
theorem dX2_standing_93 : decode cX2_standing 93 = .ok (.iload 6, 2) := by decide +kernel
theorem dX2_standing_95 : decode cX2_standing 95 = .ok (.i2l, 1) := by decide +kernel
theorem dX2_standing_96 : decode cX2_standing 96 = .ok (.ladd, 1) := by decide +kernel
theorem dX2_standing_97 : decode cX2_standing 97 = .ok (.lstore_n 3, 1) := by decide +kernel
theorem dX2_standing_98 : decode cX2_standing 98 = .ok (.iinc 5 1, 3) := by decide +kernel
theorem dX2_standing_101 : decode cX2_standing 101 = .ok (.goto (-96), 3) := by decide +kernel
theorem dX2_standing_104 : decode cX2_standing 104 = .ok (.lload_n 3, 1) := by decide +kernel
theorem dX2_standing_105 : decode cX2_standing 105 = .ok (.lreturn, 1) := by decide +kernel
theorem dX2_wasSeen_0 : decode cX2_wasSeen 0 = .ok (.iconst 0, 1) := by decide +kernel
theorem dX2_wasSeen_1 : decode cX2_wasSeen 1 = .ok (.istore_n 2, 1) := by decide +kernel
theorem dX2_wasSeen_2 : decode cX2_wasSeen 2 = .ok (.iload_n 2, 1) := by decide +kernel
theorem dX2_wasSeen_3 : decode cX2_wasSeen 3 = .ok (.iload_n 1, 1) := by decide +kernel
theorem dX2_wasSeen_4 : decode cX2_wasSeen 4 = .ok (.if_icmp .ge 27, 3) := by decide +kernel
theorem dX2_wasSeen_7 : decode cX2_wasSeen 7 = .ok (.aload_n 0, 1) := by decide +kernel
theorem dX2_wasSeen_8 : decode cX2_wasSeen 8 = .ok (.getfield 15, 3) := by decide +kernel
theorem dX2_wasSeen_11 : decode cX2_wasSeen 11 = .ok (.iload_n 2, 1) := by decide +kernel
theorem dX2_wasSeen_12 : decode cX2_wasSeen 12 = .ok (.laload, 1) := by decide +kernel
theorem dX2_wasSeen_13 : decode cX2_wasSeen 13 = .ok (.aload_n 0, 1) := by decide +kernel
theorem dX2_wasSeen_14 : decode cX2_wasSeen 14 = .ok (.getfield 15, 3) := by decide +kernel
theorem dX2_wasSeen_17 : decode cX2_wasSeen 17 = .ok (.iload_n 1, 1) := by decide +kernel
theorem dX2_wasSeen_18 : decode cX2_wasSeen 18 = .ok (.laload, 1) := by decide +kernel
theorem dX2_wasSeen_19 : decode cX2_wasSeen 19 = .ok (.lcmp, 1) := by decide +kernel
theorem dX2_wasSeen_20 : decode cX2_wasSeen 20 = .ok (.ifCond .ne 5, 3) := by decide +kernel
theorem dX2_wasSeen_23 : decode cX2_wasSeen 23 = .ok (.iconst 1, 1) := by decide +kernel
theorem dX2_wasSeen_24 : decode cX2_wasSeen 24 = .ok (.ireturn, 1) := by decide +kernel
theorem dX2_wasSeen_25 : decode cX2_wasSeen 25 = .ok (.iinc 2 1, 3) := by decide +kernel
theorem dX2_wasSeen_28 : decode cX2_wasSeen 28 = .ok (.goto (-26), 3) := by decide +kernel
theorem dX2_wasSeen_31 : decode cX2_wasSeen 31 = .ok (.iconst 0, 1) := by decide +kernel
theorem dX2_wasSeen_32 : decode cX2_wasSeen 32 = .ok (.ireturn, 1) := by decide +kernel
theorem dX3_init_0 : decode cX3_init 0 = .ok (.aload_n 0, 1) := by decide +kernel
theorem dX3_init_1 : decode cX3_init 1 = .ok (.invokespecial 3, 3) := by decide +kernel
theorem dX3_init_4 : decode cX3_init 4 = .ok (.aload_n 0, 1) := by decide +kernel
theorem dX3_init_5 : decode cX3_init 5 = .ok (.bipush 20, 2) := by decide +kernel
theorem dX3_init_7 : decode cX3_init 7 = .ok (.newarray .int, 2) := by decide +kernel
theorem dX3_init_9 : decode cX3_init 9 = .ok (.putfield 11, 3) := by decide +kernel
theorem dX3_init_12 : decode cX3_init 12 = .ok (.aload_n 0, 1) := by decide +kernel
theorem dX3_init_13 : decode cX3_init 13 = .ok (.bipush 20, 2) := by decide +kernel
theorem dX3_init_15 : decode cX3_init 15 = .ok (.newarray .int, 2) := by decide +kernel
theorem dX3_init_17 : decode cX3_init 17 = .ok (.putfield 15, 3) := by decide +kernel
theorem dX3_init_20 : decode cX3_init 20 = .ok (.aload_n 0, 1) := by decide +kernel
theorem dX3_init_21 : decode cX3_init 21 = .ok (.bipush 20, 2) := by decide +kernel
theorem dX3_init_23 : decode cX3_init 23 = .ok (.newarray .int, 2) := by decide +kernel
theorem dX3_init_25 : decode cX3_init 25 = .ok (.putfield 18, 3) := by decide +kernel
theorem dX3_init_28 : decode cX3_init 28 = .ok (.return_, 1) := by decide +kernel
theorem dX3_remember_0 : decode cX3_remember 0 = .ok (.aload_n 0, 1) := by decide +kernel
theorem dX3_remember_1 : decode cX3_remember 1 = .ok (.getfield 21, 3) := by decide +kernel
theorem dX3_remember_4 : decode cX3_remember 4 = .ok (.bipush 20, 2) := by decide +kernel
theorem dX3_remember_6 : decode cX3_remember 6 = .ok (.if_icmp .lt 7, 3) := by decide +kernel
theorem dX3_remember_9 : decode cX3_remember 9 = .ok (.aload_n 0, 1) := by decide +kernel
theorem dX3_remember_10 : decode cX3_remember 10 = .ok (.invokevirtual 25, 3) := by decide +kernel
theorem dX3_remember_13 : decode cX3_remember 13 = .ok (.aload_n 0, 1) := by decide +kernel
theorem dX3_remember_14 : decode cX3_remember 14 = .ok (.getfield 11, 3) := by decide +kernel
theorem dX3_remember_17 : decode cX3_remember 17 = .ok (.aload_n 0, 1) := by decide +kernel
theorem dX3_remember_18 : decode cX3_remember 18 = .ok (.getfield 21, 3) := by decide +kernel
theorem dX3_remember_21 : decode cX3_remember 21 = .ok (.iload_n 1, 1) := by decide +kernel
theorem dX3_remember_22 : decode cX3_remember 22 = .ok (.iastore, 1) := by decide +kernel
theorem dX3_remember_23 : decode cX3_remember 23 = .ok (.aload_n 0, 1) := by decide +kernel
theorem dX3_remember_24 : decode cX3_remember 24 = .ok (.getfield 15, 3) := by decide +kernel
theorem dX3_remember_27 : decode cX3_remember 27 = .ok (.aload_n 0, 1) := by decide +kernel
theorem dX3_remember_28 : decode cX3_remember 28 = .ok (.getfield 21, 3) := by decide +kernel
theorem dX3_remember_31 : decode cX3_remember 31 = .ok (.iload_n 2, 1) := by decide +kernel
theorem dX3_remember_32 : decode cX3_remember 32 = .ok (.iastore, 1) := by decide +kernel
theorem dX3_remember_33 : decode cX3_remember 33 = .ok (.aload_n 0, 1) := by decide +kernel
theorem dX3_remember_34 : decode cX3_remember 34 = .ok (.getfield 18, 3) := by decide +kernel
theorem dX3_remember_37 : decode cX3_remember 37 = .ok (.aload_n 0, 1) := by decide +kernel
theorem dX3_remember_38 : decode cX3_remember 38 = .ok (.getfield 21, 3) := by decide +kernel
theorem dX3_remember_41 : decode cX3_remember 41 = .ok (.iload_n 3, 1) := by decide +kernel
theorem dX3_remember_42 : decode cX3_remember 42 = .ok (.iastore, 1) := by decide +kernel
theorem dX3_remember_43 : decode cX3_remember 43 = .ok (.aload_n 0, 1) := by decide +kernel
theorem dX3_remember_44 : decode cX3_remember 44 = .ok (.dup, 1) := by decide +kernel
theorem dX3_remember_45 : decode cX3_remember 45 = .ok (.getfield 21, 3) := by decide +kernel
theorem dX3_remember_48 : decode cX3_remember 48 = .ok (.iconst 1, 1) := by decide +kernel
theorem dX3_remember_49 : decode cX3_remember 49 = .ok (.iadd, 1) := by decide +kernel
theorem dX3_remember_50 : decode cX3_remember 50 = .ok (.putfield 21, 3) := by decide +kernel
theorem dX3_remember_53 : decode cX3_remember 53 = .ok (.return_, 1) := by decide +kernel
theorem dX3_takeBack_0 : decode cX3_takeBack 0 = .ok (.aload_n 0, 1) := by decide +kernel
theorem dX3_takeBack_1 : decode cX3_takeBack 1 = .ok (.getfield 21, 3) := by decide +kernel
theorem dX3_takeBack_4 : decode cX3_takeBack 4 = .ok (.ifCond .gt 5, 3) := by decide +kernel
theorem dX3_takeBack_7 : decode cX3_takeBack 7 = .ok (.iconst 0, 1) := by decide +kernel
theorem dX3_takeBack_8 : decode cX3_takeBack 8 = .ok (.ireturn, 1) := by decide +kernel
theorem dX3_takeBack_9 : decode cX3_takeBack 9 = .ok (.aload_n 0, 1) := by decide +kernel
theorem dX3_takeBack_10 : decode cX3_takeBack 10 = .ok (.dup, 1) := by decide +kernel
theorem dX3_takeBack_11 : decode cX3_takeBack 11 = .ok (.getfield 21, 3) := by decide +kernel
theorem dX3_takeBack_14 : decode cX3_takeBack 14 = .ok (.iconst 1, 1) := by decide +kernel
theorem dX3_takeBack_15 : decode cX3_takeBack 15 = .ok (.isub, 1) := by decide +kernel
theorem dX3_takeBack_16 : decode cX3_takeBack 16 = .ok (.putfield 21, 3) := by decide +kernel
theorem dX3_takeBack_19 : decode cX3_takeBack 19 = .ok (.aload_n 0, 1) := by decide +kernel
theorem dX3_takeBack_20 : decode cX3_takeBack 20 = .ok (.getfield 15, 3) := by decide +kernel
theorem dX3_takeBack_23 : decode cX3_takeBack 23 = .ok (.aload_n 0, 1) := by decide +kernel
theorem dX3_takeBack_24 : decode cX3_takeBack 24 = .ok (.getfield 21, 3) := by decide +kernel
theorem dX3_takeBack_27 : decode cX3_takeBack 27 = .ok (.iaload, 1) := by decide +kernel
theorem dX3_takeBack_28 : decode cX3_takeBack 28 = .ok (.iconst (-1), 1) := by decide +kernel
theorem dX3_takeBack_29 : decode cX3_takeBack 29 = .ok (.if_icmp .ne 26, 3) := by decide +kernel
theorem dX3_takeBack_32 : decode cX3_takeBack 32 = .ok (.aload_n 1, 1) := by decide +kernel
theorem dX3_takeBack_33 : decode cX3_takeBack 33 = .ok (.dup, 1) := by decide +kernel
theorem dX3_takeBack_34 : decode cX3_takeBack 34 = .ok (.getfield 28, 3) := by decide +kernel
theorem dX3_takeBack_37 : decode cX3_takeBack 37 = .ok (.iconst 1, 1) := by decide +kernel
theorem dX3_takeBack_38 : decode cX3_takeBack 38 = .ok (.aload_n 0, 1) := by decide +kernel
theorem dX3_takeBack_39 : decode cX3_takeBack 39 = .ok (.getfield 11, 3) := by decide +kernel
theorem dX3_takeBack_42 : decode cX3_takeBack 42 = .ok (.aload_n 0, 1) := by decide +kernel
theorem dX3_takeBack_43 : decode cX3_takeBack 43 = .ok (.getfield 21, 3) := by decide +kernel
theorem dX3_takeBack_46 : decode cX3_takeBack 46 = .ok (.iaload, 1) := by decide +kernel
theorem dX3_takeBack_47 : decode cX3_takeBack 47 = .ok (.ishl, 1) := by decide +kernel
theorem dX3_takeBack_48 : decode cX3_takeBack 48 = .ok (.ixor, 1) := by decide +kernel
theorem dX3_takeBack_49 : decode cX3_takeBack 49 = .ok (.putfield 28, 3) := by decide +kernel
theorem dX3_takeBack_52 : decode cX3_takeBack 52 = .ok (.goto 39, 3) := by decide +kernel
theorem dX3_takeBack_55 : decode cX3_takeBack 55 = .ok (.aload_n 1, 1) := by decide +kernel
theorem dX3_takeBack_56 : decode cX3_takeBack 56 = .ok (.getfield 33, 3) := by decide +kernel
theorem dX3_takeBack_59 : decode cX3_takeBack 59 = .ok (.aload_n 0, 1) := by decide +kernel
theorem dX3_takeBack_60 : decode cX3_takeBack 60 = .ok (.getfield 11, 3) := by decide +kernel
theorem dX3_takeBack_63 : decode cX3_takeBack 63 = .ok (.aload_n 0, 1) := by decide +kernel
theorem dX3_takeBack_64 : decode cX3_takeBack 64 = .ok (.getfield 21, 3) := by decide +kernel
theorem dX3_takeBack_67 : decode cX3_takeBack 67 = .ok (.iaload, 1) := by decide +kernel
theorem dX3_takeBack_68 : decode cX3_takeBack 68 = .ok (.bipush 24, 2) := by decide +kernel
theorem dX3_takeBack_70 : decode cX3_takeBack 70 = .ok (.imul, 1) := by decide +kernel
theorem dX3_takeBack_71 : decode cX3_takeBack 71 = .ok (.aload_n 0, 1) := by decide +kernel
theorem dX3_takeBack_72 : decode cX3_takeBack 72 = .ok (.getfield 15, 3) := by decide +kernel
theorem dX3_takeBack_75 : decode cX3_takeBack 75 = .ok (.aload_n 0, 1) := by decide +kernel
theorem dX3_takeBack_76 : decode cX3_takeBack 76 = .ok (.getfield 21, 3) := by decide +kernel
theorem dX3_takeBack_79 : decode cX3_takeBack 79 = .ok (.iaload, 1) := by decide +kernel
theorem dX3_takeBack_80 : decode cX3_takeBack 80 = .ok (.iadd, 1) := by decide +kernel
theorem dX3_takeBack_81 : decode cX3_takeBack 81 = .ok (.aload_n 0, 1) := by decide +kernel
theorem dX3_takeBack_82 : decode cX3_takeBack 82 = .ok (.getfield 18, 3) := by decide +kernel
theorem dX3_takeBack_85 : decode cX3_takeBack 85 = .ok (.aload_n 0, 1) := by decide +kernel
theorem dX3_takeBack_86 : decode cX3_takeBack 86 = .ok (.getfield 21, 3) := by decide +kernel
theorem dX3_takeBack_89 : decode cX3_takeBack 89 = .ok (.iaload, 1) := by decide +kernel
theorem dX3_takeBack_90 : decode cX3_takeBack 90 = .ok (.iastore, 1) := by decide +kernel
theorem dX3_takeBack_91 : decode cX3_takeBack 91 = .ok (.iconst 1, 1) := by decide +kernel
theorem dX3_takeBack_92 : decode cX3_takeBack 92 = .ok (.ireturn, 1) := by decide +kernel
theorem dX3_dropOldest_0 : decode cX3_dropOldest 0 = .ok (.aload_n 0, 1) := by decide +kernel
theorem dX3_dropOldest_1 : decode cX3_dropOldest 1 = .ok (.bipush 19, 2) := by decide +kernel
theorem dX3_dropOldest_3 : decode cX3_dropOldest 3 = .ok (.putfield 21, 3) := by decide +kernel
theorem dX3_dropOldest_6 : decode cX3_dropOldest 6 = .ok (.aload_n 0, 1) := by decide +kernel
theorem dX3_dropOldest_7 : decode cX3_dropOldest 7 = .ok (.getfield 11, 3) := by decide +kernel
theorem dX3_dropOldest_10 : decode cX3_dropOldest 10 = .ok (.iconst 1, 1) := by decide +kernel
theorem dX3_dropOldest_11 : decode cX3_dropOldest 11 = .ok (.aload_n 0, 1) := by decide +kernel
theorem dX3_dropOldest_12 : decode cX3_dropOldest 12 = .ok (.getfield 11, 3) := by decide +kernel
theorem dX3_dropOldest_15 : decode cX3_dropOldest 15 = .ok (.iconst 0, 1) := by decide +kernel
theorem dX3_dropOldest_16 : decode cX3_dropOldest 16 = .ok (.aload_n 0, 1) := by decide +kernel
theorem dX3_dropOldest_17 : decode cX3_dropOldest 17 = .ok (.getfield 21, 3) := by decide +kernel
theorem dX3_dropOldest_20 : decode cX3_dropOldest 20 = .ok (.invokestatic 36, 3) := by decide +kernel
theorem dX3_dropOldest_23 : decode cX3_dropOldest 23 = .ok (.aload_n 0, 1) := by decide +kernel
theorem dX3_dropOldest_24 : decode cX3_dropOldest 24 = .ok (.getfield 15, 3) := by decide +kernel
theorem dX3_dropOldest_27 : decode cX3_dropOldest 27 = .ok (.iconst 1, 1) := by decide +kernel
theorem dX3_dropOldest_28 : decode cX3_dropOldest 28 = .ok (.aload_n 0, 1) := by decide +kernel
theorem dX3_dropOldest_29 : decode cX3_dropOldest 29 = .ok (.getfield 15, 3) := by decide +kernel
theorem dX3_dropOldest_32 : decode cX3_dropOldest 32 = .ok (.iconst 0, 1) := by decide +kernel
theorem dX3_dropOldest_33 : decode cX3_dropOldest 33 = .ok (.aload_n 0, 1) := by decide +kernel
theorem dX3_dropOldest_34 : decode cX3_dropOldest 34 = .ok (.getfield 21, 3) := by decide +kernel
theorem dX3_dropOldest_37 : decode cX3_dropOldest 37 = .ok (.invokestatic 36, 3) := by decide +kernel
theorem dX3_dropOldest_40 : decode cX3_dropOldest 40 = .ok (.aload_n 0, 1) := by decide +kernel
theorem dX3_dropOldest_41 : decode cX3_dropOldest 41 = .ok (.getfield 18, 3) := by decide +kernel
theorem dX3_dropOldest_44 : decode cX3_dropOldest 44 = .ok (.iconst 1, 1) := by decide +kernel
theorem dX3_dropOldest_45 : decode cX3_dropOldest 45 = .ok (.aload_n 0, 1) := by decide +kernel
theorem dX3_dropOldest_46 : decode cX3_dropOldest 46 = .ok (.getfield 18, 3) := by decide +kernel
theorem dX3_dropOldest_49 : decode cX3_dropOldest 49 = .ok (.iconst 0, 1) := by decide +kernel
theorem dX3_dropOldest_50 : decode cX3_dropOldest 50 = .ok (.aload_n 0, 1) := by decide +kernel
theorem dX3_dropOldest_51 : decode cX3_dropOldest 51 = .ok (.getfield 21, 3) := by decide +kernel
theorem dX3_dropOldest_54 : decode cX3_dropOldest 54 = .ok (.invokestatic 36, 3) := by decide +kernel
theorem dX3_dropOldest_57 : decode cX3_dropOldest 57 = .ok (.return_, 1) := by decide +kernel
theorem dX4_init_0 : decode cX4_init 0 = .ok (.aload_n 0, 1) := by decide +kernel
theorem dX4_init_1 : decode cX4_init 1 = .ok (.invokespecial 3, 3) := by decide +kernel
theorem dX4_init_4 : decode cX4_init 4 = .ok (.aload_n 0, 1) := by decide +kernel
theorem dX4_init_5 : decode cX4_init 5 = .ok (.bipush 6, 2) := by decide +kernel
theorem dX4_init_7 : decode cX4_init 7 = .ok (.newarray .int, 2) := by decide +kernel
theorem dX4_init_9 : decode cX4_init 9 = .ok (.putfield 9, 3) := by decide +kernel
theorem dX4_init_12 : decode cX4_init 12 = .ok (.aload_n 0, 1) := by decide +kernel
theorem dX4_init_13 : decode cX4_init 13 = .ok (.bipush 36, 2) := by decide +kernel
theorem dX4_init_15 : decode cX4_init 15 = .ok (.newarray .int, 2) := by decide +kernel
theorem dX4_init_17 : decode cX4_init 17 = .ok (.putfield 15, 3) := by decide +kernel
theorem dX4_init_20 : decode cX4_init 20 = .ok (.aload_n 0, 1) := by decide +kernel
theorem dX4_init_21 : decode cX4_init 21 = .ok (.aload_n 1, 1) := by decide +kernel
theorem dX4_init_22 : decode cX4_init 22 = .ok (.putfield 18, 3) := by decide +kernel
theorem dX4_init_25 : decode cX4_init 25 = .ok (.aload_n 0, 1) := by decide +kernel
theorem dX4_init_26 : decode cX4_init 26 = .ok (.aload_n 2, 1) := by decide +kernel
theorem dX4_init_27 : decode cX4_init 27 = .ok (.putfield 22, 3) := by decide +kernel
theorem dX4_init_30 : decode cX4_init 30 = .ok (.aload_n 0, 1) := by decide +kernel
theorem dX4_init_31 : decode cX4_init 31 = .ok (.aload_n 3, 1) := by decide +kernel
theorem dX4_init_32 : decode cX4_init 32 = .ok (.putfield 26, 3) := by decide +kernel
theorem dX4_init_35 : decode cX4_init 35 = .ok (.return_, 1) := by decide +kernel
theorem dX4_collect_0 : decode cX4_collect 0 = .ok (.aload_n 0, 1) := by decide +kernel
theorem dX4_collect_1 : decode cX4_collect 1 = .ok (.getfield 26, 3) := by decide +kernel
theorem dX4_collect_4 : decode cX4_collect 4 = .ok (.invokevirtual 30, 3) := by decide +kernel
theorem dX4_collect_7 : decode cX4_collect 7 = .ok (.aload_n 0, 1) := by decide +kernel
theorem dX4_collect_8 : decode cX4_collect 8 = .ok (.getfield 26, 3) := by decide +kernel
theorem dX4_collect_11 : decode cX4_collect 11 = .ok (.aload_n 0, 1) := by decide +kernel
theorem dX4_collect_12 : decode cX4_collect 12 = .ok (.getfield 22, 3) := by decide +kernel
theorem dX4_collect_15 : decode cX4_collect 15 = .ok (.getfield 35, 3) := by decide +kernel
theorem dX4_collect_18 : decode cX4_collect 18 = .ok (.invokevirtual 41, 3) := by decide +kernel
theorem dX4_collect_21 : decode cX4_collect 21 = .ok (.iconst 0, 1) := by decide +kernel
theorem dX4_collect_22 : decode cX4_collect 22 = .ok (.istore_n 1, 1) := by decide +kernel
theorem dX4_collect_23 : decode cX4_collect 23 = .ok (.iload_n 1, 1) := by decide +kernel
theorem dX4_collect_24 : decode cX4_collect 24 = .ok (.aload_n 0, 1) := by decide +kernel
theorem dX4_collect_25 : decode cX4_collect 25 = .ok (.getfield 18, 3) := by decide +kernel
theorem dX4_collect_28 : decode cX4_collect 28 = .ok (.getfield 45, 3) := by decide +kernel
theorem dX4_collect_31 : decode cX4_collect 31 = .ok (.if_icmp .ge 89, 3) := by decide +kernel
theorem dX4_collect_34 : decode cX4_collect 34 = .ok (.aload_n 0, 1) := by decide +kernel
theorem dX4_collect_35 : decode cX4_collect 35 = .ok (.getfield 9, 3) := by decide +kernel
theorem dX4_collect_38 : decode cX4_collect 38 = .ok (.iload_n 1, 1) := by decide +kernel
theorem dX4_collect_39 : decode cX4_collect 39 = .ok (.aload_n 0, 1) := by decide +kernel
theorem dX4_collect_40 : decode cX4_collect 40 = .ok (.getfield 18, 3) := by decide +kernel
theorem dX4_collect_43 : decode cX4_collect 43 = .ok (.getfield 50, 3) := by decide +kernel
theorem dX4_collect_46 : decode cX4_collect 46 = .ok (.iload_n 1, 1) := by decide +kernel
theorem dX4_collect_47 : decode cX4_collect 47 = .ok (.iaload, 1) := by decide +kernel
theorem dX4_collect_48 : decode cX4_collect 48 = .ok (.iastore, 1) := by decide +kernel
theorem dX4_collect_49 : decode cX4_collect 49 = .ok (.iconst 0, 1) := by decide +kernel
theorem dX4_collect_50 : decode cX4_collect 50 = .ok (.istore_n 2, 1) := by decide +kernel
theorem dX4_collect_51 : decode cX4_collect 51 = .ok (.iload_n 2, 1) := by decide +kernel
theorem dX4_collect_52 : decode cX4_collect 52 = .ok (.aload_n 0, 1) := by decide +kernel
theorem dX4_collect_53 : decode cX4_collect 53 = .ok (.getfield 18, 3) := by decide +kernel
theorem dX4_collect_56 : decode cX4_collect 56 = .ok (.getfield 45, 3) := by decide +kernel
theorem dX4_collect_59 : decode cX4_collect 59 = .ok (.if_icmp .ge 55, 3) := by decide +kernel
theorem dX4_collect_62 : decode cX4_collect 62 = .ok (.aload_n 0, 1) := by decide +kernel
theorem dX4_collect_63 : decode cX4_collect 63 = .ok (.getfield 26, 3) := by decide +kernel
theorem dX4_collect_66 : decode cX4_collect 66 = .ok (.getfield 51, 3) := by decide +kernel
theorem dX4_collect_69 : decode cX4_collect 69 = .ok (.iload_n 1, 1) := by decide +kernel
theorem dX4_collect_70 : decode cX4_collect 70 = .ok (.bipush 6, 2) := by decide +kernel
theorem dX4_collect_72 : decode cX4_collect 72 = .ok (.imul, 1) := by decide +kernel
theorem dX4_collect_73 : decode cX4_collect 73 = .ok (.iload_n 2, 1) := by decide +kernel
theorem dX4_collect_74 : decode cX4_collect 74 = .ok (.iadd, 1) := by decide +kernel
theorem dX4_collect_75 : decode cX4_collect 75 = .ok (.iaload, 1) := by decide +kernel
theorem dX4_collect_76 : decode cX4_collect 76 = .ok (.istore_n 3, 1) := by decide +kernel
theorem dX4_collect_77 : decode cX4_collect 77 = .ok (.aload_n 0, 1) := by decide +kernel
theorem dX4_collect_78 : decode cX4_collect 78 = .ok (.getfield 15, 3) := by decide +kernel
theorem dX4_collect_81 : decode cX4_collect 81 = .ok (.iload_n 1, 1) := by decide +kernel
theorem dX4_collect_82 : decode cX4_collect 82 = .ok (.bipush 6, 2) := by decide +kernel
theorem dX4_collect_84 : decode cX4_collect 84 = .ok (.imul, 1) := by decide +kernel
theorem dX4_collect_85 : decode cX4_collect 85 = .ok (.iload_n 2, 1) := by decide +kernel
theorem dX4_collect_86 : decode cX4_collect 86 = .ok (.iadd, 1) := by decide +kernel
theorem dX4_collect_87 : decode cX4_collect 87 = .ok (.iconst 0, 1) := by decide +kernel
theorem dX4_collect_88 : decode cX4_collect 88 = .ok (.iload_n 3, 1) := by decide +kernel
theorem dX4_collect_89 : decode cX4_collect 89 = .ok (.aload_n 0, 1) := by decide +kernel
theorem dX4_collect_90 : decode cX4_collect 90 = .ok (.getfield 26, 3) := by decide +kernel
theorem dX4_collect_93 : decode cX4_collect 93 = .ok (.getfield 51, 3) := by decide +kernel
theorem dX4_collect_96 : decode cX4_collect 96 = .ok (.iload_n 2, 1) := by decide +kernel
theorem dX4_collect_97 : decode cX4_collect 97 = .ok (.bipush 6, 2) := by decide +kernel
theorem dX4_collect_99 : decode cX4_collect 99 = .ok (.imul, 1) := by decide +kernel
theorem dX4_collect_100 : decode cX4_collect 100 = .ok (.iload_n 1, 1) := by decide +kernel
theorem dX4_collect_101 : decode cX4_collect 101 = .ok (.iadd, 1) := by decide +kernel
theorem dX4_collect_102 : decode cX4_collect 102 = .ok (.iaload, 1) := by decide +kernel
theorem dX4_collect_103 : decode cX4_collect 103 = .ok (.isub, 1) := by decide +kernel
theorem dX4_collect_104 : decode cX4_collect 104 = .ok (.invokestatic 54, 3) := by decide +kernel
theorem dX4_collect_107 : decode cX4_collect 107 = .ok (.iastore, 1) := by decide +kernel
theorem dX4_collect_108 : decode cX4_collect 108 = .ok (.iinc 2 1, 3) := by decide +kernel
theorem dX4_collect_111 : decode cX4_collect 111 = .ok (.goto (-60), 3) := by decide +kernel
theorem dX4_collect_114 : decode cX4_collect 114 = .ok (.iinc 1 1, 3) := by decide +kernel
theorem dX4_collect_117 : decode cX4_collect 117 = .ok (.goto (-94), 3) := by decide +kernel
theorem dX4_collect_120 : decode cX4_collect 120 = .ok (.iconst 1, 1) := by decide +kernel
theorem dX4_collect_121 : decode cX4_collect 121 = .ok (.istore_n 1, 1) := by decide +kernel
theorem dX4_collect_122 : decode cX4_collect 122 = .ok (.iconst 0, 1) := by decide +kernel
theorem dX4_collect_123 : decode cX4_collect 123 = .ok (.istore_n 2, 1) := by decide +kernel
theorem dX4_collect_124 : decode cX4_collect 124 = .ok (.iload_n 2, 1) := by decide +kernel
theorem dX4_collect_125 : decode cX4_collect 125 = .ok (.ldc 60, 2) := by decide +kernel
theorem dX4_collect_127 : decode cX4_collect 127 = .ok (.if_icmp .ge 18, 3) := by decide +kernel
theorem dX4_collect_130 : decode cX4_collect 130 = .ok (.iload_n 1, 1) := by decide +kernel
theorem dX4_collect_131 : decode cX4_collect 131 = .ok (.ifCond .eq 14, 3) := by decide +kernel
theorem dX4_collect_134 : decode cX4_collect 134 = .ok (.aload_n 0, 1) := by decide +kernel
theorem dX4_collect_135 : decode cX4_collect 135 = .ok (.invokevirtual 61, 3) := by decide +kernel
theorem dX4_collect_138 : decode cX4_collect 138 = .ok (.istore_n 1, 1) := by decide +kernel
theorem dX4_collect_139 : decode cX4_collect 139 = .ok (.iinc 2 1, 3) := by decide +kernel
theorem dX4_collect_142 : decode cX4_collect 142 = .ok (.goto (-18), 3) := by decide +kernel
theorem dX4_collect_145 : decode cX4_collect 145 = .ok (.return_, 1) := by decide +kernel
theorem dX4_ruined_0 : decode cX4_ruined 0 = .ok (.iconst 0, 1) := by decide +kernel
theorem dX4_ruined_1 : decode cX4_ruined 1 = .ok (.istore_n 1, 1) := by decide +kernel
theorem dX4_ruined_2 : decode cX4_ruined 2 = .ok (.iconst 0, 1) := by decide +kernel
theorem dX4_ruined_3 : decode cX4_ruined 3 = .ok (.istore_n 2, 1) := by decide +kernel
theorem dX4_ruined_4 : decode cX4_ruined 4 = .ok (.iload_n 2, 1) := by decide +kernel
theorem dX4_ruined_5 : decode cX4_ruined 5 = .ok (.aload_n 0, 1) := by decide +kernel
theorem dX4_ruined_6 : decode cX4_ruined 6 = .ok (.getfield 18, 3) := by decide +kernel
theorem dX4_ruined_9 : decode cX4_ruined 9 = .ok (.getfield 45, 3) := by decide +kernel
theorem dX4_ruined_12 : decode cX4_ruined 12 = .ok (.if_icmp .ge 52, 3) := by decide +kernel
theorem dX4_ruined_15 : decode cX4_ruined 15 = .ok (.iconst 0, 1) := by decide +kernel
theorem dX4_ruined_16 : decode cX4_ruined 16 = .ok (.istore_n 3, 1) := by decide +kernel
theorem dX4_ruined_17 : decode cX4_ruined 17 = .ok (.iload_n 3, 1) := by decide +kernel
theorem dX4_ruined_18 : decode cX4_ruined 18 = .ok (.aload_n 0, 1) := by decide +kernel
theorem dX4_ruined_19 : decode cX4_ruined 19 = .ok (.getfield 18, 3) := by decide +kernel
theorem dX4_ruined_22 : decode cX4_ruined 22 = .ok (.getfield 45, 3) := by decide +kernel
theorem dX4_ruined_25 : decode cX4_ruined 25 = .ok (.if_icmp .ge 33, 3) := by decide +kernel
theorem dX4_ruined_28 : decode cX4_ruined 28 = .ok (.iload_n 1, 1) := by decide +kernel
theorem dX4_ruined_29 : decode cX4_ruined 29 = .ok (.aload_n 0, 1) := by decide +kernel
theorem dX4_ruined_30 : decode cX4_ruined 30 = .ok (.getfield 15, 3) := by decide +kernel
theorem dX4_ruined_33 : decode cX4_ruined 33 = .ok (.iload_n 2, 1) := by decide +kernel
theorem dX4_ruined_34 : decode cX4_ruined 34 = .ok (.bipush 6, 2) := by decide +kernel
theorem dX4_ruined_36 : decode cX4_ruined 36 = .ok (.imul, 1) := by decide +kernel
theorem dX4_ruined_37 : decode cX4_ruined 37 = .ok (.iload_n 3, 1) := by decide +kernel
theorem dX4_ruined_38 : decode cX4_ruined 38 = .ok (.iadd, 1) := by decide +kernel
theorem dX4_ruined_39 : decode cX4_ruined 39 = .ok (.iaload, 1) := by decide +kernel
theorem dX4_ruined_40 : decode cX4_ruined 40 = .ok (.ifCond .le 9, 3) := by decide +kernel
theorem dX4_ruined_43 : decode cX4_ruined 43 = .ok (.iconst 1, 1) := by decide +kernel
theorem dX4_ruined_44 : decode cX4_ruined 44 = .ok (.iload_n 2, 1) := by decide +kernel
theorem dX4_ruined_45 : decode cX4_ruined 45 = .ok (.ishl, 1) := by decide +kernel
theorem dX4_ruined_46 : decode cX4_ruined 46 = .ok (.goto 4, 3) := by decide +kernel
theorem dX4_ruined_49 : decode cX4_ruined 49 = .ok (.iconst 0, 1) := by decide +kernel
theorem dX4_ruined_50 : decode cX4_ruined 50 = .ok (.ior, 1) := by decide +kernel
theorem dX4_ruined_51 : decode cX4_ruined 51 = .ok (.istore_n 1, 1) := by decide +kernel
theorem dX4_ruined_52 : decode cX4_ruined 52 = .ok (.iinc 3 1, 3) := by decide +kernel
theorem dX4_ruined_55 : decode cX4_ruined 55 = .ok (.goto (-38), 3) := by decide +kernel
theorem dX4_ruined_58 : decode cX4_ruined 58 = .ok (.iinc 2 1, 3) := by decide +kernel
theorem dX4_ruined_61 : decode cX4_ruined 61 = .ok (.goto (-57), 3) := by decide +kernel
theorem dX4_ruined_64 : decode cX4_ruined 64 = .ok (.iload_n 1, 1) := by decide +kernel
theorem dX4_ruined_65 : decode cX4_ruined 65 = .ok (.ireturn, 1) := by decide +kernel
theorem dX4_payRound_0 : decode cX4_payRound 0 = .ok (.iconst 0, 1) := by decide +kernel
theorem dX4_payRound_1 : decode cX4_payRound 1 = .ok (.istore_n 1, 1) := by decide +kernel
theorem dX4_payRound_2 : decode cX4_payRound 2 = .ok (.iconst 0, 1) := by decide +kernel
theorem dX4_payRound_3 : decode cX4_payRound 3 = .ok (.istore_n 2, 1) := by decide +kernel
theorem dX4_payRound_4 : decode cX4_payRound 4 = .ok (.iload_n 2, 1) := by decide +kernel
theorem dX4_payRound_5 : decode cX4_payRound 5 = .ok (.aload_n 0, 1) := by decide +kernel
theorem dX4_payRound_6 : decode cX4_payRound 6 = .ok (.getfield 18, 3) := by decide +kernel
theorem dX4_payRound_9 : decode cX4_payRound 9 = .ok (.getfield 45, 3) := by decide +kernel
theorem dX4_payRound_12 : decode cX4_payRound 12 = .ok (.if_icmp .ge 95, 3) := by decide +kernel
theorem dX4_payRound_15 : decode cX4_payRound 15 = .ok (.iconst 0, 1) := by decide +kernel
theorem dX4_payRound_16 : decode cX4_payRound 16 = .ok (.istore_n 3, 1) := by decide +kernel
theorem dX4_payRound_17 : decode cX4_payRound 17 = .ok (.iload_n 3, 1) := by decide +kernel
theorem dX4_payRound_18 : decode cX4_payRound 18 = .ok (.aload_n 0, 1) := by decide +kernel
theorem dX4_payRound_19 : decode cX4_payRound 19 = .ok (.getfield 18, 3) := by decide +kernel
theorem dX4_payRound_22 : decode cX4_payRound 22 = .ok (.getfield 45, 3) := by decide +kernel
theorem dX4_payRound_25 : decode cX4_payRound 25 = .ok (.if_icmp .ge 76, 3) := by decide +kernel
theorem dX4_payRound_28 : decode cX4_payRound 28 = .ok (.aload_n 0, 1) := by decide +kernel
theorem dX4_payRound_29 : decode cX4_payRound 29 = .ok (.getfield 9, 3) := by decide +kernel
theorem dX4_payRound_32 : decode cX4_payRound 32 = .ok (.iload_n 2, 1) := by decide +kernel
theorem dX4_payRound_33 : decode cX4_payRound 33 = .ok (.iaload, 1) := by decide +kernel
theorem dX4_payRound_34 : decode cX4_payRound 34 = .ok (.aload_n 0, 1) := by decide +kernel
theorem dX4_payRound_35 : decode cX4_payRound 35 = .ok (.getfield 15, 3) := by decide +kernel
theorem dX4_payRound_38 : decode cX4_payRound 38 = .ok (.iload_n 2, 1) := by decide +kernel
theorem dX4_payRound_39 : decode cX4_payRound 39 = .ok (.bipush 6, 2) := by decide +kernel
theorem dX4_payRound_41 : decode cX4_payRound 41 = .ok (.imul, 1) := by decide +kernel
theorem dX4_payRound_42 : decode cX4_payRound 42 = .ok (.iload_n 3, 1) := by decide +kernel
theorem dX4_payRound_43 : decode cX4_payRound 43 = .ok (.iadd, 1) := by decide +kernel
theorem dX4_payRound_44 : decode cX4_payRound 44 = .ok (.iaload, 1) := by decide +kernel
theorem dX4_payRound_45 : decode cX4_payRound 45 = .ok (.invokestatic 65, 3) := by decide +kernel
theorem dX4_payRound_48 : decode cX4_payRound 48 = .ok (.istore 4, 2) := by decide +kernel
theorem dX4_payRound_50 : decode cX4_payRound 50 = .ok (.iload 4, 2) := by decide +kernel
theorem dX4_payRound_52 : decode cX4_payRound 52 = .ok (.ifCond .le 43, 3) := by decide +kernel
theorem dX4_payRound_55 : decode cX4_payRound 55 = .ok (.aload_n 0, 1) := by decide +kernel
theorem dX4_payRound_56 : decode cX4_payRound 56 = .ok (.getfield 9, 3) := by decide +kernel
theorem dX4_payRound_59 : decode cX4_payRound 59 = .ok (.iload_n 2, 1) := by decide +kernel
theorem dX4_payRound_60 : decode cX4_payRound 60 = .ok (.dup2, 1) := by decide +kernel
theorem dX4_payRound_61 : decode cX4_payRound 61 = .ok (.iaload, 1) := by decide +kernel
theorem dX4_payRound_62 : decode cX4_payRound 62 = .ok (.iload 4, 2) := by decide +kernel
theorem dX4_payRound_64 : decode cX4_payRound 64 = .ok (.isub, 1) := by decide +kernel
theorem dX4_payRound_65 : decode cX4_payRound 65 = .ok (.iastore, 1) := by decide +kernel
theorem dX4_payRound_66 : decode cX4_payRound 66 = .ok (.aload_n 0, 1) := by decide +kernel
theorem dX4_payRound_67 : decode cX4_payRound 67 = .ok (.getfield 9, 3) := by decide +kernel
theorem dX4_payRound_70 : decode cX4_payRound 70 = .ok (.iload_n 3, 1) := by decide +kernel
theorem dX4_payRound_71 : decode cX4_payRound 71 = .ok (.dup2, 1) := by decide +kernel
theorem dX4_payRound_72 : decode cX4_payRound 72 = .ok (.iaload, 1) := by decide +kernel
theorem dX4_payRound_73 : decode cX4_payRound 73 = .ok (.iload 4, 2) := by decide +kernel
theorem dX4_payRound_75 : decode cX4_payRound 75 = .ok (.iadd, 1) := by decide +kernel
theorem dX4_payRound_76 : decode cX4_payRound 76 = .ok (.iastore, 1) := by decide +kernel
theorem dX4_payRound_77 : decode cX4_payRound 77 = .ok (.aload_n 0, 1) := by decide +kernel
theorem dX4_payRound_78 : decode cX4_payRound 78 = .ok (.getfield 15, 3) := by decide +kernel
theorem dX4_payRound_81 : decode cX4_payRound 81 = .ok (.iload_n 2, 1) := by decide +kernel
theorem dX4_payRound_82 : decode cX4_payRound 82 = .ok (.bipush 6, 2) := by decide +kernel
theorem dX4_payRound_84 : decode cX4_payRound 84 = .ok (.imul, 1) := by decide +kernel
theorem dX4_payRound_85 : decode cX4_payRound 85 = .ok (.iload_n 3, 1) := by decide +kernel
theorem dX4_payRound_86 : decode cX4_payRound 86 = .ok (.iadd, 1) := by decide +kernel
theorem dX4_payRound_87 : decode cX4_payRound 87 = .ok (.dup2, 1) := by decide +kernel
theorem dX4_payRound_88 : decode cX4_payRound 88 = .ok (.iaload, 1) := by decide +kernel
theorem dX4_payRound_89 : decode cX4_payRound 89 = .ok (.iload 4, 2) := by decide +kernel
theorem dX4_payRound_91 : decode cX4_payRound 91 = .ok (.isub, 1) := by decide +kernel
theorem dX4_payRound_92 : decode cX4_payRound 92 = .ok (.iastore, 1) := by decide +kernel
theorem dX4_payRound_93 : decode cX4_payRound 93 = .ok (.iconst 1, 1) := by decide +kernel
theorem dX4_payRound_94 : decode cX4_payRound 94 = .ok (.istore_n 1, 1) := by decide +kernel
theorem dX4_payRound_95 : decode cX4_payRound 95 = .ok (.iinc 3 1, 3) := by decide +kernel
theorem dX4_payRound_98 : decode cX4_payRound 98 = .ok (.goto (-81), 3) := by decide +kernel
theorem dX4_payRound_101 : decode cX4_payRound 101 = .ok (.iinc 2 1, 3) := by decide +kernel
theorem dX4_payRound_104 : decode cX4_payRound 104 = .ok (.goto (-100), 3) := by decide +kernel
theorem dX4_payRound_107 : decode cX4_payRound 107 = .ok (.iload_n 1, 1) := by decide +kernel
theorem dX4_payRound_108 : decode cX4_payRound 108 = .ok (.ireturn, 1) := by decide +kernel
theorem dX5_init_0 : decode cX5_init 0 = .ok (.aload_n 0, 1) := by decide +kernel
theorem dX5_init_1 : decode cX5_init 1 = .ok (.invokespecial 3, 3) := by decide +kernel
theorem dX5_init_4 : decode cX5_init 4 = .ok (.aload_n 0, 1) := by decide +kernel
theorem dX5_init_5 : decode cX5_init 5 = .ok (.bipush 6, 2) := by decide +kernel
theorem dX5_init_7 : decode cX5_init 7 = .ok (.newarray .int, 2) := by decide +kernel
theorem dX5_init_9 : decode cX5_init 9 = .ok (.putfield 9, 3) := by decide +kernel
theorem dX5_init_12 : decode cX5_init 12 = .ok (.aload_n 0, 1) := by decide +kernel
theorem dX5_init_13 : decode cX5_init 13 = .ok (.bipush 6, 2) := by decide +kernel
theorem dX5_init_15 : decode cX5_init 15 = .ok (.newarray .int, 2) := by decide +kernel
theorem dX5_init_17 : decode cX5_init 17 = .ok (.putfield 15, 3) := by decide +kernel
theorem dX5_init_20 : decode cX5_init 20 = .ok (.aload_n 0, 1) := by decide +kernel
theorem dX5_init_21 : decode cX5_init 21 = .ok (.sipush 144, 3) := by decide +kernel
theorem dX5_init_24 : decode cX5_init 24 = .ok (.newarray .int, 2) := by decide +kernel
theorem dX5_init_26 : decode cX5_init 26 = .ok (.putfield 18, 3) := by decide +kernel
theorem dX5_init_29 : decode cX5_init 29 = .ok (.aload_n 0, 1) := by decide +kernel
theorem dX5_init_30 : decode cX5_init 30 = .ok (.iconst 5, 1) := by decide +kernel
theorem dX5_init_31 : decode cX5_init 31 = .ok (.newarray .int, 2) := by decide +kernel
theorem dX5_init_33 : decode cX5_init 33 = .ok (.putfield 21, 3) := by decide +kernel
theorem dX5_init_36 : decode cX5_init 36 = .ok (.aload_n 0, 1) := by decide +kernel
theorem dX5_init_37 : decode cX5_init 37 = .ok (.bipush 120, 2) := by decide +kernel
theorem dX5_init_39 : decode cX5_init 39 = .ok (.newarray .int, 2) := by decide +kernel
theorem dX5_init_41 : decode cX5_init 41 = .ok (.putfield 24, 3) := by decide +kernel
theorem dX5_init_44 : decode cX5_init 44 = .ok (.aload_n 0, 1) := by decide +kernel
theorem dX5_init_45 : decode cX5_init 45 = .ok (.sipush 1024, 3) := by decide +kernel
theorem dX5_init_48 : decode cX5_init 48 = .ok (.newarray .int, 2) := by decide +kernel
theorem dX5_init_50 : decode cX5_init 50 = .ok (.putfield 27, 3) := by decide +kernel
theorem dX5_init_53 : decode cX5_init 53 = .ok (.aload_n 0, 1) := by decide +kernel
theorem dX5_init_54 : decode cX5_init 54 = .ok (.new 30, 3) := by decide +kernel
theorem dX5_init_57 : decode cX5_init 57 = .ok (.dup, 1) := by decide +kernel
theorem dX5_init_58 : decode cX5_init 58 = .ok (.aload_n 0, 1) := by decide +kernel
theorem dX5_init_59 : decode cX5_init 59 = .ok (.getfield 27, 3) := by decide +kernel
theorem dX5_init_62 : decode cX5_init 62 = .ok (.invokespecial 32, 3) := by decide +kernel
theorem dX5_init_65 : decode cX5_init 65 = .ok (.putfield 35, 3) := by decide +kernel
theorem dX5_init_68 : decode cX5_init 68 = .ok (.aload_n 0, 1) := by decide +kernel
theorem dX5_init_69 : decode cX5_init 69 = .ok (.new 30, 3) := by decide +kernel
theorem dX5_init_72 : decode cX5_init 72 = .ok (.dup, 1) := by decide +kernel
theorem dX5_init_73 : decode cX5_init 73 = .ok (.aload_n 0, 1) := by decide +kernel
theorem dX5_init_74 : decode cX5_init 74 = .ok (.getfield 27, 3) := by decide +kernel
theorem dX5_init_77 : decode cX5_init 77 = .ok (.invokespecial 32, 3) := by decide +kernel
theorem dX5_init_80 : decode cX5_init 80 = .ok (.putfield 39, 3) := by decide +kernel
theorem dX5_init_83 : decode cX5_init 83 = .ok (.aload_n 0, 1) := by decide +kernel
theorem dX5_init_84 : decode cX5_init 84 = .ok (.invokevirtual 42, 3) := by decide +kernel
theorem dX5_init_87 : decode cX5_init 87 = .ok (.return_, 1) := by decide +kernel
theorem dX5_clear_0 : decode cX5_clear 0 = .ok (.aload_n 0, 1) := by decide +kernel
theorem dX5_clear_1 : decode cX5_clear 1 = .ok (.iconst 2, 1) := by decide +kernel
theorem dX5_clear_2 : decode cX5_clear 2 = .ok (.putfield 45, 3) := by decide +kernel
theorem dX5_clear_5 : decode cX5_clear 5 = .ok (.aload_n 0, 1) := by decide +kernel
theorem dX5_clear_6 : decode cX5_clear 6 = .ok (.iconst 2, 1) := by decide +kernel
theorem dX5_clear_7 : decode cX5_clear 7 = .ok (.putfield 49, 3) := by decide +kernel
theorem dX5_clear_10 : decode cX5_clear 10 = .ok (.aload_n 0, 1) := by decide +kernel
theorem dX5_clear_11 : decode cX5_clear 11 = .ok (.iconst 0, 1) := by decide +kernel
theorem dX5_clear_12 : decode cX5_clear 12 = .ok (.putfield 52, 3) := by decide +kernel
theorem dX5_clear_15 : decode cX5_clear 15 = .ok (.aload_n 0, 1) := by decide +kernel
theorem dX5_clear_16 : decode cX5_clear 16 = .ok (.iconst 0, 1) := by decide +kernel
theorem dX5_clear_17 : decode cX5_clear 17 = .ok (.putfield 55, 3) := by decide +kernel
theorem dX5_clear_20 : decode cX5_clear 20 = .ok (.aload_n 0, 1) := by decide +kernel
theorem dX5_clear_21 : decode cX5_clear 21 = .ok (.bipush 14, 2) := by decide +kernel
theorem dX5_clear_23 : decode cX5_clear 23 = .ok (.putfield 58, 3) := by decide +kernel
theorem dX5_clear_26 : decode cX5_clear 26 = .ok (.aload_n 0, 1) := by decide +kernel
theorem dX5_clear_27 : decode cX5_clear 27 = .ok (.getfield 24, 3) := by decide +kernel
theorem dX5_clear_30 : decode cX5_clear 30 = .ok (.iconst 0, 1) := by decide +kernel
theorem dX5_clear_31 : decode cX5_clear 31 = .ok (.invokestatic 61, 3) := by decide +kernel
theorem dX5_clear_34 : decode cX5_clear 34 = .ok (.aload_n 0, 1) := by decide +kernel
theorem dX5_clear_35 : decode cX5_clear 35 = .ok (.iconst 0, 1) := by decide +kernel
theorem dX5_clear_36 : decode cX5_clear 36 = .ok (.putfield 67, 3) := by decide +kernel
theorem dX5_clear_39 : decode cX5_clear 39 = .ok (.aload_n 0, 1) := by decide +kernel
theorem dX5_clear_40 : decode cX5_clear 40 = .ok (.aload_n 0, 1) := by decide +kernel
theorem dX5_clear_41 : decode cX5_clear 41 = .ok (.getfield 35, 3) := by decide +kernel
theorem dX5_clear_44 : decode cX5_clear 44 = .ok (.iconst 1, 1) := by decide +kernel
theorem dX5_clear_45 : decode cX5_clear 45 = .ok (.invokevirtual 70, 3) := by decide +kernel
theorem dX5_clear_48 : decode cX5_clear 48 = .ok (.aload_n 0, 1) := by decide +kernel
theorem dX5_clear_49 : decode cX5_clear 49 = .ok (.aload_n 0, 1) := by decide +kernel
theorem dX5_clear_50 : decode cX5_clear 50 = .ok (.getfield 39, 3) := by decide +kernel
theorem dX5_clear_53 : decode cX5_clear 53 = .ok (.bipush 14, 2) := by decide +kernel
theorem dX5_clear_55 : decode cX5_clear 55 = .ok (.invokevirtual 70, 3) := by decide +kernel
theorem dX5_clear_58 : decode cX5_clear 58 = .ok (.return_, 1) := by decide +kernel
theorem dX5_holdUntold_0 : decode cX5_holdUntold 0 = .ok (.aload_n 1, 1) := by decide +kernel
theorem dX5_holdUntold_1 : decode cX5_holdUntold 1 = .ok (.iconst 0, 1) := by decide +kernel
theorem dX5_holdUntold_2 : decode cX5_holdUntold 2 = .ok (.putfield 74, 3) := by decide +kernel
theorem dX5_holdUntold_5 : decode cX5_holdUntold 5 = .ok (.aload_n 1, 1) := by decide +kernel
theorem dX5_holdUntold_6 : decode cX5_holdUntold 6 = .ok (.aload_n 0, 1) := by decide +kernel
theorem dX5_holdUntold_7 : decode cX5_holdUntold 7 = .ok (.getfield 67, 3) := by decide +kernel
theorem dX5_holdUntold_10 : decode cX5_holdUntold 10 = .ok (.putfield 78, 3) := by decide +kernel
theorem dX5_holdUntold_13 : decode cX5_holdUntold 13 = .ok (.aload_n 0, 1) := by decide +kernel
theorem dX5_holdUntold_14 : decode cX5_holdUntold 14 = .ok (.iload_n 2, 1) := by decide +kernel
theorem dX5_holdUntold_15 : decode cX5_holdUntold 15 = .ok (.invokevirtual 81, 3) := by decide +kernel
theorem dX5_holdUntold_18 : decode cX5_holdUntold 18 = .ok (.aload_n 1, 1) := by decide +kernel
theorem dX5_holdUntold_19 : decode cX5_holdUntold 19 = .ok (.aload_n 0, 1) := by decide +kernel
theorem dX5_holdUntold_20 : decode cX5_holdUntold 20 = .ok (.getfield 67, 3) := by decide +kernel
theorem dX5_holdUntold_23 : decode cX5_holdUntold 23 = .ok (.putfield 85, 3) := by decide +kernel
theorem dX5_holdUntold_26 : decode cX5_holdUntold 26 = .ok (.return_, 1) := by decide +kernel
theorem dX5_addStep_0 : decode cX5_addStep 0 = .ok (.aload_n 0, 1) := by decide +kernel
theorem dX5_addStep_1 : decode cX5_addStep 1 = .ok (.getfield 67, 3) := by decide +kernel
theorem dX5_addStep_4 : decode cX5_addStep 4 = .ok (.ifCond .lt 33, 3) := by decide +kernel
theorem dX5_addStep_7 : decode cX5_addStep 7 = .ok (.aload_n 0, 1) := by decide +kernel
theorem dX5_addStep_8 : decode cX5_addStep 8 = .ok (.getfield 67, 3) := by decide +kernel
theorem dX5_addStep_11 : decode cX5_addStep 11 = .ok (.sipush 1024, 3) := by decide +kernel
theorem dX5_addStep_14 : decode cX5_addStep 14 = .ok (.if_icmp .ge 23, 3) := by decide +kernel
theorem dX5_addStep_17 : decode cX5_addStep 17 = .ok (.aload_n 0, 1) := by decide +kernel
theorem dX5_addStep_18 : decode cX5_addStep 18 = .ok (.getfield 27, 3) := by decide +kernel
theorem dX5_addStep_21 : decode cX5_addStep 21 = .ok (.aload_n 0, 1) := by decide +kernel
theorem dX5_addStep_22 : decode cX5_addStep 22 = .ok (.getfield 67, 3) := by decide +kernel
theorem dX5_addStep_25 : decode cX5_addStep 25 = .ok (.iload_n 1, 1) := by decide +kernel
theorem dX5_addStep_26 : decode cX5_addStep 26 = .ok (.iastore, 1) := by decide +kernel
theorem dX5_addStep_27 : decode cX5_addStep 27 = .ok (.aload_n 0, 1) := by decide +kernel
theorem dX5_addStep_28 : decode cX5_addStep 28 = .ok (.dup, 1) := by decide +kernel
theorem dX5_addStep_29 : decode cX5_addStep 29 = .ok (.getfield 67, 3) := by decide +kernel
theorem dX5_addStep_32 : decode cX5_addStep 32 = .ok (.iconst 1, 1) := by decide +kernel
theorem dX5_addStep_33 : decode cX5_addStep 33 = .ok (.iadd, 1) := by decide +kernel
theorem dX5_addStep_34 : decode cX5_addStep 34 = .ok (.putfield 67, 3) := by decide +kernel
theorem dX5_addStep_37 : decode cX5_addStep 37 = .ok (.return_, 1) := by decide +kernel
theorem dX5_copyFrom_0 : decode cX5_copyFrom 0 = .ok (.aload_n 0, 1) := by decide +kernel
theorem dX5_copyFrom_1 : decode cX5_copyFrom 1 = .ok (.aload_n 1, 1) := by decide +kernel
theorem dX5_copyFrom_2 : decode cX5_copyFrom 2 = .ok (.getfield 45, 3) := by decide +kernel
theorem dX5_copyFrom_5 : decode cX5_copyFrom 5 = .ok (.putfield 45, 3) := by decide +kernel
theorem dX5_copyFrom_8 : decode cX5_copyFrom 8 = .ok (.aload_n 0, 1) := by decide +kernel
theorem dX5_copyFrom_9 : decode cX5_copyFrom 9 = .ok (.aload_n 1, 1) := by decide +kernel
theorem dX5_copyFrom_10 : decode cX5_copyFrom 10 = .ok (.getfield 49, 3) := by decide +kernel
theorem dX5_copyFrom_13 : decode cX5_copyFrom 13 = .ok (.putfield 49, 3) := by decide +kernel
theorem dX5_copyFrom_16 : decode cX5_copyFrom 16 = .ok (.aload_n 0, 1) := by decide +kernel
theorem dX5_copyFrom_17 : decode cX5_copyFrom 17 = .ok (.aload_n 1, 1) := by decide +kernel
theorem dX5_copyFrom_18 : decode cX5_copyFrom 18 = .ok (.getfield 52, 3) := by decide +kernel
theorem dX5_copyFrom_21 : decode cX5_copyFrom 21 = .ok (.putfield 52, 3) := by decide +kernel
theorem dX5_copyFrom_24 : decode cX5_copyFrom 24 = .ok (.aload_n 0, 1) := by decide +kernel
theorem dX5_copyFrom_25 : decode cX5_copyFrom 25 = .ok (.aload_n 1, 1) := by decide +kernel
theorem dX5_copyFrom_26 : decode cX5_copyFrom 26 = .ok (.getfield 55, 3) := by decide +kernel
theorem dX5_copyFrom_29 : decode cX5_copyFrom 29 = .ok (.putfield 55, 3) := by decide +kernel
theorem dX5_copyFrom_32 : decode cX5_copyFrom 32 = .ok (.aload_n 0, 1) := by decide +kernel
theorem dX5_copyFrom_33 : decode cX5_copyFrom 33 = .ok (.aload_n 1, 1) := by decide +kernel
theorem dX5_copyFrom_34 : decode cX5_copyFrom 34 = .ok (.getfield 58, 3) := by decide +kernel
theorem dX5_copyFrom_37 : decode cX5_copyFrom 37 = .ok (.putfield 58, 3) := by decide +kernel
theorem dX5_copyFrom_40 : decode cX5_copyFrom 40 = .ok (.aload_n 1, 1) := by decide +kernel
theorem dX5_copyFrom_41 : decode cX5_copyFrom 41 = .ok (.getfield 9, 3) := by decide +kernel
theorem dX5_copyFrom_44 : decode cX5_copyFrom 44 = .ok (.iconst 0, 1) := by decide +kernel
theorem dX5_copyFrom_45 : decode cX5_copyFrom 45 = .ok (.aload_n 0, 1) := by decide +kernel
theorem dX5_copyFrom_46 : decode cX5_copyFrom 46 = .ok (.getfield 9, 3) := by decide +kernel
theorem dX5_copyFrom_49 : decode cX5_copyFrom 49 = .ok (.iconst 0, 1) := by decide +kernel
theorem dX5_copyFrom_50 : decode cX5_copyFrom 50 = .ok (.bipush 6, 2) := by decide +kernel
theorem dX5_copyFrom_52 : decode cX5_copyFrom 52 = .ok (.invokestatic 88, 3) := by decide +kernel
theorem dX5_copyFrom_55 : decode cX5_copyFrom 55 = .ok (.aload_n 1, 1) := by decide +kernel
theorem dX5_copyFrom_56 : decode cX5_copyFrom 56 = .ok (.getfield 15, 3) := by decide +kernel
theorem dX5_copyFrom_59 : decode cX5_copyFrom 59 = .ok (.iconst 0, 1) := by decide +kernel
theorem dX5_copyFrom_60 : decode cX5_copyFrom 60 = .ok (.aload_n 0, 1) := by decide +kernel
theorem dX5_copyFrom_61 : decode cX5_copyFrom 61 = .ok (.getfield 15, 3) := by decide +kernel
theorem dX5_copyFrom_64 : decode cX5_copyFrom 64 = .ok (.iconst 0, 1) := by decide +kernel
theorem dX5_copyFrom_65 : decode cX5_copyFrom 65 = .ok (.bipush 6, 2) := by decide +kernel
theorem dX5_copyFrom_67 : decode cX5_copyFrom 67 = .ok (.invokestatic 88, 3) := by decide +kernel
theorem dX5_copyFrom_70 : decode cX5_copyFrom 70 = .ok (.aload_n 1, 1) := by decide +kernel
theorem dX5_copyFrom_71 : decode cX5_copyFrom 71 = .ok (.getfield 18, 3) := by decide +kernel
theorem dX5_copyFrom_74 : decode cX5_copyFrom 74 = .ok (.iconst 0, 1) := by decide +kernel
theorem dX5_copyFrom_75 : decode cX5_copyFrom 75 = .ok (.aload_n 0, 1) := by decide +kernel
theorem dX5_copyFrom_76 : decode cX5_copyFrom 76 = .ok (.getfield 18, 3) := by decide +kernel
theorem dX5_copyFrom_79 : decode cX5_copyFrom 79 = .ok (.iconst 0, 1) := by decide +kernel
theorem dX5_copyFrom_80 : decode cX5_copyFrom 80 = .ok (.sipush 144, 3) := by decide +kernel
theorem dX5_copyFrom_83 : decode cX5_copyFrom 83 = .ok (.invokestatic 88, 3) := by decide +kernel
theorem dX5_copyFrom_86 : decode cX5_copyFrom 86 = .ok (.aload_n 1, 1) := by decide +kernel
theorem dX5_copyFrom_87 : decode cX5_copyFrom 87 = .ok (.getfield 21, 3) := by decide +kernel
theorem dX5_copyFrom_90 : decode cX5_copyFrom 90 = .ok (.iconst 0, 1) := by decide +kernel
theorem dX5_copyFrom_91 : decode cX5_copyFrom 91 = .ok (.aload_n 0, 1) := by decide +kernel
theorem dX5_copyFrom_92 : decode cX5_copyFrom 92 = .ok (.getfield 21, 3) := by decide +kernel
theorem dX5_copyFrom_95 : decode cX5_copyFrom 95 = .ok (.iconst 0, 1) := by decide +kernel
theorem dX5_copyFrom_96 : decode cX5_copyFrom 96 = .ok (.iconst 5, 1) := by decide +kernel
theorem dX5_copyFrom_97 : decode cX5_copyFrom 97 = .ok (.invokestatic 88, 3) := by decide +kernel
theorem dX5_copyFrom_100 : decode cX5_copyFrom 100 = .ok (.aload_n 1, 1) := by decide +kernel
theorem dX5_copyFrom_101 : decode cX5_copyFrom 101 = .ok (.getfield 24, 3) := by decide +kernel
theorem dX5_copyFrom_104 : decode cX5_copyFrom 104 = .ok (.iconst 0, 1) := by decide +kernel
theorem dX5_copyFrom_105 : decode cX5_copyFrom 105 = .ok (.aload_n 0, 1) := by decide +kernel
theorem dX5_copyFrom_106 : decode cX5_copyFrom 106 = .ok (.getfield 24, 3) := by decide +kernel
theorem dX5_copyFrom_109 : decode cX5_copyFrom 109 = .ok (.iconst 0, 1) := by decide +kernel
theorem dX5_copyFrom_110 : decode cX5_copyFrom 110 = .ok (.bipush 120, 2) := by decide +kernel
theorem dX5_copyFrom_112 : decode cX5_copyFrom 112 = .ok (.invokestatic 88, 3) := by decide +kernel
theorem dX5_copyFrom_115 : decode cX5_copyFrom 115 = .ok (.aload_n 1, 1) := by decide +kernel
theorem dX5_copyFrom_116 : decode cX5_copyFrom 116 = .ok (.getfield 27, 3) := by decide +kernel
theorem dX5_copyFrom_119 : decode cX5_copyFrom 119 = .ok (.iconst 0, 1) := by decide +kernel
theorem dX5_copyFrom_120 : decode cX5_copyFrom 120 = .ok (.aload_n 0, 1) := by decide +kernel
theorem dX5_copyFrom_121 : decode cX5_copyFrom 121 = .ok (.getfield 27, 3) := by decide +kernel
theorem dX5_copyFrom_124 : decode cX5_copyFrom 124 = .ok (.iconst 0, 1) := by decide +kernel
theorem dX5_copyFrom_125 : decode cX5_copyFrom 125 = .ok (.sipush 1024, 3) := by decide +kernel
theorem dX5_copyFrom_128 : decode cX5_copyFrom 128 = .ok (.invokestatic 88, 3) := by decide +kernel
theorem dX5_copyFrom_131 : decode cX5_copyFrom 131 = .ok (.aload_n 0, 1) := by decide +kernel
theorem dX5_copyFrom_132 : decode cX5_copyFrom 132 = .ok (.aload_n 1, 1) := by decide +kernel
theorem dX5_copyFrom_133 : decode cX5_copyFrom 133 = .ok (.getfield 67, 3) := by decide +kernel
theorem dX5_copyFrom_136 : decode cX5_copyFrom 136 = .ok (.putfield 67, 3) := by decide +kernel
theorem dX5_copyFrom_139 : decode cX5_copyFrom 139 = .ok (.aload_n 0, 1) := by decide +kernel
theorem dX5_copyFrom_140 : decode cX5_copyFrom 140 = .ok (.getfield 35, 3) := by decide +kernel
theorem dX5_copyFrom_143 : decode cX5_copyFrom 143 = .ok (.aload_n 1, 1) := by decide +kernel
theorem dX5_copyFrom_144 : decode cX5_copyFrom 144 = .ok (.getfield 35, 3) := by decide +kernel
theorem dX5_copyFrom_147 : decode cX5_copyFrom 147 = .ok (.invokevirtual 94, 3) := by decide +kernel
theorem dX5_copyFrom_150 : decode cX5_copyFrom 150 = .ok (.aload_n 0, 1) := by decide +kernel
theorem dX5_copyFrom_151 : decode cX5_copyFrom 151 = .ok (.getfield 39, 3) := by decide +kernel
theorem dX5_copyFrom_154 : decode cX5_copyFrom 154 = .ok (.aload_n 1, 1) := by decide +kernel
theorem dX5_copyFrom_155 : decode cX5_copyFrom 155 = .ok (.getfield 39, 3) := by decide +kernel
theorem dX5_copyFrom_158 : decode cX5_copyFrom 158 = .ok (.invokevirtual 94, 3) := by decide +kernel
theorem dX5_copyFrom_161 : decode cX5_copyFrom 161 = .ok (.return_, 1) := by decide +kernel
theorem dX6_init_0 : decode cX6_init 0 = .ok (.aload_n 0, 1) := by decide +kernel
theorem dX6_init_1 : decode cX6_init 1 = .ok (.invokespecial 1, 3) := by decide +kernel
theorem dX6_init_4 : decode cX6_init 4 = .ok (.aload_n 0, 1) := by decide +kernel
theorem dX6_init_5 : decode cX6_init 5 = .ok (.bipush 32, 2) := by decide +kernel
theorem dX6_init_7 : decode cX6_init 7 = .ok (.newarray .int, 2) := by decide +kernel
theorem dX6_init_9 : decode cX6_init 9 = .ok (.putfield 9, 3) := by decide +kernel
theorem dX6_init_12 : decode cX6_init 12 = .ok (.aload_n 0, 1) := by decide +kernel
theorem dX6_init_13 : decode cX6_init 13 = .ok (.aload_n 1, 1) := by decide +kernel
theorem dX6_init_14 : decode cX6_init 14 = .ok (.putfield 13, 3) := by decide +kernel
theorem dX6_init_17 : decode cX6_init 17 = .ok (.return_, 1) := by decide +kernel
theorem dX6_copyFrom_0 : decode cX6_copyFrom 0 = .ok (.aload_n 0, 1) := by decide +kernel
theorem dX6_copyFrom_1 : decode cX6_copyFrom 1 = .ok (.aload_n 1, 1) := by decide +kernel
theorem dX6_copyFrom_2 : decode cX6_copyFrom 2 = .ok (.getfield 16, 3) := by decide +kernel
theorem dX6_copyFrom_5 : decode cX6_copyFrom 5 = .ok (.putfield 16, 3) := by decide +kernel
theorem dX6_copyFrom_8 : decode cX6_copyFrom 8 = .ok (.aload_n 0, 1) := by decide +kernel
theorem dX6_copyFrom_9 : decode cX6_copyFrom 9 = .ok (.aload_n 1, 1) := by decide +kernel
theorem dX6_copyFrom_10 : decode cX6_copyFrom 10 = .ok (.getfield 20, 3) := by decide +kernel
theorem dX6_copyFrom_13 : decode cX6_copyFrom 13 = .ok (.putfield 20, 3) := by decide +kernel
theorem dX6_copyFrom_16 : decode cX6_copyFrom 16 = .ok (.aload_n 0, 1) := by decide +kernel
theorem dX6_copyFrom_17 : decode cX6_copyFrom 17 = .ok (.aload_n 1, 1) := by decide +kernel
theorem dX6_copyFrom_18 : decode cX6_copyFrom 18 = .ok (.getfield 24, 3) := by decide +kernel
theorem dX6_copyFrom_21 : decode cX6_copyFrom 21 = .ok (.putfield 24, 3) := by decide +kernel
theorem dX6_copyFrom_24 : decode cX6_copyFrom 24 = .ok (.return_, 1) := by decide +kernel
theorem dX6_value_0 : decode cX6_value 0 = .ok (.iconst 0, 1) := by decide +kernel
theorem dX6_value_1 : decode cX6_value 1 = .ok (.istore 5, 2) := by decide +kernel
theorem dX6_value_3 : decode cX6_value 3 = .ok (.aload_n 0, 1) := by decide +kernel
theorem dX6_value_4 : decode cX6_value 4 = .ok (.getfield 20, 3) := by decide +kernel
