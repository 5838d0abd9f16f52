theorem dX12_fogAt_17 : decode cX12_fogAt 17 = .ok (.iconst 0, 1) := by decide +kernel
theorem dX12_fogAt_18 : decode cX12_fogAt 18 = .ok (.iload_n 2, 1) := by decide +kernel
theorem dX12_fogAt_19 : decode cX12_fogAt 19 = .ok (.iastore, 1) := by decide +kernel
theorem dX12_fogAt_20 : decode cX12_fogAt 20 = .ok (.aload_n 0, 1) := by decide +kernel
theorem dX12_fogAt_21 : decode cX12_fogAt 21 = .ok (.getfield 109, 3) := by decide +kernel
theorem dX12_fogAt_24 : decode cX12_fogAt 24 = .ok (.iconst 4, 1) := by decide +kernel
theorem dX12_fogAt_25 : decode cX12_fogAt 25 = .ok (.aload_n 0, 1) := by decide +kernel
theorem dX12_fogAt_26 : decode cX12_fogAt 26 = .ok (.iload_n 1, 1) := by decide +kernel
theorem dX12_fogAt_27 : decode cX12_fogAt 27 = .ok (.iload_n 2, 1) := by decide +kernel
theorem dX12_fogAt_28 : decode cX12_fogAt 28 = .ok (.invokevirtual 317, 3) := by decide +kernel
theorem dX12_fogAt_31 : decode cX12_fogAt 31 = .ok (.bipush 8, 2) := by decide +kernel
theorem dX12_fogAt_33 : decode cX12_fogAt 33 = .ok (.irem, 1) := by decide +kernel
theorem dX12_fogAt_34 : decode cX12_fogAt 34 = .ok (.iastore, 1) := by decide +kernel
theorem dX12_fogAt_35 : decode cX12_fogAt 35 = .ok (.aload_n 0, 1) := by decide +kernel
theorem dX12_fogAt_36 : decode cX12_fogAt 36 = .ok (.getfield 109, 3) := by decide +kernel
theorem dX12_fogAt_39 : decode cX12_fogAt 39 = .ok (.iconst 5, 1) := by decide +kernel
theorem dX12_fogAt_40 : decode cX12_fogAt 40 = .ok (.aload_n 0, 1) := by decide +kernel
theorem dX12_fogAt_41 : decode cX12_fogAt 41 = .ok (.iload_n 1, 1) := by decide +kernel
theorem dX12_fogAt_42 : decode cX12_fogAt 42 = .ok (.iload_n 2, 1) := by decide +kernel
theorem dX12_fogAt_43 : decode cX12_fogAt 43 = .ok (.invokevirtual 317, 3) := by decide +kernel
theorem dX12_fogAt_46 : decode cX12_fogAt 46 = .ok (.bipush 8, 2) := by decide +kernel
theorem dX12_fogAt_48 : decode cX12_fogAt 48 = .ok (.idiv, 1) := by decide +kernel
theorem dX12_fogAt_49 : decode cX12_fogAt 49 = .ok (.iastore, 1) := by decide +kernel
theorem dX12_fogAt_50 : decode cX12_fogAt 50 = .ok (.aload_n 0, 1) := by decide +kernel
theorem dX12_fogAt_51 : decode cX12_fogAt 51 = .ok (.aload_n 0, 1) := by decide +kernel
theorem dX12_fogAt_52 : decode cX12_fogAt 52 = .ok (.aload_n 0, 1) := by decide +kernel
theorem dX12_fogAt_53 : decode cX12_fogAt 53 = .ok (.getfield 85, 3) := by decide +kernel
theorem dX12_fogAt_56 : decode cX12_fogAt 56 = .ok (.bipush 6, 2) := by decide +kernel
theorem dX12_fogAt_58 : decode cX12_fogAt 58 = .ok (.iaload, 1) := by decide +kernel
theorem dX12_fogAt_59 : decode cX12_fogAt 59 = .ok (.invokevirtual 320, 3) := by decide +kernel
theorem dX12_fogAt_62 : decode cX12_fogAt 62 = .ok (.bipush 14, 2) := by decide +kernel
theorem dX12_fogAt_64 : decode cX12_fogAt 64 = .ok (.invokevirtual 323, 3) := by decide +kernel
theorem dX12_fogAt_67 : decode cX12_fogAt 67 = .ok (.ireturn, 1) := by decide +kernel
theorem dX12_nearestTo_0 : decode cX12_nearestTo 0 = .ok (.aload_n 0, 1) := by decide +kernel
theorem dX12_nearestTo_1 : decode cX12_nearestTo 1 = .ok (.iload_n 1, 1) := by decide +kernel
theorem dX12_nearestTo_2 : decode cX12_nearestTo 2 = .ok (.iload_n 2, 1) := by decide +kernel
theorem dX12_nearestTo_3 : decode cX12_nearestTo 3 = .ok (.invokevirtual 326, 3) := by decide +kernel
theorem dX12_nearestTo_6 : decode cX12_nearestTo 6 = .ok (.istore_n 3, 1) := by decide +kernel
theorem dX12_nearestTo_7 : decode cX12_nearestTo 7 = .ok (.iconst (-1), 1) := by decide +kernel
theorem dX12_nearestTo_8 : decode cX12_nearestTo 8 = .ok (.istore 4, 2) := by decide +kernel
theorem dX12_nearestTo_10 : decode cX12_nearestTo 10 = .ok (.iload_n 3, 1) := by decide +kernel
theorem dX12_nearestTo_11 : decode cX12_nearestTo 11 = .ok (.iconst 1, 1) := by decide +kernel
theorem dX12_nearestTo_12 : decode cX12_nearestTo 12 = .ok (.iadd, 1) := by decide +kernel
theorem dX12_nearestTo_13 : decode cX12_nearestTo 13 = .ok (.istore 5, 2) := by decide +kernel
theorem dX12_nearestTo_15 : decode cX12_nearestTo 15 = .ok (.iconst 0, 1) := by decide +kernel
theorem dX12_nearestTo_16 : decode cX12_nearestTo 16 = .ok (.istore 6, 2) := by decide +kernel
theorem dX12_nearestTo_18 : decode cX12_nearestTo 18 = .ok (.iload 6, 2) := by decide +kernel
theorem dX12_nearestTo_20 : decode cX12_nearestTo 20 = .ok (.aload_n 0, 1) := by decide +kernel
theorem dX12_nearestTo_21 : decode cX12_nearestTo 21 = .ok (.invokevirtual 226, 3) := by decide +kernel
theorem dX12_nearestTo_24 : decode cX12_nearestTo 24 = .ok (.if_icmp .ge 48, 3) := by decide +kernel
theorem dX12_nearestTo_27 : decode cX12_nearestTo 27 = .ok (.aload_n 0, 1) := by decide +kernel
theorem dX12_nearestTo_28 : decode cX12_nearestTo 28 = .ok (.iload_n 1, 1) := by decide +kernel
theorem dX12_nearestTo_29 : decode cX12_nearestTo 29 = .ok (.iload_n 2, 1) := by decide +kernel
theorem dX12_nearestTo_30 : decode cX12_nearestTo 30 = .ok (.invokevirtual 317, 3) := by decide +kernel
theorem dX12_nearestTo_33 : decode cX12_nearestTo 33 = .ok (.aload_n 0, 1) := by decide +kernel
theorem dX12_nearestTo_34 : decode cX12_nearestTo 34 = .ok (.iload 6, 2) := by decide +kernel
theorem dX12_nearestTo_36 : decode cX12_nearestTo 36 = .ok (.iload_n 2, 1) := by decide +kernel
theorem dX12_nearestTo_37 : decode cX12_nearestTo 37 = .ok (.invokevirtual 317, 3) := by decide +kernel
theorem dX12_nearestTo_40 : decode cX12_nearestTo 40 = .ok (.invokestatic 329, 3) := by decide +kernel
theorem dX12_nearestTo_43 : decode cX12_nearestTo 43 = .ok (.istore 7, 2) := by decide +kernel
theorem dX12_nearestTo_45 : decode cX12_nearestTo 45 = .ok (.iload 6, 2) := by decide +kernel
theorem dX12_nearestTo_47 : decode cX12_nearestTo 47 = .ok (.iload_n 1, 1) := by decide +kernel
theorem dX12_nearestTo_48 : decode cX12_nearestTo 48 = .ok (.if_icmp .eq 18, 3) := by decide +kernel
theorem dX12_nearestTo_51 : decode cX12_nearestTo 51 = .ok (.iload 7, 2) := by decide +kernel
theorem dX12_nearestTo_53 : decode cX12_nearestTo 53 = .ok (.iload 5, 2) := by decide +kernel
theorem dX12_nearestTo_55 : decode cX12_nearestTo 55 = .ok (.if_icmp .ge 11, 3) := by decide +kernel
theorem dX12_nearestTo_58 : decode cX12_nearestTo 58 = .ok (.iload 6, 2) := by decide +kernel
theorem dX12_nearestTo_60 : decode cX12_nearestTo 60 = .ok (.istore 4, 2) := by decide +kernel
theorem dX12_nearestTo_62 : decode cX12_nearestTo 62 = .ok (.iload 7, 2) := by decide +kernel
theorem dX12_nearestTo_64 : decode cX12_nearestTo 64 = .ok (.istore 5, 2) := by decide +kernel
theorem dX12_nearestTo_66 : decode cX12_nearestTo 66 = .ok (.iinc 6 1, 3) := by decide +kernel
theorem dX12_nearestTo_69 : decode cX12_nearestTo 69 = .ok (.goto (-51), 3) := by decide +kernel
theorem dX12_nearestTo_72 : decode cX12_nearestTo 72 = .ok (.iload 4, 2) := by decide +kernel
theorem dX12_nearestTo_74 : decode cX12_nearestTo 74 = .ok (.ireturn, 1) := by decide +kernel
theorem dX12_hears_0 : decode cX12_hears 0 = .ok (.aload_n 0, 1) := by decide +kernel
theorem dX12_hears_1 : decode cX12_hears 1 = .ok (.iload_n 3, 1) := by decide +kernel
theorem dX12_hears_2 : decode cX12_hears 2 = .ok (.invokevirtual 332, 3) := by decide +kernel
theorem dX12_hears_5 : decode cX12_hears 5 = .ok (.iconst 1, 1) := by decide +kernel
theorem dX12_hears_6 : decode cX12_hears 6 = .ok (.if_icmp .eq 35, 3) := by decide +kernel
theorem dX12_hears_9 : decode cX12_hears 9 = .ok (.aload_n 0, 1) := by decide +kernel
theorem dX12_hears_10 : decode cX12_hears 10 = .ok (.iload_n 3, 1) := by decide +kernel
theorem dX12_hears_11 : decode cX12_hears 11 = .ok (.iload_n 2, 1) := by decide +kernel
theorem dX12_hears_12 : decode cX12_hears 12 = .ok (.invokevirtual 317, 3) := by decide +kernel
theorem dX12_hears_15 : decode cX12_hears 15 = .ok (.aload_n 0, 1) := by decide +kernel
theorem dX12_hears_16 : decode cX12_hears 16 = .ok (.getfield 85, 3) := by decide +kernel
theorem dX12_hears_19 : decode cX12_hears 19 = .ok (.sipush 163, 3) := by decide +kernel
theorem dX12_hears_22 : decode cX12_hears 22 = .ok (.iload_n 1, 1) := by decide +kernel
theorem dX12_hears_23 : decode cX12_hears 23 = .ok (.iadd, 1) := by decide +kernel
theorem dX12_hears_24 : decode cX12_hears 24 = .ok (.iaload, 1) := by decide +kernel
theorem dX12_hears_25 : decode cX12_hears 25 = .ok (.invokestatic 329, 3) := by decide +kernel
theorem dX12_hears_28 : decode cX12_hears 28 = .ok (.aload_n 0, 1) := by decide +kernel
theorem dX12_hears_29 : decode cX12_hears 29 = .ok (.getfield 85, 3) := by decide +kernel
theorem dX12_hears_32 : decode cX12_hears 32 = .ok (.iconst 4, 1) := by decide +kernel
theorem dX12_hears_33 : decode cX12_hears 33 = .ok (.iaload, 1) := by decide +kernel
theorem dX12_hears_34 : decode cX12_hears 34 = .ok (.if_icmp .gt 7, 3) := by decide +kernel
theorem dX12_hears_37 : decode cX12_hears 37 = .ok (.iconst 1, 1) := by decide +kernel
theorem dX12_hears_38 : decode cX12_hears 38 = .ok (.goto 4, 3) := by decide +kernel
theorem dX12_hears_41 : decode cX12_hears 41 = .ok (.iconst 0, 1) := by decide +kernel
theorem dX12_hears_42 : decode cX12_hears 42 = .ok (.ireturn, 1) := by decide +kernel
theorem dX12_pence_0 : decode cX12_pence 0 = .ok (.aload_n 0, 1) := by decide +kernel
theorem dX12_pence_1 : decode cX12_pence 1 = .ok (.iload_n 3, 1) := by decide +kernel
theorem dX12_pence_2 : decode cX12_pence 2 = .ok (.iload_n 2, 1) := by decide +kernel
theorem dX12_pence_3 : decode cX12_pence 3 = .ok (.invokevirtual 317, 3) := by decide +kernel
theorem dX12_pence_6 : decode cX12_pence 6 = .ok (.aload_n 0, 1) := by decide +kernel
theorem dX12_pence_7 : decode cX12_pence 7 = .ok (.iload 4, 2) := by decide +kernel
theorem dX12_pence_9 : decode cX12_pence 9 = .ok (.iload_n 2, 1) := by decide +kernel
theorem dX12_pence_10 : decode cX12_pence 10 = .ok (.invokevirtual 317, 3) := by decide +kernel
theorem dX12_pence_13 : decode cX12_pence 13 = .ok (.invokestatic 329, 3) := by decide +kernel
theorem dX12_pence_16 : decode cX12_pence 16 = .ok (.istore 6, 2) := by decide +kernel
theorem dX12_pence_18 : decode cX12_pence 18 = .ok (.iconst 1, 1) := by decide +kernel
theorem dX12_pence_19 : decode cX12_pence 19 = .ok (.istore 7, 2) := by decide +kernel
theorem dX12_pence_21 : decode cX12_pence 21 = .ok (.aload_n 0, 1) := by decide +kernel
theorem dX12_pence_22 : decode cX12_pence 22 = .ok (.getfield 85, 3) := by decide +kernel
theorem dX12_pence_25 : decode cX12_pence 25 = .ok (.iconst 5, 1) := by decide +kernel
theorem dX12_pence_26 : decode cX12_pence 26 = .ok (.iaload, 1) := by decide +kernel
theorem dX12_pence_27 : decode cX12_pence 27 = .ok (.ifCond .lt 69, 3) := by decide +kernel
theorem dX12_pence_30 : decode cX12_pence 30 = .ok (.aload_n 0, 1) := by decide +kernel
theorem dX12_pence_31 : decode cX12_pence 31 = .ok (.getfield 109, 3) := by decide +kernel
theorem dX12_pence_34 : decode cX12_pence 34 = .ok (.iconst 0, 1) := by decide +kernel
theorem dX12_pence_35 : decode cX12_pence 35 = .ok (.iload_n 2, 1) := by decide +kernel
theorem dX12_pence_36 : decode cX12_pence 36 = .ok (.iastore, 1) := by decide +kernel
theorem dX12_pence_37 : decode cX12_pence 37 = .ok (.aload_n 0, 1) := by decide +kernel
theorem dX12_pence_38 : decode cX12_pence 38 = .ok (.getfield 109, 3) := by decide +kernel
theorem dX12_pence_41 : decode cX12_pence 41 = .ok (.iconst 1, 1) := by decide +kernel
theorem dX12_pence_42 : decode cX12_pence 42 = .ok (.aload_n 0, 1) := by decide +kernel
theorem dX12_pence_43 : decode cX12_pence 43 = .ok (.iload_n 3, 1) := by decide +kernel
theorem dX12_pence_44 : decode cX12_pence 44 = .ok (.iload_n 2, 1) := by decide +kernel
theorem dX12_pence_45 : decode cX12_pence 45 = .ok (.invokevirtual 317, 3) := by decide +kernel
theorem dX12_pence_48 : decode cX12_pence 48 = .ok (.aload_n 0, 1) := by decide +kernel
theorem dX12_pence_49 : decode cX12_pence 49 = .ok (.getfield 85, 3) := by decide +kernel
theorem dX12_pence_52 : decode cX12_pence 52 = .ok (.sipush 163, 3) := by decide +kernel
theorem dX12_pence_55 : decode cX12_pence 55 = .ok (.iload_n 1, 1) := by decide +kernel
theorem dX12_pence_56 : decode cX12_pence 56 = .ok (.iadd, 1) := by decide +kernel
theorem dX12_pence_57 : decode cX12_pence 57 = .ok (.iaload, 1) := by decide +kernel
theorem dX12_pence_58 : decode cX12_pence 58 = .ok (.invokestatic 329, 3) := by decide +kernel
theorem dX12_pence_61 : decode cX12_pence 61 = .ok (.iastore, 1) := by decide +kernel
theorem dX12_pence_62 : decode cX12_pence 62 = .ok (.aload_n 0, 1) := by decide +kernel
theorem dX12_pence_63 : decode cX12_pence 63 = .ok (.getfield 109, 3) := by decide +kernel
theorem dX12_pence_66 : decode cX12_pence 66 = .ok (.iconst 2, 1) := by decide +kernel
theorem dX12_pence_67 : decode cX12_pence 67 = .ok (.iload 6, 2) := by decide +kernel
theorem dX12_pence_69 : decode cX12_pence 69 = .ok (.iastore, 1) := by decide +kernel
theorem dX12_pence_70 : decode cX12_pence 70 = .ok (.aload_n 0, 1) := by decide +kernel
theorem dX12_pence_71 : decode cX12_pence 71 = .ok (.getfield 109, 3) := by decide +kernel
theorem dX12_pence_74 : decode cX12_pence 74 = .ok (.iconst 3, 1) := by decide +kernel
theorem dX12_pence_75 : decode cX12_pence 75 = .ok (.iload 5, 2) := by decide +kernel
theorem dX12_pence_77 : decode cX12_pence 77 = .ok (.iastore, 1) := by decide +kernel
theorem dX12_pence_78 : decode cX12_pence 78 = .ok (.aload_n 0, 1) := by decide +kernel
theorem dX12_pence_79 : decode cX12_pence 79 = .ok (.aload_n 0, 1) := by decide +kernel
theorem dX12_pence_80 : decode cX12_pence 80 = .ok (.aload_n 0, 1) := by decide +kernel
theorem dX12_pence_81 : decode cX12_pence 81 = .ok (.getfield 85, 3) := by decide +kernel
theorem dX12_pence_84 : decode cX12_pence 84 = .ok (.iconst 5, 1) := by decide +kernel
theorem dX12_pence_85 : decode cX12_pence 85 = .ok (.iaload, 1) := by decide +kernel
theorem dX12_pence_86 : decode cX12_pence 86 = .ok (.invokevirtual 320, 3) := by decide +kernel
theorem dX12_pence_89 : decode cX12_pence 89 = .ok (.bipush 99, 2) := by decide +kernel
theorem dX12_pence_91 : decode cX12_pence 91 = .ok (.invokevirtual 323, 3) := by decide +kernel
theorem dX12_pence_94 : decode cX12_pence 94 = .ok (.istore 7, 2) := by decide +kernel
theorem dX12_pence_96 : decode cX12_pence 96 = .ok (.iload 7, 2) := by decide +kernel
theorem dX12_pence_98 : decode cX12_pence 98 = .ok (.iload 5, 2) := by decide +kernel
theorem dX12_pence_100 : decode cX12_pence 100 = .ok (.imul, 1) := by decide +kernel
theorem dX12_pence_101 : decode cX12_pence 101 = .ok (.istore 7, 2) := by decide +kernel
theorem dX12_pence_103 : decode cX12_pence 103 = .ok (.aload_n 0, 1) := by decide +kernel
theorem dX12_pence_104 : decode cX12_pence 104 = .ok (.iload_n 3, 1) := by decide +kernel
theorem dX12_pence_105 : decode cX12_pence 105 = .ok (.invokevirtual 332, 3) := by decide +kernel
theorem dX12_pence_108 : decode cX12_pence 108 = .ok (.istore 8, 2) := by decide +kernel
theorem dX12_pence_110 : decode cX12_pence 110 = .ok (.iload 8, 2) := by decide +kernel
theorem dX12_pence_112 : decode cX12_pence 112 = .ok (.iconst 2, 1) := by decide +kernel
theorem dX12_pence_113 : decode cX12_pence 113 = .ok (.if_icmp .ne 10, 3) := by decide +kernel
theorem dX12_pence_116 : decode cX12_pence 116 = .ok (.iload 7, 2) := by decide +kernel
theorem dX12_pence_118 : decode cX12_pence 118 = .ok (.iconst 2, 1) := by decide +kernel
theorem dX12_pence_119 : decode cX12_pence 119 = .ok (.idiv, 1) := by decide +kernel
theorem dX12_pence_120 : decode cX12_pence 120 = .ok (.goto 34, 3) := by decide +kernel
theorem dX12_pence_123 : decode cX12_pence 123 = .ok (.iload 8, 2) := by decide +kernel
theorem dX12_pence_125 : decode cX12_pence 125 = .ok (.iconst 3, 1) := by decide +kernel
theorem dX12_pence_126 : decode cX12_pence 126 = .ok (.if_icmp .ne 10, 3) := by decide +kernel
theorem dX12_pence_129 : decode cX12_pence 129 = .ok (.iconst 2, 1) := by decide +kernel
theorem dX12_pence_130 : decode cX12_pence 130 = .ok (.iload 7, 2) := by decide +kernel
theorem dX12_pence_132 : decode cX12_pence 132 = .ok (.imul, 1) := by decide +kernel
theorem dX12_pence_133 : decode cX12_pence 133 = .ok (.goto 21, 3) := by decide +kernel
theorem dX12_pence_136 : decode cX12_pence 136 = .ok (.iload 8, 2) := by decide +kernel
theorem dX12_pence_138 : decode cX12_pence 138 = .ok (.iconst 4, 1) := by decide +kernel
theorem dX12_pence_139 : decode cX12_pence 139 = .ok (.if_icmp .ne 13, 3) := by decide +kernel
theorem dX12_pence_142 : decode cX12_pence 142 = .ok (.iload 6, 2) := by decide +kernel
theorem dX12_pence_144 : decode cX12_pence 144 = .ok (.iconst 3, 1) := by decide +kernel
theorem dX12_pence_145 : decode cX12_pence 145 = .ok (.if_icmp .lt 7, 3) := by decide +kernel
theorem dX12_pence_148 : decode cX12_pence 148 = .ok (.iconst 0, 1) := by decide +kernel
theorem dX12_pence_149 : decode cX12_pence 149 = .ok (.goto 5, 3) := by decide +kernel
theorem dX12_pence_152 : decode cX12_pence 152 = .ok (.iload 7, 2) := by decide +kernel
theorem dX12_pence_154 : decode cX12_pence 154 = .ok (.ireturn, 1) := by decide +kernel
theorem dX12_creditor_0 : decode cX12_creditor 0 = .ok (.aload_n 0, 1) := by decide +kernel
theorem dX12_creditor_1 : decode cX12_creditor 1 = .ok (.iload_n 1, 1) := by decide +kernel
theorem dX12_creditor_2 : decode cX12_creditor 2 = .ok (.iload_n 2, 1) := by decide +kernel
theorem dX12_creditor_3 : decode cX12_creditor 3 = .ok (.iload_n 3, 1) := by decide +kernel
theorem dX12_creditor_4 : decode cX12_creditor 4 = .ok (.invokevirtual 335, 3) := by decide +kernel
theorem dX12_creditor_7 : decode cX12_creditor 7 = .ok (.ifCond .eq 12, 3) := by decide +kernel
theorem dX12_creditor_10 : decode cX12_creditor 10 = .ok (.aload_n 0, 1) := by decide +kernel
theorem dX12_creditor_11 : decode cX12_creditor 11 = .ok (.iload_n 3, 1) := by decide +kernel
theorem dX12_creditor_12 : decode cX12_creditor 12 = .ok (.iload_n 2, 1) := by decide +kernel
theorem dX12_creditor_13 : decode cX12_creditor 13 = .ok (.invokevirtual 339, 3) := by decide +kernel
theorem dX12_creditor_16 : decode cX12_creditor 16 = .ok (.goto 4, 3) := by decide +kernel
theorem dX12_creditor_19 : decode cX12_creditor 19 = .ok (.iconst (-1), 1) := by decide +kernel
theorem dX12_creditor_20 : decode cX12_creditor 20 = .ok (.ireturn, 1) := by decide +kernel
theorem dX12_findOwes_0 : decode cX12_findOwes 0 = .ok (.iconst 0, 1) := by decide +kernel
theorem dX12_findOwes_1 : decode cX12_findOwes 1 = .ok (.istore_n 2, 1) := by decide +kernel
theorem dX12_findOwes_2 : decode cX12_findOwes 2 = .ok (.iload_n 2, 1) := by decide +kernel
theorem dX12_findOwes_3 : decode cX12_findOwes 3 = .ok (.bipush 36, 2) := by decide +kernel
theorem dX12_findOwes_5 : decode cX12_findOwes 5 = .ok (.if_icmp .ge 16, 3) := by decide +kernel
theorem dX12_findOwes_8 : decode cX12_findOwes 8 = .ok (.aload_n 0, 1) := by decide +kernel
theorem dX12_findOwes_9 : decode cX12_findOwes 9 = .ok (.getfield 131, 3) := by decide +kernel
theorem dX12_findOwes_12 : decode cX12_findOwes 12 = .ok (.iload_n 2, 1) := by decide +kernel
theorem dX12_findOwes_13 : decode cX12_findOwes 13 = .ok (.iconst 0, 1) := by decide +kernel
theorem dX12_findOwes_14 : decode cX12_findOwes 14 = .ok (.iastore, 1) := by decide +kernel
theorem dX12_findOwes_15 : decode cX12_findOwes 15 = .ok (.iinc 2 1, 3) := by decide +kernel
theorem dX12_findOwes_18 : decode cX12_findOwes 18 = .ok (.goto (-16), 3) := by decide +kernel
theorem dX12_findOwes_21 : decode cX12_findOwes 21 = .ok (.iconst 0, 1) := by decide +kernel
theorem dX12_findOwes_22 : decode cX12_findOwes 22 = .ok (.istore_n 2, 1) := by decide +kernel
theorem dX12_findOwes_23 : decode cX12_findOwes 23 = .ok (.iload_n 2, 1) := by decide +kernel
theorem dX12_findOwes_24 : decode cX12_findOwes 24 = .ok (.aload_n 0, 1) := by decide +kernel
theorem dX12_findOwes_25 : decode cX12_findOwes 25 = .ok (.invokevirtual 311, 3) := by decide +kernel
theorem dX12_findOwes_28 : decode cX12_findOwes 28 = .ok (.if_icmp .ge 123, 3) := by decide +kernel
theorem dX12_findOwes_31 : decode cX12_findOwes 31 = .ok (.iconst 0, 1) := by decide +kernel
theorem dX12_findOwes_32 : decode cX12_findOwes 32 = .ok (.istore_n 3, 1) := by decide +kernel
theorem dX12_findOwes_33 : decode cX12_findOwes 33 = .ok (.iload_n 3, 1) := by decide +kernel
theorem dX12_findOwes_34 : decode cX12_findOwes 34 = .ok (.bipush 24, 2) := by decide +kernel
theorem dX12_findOwes_36 : decode cX12_findOwes 36 = .ok (.if_icmp .ge 109, 3) := by decide +kernel
theorem dX12_findOwes_39 : decode cX12_findOwes 39 = .ok (.aload_n 0, 1) := by decide +kernel
theorem dX12_findOwes_40 : decode cX12_findOwes 40 = .ok (.iload_n 2, 1) := by decide +kernel
theorem dX12_findOwes_41 : decode cX12_findOwes 41 = .ok (.invokevirtual 342, 3) := by decide +kernel
theorem dX12_findOwes_44 : decode cX12_findOwes 44 = .ok (.ifCond .ne 12, 3) := by decide +kernel
theorem dX12_findOwes_47 : decode cX12_findOwes 47 = .ok (.iload_n 1, 1) := by decide +kernel
theorem dX12_findOwes_48 : decode cX12_findOwes 48 = .ok (.iload_n 2, 1) := by decide +kernel
theorem dX12_findOwes_49 : decode cX12_findOwes 49 = .ok (.ishr, 1) := by decide +kernel
theorem dX12_findOwes_50 : decode cX12_findOwes 50 = .ok (.iconst 1, 1) := by decide +kernel
theorem dX12_findOwes_51 : decode cX12_findOwes 51 = .ok (.iand, 1) := by decide +kernel
theorem dX12_findOwes_52 : decode cX12_findOwes 52 = .ok (.iconst 1, 1) := by decide +kernel
theorem dX12_findOwes_53 : decode cX12_findOwes 53 = .ok (.if_icmp .ne 7, 3) := by decide +kernel
theorem dX12_findOwes_56 : decode cX12_findOwes 56 = .ok (.iconst 0, 1) := by decide +kernel
theorem dX12_findOwes_57 : decode cX12_findOwes 57 = .ok (.goto 14, 3) := by decide +kernel
theorem dX12_findOwes_60 : decode cX12_findOwes 60 = .ok (.aload_n 0, 1) := by decide +kernel
theorem dX12_findOwes_61 : decode cX12_findOwes 61 = .ok (.getfield 115, 3) := by decide +kernel
theorem dX12_findOwes_64 : decode cX12_findOwes 64 = .ok (.bipush 24, 2) := by decide +kernel
theorem dX12_findOwes_66 : decode cX12_findOwes 66 = .ok (.iload_n 2, 1) := by decide +kernel
theorem dX12_findOwes_67 : decode cX12_findOwes 67 = .ok (.imul, 1) := by decide +kernel
theorem dX12_findOwes_68 : decode cX12_findOwes 68 = .ok (.iload_n 3, 1) := by decide +kernel
theorem dX12_findOwes_69 : decode cX12_findOwes 69 = .ok (.iadd, 1) := by decide +kernel
theorem dX12_findOwes_70 : decode cX12_findOwes 70 = .ok (.iaload, 1) := by decide +kernel
theorem dX12_findOwes_71 : decode cX12_findOwes 71 = .ok (.istore 4, 2) := by decide +kernel
theorem dX12_findOwes_73 : decode cX12_findOwes 73 = .ok (.iconst 0, 1) := by decide +kernel
theorem dX12_findOwes_74 : decode cX12_findOwes 74 = .ok (.istore 5, 2) := by decide +kernel
theorem dX12_findOwes_76 : decode cX12_findOwes 76 = .ok (.iload 5, 2) := by decide +kernel
theorem dX12_findOwes_78 : decode cX12_findOwes 78 = .ok (.aload_n 0, 1) := by decide +kernel
theorem dX12_findOwes_79 : decode cX12_findOwes 79 = .ok (.invokevirtual 226, 3) := by decide +kernel
theorem dX12_findOwes_82 : decode cX12_findOwes 82 = .ok (.if_icmp .ge 57, 3) := by decide +kernel
theorem dX12_findOwes_85 : decode cX12_findOwes 85 = .ok (.iload 4, 2) := by decide +kernel
theorem dX12_findOwes_87 : decode cX12_findOwes 87 = .ok (.ifCond .le 52, 3) := by decide +kernel
theorem dX12_findOwes_90 : decode cX12_findOwes 90 = .ok (.aload_n 0, 1) := by decide +kernel
theorem dX12_findOwes_91 : decode cX12_findOwes 91 = .ok (.iload_n 2, 1) := by decide +kernel
theorem dX12_findOwes_92 : decode cX12_findOwes 92 = .ok (.iload_n 3, 1) := by decide +kernel
theorem dX12_findOwes_93 : decode cX12_findOwes 93 = .ok (.iload 5, 2) := by decide +kernel
theorem dX12_findOwes_95 : decode cX12_findOwes 95 = .ok (.invokevirtual 345, 3) := by decide +kernel
theorem dX12_findOwes_98 : decode cX12_findOwes 98 = .ok (.istore 6, 2) := by decide +kernel
theorem dX12_findOwes_100 : decode cX12_findOwes 100 = .ok (.iload 6, 2) := by decide +kernel
theorem dX12_findOwes_102 : decode cX12_findOwes 102 = .ok (.ifCond .lt 31, 3) := by decide +kernel
theorem dX12_findOwes_105 : decode cX12_findOwes 105 = .ok (.aload_n 0, 1) := by decide +kernel
theorem dX12_findOwes_106 : decode cX12_findOwes 106 = .ok (.getfield 131, 3) := by decide +kernel
theorem dX12_findOwes_109 : decode cX12_findOwes 109 = .ok (.bipush 6, 2) := by decide +kernel
theorem dX12_findOwes_111 : decode cX12_findOwes 111 = .ok (.iload 5, 2) := by decide +kernel
theorem dX12_findOwes_113 : decode cX12_findOwes 113 = .ok (.imul, 1) := by decide +kernel
theorem dX12_findOwes_114 : decode cX12_findOwes 114 = .ok (.iload 6, 2) := by decide +kernel
theorem dX12_findOwes_116 : decode cX12_findOwes 116 = .ok (.iadd, 1) := by decide +kernel
theorem dX12_findOwes_117 : decode cX12_findOwes 117 = .ok (.dup2, 1) := by decide +kernel
theorem dX12_findOwes_118 : decode cX12_findOwes 118 = .ok (.iaload, 1) := by decide +kernel
theorem dX12_findOwes_119 : decode cX12_findOwes 119 = .ok (.aload_n 0, 1) := by decide +kernel
theorem dX12_findOwes_120 : decode cX12_findOwes 120 = .ok (.iload_n 2, 1) := by decide +kernel
theorem dX12_findOwes_121 : decode cX12_findOwes 121 = .ok (.iload_n 3, 1) := by decide +kernel
theorem dX12_findOwes_122 : decode cX12_findOwes 122 = .ok (.iload 5, 2) := by decide +kernel
theorem dX12_findOwes_124 : decode cX12_findOwes 124 = .ok (.iload 6, 2) := by decide +kernel
theorem dX12_findOwes_126 : decode cX12_findOwes 126 = .ok (.iload 4, 2) := by decide +kernel
theorem dX12_findOwes_128 : decode cX12_findOwes 128 = .ok (.invokevirtual 348, 3) := by decide +kernel
theorem dX12_findOwes_131 : decode cX12_findOwes 131 = .ok (.iadd, 1) := by decide +kernel
theorem dX12_findOwes_132 : decode cX12_findOwes 132 = .ok (.iastore, 1) := by decide +kernel
theorem dX12_findOwes_133 : decode cX12_findOwes 133 = .ok (.iinc 5 1, 3) := by decide +kernel
theorem dX12_findOwes_136 : decode cX12_findOwes 136 = .ok (.goto (-60), 3) := by decide +kernel
theorem dX12_findOwes_139 : decode cX12_findOwes 139 = .ok (.iinc 3 1, 3) := by decide +kernel
theorem dX12_findOwes_142 : decode cX12_findOwes 142 = .ok (.goto (-109), 3) := by decide +kernel
theorem dX12_findOwes_145 : decode cX12_findOwes 145 = .ok (.iinc 2 1, 3) := by decide +kernel
theorem dX12_findOwes_148 : decode cX12_findOwes 148 = .ok (.goto (-125), 3) := by decide +kernel
theorem dX12_findOwes_151 : decode cX12_findOwes 151 = .ok (.return_, 1) := by decide +kernel
theorem dX12_balanceOf_0 : decode cX12_balanceOf 0 = .ok (.iconst 0, 1) := by decide +kernel
theorem dX12_balanceOf_1 : decode cX12_balanceOf 1 = .ok (.istore_n 2, 1) := by decide +kernel
theorem dX12_balanceOf_2 : decode cX12_balanceOf 2 = .ok (.iconst 0, 1) := by decide +kernel
theorem dX12_balanceOf_3 : decode cX12_balanceOf 3 = .ok (.istore_n 3, 1) := by decide +kernel
theorem dX12_balanceOf_4 : decode cX12_balanceOf 4 = .ok (.iload_n 3, 1) := by decide +kernel
theorem dX12_balanceOf_5 : decode cX12_balanceOf 5 = .ok (.bipush 6, 2) := by decide +kernel
theorem dX12_balanceOf_7 : decode cX12_balanceOf 7 = .ok (.if_icmp .ge 35, 3) := by decide +kernel
theorem dX12_balanceOf_10 : decode cX12_balanceOf 10 = .ok (.iload_n 2, 1) := by decide +kernel
theorem dX12_balanceOf_11 : decode cX12_balanceOf 11 = .ok (.aload_n 0, 1) := by decide +kernel
theorem dX12_balanceOf_12 : decode cX12_balanceOf 12 = .ok (.getfield 131, 3) := by decide +kernel
theorem dX12_balanceOf_15 : decode cX12_balanceOf 15 = .ok (.bipush 6, 2) := by decide +kernel
theorem dX12_balanceOf_17 : decode cX12_balanceOf 17 = .ok (.iload_n 3, 1) := by decide +kernel
theorem dX12_balanceOf_18 : decode cX12_balanceOf 18 = .ok (.imul, 1) := by decide +kernel
theorem dX12_balanceOf_19 : decode cX12_balanceOf 19 = .ok (.iload_n 1, 1) := by decide +kernel
theorem dX12_balanceOf_20 : decode cX12_balanceOf 20 = .ok (.iadd, 1) := by decide +kernel
theorem dX12_balanceOf_21 : decode cX12_balanceOf 21 = .ok (.iaload, 1) := by decide +kernel
theorem dX12_balanceOf_22 : decode cX12_balanceOf 22 = .ok (.aload_n 0, 1) := by decide +kernel
theorem dX12_balanceOf_23 : decode cX12_balanceOf 23 = .ok (.getfield 131, 3) := by decide +kernel
theorem dX12_balanceOf_26 : decode cX12_balanceOf 26 = .ok (.bipush 6, 2) := by decide +kernel
theorem dX12_balanceOf_28 : decode cX12_balanceOf 28 = .ok (.iload_n 1, 1) := by decide +kernel
theorem dX12_balanceOf_29 : decode cX12_balanceOf 29 = .ok (.imul, 1) := by decide +kernel
theorem dX12_balanceOf_30 : decode cX12_balanceOf 30 = .ok (.iload_n 3, 1) := by decide +kernel
theorem dX12_balanceOf_31 : decode cX12_balanceOf 31 = .ok (.iadd, 1) := by decide +kernel
theorem dX12_balanceOf_32 : decode cX12_balanceOf 32 = .ok (.iaload, 1) := by decide +kernel
theorem dX12_balanceOf_33 : decode cX12_balanceOf 33 = .ok (.isub, 1) := by decide +kernel
theorem dX12_balanceOf_34 : decode cX12_balanceOf 34 = .ok (.iadd, 1) := by decide +kernel
theorem dX12_balanceOf_35 : decode cX12_balanceOf 35 = .ok (.istore_n 2, 1) := by decide +kernel
theorem dX12_balanceOf_36 : decode cX12_balanceOf 36 = .ok (.iinc 3 1, 3) := by decide +kernel
theorem dX12_balanceOf_39 : decode cX12_balanceOf 39 = .ok (.goto (-35), 3) := by decide +kernel
theorem dX12_balanceOf_42 : decode cX12_balanceOf 42 = .ok (.iload_n 2, 1) := by decide +kernel
theorem dX12_balanceOf_43 : decode cX12_balanceOf 43 = .ok (.ireturn, 1) := by decide +kernel
theorem dX12_person_0 : decode cX12_person 0 = .ok (.aload_n 0, 1) := by decide +kernel
theorem dX12_person_1 : decode cX12_person 1 = .ok (.iconst 0, 1) := by decide +kernel
theorem dX12_person_2 : decode cX12_person 2 = .ok (.putfield 1, 3) := by decide +kernel
theorem dX12_person_5 : decode cX12_person 5 = .ok (.aload_n 0, 1) := by decide +kernel
theorem dX12_person_6 : decode cX12_person 6 = .ok (.iload_n 1, 1) := by decide +kernel
theorem dX12_person_7 : decode cX12_person 7 = .ok (.invokevirtual 352, 3) := by decide +kernel
theorem dX12_person_10 : decode cX12_person 10 = .ok (.ifCond .eq 28, 3) := by decide +kernel
theorem dX12_person_13 : decode cX12_person 13 = .ok (.iload_n 2, 1) := by decide +kernel
theorem dX12_person_14 : decode cX12_person 14 = .ok (.iconst 0, 1) := by decide +kernel
theorem dX12_person_15 : decode cX12_person 15 = .ok (.iconst 1, 1) := by decide +kernel
theorem dX12_person_16 : decode cX12_person 16 = .ok (.invokestatic 355, 3) := by decide +kernel
theorem dX12_person_19 : decode cX12_person 19 = .ok (.ifCond .eq 19, 3) := by decide +kernel
theorem dX12_person_22 : decode cX12_person 22 = .ok (.aload_n 0, 1) := by decide +kernel
theorem dX12_person_23 : decode cX12_person 23 = .ok (.getfield 85, 3) := by decide +kernel
theorem dX12_person_26 : decode cX12_person 26 = .ok (.bipush 7, 2) := by decide +kernel
theorem dX12_person_28 : decode cX12_person 28 = .ok (.iconst 2, 1) := by decide +kernel
theorem dX12_person_29 : decode cX12_person 29 = .ok (.iload_n 1, 1) := by decide +kernel
theorem dX12_person_30 : decode cX12_person 30 = .ok (.imul, 1) := by decide +kernel
theorem dX12_person_31 : decode cX12_person 31 = .ok (.iadd, 1) := by decide +kernel
theorem dX12_person_32 : decode cX12_person 32 = .ok (.iload_n 2, 1) := by decide +kernel
theorem dX12_person_33 : decode cX12_person 33 = .ok (.iadd, 1) := by decide +kernel
theorem dX12_person_34 : decode cX12_person 34 = .ok (.iaload, 1) := by decide +kernel
theorem dX12_person_35 : decode cX12_person 35 = .ok (.goto 4, 3) := by decide +kernel
theorem dX12_person_38 : decode cX12_person 38 = .ok (.iconst (-1), 1) := by decide +kernel
theorem dX12_person_39 : decode cX12_person 39 = .ok (.ireturn, 1) := by decide +kernel
theorem dX12_place_0 : decode cX12_place 0 = .ok (.aload_n 0, 1) := by decide +kernel
theorem dX12_place_1 : decode cX12_place 1 = .ok (.iconst 0, 1) := by decide +kernel
theorem dX12_place_2 : decode cX12_place 2 = .ok (.putfield 1, 3) := by decide +kernel
theorem dX12_place_5 : decode cX12_place 5 = .ok (.aload_n 0, 1) := by decide +kernel
theorem dX12_place_6 : decode cX12_place 6 = .ok (.iload_n 1, 1) := by decide +kernel
theorem dX12_place_7 : decode cX12_place 7 = .ok (.invokevirtual 352, 3) := by decide +kernel
theorem dX12_place_10 : decode cX12_place 10 = .ok (.ifCond .eq 27, 3) := by decide +kernel
theorem dX12_place_13 : decode cX12_place 13 = .ok (.iload_n 2, 1) := by decide +kernel
theorem dX12_place_14 : decode cX12_place 14 = .ok (.invokestatic 358, 3) := by decide +kernel
theorem dX12_place_17 : decode cX12_place 17 = .ok (.ifCond .eq 20, 3) := by decide +kernel
theorem dX12_place_20 : decode cX12_place 20 = .ok (.aload_n 0, 1) := by decide +kernel
theorem dX12_place_21 : decode cX12_place 21 = .ok (.getfield 85, 3) := by decide +kernel
theorem dX12_place_24 : decode cX12_place 24 = .ok (.bipush 19, 2) := by decide +kernel
theorem dX12_place_26 : decode cX12_place 26 = .ok (.bipush 24, 2) := by decide +kernel
theorem dX12_place_28 : decode cX12_place 28 = .ok (.iload_n 1, 1) := by decide +kernel
theorem dX12_place_29 : decode cX12_place 29 = .ok (.imul, 1) := by decide +kernel
theorem dX12_place_30 : decode cX12_place 30 = .ok (.iadd, 1) := by decide +kernel
theorem dX12_place_31 : decode cX12_place 31 = .ok (.iload_n 2, 1) := by decide +kernel
theorem dX12_place_32 : decode cX12_place 32 = .ok (.iadd, 1) := by decide +kernel
theorem dX12_place_33 : decode cX12_place 33 = .ok (.iaload, 1) := by decide +kernel
theorem dX12_place_34 : decode cX12_place 34 = .ok (.goto 4, 3) := by decide +kernel
theorem dX12_place_37 : decode cX12_place 37 = .ok (.iconst (-1), 1) := by decide +kernel
theorem dX12_place_38 : decode cX12_place 38 = .ok (.ireturn, 1) := by decide +kernel
theorem dX12_bird_0 : decode cX12_bird 0 = .ok (.aload_n 0, 1) := by decide +kernel
theorem dX12_bird_1 : decode cX12_bird 1 = .ok (.iconst 0, 1) := by decide +kernel
theorem dX12_bird_2 : decode cX12_bird 2 = .ok (.putfield 1, 3) := by decide +kernel
theorem dX12_bird_5 : decode cX12_bird 5 = .ok (.aload_n 0, 1) := by decide +kernel
theorem dX12_bird_6 : decode cX12_bird 6 = .ok (.iload_n 1, 1) := by decide +kernel
theorem dX12_bird_7 : decode cX12_bird 7 = .ok (.invokevirtual 361, 3) := by decide +kernel
theorem dX12_bird_10 : decode cX12_bird 10 = .ok (.ifCond .eq 12, 3) := by decide +kernel
theorem dX12_bird_13 : decode cX12_bird 13 = .ok (.iload_n 2, 1) := by decide +kernel
theorem dX12_bird_14 : decode cX12_bird 14 = .ok (.iconst 0, 1) := by decide +kernel
theorem dX12_bird_15 : decode cX12_bird 15 = .ok (.iconst 2, 1) := by decide +kernel
theorem dX12_bird_16 : decode cX12_bird 16 = .ok (.invokestatic 355, 3) := by decide +kernel
theorem dX12_bird_19 : decode cX12_bird 19 = .ok (.ifCond .ne 5, 3) := by decide +kernel
theorem dX12_bird_22 : decode cX12_bird 22 = .ok (.iconst (-1), 1) := by decide +kernel
theorem dX12_bird_23 : decode cX12_bird 23 = .ok (.ireturn, 1) := by decide +kernel
theorem dX12_bird_24 : decode cX12_bird 24 = .ok (.iconst 0, 1) := by decide +kernel
theorem dX12_bird_25 : decode cX12_bird 25 = .ok (.istore_n 3, 1) := by decide +kernel
theorem dX12_bird_26 : decode cX12_bird 26 = .ok (.iconst 0, 1) := by decide +kernel
theorem dX12_bird_27 : decode cX12_bird 27 = .ok (.istore 4, 2) := by decide +kernel
theorem dX12_bird_29 : decode cX12_bird 29 = .ok (.iload 4, 2) := by decide +kernel
theorem dX12_bird_31 : decode cX12_bird 31 = .ok (.bipush 24, 2) := by decide +kernel
theorem dX12_bird_33 : decode cX12_bird 33 = .ok (.if_icmp .ge 24, 3) := by decide +kernel
theorem dX12_bird_36 : decode cX12_bird 36 = .ok (.iload_n 3, 1) := by decide +kernel
theorem dX12_bird_37 : decode cX12_bird 37 = .ok (.aload_n 0, 1) := by decide +kernel
theorem dX12_bird_38 : decode cX12_bird 38 = .ok (.getfield 115, 3) := by decide +kernel
theorem dX12_bird_41 : decode cX12_bird 41 = .ok (.bipush 24, 2) := by decide +kernel
theorem dX12_bird_43 : decode cX12_bird 43 = .ok (.iload_n 1, 1) := by decide +kernel
theorem dX12_bird_44 : decode cX12_bird 44 = .ok (.imul, 1) := by decide +kernel
theorem dX12_bird_45 : decode cX12_bird 45 = .ok (.iload 4, 2) := by decide +kernel
theorem dX12_bird_47 : decode cX12_bird 47 = .ok (.iadd, 1) := by decide +kernel
theorem dX12_bird_48 : decode cX12_bird 48 = .ok (.iaload, 1) := by decide +kernel
theorem dX12_bird_49 : decode cX12_bird 49 = .ok (.iadd, 1) := by decide +kernel
theorem dX12_bird_50 : decode cX12_bird 50 = .ok (.istore_n 3, 1) := by decide +kernel
theorem dX12_bird_51 : decode cX12_bird 51 = .ok (.iinc 4 1, 3) := by decide +kernel
theorem dX12_bird_54 : decode cX12_bird 54 = .ok (.goto (-25), 3) := by decide +kernel
theorem dX12_bird_57 : decode cX12_bird 57 = .ok (.iload_n 2, 1) := by decide +kernel
theorem dX12_bird_58 : decode cX12_bird 58 = .ok (.ifCond .ne 16, 3) := by decide +kernel
theorem dX12_bird_61 : decode cX12_bird 61 = .ok (.aload_n 0, 1) := by decide +kernel
theorem dX12_bird_62 : decode cX12_bird 62 = .ok (.getfield 85, 3) := by decide +kernel
theorem dX12_bird_65 : decode cX12_bird 65 = .ok (.sipush 163, 3) := by decide +kernel
theorem dX12_bird_68 : decode cX12_bird 68 = .ok (.iload_n 1, 1) := by decide +kernel
theorem dX12_bird_69 : decode cX12_bird 69 = .ok (.iadd, 1) := by decide +kernel
theorem dX12_bird_70 : decode cX12_bird 70 = .ok (.iaload, 1) := by decide +kernel
theorem dX12_bird_71 : decode cX12_bird 71 = .ok (.goto 25, 3) := by decide +kernel
theorem dX12_bird_74 : decode cX12_bird 74 = .ok (.iload_n 2, 1) := by decide +kernel
theorem dX12_bird_75 : decode cX12_bird 75 = .ok (.iconst 1, 1) := by decide +kernel
theorem dX12_bird_76 : decode cX12_bird 76 = .ok (.if_icmp .ne 19, 3) := by decide +kernel
theorem dX12_bird_79 : decode cX12_bird 79 = .ok (.aload_n 0, 1) := by decide +kernel
theorem dX12_bird_80 : decode cX12_bird 80 = .ok (.iload_n 1, 1) := by decide +kernel
theorem dX12_bird_81 : decode cX12_bird 81 = .ok (.invokevirtual 342, 3) := by decide +kernel
theorem dX12_bird_84 : decode cX12_bird 84 = .ok (.ifCond .eq 7, 3) := by decide +kernel
theorem dX12_bird_87 : decode cX12_bird 87 = .ok (.iconst 1, 1) := by decide +kernel
theorem dX12_bird_88 : decode cX12_bird 88 = .ok (.goto 8, 3) := by decide +kernel
theorem dX12_bird_91 : decode cX12_bird 91 = .ok (.iconst 0, 1) := by decide +kernel
theorem dX12_bird_92 : decode cX12_bird 92 = .ok (.goto 4, 3) := by decide +kernel
theorem dX12_bird_95 : decode cX12_bird 95 = .ok (.iload_n 3, 1) := by decide +kernel
theorem dX12_bird_96 : decode cX12_bird 96 = .ok (.ireturn, 1) := by decide +kernel
theorem dX12_calls_0 : decode cX12_calls 0 = .ok (.aload_n 0, 1) := by decide +kernel
theorem dX12_calls_1 : decode cX12_calls 1 = .ok (.iconst 0, 1) := by decide +kernel
theorem dX12_calls_2 : decode cX12_calls 2 = .ok (.putfield 1, 3) := by decide +kernel
theorem dX12_calls_5 : decode cX12_calls 5 = .ok (.aload_n 0, 1) := by decide +kernel
theorem dX12_calls_6 : decode cX12_calls 6 = .ok (.iload_n 1, 1) := by decide +kernel
theorem dX12_calls_7 : decode cX12_calls 7 = .ok (.invokevirtual 361, 3) := by decide +kernel
theorem dX12_calls_10 : decode cX12_calls 10 = .ok (.ifCond .eq 24, 3) := by decide +kernel
theorem dX12_calls_13 : decode cX12_calls 13 = .ok (.iload_n 2, 1) := by decide +kernel
theorem dX12_calls_14 : decode cX12_calls 14 = .ok (.invokestatic 358, 3) := by decide +kernel
theorem dX12_calls_17 : decode cX12_calls 17 = .ok (.ifCond .eq 17, 3) := by decide +kernel
theorem dX12_calls_20 : decode cX12_calls 20 = .ok (.aload_n 0, 1) := by decide +kernel
theorem dX12_calls_21 : decode cX12_calls 21 = .ok (.getfield 115, 3) := by decide +kernel
theorem dX12_calls_24 : decode cX12_calls 24 = .ok (.bipush 24, 2) := by decide +kernel
theorem dX12_calls_26 : decode cX12_calls 26 = .ok (.iload_n 1, 1) := by decide +kernel
theorem dX12_calls_27 : decode cX12_calls 27 = .ok (.imul, 1) := by decide +kernel
theorem dX12_calls_28 : decode cX12_calls 28 = .ok (.iload_n 2, 1) := by decide +kernel
theorem dX12_calls_29 : decode cX12_calls 29 = .ok (.iadd, 1) := by decide +kernel
theorem dX12_calls_30 : decode cX12_calls 30 = .ok (.iaload, 1) := by decide +kernel
theorem dX12_calls_31 : decode cX12_calls 31 = .ok (.goto 4, 3) := by decide +kernel
theorem dX12_calls_34 : decode cX12_calls 34 = .ok (.iconst (-1), 1) := by decide +kernel
theorem dX12_calls_35 : decode cX12_calls 35 = .ok (.ireturn, 1) := by decide +kernel
theorem dX12_entry_0 : decode cX12_entry 0 = .ok (.aload_n 0, 1) := by decide +kernel
theorem dX12_entry_1 : decode cX12_entry 1 = .ok (.iconst 0, 1) := by decide +kernel
theorem dX12_entry_2 : decode cX12_entry 2 = .ok (.putfield 1, 3) := by decide +kernel
theorem dX12_entry_5 : decode cX12_entry 5 = .ok (.aload_n 0, 1) := by decide +kernel
theorem dX12_entry_6 : decode cX12_entry 6 = .ok (.iload_n 1, 1) := by decide +kernel
theorem dX12_entry_7 : decode cX12_entry 7 = .ok (.invokevirtual 361, 3) := by decide +kernel
theorem dX12_entry_10 : decode cX12_entry 10 = .ok (.ifCond .eq 18, 3) := by decide +kernel
theorem dX12_entry_13 : decode cX12_entry 13 = .ok (.iload_n 2, 1) := by decide +kernel
theorem dX12_entry_14 : decode cX12_entry 14 = .ok (.invokestatic 358, 3) := by decide +kernel
theorem dX12_entry_17 : decode cX12_entry 17 = .ok (.ifCond .eq 11, 3) := by decide +kernel
theorem dX12_entry_20 : decode cX12_entry 20 = .ok (.aload_n 0, 1) := by decide +kernel
theorem dX12_entry_21 : decode cX12_entry 21 = .ok (.iload_n 3, 1) := by decide +kernel
theorem dX12_entry_22 : decode cX12_entry 22 = .ok (.invokevirtual 352, 3) := by decide +kernel
theorem dX12_entry_25 : decode cX12_entry 25 = .ok (.ifCond .ne 5, 3) := by decide +kernel
theorem dX12_entry_28 : decode cX12_entry 28 = .ok (.iconst (-1), 1) := by decide +kernel
theorem dX12_entry_29 : decode cX12_entry 29 = .ok (.ireturn, 1) := by decide +kernel
theorem dX12_entry_30 : decode cX12_entry 30 = .ok (.aload_n 0, 1) := by decide +kernel
theorem dX12_entry_31 : decode cX12_entry 31 = .ok (.invokevirtual 314, 3) := by decide +kernel
theorem dX12_entry_34 : decode cX12_entry 34 = .ok (.aload_n 0, 1) := by decide +kernel
theorem dX12_entry_35 : decode cX12_entry 35 = .ok (.iload_n 1, 1) := by decide +kernel
theorem dX12_entry_36 : decode cX12_entry 36 = .ok (.invokevirtual 342, 3) := by decide +kernel
theorem dX12_entry_39 : decode cX12_entry 39 = .ok (.ifCond .eq 7, 3) := by decide +kernel
theorem dX12_entry_42 : decode cX12_entry 42 = .ok (.iconst 0, 1) := by decide +kernel
theorem dX12_entry_43 : decode cX12_entry 43 = .ok (.goto 14, 3) := by decide +kernel
theorem dX12_entry_46 : decode cX12_entry 46 = .ok (.aload_n 0, 1) := by decide +kernel
theorem dX12_entry_47 : decode cX12_entry 47 = .ok (.getfield 115, 3) := by decide +kernel
theorem dX12_entry_50 : decode cX12_entry 50 = .ok (.bipush 24, 2) := by decide +kernel
theorem dX12_entry_52 : decode cX12_entry 52 = .ok (.iload_n 1, 1) := by decide +kernel
theorem dX12_entry_53 : decode cX12_entry 53 = .ok (.imul, 1) := by decide +kernel
theorem dX12_entry_54 : decode cX12_entry 54 = .ok (.iload_n 2, 1) := by decide +kernel
theorem dX12_entry_55 : decode cX12_entry 55 = .ok (.iadd, 1) := by decide +kernel
theorem dX12_entry_56 : decode cX12_entry 56 = .ok (.iaload, 1) := by decide +kernel
theorem dX12_entry_57 : decode cX12_entry 57 = .ok (.istore 5, 2) := by decide +kernel
theorem dX12_entry_59 : decode cX12_entry 59 = .ok (.iload 5, 2) := by decide +kernel
theorem dX12_entry_61 : decode cX12_entry 61 = .ok (.ifCond .le 13, 3) := by decide +kernel
theorem dX12_entry_64 : decode cX12_entry 64 = .ok (.aload_n 0, 1) := by decide +kernel
theorem dX12_entry_65 : decode cX12_entry 65 = .ok (.iload_n 1, 1) := by decide +kernel
theorem dX12_entry_66 : decode cX12_entry 66 = .ok (.iload_n 2, 1) := by decide +kernel
theorem dX12_entry_67 : decode cX12_entry 67 = .ok (.iload_n 3, 1) := by decide +kernel
theorem dX12_entry_68 : decode cX12_entry 68 = .ok (.invokevirtual 345, 3) := by decide +kernel
theorem dX12_entry_71 : decode cX12_entry 71 = .ok (.goto 4, 3) := by decide +kernel
theorem dX12_entry_74 : decode cX12_entry 74 = .ok (.iconst (-1), 1) := by decide +kernel
theorem dX12_entry_75 : decode cX12_entry 75 = .ok (.istore 6, 2) := by decide +kernel
theorem dX12_entry_77 : decode cX12_entry 77 = .ok (.iload 4, 2) := by decide +kernel
theorem dX12_entry_79 : decode cX12_entry 79 = .ok (.ifCond .eq 8, 3) := by decide +kernel
theorem dX12_entry_82 : decode cX12_entry 82 = .ok (.iload 6, 2) := by decide +kernel
theorem dX12_entry_84 : decode cX12_entry 84 = .ok (.goto 23, 3) := by decide +kernel
theorem dX12_entry_87 : decode cX12_entry 87 = .ok (.iload 6, 2) := by decide +kernel
theorem dX12_entry_89 : decode cX12_entry 89 = .ok (.ifCond .ge 7, 3) := by decide +kernel
theorem dX12_entry_92 : decode cX12_entry 92 = .ok (.iconst 0, 1) := by decide +kernel
theorem dX12_entry_93 : decode cX12_entry 93 = .ok (.goto 14, 3) := by decide +kernel
theorem dX12_entry_96 : decode cX12_entry 96 = .ok (.aload_n 0, 1) := by decide +kernel
theorem dX12_entry_97 : decode cX12_entry 97 = .ok (.iload_n 1, 1) := by decide +kernel
theorem dX12_entry_98 : decode cX12_entry 98 = .ok (.iload_n 2, 1) := by decide +kernel
theorem dX12_entry_99 : decode cX12_entry 99 = .ok (.iload_n 3, 1) := by decide +kernel
theorem dX12_entry_100 : decode cX12_entry 100 = .ok (.iload 6, 2) := by decide +kernel
theorem dX12_entry_102 : decode cX12_entry 102 = .ok (.iload 5, 2) := by decide +kernel
theorem dX12_entry_104 : decode cX12_entry 104 = .ok (.invokevirtual 348, 3) := by decide +kernel
theorem dX12_entry_107 : decode cX12_entry 107 = .ok (.ireturn, 1) := by decide +kernel
theorem dX12_owed_0 : decode cX12_owed 0 = .ok (.aload_n 0, 1) := by decide +kernel
theorem dX12_owed_1 : decode cX12_owed 1 = .ok (.iconst 0, 1) := by decide +kernel
theorem dX12_owed_2 : decode cX12_owed 2 = .ok (.putfield 1, 3) := by decide +kernel
theorem dX12_owed_5 : decode cX12_owed 5 = .ok (.aload_n 0, 1) := by decide +kernel
theorem dX12_owed_6 : decode cX12_owed 6 = .ok (.iload_n 1, 1) := by decide +kernel
theorem dX12_owed_7 : decode cX12_owed 7 = .ok (.invokevirtual 352, 3) := by decide +kernel
theorem dX12_owed_10 : decode cX12_owed 10 = .ok (.ifCond .eq 16, 3) := by decide +kernel
theorem dX12_owed_13 : decode cX12_owed 13 = .ok (.aload_n 0, 1) := by decide +kernel
theorem dX12_owed_14 : decode cX12_owed 14 = .ok (.iload_n 2, 1) := by decide +kernel
theorem dX12_owed_15 : decode cX12_owed 15 = .ok (.invokevirtual 352, 3) := by decide +kernel
theorem dX12_owed_18 : decode cX12_owed 18 = .ok (.ifCond .eq 8, 3) := by decide +kernel
theorem dX12_owed_21 : decode cX12_owed 21 = .ok (.iload_n 1, 1) := by decide +kernel
theorem dX12_owed_22 : decode cX12_owed 22 = .ok (.iload_n 2, 1) := by decide +kernel
theorem dX12_owed_23 : decode cX12_owed 23 = .ok (.if_icmp .ne 5, 3) := by decide +kernel
theorem dX12_owed_26 : decode cX12_owed 26 = .ok (.iconst (-1), 1) := by decide +kernel
theorem dX12_owed_27 : decode cX12_owed 27 = .ok (.ireturn, 1) := by decide +kernel
theorem dX12_owed_28 : decode cX12_owed 28 = .ok (.aload_n 0, 1) := by decide +kernel
theorem dX12_owed_29 : decode cX12_owed 29 = .ok (.invokevirtual 314, 3) := by decide +kernel
theorem dX12_owed_32 : decode cX12_owed 32 = .ok (.aload_n 0, 1) := by decide +kernel
theorem dX12_owed_33 : decode cX12_owed 33 = .ok (.iconst 0, 1) := by decide +kernel
theorem dX12_owed_34 : decode cX12_owed 34 = .ok (.invokevirtual 364, 3) := by decide +kernel
theorem dX12_owed_37 : decode cX12_owed 37 = .ok (.aload_n 0, 1) := by decide +kernel
theorem dX12_owed_38 : decode cX12_owed 38 = .ok (.getfield 131, 3) := by decide +kernel
theorem dX12_owed_41 : decode cX12_owed 41 = .ok (.bipush 6, 2) := by decide +kernel
theorem dX12_owed_43 : decode cX12_owed 43 = .ok (.iload_n 1, 1) := by decide +kernel
theorem dX12_owed_44 : decode cX12_owed 44 = .ok (.imul, 1) := by decide +kernel
theorem dX12_owed_45 : decode cX12_owed 45 = .ok (.iload_n 2, 1) := by decide +kernel
theorem dX12_owed_46 : decode cX12_owed 46 = .ok (.iadd, 1) := by decide +kernel
theorem dX12_owed_47 : decode cX12_owed 47 = .ok (.iaload, 1) := by decide +kernel
theorem dX12_owed_48 : decode cX12_owed 48 = .ok (.ireturn, 1) := by decide +kernel
theorem dX12_balance_0 : decode cX12_balance 0 = .ok (.aload_n 0, 1) := by decide +kernel
theorem dX12_balance_1 : decode cX12_balance 1 = .ok (.aload_n 0, 1) := by decide +kernel
theorem dX12_balance_2 : decode cX12_balance 2 = .ok (.iload_n 1, 1) := by decide +kernel
theorem dX12_balance_3 : decode cX12_balance 3 = .ok (.invokevirtual 352, 3) := by decide +kernel
theorem dX12_balance_6 : decode cX12_balance 6 = .ok (.ifCond .eq 7, 3) := by decide +kernel
theorem dX12_balance_9 : decode cX12_balance 9 = .ok (.iconst 0, 1) := by decide +kernel
theorem dX12_balance_10 : decode cX12_balance 10 = .ok (.goto 4, 3) := by decide +kernel
theorem dX12_balance_13 : decode cX12_balance 13 = .ok (.iconst 1, 1) := by decide +kernel
theorem dX12_balance_14 : decode cX12_balance 14 = .ok (.putfield 1, 3) := by decide +kernel
theorem dX12_balance_17 : decode cX12_balance 17 = .ok (.aload_n 0, 1) := by decide +kernel
theorem dX12_balance_18 : decode cX12_balance 18 = .ok (.getfield 1, 3) := by decide +kernel
theorem dX12_balance_21 : decode cX12_balance 21 = .ok (.ifCond .le 5, 3) := by decide +kernel
theorem dX12_balance_24 : decode cX12_balance 24 = .ok (.iconst 0, 1) := by decide +kernel
theorem dX12_balance_25 : decode cX12_balance 25 = .ok (.ireturn, 1) := by decide +kernel
theorem dX12_balance_26 : decode cX12_balance 26 = .ok (.aload_n 0, 1) := by decide +kernel
theorem dX12_balance_27 : decode cX12_balance 27 = .ok (.invokevirtual 314, 3) := by decide +kernel
theorem dX12_balance_30 : decode cX12_balance 30 = .ok (.aload_n 0, 1) := by decide +kernel
theorem dX12_balance_31 : decode cX12_balance 31 = .ok (.iconst 0, 1) := by decide +kernel
theorem dX12_balance_32 : decode cX12_balance 32 = .ok (.invokevirtual 364, 3) := by decide +kernel
theorem dX12_balance_35 : decode cX12_balance 35 = .ok (.aload_n 0, 1) := by decide +kernel
theorem dX12_balance_36 : decode cX12_balance 36 = .ok (.iload_n 1, 1) := by decide +kernel
theorem dX12_balance_37 : decode cX12_balance 37 = .ok (.invokevirtual 367, 3) := by decide +kernel
theorem dX12_balance_40 : decode cX12_balance 40 = .ok (.ireturn, 1) := by decide +kernel
theorem dX12_callsTold_0 : decode cX12_callsTold 0 = .ok (.iconst 0, 1) := by decide +kernel
theorem dX12_callsTold_1 : decode cX12_callsTold 1 = .ok (.istore_n 1, 1) := by decide +kernel
theorem dX12_callsTold_2 : decode cX12_callsTold 2 = .ok (.iconst 0, 1) := by decide +kernel
theorem dX12_callsTold_3 : decode cX12_callsTold 3 = .ok (.istore_n 2, 1) := by decide +kernel
theorem dX12_callsTold_4 : decode cX12_callsTold 4 = .ok (.iload_n 2, 1) := by decide +kernel
theorem dX12_callsTold_5 : decode cX12_callsTold 5 = .ok (.bipush 120, 2) := by decide +kernel
theorem dX12_callsTold_7 : decode cX12_callsTold 7 = .ok (.if_icmp .ge 26, 3) := by decide +kernel
theorem dX12_callsTold_10 : decode cX12_callsTold 10 = .ok (.iload_n 1, 1) := by decide +kernel
theorem dX12_callsTold_11 : decode cX12_callsTold 11 = .ok (.aload_n 0, 1) := by decide +kernel
theorem dX12_callsTold_12 : decode cX12_callsTold 12 = .ok (.getfield 115, 3) := by decide +kernel
theorem dX12_callsTold_15 : decode cX12_callsTold 15 = .ok (.iload_n 2, 1) := by decide +kernel
theorem dX12_callsTold_16 : decode cX12_callsTold 16 = .ok (.iaload, 1) := by decide +kernel
theorem dX12_callsTold_17 : decode cX12_callsTold 17 = .ok (.ifCond .le 7, 3) := by decide +kernel
theorem dX12_callsTold_20 : decode cX12_callsTold 20 = .ok (.iconst 1, 1) := by decide +kernel
theorem dX12_callsTold_21 : decode cX12_callsTold 21 = .ok (.goto 4, 3) := by decide +kernel
theorem dX12_callsTold_24 : decode cX12_callsTold 24 = .ok (.iconst 0, 1) := by decide +kernel
theorem dX12_callsTold_25 : decode cX12_callsTold 25 = .ok (.iadd, 1) := by decide +kernel
theorem dX12_callsTold_26 : decode cX12_callsTold 26 = .ok (.istore_n 1, 1) := by decide +kernel
theorem dX12_callsTold_27 : decode cX12_callsTold 27 = .ok (.iinc 2 1, 3) := by decide +kernel
theorem dX12_callsTold_30 : decode cX12_callsTold 30 = .ok (.goto (-26), 3) := by decide +kernel
theorem dX12_callsTold_33 : decode cX12_callsTold 33 = .ok (.iload_n 1, 1) := by decide +kernel
theorem dX12_callsTold_34 : decode cX12_callsTold 34 = .ok (.ireturn, 1) := by decide +kernel
theorem dX12_call_0 : decode cX12_call 0 = .ok (.aload_n 0, 1) := by decide +kernel
theorem dX12_call_1 : decode cX12_call 1 = .ok (.iconst 0, 1) := by decide +kernel
theorem dX12_call_2 : decode cX12_call 2 = .ok (.putfield 1, 3) := by decide +kernel
theorem dX12_call_5 : decode cX12_call 5 = .ok (.aload_n 0, 1) := by decide +kernel
theorem dX12_call_6 : decode cX12_call 6 = .ok (.iload_n 1, 1) := by decide +kernel
theorem dX12_call_7 : decode cX12_call 7 = .ok (.invokevirtual 361, 3) := by decide +kernel
theorem dX12_call_10 : decode cX12_call 10 = .ok (.ifCond .eq 58, 3) := by decide +kernel
theorem dX12_call_13 : decode cX12_call 13 = .ok (.iload_n 2, 1) := by decide +kernel
theorem dX12_call_14 : decode cX12_call 14 = .ok (.invokestatic 358, 3) := by decide +kernel
theorem dX12_call_17 : decode cX12_call 17 = .ok (.ifCond .eq 51, 3) := by decide +kernel
theorem dX12_call_20 : decode cX12_call 20 = .ok (.iload_n 3, 1) := by decide +kernel
theorem dX12_call_21 : decode cX12_call 21 = .ok (.iconst 0, 1) := by decide +kernel
theorem dX12_call_22 : decode cX12_call 22 = .ok (.bipush 9, 2) := by decide +kernel
theorem dX12_call_24 : decode cX12_call 24 = .ok (.invokestatic 355, 3) := by decide +kernel
theorem dX12_call_27 : decode cX12_call 27 = .ok (.ifCond .eq 41, 3) := by decide +kernel
theorem dX12_call_30 : decode cX12_call 30 = .ok (.aload_n 0, 1) := by decide +kernel
theorem dX12_call_31 : decode cX12_call 31 = .ok (.getfield 115, 3) := by decide +kernel
theorem dX12_call_34 : decode cX12_call 34 = .ok (.bipush 24, 2) := by decide +kernel
theorem dX12_call_36 : decode cX12_call 36 = .ok (.iload_n 1, 1) := by decide +kernel
theorem dX12_call_37 : decode cX12_call 37 = .ok (.imul, 1) := by decide +kernel
theorem dX12_call_38 : decode cX12_call 38 = .ok (.iload_n 2, 1) := by decide +kernel
theorem dX12_call_39 : decode cX12_call 39 = .ok (.iadd, 1) := by decide +kernel
theorem dX12_call_40 : decode cX12_call 40 = .ok (.iaload, 1) := by decide +kernel
theorem dX12_call_41 : decode cX12_call 41 = .ok (.iload_n 3, 1) := by decide +kernel
theorem dX12_call_42 : decode cX12_call 42 = .ok (.if_icmp .eq 26, 3) := by decide +kernel
theorem dX12_call_45 : decode cX12_call 45 = .ok (.aload_n 0, 1) := by decide +kernel
theorem dX12_call_46 : decode cX12_call 46 = .ok (.getfield 115, 3) := by decide +kernel
theorem dX12_call_49 : decode cX12_call 49 = .ok (.bipush 24, 2) := by decide +kernel
theorem dX12_call_51 : decode cX12_call 51 = .ok (.iload_n 1, 1) := by decide +kernel
theorem dX12_call_52 : decode cX12_call 52 = .ok (.imul, 1) := by decide +kernel
theorem dX12_call_53 : decode cX12_call 53 = .ok (.iload_n 2, 1) := by decide +kernel
theorem dX12_call_54 : decode cX12_call 54 = .ok (.iadd, 1) := by decide +kernel
theorem dX12_call_55 : decode cX12_call 55 = .ok (.iaload, 1) := by decide +kernel
theorem dX12_call_56 : decode cX12_call 56 = .ok (.ifCond .ne 14, 3) := by decide +kernel
theorem dX12_call_59 : decode cX12_call 59 = .ok (.aload_n 0, 1) := by decide +kernel
theorem dX12_call_60 : decode cX12_call 60 = .ok (.invokevirtual 370, 3) := by decide +kernel
theorem dX12_call_63 : decode cX12_call 63 = .ok (.bipush 30, 2) := by decide +kernel
theorem dX12_call_65 : decode cX12_call 65 = .ok (.if_icmp .ne 5, 3) := by decide +kernel
theorem dX12_call_68 : decode cX12_call 68 = .ok (.iconst 0, 1) := by decide +kernel
theorem dX12_call_69 : decode cX12_call 69 = .ok (.ireturn, 1) := by decide +kernel
theorem dX12_call_70 : decode cX12_call 70 = .ok (.aload_n 0, 1) := by decide +kernel
theorem dX12_call_71 : decode cX12_call 71 = .ok (.invokevirtual 373, 3) := by decide +kernel
theorem dX12_call_74 : decode cX12_call 74 = .ok (.aload_n 0, 1) := by decide +kernel
theorem dX12_call_75 : decode cX12_call 75 = .ok (.getfield 115, 3) := by decide +kernel
theorem dX12_call_78 : decode cX12_call 78 = .ok (.bipush 24, 2) := by decide +kernel
theorem dX12_call_80 : decode cX12_call 80 = .ok (.iload_n 1, 1) := by decide +kernel
theorem dX12_call_81 : decode cX12_call 81 = .ok (.imul, 1) := by decide +kernel
theorem dX12_call_82 : decode cX12_call 82 = .ok (.iload_n 2, 1) := by decide +kernel
theorem dX12_call_83 : decode cX12_call 83 = .ok (.iadd, 1) := by decide +kernel
theorem dX12_call_84 : decode cX12_call 84 = .ok (.iload_n 3, 1) := by decide +kernel
theorem dX12_call_85 : decode cX12_call 85 = .ok (.iastore, 1) := by decide +kernel
theorem dX12_call_86 : decode cX12_call 86 = .ok (.iconst 1, 1) := by decide +kernel
theorem dX12_call_87 : decode cX12_call 87 = .ok (.ireturn, 1) := by decide +kernel
theorem dX12_shoot_0 : decode cX12_shoot 0 = .ok (.aload_n 0, 1) := by decide +kernel
theorem dX12_shoot_1 : decode cX12_shoot 1 = .ok (.iconst 0, 1) := by decide +kernel
theorem dX12_shoot_2 : decode cX12_shoot 2 = .ok (.putfield 1, 3) := by decide +kernel
theorem dX12_shoot_5 : decode cX12_shoot 5 = .ok (.aload_n 0, 1) := by decide +kernel
theorem dX12_shoot_6 : decode cX12_shoot 6 = .ok (.iload_n 1, 1) := by decide +kernel
theorem dX12_shoot_7 : decode cX12_shoot 7 = .ok (.invokevirtual 361, 3) := by decide +kernel
theorem dX12_shoot_10 : decode cX12_shoot 10 = .ok (.ifCond .eq 12, 3) := by decide +kernel
theorem dX12_shoot_13 : decode cX12_shoot 13 = .ok (.aload_n 0, 1) := by decide +kernel
theorem dX12_shoot_14 : decode cX12_shoot 14 = .ok (.iload_n 1, 1) := by decide +kernel
theorem dX12_shoot_15 : decode cX12_shoot 15 = .ok (.invokevirtual 342, 3) := by decide +kernel
theorem dX12_shoot_18 : decode cX12_shoot 18 = .ok (.iload_n 2, 1) := by decide +kernel
theorem dX12_shoot_19 : decode cX12_shoot 19 = .ok (.if_icmp .ne 5, 3) := by decide +kernel
theorem dX12_shoot_22 : decode cX12_shoot 22 = .ok (.iconst 0, 1) := by decide +kernel
theorem dX12_shoot_23 : decode cX12_shoot 23 = .ok (.ireturn, 1) := by decide +kernel
theorem dX12_shoot_24 : decode cX12_shoot 24 = .ok (.aload_n 0, 1) := by decide +kernel
theorem dX12_shoot_25 : decode cX12_shoot 25 = .ok (.invokevirtual 373, 3) := by decide +kernel
theorem dX12_shoot_28 : decode cX12_shoot 28 = .ok (.aload_n 0, 1) := by decide +kernel
theorem dX12_shoot_29 : decode cX12_shoot 29 = .ok (.getfield 115, 3) := by decide +kernel
theorem dX12_shoot_32 : decode cX12_shoot 32 = .ok (.bipush 120, 2) := by decide +kernel
theorem dX12_shoot_34 : decode cX12_shoot 34 = .ok (.dup2, 1) := by decide +kernel
theorem dX12_shoot_35 : decode cX12_shoot 35 = .ok (.iaload, 1) := by decide +kernel
theorem dX12_shoot_36 : decode cX12_shoot 36 = .ok (.iconst 1, 1) := by decide +kernel
theorem dX12_shoot_37 : decode cX12_shoot 37 = .ok (.iload_n 1, 1) := by decide +kernel
theorem dX12_shoot_38 : decode cX12_shoot 38 = .ok (.ishl, 1) := by decide +kernel
theorem dX12_shoot_39 : decode cX12_shoot 39 = .ok (.ixor, 1) := by decide +kernel
theorem dX12_shoot_40 : decode cX12_shoot 40 = .ok (.iastore, 1) := by decide +kernel
theorem dX12_shoot_41 : decode cX12_shoot 41 = .ok (.iconst 1, 1) := by decide +kernel
theorem dX12_shoot_42 : decode cX12_shoot 42 = .ok (.ireturn, 1) := by decide +kernel
theorem dX12_undo_0 : decode cX12_undo 0 = .ok (.aload_n 0, 1) := by decide +kernel
theorem dX12_undo_1 : decode cX12_undo 1 = .ok (.iconst 0, 1) := by decide +kernel
theorem dX12_undo_2 : decode cX12_undo 2 = .ok (.putfield 1, 3) := by decide +kernel
theorem dX12_undo_5 : decode cX12_undo 5 = .ok (.aload_n 0, 1) := by decide +kernel
theorem dX12_undo_6 : decode cX12_undo 6 = .ok (.getfield 230, 3) := by decide +kernel
theorem dX12_undo_9 : decode cX12_undo 9 = .ok (.ifCond .ne 5, 3) := by decide +kernel
theorem dX12_undo_12 : decode cX12_undo 12 = .ok (.iconst 0, 1) := by decide +kernel
theorem dX12_undo_13 : decode cX12_undo 13 = .ok (.ireturn, 1) := by decide +kernel
theorem dX12_undo_14 : decode cX12_undo 14 = .ok (.aload_n 0, 1) := by decide +kernel
theorem dX12_undo_15 : decode cX12_undo 15 = .ok (.dup, 1) := by decide +kernel
theorem dX12_undo_16 : decode cX12_undo 16 = .ok (.getfield 230, 3) := by decide +kernel
theorem dX12_undo_19 : decode cX12_undo 19 = .ok (.iconst 1, 1) := by decide +kernel
theorem dX12_undo_20 : decode cX12_undo 20 = .ok (.isub, 1) := by decide +kernel
theorem dX12_undo_21 : decode cX12_undo 21 = .ok (.putfield 230, 3) := by decide +kernel
theorem dX12_undo_24 : decode cX12_undo 24 = .ok (.aload_n 0, 1) := by decide +kernel
theorem dX12_undo_25 : decode cX12_undo 25 = .ok (.iconst 5, 1) := by decide +kernel
theorem dX12_undo_26 : decode cX12_undo 26 = .ok (.aload_n 0, 1) := by decide +kernel
theorem dX12_undo_27 : decode cX12_undo 27 = .ok (.getfield 230, 3) := by decide +kernel
theorem dX12_undo_30 : decode cX12_undo 30 = .ok (.iadd, 1) := by decide +kernel
theorem dX12_undo_31 : decode cX12_undo 31 = .ok (.iconst 0, 1) := by decide +kernel
theorem dX12_undo_32 : decode cX12_undo 32 = .ok (.bipush 121, 2) := by decide +kernel
theorem dX12_undo_34 : decode cX12_undo 34 = .ok (.invokevirtual 307, 3) := by decide +kernel
theorem dX12_undo_37 : decode cX12_undo 37 = .ok (.iconst 1, 1) := by decide +kernel
theorem dX12_undo_38 : decode cX12_undo 38 = .ok (.ireturn, 1) := by decide +kernel
theorem dX12_isCell_0 : decode cX12_isCell 0 = .ok (.iload_n 1, 1) := by decide +kernel
theorem dX12_isCell_1 : decode cX12_isCell 1 = .ok (.bipush 8, 2) := by decide +kernel
theorem dX12_isCell_3 : decode cX12_isCell 3 = .ok (.irem, 1) := by decide +kernel
theorem dX12_isCell_4 : decode cX12_isCell 4 = .ok (.aload_n 0, 1) := by decide +kernel
theorem dX12_isCell_5 : decode cX12_isCell 5 = .ok (.getfield 85, 3) := by decide +kernel
theorem dX12_isCell_8 : decode cX12_isCell 8 = .ok (.iconst 0, 1) := by decide +kernel
theorem dX12_isCell_9 : decode cX12_isCell 9 = .ok (.iaload, 1) := by decide +kernel
theorem dX12_isCell_10 : decode cX12_isCell 10 = .ok (.if_icmp .ge 20, 3) := by decide +kernel
theorem dX12_isCell_13 : decode cX12_isCell 13 = .ok (.iload_n 1, 1) := by decide +kernel
theorem dX12_isCell_14 : decode cX12_isCell 14 = .ok (.bipush 8, 2) := by decide +kernel
theorem dX12_isCell_16 : decode cX12_isCell 16 = .ok (.idiv, 1) := by decide +kernel
theorem dX12_isCell_17 : decode cX12_isCell 17 = .ok (.aload_n 0, 1) := by decide +kernel
theorem dX12_isCell_18 : decode cX12_isCell 18 = .ok (.getfield 85, 3) := by decide +kernel
theorem dX12_isCell_21 : decode cX12_isCell 21 = .ok (.iconst 1, 1) := by decide +kernel
theorem dX12_isCell_22 : decode cX12_isCell 22 = .ok (.iaload, 1) := by decide +kernel
theorem dX12_isCell_23 : decode cX12_isCell 23 = .ok (.if_icmp .ge 7, 3) := by decide +kernel
theorem dX12_isCell_26 : decode cX12_isCell 26 = .ok (.iconst 1, 1) := by decide +kernel
theorem dX12_isCell_27 : decode cX12_isCell 27 = .ok (.goto 4, 3) := by decide +kernel
theorem dX12_isCell_30 : decode cX12_isCell 30 = .ok (.iconst 0, 1) := by decide +kernel
theorem dX12_isCell_31 : decode cX12_isCell 31 = .ok (.ireturn, 1) := by decide +kernel
theorem dX12_areHours_0 : decode cX12_areHours 0 = .ok (.iload_n 0, 1) := by decide +kernel
theorem dX12_areHours_1 : decode cX12_areHours 1 = .ok (.invokestatic 358, 3) := by decide +kernel
theorem dX12_areHours_4 : decode cX12_areHours 4 = .ok (.ifCond .eq 19, 3) := by decide +kernel
theorem dX12_areHours_7 : decode cX12_areHours 7 = .ok (.iload_n 1, 1) := by decide +kernel
theorem dX12_areHours_8 : decode cX12_areHours 8 = .ok (.invokestatic 358, 3) := by decide +kernel
theorem dX12_areHours_11 : decode cX12_areHours 11 = .ok (.ifCond .eq 12, 3) := by decide +kernel
theorem dX12_areHours_14 : decode cX12_areHours 14 = .ok (.iload_n 0, 1) := by decide +kernel
theorem dX12_areHours_15 : decode cX12_areHours 15 = .ok (.iload_n 1, 1) := by decide +kernel
theorem dX12_areHours_16 : decode cX12_areHours 16 = .ok (.if_icmp .gt 7, 3) := by decide +kernel
theorem dX12_areHours_19 : decode cX12_areHours 19 = .ok (.iconst 1, 1) := by decide +kernel
theorem dX12_areHours_20 : decode cX12_areHours 20 = .ok (.goto 4, 3) := by decide +kernel
theorem dX12_areHours_23 : decode cX12_areHours 23 = .ok (.iconst 0, 1) := by decide +kernel
theorem dX12_areHours_24 : decode cX12_areHours 24 = .ok (.ireturn, 1) := by decide +kernel
theorem dX12_findStand_0 : decode cX12_findStand 0 = .ok (.aload_n 0, 1) := by decide +kernel
theorem dX12_findStand_1 : decode cX12_findStand 1 = .ok (.getfield 122, 3) := by decide +kernel
theorem dX12_findStand_4 : decode cX12_findStand 4 = .ok (.iload_n 1, 1) := by decide +kernel
theorem dX12_findStand_5 : decode cX12_findStand 5 = .ok (.iaload, 1) := by decide +kernel
theorem dX12_findStand_6 : decode cX12_findStand 6 = .ok (.istore_n 2, 1) := by decide +kernel
theorem dX12_findStand_7 : decode cX12_findStand 7 = .ok (.aload_n 0, 1) := by decide +kernel
theorem dX12_findStand_8 : decode cX12_findStand 8 = .ok (.iconst (-1), 1) := by decide +kernel
theorem dX12_findStand_9 : decode cX12_findStand 9 = .ok (.putfield 376, 3) := by decide +kernel
theorem dX12_findStand_12 : decode cX12_findStand 12 = .ok (.aload_n 0, 1) := by decide +kernel
theorem dX12_findStand_13 : decode cX12_findStand 13 = .ok (.iconst 0, 1) := by decide +kernel
theorem dX12_findStand_14 : decode cX12_findStand 14 = .ok (.putfield 379, 3) := by decide +kernel
theorem dX12_findStand_17 : decode cX12_findStand 17 = .ok (.iconst 0, 1) := by decide +kernel
theorem dX12_findStand_18 : decode cX12_findStand 18 = .ok (.istore_n 3, 1) := by decide +kernel
theorem dX12_findStand_19 : decode cX12_findStand 19 = .ok (.iload_n 3, 1) := by decide +kernel
theorem dX12_findStand_20 : decode cX12_findStand 20 = .ok (.bipush 64, 2) := by decide +kernel
theorem dX12_findStand_22 : decode cX12_findStand 22 = .ok (.if_icmp .ge 62, 3) := by decide +kernel
theorem dX12_findStand_25 : decode cX12_findStand 25 = .ok (.aload_n 0, 1) := by decide +kernel
theorem dX12_findStand_26 : decode cX12_findStand 26 = .ok (.iload_n 3, 1) := by decide +kernel
theorem dX12_findStand_27 : decode cX12_findStand 27 = .ok (.invokevirtual 382, 3) := by decide +kernel
theorem dX12_findStand_30 : decode cX12_findStand 30 = .ok (.ifCond .eq 48, 3) := by decide +kernel
theorem dX12_findStand_33 : decode cX12_findStand 33 = .ok (.aload_n 0, 1) := by decide +kernel
theorem dX12_findStand_34 : decode cX12_findStand 34 = .ok (.getfield 122, 3) := by decide +kernel
theorem dX12_findStand_37 : decode cX12_findStand 37 = .ok (.iload_n 1, 1) := by decide +kernel
theorem dX12_findStand_38 : decode cX12_findStand 38 = .ok (.iload_n 3, 1) := by decide +kernel
theorem dX12_findStand_39 : decode cX12_findStand 39 = .ok (.iastore, 1) := by decide +kernel
theorem dX12_findStand_40 : decode cX12_findStand 40 = .ok (.aload_n 0, 1) := by decide +kernel
theorem dX12_findStand_41 : decode cX12_findStand 41 = .ok (.iconst 0, 1) := by decide +kernel
theorem dX12_findStand_42 : decode cX12_findStand 42 = .ok (.invokevirtual 364, 3) := by decide +kernel
theorem dX12_findStand_45 : decode cX12_findStand 45 = .ok (.aload_n 0, 1) := by decide +kernel
theorem dX12_findStand_46 : decode cX12_findStand 46 = .ok (.getfield 376, 3) := by decide +kernel
theorem dX12_findStand_49 : decode cX12_findStand 49 = .ok (.ifCond .lt 15, 3) := by decide +kernel
theorem dX12_findStand_52 : decode cX12_findStand 52 = .ok (.aload_n 0, 1) := by decide +kernel
theorem dX12_findStand_53 : decode cX12_findStand 53 = .ok (.iload_n 1, 1) := by decide +kernel
theorem dX12_findStand_54 : decode cX12_findStand 54 = .ok (.invokevirtual 367, 3) := by decide +kernel
theorem dX12_findStand_57 : decode cX12_findStand 57 = .ok (.aload_n 0, 1) := by decide +kernel
theorem dX12_findStand_58 : decode cX12_findStand 58 = .ok (.getfield 379, 3) := by decide +kernel
theorem dX12_findStand_61 : decode cX12_findStand 61 = .ok (.if_icmp .le 17, 3) := by decide +kernel
theorem dX12_findStand_64 : decode cX12_findStand 64 = .ok (.aload_n 0, 1) := by decide +kernel
theorem dX12_findStand_65 : decode cX12_findStand 65 = .ok (.iload_n 3, 1) := by decide +kernel
theorem dX12_findStand_66 : decode cX12_findStand 66 = .ok (.putfield 376, 3) := by decide +kernel
theorem dX12_findStand_69 : decode cX12_findStand 69 = .ok (.aload_n 0, 1) := by decide +kernel
theorem dX12_findStand_70 : decode cX12_findStand 70 = .ok (.aload_n 0, 1) := by decide +kernel
theorem dX12_findStand_71 : decode cX12_findStand 71 = .ok (.iload_n 1, 1) := by decide +kernel
theorem dX12_findStand_72 : decode cX12_findStand 72 = .ok (.invokevirtual 367, 3) := by decide +kernel
theorem dX12_findStand_75 : decode cX12_findStand 75 = .ok (.putfield 379, 3) := by decide +kernel
theorem dX12_findStand_78 : decode cX12_findStand 78 = .ok (.iinc 3 1, 3) := by decide +kernel
theorem dX12_findStand_81 : decode cX12_findStand 81 = .ok (.goto (-62), 3) := by decide +kernel
theorem dX12_findStand_84 : decode cX12_findStand 84 = .ok (.aload_n 0, 1) := by decide +kernel
theorem dX12_findStand_85 : decode cX12_findStand 85 = .ok (.getfield 122, 3) := by decide +kernel
theorem dX12_findStand_88 : decode cX12_findStand 88 = .ok (.iload_n 1, 1) := by decide +kernel
theorem dX12_findStand_89 : decode cX12_findStand 89 = .ok (.iload_n 2, 1) := by decide +kernel
theorem dX12_findStand_90 : decode cX12_findStand 90 = .ok (.iastore, 1) := by decide +kernel
theorem dX12_findStand_91 : decode cX12_findStand 91 = .ok (.return_, 1) := by decide +kernel
theorem dX12_stand_0 : decode cX12_stand 0 = .ok (.aload_n 0, 1) := by decide +kernel
theorem dX12_stand_1 : decode cX12_stand 1 = .ok (.aload_n 0, 1) := by decide +kernel
theorem dX12_stand_2 : decode cX12_stand 2 = .ok (.iload_n 1, 1) := by decide +kernel
theorem dX12_stand_3 : decode cX12_stand 3 = .ok (.invokevirtual 352, 3) := by decide +kernel
theorem dX12_stand_6 : decode cX12_stand 6 = .ok (.ifCond .eq 25, 3) := by decide +kernel
theorem dX12_stand_9 : decode cX12_stand 9 = .ok (.iload_n 2, 1) := by decide +kernel
theorem dX12_stand_10 : decode cX12_stand 10 = .ok (.iload_n 3, 1) := by decide +kernel
theorem dX12_stand_11 : decode cX12_stand 11 = .ok (.invokestatic 385, 3) := by decide +kernel
theorem dX12_stand_14 : decode cX12_stand 14 = .ok (.ifCond .eq 17, 3) := by decide +kernel
theorem dX12_stand_17 : decode cX12_stand 17 = .ok (.iload 4, 2) := by decide +kernel
theorem dX12_stand_19 : decode cX12_stand 19 = .ok (.iconst 0, 1) := by decide +kernel
theorem dX12_stand_20 : decode cX12_stand 20 = .ok (.iconst 1, 1) := by decide +kernel
theorem dX12_stand_21 : decode cX12_stand 21 = .ok (.invokestatic 355, 3) := by decide +kernel
theorem dX12_stand_24 : decode cX12_stand 24 = .ok (.ifCond .eq 7, 3) := by decide +kernel
theorem dX12_stand_27 : decode cX12_stand 27 = .ok (.iconst 0, 1) := by decide +kernel
theorem dX12_stand_28 : decode cX12_stand 28 = .ok (.goto 4, 3) := by decide +kernel
theorem dX12_stand_31 : decode cX12_stand 31 = .ok (.iconst 1, 1) := by decide +kernel
theorem dX12_stand_32 : decode cX12_stand 32 = .ok (.putfield 1, 3) := by decide +kernel
theorem dX12_stand_35 : decode cX12_stand 35 = .ok (.aload_n 0, 1) := by decide +kernel
theorem dX12_stand_36 : decode cX12_stand 36 = .ok (.getfield 1, 3) := by decide +kernel
theorem dX12_stand_39 : decode cX12_stand 39 = .ok (.ifCond .le 5, 3) := by decide +kernel
theorem dX12_stand_42 : decode cX12_stand 42 = .ok (.iconst 0, 1) := by decide +kernel
theorem dX12_stand_43 : decode cX12_stand 43 = .ok (.ireturn, 1) := by decide +kernel
theorem dX12_stand_44 : decode cX12_stand 44 = .ok (.aload_n 0, 1) := by decide +kernel
theorem dX12_stand_45 : decode cX12_stand 45 = .ok (.iload_n 2, 1) := by decide +kernel
theorem dX12_stand_46 : decode cX12_stand 46 = .ok (.iload_n 3, 1) := by decide +kernel
theorem dX12_stand_47 : decode cX12_stand 47 = .ok (.invokevirtual 389, 3) := by decide +kernel
theorem dX12_stand_50 : decode cX12_stand 50 = .ok (.aload_n 0, 1) := by decide +kernel
theorem dX12_stand_51 : decode cX12_stand 51 = .ok (.iload_n 1, 1) := by decide +kernel
theorem dX12_stand_52 : decode cX12_stand 52 = .ok (.invokevirtual 392, 3) := by decide +kernel
theorem dX12_stand_55 : decode cX12_stand 55 = .ok (.iload 4, 2) := by decide +kernel
theorem dX12_stand_57 : decode cX12_stand 57 = .ok (.ifCond .ne 10, 3) := by decide +kernel
theorem dX12_stand_60 : decode cX12_stand 60 = .ok (.aload_n 0, 1) := by decide +kernel
theorem dX12_stand_61 : decode cX12_stand 61 = .ok (.getfield 376, 3) := by decide +kernel
theorem dX12_stand_64 : decode cX12_stand 64 = .ok (.goto 7, 3) := by decide +kernel
theorem dX12_stand_67 : decode cX12_stand 67 = .ok (.aload_n 0, 1) := by decide +kernel
theorem dX12_stand_68 : decode cX12_stand 68 = .ok (.getfield 379, 3) := by decide +kernel
theorem dX12_stand_71 : decode cX12_stand 71 = .ok (.ireturn, 1) := by decide +kernel
theorem dX12_wasSo_0 : decode cX12_wasSo 0 = .ok (.iconst 0, 1) := by decide +kernel
theorem dX12_wasSo_1 : decode cX12_wasSo 1 = .ok (.istore_n 2, 1) := by decide +kernel
theorem dX12_wasSo_2 : decode cX12_wasSo 2 = .ok (.iconst 0, 1) := by decide +kernel
theorem dX12_wasSo_3 : decode cX12_wasSo 3 = .ok (.istore_n 3, 1) := by decide +kernel
theorem dX12_wasSo_4 : decode cX12_wasSo 4 = .ok (.iload_n 3, 1) := by decide +kernel
theorem dX12_wasSo_5 : decode cX12_wasSo 5 = .ok (.iload_n 1, 1) := by decide +kernel
theorem dX12_wasSo_6 : decode cX12_wasSo 6 = .ok (.if_icmp .ge 79, 3) := by decide +kernel
theorem dX12_wasSo_9 : decode cX12_wasSo 9 = .ok (.iconst 1, 1) := by decide +kernel
theorem dX12_wasSo_10 : decode cX12_wasSo 10 = .ok (.istore 4, 2) := by decide +kernel
theorem dX12_wasSo_12 : decode cX12_wasSo 12 = .ok (.iconst 0, 1) := by decide +kernel
theorem dX12_wasSo_13 : decode cX12_wasSo 13 = .ok (.istore 5, 2) := by decide +kernel
theorem dX12_wasSo_15 : decode cX12_wasSo 15 = .ok (.iload 5, 2) := by decide +kernel
theorem dX12_wasSo_17 : decode cX12_wasSo 17 = .ok (.aload_n 0, 1) := by decide +kernel
theorem dX12_wasSo_18 : decode cX12_wasSo 18 = .ok (.invokevirtual 226, 3) := by decide +kernel
theorem dX12_wasSo_21 : decode cX12_wasSo 21 = .ok (.if_icmp .ge 43, 3) := by decide +kernel
theorem dX12_wasSo_24 : decode cX12_wasSo 24 = .ok (.iload 4, 2) := by decide +kernel
theorem dX12_wasSo_26 : decode cX12_wasSo 26 = .ok (.ifCond .eq 29, 3) := by decide +kernel
theorem dX12_wasSo_29 : decode cX12_wasSo 29 = .ok (.aload_n 0, 1) := by decide +kernel
theorem dX12_wasSo_30 : decode cX12_wasSo 30 = .ok (.getfield 134, 3) := by decide +kernel
theorem dX12_wasSo_33 : decode cX12_wasSo 33 = .ok (.bipush 6, 2) := by decide +kernel
theorem dX12_wasSo_35 : decode cX12_wasSo 35 = .ok (.iload_n 3, 1) := by decide +kernel
theorem dX12_wasSo_36 : decode cX12_wasSo 36 = .ok (.imul, 1) := by decide +kernel
theorem dX12_wasSo_37 : decode cX12_wasSo 37 = .ok (.iload 5, 2) := by decide +kernel
theorem dX12_wasSo_39 : decode cX12_wasSo 39 = .ok (.iadd, 1) := by decide +kernel
theorem dX12_wasSo_40 : decode cX12_wasSo 40 = .ok (.iaload, 1) := by decide +kernel
theorem dX12_wasSo_41 : decode cX12_wasSo 41 = .ok (.aload_n 0, 1) := by decide +kernel
theorem dX12_wasSo_42 : decode cX12_wasSo 42 = .ok (.getfield 122, 3) := by decide +kernel
theorem dX12_wasSo_45 : decode cX12_wasSo 45 = .ok (.iload 5, 2) := by decide +kernel
theorem dX12_wasSo_47 : decode cX12_wasSo 47 = .ok (.iaload, 1) := by decide +kernel
theorem dX12_wasSo_48 : decode cX12_wasSo 48 = .ok (.if_icmp .ne 7, 3) := by decide +kernel
theorem dX12_wasSo_51 : decode cX12_wasSo 51 = .ok (.iconst 1, 1) := by decide +kernel
theorem dX12_wasSo_52 : decode cX12_wasSo 52 = .ok (.goto 4, 3) := by decide +kernel
theorem dX12_wasSo_55 : decode cX12_wasSo 55 = .ok (.iconst 0, 1) := by decide +kernel
theorem dX12_wasSo_56 : decode cX12_wasSo 56 = .ok (.istore 4, 2) := by decide +kernel
theorem dX12_wasSo_58 : decode cX12_wasSo 58 = .ok (.iinc 5 1, 3) := by decide +kernel
theorem dX12_wasSo_61 : decode cX12_wasSo 61 = .ok (.goto (-46), 3) := by decide +kernel
theorem dX12_wasSo_64 : decode cX12_wasSo 64 = .ok (.iload_n 2, 1) := by decide +kernel
theorem dX12_wasSo_65 : decode cX12_wasSo 65 = .ok (.ifCond .ne 8, 3) := by decide +kernel
theorem dX12_wasSo_68 : decode cX12_wasSo 68 = .ok (.iload 4, 2) := by decide +kernel
theorem dX12_wasSo_70 : decode cX12_wasSo 70 = .ok (.ifCond .eq 7, 3) := by decide +kernel
theorem dX12_wasSo_73 : decode cX12_wasSo 73 = .ok (.iconst 1, 1) := by decide +kernel
theorem dX12_wasSo_74 : decode cX12_wasSo 74 = .ok (.goto 4, 3) := by decide +kernel
theorem dX12_wasSo_77 : decode cX12_wasSo 77 = .ok (.iconst 0, 1) := by decide +kernel
theorem dX12_wasSo_78 : decode cX12_wasSo 78 = .ok (.istore_n 2, 1) := by decide +kernel
theorem dX12_wasSo_79 : decode cX12_wasSo 79 = .ok (.iinc 3 1, 3) := by decide +kernel
theorem dX12_wasSo_82 : decode cX12_wasSo 82 = .ok (.goto (-78), 3) := by decide +kernel
theorem dX12_wasSo_85 : decode cX12_wasSo 85 = .ok (.iload_n 2, 1) := by decide +kernel
theorem dX12_wasSo_86 : decode cX12_wasSo 86 = .ok (.ireturn, 1) := by decide +kernel
theorem dX12_writes_0 : decode cX12_writes 0 = .ok (.iconst 0, 1) := by decide +kernel
theorem dX12_writes_1 : decode cX12_writes 1 = .ok (.istore_n 2, 1) := by decide +kernel
theorem dX12_writes_2 : decode cX12_writes 2 = .ok (.iload_n 2, 1) := by decide +kernel
theorem dX12_writes_3 : decode cX12_writes 3 = .ok (.bipush 6, 2) := by decide +kernel
theorem dX12_writes_5 : decode cX12_writes 5 = .ok (.if_icmp .ge 26, 3) := by decide +kernel
theorem dX12_writes_8 : decode cX12_writes 8 = .ok (.aload_n 0, 1) := by decide +kernel
theorem dX12_writes_9 : decode cX12_writes 9 = .ok (.getfield 134, 3) := by decide +kernel
theorem dX12_writes_12 : decode cX12_writes 12 = .ok (.bipush 6, 2) := by decide +kernel
theorem dX12_writes_14 : decode cX12_writes 14 = .ok (.iload_n 1, 1) := by decide +kernel
theorem dX12_writes_15 : decode cX12_writes 15 = .ok (.imul, 1) := by decide +kernel
theorem dX12_writes_16 : decode cX12_writes 16 = .ok (.iload_n 2, 1) := by decide +kernel
theorem dX12_writes_17 : decode cX12_writes 17 = .ok (.iadd, 1) := by decide +kernel
theorem dX12_writes_18 : decode cX12_writes 18 = .ok (.aload_n 0, 1) := by decide +kernel
theorem dX12_writes_19 : decode cX12_writes 19 = .ok (.getfield 122, 3) := by decide +kernel
theorem dX12_writes_22 : decode cX12_writes 22 = .ok (.iload_n 2, 1) := by decide +kernel
theorem dX12_writes_23 : decode cX12_writes 23 = .ok (.iaload, 1) := by decide +kernel
theorem dX12_writes_24 : decode cX12_writes 24 = .ok (.iastore, 1) := by decide +kernel
theorem dX12_writes_25 : decode cX12_writes 25 = .ok (.iinc 2 1, 3) := by decide +kernel
theorem dX12_writes_28 : decode cX12_writes 28 = .ok (.goto (-26), 3) := by decide +kernel
theorem dX12_writes_31 : decode cX12_writes 31 = .ok (.return_, 1) := by decide +kernel
theorem dX12_findPlayed_0 : decode cX12_findPlayed 0 = .ok (.aload_n 0, 1) := by decide +kernel
theorem dX12_findPlayed_1 : decode cX12_findPlayed 1 = .ok (.iload_n 1, 1) := by decide +kernel
theorem dX12_findPlayed_2 : decode cX12_findPlayed 2 = .ok (.iload_n 2, 1) := by decide +kernel
theorem dX12_findPlayed_3 : decode cX12_findPlayed 3 = .ok (.invokevirtual 389, 3) := by decide +kernel
theorem dX12_findPlayed_6 : decode cX12_findPlayed 6 = .ok (.iconst 0, 1) := by decide +kernel
theorem dX12_findPlayed_7 : decode cX12_findPlayed 7 = .ok (.istore_n 3, 1) := by decide +kernel
theorem dX12_findPlayed_8 : decode cX12_findPlayed 8 = .ok (.iload_n 3, 1) := by decide +kernel
theorem dX12_findPlayed_9 : decode cX12_findPlayed 9 = .ok (.aload_n 0, 1) := by decide +kernel
theorem dX12_findPlayed_10 : decode cX12_findPlayed 10 = .ok (.invokevirtual 226, 3) := by decide +kernel
theorem dX12_findPlayed_13 : decode cX12_findPlayed 13 = .ok (.if_icmp .ge 76, 3) := by decide +kernel
theorem dX12_findPlayed_16 : decode cX12_findPlayed 16 = .ok (.aload_n 0, 1) := by decide +kernel
theorem dX12_findPlayed_17 : decode cX12_findPlayed 17 = .ok (.getfield 85, 3) := by decide +kernel
theorem dX12_findPlayed_20 : decode cX12_findPlayed 20 = .ok (.bipush 19, 2) := by decide +kernel
theorem dX12_findPlayed_22 : decode cX12_findPlayed 22 = .ok (.bipush 24, 2) := by decide +kernel
theorem dX12_findPlayed_24 : decode cX12_findPlayed 24 = .ok (.iload_n 3, 1) := by decide +kernel
theorem dX12_findPlayed_25 : decode cX12_findPlayed 25 = .ok (.imul, 1) := by decide +kernel
theorem dX12_findPlayed_26 : decode cX12_findPlayed 26 = .ok (.iadd, 1) := by decide +kernel
theorem dX12_findPlayed_27 : decode cX12_findPlayed 27 = .ok (.iload_n 1, 1) := by decide +kernel
theorem dX12_findPlayed_28 : decode cX12_findPlayed 28 = .ok (.iadd, 1) := by decide +kernel
theorem dX12_findPlayed_29 : decode cX12_findPlayed 29 = .ok (.iaload, 1) := by decide +kernel
theorem dX12_findPlayed_30 : decode cX12_findPlayed 30 = .ok (.istore 4, 2) := by decide +kernel
theorem dX12_findPlayed_32 : decode cX12_findPlayed 32 = .ok (.iload_n 1, 1) := by decide +kernel
theorem dX12_findPlayed_33 : decode cX12_findPlayed 33 = .ok (.istore 5, 2) := by decide +kernel
theorem dX12_findPlayed_35 : decode cX12_findPlayed 35 = .ok (.iload 5, 2) := by decide +kernel
theorem dX12_findPlayed_37 : decode cX12_findPlayed 37 = .ok (.iload_n 2, 1) := by decide +kernel
theorem dX12_findPlayed_38 : decode cX12_findPlayed 38 = .ok (.if_icmp .gt 37, 3) := by decide +kernel
theorem dX12_findPlayed_41 : decode cX12_findPlayed 41 = .ok (.aload_n 0, 1) := by decide +kernel
theorem dX12_findPlayed_42 : decode cX12_findPlayed 42 = .ok (.getfield 85, 3) := by decide +kernel
theorem dX12_findPlayed_45 : decode cX12_findPlayed 45 = .ok (.bipush 19, 2) := by decide +kernel
theorem dX12_findPlayed_47 : decode cX12_findPlayed 47 = .ok (.bipush 24, 2) := by decide +kernel
theorem dX12_findPlayed_49 : decode cX12_findPlayed 49 = .ok (.iload_n 3, 1) := by decide +kernel
theorem dX12_findPlayed_50 : decode cX12_findPlayed 50 = .ok (.imul, 1) := by decide +kernel
theorem dX12_findPlayed_51 : decode cX12_findPlayed 51 = .ok (.iadd, 1) := by decide +kernel
theorem dX12_findPlayed_52 : decode cX12_findPlayed 52 = .ok (.iload 5, 2) := by decide +kernel
theorem dX12_findPlayed_54 : decode cX12_findPlayed 54 = .ok (.iadd, 1) := by decide +kernel
theorem dX12_findPlayed_55 : decode cX12_findPlayed 55 = .ok (.iaload, 1) := by decide +kernel
theorem dX12_findPlayed_56 : decode cX12_findPlayed 56 = .ok (.iload 4, 2) := by decide +kernel
theorem dX12_findPlayed_58 : decode cX12_findPlayed 58 = .ok (.if_icmp .ne 8, 3) := by decide +kernel
theorem dX12_findPlayed_61 : decode cX12_findPlayed 61 = .ok (.iload 4, 2) := by decide +kernel
theorem dX12_findPlayed_63 : decode cX12_findPlayed 63 = .ok (.goto 4, 3) := by decide +kernel
theorem dX12_findPlayed_66 : decode cX12_findPlayed 66 = .ok (.iconst (-1), 1) := by decide +kernel
theorem dX12_findPlayed_67 : decode cX12_findPlayed 67 = .ok (.istore 4, 2) := by decide +kernel
theorem dX12_findPlayed_69 : decode cX12_findPlayed 69 = .ok (.iinc 5 1, 3) := by decide +kernel
theorem dX12_findPlayed_72 : decode cX12_findPlayed 72 = .ok (.goto (-37), 3) := by decide +kernel
theorem dX12_findPlayed_75 : decode cX12_findPlayed 75 = .ok (.aload_n 0, 1) := by decide +kernel
theorem dX12_findPlayed_76 : decode cX12_findPlayed 76 = .ok (.getfield 122, 3) := by decide +kernel
theorem dX12_findPlayed_79 : decode cX12_findPlayed 79 = .ok (.iload_n 3, 1) := by decide +kernel
theorem dX12_findPlayed_80 : decode cX12_findPlayed 80 = .ok (.iload 4, 2) := by decide +kernel
theorem dX12_findPlayed_82 : decode cX12_findPlayed 82 = .ok (.iastore, 1) := by decide +kernel
theorem dX12_findPlayed_83 : decode cX12_findPlayed 83 = .ok (.iinc 3 1, 3) := by decide +kernel
theorem dX12_findPlayed_86 : decode cX12_findPlayed 86 = .ok (.goto (-78), 3) := by decide +kernel
theorem dX12_findPlayed_89 : decode cX12_findPlayed 89 = .ok (.aload_n 0, 1) := by decide +kernel
theorem dX12_findPlayed_90 : decode cX12_findPlayed 90 = .ok (.iconst 0, 1) := by decide +kernel
theorem dX12_findPlayed_91 : decode cX12_findPlayed 91 = .ok (.invokevirtual 395, 3) := by decide +kernel
theorem dX12_findPlayed_94 : decode cX12_findPlayed 94 = .ok (.iconst 1, 1) := by decide +kernel
theorem dX12_findPlayed_95 : decode cX12_findPlayed 95 = .ok (.istore_n 3, 1) := by decide +kernel
theorem dX12_findPlayed_96 : decode cX12_findPlayed 96 = .ok (.iload_n 3, 1) := by decide +kernel
theorem dX12_findPlayed_97 : decode cX12_findPlayed 97 = .ok (.bipush 50, 2) := by decide +kernel
theorem dX12_findPlayed_99 : decode cX12_findPlayed 99 = .ok (.if_icmp .gt 95, 3) := by decide +kernel
theorem dX12_findPlayed_102 : decode cX12_findPlayed 102 = .ok (.iconst 0, 1) := by decide +kernel
theorem dX12_findPlayed_103 : decode cX12_findPlayed 103 = .ok (.istore 4, 2) := by decide +kernel
theorem dX12_findPlayed_105 : decode cX12_findPlayed 105 = .ok (.iconst 0, 1) := by decide +kernel
theorem dX12_findPlayed_106 : decode cX12_findPlayed 106 = .ok (.istore 5, 2) := by decide +kernel
theorem dX12_findPlayed_108 : decode cX12_findPlayed 108 = .ok (.iload 5, 2) := by decide +kernel
theorem dX12_findPlayed_110 : decode cX12_findPlayed 110 = .ok (.aload_n 0, 1) := by decide +kernel
theorem dX12_findPlayed_111 : decode cX12_findPlayed 111 = .ok (.invokevirtual 226, 3) := by decide +kernel
theorem dX12_findPlayed_114 : decode cX12_findPlayed 114 = .ok (.if_icmp .ge 51, 3) := by decide +kernel
theorem dX12_findPlayed_117 : decode cX12_findPlayed 117 = .ok (.aload_n 0, 1) := by decide +kernel
theorem dX12_findPlayed_118 : decode cX12_findPlayed 118 = .ok (.iconst 0, 1) := by decide +kernel
theorem dX12_findPlayed_119 : decode cX12_findPlayed 119 = .ok (.invokevirtual 364, 3) := by decide +kernel
theorem dX12_findPlayed_122 : decode cX12_findPlayed 122 = .ok (.aload_n 0, 1) := by decide +kernel
theorem dX12_findPlayed_123 : decode cX12_findPlayed 123 = .ok (.iload 5, 2) := by decide +kernel
theorem dX12_findPlayed_125 : decode cX12_findPlayed 125 = .ok (.invokevirtual 367, 3) := by decide +kernel
theorem dX12_findPlayed_128 : decode cX12_findPlayed 128 = .ok (.istore 6, 2) := by decide +kernel
theorem dX12_findPlayed_130 : decode cX12_findPlayed 130 = .ok (.aload_n 0, 1) := by decide +kernel
theorem dX12_findPlayed_131 : decode cX12_findPlayed 131 = .ok (.iload 5, 2) := by decide +kernel
theorem dX12_findPlayed_133 : decode cX12_findPlayed 133 = .ok (.invokevirtual 392, 3) := by decide +kernel
theorem dX12_findPlayed_136 : decode cX12_findPlayed 136 = .ok (.aload_n 0, 1) := by decide +kernel
theorem dX12_findPlayed_137 : decode cX12_findPlayed 137 = .ok (.getfield 379, 3) := by decide +kernel
theorem dX12_findPlayed_140 : decode cX12_findPlayed 140 = .ok (.iload 6, 2) := by decide +kernel
theorem dX12_findPlayed_142 : decode cX12_findPlayed 142 = .ok (.if_icmp .le 17, 3) := by decide +kernel
theorem dX12_findPlayed_145 : decode cX12_findPlayed 145 = .ok (.aload_n 0, 1) := by decide +kernel
theorem dX12_findPlayed_146 : decode cX12_findPlayed 146 = .ok (.getfield 122, 3) := by decide +kernel
theorem dX12_findPlayed_149 : decode cX12_findPlayed 149 = .ok (.iload 5, 2) := by decide +kernel
theorem dX12_findPlayed_151 : decode cX12_findPlayed 151 = .ok (.aload_n 0, 1) := by decide +kernel
theorem dX12_findPlayed_152 : decode cX12_findPlayed 152 = .ok (.getfield 376, 3) := by decide +kernel
theorem dX12_findPlayed_155 : decode cX12_findPlayed 155 = .ok (.iastore, 1) := by decide +kernel
theorem dX12_findPlayed_156 : decode cX12_findPlayed 156 = .ok (.iconst 1, 1) := by decide +kernel
theorem dX12_findPlayed_157 : decode cX12_findPlayed 157 = .ok (.istore 4, 2) := by decide +kernel
theorem dX12_findPlayed_159 : decode cX12_findPlayed 159 = .ok (.iinc 5 1, 3) := by decide +kernel
theorem dX12_findPlayed_162 : decode cX12_findPlayed 162 = .ok (.goto (-54), 3) := by decide +kernel
theorem dX12_findPlayed_165 : decode cX12_findPlayed 165 = .ok (.iload 4, 2) := by decide +kernel
theorem dX12_findPlayed_167 : decode cX12_findPlayed 167 = .ok (.ifCond .ne 5, 3) := by decide +kernel
theorem dX12_findPlayed_170 : decode cX12_findPlayed 170 = .ok (.iload_n 3, 1) := by decide +kernel
theorem dX12_findPlayed_171 : decode cX12_findPlayed 171 = .ok (.ireturn, 1) := by decide +kernel
theorem dX12_findPlayed_172 : decode cX12_findPlayed 172 = .ok (.aload_n 0, 1) := by decide +kernel
theorem dX12_findPlayed_173 : decode cX12_findPlayed 173 = .ok (.iload_n 3, 1) := by decide +kernel
theorem dX12_findPlayed_174 : decode cX12_findPlayed 174 = .ok (.invokevirtual 398, 3) := by decide +kernel
theorem dX12_findPlayed_177 : decode cX12_findPlayed 177 = .ok (.ifCond .eq 6, 3) := by decide +kernel
theorem dX12_findPlayed_180 : decode cX12_findPlayed 180 = .ok (.iload_n 3, 1) := by decide +kernel
theorem dX12_findPlayed_181 : decode cX12_findPlayed 181 = .ok (.ineg, 1) := by decide +kernel
theorem dX12_findPlayed_182 : decode cX12_findPlayed 182 = .ok (.ireturn, 1) := by decide +kernel
theorem dX12_findPlayed_183 : decode cX12_findPlayed 183 = .ok (.aload_n 0, 1) := by decide +kernel
theorem dX12_findPlayed_184 : decode cX12_findPlayed 184 = .ok (.iload_n 3, 1) := by decide +kernel
theorem dX12_findPlayed_185 : decode cX12_findPlayed 185 = .ok (.invokevirtual 395, 3) := by decide +kernel
theorem dX12_findPlayed_188 : decode cX12_findPlayed 188 = .ok (.iinc 3 1, 3) := by decide +kernel
theorem dX12_findPlayed_191 : decode cX12_findPlayed 191 = .ok (.goto (-95), 3) := by decide +kernel
theorem dX12_findPlayed_194 : decode cX12_findPlayed 194 = .ok (.bipush (-50), 2) := by decide +kernel
theorem dX12_findPlayed_196 : decode cX12_findPlayed 196 = .ok (.ireturn, 1) := by decide +kernel
theorem dX12_played_0 : decode cX12_played 0 = .ok (.aload_n 0, 1) := by decide +kernel
theorem dX12_played_1 : decode cX12_played 1 = .ok (.iconst 0, 1) := by decide +kernel
theorem dX12_played_2 : decode cX12_played 2 = .ok (.putfield 1, 3) := by decide +kernel
theorem dX12_played_5 : decode cX12_played 5 = .ok (.iload_n 1, 1) := by decide +kernel
theorem dX12_played_6 : decode cX12_played 6 = .ok (.iload_n 2, 1) := by decide +kernel
theorem dX12_played_7 : decode cX12_played 7 = .ok (.invokestatic 385, 3) := by decide +kernel
theorem dX12_played_10 : decode cX12_played 10 = .ok (.ifCond .eq 17, 3) := by decide +kernel
theorem dX12_played_13 : decode cX12_played 13 = .ok (.iload_n 3, 1) := by decide +kernel
theorem dX12_played_14 : decode cX12_played 14 = .ok (.iconst 0, 1) := by decide +kernel
theorem dX12_played_15 : decode cX12_played 15 = .ok (.iconst 1, 1) := by decide +kernel
theorem dX12_played_16 : decode cX12_played 16 = .ok (.aload_n 0, 1) := by decide +kernel
theorem dX12_played_17 : decode cX12_played 17 = .ok (.invokevirtual 226, 3) := by decide +kernel
theorem dX12_played_20 : decode cX12_played 20 = .ok (.iadd, 1) := by decide +kernel
theorem dX12_played_21 : decode cX12_played 21 = .ok (.invokestatic 355, 3) := by decide +kernel
theorem dX12_played_24 : decode cX12_played 24 = .ok (.ifCond .ne 5, 3) := by decide +kernel
theorem dX12_played_27 : decode cX12_played 27 = .ok (.iconst (-1), 1) := by decide +kernel
theorem dX12_played_28 : decode cX12_played 28 = .ok (.ireturn, 1) := by decide +kernel
theorem dX12_played_29 : decode cX12_played 29 = .ok (.aload_n 0, 1) := by decide +kernel
theorem dX12_played_30 : decode cX12_played 30 = .ok (.iload_n 1, 1) := by decide +kernel
theorem dX12_played_31 : decode cX12_played 31 = .ok (.iload_n 2, 1) := by decide +kernel
theorem dX12_played_32 : decode cX12_played 32 = .ok (.invokevirtual 401, 3) := by decide +kernel
theorem dX12_played_35 : decode cX12_played 35 = .ok (.istore 4, 2) := by decide +kernel
theorem dX12_played_37 : decode cX12_played 37 = .ok (.iload_n 3, 1) := by decide +kernel
theorem dX12_played_38 : decode cX12_played 38 = .ok (.iconst 2, 1) := by decide +kernel
theorem dX12_played_39 : decode cX12_played 39 = .ok (.if_icmp .ge 7, 3) := by decide +kernel
theorem dX12_played_42 : decode cX12_played 42 = .ok (.iconst (-1), 1) := by decide +kernel
theorem dX12_played_43 : decode cX12_played 43 = .ok (.goto 11, 3) := by decide +kernel
theorem dX12_played_46 : decode cX12_played 46 = .ok (.aload_n 0, 1) := by decide +kernel
theorem dX12_played_47 : decode cX12_played 47 = .ok (.iload_n 3, 1) := by decide +kernel
theorem dX12_played_48 : decode cX12_played 48 = .ok (.iconst 2, 1) := by decide +kernel
theorem dX12_played_49 : decode cX12_played 49 = .ok (.isub, 1) := by decide +kernel
theorem dX12_played_50 : decode cX12_played 50 = .ok (.iload_n 1, 1) := by decide +kernel
theorem dX12_played_51 : decode cX12_played 51 = .ok (.invokevirtual 317, 3) := by decide +kernel
theorem dX12_played_54 : decode cX12_played 54 = .ok (.istore 5, 2) := by decide +kernel
theorem dX12_played_56 : decode cX12_played 56 = .ok (.aload_n 0, 1) := by decide +kernel
theorem dX12_played_57 : decode cX12_played 57 = .ok (.invokevirtual 314, 3) := by decide +kernel
theorem dX12_played_60 : decode cX12_played 60 = .ok (.iload_n 3, 1) := by decide +kernel
theorem dX12_played_61 : decode cX12_played 61 = .ok (.ifCond .ne 19, 3) := by decide +kernel
theorem dX12_played_64 : decode cX12_played 64 = .ok (.iload 4, 2) := by decide +kernel
theorem dX12_played_66 : decode cX12_played 66 = .ok (.ifCond .ge 9, 3) := by decide +kernel
theorem dX12_played_69 : decode cX12_played 69 = .ok (.iload 4, 2) := by decide +kernel
theorem dX12_played_71 : decode cX12_played 71 = .ok (.ineg, 1) := by decide +kernel
theorem dX12_played_72 : decode cX12_played 72 = .ok (.goto 28, 3) := by decide +kernel
theorem dX12_played_75 : decode cX12_played 75 = .ok (.iload 4, 2) := by decide +kernel
theorem dX12_played_77 : decode cX12_played 77 = .ok (.goto 23, 3) := by decide +kernel
theorem dX12_played_80 : decode cX12_played 80 = .ok (.iload_n 3, 1) := by decide +kernel
theorem dX12_played_81 : decode cX12_played 81 = .ok (.iconst 1, 1) := by decide +kernel
theorem dX12_played_82 : decode cX12_played 82 = .ok (.if_icmp .ne 16, 3) := by decide +kernel
theorem dX12_played_85 : decode cX12_played 85 = .ok (.iload 4, 2) := by decide +kernel
theorem dX12_played_87 : decode cX12_played 87 = .ok (.ifCond .le 7, 3) := by decide +kernel
theorem dX12_played_90 : decode cX12_played 90 = .ok (.iconst 1, 1) := by decide +kernel
theorem dX12_played_91 : decode cX12_played 91 = .ok (.goto 9, 3) := by decide +kernel
theorem dX12_played_94 : decode cX12_played 94 = .ok (.iconst 0, 1) := by decide +kernel
theorem dX12_played_95 : decode cX12_played 95 = .ok (.goto 5, 3) := by decide +kernel
theorem dX12_played_98 : decode cX12_played 98 = .ok (.iload 5, 2) := by decide +kernel
theorem dX12_played_100 : decode cX12_played 100 = .ok (.ireturn, 1) := by decide +kernel
theorem dX12_bits_0 : decode cX12_bits 0 = .ok (.iconst 0, 1) := by decide +kernel
theorem dX12_bits_1 : decode cX12_bits 1 = .ok (.istore_n 1, 1) := by decide +kernel
theorem dX12_bits_2 : decode cX12_bits 2 = .ok (.iconst 0, 1) := by decide +kernel
theorem dX12_bits_3 : decode cX12_bits 3 = .ok (.istore_n 2, 1) := by decide +kernel
theorem dX12_bits_4 : decode cX12_bits 4 = .ok (.iload_n 2, 1) := by decide +kernel
theorem dX12_bits_5 : decode cX12_bits 5 = .ok (.bipush 6, 2) := by decide +kernel
theorem dX12_bits_7 : decode cX12_bits 7 = .ok (.if_icmp .ge 17, 3) := by decide +kernel
theorem dX12_bits_10 : decode cX12_bits 10 = .ok (.iload_n 1, 1) := by decide +kernel
theorem dX12_bits_11 : decode cX12_bits 11 = .ok (.iload_n 0, 1) := by decide +kernel
theorem dX12_bits_12 : decode cX12_bits 12 = .ok (.iload_n 2, 1) := by decide +kernel
theorem dX12_bits_13 : decode cX12_bits 13 = .ok (.ishr, 1) := by decide +kernel
theorem dX12_bits_14 : decode cX12_bits 14 = .ok (.iconst 1, 1) := by decide +kernel
theorem dX12_bits_15 : decode cX12_bits 15 = .ok (.iand, 1) := by decide +kernel
theorem dX12_bits_16 : decode cX12_bits 16 = .ok (.iadd, 1) := by decide +kernel
theorem dX12_bits_17 : decode cX12_bits 17 = .ok (.istore_n 1, 1) := by decide +kernel
theorem dX12_bits_18 : decode cX12_bits 18 = .ok (.iinc 2 1, 3) := by decide +kernel
theorem dX12_bits_21 : decode cX12_bits 21 = .ok (.goto (-17), 3) := by decide +kernel
theorem dX12_bits_24 : decode cX12_bits 24 = .ok (.iload_n 1, 1) := by decide +kernel
theorem dX12_bits_25 : decode cX12_bits 25 = .ok (.ireturn, 1) := by decide +kernel
theorem dX12_sumOf_0 : decode cX12_sumOf 0 = .ok (.iconst 0, 1) := by decide +kernel
theorem dX12_sumOf_1 : decode cX12_sumOf 1 = .ok (.istore_n 2, 1) := by decide +kernel
theorem dX12_sumOf_2 : decode cX12_sumOf 2 = .ok (.iconst 0, 1) := by decide +kernel
theorem dX12_sumOf_3 : decode cX12_sumOf 3 = .ok (.istore_n 3, 1) := by decide +kernel
theorem dX12_sumOf_4 : decode cX12_sumOf 4 = .ok (.iload_n 3, 1) := by decide +kernel
theorem dX12_sumOf_5 : decode cX12_sumOf 5 = .ok (.aload_n 0, 1) := by decide +kernel
theorem dX12_sumOf_6 : decode cX12_sumOf 6 = .ok (.invokevirtual 226, 3) := by decide +kernel
theorem dX12_sumOf_9 : decode cX12_sumOf 9 = .ok (.if_icmp .ge 30, 3) := by decide +kernel
theorem dX12_sumOf_12 : decode cX12_sumOf 12 = .ok (.iload_n 2, 1) := by decide +kernel
theorem dX12_sumOf_13 : decode cX12_sumOf 13 = .ok (.iload_n 1, 1) := by decide +kernel
theorem dX12_sumOf_14 : decode cX12_sumOf 14 = .ok (.iload_n 3, 1) := by decide +kernel
theorem dX12_sumOf_15 : decode cX12_sumOf 15 = .ok (.ishr, 1) := by decide +kernel
theorem dX12_sumOf_16 : decode cX12_sumOf 16 = .ok (.iconst 1, 1) := by decide +kernel
theorem dX12_sumOf_17 : decode cX12_sumOf 17 = .ok (.iand, 1) := by decide +kernel
theorem dX12_sumOf_18 : decode cX12_sumOf 18 = .ok (.iconst 1, 1) := by decide +kernel
theorem dX12_sumOf_19 : decode cX12_sumOf 19 = .ok (.if_icmp .ne 11, 3) := by decide +kernel
theorem dX12_sumOf_22 : decode cX12_sumOf 22 = .ok (.aload_n 0, 1) := by decide +kernel
theorem dX12_sumOf_23 : decode cX12_sumOf 23 = .ok (.iload_n 3, 1) := by decide +kernel
theorem dX12_sumOf_24 : decode cX12_sumOf 24 = .ok (.invokevirtual 367, 3) := by decide +kernel
theorem dX12_sumOf_27 : decode cX12_sumOf 27 = .ok (.goto 4, 3) := by decide +kernel
theorem dX12_sumOf_30 : decode cX12_sumOf 30 = .ok (.iconst 0, 1) := by decide +kernel
theorem dX12_sumOf_31 : decode cX12_sumOf 31 = .ok (.iadd, 1) := by decide +kernel
theorem dX12_sumOf_32 : decode cX12_sumOf 32 = .ok (.istore_n 2, 1) := by decide +kernel
theorem dX12_sumOf_33 : decode cX12_sumOf 33 = .ok (.iinc 3 1, 3) := by decide +kernel
theorem dX12_sumOf_36 : decode cX12_sumOf 36 = .ok (.goto (-32), 3) := by decide +kernel
theorem dX12_sumOf_39 : decode cX12_sumOf 39 = .ok (.iload_n 2, 1) := by decide +kernel
theorem dX12_sumOf_40 : decode cX12_sumOf 40 = .ok (.ireturn, 1) := by decide +kernel
theorem dX12_picnic_0 : decode cX12_picnic 0 = .ok (.aload_n 0, 1) := by decide +kernel
theorem dX12_picnic_1 : decode cX12_picnic 1 = .ok (.iload_n 1, 1) := by decide +kernel
theorem dX12_picnic_2 : decode cX12_picnic 2 = .ok (.iconst 1, 1) := by decide +kernel
theorem dX12_picnic_3 : decode cX12_picnic 3 = .ok (.aload_n 0, 1) := by decide +kernel
theorem dX12_picnic_4 : decode cX12_picnic 4 = .ok (.invokevirtual 226, 3) := by decide +kernel
theorem dX12_picnic_7 : decode cX12_picnic 7 = .ok (.invokestatic 355, 3) := by decide +kernel
theorem dX12_picnic_10 : decode cX12_picnic 10 = .ok (.ifCond .eq 25, 3) := by decide +kernel
theorem dX12_picnic_13 : decode cX12_picnic 13 = .ok (.iload_n 2, 1) := by decide +kernel
theorem dX12_picnic_14 : decode cX12_picnic 14 = .ok (.iload_n 3, 1) := by decide +kernel
theorem dX12_picnic_15 : decode cX12_picnic 15 = .ok (.invokestatic 385, 3) := by decide +kernel
theorem dX12_picnic_18 : decode cX12_picnic 18 = .ok (.ifCond .eq 17, 3) := by decide +kernel
theorem dX12_picnic_21 : decode cX12_picnic 21 = .ok (.iload 4, 2) := by decide +kernel
theorem dX12_picnic_23 : decode cX12_picnic 23 = .ok (.iconst 0, 1) := by decide +kernel
theorem dX12_picnic_24 : decode cX12_picnic 24 = .ok (.iconst 2, 1) := by decide +kernel
theorem dX12_picnic_25 : decode cX12_picnic 25 = .ok (.invokestatic 355, 3) := by decide +kernel
theorem dX12_picnic_28 : decode cX12_picnic 28 = .ok (.ifCond .eq 7, 3) := by decide +kernel
theorem dX12_picnic_31 : decode cX12_picnic 31 = .ok (.iconst 0, 1) := by decide +kernel
theorem dX12_picnic_32 : decode cX12_picnic 32 = .ok (.goto 4, 3) := by decide +kernel
theorem dX12_picnic_35 : decode cX12_picnic 35 = .ok (.iconst 1, 1) := by decide +kernel
theorem dX12_picnic_36 : decode cX12_picnic 36 = .ok (.putfield 1, 3) := by decide +kernel
theorem dX12_picnic_39 : decode cX12_picnic 39 = .ok (.aload_n 0, 1) := by decide +kernel
theorem dX12_picnic_40 : decode cX12_picnic 40 = .ok (.getfield 1, 3) := by decide +kernel
theorem dX12_picnic_43 : decode cX12_picnic 43 = .ok (.ifCond .le 5, 3) := by decide +kernel
theorem dX12_picnic_46 : decode cX12_picnic 46 = .ok (.iconst 0, 1) := by decide +kernel
theorem dX12_picnic_47 : decode cX12_picnic 47 = .ok (.ireturn, 1) := by decide +kernel
theorem dX12_picnic_48 : decode cX12_picnic 48 = .ok (.iconst (-1), 1) := by decide +kernel
theorem dX12_picnic_49 : decode cX12_picnic 49 = .ok (.istore 5, 2) := by decide +kernel
theorem dX12_picnic_51 : decode cX12_picnic 51 = .ok (.iconst (-1), 1) := by decide +kernel
theorem dX12_picnic_52 : decode cX12_picnic 52 = .ok (.istore 6, 2) := by decide +kernel
theorem dX12_picnic_54 : decode cX12_picnic 54 = .ok (.iconst 0, 1) := by decide +kernel
theorem dX12_picnic_55 : decode cX12_picnic 55 = .ok (.istore 7, 2) := by decide +kernel
theorem dX12_picnic_57 : decode cX12_picnic 57 = .ok (.iconst 1, 1) := by decide +kernel
theorem dX12_picnic_58 : decode cX12_picnic 58 = .ok (.istore 8, 2) := by decide +kernel
theorem dX12_picnic_60 : decode cX12_picnic 60 = .ok (.iload 8, 2) := by decide +kernel
theorem dX12_picnic_62 : decode cX12_picnic 62 = .ok (.iconst 1, 1) := by decide +kernel
theorem dX12_picnic_63 : decode cX12_picnic 63 = .ok (.aload_n 0, 1) := by decide +kernel
theorem dX12_picnic_64 : decode cX12_picnic 64 = .ok (.invokevirtual 226, 3) := by decide +kernel
theorem dX12_picnic_67 : decode cX12_picnic 67 = .ok (.ishl, 1) := by decide +kernel
theorem dX12_picnic_68 : decode cX12_picnic 68 = .ok (.if_icmp .ge 128, 3) := by decide +kernel
theorem dX12_picnic_71 : decode cX12_picnic 71 = .ok (.iconst 0, 1) := by decide +kernel
theorem dX12_picnic_72 : decode cX12_picnic 72 = .ok (.istore 9, 2) := by decide +kernel
theorem dX12_picnic_74 : decode cX12_picnic 74 = .ok (.iload 9, 2) := by decide +kernel
theorem dX12_picnic_76 : decode cX12_picnic 76 = .ok (.bipush 64, 2) := by decide +kernel
theorem dX12_picnic_78 : decode cX12_picnic 78 = .ok (.if_icmp .ge 112, 3) := by decide +kernel
theorem dX12_picnic_81 : decode cX12_picnic 81 = .ok (.iload 8, 2) := by decide +kernel
theorem dX12_picnic_83 : decode cX12_picnic 83 = .ok (.invokestatic 404, 3) := by decide +kernel
theorem dX12_picnic_86 : decode cX12_picnic 86 = .ok (.iload_n 1, 1) := by decide +kernel
theorem dX12_picnic_87 : decode cX12_picnic 87 = .ok (.if_icmp .ne 103, 3) := by decide +kernel
theorem dX12_picnic_90 : decode cX12_picnic 90 = .ok (.aload_n 0, 1) := by decide +kernel
theorem dX12_picnic_91 : decode cX12_picnic 91 = .ok (.iload 9, 2) := by decide +kernel
theorem dX12_picnic_93 : decode cX12_picnic 93 = .ok (.invokevirtual 382, 3) := by decide +kernel
theorem dX12_picnic_96 : decode cX12_picnic 96 = .ok (.ifCond .eq 88, 3) := by decide +kernel
theorem dX12_picnic_99 : decode cX12_picnic 99 = .ok (.aload_n 0, 1) := by decide +kernel
theorem dX12_picnic_100 : decode cX12_picnic 100 = .ok (.iload_n 2, 1) := by decide +kernel
theorem dX12_picnic_101 : decode cX12_picnic 101 = .ok (.iload_n 3, 1) := by decide +kernel
theorem dX12_picnic_102 : decode cX12_picnic 102 = .ok (.invokevirtual 389, 3) := by decide +kernel
theorem dX12_picnic_105 : decode cX12_picnic 105 = .ok (.iconst 0, 1) := by decide +kernel
theorem dX12_picnic_106 : decode cX12_picnic 106 = .ok (.istore 10, 2) := by decide +kernel
theorem dX12_picnic_108 : decode cX12_picnic 108 = .ok (.iload 10, 2) := by decide +kernel
theorem dX12_picnic_110 : decode cX12_picnic 110 = .ok (.aload_n 0, 1) := by decide +kernel
theorem dX12_picnic_111 : decode cX12_picnic 111 = .ok (.invokevirtual 226, 3) := by decide +kernel
theorem dX12_picnic_114 : decode cX12_picnic 114 = .ok (.if_icmp .ge 33, 3) := by decide +kernel
theorem dX12_picnic_117 : decode cX12_picnic 117 = .ok (.aload_n 0, 1) := by decide +kernel
theorem dX12_picnic_118 : decode cX12_picnic 118 = .ok (.getfield 122, 3) := by decide +kernel
theorem dX12_picnic_121 : decode cX12_picnic 121 = .ok (.iload 10, 2) := by decide +kernel
theorem dX12_picnic_123 : decode cX12_picnic 123 = .ok (.iload 8, 2) := by decide +kernel
theorem dX12_picnic_125 : decode cX12_picnic 125 = .ok (.iload 10, 2) := by decide +kernel
theorem dX12_picnic_127 : decode cX12_picnic 127 = .ok (.ishr, 1) := by decide +kernel
theorem dX12_picnic_128 : decode cX12_picnic 128 = .ok (.iconst 1, 1) := by decide +kernel
theorem dX12_picnic_129 : decode cX12_picnic 129 = .ok (.iand, 1) := by decide +kernel
theorem dX12_picnic_130 : decode cX12_picnic 130 = .ok (.iconst 1, 1) := by decide +kernel
theorem dX12_picnic_131 : decode cX12_picnic 131 = .ok (.if_icmp .ne 8, 3) := by decide +kernel
theorem dX12_picnic_134 : decode cX12_picnic 134 = .ok (.iload 9, 2) := by decide +kernel
theorem dX12_picnic_136 : decode cX12_picnic 136 = .ok (.goto 4, 3) := by decide +kernel
theorem dX12_picnic_139 : decode cX12_picnic 139 = .ok (.iconst (-1), 1) := by decide +kernel
theorem dX12_picnic_140 : decode cX12_picnic 140 = .ok (.iastore, 1) := by decide +kernel
theorem dX12_picnic_141 : decode cX12_picnic 141 = .ok (.iinc 10 1, 3) := by decide +kernel
theorem dX12_picnic_144 : decode cX12_picnic 144 = .ok (.goto (-36), 3) := by decide +kernel
theorem dX12_picnic_147 : decode cX12_picnic 147 = .ok (.aload_n 0, 1) := by decide +kernel
theorem dX12_picnic_148 : decode cX12_picnic 148 = .ok (.iconst 0, 1) := by decide +kernel
theorem dX12_picnic_149 : decode cX12_picnic 149 = .ok (.invokevirtual 364, 3) := by decide +kernel
theorem dX12_picnic_152 : decode cX12_picnic 152 = .ok (.aload_n 0, 1) := by decide +kernel
theorem dX12_picnic_153 : decode cX12_picnic 153 = .ok (.iload 8, 2) := by decide +kernel
theorem dX12_picnic_155 : decode cX12_picnic 155 = .ok (.invokevirtual 407, 3) := by decide +kernel
theorem dX12_picnic_158 : decode cX12_picnic 158 = .ok (.istore 10, 2) := by decide +kernel
theorem dX12_picnic_160 : decode cX12_picnic 160 = .ok (.iload 5, 2) := by decide +kernel
theorem dX12_picnic_162 : decode cX12_picnic 162 = .ok (.ifCond .lt 10, 3) := by decide +kernel
theorem dX12_picnic_165 : decode cX12_picnic 165 = .ok (.iload 10, 2) := by decide +kernel
theorem dX12_picnic_167 : decode cX12_picnic 167 = .ok (.iload 7, 2) := by decide +kernel
theorem dX12_picnic_169 : decode cX12_picnic 169 = .ok (.if_icmp .le 15, 3) := by decide +kernel
theorem dX12_picnic_172 : decode cX12_picnic 172 = .ok (.iload 8, 2) := by decide +kernel
theorem dX12_picnic_174 : decode cX12_picnic 174 = .ok (.istore 5, 2) := by decide +kernel
theorem dX12_picnic_176 : decode cX12_picnic 176 = .ok (.iload 9, 2) := by decide +kernel
theorem dX12_picnic_178 : decode cX12_picnic 178 = .ok (.istore 6, 2) := by decide +kernel
theorem dX12_picnic_180 : decode cX12_picnic 180 = .ok (.iload 10, 2) := by decide +kernel
theorem dX12_picnic_182 : decode cX12_picnic 182 = .ok (.istore 7, 2) := by decide +kernel
theorem dX12_picnic_184 : decode cX12_picnic 184 = .ok (.iinc 9 1, 3) := by decide +kernel
theorem dX12_picnic_187 : decode cX12_picnic 187 = .ok (.goto (-113), 3) := by decide +kernel
theorem dX12_picnic_190 : decode cX12_picnic 190 = .ok (.iinc 8 1, 3) := by decide +kernel
theorem dX12_picnic_193 : decode cX12_picnic 193 = .ok (.goto (-133), 3) := by decide +kernel
theorem dX12_picnic_196 : decode cX12_picnic 196 = .ok (.aload_n 0, 1) := by decide +kernel
theorem dX12_picnic_197 : decode cX12_picnic 197 = .ok (.invokevirtual 314, 3) := by decide +kernel
theorem dX12_picnic_200 : decode cX12_picnic 200 = .ok (.iload 4, 2) := by decide +kernel
theorem dX12_picnic_202 : decode cX12_picnic 202 = .ok (.ifCond .ne 8, 3) := by decide +kernel
theorem dX12_picnic_205 : decode cX12_picnic 205 = .ok (.iload 5, 2) := by decide +kernel
theorem dX12_picnic_207 : decode cX12_picnic 207 = .ok (.goto 16, 3) := by decide +kernel
theorem dX12_picnic_210 : decode cX12_picnic 210 = .ok (.iload 4, 2) := by decide +kernel
theorem dX12_picnic_212 : decode cX12_picnic 212 = .ok (.iconst 1, 1) := by decide +kernel
theorem dX12_picnic_213 : decode cX12_picnic 213 = .ok (.if_icmp .ne 8, 3) := by decide +kernel
theorem dX12_picnic_216 : decode cX12_picnic 216 = .ok (.iload 6, 2) := by decide +kernel
theorem dX12_picnic_218 : decode cX12_picnic 218 = .ok (.goto 5, 3) := by decide +kernel
theorem dX12_picnic_221 : decode cX12_picnic 221 = .ok (.iload 7, 2) := by decide +kernel
theorem dX12_picnic_223 : decode cX12_picnic 223 = .ok (.ireturn, 1) := by decide +kernel
theorem dX12_netted_0 : decode cX12_netted 0 = .ok (.aload_n 0, 1) := by decide +kernel
theorem dX12_netted_1 : decode cX12_netted 1 = .ok (.iconst 0, 1) := by decide +kernel
theorem dX12_netted_2 : decode cX12_netted 2 = .ok (.putfield 1, 3) := by decide +kernel
theorem dX12_netted_5 : decode cX12_netted 5 = .ok (.aload_n 0, 1) := by decide +kernel
theorem dX12_netted_6 : decode cX12_netted 6 = .ok (.invokevirtual 314, 3) := by decide +kernel
theorem dX12_netted_9 : decode cX12_netted 9 = .ok (.aload_n 0, 1) := by decide +kernel
theorem dX12_netted_10 : decode cX12_netted 10 = .ok (.iconst 0, 1) := by decide +kernel
theorem dX12_netted_11 : decode cX12_netted 11 = .ok (.invokevirtual 364, 3) := by decide +kernel
theorem dX12_netted_14 : decode cX12_netted 14 = .ok (.iconst 0, 1) := by decide +kernel
theorem dX12_netted_15 : decode cX12_netted 15 = .ok (.istore_n 1, 1) := by decide +kernel
theorem dX12_netted_16 : decode cX12_netted 16 = .ok (.iconst 0, 1) := by decide +kernel
theorem dX12_netted_17 : decode cX12_netted 17 = .ok (.istore_n 2, 1) := by decide +kernel
theorem dX12_netted_18 : decode cX12_netted 18 = .ok (.iload_n 2, 1) := by decide +kernel
theorem dX12_netted_19 : decode cX12_netted 19 = .ok (.aload_n 0, 1) := by decide +kernel
theorem dX12_netted_20 : decode cX12_netted 20 = .ok (.invokevirtual 226, 3) := by decide +kernel
theorem dX12_netted_23 : decode cX12_netted 23 = .ok (.if_icmp .ge 29, 3) := by decide +kernel
theorem dX12_netted_26 : decode cX12_netted 26 = .ok (.iload_n 1, 1) := by decide +kernel
theorem dX12_netted_27 : decode cX12_netted 27 = .ok (.aload_n 0, 1) := by decide +kernel
theorem dX12_netted_28 : decode cX12_netted 28 = .ok (.iload_n 2, 1) := by decide +kernel
theorem dX12_netted_29 : decode cX12_netted 29 = .ok (.invokevirtual 367, 3) := by decide +kernel
theorem dX12_netted_32 : decode cX12_netted 32 = .ok (.ifCond .le 11, 3) := by decide +kernel
theorem dX12_netted_35 : decode cX12_netted 35 = .ok (.aload_n 0, 1) := by decide +kernel
theorem dX12_netted_36 : decode cX12_netted 36 = .ok (.iload_n 2, 1) := by decide +kernel
theorem dX12_netted_37 : decode cX12_netted 37 = .ok (.invokevirtual 367, 3) := by decide +kernel
theorem dX12_netted_40 : decode cX12_netted 40 = .ok (.goto 4, 3) := by decide +kernel
theorem dX12_netted_43 : decode cX12_netted 43 = .ok (.iconst 0, 1) := by decide +kernel
theorem dX12_netted_44 : decode cX12_netted 44 = .ok (.iadd, 1) := by decide +kernel
theorem dX12_netted_45 : decode cX12_netted 45 = .ok (.istore_n 1, 1) := by decide +kernel
theorem dX12_netted_46 : decode cX12_netted 46 = .ok (.iinc 2 1, 3) := by decide +kernel
theorem dX12_netted_49 : decode cX12_netted 49 = .ok (.goto (-31), 3) := by decide +kernel
theorem dX12_netted_52 : decode cX12_netted 52 = .ok (.iload_n 1, 1) := by decide +kernel
theorem dX12_netted_53 : decode cX12_netted 53 = .ok (.ireturn, 1) := by decide +kernel
theorem dX12_without_0 : decode cX12_without 0 = .ok (.aload_n 0, 1) := by decide +kernel
theorem dX12_without_1 : decode cX12_without 1 = .ok (.aload_n 0, 1) := by decide +kernel
theorem dX12_without_2 : decode cX12_without 2 = .ok (.iload_n 1, 1) := by decide +kernel
theorem dX12_without_3 : decode cX12_without 3 = .ok (.invokevirtual 361, 3) := by decide +kernel
theorem dX12_without_6 : decode cX12_without 6 = .ok (.ifCond .eq 23, 3) := by decide +kernel
theorem dX12_without_9 : decode cX12_without 9 = .ok (.aload_n 0, 1) := by decide +kernel
theorem dX12_without_10 : decode cX12_without 10 = .ok (.iload_n 2, 1) := by decide +kernel
theorem dX12_without_11 : decode cX12_without 11 = .ok (.invokevirtual 352, 3) := by decide +kernel
theorem dX12_without_14 : decode cX12_without 14 = .ok (.ifCond .eq 15, 3) := by decide +kernel
theorem dX12_without_17 : decode cX12_without 17 = .ok (.aload_n 0, 1) := by decide +kernel
theorem dX12_without_18 : decode cX12_without 18 = .ok (.iload_n 1, 1) := by decide +kernel
theorem dX12_without_19 : decode cX12_without 19 = .ok (.invokevirtual 342, 3) := by decide +kernel
theorem dX12_without_22 : decode cX12_without 22 = .ok (.ifCond .ne 7, 3) := by decide +kernel
theorem dX12_without_25 : decode cX12_without 25 = .ok (.iconst 0, 1) := by decide +kernel
theorem dX12_without_26 : decode cX12_without 26 = .ok (.goto 4, 3) := by decide +kernel
theorem dX12_without_29 : decode cX12_without 29 = .ok (.iconst 1, 1) := by decide +kernel
theorem dX12_without_30 : decode cX12_without 30 = .ok (.putfield 1, 3) := by decide +kernel
theorem dX12_without_33 : decode cX12_without 33 = .ok (.aload_n 0, 1) := by decide +kernel
theorem dX12_without_34 : decode cX12_without 34 = .ok (.getfield 1, 3) := by decide +kernel
theorem dX12_without_37 : decode cX12_without 37 = .ok (.ifCond .le 5, 3) := by decide +kernel
theorem dX12_without_40 : decode cX12_without 40 = .ok (.iconst 0, 1) := by decide +kernel
theorem dX12_without_41 : decode cX12_without 41 = .ok (.ireturn, 1) := by decide +kernel
theorem dX12_without_42 : decode cX12_without 42 = .ok (.aload_n 0, 1) := by decide +kernel
theorem dX12_without_43 : decode cX12_without 43 = .ok (.invokevirtual 314, 3) := by decide +kernel
theorem dX12_without_46 : decode cX12_without 46 = .ok (.aload_n 0, 1) := by decide +kernel
theorem dX12_without_47 : decode cX12_without 47 = .ok (.iconst 0, 1) := by decide +kernel
theorem dX12_without_48 : decode cX12_without 48 = .ok (.invokevirtual 364, 3) := by decide +kernel
theorem dX12_without_51 : decode cX12_without 51 = .ok (.aload_n 0, 1) := by decide +kernel
theorem dX12_without_52 : decode cX12_without 52 = .ok (.iload_n 2, 1) := by decide +kernel
theorem dX12_without_53 : decode cX12_without 53 = .ok (.invokevirtual 367, 3) := by decide +kernel
theorem dX12_without_56 : decode cX12_without 56 = .ok (.istore_n 3, 1) := by decide +kernel
theorem dX12_without_57 : decode cX12_without 57 = .ok (.aload_n 0, 1) := by decide +kernel
theorem dX12_without_58 : decode cX12_without 58 = .ok (.iconst 1, 1) := by decide +kernel
theorem dX12_without_59 : decode cX12_without 59 = .ok (.iload_n 1, 1) := by decide +kernel
theorem dX12_without_60 : decode cX12_without 60 = .ok (.ishl, 1) := by decide +kernel
theorem dX12_without_61 : decode cX12_without 61 = .ok (.invokevirtual 364, 3) := by decide +kernel
theorem dX12_without_64 : decode cX12_without 64 = .ok (.aload_n 0, 1) := by decide +kernel
theorem dX12_without_65 : decode cX12_without 65 = .ok (.iload_n 2, 1) := by decide +kernel
theorem dX12_without_66 : decode cX12_without 66 = .ok (.invokevirtual 367, 3) := by decide +kernel
theorem dX12_without_69 : decode cX12_without 69 = .ok (.iload_n 3, 1) := by decide +kernel
theorem dX12_without_70 : decode cX12_without 70 = .ok (.isub, 1) := by decide +kernel
theorem dX12_without_71 : decode cX12_without 71 = .ok (.ireturn, 1) := by decide +kernel
theorem dX12_told_0 : decode cX12_told 0 = .ok (.aload_n 0, 1) := by decide +kernel
theorem dX12_told_1 : decode cX12_told 1 = .ok (.iconst 0, 1) := by decide +kernel
theorem dX12_told_2 : decode cX12_told 2 = .ok (.putfield 1, 3) := by decide +kernel
theorem dX12_told_5 : decode cX12_told 5 = .ok (.aload_n 0, 1) := by decide +kernel
theorem dX12_told_6 : decode cX12_told 6 = .ok (.iload_n 1, 1) := by decide +kernel
theorem dX12_told_7 : decode cX12_told 7 = .ok (.invokevirtual 352, 3) := by decide +kernel
theorem dX12_told_10 : decode cX12_told 10 = .ok (.ifCond .eq 14, 3) := by decide +kernel
theorem dX12_told_13 : decode cX12_told 13 = .ok (.iload_n 2, 1) := by decide +kernel
theorem dX12_told_14 : decode cX12_told 14 = .ok (.iconst (-1), 1) := by decide +kernel
theorem dX12_told_15 : decode cX12_told 15 = .ok (.sipush 9999, 3) := by decide +kernel
theorem dX12_told_18 : decode cX12_told 18 = .ok (.invokestatic 355, 3) := by decide +kernel
theorem dX12_told_21 : decode cX12_told 21 = .ok (.ifCond .ne 5, 3) := by decide +kernel
theorem dX12_told_24 : decode cX12_told 24 = .ok (.iconst 0, 1) := by decide +kernel
theorem dX12_told_25 : decode cX12_told 25 = .ok (.ireturn, 1) := by decide +kernel
theorem dX12_told_26 : decode cX12_told 26 = .ok (.aload_n 0, 1) := by decide +kernel
theorem dX12_told_27 : decode cX12_told 27 = .ok (.getfield 115, 3) := by decide +kernel
theorem dX12_told_30 : decode cX12_told 30 = .ok (.bipush 121, 2) := by decide +kernel
theorem dX12_told_32 : decode cX12_told 32 = .ok (.iload_n 1, 1) := by decide +kernel
theorem dX12_told_33 : decode cX12_told 33 = .ok (.iadd, 1) := by decide +kernel
theorem dX12_told_34 : decode cX12_told 34 = .ok (.iload_n 2, 1) := by decide +kernel
theorem dX12_told_35 : decode cX12_told 35 = .ok (.iastore, 1) := by decide +kernel
theorem dX12_told_36 : decode cX12_told 36 = .ok (.iconst 1, 1) := by decide +kernel
theorem dX12_told_37 : decode cX12_told 37 = .ok (.ireturn, 1) := by decide +kernel
theorem dX12_findHour_0 : decode cX12_findHour 0 = .ok (.aload_n 0, 1) := by decide +kernel
theorem dX12_findHour_1 : decode cX12_findHour 1 = .ok (.invokevirtual 314, 3) := by decide +kernel
theorem dX12_findHour_4 : decode cX12_findHour 4 = .ok (.iconst 0, 1) := by decide +kernel
theorem dX12_findHour_5 : decode cX12_findHour 5 = .ok (.istore_n 2, 1) := by decide +kernel
theorem dX12_findHour_6 : decode cX12_findHour 6 = .ok (.iload_n 2, 1) := by decide +kernel
theorem dX12_findHour_7 : decode cX12_findHour 7 = .ok (.aload_n 0, 1) := by decide +kernel
theorem dX12_findHour_8 : decode cX12_findHour 8 = .ok (.invokevirtual 311, 3) := by decide +kernel
theorem dX12_findHour_11 : decode cX12_findHour 11 = .ok (.if_icmp .ge 104, 3) := by decide +kernel
theorem dX12_findHour_14 : decode cX12_findHour 14 = .ok (.iconst 0, 1) := by decide +kernel
theorem dX12_findHour_15 : decode cX12_findHour 15 = .ok (.istore_n 3, 1) := by decide +kernel
theorem dX12_findHour_16 : decode cX12_findHour 16 = .ok (.iload_n 3, 1) := by decide +kernel
theorem dX12_findHour_17 : decode cX12_findHour 17 = .ok (.bipush 6, 2) := by decide +kernel
theorem dX12_findHour_19 : decode cX12_findHour 19 = .ok (.if_icmp .ge 90, 3) := by decide +kernel
theorem dX12_findHour_22 : decode cX12_findHour 22 = .ok (.iconst 0, 1) := by decide +kernel
theorem dX12_findHour_23 : decode cX12_findHour 23 = .ok (.istore 4, 2) := by decide +kernel
theorem dX12_findHour_25 : decode cX12_findHour 25 = .ok (.iload 4, 2) := by decide +kernel
theorem dX12_findHour_27 : decode cX12_findHour 27 = .ok (.aload_n 0, 1) := by decide +kernel
theorem dX12_findHour_28 : decode cX12_findHour 28 = .ok (.invokevirtual 226, 3) := by decide +kernel
theorem dX12_findHour_31 : decode cX12_findHour 31 = .ok (.if_icmp .ge 72, 3) := by decide +kernel
theorem dX12_findHour_34 : decode cX12_findHour 34 = .ok (.iload_n 3, 1) := by decide +kernel
theorem dX12_findHour_35 : decode cX12_findHour 35 = .ok (.ifCond .le 22, 3) := by decide +kernel
theorem dX12_findHour_38 : decode cX12_findHour 38 = .ok (.aload_n 0, 1) := by decide +kernel
theorem dX12_findHour_39 : decode cX12_findHour 39 = .ok (.iload_n 2, 1) := by decide +kernel
theorem dX12_findHour_40 : decode cX12_findHour 40 = .ok (.invokevirtual 342, 3) := by decide +kernel
theorem dX12_findHour_43 : decode cX12_findHour 43 = .ok (.ifCond .ne 14, 3) := by decide +kernel
theorem dX12_findHour_46 : decode cX12_findHour 46 = .ok (.aload_n 0, 1) := by decide +kernel
theorem dX12_findHour_47 : decode cX12_findHour 47 = .ok (.iload_n 2, 1) := by decide +kernel
theorem dX12_findHour_48 : decode cX12_findHour 48 = .ok (.iload_n 1, 1) := by decide +kernel
theorem dX12_findHour_49 : decode cX12_findHour 49 = .ok (.iload 4, 2) := by decide +kernel
theorem dX12_findHour_51 : decode cX12_findHour 51 = .ok (.invokevirtual 345, 3) := by decide +kernel
theorem dX12_findHour_54 : decode cX12_findHour 54 = .ok (.goto 4, 3) := by decide +kernel
theorem dX12_findHour_57 : decode cX12_findHour 57 = .ok (.iconst (-1), 1) := by decide +kernel
theorem dX12_findHour_58 : decode cX12_findHour 58 = .ok (.istore 5, 2) := by decide +kernel
theorem dX12_findHour_60 : decode cX12_findHour 60 = .ok (.aload_n 0, 1) := by decide +kernel
theorem dX12_findHour_61 : decode cX12_findHour 61 = .ok (.getfield 137, 3) := by decide +kernel
theorem dX12_findHour_64 : decode cX12_findHour 64 = .ok (.bipush 36, 2) := by decide +kernel
theorem dX12_findHour_66 : decode cX12_findHour 66 = .ok (.iload_n 2, 1) := by decide +kernel
theorem dX12_findHour_67 : decode cX12_findHour 67 = .ok (.imul, 1) := by decide +kernel
theorem dX12_findHour_68 : decode cX12_findHour 68 = .ok (.bipush 6, 2) := by decide +kernel
theorem dX12_findHour_70 : decode cX12_findHour 70 = .ok (.iload_n 3, 1) := by decide +kernel
theorem dX12_findHour_71 : decode cX12_findHour 71 = .ok (.imul, 1) := by decide +kernel
theorem dX12_findHour_72 : decode cX12_findHour 72 = .ok (.iadd, 1) := by decide +kernel
theorem dX12_findHour_73 : decode cX12_findHour 73 = .ok (.iload 4, 2) := by decide +kernel
theorem dX12_findHour_75 : decode cX12_findHour 75 = .ok (.iadd, 1) := by decide +kernel
theorem dX12_findHour_76 : decode cX12_findHour 76 = .ok (.iload 5, 2) := by decide +kernel
theorem dX12_findHour_78 : decode cX12_findHour 78 = .ok (.ifCond .ge 7, 3) := by decide +kernel
theorem dX12_findHour_81 : decode cX12_findHour 81 = .ok (.iconst 0, 1) := by decide +kernel
theorem dX12_findHour_82 : decode cX12_findHour 82 = .ok (.goto 14, 3) := by decide +kernel
theorem dX12_findHour_85 : decode cX12_findHour 85 = .ok (.aload_n 0, 1) := by decide +kernel
theorem dX12_findHour_86 : decode cX12_findHour 86 = .ok (.iload_n 2, 1) := by decide +kernel
theorem dX12_findHour_87 : decode cX12_findHour 87 = .ok (.iload_n 1, 1) := by decide +kernel
theorem dX12_findHour_88 : decode cX12_findHour 88 = .ok (.iload 4, 2) := by decide +kernel
theorem dX12_findHour_90 : decode cX12_findHour 90 = .ok (.iload 5, 2) := by decide +kernel
theorem dX12_findHour_92 : decode cX12_findHour 92 = .ok (.iload_n 3, 1) := by decide +kernel
theorem dX12_findHour_93 : decode cX12_findHour 93 = .ok (.invokevirtual 348, 3) := by decide +kernel
theorem dX12_findHour_96 : decode cX12_findHour 96 = .ok (.iastore, 1) := by decide +kernel
theorem dX12_findHour_97 : decode cX12_findHour 97 = .ok (.iinc 4 1, 3) := by decide +kernel
theorem dX12_findHour_100 : decode cX12_findHour 100 = .ok (.goto (-75), 3) := by decide +kernel
theorem dX12_findHour_103 : decode cX12_findHour 103 = .ok (.iinc 3 1, 3) := by decide +kernel
theorem dX12_findHour_106 : decode cX12_findHour 106 = .ok (.goto (-90), 3) := by decide +kernel
theorem dX12_findHour_109 : decode cX12_findHour 109 = .ok (.iinc 2 1, 3) := by decide +kernel
theorem dX12_findHour_112 : decode cX12_findHour 112 = .ok (.goto (-106), 3) := by decide +kernel
theorem dX12_findHour_115 : decode cX12_findHour 115 = .ok (.return_, 1) := by decide +kernel
theorem dX12_sings_0 : decode cX12_sings 0 = .ok (.iload_n 1, 1) := by decide +kernel
theorem dX12_sings_1 : decode cX12_sings 1 = .ok (.aload_n 0, 1) := by decide +kernel
theorem dX12_sings_2 : decode cX12_sings 2 = .ok (.invokevirtual 311, 3) := by decide +kernel
theorem dX12_sings_5 : decode cX12_sings 5 = .ok (.if_icmp .ne 174, 3) := by decide +kernel
theorem dX12_sings_8 : decode cX12_sings 8 = .ok (.iconst 1, 1) := by decide +kernel
theorem dX12_sings_9 : decode cX12_sings 9 = .ok (.istore_n 3, 1) := by decide +kernel
theorem dX12_sings_10 : decode cX12_sings 10 = .ok (.iconst 0, 1) := by decide +kernel
theorem dX12_sings_11 : decode cX12_sings 11 = .ok (.istore 4, 2) := by decide +kernel
theorem dX12_sings_13 : decode cX12_sings 13 = .ok (.iload 4, 2) := by decide +kernel
theorem dX12_sings_15 : decode cX12_sings 15 = .ok (.aload_n 0, 1) := by decide +kernel
theorem dX12_sings_16 : decode cX12_sings 16 = .ok (.invokevirtual 226, 3) := by decide +kernel
theorem dX12_sings_19 : decode cX12_sings 19 = .ok (.if_icmp .ge 97, 3) := by decide +kernel
theorem dX12_sings_22 : decode cX12_sings 22 = .ok (.iconst 0, 1) := by decide +kernel
theorem dX12_sings_23 : decode cX12_sings 23 = .ok (.istore 5, 2) := by decide +kernel
theorem dX12_sings_25 : decode cX12_sings 25 = .ok (.iconst 0, 1) := by decide +kernel
theorem dX12_sings_26 : decode cX12_sings 26 = .ok (.istore 6, 2) := by decide +kernel
theorem dX12_sings_28 : decode cX12_sings 28 = .ok (.iload 6, 2) := by decide +kernel
theorem dX12_sings_30 : decode cX12_sings 30 = .ok (.aload_n 0, 1) := by decide +kernel
theorem dX12_sings_31 : decode cX12_sings 31 = .ok (.invokevirtual 311, 3) := by decide +kernel
theorem dX12_sings_34 : decode cX12_sings 34 = .ok (.if_icmp .ge 38, 3) := by decide +kernel
theorem dX12_sings_37 : decode cX12_sings 37 = .ok (.iload 5, 2) := by decide +kernel
theorem dX12_sings_39 : decode cX12_sings 39 = .ok (.aload_n 0, 1) := by decide +kernel
theorem dX12_sings_40 : decode cX12_sings 40 = .ok (.getfield 137, 3) := by decide +kernel
theorem dX12_sings_43 : decode cX12_sings 43 = .ok (.bipush 36, 2) := by decide +kernel
theorem dX12_sings_45 : decode cX12_sings 45 = .ok (.iload 6, 2) := by decide +kernel
theorem dX12_sings_47 : decode cX12_sings 47 = .ok (.imul, 1) := by decide +kernel
theorem dX12_sings_48 : decode cX12_sings 48 = .ok (.bipush 6, 2) := by decide +kernel
theorem dX12_sings_50 : decode cX12_sings 50 = .ok (.aload_n 0, 1) := by decide +kernel
theorem dX12_sings_51 : decode cX12_sings 51 = .ok (.getfield 140, 3) := by decide +kernel
theorem dX12_sings_54 : decode cX12_sings 54 = .ok (.iload 6, 2) := by decide +kernel
theorem dX12_sings_56 : decode cX12_sings 56 = .ok (.iaload, 1) := by decide +kernel
theorem dX12_sings_57 : decode cX12_sings 57 = .ok (.imul, 1) := by decide +kernel
theorem dX12_sings_58 : decode cX12_sings 58 = .ok (.iadd, 1) := by decide +kernel
theorem dX12_sings_59 : decode cX12_sings 59 = .ok (.iload 4, 2) := by decide +kernel
theorem dX12_sings_61 : decode cX12_sings 61 = .ok (.iadd, 1) := by decide +kernel
theorem dX12_sings_62 : decode cX12_sings 62 = .ok (.iaload, 1) := by decide +kernel
theorem dX12_sings_63 : decode cX12_sings 63 = .ok (.iadd, 1) := by decide +kernel
theorem dX12_sings_64 : decode cX12_sings 64 = .ok (.istore 5, 2) := by decide +kernel
theorem dX12_sings_66 : decode cX12_sings 66 = .ok (.iinc 6 1, 3) := by decide +kernel
theorem dX12_sings_69 : decode cX12_sings 69 = .ok (.goto (-41), 3) := by decide +kernel
theorem dX12_sings_72 : decode cX12_sings 72 = .ok (.iload_n 3, 1) := by decide +kernel
theorem dX12_sings_73 : decode cX12_sings 73 = .ok (.ifCond .eq 35, 3) := by decide +kernel
theorem dX12_sings_76 : decode cX12_sings 76 = .ok (.aload_n 0, 1) := by decide +kernel
theorem dX12_sings_77 : decode cX12_sings 77 = .ok (.getfield 115, 3) := by decide +kernel
theorem dX12_sings_80 : decode cX12_sings 80 = .ok (.bipush 121, 2) := by decide +kernel
theorem dX12_sings_82 : decode cX12_sings 82 = .ok (.iload 4, 2) := by decide +kernel
theorem dX12_sings_84 : decode cX12_sings 84 = .ok (.iadd, 1) := by decide +kernel
theorem dX12_sings_85 : decode cX12_sings 85 = .ok (.iaload, 1) := by decide +kernel
theorem dX12_sings_86 : decode cX12_sings 86 = .ok (.ifCond .lt 18, 3) := by decide +kernel
theorem dX12_sings_89 : decode cX12_sings 89 = .ok (.aload_n 0, 1) := by decide +kernel
theorem dX12_sings_90 : decode cX12_sings 90 = .ok (.getfield 115, 3) := by decide +kernel
theorem dX12_sings_93 : decode cX12_sings 93 = .ok (.bipush 121, 2) := by decide +kernel
theorem dX12_sings_95 : decode cX12_sings 95 = .ok (.iload 4, 2) := by decide +kernel
theorem dX12_sings_97 : decode cX12_sings 97 = .ok (.iadd, 1) := by decide +kernel
theorem dX12_sings_98 : decode cX12_sings 98 = .ok (.iaload, 1) := by decide +kernel
theorem dX12_sings_99 : decode cX12_sings 99 = .ok (.iload 5, 2) := by decide +kernel
theorem dX12_sings_101 : decode cX12_sings 101 = .ok (.if_icmp .ne 7, 3) := by decide +kernel
theorem dX12_sings_104 : decode cX12_sings 104 = .ok (.iconst 1, 1) := by decide +kernel
theorem dX12_sings_105 : decode cX12_sings 105 = .ok (.goto 4, 3) := by decide +kernel
theorem dX12_sings_108 : decode cX12_sings 108 = .ok (.iconst 0, 1) := by decide +kernel
theorem dX12_sings_109 : decode cX12_sings 109 = .ok (.istore_n 3, 1) := by decide +kernel
theorem dX12_sings_110 : decode cX12_sings 110 = .ok (.iinc 4 1, 3) := by decide +kernel
theorem dX12_sings_113 : decode cX12_sings 113 = .ok (.goto (-100), 3) := by decide +kernel
theorem dX12_sings_116 : decode cX12_sings 116 = .ok (.iconst 0, 1) := by decide +kernel
theorem dX12_sings_117 : decode cX12_sings 117 = .ok (.istore 4, 2) := by decide +kernel
theorem dX12_sings_119 : decode cX12_sings 119 = .ok (.iload 4, 2) := by decide +kernel
theorem dX12_sings_121 : decode cX12_sings 121 = .ok (.aload_n 0, 1) := by decide +kernel
theorem dX12_sings_122 : decode cX12_sings 122 = .ok (.invokevirtual 311, 3) := by decide +kernel
theorem dX12_sings_125 : decode cX12_sings 125 = .ok (.if_icmp .ge 35, 3) := by decide +kernel
theorem dX12_sings_128 : decode cX12_sings 128 = .ok (.iload_n 3, 1) := by decide +kernel
theorem dX12_sings_129 : decode cX12_sings 129 = .ok (.ifCond .eq 31, 3) := by decide +kernel
theorem dX12_sings_132 : decode cX12_sings 132 = .ok (.aload_n 0, 1) := by decide +kernel
theorem dX12_sings_133 : decode cX12_sings 133 = .ok (.getfield 410, 3) := by decide +kernel
theorem dX12_sings_136 : decode cX12_sings 136 = .ok (.iload_n 2, 1) := by decide +kernel
theorem dX12_sings_137 : decode cX12_sings 137 = .ok (.if_icmp .ne 23, 3) := by decide +kernel
theorem dX12_sings_140 : decode cX12_sings 140 = .ok (.aload_n 0, 1) := by decide +kernel
theorem dX12_sings_141 : decode cX12_sings 141 = .ok (.getfield 143, 3) := by decide +kernel
theorem dX12_sings_144 : decode cX12_sings 144 = .ok (.iload 4, 2) := by decide +kernel
theorem dX12_sings_146 : decode cX12_sings 146 = .ok (.aload_n 0, 1) := by decide +kernel
theorem dX12_sings_147 : decode cX12_sings 147 = .ok (.getfield 140, 3) := by decide +kernel
theorem dX12_sings_150 : decode cX12_sings 150 = .ok (.iload 4, 2) := by decide +kernel
theorem dX12_sings_152 : decode cX12_sings 152 = .ok (.iaload, 1) := by decide +kernel
theorem dX12_sings_153 : decode cX12_sings 153 = .ok (.iastore, 1) := by decide +kernel
theorem dX12_sings_154 : decode cX12_sings 154 = .ok (.iinc 4 1, 3) := by decide +kernel
theorem dX12_sings_157 : decode cX12_sings 157 = .ok (.goto (-38), 3) := by decide +kernel
theorem dX12_sings_160 : decode cX12_sings 160 = .ok (.aload_n 0, 1) := by decide +kernel
theorem dX12_sings_161 : decode cX12_sings 161 = .ok (.dup, 1) := by decide +kernel
theorem dX12_sings_162 : decode cX12_sings 162 = .ok (.getfield 410, 3) := by decide +kernel
theorem dX12_sings_165 : decode cX12_sings 165 = .ok (.iload_n 3, 1) := by decide +kernel
theorem dX12_sings_166 : decode cX12_sings 166 = .ok (.ifCond .eq 7, 3) := by decide +kernel
theorem dX12_sings_169 : decode cX12_sings 169 = .ok (.iconst 1, 1) := by decide +kernel
theorem dX12_sings_170 : decode cX12_sings 170 = .ok (.goto 4, 3) := by decide +kernel
theorem dX12_sings_173 : decode cX12_sings 173 = .ok (.iconst 0, 1) := by decide +kernel
theorem dX12_sings_174 : decode cX12_sings 174 = .ok (.iadd, 1) := by decide +kernel
theorem dX12_sings_175 : decode cX12_sings 175 = .ok (.putfield 410, 3) := by decide +kernel
theorem dX12_sings_178 : decode cX12_sings 178 = .ok (.return_, 1) := by decide +kernel
theorem dX12_sings_179 : decode cX12_sings 179 = .ok (.iconst 0, 1) := by decide +kernel
theorem dX12_sings_180 : decode cX12_sings 180 = .ok (.istore_n 3, 1) := by decide +kernel
theorem dX12_sings_181 : decode cX12_sings 181 = .ok (.iload_n 3, 1) := by decide +kernel
theorem dX12_sings_182 : decode cX12_sings 182 = .ok (.aload_n 0, 1) := by decide +kernel
theorem dX12_sings_183 : decode cX12_sings 183 = .ok (.iload_n 1, 1) := by decide +kernel
theorem dX12_sings_184 : decode cX12_sings 184 = .ok (.invokevirtual 342, 3) := by decide +kernel
theorem dX12_sings_187 : decode cX12_sings 187 = .ok (.ifCond .eq 7, 3) := by decide +kernel
theorem dX12_sings_190 : decode cX12_sings 190 = .ok (.iconst 1, 1) := by decide +kernel
theorem dX12_sings_191 : decode cX12_sings 191 = .ok (.goto 5, 3) := by decide +kernel
theorem dX12_sings_194 : decode cX12_sings 194 = .ok (.bipush 6, 2) := by decide +kernel
theorem dX12_sings_196 : decode cX12_sings 196 = .ok (.if_icmp .ge 24, 3) := by decide +kernel
theorem dX12_sings_199 : decode cX12_sings 199 = .ok (.aload_n 0, 1) := by decide +kernel
theorem dX12_sings_200 : decode cX12_sings 200 = .ok (.getfield 140, 3) := by decide +kernel
theorem dX12_sings_203 : decode cX12_sings 203 = .ok (.iload_n 1, 1) := by decide +kernel
theorem dX12_sings_204 : decode cX12_sings 204 = .ok (.iload_n 3, 1) := by decide +kernel
theorem dX12_sings_205 : decode cX12_sings 205 = .ok (.iastore, 1) := by decide +kernel
theorem dX12_sings_206 : decode cX12_sings 206 = .ok (.aload_n 0, 1) := by decide +kernel
theorem dX12_sings_207 : decode cX12_sings 207 = .ok (.iload_n 1, 1) := by decide +kernel
theorem dX12_sings_208 : decode cX12_sings 208 = .ok (.iconst 1, 1) := by decide +kernel
theorem dX12_sings_209 : decode cX12_sings 209 = .ok (.iadd, 1) := by decide +kernel
theorem dX12_sings_210 : decode cX12_sings 210 = .ok (.iload_n 2, 1) := by decide +kernel
theorem dX12_sings_211 : decode cX12_sings 211 = .ok (.invokevirtual 413, 3) := by decide +kernel
theorem dX12_sings_214 : decode cX12_sings 214 = .ok (.iinc 3 1, 3) := by decide +kernel
theorem dX12_sings_217 : decode cX12_sings 217 = .ok (.goto (-36), 3) := by decide +kernel
theorem dX12_sings_220 : decode cX12_sings 220 = .ok (.return_, 1) := by decide +kernel
theorem dX12_sang_0 : decode cX12_sang 0 = .ok (.aload_n 0, 1) := by decide +kernel
theorem dX12_sang_1 : decode cX12_sang 1 = .ok (.iconst 0, 1) := by decide +kernel
theorem dX12_sang_2 : decode cX12_sang 2 = .ok (.putfield 1, 3) := by decide +kernel
theorem dX12_sang_5 : decode cX12_sang 5 = .ok (.iload_n 1, 1) := by decide +kernel
theorem dX12_sang_6 : decode cX12_sang 6 = .ok (.invokestatic 358, 3) := by decide +kernel
theorem dX12_sang_9 : decode cX12_sang 9 = .ok (.ifCond .ne 5, 3) := by decide +kernel
theorem dX12_sang_12 : decode cX12_sang 12 = .ok (.iconst (-1), 1) := by decide +kernel
theorem dX12_sang_13 : decode cX12_sang 13 = .ok (.ireturn, 1) := by decide +kernel
theorem dX12_sang_14 : decode cX12_sang 14 = .ok (.aload_n 0, 1) := by decide +kernel
theorem dX12_sang_15 : decode cX12_sang 15 = .ok (.iload_n 1, 1) := by decide +kernel
theorem dX12_sang_16 : decode cX12_sang 16 = .ok (.invokevirtual 416, 3) := by decide +kernel
theorem dX12_sang_19 : decode cX12_sang 19 = .ok (.aload_n 0, 1) := by decide +kernel
theorem dX12_sang_20 : decode cX12_sang 20 = .ok (.iconst 0, 1) := by decide +kernel
theorem dX12_sang_21 : decode cX12_sang 21 = .ok (.putfield 410, 3) := by decide +kernel
theorem dX12_sang_24 : decode cX12_sang 24 = .ok (.aload_n 0, 1) := by decide +kernel
theorem dX12_sang_25 : decode cX12_sang 25 = .ok (.iconst 0, 1) := by decide +kernel
theorem dX12_sang_26 : decode cX12_sang 26 = .ok (.iconst (-1), 1) := by decide +kernel
theorem dX12_sang_27 : decode cX12_sang 27 = .ok (.invokevirtual 413, 3) := by decide +kernel
theorem dX12_sang_30 : decode cX12_sang 30 = .ok (.aload_n 0, 1) := by decide +kernel
theorem dX12_sang_31 : decode cX12_sang 31 = .ok (.getfield 410, 3) := by decide +kernel
theorem dX12_sang_34 : decode cX12_sang 34 = .ok (.ireturn, 1) := by decide +kernel
theorem dX12_song_0 : decode cX12_song 0 = .ok (.aload_n 0, 1) := by decide +kernel
theorem dX12_song_1 : decode cX12_song 1 = .ok (.iconst 0, 1) := by decide +kernel
theorem dX12_song_2 : decode cX12_song 2 = .ok (.putfield 1, 3) := by decide +kernel
theorem dX12_song_5 : decode cX12_song 5 = .ok (.iload_n 1, 1) := by decide +kernel
theorem dX12_song_6 : decode cX12_song 6 = .ok (.invokestatic 358, 3) := by decide +kernel
theorem dX12_song_9 : decode cX12_song 9 = .ok (.ifCond .eq 23, 3) := by decide +kernel
theorem dX12_song_12 : decode cX12_song 12 = .ok (.iload_n 2, 1) := by decide +kernel
theorem dX12_song_13 : decode cX12_song 13 = .ok (.ifCond .lt 19, 3) := by decide +kernel
theorem dX12_song_16 : decode cX12_song 16 = .ok (.aload_n 0, 1) := by decide +kernel
theorem dX12_song_17 : decode cX12_song 17 = .ok (.iload_n 3, 1) := by decide +kernel
theorem dX12_song_18 : decode cX12_song 18 = .ok (.invokevirtual 361, 3) := by decide +kernel
theorem dX12_song_21 : decode cX12_song 21 = .ok (.ifCond .eq 11, 3) := by decide +kernel
theorem dX12_song_24 : decode cX12_song 24 = .ok (.aload_n 0, 1) := by decide +kernel
theorem dX12_song_25 : decode cX12_song 25 = .ok (.iload_n 3, 1) := by decide +kernel
theorem dX12_song_26 : decode cX12_song 26 = .ok (.invokevirtual 342, 3) := by decide +kernel
theorem dX12_song_29 : decode cX12_song 29 = .ok (.ifCond .eq 5, 3) := by decide +kernel
theorem dX12_song_32 : decode cX12_song 32 = .ok (.iconst (-1), 1) := by decide +kernel
theorem dX12_song_33 : decode cX12_song 33 = .ok (.ireturn, 1) := by decide +kernel
theorem dX12_song_34 : decode cX12_song 34 = .ok (.aload_n 0, 1) := by decide +kernel
theorem dX12_song_35 : decode cX12_song 35 = .ok (.iload_n 1, 1) := by decide +kernel
theorem dX12_song_36 : decode cX12_song 36 = .ok (.invokevirtual 416, 3) := by decide +kernel
theorem dX12_song_39 : decode cX12_song 39 = .ok (.aload_n 0, 1) := by decide +kernel
theorem dX12_song_40 : decode cX12_song 40 = .ok (.iconst 0, 1) := by decide +kernel
theorem dX12_song_41 : decode cX12_song 41 = .ok (.putfield 410, 3) := by decide +kernel
theorem dX12_song_44 : decode cX12_song 44 = .ok (.aload_n 0, 1) := by decide +kernel
theorem dX12_song_45 : decode cX12_song 45 = .ok (.iconst 0, 1) := by decide +kernel
theorem dX12_song_46 : decode cX12_song 46 = .ok (.iload_n 2, 1) := by decide +kernel
theorem dX12_song_47 : decode cX12_song 47 = .ok (.invokevirtual 413, 3) := by decide +kernel
theorem dX12_song_50 : decode cX12_song 50 = .ok (.iload_n 2, 1) := by decide +kernel
theorem dX12_song_51 : decode cX12_song 51 = .ok (.aload_n 0, 1) := by decide +kernel
theorem dX12_song_52 : decode cX12_song 52 = .ok (.getfield 410, 3) := by decide +kernel
theorem dX12_song_55 : decode cX12_song 55 = .ok (.if_icmp .ge 12, 3) := by decide +kernel
theorem dX12_song_58 : decode cX12_song 58 = .ok (.aload_n 0, 1) := by decide +kernel
theorem dX12_song_59 : decode cX12_song 59 = .ok (.getfield 143, 3) := by decide +kernel
theorem dX12_song_62 : decode cX12_song 62 = .ok (.iload_n 3, 1) := by decide +kernel
theorem dX12_song_63 : decode cX12_song 63 = .ok (.iaload, 1) := by decide +kernel
theorem dX12_song_64 : decode cX12_song 64 = .ok (.goto 4, 3) := by decide +kernel
theorem dX12_song_67 : decode cX12_song 67 = .ok (.iconst (-1), 1) := by decide +kernel
theorem dX12_song_68 : decode cX12_song 68 = .ok (.ireturn, 1) := by decide +kernel
theorem dX12_wooden_0 : decode cX12_wooden 0 = .ok (.aload_n 0, 1) := by decide +kernel
theorem dX12_wooden_1 : decode cX12_wooden 1 = .ok (.iconst 0, 1) := by decide +kernel
theorem dX12_wooden_2 : decode cX12_wooden 2 = .ok (.putfield 1, 3) := by decide +kernel
theorem dX12_wooden_5 : decode cX12_wooden 5 = .ok (.iload_n 1, 1) := by decide +kernel
theorem dX12_wooden_6 : decode cX12_wooden 6 = .ok (.iconst 0, 1) := by decide +kernel
theorem dX12_wooden_7 : decode cX12_wooden 7 = .ok (.iconst 1, 1) := by decide +kernel
theorem dX12_wooden_8 : decode cX12_wooden 8 = .ok (.invokestatic 355, 3) := by decide +kernel
theorem dX12_wooden_11 : decode cX12_wooden 11 = .ok (.ifCond .ne 5, 3) := by decide +kernel
theorem dX12_wooden_14 : decode cX12_wooden 14 = .ok (.iconst (-1), 1) := by decide +kernel
theorem dX12_wooden_15 : decode cX12_wooden 15 = .ok (.ireturn, 1) := by decide +kernel
theorem dX12_wooden_16 : decode cX12_wooden 16 = .ok (.aload_n 0, 1) := by decide +kernel
theorem dX12_wooden_17 : decode cX12_wooden 17 = .ok (.invokevirtual 314, 3) := by decide +kernel
theorem dX12_wooden_20 : decode cX12_wooden 20 = .ok (.iconst (-1), 1) := by decide +kernel
theorem dX12_wooden_21 : decode cX12_wooden 21 = .ok (.istore_n 2, 1) := by decide +kernel
theorem dX12_wooden_22 : decode cX12_wooden 22 = .ok (.iconst 0, 1) := by decide +kernel
theorem dX12_wooden_23 : decode cX12_wooden 23 = .ok (.istore_n 3, 1) := by decide +kernel
theorem dX12_wooden_24 : decode cX12_wooden 24 = .ok (.iconst 0, 1) := by decide +kernel
theorem dX12_wooden_25 : decode cX12_wooden 25 = .ok (.istore 4, 2) := by decide +kernel
theorem dX12_wooden_27 : decode cX12_wooden 27 = .ok (.iload 4, 2) := by decide +kernel
theorem dX12_wooden_29 : decode cX12_wooden 29 = .ok (.iconst 1, 1) := by decide +kernel
theorem dX12_wooden_30 : decode cX12_wooden 30 = .ok (.aload_n 0, 1) := by decide +kernel
theorem dX12_wooden_31 : decode cX12_wooden 31 = .ok (.invokevirtual 311, 3) := by decide +kernel
theorem dX12_wooden_34 : decode cX12_wooden 34 = .ok (.ishl, 1) := by decide +kernel
theorem dX12_wooden_35 : decode cX12_wooden 35 = .ok (.if_icmp .ge 155, 3) := by decide +kernel
theorem dX12_wooden_38 : decode cX12_wooden 38 = .ok (.iload 4, 2) := by decide +kernel
theorem dX12_wooden_40 : decode cX12_wooden 40 = .ok (.aload_n 0, 1) := by decide +kernel
theorem dX12_wooden_41 : decode cX12_wooden 41 = .ok (.getfield 115, 3) := by decide +kernel
theorem dX12_wooden_44 : decode cX12_wooden 44 = .ok (.bipush 120, 2) := by decide +kernel
theorem dX12_wooden_46 : decode cX12_wooden 46 = .ok (.iaload, 1) := by decide +kernel
theorem dX12_wooden_47 : decode cX12_wooden 47 = .ok (.iand, 1) := by decide +kernel
theorem dX12_wooden_48 : decode cX12_wooden 48 = .ok (.ifCond .ne 136, 3) := by decide +kernel
theorem dX12_wooden_51 : decode cX12_wooden 51 = .ok (.aload_n 0, 1) := by decide +kernel
theorem dX12_wooden_52 : decode cX12_wooden 52 = .ok (.iload 4, 2) := by decide +kernel
theorem dX12_wooden_54 : decode cX12_wooden 54 = .ok (.invokevirtual 364, 3) := by decide +kernel
theorem dX12_wooden_57 : decode cX12_wooden 57 = .ok (.iconst 1, 1) := by decide +kernel
theorem dX12_wooden_58 : decode cX12_wooden 58 = .ok (.istore 5, 2) := by decide +kernel
theorem dX12_wooden_60 : decode cX12_wooden 60 = .ok (.iconst 0, 1) := by decide +kernel
theorem dX12_wooden_61 : decode cX12_wooden 61 = .ok (.istore 6, 2) := by decide +kernel
theorem dX12_wooden_63 : decode cX12_wooden 63 = .ok (.iload 6, 2) := by decide +kernel
theorem dX12_wooden_65 : decode cX12_wooden 65 = .ok (.aload_n 0, 1) := by decide +kernel
theorem dX12_wooden_66 : decode cX12_wooden 66 = .ok (.invokevirtual 226, 3) := by decide +kernel
theorem dX12_wooden_69 : decode cX12_wooden 69 = .ok (.if_icmp .ge 86, 3) := by decide +kernel
theorem dX12_wooden_72 : decode cX12_wooden 72 = .ok (.iconst 0, 1) := by decide +kernel
theorem dX12_wooden_73 : decode cX12_wooden 73 = .ok (.istore 7, 2) := by decide +kernel
theorem dX12_wooden_75 : decode cX12_wooden 75 = .ok (.iconst 0, 1) := by decide +kernel
theorem dX12_wooden_76 : decode cX12_wooden 76 = .ok (.istore 8, 2) := by decide +kernel
theorem dX12_wooden_78 : decode cX12_wooden 78 = .ok (.iload 8, 2) := by decide +kernel
theorem dX12_wooden_80 : decode cX12_wooden 80 = .ok (.bipush 6, 2) := by decide +kernel
theorem dX12_wooden_82 : decode cX12_wooden 82 = .ok (.if_icmp .ge 27, 3) := by decide +kernel
theorem dX12_wooden_85 : decode cX12_wooden 85 = .ok (.iload 7, 2) := by decide +kernel
theorem dX12_wooden_87 : decode cX12_wooden 87 = .ok (.aload_n 0, 1) := by decide +kernel
theorem dX12_wooden_88 : decode cX12_wooden 88 = .ok (.getfield 131, 3) := by decide +kernel
theorem dX12_wooden_91 : decode cX12_wooden 91 = .ok (.bipush 6, 2) := by decide +kernel
theorem dX12_wooden_93 : decode cX12_wooden 93 = .ok (.iload 6, 2) := by decide +kernel
theorem dX12_wooden_95 : decode cX12_wooden 95 = .ok (.imul, 1) := by decide +kernel
theorem dX12_wooden_96 : decode cX12_wooden 96 = .ok (.iload 8, 2) := by decide +kernel
theorem dX12_wooden_98 : decode cX12_wooden 98 = .ok (.iadd, 1) := by decide +kernel
theorem dX12_wooden_99 : decode cX12_wooden 99 = .ok (.iaload, 1) := by decide +kernel
theorem dX12_wooden_100 : decode cX12_wooden 100 = .ok (.iadd, 1) := by decide +kernel
theorem dX12_wooden_101 : decode cX12_wooden 101 = .ok (.istore 7, 2) := by decide +kernel
theorem dX12_wooden_103 : decode cX12_wooden 103 = .ok (.iinc 8 1, 3) := by decide +kernel
theorem dX12_wooden_106 : decode cX12_wooden 106 = .ok (.goto (-28), 3) := by decide +kernel
theorem dX12_wooden_109 : decode cX12_wooden 109 = .ok (.iload 5, 2) := by decide +kernel
theorem dX12_wooden_111 : decode cX12_wooden 111 = .ok (.ifCond .eq 35, 3) := by decide +kernel
theorem dX12_wooden_114 : decode cX12_wooden 114 = .ok (.aload_n 0, 1) := by decide +kernel
theorem dX12_wooden_115 : decode cX12_wooden 115 = .ok (.getfield 115, 3) := by decide +kernel
theorem dX12_wooden_118 : decode cX12_wooden 118 = .ok (.bipush 121, 2) := by decide +kernel
theorem dX12_wooden_120 : decode cX12_wooden 120 = .ok (.iload 6, 2) := by decide +kernel
theorem dX12_wooden_122 : decode cX12_wooden 122 = .ok (.iadd, 1) := by decide +kernel
theorem dX12_wooden_123 : decode cX12_wooden 123 = .ok (.iaload, 1) := by decide +kernel
theorem dX12_wooden_124 : decode cX12_wooden 124 = .ok (.ifCond .lt 18, 3) := by decide +kernel
theorem dX12_wooden_127 : decode cX12_wooden 127 = .ok (.aload_n 0, 1) := by decide +kernel
theorem dX12_wooden_128 : decode cX12_wooden 128 = .ok (.getfield 115, 3) := by decide +kernel
theorem dX12_wooden_131 : decode cX12_wooden 131 = .ok (.bipush 121, 2) := by decide +kernel
theorem dX12_wooden_133 : decode cX12_wooden 133 = .ok (.iload 6, 2) := by decide +kernel
theorem dX12_wooden_135 : decode cX12_wooden 135 = .ok (.iadd, 1) := by decide +kernel
theorem dX12_wooden_136 : decode cX12_wooden 136 = .ok (.iaload, 1) := by decide +kernel
theorem dX12_wooden_137 : decode cX12_wooden 137 = .ok (.iload 7, 2) := by decide +kernel
theorem dX12_wooden_139 : decode cX12_wooden 139 = .ok (.if_icmp .ne 7, 3) := by decide +kernel
theorem dX12_wooden_142 : decode cX12_wooden 142 = .ok (.iconst 1, 1) := by decide +kernel
theorem dX12_wooden_143 : decode cX12_wooden 143 = .ok (.goto 4, 3) := by decide +kernel
theorem dX12_wooden_146 : decode cX12_wooden 146 = .ok (.iconst 0, 1) := by decide +kernel
theorem dX12_wooden_147 : decode cX12_wooden 147 = .ok (.istore 5, 2) := by decide +kernel
theorem dX12_wooden_149 : decode cX12_wooden 149 = .ok (.iinc 6 1, 3) := by decide +kernel
theorem dX12_wooden_152 : decode cX12_wooden 152 = .ok (.goto (-89), 3) := by decide +kernel
theorem dX12_wooden_155 : decode cX12_wooden 155 = .ok (.iload 5, 2) := by decide +kernel
theorem dX12_wooden_157 : decode cX12_wooden 157 = .ok (.ifCond .eq 12, 3) := by decide +kernel
theorem dX12_wooden_160 : decode cX12_wooden 160 = .ok (.iload_n 2, 1) := by decide +kernel
theorem dX12_wooden_161 : decode cX12_wooden 161 = .ok (.ifCond .ge 8, 3) := by decide +kernel
theorem dX12_wooden_164 : decode cX12_wooden 164 = .ok (.iload 4, 2) := by decide +kernel
theorem dX12_wooden_166 : decode cX12_wooden 166 = .ok (.goto 4, 3) := by decide +kernel
theorem dX12_wooden_169 : decode cX12_wooden 169 = .ok (.iload_n 2, 1) := by decide +kernel
theorem dX12_wooden_170 : decode cX12_wooden 170 = .ok (.istore_n 2, 1) := by decide +kernel
theorem dX12_wooden_171 : decode cX12_wooden 171 = .ok (.iload_n 3, 1) := by decide +kernel
theorem dX12_wooden_172 : decode cX12_wooden 172 = .ok (.iload 5, 2) := by decide +kernel
theorem dX12_wooden_174 : decode cX12_wooden 174 = .ok (.ifCond .eq 7, 3) := by decide +kernel
theorem dX12_wooden_177 : decode cX12_wooden 177 = .ok (.iconst 1, 1) := by decide +kernel
theorem dX12_wooden_178 : decode cX12_wooden 178 = .ok (.goto 4, 3) := by decide +kernel
theorem dX12_wooden_181 : decode cX12_wooden 181 = .ok (.iconst 0, 1) := by decide +kernel
theorem dX12_wooden_182 : decode cX12_wooden 182 = .ok (.iadd, 1) := by decide +kernel
theorem dX12_wooden_183 : decode cX12_wooden 183 = .ok (.istore_n 3, 1) := by decide +kernel
theorem dX12_wooden_184 : decode cX12_wooden 184 = .ok (.iinc 4 1, 3) := by decide +kernel
theorem dX12_wooden_187 : decode cX12_wooden 187 = .ok (.goto (-160), 3) := by decide +kernel
theorem dX12_wooden_190 : decode cX12_wooden 190 = .ok (.iload_n 1, 1) := by decide +kernel
theorem dX12_wooden_191 : decode cX12_wooden 191 = .ok (.ifCond .ne 7, 3) := by decide +kernel
theorem dX12_wooden_194 : decode cX12_wooden 194 = .ok (.iload_n 3, 1) := by decide +kernel
theorem dX12_wooden_195 : decode cX12_wooden 195 = .ok (.goto 4, 3) := by decide +kernel
theorem dX12_wooden_198 : decode cX12_wooden 198 = .ok (.iload_n 2, 1) := by decide +kernel
theorem dX12_wooden_199 : decode cX12_wooden 199 = .ok (.ireturn, 1) := by decide +kernel
theorem dX12_findJune_0 : decode cX12_findJune 0 = .ok (.aload_n 0, 1) := by decide +kernel
theorem dX12_findJune_1 : decode cX12_findJune 1 = .ok (.invokevirtual 314, 3) := by decide +kernel
theorem dX12_findJune_4 : decode cX12_findJune 4 = .ok (.aload_n 0, 1) := by decide +kernel
theorem dX12_findJune_5 : decode cX12_findJune 5 = .ok (.iconst 0, 1) := by decide +kernel
theorem dX12_findJune_6 : decode cX12_findJune 6 = .ok (.invokevirtual 364, 3) := by decide +kernel
theorem dX12_findJune_9 : decode cX12_findJune 9 = .ok (.iconst 0, 1) := by decide +kernel
theorem dX12_findJune_10 : decode cX12_findJune 10 = .ok (.istore_n 1, 1) := by decide +kernel
theorem dX12_findJune_11 : decode cX12_findJune 11 = .ok (.iload_n 1, 1) := by decide +kernel
theorem dX12_findJune_12 : decode cX12_findJune 12 = .ok (.aload_n 0, 1) := by decide +kernel
theorem dX12_findJune_13 : decode cX12_findJune 13 = .ok (.invokevirtual 226, 3) := by decide +kernel
theorem dX12_findJune_16 : decode cX12_findJune 16 = .ok (.if_icmp .ge 122, 3) := by decide +kernel
theorem dX12_findJune_19 : decode cX12_findJune 19 = .ok (.aload_n 0, 1) := by decide +kernel
theorem dX12_findJune_20 : decode cX12_findJune 20 = .ok (.getfield 146, 3) := by decide +kernel
theorem dX12_findJune_23 : decode cX12_findJune 23 = .ok (.iload_n 1, 1) := by decide +kernel
theorem dX12_findJune_24 : decode cX12_findJune 24 = .ok (.aload_n 0, 1) := by decide +kernel
theorem dX12_findJune_25 : decode cX12_findJune 25 = .ok (.getfield 85, 3) := by decide +kernel
theorem dX12_findJune_28 : decode cX12_findJune 28 = .ok (.bipush 7, 2) := by decide +kernel
theorem dX12_findJune_30 : decode cX12_findJune 30 = .ok (.iconst 2, 1) := by decide +kernel
theorem dX12_findJune_31 : decode cX12_findJune 31 = .ok (.iload_n 1, 1) := by decide +kernel
theorem dX12_findJune_32 : decode cX12_findJune 32 = .ok (.imul, 1) := by decide +kernel
theorem dX12_findJune_33 : decode cX12_findJune 33 = .ok (.iadd, 1) := by decide +kernel
theorem dX12_findJune_34 : decode cX12_findJune 34 = .ok (.iconst 1, 1) := by decide +kernel
theorem dX12_findJune_35 : decode cX12_findJune 35 = .ok (.iadd, 1) := by decide +kernel
theorem dX12_findJune_36 : decode cX12_findJune 36 = .ok (.iaload, 1) := by decide +kernel
theorem dX12_findJune_37 : decode cX12_findJune 37 = .ok (.iastore, 1) := by decide +kernel
theorem dX12_findJune_38 : decode cX12_findJune 38 = .ok (.iconst 0, 1) := by decide +kernel
theorem dX12_findJune_39 : decode cX12_findJune 39 = .ok (.istore_n 2, 1) := by decide +kernel
theorem dX12_findJune_40 : decode cX12_findJune 40 = .ok (.iload_n 2, 1) := by decide +kernel
theorem dX12_findJune_41 : decode cX12_findJune 41 = .ok (.iload_n 1, 1) := by decide +kernel
theorem dX12_findJune_42 : decode cX12_findJune 42 = .ok (.if_icmp .ge 90, 3) := by decide +kernel
theorem dX12_findJune_45 : decode cX12_findJune 45 = .ok (.aload_n 0, 1) := by decide +kernel
theorem dX12_findJune_46 : decode cX12_findJune 46 = .ok (.getfield 131, 3) := by decide +kernel
theorem dX12_findJune_49 : decode cX12_findJune 49 = .ok (.bipush 6, 2) := by decide +kernel
theorem dX12_findJune_51 : decode cX12_findJune 51 = .ok (.iload_n 1, 1) := by decide +kernel
theorem dX12_findJune_52 : decode cX12_findJune 52 = .ok (.imul, 1) := by decide +kernel
theorem dX12_findJune_53 : decode cX12_findJune 53 = .ok (.iload_n 2, 1) := by decide +kernel
theorem dX12_findJune_54 : decode cX12_findJune 54 = .ok (.iadd, 1) := by decide +kernel
theorem dX12_findJune_55 : decode cX12_findJune 55 = .ok (.iaload, 1) := by decide +kernel
theorem dX12_findJune_56 : decode cX12_findJune 56 = .ok (.aload_n 0, 1) := by decide +kernel
theorem dX12_findJune_57 : decode cX12_findJune 57 = .ok (.getfield 131, 3) := by decide +kernel
theorem dX12_findJune_60 : decode cX12_findJune 60 = .ok (.bipush 6, 2) := by decide +kernel
theorem dX12_findJune_62 : decode cX12_findJune 62 = .ok (.iload_n 2, 1) := by decide +kernel
theorem dX12_findJune_63 : decode cX12_findJune 63 = .ok (.imul, 1) := by decide +kernel
theorem dX12_findJune_64 : decode cX12_findJune 64 = .ok (.iload_n 1, 1) := by decide +kernel
theorem dX12_findJune_65 : decode cX12_findJune 65 = .ok (.iadd, 1) := by decide +kernel
theorem dX12_findJune_66 : decode cX12_findJune 66 = .ok (.iaload, 1) := by decide +kernel
theorem dX12_findJune_67 : decode cX12_findJune 67 = .ok (.if_icmp .ge 17, 3) := by decide +kernel
theorem dX12_findJune_70 : decode cX12_findJune 70 = .ok (.aload_n 0, 1) := by decide +kernel
theorem dX12_findJune_71 : decode cX12_findJune 71 = .ok (.getfield 131, 3) := by decide +kernel
theorem dX12_findJune_74 : decode cX12_findJune 74 = .ok (.bipush 6, 2) := by decide +kernel
theorem dX12_findJune_76 : decode cX12_findJune 76 = .ok (.iload_n 1, 1) := by decide +kernel
theorem dX12_findJune_77 : decode cX12_findJune 77 = .ok (.imul, 1) := by decide +kernel
