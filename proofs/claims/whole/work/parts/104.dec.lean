theorem dX12_pays_0 : decode cX12_pays 0 = .ok (.aload_n 0, 1) := by decide +kernel
theorem dX12_pays_1 : decode cX12_pays 1 = .ok (.iconst 0, 1) := by decide +kernel
theorem dX12_pays_2 : decode cX12_pays 2 = .ok (.putfield 1, 3) := by decide +kernel
theorem dX12_pays_5 : decode cX12_pays 5 = .ok (.aload_n 0, 1) := by decide +kernel
theorem dX12_pays_6 : decode cX12_pays 6 = .ok (.iload_n 1, 1) := by decide +kernel
theorem dX12_pays_7 : decode cX12_pays 7 = .ok (.iload_n 2, 1) := by decide +kernel
theorem dX12_pays_8 : decode cX12_pays 8 = .ok (.iload_n 3, 1) := by decide +kernel
theorem dX12_pays_9 : decode cX12_pays 9 = .ok (.iload 4, 2) := by decide +kernel
theorem dX12_pays_11 : decode cX12_pays 11 = .ok (.iload 5, 2) := by decide +kernel
theorem dX12_pays_13 : decode cX12_pays 13 = .ok (.invokevirtual 355, 3) := by decide +kernel
theorem dX12_pays_16 : decode cX12_pays 16 = .ok (.ifCond .ne 5, 3) := by decide +kernel
theorem dX12_pays_19 : decode cX12_pays 19 = .ok (.iconst (-1), 1) := by decide +kernel
theorem dX12_pays_20 : decode cX12_pays 20 = .ok (.ireturn, 1) := by decide +kernel
theorem dX12_pays_21 : decode cX12_pays 21 = .ok (.aload_n 0, 1) := by decide +kernel
theorem dX12_pays_22 : decode cX12_pays 22 = .ok (.iload_n 1, 1) := by decide +kernel
theorem dX12_pays_23 : decode cX12_pays 23 = .ok (.iload_n 2, 1) := by decide +kernel
theorem dX12_pays_24 : decode cX12_pays 24 = .ok (.iload 5, 2) := by decide +kernel
theorem dX12_pays_26 : decode cX12_pays 26 = .ok (.invokevirtual 359, 3) := by decide +kernel
theorem dX12_pays_29 : decode cX12_pays 29 = .ok (.aload_n 0, 1) := by decide +kernel
theorem dX12_pays_30 : decode cX12_pays 30 = .ok (.getfield 125, 3) := by decide +kernel
theorem dX12_pays_33 : decode cX12_pays 33 = .ok (.bipush 100, 2) := by decide +kernel
theorem dX12_pays_35 : decode cX12_pays 35 = .ok (.iload_n 3, 1) := by decide +kernel
theorem dX12_pays_36 : decode cX12_pays 36 = .ok (.imul, 1) := by decide +kernel
theorem dX12_pays_37 : decode cX12_pays 37 = .ok (.iload 4, 2) := by decide +kernel
theorem dX12_pays_39 : decode cX12_pays 39 = .ok (.iadd, 1) := by decide +kernel
theorem dX12_pays_40 : decode cX12_pays 40 = .ok (.iaload, 1) := by decide +kernel
theorem dX12_pays_41 : decode cX12_pays 41 = .ok (.istore 6, 2) := by decide +kernel
theorem dX12_pays_43 : decode cX12_pays 43 = .ok (.aload_n 0, 1) := by decide +kernel
theorem dX12_pays_44 : decode cX12_pays 44 = .ok (.iload 5, 2) := by decide +kernel
theorem dX12_pays_46 : decode cX12_pays 46 = .ok (.aload_n 0, 1) := by decide +kernel
theorem dX12_pays_47 : decode cX12_pays 47 = .ok (.iload_n 1, 1) := by decide +kernel
theorem dX12_pays_48 : decode cX12_pays 48 = .ok (.iconst 0, 1) := by decide +kernel
theorem dX12_pays_49 : decode cX12_pays 49 = .ok (.invokevirtual 345, 3) := by decide +kernel
theorem dX12_pays_52 : decode cX12_pays 52 = .ok (.iconst 0, 1) := by decide +kernel
theorem dX12_pays_53 : decode cX12_pays 53 = .ok (.bipush 119, 2) := by decide +kernel
theorem dX12_pays_55 : decode cX12_pays 55 = .ok (.invokevirtual 348, 3) := by decide +kernel
theorem dX12_pays_58 : decode cX12_pays 58 = .ok (.aload_n 0, 1) := by decide +kernel
theorem dX12_pays_59 : decode cX12_pays 59 = .ok (.getfield 125, 3) := by decide +kernel
theorem dX12_pays_62 : decode cX12_pays 62 = .ok (.bipush 100, 2) := by decide +kernel
theorem dX12_pays_64 : decode cX12_pays 64 = .ok (.iload_n 3, 1) := by decide +kernel
theorem dX12_pays_65 : decode cX12_pays 65 = .ok (.imul, 1) := by decide +kernel
theorem dX12_pays_66 : decode cX12_pays 66 = .ok (.iload 4, 2) := by decide +kernel
theorem dX12_pays_68 : decode cX12_pays 68 = .ok (.iadd, 1) := by decide +kernel
theorem dX12_pays_69 : decode cX12_pays 69 = .ok (.iaload, 1) := by decide +kernel
theorem dX12_pays_70 : decode cX12_pays 70 = .ok (.istore 7, 2) := by decide +kernel
theorem dX12_pays_72 : decode cX12_pays 72 = .ok (.iload 7, 2) := by decide +kernel
theorem dX12_pays_74 : decode cX12_pays 74 = .ok (.ldc_w 331, 3) := by decide +kernel
theorem dX12_pays_77 : decode cX12_pays 77 = .ok (.if_icmp .lt 7, 3) := by decide +kernel
theorem dX12_pays_80 : decode cX12_pays 80 = .ok (.iconst (-1), 1) := by decide +kernel
theorem dX12_pays_81 : decode cX12_pays 81 = .ok (.goto 8, 3) := by decide +kernel
theorem dX12_pays_84 : decode cX12_pays 84 = .ok (.iload 7, 2) := by decide +kernel
theorem dX12_pays_86 : decode cX12_pays 86 = .ok (.iload 6, 2) := by decide +kernel
theorem dX12_pays_88 : decode cX12_pays 88 = .ok (.isub, 1) := by decide +kernel
theorem dX12_pays_89 : decode cX12_pays 89 = .ok (.ireturn, 1) := by decide +kernel
theorem dX12_tens_0 : decode cX12_tens 0 = .ok (.lconst 1, 1) := by decide +kernel
theorem dX12_tens_1 : decode cX12_tens 1 = .ok (.lstore_n 1, 1) := by decide +kernel
theorem dX12_tens_2 : decode cX12_tens 2 = .ok (.iconst 0, 1) := by decide +kernel
theorem dX12_tens_3 : decode cX12_tens 3 = .ok (.istore_n 3, 1) := by decide +kernel
theorem dX12_tens_4 : decode cX12_tens 4 = .ok (.iload_n 3, 1) := by decide +kernel
theorem dX12_tens_5 : decode cX12_tens 5 = .ok (.iload_n 0, 1) := by decide +kernel
theorem dX12_tens_6 : decode cX12_tens 6 = .ok (.if_icmp .ge 15, 3) := by decide +kernel
theorem dX12_tens_9 : decode cX12_tens 9 = .ok (.lload_n 1, 1) := by decide +kernel
theorem dX12_tens_10 : decode cX12_tens 10 = .ok (.ldc2_w 189, 3) := by decide +kernel
theorem dX12_tens_13 : decode cX12_tens 13 = .ok (.lmul, 1) := by decide +kernel
theorem dX12_tens_14 : decode cX12_tens 14 = .ok (.lstore_n 1, 1) := by decide +kernel
theorem dX12_tens_15 : decode cX12_tens 15 = .ok (.iinc 3 1, 3) := by decide +kernel
theorem dX12_tens_18 : decode cX12_tens 18 = .ok (.goto (-14), 3) := by decide +kernel
theorem dX12_tens_21 : decode cX12_tens 21 = .ok (.lload_n 1, 1) := by decide +kernel
theorem dX12_tens_22 : decode cX12_tens 22 = .ok (.lreturn, 1) := by decide +kernel
theorem dX12_common_0 : decode cX12_common 0 = .ok (.lload_n 0, 1) := by decide +kernel
theorem dX12_common_1 : decode cX12_common 1 = .ok (.lconst 0, 1) := by decide +kernel
theorem dX12_common_2 : decode cX12_common 2 = .ok (.lcmp, 1) := by decide +kernel
theorem dX12_common_3 : decode cX12_common 3 = .ok (.ifCond .ge 8, 3) := by decide +kernel
theorem dX12_common_6 : decode cX12_common 6 = .ok (.lload_n 0, 1) := by decide +kernel
theorem dX12_common_7 : decode cX12_common 7 = .ok (.lneg, 1) := by decide +kernel
theorem dX12_common_8 : decode cX12_common 8 = .ok (.goto 4, 3) := by decide +kernel
theorem dX12_common_11 : decode cX12_common 11 = .ok (.lload_n 0, 1) := by decide +kernel
theorem dX12_common_12 : decode cX12_common 12 = .ok (.lstore 4, 2) := by decide +kernel
theorem dX12_common_14 : decode cX12_common 14 = .ok (.lload_n 2, 1) := by decide +kernel
theorem dX12_common_15 : decode cX12_common 15 = .ok (.lconst 0, 1) := by decide +kernel
theorem dX12_common_16 : decode cX12_common 16 = .ok (.lcmp, 1) := by decide +kernel
theorem dX12_common_17 : decode cX12_common 17 = .ok (.ifCond .ge 8, 3) := by decide +kernel
theorem dX12_common_20 : decode cX12_common 20 = .ok (.lload_n 2, 1) := by decide +kernel
theorem dX12_common_21 : decode cX12_common 21 = .ok (.lneg, 1) := by decide +kernel
theorem dX12_common_22 : decode cX12_common 22 = .ok (.goto 4, 3) := by decide +kernel
theorem dX12_common_25 : decode cX12_common 25 = .ok (.lload_n 2, 1) := by decide +kernel
theorem dX12_common_26 : decode cX12_common 26 = .ok (.lstore 6, 2) := by decide +kernel
theorem dX12_common_28 : decode cX12_common 28 = .ok (.lload 6, 2) := by decide +kernel
theorem dX12_common_30 : decode cX12_common 30 = .ok (.lconst 0, 1) := by decide +kernel
theorem dX12_common_31 : decode cX12_common 31 = .ok (.lcmp, 1) := by decide +kernel
theorem dX12_common_32 : decode cX12_common 32 = .ok (.ifCond .eq 21, 3) := by decide +kernel
theorem dX12_common_35 : decode cX12_common 35 = .ok (.lload 4, 2) := by decide +kernel
theorem dX12_common_37 : decode cX12_common 37 = .ok (.lload 6, 2) := by decide +kernel
theorem dX12_common_39 : decode cX12_common 39 = .ok (.lrem, 1) := by decide +kernel
theorem dX12_common_40 : decode cX12_common 40 = .ok (.lstore 8, 2) := by decide +kernel
theorem dX12_common_42 : decode cX12_common 42 = .ok (.lload 6, 2) := by decide +kernel
theorem dX12_common_44 : decode cX12_common 44 = .ok (.lstore 4, 2) := by decide +kernel
theorem dX12_common_46 : decode cX12_common 46 = .ok (.lload 8, 2) := by decide +kernel
theorem dX12_common_48 : decode cX12_common 48 = .ok (.lstore 6, 2) := by decide +kernel
theorem dX12_common_50 : decode cX12_common 50 = .ok (.goto (-22), 3) := by decide +kernel
theorem dX12_common_53 : decode cX12_common 53 = .ok (.lload 4, 2) := by decide +kernel
theorem dX12_common_55 : decode cX12_common 55 = .ok (.lreturn, 1) := by decide +kernel
theorem dX12_likelyBy_0 : decode cX12_likelyBy 0 = .ok (.ldc2_w 384, 3) := by decide +kernel
theorem dX12_likelyBy_3 : decode cX12_likelyBy 3 = .ok (.lstore 8, 2) := by decide +kernel
theorem dX12_likelyBy_5 : decode cX12_likelyBy 5 = .ok (.iconst 0, 1) := by decide +kernel
theorem dX12_likelyBy_6 : decode cX12_likelyBy 6 = .ok (.istore 10, 2) := by decide +kernel
theorem dX12_likelyBy_8 : decode cX12_likelyBy 8 = .ok (.iload 10, 2) := by decide +kernel
theorem dX12_likelyBy_10 : decode cX12_likelyBy 10 = .ok (.iconst 5, 1) := by decide +kernel
theorem dX12_likelyBy_11 : decode cX12_likelyBy 11 = .ok (.if_icmp .ge 206, 3) := by decide +kernel
theorem dX12_likelyBy_14 : decode cX12_likelyBy 14 = .ok (.aload_n 0, 1) := by decide +kernel
theorem dX12_likelyBy_15 : decode cX12_likelyBy 15 = .ok (.iload_n 1, 1) := by decide +kernel
theorem dX12_likelyBy_16 : decode cX12_likelyBy 16 = .ok (.iload_n 2, 1) := by decide +kernel
theorem dX12_likelyBy_17 : decode cX12_likelyBy 17 = .ok (.iload 10, 2) := by decide +kernel
theorem dX12_likelyBy_19 : decode cX12_likelyBy 19 = .ok (.iload 6, 2) := by decide +kernel
theorem dX12_likelyBy_21 : decode cX12_likelyBy 21 = .ok (.invokevirtual 332, 3) := by decide +kernel
theorem dX12_likelyBy_24 : decode cX12_likelyBy 24 = .ok (.istore 11, 2) := by decide +kernel
theorem dX12_likelyBy_26 : decode cX12_likelyBy 26 = .ok (.iload 11, 2) := by decide +kernel
theorem dX12_likelyBy_28 : decode cX12_likelyBy 28 = .ok (.ifCond .lt 183, 3) := by decide +kernel
theorem dX12_likelyBy_31 : decode cX12_likelyBy 31 = .ok (.iload 11, 2) := by decide +kernel
theorem dX12_likelyBy_33 : decode cX12_likelyBy 33 = .ok (.bipush 100, 2) := by decide +kernel
theorem dX12_likelyBy_35 : decode cX12_likelyBy 35 = .ok (.idiv, 1) := by decide +kernel
theorem dX12_likelyBy_36 : decode cX12_likelyBy 36 = .ok (.iload 4, 2) := by decide +kernel
theorem dX12_likelyBy_38 : decode cX12_likelyBy 38 = .ok (.if_icmp .gt 173, 3) := by decide +kernel
theorem dX12_likelyBy_41 : decode cX12_likelyBy 41 = .ok (.aload_n 0, 1) := by decide +kernel
theorem dX12_likelyBy_42 : decode cX12_likelyBy 42 = .ok (.getfield 140, 3) := by decide +kernel
theorem dX12_likelyBy_45 : decode cX12_likelyBy 45 = .ok (.bipush 100, 2) := by decide +kernel
theorem dX12_likelyBy_47 : decode cX12_likelyBy 47 = .ok (.iload 11, 2) := by decide +kernel
theorem dX12_likelyBy_49 : decode cX12_likelyBy 49 = .ok (.bipush 100, 2) := by decide +kernel
theorem dX12_likelyBy_51 : decode cX12_likelyBy 51 = .ok (.idiv, 1) := by decide +kernel
theorem dX12_likelyBy_52 : decode cX12_likelyBy 52 = .ok (.iload_n 3, 1) := by decide +kernel
theorem dX12_likelyBy_53 : decode cX12_likelyBy 53 = .ok (.isub, 1) := by decide +kernel
theorem dX12_likelyBy_54 : decode cX12_likelyBy 54 = .ok (.imul, 1) := by decide +kernel
theorem dX12_likelyBy_55 : decode cX12_likelyBy 55 = .ok (.iload 11, 2) := by decide +kernel
theorem dX12_likelyBy_57 : decode cX12_likelyBy 57 = .ok (.bipush 100, 2) := by decide +kernel
theorem dX12_likelyBy_59 : decode cX12_likelyBy 59 = .ok (.irem, 1) := by decide +kernel
theorem dX12_likelyBy_60 : decode cX12_likelyBy 60 = .ok (.iadd, 1) := by decide +kernel
theorem dX12_likelyBy_61 : decode cX12_likelyBy 61 = .ok (.laload, 1) := by decide +kernel
theorem dX12_likelyBy_62 : decode cX12_likelyBy 62 = .ok (.ldc2_w 384, 3) := by decide +kernel
theorem dX12_likelyBy_65 : decode cX12_likelyBy 65 = .ok (.lcmp, 1) := by decide +kernel
theorem dX12_likelyBy_66 : decode cX12_likelyBy 66 = .ok (.ifCond .ge 145, 3) := by decide +kernel
theorem dX12_likelyBy_69 : decode cX12_likelyBy 69 = .ok (.iload 4, 2) := by decide +kernel
theorem dX12_likelyBy_71 : decode cX12_likelyBy 71 = .ok (.iload_n 1, 1) := by decide +kernel
theorem dX12_likelyBy_72 : decode cX12_likelyBy 72 = .ok (.isub, 1) := by decide +kernel
theorem dX12_likelyBy_73 : decode cX12_likelyBy 73 = .ok (.iconst 1, 1) := by decide +kernel
theorem dX12_likelyBy_74 : decode cX12_likelyBy 74 = .ok (.isub, 1) := by decide +kernel
theorem dX12_likelyBy_75 : decode cX12_likelyBy 75 = .ok (.istore 12, 2) := by decide +kernel
theorem dX12_likelyBy_77 : decode cX12_likelyBy 77 = .ok (.iload 7, 2) := by decide +kernel
theorem dX12_likelyBy_79 : decode cX12_likelyBy 79 = .ok (.aload_n 0, 1) := by decide +kernel
theorem dX12_likelyBy_80 : decode cX12_likelyBy 80 = .ok (.getfield 112, 3) := by decide +kernel
theorem dX12_likelyBy_83 : decode cX12_likelyBy 83 = .ok (.bipush 100, 2) := by decide +kernel
theorem dX12_likelyBy_85 : decode cX12_likelyBy 85 = .ok (.iload_n 1, 1) := by decide +kernel
theorem dX12_likelyBy_86 : decode cX12_likelyBy 86 = .ok (.imul, 1) := by decide +kernel
theorem dX12_likelyBy_87 : decode cX12_likelyBy 87 = .ok (.iload_n 2, 1) := by decide +kernel
theorem dX12_likelyBy_88 : decode cX12_likelyBy 88 = .ok (.iadd, 1) := by decide +kernel
theorem dX12_likelyBy_89 : decode cX12_likelyBy 89 = .ok (.iaload, 1) := by decide +kernel
theorem dX12_likelyBy_90 : decode cX12_likelyBy 90 = .ok (.imul, 1) := by decide +kernel
theorem dX12_likelyBy_91 : decode cX12_likelyBy 91 = .ok (.i2l, 1) := by decide +kernel
theorem dX12_likelyBy_92 : decode cX12_likelyBy 92 = .ok (.iload 12, 2) := by decide +kernel
theorem dX12_likelyBy_94 : decode cX12_likelyBy 94 = .ok (.invokestatic 386, 3) := by decide +kernel
theorem dX12_likelyBy_97 : decode cX12_likelyBy 97 = .ok (.lmul, 1) := by decide +kernel
theorem dX12_likelyBy_98 : decode cX12_likelyBy 98 = .ok (.lstore 13, 2) := by decide +kernel
theorem dX12_likelyBy_100 : decode cX12_likelyBy 100 = .ok (.iload_n 1, 1) := by decide +kernel
theorem dX12_likelyBy_101 : decode cX12_likelyBy 101 = .ok (.iconst 1, 1) := by decide +kernel
theorem dX12_likelyBy_102 : decode cX12_likelyBy 102 = .ok (.iadd, 1) := by decide +kernel
theorem dX12_likelyBy_103 : decode cX12_likelyBy 103 = .ok (.istore 15, 2) := by decide +kernel
theorem dX12_likelyBy_105 : decode cX12_likelyBy 105 = .ok (.iload 15, 2) := by decide +kernel
theorem dX12_likelyBy_107 : decode cX12_likelyBy 107 = .ok (.iload 11, 2) := by decide +kernel
theorem dX12_likelyBy_109 : decode cX12_likelyBy 109 = .ok (.bipush 100, 2) := by decide +kernel
theorem dX12_likelyBy_111 : decode cX12_likelyBy 111 = .ok (.idiv, 1) := by decide +kernel
theorem dX12_likelyBy_112 : decode cX12_likelyBy 112 = .ok (.if_icmp .ge 43, 3) := by decide +kernel
theorem dX12_likelyBy_115 : decode cX12_likelyBy 115 = .ok (.lload 13, 2) := by decide +kernel
theorem dX12_likelyBy_117 : decode cX12_likelyBy 117 = .ok (.aload_n 0, 1) := by decide +kernel
theorem dX12_likelyBy_118 : decode cX12_likelyBy 118 = .ok (.getfield 112, 3) := by decide +kernel
theorem dX12_likelyBy_121 : decode cX12_likelyBy 121 = .ok (.bipush 100, 2) := by decide +kernel
theorem dX12_likelyBy_123 : decode cX12_likelyBy 123 = .ok (.iload 15, 2) := by decide +kernel
theorem dX12_likelyBy_125 : decode cX12_likelyBy 125 = .ok (.imul, 1) := by decide +kernel
theorem dX12_likelyBy_126 : decode cX12_likelyBy 126 = .ok (.iload_n 2, 1) := by decide +kernel
theorem dX12_likelyBy_127 : decode cX12_likelyBy 127 = .ok (.iadd, 1) := by decide +kernel
theorem dX12_likelyBy_128 : decode cX12_likelyBy 128 = .ok (.iaload, 1) := by decide +kernel
theorem dX12_likelyBy_129 : decode cX12_likelyBy 129 = .ok (.i2l, 1) := by decide +kernel
theorem dX12_likelyBy_130 : decode cX12_likelyBy 130 = .ok (.ldc2_w 189, 3) := by decide +kernel
theorem dX12_likelyBy_133 : decode cX12_likelyBy 133 = .ok (.iload 5, 2) := by decide +kernel
theorem dX12_likelyBy_135 : decode cX12_likelyBy 135 = .ok (.i2l, 1) := by decide +kernel
theorem dX12_likelyBy_136 : decode cX12_likelyBy 136 = .ok (.lsub, 1) := by decide +kernel
theorem dX12_likelyBy_137 : decode cX12_likelyBy 137 = .ok (.lmul, 1) := by decide +kernel
theorem dX12_likelyBy_138 : decode cX12_likelyBy 138 = .ok (.iload 12, 2) := by decide +kernel
theorem dX12_likelyBy_140 : decode cX12_likelyBy 140 = .ok (.iconst 1, 1) := by decide +kernel
theorem dX12_likelyBy_141 : decode cX12_likelyBy 141 = .ok (.isub, 1) := by decide +kernel
theorem dX12_likelyBy_142 : decode cX12_likelyBy 142 = .ok (.invokestatic 386, 3) := by decide +kernel
theorem dX12_likelyBy_145 : decode cX12_likelyBy 145 = .ok (.lmul, 1) := by decide +kernel
theorem dX12_likelyBy_146 : decode cX12_likelyBy 146 = .ok (.ladd, 1) := by decide +kernel
theorem dX12_likelyBy_147 : decode cX12_likelyBy 147 = .ok (.lstore 13, 2) := by decide +kernel
theorem dX12_likelyBy_149 : decode cX12_likelyBy 149 = .ok (.iinc 15 1, 3) := by decide +kernel
theorem dX12_likelyBy_152 : decode cX12_likelyBy 152 = .ok (.goto (-47), 3) := by decide +kernel
theorem dX12_likelyBy_155 : decode cX12_likelyBy 155 = .ok (.lload 13, 2) := by decide +kernel
theorem dX12_likelyBy_157 : decode cX12_likelyBy 157 = .ok (.aload_n 0, 1) := by decide +kernel
theorem dX12_likelyBy_158 : decode cX12_likelyBy 158 = .ok (.getfield 140, 3) := by decide +kernel
theorem dX12_likelyBy_161 : decode cX12_likelyBy 161 = .ok (.bipush 100, 2) := by decide +kernel
theorem dX12_likelyBy_163 : decode cX12_likelyBy 163 = .ok (.iload 11, 2) := by decide +kernel
theorem dX12_likelyBy_165 : decode cX12_likelyBy 165 = .ok (.bipush 100, 2) := by decide +kernel
theorem dX12_likelyBy_167 : decode cX12_likelyBy 167 = .ok (.idiv, 1) := by decide +kernel
theorem dX12_likelyBy_168 : decode cX12_likelyBy 168 = .ok (.iload_n 3, 1) := by decide +kernel
theorem dX12_likelyBy_169 : decode cX12_likelyBy 169 = .ok (.isub, 1) := by decide +kernel
theorem dX12_likelyBy_170 : decode cX12_likelyBy 170 = .ok (.imul, 1) := by decide +kernel
theorem dX12_likelyBy_171 : decode cX12_likelyBy 171 = .ok (.iload 11, 2) := by decide +kernel
theorem dX12_likelyBy_173 : decode cX12_likelyBy 173 = .ok (.bipush 100, 2) := by decide +kernel
theorem dX12_likelyBy_175 : decode cX12_likelyBy 175 = .ok (.irem, 1) := by decide +kernel
theorem dX12_likelyBy_176 : decode cX12_likelyBy 176 = .ok (.iadd, 1) := by decide +kernel
theorem dX12_likelyBy_177 : decode cX12_likelyBy 177 = .ok (.laload, 1) := by decide +kernel
theorem dX12_likelyBy_178 : decode cX12_likelyBy 178 = .ok (.iload 11, 2) := by decide +kernel
theorem dX12_likelyBy_180 : decode cX12_likelyBy 180 = .ok (.bipush 100, 2) := by decide +kernel
theorem dX12_likelyBy_182 : decode cX12_likelyBy 182 = .ok (.idiv, 1) := by decide +kernel
theorem dX12_likelyBy_183 : decode cX12_likelyBy 183 = .ok (.iload_n 1, 1) := by decide +kernel
theorem dX12_likelyBy_184 : decode cX12_likelyBy 184 = .ok (.isub, 1) := by decide +kernel
theorem dX12_likelyBy_185 : decode cX12_likelyBy 185 = .ok (.iconst 1, 1) := by decide +kernel
theorem dX12_likelyBy_186 : decode cX12_likelyBy 186 = .ok (.isub, 1) := by decide +kernel
theorem dX12_likelyBy_187 : decode cX12_likelyBy 187 = .ok (.invokestatic 386, 3) := by decide +kernel
theorem dX12_likelyBy_190 : decode cX12_likelyBy 190 = .ok (.lmul, 1) := by decide +kernel
theorem dX12_likelyBy_191 : decode cX12_likelyBy 191 = .ok (.ladd, 1) := by decide +kernel
theorem dX12_likelyBy_192 : decode cX12_likelyBy 192 = .ok (.lstore 13, 2) := by decide +kernel
theorem dX12_likelyBy_194 : decode cX12_likelyBy 194 = .ok (.lload 13, 2) := by decide +kernel
theorem dX12_likelyBy_196 : decode cX12_likelyBy 196 = .ok (.lload 8, 2) := by decide +kernel
theorem dX12_likelyBy_198 : decode cX12_likelyBy 198 = .ok (.lcmp, 1) := by decide +kernel
theorem dX12_likelyBy_199 : decode cX12_likelyBy 199 = .ok (.ifCond .ge 8, 3) := by decide +kernel
theorem dX12_likelyBy_202 : decode cX12_likelyBy 202 = .ok (.lload 13, 2) := by decide +kernel
theorem dX12_likelyBy_204 : decode cX12_likelyBy 204 = .ok (.goto 5, 3) := by decide +kernel
theorem dX12_likelyBy_207 : decode cX12_likelyBy 207 = .ok (.lload 8, 2) := by decide +kernel
theorem dX12_likelyBy_209 : decode cX12_likelyBy 209 = .ok (.lstore 8, 2) := by decide +kernel
theorem dX12_likelyBy_211 : decode cX12_likelyBy 211 = .ok (.iinc 10 1, 3) := by decide +kernel
theorem dX12_likelyBy_214 : decode cX12_likelyBy 214 = .ok (.goto (-206), 3) := by decide +kernel
theorem dX12_likelyBy_217 : decode cX12_likelyBy 217 = .ok (.lload 8, 2) := by decide +kernel
theorem dX12_likelyBy_219 : decode cX12_likelyBy 219 = .ok (.lreturn, 1) := by decide +kernel
theorem dX12_guessed_0 : decode cX12_guessed 0 = .ok (.aload_n 0, 1) := by decide +kernel
theorem dX12_guessed_1 : decode cX12_guessed 1 = .ok (.iload_n 1, 1) := by decide +kernel
theorem dX12_guessed_2 : decode cX12_guessed 2 = .ok (.iload_n 2, 1) := by decide +kernel
theorem dX12_guessed_3 : decode cX12_guessed 3 = .ok (.iload_n 3, 1) := by decide +kernel
theorem dX12_guessed_4 : decode cX12_guessed 4 = .ok (.iload 4, 2) := by decide +kernel
theorem dX12_guessed_6 : decode cX12_guessed 6 = .ok (.iload 5, 2) := by decide +kernel
theorem dX12_guessed_8 : decode cX12_guessed 8 = .ok (.invokevirtual 355, 3) := by decide +kernel
theorem dX12_guessed_11 : decode cX12_guessed 11 = .ok (.ifCond .eq 39, 3) := by decide +kernel
theorem dX12_guessed_14 : decode cX12_guessed 14 = .ok (.iload 6, 2) := by decide +kernel
theorem dX12_guessed_16 : decode cX12_guessed 16 = .ok (.iconst 0, 1) := by decide +kernel
theorem dX12_guessed_17 : decode cX12_guessed 17 = .ok (.bipush 10, 2) := by decide +kernel
theorem dX12_guessed_19 : decode cX12_guessed 19 = .ok (.invokestatic 289, 3) := by decide +kernel
theorem dX12_guessed_22 : decode cX12_guessed 22 = .ok (.ifCond .eq 28, 3) := by decide +kernel
theorem dX12_guessed_25 : decode cX12_guessed 25 = .ok (.iload 7, 2) := by decide +kernel
theorem dX12_guessed_27 : decode cX12_guessed 27 = .ok (.iconst 1, 1) := by decide +kernel
theorem dX12_guessed_28 : decode cX12_guessed 28 = .ok (.bipush 12, 2) := by decide +kernel
theorem dX12_guessed_30 : decode cX12_guessed 30 = .ok (.invokestatic 289, 3) := by decide +kernel
theorem dX12_guessed_33 : decode cX12_guessed 33 = .ok (.ifCond .eq 17, 3) := by decide +kernel
theorem dX12_guessed_36 : decode cX12_guessed 36 = .ok (.iload 8, 2) := by decide +kernel
theorem dX12_guessed_38 : decode cX12_guessed 38 = .ok (.iconst 0, 1) := by decide +kernel
theorem dX12_guessed_39 : decode cX12_guessed 39 = .ok (.iconst 1, 1) := by decide +kernel
theorem dX12_guessed_40 : decode cX12_guessed 40 = .ok (.invokestatic 289, 3) := by decide +kernel
theorem dX12_guessed_43 : decode cX12_guessed 43 = .ok (.ifCond .eq 7, 3) := by decide +kernel
theorem dX12_guessed_46 : decode cX12_guessed 46 = .ok (.iconst 1, 1) := by decide +kernel
theorem dX12_guessed_47 : decode cX12_guessed 47 = .ok (.goto 4, 3) := by decide +kernel
theorem dX12_guessed_50 : decode cX12_guessed 50 = .ok (.iconst 0, 1) := by decide +kernel
theorem dX12_guessed_51 : decode cX12_guessed 51 = .ok (.istore 9, 2) := by decide +kernel
theorem dX12_guessed_53 : decode cX12_guessed 53 = .ok (.aload_n 0, 1) := by decide +kernel
theorem dX12_guessed_54 : decode cX12_guessed 54 = .ok (.iload 9, 2) := by decide +kernel
theorem dX12_guessed_56 : decode cX12_guessed 56 = .ok (.ifCond .eq 7, 3) := by decide +kernel
theorem dX12_guessed_59 : decode cX12_guessed 59 = .ok (.iconst 0, 1) := by decide +kernel
theorem dX12_guessed_60 : decode cX12_guessed 60 = .ok (.goto 4, 3) := by decide +kernel
theorem dX12_guessed_63 : decode cX12_guessed 63 = .ok (.iconst 1, 1) := by decide +kernel
theorem dX12_guessed_64 : decode cX12_guessed 64 = .ok (.putfield 1, 3) := by decide +kernel
theorem dX12_guessed_67 : decode cX12_guessed 67 = .ok (.aload_n 0, 1) := by decide +kernel
theorem dX12_guessed_68 : decode cX12_guessed 68 = .ok (.getfield 1, 3) := by decide +kernel
theorem dX12_guessed_71 : decode cX12_guessed 71 = .ok (.ifCond .le 5, 3) := by decide +kernel
theorem dX12_guessed_74 : decode cX12_guessed 74 = .ok (.lconst 0, 1) := by decide +kernel
theorem dX12_guessed_75 : decode cX12_guessed 75 = .ok (.lreturn, 1) := by decide +kernel
theorem dX12_guessed_76 : decode cX12_guessed 76 = .ok (.aload_n 0, 1) := by decide +kernel
theorem dX12_guessed_77 : decode cX12_guessed 77 = .ok (.iload_n 2, 1) := by decide +kernel
theorem dX12_guessed_78 : decode cX12_guessed 78 = .ok (.invokevirtual 339, 3) := by decide +kernel
theorem dX12_guessed_81 : decode cX12_guessed 81 = .ok (.iload_n 3, 1) := by decide +kernel
theorem dX12_guessed_82 : decode cX12_guessed 82 = .ok (.iload 7, 2) := by decide +kernel
theorem dX12_guessed_84 : decode cX12_guessed 84 = .ok (.iadd, 1) := by decide +kernel
theorem dX12_guessed_85 : decode cX12_guessed 85 = .ok (.bipush 119, 2) := by decide +kernel
theorem dX12_guessed_87 : decode cX12_guessed 87 = .ok (.if_icmp .le 8, 3) := by decide +kernel
theorem dX12_guessed_90 : decode cX12_guessed 90 = .ok (.bipush 119, 2) := by decide +kernel
theorem dX12_guessed_92 : decode cX12_guessed 92 = .ok (.goto 7, 3) := by decide +kernel
theorem dX12_guessed_95 : decode cX12_guessed 95 = .ok (.iload_n 3, 1) := by decide +kernel
theorem dX12_guessed_96 : decode cX12_guessed 96 = .ok (.iload 7, 2) := by decide +kernel
theorem dX12_guessed_98 : decode cX12_guessed 98 = .ok (.iadd, 1) := by decide +kernel
theorem dX12_guessed_99 : decode cX12_guessed 99 = .ok (.istore 10, 2) := by decide +kernel
theorem dX12_guessed_101 : decode cX12_guessed 101 = .ok (.iload 10, 2) := by decide +kernel
theorem dX12_guessed_103 : decode cX12_guessed 103 = .ok (.istore 11, 2) := by decide +kernel
theorem dX12_guessed_105 : decode cX12_guessed 105 = .ok (.iload 11, 2) := by decide +kernel
theorem dX12_guessed_107 : decode cX12_guessed 107 = .ok (.iload_n 3, 1) := by decide +kernel
theorem dX12_guessed_108 : decode cX12_guessed 108 = .ok (.if_icmp .lt 166, 3) := by decide +kernel
theorem dX12_guessed_111 : decode cX12_guessed 111 = .ok (.iconst 0, 1) := by decide +kernel
theorem dX12_guessed_112 : decode cX12_guessed 112 = .ok (.istore 12, 2) := by decide +kernel
theorem dX12_guessed_114 : decode cX12_guessed 114 = .ok (.iload 12, 2) := by decide +kernel
theorem dX12_guessed_116 : decode cX12_guessed 116 = .ok (.bipush 100, 2) := by decide +kernel
theorem dX12_guessed_118 : decode cX12_guessed 118 = .ok (.if_icmp .ge 150, 3) := by decide +kernel
theorem dX12_guessed_121 : decode cX12_guessed 121 = .ok (.bipush 100, 2) := by decide +kernel
theorem dX12_guessed_123 : decode cX12_guessed 123 = .ok (.iload 11, 2) := by decide +kernel
theorem dX12_guessed_125 : decode cX12_guessed 125 = .ok (.iload_n 3, 1) := by decide +kernel
theorem dX12_guessed_126 : decode cX12_guessed 126 = .ok (.isub, 1) := by decide +kernel
theorem dX12_guessed_127 : decode cX12_guessed 127 = .ok (.imul, 1) := by decide +kernel
theorem dX12_guessed_128 : decode cX12_guessed 128 = .ok (.iload 12, 2) := by decide +kernel
theorem dX12_guessed_130 : decode cX12_guessed 130 = .ok (.iadd, 1) := by decide +kernel
theorem dX12_guessed_131 : decode cX12_guessed 131 = .ok (.istore 13, 2) := by decide +kernel
theorem dX12_guessed_133 : decode cX12_guessed 133 = .ok (.aload_n 0, 1) := by decide +kernel
theorem dX12_guessed_134 : decode cX12_guessed 134 = .ok (.getfield 140, 3) := by decide +kernel
theorem dX12_guessed_137 : decode cX12_guessed 137 = .ok (.iload 13, 2) := by decide +kernel
theorem dX12_guessed_139 : decode cX12_guessed 139 = .ok (.iload 12, 2) := by decide +kernel
theorem dX12_guessed_141 : decode cX12_guessed 141 = .ok (.iload 5, 2) := by decide +kernel
theorem dX12_guessed_143 : decode cX12_guessed 143 = .ok (.if_icmp .ne 7, 3) := by decide +kernel
theorem dX12_guessed_146 : decode cX12_guessed 146 = .ok (.lconst 0, 1) := by decide +kernel
theorem dX12_guessed_147 : decode cX12_guessed 147 = .ok (.goto 6, 3) := by decide +kernel
theorem dX12_guessed_150 : decode cX12_guessed 150 = .ok (.ldc2_w 384, 3) := by decide +kernel
theorem dX12_guessed_153 : decode cX12_guessed 153 = .ok (.lastore, 1) := by decide +kernel
theorem dX12_guessed_154 : decode cX12_guessed 154 = .ok (.iload 12, 2) := by decide +kernel
theorem dX12_guessed_156 : decode cX12_guessed 156 = .ok (.iload 5, 2) := by decide +kernel
theorem dX12_guessed_158 : decode cX12_guessed 158 = .ok (.if_icmp .eq 104, 3) := by decide +kernel
theorem dX12_guessed_161 : decode cX12_guessed 161 = .ok (.iload 11, 2) := by decide +kernel
theorem dX12_guessed_163 : decode cX12_guessed 163 = .ok (.iload 10, 2) := by decide +kernel
theorem dX12_guessed_165 : decode cX12_guessed 165 = .ok (.if_icmp .ge 97, 3) := by decide +kernel
theorem dX12_guessed_168 : decode cX12_guessed 168 = .ok (.aload_n 0, 1) := by decide +kernel
theorem dX12_guessed_169 : decode cX12_guessed 169 = .ok (.getfield 97, 3) := by decide +kernel
theorem dX12_guessed_172 : decode cX12_guessed 172 = .ok (.iload 12, 2) := by decide +kernel
theorem dX12_guessed_174 : decode cX12_guessed 174 = .ok (.iaload, 1) := by decide +kernel
theorem dX12_guessed_175 : decode cX12_guessed 175 = .ok (.iconst 1, 1) := by decide +kernel
theorem dX12_guessed_176 : decode cX12_guessed 176 = .ok (.if_icmp .eq 86, 3) := by decide +kernel
theorem dX12_guessed_179 : decode cX12_guessed 179 = .ok (.aload_n 0, 1) := by decide +kernel
theorem dX12_guessed_180 : decode cX12_guessed 180 = .ok (.iload 11, 2) := by decide +kernel
theorem dX12_guessed_182 : decode cX12_guessed 182 = .ok (.iload 12, 2) := by decide +kernel
theorem dX12_guessed_184 : decode cX12_guessed 184 = .ok (.iload_n 3, 1) := by decide +kernel
theorem dX12_guessed_185 : decode cX12_guessed 185 = .ok (.iload 10, 2) := by decide +kernel
theorem dX12_guessed_187 : decode cX12_guessed 187 = .ok (.iload 6, 2) := by decide +kernel
theorem dX12_guessed_189 : decode cX12_guessed 189 = .ok (.aload_n 0, 1) := by decide +kernel
theorem dX12_guessed_190 : decode cX12_guessed 190 = .ok (.iload_n 1, 1) := by decide +kernel
theorem dX12_guessed_191 : decode cX12_guessed 191 = .ok (.iconst 0, 1) := by decide +kernel
theorem dX12_guessed_192 : decode cX12_guessed 192 = .ok (.invokevirtual 345, 3) := by decide +kernel
theorem dX12_guessed_195 : decode cX12_guessed 195 = .ok (.iconst 1, 1) := by decide +kernel
theorem dX12_guessed_196 : decode cX12_guessed 196 = .ok (.invokevirtual 390, 3) := by decide +kernel
theorem dX12_guessed_199 : decode cX12_guessed 199 = .ok (.lstore 14, 2) := by decide +kernel
theorem dX12_guessed_201 : decode cX12_guessed 201 = .ok (.aload_n 0, 1) := by decide +kernel
theorem dX12_guessed_202 : decode cX12_guessed 202 = .ok (.iload 11, 2) := by decide +kernel
theorem dX12_guessed_204 : decode cX12_guessed 204 = .ok (.iload 12, 2) := by decide +kernel
theorem dX12_guessed_206 : decode cX12_guessed 206 = .ok (.iload_n 3, 1) := by decide +kernel
theorem dX12_guessed_207 : decode cX12_guessed 207 = .ok (.iload 10, 2) := by decide +kernel
theorem dX12_guessed_209 : decode cX12_guessed 209 = .ok (.iload 6, 2) := by decide +kernel
theorem dX12_guessed_211 : decode cX12_guessed 211 = .ok (.aload_n 0, 1) := by decide +kernel
theorem dX12_guessed_212 : decode cX12_guessed 212 = .ok (.iload_n 1, 1) := by decide +kernel
theorem dX12_guessed_213 : decode cX12_guessed 213 = .ok (.iconst 0, 1) := by decide +kernel
theorem dX12_guessed_214 : decode cX12_guessed 214 = .ok (.invokevirtual 345, 3) := by decide +kernel
theorem dX12_guessed_217 : decode cX12_guessed 217 = .ok (.iconst 0, 1) := by decide +kernel
theorem dX12_guessed_218 : decode cX12_guessed 218 = .ok (.invokevirtual 390, 3) := by decide +kernel
theorem dX12_guessed_221 : decode cX12_guessed 221 = .ok (.lstore 16, 2) := by decide +kernel
theorem dX12_guessed_223 : decode cX12_guessed 223 = .ok (.aload_n 0, 1) := by decide +kernel
theorem dX12_guessed_224 : decode cX12_guessed 224 = .ok (.getfield 140, 3) := by decide +kernel
theorem dX12_guessed_227 : decode cX12_guessed 227 = .ok (.iload 13, 2) := by decide +kernel
theorem dX12_guessed_229 : decode cX12_guessed 229 = .ok (.lload 14, 2) := by decide +kernel
theorem dX12_guessed_231 : decode cX12_guessed 231 = .ok (.ldc2_w 384, 3) := by decide +kernel
theorem dX12_guessed_234 : decode cX12_guessed 234 = .ok (.lcmp, 1) := by decide +kernel
theorem dX12_guessed_235 : decode cX12_guessed 235 = .ok (.ifCond .lt 9, 3) := by decide +kernel
theorem dX12_guessed_238 : decode cX12_guessed 238 = .ok (.ldc2_w 384, 3) := by decide +kernel
theorem dX12_guessed_241 : decode cX12_guessed 241 = .ok (.goto 20, 3) := by decide +kernel
theorem dX12_guessed_244 : decode cX12_guessed 244 = .ok (.iload 6, 2) := by decide +kernel
theorem dX12_guessed_246 : decode cX12_guessed 246 = .ok (.i2l, 1) := by decide +kernel
theorem dX12_guessed_247 : decode cX12_guessed 247 = .ok (.lload 16, 2) := by decide +kernel
theorem dX12_guessed_249 : decode cX12_guessed 249 = .ok (.lmul, 1) := by decide +kernel
theorem dX12_guessed_250 : decode cX12_guessed 250 = .ok (.ldc2_w 189, 3) := by decide +kernel
theorem dX12_guessed_253 : decode cX12_guessed 253 = .ok (.iload 6, 2) := by decide +kernel
theorem dX12_guessed_255 : decode cX12_guessed 255 = .ok (.i2l, 1) := by decide +kernel
theorem dX12_guessed_256 : decode cX12_guessed 256 = .ok (.lsub, 1) := by decide +kernel
theorem dX12_guessed_257 : decode cX12_guessed 257 = .ok (.lload 14, 2) := by decide +kernel
theorem dX12_guessed_259 : decode cX12_guessed 259 = .ok (.lmul, 1) := by decide +kernel
theorem dX12_guessed_260 : decode cX12_guessed 260 = .ok (.ladd, 1) := by decide +kernel
theorem dX12_guessed_261 : decode cX12_guessed 261 = .ok (.lastore, 1) := by decide +kernel
theorem dX12_guessed_262 : decode cX12_guessed 262 = .ok (.iinc 12 1, 3) := by decide +kernel
theorem dX12_guessed_265 : decode cX12_guessed 265 = .ok (.goto (-151), 3) := by decide +kernel
theorem dX12_guessed_268 : decode cX12_guessed 268 = .ok (.iinc 11 (-1), 3) := by decide +kernel
theorem dX12_guessed_271 : decode cX12_guessed 271 = .ok (.goto (-166), 3) := by decide +kernel
theorem dX12_guessed_274 : decode cX12_guessed 274 = .ok (.aload_n 0, 1) := by decide +kernel
theorem dX12_guessed_275 : decode cX12_guessed 275 = .ok (.getfield 140, 3) := by decide +kernel
theorem dX12_guessed_278 : decode cX12_guessed 278 = .ok (.iload 4, 2) := by decide +kernel
theorem dX12_guessed_280 : decode cX12_guessed 280 = .ok (.laload, 1) := by decide +kernel
theorem dX12_guessed_281 : decode cX12_guessed 281 = .ok (.lstore 11, 2) := by decide +kernel
theorem dX12_guessed_283 : decode cX12_guessed 283 = .ok (.aload_n 0, 1) := by decide +kernel
theorem dX12_guessed_284 : decode cX12_guessed 284 = .ok (.lload 11, 2) := by decide +kernel
theorem dX12_guessed_286 : decode cX12_guessed 286 = .ok (.ldc2_w 384, 3) := by decide +kernel
theorem dX12_guessed_289 : decode cX12_guessed 289 = .ok (.lcmp, 1) := by decide +kernel
theorem dX12_guessed_290 : decode cX12_guessed 290 = .ok (.ifCond .ge 7, 3) := by decide +kernel
theorem dX12_guessed_293 : decode cX12_guessed 293 = .ok (.iconst 0, 1) := by decide +kernel
theorem dX12_guessed_294 : decode cX12_guessed 294 = .ok (.goto 4, 3) := by decide +kernel
theorem dX12_guessed_297 : decode cX12_guessed 297 = .ok (.iconst 1, 1) := by decide +kernel
theorem dX12_guessed_298 : decode cX12_guessed 298 = .ok (.putfield 1, 3) := by decide +kernel
theorem dX12_guessed_301 : decode cX12_guessed 301 = .ok (.aload_n 0, 1) := by decide +kernel
theorem dX12_guessed_302 : decode cX12_guessed 302 = .ok (.getfield 1, 3) := by decide +kernel
theorem dX12_guessed_305 : decode cX12_guessed 305 = .ok (.ifCond .le 5, 3) := by decide +kernel
theorem dX12_guessed_308 : decode cX12_guessed 308 = .ok (.lconst 0, 1) := by decide +kernel
theorem dX12_guessed_309 : decode cX12_guessed 309 = .ok (.lreturn, 1) := by decide +kernel
theorem dX12_guessed_310 : decode cX12_guessed 310 = .ok (.iload 10, 2) := by decide +kernel
theorem dX12_guessed_312 : decode cX12_guessed 312 = .ok (.iload_n 3, 1) := by decide +kernel
theorem dX12_guessed_313 : decode cX12_guessed 313 = .ok (.isub, 1) := by decide +kernel
theorem dX12_guessed_314 : decode cX12_guessed 314 = .ok (.invokestatic 386, 3) := by decide +kernel
theorem dX12_guessed_317 : decode cX12_guessed 317 = .ok (.lstore 13, 2) := by decide +kernel
theorem dX12_guessed_319 : decode cX12_guessed 319 = .ok (.lload 11, 2) := by decide +kernel
theorem dX12_guessed_321 : decode cX12_guessed 321 = .ok (.lload 13, 2) := by decide +kernel
theorem dX12_guessed_323 : decode cX12_guessed 323 = .ok (.invokestatic 394, 3) := by decide +kernel
theorem dX12_guessed_326 : decode cX12_guessed 326 = .ok (.lstore 15, 2) := by decide +kernel
theorem dX12_guessed_328 : decode cX12_guessed 328 = .ok (.iload 8, 2) := by decide +kernel
theorem dX12_guessed_330 : decode cX12_guessed 330 = .ok (.ifCond .ne 11, 3) := by decide +kernel
theorem dX12_guessed_333 : decode cX12_guessed 333 = .ok (.lload 11, 2) := by decide +kernel
theorem dX12_guessed_335 : decode cX12_guessed 335 = .ok (.lload 15, 2) := by decide +kernel
theorem dX12_guessed_337 : decode cX12_guessed 337 = .ok (.ldiv, 1) := by decide +kernel
theorem dX12_guessed_338 : decode cX12_guessed 338 = .ok (.goto 8, 3) := by decide +kernel
theorem dX12_guessed_341 : decode cX12_guessed 341 = .ok (.lload 13, 2) := by decide +kernel
theorem dX12_guessed_343 : decode cX12_guessed 343 = .ok (.lload 15, 2) := by decide +kernel
theorem dX12_guessed_345 : decode cX12_guessed 345 = .ok (.ldiv, 1) := by decide +kernel
theorem dX12_guessed_346 : decode cX12_guessed 346 = .ok (.lreturn, 1) := by decide +kernel
theorem dX12_costOfOne_0 : decode cX12_costOfOne 0 = .ok (.iconst 0, 1) := by decide +kernel
theorem dX12_costOfOne_1 : decode cX12_costOfOne 1 = .ok (.istore 5, 2) := by decide +kernel
theorem dX12_costOfOne_3 : decode cX12_costOfOne 3 = .ok (.iload_n 2, 1) := by decide +kernel
theorem dX12_costOfOne_4 : decode cX12_costOfOne 4 = .ok (.istore 6, 2) := by decide +kernel
theorem dX12_costOfOne_6 : decode cX12_costOfOne 6 = .ok (.iload 6, 2) := by decide +kernel
theorem dX12_costOfOne_8 : decode cX12_costOfOne 8 = .ok (.bipush 120, 2) := by decide +kernel
theorem dX12_costOfOne_10 : decode cX12_costOfOne 10 = .ok (.if_icmp .ge 96, 3) := by decide +kernel
theorem dX12_costOfOne_13 : decode cX12_costOfOne 13 = .ok (.aload_n 0, 1) := by decide +kernel
theorem dX12_costOfOne_14 : decode cX12_costOfOne 14 = .ok (.getfield 143, 3) := by decide +kernel
theorem dX12_costOfOne_17 : decode cX12_costOfOne 17 = .ok (.bipush 120, 2) := by decide +kernel
theorem dX12_costOfOne_19 : decode cX12_costOfOne 19 = .ok (.iload_n 1, 1) := by decide +kernel
theorem dX12_costOfOne_20 : decode cX12_costOfOne 20 = .ok (.imul, 1) := by decide +kernel
theorem dX12_costOfOne_21 : decode cX12_costOfOne 21 = .ok (.iload 6, 2) := by decide +kernel
theorem dX12_costOfOne_23 : decode cX12_costOfOne 23 = .ok (.iadd, 1) := by decide +kernel
theorem dX12_costOfOne_24 : decode cX12_costOfOne 24 = .ok (.iaload, 1) := by decide +kernel
theorem dX12_costOfOne_25 : decode cX12_costOfOne 25 = .ok (.istore 7, 2) := by decide +kernel
theorem dX12_costOfOne_27 : decode cX12_costOfOne 27 = .ok (.iload 7, 2) := by decide +kernel
theorem dX12_costOfOne_29 : decode cX12_costOfOne 29 = .ok (.ifCond .lt 71, 3) := by decide +kernel
theorem dX12_costOfOne_32 : decode cX12_costOfOne 32 = .ok (.iload 5, 2) := by decide +kernel
theorem dX12_costOfOne_34 : decode cX12_costOfOne 34 = .ok (.aload_n 0, 1) := by decide +kernel
theorem dX12_costOfOne_35 : decode cX12_costOfOne 35 = .ok (.getfield 112, 3) := by decide +kernel
theorem dX12_costOfOne_38 : decode cX12_costOfOne 38 = .ok (.bipush 100, 2) := by decide +kernel
theorem dX12_costOfOne_40 : decode cX12_costOfOne 40 = .ok (.iload 6, 2) := by decide +kernel
theorem dX12_costOfOne_42 : decode cX12_costOfOne 42 = .ok (.imul, 1) := by decide +kernel
theorem dX12_costOfOne_43 : decode cX12_costOfOne 43 = .ok (.iload 7, 2) := by decide +kernel
theorem dX12_costOfOne_45 : decode cX12_costOfOne 45 = .ok (.iadd, 1) := by decide +kernel
theorem dX12_costOfOne_46 : decode cX12_costOfOne 46 = .ok (.iaload, 1) := by decide +kernel
theorem dX12_costOfOne_47 : decode cX12_costOfOne 47 = .ok (.iadd, 1) := by decide +kernel
theorem dX12_costOfOne_48 : decode cX12_costOfOne 48 = .ok (.istore 5, 2) := by decide +kernel
theorem dX12_costOfOne_50 : decode cX12_costOfOne 50 = .ok (.iconst 0, 1) := by decide +kernel
theorem dX12_costOfOne_51 : decode cX12_costOfOne 51 = .ok (.istore 8, 2) := by decide +kernel
theorem dX12_costOfOne_53 : decode cX12_costOfOne 53 = .ok (.iload 8, 2) := by decide +kernel
theorem dX12_costOfOne_55 : decode cX12_costOfOne 55 = .ok (.iload_n 3, 1) := by decide +kernel
theorem dX12_costOfOne_56 : decode cX12_costOfOne 56 = .ok (.if_icmp .ge 44, 3) := by decide +kernel
theorem dX12_costOfOne_59 : decode cX12_costOfOne 59 = .ok (.iload 5, 2) := by decide +kernel
theorem dX12_costOfOne_61 : decode cX12_costOfOne 61 = .ok (.iload 8, 2) := by decide +kernel
theorem dX12_costOfOne_63 : decode cX12_costOfOne 63 = .ok (.iload_n 1, 1) := by decide +kernel
theorem dX12_costOfOne_64 : decode cX12_costOfOne 64 = .ok (.if_icmp .eq 26, 3) := by decide +kernel
theorem dX12_costOfOne_67 : decode cX12_costOfOne 67 = .ok (.aload_n 0, 1) := by decide +kernel
theorem dX12_costOfOne_68 : decode cX12_costOfOne 68 = .ok (.getfield 143, 3) := by decide +kernel
theorem dX12_costOfOne_71 : decode cX12_costOfOne 71 = .ok (.bipush 120, 2) := by decide +kernel
theorem dX12_costOfOne_73 : decode cX12_costOfOne 73 = .ok (.iload 8, 2) := by decide +kernel
theorem dX12_costOfOne_75 : decode cX12_costOfOne 75 = .ok (.imul, 1) := by decide +kernel
theorem dX12_costOfOne_76 : decode cX12_costOfOne 76 = .ok (.iload 6, 2) := by decide +kernel
theorem dX12_costOfOne_78 : decode cX12_costOfOne 78 = .ok (.iadd, 1) := by decide +kernel
theorem dX12_costOfOne_79 : decode cX12_costOfOne 79 = .ok (.iaload, 1) := by decide +kernel
theorem dX12_costOfOne_80 : decode cX12_costOfOne 80 = .ok (.iload 7, 2) := by decide +kernel
theorem dX12_costOfOne_82 : decode cX12_costOfOne 82 = .ok (.if_icmp .ne 8, 3) := by decide +kernel
theorem dX12_costOfOne_85 : decode cX12_costOfOne 85 = .ok (.iload 4, 2) := by decide +kernel
theorem dX12_costOfOne_87 : decode cX12_costOfOne 87 = .ok (.goto 4, 3) := by decide +kernel
theorem dX12_costOfOne_90 : decode cX12_costOfOne 90 = .ok (.iconst 0, 1) := by decide +kernel
theorem dX12_costOfOne_91 : decode cX12_costOfOne 91 = .ok (.iadd, 1) := by decide +kernel
theorem dX12_costOfOne_92 : decode cX12_costOfOne 92 = .ok (.istore 5, 2) := by decide +kernel
theorem dX12_costOfOne_94 : decode cX12_costOfOne 94 = .ok (.iinc 8 1, 3) := by decide +kernel
theorem dX12_costOfOne_97 : decode cX12_costOfOne 97 = .ok (.goto (-44), 3) := by decide +kernel
theorem dX12_costOfOne_100 : decode cX12_costOfOne 100 = .ok (.iinc 6 1, 3) := by decide +kernel
theorem dX12_costOfOne_103 : decode cX12_costOfOne 103 = .ok (.goto (-97), 3) := by decide +kernel
theorem dX12_costOfOne_106 : decode cX12_costOfOne 106 = .ok (.iload 5, 2) := by decide +kernel
theorem dX12_costOfOne_108 : decode cX12_costOfOne 108 = .ok (.ireturn, 1) := by decide +kernel
theorem dX12_sunOfOne_0 : decode cX12_sunOfOne 0 = .ok (.iconst 0, 1) := by decide +kernel
theorem dX12_sunOfOne_1 : decode cX12_sunOfOne 1 = .ok (.istore_n 3, 1) := by decide +kernel
theorem dX12_sunOfOne_2 : decode cX12_sunOfOne 2 = .ok (.iload_n 2, 1) := by decide +kernel
theorem dX12_sunOfOne_3 : decode cX12_sunOfOne 3 = .ok (.istore 4, 2) := by decide +kernel
theorem dX12_sunOfOne_5 : decode cX12_sunOfOne 5 = .ok (.iload 4, 2) := by decide +kernel
theorem dX12_sunOfOne_7 : decode cX12_sunOfOne 7 = .ok (.bipush 120, 2) := by decide +kernel
theorem dX12_sunOfOne_9 : decode cX12_sunOfOne 9 = .ok (.if_icmp .ge 48, 3) := by decide +kernel
theorem dX12_sunOfOne_12 : decode cX12_sunOfOne 12 = .ok (.aload_n 0, 1) := by decide +kernel
theorem dX12_sunOfOne_13 : decode cX12_sunOfOne 13 = .ok (.getfield 143, 3) := by decide +kernel
theorem dX12_sunOfOne_16 : decode cX12_sunOfOne 16 = .ok (.bipush 120, 2) := by decide +kernel
theorem dX12_sunOfOne_18 : decode cX12_sunOfOne 18 = .ok (.iload_n 1, 1) := by decide +kernel
theorem dX12_sunOfOne_19 : decode cX12_sunOfOne 19 = .ok (.imul, 1) := by decide +kernel
theorem dX12_sunOfOne_20 : decode cX12_sunOfOne 20 = .ok (.iload 4, 2) := by decide +kernel
theorem dX12_sunOfOne_22 : decode cX12_sunOfOne 22 = .ok (.iadd, 1) := by decide +kernel
theorem dX12_sunOfOne_23 : decode cX12_sunOfOne 23 = .ok (.iaload, 1) := by decide +kernel
theorem dX12_sunOfOne_24 : decode cX12_sunOfOne 24 = .ok (.istore 5, 2) := by decide +kernel
theorem dX12_sunOfOne_26 : decode cX12_sunOfOne 26 = .ok (.iload_n 3, 1) := by decide +kernel
theorem dX12_sunOfOne_27 : decode cX12_sunOfOne 27 = .ok (.iload 5, 2) := by decide +kernel
theorem dX12_sunOfOne_29 : decode cX12_sunOfOne 29 = .ok (.ifCond .lt 19, 3) := by decide +kernel
theorem dX12_sunOfOne_32 : decode cX12_sunOfOne 32 = .ok (.aload_n 0, 1) := by decide +kernel
theorem dX12_sunOfOne_33 : decode cX12_sunOfOne 33 = .ok (.getfield 112, 3) := by decide +kernel
theorem dX12_sunOfOne_36 : decode cX12_sunOfOne 36 = .ok (.bipush 100, 2) := by decide +kernel
theorem dX12_sunOfOne_38 : decode cX12_sunOfOne 38 = .ok (.iload 4, 2) := by decide +kernel
theorem dX12_sunOfOne_40 : decode cX12_sunOfOne 40 = .ok (.imul, 1) := by decide +kernel
theorem dX12_sunOfOne_41 : decode cX12_sunOfOne 41 = .ok (.iload 5, 2) := by decide +kernel
theorem dX12_sunOfOne_43 : decode cX12_sunOfOne 43 = .ok (.iadd, 1) := by decide +kernel
theorem dX12_sunOfOne_44 : decode cX12_sunOfOne 44 = .ok (.iaload, 1) := by decide +kernel
theorem dX12_sunOfOne_45 : decode cX12_sunOfOne 45 = .ok (.goto 4, 3) := by decide +kernel
theorem dX12_sunOfOne_48 : decode cX12_sunOfOne 48 = .ok (.iconst 0, 1) := by decide +kernel
theorem dX12_sunOfOne_49 : decode cX12_sunOfOne 49 = .ok (.iadd, 1) := by decide +kernel
theorem dX12_sunOfOne_50 : decode cX12_sunOfOne 50 = .ok (.istore_n 3, 1) := by decide +kernel
theorem dX12_sunOfOne_51 : decode cX12_sunOfOne 51 = .ok (.iinc 4 1, 3) := by decide +kernel
theorem dX12_sunOfOne_54 : decode cX12_sunOfOne 54 = .ok (.goto (-49), 3) := by decide +kernel
theorem dX12_sunOfOne_57 : decode cX12_sunOfOne 57 = .ok (.iload_n 3, 1) := by decide +kernel
theorem dX12_sunOfOne_58 : decode cX12_sunOfOne 58 = .ok (.ireturn, 1) := by decide +kernel
theorem dX12_chooses_0 : decode cX12_chooses 0 = .ok (.iconst 0, 1) := by decide +kernel
theorem dX12_chooses_1 : decode cX12_chooses 1 = .ok (.istore 10, 2) := by decide +kernel
theorem dX12_chooses_3 : decode cX12_chooses 3 = .ok (.iload 10, 2) := by decide +kernel
theorem dX12_chooses_5 : decode cX12_chooses 5 = .ok (.sipush 12000, 3) := by decide +kernel
theorem dX12_chooses_8 : decode cX12_chooses 8 = .ok (.if_icmp .ge 23, 3) := by decide +kernel
theorem dX12_chooses_11 : decode cX12_chooses 11 = .ok (.aload_n 0, 1) := by decide +kernel
theorem dX12_chooses_12 : decode cX12_chooses 12 = .ok (.getfield 122, 3) := by decide +kernel
theorem dX12_chooses_15 : decode cX12_chooses 15 = .ok (.iload 10, 2) := by decide +kernel
theorem dX12_chooses_17 : decode cX12_chooses 17 = .ok (.aload_n 0, 1) := by decide +kernel
theorem dX12_chooses_18 : decode cX12_chooses 18 = .ok (.getfield 112, 3) := by decide +kernel
theorem dX12_chooses_21 : decode cX12_chooses 21 = .ok (.iload 10, 2) := by decide +kernel
theorem dX12_chooses_23 : decode cX12_chooses 23 = .ok (.iaload, 1) := by decide +kernel
theorem dX12_chooses_24 : decode cX12_chooses 24 = .ok (.iastore, 1) := by decide +kernel
theorem dX12_chooses_25 : decode cX12_chooses 25 = .ok (.iinc 10 1, 3) := by decide +kernel
theorem dX12_chooses_28 : decode cX12_chooses 28 = .ok (.goto (-25), 3) := by decide +kernel
theorem dX12_chooses_31 : decode cX12_chooses 31 = .ok (.iconst 0, 1) := by decide +kernel
theorem dX12_chooses_32 : decode cX12_chooses 32 = .ok (.istore 10, 2) := by decide +kernel
theorem dX12_chooses_34 : decode cX12_chooses 34 = .ok (.iload 10, 2) := by decide +kernel
theorem dX12_chooses_36 : decode cX12_chooses 36 = .ok (.iload 7, 2) := by decide +kernel
theorem dX12_chooses_38 : decode cX12_chooses 38 = .ok (.if_icmp .ge 69, 3) := by decide +kernel
theorem dX12_chooses_41 : decode cX12_chooses 41 = .ok (.iload_n 3, 1) := by decide +kernel
theorem dX12_chooses_42 : decode cX12_chooses 42 = .ok (.istore 11, 2) := by decide +kernel
theorem dX12_chooses_44 : decode cX12_chooses 44 = .ok (.iload 11, 2) := by decide +kernel
theorem dX12_chooses_46 : decode cX12_chooses 46 = .ok (.bipush 120, 2) := by decide +kernel
theorem dX12_chooses_48 : decode cX12_chooses 48 = .ok (.if_icmp .ge 53, 3) := by decide +kernel
theorem dX12_chooses_51 : decode cX12_chooses 51 = .ok (.iload 10, 2) := by decide +kernel
theorem dX12_chooses_53 : decode cX12_chooses 53 = .ok (.iload_n 1, 1) := by decide +kernel
theorem dX12_chooses_54 : decode cX12_chooses 54 = .ok (.if_icmp .eq 47, 3) := by decide +kernel
theorem dX12_chooses_57 : decode cX12_chooses 57 = .ok (.aload_n 0, 1) := by decide +kernel
theorem dX12_chooses_58 : decode cX12_chooses 58 = .ok (.getfield 143, 3) := by decide +kernel
theorem dX12_chooses_61 : decode cX12_chooses 61 = .ok (.bipush 120, 2) := by decide +kernel
theorem dX12_chooses_63 : decode cX12_chooses 63 = .ok (.iload 10, 2) := by decide +kernel
theorem dX12_chooses_65 : decode cX12_chooses 65 = .ok (.imul, 1) := by decide +kernel
theorem dX12_chooses_66 : decode cX12_chooses 66 = .ok (.iload 11, 2) := by decide +kernel
theorem dX12_chooses_68 : decode cX12_chooses 68 = .ok (.iadd, 1) := by decide +kernel
theorem dX12_chooses_69 : decode cX12_chooses 69 = .ok (.iaload, 1) := by decide +kernel
theorem dX12_chooses_70 : decode cX12_chooses 70 = .ok (.istore 12, 2) := by decide +kernel
theorem dX12_chooses_72 : decode cX12_chooses 72 = .ok (.iload 12, 2) := by decide +kernel
theorem dX12_chooses_74 : decode cX12_chooses 74 = .ok (.ifCond .lt 21, 3) := by decide +kernel
theorem dX12_chooses_77 : decode cX12_chooses 77 = .ok (.aload_n 0, 1) := by decide +kernel
theorem dX12_chooses_78 : decode cX12_chooses 78 = .ok (.getfield 122, 3) := by decide +kernel
theorem dX12_chooses_81 : decode cX12_chooses 81 = .ok (.bipush 100, 2) := by decide +kernel
theorem dX12_chooses_83 : decode cX12_chooses 83 = .ok (.iload 11, 2) := by decide +kernel
theorem dX12_chooses_85 : decode cX12_chooses 85 = .ok (.imul, 1) := by decide +kernel
theorem dX12_chooses_86 : decode cX12_chooses 86 = .ok (.iload 12, 2) := by decide +kernel
theorem dX12_chooses_88 : decode cX12_chooses 88 = .ok (.iadd, 1) := by decide +kernel
theorem dX12_chooses_89 : decode cX12_chooses 89 = .ok (.dup2, 1) := by decide +kernel
theorem dX12_chooses_90 : decode cX12_chooses 90 = .ok (.iaload, 1) := by decide +kernel
theorem dX12_chooses_91 : decode cX12_chooses 91 = .ok (.iload 8, 2) := by decide +kernel
theorem dX12_chooses_93 : decode cX12_chooses 93 = .ok (.iadd, 1) := by decide +kernel
theorem dX12_chooses_94 : decode cX12_chooses 94 = .ok (.iastore, 1) := by decide +kernel
theorem dX12_chooses_95 : decode cX12_chooses 95 = .ok (.iinc 11 1, 3) := by decide +kernel
theorem dX12_chooses_98 : decode cX12_chooses 98 = .ok (.goto (-54), 3) := by decide +kernel
theorem dX12_chooses_101 : decode cX12_chooses 101 = .ok (.iinc 10 1, 3) := by decide +kernel
theorem dX12_chooses_104 : decode cX12_chooses 104 = .ok (.goto (-70), 3) := by decide +kernel
theorem dX12_chooses_107 : decode cX12_chooses 107 = .ok (.aload_n 0, 1) := by decide +kernel
theorem dX12_chooses_108 : decode cX12_chooses 108 = .ok (.iload 5, 2) := by decide +kernel
theorem dX12_chooses_110 : decode cX12_chooses 110 = .ok (.aload_n 0, 1) := by decide +kernel
theorem dX12_chooses_111 : decode cX12_chooses 111 = .ok (.iload_n 2, 1) := by decide +kernel
theorem dX12_chooses_112 : decode cX12_chooses 112 = .ok (.iconst 0, 1) := by decide +kernel
theorem dX12_chooses_113 : decode cX12_chooses 113 = .ok (.invokevirtual 345, 3) := by decide +kernel
theorem dX12_chooses_116 : decode cX12_chooses 116 = .ok (.iconst 1, 1) := by decide +kernel
theorem dX12_chooses_117 : decode cX12_chooses 117 = .ok (.iload 6, 2) := by decide +kernel
theorem dX12_chooses_119 : decode cX12_chooses 119 = .ok (.invokevirtual 348, 3) := by decide +kernel
theorem dX12_chooses_122 : decode cX12_chooses 122 = .ok (.aload_n 0, 1) := by decide +kernel
theorem dX12_chooses_123 : decode cX12_chooses 123 = .ok (.getfield 125, 3) := by decide +kernel
theorem dX12_chooses_126 : decode cX12_chooses 126 = .ok (.bipush 100, 2) := by decide +kernel
theorem dX12_chooses_128 : decode cX12_chooses 128 = .ok (.iload_n 3, 1) := by decide +kernel
theorem dX12_chooses_129 : decode cX12_chooses 129 = .ok (.imul, 1) := by decide +kernel
theorem dX12_chooses_130 : decode cX12_chooses 130 = .ok (.iload 4, 2) := by decide +kernel
theorem dX12_chooses_132 : decode cX12_chooses 132 = .ok (.iadd, 1) := by decide +kernel
theorem dX12_chooses_133 : decode cX12_chooses 133 = .ok (.iaload, 1) := by decide +kernel
theorem dX12_chooses_134 : decode cX12_chooses 134 = .ok (.iload 9, 2) := by decide +kernel
theorem dX12_chooses_136 : decode cX12_chooses 136 = .ok (.if_icmp .lt 5, 3) := by decide +kernel
theorem dX12_chooses_139 : decode cX12_chooses 139 = .ok (.iconst 0, 1) := by decide +kernel
theorem dX12_chooses_140 : decode cX12_chooses 140 = .ok (.ireturn, 1) := by decide +kernel
theorem dX12_chooses_141 : decode cX12_chooses 141 = .ok (.aload_n 0, 1) := by decide +kernel
theorem dX12_chooses_142 : decode cX12_chooses 142 = .ok (.iload_n 3, 1) := by decide +kernel
theorem dX12_chooses_143 : decode cX12_chooses 143 = .ok (.iload 4, 2) := by decide +kernel
theorem dX12_chooses_145 : decode cX12_chooses 145 = .ok (.iload 5, 2) := by decide +kernel
theorem dX12_chooses_147 : decode cX12_chooses 147 = .ok (.aload_n 0, 1) := by decide +kernel
theorem dX12_chooses_148 : decode cX12_chooses 148 = .ok (.iload_n 2, 1) := by decide +kernel
theorem dX12_chooses_149 : decode cX12_chooses 149 = .ok (.iconst 0, 1) := by decide +kernel
theorem dX12_chooses_150 : decode cX12_chooses 150 = .ok (.invokevirtual 345, 3) := by decide +kernel
theorem dX12_chooses_153 : decode cX12_chooses 153 = .ok (.invokevirtual 363, 3) := by decide +kernel
theorem dX12_chooses_156 : decode cX12_chooses 156 = .ok (.iconst 0, 1) := by decide +kernel
theorem dX12_chooses_157 : decode cX12_chooses 157 = .ok (.istore 10, 2) := by decide +kernel
theorem dX12_chooses_159 : decode cX12_chooses 159 = .ok (.iload 10, 2) := by decide +kernel
theorem dX12_chooses_161 : decode cX12_chooses 161 = .ok (.bipush 120, 2) := by decide +kernel
theorem dX12_chooses_163 : decode cX12_chooses 163 = .ok (.if_icmp .ge 28, 3) := by decide +kernel
theorem dX12_chooses_166 : decode cX12_chooses 166 = .ok (.aload_n 0, 1) := by decide +kernel
theorem dX12_chooses_167 : decode cX12_chooses 167 = .ok (.getfield 143, 3) := by decide +kernel
theorem dX12_chooses_170 : decode cX12_chooses 170 = .ok (.bipush 120, 2) := by decide +kernel
theorem dX12_chooses_172 : decode cX12_chooses 172 = .ok (.iload_n 1, 1) := by decide +kernel
theorem dX12_chooses_173 : decode cX12_chooses 173 = .ok (.imul, 1) := by decide +kernel
theorem dX12_chooses_174 : decode cX12_chooses 174 = .ok (.iload 10, 2) := by decide +kernel
theorem dX12_chooses_176 : decode cX12_chooses 176 = .ok (.iadd, 1) := by decide +kernel
theorem dX12_chooses_177 : decode cX12_chooses 177 = .ok (.aload_n 0, 1) := by decide +kernel
theorem dX12_chooses_178 : decode cX12_chooses 178 = .ok (.getfield 134, 3) := by decide +kernel
theorem dX12_chooses_181 : decode cX12_chooses 181 = .ok (.iload 10, 2) := by decide +kernel
theorem dX12_chooses_183 : decode cX12_chooses 183 = .ok (.iaload, 1) := by decide +kernel
theorem dX12_chooses_184 : decode cX12_chooses 184 = .ok (.iastore, 1) := by decide +kernel
theorem dX12_chooses_185 : decode cX12_chooses 185 = .ok (.iinc 10 1, 3) := by decide +kernel
theorem dX12_chooses_188 : decode cX12_chooses 188 = .ok (.goto (-29), 3) := by decide +kernel
theorem dX12_chooses_191 : decode cX12_chooses 191 = .ok (.iconst 1, 1) := by decide +kernel
theorem dX12_chooses_192 : decode cX12_chooses 192 = .ok (.ireturn, 1) := by decide +kernel
theorem dX12_findCrowd_0 : decode cX12_findCrowd 0 = .ok (.aload_n 0, 1) := by decide +kernel
theorem dX12_findCrowd_1 : decode cX12_findCrowd 1 = .ok (.iload_n 2, 1) := by decide +kernel
theorem dX12_findCrowd_2 : decode cX12_findCrowd 2 = .ok (.invokevirtual 339, 3) := by decide +kernel
theorem dX12_findCrowd_5 : decode cX12_findCrowd 5 = .ok (.iconst 0, 1) := by decide +kernel
theorem dX12_findCrowd_6 : decode cX12_findCrowd 6 = .ok (.istore 9, 2) := by decide +kernel
theorem dX12_findCrowd_8 : decode cX12_findCrowd 8 = .ok (.iload 9, 2) := by decide +kernel
theorem dX12_findCrowd_10 : decode cX12_findCrowd 10 = .ok (.sipush 960, 3) := by decide +kernel
theorem dX12_findCrowd_13 : decode cX12_findCrowd 13 = .ok (.if_icmp .ge 17, 3) := by decide +kernel
theorem dX12_findCrowd_16 : decode cX12_findCrowd 16 = .ok (.aload_n 0, 1) := by decide +kernel
theorem dX12_findCrowd_17 : decode cX12_findCrowd 17 = .ok (.getfield 143, 3) := by decide +kernel
theorem dX12_findCrowd_20 : decode cX12_findCrowd 20 = .ok (.iload 9, 2) := by decide +kernel
theorem dX12_findCrowd_22 : decode cX12_findCrowd 22 = .ok (.iconst (-1), 1) := by decide +kernel
theorem dX12_findCrowd_23 : decode cX12_findCrowd 23 = .ok (.iastore, 1) := by decide +kernel
theorem dX12_findCrowd_24 : decode cX12_findCrowd 24 = .ok (.iinc 9 1, 3) := by decide +kernel
theorem dX12_findCrowd_27 : decode cX12_findCrowd 27 = .ok (.goto (-19), 3) := by decide +kernel
theorem dX12_findCrowd_30 : decode cX12_findCrowd 30 = .ok (.iconst 0, 1) := by decide +kernel
theorem dX12_findCrowd_31 : decode cX12_findCrowd 31 = .ok (.istore 9, 2) := by decide +kernel
theorem dX12_findCrowd_33 : decode cX12_findCrowd 33 = .ok (.iload 9, 2) := by decide +kernel
theorem dX12_findCrowd_35 : decode cX12_findCrowd 35 = .ok (.iload 7, 2) := by decide +kernel
theorem dX12_findCrowd_37 : decode cX12_findCrowd 37 = .ok (.if_icmp .ge 35, 3) := by decide +kernel
theorem dX12_findCrowd_40 : decode cX12_findCrowd 40 = .ok (.aload_n 0, 1) := by decide +kernel
theorem dX12_findCrowd_41 : decode cX12_findCrowd 41 = .ok (.iload 9, 2) := by decide +kernel
theorem dX12_findCrowd_43 : decode cX12_findCrowd 43 = .ok (.iload_n 1, 1) := by decide +kernel
theorem dX12_findCrowd_44 : decode cX12_findCrowd 44 = .ok (.iload_n 3, 1) := by decide +kernel
theorem dX12_findCrowd_45 : decode cX12_findCrowd 45 = .ok (.iload 4, 2) := by decide +kernel
theorem dX12_findCrowd_47 : decode cX12_findCrowd 47 = .ok (.iload 5, 2) := by decide +kernel
theorem dX12_findCrowd_49 : decode cX12_findCrowd 49 = .ok (.iload 6, 2) := by decide +kernel
theorem dX12_findCrowd_51 : decode cX12_findCrowd 51 = .ok (.iload 9, 2) := by decide +kernel
theorem dX12_findCrowd_53 : decode cX12_findCrowd 53 = .ok (.iload 8, 2) := by decide +kernel
theorem dX12_findCrowd_55 : decode cX12_findCrowd 55 = .ok (.ldc_w 331, 3) := by decide +kernel
theorem dX12_findCrowd_58 : decode cX12_findCrowd 58 = .ok (.invokevirtual 398, 3) := by decide +kernel
theorem dX12_findCrowd_61 : decode cX12_findCrowd 61 = .ok (.ifCond .ne 5, 3) := by decide +kernel
theorem dX12_findCrowd_64 : decode cX12_findCrowd 64 = .ok (.iconst 0, 1) := by decide +kernel
theorem dX12_findCrowd_65 : decode cX12_findCrowd 65 = .ok (.ireturn, 1) := by decide +kernel
theorem dX12_findCrowd_66 : decode cX12_findCrowd 66 = .ok (.iinc 9 1, 3) := by decide +kernel
theorem dX12_findCrowd_69 : decode cX12_findCrowd 69 = .ok (.goto (-36), 3) := by decide +kernel
theorem dX12_findCrowd_72 : decode cX12_findCrowd 72 = .ok (.aload_n 0, 1) := by decide +kernel
theorem dX12_findCrowd_73 : decode cX12_findCrowd 73 = .ok (.iconst 0, 1) := by decide +kernel
theorem dX12_findCrowd_74 : decode cX12_findCrowd 74 = .ok (.putfield 402, 3) := by decide +kernel
theorem dX12_findCrowd_77 : decode cX12_findCrowd 77 = .ok (.iconst 1, 1) := by decide +kernel
theorem dX12_findCrowd_78 : decode cX12_findCrowd 78 = .ok (.istore 9, 2) := by decide +kernel
theorem dX12_findCrowd_80 : decode cX12_findCrowd 80 = .ok (.iload 9, 2) := by decide +kernel
theorem dX12_findCrowd_82 : decode cX12_findCrowd 82 = .ok (.ifCond .eq 79, 3) := by decide +kernel
theorem dX12_findCrowd_85 : decode cX12_findCrowd 85 = .ok (.iconst 0, 1) := by decide +kernel
theorem dX12_findCrowd_86 : decode cX12_findCrowd 86 = .ok (.istore 9, 2) := by decide +kernel
theorem dX12_findCrowd_88 : decode cX12_findCrowd 88 = .ok (.aload_n 0, 1) := by decide +kernel
theorem dX12_findCrowd_89 : decode cX12_findCrowd 89 = .ok (.dup, 1) := by decide +kernel
theorem dX12_findCrowd_90 : decode cX12_findCrowd 90 = .ok (.getfield 402, 3) := by decide +kernel
theorem dX12_findCrowd_93 : decode cX12_findCrowd 93 = .ok (.iconst 1, 1) := by decide +kernel
theorem dX12_findCrowd_94 : decode cX12_findCrowd 94 = .ok (.iadd, 1) := by decide +kernel
theorem dX12_findCrowd_95 : decode cX12_findCrowd 95 = .ok (.putfield 402, 3) := by decide +kernel
theorem dX12_findCrowd_98 : decode cX12_findCrowd 98 = .ok (.iconst 0, 1) := by decide +kernel
theorem dX12_findCrowd_99 : decode cX12_findCrowd 99 = .ok (.istore 10, 2) := by decide +kernel
theorem dX12_findCrowd_101 : decode cX12_findCrowd 101 = .ok (.iload 10, 2) := by decide +kernel
theorem dX12_findCrowd_103 : decode cX12_findCrowd 103 = .ok (.iload 7, 2) := by decide +kernel
theorem dX12_findCrowd_105 : decode cX12_findCrowd 105 = .ok (.if_icmp .ge 53, 3) := by decide +kernel
theorem dX12_findCrowd_108 : decode cX12_findCrowd 108 = .ok (.aload_n 0, 1) := by decide +kernel
theorem dX12_findCrowd_109 : decode cX12_findCrowd 109 = .ok (.iload 10, 2) := by decide +kernel
theorem dX12_findCrowd_111 : decode cX12_findCrowd 111 = .ok (.iload_n 1, 1) := by decide +kernel
theorem dX12_findCrowd_112 : decode cX12_findCrowd 112 = .ok (.iload_n 3, 1) := by decide +kernel
theorem dX12_findCrowd_113 : decode cX12_findCrowd 113 = .ok (.iload 4, 2) := by decide +kernel
theorem dX12_findCrowd_115 : decode cX12_findCrowd 115 = .ok (.iload 5, 2) := by decide +kernel
theorem dX12_findCrowd_117 : decode cX12_findCrowd 117 = .ok (.iload 6, 2) := by decide +kernel
theorem dX12_findCrowd_119 : decode cX12_findCrowd 119 = .ok (.iload 7, 2) := by decide +kernel
theorem dX12_findCrowd_121 : decode cX12_findCrowd 121 = .ok (.iload 8, 2) := by decide +kernel
theorem dX12_findCrowd_123 : decode cX12_findCrowd 123 = .ok (.aload_n 0, 1) := by decide +kernel
theorem dX12_findCrowd_124 : decode cX12_findCrowd 124 = .ok (.iload 10, 2) := by decide +kernel
theorem dX12_findCrowd_126 : decode cX12_findCrowd 126 = .ok (.iload_n 3, 1) := by decide +kernel
theorem dX12_findCrowd_127 : decode cX12_findCrowd 127 = .ok (.iload 7, 2) := by decide +kernel
theorem dX12_findCrowd_129 : decode cX12_findCrowd 129 = .ok (.iload 8, 2) := by decide +kernel
theorem dX12_findCrowd_131 : decode cX12_findCrowd 131 = .ok (.invokevirtual 405, 3) := by decide +kernel
theorem dX12_findCrowd_134 : decode cX12_findCrowd 134 = .ok (.invokevirtual 398, 3) := by decide +kernel
theorem dX12_findCrowd_137 : decode cX12_findCrowd 137 = .ok (.ifCond .ne 8, 3) := by decide +kernel
theorem dX12_findCrowd_140 : decode cX12_findCrowd 140 = .ok (.iload 9, 2) := by decide +kernel
theorem dX12_findCrowd_142 : decode cX12_findCrowd 142 = .ok (.ifCond .eq 7, 3) := by decide +kernel
theorem dX12_findCrowd_145 : decode cX12_findCrowd 145 = .ok (.iconst 1, 1) := by decide +kernel
theorem dX12_findCrowd_146 : decode cX12_findCrowd 146 = .ok (.goto 4, 3) := by decide +kernel
theorem dX12_findCrowd_149 : decode cX12_findCrowd 149 = .ok (.iconst 0, 1) := by decide +kernel
theorem dX12_findCrowd_150 : decode cX12_findCrowd 150 = .ok (.istore 9, 2) := by decide +kernel
theorem dX12_findCrowd_152 : decode cX12_findCrowd 152 = .ok (.iinc 10 1, 3) := by decide +kernel
theorem dX12_findCrowd_155 : decode cX12_findCrowd 155 = .ok (.goto (-54), 3) := by decide +kernel
theorem dX12_findCrowd_158 : decode cX12_findCrowd 158 = .ok (.goto (-78), 3) := by decide +kernel
theorem dX12_findCrowd_161 : decode cX12_findCrowd 161 = .ok (.iconst 1, 1) := by decide +kernel
theorem dX12_findCrowd_162 : decode cX12_findCrowd 162 = .ok (.ireturn, 1) := by decide +kernel
theorem dX12_isCrowd_0 : decode cX12_isCrowd 0 = .ok (.aload_n 0, 1) := by decide +kernel
theorem dX12_isCrowd_1 : decode cX12_isCrowd 1 = .ok (.iload_n 1, 1) := by decide +kernel
theorem dX12_isCrowd_2 : decode cX12_isCrowd 2 = .ok (.iload_n 2, 1) := by decide +kernel
theorem dX12_isCrowd_3 : decode cX12_isCrowd 3 = .ok (.iload_n 3, 1) := by decide +kernel
theorem dX12_isCrowd_4 : decode cX12_isCrowd 4 = .ok (.iload 4, 2) := by decide +kernel
theorem dX12_isCrowd_6 : decode cX12_isCrowd 6 = .ok (.iload 5, 2) := by decide +kernel
theorem dX12_isCrowd_8 : decode cX12_isCrowd 8 = .ok (.invokevirtual 355, 3) := by decide +kernel
theorem dX12_isCrowd_11 : decode cX12_isCrowd 11 = .ok (.ifCond .eq 37, 3) := by decide +kernel
theorem dX12_isCrowd_14 : decode cX12_isCrowd 14 = .ok (.iload 6, 2) := by decide +kernel
theorem dX12_isCrowd_16 : decode cX12_isCrowd 16 = .ok (.invokestatic 316, 3) := by decide +kernel
theorem dX12_isCrowd_19 : decode cX12_isCrowd 19 = .ok (.ifCond .eq 29, 3) := by decide +kernel
theorem dX12_isCrowd_22 : decode cX12_isCrowd 22 = .ok (.iload 7, 2) := by decide +kernel
theorem dX12_isCrowd_24 : decode cX12_isCrowd 24 = .ok (.iconst 1, 1) := by decide +kernel
theorem dX12_isCrowd_25 : decode cX12_isCrowd 25 = .ok (.bipush 8, 2) := by decide +kernel
theorem dX12_isCrowd_27 : decode cX12_isCrowd 27 = .ok (.invokestatic 289, 3) := by decide +kernel
theorem dX12_isCrowd_30 : decode cX12_isCrowd 30 = .ok (.ifCond .eq 18, 3) := by decide +kernel
theorem dX12_isCrowd_33 : decode cX12_isCrowd 33 = .ok (.iload 8, 2) := by decide +kernel
theorem dX12_isCrowd_35 : decode cX12_isCrowd 35 = .ok (.iconst 0, 1) := by decide +kernel
theorem dX12_isCrowd_36 : decode cX12_isCrowd 36 = .ok (.bipush 9, 2) := by decide +kernel
theorem dX12_isCrowd_38 : decode cX12_isCrowd 38 = .ok (.invokestatic 289, 3) := by decide +kernel
theorem dX12_isCrowd_41 : decode cX12_isCrowd 41 = .ok (.ifCond .eq 7, 3) := by decide +kernel
theorem dX12_isCrowd_44 : decode cX12_isCrowd 44 = .ok (.iconst 1, 1) := by decide +kernel
theorem dX12_isCrowd_45 : decode cX12_isCrowd 45 = .ok (.goto 4, 3) := by decide +kernel
theorem dX12_isCrowd_48 : decode cX12_isCrowd 48 = .ok (.iconst 0, 1) := by decide +kernel
theorem dX12_isCrowd_49 : decode cX12_isCrowd 49 = .ok (.ireturn, 1) := by decide +kernel
theorem dX12_crowd_0 : decode cX12_crowd 0 = .ok (.aload_n 0, 1) := by decide +kernel
theorem dX12_crowd_1 : decode cX12_crowd 1 = .ok (.aload_n 0, 1) := by decide +kernel
theorem dX12_crowd_2 : decode cX12_crowd 2 = .ok (.iload_n 1, 1) := by decide +kernel
theorem dX12_crowd_3 : decode cX12_crowd 3 = .ok (.iload_n 2, 1) := by decide +kernel
theorem dX12_crowd_4 : decode cX12_crowd 4 = .ok (.iload_n 3, 1) := by decide +kernel
theorem dX12_crowd_5 : decode cX12_crowd 5 = .ok (.iload 4, 2) := by decide +kernel
theorem dX12_crowd_7 : decode cX12_crowd 7 = .ok (.iload 5, 2) := by decide +kernel
theorem dX12_crowd_9 : decode cX12_crowd 9 = .ok (.iload 6, 2) := by decide +kernel
theorem dX12_crowd_11 : decode cX12_crowd 11 = .ok (.iload 7, 2) := by decide +kernel
theorem dX12_crowd_13 : decode cX12_crowd 13 = .ok (.iload 8, 2) := by decide +kernel
theorem dX12_crowd_15 : decode cX12_crowd 15 = .ok (.invokevirtual 408, 3) := by decide +kernel
theorem dX12_crowd_18 : decode cX12_crowd 18 = .ok (.ifCond .eq 37, 3) := by decide +kernel
theorem dX12_crowd_21 : decode cX12_crowd 21 = .ok (.iload 9, 2) := by decide +kernel
theorem dX12_crowd_23 : decode cX12_crowd 23 = .ok (.iconst 0, 1) := by decide +kernel
theorem dX12_crowd_24 : decode cX12_crowd 24 = .ok (.iconst 3, 1) := by decide +kernel
theorem dX12_crowd_25 : decode cX12_crowd 25 = .ok (.invokestatic 289, 3) := by decide +kernel
theorem dX12_crowd_28 : decode cX12_crowd 28 = .ok (.ifCond .eq 27, 3) := by decide +kernel
theorem dX12_crowd_31 : decode cX12_crowd 31 = .ok (.aload_n 0, 1) := by decide +kernel
theorem dX12_crowd_32 : decode cX12_crowd 32 = .ok (.iload_n 1, 1) := by decide +kernel
theorem dX12_crowd_33 : decode cX12_crowd 33 = .ok (.iload_n 2, 1) := by decide +kernel
theorem dX12_crowd_34 : decode cX12_crowd 34 = .ok (.iload_n 3, 1) := by decide +kernel
theorem dX12_crowd_35 : decode cX12_crowd 35 = .ok (.iload 4, 2) := by decide +kernel
theorem dX12_crowd_37 : decode cX12_crowd 37 = .ok (.iload 5, 2) := by decide +kernel
theorem dX12_crowd_39 : decode cX12_crowd 39 = .ok (.iload 6, 2) := by decide +kernel
theorem dX12_crowd_41 : decode cX12_crowd 41 = .ok (.iload 7, 2) := by decide +kernel
theorem dX12_crowd_43 : decode cX12_crowd 43 = .ok (.iload 8, 2) := by decide +kernel
theorem dX12_crowd_45 : decode cX12_crowd 45 = .ok (.invokevirtual 412, 3) := by decide +kernel
theorem dX12_crowd_48 : decode cX12_crowd 48 = .ok (.ifCond .eq 7, 3) := by decide +kernel
theorem dX12_crowd_51 : decode cX12_crowd 51 = .ok (.iconst 0, 1) := by decide +kernel
theorem dX12_crowd_52 : decode cX12_crowd 52 = .ok (.goto 4, 3) := by decide +kernel
theorem dX12_crowd_55 : decode cX12_crowd 55 = .ok (.iconst 1, 1) := by decide +kernel
theorem dX12_crowd_56 : decode cX12_crowd 56 = .ok (.putfield 1, 3) := by decide +kernel
theorem dX12_crowd_59 : decode cX12_crowd 59 = .ok (.aload_n 0, 1) := by decide +kernel
theorem dX12_crowd_60 : decode cX12_crowd 60 = .ok (.getfield 1, 3) := by decide +kernel
theorem dX12_crowd_63 : decode cX12_crowd 63 = .ok (.ifCond .le 5, 3) := by decide +kernel
theorem dX12_crowd_66 : decode cX12_crowd 66 = .ok (.iconst 0, 1) := by decide +kernel
theorem dX12_crowd_67 : decode cX12_crowd 67 = .ok (.ireturn, 1) := by decide +kernel
theorem dX12_crowd_68 : decode cX12_crowd 68 = .ok (.iconst 0, 1) := by decide +kernel
theorem dX12_crowd_69 : decode cX12_crowd 69 = .ok (.istore 10, 2) := by decide +kernel
theorem dX12_crowd_71 : decode cX12_crowd 71 = .ok (.iconst 0, 1) := by decide +kernel
theorem dX12_crowd_72 : decode cX12_crowd 72 = .ok (.istore 11, 2) := by decide +kernel
theorem dX12_crowd_74 : decode cX12_crowd 74 = .ok (.iconst 0, 1) := by decide +kernel
theorem dX12_crowd_75 : decode cX12_crowd 75 = .ok (.istore 12, 2) := by decide +kernel
theorem dX12_crowd_77 : decode cX12_crowd 77 = .ok (.iconst 0, 1) := by decide +kernel
theorem dX12_crowd_78 : decode cX12_crowd 78 = .ok (.istore 13, 2) := by decide +kernel
theorem dX12_crowd_80 : decode cX12_crowd 80 = .ok (.iload 13, 2) := by decide +kernel
theorem dX12_crowd_82 : decode cX12_crowd 82 = .ok (.iload 7, 2) := by decide +kernel
theorem dX12_crowd_84 : decode cX12_crowd 84 = .ok (.if_icmp .ge 57, 3) := by decide +kernel
theorem dX12_crowd_87 : decode cX12_crowd 87 = .ok (.aload_n 0, 1) := by decide +kernel
theorem dX12_crowd_88 : decode cX12_crowd 88 = .ok (.iload 13, 2) := by decide +kernel
theorem dX12_crowd_90 : decode cX12_crowd 90 = .ok (.iload_n 3, 1) := by decide +kernel
theorem dX12_crowd_91 : decode cX12_crowd 91 = .ok (.iload 7, 2) := by decide +kernel
theorem dX12_crowd_93 : decode cX12_crowd 93 = .ok (.iload 8, 2) := by decide +kernel
theorem dX12_crowd_95 : decode cX12_crowd 95 = .ok (.invokevirtual 405, 3) := by decide +kernel
theorem dX12_crowd_98 : decode cX12_crowd 98 = .ok (.istore 14, 2) := by decide +kernel
theorem dX12_crowd_100 : decode cX12_crowd 100 = .ok (.iload 10, 2) := by decide +kernel
theorem dX12_crowd_102 : decode cX12_crowd 102 = .ok (.iload 14, 2) := by decide +kernel
theorem dX12_crowd_104 : decode cX12_crowd 104 = .ok (.iadd, 1) := by decide +kernel
theorem dX12_crowd_105 : decode cX12_crowd 105 = .ok (.istore 10, 2) := by decide +kernel
theorem dX12_crowd_107 : decode cX12_crowd 107 = .ok (.iload 11, 2) := by decide +kernel
theorem dX12_crowd_109 : decode cX12_crowd 109 = .ok (.aload_n 0, 1) := by decide +kernel
theorem dX12_crowd_110 : decode cX12_crowd 110 = .ok (.iload 13, 2) := by decide +kernel
theorem dX12_crowd_112 : decode cX12_crowd 112 = .ok (.iload_n 3, 1) := by decide +kernel
theorem dX12_crowd_113 : decode cX12_crowd 113 = .ok (.invokevirtual 415, 3) := by decide +kernel
theorem dX12_crowd_116 : decode cX12_crowd 116 = .ok (.iadd, 1) := by decide +kernel
theorem dX12_crowd_117 : decode cX12_crowd 117 = .ok (.istore 11, 2) := by decide +kernel
theorem dX12_crowd_119 : decode cX12_crowd 119 = .ok (.iload 14, 2) := by decide +kernel
theorem dX12_crowd_121 : decode cX12_crowd 121 = .ok (.iload 12, 2) := by decide +kernel
theorem dX12_crowd_123 : decode cX12_crowd 123 = .ok (.if_icmp .le 8, 3) := by decide +kernel
theorem dX12_crowd_126 : decode cX12_crowd 126 = .ok (.iload 14, 2) := by decide +kernel
theorem dX12_crowd_128 : decode cX12_crowd 128 = .ok (.goto 5, 3) := by decide +kernel
theorem dX12_crowd_131 : decode cX12_crowd 131 = .ok (.iload 12, 2) := by decide +kernel
theorem dX12_crowd_133 : decode cX12_crowd 133 = .ok (.istore 12, 2) := by decide +kernel
theorem dX12_crowd_135 : decode cX12_crowd 135 = .ok (.iinc 13 1, 3) := by decide +kernel
theorem dX12_crowd_138 : decode cX12_crowd 138 = .ok (.goto (-58), 3) := by decide +kernel
theorem dX12_crowd_141 : decode cX12_crowd 141 = .ok (.iload 9, 2) := by decide +kernel
theorem dX12_crowd_143 : decode cX12_crowd 143 = .ok (.ifCond .ne 8, 3) := by decide +kernel
theorem dX12_crowd_146 : decode cX12_crowd 146 = .ok (.iload 10, 2) := by decide +kernel
theorem dX12_crowd_148 : decode cX12_crowd 148 = .ok (.goto 29, 3) := by decide +kernel
theorem dX12_crowd_151 : decode cX12_crowd 151 = .ok (.iload 9, 2) := by decide +kernel
theorem dX12_crowd_153 : decode cX12_crowd 153 = .ok (.iconst 1, 1) := by decide +kernel
theorem dX12_crowd_154 : decode cX12_crowd 154 = .ok (.if_icmp .ne 8, 3) := by decide +kernel
theorem dX12_crowd_157 : decode cX12_crowd 157 = .ok (.iload 11, 2) := by decide +kernel
theorem dX12_crowd_159 : decode cX12_crowd 159 = .ok (.goto 18, 3) := by decide +kernel
theorem dX12_crowd_162 : decode cX12_crowd 162 = .ok (.iload 9, 2) := by decide +kernel
theorem dX12_crowd_164 : decode cX12_crowd 164 = .ok (.iconst 2, 1) := by decide +kernel
theorem dX12_crowd_165 : decode cX12_crowd 165 = .ok (.if_icmp .ne 10, 3) := by decide +kernel
theorem dX12_crowd_168 : decode cX12_crowd 168 = .ok (.aload_n 0, 1) := by decide +kernel
theorem dX12_crowd_169 : decode cX12_crowd 169 = .ok (.getfield 402, 3) := by decide +kernel
theorem dX12_crowd_172 : decode cX12_crowd 172 = .ok (.goto 5, 3) := by decide +kernel
theorem dX12_crowd_175 : decode cX12_crowd 175 = .ok (.iload 12, 2) := by decide +kernel
theorem dX12_crowd_177 : decode cX12_crowd 177 = .ok (.ireturn, 1) := by decide +kernel
theorem dX12_price_0 : decode cX12_price 0 = .ok (.aload_n 0, 1) := by decide +kernel
theorem dX12_price_1 : decode cX12_price 1 = .ok (.aload_n 0, 1) := by decide +kernel
theorem dX12_price_2 : decode cX12_price 2 = .ok (.iload_n 1, 1) := by decide +kernel
theorem dX12_price_3 : decode cX12_price 3 = .ok (.iload_n 2, 1) := by decide +kernel
theorem dX12_price_4 : decode cX12_price 4 = .ok (.iload_n 3, 1) := by decide +kernel
theorem dX12_price_5 : decode cX12_price 5 = .ok (.iload 4, 2) := by decide +kernel
theorem dX12_price_7 : decode cX12_price 7 = .ok (.iload 5, 2) := by decide +kernel
theorem dX12_price_9 : decode cX12_price 9 = .ok (.iload 6, 2) := by decide +kernel
theorem dX12_price_11 : decode cX12_price 11 = .ok (.iload 7, 2) := by decide +kernel
theorem dX12_price_13 : decode cX12_price 13 = .ok (.iload 8, 2) := by decide +kernel
theorem dX12_price_15 : decode cX12_price 15 = .ok (.invokevirtual 408, 3) := by decide +kernel
theorem dX12_price_18 : decode cX12_price 18 = .ok (.ifCond .eq 27, 3) := by decide +kernel
theorem dX12_price_21 : decode cX12_price 21 = .ok (.aload_n 0, 1) := by decide +kernel
theorem dX12_price_22 : decode cX12_price 22 = .ok (.iload_n 1, 1) := by decide +kernel
theorem dX12_price_23 : decode cX12_price 23 = .ok (.iload_n 2, 1) := by decide +kernel
theorem dX12_price_24 : decode cX12_price 24 = .ok (.iload_n 3, 1) := by decide +kernel
theorem dX12_price_25 : decode cX12_price 25 = .ok (.iload 4, 2) := by decide +kernel
theorem dX12_price_27 : decode cX12_price 27 = .ok (.iload 5, 2) := by decide +kernel
theorem dX12_price_29 : decode cX12_price 29 = .ok (.iload 6, 2) := by decide +kernel
theorem dX12_price_31 : decode cX12_price 31 = .ok (.iload 7, 2) := by decide +kernel
theorem dX12_price_33 : decode cX12_price 33 = .ok (.iload 8, 2) := by decide +kernel
theorem dX12_price_35 : decode cX12_price 35 = .ok (.invokevirtual 412, 3) := by decide +kernel
theorem dX12_price_38 : decode cX12_price 38 = .ok (.ifCond .eq 7, 3) := by decide +kernel
theorem dX12_price_41 : decode cX12_price 41 = .ok (.iconst 0, 1) := by decide +kernel
theorem dX12_price_42 : decode cX12_price 42 = .ok (.goto 4, 3) := by decide +kernel
theorem dX12_price_45 : decode cX12_price 45 = .ok (.iconst 1, 1) := by decide +kernel
theorem dX12_price_46 : decode cX12_price 46 = .ok (.putfield 1, 3) := by decide +kernel
theorem dX12_price_49 : decode cX12_price 49 = .ok (.aload_n 0, 1) := by decide +kernel
theorem dX12_price_50 : decode cX12_price 50 = .ok (.getfield 1, 3) := by decide +kernel
theorem dX12_price_53 : decode cX12_price 53 = .ok (.ifCond .le 5, 3) := by decide +kernel
theorem dX12_price_56 : decode cX12_price 56 = .ok (.iconst 0, 1) := by decide +kernel
theorem dX12_price_57 : decode cX12_price 57 = .ok (.ireturn, 1) := by decide +kernel
theorem dX12_price_58 : decode cX12_price 58 = .ok (.iconst 0, 1) := by decide +kernel
theorem dX12_price_59 : decode cX12_price 59 = .ok (.istore 9, 2) := by decide +kernel
theorem dX12_price_61 : decode cX12_price 61 = .ok (.iconst 0, 1) := by decide +kernel
theorem dX12_price_62 : decode cX12_price 62 = .ok (.istore 10, 2) := by decide +kernel
theorem dX12_price_64 : decode cX12_price 64 = .ok (.iload 10, 2) := by decide +kernel
theorem dX12_price_66 : decode cX12_price 66 = .ok (.iload 7, 2) := by decide +kernel
theorem dX12_price_68 : decode cX12_price 68 = .ok (.if_icmp .ge 25, 3) := by decide +kernel
theorem dX12_price_71 : decode cX12_price 71 = .ok (.iload 9, 2) := by decide +kernel
theorem dX12_price_73 : decode cX12_price 73 = .ok (.aload_n 0, 1) := by decide +kernel
theorem dX12_price_74 : decode cX12_price 74 = .ok (.iload 10, 2) := by decide +kernel
theorem dX12_price_76 : decode cX12_price 76 = .ok (.iload_n 3, 1) := by decide +kernel
theorem dX12_price_77 : decode cX12_price 77 = .ok (.iload 7, 2) := by decide +kernel
theorem dX12_price_79 : decode cX12_price 79 = .ok (.iload 8, 2) := by decide +kernel
theorem dX12_price_81 : decode cX12_price 81 = .ok (.invokevirtual 405, 3) := by decide +kernel
theorem dX12_price_84 : decode cX12_price 84 = .ok (.iadd, 1) := by decide +kernel
theorem dX12_price_85 : decode cX12_price 85 = .ok (.istore 9, 2) := by decide +kernel
theorem dX12_price_87 : decode cX12_price 87 = .ok (.iinc 10 1, 3) := by decide +kernel
theorem dX12_price_90 : decode cX12_price 90 = .ok (.goto (-26), 3) := by decide +kernel
theorem dX12_price_93 : decode cX12_price 93 = .ok (.aload_n 0, 1) := by decide +kernel
theorem dX12_price_94 : decode cX12_price 94 = .ok (.invokevirtual 342, 3) := by decide +kernel
theorem dX12_price_97 : decode cX12_price 97 = .ok (.aload_n 0, 1) := by decide +kernel
theorem dX12_price_98 : decode cX12_price 98 = .ok (.iload 5, 2) := by decide +kernel
theorem dX12_price_100 : decode cX12_price 100 = .ok (.aload_n 0, 1) := by decide +kernel
theorem dX12_price_101 : decode cX12_price 101 = .ok (.iload_n 1, 1) := by decide +kernel
theorem dX12_price_102 : decode cX12_price 102 = .ok (.iconst 0, 1) := by decide +kernel
theorem dX12_price_103 : decode cX12_price 103 = .ok (.invokevirtual 345, 3) := by decide +kernel
theorem dX12_price_106 : decode cX12_price 106 = .ok (.iconst 1, 1) := by decide +kernel
theorem dX12_price_107 : decode cX12_price 107 = .ok (.iload 6, 2) := by decide +kernel
theorem dX12_price_109 : decode cX12_price 109 = .ok (.invokevirtual 348, 3) := by decide +kernel
theorem dX12_price_112 : decode cX12_price 112 = .ok (.iload 9, 2) := by decide +kernel
theorem dX12_price_114 : decode cX12_price 114 = .ok (.iload 7, 2) := by decide +kernel
theorem dX12_price_116 : decode cX12_price 116 = .ok (.aload_n 0, 1) := by decide +kernel
theorem dX12_price_117 : decode cX12_price 117 = .ok (.getfield 125, 3) := by decide +kernel
theorem dX12_price_120 : decode cX12_price 120 = .ok (.bipush 100, 2) := by decide +kernel
theorem dX12_price_122 : decode cX12_price 122 = .ok (.iload_n 3, 1) := by decide +kernel
theorem dX12_price_123 : decode cX12_price 123 = .ok (.imul, 1) := by decide +kernel
theorem dX12_price_124 : decode cX12_price 124 = .ok (.iload 4, 2) := by decide +kernel
theorem dX12_price_126 : decode cX12_price 126 = .ok (.iadd, 1) := by decide +kernel
theorem dX12_price_127 : decode cX12_price 127 = .ok (.iaload, 1) := by decide +kernel
theorem dX12_price_128 : decode cX12_price 128 = .ok (.imul, 1) := by decide +kernel
theorem dX12_price_129 : decode cX12_price 129 = .ok (.isub, 1) := by decide +kernel
theorem dX12_price_130 : decode cX12_price 130 = .ok (.ireturn, 1) := by decide +kernel
theorem dX12_sunOf_0 : decode cX12_sunOf 0 = .ok (.aload_n 0, 1) := by decide +kernel
theorem dX12_sunOf_1 : decode cX12_sunOf 1 = .ok (.iload_n 1, 1) := by decide +kernel
theorem dX12_sunOf_2 : decode cX12_sunOf 2 = .ok (.iload_n 2, 1) := by decide +kernel
theorem dX12_sunOf_3 : decode cX12_sunOf 3 = .ok (.iload 5, 2) := by decide +kernel
theorem dX12_sunOf_5 : decode cX12_sunOf 5 = .ok (.invokevirtual 359, 3) := by decide +kernel
theorem dX12_sunOf_8 : decode cX12_sunOf 8 = .ok (.aload_n 0, 1) := by decide +kernel
theorem dX12_sunOf_9 : decode cX12_sunOf 9 = .ok (.getfield 125, 3) := by decide +kernel
theorem dX12_sunOf_12 : decode cX12_sunOf 12 = .ok (.bipush 100, 2) := by decide +kernel
theorem dX12_sunOf_14 : decode cX12_sunOf 14 = .ok (.iload_n 3, 1) := by decide +kernel
theorem dX12_sunOf_15 : decode cX12_sunOf 15 = .ok (.imul, 1) := by decide +kernel
theorem dX12_sunOf_16 : decode cX12_sunOf 16 = .ok (.iload 4, 2) := by decide +kernel
theorem dX12_sunOf_18 : decode cX12_sunOf 18 = .ok (.iadd, 1) := by decide +kernel
theorem dX12_sunOf_19 : decode cX12_sunOf 19 = .ok (.iaload, 1) := by decide +kernel
theorem dX12_sunOf_20 : decode cX12_sunOf 20 = .ok (.ireturn, 1) := by decide +kernel
theorem dX12_findHelp_0 : decode cX12_findHelp 0 = .ok (.aload_n 0, 1) := by decide +kernel
theorem dX12_findHelp_1 : decode cX12_findHelp 1 = .ok (.iconst (-1), 1) := by decide +kernel
theorem dX12_findHelp_2 : decode cX12_findHelp 2 = .ok (.putfield 418, 3) := by decide +kernel
theorem dX12_findHelp_5 : decode cX12_findHelp 5 = .ok (.aload_n 0, 1) := by decide +kernel
theorem dX12_findHelp_6 : decode cX12_findHelp 6 = .ok (.iconst 0, 1) := by decide +kernel
theorem dX12_findHelp_7 : decode cX12_findHelp 7 = .ok (.putfield 421, 3) := by decide +kernel
theorem dX12_findHelp_10 : decode cX12_findHelp 10 = .ok (.iconst 0, 1) := by decide +kernel
theorem dX12_findHelp_11 : decode cX12_findHelp 11 = .ok (.istore 8, 2) := by decide +kernel
theorem dX12_findHelp_13 : decode cX12_findHelp 13 = .ok (.iload 8, 2) := by decide +kernel
theorem dX12_findHelp_15 : decode cX12_findHelp 15 = .ok (.bipush 100, 2) := by decide +kernel
theorem dX12_findHelp_17 : decode cX12_findHelp 17 = .ok (.if_icmp .ge 109, 3) := by decide +kernel
theorem dX12_findHelp_20 : decode cX12_findHelp 20 = .ok (.aload_n 0, 1) := by decide +kernel
theorem dX12_findHelp_21 : decode cX12_findHelp 21 = .ok (.getfield 97, 3) := by decide +kernel
theorem dX12_findHelp_24 : decode cX12_findHelp 24 = .ok (.iload 8, 2) := by decide +kernel
theorem dX12_findHelp_26 : decode cX12_findHelp 26 = .ok (.iaload, 1) := by decide +kernel
theorem dX12_findHelp_27 : decode cX12_findHelp 27 = .ok (.ifCond .ne 93, 3) := by decide +kernel
theorem dX12_findHelp_30 : decode cX12_findHelp 30 = .ok (.aload_n 0, 1) := by decide +kernel
theorem dX12_findHelp_31 : decode cX12_findHelp 31 = .ok (.getfield 97, 3) := by decide +kernel
theorem dX12_findHelp_34 : decode cX12_findHelp 34 = .ok (.iload 8, 2) := by decide +kernel
theorem dX12_findHelp_36 : decode cX12_findHelp 36 = .ok (.iload 6, 2) := by decide +kernel
theorem dX12_findHelp_38 : decode cX12_findHelp 38 = .ok (.ifCond .le 7, 3) := by decide +kernel
theorem dX12_findHelp_41 : decode cX12_findHelp 41 = .ok (.iconst 2, 1) := by decide +kernel
theorem dX12_findHelp_42 : decode cX12_findHelp 42 = .ok (.goto 4, 3) := by decide +kernel
theorem dX12_findHelp_45 : decode cX12_findHelp 45 = .ok (.iconst 3, 1) := by decide +kernel
theorem dX12_findHelp_46 : decode cX12_findHelp 46 = .ok (.iastore, 1) := by decide +kernel
theorem dX12_findHelp_47 : decode cX12_findHelp 47 = .ok (.aload_n 0, 1) := by decide +kernel
theorem dX12_findHelp_48 : decode cX12_findHelp 48 = .ok (.getfield 97, 3) := by decide +kernel
theorem dX12_findHelp_51 : decode cX12_findHelp 51 = .ok (.bipush 100, 2) := by decide +kernel
theorem dX12_findHelp_53 : decode cX12_findHelp 53 = .ok (.iload 8, 2) := by decide +kernel
theorem dX12_findHelp_55 : decode cX12_findHelp 55 = .ok (.iadd, 1) := by decide +kernel
theorem dX12_findHelp_56 : decode cX12_findHelp 56 = .ok (.iload 6, 2) := by decide +kernel
theorem dX12_findHelp_58 : decode cX12_findHelp 58 = .ok (.iastore, 1) := by decide +kernel
theorem dX12_findHelp_59 : decode cX12_findHelp 59 = .ok (.aload_n 0, 1) := by decide +kernel
theorem dX12_findHelp_60 : decode cX12_findHelp 60 = .ok (.iconst (-1), 1) := by decide +kernel
theorem dX12_findHelp_61 : decode cX12_findHelp 61 = .ok (.putfield 170, 3) := by decide +kernel
theorem dX12_findHelp_64 : decode cX12_findHelp 64 = .ok (.iload 7, 2) := by decide +kernel
theorem dX12_findHelp_66 : decode cX12_findHelp 66 = .ok (.aload_n 0, 1) := by decide +kernel
theorem dX12_findHelp_67 : decode cX12_findHelp 67 = .ok (.iload_n 1, 1) := by decide +kernel
theorem dX12_findHelp_68 : decode cX12_findHelp 68 = .ok (.iload_n 2, 1) := by decide +kernel
theorem dX12_findHelp_69 : decode cX12_findHelp 69 = .ok (.iload_n 3, 1) := by decide +kernel
theorem dX12_findHelp_70 : decode cX12_findHelp 70 = .ok (.iload 4, 2) := by decide +kernel
theorem dX12_findHelp_72 : decode cX12_findHelp 72 = .ok (.iload 5, 2) := by decide +kernel
theorem dX12_findHelp_74 : decode cX12_findHelp 74 = .ok (.invokevirtual 424, 3) := by decide +kernel
theorem dX12_findHelp_77 : decode cX12_findHelp 77 = .ok (.isub, 1) := by decide +kernel
theorem dX12_findHelp_78 : decode cX12_findHelp 78 = .ok (.istore 9, 2) := by decide +kernel
theorem dX12_findHelp_80 : decode cX12_findHelp 80 = .ok (.aload_n 0, 1) := by decide +kernel
theorem dX12_findHelp_81 : decode cX12_findHelp 81 = .ok (.getfield 97, 3) := by decide +kernel
theorem dX12_findHelp_84 : decode cX12_findHelp 84 = .ok (.iload 8, 2) := by decide +kernel
theorem dX12_findHelp_86 : decode cX12_findHelp 86 = .ok (.iconst 0, 1) := by decide +kernel
theorem dX12_findHelp_87 : decode cX12_findHelp 87 = .ok (.iastore, 1) := by decide +kernel
theorem dX12_findHelp_88 : decode cX12_findHelp 88 = .ok (.aload_n 0, 1) := by decide +kernel
theorem dX12_findHelp_89 : decode cX12_findHelp 89 = .ok (.getfield 97, 3) := by decide +kernel
theorem dX12_findHelp_92 : decode cX12_findHelp 92 = .ok (.bipush 100, 2) := by decide +kernel
theorem dX12_findHelp_94 : decode cX12_findHelp 94 = .ok (.iload 8, 2) := by decide +kernel
theorem dX12_findHelp_96 : decode cX12_findHelp 96 = .ok (.iadd, 1) := by decide +kernel
theorem dX12_findHelp_97 : decode cX12_findHelp 97 = .ok (.iconst 0, 1) := by decide +kernel
theorem dX12_findHelp_98 : decode cX12_findHelp 98 = .ok (.iastore, 1) := by decide +kernel
theorem dX12_findHelp_99 : decode cX12_findHelp 99 = .ok (.iload 9, 2) := by decide +kernel
theorem dX12_findHelp_101 : decode cX12_findHelp 101 = .ok (.aload_n 0, 1) := by decide +kernel
theorem dX12_findHelp_102 : decode cX12_findHelp 102 = .ok (.getfield 421, 3) := by decide +kernel
theorem dX12_findHelp_105 : decode cX12_findHelp 105 = .ok (.if_icmp .le 15, 3) := by decide +kernel
theorem dX12_findHelp_108 : decode cX12_findHelp 108 = .ok (.aload_n 0, 1) := by decide +kernel
theorem dX12_findHelp_109 : decode cX12_findHelp 109 = .ok (.iload 9, 2) := by decide +kernel
theorem dX12_findHelp_111 : decode cX12_findHelp 111 = .ok (.putfield 421, 3) := by decide +kernel
theorem dX12_findHelp_114 : decode cX12_findHelp 114 = .ok (.aload_n 0, 1) := by decide +kernel
theorem dX12_findHelp_115 : decode cX12_findHelp 115 = .ok (.iload 8, 2) := by decide +kernel
theorem dX12_findHelp_117 : decode cX12_findHelp 117 = .ok (.putfield 418, 3) := by decide +kernel
theorem dX12_findHelp_120 : decode cX12_findHelp 120 = .ok (.iinc 8 1, 3) := by decide +kernel
theorem dX12_findHelp_123 : decode cX12_findHelp 123 = .ok (.goto (-110), 3) := by decide +kernel
theorem dX12_findHelp_126 : decode cX12_findHelp 126 = .ok (.aload_n 0, 1) := by decide +kernel
theorem dX12_findHelp_127 : decode cX12_findHelp 127 = .ok (.iconst (-1), 1) := by decide +kernel
theorem dX12_findHelp_128 : decode cX12_findHelp 128 = .ok (.putfield 170, 3) := by decide +kernel
theorem dX12_findHelp_131 : decode cX12_findHelp 131 = .ok (.return_, 1) := by decide +kernel
theorem dX12_plant_0 : decode cX12_plant 0 = .ok (.aload_n 0, 1) := by decide +kernel
theorem dX12_plant_1 : decode cX12_plant 1 = .ok (.iload_n 1, 1) := by decide +kernel
theorem dX12_plant_2 : decode cX12_plant 2 = .ok (.iload_n 2, 1) := by decide +kernel
theorem dX12_plant_3 : decode cX12_plant 3 = .ok (.iload_n 3, 1) := by decide +kernel
theorem dX12_plant_4 : decode cX12_plant 4 = .ok (.iload 4, 2) := by decide +kernel
theorem dX12_plant_6 : decode cX12_plant 6 = .ok (.iload 5, 2) := by decide +kernel
theorem dX12_plant_8 : decode cX12_plant 8 = .ok (.invokevirtual 355, 3) := by decide +kernel
theorem dX12_plant_11 : decode cX12_plant 11 = .ok (.ifCond .eq 28, 3) := by decide +kernel
theorem dX12_plant_14 : decode cX12_plant 14 = .ok (.iload 6, 2) := by decide +kernel
theorem dX12_plant_16 : decode cX12_plant 16 = .ok (.iconst 1, 1) := by decide +kernel
theorem dX12_plant_17 : decode cX12_plant 17 = .ok (.bipush 99, 2) := by decide +kernel
theorem dX12_plant_19 : decode cX12_plant 19 = .ok (.invokestatic 289, 3) := by decide +kernel
theorem dX12_plant_22 : decode cX12_plant 22 = .ok (.ifCond .eq 17, 3) := by decide +kernel
theorem dX12_plant_25 : decode cX12_plant 25 = .ok (.iload 7, 2) := by decide +kernel
theorem dX12_plant_27 : decode cX12_plant 27 = .ok (.iconst 0, 1) := by decide +kernel
theorem dX12_plant_28 : decode cX12_plant 28 = .ok (.iconst 1, 1) := by decide +kernel
theorem dX12_plant_29 : decode cX12_plant 29 = .ok (.invokestatic 289, 3) := by decide +kernel
theorem dX12_plant_32 : decode cX12_plant 32 = .ok (.ifCond .eq 7, 3) := by decide +kernel
theorem dX12_plant_35 : decode cX12_plant 35 = .ok (.iconst 1, 1) := by decide +kernel
theorem dX12_plant_36 : decode cX12_plant 36 = .ok (.goto 4, 3) := by decide +kernel
theorem dX12_plant_39 : decode cX12_plant 39 = .ok (.iconst 0, 1) := by decide +kernel
theorem dX12_plant_40 : decode cX12_plant 40 = .ok (.istore 8, 2) := by decide +kernel
theorem dX12_plant_42 : decode cX12_plant 42 = .ok (.iload 8, 2) := by decide +kernel
theorem dX12_plant_44 : decode cX12_plant 44 = .ok (.ifCond .eq 17, 3) := by decide +kernel
theorem dX12_plant_47 : decode cX12_plant 47 = .ok (.aload_n 0, 1) := by decide +kernel
theorem dX12_plant_48 : decode cX12_plant 48 = .ok (.iload_n 1, 1) := by decide +kernel
theorem dX12_plant_49 : decode cX12_plant 49 = .ok (.iload_n 2, 1) := by decide +kernel
theorem dX12_plant_50 : decode cX12_plant 50 = .ok (.iload_n 3, 1) := by decide +kernel
theorem dX12_plant_51 : decode cX12_plant 51 = .ok (.iload 4, 2) := by decide +kernel
theorem dX12_plant_53 : decode cX12_plant 53 = .ok (.iload 5, 2) := by decide +kernel
theorem dX12_plant_55 : decode cX12_plant 55 = .ok (.invokevirtual 424, 3) := by decide +kernel
theorem dX12_plant_58 : decode cX12_plant 58 = .ok (.goto 6, 3) := by decide +kernel
theorem dX12_plant_61 : decode cX12_plant 61 = .ok (.ldc_w 331, 3) := by decide +kernel
theorem dX12_plant_64 : decode cX12_plant 64 = .ok (.istore 9, 2) := by decide +kernel
theorem dX12_plant_66 : decode cX12_plant 66 = .ok (.aload_n 0, 1) := by decide +kernel
theorem dX12_plant_67 : decode cX12_plant 67 = .ok (.iload 9, 2) := by decide +kernel
theorem dX12_plant_69 : decode cX12_plant 69 = .ok (.ldc_w 331, 3) := by decide +kernel
theorem dX12_plant_72 : decode cX12_plant 72 = .ok (.if_icmp .ge 7, 3) := by decide +kernel
theorem dX12_plant_75 : decode cX12_plant 75 = .ok (.iconst 0, 1) := by decide +kernel
theorem dX12_plant_76 : decode cX12_plant 76 = .ok (.goto 4, 3) := by decide +kernel
theorem dX12_plant_79 : decode cX12_plant 79 = .ok (.iconst 1, 1) := by decide +kernel
theorem dX12_plant_80 : decode cX12_plant 80 = .ok (.putfield 1, 3) := by decide +kernel
theorem dX12_plant_83 : decode cX12_plant 83 = .ok (.aload_n 0, 1) := by decide +kernel
theorem dX12_plant_84 : decode cX12_plant 84 = .ok (.getfield 1, 3) := by decide +kernel
theorem dX12_plant_87 : decode cX12_plant 87 = .ok (.ifCond .le 5, 3) := by decide +kernel
theorem dX12_plant_90 : decode cX12_plant 90 = .ok (.iconst 0, 1) := by decide +kernel
theorem dX12_plant_91 : decode cX12_plant 91 = .ok (.ireturn, 1) := by decide +kernel
theorem dX12_plant_92 : decode cX12_plant 92 = .ok (.aload_n 0, 1) := by decide +kernel
theorem dX12_plant_93 : decode cX12_plant 93 = .ok (.iload_n 1, 1) := by decide +kernel
theorem dX12_plant_94 : decode cX12_plant 94 = .ok (.iload_n 2, 1) := by decide +kernel
theorem dX12_plant_95 : decode cX12_plant 95 = .ok (.iload_n 3, 1) := by decide +kernel
theorem dX12_plant_96 : decode cX12_plant 96 = .ok (.iload 4, 2) := by decide +kernel
theorem dX12_plant_98 : decode cX12_plant 98 = .ok (.iload 5, 2) := by decide +kernel
theorem dX12_plant_100 : decode cX12_plant 100 = .ok (.iload 6, 2) := by decide +kernel
theorem dX12_plant_102 : decode cX12_plant 102 = .ok (.iload 9, 2) := by decide +kernel
theorem dX12_plant_104 : decode cX12_plant 104 = .ok (.invokevirtual 427, 3) := by decide +kernel
theorem dX12_plant_107 : decode cX12_plant 107 = .ok (.iload 7, 2) := by decide +kernel
theorem dX12_plant_109 : decode cX12_plant 109 = .ok (.ifCond .ne 10, 3) := by decide +kernel
theorem dX12_plant_112 : decode cX12_plant 112 = .ok (.aload_n 0, 1) := by decide +kernel
theorem dX12_plant_113 : decode cX12_plant 113 = .ok (.getfield 418, 3) := by decide +kernel
theorem dX12_plant_116 : decode cX12_plant 116 = .ok (.goto 7, 3) := by decide +kernel
theorem dX12_plant_119 : decode cX12_plant 119 = .ok (.aload_n 0, 1) := by decide +kernel
theorem dX12_plant_120 : decode cX12_plant 120 = .ok (.getfield 421, 3) := by decide +kernel
theorem dX12_plant_123 : decode cX12_plant 123 = .ok (.ireturn, 1) := by decide +kernel
theorem dX12_cover_0 : decode cX12_cover 0 = .ok (.aload_n 0, 1) := by decide +kernel
theorem dX12_cover_1 : decode cX12_cover 1 = .ok (.iload_n 1, 1) := by decide +kernel
theorem dX12_cover_2 : decode cX12_cover 2 = .ok (.iload_n 2, 1) := by decide +kernel
theorem dX12_cover_3 : decode cX12_cover 3 = .ok (.iload_n 3, 1) := by decide +kernel
theorem dX12_cover_4 : decode cX12_cover 4 = .ok (.iload 4, 2) := by decide +kernel
theorem dX12_cover_6 : decode cX12_cover 6 = .ok (.iload 5, 2) := by decide +kernel
theorem dX12_cover_8 : decode cX12_cover 8 = .ok (.invokevirtual 355, 3) := by decide +kernel
theorem dX12_cover_11 : decode cX12_cover 11 = .ok (.ifCond .eq 17, 3) := by decide +kernel
theorem dX12_cover_14 : decode cX12_cover 14 = .ok (.iload 6, 2) := by decide +kernel
theorem dX12_cover_16 : decode cX12_cover 16 = .ok (.iconst 0, 1) := by decide +kernel
theorem dX12_cover_17 : decode cX12_cover 17 = .ok (.iconst 1, 1) := by decide +kernel
theorem dX12_cover_18 : decode cX12_cover 18 = .ok (.invokestatic 289, 3) := by decide +kernel
theorem dX12_cover_21 : decode cX12_cover 21 = .ok (.ifCond .eq 7, 3) := by decide +kernel
theorem dX12_cover_24 : decode cX12_cover 24 = .ok (.iconst 1, 1) := by decide +kernel
theorem dX12_cover_25 : decode cX12_cover 25 = .ok (.goto 4, 3) := by decide +kernel
theorem dX12_cover_28 : decode cX12_cover 28 = .ok (.iconst 0, 1) := by decide +kernel
theorem dX12_cover_29 : decode cX12_cover 29 = .ok (.istore 7, 2) := by decide +kernel
theorem dX12_cover_31 : decode cX12_cover 31 = .ok (.iload 7, 2) := by decide +kernel
theorem dX12_cover_33 : decode cX12_cover 33 = .ok (.ifCond .eq 17, 3) := by decide +kernel
theorem dX12_cover_36 : decode cX12_cover 36 = .ok (.aload_n 0, 1) := by decide +kernel
theorem dX12_cover_37 : decode cX12_cover 37 = .ok (.iload_n 1, 1) := by decide +kernel
theorem dX12_cover_38 : decode cX12_cover 38 = .ok (.iload_n 2, 1) := by decide +kernel
theorem dX12_cover_39 : decode cX12_cover 39 = .ok (.iload_n 3, 1) := by decide +kernel
theorem dX12_cover_40 : decode cX12_cover 40 = .ok (.iload 4, 2) := by decide +kernel
theorem dX12_cover_42 : decode cX12_cover 42 = .ok (.iload 5, 2) := by decide +kernel
theorem dX12_cover_44 : decode cX12_cover 44 = .ok (.invokevirtual 424, 3) := by decide +kernel
theorem dX12_cover_47 : decode cX12_cover 47 = .ok (.goto 6, 3) := by decide +kernel
theorem dX12_cover_50 : decode cX12_cover 50 = .ok (.ldc_w 331, 3) := by decide +kernel
theorem dX12_cover_53 : decode cX12_cover 53 = .ok (.istore 8, 2) := by decide +kernel
theorem dX12_cover_55 : decode cX12_cover 55 = .ok (.aload_n 0, 1) := by decide +kernel
theorem dX12_cover_56 : decode cX12_cover 56 = .ok (.iload 8, 2) := by decide +kernel
theorem dX12_cover_58 : decode cX12_cover 58 = .ok (.ldc_w 331, 3) := by decide +kernel
theorem dX12_cover_61 : decode cX12_cover 61 = .ok (.if_icmp .ge 7, 3) := by decide +kernel
theorem dX12_cover_64 : decode cX12_cover 64 = .ok (.iconst 0, 1) := by decide +kernel
theorem dX12_cover_65 : decode cX12_cover 65 = .ok (.goto 4, 3) := by decide +kernel
theorem dX12_cover_68 : decode cX12_cover 68 = .ok (.iconst 1, 1) := by decide +kernel
theorem dX12_cover_69 : decode cX12_cover 69 = .ok (.putfield 1, 3) := by decide +kernel
theorem dX12_cover_72 : decode cX12_cover 72 = .ok (.aload_n 0, 1) := by decide +kernel
theorem dX12_cover_73 : decode cX12_cover 73 = .ok (.getfield 1, 3) := by decide +kernel
theorem dX12_cover_76 : decode cX12_cover 76 = .ok (.ifCond .le 5, 3) := by decide +kernel
theorem dX12_cover_79 : decode cX12_cover 79 = .ok (.iconst 0, 1) := by decide +kernel
theorem dX12_cover_80 : decode cX12_cover 80 = .ok (.ireturn, 1) := by decide +kernel
theorem dX12_cover_81 : decode cX12_cover 81 = .ok (.aload_n 0, 1) := by decide +kernel
theorem dX12_cover_82 : decode cX12_cover 82 = .ok (.iload_n 1, 1) := by decide +kernel
theorem dX12_cover_83 : decode cX12_cover 83 = .ok (.iload_n 2, 1) := by decide +kernel
theorem dX12_cover_84 : decode cX12_cover 84 = .ok (.iload_n 3, 1) := by decide +kernel
theorem dX12_cover_85 : decode cX12_cover 85 = .ok (.iload 4, 2) := by decide +kernel
theorem dX12_cover_87 : decode cX12_cover 87 = .ok (.iload 5, 2) := by decide +kernel
theorem dX12_cover_89 : decode cX12_cover 89 = .ok (.iconst 0, 1) := by decide +kernel
theorem dX12_cover_90 : decode cX12_cover 90 = .ok (.iload 8, 2) := by decide +kernel
theorem dX12_cover_92 : decode cX12_cover 92 = .ok (.invokevirtual 427, 3) := by decide +kernel
theorem dX12_cover_95 : decode cX12_cover 95 = .ok (.iload 6, 2) := by decide +kernel
theorem dX12_cover_97 : decode cX12_cover 97 = .ok (.ifCond .ne 10, 3) := by decide +kernel
theorem dX12_cover_100 : decode cX12_cover 100 = .ok (.aload_n 0, 1) := by decide +kernel
theorem dX12_cover_101 : decode cX12_cover 101 = .ok (.getfield 418, 3) := by decide +kernel
theorem dX12_cover_104 : decode cX12_cover 104 = .ok (.goto 7, 3) := by decide +kernel
theorem dX12_cover_107 : decode cX12_cover 107 = .ok (.aload_n 0, 1) := by decide +kernel
theorem dX12_cover_108 : decode cX12_cover 108 = .ok (.getfield 421, 3) := by decide +kernel
theorem dX12_cover_111 : decode cX12_cover 111 = .ok (.ireturn, 1) := by decide +kernel
theorem dX12_spot_0 : decode cX12_spot 0 = .ok (.aload_n 0, 1) := by decide +kernel
theorem dX12_spot_1 : decode cX12_spot 1 = .ok (.iconst 0, 1) := by decide +kernel
theorem dX12_spot_2 : decode cX12_spot 2 = .ok (.putfield 1, 3) := by decide +kernel
theorem dX12_spot_5 : decode cX12_spot 5 = .ok (.iload_n 1, 1) := by decide +kernel
theorem dX12_spot_6 : decode cX12_spot 6 = .ok (.invokestatic 310, 3) := by decide +kernel
theorem dX12_spot_9 : decode cX12_spot 9 = .ok (.ifCond .eq 21, 3) := by decide +kernel
theorem dX12_spot_12 : decode cX12_spot 12 = .ok (.aload_n 0, 1) := by decide +kernel
theorem dX12_spot_13 : decode cX12_spot 13 = .ok (.getfield 97, 3) := by decide +kernel
theorem dX12_spot_16 : decode cX12_spot 16 = .ok (.iload_n 1, 1) := by decide +kernel
theorem dX12_spot_17 : decode cX12_spot 17 = .ok (.iaload, 1) := by decide +kernel
theorem dX12_spot_18 : decode cX12_spot 18 = .ok (.ifCond .ne 12, 3) := by decide +kernel
theorem dX12_spot_21 : decode cX12_spot 21 = .ok (.aload_n 0, 1) := by decide +kernel
theorem dX12_spot_22 : decode cX12_spot 22 = .ok (.getfield 231, 3) := by decide +kernel
theorem dX12_spot_25 : decode cX12_spot 25 = .ok (.bipush 8, 2) := by decide +kernel
theorem dX12_spot_27 : decode cX12_spot 27 = .ok (.if_icmp .ne 5, 3) := by decide +kernel
theorem dX12_spot_30 : decode cX12_spot 30 = .ok (.iconst (-1), 1) := by decide +kernel
theorem dX12_spot_31 : decode cX12_spot 31 = .ok (.ireturn, 1) := by decide +kernel
theorem dX12_spot_32 : decode cX12_spot 32 = .ok (.iconst 0, 1) := by decide +kernel
theorem dX12_spot_33 : decode cX12_spot 33 = .ok (.istore_n 2, 1) := by decide +kernel
theorem dX12_spot_34 : decode cX12_spot 34 = .ok (.iload_n 2, 1) := by decide +kernel
theorem dX12_spot_35 : decode cX12_spot 35 = .ok (.aload_n 0, 1) := by decide +kernel
theorem dX12_spot_36 : decode cX12_spot 36 = .ok (.getfield 231, 3) := by decide +kernel
theorem dX12_spot_39 : decode cX12_spot 39 = .ok (.if_icmp .ge 21, 3) := by decide +kernel
theorem dX12_spot_42 : decode cX12_spot 42 = .ok (.aload_n 0, 1) := by decide +kernel
theorem dX12_spot_43 : decode cX12_spot 43 = .ok (.getfield 149, 3) := by decide +kernel
theorem dX12_spot_46 : decode cX12_spot 46 = .ok (.iload_n 2, 1) := by decide +kernel
theorem dX12_spot_47 : decode cX12_spot 47 = .ok (.iaload, 1) := by decide +kernel
theorem dX12_spot_48 : decode cX12_spot 48 = .ok (.iload_n 1, 1) := by decide +kernel
theorem dX12_spot_49 : decode cX12_spot 49 = .ok (.if_icmp .ne 5, 3) := by decide +kernel
theorem dX12_spot_52 : decode cX12_spot 52 = .ok (.iconst (-1), 1) := by decide +kernel
theorem dX12_spot_53 : decode cX12_spot 53 = .ok (.ireturn, 1) := by decide +kernel
theorem dX12_spot_54 : decode cX12_spot 54 = .ok (.iinc 2 1, 3) := by decide +kernel
theorem dX12_spot_57 : decode cX12_spot 57 = .ok (.goto (-23), 3) := by decide +kernel
theorem dX12_spot_60 : decode cX12_spot 60 = .ok (.aload_n 0, 1) := by decide +kernel
theorem dX12_spot_61 : decode cX12_spot 61 = .ok (.getfield 149, 3) := by decide +kernel
theorem dX12_spot_64 : decode cX12_spot 64 = .ok (.aload_n 0, 1) := by decide +kernel
theorem dX12_spot_65 : decode cX12_spot 65 = .ok (.getfield 231, 3) := by decide +kernel
theorem dX12_spot_68 : decode cX12_spot 68 = .ok (.iload_n 1, 1) := by decide +kernel
theorem dX12_spot_69 : decode cX12_spot 69 = .ok (.iastore, 1) := by decide +kernel
theorem dX12_spot_70 : decode cX12_spot 70 = .ok (.aload_n 0, 1) := by decide +kernel
theorem dX12_spot_71 : decode cX12_spot 71 = .ok (.dup, 1) := by decide +kernel
theorem dX12_spot_72 : decode cX12_spot 72 = .ok (.getfield 231, 3) := by decide +kernel
theorem dX12_spot_75 : decode cX12_spot 75 = .ok (.iconst 1, 1) := by decide +kernel
theorem dX12_spot_76 : decode cX12_spot 76 = .ok (.iadd, 1) := by decide +kernel
theorem dX12_spot_77 : decode cX12_spot 77 = .ok (.putfield 231, 3) := by decide +kernel
theorem dX12_spot_80 : decode cX12_spot 80 = .ok (.aload_n 0, 1) := by decide +kernel
theorem dX12_spot_81 : decode cX12_spot 81 = .ok (.getfield 231, 3) := by decide +kernel
theorem dX12_spot_84 : decode cX12_spot 84 = .ok (.iconst 1, 1) := by decide +kernel
theorem dX12_spot_85 : decode cX12_spot 85 = .ok (.isub, 1) := by decide +kernel
theorem dX12_spot_86 : decode cX12_spot 86 = .ok (.ireturn, 1) := by decide +kernel
theorem dX12_bits_0 : decode cX12_bits 0 = .ok (.iconst 0, 1) := by decide +kernel
theorem dX12_bits_1 : decode cX12_bits 1 = .ok (.istore_n 1, 1) := by decide +kernel
theorem dX12_bits_2 : decode cX12_bits 2 = .ok (.iconst 0, 1) := by decide +kernel
theorem dX12_bits_3 : decode cX12_bits 3 = .ok (.istore_n 2, 1) := by decide +kernel
theorem dX12_bits_4 : decode cX12_bits 4 = .ok (.iload_n 2, 1) := by decide +kernel
theorem dX12_bits_5 : decode cX12_bits 5 = .ok (.bipush 8, 2) := by decide +kernel
theorem dX12_bits_7 : decode cX12_bits 7 = .ok (.if_icmp .ge 17, 3) := by decide +kernel
theorem dX12_bits_10 : decode cX12_bits 10 = .ok (.iload_n 1, 1) := by decide +kernel
theorem dX12_bits_11 : decode cX12_bits 11 = .ok (.iload_n 0, 1) := by decide +kernel
theorem dX12_bits_12 : decode cX12_bits 12 = .ok (.iload_n 2, 1) := by decide +kernel
theorem dX12_bits_13 : decode cX12_bits 13 = .ok (.ishr, 1) := by decide +kernel
theorem dX12_bits_14 : decode cX12_bits 14 = .ok (.iconst 1, 1) := by decide +kernel
theorem dX12_bits_15 : decode cX12_bits 15 = .ok (.iand, 1) := by decide +kernel
theorem dX12_bits_16 : decode cX12_bits 16 = .ok (.iadd, 1) := by decide +kernel
theorem dX12_bits_17 : decode cX12_bits 17 = .ok (.istore_n 1, 1) := by decide +kernel
theorem dX12_bits_18 : decode cX12_bits 18 = .ok (.iinc 2 1, 3) := by decide +kernel
theorem dX12_bits_21 : decode cX12_bits 21 = .ok (.goto (-17), 3) := by decide +kernel
theorem dX12_bits_24 : decode cX12_bits 24 = .ok (.iload_n 1, 1) := by decide +kernel
theorem dX12_bits_25 : decode cX12_bits 25 = .ok (.ireturn, 1) := by decide +kernel
theorem dX12_trees_0 : decode cX12_trees 0 = .ok (.iconst 0, 1) := by decide +kernel
theorem dX12_trees_1 : decode cX12_trees 1 = .ok (.istore_n 3, 1) := by decide +kernel
theorem dX12_trees_2 : decode cX12_trees 2 = .ok (.iload_n 3, 1) := by decide +kernel
theorem dX12_trees_3 : decode cX12_trees 3 = .ok (.aload_n 0, 1) := by decide +kernel
theorem dX12_trees_4 : decode cX12_trees 4 = .ok (.getfield 231, 3) := by decide +kernel
theorem dX12_trees_7 : decode cX12_trees 7 = .ok (.if_icmp .ge 53, 3) := by decide +kernel
theorem dX12_trees_10 : decode cX12_trees 10 = .ok (.iload_n 1, 1) := by decide +kernel
theorem dX12_trees_11 : decode cX12_trees 11 = .ok (.iload_n 3, 1) := by decide +kernel
theorem dX12_trees_12 : decode cX12_trees 12 = .ok (.ishr, 1) := by decide +kernel
theorem dX12_trees_13 : decode cX12_trees 13 = .ok (.iconst 1, 1) := by decide +kernel
theorem dX12_trees_14 : decode cX12_trees 14 = .ok (.iand, 1) := by decide +kernel
theorem dX12_trees_15 : decode cX12_trees 15 = .ok (.iconst 1, 1) := by decide +kernel
theorem dX12_trees_16 : decode cX12_trees 16 = .ok (.if_icmp .ne 38, 3) := by decide +kernel
theorem dX12_trees_19 : decode cX12_trees 19 = .ok (.aload_n 0, 1) := by decide +kernel
theorem dX12_trees_20 : decode cX12_trees 20 = .ok (.getfield 97, 3) := by decide +kernel
theorem dX12_trees_23 : decode cX12_trees 23 = .ok (.aload_n 0, 1) := by decide +kernel
theorem dX12_trees_24 : decode cX12_trees 24 = .ok (.getfield 149, 3) := by decide +kernel
theorem dX12_trees_27 : decode cX12_trees 27 = .ok (.iload_n 3, 1) := by decide +kernel
theorem dX12_trees_28 : decode cX12_trees 28 = .ok (.iaload, 1) := by decide +kernel
theorem dX12_trees_29 : decode cX12_trees 29 = .ok (.iload_n 2, 1) := by decide +kernel
theorem dX12_trees_30 : decode cX12_trees 30 = .ok (.ifCond .le 7, 3) := by decide +kernel
theorem dX12_trees_33 : decode cX12_trees 33 = .ok (.iconst 2, 1) := by decide +kernel
theorem dX12_trees_34 : decode cX12_trees 34 = .ok (.goto 4, 3) := by decide +kernel
theorem dX12_trees_37 : decode cX12_trees 37 = .ok (.iconst 0, 1) := by decide +kernel
theorem dX12_trees_38 : decode cX12_trees 38 = .ok (.iastore, 1) := by decide +kernel
theorem dX12_trees_39 : decode cX12_trees 39 = .ok (.aload_n 0, 1) := by decide +kernel
theorem dX12_trees_40 : decode cX12_trees 40 = .ok (.getfield 97, 3) := by decide +kernel
theorem dX12_trees_43 : decode cX12_trees 43 = .ok (.bipush 100, 2) := by decide +kernel
theorem dX12_trees_45 : decode cX12_trees 45 = .ok (.aload_n 0, 1) := by decide +kernel
theorem dX12_trees_46 : decode cX12_trees 46 = .ok (.getfield 149, 3) := by decide +kernel
theorem dX12_trees_49 : decode cX12_trees 49 = .ok (.iload_n 3, 1) := by decide +kernel
theorem dX12_trees_50 : decode cX12_trees 50 = .ok (.iaload, 1) := by decide +kernel
theorem dX12_trees_51 : decode cX12_trees 51 = .ok (.iadd, 1) := by decide +kernel
theorem dX12_trees_52 : decode cX12_trees 52 = .ok (.iload_n 2, 1) := by decide +kernel
theorem dX12_trees_53 : decode cX12_trees 53 = .ok (.iastore, 1) := by decide +kernel
theorem dX12_trees_54 : decode cX12_trees 54 = .ok (.iinc 3 1, 3) := by decide +kernel
theorem dX12_trees_57 : decode cX12_trees 57 = .ok (.goto (-55), 3) := by decide +kernel
theorem dX12_trees_60 : decode cX12_trees 60 = .ok (.aload_n 0, 1) := by decide +kernel
theorem dX12_trees_61 : decode cX12_trees 61 = .ok (.iconst (-1), 1) := by decide +kernel
theorem dX12_trees_62 : decode cX12_trees 62 = .ok (.putfield 170, 3) := by decide +kernel
theorem dX12_trees_65 : decode cX12_trees 65 = .ok (.return_, 1) := by decide +kernel
theorem dX12_spots_0 : decode cX12_spots 0 = .ok (.aload_n 0, 1) := by decide +kernel
theorem dX12_spots_1 : decode cX12_spots 1 = .ok (.iload_n 1, 1) := by decide +kernel
theorem dX12_spots_2 : decode cX12_spots 2 = .ok (.iload_n 2, 1) := by decide +kernel
theorem dX12_spots_3 : decode cX12_spots 3 = .ok (.iload_n 3, 1) := by decide +kernel
theorem dX12_spots_4 : decode cX12_spots 4 = .ok (.iload 4, 2) := by decide +kernel
theorem dX12_spots_6 : decode cX12_spots 6 = .ok (.iload 5, 2) := by decide +kernel
theorem dX12_spots_8 : decode cX12_spots 8 = .ok (.invokevirtual 355, 3) := by decide +kernel
theorem dX12_spots_11 : decode cX12_spots 11 = .ok (.ifCond .eq 39, 3) := by decide +kernel
theorem dX12_spots_14 : decode cX12_spots 14 = .ok (.iload 6, 2) := by decide +kernel
theorem dX12_spots_16 : decode cX12_spots 16 = .ok (.iconst 1, 1) := by decide +kernel
theorem dX12_spots_17 : decode cX12_spots 17 = .ok (.bipush 99, 2) := by decide +kernel
theorem dX12_spots_19 : decode cX12_spots 19 = .ok (.invokestatic 289, 3) := by decide +kernel
theorem dX12_spots_22 : decode cX12_spots 22 = .ok (.ifCond .eq 28, 3) := by decide +kernel
theorem dX12_spots_25 : decode cX12_spots 25 = .ok (.iload 7, 2) := by decide +kernel
theorem dX12_spots_27 : decode cX12_spots 27 = .ok (.iconst 1, 1) := by decide +kernel
theorem dX12_spots_28 : decode cX12_spots 28 = .ok (.bipush 8, 2) := by decide +kernel
theorem dX12_spots_30 : decode cX12_spots 30 = .ok (.invokestatic 289, 3) := by decide +kernel
theorem dX12_spots_33 : decode cX12_spots 33 = .ok (.ifCond .eq 17, 3) := by decide +kernel
theorem dX12_spots_36 : decode cX12_spots 36 = .ok (.iload 8, 2) := by decide +kernel
theorem dX12_spots_38 : decode cX12_spots 38 = .ok (.iconst 0, 1) := by decide +kernel
theorem dX12_spots_39 : decode cX12_spots 39 = .ok (.iconst 1, 1) := by decide +kernel
theorem dX12_spots_40 : decode cX12_spots 40 = .ok (.invokestatic 289, 3) := by decide +kernel
theorem dX12_spots_43 : decode cX12_spots 43 = .ok (.ifCond .eq 7, 3) := by decide +kernel
theorem dX12_spots_46 : decode cX12_spots 46 = .ok (.iconst 1, 1) := by decide +kernel
theorem dX12_spots_47 : decode cX12_spots 47 = .ok (.goto 4, 3) := by decide +kernel
theorem dX12_spots_50 : decode cX12_spots 50 = .ok (.iconst 0, 1) := by decide +kernel
theorem dX12_spots_51 : decode cX12_spots 51 = .ok (.istore 9, 2) := by decide +kernel
theorem dX12_spots_53 : decode cX12_spots 53 = .ok (.iload 9, 2) := by decide +kernel
theorem dX12_spots_55 : decode cX12_spots 55 = .ok (.ifCond .eq 17, 3) := by decide +kernel
theorem dX12_spots_58 : decode cX12_spots 58 = .ok (.aload_n 0, 1) := by decide +kernel
theorem dX12_spots_59 : decode cX12_spots 59 = .ok (.iload_n 1, 1) := by decide +kernel
theorem dX12_spots_60 : decode cX12_spots 60 = .ok (.iload_n 2, 1) := by decide +kernel
theorem dX12_spots_61 : decode cX12_spots 61 = .ok (.iload_n 3, 1) := by decide +kernel
theorem dX12_spots_62 : decode cX12_spots 62 = .ok (.iload 4, 2) := by decide +kernel
theorem dX12_spots_64 : decode cX12_spots 64 = .ok (.iload 5, 2) := by decide +kernel
theorem dX12_spots_66 : decode cX12_spots 66 = .ok (.invokevirtual 424, 3) := by decide +kernel
theorem dX12_spots_69 : decode cX12_spots 69 = .ok (.goto 6, 3) := by decide +kernel
theorem dX12_spots_72 : decode cX12_spots 72 = .ok (.ldc_w 331, 3) := by decide +kernel
theorem dX12_spots_75 : decode cX12_spots 75 = .ok (.istore 10, 2) := by decide +kernel
theorem dX12_spots_77 : decode cX12_spots 77 = .ok (.aload_n 0, 1) := by decide +kernel
theorem dX12_spots_78 : decode cX12_spots 78 = .ok (.iload 10, 2) := by decide +kernel
theorem dX12_spots_80 : decode cX12_spots 80 = .ok (.ldc_w 331, 3) := by decide +kernel
theorem dX12_spots_83 : decode cX12_spots 83 = .ok (.if_icmp .ge 7, 3) := by decide +kernel
theorem dX12_spots_86 : decode cX12_spots 86 = .ok (.iconst 0, 1) := by decide +kernel
theorem dX12_spots_87 : decode cX12_spots 87 = .ok (.goto 4, 3) := by decide +kernel
theorem dX12_spots_90 : decode cX12_spots 90 = .ok (.iconst 1, 1) := by decide +kernel
theorem dX12_spots_91 : decode cX12_spots 91 = .ok (.putfield 1, 3) := by decide +kernel
theorem dX12_spots_94 : decode cX12_spots 94 = .ok (.aload_n 0, 1) := by decide +kernel
theorem dX12_spots_95 : decode cX12_spots 95 = .ok (.getfield 1, 3) := by decide +kernel
theorem dX12_spots_98 : decode cX12_spots 98 = .ok (.ifCond .le 5, 3) := by decide +kernel
theorem dX12_spots_101 : decode cX12_spots 101 = .ok (.iconst 0, 1) := by decide +kernel
theorem dX12_spots_102 : decode cX12_spots 102 = .ok (.ireturn, 1) := by decide +kernel
theorem dX12_spots_103 : decode cX12_spots 103 = .ok (.iconst 0, 1) := by decide +kernel
theorem dX12_spots_104 : decode cX12_spots 104 = .ok (.istore 11, 2) := by decide +kernel
theorem dX12_spots_106 : decode cX12_spots 106 = .ok (.iconst 1, 1) := by decide +kernel
theorem dX12_spots_107 : decode cX12_spots 107 = .ok (.istore 12, 2) := by decide +kernel
theorem dX12_spots_109 : decode cX12_spots 109 = .ok (.iload 12, 2) := by decide +kernel
theorem dX12_spots_111 : decode cX12_spots 111 = .ok (.iconst 1, 1) := by decide +kernel
theorem dX12_spots_112 : decode cX12_spots 112 = .ok (.aload_n 0, 1) := by decide +kernel
theorem dX12_spots_113 : decode cX12_spots 113 = .ok (.getfield 231, 3) := by decide +kernel
theorem dX12_spots_116 : decode cX12_spots 116 = .ok (.ishl, 1) := by decide +kernel
theorem dX12_spots_117 : decode cX12_spots 117 = .ok (.if_icmp .ge 82, 3) := by decide +kernel
theorem dX12_spots_120 : decode cX12_spots 120 = .ok (.iload 12, 2) := by decide +kernel
theorem dX12_spots_122 : decode cX12_spots 122 = .ok (.invokestatic 431, 3) := by decide +kernel
theorem dX12_spots_125 : decode cX12_spots 125 = .ok (.iload 7, 2) := by decide +kernel
theorem dX12_spots_127 : decode cX12_spots 127 = .ok (.if_icmp .gt 66, 3) := by decide +kernel
theorem dX12_spots_130 : decode cX12_spots 130 = .ok (.aload_n 0, 1) := by decide +kernel
theorem dX12_spots_131 : decode cX12_spots 131 = .ok (.iload 12, 2) := by decide +kernel
theorem dX12_spots_133 : decode cX12_spots 133 = .ok (.iload 6, 2) := by decide +kernel
theorem dX12_spots_135 : decode cX12_spots 135 = .ok (.invokevirtual 434, 3) := by decide +kernel
theorem dX12_spots_138 : decode cX12_spots 138 = .ok (.aload_n 0, 1) := by decide +kernel
theorem dX12_spots_139 : decode cX12_spots 139 = .ok (.iload_n 1, 1) := by decide +kernel
theorem dX12_spots_140 : decode cX12_spots 140 = .ok (.iload_n 2, 1) := by decide +kernel
theorem dX12_spots_141 : decode cX12_spots 141 = .ok (.iload_n 3, 1) := by decide +kernel
theorem dX12_spots_142 : decode cX12_spots 142 = .ok (.iload 4, 2) := by decide +kernel
theorem dX12_spots_144 : decode cX12_spots 144 = .ok (.iload 5, 2) := by decide +kernel
theorem dX12_spots_146 : decode cX12_spots 146 = .ok (.invokevirtual 424, 3) := by decide +kernel
theorem dX12_spots_149 : decode cX12_spots 149 = .ok (.istore 13, 2) := by decide +kernel
theorem dX12_spots_151 : decode cX12_spots 151 = .ok (.aload_n 0, 1) := by decide +kernel
theorem dX12_spots_152 : decode cX12_spots 152 = .ok (.iload 12, 2) := by decide +kernel
theorem dX12_spots_154 : decode cX12_spots 154 = .ok (.iconst 0, 1) := by decide +kernel
theorem dX12_spots_155 : decode cX12_spots 155 = .ok (.invokevirtual 434, 3) := by decide +kernel
theorem dX12_spots_158 : decode cX12_spots 158 = .ok (.iload 13, 2) := by decide +kernel
theorem dX12_spots_160 : decode cX12_spots 160 = .ok (.iload 10, 2) := by decide +kernel
theorem dX12_spots_162 : decode cX12_spots 162 = .ok (.if_icmp .lt 23, 3) := by decide +kernel
theorem dX12_spots_165 : decode cX12_spots 165 = .ok (.iload 13, 2) := by decide +kernel
theorem dX12_spots_167 : decode cX12_spots 167 = .ok (.iload 10, 2) := by decide +kernel
theorem dX12_spots_169 : decode cX12_spots 169 = .ok (.if_icmp .ne 24, 3) := by decide +kernel
theorem dX12_spots_172 : decode cX12_spots 172 = .ok (.iload 12, 2) := by decide +kernel
theorem dX12_spots_174 : decode cX12_spots 174 = .ok (.invokestatic 431, 3) := by decide +kernel
theorem dX12_spots_177 : decode cX12_spots 177 = .ok (.iload 11, 2) := by decide +kernel
theorem dX12_spots_179 : decode cX12_spots 179 = .ok (.invokestatic 431, 3) := by decide +kernel
theorem dX12_spots_182 : decode cX12_spots 182 = .ok (.if_icmp .ge 11, 3) := by decide +kernel
theorem dX12_spots_185 : decode cX12_spots 185 = .ok (.iload 13, 2) := by decide +kernel
theorem dX12_spots_187 : decode cX12_spots 187 = .ok (.istore 10, 2) := by decide +kernel
theorem dX12_spots_189 : decode cX12_spots 189 = .ok (.iload 12, 2) := by decide +kernel
theorem dX12_spots_191 : decode cX12_spots 191 = .ok (.istore 11, 2) := by decide +kernel
theorem dX12_spots_193 : decode cX12_spots 193 = .ok (.iinc 12 1, 3) := by decide +kernel
theorem dX12_spots_196 : decode cX12_spots 196 = .ok (.goto (-87), 3) := by decide +kernel
theorem dX12_spots_199 : decode cX12_spots 199 = .ok (.iload 8, 2) := by decide +kernel
theorem dX12_spots_201 : decode cX12_spots 201 = .ok (.ifCond .ne 8, 3) := by decide +kernel
theorem dX12_spots_204 : decode cX12_spots 204 = .ok (.iload 11, 2) := by decide +kernel
theorem dX12_spots_206 : decode cX12_spots 206 = .ok (.goto 5, 3) := by decide +kernel
theorem dX12_spots_209 : decode cX12_spots 209 = .ok (.iload 10, 2) := by decide +kernel
theorem dX12_spots_211 : decode cX12_spots 211 = .ok (.ireturn, 1) := by decide +kernel
theorem dX12_pull_0 : decode cX12_pull 0 = .ok (.aload_n 0, 1) := by decide +kernel
theorem dX12_pull_1 : decode cX12_pull 1 = .ok (.iconst 0, 1) := by decide +kernel
theorem dX12_pull_2 : decode cX12_pull 2 = .ok (.putfield 1, 3) := by decide +kernel
theorem dX12_pull_5 : decode cX12_pull 5 = .ok (.iload_n 1, 1) := by decide +kernel
theorem dX12_pull_6 : decode cX12_pull 6 = .ok (.invokestatic 310, 3) := by decide +kernel
theorem dX12_pull_9 : decode cX12_pull 9 = .ok (.ifCond .eq 13, 3) := by decide +kernel
theorem dX12_pull_12 : decode cX12_pull 12 = .ok (.aload_n 0, 1) := by decide +kernel
theorem dX12_pull_13 : decode cX12_pull 13 = .ok (.getfield 97, 3) := by decide +kernel
theorem dX12_pull_16 : decode cX12_pull 16 = .ok (.iload_n 1, 1) := by decide +kernel
theorem dX12_pull_17 : decode cX12_pull 17 = .ok (.iaload, 1) := by decide +kernel
theorem dX12_pull_18 : decode cX12_pull 18 = .ok (.iconst 1, 1) := by decide +kernel
theorem dX12_pull_19 : decode cX12_pull 19 = .ok (.if_icmp .eq 5, 3) := by decide +kernel
theorem dX12_pull_22 : decode cX12_pull 22 = .ok (.iconst 0, 1) := by decide +kernel
theorem dX12_pull_23 : decode cX12_pull 23 = .ok (.ireturn, 1) := by decide +kernel
theorem dX12_pull_24 : decode cX12_pull 24 = .ok (.aload_n 0, 1) := by decide +kernel
theorem dX12_pull_25 : decode cX12_pull 25 = .ok (.getfield 97, 3) := by decide +kernel
theorem dX12_pull_28 : decode cX12_pull 28 = .ok (.iload_n 1, 1) := by decide +kernel
theorem dX12_pull_29 : decode cX12_pull 29 = .ok (.iconst 0, 1) := by decide +kernel
theorem dX12_pull_30 : decode cX12_pull 30 = .ok (.iastore, 1) := by decide +kernel
theorem dX12_pull_31 : decode cX12_pull 31 = .ok (.aload_n 0, 1) := by decide +kernel
theorem dX12_pull_32 : decode cX12_pull 32 = .ok (.getfield 97, 3) := by decide +kernel
theorem dX12_pull_35 : decode cX12_pull 35 = .ok (.bipush 100, 2) := by decide +kernel
theorem dX12_pull_37 : decode cX12_pull 37 = .ok (.iload_n 1, 1) := by decide +kernel
theorem dX12_pull_38 : decode cX12_pull 38 = .ok (.iadd, 1) := by decide +kernel
theorem dX12_pull_39 : decode cX12_pull 39 = .ok (.iconst 0, 1) := by decide +kernel
theorem dX12_pull_40 : decode cX12_pull 40 = .ok (.iastore, 1) := by decide +kernel
theorem dX12_pull_41 : decode cX12_pull 41 = .ok (.aload_n 0, 1) := by decide +kernel
theorem dX12_pull_42 : decode cX12_pull 42 = .ok (.iconst (-1), 1) := by decide +kernel
theorem dX12_pull_43 : decode cX12_pull 43 = .ok (.putfield 170, 3) := by decide +kernel
theorem dX12_pull_46 : decode cX12_pull 46 = .ok (.iconst 1, 1) := by decide +kernel
theorem dX12_pull_47 : decode cX12_pull 47 = .ok (.ireturn, 1) := by decide +kernel
theorem dX12_keeps_0 : decode cX12_keeps 0 = .ok (.aload_n 0, 1) := by decide +kernel
theorem dX12_keeps_1 : decode cX12_keeps 1 = .ok (.iload_n 1, 1) := by decide +kernel
theorem dX12_keeps_2 : decode cX12_keeps 2 = .ok (.iload_n 2, 1) := by decide +kernel
theorem dX12_keeps_3 : decode cX12_keeps 3 = .ok (.iload_n 3, 1) := by decide +kernel
theorem dX12_keeps_4 : decode cX12_keeps 4 = .ok (.iload 4, 2) := by decide +kernel
theorem dX12_keeps_6 : decode cX12_keeps 6 = .ok (.iload 5, 2) := by decide +kernel
theorem dX12_keeps_8 : decode cX12_keeps 8 = .ok (.invokevirtual 355, 3) := by decide +kernel
theorem dX12_keeps_11 : decode cX12_keeps 11 = .ok (.ifCond .eq 26, 3) := by decide +kernel
theorem dX12_keeps_14 : decode cX12_keeps 14 = .ok (.iload 6, 2) := by decide +kernel
theorem dX12_keeps_16 : decode cX12_keeps 16 = .ok (.invokestatic 310, 3) := by decide +kernel
theorem dX12_keeps_19 : decode cX12_keeps 19 = .ok (.ifCond .eq 18, 3) := by decide +kernel
theorem dX12_keeps_22 : decode cX12_keeps 22 = .ok (.aload_n 0, 1) := by decide +kernel
theorem dX12_keeps_23 : decode cX12_keeps 23 = .ok (.getfield 97, 3) := by decide +kernel
theorem dX12_keeps_26 : decode cX12_keeps 26 = .ok (.iload 6, 2) := by decide +kernel
theorem dX12_keeps_28 : decode cX12_keeps 28 = .ok (.iaload, 1) := by decide +kernel
theorem dX12_keeps_29 : decode cX12_keeps 29 = .ok (.iconst 1, 1) := by decide +kernel
theorem dX12_keeps_30 : decode cX12_keeps 30 = .ok (.if_icmp .ne 7, 3) := by decide +kernel
theorem dX12_keeps_33 : decode cX12_keeps 33 = .ok (.iconst 1, 1) := by decide +kernel
theorem dX12_keeps_34 : decode cX12_keeps 34 = .ok (.goto 4, 3) := by decide +kernel
theorem dX12_keeps_37 : decode cX12_keeps 37 = .ok (.iconst 0, 1) := by decide +kernel
theorem dX12_keeps_38 : decode cX12_keeps 38 = .ok (.istore 7, 2) := by decide +kernel
theorem dX12_keeps_40 : decode cX12_keeps 40 = .ok (.iload 7, 2) := by decide +kernel
theorem dX12_keeps_42 : decode cX12_keeps 42 = .ok (.ifCond .eq 17, 3) := by decide +kernel
theorem dX12_keeps_45 : decode cX12_keeps 45 = .ok (.aload_n 0, 1) := by decide +kernel
theorem dX12_keeps_46 : decode cX12_keeps 46 = .ok (.iload_n 1, 1) := by decide +kernel
theorem dX12_keeps_47 : decode cX12_keeps 47 = .ok (.iload_n 2, 1) := by decide +kernel
theorem dX12_keeps_48 : decode cX12_keeps 48 = .ok (.iload_n 3, 1) := by decide +kernel
theorem dX12_keeps_49 : decode cX12_keeps 49 = .ok (.iload 4, 2) := by decide +kernel
theorem dX12_keeps_51 : decode cX12_keeps 51 = .ok (.iload 5, 2) := by decide +kernel
theorem dX12_keeps_53 : decode cX12_keeps 53 = .ok (.invokevirtual 424, 3) := by decide +kernel
theorem dX12_keeps_56 : decode cX12_keeps 56 = .ok (.goto 6, 3) := by decide +kernel
theorem dX12_keeps_59 : decode cX12_keeps 59 = .ok (.ldc_w 331, 3) := by decide +kernel
theorem dX12_keeps_62 : decode cX12_keeps 62 = .ok (.istore 8, 2) := by decide +kernel
theorem dX12_keeps_64 : decode cX12_keeps 64 = .ok (.aload_n 0, 1) := by decide +kernel
theorem dX12_keeps_65 : decode cX12_keeps 65 = .ok (.iload 8, 2) := by decide +kernel
theorem dX12_keeps_67 : decode cX12_keeps 67 = .ok (.ldc_w 331, 3) := by decide +kernel
theorem dX12_keeps_70 : decode cX12_keeps 70 = .ok (.if_icmp .ge 7, 3) := by decide +kernel
theorem dX12_keeps_73 : decode cX12_keeps 73 = .ok (.iconst 0, 1) := by decide +kernel
theorem dX12_keeps_74 : decode cX12_keeps 74 = .ok (.goto 4, 3) := by decide +kernel
theorem dX12_keeps_77 : decode cX12_keeps 77 = .ok (.iconst 1, 1) := by decide +kernel
theorem dX12_keeps_78 : decode cX12_keeps 78 = .ok (.putfield 1, 3) := by decide +kernel
theorem dX12_keeps_81 : decode cX12_keeps 81 = .ok (.aload_n 0, 1) := by decide +kernel
theorem dX12_keeps_82 : decode cX12_keeps 82 = .ok (.getfield 1, 3) := by decide +kernel
theorem dX12_keeps_85 : decode cX12_keeps 85 = .ok (.ifCond .le 5, 3) := by decide +kernel
theorem dX12_keeps_88 : decode cX12_keeps 88 = .ok (.iconst 0, 1) := by decide +kernel
theorem dX12_keeps_89 : decode cX12_keeps 89 = .ok (.ireturn, 1) := by decide +kernel
theorem dX12_keeps_90 : decode cX12_keeps 90 = .ok (.aload_n 0, 1) := by decide +kernel
theorem dX12_keeps_91 : decode cX12_keeps 91 = .ok (.getfield 97, 3) := by decide +kernel
theorem dX12_keeps_94 : decode cX12_keeps 94 = .ok (.bipush 100, 2) := by decide +kernel
theorem dX12_keeps_96 : decode cX12_keeps 96 = .ok (.iload 6, 2) := by decide +kernel
theorem dX12_keeps_98 : decode cX12_keeps 98 = .ok (.iadd, 1) := by decide +kernel
theorem dX12_keeps_99 : decode cX12_keeps 99 = .ok (.iaload, 1) := by decide +kernel
theorem dX12_keeps_100 : decode cX12_keeps 100 = .ok (.istore 9, 2) := by decide +kernel
theorem dX12_keeps_102 : decode cX12_keeps 102 = .ok (.aload_n 0, 1) := by decide +kernel
theorem dX12_keeps_103 : decode cX12_keeps 103 = .ok (.iload 6, 2) := by decide +kernel
theorem dX12_keeps_105 : decode cX12_keeps 105 = .ok (.invokevirtual 437, 3) := by decide +kernel
theorem dX12_keeps_108 : decode cX12_keeps 108 = .ok (.pop, 1) := by decide +kernel
theorem dX12_keeps_109 : decode cX12_keeps 109 = .ok (.aload_n 0, 1) := by decide +kernel
theorem dX12_keeps_110 : decode cX12_keeps 110 = .ok (.iload_n 1, 1) := by decide +kernel
theorem dX12_keeps_111 : decode cX12_keeps 111 = .ok (.iload_n 2, 1) := by decide +kernel
theorem dX12_keeps_112 : decode cX12_keeps 112 = .ok (.iload_n 3, 1) := by decide +kernel
theorem dX12_keeps_113 : decode cX12_keeps 113 = .ok (.iload 4, 2) := by decide +kernel
theorem dX12_keeps_115 : decode cX12_keeps 115 = .ok (.iload 5, 2) := by decide +kernel
theorem dX12_keeps_117 : decode cX12_keeps 117 = .ok (.invokevirtual 424, 3) := by decide +kernel
theorem dX12_keeps_120 : decode cX12_keeps 120 = .ok (.istore 10, 2) := by decide +kernel
theorem dX12_keeps_122 : decode cX12_keeps 122 = .ok (.aload_n 0, 1) := by decide +kernel
theorem dX12_keeps_123 : decode cX12_keeps 123 = .ok (.getfield 97, 3) := by decide +kernel
theorem dX12_keeps_126 : decode cX12_keeps 126 = .ok (.iload 6, 2) := by decide +kernel
theorem dX12_keeps_128 : decode cX12_keeps 128 = .ok (.iconst 1, 1) := by decide +kernel
theorem dX12_keeps_129 : decode cX12_keeps 129 = .ok (.iastore, 1) := by decide +kernel
theorem dX12_keeps_130 : decode cX12_keeps 130 = .ok (.aload_n 0, 1) := by decide +kernel
theorem dX12_keeps_131 : decode cX12_keeps 131 = .ok (.getfield 97, 3) := by decide +kernel
theorem dX12_keeps_134 : decode cX12_keeps 134 = .ok (.bipush 100, 2) := by decide +kernel
theorem dX12_keeps_136 : decode cX12_keeps 136 = .ok (.iload 6, 2) := by decide +kernel
theorem dX12_keeps_138 : decode cX12_keeps 138 = .ok (.iadd, 1) := by decide +kernel
theorem dX12_keeps_139 : decode cX12_keeps 139 = .ok (.iload 9, 2) := by decide +kernel
theorem dX12_keeps_141 : decode cX12_keeps 141 = .ok (.iastore, 1) := by decide +kernel
theorem dX12_keeps_142 : decode cX12_keeps 142 = .ok (.aload_n 0, 1) := by decide +kernel
theorem dX12_keeps_143 : decode cX12_keeps 143 = .ok (.iconst (-1), 1) := by decide +kernel
theorem dX12_keeps_144 : decode cX12_keeps 144 = .ok (.putfield 170, 3) := by decide +kernel
theorem dX12_keeps_147 : decode cX12_keeps 147 = .ok (.iload 10, 2) := by decide +kernel
theorem dX12_keeps_149 : decode cX12_keeps 149 = .ok (.iload 8, 2) := by decide +kernel
theorem dX12_keeps_151 : decode cX12_keeps 151 = .ok (.isub, 1) := by decide +kernel
theorem dX12_keeps_152 : decode cX12_keeps 152 = .ok (.ireturn, 1) := by decide +kernel
theorem dX12_dark_0 : decode cX12_dark 0 = .ok (.aload_n 0, 1) := by decide +kernel
theorem dX12_dark_1 : decode cX12_dark 1 = .ok (.iconst 0, 1) := by decide +kernel
theorem dX12_dark_2 : decode cX12_dark 2 = .ok (.putfield 1, 3) := by decide +kernel
theorem dX12_dark_5 : decode cX12_dark 5 = .ok (.aload_n 0, 1) := by decide +kernel
theorem dX12_dark_6 : decode cX12_dark 6 = .ok (.iload_n 1, 1) := by decide +kernel
theorem dX12_dark_7 : decode cX12_dark 7 = .ok (.iload_n 2, 1) := by decide +kernel
theorem dX12_dark_8 : decode cX12_dark 8 = .ok (.iconst 0, 1) := by decide +kernel
theorem dX12_dark_9 : decode cX12_dark 9 = .ok (.iload_n 3, 1) := by decide +kernel
theorem dX12_dark_10 : decode cX12_dark 10 = .ok (.iload 4, 2) := by decide +kernel
theorem dX12_dark_12 : decode cX12_dark 12 = .ok (.invokevirtual 355, 3) := by decide +kernel
theorem dX12_dark_15 : decode cX12_dark 15 = .ok (.ifCond .eq 13, 3) := by decide +kernel
theorem dX12_dark_18 : decode cX12_dark 18 = .ok (.iload 5, 2) := by decide +kernel
theorem dX12_dark_20 : decode cX12_dark 20 = .ok (.iconst 0, 1) := by decide +kernel
theorem dX12_dark_21 : decode cX12_dark 21 = .ok (.iconst 2, 1) := by decide +kernel
theorem dX12_dark_22 : decode cX12_dark 22 = .ok (.invokestatic 289, 3) := by decide +kernel
theorem dX12_dark_25 : decode cX12_dark 25 = .ok (.ifCond .ne 5, 3) := by decide +kernel
theorem dX12_dark_28 : decode cX12_dark 28 = .ok (.iconst (-1), 1) := by decide +kernel
theorem dX12_dark_29 : decode cX12_dark 29 = .ok (.ireturn, 1) := by decide +kernel
theorem dX12_dark_30 : decode cX12_dark 30 = .ok (.aload_n 0, 1) := by decide +kernel
theorem dX12_dark_31 : decode cX12_dark 31 = .ok (.iload_n 2, 1) := by decide +kernel
theorem dX12_dark_32 : decode cX12_dark 32 = .ok (.invokevirtual 339, 3) := by decide +kernel
theorem dX12_dark_35 : decode cX12_dark 35 = .ok (.sipush 11999, 3) := by decide +kernel
theorem dX12_dark_38 : decode cX12_dark 38 = .ok (.istore 6, 2) := by decide +kernel
theorem dX12_dark_40 : decode cX12_dark 40 = .ok (.iload 6, 2) := by decide +kernel
theorem dX12_dark_42 : decode cX12_dark 42 = .ok (.ifCond .lt 212, 3) := by decide +kernel
theorem dX12_dark_45 : decode cX12_dark 45 = .ok (.aload_n 0, 1) := by decide +kernel
theorem dX12_dark_46 : decode cX12_dark 46 = .ok (.getfield 137, 3) := by decide +kernel
theorem dX12_dark_49 : decode cX12_dark 49 = .ok (.iload 6, 2) := by decide +kernel
theorem dX12_dark_51 : decode cX12_dark 51 = .ok (.iload 6, 2) := by decide +kernel
theorem dX12_dark_53 : decode cX12_dark 53 = .ok (.bipush 100, 2) := by decide +kernel
theorem dX12_dark_55 : decode cX12_dark 55 = .ok (.irem, 1) := by decide +kernel
theorem dX12_dark_56 : decode cX12_dark 56 = .ok (.iload 4, 2) := by decide +kernel
theorem dX12_dark_58 : decode cX12_dark 58 = .ok (.if_icmp .ne 11, 3) := by decide +kernel
theorem dX12_dark_61 : decode cX12_dark 61 = .ok (.iload 6, 2) := by decide +kernel
theorem dX12_dark_63 : decode cX12_dark 63 = .ok (.bipush 100, 2) := by decide +kernel
theorem dX12_dark_65 : decode cX12_dark 65 = .ok (.idiv, 1) := by decide +kernel
theorem dX12_dark_66 : decode cX12_dark 66 = .ok (.goto 6, 3) := by decide +kernel
theorem dX12_dark_69 : decode cX12_dark 69 = .ok (.ldc_w 331, 3) := by decide +kernel
theorem dX12_dark_72 : decode cX12_dark 72 = .ok (.iastore, 1) := by decide +kernel
theorem dX12_dark_73 : decode cX12_dark 73 = .ok (.iconst 0, 1) := by decide +kernel
theorem dX12_dark_74 : decode cX12_dark 74 = .ok (.istore 7, 2) := by decide +kernel
theorem dX12_dark_76 : decode cX12_dark 76 = .ok (.iload 7, 2) := by decide +kernel
theorem dX12_dark_78 : decode cX12_dark 78 = .ok (.iconst 5, 1) := by decide +kernel
theorem dX12_dark_79 : decode cX12_dark 79 = .ok (.if_icmp .ge 169, 3) := by decide +kernel
theorem dX12_dark_82 : decode cX12_dark 82 = .ok (.iload 6, 2) := by decide +kernel
theorem dX12_dark_84 : decode cX12_dark 84 = .ok (.bipush 100, 2) := by decide +kernel
theorem dX12_dark_86 : decode cX12_dark 86 = .ok (.irem, 1) := by decide +kernel
theorem dX12_dark_87 : decode cX12_dark 87 = .ok (.iload 4, 2) := by decide +kernel
theorem dX12_dark_89 : decode cX12_dark 89 = .ok (.if_icmp .eq 159, 3) := by decide +kernel
theorem dX12_dark_92 : decode cX12_dark 92 = .ok (.aload_n 0, 1) := by decide +kernel
theorem dX12_dark_93 : decode cX12_dark 93 = .ok (.getfield 97, 3) := by decide +kernel
theorem dX12_dark_96 : decode cX12_dark 96 = .ok (.iload 6, 2) := by decide +kernel
theorem dX12_dark_98 : decode cX12_dark 98 = .ok (.bipush 100, 2) := by decide +kernel
theorem dX12_dark_100 : decode cX12_dark 100 = .ok (.irem, 1) := by decide +kernel
theorem dX12_dark_101 : decode cX12_dark 101 = .ok (.iaload, 1) := by decide +kernel
theorem dX12_dark_102 : decode cX12_dark 102 = .ok (.iconst 1, 1) := by decide +kernel
theorem dX12_dark_103 : decode cX12_dark 103 = .ok (.if_icmp .eq 145, 3) := by decide +kernel
theorem dX12_dark_106 : decode cX12_dark 106 = .ok (.aload_n 0, 1) := by decide +kernel
theorem dX12_dark_107 : decode cX12_dark 107 = .ok (.iload 6, 2) := by decide +kernel
theorem dX12_dark_109 : decode cX12_dark 109 = .ok (.bipush 100, 2) := by decide +kernel
theorem dX12_dark_111 : decode cX12_dark 111 = .ok (.idiv, 1) := by decide +kernel
theorem dX12_dark_112 : decode cX12_dark 112 = .ok (.iload 6, 2) := by decide +kernel
theorem dX12_dark_114 : decode cX12_dark 114 = .ok (.bipush 100, 2) := by decide +kernel
theorem dX12_dark_116 : decode cX12_dark 116 = .ok (.irem, 1) := by decide +kernel
theorem dX12_dark_117 : decode cX12_dark 117 = .ok (.iload 7, 2) := by decide +kernel
theorem dX12_dark_119 : decode cX12_dark 119 = .ok (.aload_n 0, 1) := by decide +kernel
theorem dX12_dark_120 : decode cX12_dark 120 = .ok (.iload_n 1, 1) := by decide +kernel
theorem dX12_dark_121 : decode cX12_dark 121 = .ok (.iconst 0, 1) := by decide +kernel
theorem dX12_dark_122 : decode cX12_dark 122 = .ok (.invokevirtual 345, 3) := by decide +kernel
theorem dX12_dark_125 : decode cX12_dark 125 = .ok (.invokevirtual 332, 3) := by decide +kernel
theorem dX12_dark_128 : decode cX12_dark 128 = .ok (.istore 8, 2) := by decide +kernel
theorem dX12_dark_130 : decode cX12_dark 130 = .ok (.iload 8, 2) := by decide +kernel
theorem dX12_dark_132 : decode cX12_dark 132 = .ok (.ifCond .lt 7, 3) := by decide +kernel
theorem dX12_dark_135 : decode cX12_dark 135 = .ok (.iconst 1, 1) := by decide +kernel
theorem dX12_dark_136 : decode cX12_dark 136 = .ok (.goto 4, 3) := by decide +kernel
theorem dX12_dark_139 : decode cX12_dark 139 = .ok (.iconst 0, 1) := by decide +kernel
theorem dX12_dark_140 : decode cX12_dark 140 = .ok (.istore 9, 2) := by decide +kernel
theorem dX12_dark_142 : decode cX12_dark 142 = .ok (.iload 6, 2) := by decide +kernel
theorem dX12_dark_144 : decode cX12_dark 144 = .ok (.bipush 100, 2) := by decide +kernel
theorem dX12_dark_146 : decode cX12_dark 146 = .ok (.idiv, 1) := by decide +kernel
theorem dX12_dark_147 : decode cX12_dark 147 = .ok (.istore 10, 2) := by decide +kernel
theorem dX12_dark_149 : decode cX12_dark 149 = .ok (.iload 9, 2) := by decide +kernel
theorem dX12_dark_151 : decode cX12_dark 151 = .ok (.ifCond .eq 45, 3) := by decide +kernel
theorem dX12_dark_154 : decode cX12_dark 154 = .ok (.iload 10, 2) := by decide +kernel
theorem dX12_dark_156 : decode cX12_dark 156 = .ok (.iload 8, 2) := by decide +kernel
theorem dX12_dark_158 : decode cX12_dark 158 = .ok (.bipush 100, 2) := by decide +kernel
theorem dX12_dark_160 : decode cX12_dark 160 = .ok (.idiv, 1) := by decide +kernel
theorem dX12_dark_161 : decode cX12_dark 161 = .ok (.if_icmp .ge 35, 3) := by decide +kernel
theorem dX12_dark_164 : decode cX12_dark 164 = .ok (.aload_n 0, 1) := by decide +kernel
theorem dX12_dark_165 : decode cX12_dark 165 = .ok (.getfield 112, 3) := by decide +kernel
theorem dX12_dark_168 : decode cX12_dark 168 = .ok (.bipush 100, 2) := by decide +kernel
theorem dX12_dark_170 : decode cX12_dark 170 = .ok (.iload 10, 2) := by decide +kernel
theorem dX12_dark_172 : decode cX12_dark 172 = .ok (.imul, 1) := by decide +kernel
theorem dX12_dark_173 : decode cX12_dark 173 = .ok (.iload 6, 2) := by decide +kernel
theorem dX12_dark_175 : decode cX12_dark 175 = .ok (.bipush 100, 2) := by decide +kernel
theorem dX12_dark_177 : decode cX12_dark 177 = .ok (.irem, 1) := by decide +kernel
theorem dX12_dark_178 : decode cX12_dark 178 = .ok (.iadd, 1) := by decide +kernel
theorem dX12_dark_179 : decode cX12_dark 179 = .ok (.iaload, 1) := by decide +kernel
theorem dX12_dark_180 : decode cX12_dark 180 = .ok (.ifCond .ne 7, 3) := by decide +kernel
theorem dX12_dark_183 : decode cX12_dark 183 = .ok (.iconst 1, 1) := by decide +kernel
theorem dX12_dark_184 : decode cX12_dark 184 = .ok (.goto 4, 3) := by decide +kernel
theorem dX12_dark_187 : decode cX12_dark 187 = .ok (.iconst 0, 1) := by decide +kernel
theorem dX12_dark_188 : decode cX12_dark 188 = .ok (.istore 9, 2) := by decide +kernel
theorem dX12_dark_190 : decode cX12_dark 190 = .ok (.iinc 10 1, 3) := by decide +kernel
theorem dX12_dark_193 : decode cX12_dark 193 = .ok (.goto (-44), 3) := by decide +kernel
theorem dX12_dark_196 : decode cX12_dark 196 = .ok (.aload_n 0, 1) := by decide +kernel
theorem dX12_dark_197 : decode cX12_dark 197 = .ok (.getfield 137, 3) := by decide +kernel
theorem dX12_dark_200 : decode cX12_dark 200 = .ok (.iload 6, 2) := by decide +kernel
theorem dX12_dark_202 : decode cX12_dark 202 = .ok (.iload 9, 2) := by decide +kernel
theorem dX12_dark_204 : decode cX12_dark 204 = .ok (.ifCond .eq 30, 3) := by decide +kernel
theorem dX12_dark_207 : decode cX12_dark 207 = .ok (.aload_n 0, 1) := by decide +kernel
theorem dX12_dark_208 : decode cX12_dark 208 = .ok (.getfield 137, 3) := by decide +kernel
theorem dX12_dark_211 : decode cX12_dark 211 = .ok (.iload 8, 2) := by decide +kernel
theorem dX12_dark_213 : decode cX12_dark 213 = .ok (.iaload, 1) := by decide +kernel
theorem dX12_dark_214 : decode cX12_dark 214 = .ok (.aload_n 0, 1) := by decide +kernel
theorem dX12_dark_215 : decode cX12_dark 215 = .ok (.getfield 137, 3) := by decide +kernel
theorem dX12_dark_218 : decode cX12_dark 218 = .ok (.iload 6, 2) := by decide +kernel
theorem dX12_dark_220 : decode cX12_dark 220 = .ok (.iaload, 1) := by decide +kernel
theorem dX12_dark_221 : decode cX12_dark 221 = .ok (.if_icmp .ge 13, 3) := by decide +kernel
theorem dX12_dark_224 : decode cX12_dark 224 = .ok (.aload_n 0, 1) := by decide +kernel
theorem dX12_dark_225 : decode cX12_dark 225 = .ok (.getfield 137, 3) := by decide +kernel
theorem dX12_dark_228 : decode cX12_dark 228 = .ok (.iload 8, 2) := by decide +kernel
theorem dX12_dark_230 : decode cX12_dark 230 = .ok (.iaload, 1) := by decide +kernel
theorem dX12_dark_231 : decode cX12_dark 231 = .ok (.goto 10, 3) := by decide +kernel
theorem dX12_dark_234 : decode cX12_dark 234 = .ok (.aload_n 0, 1) := by decide +kernel
theorem dX12_dark_235 : decode cX12_dark 235 = .ok (.getfield 137, 3) := by decide +kernel
theorem dX12_dark_238 : decode cX12_dark 238 = .ok (.iload 6, 2) := by decide +kernel
theorem dX12_dark_240 : decode cX12_dark 240 = .ok (.iaload, 1) := by decide +kernel
theorem dX12_dark_241 : decode cX12_dark 241 = .ok (.iastore, 1) := by decide +kernel
theorem dX12_dark_242 : decode cX12_dark 242 = .ok (.iinc 7 1, 3) := by decide +kernel
theorem dX12_dark_245 : decode cX12_dark 245 = .ok (.goto (-169), 3) := by decide +kernel
theorem dX12_dark_248 : decode cX12_dark 248 = .ok (.iinc 6 (-1), 3) := by decide +kernel
theorem dX12_dark_251 : decode cX12_dark 251 = .ok (.goto (-211), 3) := by decide +kernel
theorem dX12_dark_254 : decode cX12_dark 254 = .ok (.iconst 0, 1) := by decide +kernel
theorem dX12_dark_255 : decode cX12_dark 255 = .ok (.istore 6, 2) := by decide +kernel
theorem dX12_dark_257 : decode cX12_dark 257 = .ok (.iconst (-1), 1) := by decide +kernel
theorem dX12_dark_258 : decode cX12_dark 258 = .ok (.istore 7, 2) := by decide +kernel
theorem dX12_dark_260 : decode cX12_dark 260 = .ok (.iconst (-1), 1) := by decide +kernel
theorem dX12_dark_261 : decode cX12_dark 261 = .ok (.istore 8, 2) := by decide +kernel
theorem dX12_dark_263 : decode cX12_dark 263 = .ok (.iconst 0, 1) := by decide +kernel
theorem dX12_dark_264 : decode cX12_dark 264 = .ok (.istore 9, 2) := by decide +kernel
theorem dX12_dark_266 : decode cX12_dark 266 = .ok (.iload 9, 2) := by decide +kernel
theorem dX12_dark_268 : decode cX12_dark 268 = .ok (.bipush 120, 2) := by decide +kernel
theorem dX12_dark_270 : decode cX12_dark 270 = .ok (.if_icmp .ge 69, 3) := by decide +kernel
theorem dX12_dark_273 : decode cX12_dark 273 = .ok (.aload_n 0, 1) := by decide +kernel
theorem dX12_dark_274 : decode cX12_dark 274 = .ok (.getfield 137, 3) := by decide +kernel
theorem dX12_dark_277 : decode cX12_dark 277 = .ok (.bipush 100, 2) := by decide +kernel
theorem dX12_dark_279 : decode cX12_dark 279 = .ok (.iload 9, 2) := by decide +kernel
theorem dX12_dark_281 : decode cX12_dark 281 = .ok (.imul, 1) := by decide +kernel
theorem dX12_dark_282 : decode cX12_dark 282 = .ok (.iload_n 3, 1) := by decide +kernel
theorem dX12_dark_283 : decode cX12_dark 283 = .ok (.iadd, 1) := by decide +kernel
theorem dX12_dark_284 : decode cX12_dark 284 = .ok (.iaload, 1) := by decide +kernel
theorem dX12_dark_285 : decode cX12_dark 285 = .ok (.istore 10, 2) := by decide +kernel
theorem dX12_dark_287 : decode cX12_dark 287 = .ok (.iload 10, 2) := by decide +kernel
theorem dX12_dark_289 : decode cX12_dark 289 = .ok (.ldc_w 331, 3) := by decide +kernel
theorem dX12_dark_292 : decode cX12_dark 292 = .ok (.if_icmp .ge 41, 3) := by decide +kernel
theorem dX12_dark_295 : decode cX12_dark 295 = .ok (.iinc 6 1, 3) := by decide +kernel
theorem dX12_dark_298 : decode cX12_dark 298 = .ok (.iload 7, 2) := by decide +kernel
theorem dX12_dark_300 : decode cX12_dark 300 = .ok (.ifCond .ge 8, 3) := by decide +kernel
theorem dX12_dark_303 : decode cX12_dark 303 = .ok (.iload 9, 2) := by decide +kernel
theorem dX12_dark_305 : decode cX12_dark 305 = .ok (.goto 5, 3) := by decide +kernel
theorem dX12_dark_308 : decode cX12_dark 308 = .ok (.iload 7, 2) := by decide +kernel
theorem dX12_dark_310 : decode cX12_dark 310 = .ok (.istore 7, 2) := by decide +kernel
theorem dX12_dark_312 : decode cX12_dark 312 = .ok (.iload 8, 2) := by decide +kernel
theorem dX12_dark_314 : decode cX12_dark 314 = .ok (.ifCond .lt 10, 3) := by decide +kernel
theorem dX12_dark_317 : decode cX12_dark 317 = .ok (.iload 10, 2) := by decide +kernel
theorem dX12_dark_319 : decode cX12_dark 319 = .ok (.iload 8, 2) := by decide +kernel
theorem dX12_dark_321 : decode cX12_dark 321 = .ok (.if_icmp .ge 8, 3) := by decide +kernel
theorem dX12_dark_324 : decode cX12_dark 324 = .ok (.iload 10, 2) := by decide +kernel
theorem dX12_dark_326 : decode cX12_dark 326 = .ok (.goto 5, 3) := by decide +kernel
theorem dX12_dark_329 : decode cX12_dark 329 = .ok (.iload 8, 2) := by decide +kernel
theorem dX12_dark_331 : decode cX12_dark 331 = .ok (.istore 8, 2) := by decide +kernel
theorem dX12_dark_333 : decode cX12_dark 333 = .ok (.iinc 9 1, 3) := by decide +kernel
theorem dX12_dark_336 : decode cX12_dark 336 = .ok (.goto (-70), 3) := by decide +kernel
theorem dX12_dark_339 : decode cX12_dark 339 = .ok (.iload 5, 2) := by decide +kernel
theorem dX12_dark_341 : decode cX12_dark 341 = .ok (.ifCond .ne 8, 3) := by decide +kernel
theorem dX12_dark_344 : decode cX12_dark 344 = .ok (.iload 6, 2) := by decide +kernel
theorem dX12_dark_346 : decode cX12_dark 346 = .ok (.goto 16, 3) := by decide +kernel
theorem dX12_dark_349 : decode cX12_dark 349 = .ok (.iload 5, 2) := by decide +kernel
theorem dX12_dark_351 : decode cX12_dark 351 = .ok (.iconst 1, 1) := by decide +kernel
theorem dX12_dark_352 : decode cX12_dark 352 = .ok (.if_icmp .ne 8, 3) := by decide +kernel
theorem dX12_dark_355 : decode cX12_dark 355 = .ok (.iload 7, 2) := by decide +kernel
theorem dX12_dark_357 : decode cX12_dark 357 = .ok (.goto 5, 3) := by decide +kernel
theorem dX12_dark_360 : decode cX12_dark 360 = .ok (.iload 8, 2) := by decide +kernel
theorem dX12_dark_362 : decode cX12_dark 362 = .ok (.ireturn, 1) := by decide +kernel
theorem dX12_follow_0 : decode cX12_follow 0 = .ok (.aload_n 0, 1) := by decide +kernel
theorem dX12_follow_1 : decode cX12_follow 1 = .ok (.iconst 0, 1) := by decide +kernel
theorem dX12_follow_2 : decode cX12_follow 2 = .ok (.putfield 1, 3) := by decide +kernel
theorem dX12_follow_5 : decode cX12_follow 5 = .ok (.aload_n 0, 1) := by decide +kernel
theorem dX12_follow_6 : decode cX12_follow 6 = .ok (.iload_n 1, 1) := by decide +kernel
theorem dX12_follow_7 : decode cX12_follow 7 = .ok (.invokevirtual 325, 3) := by decide +kernel
theorem dX12_follow_10 : decode cX12_follow 10 = .ok (.ifCond .eq 12, 3) := by decide +kernel
theorem dX12_follow_13 : decode cX12_follow 13 = .ok (.aload_n 0, 1) := by decide +kernel
theorem dX12_follow_14 : decode cX12_follow 14 = .ok (.getfield 234, 3) := by decide +kernel
theorem dX12_follow_17 : decode cX12_follow 17 = .ok (.bipush 30, 2) := by decide +kernel
theorem dX12_follow_19 : decode cX12_follow 19 = .ok (.if_icmp .ne 5, 3) := by decide +kernel
theorem dX12_follow_22 : decode cX12_follow 22 = .ok (.iconst (-1), 1) := by decide +kernel
theorem dX12_follow_23 : decode cX12_follow 23 = .ok (.ireturn, 1) := by decide +kernel
theorem dX12_follow_24 : decode cX12_follow 24 = .ok (.aload_n 0, 1) := by decide +kernel
theorem dX12_follow_25 : decode cX12_follow 25 = .ok (.getfield 234, 3) := by decide +kernel
theorem dX12_follow_28 : decode cX12_follow 28 = .ok (.ifCond .ne 7, 3) := by decide +kernel
theorem dX12_follow_31 : decode cX12_follow 31 = .ok (.iconst 1, 1) := by decide +kernel
theorem dX12_follow_32 : decode cX12_follow 32 = .ok (.goto 4, 3) := by decide +kernel
theorem dX12_follow_35 : decode cX12_follow 35 = .ok (.iconst 0, 1) := by decide +kernel
theorem dX12_follow_36 : decode cX12_follow 36 = .ok (.istore_n 2, 1) := by decide +kernel
theorem dX12_follow_37 : decode cX12_follow 37 = .ok (.iconst 0, 1) := by decide +kernel
theorem dX12_follow_38 : decode cX12_follow 38 = .ok (.istore_n 3, 1) := by decide +kernel
theorem dX12_follow_39 : decode cX12_follow 39 = .ok (.iload_n 3, 1) := by decide +kernel
theorem dX12_follow_40 : decode cX12_follow 40 = .ok (.iconst 4, 1) := by decide +kernel
theorem dX12_follow_41 : decode cX12_follow 41 = .ok (.if_icmp .ge 45, 3) := by decide +kernel
theorem dX12_follow_44 : decode cX12_follow 44 = .ok (.aload_n 0, 1) := by decide +kernel
theorem dX12_follow_45 : decode cX12_follow 45 = .ok (.getfield 234, 3) := by decide +kernel
theorem dX12_follow_48 : decode cX12_follow 48 = .ok (.ifCond .le 38, 3) := by decide +kernel
theorem dX12_follow_51 : decode cX12_follow 51 = .ok (.iload_n 2, 1) := by decide +kernel
theorem dX12_follow_52 : decode cX12_follow 52 = .ok (.ifCond .ne 22, 3) := by decide +kernel
theorem dX12_follow_55 : decode cX12_follow 55 = .ok (.aload_n 0, 1) := by decide +kernel
theorem dX12_follow_56 : decode cX12_follow 56 = .ok (.getfield 152, 3) := by decide +kernel
theorem dX12_follow_59 : decode cX12_follow 59 = .ok (.aload_n 0, 1) := by decide +kernel
theorem dX12_follow_60 : decode cX12_follow 60 = .ok (.getfield 234, 3) := by decide +kernel
theorem dX12_follow_63 : decode cX12_follow 63 = .ok (.iconst 1, 1) := by decide +kernel
theorem dX12_follow_64 : decode cX12_follow 64 = .ok (.isub, 1) := by decide +kernel
theorem dX12_follow_65 : decode cX12_follow 65 = .ok (.iaload, 1) := by decide +kernel
theorem dX12_follow_66 : decode cX12_follow 66 = .ok (.iload_n 3, 1) := by decide +kernel
theorem dX12_follow_67 : decode cX12_follow 67 = .ok (.invokestatic 328, 3) := by decide +kernel
theorem dX12_follow_70 : decode cX12_follow 70 = .ok (.iload_n 1, 1) := by decide +kernel
theorem dX12_follow_71 : decode cX12_follow 71 = .ok (.if_icmp .ne 7, 3) := by decide +kernel
theorem dX12_follow_74 : decode cX12_follow 74 = .ok (.iconst 1, 1) := by decide +kernel
theorem dX12_follow_75 : decode cX12_follow 75 = .ok (.goto 4, 3) := by decide +kernel
theorem dX12_follow_78 : decode cX12_follow 78 = .ok (.iconst 0, 1) := by decide +kernel
theorem dX12_follow_79 : decode cX12_follow 79 = .ok (.istore_n 2, 1) := by decide +kernel
theorem dX12_follow_80 : decode cX12_follow 80 = .ok (.iinc 3 1, 3) := by decide +kernel
theorem dX12_follow_83 : decode cX12_follow 83 = .ok (.goto (-44), 3) := by decide +kernel
theorem dX12_follow_86 : decode cX12_follow 86 = .ok (.iload_n 2, 1) := by decide +kernel
theorem dX12_follow_87 : decode cX12_follow 87 = .ok (.ifCond .ne 5, 3) := by decide +kernel
theorem dX12_follow_90 : decode cX12_follow 90 = .ok (.iconst (-1), 1) := by decide +kernel
theorem dX12_follow_91 : decode cX12_follow 91 = .ok (.ireturn, 1) := by decide +kernel
theorem dX12_follow_92 : decode cX12_follow 92 = .ok (.aload_n 0, 1) := by decide +kernel
theorem dX12_follow_93 : decode cX12_follow 93 = .ok (.getfield 152, 3) := by decide +kernel
theorem dX12_follow_96 : decode cX12_follow 96 = .ok (.aload_n 0, 1) := by decide +kernel
theorem dX12_follow_97 : decode cX12_follow 97 = .ok (.getfield 234, 3) := by decide +kernel
theorem dX12_follow_100 : decode cX12_follow 100 = .ok (.iload_n 1, 1) := by decide +kernel
theorem dX12_follow_101 : decode cX12_follow 101 = .ok (.iastore, 1) := by decide +kernel
theorem dX12_follow_102 : decode cX12_follow 102 = .ok (.aload_n 0, 1) := by decide +kernel
theorem dX12_follow_103 : decode cX12_follow 103 = .ok (.dup, 1) := by decide +kernel
theorem dX12_follow_104 : decode cX12_follow 104 = .ok (.getfield 234, 3) := by decide +kernel
theorem dX12_follow_107 : decode cX12_follow 107 = .ok (.iconst 1, 1) := by decide +kernel
theorem dX12_follow_108 : decode cX12_follow 108 = .ok (.iadd, 1) := by decide +kernel
theorem dX12_follow_109 : decode cX12_follow 109 = .ok (.putfield 234, 3) := by decide +kernel
theorem dX12_follow_112 : decode cX12_follow 112 = .ok (.aload_n 0, 1) := by decide +kernel
theorem dX12_follow_113 : decode cX12_follow 113 = .ok (.getfield 234, 3) := by decide +kernel
theorem dX12_follow_116 : decode cX12_follow 116 = .ok (.ireturn, 1) := by decide +kernel
theorem dX12_paradeFrom_0 : decode cX12_paradeFrom 0 = .ok (.aload_n 0, 1) := by decide +kernel
theorem dX12_paradeFrom_1 : decode cX12_paradeFrom 1 = .ok (.getfield 234, 3) := by decide +kernel
theorem dX12_paradeFrom_4 : decode cX12_paradeFrom 4 = .ok (.ifCond .eq 18, 3) := by decide +kernel
theorem dX12_paradeFrom_7 : decode cX12_paradeFrom 7 = .ok (.iload_n 2, 1) := by decide +kernel
theorem dX12_paradeFrom_8 : decode cX12_paradeFrom 8 = .ok (.iload_n 3, 1) := by decide +kernel
theorem dX12_paradeFrom_9 : decode cX12_paradeFrom 9 = .ok (.aload_n 0, 1) := by decide +kernel
theorem dX12_paradeFrom_10 : decode cX12_paradeFrom 10 = .ok (.getfield 234, 3) := by decide +kernel
theorem dX12_paradeFrom_13 : decode cX12_paradeFrom 13 = .ok (.iconst 1, 1) := by decide +kernel
theorem dX12_paradeFrom_14 : decode cX12_paradeFrom 14 = .ok (.isub, 1) := by decide +kernel
theorem dX12_paradeFrom_15 : decode cX12_paradeFrom 15 = .ok (.imul, 1) := by decide +kernel
theorem dX12_paradeFrom_16 : decode cX12_paradeFrom 16 = .ok (.iadd, 1) := by decide +kernel
theorem dX12_paradeFrom_17 : decode cX12_paradeFrom 17 = .ok (.bipush 119, 2) := by decide +kernel
theorem dX12_paradeFrom_19 : decode cX12_paradeFrom 19 = .ok (.if_icmp .le 5, 3) := by decide +kernel
theorem dX12_paradeFrom_22 : decode cX12_paradeFrom 22 = .ok (.iconst (-1), 1) := by decide +kernel
theorem dX12_paradeFrom_23 : decode cX12_paradeFrom 23 = .ok (.ireturn, 1) := by decide +kernel
theorem dX12_paradeFrom_24 : decode cX12_paradeFrom 24 = .ok (.iconst 0, 1) := by decide +kernel
theorem dX12_paradeFrom_25 : decode cX12_paradeFrom 25 = .ok (.istore 4, 2) := by decide +kernel
theorem dX12_paradeFrom_27 : decode cX12_paradeFrom 27 = .ok (.iload_n 2, 1) := by decide +kernel
theorem dX12_paradeFrom_28 : decode cX12_paradeFrom 28 = .ok (.istore 5, 2) := by decide +kernel
theorem dX12_paradeFrom_30 : decode cX12_paradeFrom 30 = .ok (.iload 5, 2) := by decide +kernel
theorem dX12_paradeFrom_32 : decode cX12_paradeFrom 32 = .ok (.iload_n 2, 1) := by decide +kernel
theorem dX12_paradeFrom_33 : decode cX12_paradeFrom 33 = .ok (.iload_n 3, 1) := by decide +kernel
theorem dX12_paradeFrom_34 : decode cX12_paradeFrom 34 = .ok (.aload_n 0, 1) := by decide +kernel
theorem dX12_paradeFrom_35 : decode cX12_paradeFrom 35 = .ok (.getfield 234, 3) := by decide +kernel
theorem dX12_paradeFrom_38 : decode cX12_paradeFrom 38 = .ok (.iconst 1, 1) := by decide +kernel
theorem dX12_paradeFrom_39 : decode cX12_paradeFrom 39 = .ok (.isub, 1) := by decide +kernel
theorem dX12_paradeFrom_40 : decode cX12_paradeFrom 40 = .ok (.imul, 1) := by decide +kernel
theorem dX12_paradeFrom_41 : decode cX12_paradeFrom 41 = .ok (.iadd, 1) := by decide +kernel
theorem dX12_paradeFrom_42 : decode cX12_paradeFrom 42 = .ok (.if_icmp .ge 36, 3) := by decide +kernel
theorem dX12_paradeFrom_45 : decode cX12_paradeFrom 45 = .ok (.iload 4, 2) := by decide +kernel
theorem dX12_paradeFrom_47 : decode cX12_paradeFrom 47 = .ok (.aload_n 0, 1) := by decide +kernel
theorem dX12_paradeFrom_48 : decode cX12_paradeFrom 48 = .ok (.getfield 112, 3) := by decide +kernel
theorem dX12_paradeFrom_51 : decode cX12_paradeFrom 51 = .ok (.bipush 100, 2) := by decide +kernel
theorem dX12_paradeFrom_53 : decode cX12_paradeFrom 53 = .ok (.iload 5, 2) := by decide +kernel
theorem dX12_paradeFrom_55 : decode cX12_paradeFrom 55 = .ok (.imul, 1) := by decide +kernel
theorem dX12_paradeFrom_56 : decode cX12_paradeFrom 56 = .ok (.aload_n 0, 1) := by decide +kernel
theorem dX12_paradeFrom_57 : decode cX12_paradeFrom 57 = .ok (.getfield 152, 3) := by decide +kernel
theorem dX12_paradeFrom_60 : decode cX12_paradeFrom 60 = .ok (.iload 5, 2) := by decide +kernel
theorem dX12_paradeFrom_62 : decode cX12_paradeFrom 62 = .ok (.iload_n 2, 1) := by decide +kernel
theorem dX12_paradeFrom_63 : decode cX12_paradeFrom 63 = .ok (.isub, 1) := by decide +kernel
theorem dX12_paradeFrom_64 : decode cX12_paradeFrom 64 = .ok (.iload_n 3, 1) := by decide +kernel
theorem dX12_paradeFrom_65 : decode cX12_paradeFrom 65 = .ok (.idiv, 1) := by decide +kernel
theorem dX12_paradeFrom_66 : decode cX12_paradeFrom 66 = .ok (.iaload, 1) := by decide +kernel
theorem dX12_paradeFrom_67 : decode cX12_paradeFrom 67 = .ok (.iadd, 1) := by decide +kernel
theorem dX12_paradeFrom_68 : decode cX12_paradeFrom 68 = .ok (.iaload, 1) := by decide +kernel
theorem dX12_paradeFrom_69 : decode cX12_paradeFrom 69 = .ok (.iadd, 1) := by decide +kernel
theorem dX12_paradeFrom_70 : decode cX12_paradeFrom 70 = .ok (.istore 4, 2) := by decide +kernel
theorem dX12_paradeFrom_72 : decode cX12_paradeFrom 72 = .ok (.iinc 5 1, 3) := by decide +kernel
theorem dX12_paradeFrom_75 : decode cX12_paradeFrom 75 = .ok (.goto (-45), 3) := by decide +kernel
theorem dX12_paradeFrom_78 : decode cX12_paradeFrom 78 = .ok (.iload 4, 2) := by decide +kernel
theorem dX12_paradeFrom_80 : decode cX12_paradeFrom 80 = .ok (.ireturn, 1) := by decide +kernel
theorem dX12_parade_0 : decode cX12_parade 0 = .ok (.aload_n 0, 1) := by decide +kernel
theorem dX12_parade_1 : decode cX12_parade 1 = .ok (.iconst 0, 1) := by decide +kernel
theorem dX12_parade_2 : decode cX12_parade 2 = .ok (.putfield 1, 3) := by decide +kernel
theorem dX12_parade_5 : decode cX12_parade 5 = .ok (.iload_n 1, 1) := by decide +kernel
theorem dX12_parade_6 : decode cX12_parade 6 = .ok (.invokestatic 313, 3) := by decide +kernel
theorem dX12_parade_9 : decode cX12_parade 9 = .ok (.ifCond .eq 19, 3) := by decide +kernel
theorem dX12_parade_12 : decode cX12_parade 12 = .ok (.iload_n 2, 1) := by decide +kernel
theorem dX12_parade_13 : decode cX12_parade 13 = .ok (.invokestatic 316, 3) := by decide +kernel
theorem dX12_parade_16 : decode cX12_parade 16 = .ok (.ifCond .eq 12, 3) := by decide +kernel
theorem dX12_parade_19 : decode cX12_parade 19 = .ok (.iload_n 3, 1) := by decide +kernel
theorem dX12_parade_20 : decode cX12_parade 20 = .ok (.iconst 1, 1) := by decide +kernel
theorem dX12_parade_21 : decode cX12_parade 21 = .ok (.iconst 3, 1) := by decide +kernel
theorem dX12_parade_22 : decode cX12_parade 22 = .ok (.invokestatic 289, 3) := by decide +kernel
theorem dX12_parade_25 : decode cX12_parade 25 = .ok (.ifCond .ne 5, 3) := by decide +kernel
theorem dX12_parade_28 : decode cX12_parade 28 = .ok (.iconst (-1), 1) := by decide +kernel
theorem dX12_parade_29 : decode cX12_parade 29 = .ok (.ireturn, 1) := by decide +kernel
theorem dX12_parade_30 : decode cX12_parade 30 = .ok (.aload_n 0, 1) := by decide +kernel
theorem dX12_parade_31 : decode cX12_parade 31 = .ok (.iload_n 1, 1) := by decide +kernel
theorem dX12_parade_32 : decode cX12_parade 32 = .ok (.invokevirtual 339, 3) := by decide +kernel
theorem dX12_parade_35 : decode cX12_parade 35 = .ok (.aload_n 0, 1) := by decide +kernel
theorem dX12_parade_36 : decode cX12_parade 36 = .ok (.iload_n 1, 1) := by decide +kernel
theorem dX12_parade_37 : decode cX12_parade 37 = .ok (.iload_n 2, 1) := by decide +kernel
theorem dX12_parade_38 : decode cX12_parade 38 = .ok (.iload_n 3, 1) := by decide +kernel
theorem dX12_parade_39 : decode cX12_parade 39 = .ok (.invokevirtual 440, 3) := by decide +kernel
theorem dX12_parade_42 : decode cX12_parade 42 = .ok (.ireturn, 1) := by decide +kernel
theorem dX12_start_0 : decode cX12_start 0 = .ok (.aload_n 0, 1) := by decide +kernel
theorem dX12_start_1 : decode cX12_start 1 = .ok (.iconst 0, 1) := by decide +kernel
theorem dX12_start_2 : decode cX12_start 2 = .ok (.putfield 1, 3) := by decide +kernel
theorem dX12_start_5 : decode cX12_start 5 = .ok (.iload_n 1, 1) := by decide +kernel
theorem dX12_start_6 : decode cX12_start 6 = .ok (.invokestatic 313, 3) := by decide +kernel
theorem dX12_start_9 : decode cX12_start 9 = .ok (.ifCond .eq 27, 3) := by decide +kernel
theorem dX12_start_12 : decode cX12_start 12 = .ok (.iload_n 2, 1) := by decide +kernel
theorem dX12_start_13 : decode cX12_start 13 = .ok (.invokestatic 316, 3) := by decide +kernel
theorem dX12_start_16 : decode cX12_start 16 = .ok (.ifCond .eq 20, 3) := by decide +kernel
theorem dX12_start_19 : decode cX12_start 19 = .ok (.iload_n 3, 1) := by decide +kernel
theorem dX12_start_20 : decode cX12_start 20 = .ok (.invokestatic 316, 3) := by decide +kernel
theorem dX12_start_23 : decode cX12_start 23 = .ok (.ifCond .eq 13, 3) := by decide +kernel
theorem dX12_start_26 : decode cX12_start 26 = .ok (.iload 4, 2) := by decide +kernel
theorem dX12_start_28 : decode cX12_start 28 = .ok (.iconst 1, 1) := by decide +kernel
theorem dX12_start_29 : decode cX12_start 29 = .ok (.iconst 3, 1) := by decide +kernel
theorem dX12_start_30 : decode cX12_start 30 = .ok (.invokestatic 289, 3) := by decide +kernel
theorem dX12_start_33 : decode cX12_start 33 = .ok (.ifCond .ne 5, 3) := by decide +kernel
theorem dX12_start_36 : decode cX12_start 36 = .ok (.iconst (-1), 1) := by decide +kernel
theorem dX12_start_37 : decode cX12_start 37 = .ok (.ireturn, 1) := by decide +kernel
theorem dX12_start_38 : decode cX12_start 38 = .ok (.aload_n 0, 1) := by decide +kernel
theorem dX12_start_39 : decode cX12_start 39 = .ok (.iload_n 1, 1) := by decide +kernel
theorem dX12_start_40 : decode cX12_start 40 = .ok (.invokevirtual 339, 3) := by decide +kernel
theorem dX12_start_43 : decode cX12_start 43 = .ok (.iconst (-1), 1) := by decide +kernel
theorem dX12_start_44 : decode cX12_start 44 = .ok (.istore 5, 2) := by decide +kernel
theorem dX12_start_46 : decode cX12_start 46 = .ok (.ldc_w 331, 3) := by decide +kernel
theorem dX12_start_49 : decode cX12_start 49 = .ok (.istore 6, 2) := by decide +kernel
theorem dX12_start_51 : decode cX12_start 51 = .ok (.iload_n 2, 1) := by decide +kernel
theorem dX12_start_52 : decode cX12_start 52 = .ok (.istore 7, 2) := by decide +kernel
theorem dX12_start_54 : decode cX12_start 54 = .ok (.iload 7, 2) := by decide +kernel
theorem dX12_start_56 : decode cX12_start 56 = .ok (.iload_n 3, 1) := by decide +kernel
theorem dX12_start_57 : decode cX12_start 57 = .ok (.if_icmp .gt 40, 3) := by decide +kernel
theorem dX12_start_60 : decode cX12_start 60 = .ok (.aload_n 0, 1) := by decide +kernel
theorem dX12_start_61 : decode cX12_start 61 = .ok (.iload_n 1, 1) := by decide +kernel
theorem dX12_start_62 : decode cX12_start 62 = .ok (.iload 7, 2) := by decide +kernel
theorem dX12_start_64 : decode cX12_start 64 = .ok (.iload 4, 2) := by decide +kernel
theorem dX12_start_66 : decode cX12_start 66 = .ok (.invokevirtual 440, 3) := by decide +kernel
theorem dX12_start_69 : decode cX12_start 69 = .ok (.istore 8, 2) := by decide +kernel
theorem dX12_start_71 : decode cX12_start 71 = .ok (.iload 8, 2) := by decide +kernel
theorem dX12_start_73 : decode cX12_start 73 = .ok (.ifCond .lt 18, 3) := by decide +kernel
theorem dX12_start_76 : decode cX12_start 76 = .ok (.iload 8, 2) := by decide +kernel
theorem dX12_start_78 : decode cX12_start 78 = .ok (.iload 6, 2) := by decide +kernel
theorem dX12_start_80 : decode cX12_start 80 = .ok (.if_icmp .ge 11, 3) := by decide +kernel
theorem dX12_start_83 : decode cX12_start 83 = .ok (.iload 8, 2) := by decide +kernel
theorem dX12_start_85 : decode cX12_start 85 = .ok (.istore 6, 2) := by decide +kernel
theorem dX12_start_87 : decode cX12_start 87 = .ok (.iload 7, 2) := by decide +kernel
theorem dX12_start_89 : decode cX12_start 89 = .ok (.istore 5, 2) := by decide +kernel
theorem dX12_start_91 : decode cX12_start 91 = .ok (.iinc 7 1, 3) := by decide +kernel
theorem dX12_start_94 : decode cX12_start 94 = .ok (.goto (-40), 3) := by decide +kernel
theorem dX12_start_97 : decode cX12_start 97 = .ok (.iload 5, 2) := by decide +kernel
theorem dX12_start_99 : decode cX12_start 99 = .ok (.ireturn, 1) := by decide +kernel
theorem dX12_tell_0 : decode cX12_tell 0 = .ok (.aload_n 0, 1) := by decide +kernel
theorem dX12_tell_1 : decode cX12_tell 1 = .ok (.iconst 0, 1) := by decide +kernel
theorem dX12_tell_2 : decode cX12_tell 2 = .ok (.putfield 1, 3) := by decide +kernel
theorem dX12_tell_5 : decode cX12_tell 5 = .ok (.iload_n 1, 1) := by decide +kernel
theorem dX12_tell_6 : decode cX12_tell 6 = .ok (.iconst 0, 1) := by decide +kernel
theorem dX12_tell_7 : decode cX12_tell 7 = .ok (.iconst 4, 1) := by decide +kernel
theorem dX12_tell_8 : decode cX12_tell 8 = .ok (.invokestatic 289, 3) := by decide +kernel
theorem dX12_tell_11 : decode cX12_tell 11 = .ok (.ifCond .eq 12, 3) := by decide +kernel
theorem dX12_tell_14 : decode cX12_tell 14 = .ok (.aload_n 0, 1) := by decide +kernel
theorem dX12_tell_15 : decode cX12_tell 15 = .ok (.getfield 237, 3) := by decide +kernel
theorem dX12_tell_18 : decode cX12_tell 18 = .ok (.bipush 60, 2) := by decide +kernel
theorem dX12_tell_20 : decode cX12_tell 20 = .ok (.if_icmp .ne 5, 3) := by decide +kernel
theorem dX12_tell_23 : decode cX12_tell 23 = .ok (.iconst (-1), 1) := by decide +kernel
theorem dX12_tell_24 : decode cX12_tell 24 = .ok (.ireturn, 1) := by decide +kernel
theorem dX12_tell_25 : decode cX12_tell 25 = .ok (.aload_n 0, 1) := by decide +kernel
theorem dX12_tell_26 : decode cX12_tell 26 = .ok (.getfield 155, 3) := by decide +kernel
theorem dX12_tell_29 : decode cX12_tell 29 = .ok (.aload_n 0, 1) := by decide +kernel
theorem dX12_tell_30 : decode cX12_tell 30 = .ok (.getfield 237, 3) := by decide +kernel
theorem dX12_tell_33 : decode cX12_tell 33 = .ok (.iload_n 1, 1) := by decide +kernel
theorem dX12_tell_34 : decode cX12_tell 34 = .ok (.iastore, 1) := by decide +kernel
theorem dX12_tell_35 : decode cX12_tell 35 = .ok (.aload_n 0, 1) := by decide +kernel
theorem dX12_tell_36 : decode cX12_tell 36 = .ok (.dup, 1) := by decide +kernel
theorem dX12_tell_37 : decode cX12_tell 37 = .ok (.getfield 237, 3) := by decide +kernel
theorem dX12_tell_40 : decode cX12_tell 40 = .ok (.iconst 1, 1) := by decide +kernel
theorem dX12_tell_41 : decode cX12_tell 41 = .ok (.iadd, 1) := by decide +kernel
theorem dX12_tell_42 : decode cX12_tell 42 = .ok (.putfield 237, 3) := by decide +kernel
theorem dX12_tell_45 : decode cX12_tell 45 = .ok (.aload_n 0, 1) := by decide +kernel
theorem dX12_tell_46 : decode cX12_tell 46 = .ok (.getfield 237, 3) := by decide +kernel
theorem dX12_tell_49 : decode cX12_tell 49 = .ok (.ireturn, 1) := by decide +kernel
theorem dX12_clear_0 : decode cX12_clear 0 = .ok (.aload_n 0, 1) := by decide +kernel
theorem dX12_clear_1 : decode cX12_clear 1 = .ok (.iconst 0, 1) := by decide +kernel
theorem dX12_clear_2 : decode cX12_clear 2 = .ok (.putfield 1, 3) := by decide +kernel
theorem dX12_clear_5 : decode cX12_clear 5 = .ok (.aload_n 0, 1) := by decide +kernel
theorem dX12_clear_6 : decode cX12_clear 6 = .ok (.iconst 0, 1) := by decide +kernel
theorem dX12_clear_7 : decode cX12_clear 7 = .ok (.putfield 234, 3) := by decide +kernel
theorem dX12_clear_10 : decode cX12_clear 10 = .ok (.aload_n 0, 1) := by decide +kernel
theorem dX12_clear_11 : decode cX12_clear 11 = .ok (.iconst 0, 1) := by decide +kernel
theorem dX12_clear_12 : decode cX12_clear 12 = .ok (.putfield 237, 3) := by decide +kernel
theorem dX12_clear_15 : decode cX12_clear 15 = .ok (.iconst 1, 1) := by decide +kernel
theorem dX12_clear_16 : decode cX12_clear 16 = .ok (.ireturn, 1) := by decide +kernel
theorem dX12_whyNot_0 : decode cX12_whyNot 0 = .ok (.iload_n 3, 1) := by decide +kernel
theorem dX12_whyNot_1 : decode cX12_whyNot 1 = .ok (.iconst 4, 1) := by decide +kernel
theorem dX12_whyNot_2 : decode cX12_whyNot 2 = .ok (.if_icmp .ne 7, 3) := by decide +kernel
theorem dX12_whyNot_5 : decode cX12_whyNot 5 = .ok (.iload_n 2, 1) := by decide +kernel
theorem dX12_whyNot_6 : decode cX12_whyNot 6 = .ok (.goto 8, 3) := by decide +kernel
theorem dX12_whyNot_9 : decode cX12_whyNot 9 = .ok (.iload_n 2, 1) := by decide +kernel
theorem dX12_whyNot_10 : decode cX12_whyNot 10 = .ok (.iload_n 3, 1) := by decide +kernel
theorem dX12_whyNot_11 : decode cX12_whyNot 11 = .ok (.invokestatic 328, 3) := by decide +kernel
theorem dX12_whyNot_14 : decode cX12_whyNot 14 = .ok (.istore 5, 2) := by decide +kernel
theorem dX12_whyNot_16 : decode cX12_whyNot 16 = .ok (.iload_n 1, 1) := by decide +kernel
theorem dX12_whyNot_17 : decode cX12_whyNot 17 = .ok (.iload_n 3, 1) := by decide +kernel
theorem dX12_whyNot_18 : decode cX12_whyNot 18 = .ok (.iconst 4, 1) := by decide +kernel
theorem dX12_whyNot_19 : decode cX12_whyNot 19 = .ok (.if_icmp .ne 7, 3) := by decide +kernel
theorem dX12_whyNot_22 : decode cX12_whyNot 22 = .ok (.iconst 1, 1) := by decide +kernel
theorem dX12_whyNot_23 : decode cX12_whyNot 23 = .ok (.goto 5, 3) := by decide +kernel
theorem dX12_whyNot_26 : decode cX12_whyNot 26 = .ok (.iload 4, 2) := by decide +kernel
theorem dX12_whyNot_28 : decode cX12_whyNot 28 = .ok (.iadd, 1) := by decide +kernel
theorem dX12_whyNot_29 : decode cX12_whyNot 29 = .ok (.istore 6, 2) := by decide +kernel
theorem dX12_whyNot_31 : decode cX12_whyNot 31 = .ok (.iload 5, 2) := by decide +kernel
theorem dX12_whyNot_33 : decode cX12_whyNot 33 = .ok (.iconst (-1), 1) := by decide +kernel
theorem dX12_whyNot_34 : decode cX12_whyNot 34 = .ok (.if_icmp .ne 5, 3) := by decide +kernel
theorem dX12_whyNot_37 : decode cX12_whyNot 37 = .ok (.iconst 1, 1) := by decide +kernel
theorem dX12_whyNot_38 : decode cX12_whyNot 38 = .ok (.ireturn, 1) := by decide +kernel
theorem dX12_whyNot_39 : decode cX12_whyNot 39 = .ok (.aload_n 0, 1) := by decide +kernel
theorem dX12_whyNot_40 : decode cX12_whyNot 40 = .ok (.getfield 97, 3) := by decide +kernel
theorem dX12_whyNot_43 : decode cX12_whyNot 43 = .ok (.iload 5, 2) := by decide +kernel
theorem dX12_whyNot_45 : decode cX12_whyNot 45 = .ok (.iaload, 1) := by decide +kernel
theorem dX12_whyNot_46 : decode cX12_whyNot 46 = .ok (.iconst 1, 1) := by decide +kernel
theorem dX12_whyNot_47 : decode cX12_whyNot 47 = .ok (.if_icmp .ne 5, 3) := by decide +kernel
theorem dX12_whyNot_50 : decode cX12_whyNot 50 = .ok (.iconst 2, 1) := by decide +kernel
theorem dX12_whyNot_51 : decode cX12_whyNot 51 = .ok (.ireturn, 1) := by decide +kernel
theorem dX12_whyNot_52 : decode cX12_whyNot 52 = .ok (.iload 6, 2) := by decide +kernel
theorem dX12_whyNot_54 : decode cX12_whyNot 54 = .ok (.bipush 119, 2) := by decide +kernel
theorem dX12_whyNot_56 : decode cX12_whyNot 56 = .ok (.if_icmp .le 5, 3) := by decide +kernel
theorem dX12_whyNot_59 : decode cX12_whyNot 59 = .ok (.iconst 3, 1) := by decide +kernel
theorem dX12_whyNot_60 : decode cX12_whyNot 60 = .ok (.ireturn, 1) := by decide +kernel
theorem dX12_whyNot_61 : decode cX12_whyNot 61 = .ok (.iload_n 3, 1) := by decide +kernel
theorem dX12_whyNot_62 : decode cX12_whyNot 62 = .ok (.iconst 4, 1) := by decide +kernel
theorem dX12_whyNot_63 : decode cX12_whyNot 63 = .ok (.if_icmp .eq 23, 3) := by decide +kernel
theorem dX12_whyNot_66 : decode cX12_whyNot 66 = .ok (.aload_n 0, 1) := by decide +kernel
theorem dX12_whyNot_67 : decode cX12_whyNot 67 = .ok (.getfield 115, 3) := by decide +kernel
theorem dX12_whyNot_70 : decode cX12_whyNot 70 = .ok (.bipush 100, 2) := by decide +kernel
theorem dX12_whyNot_72 : decode cX12_whyNot 72 = .ok (.iload 6, 2) := by decide +kernel
theorem dX12_whyNot_74 : decode cX12_whyNot 74 = .ok (.imul, 1) := by decide +kernel
theorem dX12_whyNot_75 : decode cX12_whyNot 75 = .ok (.iload 5, 2) := by decide +kernel
theorem dX12_whyNot_77 : decode cX12_whyNot 77 = .ok (.iadd, 1) := by decide +kernel
theorem dX12_whyNot_78 : decode cX12_whyNot 78 = .ok (.baload, 1) := by decide +kernel
theorem dX12_whyNot_79 : decode cX12_whyNot 79 = .ok (.ifCond .eq 7, 3) := by decide +kernel
theorem dX12_whyNot_82 : decode cX12_whyNot 82 = .ok (.iconst 4, 1) := by decide +kernel
theorem dX12_whyNot_83 : decode cX12_whyNot 83 = .ok (.goto 4, 3) := by decide +kernel
theorem dX12_whyNot_86 : decode cX12_whyNot 86 = .ok (.iconst 0, 1) := by decide +kernel
theorem dX12_whyNot_87 : decode cX12_whyNot 87 = .ok (.ireturn, 1) := by decide +kernel
theorem dX12_judged_0 : decode cX12_judged 0 = .ok (.aload_n 0, 1) := by decide +kernel
theorem dX12_judged_1 : decode cX12_judged 1 = .ok (.aload_n 0, 1) := by decide +kernel
theorem dX12_judged_2 : decode cX12_judged 2 = .ok (.iload_n 1, 1) := by decide +kernel
theorem dX12_judged_3 : decode cX12_judged 3 = .ok (.invokevirtual 322, 3) := by decide +kernel
theorem dX12_judged_6 : decode cX12_judged 6 = .ok (.ifCond .eq 41, 3) := by decide +kernel
theorem dX12_judged_9 : decode cX12_judged 9 = .ok (.iload_n 2, 1) := by decide +kernel
theorem dX12_judged_10 : decode cX12_judged 10 = .ok (.invokestatic 313, 3) := by decide +kernel
theorem dX12_judged_13 : decode cX12_judged 13 = .ok (.ifCond .eq 34, 3) := by decide +kernel
theorem dX12_judged_16 : decode cX12_judged 16 = .ok (.iload_n 3, 1) := by decide +kernel
theorem dX12_judged_17 : decode cX12_judged 17 = .ok (.invokestatic 316, 3) := by decide +kernel
theorem dX12_judged_20 : decode cX12_judged 20 = .ok (.ifCond .eq 27, 3) := by decide +kernel
theorem dX12_judged_23 : decode cX12_judged 23 = .ok (.aload_n 0, 1) := by decide +kernel
theorem dX12_judged_24 : decode cX12_judged 24 = .ok (.iload 4, 2) := by decide +kernel
theorem dX12_judged_26 : decode cX12_judged 26 = .ok (.invokevirtual 325, 3) := by decide +kernel
theorem dX12_judged_29 : decode cX12_judged 29 = .ok (.ifCond .eq 18, 3) := by decide +kernel
theorem dX12_judged_32 : decode cX12_judged 32 = .ok (.iload 5, 2) := by decide +kernel
theorem dX12_judged_34 : decode cX12_judged 34 = .ok (.iconst 0, 1) := by decide +kernel
theorem dX12_judged_35 : decode cX12_judged 35 = .ok (.bipush 6, 2) := by decide +kernel
theorem dX12_judged_37 : decode cX12_judged 37 = .ok (.invokestatic 289, 3) := by decide +kernel
theorem dX12_judged_40 : decode cX12_judged 40 = .ok (.ifCond .eq 7, 3) := by decide +kernel
theorem dX12_judged_43 : decode cX12_judged 43 = .ok (.iconst 0, 1) := by decide +kernel
theorem dX12_judged_44 : decode cX12_judged 44 = .ok (.goto 4, 3) := by decide +kernel
theorem dX12_judged_47 : decode cX12_judged 47 = .ok (.iconst 1, 1) := by decide +kernel
theorem dX12_judged_48 : decode cX12_judged 48 = .ok (.putfield 1, 3) := by decide +kernel
theorem dX12_judged_51 : decode cX12_judged 51 = .ok (.aload_n 0, 1) := by decide +kernel
theorem dX12_judged_52 : decode cX12_judged 52 = .ok (.getfield 1, 3) := by decide +kernel
theorem dX12_judged_55 : decode cX12_judged 55 = .ok (.ifCond .le 5, 3) := by decide +kernel
theorem dX12_judged_58 : decode cX12_judged 58 = .ok (.iconst 0, 1) := by decide +kernel
theorem dX12_judged_59 : decode cX12_judged 59 = .ok (.ireturn, 1) := by decide +kernel
theorem dX12_judged_60 : decode cX12_judged 60 = .ok (.aload_n 0, 1) := by decide +kernel
theorem dX12_judged_61 : decode cX12_judged 61 = .ok (.iload_n 2, 1) := by decide +kernel
theorem dX12_judged_62 : decode cX12_judged 62 = .ok (.invokevirtual 339, 3) := by decide +kernel
theorem dX12_judged_65 : decode cX12_judged 65 = .ok (.iconst (-1), 1) := by decide +kernel
theorem dX12_judged_66 : decode cX12_judged 66 = .ok (.istore 6, 2) := by decide +kernel
theorem dX12_judged_68 : decode cX12_judged 68 = .ok (.iconst 0, 1) := by decide +kernel
theorem dX12_judged_69 : decode cX12_judged 69 = .ok (.istore 7, 2) := by decide +kernel
theorem dX12_judged_71 : decode cX12_judged 71 = .ok (.iconst 0, 1) := by decide +kernel
theorem dX12_judged_72 : decode cX12_judged 72 = .ok (.istore 8, 2) := by decide +kernel
theorem dX12_judged_74 : decode cX12_judged 74 = .ok (.iconst 0, 1) := by decide +kernel
theorem dX12_judged_75 : decode cX12_judged 75 = .ok (.istore 9, 2) := by decide +kernel
theorem dX12_judged_77 : decode cX12_judged 77 = .ok (.iconst 0, 1) := by decide +kernel
theorem dX12_judged_78 : decode cX12_judged 78 = .ok (.istore 10, 2) := by decide +kernel
theorem dX12_judged_80 : decode cX12_judged 80 = .ok (.aload_n 0, 1) := by decide +kernel
theorem dX12_judged_81 : decode cX12_judged 81 = .ok (.iload_n 1, 1) := by decide +kernel
theorem dX12_judged_82 : decode cX12_judged 82 = .ok (.iconst 3, 1) := by decide +kernel
theorem dX12_judged_83 : decode cX12_judged 83 = .ok (.invokevirtual 345, 3) := by decide +kernel
theorem dX12_judged_86 : decode cX12_judged 86 = .ok (.istore 11, 2) := by decide +kernel
theorem dX12_judged_88 : decode cX12_judged 88 = .ok (.iload_n 3, 1) := by decide +kernel
theorem dX12_judged_89 : decode cX12_judged 89 = .ok (.istore 12, 2) := by decide +kernel
theorem dX12_judged_91 : decode cX12_judged 91 = .ok (.iload 4, 2) := by decide +kernel
theorem dX12_judged_93 : decode cX12_judged 93 = .ok (.istore 13, 2) := by decide +kernel
theorem dX12_judged_95 : decode cX12_judged 95 = .ok (.iconst 0, 1) := by decide +kernel
theorem dX12_judged_96 : decode cX12_judged 96 = .ok (.istore 14, 2) := by decide +kernel
theorem dX12_judged_98 : decode cX12_judged 98 = .ok (.iload 14, 2) := by decide +kernel
theorem dX12_judged_100 : decode cX12_judged 100 = .ok (.aload_n 0, 1) := by decide +kernel
theorem dX12_judged_101 : decode cX12_judged 101 = .ok (.getfield 237, 3) := by decide +kernel
theorem dX12_judged_104 : decode cX12_judged 104 = .ok (.if_icmp .ge 231, 3) := by decide +kernel
theorem dX12_judged_107 : decode cX12_judged 107 = .ok (.iload 6, 2) := by decide +kernel
theorem dX12_judged_109 : decode cX12_judged 109 = .ok (.ifCond .ge 226, 3) := by decide +kernel
theorem dX12_judged_112 : decode cX12_judged 112 = .ok (.aload_n 0, 1) := by decide +kernel
theorem dX12_judged_113 : decode cX12_judged 113 = .ok (.getfield 155, 3) := by decide +kernel
theorem dX12_judged_116 : decode cX12_judged 116 = .ok (.iload 14, 2) := by decide +kernel
theorem dX12_judged_118 : decode cX12_judged 118 = .ok (.iaload, 1) := by decide +kernel
theorem dX12_judged_119 : decode cX12_judged 119 = .ok (.istore 15, 2) := by decide +kernel
theorem dX12_judged_121 : decode cX12_judged 121 = .ok (.aload_n 0, 1) := by decide +kernel
theorem dX12_judged_122 : decode cX12_judged 122 = .ok (.iload 12, 2) := by decide +kernel
theorem dX12_judged_124 : decode cX12_judged 124 = .ok (.iload 13, 2) := by decide +kernel
theorem dX12_judged_126 : decode cX12_judged 126 = .ok (.iload 15, 2) := by decide +kernel
theorem dX12_judged_128 : decode cX12_judged 128 = .ok (.aload_n 0, 1) := by decide +kernel
theorem dX12_judged_129 : decode cX12_judged 129 = .ok (.iload_n 1, 1) := by decide +kernel
theorem dX12_judged_130 : decode cX12_judged 130 = .ok (.iconst 0, 1) := by decide +kernel
theorem dX12_judged_131 : decode cX12_judged 131 = .ok (.invokevirtual 345, 3) := by decide +kernel
theorem dX12_judged_134 : decode cX12_judged 134 = .ok (.invokevirtual 443, 3) := by decide +kernel
theorem dX12_judged_137 : decode cX12_judged 137 = .ok (.istore 7, 2) := by decide +kernel
theorem dX12_judged_139 : decode cX12_judged 139 = .ok (.iload 7, 2) := by decide +kernel
theorem dX12_judged_141 : decode cX12_judged 141 = .ok (.ifCond .le 8, 3) := by decide +kernel
theorem dX12_judged_144 : decode cX12_judged 144 = .ok (.iload 14, 2) := by decide +kernel
theorem dX12_judged_146 : decode cX12_judged 146 = .ok (.goto 4, 3) := by decide +kernel
theorem dX12_judged_149 : decode cX12_judged 149 = .ok (.iconst (-1), 1) := by decide +kernel
theorem dX12_judged_150 : decode cX12_judged 150 = .ok (.istore 6, 2) := by decide +kernel
theorem dX12_judged_152 : decode cX12_judged 152 = .ok (.iload 7, 2) := by decide +kernel
theorem dX12_judged_154 : decode cX12_judged 154 = .ok (.ifCond .le 8, 3) := by decide +kernel
theorem dX12_judged_157 : decode cX12_judged 157 = .ok (.iload 12, 2) := by decide +kernel
theorem dX12_judged_159 : decode cX12_judged 159 = .ok (.goto 22, 3) := by decide +kernel
theorem dX12_judged_162 : decode cX12_judged 162 = .ok (.iload 12, 2) := by decide +kernel
theorem dX12_judged_164 : decode cX12_judged 164 = .ok (.iload 15, 2) := by decide +kernel
theorem dX12_judged_166 : decode cX12_judged 166 = .ok (.iconst 4, 1) := by decide +kernel
theorem dX12_judged_167 : decode cX12_judged 167 = .ok (.if_icmp .ne 7, 3) := by decide +kernel
theorem dX12_judged_170 : decode cX12_judged 170 = .ok (.iconst 1, 1) := by decide +kernel
theorem dX12_judged_171 : decode cX12_judged 171 = .ok (.goto 9, 3) := by decide +kernel
theorem dX12_judged_174 : decode cX12_judged 174 = .ok (.aload_n 0, 1) := by decide +kernel
theorem dX12_judged_175 : decode cX12_judged 175 = .ok (.iload_n 1, 1) := by decide +kernel
theorem dX12_judged_176 : decode cX12_judged 176 = .ok (.iconst 0, 1) := by decide +kernel
theorem dX12_judged_177 : decode cX12_judged 177 = .ok (.invokevirtual 345, 3) := by decide +kernel
theorem dX12_judged_180 : decode cX12_judged 180 = .ok (.iadd, 1) := by decide +kernel
theorem dX12_judged_181 : decode cX12_judged 181 = .ok (.istore 16, 2) := by decide +kernel
theorem dX12_judged_183 : decode cX12_judged 183 = .ok (.iload 12, 2) := by decide +kernel
theorem dX12_judged_185 : decode cX12_judged 185 = .ok (.iload 16, 2) := by decide +kernel
theorem dX12_judged_187 : decode cX12_judged 187 = .ok (.if_icmp .ge 105, 3) := by decide +kernel
theorem dX12_judged_190 : decode cX12_judged 190 = .ok (.aload_n 0, 1) := by decide +kernel
theorem dX12_judged_191 : decode cX12_judged 191 = .ok (.getfield 112, 3) := by decide +kernel
theorem dX12_judged_194 : decode cX12_judged 194 = .ok (.bipush 100, 2) := by decide +kernel
theorem dX12_judged_196 : decode cX12_judged 196 = .ok (.iload 12, 2) := by decide +kernel
theorem dX12_judged_198 : decode cX12_judged 198 = .ok (.imul, 1) := by decide +kernel
theorem dX12_judged_199 : decode cX12_judged 199 = .ok (.iload 13, 2) := by decide +kernel
theorem dX12_judged_201 : decode cX12_judged 201 = .ok (.iadd, 1) := by decide +kernel
theorem dX12_judged_202 : decode cX12_judged 202 = .ok (.iaload, 1) := by decide +kernel
theorem dX12_judged_203 : decode cX12_judged 203 = .ok (.istore 17, 2) := by decide +kernel
theorem dX12_judged_205 : decode cX12_judged 205 = .ok (.iload 8, 2) := by decide +kernel
theorem dX12_judged_207 : decode cX12_judged 207 = .ok (.iload 17, 2) := by decide +kernel
theorem dX12_judged_209 : decode cX12_judged 209 = .ok (.iadd, 1) := by decide +kernel
theorem dX12_judged_210 : decode cX12_judged 210 = .ok (.istore 8, 2) := by decide +kernel
theorem dX12_judged_212 : decode cX12_judged 212 = .ok (.iload 17, 2) := by decide +kernel
theorem dX12_judged_214 : decode cX12_judged 214 = .ok (.ifCond .le 10, 3) := by decide +kernel
theorem dX12_judged_217 : decode cX12_judged 217 = .ok (.iload 9, 2) := by decide +kernel
theorem dX12_judged_219 : decode cX12_judged 219 = .ok (.iconst 1, 1) := by decide +kernel
theorem dX12_judged_220 : decode cX12_judged 220 = .ok (.iadd, 1) := by decide +kernel
theorem dX12_judged_221 : decode cX12_judged 221 = .ok (.goto 27, 3) := by decide +kernel
theorem dX12_judged_224 : decode cX12_judged 224 = .ok (.iload 9, 2) := by decide +kernel
theorem dX12_judged_226 : decode cX12_judged 226 = .ok (.aload_n 0, 1) := by decide +kernel
theorem dX12_judged_227 : decode cX12_judged 227 = .ok (.iload_n 1, 1) := by decide +kernel
theorem dX12_judged_228 : decode cX12_judged 228 = .ok (.iconst 2, 1) := by decide +kernel
theorem dX12_judged_229 : decode cX12_judged 229 = .ok (.invokevirtual 345, 3) := by decide +kernel
theorem dX12_judged_232 : decode cX12_judged 232 = .ok (.if_icmp .le 15, 3) := by decide +kernel
theorem dX12_judged_235 : decode cX12_judged 235 = .ok (.iload 9, 2) := by decide +kernel
theorem dX12_judged_237 : decode cX12_judged 237 = .ok (.aload_n 0, 1) := by decide +kernel
theorem dX12_judged_238 : decode cX12_judged 238 = .ok (.iload_n 1, 1) := by decide +kernel
theorem dX12_judged_239 : decode cX12_judged 239 = .ok (.iconst 2, 1) := by decide +kernel
theorem dX12_judged_240 : decode cX12_judged 240 = .ok (.invokevirtual 345, 3) := by decide +kernel
theorem dX12_judged_243 : decode cX12_judged 243 = .ok (.isub, 1) := by decide +kernel
theorem dX12_judged_244 : decode cX12_judged 244 = .ok (.goto 4, 3) := by decide +kernel
theorem dX12_judged_247 : decode cX12_judged 247 = .ok (.iconst 0, 1) := by decide +kernel
theorem dX12_judged_248 : decode cX12_judged 248 = .ok (.istore 9, 2) := by decide +kernel
theorem dX12_judged_250 : decode cX12_judged 250 = .ok (.iload 9, 2) := by decide +kernel
theorem dX12_judged_252 : decode cX12_judged 252 = .ok (.iload 10, 2) := by decide +kernel
theorem dX12_judged_254 : decode cX12_judged 254 = .ok (.if_icmp .le 8, 3) := by decide +kernel
theorem dX12_judged_257 : decode cX12_judged 257 = .ok (.iload 9, 2) := by decide +kernel
theorem dX12_judged_259 : decode cX12_judged 259 = .ok (.goto 5, 3) := by decide +kernel
theorem dX12_judged_262 : decode cX12_judged 262 = .ok (.iload 10, 2) := by decide +kernel
theorem dX12_judged_264 : decode cX12_judged 264 = .ok (.istore 10, 2) := by decide +kernel
theorem dX12_judged_266 : decode cX12_judged 266 = .ok (.iload 11, 2) := by decide +kernel
theorem dX12_judged_268 : decode cX12_judged 268 = .ok (.aload_n 0, 1) := by decide +kernel
theorem dX12_judged_269 : decode cX12_judged 269 = .ok (.iload_n 1, 1) := by decide +kernel
theorem dX12_judged_270 : decode cX12_judged 270 = .ok (.iload 17, 2) := by decide +kernel
theorem dX12_judged_272 : decode cX12_judged 272 = .ok (.ifCond .le 7, 3) := by decide +kernel
theorem dX12_judged_275 : decode cX12_judged 275 = .ok (.iconst 4, 1) := by decide +kernel
theorem dX12_judged_276 : decode cX12_judged 276 = .ok (.goto 4, 3) := by decide +kernel
theorem dX12_judged_279 : decode cX12_judged 279 = .ok (.iconst 5, 1) := by decide +kernel
theorem dX12_judged_280 : decode cX12_judged 280 = .ok (.invokevirtual 345, 3) := by decide +kernel
theorem dX12_judged_283 : decode cX12_judged 283 = .ok (.isub, 1) := by decide +kernel
theorem dX12_judged_284 : decode cX12_judged 284 = .ok (.istore 11, 2) := by decide +kernel
theorem dX12_judged_286 : decode cX12_judged 286 = .ok (.iinc 12 1, 3) := by decide +kernel
theorem dX12_judged_289 : decode cX12_judged 289 = .ok (.goto (-106), 3) := by decide +kernel
theorem dX12_judged_292 : decode cX12_judged 292 = .ok (.iload 7, 2) := by decide +kernel
theorem dX12_judged_294 : decode cX12_judged 294 = .ok (.ifCond .ne 35, 3) := by decide +kernel
theorem dX12_judged_297 : decode cX12_judged 297 = .ok (.iload 15, 2) := by decide +kernel
theorem dX12_judged_299 : decode cX12_judged 299 = .ok (.iconst 4, 1) := by decide +kernel
theorem dX12_judged_300 : decode cX12_judged 300 = .ok (.if_icmp .eq 29, 3) := by decide +kernel
theorem dX12_judged_303 : decode cX12_judged 303 = .ok (.iload 13, 2) := by decide +kernel
theorem dX12_judged_305 : decode cX12_judged 305 = .ok (.iload 15, 2) := by decide +kernel
theorem dX12_judged_307 : decode cX12_judged 307 = .ok (.invokestatic 328, 3) := by decide +kernel
theorem dX12_judged_310 : decode cX12_judged 310 = .ok (.istore 13, 2) := by decide +kernel
theorem dX12_judged_312 : decode cX12_judged 312 = .ok (.aload_n 0, 1) := by decide +kernel
theorem dX12_judged_313 : decode cX12_judged 313 = .ok (.iload 13, 2) := by decide +kernel
theorem dX12_judged_315 : decode cX12_judged 315 = .ok (.invokevirtual 374, 3) := by decide +kernel
theorem dX12_judged_318 : decode cX12_judged 318 = .ok (.ifCond .eq 7, 3) := by decide +kernel
theorem dX12_judged_321 : decode cX12_judged 321 = .ok (.iconst 0, 1) := by decide +kernel
theorem dX12_judged_322 : decode cX12_judged 322 = .ok (.goto 5, 3) := by decide +kernel
theorem dX12_judged_325 : decode cX12_judged 325 = .ok (.iload 9, 2) := by decide +kernel
theorem dX12_judged_327 : decode cX12_judged 327 = .ok (.istore 9, 2) := by decide +kernel
theorem dX12_judged_329 : decode cX12_judged 329 = .ok (.iinc 14 1, 3) := by decide +kernel
theorem dX12_judged_332 : decode cX12_judged 332 = .ok (.goto (-234), 3) := by decide +kernel
theorem dX12_judged_335 : decode cX12_judged 335 = .ok (.iload 5, 2) := by decide +kernel
theorem dX12_judged_337 : decode cX12_judged 337 = .ok (.tableswitch 66 0 5 #[39, 42, 45, 48, 51, 63], 39) := by decide +kernel
theorem dX12_judged_376 : decode cX12_judged 376 = .ok (.iload 6, 2) := by decide +kernel
theorem dX12_judged_378 : decode cX12_judged 378 = .ok (.ireturn, 1) := by decide +kernel
theorem dX12_judged_379 : decode cX12_judged 379 = .ok (.iload 7, 2) := by decide +kernel
theorem dX12_judged_381 : decode cX12_judged 381 = .ok (.ireturn, 1) := by decide +kernel
theorem dX12_judged_382 : decode cX12_judged 382 = .ok (.iload 8, 2) := by decide +kernel
theorem dX12_judged_384 : decode cX12_judged 384 = .ok (.ireturn, 1) := by decide +kernel
theorem dX12_judged_385 : decode cX12_judged 385 = .ok (.iload 10, 2) := by decide +kernel
theorem dX12_judged_387 : decode cX12_judged 387 = .ok (.ireturn, 1) := by decide +kernel
theorem dX12_judged_388 : decode cX12_judged 388 = .ok (.iload 11, 2) := by decide +kernel
theorem dX12_judged_390 : decode cX12_judged 390 = .ok (.ifCond .ge 7, 3) := by decide +kernel
theorem dX12_judged_393 : decode cX12_judged 393 = .ok (.iconst 0, 1) := by decide +kernel
theorem dX12_judged_394 : decode cX12_judged 394 = .ok (.goto 5, 3) := by decide +kernel
theorem dX12_judged_397 : decode cX12_judged 397 = .ok (.iload 11, 2) := by decide +kernel
theorem dX12_judged_399 : decode cX12_judged 399 = .ok (.ireturn, 1) := by decide +kernel
theorem dX12_judged_400 : decode cX12_judged 400 = .ok (.iload 12, 2) := by decide +kernel
theorem dX12_judged_402 : decode cX12_judged 402 = .ok (.ireturn, 1) := by decide +kernel
theorem dX12_judged_403 : decode cX12_judged 403 = .ok (.iload 13, 2) := by decide +kernel
theorem dX12_judged_405 : decode cX12_judged 405 = .ok (.ireturn, 1) := by decide +kernel
theorem dX12_fewestSteps_0 : decode cX12_fewestSteps 0 = .ok (.iconst 0, 1) := by decide +kernel
theorem dX12_fewestSteps_1 : decode cX12_fewestSteps 1 = .ok (.istore_n 3, 1) := by decide +kernel
theorem dX12_fewestSteps_2 : decode cX12_fewestSteps 2 = .ok (.iload_n 3, 1) := by decide +kernel
theorem dX12_fewestSteps_3 : decode cX12_fewestSteps 3 = .ok (.bipush 100, 2) := by decide +kernel
theorem dX12_fewestSteps_5 : decode cX12_fewestSteps 5 = .ok (.if_icmp .ge 27, 3) := by decide +kernel
theorem dX12_fewestSteps_8 : decode cX12_fewestSteps 8 = .ok (.aload_n 0, 1) := by decide +kernel
theorem dX12_fewestSteps_9 : decode cX12_fewestSteps 9 = .ok (.getfield 158, 3) := by decide +kernel
theorem dX12_fewestSteps_12 : decode cX12_fewestSteps 12 = .ok (.iload_n 3, 1) := by decide +kernel
theorem dX12_fewestSteps_13 : decode cX12_fewestSteps 13 = .ok (.iload_n 3, 1) := by decide +kernel
theorem dX12_fewestSteps_14 : decode cX12_fewestSteps 14 = .ok (.iload_n 1, 1) := by decide +kernel
theorem dX12_fewestSteps_15 : decode cX12_fewestSteps 15 = .ok (.if_icmp .ne 7, 3) := by decide +kernel
theorem dX12_fewestSteps_18 : decode cX12_fewestSteps 18 = .ok (.iconst 0, 1) := by decide +kernel
theorem dX12_fewestSteps_19 : decode cX12_fewestSteps 19 = .ok (.goto 6, 3) := by decide +kernel
theorem dX12_fewestSteps_22 : decode cX12_fewestSteps 22 = .ok (.ldc_w 331, 3) := by decide +kernel
theorem dX12_fewestSteps_25 : decode cX12_fewestSteps 25 = .ok (.iastore, 1) := by decide +kernel
theorem dX12_fewestSteps_26 : decode cX12_fewestSteps 26 = .ok (.iinc 3 1, 3) := by decide +kernel
theorem dX12_fewestSteps_29 : decode cX12_fewestSteps 29 = .ok (.goto (-27), 3) := by decide +kernel
theorem dX12_fewestSteps_32 : decode cX12_fewestSteps 32 = .ok (.iconst 0, 1) := by decide +kernel
theorem dX12_fewestSteps_33 : decode cX12_fewestSteps 33 = .ok (.istore_n 3, 1) := by decide +kernel
theorem dX12_fewestSteps_34 : decode cX12_fewestSteps 34 = .ok (.iload_n 3, 1) := by decide +kernel
theorem dX12_fewestSteps_35 : decode cX12_fewestSteps 35 = .ok (.bipush 100, 2) := by decide +kernel
theorem dX12_fewestSteps_37 : decode cX12_fewestSteps 37 = .ok (.if_icmp .ge 113, 3) := by decide +kernel
theorem dX12_fewestSteps_40 : decode cX12_fewestSteps 40 = .ok (.iconst 0, 1) := by decide +kernel
theorem dX12_fewestSteps_41 : decode cX12_fewestSteps 41 = .ok (.istore 4, 2) := by decide +kernel
theorem dX12_fewestSteps_43 : decode cX12_fewestSteps 43 = .ok (.iload 4, 2) := by decide +kernel
theorem dX12_fewestSteps_45 : decode cX12_fewestSteps 45 = .ok (.bipush 100, 2) := by decide +kernel
theorem dX12_fewestSteps_47 : decode cX12_fewestSteps 47 = .ok (.if_icmp .ge 97, 3) := by decide +kernel
theorem dX12_fewestSteps_50 : decode cX12_fewestSteps 50 = .ok (.iconst 0, 1) := by decide +kernel
theorem dX12_fewestSteps_51 : decode cX12_fewestSteps 51 = .ok (.istore 5, 2) := by decide +kernel
theorem dX12_fewestSteps_53 : decode cX12_fewestSteps 53 = .ok (.iload 5, 2) := by decide +kernel
theorem dX12_fewestSteps_55 : decode cX12_fewestSteps 55 = .ok (.iconst 4, 1) := by decide +kernel
theorem dX12_fewestSteps_56 : decode cX12_fewestSteps 56 = .ok (.if_icmp .ge 82, 3) := by decide +kernel
theorem dX12_fewestSteps_59 : decode cX12_fewestSteps 59 = .ok (.aload_n 0, 1) := by decide +kernel
theorem dX12_fewestSteps_60 : decode cX12_fewestSteps 60 = .ok (.getfield 158, 3) := by decide +kernel
theorem dX12_fewestSteps_63 : decode cX12_fewestSteps 63 = .ok (.iload 4, 2) := by decide +kernel
theorem dX12_fewestSteps_65 : decode cX12_fewestSteps 65 = .ok (.iaload, 1) := by decide +kernel
theorem dX12_fewestSteps_66 : decode cX12_fewestSteps 66 = .ok (.ldc_w 331, 3) := by decide +kernel
theorem dX12_fewestSteps_69 : decode cX12_fewestSteps 69 = .ok (.if_icmp .ge 69, 3) := by decide +kernel
theorem dX12_fewestSteps_72 : decode cX12_fewestSteps 72 = .ok (.iload 4, 2) := by decide +kernel
theorem dX12_fewestSteps_74 : decode cX12_fewestSteps 74 = .ok (.iload 5, 2) := by decide +kernel
theorem dX12_fewestSteps_76 : decode cX12_fewestSteps 76 = .ok (.invokestatic 328, 3) := by decide +kernel
theorem dX12_fewestSteps_79 : decode cX12_fewestSteps 79 = .ok (.istore 6, 2) := by decide +kernel
theorem dX12_fewestSteps_81 : decode cX12_fewestSteps 81 = .ok (.iload 6, 2) := by decide +kernel
theorem dX12_fewestSteps_83 : decode cX12_fewestSteps 83 = .ok (.ifCond .lt 49, 3) := by decide +kernel
theorem dX12_fewestSteps_86 : decode cX12_fewestSteps 86 = .ok (.aload_n 0, 1) := by decide +kernel
theorem dX12_fewestSteps_87 : decode cX12_fewestSteps 87 = .ok (.getfield 97, 3) := by decide +kernel
theorem dX12_fewestSteps_90 : decode cX12_fewestSteps 90 = .ok (.iload 6, 2) := by decide +kernel
theorem dX12_fewestSteps_92 : decode cX12_fewestSteps 92 = .ok (.iaload, 1) := by decide +kernel
theorem dX12_fewestSteps_93 : decode cX12_fewestSteps 93 = .ok (.iconst 1, 1) := by decide +kernel
theorem dX12_fewestSteps_94 : decode cX12_fewestSteps 94 = .ok (.if_icmp .eq 38, 3) := by decide +kernel
theorem dX12_fewestSteps_97 : decode cX12_fewestSteps 97 = .ok (.aload_n 0, 1) := by decide +kernel
theorem dX12_fewestSteps_98 : decode cX12_fewestSteps 98 = .ok (.getfield 158, 3) := by decide +kernel
theorem dX12_fewestSteps_101 : decode cX12_fewestSteps 101 = .ok (.iload 4, 2) := by decide +kernel
theorem dX12_fewestSteps_103 : decode cX12_fewestSteps 103 = .ok (.iaload, 1) := by decide +kernel
theorem dX12_fewestSteps_104 : decode cX12_fewestSteps 104 = .ok (.iconst 1, 1) := by decide +kernel
theorem dX12_fewestSteps_105 : decode cX12_fewestSteps 105 = .ok (.iadd, 1) := by decide +kernel
theorem dX12_fewestSteps_106 : decode cX12_fewestSteps 106 = .ok (.aload_n 0, 1) := by decide +kernel
theorem dX12_fewestSteps_107 : decode cX12_fewestSteps 107 = .ok (.getfield 158, 3) := by decide +kernel
theorem dX12_fewestSteps_110 : decode cX12_fewestSteps 110 = .ok (.iload 6, 2) := by decide +kernel
theorem dX12_fewestSteps_112 : decode cX12_fewestSteps 112 = .ok (.iaload, 1) := by decide +kernel
theorem dX12_fewestSteps_113 : decode cX12_fewestSteps 113 = .ok (.if_icmp .ge 19, 3) := by decide +kernel
theorem dX12_fewestSteps_116 : decode cX12_fewestSteps 116 = .ok (.aload_n 0, 1) := by decide +kernel
theorem dX12_fewestSteps_117 : decode cX12_fewestSteps 117 = .ok (.getfield 158, 3) := by decide +kernel
theorem dX12_fewestSteps_120 : decode cX12_fewestSteps 120 = .ok (.iload 6, 2) := by decide +kernel
theorem dX12_fewestSteps_122 : decode cX12_fewestSteps 122 = .ok (.aload_n 0, 1) := by decide +kernel
theorem dX12_fewestSteps_123 : decode cX12_fewestSteps 123 = .ok (.getfield 158, 3) := by decide +kernel
theorem dX12_fewestSteps_126 : decode cX12_fewestSteps 126 = .ok (.iload 4, 2) := by decide +kernel
theorem dX12_fewestSteps_128 : decode cX12_fewestSteps 128 = .ok (.iaload, 1) := by decide +kernel
theorem dX12_fewestSteps_129 : decode cX12_fewestSteps 129 = .ok (.iconst 1, 1) := by decide +kernel
theorem dX12_fewestSteps_130 : decode cX12_fewestSteps 130 = .ok (.iadd, 1) := by decide +kernel
theorem dX12_fewestSteps_131 : decode cX12_fewestSteps 131 = .ok (.iastore, 1) := by decide +kernel
theorem dX12_fewestSteps_132 : decode cX12_fewestSteps 132 = .ok (.iinc 5 1, 3) := by decide +kernel
theorem dX12_fewestSteps_135 : decode cX12_fewestSteps 135 = .ok (.goto (-82), 3) := by decide +kernel
theorem dX12_fewestSteps_138 : decode cX12_fewestSteps 138 = .ok (.iinc 4 1, 3) := by decide +kernel
theorem dX12_fewestSteps_141 : decode cX12_fewestSteps 141 = .ok (.goto (-98), 3) := by decide +kernel
theorem dX12_fewestSteps_144 : decode cX12_fewestSteps 144 = .ok (.iinc 3 1, 3) := by decide +kernel
theorem dX12_fewestSteps_147 : decode cX12_fewestSteps 147 = .ok (.goto (-113), 3) := by decide +kernel
theorem dX12_fewestSteps_150 : decode cX12_fewestSteps 150 = .ok (.aload_n 0, 1) := by decide +kernel
theorem dX12_fewestSteps_151 : decode cX12_fewestSteps 151 = .ok (.getfield 158, 3) := by decide +kernel
theorem dX12_fewestSteps_154 : decode cX12_fewestSteps 154 = .ok (.iload_n 2, 1) := by decide +kernel
theorem dX12_fewestSteps_155 : decode cX12_fewestSteps 155 = .ok (.iaload, 1) := by decide +kernel
theorem dX12_fewestSteps_156 : decode cX12_fewestSteps 156 = .ok (.ireturn, 1) := by decide +kernel
theorem dX12_rests_0 : decode cX12_rests 0 = .ok (.aload_n 0, 1) := by decide +kernel
theorem dX12_rests_1 : decode cX12_rests 1 = .ok (.iload_n 1, 1) := by decide +kernel
theorem dX12_rests_2 : decode cX12_rests 2 = .ok (.iload_n 2, 1) := by decide +kernel
theorem dX12_rests_3 : decode cX12_rests 3 = .ok (.iload_n 3, 1) := by decide +kernel
theorem dX12_rests_4 : decode cX12_rests 4 = .ok (.iload 4, 2) := by decide +kernel
theorem dX12_rests_6 : decode cX12_rests 6 = .ok (.iload 5, 2) := by decide +kernel
theorem dX12_rests_8 : decode cX12_rests 8 = .ok (.invokevirtual 355, 3) := by decide +kernel
theorem dX12_rests_11 : decode cX12_rests 11 = .ok (.ifCond .eq 17, 3) := by decide +kernel
theorem dX12_rests_14 : decode cX12_rests 14 = .ok (.iload 6, 2) := by decide +kernel
theorem dX12_rests_16 : decode cX12_rests 16 = .ok (.iconst 0, 1) := by decide +kernel
theorem dX12_rests_17 : decode cX12_rests 17 = .ok (.iconst 3, 1) := by decide +kernel
theorem dX12_rests_18 : decode cX12_rests 18 = .ok (.invokestatic 289, 3) := by decide +kernel
theorem dX12_rests_21 : decode cX12_rests 21 = .ok (.ifCond .eq 7, 3) := by decide +kernel
theorem dX12_rests_24 : decode cX12_rests 24 = .ok (.iconst 1, 1) := by decide +kernel
theorem dX12_rests_25 : decode cX12_rests 25 = .ok (.goto 4, 3) := by decide +kernel
theorem dX12_rests_28 : decode cX12_rests 28 = .ok (.iconst 0, 1) := by decide +kernel
theorem dX12_rests_29 : decode cX12_rests 29 = .ok (.istore 7, 2) := by decide +kernel
theorem dX12_rests_31 : decode cX12_rests 31 = .ok (.iload 7, 2) := by decide +kernel
theorem dX12_rests_33 : decode cX12_rests 33 = .ok (.ifCond .eq 17, 3) := by decide +kernel
theorem dX12_rests_36 : decode cX12_rests 36 = .ok (.aload_n 0, 1) := by decide +kernel
theorem dX12_rests_37 : decode cX12_rests 37 = .ok (.iload_n 1, 1) := by decide +kernel
theorem dX12_rests_38 : decode cX12_rests 38 = .ok (.iload_n 2, 1) := by decide +kernel
theorem dX12_rests_39 : decode cX12_rests 39 = .ok (.iload_n 3, 1) := by decide +kernel
theorem dX12_rests_40 : decode cX12_rests 40 = .ok (.iload 4, 2) := by decide +kernel
theorem dX12_rests_42 : decode cX12_rests 42 = .ok (.iload 5, 2) := by decide +kernel
theorem dX12_rests_44 : decode cX12_rests 44 = .ok (.invokevirtual 424, 3) := by decide +kernel
theorem dX12_rests_47 : decode cX12_rests 47 = .ok (.goto 6, 3) := by decide +kernel
theorem dX12_rests_50 : decode cX12_rests 50 = .ok (.ldc_w 331, 3) := by decide +kernel
theorem dX12_rests_53 : decode cX12_rests 53 = .ok (.istore 8, 2) := by decide +kernel
theorem dX12_rests_55 : decode cX12_rests 55 = .ok (.aload_n 0, 1) := by decide +kernel
theorem dX12_rests_56 : decode cX12_rests 56 = .ok (.iload 8, 2) := by decide +kernel
theorem dX12_rests_58 : decode cX12_rests 58 = .ok (.ldc_w 331, 3) := by decide +kernel
theorem dX12_rests_61 : decode cX12_rests 61 = .ok (.if_icmp .ge 7, 3) := by decide +kernel
theorem dX12_rests_64 : decode cX12_rests 64 = .ok (.iconst 0, 1) := by decide +kernel
theorem dX12_rests_65 : decode cX12_rests 65 = .ok (.goto 4, 3) := by decide +kernel
theorem dX12_rests_68 : decode cX12_rests 68 = .ok (.iconst 1, 1) := by decide +kernel
theorem dX12_rests_69 : decode cX12_rests 69 = .ok (.putfield 1, 3) := by decide +kernel
theorem dX12_rests_72 : decode cX12_rests 72 = .ok (.aload_n 0, 1) := by decide +kernel
theorem dX12_rests_73 : decode cX12_rests 73 = .ok (.getfield 1, 3) := by decide +kernel
theorem dX12_rests_76 : decode cX12_rests 76 = .ok (.ifCond .le 5, 3) := by decide +kernel
theorem dX12_rests_79 : decode cX12_rests 79 = .ok (.iconst 0, 1) := by decide +kernel
theorem dX12_rests_80 : decode cX12_rests 80 = .ok (.ireturn, 1) := by decide +kernel
theorem dX12_rests_81 : decode cX12_rests 81 = .ok (.aload_n 0, 1) := by decide +kernel
theorem dX12_rests_82 : decode cX12_rests 82 = .ok (.iload_n 3, 1) := by decide +kernel
theorem dX12_rests_83 : decode cX12_rests 83 = .ok (.iload 4, 2) := by decide +kernel
theorem dX12_rests_85 : decode cX12_rests 85 = .ok (.iload 5, 2) := by decide +kernel
theorem dX12_rests_87 : decode cX12_rests 87 = .ok (.aload_n 0, 1) := by decide +kernel
theorem dX12_rests_88 : decode cX12_rests 88 = .ok (.iload_n 1, 1) := by decide +kernel
theorem dX12_rests_89 : decode cX12_rests 89 = .ok (.iconst 0, 1) := by decide +kernel
theorem dX12_rests_90 : decode cX12_rests 90 = .ok (.invokevirtual 345, 3) := by decide +kernel
theorem dX12_rests_93 : decode cX12_rests 93 = .ok (.invokevirtual 363, 3) := by decide +kernel
theorem dX12_rests_96 : decode cX12_rests 96 = .ok (.iconst 0, 1) := by decide +kernel
theorem dX12_rests_97 : decode cX12_rests 97 = .ok (.istore 9, 2) := by decide +kernel
theorem dX12_rests_99 : decode cX12_rests 99 = .ok (.iconst 0, 1) := by decide +kernel
theorem dX12_rests_100 : decode cX12_rests 100 = .ok (.istore 10, 2) := by decide +kernel
theorem dX12_rests_102 : decode cX12_rests 102 = .ok (.iconst 0, 1) := by decide +kernel
theorem dX12_rests_103 : decode cX12_rests 103 = .ok (.istore 11, 2) := by decide +kernel
theorem dX12_rests_105 : decode cX12_rests 105 = .ok (.iconst (-1), 1) := by decide +kernel
theorem dX12_rests_106 : decode cX12_rests 106 = .ok (.istore 12, 2) := by decide +kernel
theorem dX12_rests_108 : decode cX12_rests 108 = .ok (.iload 4, 2) := by decide +kernel
theorem dX12_rests_110 : decode cX12_rests 110 = .ok (.istore 13, 2) := by decide +kernel
theorem dX12_rests_112 : decode cX12_rests 112 = .ok (.iconst 0, 1) := by decide +kernel
theorem dX12_rests_113 : decode cX12_rests 113 = .ok (.istore 14, 2) := by decide +kernel
theorem dX12_rests_115 : decode cX12_rests 115 = .ok (.iload 14, 2) := by decide +kernel
theorem dX12_rests_117 : decode cX12_rests 117 = .ok (.aload_n 0, 1) := by decide +kernel
theorem dX12_rests_118 : decode cX12_rests 118 = .ok (.getfield 352, 3) := by decide +kernel
theorem dX12_rests_121 : decode cX12_rests 121 = .ok (.if_icmp .ge 113, 3) := by decide +kernel
theorem dX12_rests_124 : decode cX12_rests 124 = .ok (.aload_n 0, 1) := by decide +kernel
theorem dX12_rests_125 : decode cX12_rests 125 = .ok (.getfield 131, 3) := by decide +kernel
theorem dX12_rests_128 : decode cX12_rests 128 = .ok (.iload 14, 2) := by decide +kernel
theorem dX12_rests_130 : decode cX12_rests 130 = .ok (.iaload, 1) := by decide +kernel
theorem dX12_rests_131 : decode cX12_rests 131 = .ok (.iconst 4, 1) := by decide +kernel
theorem dX12_rests_132 : decode cX12_rests 132 = .ok (.if_icmp .ne 7, 3) := by decide +kernel
theorem dX12_rests_135 : decode cX12_rests 135 = .ok (.iconst 1, 1) := by decide +kernel
theorem dX12_rests_136 : decode cX12_rests 136 = .ok (.goto 4, 3) := by decide +kernel
theorem dX12_rests_139 : decode cX12_rests 139 = .ok (.iconst 0, 1) := by decide +kernel
theorem dX12_rests_140 : decode cX12_rests 140 = .ok (.istore 15, 2) := by decide +kernel
theorem dX12_rests_142 : decode cX12_rests 142 = .ok (.iload 9, 2) := by decide +kernel
theorem dX12_rests_144 : decode cX12_rests 144 = .ok (.iload 15, 2) := by decide +kernel
theorem dX12_rests_146 : decode cX12_rests 146 = .ok (.ifCond .eq 7, 3) := by decide +kernel
theorem dX12_rests_149 : decode cX12_rests 149 = .ok (.iconst 1, 1) := by decide +kernel
theorem dX12_rests_150 : decode cX12_rests 150 = .ok (.goto 4, 3) := by decide +kernel
theorem dX12_rests_153 : decode cX12_rests 153 = .ok (.iconst 0, 1) := by decide +kernel
theorem dX12_rests_154 : decode cX12_rests 154 = .ok (.iadd, 1) := by decide +kernel
theorem dX12_rests_155 : decode cX12_rests 155 = .ok (.istore 9, 2) := by decide +kernel
theorem dX12_rests_157 : decode cX12_rests 157 = .ok (.iload 15, 2) := by decide +kernel
theorem dX12_rests_159 : decode cX12_rests 159 = .ok (.ifCond .eq 10, 3) := by decide +kernel
theorem dX12_rests_162 : decode cX12_rests 162 = .ok (.iload 10, 2) := by decide +kernel
theorem dX12_rests_164 : decode cX12_rests 164 = .ok (.iconst 1, 1) := by decide +kernel
theorem dX12_rests_165 : decode cX12_rests 165 = .ok (.iadd, 1) := by decide +kernel
theorem dX12_rests_166 : decode cX12_rests 166 = .ok (.goto 4, 3) := by decide +kernel
theorem dX12_rests_169 : decode cX12_rests 169 = .ok (.iconst 0, 1) := by decide +kernel
theorem dX12_rests_170 : decode cX12_rests 170 = .ok (.istore 10, 2) := by decide +kernel
theorem dX12_rests_172 : decode cX12_rests 172 = .ok (.iload 10, 2) := by decide +kernel
theorem dX12_rests_174 : decode cX12_rests 174 = .ok (.iload 11, 2) := by decide +kernel
theorem dX12_rests_176 : decode cX12_rests 176 = .ok (.if_icmp .le 8, 3) := by decide +kernel
theorem dX12_rests_179 : decode cX12_rests 179 = .ok (.iload 13, 2) := by decide +kernel
theorem dX12_rests_181 : decode cX12_rests 181 = .ok (.goto 5, 3) := by decide +kernel
theorem dX12_rests_184 : decode cX12_rests 184 = .ok (.iload 12, 2) := by decide +kernel
theorem dX12_rests_186 : decode cX12_rests 186 = .ok (.istore 12, 2) := by decide +kernel
theorem dX12_rests_188 : decode cX12_rests 188 = .ok (.iload 10, 2) := by decide +kernel
theorem dX12_rests_190 : decode cX12_rests 190 = .ok (.iload 11, 2) := by decide +kernel
theorem dX12_rests_192 : decode cX12_rests 192 = .ok (.if_icmp .le 8, 3) := by decide +kernel
theorem dX12_rests_195 : decode cX12_rests 195 = .ok (.iload 10, 2) := by decide +kernel
theorem dX12_rests_197 : decode cX12_rests 197 = .ok (.goto 5, 3) := by decide +kernel
theorem dX12_rests_200 : decode cX12_rests 200 = .ok (.iload 11, 2) := by decide +kernel
theorem dX12_rests_202 : decode cX12_rests 202 = .ok (.istore 11, 2) := by decide +kernel
theorem dX12_rests_204 : decode cX12_rests 204 = .ok (.iload 15, 2) := by decide +kernel
theorem dX12_rests_206 : decode cX12_rests 206 = .ok (.ifCond .eq 8, 3) := by decide +kernel
theorem dX12_rests_209 : decode cX12_rests 209 = .ok (.iload 13, 2) := by decide +kernel
theorem dX12_rests_211 : decode cX12_rests 211 = .ok (.goto 15, 3) := by decide +kernel
theorem dX12_rests_214 : decode cX12_rests 214 = .ok (.iload 13, 2) := by decide +kernel
theorem dX12_rests_216 : decode cX12_rests 216 = .ok (.aload_n 0, 1) := by decide +kernel
theorem dX12_rests_217 : decode cX12_rests 217 = .ok (.getfield 131, 3) := by decide +kernel
theorem dX12_rests_220 : decode cX12_rests 220 = .ok (.iload 14, 2) := by decide +kernel
theorem dX12_rests_222 : decode cX12_rests 222 = .ok (.iaload, 1) := by decide +kernel
theorem dX12_rests_223 : decode cX12_rests 223 = .ok (.invokestatic 328, 3) := by decide +kernel
theorem dX12_rests_226 : decode cX12_rests 226 = .ok (.istore 13, 2) := by decide +kernel
theorem dX12_rests_228 : decode cX12_rests 228 = .ok (.iinc 14 1, 3) := by decide +kernel
theorem dX12_rests_231 : decode cX12_rests 231 = .ok (.goto (-116), 3) := by decide +kernel
theorem dX12_rests_234 : decode cX12_rests 234 = .ok (.iload 6, 2) := by decide +kernel
theorem dX12_rests_236 : decode cX12_rests 236 = .ok (.ifCond .ne 8, 3) := by decide +kernel
theorem dX12_rests_239 : decode cX12_rests 239 = .ok (.iload 9, 2) := by decide +kernel
theorem dX12_rests_241 : decode cX12_rests 241 = .ok (.goto 41, 3) := by decide +kernel
theorem dX12_rests_244 : decode cX12_rests 244 = .ok (.iload 6, 2) := by decide +kernel
theorem dX12_rests_246 : decode cX12_rests 246 = .ok (.iconst 1, 1) := by decide +kernel
theorem dX12_rests_247 : decode cX12_rests 247 = .ok (.if_icmp .ne 8, 3) := by decide +kernel
theorem dX12_rests_250 : decode cX12_rests 250 = .ok (.iload 11, 2) := by decide +kernel
theorem dX12_rests_252 : decode cX12_rests 252 = .ok (.goto 30, 3) := by decide +kernel
theorem dX12_rests_255 : decode cX12_rests 255 = .ok (.iload 6, 2) := by decide +kernel
theorem dX12_rests_257 : decode cX12_rests 257 = .ok (.iconst 2, 1) := by decide +kernel
theorem dX12_rests_258 : decode cX12_rests 258 = .ok (.if_icmp .ne 8, 3) := by decide +kernel
theorem dX12_rests_261 : decode cX12_rests 261 = .ok (.iload 12, 2) := by decide +kernel
theorem dX12_rests_263 : decode cX12_rests 263 = .ok (.goto 19, 3) := by decide +kernel
theorem dX12_rests_266 : decode cX12_rests 266 = .ok (.aload_n 0, 1) := by decide +kernel
theorem dX12_rests_267 : decode cX12_rests 267 = .ok (.getfield 352, 3) := by decide +kernel
theorem dX12_rests_270 : decode cX12_rests 270 = .ok (.iload 9, 2) := by decide +kernel
theorem dX12_rests_272 : decode cX12_rests 272 = .ok (.isub, 1) := by decide +kernel
theorem dX12_rests_273 : decode cX12_rests 273 = .ok (.aload_n 0, 1) := by decide +kernel
theorem dX12_rests_274 : decode cX12_rests 274 = .ok (.iload 4, 2) := by decide +kernel
theorem dX12_rests_276 : decode cX12_rests 276 = .ok (.iload 5, 2) := by decide +kernel
theorem dX12_rests_278 : decode cX12_rests 278 = .ok (.invokevirtual 446, 3) := by decide +kernel
theorem dX12_rests_281 : decode cX12_rests 281 = .ok (.isub, 1) := by decide +kernel
theorem dX12_rests_282 : decode cX12_rests 282 = .ok (.ireturn, 1) := by decide +kernel
theorem dX12_leave_0 : decode cX12_leave 0 = .ok (.aload_n 0, 1) := by decide +kernel
theorem dX12_leave_1 : decode cX12_leave 1 = .ok (.iconst 0, 1) := by decide +kernel
theorem dX12_leave_2 : decode cX12_leave 2 = .ok (.putfield 1, 3) := by decide +kernel
theorem dX12_leave_5 : decode cX12_leave 5 = .ok (.aload_n 0, 1) := by decide +kernel
theorem dX12_leave_6 : decode cX12_leave 6 = .ok (.iload_n 1, 1) := by decide +kernel
theorem dX12_leave_7 : decode cX12_leave 7 = .ok (.iload_n 2, 1) := by decide +kernel
theorem dX12_leave_8 : decode cX12_leave 8 = .ok (.iload_n 3, 1) := by decide +kernel
theorem dX12_leave_9 : decode cX12_leave 9 = .ok (.iload 5, 2) := by decide +kernel
theorem dX12_leave_11 : decode cX12_leave 11 = .ok (.iload 6, 2) := by decide +kernel
theorem dX12_leave_13 : decode cX12_leave 13 = .ok (.invokevirtual 355, 3) := by decide +kernel
theorem dX12_leave_16 : decode cX12_leave 16 = .ok (.ifCond .eq 21, 3) := by decide +kernel
theorem dX12_leave_19 : decode cX12_leave 19 = .ok (.iload 4, 2) := by decide +kernel
theorem dX12_leave_21 : decode cX12_leave 21 = .ok (.invokestatic 316, 3) := by decide +kernel
theorem dX12_leave_24 : decode cX12_leave 24 = .ok (.ifCond .eq 13, 3) := by decide +kernel
theorem dX12_leave_27 : decode cX12_leave 27 = .ok (.iload 7, 2) := by decide +kernel
theorem dX12_leave_29 : decode cX12_leave 29 = .ok (.iconst 0, 1) := by decide +kernel
theorem dX12_leave_30 : decode cX12_leave 30 = .ok (.iconst 3, 1) := by decide +kernel
theorem dX12_leave_31 : decode cX12_leave 31 = .ok (.invokestatic 289, 3) := by decide +kernel
theorem dX12_leave_34 : decode cX12_leave 34 = .ok (.ifCond .ne 5, 3) := by decide +kernel
theorem dX12_leave_37 : decode cX12_leave 37 = .ok (.iconst (-1), 1) := by decide +kernel
theorem dX12_leave_38 : decode cX12_leave 38 = .ok (.ireturn, 1) := by decide +kernel
theorem dX12_leave_39 : decode cX12_leave 39 = .ok (.aload_n 0, 1) := by decide +kernel
theorem dX12_leave_40 : decode cX12_leave 40 = .ok (.iload_n 1, 1) := by decide +kernel
theorem dX12_leave_41 : decode cX12_leave 41 = .ok (.iload_n 2, 1) := by decide +kernel
theorem dX12_leave_42 : decode cX12_leave 42 = .ok (.iload 6, 2) := by decide +kernel
theorem dX12_leave_44 : decode cX12_leave 44 = .ok (.invokevirtual 359, 3) := by decide +kernel
theorem dX12_leave_47 : decode cX12_leave 47 = .ok (.iconst (-1), 1) := by decide +kernel
theorem dX12_leave_48 : decode cX12_leave 48 = .ok (.istore 8, 2) := by decide +kernel
theorem dX12_leave_50 : decode cX12_leave 50 = .ok (.iconst (-1), 1) := by decide +kernel
theorem dX12_leave_51 : decode cX12_leave 51 = .ok (.istore 9, 2) := by decide +kernel
theorem dX12_leave_53 : decode cX12_leave 53 = .ok (.iload_n 3, 1) := by decide +kernel
theorem dX12_leave_54 : decode cX12_leave 54 = .ok (.istore 10, 2) := by decide +kernel
theorem dX12_leave_56 : decode cX12_leave 56 = .ok (.iload 10, 2) := by decide +kernel
theorem dX12_leave_58 : decode cX12_leave 58 = .ok (.iload 4, 2) := by decide +kernel
theorem dX12_leave_60 : decode cX12_leave 60 = .ok (.if_icmp .gt 96, 3) := by decide +kernel
theorem dX12_leave_63 : decode cX12_leave 63 = .ok (.aload_n 0, 1) := by decide +kernel
theorem dX12_leave_64 : decode cX12_leave 64 = .ok (.getfield 125, 3) := by decide +kernel
theorem dX12_leave_67 : decode cX12_leave 67 = .ok (.bipush 100, 2) := by decide +kernel
theorem dX12_leave_69 : decode cX12_leave 69 = .ok (.iload 10, 2) := by decide +kernel
theorem dX12_leave_71 : decode cX12_leave 71 = .ok (.imul, 1) := by decide +kernel
theorem dX12_leave_72 : decode cX12_leave 72 = .ok (.iload 5, 2) := by decide +kernel
theorem dX12_leave_74 : decode cX12_leave 74 = .ok (.iadd, 1) := by decide +kernel
theorem dX12_leave_75 : decode cX12_leave 75 = .ok (.iaload, 1) := by decide +kernel
theorem dX12_leave_76 : decode cX12_leave 76 = .ok (.istore 11, 2) := by decide +kernel
theorem dX12_leave_78 : decode cX12_leave 78 = .ok (.iload 11, 2) := by decide +kernel
theorem dX12_leave_80 : decode cX12_leave 80 = .ok (.ldc_w 331, 3) := by decide +kernel
theorem dX12_leave_83 : decode cX12_leave 83 = .ok (.if_icmp .ge 67, 3) := by decide +kernel
theorem dX12_leave_86 : decode cX12_leave 86 = .ok (.iload 8, 2) := by decide +kernel
theorem dX12_leave_88 : decode cX12_leave 88 = .ok (.ifCond .lt 21, 3) := by decide +kernel
theorem dX12_leave_91 : decode cX12_leave 91 = .ok (.iload 11, 2) := by decide +kernel
theorem dX12_leave_93 : decode cX12_leave 93 = .ok (.aload_n 0, 1) := by decide +kernel
theorem dX12_leave_94 : decode cX12_leave 94 = .ok (.getfield 125, 3) := by decide +kernel
theorem dX12_leave_97 : decode cX12_leave 97 = .ok (.bipush 100, 2) := by decide +kernel
theorem dX12_leave_99 : decode cX12_leave 99 = .ok (.iload 8, 2) := by decide +kernel
theorem dX12_leave_101 : decode cX12_leave 101 = .ok (.imul, 1) := by decide +kernel
theorem dX12_leave_102 : decode cX12_leave 102 = .ok (.iload 5, 2) := by decide +kernel
theorem dX12_leave_104 : decode cX12_leave 104 = .ok (.iadd, 1) := by decide +kernel
theorem dX12_leave_105 : decode cX12_leave 105 = .ok (.iaload, 1) := by decide +kernel
theorem dX12_leave_106 : decode cX12_leave 106 = .ok (.if_icmp .ge 8, 3) := by decide +kernel
theorem dX12_leave_109 : decode cX12_leave 109 = .ok (.iload 10, 2) := by decide +kernel
theorem dX12_leave_111 : decode cX12_leave 111 = .ok (.goto 5, 3) := by decide +kernel
theorem dX12_leave_114 : decode cX12_leave 114 = .ok (.iload 8, 2) := by decide +kernel
theorem dX12_leave_116 : decode cX12_leave 116 = .ok (.istore 8, 2) := by decide +kernel
theorem dX12_leave_118 : decode cX12_leave 118 = .ok (.iload 9, 2) := by decide +kernel
theorem dX12_leave_120 : decode cX12_leave 120 = .ok (.ifCond .lt 21, 3) := by decide +kernel
theorem dX12_leave_123 : decode cX12_leave 123 = .ok (.iload 11, 2) := by decide +kernel
theorem dX12_leave_125 : decode cX12_leave 125 = .ok (.aload_n 0, 1) := by decide +kernel
theorem dX12_leave_126 : decode cX12_leave 126 = .ok (.getfield 125, 3) := by decide +kernel
theorem dX12_leave_129 : decode cX12_leave 129 = .ok (.bipush 100, 2) := by decide +kernel
theorem dX12_leave_131 : decode cX12_leave 131 = .ok (.iload 9, 2) := by decide +kernel
theorem dX12_leave_133 : decode cX12_leave 133 = .ok (.imul, 1) := by decide +kernel
theorem dX12_leave_134 : decode cX12_leave 134 = .ok (.iload 5, 2) := by decide +kernel
theorem dX12_leave_136 : decode cX12_leave 136 = .ok (.iadd, 1) := by decide +kernel
theorem dX12_leave_137 : decode cX12_leave 137 = .ok (.iaload, 1) := by decide +kernel
theorem dX12_leave_138 : decode cX12_leave 138 = .ok (.if_icmp .le 8, 3) := by decide +kernel
theorem dX12_leave_141 : decode cX12_leave 141 = .ok (.iload 10, 2) := by decide +kernel
theorem dX12_leave_143 : decode cX12_leave 143 = .ok (.goto 5, 3) := by decide +kernel
theorem dX12_leave_146 : decode cX12_leave 146 = .ok (.iload 9, 2) := by decide +kernel
theorem dX12_leave_148 : decode cX12_leave 148 = .ok (.istore 9, 2) := by decide +kernel
theorem dX12_leave_150 : decode cX12_leave 150 = .ok (.iinc 10 1, 3) := by decide +kernel
theorem dX12_leave_153 : decode cX12_leave 153 = .ok (.goto (-97), 3) := by decide +kernel
theorem dX12_leave_156 : decode cX12_leave 156 = .ok (.iload 7, 2) := by decide +kernel
theorem dX12_leave_158 : decode cX12_leave 158 = .ok (.iconst 2, 1) := by decide +kernel
theorem dX12_leave_159 : decode cX12_leave 159 = .ok (.if_icmp .ge 8, 3) := by decide +kernel
theorem dX12_leave_162 : decode cX12_leave 162 = .ok (.iload 8, 2) := by decide +kernel
theorem dX12_leave_164 : decode cX12_leave 164 = .ok (.goto 5, 3) := by decide +kernel
theorem dX12_leave_167 : decode cX12_leave 167 = .ok (.iload 9, 2) := by decide +kernel
theorem dX12_leave_169 : decode cX12_leave 169 = .ok (.istore 10, 2) := by decide +kernel
theorem dX12_leave_171 : decode cX12_leave 171 = .ok (.iload 10, 2) := by decide +kernel
theorem dX12_leave_173 : decode cX12_leave 173 = .ok (.ifCond .ge 7, 3) := by decide +kernel
theorem dX12_leave_176 : decode cX12_leave 176 = .ok (.iconst (-1), 1) := by decide +kernel
theorem dX12_leave_177 : decode cX12_leave 177 = .ok (.goto 28, 3) := by decide +kernel
theorem dX12_leave_180 : decode cX12_leave 180 = .ok (.iload 7, 2) := by decide +kernel
theorem dX12_leave_182 : decode cX12_leave 182 = .ok (.iconst 2, 1) := by decide +kernel
theorem dX12_leave_183 : decode cX12_leave 183 = .ok (.irem, 1) := by decide +kernel
theorem dX12_leave_184 : decode cX12_leave 184 = .ok (.ifCond .ne 8, 3) := by decide +kernel
theorem dX12_leave_187 : decode cX12_leave 187 = .ok (.iload 10, 2) := by decide +kernel
theorem dX12_leave_189 : decode cX12_leave 189 = .ok (.goto 16, 3) := by decide +kernel
theorem dX12_leave_192 : decode cX12_leave 192 = .ok (.aload_n 0, 1) := by decide +kernel
theorem dX12_leave_193 : decode cX12_leave 193 = .ok (.getfield 125, 3) := by decide +kernel
theorem dX12_leave_196 : decode cX12_leave 196 = .ok (.bipush 100, 2) := by decide +kernel
theorem dX12_leave_198 : decode cX12_leave 198 = .ok (.iload 10, 2) := by decide +kernel
theorem dX12_leave_200 : decode cX12_leave 200 = .ok (.imul, 1) := by decide +kernel
theorem dX12_leave_201 : decode cX12_leave 201 = .ok (.iload 5, 2) := by decide +kernel
theorem dX12_leave_203 : decode cX12_leave 203 = .ok (.iadd, 1) := by decide +kernel
theorem dX12_leave_204 : decode cX12_leave 204 = .ok (.iaload, 1) := by decide +kernel
theorem dX12_leave_205 : decode cX12_leave 205 = .ok (.ireturn, 1) := by decide +kernel
theorem dX12_errand_0 : decode cX12_errand 0 = .ok (.aload_n 0, 1) := by decide +kernel
theorem dX12_errand_1 : decode cX12_errand 1 = .ok (.iconst 1, 1) := by decide +kernel
theorem dX12_errand_2 : decode cX12_errand 2 = .ok (.putfield 1, 3) := by decide +kernel
theorem dX12_errand_5 : decode cX12_errand 5 = .ok (.aload_n 0, 1) := by decide +kernel
theorem dX12_errand_6 : decode cX12_errand 6 = .ok (.iload_n 1, 1) := by decide +kernel
theorem dX12_errand_7 : decode cX12_errand 7 = .ok (.iload_n 2, 1) := by decide +kernel
theorem dX12_errand_8 : decode cX12_errand 8 = .ok (.iload_n 3, 1) := by decide +kernel
theorem dX12_errand_9 : decode cX12_errand 9 = .ok (.iload 4, 2) := by decide +kernel
theorem dX12_errand_11 : decode cX12_errand 11 = .ok (.iload 5, 2) := by decide +kernel
theorem dX12_errand_13 : decode cX12_errand 13 = .ok (.invokevirtual 355, 3) := by decide +kernel
theorem dX12_errand_16 : decode cX12_errand 16 = .ok (.ifCond .eq 24, 3) := by decide +kernel
theorem dX12_errand_19 : decode cX12_errand 19 = .ok (.iload 6, 2) := by decide +kernel
theorem dX12_errand_21 : decode cX12_errand 21 = .ok (.iconst 0, 1) := by decide +kernel
theorem dX12_errand_22 : decode cX12_errand 22 = .ok (.bipush 60, 2) := by decide +kernel
theorem dX12_errand_24 : decode cX12_errand 24 = .ok (.invokestatic 289, 3) := by decide +kernel
theorem dX12_errand_27 : decode cX12_errand 27 = .ok (.ifCond .eq 13, 3) := by decide +kernel
theorem dX12_errand_30 : decode cX12_errand 30 = .ok (.iload 7, 2) := by decide +kernel
theorem dX12_errand_32 : decode cX12_errand 32 = .ok (.iconst 0, 1) := by decide +kernel
theorem dX12_errand_33 : decode cX12_errand 33 = .ok (.iconst 1, 1) := by decide +kernel
theorem dX12_errand_34 : decode cX12_errand 34 = .ok (.invokestatic 289, 3) := by decide +kernel
theorem dX12_errand_37 : decode cX12_errand 37 = .ok (.ifCond .ne 5, 3) := by decide +kernel
theorem dX12_errand_40 : decode cX12_errand 40 = .ok (.iconst 0, 1) := by decide +kernel
theorem dX12_errand_41 : decode cX12_errand 41 = .ok (.ireturn, 1) := by decide +kernel
theorem dX12_errand_42 : decode cX12_errand 42 = .ok (.aload_n 0, 1) := by decide +kernel
theorem dX12_errand_43 : decode cX12_errand 43 = .ok (.iload_n 1, 1) := by decide +kernel
theorem dX12_errand_44 : decode cX12_errand 44 = .ok (.iload_n 2, 1) := by decide +kernel
theorem dX12_errand_45 : decode cX12_errand 45 = .ok (.iload_n 3, 1) := by decide +kernel
theorem dX12_errand_46 : decode cX12_errand 46 = .ok (.iload 4, 2) := by decide +kernel
theorem dX12_errand_48 : decode cX12_errand 48 = .ok (.iload 5, 2) := by decide +kernel
theorem dX12_errand_50 : decode cX12_errand 50 = .ok (.invokevirtual 370, 3) := by decide +kernel
theorem dX12_errand_53 : decode cX12_errand 53 = .ok (.aload_n 0, 1) := by decide +kernel
theorem dX12_errand_54 : decode cX12_errand 54 = .ok (.iload 4, 2) := by decide +kernel
theorem dX12_errand_56 : decode cX12_errand 56 = .ok (.aload_n 0, 1) := by decide +kernel
theorem dX12_errand_57 : decode cX12_errand 57 = .ok (.iload_n 1, 1) := by decide +kernel
theorem dX12_errand_58 : decode cX12_errand 58 = .ok (.iconst 0, 1) := by decide +kernel
theorem dX12_errand_59 : decode cX12_errand 59 = .ok (.invokevirtual 345, 3) := by decide +kernel
theorem dX12_errand_62 : decode cX12_errand 62 = .ok (.iconst 1, 1) := by decide +kernel
theorem dX12_errand_63 : decode cX12_errand 63 = .ok (.bipush 119, 2) := by decide +kernel
theorem dX12_errand_65 : decode cX12_errand 65 = .ok (.invokevirtual 348, 3) := by decide +kernel
theorem dX12_errand_68 : decode cX12_errand 68 = .ok (.ldc_w 331, 3) := by decide +kernel
theorem dX12_errand_71 : decode cX12_errand 71 = .ok (.istore 8, 2) := by decide +kernel
theorem dX12_errand_73 : decode cX12_errand 73 = .ok (.ldc_w 331, 3) := by decide +kernel
theorem dX12_errand_76 : decode cX12_errand 76 = .ok (.istore 9, 2) := by decide +kernel
theorem dX12_errand_78 : decode cX12_errand 78 = .ok (.iload_n 3, 1) := by decide +kernel
theorem dX12_errand_79 : decode cX12_errand 79 = .ok (.istore 10, 2) := by decide +kernel
theorem dX12_errand_81 : decode cX12_errand 81 = .ok (.iload 10, 2) := by decide +kernel
theorem dX12_errand_83 : decode cX12_errand 83 = .ok (.iload 6, 2) := by decide +kernel
theorem dX12_errand_85 : decode cX12_errand 85 = .ok (.iadd, 1) := by decide +kernel
theorem dX12_errand_86 : decode cX12_errand 86 = .ok (.bipush 120, 2) := by decide +kernel
theorem dX12_errand_88 : decode cX12_errand 88 = .ok (.if_icmp .ge 174, 3) := by decide +kernel
theorem dX12_errand_91 : decode cX12_errand 91 = .ok (.aload_n 0, 1) := by decide +kernel
theorem dX12_errand_92 : decode cX12_errand 92 = .ok (.getfield 137, 3) := by decide +kernel
theorem dX12_errand_95 : decode cX12_errand 95 = .ok (.bipush 100, 2) := by decide +kernel
theorem dX12_errand_97 : decode cX12_errand 97 = .ok (.iload 10, 2) := by decide +kernel
theorem dX12_errand_99 : decode cX12_errand 99 = .ok (.imul, 1) := by decide +kernel
theorem dX12_errand_100 : decode cX12_errand 100 = .ok (.iload 5, 2) := by decide +kernel
theorem dX12_errand_102 : decode cX12_errand 102 = .ok (.iadd, 1) := by decide +kernel
theorem dX12_errand_103 : decode cX12_errand 103 = .ok (.iaload, 1) := by decide +kernel
theorem dX12_errand_104 : decode cX12_errand 104 = .ok (.istore 11, 2) := by decide +kernel
theorem dX12_errand_106 : decode cX12_errand 106 = .ok (.bipush 100, 2) := by decide +kernel
theorem dX12_errand_108 : decode cX12_errand 108 = .ok (.iload 10, 2) := by decide +kernel
theorem dX12_errand_110 : decode cX12_errand 110 = .ok (.iload 6, 2) := by decide +kernel
theorem dX12_errand_112 : decode cX12_errand 112 = .ok (.iadd, 1) := by decide +kernel
theorem dX12_errand_113 : decode cX12_errand 113 = .ok (.imul, 1) := by decide +kernel
theorem dX12_errand_114 : decode cX12_errand 114 = .ok (.iload 5, 2) := by decide +kernel
theorem dX12_errand_116 : decode cX12_errand 116 = .ok (.iadd, 1) := by decide +kernel
theorem dX12_errand_117 : decode cX12_errand 117 = .ok (.istore 12, 2) := by decide +kernel
theorem dX12_errand_119 : decode cX12_errand 119 = .ok (.iload 11, 2) := by decide +kernel
theorem dX12_errand_121 : decode cX12_errand 121 = .ok (.ldc_w 331, 3) := by decide +kernel
theorem dX12_errand_124 : decode cX12_errand 124 = .ok (.if_icmp .ge 132, 3) := by decide +kernel
theorem dX12_errand_127 : decode cX12_errand 127 = .ok (.aload_n 0, 1) := by decide +kernel
theorem dX12_errand_128 : decode cX12_errand 128 = .ok (.getfield 125, 3) := by decide +kernel
theorem dX12_errand_131 : decode cX12_errand 131 = .ok (.iload 12, 2) := by decide +kernel
theorem dX12_errand_133 : decode cX12_errand 133 = .ok (.iaload, 1) := by decide +kernel
theorem dX12_errand_134 : decode cX12_errand 134 = .ok (.ldc_w 331, 3) := by decide +kernel
theorem dX12_errand_137 : decode cX12_errand 137 = .ok (.if_icmp .ge 119, 3) := by decide +kernel
theorem dX12_errand_140 : decode cX12_errand 140 = .ok (.iload 11, 2) := by decide +kernel
theorem dX12_errand_142 : decode cX12_errand 142 = .ok (.aload_n 0, 1) := by decide +kernel
theorem dX12_errand_143 : decode cX12_errand 143 = .ok (.getfield 125, 3) := by decide +kernel
theorem dX12_errand_146 : decode cX12_errand 146 = .ok (.iload 12, 2) := by decide +kernel
theorem dX12_errand_148 : decode cX12_errand 148 = .ok (.iaload, 1) := by decide +kernel
theorem dX12_errand_149 : decode cX12_errand 149 = .ok (.iadd, 1) := by decide +kernel
theorem dX12_errand_150 : decode cX12_errand 150 = .ok (.istore 13, 2) := by decide +kernel
theorem dX12_errand_152 : decode cX12_errand 152 = .ok (.iload 10, 2) := by decide +kernel
theorem dX12_errand_154 : decode cX12_errand 154 = .ok (.istore 14, 2) := by decide +kernel
theorem dX12_errand_156 : decode cX12_errand 156 = .ok (.iload 14, 2) := by decide +kernel
theorem dX12_errand_158 : decode cX12_errand 158 = .ok (.iload 10, 2) := by decide +kernel
theorem dX12_errand_160 : decode cX12_errand 160 = .ok (.iload 6, 2) := by decide +kernel
theorem dX12_errand_162 : decode cX12_errand 162 = .ok (.iadd, 1) := by decide +kernel
theorem dX12_errand_163 : decode cX12_errand 163 = .ok (.if_icmp .ge 27, 3) := by decide +kernel
theorem dX12_errand_166 : decode cX12_errand 166 = .ok (.iload 13, 2) := by decide +kernel
theorem dX12_errand_168 : decode cX12_errand 168 = .ok (.aload_n 0, 1) := by decide +kernel
theorem dX12_errand_169 : decode cX12_errand 169 = .ok (.getfield 112, 3) := by decide +kernel
theorem dX12_errand_172 : decode cX12_errand 172 = .ok (.bipush 100, 2) := by decide +kernel
theorem dX12_errand_174 : decode cX12_errand 174 = .ok (.iload 14, 2) := by decide +kernel
theorem dX12_errand_176 : decode cX12_errand 176 = .ok (.imul, 1) := by decide +kernel
theorem dX12_errand_177 : decode cX12_errand 177 = .ok (.iload 5, 2) := by decide +kernel
theorem dX12_errand_179 : decode cX12_errand 179 = .ok (.iadd, 1) := by decide +kernel
theorem dX12_errand_180 : decode cX12_errand 180 = .ok (.iaload, 1) := by decide +kernel
theorem dX12_errand_181 : decode cX12_errand 181 = .ok (.iadd, 1) := by decide +kernel
theorem dX12_errand_182 : decode cX12_errand 182 = .ok (.istore 13, 2) := by decide +kernel
theorem dX12_errand_184 : decode cX12_errand 184 = .ok (.iinc 14 1, 3) := by decide +kernel
theorem dX12_errand_187 : decode cX12_errand 187 = .ok (.goto (-31), 3) := by decide +kernel
theorem dX12_errand_190 : decode cX12_errand 190 = .ok (.iload 13, 2) := by decide +kernel
theorem dX12_errand_192 : decode cX12_errand 192 = .ok (.iload 8, 2) := by decide +kernel
theorem dX12_errand_194 : decode cX12_errand 194 = .ok (.if_icmp .lt 22, 3) := by decide +kernel
theorem dX12_errand_197 : decode cX12_errand 197 = .ok (.iload 13, 2) := by decide +kernel
theorem dX12_errand_199 : decode cX12_errand 199 = .ok (.iload 8, 2) := by decide +kernel
theorem dX12_errand_201 : decode cX12_errand 201 = .ok (.if_icmp .ne 19, 3) := by decide +kernel
theorem dX12_errand_204 : decode cX12_errand 204 = .ok (.aload_n 0, 1) := by decide +kernel
theorem dX12_errand_205 : decode cX12_errand 205 = .ok (.getfield 128, 3) := by decide +kernel
theorem dX12_errand_208 : decode cX12_errand 208 = .ok (.iload 12, 2) := by decide +kernel
theorem dX12_errand_210 : decode cX12_errand 210 = .ok (.iaload, 1) := by decide +kernel
theorem dX12_errand_211 : decode cX12_errand 211 = .ok (.iload 9, 2) := by decide +kernel
theorem dX12_errand_213 : decode cX12_errand 213 = .ok (.if_icmp .ge 7, 3) := by decide +kernel
theorem dX12_errand_216 : decode cX12_errand 216 = .ok (.iconst 1, 1) := by decide +kernel
theorem dX12_errand_217 : decode cX12_errand 217 = .ok (.goto 4, 3) := by decide +kernel
theorem dX12_errand_220 : decode cX12_errand 220 = .ok (.iconst 0, 1) := by decide +kernel
theorem dX12_errand_221 : decode cX12_errand 221 = .ok (.istore 14, 2) := by decide +kernel
theorem dX12_errand_223 : decode cX12_errand 223 = .ok (.iload 14, 2) := by decide +kernel
theorem dX12_errand_225 : decode cX12_errand 225 = .ok (.ifCond .eq 13, 3) := by decide +kernel
theorem dX12_errand_228 : decode cX12_errand 228 = .ok (.aload_n 0, 1) := by decide +kernel
theorem dX12_errand_229 : decode cX12_errand 229 = .ok (.getfield 128, 3) := by decide +kernel
theorem dX12_errand_232 : decode cX12_errand 232 = .ok (.iload 12, 2) := by decide +kernel
theorem dX12_errand_234 : decode cX12_errand 234 = .ok (.iaload, 1) := by decide +kernel
theorem dX12_errand_235 : decode cX12_errand 235 = .ok (.goto 5, 3) := by decide +kernel
theorem dX12_errand_238 : decode cX12_errand 238 = .ok (.iload 9, 2) := by decide +kernel
theorem dX12_errand_240 : decode cX12_errand 240 = .ok (.istore 9, 2) := by decide +kernel
theorem dX12_errand_242 : decode cX12_errand 242 = .ok (.iload 14, 2) := by decide +kernel
theorem dX12_errand_244 : decode cX12_errand 244 = .ok (.ifCond .eq 8, 3) := by decide +kernel
theorem dX12_errand_247 : decode cX12_errand 247 = .ok (.iload 13, 2) := by decide +kernel
theorem dX12_errand_249 : decode cX12_errand 249 = .ok (.goto 5, 3) := by decide +kernel
theorem dX12_errand_252 : decode cX12_errand 252 = .ok (.iload 8, 2) := by decide +kernel
theorem dX12_errand_254 : decode cX12_errand 254 = .ok (.istore 8, 2) := by decide +kernel
theorem dX12_errand_256 : decode cX12_errand 256 = .ok (.iinc 10 1, 3) := by decide +kernel
theorem dX12_errand_259 : decode cX12_errand 259 = .ok (.goto (-178), 3) := by decide +kernel
theorem dX12_errand_262 : decode cX12_errand 262 = .ok (.aload_n 0, 1) := by decide +kernel
theorem dX12_errand_263 : decode cX12_errand 263 = .ok (.iload 8, 2) := by decide +kernel
theorem dX12_errand_265 : decode cX12_errand 265 = .ok (.ldc_w 331, 3) := by decide +kernel
theorem dX12_errand_268 : decode cX12_errand 268 = .ok (.if_icmp .ge 7, 3) := by decide +kernel
theorem dX12_errand_271 : decode cX12_errand 271 = .ok (.iconst 0, 1) := by decide +kernel
theorem dX12_errand_272 : decode cX12_errand 272 = .ok (.goto 4, 3) := by decide +kernel
theorem dX12_errand_275 : decode cX12_errand 275 = .ok (.iconst 1, 1) := by decide +kernel
theorem dX12_errand_276 : decode cX12_errand 276 = .ok (.putfield 1, 3) := by decide +kernel
theorem dX12_errand_279 : decode cX12_errand 279 = .ok (.aload_n 0, 1) := by decide +kernel
theorem dX12_errand_280 : decode cX12_errand 280 = .ok (.getfield 1, 3) := by decide +kernel
theorem dX12_errand_283 : decode cX12_errand 283 = .ok (.ifCond .le 7, 3) := by decide +kernel
theorem dX12_errand_286 : decode cX12_errand 286 = .ok (.iconst 0, 1) := by decide +kernel
theorem dX12_errand_287 : decode cX12_errand 287 = .ok (.goto 15, 3) := by decide +kernel
theorem dX12_errand_290 : decode cX12_errand 290 = .ok (.iload 7, 2) := by decide +kernel
theorem dX12_errand_292 : decode cX12_errand 292 = .ok (.ifCond .ne 8, 3) := by decide +kernel
theorem dX12_errand_295 : decode cX12_errand 295 = .ok (.iload 8, 2) := by decide +kernel
theorem dX12_errand_297 : decode cX12_errand 297 = .ok (.goto 5, 3) := by decide +kernel
theorem dX12_errand_300 : decode cX12_errand 300 = .ok (.iload 9, 2) := by decide +kernel
theorem dX12_errand_302 : decode cX12_errand 302 = .ok (.ireturn, 1) := by decide +kernel
