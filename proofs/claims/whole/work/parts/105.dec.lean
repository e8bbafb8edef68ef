theorem dX12_meet_0 : decode cX12_meet 0 = .ok (.aload_n 0, 1) := by decide +kernel
theorem dX12_meet_1 : decode cX12_meet 1 = .ok (.iconst 1, 1) := by decide +kernel
theorem dX12_meet_2 : decode cX12_meet 2 = .ok (.putfield 1, 3) := by decide +kernel
theorem dX12_meet_5 : decode cX12_meet 5 = .ok (.aload_n 0, 1) := by decide +kernel
theorem dX12_meet_6 : decode cX12_meet 6 = .ok (.iload_n 1, 1) := by decide +kernel
theorem dX12_meet_7 : decode cX12_meet 7 = .ok (.iload 5, 2) := by decide +kernel
theorem dX12_meet_9 : decode cX12_meet 9 = .ok (.iload 6, 2) := by decide +kernel
theorem dX12_meet_11 : decode cX12_meet 11 = .ok (.iload_n 2, 1) := by decide +kernel
theorem dX12_meet_12 : decode cX12_meet 12 = .ok (.iload_n 2, 1) := by decide +kernel
theorem dX12_meet_13 : decode cX12_meet 13 = .ok (.invokevirtual 355, 3) := by decide +kernel
theorem dX12_meet_16 : decode cX12_meet 16 = .ok (.ifCond .eq 29, 3) := by decide +kernel
theorem dX12_meet_19 : decode cX12_meet 19 = .ok (.aload_n 0, 1) := by decide +kernel
theorem dX12_meet_20 : decode cX12_meet 20 = .ok (.iload_n 3, 1) := by decide +kernel
theorem dX12_meet_21 : decode cX12_meet 21 = .ok (.iload 5, 2) := by decide +kernel
theorem dX12_meet_23 : decode cX12_meet 23 = .ok (.iload 6, 2) := by decide +kernel
theorem dX12_meet_25 : decode cX12_meet 25 = .ok (.iload 4, 2) := by decide +kernel
theorem dX12_meet_27 : decode cX12_meet 27 = .ok (.iload 4, 2) := by decide +kernel
theorem dX12_meet_29 : decode cX12_meet 29 = .ok (.invokevirtual 355, 3) := by decide +kernel
theorem dX12_meet_32 : decode cX12_meet 32 = .ok (.ifCond .eq 13, 3) := by decide +kernel
theorem dX12_meet_35 : decode cX12_meet 35 = .ok (.iload 7, 2) := by decide +kernel
theorem dX12_meet_37 : decode cX12_meet 37 = .ok (.iconst 0, 1) := by decide +kernel
theorem dX12_meet_38 : decode cX12_meet 38 = .ok (.iconst 2, 1) := by decide +kernel
theorem dX12_meet_39 : decode cX12_meet 39 = .ok (.invokestatic 289, 3) := by decide +kernel
theorem dX12_meet_42 : decode cX12_meet 42 = .ok (.ifCond .ne 5, 3) := by decide +kernel
theorem dX12_meet_45 : decode cX12_meet 45 = .ok (.iconst 0, 1) := by decide +kernel
theorem dX12_meet_46 : decode cX12_meet 46 = .ok (.ireturn, 1) := by decide +kernel
theorem dX12_meet_47 : decode cX12_meet 47 = .ok (.aload_n 0, 1) := by decide +kernel
theorem dX12_meet_48 : decode cX12_meet 48 = .ok (.iload 5, 2) := by decide +kernel
theorem dX12_meet_50 : decode cX12_meet 50 = .ok (.invokevirtual 339, 3) := by decide +kernel
theorem dX12_meet_53 : decode cX12_meet 53 = .ok (.aload_n 0, 1) := by decide +kernel
theorem dX12_meet_54 : decode cX12_meet 54 = .ok (.invokevirtual 342, 3) := by decide +kernel
theorem dX12_meet_57 : decode cX12_meet 57 = .ok (.aload_n 0, 1) := by decide +kernel
theorem dX12_meet_58 : decode cX12_meet 58 = .ok (.iload 6, 2) := by decide +kernel
theorem dX12_meet_60 : decode cX12_meet 60 = .ok (.iload_n 2, 1) := by decide +kernel
theorem dX12_meet_61 : decode cX12_meet 61 = .ok (.iconst (-1), 1) := by decide +kernel
theorem dX12_meet_62 : decode cX12_meet 62 = .ok (.aload_n 0, 1) := by decide +kernel
theorem dX12_meet_63 : decode cX12_meet 63 = .ok (.iload_n 1, 1) := by decide +kernel
theorem dX12_meet_64 : decode cX12_meet 64 = .ok (.iconst 0, 1) := by decide +kernel
theorem dX12_meet_65 : decode cX12_meet 65 = .ok (.invokevirtual 345, 3) := by decide +kernel
theorem dX12_meet_68 : decode cX12_meet 68 = .ok (.invokevirtual 367, 3) := by decide +kernel
theorem dX12_meet_71 : decode cX12_meet 71 = .ok (.iconst 0, 1) := by decide +kernel
theorem dX12_meet_72 : decode cX12_meet 72 = .ok (.istore 8, 2) := by decide +kernel
theorem dX12_meet_74 : decode cX12_meet 74 = .ok (.iload 8, 2) := by decide +kernel
theorem dX12_meet_76 : decode cX12_meet 76 = .ok (.sipush 12000, 3) := by decide +kernel
theorem dX12_meet_79 : decode cX12_meet 79 = .ok (.if_icmp .ge 23, 3) := by decide +kernel
theorem dX12_meet_82 : decode cX12_meet 82 = .ok (.aload_n 0, 1) := by decide +kernel
theorem dX12_meet_83 : decode cX12_meet 83 = .ok (.getfield 161, 3) := by decide +kernel
theorem dX12_meet_86 : decode cX12_meet 86 = .ok (.iload 8, 2) := by decide +kernel
theorem dX12_meet_88 : decode cX12_meet 88 = .ok (.aload_n 0, 1) := by decide +kernel
theorem dX12_meet_89 : decode cX12_meet 89 = .ok (.getfield 137, 3) := by decide +kernel
theorem dX12_meet_92 : decode cX12_meet 92 = .ok (.iload 8, 2) := by decide +kernel
theorem dX12_meet_94 : decode cX12_meet 94 = .ok (.iaload, 1) := by decide +kernel
theorem dX12_meet_95 : decode cX12_meet 95 = .ok (.iastore, 1) := by decide +kernel
theorem dX12_meet_96 : decode cX12_meet 96 = .ok (.iinc 8 1, 3) := by decide +kernel
theorem dX12_meet_99 : decode cX12_meet 99 = .ok (.goto (-25), 3) := by decide +kernel
theorem dX12_meet_102 : decode cX12_meet 102 = .ok (.aload_n 0, 1) := by decide +kernel
theorem dX12_meet_103 : decode cX12_meet 103 = .ok (.iload 6, 2) := by decide +kernel
theorem dX12_meet_105 : decode cX12_meet 105 = .ok (.iload 4, 2) := by decide +kernel
theorem dX12_meet_107 : decode cX12_meet 107 = .ok (.iconst (-1), 1) := by decide +kernel
theorem dX12_meet_108 : decode cX12_meet 108 = .ok (.aload_n 0, 1) := by decide +kernel
theorem dX12_meet_109 : decode cX12_meet 109 = .ok (.iload_n 3, 1) := by decide +kernel
theorem dX12_meet_110 : decode cX12_meet 110 = .ok (.iconst 0, 1) := by decide +kernel
theorem dX12_meet_111 : decode cX12_meet 111 = .ok (.invokevirtual 345, 3) := by decide +kernel
theorem dX12_meet_114 : decode cX12_meet 114 = .ok (.invokevirtual 367, 3) := by decide +kernel
theorem dX12_meet_117 : decode cX12_meet 117 = .ok (.iconst (-1), 1) := by decide +kernel
theorem dX12_meet_118 : decode cX12_meet 118 = .ok (.istore 8, 2) := by decide +kernel
theorem dX12_meet_120 : decode cX12_meet 120 = .ok (.ldc_w 331, 3) := by decide +kernel
theorem dX12_meet_123 : decode cX12_meet 123 = .ok (.istore 9, 2) := by decide +kernel
theorem dX12_meet_125 : decode cX12_meet 125 = .ok (.bipush 100, 2) := by decide +kernel
theorem dX12_meet_127 : decode cX12_meet 127 = .ok (.iload 6, 2) := by decide +kernel
theorem dX12_meet_129 : decode cX12_meet 129 = .ok (.imul, 1) := by decide +kernel
theorem dX12_meet_130 : decode cX12_meet 130 = .ok (.istore 10, 2) := by decide +kernel
theorem dX12_meet_132 : decode cX12_meet 132 = .ok (.iload 10, 2) := by decide +kernel
theorem dX12_meet_134 : decode cX12_meet 134 = .ok (.sipush 12000, 3) := by decide +kernel
theorem dX12_meet_137 : decode cX12_meet 137 = .ok (.if_icmp .ge 76, 3) := by decide +kernel
theorem dX12_meet_140 : decode cX12_meet 140 = .ok (.aload_n 0, 1) := by decide +kernel
theorem dX12_meet_141 : decode cX12_meet 141 = .ok (.getfield 137, 3) := by decide +kernel
theorem dX12_meet_144 : decode cX12_meet 144 = .ok (.iload 10, 2) := by decide +kernel
theorem dX12_meet_146 : decode cX12_meet 146 = .ok (.iaload, 1) := by decide +kernel
theorem dX12_meet_147 : decode cX12_meet 147 = .ok (.ldc_w 331, 3) := by decide +kernel
theorem dX12_meet_150 : decode cX12_meet 150 = .ok (.if_icmp .ge 57, 3) := by decide +kernel
theorem dX12_meet_153 : decode cX12_meet 153 = .ok (.aload_n 0, 1) := by decide +kernel
theorem dX12_meet_154 : decode cX12_meet 154 = .ok (.getfield 161, 3) := by decide +kernel
theorem dX12_meet_157 : decode cX12_meet 157 = .ok (.iload 10, 2) := by decide +kernel
theorem dX12_meet_159 : decode cX12_meet 159 = .ok (.iaload, 1) := by decide +kernel
theorem dX12_meet_160 : decode cX12_meet 160 = .ok (.ldc_w 331, 3) := by decide +kernel
theorem dX12_meet_163 : decode cX12_meet 163 = .ok (.if_icmp .ge 44, 3) := by decide +kernel
theorem dX12_meet_166 : decode cX12_meet 166 = .ok (.aload_n 0, 1) := by decide +kernel
theorem dX12_meet_167 : decode cX12_meet 167 = .ok (.getfield 137, 3) := by decide +kernel
theorem dX12_meet_170 : decode cX12_meet 170 = .ok (.iload 10, 2) := by decide +kernel
theorem dX12_meet_172 : decode cX12_meet 172 = .ok (.iaload, 1) := by decide +kernel
theorem dX12_meet_173 : decode cX12_meet 173 = .ok (.aload_n 0, 1) := by decide +kernel
theorem dX12_meet_174 : decode cX12_meet 174 = .ok (.getfield 161, 3) := by decide +kernel
theorem dX12_meet_177 : decode cX12_meet 177 = .ok (.iload 10, 2) := by decide +kernel
theorem dX12_meet_179 : decode cX12_meet 179 = .ok (.iaload, 1) := by decide +kernel
theorem dX12_meet_180 : decode cX12_meet 180 = .ok (.iadd, 1) := by decide +kernel
theorem dX12_meet_181 : decode cX12_meet 181 = .ok (.iload 9, 2) := by decide +kernel
theorem dX12_meet_183 : decode cX12_meet 183 = .ok (.if_icmp .ge 24, 3) := by decide +kernel
theorem dX12_meet_186 : decode cX12_meet 186 = .ok (.aload_n 0, 1) := by decide +kernel
theorem dX12_meet_187 : decode cX12_meet 187 = .ok (.getfield 137, 3) := by decide +kernel
theorem dX12_meet_190 : decode cX12_meet 190 = .ok (.iload 10, 2) := by decide +kernel
theorem dX12_meet_192 : decode cX12_meet 192 = .ok (.iaload, 1) := by decide +kernel
theorem dX12_meet_193 : decode cX12_meet 193 = .ok (.aload_n 0, 1) := by decide +kernel
theorem dX12_meet_194 : decode cX12_meet 194 = .ok (.getfield 161, 3) := by decide +kernel
theorem dX12_meet_197 : decode cX12_meet 197 = .ok (.iload 10, 2) := by decide +kernel
theorem dX12_meet_199 : decode cX12_meet 199 = .ok (.iaload, 1) := by decide +kernel
theorem dX12_meet_200 : decode cX12_meet 200 = .ok (.iadd, 1) := by decide +kernel
theorem dX12_meet_201 : decode cX12_meet 201 = .ok (.istore 9, 2) := by decide +kernel
theorem dX12_meet_203 : decode cX12_meet 203 = .ok (.iload 10, 2) := by decide +kernel
theorem dX12_meet_205 : decode cX12_meet 205 = .ok (.istore 8, 2) := by decide +kernel
theorem dX12_meet_207 : decode cX12_meet 207 = .ok (.iinc 10 1, 3) := by decide +kernel
theorem dX12_meet_210 : decode cX12_meet 210 = .ok (.goto (-78), 3) := by decide +kernel
theorem dX12_meet_213 : decode cX12_meet 213 = .ok (.aload_n 0, 1) := by decide +kernel
theorem dX12_meet_214 : decode cX12_meet 214 = .ok (.iload 8, 2) := by decide +kernel
theorem dX12_meet_216 : decode cX12_meet 216 = .ok (.ifCond .lt 7, 3) := by decide +kernel
theorem dX12_meet_219 : decode cX12_meet 219 = .ok (.iconst 0, 1) := by decide +kernel
theorem dX12_meet_220 : decode cX12_meet 220 = .ok (.goto 4, 3) := by decide +kernel
theorem dX12_meet_223 : decode cX12_meet 223 = .ok (.iconst 1, 1) := by decide +kernel
theorem dX12_meet_224 : decode cX12_meet 224 = .ok (.putfield 1, 3) := by decide +kernel
theorem dX12_meet_227 : decode cX12_meet 227 = .ok (.aload_n 0, 1) := by decide +kernel
theorem dX12_meet_228 : decode cX12_meet 228 = .ok (.getfield 1, 3) := by decide +kernel
theorem dX12_meet_231 : decode cX12_meet 231 = .ok (.ifCond .le 7, 3) := by decide +kernel
theorem dX12_meet_234 : decode cX12_meet 234 = .ok (.iconst 0, 1) := by decide +kernel
theorem dX12_meet_235 : decode cX12_meet 235 = .ok (.goto 32, 3) := by decide +kernel
theorem dX12_meet_238 : decode cX12_meet 238 = .ok (.iload 7, 2) := by decide +kernel
theorem dX12_meet_240 : decode cX12_meet 240 = .ok (.ifCond .ne 8, 3) := by decide +kernel
theorem dX12_meet_243 : decode cX12_meet 243 = .ok (.iload 9, 2) := by decide +kernel
theorem dX12_meet_245 : decode cX12_meet 245 = .ok (.goto 22, 3) := by decide +kernel
theorem dX12_meet_248 : decode cX12_meet 248 = .ok (.iload 7, 2) := by decide +kernel
theorem dX12_meet_250 : decode cX12_meet 250 = .ok (.iconst 1, 1) := by decide +kernel
theorem dX12_meet_251 : decode cX12_meet 251 = .ok (.if_icmp .ne 11, 3) := by decide +kernel
theorem dX12_meet_254 : decode cX12_meet 254 = .ok (.iload 8, 2) := by decide +kernel
theorem dX12_meet_256 : decode cX12_meet 256 = .ok (.bipush 100, 2) := by decide +kernel
theorem dX12_meet_258 : decode cX12_meet 258 = .ok (.idiv, 1) := by decide +kernel
theorem dX12_meet_259 : decode cX12_meet 259 = .ok (.goto 8, 3) := by decide +kernel
theorem dX12_meet_262 : decode cX12_meet 262 = .ok (.iload 8, 2) := by decide +kernel
theorem dX12_meet_264 : decode cX12_meet 264 = .ok (.bipush 100, 2) := by decide +kernel
theorem dX12_meet_266 : decode cX12_meet 266 = .ok (.irem, 1) := by decide +kernel
theorem dX12_meet_267 : decode cX12_meet 267 = .ok (.ireturn, 1) := by decide +kernel
theorem dX12_broad_0 : decode cX12_broad 0 = .ok (.aload_n 0, 1) := by decide +kernel
theorem dX12_broad_1 : decode cX12_broad 1 = .ok (.iconst 0, 1) := by decide +kernel
theorem dX12_broad_2 : decode cX12_broad 2 = .ok (.putfield 1, 3) := by decide +kernel
theorem dX12_broad_5 : decode cX12_broad 5 = .ok (.iload_n 1, 1) := by decide +kernel
theorem dX12_broad_6 : decode cX12_broad 6 = .ok (.invokestatic 313, 3) := by decide +kernel
theorem dX12_broad_9 : decode cX12_broad 9 = .ok (.ifCond .eq 12, 3) := by decide +kernel
theorem dX12_broad_12 : decode cX12_broad 12 = .ok (.iload_n 2, 1) := by decide +kernel
theorem dX12_broad_13 : decode cX12_broad 13 = .ok (.iconst 0, 1) := by decide +kernel
theorem dX12_broad_14 : decode cX12_broad 14 = .ok (.iconst 1, 1) := by decide +kernel
theorem dX12_broad_15 : decode cX12_broad 15 = .ok (.invokestatic 289, 3) := by decide +kernel
theorem dX12_broad_18 : decode cX12_broad 18 = .ok (.ifCond .ne 5, 3) := by decide +kernel
theorem dX12_broad_21 : decode cX12_broad 21 = .ok (.iconst (-1), 1) := by decide +kernel
theorem dX12_broad_22 : decode cX12_broad 22 = .ok (.ireturn, 1) := by decide +kernel
theorem dX12_broad_23 : decode cX12_broad 23 = .ok (.aload_n 0, 1) := by decide +kernel
theorem dX12_broad_24 : decode cX12_broad 24 = .ok (.iload_n 1, 1) := by decide +kernel
theorem dX12_broad_25 : decode cX12_broad 25 = .ok (.invokevirtual 339, 3) := by decide +kernel
theorem dX12_broad_28 : decode cX12_broad 28 = .ok (.iconst (-1), 1) := by decide +kernel
theorem dX12_broad_29 : decode cX12_broad 29 = .ok (.istore_n 3, 1) := by decide +kernel
theorem dX12_broad_30 : decode cX12_broad 30 = .ok (.iconst (-1), 1) := by decide +kernel
theorem dX12_broad_31 : decode cX12_broad 31 = .ok (.istore 4, 2) := by decide +kernel
theorem dX12_broad_33 : decode cX12_broad 33 = .ok (.iconst 0, 1) := by decide +kernel
theorem dX12_broad_34 : decode cX12_broad 34 = .ok (.istore 5, 2) := by decide +kernel
theorem dX12_broad_36 : decode cX12_broad 36 = .ok (.iload 5, 2) := by decide +kernel
theorem dX12_broad_38 : decode cX12_broad 38 = .ok (.bipush 120, 2) := by decide +kernel
theorem dX12_broad_40 : decode cX12_broad 40 = .ok (.if_icmp .ge 89, 3) := by decide +kernel
theorem dX12_broad_43 : decode cX12_broad 43 = .ok (.iconst 0, 1) := by decide +kernel
theorem dX12_broad_44 : decode cX12_broad 44 = .ok (.istore 6, 2) := by decide +kernel
theorem dX12_broad_46 : decode cX12_broad 46 = .ok (.iconst 0, 1) := by decide +kernel
theorem dX12_broad_47 : decode cX12_broad 47 = .ok (.istore 7, 2) := by decide +kernel
theorem dX12_broad_49 : decode cX12_broad 49 = .ok (.iload 7, 2) := by decide +kernel
theorem dX12_broad_51 : decode cX12_broad 51 = .ok (.bipush 100, 2) := by decide +kernel
theorem dX12_broad_53 : decode cX12_broad 53 = .ok (.if_icmp .ge 46, 3) := by decide +kernel
theorem dX12_broad_56 : decode cX12_broad 56 = .ok (.iload 6, 2) := by decide +kernel
theorem dX12_broad_58 : decode cX12_broad 58 = .ok (.aload_n 0, 1) := by decide +kernel
theorem dX12_broad_59 : decode cX12_broad 59 = .ok (.getfield 97, 3) := by decide +kernel
theorem dX12_broad_62 : decode cX12_broad 62 = .ok (.iload 7, 2) := by decide +kernel
theorem dX12_broad_64 : decode cX12_broad 64 = .ok (.iaload, 1) := by decide +kernel
theorem dX12_broad_65 : decode cX12_broad 65 = .ok (.iconst 1, 1) := by decide +kernel
theorem dX12_broad_66 : decode cX12_broad 66 = .ok (.if_icmp .eq 23, 3) := by decide +kernel
theorem dX12_broad_69 : decode cX12_broad 69 = .ok (.aload_n 0, 1) := by decide +kernel
theorem dX12_broad_70 : decode cX12_broad 70 = .ok (.getfield 112, 3) := by decide +kernel
theorem dX12_broad_73 : decode cX12_broad 73 = .ok (.bipush 100, 2) := by decide +kernel
theorem dX12_broad_75 : decode cX12_broad 75 = .ok (.iload 5, 2) := by decide +kernel
theorem dX12_broad_77 : decode cX12_broad 77 = .ok (.imul, 1) := by decide +kernel
theorem dX12_broad_78 : decode cX12_broad 78 = .ok (.iload 7, 2) := by decide +kernel
theorem dX12_broad_80 : decode cX12_broad 80 = .ok (.iadd, 1) := by decide +kernel
theorem dX12_broad_81 : decode cX12_broad 81 = .ok (.iaload, 1) := by decide +kernel
theorem dX12_broad_82 : decode cX12_broad 82 = .ok (.ifCond .ne 7, 3) := by decide +kernel
theorem dX12_broad_85 : decode cX12_broad 85 = .ok (.iconst 1, 1) := by decide +kernel
theorem dX12_broad_86 : decode cX12_broad 86 = .ok (.goto 4, 3) := by decide +kernel
theorem dX12_broad_89 : decode cX12_broad 89 = .ok (.iconst 0, 1) := by decide +kernel
theorem dX12_broad_90 : decode cX12_broad 90 = .ok (.iadd, 1) := by decide +kernel
theorem dX12_broad_91 : decode cX12_broad 91 = .ok (.istore 6, 2) := by decide +kernel
theorem dX12_broad_93 : decode cX12_broad 93 = .ok (.iinc 7 1, 3) := by decide +kernel
theorem dX12_broad_96 : decode cX12_broad 96 = .ok (.goto (-47), 3) := by decide +kernel
theorem dX12_broad_99 : decode cX12_broad 99 = .ok (.aload_n 0, 1) := by decide +kernel
theorem dX12_broad_100 : decode cX12_broad 100 = .ok (.iload_n 1, 1) := by decide +kernel
theorem dX12_broad_101 : decode cX12_broad 101 = .ok (.iload 5, 2) := by decide +kernel
theorem dX12_broad_103 : decode cX12_broad 103 = .ok (.invokevirtual 293, 3) := by decide +kernel
theorem dX12_broad_106 : decode cX12_broad 106 = .ok (.ifCond .lt 17, 3) := by decide +kernel
theorem dX12_broad_109 : decode cX12_broad 109 = .ok (.iload 6, 2) := by decide +kernel
theorem dX12_broad_111 : decode cX12_broad 111 = .ok (.iload 4, 2) := by decide +kernel
theorem dX12_broad_113 : decode cX12_broad 113 = .ok (.if_icmp .le 10, 3) := by decide +kernel
theorem dX12_broad_116 : decode cX12_broad 116 = .ok (.iload 6, 2) := by decide +kernel
theorem dX12_broad_118 : decode cX12_broad 118 = .ok (.istore 4, 2) := by decide +kernel
theorem dX12_broad_120 : decode cX12_broad 120 = .ok (.iload 5, 2) := by decide +kernel
theorem dX12_broad_122 : decode cX12_broad 122 = .ok (.istore_n 3, 1) := by decide +kernel
theorem dX12_broad_123 : decode cX12_broad 123 = .ok (.iinc 5 1, 3) := by decide +kernel
theorem dX12_broad_126 : decode cX12_broad 126 = .ok (.goto (-90), 3) := by decide +kernel
theorem dX12_broad_129 : decode cX12_broad 129 = .ok (.iload_n 2, 1) := by decide +kernel
theorem dX12_broad_130 : decode cX12_broad 130 = .ok (.ifCond .ne 7, 3) := by decide +kernel
theorem dX12_broad_133 : decode cX12_broad 133 = .ok (.iload_n 3, 1) := by decide +kernel
theorem dX12_broad_134 : decode cX12_broad 134 = .ok (.goto 5, 3) := by decide +kernel
theorem dX12_broad_137 : decode cX12_broad 137 = .ok (.iload 4, 2) := by decide +kernel
theorem dX12_broad_139 : decode cX12_broad 139 = .ok (.ireturn, 1) := by decide +kernel
theorem dX12_edges_0 : decode cX12_edges 0 = .ok (.aload_n 0, 1) := by decide +kernel
theorem dX12_edges_1 : decode cX12_edges 1 = .ok (.iconst 0, 1) := by decide +kernel
theorem dX12_edges_2 : decode cX12_edges 2 = .ok (.putfield 1, 3) := by decide +kernel
theorem dX12_edges_5 : decode cX12_edges 5 = .ok (.iload_n 1, 1) := by decide +kernel
theorem dX12_edges_6 : decode cX12_edges 6 = .ok (.invokestatic 313, 3) := by decide +kernel
theorem dX12_edges_9 : decode cX12_edges 9 = .ok (.ifCond .eq 13, 3) := by decide +kernel
theorem dX12_edges_12 : decode cX12_edges 12 = .ok (.iload_n 2, 1) := by decide +kernel
theorem dX12_edges_13 : decode cX12_edges 13 = .ok (.iconst 1, 1) := by decide +kernel
theorem dX12_edges_14 : decode cX12_edges 14 = .ok (.bipush 119, 2) := by decide +kernel
theorem dX12_edges_16 : decode cX12_edges 16 = .ok (.invokestatic 289, 3) := by decide +kernel
theorem dX12_edges_19 : decode cX12_edges 19 = .ok (.ifCond .ne 5, 3) := by decide +kernel
theorem dX12_edges_22 : decode cX12_edges 22 = .ok (.iconst (-1), 1) := by decide +kernel
theorem dX12_edges_23 : decode cX12_edges 23 = .ok (.ireturn, 1) := by decide +kernel
theorem dX12_edges_24 : decode cX12_edges 24 = .ok (.aload_n 0, 1) := by decide +kernel
theorem dX12_edges_25 : decode cX12_edges 25 = .ok (.iload_n 1, 1) := by decide +kernel
theorem dX12_edges_26 : decode cX12_edges 26 = .ok (.invokevirtual 339, 3) := by decide +kernel
theorem dX12_edges_29 : decode cX12_edges 29 = .ok (.iconst 0, 1) := by decide +kernel
theorem dX12_edges_30 : decode cX12_edges 30 = .ok (.istore 4, 2) := by decide +kernel
theorem dX12_edges_32 : decode cX12_edges 32 = .ok (.iconst 0, 1) := by decide +kernel
theorem dX12_edges_33 : decode cX12_edges 33 = .ok (.istore 5, 2) := by decide +kernel
theorem dX12_edges_35 : decode cX12_edges 35 = .ok (.iload 5, 2) := by decide +kernel
theorem dX12_edges_37 : decode cX12_edges 37 = .ok (.bipush 100, 2) := by decide +kernel
theorem dX12_edges_39 : decode cX12_edges 39 = .ok (.if_icmp .ge 82, 3) := by decide +kernel
theorem dX12_edges_42 : decode cX12_edges 42 = .ok (.aload_n 0, 1) := by decide +kernel
theorem dX12_edges_43 : decode cX12_edges 43 = .ok (.getfield 112, 3) := by decide +kernel
theorem dX12_edges_46 : decode cX12_edges 46 = .ok (.bipush 100, 2) := by decide +kernel
theorem dX12_edges_48 : decode cX12_edges 48 = .ok (.iload_n 2, 1) := by decide +kernel
theorem dX12_edges_49 : decode cX12_edges 49 = .ok (.imul, 1) := by decide +kernel
theorem dX12_edges_50 : decode cX12_edges 50 = .ok (.iload 5, 2) := by decide +kernel
theorem dX12_edges_52 : decode cX12_edges 52 = .ok (.iadd, 1) := by decide +kernel
theorem dX12_edges_53 : decode cX12_edges 53 = .ok (.iaload, 1) := by decide +kernel
theorem dX12_edges_54 : decode cX12_edges 54 = .ok (.istore 6, 2) := by decide +kernel
theorem dX12_edges_56 : decode cX12_edges 56 = .ok (.aload_n 0, 1) := by decide +kernel
theorem dX12_edges_57 : decode cX12_edges 57 = .ok (.getfield 112, 3) := by decide +kernel
theorem dX12_edges_60 : decode cX12_edges 60 = .ok (.bipush 100, 2) := by decide +kernel
theorem dX12_edges_62 : decode cX12_edges 62 = .ok (.iload_n 2, 1) := by decide +kernel
theorem dX12_edges_63 : decode cX12_edges 63 = .ok (.imul, 1) := by decide +kernel
theorem dX12_edges_64 : decode cX12_edges 64 = .ok (.bipush 100, 2) := by decide +kernel
theorem dX12_edges_66 : decode cX12_edges 66 = .ok (.isub, 1) := by decide +kernel
theorem dX12_edges_67 : decode cX12_edges 67 = .ok (.iload 5, 2) := by decide +kernel
theorem dX12_edges_69 : decode cX12_edges 69 = .ok (.iadd, 1) := by decide +kernel
theorem dX12_edges_70 : decode cX12_edges 70 = .ok (.iaload, 1) := by decide +kernel
theorem dX12_edges_71 : decode cX12_edges 71 = .ok (.istore 7, 2) := by decide +kernel
theorem dX12_edges_73 : decode cX12_edges 73 = .ok (.iload 4, 2) := by decide +kernel
theorem dX12_edges_75 : decode cX12_edges 75 = .ok (.aload_n 0, 1) := by decide +kernel
theorem dX12_edges_76 : decode cX12_edges 76 = .ok (.getfield 97, 3) := by decide +kernel
theorem dX12_edges_79 : decode cX12_edges 79 = .ok (.iload 5, 2) := by decide +kernel
theorem dX12_edges_81 : decode cX12_edges 81 = .ok (.iaload, 1) := by decide +kernel
theorem dX12_edges_82 : decode cX12_edges 82 = .ok (.iconst 1, 1) := by decide +kernel
theorem dX12_edges_83 : decode cX12_edges 83 = .ok (.if_icmp .eq 28, 3) := by decide +kernel
theorem dX12_edges_86 : decode cX12_edges 86 = .ok (.iload 6, 2) := by decide +kernel
theorem dX12_edges_88 : decode cX12_edges 88 = .ok (.iload 7, 2) := by decide +kernel
theorem dX12_edges_90 : decode cX12_edges 90 = .ok (.if_icmp .eq 21, 3) := by decide +kernel
theorem dX12_edges_93 : decode cX12_edges 93 = .ok (.iload 6, 2) := by decide +kernel
theorem dX12_edges_95 : decode cX12_edges 95 = .ok (.iload_n 3, 1) := by decide +kernel
theorem dX12_edges_96 : decode cX12_edges 96 = .ok (.ifCond .eq 7, 3) := by decide +kernel
theorem dX12_edges_99 : decode cX12_edges 99 = .ok (.iconst 0, 1) := by decide +kernel
theorem dX12_edges_100 : decode cX12_edges 100 = .ok (.goto 4, 3) := by decide +kernel
theorem dX12_edges_103 : decode cX12_edges 103 = .ok (.iconst 1, 1) := by decide +kernel
theorem dX12_edges_104 : decode cX12_edges 104 = .ok (.if_icmp .ne 7, 3) := by decide +kernel
theorem dX12_edges_107 : decode cX12_edges 107 = .ok (.iconst 1, 1) := by decide +kernel
theorem dX12_edges_108 : decode cX12_edges 108 = .ok (.goto 4, 3) := by decide +kernel
theorem dX12_edges_111 : decode cX12_edges 111 = .ok (.iconst 0, 1) := by decide +kernel
theorem dX12_edges_112 : decode cX12_edges 112 = .ok (.iadd, 1) := by decide +kernel
theorem dX12_edges_113 : decode cX12_edges 113 = .ok (.istore 4, 2) := by decide +kernel
theorem dX12_edges_115 : decode cX12_edges 115 = .ok (.iinc 5 1, 3) := by decide +kernel
theorem dX12_edges_118 : decode cX12_edges 118 = .ok (.goto (-83), 3) := by decide +kernel
theorem dX12_edges_121 : decode cX12_edges 121 = .ok (.iload 4, 2) := by decide +kernel
theorem dX12_edges_123 : decode cX12_edges 123 = .ok (.ireturn, 1) := by decide +kernel
theorem dX12_mark_0 : decode cX12_mark 0 = .ok (.aload_n 0, 1) := by decide +kernel
theorem dX12_mark_1 : decode cX12_mark 1 = .ok (.iconst 0, 1) := by decide +kernel
theorem dX12_mark_2 : decode cX12_mark 2 = .ok (.putfield 1, 3) := by decide +kernel
theorem dX12_mark_5 : decode cX12_mark 5 = .ok (.iload_n 1, 1) := by decide +kernel
theorem dX12_mark_6 : decode cX12_mark 6 = .ok (.iconst 0, 1) := by decide +kernel
theorem dX12_mark_7 : decode cX12_mark 7 = .ok (.iconst 3, 1) := by decide +kernel
theorem dX12_mark_8 : decode cX12_mark 8 = .ok (.invokestatic 289, 3) := by decide +kernel
theorem dX12_mark_11 : decode cX12_mark 11 = .ok (.ifCond .eq 16, 3) := by decide +kernel
theorem dX12_mark_14 : decode cX12_mark 14 = .ok (.iload_n 2, 1) := by decide +kernel
theorem dX12_mark_15 : decode cX12_mark 15 = .ok (.ifCond .eq 14, 3) := by decide +kernel
theorem dX12_mark_18 : decode cX12_mark 18 = .ok (.aload_n 0, 1) := by decide +kernel
theorem dX12_mark_19 : decode cX12_mark 19 = .ok (.getfield 164, 3) := by decide +kernel
theorem dX12_mark_22 : decode cX12_mark 22 = .ok (.iload_n 1, 1) := by decide +kernel
theorem dX12_mark_23 : decode cX12_mark 23 = .ok (.baload, 1) := by decide +kernel
theorem dX12_mark_24 : decode cX12_mark 24 = .ok (.ifCond .ne 5, 3) := by decide +kernel
theorem dX12_mark_27 : decode cX12_mark 27 = .ok (.iconst 0, 1) := by decide +kernel
theorem dX12_mark_28 : decode cX12_mark 28 = .ok (.ireturn, 1) := by decide +kernel
theorem dX12_mark_29 : decode cX12_mark 29 = .ok (.bipush 101, 2) := by decide +kernel
theorem dX12_mark_31 : decode cX12_mark 31 = .ok (.iload_n 1, 1) := by decide +kernel
theorem dX12_mark_32 : decode cX12_mark 32 = .ok (.imul, 1) := by decide +kernel
theorem dX12_mark_33 : decode cX12_mark 33 = .ok (.istore_n 3, 1) := by decide +kernel
theorem dX12_mark_34 : decode cX12_mark 34 = .ok (.iload_n 2, 1) := by decide +kernel
theorem dX12_mark_35 : decode cX12_mark 35 = .ok (.ifCond .eq 53, 3) := by decide +kernel
theorem dX12_mark_38 : decode cX12_mark 38 = .ok (.aload_n 0, 1) := by decide +kernel
theorem dX12_mark_39 : decode cX12_mark 39 = .ok (.iconst 2, 1) := by decide +kernel
theorem dX12_mark_40 : decode cX12_mark 40 = .ok (.iload_n 1, 1) := by decide +kernel
theorem dX12_mark_41 : decode cX12_mark 41 = .ok (.iadd, 1) := by decide +kernel
theorem dX12_mark_42 : decode cX12_mark 42 = .ok (.iconst 0, 1) := by decide +kernel
theorem dX12_mark_43 : decode cX12_mark 43 = .ok (.invokevirtual 227, 3) := by decide +kernel
theorem dX12_mark_46 : decode cX12_mark 46 = .ok (.aload_n 0, 1) := by decide +kernel
theorem dX12_mark_47 : decode cX12_mark 47 = .ok (.aload_n 0, 1) := by decide +kernel
theorem dX12_mark_48 : decode cX12_mark 48 = .ok (.getfield 167, 3) := by decide +kernel
theorem dX12_mark_51 : decode cX12_mark 51 = .ok (.iload_n 3, 1) := by decide +kernel
theorem dX12_mark_52 : decode cX12_mark 52 = .ok (.iaload, 1) := by decide +kernel
theorem dX12_mark_53 : decode cX12_mark 53 = .ok (.putfield 231, 3) := by decide +kernel
theorem dX12_mark_56 : decode cX12_mark 56 = .ok (.aload_n 0, 1) := by decide +kernel
theorem dX12_mark_57 : decode cX12_mark 57 = .ok (.aload_n 0, 1) := by decide +kernel
theorem dX12_mark_58 : decode cX12_mark 58 = .ok (.getfield 167, 3) := by decide +kernel
theorem dX12_mark_61 : decode cX12_mark 61 = .ok (.iload_n 3, 1) := by decide +kernel
theorem dX12_mark_62 : decode cX12_mark 62 = .ok (.iconst 1, 1) := by decide +kernel
theorem dX12_mark_63 : decode cX12_mark 63 = .ok (.iadd, 1) := by decide +kernel
theorem dX12_mark_64 : decode cX12_mark 64 = .ok (.iaload, 1) := by decide +kernel
theorem dX12_mark_65 : decode cX12_mark 65 = .ok (.putfield 234, 3) := by decide +kernel
theorem dX12_mark_68 : decode cX12_mark 68 = .ok (.aload_n 0, 1) := by decide +kernel
theorem dX12_mark_69 : decode cX12_mark 69 = .ok (.aload_n 0, 1) := by decide +kernel
theorem dX12_mark_70 : decode cX12_mark 70 = .ok (.getfield 167, 3) := by decide +kernel
theorem dX12_mark_73 : decode cX12_mark 73 = .ok (.iload_n 3, 1) := by decide +kernel
theorem dX12_mark_74 : decode cX12_mark 74 = .ok (.iconst 2, 1) := by decide +kernel
theorem dX12_mark_75 : decode cX12_mark 75 = .ok (.iadd, 1) := by decide +kernel
theorem dX12_mark_76 : decode cX12_mark 76 = .ok (.iaload, 1) := by decide +kernel
theorem dX12_mark_77 : decode cX12_mark 77 = .ok (.putfield 237, 3) := by decide +kernel
theorem dX12_mark_80 : decode cX12_mark 80 = .ok (.aload_n 0, 1) := by decide +kernel
theorem dX12_mark_81 : decode cX12_mark 81 = .ok (.iconst (-1), 1) := by decide +kernel
theorem dX12_mark_82 : decode cX12_mark 82 = .ok (.putfield 170, 3) := by decide +kernel
theorem dX12_mark_85 : decode cX12_mark 85 = .ok (.goto 52, 3) := by decide +kernel
theorem dX12_mark_88 : decode cX12_mark 88 = .ok (.aload_n 0, 1) := by decide +kernel
theorem dX12_mark_89 : decode cX12_mark 89 = .ok (.getfield 164, 3) := by decide +kernel
theorem dX12_mark_92 : decode cX12_mark 92 = .ok (.iload_n 1, 1) := by decide +kernel
theorem dX12_mark_93 : decode cX12_mark 93 = .ok (.iconst 1, 1) := by decide +kernel
theorem dX12_mark_94 : decode cX12_mark 94 = .ok (.bastore, 1) := by decide +kernel
theorem dX12_mark_95 : decode cX12_mark 95 = .ok (.aload_n 0, 1) := by decide +kernel
theorem dX12_mark_96 : decode cX12_mark 96 = .ok (.iconst 0, 1) := by decide +kernel
theorem dX12_mark_97 : decode cX12_mark 97 = .ok (.iconst 2, 1) := by decide +kernel
theorem dX12_mark_98 : decode cX12_mark 98 = .ok (.iload_n 1, 1) := by decide +kernel
theorem dX12_mark_99 : decode cX12_mark 99 = .ok (.iadd, 1) := by decide +kernel
theorem dX12_mark_100 : decode cX12_mark 100 = .ok (.invokevirtual 227, 3) := by decide +kernel
theorem dX12_mark_103 : decode cX12_mark 103 = .ok (.aload_n 0, 1) := by decide +kernel
theorem dX12_mark_104 : decode cX12_mark 104 = .ok (.getfield 167, 3) := by decide +kernel
theorem dX12_mark_107 : decode cX12_mark 107 = .ok (.iload_n 3, 1) := by decide +kernel
theorem dX12_mark_108 : decode cX12_mark 108 = .ok (.aload_n 0, 1) := by decide +kernel
theorem dX12_mark_109 : decode cX12_mark 109 = .ok (.getfield 231, 3) := by decide +kernel
theorem dX12_mark_112 : decode cX12_mark 112 = .ok (.iastore, 1) := by decide +kernel
theorem dX12_mark_113 : decode cX12_mark 113 = .ok (.aload_n 0, 1) := by decide +kernel
theorem dX12_mark_114 : decode cX12_mark 114 = .ok (.getfield 167, 3) := by decide +kernel
theorem dX12_mark_117 : decode cX12_mark 117 = .ok (.iload_n 3, 1) := by decide +kernel
theorem dX12_mark_118 : decode cX12_mark 118 = .ok (.iconst 1, 1) := by decide +kernel
theorem dX12_mark_119 : decode cX12_mark 119 = .ok (.iadd, 1) := by decide +kernel
theorem dX12_mark_120 : decode cX12_mark 120 = .ok (.aload_n 0, 1) := by decide +kernel
theorem dX12_mark_121 : decode cX12_mark 121 = .ok (.getfield 234, 3) := by decide +kernel
theorem dX12_mark_124 : decode cX12_mark 124 = .ok (.iastore, 1) := by decide +kernel
theorem dX12_mark_125 : decode cX12_mark 125 = .ok (.aload_n 0, 1) := by decide +kernel
theorem dX12_mark_126 : decode cX12_mark 126 = .ok (.getfield 167, 3) := by decide +kernel
theorem dX12_mark_129 : decode cX12_mark 129 = .ok (.iload_n 3, 1) := by decide +kernel
theorem dX12_mark_130 : decode cX12_mark 130 = .ok (.iconst 2, 1) := by decide +kernel
theorem dX12_mark_131 : decode cX12_mark 131 = .ok (.iadd, 1) := by decide +kernel
theorem dX12_mark_132 : decode cX12_mark 132 = .ok (.aload_n 0, 1) := by decide +kernel
theorem dX12_mark_133 : decode cX12_mark 133 = .ok (.getfield 237, 3) := by decide +kernel
theorem dX12_mark_136 : decode cX12_mark 136 = .ok (.iastore, 1) := by decide +kernel
theorem dX12_mark_137 : decode cX12_mark 137 = .ok (.aload_n 0, 1) := by decide +kernel
theorem dX12_mark_138 : decode cX12_mark 138 = .ok (.aload_n 0, 1) := by decide +kernel
theorem dX12_mark_139 : decode cX12_mark 139 = .ok (.getfield 149, 3) := by decide +kernel
theorem dX12_mark_142 : decode cX12_mark 142 = .ok (.iload_n 3, 1) := by decide +kernel
theorem dX12_mark_143 : decode cX12_mark 143 = .ok (.iconst 3, 1) := by decide +kernel
theorem dX12_mark_144 : decode cX12_mark 144 = .ok (.iadd, 1) := by decide +kernel
theorem dX12_mark_145 : decode cX12_mark 145 = .ok (.bipush 8, 2) := by decide +kernel
theorem dX12_mark_147 : decode cX12_mark 147 = .ok (.iload_n 2, 1) := by decide +kernel
theorem dX12_mark_148 : decode cX12_mark 148 = .ok (.invokevirtual 449, 3) := by decide +kernel
theorem dX12_mark_151 : decode cX12_mark 151 = .ok (.aload_n 0, 1) := by decide +kernel
theorem dX12_mark_152 : decode cX12_mark 152 = .ok (.aload_n 0, 1) := by decide +kernel
theorem dX12_mark_153 : decode cX12_mark 153 = .ok (.getfield 152, 3) := by decide +kernel
theorem dX12_mark_156 : decode cX12_mark 156 = .ok (.iload_n 3, 1) := by decide +kernel
theorem dX12_mark_157 : decode cX12_mark 157 = .ok (.bipush 11, 2) := by decide +kernel
theorem dX12_mark_159 : decode cX12_mark 159 = .ok (.iadd, 1) := by decide +kernel
theorem dX12_mark_160 : decode cX12_mark 160 = .ok (.bipush 30, 2) := by decide +kernel
theorem dX12_mark_162 : decode cX12_mark 162 = .ok (.iload_n 2, 1) := by decide +kernel
theorem dX12_mark_163 : decode cX12_mark 163 = .ok (.invokevirtual 449, 3) := by decide +kernel
theorem dX12_mark_166 : decode cX12_mark 166 = .ok (.aload_n 0, 1) := by decide +kernel
theorem dX12_mark_167 : decode cX12_mark 167 = .ok (.aload_n 0, 1) := by decide +kernel
theorem dX12_mark_168 : decode cX12_mark 168 = .ok (.getfield 155, 3) := by decide +kernel
theorem dX12_mark_171 : decode cX12_mark 171 = .ok (.iload_n 3, 1) := by decide +kernel
theorem dX12_mark_172 : decode cX12_mark 172 = .ok (.bipush 41, 2) := by decide +kernel
theorem dX12_mark_174 : decode cX12_mark 174 = .ok (.iadd, 1) := by decide +kernel
theorem dX12_mark_175 : decode cX12_mark 175 = .ok (.bipush 60, 2) := by decide +kernel
theorem dX12_mark_177 : decode cX12_mark 177 = .ok (.iload_n 2, 1) := by decide +kernel
theorem dX12_mark_178 : decode cX12_mark 178 = .ok (.invokevirtual 449, 3) := by decide +kernel
theorem dX12_mark_181 : decode cX12_mark 181 = .ok (.iconst 1, 1) := by decide +kernel
theorem dX12_mark_182 : decode cX12_mark 182 = .ok (.ireturn, 1) := by decide +kernel
theorem dX12_carries_0 : decode cX12_carries 0 = .ok (.iconst 0, 1) := by decide +kernel
theorem dX12_carries_1 : decode cX12_carries 1 = .ok (.istore 5, 2) := by decide +kernel
theorem dX12_carries_3 : decode cX12_carries 3 = .ok (.iload 5, 2) := by decide +kernel
theorem dX12_carries_5 : decode cX12_carries 5 = .ok (.iload_n 3, 1) := by decide +kernel
theorem dX12_carries_6 : decode cX12_carries 6 = .ok (.if_icmp .ge 43, 3) := by decide +kernel
theorem dX12_carries_9 : decode cX12_carries 9 = .ok (.iload 4, 2) := by decide +kernel
theorem dX12_carries_11 : decode cX12_carries 11 = .ok (.ifCond .eq 19, 3) := by decide +kernel
theorem dX12_carries_14 : decode cX12_carries 14 = .ok (.aload_n 1, 1) := by decide +kernel
theorem dX12_carries_15 : decode cX12_carries 15 = .ok (.iload 5, 2) := by decide +kernel
theorem dX12_carries_17 : decode cX12_carries 17 = .ok (.aload_n 0, 1) := by decide +kernel
theorem dX12_carries_18 : decode cX12_carries 18 = .ok (.getfield 167, 3) := by decide +kernel
theorem dX12_carries_21 : decode cX12_carries 21 = .ok (.iload_n 2, 1) := by decide +kernel
theorem dX12_carries_22 : decode cX12_carries 22 = .ok (.iload 5, 2) := by decide +kernel
theorem dX12_carries_24 : decode cX12_carries 24 = .ok (.iadd, 1) := by decide +kernel
theorem dX12_carries_25 : decode cX12_carries 25 = .ok (.iaload, 1) := by decide +kernel
theorem dX12_carries_26 : decode cX12_carries 26 = .ok (.iastore, 1) := by decide +kernel
theorem dX12_carries_27 : decode cX12_carries 27 = .ok (.goto 16, 3) := by decide +kernel
theorem dX12_carries_30 : decode cX12_carries 30 = .ok (.aload_n 0, 1) := by decide +kernel
theorem dX12_carries_31 : decode cX12_carries 31 = .ok (.getfield 167, 3) := by decide +kernel
theorem dX12_carries_34 : decode cX12_carries 34 = .ok (.iload_n 2, 1) := by decide +kernel
theorem dX12_carries_35 : decode cX12_carries 35 = .ok (.iload 5, 2) := by decide +kernel
theorem dX12_carries_37 : decode cX12_carries 37 = .ok (.iadd, 1) := by decide +kernel
theorem dX12_carries_38 : decode cX12_carries 38 = .ok (.aload_n 1, 1) := by decide +kernel
theorem dX12_carries_39 : decode cX12_carries 39 = .ok (.iload 5, 2) := by decide +kernel
theorem dX12_carries_41 : decode cX12_carries 41 = .ok (.iaload, 1) := by decide +kernel
theorem dX12_carries_42 : decode cX12_carries 42 = .ok (.iastore, 1) := by decide +kernel
theorem dX12_carries_43 : decode cX12_carries 43 = .ok (.iinc 5 1, 3) := by decide +kernel
theorem dX12_carries_46 : decode cX12_carries 46 = .ok (.goto (-43), 3) := by decide +kernel
theorem dX12_carries_49 : decode cX12_carries 49 = .ok (.return_, 1) := by decide +kernel
theorem dX12_count_0 : decode cX12_count 0 = .ok (.aload_n 0, 1) := by decide +kernel
theorem dX12_count_1 : decode cX12_count 1 = .ok (.iconst 0, 1) := by decide +kernel
theorem dX12_count_2 : decode cX12_count 2 = .ok (.putfield 1, 3) := by decide +kernel
theorem dX12_count_5 : decode cX12_count 5 = .ok (.iconst 0, 1) := by decide +kernel
theorem dX12_count_6 : decode cX12_count 6 = .ok (.istore_n 2, 1) := by decide +kernel
theorem dX12_count_7 : decode cX12_count 7 = .ok (.iload_n 1, 1) := by decide +kernel
theorem dX12_count_8 : decode cX12_count 8 = .ok (.tableswitch 218 0 11 #[64, 64, 64, 100, 100, 148, 157, 189, 194, 199, 204, 209], 64) := by decide +kernel
theorem dX12_count_72 : decode cX12_count 72 = .ok (.iconst 0, 1) := by decide +kernel
theorem dX12_count_73 : decode cX12_count 73 = .ok (.istore_n 3, 1) := by decide +kernel
theorem dX12_count_74 : decode cX12_count 74 = .ok (.iload_n 3, 1) := by decide +kernel
theorem dX12_count_75 : decode cX12_count 75 = .ok (.bipush 100, 2) := by decide +kernel
theorem dX12_count_77 : decode cX12_count 77 = .ok (.if_icmp .ge 29, 3) := by decide +kernel
theorem dX12_count_80 : decode cX12_count 80 = .ok (.iload_n 2, 1) := by decide +kernel
theorem dX12_count_81 : decode cX12_count 81 = .ok (.aload_n 0, 1) := by decide +kernel
theorem dX12_count_82 : decode cX12_count 82 = .ok (.getfield 97, 3) := by decide +kernel
theorem dX12_count_85 : decode cX12_count 85 = .ok (.iload_n 3, 1) := by decide +kernel
theorem dX12_count_86 : decode cX12_count 86 = .ok (.iaload, 1) := by decide +kernel
theorem dX12_count_87 : decode cX12_count 87 = .ok (.iload_n 1, 1) := by decide +kernel
theorem dX12_count_88 : decode cX12_count 88 = .ok (.iconst 1, 1) := by decide +kernel
theorem dX12_count_89 : decode cX12_count 89 = .ok (.iadd, 1) := by decide +kernel
theorem dX12_count_90 : decode cX12_count 90 = .ok (.if_icmp .ne 7, 3) := by decide +kernel
theorem dX12_count_93 : decode cX12_count 93 = .ok (.iconst 1, 1) := by decide +kernel
theorem dX12_count_94 : decode cX12_count 94 = .ok (.goto 4, 3) := by decide +kernel
theorem dX12_count_97 : decode cX12_count 97 = .ok (.iconst 0, 1) := by decide +kernel
theorem dX12_count_98 : decode cX12_count 98 = .ok (.iadd, 1) := by decide +kernel
theorem dX12_count_99 : decode cX12_count 99 = .ok (.istore_n 2, 1) := by decide +kernel
theorem dX12_count_100 : decode cX12_count 100 = .ok (.iinc 3 1, 3) := by decide +kernel
theorem dX12_count_103 : decode cX12_count 103 = .ok (.goto (-29), 3) := by decide +kernel
theorem dX12_count_106 : decode cX12_count 106 = .ok (.iload_n 2, 1) := by decide +kernel
theorem dX12_count_107 : decode cX12_count 107 = .ok (.ireturn, 1) := by decide +kernel
theorem dX12_count_108 : decode cX12_count 108 = .ok (.iconst 0, 1) := by decide +kernel
theorem dX12_count_109 : decode cX12_count 109 = .ok (.istore_n 3, 1) := by decide +kernel
theorem dX12_count_110 : decode cX12_count 110 = .ok (.iload_n 3, 1) := by decide +kernel
theorem dX12_count_111 : decode cX12_count 111 = .ok (.aload_n 0, 1) := by decide +kernel
theorem dX12_count_112 : decode cX12_count 112 = .ok (.getfield 97, 3) := by decide +kernel
theorem dX12_count_115 : decode cX12_count 115 = .ok (.sipush 200, 3) := by decide +kernel
theorem dX12_count_118 : decode cX12_count 118 = .ok (.iaload, 1) := by decide +kernel
theorem dX12_count_119 : decode cX12_count 119 = .ok (.if_icmp .ge 35, 3) := by decide +kernel
theorem dX12_count_122 : decode cX12_count 122 = .ok (.iload_n 2, 1) := by decide +kernel
theorem dX12_count_123 : decode cX12_count 123 = .ok (.aload_n 0, 1) := by decide +kernel
theorem dX12_count_124 : decode cX12_count 124 = .ok (.getfield 97, 3) := by decide +kernel
theorem dX12_count_127 : decode cX12_count 127 = .ok (.sipush 201, 3) := by decide +kernel
theorem dX12_count_130 : decode cX12_count 130 = .ok (.iconst 3, 1) := by decide +kernel
theorem dX12_count_131 : decode cX12_count 131 = .ok (.iload_n 3, 1) := by decide +kernel
theorem dX12_count_132 : decode cX12_count 132 = .ok (.imul, 1) := by decide +kernel
theorem dX12_count_133 : decode cX12_count 133 = .ok (.iadd, 1) := by decide +kernel
theorem dX12_count_134 : decode cX12_count 134 = .ok (.iconst 1, 1) := by decide +kernel
theorem dX12_count_135 : decode cX12_count 135 = .ok (.iadd, 1) := by decide +kernel
theorem dX12_count_136 : decode cX12_count 136 = .ok (.iaload, 1) := by decide +kernel
theorem dX12_count_137 : decode cX12_count 137 = .ok (.iload_n 1, 1) := by decide +kernel
theorem dX12_count_138 : decode cX12_count 138 = .ok (.if_icmp .ne 7, 3) := by decide +kernel
theorem dX12_count_141 : decode cX12_count 141 = .ok (.iconst 1, 1) := by decide +kernel
theorem dX12_count_142 : decode cX12_count 142 = .ok (.goto 4, 3) := by decide +kernel
theorem dX12_count_145 : decode cX12_count 145 = .ok (.iconst 0, 1) := by decide +kernel
theorem dX12_count_146 : decode cX12_count 146 = .ok (.iadd, 1) := by decide +kernel
theorem dX12_count_147 : decode cX12_count 147 = .ok (.istore_n 2, 1) := by decide +kernel
theorem dX12_count_148 : decode cX12_count 148 = .ok (.iinc 3 1, 3) := by decide +kernel
theorem dX12_count_151 : decode cX12_count 151 = .ok (.goto (-41), 3) := by decide +kernel
theorem dX12_count_154 : decode cX12_count 154 = .ok (.iload_n 2, 1) := by decide +kernel
theorem dX12_count_155 : decode cX12_count 155 = .ok (.ireturn, 1) := by decide +kernel
theorem dX12_count_156 : decode cX12_count 156 = .ok (.aload_n 0, 1) := by decide +kernel
theorem dX12_count_157 : decode cX12_count 157 = .ok (.getfield 97, 3) := by decide +kernel
theorem dX12_count_160 : decode cX12_count 160 = .ok (.sipush 261, 3) := by decide +kernel
theorem dX12_count_163 : decode cX12_count 163 = .ok (.iaload, 1) := by decide +kernel
theorem dX12_count_164 : decode cX12_count 164 = .ok (.ireturn, 1) := by decide +kernel
theorem dX12_count_165 : decode cX12_count 165 = .ok (.iconst 0, 1) := by decide +kernel
theorem dX12_count_166 : decode cX12_count 166 = .ok (.istore_n 3, 1) := by decide +kernel
theorem dX12_count_167 : decode cX12_count 167 = .ok (.iload_n 3, 1) := by decide +kernel
theorem dX12_count_168 : decode cX12_count 168 = .ok (.bipush 6, 2) := by decide +kernel
theorem dX12_count_170 : decode cX12_count 170 = .ok (.if_icmp .ge 25, 3) := by decide +kernel
theorem dX12_count_173 : decode cX12_count 173 = .ok (.iload_n 2, 1) := by decide +kernel
theorem dX12_count_174 : decode cX12_count 174 = .ok (.aload_n 0, 1) := by decide +kernel
theorem dX12_count_175 : decode cX12_count 175 = .ok (.iload_n 3, 1) := by decide +kernel
theorem dX12_count_176 : decode cX12_count 176 = .ok (.invokevirtual 322, 3) := by decide +kernel
theorem dX12_count_179 : decode cX12_count 179 = .ok (.ifCond .eq 7, 3) := by decide +kernel
theorem dX12_count_182 : decode cX12_count 182 = .ok (.iconst 1, 1) := by decide +kernel
theorem dX12_count_183 : decode cX12_count 183 = .ok (.goto 4, 3) := by decide +kernel
theorem dX12_count_186 : decode cX12_count 186 = .ok (.iconst 0, 1) := by decide +kernel
theorem dX12_count_187 : decode cX12_count 187 = .ok (.iadd, 1) := by decide +kernel
theorem dX12_count_188 : decode cX12_count 188 = .ok (.istore_n 2, 1) := by decide +kernel
theorem dX12_count_189 : decode cX12_count 189 = .ok (.iinc 3 1, 3) := by decide +kernel
theorem dX12_count_192 : decode cX12_count 192 = .ok (.goto (-25), 3) := by decide +kernel
theorem dX12_count_195 : decode cX12_count 195 = .ok (.iload_n 2, 1) := by decide +kernel
theorem dX12_count_196 : decode cX12_count 196 = .ok (.ireturn, 1) := by decide +kernel
theorem dX12_count_197 : decode cX12_count 197 = .ok (.aload_n 0, 1) := by decide +kernel
theorem dX12_count_198 : decode cX12_count 198 = .ok (.getfield 231, 3) := by decide +kernel
theorem dX12_count_201 : decode cX12_count 201 = .ok (.ireturn, 1) := by decide +kernel
theorem dX12_count_202 : decode cX12_count 202 = .ok (.aload_n 0, 1) := by decide +kernel
theorem dX12_count_203 : decode cX12_count 203 = .ok (.getfield 234, 3) := by decide +kernel
theorem dX12_count_206 : decode cX12_count 206 = .ok (.ireturn, 1) := by decide +kernel
theorem dX12_count_207 : decode cX12_count 207 = .ok (.aload_n 0, 1) := by decide +kernel
theorem dX12_count_208 : decode cX12_count 208 = .ok (.getfield 237, 3) := by decide +kernel
theorem dX12_count_211 : decode cX12_count 211 = .ok (.ireturn, 1) := by decide +kernel
theorem dX12_count_212 : decode cX12_count 212 = .ok (.aload_n 0, 1) := by decide +kernel
theorem dX12_count_213 : decode cX12_count 213 = .ok (.getfield 11, 3) := by decide +kernel
theorem dX12_count_216 : decode cX12_count 216 = .ok (.ireturn, 1) := by decide +kernel
theorem dX12_count_217 : decode cX12_count 217 = .ok (.aload_n 0, 1) := by decide +kernel
theorem dX12_count_218 : decode cX12_count 218 = .ok (.getfield 97, 3) := by decide +kernel
theorem dX12_count_221 : decode cX12_count 221 = .ok (.sipush 424, 3) := by decide +kernel
theorem dX12_count_224 : decode cX12_count 224 = .ok (.iaload, 1) := by decide +kernel
theorem dX12_count_225 : decode cX12_count 225 = .ok (.ireturn, 1) := by decide +kernel
theorem dX12_count_226 : decode cX12_count 226 = .ok (.iconst (-1), 1) := by decide +kernel
theorem dX12_count_227 : decode cX12_count 227 = .ok (.ireturn, 1) := by decide +kernel
theorem dJ11_isValidCodePoint_9a6ad_0 : decode cJ11_isValidCodePoint_9a6ad 0 = .ok (.iload_n 0, 1) := by decide +kernel
theorem dJ11_isValidCodePoint_9a6ad_1 : decode cJ11_isValidCodePoint_9a6ad 1 = .ok (.bipush 16, 2) := by decide +kernel
theorem dJ11_isValidCodePoint_9a6ad_3 : decode cJ11_isValidCodePoint_9a6ad 3 = .ok (.iushr, 1) := by decide +kernel
theorem dJ11_isValidCodePoint_9a6ad_4 : decode cJ11_isValidCodePoint_9a6ad 4 = .ok (.istore_n 1, 1) := by decide +kernel
theorem dJ11_isValidCodePoint_9a6ad_5 : decode cJ11_isValidCodePoint_9a6ad 5 = .ok (.iload_n 1, 1) := by decide +kernel
theorem dJ11_isValidCodePoint_9a6ad_6 : decode cJ11_isValidCodePoint_9a6ad 6 = .ok (.bipush 17, 2) := by decide +kernel
theorem dJ11_isValidCodePoint_9a6ad_8 : decode cJ11_isValidCodePoint_9a6ad 8 = .ok (.if_icmp .ge 7, 3) := by decide +kernel
theorem dJ11_isValidCodePoint_9a6ad_11 : decode cJ11_isValidCodePoint_9a6ad 11 = .ok (.iconst 1, 1) := by decide +kernel
theorem dJ11_isValidCodePoint_9a6ad_12 : decode cJ11_isValidCodePoint_9a6ad 12 = .ok (.goto 4, 3) := by decide +kernel
theorem dJ11_isValidCodePoint_9a6ad_15 : decode cJ11_isValidCodePoint_9a6ad 15 = .ok (.iconst 0, 1) := by decide +kernel
theorem dJ11_isValidCodePoint_9a6ad_16 : decode cJ11_isValidCodePoint_9a6ad 16 = .ok (.ireturn, 1) := by decide +kernel
theorem dJ11_highSurrogate_5068e_0 : decode cJ11_highSurrogate_5068e 0 = .ok (.iload_n 0, 1) := by decide +kernel
theorem dJ11_highSurrogate_5068e_1 : decode cJ11_highSurrogate_5068e 1 = .ok (.bipush 10, 2) := by decide +kernel
theorem dJ11_highSurrogate_5068e_3 : decode cJ11_highSurrogate_5068e 3 = .ok (.iushr, 1) := by decide +kernel
theorem dJ11_highSurrogate_5068e_4 : decode cJ11_highSurrogate_5068e 4 = .ok (.ldc 110, 2) := by decide +kernel
theorem dJ11_highSurrogate_5068e_6 : decode cJ11_highSurrogate_5068e 6 = .ok (.iadd, 1) := by decide +kernel
theorem dJ11_highSurrogate_5068e_7 : decode cJ11_highSurrogate_5068e 7 = .ok (.i2c, 1) := by decide +kernel
theorem dJ11_highSurrogate_5068e_8 : decode cJ11_highSurrogate_5068e 8 = .ok (.ireturn, 1) := by decide +kernel
theorem dJ11_lowSurrogate_5068e_0 : decode cJ11_lowSurrogate_5068e 0 = .ok (.iload_n 0, 1) := by decide +kernel
theorem dJ11_lowSurrogate_5068e_1 : decode cJ11_lowSurrogate_5068e 1 = .ok (.sipush 1023, 3) := by decide +kernel
theorem dJ11_lowSurrogate_5068e_4 : decode cJ11_lowSurrogate_5068e 4 = .ok (.iand, 1) := by decide +kernel
theorem dJ11_lowSurrogate_5068e_5 : decode cJ11_lowSurrogate_5068e 5 = .ok (.ldc 76, 2) := by decide +kernel
theorem dJ11_lowSurrogate_5068e_7 : decode cJ11_lowSurrogate_5068e 7 = .ok (.iadd, 1) := by decide +kernel
theorem dJ11_lowSurrogate_5068e_8 : decode cJ11_lowSurrogate_5068e 8 = .ok (.i2c, 1) := by decide +kernel
theorem dJ11_lowSurrogate_5068e_9 : decode cJ11_lowSurrogate_5068e 9 = .ok (.ireturn, 1) := by decide +kernel
theorem dJ6_bitCount_0f7a4_0 : decode cJ6_bitCount_0f7a4 0 = .ok (.iload_n 0, 1) := by decide +kernel
theorem dJ6_bitCount_0f7a4_1 : decode cJ6_bitCount_0f7a4 1 = .ok (.iload_n 0, 1) := by decide +kernel
theorem dJ6_bitCount_0f7a4_2 : decode cJ6_bitCount_0f7a4 2 = .ok (.iconst 1, 1) := by decide +kernel
theorem dJ6_bitCount_0f7a4_3 : decode cJ6_bitCount_0f7a4 3 = .ok (.iushr, 1) := by decide +kernel
theorem dJ6_bitCount_0f7a4_4 : decode cJ6_bitCount_0f7a4 4 = .ok (.ldc_w 265, 3) := by decide +kernel
theorem dJ6_bitCount_0f7a4_7 : decode cJ6_bitCount_0f7a4 7 = .ok (.iand, 1) := by decide +kernel
theorem dJ6_bitCount_0f7a4_8 : decode cJ6_bitCount_0f7a4 8 = .ok (.isub, 1) := by decide +kernel
theorem dJ6_bitCount_0f7a4_9 : decode cJ6_bitCount_0f7a4 9 = .ok (.istore_n 0, 1) := by decide +kernel
theorem dJ6_bitCount_0f7a4_10 : decode cJ6_bitCount_0f7a4 10 = .ok (.iload_n 0, 1) := by decide +kernel
theorem dJ6_bitCount_0f7a4_11 : decode cJ6_bitCount_0f7a4 11 = .ok (.ldc_w 266, 3) := by decide +kernel
theorem dJ6_bitCount_0f7a4_14 : decode cJ6_bitCount_0f7a4 14 = .ok (.iand, 1) := by decide +kernel
theorem dJ6_bitCount_0f7a4_15 : decode cJ6_bitCount_0f7a4 15 = .ok (.iload_n 0, 1) := by decide +kernel
theorem dJ6_bitCount_0f7a4_16 : decode cJ6_bitCount_0f7a4 16 = .ok (.iconst 2, 1) := by decide +kernel
theorem dJ6_bitCount_0f7a4_17 : decode cJ6_bitCount_0f7a4 17 = .ok (.iushr, 1) := by decide +kernel
theorem dJ6_bitCount_0f7a4_18 : decode cJ6_bitCount_0f7a4 18 = .ok (.ldc_w 266, 3) := by decide +kernel
theorem dJ6_bitCount_0f7a4_21 : decode cJ6_bitCount_0f7a4 21 = .ok (.iand, 1) := by decide +kernel
theorem dJ6_bitCount_0f7a4_22 : decode cJ6_bitCount_0f7a4 22 = .ok (.iadd, 1) := by decide +kernel
theorem dJ6_bitCount_0f7a4_23 : decode cJ6_bitCount_0f7a4 23 = .ok (.istore_n 0, 1) := by decide +kernel
theorem dJ6_bitCount_0f7a4_24 : decode cJ6_bitCount_0f7a4 24 = .ok (.iload_n 0, 1) := by decide +kernel
theorem dJ6_bitCount_0f7a4_25 : decode cJ6_bitCount_0f7a4 25 = .ok (.iload_n 0, 1) := by decide +kernel
theorem dJ6_bitCount_0f7a4_26 : decode cJ6_bitCount_0f7a4 26 = .ok (.iconst 4, 1) := by decide +kernel
theorem dJ6_bitCount_0f7a4_27 : decode cJ6_bitCount_0f7a4 27 = .ok (.iushr, 1) := by decide +kernel
theorem dJ6_bitCount_0f7a4_28 : decode cJ6_bitCount_0f7a4 28 = .ok (.iadd, 1) := by decide +kernel
theorem dJ6_bitCount_0f7a4_29 : decode cJ6_bitCount_0f7a4 29 = .ok (.ldc_w 267, 3) := by decide +kernel
theorem dJ6_bitCount_0f7a4_32 : decode cJ6_bitCount_0f7a4 32 = .ok (.iand, 1) := by decide +kernel
theorem dJ6_bitCount_0f7a4_33 : decode cJ6_bitCount_0f7a4 33 = .ok (.istore_n 0, 1) := by decide +kernel
theorem dJ6_bitCount_0f7a4_34 : decode cJ6_bitCount_0f7a4 34 = .ok (.iload_n 0, 1) := by decide +kernel
theorem dJ6_bitCount_0f7a4_35 : decode cJ6_bitCount_0f7a4 35 = .ok (.iload_n 0, 1) := by decide +kernel
theorem dJ6_bitCount_0f7a4_36 : decode cJ6_bitCount_0f7a4 36 = .ok (.bipush 8, 2) := by decide +kernel
theorem dJ6_bitCount_0f7a4_38 : decode cJ6_bitCount_0f7a4 38 = .ok (.iushr, 1) := by decide +kernel
theorem dJ6_bitCount_0f7a4_39 : decode cJ6_bitCount_0f7a4 39 = .ok (.iadd, 1) := by decide +kernel
theorem dJ6_bitCount_0f7a4_40 : decode cJ6_bitCount_0f7a4 40 = .ok (.istore_n 0, 1) := by decide +kernel
theorem dJ6_bitCount_0f7a4_41 : decode cJ6_bitCount_0f7a4 41 = .ok (.iload_n 0, 1) := by decide +kernel
theorem dJ6_bitCount_0f7a4_42 : decode cJ6_bitCount_0f7a4 42 = .ok (.iload_n 0, 1) := by decide +kernel
theorem dJ6_bitCount_0f7a4_43 : decode cJ6_bitCount_0f7a4 43 = .ok (.bipush 16, 2) := by decide +kernel
theorem dJ6_bitCount_0f7a4_45 : decode cJ6_bitCount_0f7a4 45 = .ok (.iushr, 1) := by decide +kernel
theorem dJ6_bitCount_0f7a4_46 : decode cJ6_bitCount_0f7a4 46 = .ok (.iadd, 1) := by decide +kernel
theorem dJ6_bitCount_0f7a4_47 : decode cJ6_bitCount_0f7a4 47 = .ok (.istore_n 0, 1) := by decide +kernel
theorem dJ6_bitCount_0f7a4_48 : decode cJ6_bitCount_0f7a4 48 = .ok (.iload_n 0, 1) := by decide +kernel
theorem dJ6_bitCount_0f7a4_49 : decode cJ6_bitCount_0f7a4 49 = .ok (.bipush 63, 2) := by decide +kernel
theorem dJ6_bitCount_0f7a4_51 : decode cJ6_bitCount_0f7a4 51 = .ok (.iand, 1) := by decide +kernel
theorem dJ6_bitCount_0f7a4_52 : decode cJ6_bitCount_0f7a4 52 = .ok (.ireturn, 1) := by decide +kernel
theorem dJ13_bitCount_95d88_0 : decode cJ13_bitCount_95d88 0 = .ok (.lload_n 0, 1) := by decide +kernel
theorem dJ13_bitCount_95d88_1 : decode cJ13_bitCount_95d88 1 = .ok (.lload_n 0, 1) := by decide +kernel
theorem dJ13_bitCount_95d88_2 : decode cJ13_bitCount_95d88 2 = .ok (.iconst 1, 1) := by decide +kernel
theorem dJ13_bitCount_95d88_3 : decode cJ13_bitCount_95d88 3 = .ok (.lushr, 1) := by decide +kernel
theorem dJ13_bitCount_95d88_4 : decode cJ13_bitCount_95d88 4 = .ok (.ldc2_w 314, 3) := by decide +kernel
theorem dJ13_bitCount_95d88_7 : decode cJ13_bitCount_95d88 7 = .ok (.land, 1) := by decide +kernel
theorem dJ13_bitCount_95d88_8 : decode cJ13_bitCount_95d88 8 = .ok (.lsub, 1) := by decide +kernel
theorem dJ13_bitCount_95d88_9 : decode cJ13_bitCount_95d88 9 = .ok (.lstore_n 0, 1) := by decide +kernel
theorem dJ13_bitCount_95d88_10 : decode cJ13_bitCount_95d88 10 = .ok (.lload_n 0, 1) := by decide +kernel
theorem dJ13_bitCount_95d88_11 : decode cJ13_bitCount_95d88 11 = .ok (.ldc2_w 316, 3) := by decide +kernel
theorem dJ13_bitCount_95d88_14 : decode cJ13_bitCount_95d88 14 = .ok (.land, 1) := by decide +kernel
theorem dJ13_bitCount_95d88_15 : decode cJ13_bitCount_95d88 15 = .ok (.lload_n 0, 1) := by decide +kernel
theorem dJ13_bitCount_95d88_16 : decode cJ13_bitCount_95d88 16 = .ok (.iconst 2, 1) := by decide +kernel
theorem dJ13_bitCount_95d88_17 : decode cJ13_bitCount_95d88 17 = .ok (.lushr, 1) := by decide +kernel
theorem dJ13_bitCount_95d88_18 : decode cJ13_bitCount_95d88 18 = .ok (.ldc2_w 316, 3) := by decide +kernel
theorem dJ13_bitCount_95d88_21 : decode cJ13_bitCount_95d88 21 = .ok (.land, 1) := by decide +kernel
theorem dJ13_bitCount_95d88_22 : decode cJ13_bitCount_95d88 22 = .ok (.ladd, 1) := by decide +kernel
theorem dJ13_bitCount_95d88_23 : decode cJ13_bitCount_95d88 23 = .ok (.lstore_n 0, 1) := by decide +kernel
theorem dJ13_bitCount_95d88_24 : decode cJ13_bitCount_95d88 24 = .ok (.lload_n 0, 1) := by decide +kernel
theorem dJ13_bitCount_95d88_25 : decode cJ13_bitCount_95d88 25 = .ok (.lload_n 0, 1) := by decide +kernel
theorem dJ13_bitCount_95d88_26 : decode cJ13_bitCount_95d88 26 = .ok (.iconst 4, 1) := by decide +kernel
theorem dJ13_bitCount_95d88_27 : decode cJ13_bitCount_95d88 27 = .ok (.lushr, 1) := by decide +kernel
theorem dJ13_bitCount_95d88_28 : decode cJ13_bitCount_95d88 28 = .ok (.ladd, 1) := by decide +kernel
theorem dJ13_bitCount_95d88_29 : decode cJ13_bitCount_95d88 29 = .ok (.ldc2_w 318, 3) := by decide +kernel
theorem dJ13_bitCount_95d88_32 : decode cJ13_bitCount_95d88 32 = .ok (.land, 1) := by decide +kernel
theorem dJ13_bitCount_95d88_33 : decode cJ13_bitCount_95d88 33 = .ok (.lstore_n 0, 1) := by decide +kernel
theorem dJ13_bitCount_95d88_34 : decode cJ13_bitCount_95d88 34 = .ok (.lload_n 0, 1) := by decide +kernel
theorem dJ13_bitCount_95d88_35 : decode cJ13_bitCount_95d88 35 = .ok (.lload_n 0, 1) := by decide +kernel
theorem dJ13_bitCount_95d88_36 : decode cJ13_bitCount_95d88 36 = .ok (.bipush 8, 2) := by decide +kernel
theorem dJ13_bitCount_95d88_38 : decode cJ13_bitCount_95d88 38 = .ok (.lushr, 1) := by decide +kernel
theorem dJ13_bitCount_95d88_39 : decode cJ13_bitCount_95d88 39 = .ok (.ladd, 1) := by decide +kernel
theorem dJ13_bitCount_95d88_40 : decode cJ13_bitCount_95d88 40 = .ok (.lstore_n 0, 1) := by decide +kernel
theorem dJ13_bitCount_95d88_41 : decode cJ13_bitCount_95d88 41 = .ok (.lload_n 0, 1) := by decide +kernel
theorem dJ13_bitCount_95d88_42 : decode cJ13_bitCount_95d88 42 = .ok (.lload_n 0, 1) := by decide +kernel
theorem dJ13_bitCount_95d88_43 : decode cJ13_bitCount_95d88 43 = .ok (.bipush 16, 2) := by decide +kernel
theorem dJ13_bitCount_95d88_45 : decode cJ13_bitCount_95d88 45 = .ok (.lushr, 1) := by decide +kernel
theorem dJ13_bitCount_95d88_46 : decode cJ13_bitCount_95d88 46 = .ok (.ladd, 1) := by decide +kernel
theorem dJ13_bitCount_95d88_47 : decode cJ13_bitCount_95d88 47 = .ok (.lstore_n 0, 1) := by decide +kernel
theorem dJ13_bitCount_95d88_48 : decode cJ13_bitCount_95d88 48 = .ok (.lload_n 0, 1) := by decide +kernel
theorem dJ13_bitCount_95d88_49 : decode cJ13_bitCount_95d88 49 = .ok (.lload_n 0, 1) := by decide +kernel
theorem dJ13_bitCount_95d88_50 : decode cJ13_bitCount_95d88 50 = .ok (.bipush 32, 2) := by decide +kernel
theorem dJ13_bitCount_95d88_52 : decode cJ13_bitCount_95d88 52 = .ok (.lushr, 1) := by decide +kernel
theorem dJ13_bitCount_95d88_53 : decode cJ13_bitCount_95d88 53 = .ok (.ladd, 1) := by decide +kernel
theorem dJ13_bitCount_95d88_54 : decode cJ13_bitCount_95d88 54 = .ok (.lstore_n 0, 1) := by decide +kernel
theorem dJ13_bitCount_95d88_55 : decode cJ13_bitCount_95d88 55 = .ok (.lload_n 0, 1) := by decide +kernel
theorem dJ13_bitCount_95d88_56 : decode cJ13_bitCount_95d88 56 = .ok (.l2i, 1) := by decide +kernel
theorem dJ13_bitCount_95d88_57 : decode cJ13_bitCount_95d88 57 = .ok (.bipush 127, 2) := by decide +kernel
theorem dJ13_bitCount_95d88_59 : decode cJ13_bitCount_95d88 59 = .ok (.iand, 1) := by decide +kernel
theorem dJ13_bitCount_95d88_60 : decode cJ13_bitCount_95d88 60 = .ok (.ireturn, 1) := by decide +kernel
theorem dJ9_max_7cf53_0 : decode cJ9_max_7cf53 0 = .ok (.iload_n 0, 1) := by decide +kernel
theorem dJ9_max_7cf53_1 : decode cJ9_max_7cf53 1 = .ok (.iload_n 1, 1) := by decide +kernel
theorem dJ9_max_7cf53_2 : decode cJ9_max_7cf53 2 = .ok (.if_icmp .lt 7, 3) := by decide +kernel
theorem dJ9_max_7cf53_5 : decode cJ9_max_7cf53 5 = .ok (.iload_n 0, 1) := by decide +kernel
theorem dJ9_max_7cf53_6 : decode cJ9_max_7cf53 6 = .ok (.goto 4, 3) := by decide +kernel
theorem dJ9_max_7cf53_9 : decode cJ9_max_7cf53 9 = .ok (.iload_n 1, 1) := by decide +kernel
theorem dJ9_max_7cf53_10 : decode cJ9_max_7cf53 10 = .ok (.ireturn, 1) := by decide +kernel
theorem dJ9_min_7cf53_0 : decode cJ9_min_7cf53 0 = .ok (.iload_n 0, 1) := by decide +kernel
theorem dJ9_min_7cf53_1 : decode cJ9_min_7cf53 1 = .ok (.iload_n 1, 1) := by decide +kernel
theorem dJ9_min_7cf53_2 : decode cJ9_min_7cf53 2 = .ok (.if_icmp .gt 7, 3) := by decide +kernel
theorem dJ9_min_7cf53_5 : decode cJ9_min_7cf53 5 = .ok (.iload_n 0, 1) := by decide +kernel
theorem dJ9_min_7cf53_6 : decode cJ9_min_7cf53 6 = .ok (.goto 4, 3) := by decide +kernel
theorem dJ9_min_7cf53_9 : decode cJ9_min_7cf53 9 = .ok (.iload_n 1, 1) := by decide +kernel
theorem dJ9_min_7cf53_10 : decode cJ9_min_7cf53 10 = .ok (.ireturn, 1) := by decide +kernel
theorem dJ0_length_8abf5_0 : decode cJ0_length_8abf5 0 = .ok (.aload_n 0, 1) := by decide +kernel
theorem dJ0_length_8abf5_1 : decode cJ0_length_8abf5 1 = .ok (.getfield 9, 3) := by decide +kernel
theorem dJ0_length_8abf5_4 : decode cJ0_length_8abf5 4 = .ok (.arraylength, 1) := by decide +kernel
theorem dJ0_length_8abf5_5 : decode cJ0_length_8abf5 5 = .ok (.aload_n 0, 1) := by decide +kernel
theorem dJ0_length_8abf5_6 : decode cJ0_length_8abf5 6 = .ok (.invokevirtual 335, 3) := by decide +kernel
theorem dJ0_length_8abf5_9 : decode cJ0_length_8abf5 9 = .ok (.ishr, 1) := by decide +kernel
theorem dJ0_length_8abf5_10 : decode cJ0_length_8abf5 10 = .ok (.ireturn, 1) := by decide +kernel
theorem dJ0_charAt_5068e_0 : decode cJ0_charAt_5068e 0 = .ok (.aload_n 0, 1) := by decide +kernel
theorem dJ0_charAt_5068e_1 : decode cJ0_charAt_5068e 1 = .ok (.invokevirtual 492, 3) := by decide +kernel
theorem dJ0_charAt_5068e_4 : decode cJ0_charAt_5068e 4 = .ok (.ifCond .eq 12, 3) := by decide +kernel
theorem dJ0_charAt_5068e_7 : decode cJ0_charAt_5068e 7 = .ok (.aload_n 0, 1) := by decide +kernel
theorem dJ0_charAt_5068e_8 : decode cJ0_charAt_5068e 8 = .ok (.getfield 9, 3) := by decide +kernel
theorem dJ0_charAt_5068e_11 : decode cJ0_charAt_5068e 11 = .ok (.iload_n 1, 1) := by decide +kernel
theorem dJ0_charAt_5068e_12 : decode cJ0_charAt_5068e 12 = .ok (.invokestatic 495, 3) := by decide +kernel
theorem dJ0_charAt_5068e_15 : decode cJ0_charAt_5068e 15 = .ok (.ireturn, 1) := by decide +kernel
theorem dJ0_charAt_5068e_16 : decode cJ0_charAt_5068e 16 = .ok (.aload_n 0, 1) := by decide +kernel
theorem dJ0_charAt_5068e_17 : decode cJ0_charAt_5068e 17 = .ok (.getfield 9, 3) := by decide +kernel
theorem dJ0_charAt_5068e_20 : decode cJ0_charAt_5068e 20 = .ok (.iload_n 1, 1) := by decide +kernel
theorem dJ0_charAt_5068e_21 : decode cJ0_charAt_5068e 21 = .ok (.invokestatic 498, 3) := by decide +kernel
theorem dJ0_charAt_5068e_24 : decode cJ0_charAt_5068e 24 = .ok (.ireturn, 1) := by decide +kernel
theorem dJ0_indexOf_0f7a4_0 : decode cJ0_indexOf_0f7a4 0 = .ok (.aload_n 0, 1) := by decide +kernel
theorem dJ0_indexOf_0f7a4_1 : decode cJ0_indexOf_0f7a4 1 = .ok (.iload_n 1, 1) := by decide +kernel
theorem dJ0_indexOf_0f7a4_2 : decode cJ0_indexOf_0f7a4 2 = .ok (.iconst 0, 1) := by decide +kernel
theorem dJ0_indexOf_0f7a4_3 : decode cJ0_indexOf_0f7a4 3 = .ok (.invokevirtual 633, 3) := by decide +kernel
theorem dJ0_indexOf_0f7a4_6 : decode cJ0_indexOf_0f7a4 6 = .ok (.ireturn, 1) := by decide +kernel
theorem dJ0_indexOf_7cf53_0 : decode cJ0_indexOf_7cf53 0 = .ok (.aload_n 0, 1) := by decide +kernel
theorem dJ0_indexOf_7cf53_1 : decode cJ0_indexOf_7cf53 1 = .ok (.invokevirtual 492, 3) := by decide +kernel
theorem dJ0_indexOf_7cf53_4 : decode cJ0_indexOf_7cf53 4 = .ok (.ifCond .eq 19, 3) := by decide +kernel
theorem dJ0_indexOf_7cf53_7 : decode cJ0_indexOf_7cf53 7 = .ok (.aload_n 0, 1) := by decide +kernel
theorem dJ0_indexOf_7cf53_8 : decode cJ0_indexOf_7cf53 8 = .ok (.getfield 9, 3) := by decide +kernel
theorem dJ0_indexOf_7cf53_11 : decode cJ0_indexOf_7cf53 11 = .ok (.iload_n 1, 1) := by decide +kernel
theorem dJ0_indexOf_7cf53_12 : decode cJ0_indexOf_7cf53 12 = .ok (.iload_n 2, 1) := by decide +kernel
theorem dJ0_indexOf_7cf53_13 : decode cJ0_indexOf_7cf53 13 = .ok (.aload_n 0, 1) := by decide +kernel
theorem dJ0_indexOf_7cf53_14 : decode cJ0_indexOf_7cf53 14 = .ok (.invokevirtual 505, 3) := by decide +kernel
theorem dJ0_indexOf_7cf53_17 : decode cJ0_indexOf_7cf53 17 = .ok (.invokestatic 637, 3) := by decide +kernel
theorem dJ0_indexOf_7cf53_20 : decode cJ0_indexOf_7cf53 20 = .ok (.goto 16, 3) := by decide +kernel
theorem dJ0_indexOf_7cf53_23 : decode cJ0_indexOf_7cf53 23 = .ok (.aload_n 0, 1) := by decide +kernel
theorem dJ0_indexOf_7cf53_24 : decode cJ0_indexOf_7cf53 24 = .ok (.getfield 9, 3) := by decide +kernel
theorem dJ0_indexOf_7cf53_27 : decode cJ0_indexOf_7cf53 27 = .ok (.iload_n 1, 1) := by decide +kernel
theorem dJ0_indexOf_7cf53_28 : decode cJ0_indexOf_7cf53 28 = .ok (.iload_n 2, 1) := by decide +kernel
theorem dJ0_indexOf_7cf53_29 : decode cJ0_indexOf_7cf53 29 = .ok (.aload_n 0, 1) := by decide +kernel
theorem dJ0_indexOf_7cf53_30 : decode cJ0_indexOf_7cf53 30 = .ok (.invokevirtual 505, 3) := by decide +kernel
theorem dJ0_indexOf_7cf53_33 : decode cJ0_indexOf_7cf53 33 = .ok (.invokestatic 640, 3) := by decide +kernel
theorem dJ0_indexOf_7cf53_36 : decode cJ0_indexOf_7cf53 36 = .ok (.ireturn, 1) := by decide +kernel
theorem dJ0_coder_7d493_0 : decode cJ0_coder_7d493 0 = .ok (.getstatic 38, 3) := by decide +kernel
theorem dJ0_coder_7d493_3 : decode cJ0_coder_7d493 3 = .ok (.ifCond .eq 10, 3) := by decide +kernel
theorem dJ0_coder_7d493_6 : decode cJ0_coder_7d493 6 = .ok (.aload_n 0, 1) := by decide +kernel
theorem dJ0_coder_7d493_7 : decode cJ0_coder_7d493 7 = .ok (.getfield 15, 3) := by decide +kernel
theorem dJ0_coder_7d493_10 : decode cJ0_coder_7d493 10 = .ok (.goto 4, 3) := by decide +kernel
theorem dJ0_coder_7d493_13 : decode cJ0_coder_7d493 13 = .ok (.iconst 1, 1) := by decide +kernel
theorem dJ0_coder_7d493_14 : decode cJ0_coder_7d493 14 = .ok (.ireturn, 1) := by decide +kernel
theorem dJ0_isLatin1_aae02_0 : decode cJ0_isLatin1_aae02 0 = .ok (.getstatic 38, 3) := by decide +kernel
theorem dJ0_isLatin1_aae02_3 : decode cJ0_isLatin1_aae02 3 = .ok (.ifCond .eq 14, 3) := by decide +kernel
theorem dJ0_isLatin1_aae02_6 : decode cJ0_isLatin1_aae02 6 = .ok (.aload_n 0, 1) := by decide +kernel
theorem dJ0_isLatin1_aae02_7 : decode cJ0_isLatin1_aae02 7 = .ok (.getfield 15, 3) := by decide +kernel
theorem dJ0_isLatin1_aae02_10 : decode cJ0_isLatin1_aae02 10 = .ok (.ifCond .ne 7, 3) := by decide +kernel
theorem dJ0_isLatin1_aae02_13 : decode cJ0_isLatin1_aae02 13 = .ok (.iconst 1, 1) := by decide +kernel
theorem dJ0_isLatin1_aae02_14 : decode cJ0_isLatin1_aae02 14 = .ok (.goto 4, 3) := by decide +kernel
theorem dJ0_isLatin1_aae02_17 : decode cJ0_isLatin1_aae02 17 = .ok (.iconst 0, 1) := by decide +kernel
theorem dJ0_isLatin1_aae02_18 : decode cJ0_isLatin1_aae02 18 = .ok (.ireturn, 1) := by decide +kernel
theorem dJ0_checkIndex_df160_0 : decode cJ0_checkIndex_df160 0 = .ok (.iload_n 0, 1) := by decide +kernel
theorem dJ0_checkIndex_df160_1 : decode cJ0_checkIndex_df160 1 = .ok (.iload_n 1, 1) := by decide +kernel
theorem dJ0_checkIndex_df160_2 : decode cJ0_checkIndex_df160 2 = .ok (.getstatic 1053, 3) := by decide +kernel
theorem dJ0_checkIndex_df160_5 : decode cJ0_checkIndex_df160 5 = .ok (.invokestatic 1059, 3) := by decide +kernel
theorem dJ0_checkIndex_df160_8 : decode cJ0_checkIndex_df160 8 = .ok (.pop, 1) := by decide +kernel
theorem dJ0_checkIndex_df160_9 : decode cJ0_checkIndex_df160 9 = .ok (.return_, 1) := by decide +kernel
theorem dJ0_checkBoundsBeginEnd_23922_0 : decode cJ0_checkBoundsBeginEnd_23922 0 = .ok (.iload_n 0, 1) := by decide +kernel
theorem dJ0_checkBoundsBeginEnd_23922_1 : decode cJ0_checkBoundsBeginEnd_23922 1 = .ok (.iload_n 1, 1) := by decide +kernel
theorem dJ0_checkBoundsBeginEnd_23922_2 : decode cJ0_checkBoundsBeginEnd_23922 2 = .ok (.iload_n 2, 1) := by decide +kernel
theorem dJ0_checkBoundsBeginEnd_23922_3 : decode cJ0_checkBoundsBeginEnd_23922 3 = .ok (.getstatic 1053, 3) := by decide +kernel
theorem dJ0_checkBoundsBeginEnd_23922_6 : decode cJ0_checkBoundsBeginEnd_23922 6 = .ok (.invokestatic 1062, 3) := by decide +kernel
theorem dJ0_checkBoundsBeginEnd_23922_9 : decode cJ0_checkBoundsBeginEnd_23922 9 = .ok (.pop, 1) := by decide +kernel
theorem dJ0_checkBoundsBeginEnd_23922_10 : decode cJ0_checkBoundsBeginEnd_23922 10 = .ok (.return_, 1) := by decide +kernel
theorem dJ1_charAt_3b067_0 : decode cJ1_charAt_3b067 0 = .ok (.iload_n 1, 1) := by decide +kernel
theorem dJ1_charAt_3b067_1 : decode cJ1_charAt_3b067 1 = .ok (.aload_n 0, 1) := by decide +kernel
theorem dJ1_charAt_3b067_2 : decode cJ1_charAt_3b067 2 = .ok (.arraylength, 1) := by decide +kernel
theorem dJ1_charAt_3b067_3 : decode cJ1_charAt_3b067 3 = .ok (.invokestatic 9, 3) := by decide +kernel
theorem dJ1_charAt_3b067_6 : decode cJ1_charAt_3b067 6 = .ok (.aload_n 0, 1) := by decide +kernel
theorem dJ1_charAt_3b067_7 : decode cJ1_charAt_3b067 7 = .ok (.iload_n 1, 1) := by decide +kernel
theorem dJ1_charAt_3b067_8 : decode cJ1_charAt_3b067 8 = .ok (.baload, 1) := by decide +kernel
theorem dJ1_charAt_3b067_9 : decode cJ1_charAt_3b067 9 = .ok (.sipush 255, 3) := by decide +kernel
theorem dJ1_charAt_3b067_12 : decode cJ1_charAt_3b067 12 = .ok (.iand, 1) := by decide +kernel
theorem dJ1_charAt_3b067_13 : decode cJ1_charAt_3b067 13 = .ok (.i2c, 1) := by decide +kernel
theorem dJ1_charAt_3b067_14 : decode cJ1_charAt_3b067 14 = .ok (.ireturn, 1) := by decide +kernel
theorem dJ1_canEncode_9a6ad_0 : decode cJ1_canEncode_9a6ad 0 = .ok (.iload_n 0, 1) := by decide +kernel
theorem dJ1_canEncode_9a6ad_1 : decode cJ1_canEncode_9a6ad 1 = .ok (.ifCond .lt 14, 3) := by decide +kernel
theorem dJ1_canEncode_9a6ad_4 : decode cJ1_canEncode_9a6ad 4 = .ok (.iload_n 0, 1) := by decide +kernel
theorem dJ1_canEncode_9a6ad_5 : decode cJ1_canEncode_9a6ad 5 = .ok (.sipush 255, 3) := by decide +kernel
theorem dJ1_canEncode_9a6ad_8 : decode cJ1_canEncode_9a6ad 8 = .ok (.if_icmp .gt 7, 3) := by decide +kernel
theorem dJ1_canEncode_9a6ad_11 : decode cJ1_canEncode_9a6ad 11 = .ok (.iconst 1, 1) := by decide +kernel
theorem dJ1_canEncode_9a6ad_12 : decode cJ1_canEncode_9a6ad 12 = .ok (.goto 4, 3) := by decide +kernel
theorem dJ1_canEncode_9a6ad_15 : decode cJ1_canEncode_9a6ad 15 = .ok (.iconst 0, 1) := by decide +kernel
theorem dJ1_canEncode_9a6ad_16 : decode cJ1_canEncode_9a6ad 16 = .ok (.ireturn, 1) := by decide +kernel
theorem dJ1_indexOf_4cfef_0 : decode cJ1_indexOf_4cfef 0 = .ok (.iload_n 1, 1) := by decide +kernel
theorem dJ1_indexOf_4cfef_1 : decode cJ1_indexOf_4cfef 1 = .ok (.invokestatic 88, 3) := by decide +kernel
theorem dJ1_indexOf_4cfef_4 : decode cJ1_indexOf_4cfef 4 = .ok (.ifCond .ne 5, 3) := by decide +kernel
theorem dJ1_indexOf_4cfef_7 : decode cJ1_indexOf_4cfef 7 = .ok (.iconst (-1), 1) := by decide +kernel
theorem dJ1_indexOf_4cfef_8 : decode cJ1_indexOf_4cfef 8 = .ok (.ireturn, 1) := by decide +kernel
theorem dJ1_indexOf_4cfef_9 : decode cJ1_indexOf_4cfef 9 = .ok (.iload_n 2, 1) := by decide +kernel
theorem dJ1_indexOf_4cfef_10 : decode cJ1_indexOf_4cfef 10 = .ok (.iconst 0, 1) := by decide +kernel
theorem dJ1_indexOf_4cfef_11 : decode cJ1_indexOf_4cfef 11 = .ok (.invokestatic 92, 3) := by decide +kernel
theorem dJ1_indexOf_4cfef_14 : decode cJ1_indexOf_4cfef 14 = .ok (.istore_n 2, 1) := by decide +kernel
theorem dJ1_indexOf_4cfef_15 : decode cJ1_indexOf_4cfef 15 = .ok (.iload_n 3, 1) := by decide +kernel
theorem dJ1_indexOf_4cfef_16 : decode cJ1_indexOf_4cfef 16 = .ok (.aload_n 0, 1) := by decide +kernel
theorem dJ1_indexOf_4cfef_17 : decode cJ1_indexOf_4cfef 17 = .ok (.arraylength, 1) := by decide +kernel
theorem dJ1_indexOf_4cfef_18 : decode cJ1_indexOf_4cfef 18 = .ok (.invokestatic 38, 3) := by decide +kernel
theorem dJ1_indexOf_4cfef_21 : decode cJ1_indexOf_4cfef 21 = .ok (.istore_n 3, 1) := by decide +kernel
theorem dJ1_indexOf_4cfef_22 : decode cJ1_indexOf_4cfef 22 = .ok (.iload_n 2, 1) := by decide +kernel
theorem dJ1_indexOf_4cfef_23 : decode cJ1_indexOf_4cfef 23 = .ok (.iload_n 3, 1) := by decide +kernel
theorem dJ1_indexOf_4cfef_24 : decode cJ1_indexOf_4cfef 24 = .ok (.if_icmp .lt 5, 3) := by decide +kernel
theorem dJ1_indexOf_4cfef_27 : decode cJ1_indexOf_4cfef 27 = .ok (.iconst (-1), 1) := by decide +kernel
theorem dJ1_indexOf_4cfef_28 : decode cJ1_indexOf_4cfef 28 = .ok (.ireturn, 1) := by decide +kernel
theorem dJ1_indexOf_4cfef_29 : decode cJ1_indexOf_4cfef 29 = .ok (.aload_n 0, 1) := by decide +kernel
theorem dJ1_indexOf_4cfef_30 : decode cJ1_indexOf_4cfef 30 = .ok (.iload_n 1, 1) := by decide +kernel
theorem dJ1_indexOf_4cfef_31 : decode cJ1_indexOf_4cfef 31 = .ok (.iload_n 2, 1) := by decide +kernel
theorem dJ1_indexOf_4cfef_32 : decode cJ1_indexOf_4cfef 32 = .ok (.iload_n 3, 1) := by decide +kernel
theorem dJ1_indexOf_4cfef_33 : decode cJ1_indexOf_4cfef 33 = .ok (.invokestatic 95, 3) := by decide +kernel
theorem dJ1_indexOf_4cfef_36 : decode cJ1_indexOf_4cfef 36 = .ok (.ireturn, 1) := by decide +kernel
theorem dJ1_indexOfChar_4cfef_0 : decode cJ1_indexOfChar_4cfef 0 = .ok (.iload_n 1, 1) := by decide +kernel
theorem dJ1_indexOfChar_4cfef_1 : decode cJ1_indexOfChar_4cfef 1 = .ok (.i2b, 1) := by decide +kernel
theorem dJ1_indexOfChar_4cfef_2 : decode cJ1_indexOfChar_4cfef 2 = .ok (.istore 4, 2) := by decide +kernel
theorem dJ1_indexOfChar_4cfef_4 : decode cJ1_indexOfChar_4cfef 4 = .ok (.iload_n 2, 1) := by decide +kernel
theorem dJ1_indexOfChar_4cfef_5 : decode cJ1_indexOfChar_4cfef 5 = .ok (.istore 5, 2) := by decide +kernel
theorem dJ1_indexOfChar_4cfef_7 : decode cJ1_indexOfChar_4cfef 7 = .ok (.iload 5, 2) := by decide +kernel
theorem dJ1_indexOfChar_4cfef_9 : decode cJ1_indexOfChar_4cfef 9 = .ok (.iload_n 3, 1) := by decide +kernel
theorem dJ1_indexOfChar_4cfef_10 : decode cJ1_indexOfChar_4cfef 10 = .ok (.if_icmp .ge 21, 3) := by decide +kernel
theorem dJ1_indexOfChar_4cfef_13 : decode cJ1_indexOfChar_4cfef 13 = .ok (.aload_n 0, 1) := by decide +kernel
theorem dJ1_indexOfChar_4cfef_14 : decode cJ1_indexOfChar_4cfef 14 = .ok (.iload 5, 2) := by decide +kernel
theorem dJ1_indexOfChar_4cfef_16 : decode cJ1_indexOfChar_4cfef 16 = .ok (.baload, 1) := by decide +kernel
theorem dJ1_indexOfChar_4cfef_17 : decode cJ1_indexOfChar_4cfef 17 = .ok (.iload 4, 2) := by decide +kernel
theorem dJ1_indexOfChar_4cfef_19 : decode cJ1_indexOfChar_4cfef 19 = .ok (.if_icmp .ne 6, 3) := by decide +kernel
theorem dJ1_indexOfChar_4cfef_22 : decode cJ1_indexOfChar_4cfef 22 = .ok (.iload 5, 2) := by decide +kernel
theorem dJ1_indexOfChar_4cfef_24 : decode cJ1_indexOfChar_4cfef 24 = .ok (.ireturn, 1) := by decide +kernel
theorem dJ1_indexOfChar_4cfef_25 : decode cJ1_indexOfChar_4cfef 25 = .ok (.iinc 5 1, 3) := by decide +kernel
theorem dJ1_indexOfChar_4cfef_28 : decode cJ1_indexOfChar_4cfef 28 = .ok (.goto (-21), 3) := by decide +kernel
theorem dJ1_indexOfChar_4cfef_31 : decode cJ1_indexOfChar_4cfef 31 = .ok (.iconst (-1), 1) := by decide +kernel
theorem dJ1_indexOfChar_4cfef_32 : decode cJ1_indexOfChar_4cfef 32 = .ok (.ireturn, 1) := by decide +kernel
theorem dJ2_getChar_3b067_0 : decode cJ2_getChar_3b067 0 = .ok (.getstatic 44, 3) := by decide +kernel
theorem dJ2_getChar_3b067_3 : decode cJ2_getChar_3b067 3 = .ok (.ifCond .ne 25, 3) := by decide +kernel
theorem dJ2_getChar_3b067_6 : decode cJ2_getChar_3b067 6 = .ok (.iload_n 1, 1) := by decide +kernel
theorem dJ2_getChar_3b067_7 : decode cJ2_getChar_3b067 7 = .ok (.ifCond .lt 11, 3) := by decide +kernel
theorem dJ2_getChar_3b067_10 : decode cJ2_getChar_3b067 10 = .ok (.iload_n 1, 1) := by decide +kernel
theorem dJ2_getChar_3b067_11 : decode cJ2_getChar_3b067 11 = .ok (.aload_n 0, 1) := by decide +kernel
theorem dJ2_getChar_3b067_12 : decode cJ2_getChar_3b067 12 = .ok (.invokestatic 48, 3) := by decide +kernel
theorem dJ2_getChar_3b067_15 : decode cJ2_getChar_3b067 15 = .ok (.if_icmp .lt 13, 3) := by decide +kernel
theorem dJ2_getChar_3b067_18 : decode cJ2_getChar_3b067 18 = .ok (.new 52, 3) := by decide +kernel
theorem dJ2_getChar_3b067_21 : decode cJ2_getChar_3b067 21 = .ok (.dup, 1) := by decide +kernel
theorem dJ2_getChar_3b067_22 : decode cJ2_getChar_3b067 22 = .ok (.ldc 54, 2) := by decide +kernel
theorem dJ2_getChar_3b067_24 : decode cJ2_getChar_3b067 24 = .ok (.invokespecial 56, 3) := by decide +kernel
theorem dJ2_getChar_3b067_27 : decode cJ2_getChar_3b067 27 = .ok (.athrow, 1) := by decide +kernel
theorem dJ2_getChar_3b067_28 : decode cJ2_getChar_3b067 28 = .ok (.iload_n 1, 1) := by decide +kernel
theorem dJ2_getChar_3b067_29 : decode cJ2_getChar_3b067 29 = .ok (.iconst 1, 1) := by decide +kernel
theorem dJ2_getChar_3b067_30 : decode cJ2_getChar_3b067 30 = .ok (.ishl, 1) := by decide +kernel
theorem dJ2_getChar_3b067_31 : decode cJ2_getChar_3b067 31 = .ok (.istore_n 1, 1) := by decide +kernel
theorem dJ2_getChar_3b067_32 : decode cJ2_getChar_3b067 32 = .ok (.aload_n 0, 1) := by decide +kernel
theorem dJ2_getChar_3b067_33 : decode cJ2_getChar_3b067 33 = .ok (.iload_n 1, 1) := by decide +kernel
theorem dJ2_getChar_3b067_34 : decode cJ2_getChar_3b067 34 = .ok (.iinc 1 1, 3) := by decide +kernel
theorem dJ2_getChar_3b067_37 : decode cJ2_getChar_3b067 37 = .ok (.baload, 1) := by decide +kernel
theorem dJ2_getChar_3b067_38 : decode cJ2_getChar_3b067 38 = .ok (.sipush 255, 3) := by decide +kernel
theorem dJ2_getChar_3b067_41 : decode cJ2_getChar_3b067 41 = .ok (.iand, 1) := by decide +kernel
theorem dJ2_getChar_3b067_42 : decode cJ2_getChar_3b067 42 = .ok (.getstatic 59, 3) := by decide +kernel
theorem dJ2_getChar_3b067_45 : decode cJ2_getChar_3b067 45 = .ok (.ishl, 1) := by decide +kernel
theorem dJ2_getChar_3b067_46 : decode cJ2_getChar_3b067 46 = .ok (.aload_n 0, 1) := by decide +kernel
theorem dJ2_getChar_3b067_47 : decode cJ2_getChar_3b067 47 = .ok (.iload_n 1, 1) := by decide +kernel
theorem dJ2_getChar_3b067_48 : decode cJ2_getChar_3b067 48 = .ok (.baload, 1) := by decide +kernel
theorem dJ2_getChar_3b067_49 : decode cJ2_getChar_3b067 49 = .ok (.sipush 255, 3) := by decide +kernel
theorem dJ2_getChar_3b067_52 : decode cJ2_getChar_3b067 52 = .ok (.iand, 1) := by decide +kernel
theorem dJ2_getChar_3b067_53 : decode cJ2_getChar_3b067 53 = .ok (.getstatic 63, 3) := by decide +kernel
theorem dJ2_getChar_3b067_56 : decode cJ2_getChar_3b067 56 = .ok (.ishl, 1) := by decide +kernel
theorem dJ2_getChar_3b067_57 : decode cJ2_getChar_3b067 57 = .ok (.ior, 1) := by decide +kernel
theorem dJ2_getChar_3b067_58 : decode cJ2_getChar_3b067 58 = .ok (.i2c, 1) := by decide +kernel
theorem dJ2_getChar_3b067_59 : decode cJ2_getChar_3b067 59 = .ok (.ireturn, 1) := by decide +kernel
theorem dJ2_length_9d52b_0 : decode cJ2_length_9d52b 0 = .ok (.aload_n 0, 1) := by decide +kernel
theorem dJ2_length_9d52b_1 : decode cJ2_length_9d52b 1 = .ok (.arraylength, 1) := by decide +kernel
theorem dJ2_length_9d52b_2 : decode cJ2_length_9d52b 2 = .ok (.iconst 1, 1) := by decide +kernel
theorem dJ2_length_9d52b_3 : decode cJ2_length_9d52b 3 = .ok (.ishr, 1) := by decide +kernel
theorem dJ2_length_9d52b_4 : decode cJ2_length_9d52b 4 = .ok (.ireturn, 1) := by decide +kernel
theorem dJ2_indexOf_4cfef_0 : decode cJ2_indexOf_4cfef 0 = .ok (.iload_n 2, 1) := by decide +kernel
theorem dJ2_indexOf_4cfef_1 : decode cJ2_indexOf_4cfef 1 = .ok (.iconst 0, 1) := by decide +kernel
theorem dJ2_indexOf_4cfef_2 : decode cJ2_indexOf_4cfef 2 = .ok (.invokestatic 224, 3) := by decide +kernel
theorem dJ2_indexOf_4cfef_5 : decode cJ2_indexOf_4cfef 5 = .ok (.istore_n 2, 1) := by decide +kernel
theorem dJ2_indexOf_4cfef_6 : decode cJ2_indexOf_4cfef 6 = .ok (.iload_n 3, 1) := by decide +kernel
theorem dJ2_indexOf_4cfef_7 : decode cJ2_indexOf_4cfef 7 = .ok (.aload_n 0, 1) := by decide +kernel
theorem dJ2_indexOf_4cfef_8 : decode cJ2_indexOf_4cfef 8 = .ok (.arraylength, 1) := by decide +kernel
theorem dJ2_indexOf_4cfef_9 : decode cJ2_indexOf_4cfef 9 = .ok (.iconst 1, 1) := by decide +kernel
theorem dJ2_indexOf_4cfef_10 : decode cJ2_indexOf_4cfef 10 = .ok (.ishr, 1) := by decide +kernel
theorem dJ2_indexOf_4cfef_11 : decode cJ2_indexOf_4cfef 11 = .ok (.invokestatic 183, 3) := by decide +kernel
theorem dJ2_indexOf_4cfef_14 : decode cJ2_indexOf_4cfef 14 = .ok (.istore_n 3, 1) := by decide +kernel
theorem dJ2_indexOf_4cfef_15 : decode cJ2_indexOf_4cfef 15 = .ok (.iload_n 2, 1) := by decide +kernel
theorem dJ2_indexOf_4cfef_16 : decode cJ2_indexOf_4cfef 16 = .ok (.iload_n 3, 1) := by decide +kernel
theorem dJ2_indexOf_4cfef_17 : decode cJ2_indexOf_4cfef 17 = .ok (.if_icmp .lt 5, 3) := by decide +kernel
theorem dJ2_indexOf_4cfef_20 : decode cJ2_indexOf_4cfef 20 = .ok (.iconst (-1), 1) := by decide +kernel
theorem dJ2_indexOf_4cfef_21 : decode cJ2_indexOf_4cfef 21 = .ok (.ireturn, 1) := by decide +kernel
theorem dJ2_indexOf_4cfef_22 : decode cJ2_indexOf_4cfef 22 = .ok (.iload_n 1, 1) := by decide +kernel
theorem dJ2_indexOf_4cfef_23 : decode cJ2_indexOf_4cfef 23 = .ok (.ldc 227, 2) := by decide +kernel
theorem dJ2_indexOf_4cfef_25 : decode cJ2_indexOf_4cfef 25 = .ok (.if_icmp .ge 11, 3) := by decide +kernel
theorem dJ2_indexOf_4cfef_28 : decode cJ2_indexOf_4cfef 28 = .ok (.aload_n 0, 1) := by decide +kernel
theorem dJ2_indexOf_4cfef_29 : decode cJ2_indexOf_4cfef 29 = .ok (.iload_n 1, 1) := by decide +kernel
theorem dJ2_indexOf_4cfef_30 : decode cJ2_indexOf_4cfef 30 = .ok (.iload_n 2, 1) := by decide +kernel
theorem dJ2_indexOf_4cfef_31 : decode cJ2_indexOf_4cfef 31 = .ok (.iload_n 3, 1) := by decide +kernel
theorem dJ2_indexOf_4cfef_32 : decode cJ2_indexOf_4cfef 32 = .ok (.invokestatic 228, 3) := by decide +kernel
theorem dJ2_indexOf_4cfef_35 : decode cJ2_indexOf_4cfef 35 = .ok (.ireturn, 1) := by decide +kernel
theorem dJ2_indexOf_4cfef_36 : decode cJ2_indexOf_4cfef 36 = .ok (.aload_n 0, 1) := by decide +kernel
theorem dJ2_indexOf_4cfef_37 : decode cJ2_indexOf_4cfef 37 = .ok (.iload_n 1, 1) := by decide +kernel
theorem dJ2_indexOf_4cfef_38 : decode cJ2_indexOf_4cfef 38 = .ok (.iload_n 2, 1) := by decide +kernel
theorem dJ2_indexOf_4cfef_39 : decode cJ2_indexOf_4cfef 39 = .ok (.iload_n 3, 1) := by decide +kernel
theorem dJ2_indexOf_4cfef_40 : decode cJ2_indexOf_4cfef 40 = .ok (.invokestatic 232, 3) := by decide +kernel
theorem dJ2_indexOf_4cfef_43 : decode cJ2_indexOf_4cfef 43 = .ok (.ireturn, 1) := by decide +kernel
theorem dJ2_indexOfChar_4cfef_0 : decode cJ2_indexOfChar_4cfef 0 = .ok (.iload_n 2, 1) := by decide +kernel
theorem dJ2_indexOfChar_4cfef_1 : decode cJ2_indexOfChar_4cfef 1 = .ok (.iload_n 3, 1) := by decide +kernel
theorem dJ2_indexOfChar_4cfef_2 : decode cJ2_indexOfChar_4cfef 2 = .ok (.aload_n 0, 1) := by decide +kernel
theorem dJ2_indexOfChar_4cfef_3 : decode cJ2_indexOfChar_4cfef 3 = .ok (.invokestatic 96, 3) := by decide +kernel
theorem dJ2_indexOfChar_4cfef_6 : decode cJ2_indexOfChar_4cfef 6 = .ok (.aload_n 0, 1) := by decide +kernel
theorem dJ2_indexOfChar_4cfef_7 : decode cJ2_indexOfChar_4cfef 7 = .ok (.iload_n 1, 1) := by decide +kernel
theorem dJ2_indexOfChar_4cfef_8 : decode cJ2_indexOfChar_4cfef 8 = .ok (.iload_n 2, 1) := by decide +kernel
theorem dJ2_indexOfChar_4cfef_9 : decode cJ2_indexOfChar_4cfef 9 = .ok (.iload_n 3, 1) := by decide +kernel
theorem dJ2_indexOfChar_4cfef_10 : decode cJ2_indexOfChar_4cfef 10 = .ok (.invokestatic 244, 3) := by decide +kernel
theorem dJ2_indexOfChar_4cfef_13 : decode cJ2_indexOfChar_4cfef 13 = .ok (.ireturn, 1) := by decide +kernel
theorem dJ2_indexOfCharUnsafe_4cfef_0 : decode cJ2_indexOfCharUnsafe_4cfef 0 = .ok (.iload_n 2, 1) := by decide +kernel
theorem dJ2_indexOfCharUnsafe_4cfef_1 : decode cJ2_indexOfCharUnsafe_4cfef 1 = .ok (.istore 4, 2) := by decide +kernel
theorem dJ2_indexOfCharUnsafe_4cfef_3 : decode cJ2_indexOfCharUnsafe_4cfef 3 = .ok (.iload 4, 2) := by decide +kernel
theorem dJ2_indexOfCharUnsafe_4cfef_5 : decode cJ2_indexOfCharUnsafe_4cfef 5 = .ok (.iload_n 3, 1) := by decide +kernel
theorem dJ2_indexOfCharUnsafe_4cfef_6 : decode cJ2_indexOfCharUnsafe_4cfef 6 = .ok (.if_icmp .ge 22, 3) := by decide +kernel
theorem dJ2_indexOfCharUnsafe_4cfef_9 : decode cJ2_indexOfCharUnsafe_4cfef 9 = .ok (.aload_n 0, 1) := by decide +kernel
theorem dJ2_indexOfCharUnsafe_4cfef_10 : decode cJ2_indexOfCharUnsafe_4cfef 10 = .ok (.iload 4, 2) := by decide +kernel
theorem dJ2_indexOfCharUnsafe_4cfef_12 : decode cJ2_indexOfCharUnsafe_4cfef 12 = .ok (.invokestatic 71, 3) := by decide +kernel
theorem dJ2_indexOfCharUnsafe_4cfef_15 : decode cJ2_indexOfCharUnsafe_4cfef 15 = .ok (.iload_n 1, 1) := by decide +kernel
theorem dJ2_indexOfCharUnsafe_4cfef_16 : decode cJ2_indexOfCharUnsafe_4cfef 16 = .ok (.if_icmp .ne 6, 3) := by decide +kernel
theorem dJ2_indexOfCharUnsafe_4cfef_19 : decode cJ2_indexOfCharUnsafe_4cfef 19 = .ok (.iload 4, 2) := by decide +kernel
theorem dJ2_indexOfCharUnsafe_4cfef_21 : decode cJ2_indexOfCharUnsafe_4cfef 21 = .ok (.ireturn, 1) := by decide +kernel
theorem dJ2_indexOfCharUnsafe_4cfef_22 : decode cJ2_indexOfCharUnsafe_4cfef 22 = .ok (.iinc 4 1, 3) := by decide +kernel
theorem dJ2_indexOfCharUnsafe_4cfef_25 : decode cJ2_indexOfCharUnsafe_4cfef 25 = .ok (.goto (-22), 3) := by decide +kernel
theorem dJ2_indexOfCharUnsafe_4cfef_28 : decode cJ2_indexOfCharUnsafe_4cfef 28 = .ok (.iconst (-1), 1) := by decide +kernel
theorem dJ2_indexOfCharUnsafe_4cfef_29 : decode cJ2_indexOfCharUnsafe_4cfef 29 = .ok (.ireturn, 1) := by decide +kernel
theorem dJ2_indexOfSupplementary_4cfef_0 : decode cJ2_indexOfSupplementary_4cfef 0 = .ok (.iload_n 1, 1) := by decide +kernel
theorem dJ2_indexOfSupplementary_4cfef_1 : decode cJ2_indexOfSupplementary_4cfef 1 = .ok (.invokestatic 164, 3) := by decide +kernel
theorem dJ2_indexOfSupplementary_4cfef_4 : decode cJ2_indexOfSupplementary_4cfef 4 = .ok (.ifCond .eq 65, 3) := by decide +kernel
theorem dJ2_indexOfSupplementary_4cfef_7 : decode cJ2_indexOfSupplementary_4cfef 7 = .ok (.iload_n 1, 1) := by decide +kernel
theorem dJ2_indexOfSupplementary_4cfef_8 : decode cJ2_indexOfSupplementary_4cfef 8 = .ok (.invokestatic 157, 3) := by decide +kernel
theorem dJ2_indexOfSupplementary_4cfef_11 : decode cJ2_indexOfSupplementary_4cfef 11 = .ok (.istore 4, 2) := by decide +kernel
theorem dJ2_indexOfSupplementary_4cfef_13 : decode cJ2_indexOfSupplementary_4cfef 13 = .ok (.iload_n 1, 1) := by decide +kernel
theorem dJ2_indexOfSupplementary_4cfef_14 : decode cJ2_indexOfSupplementary_4cfef 14 = .ok (.invokestatic 161, 3) := by decide +kernel
theorem dJ2_indexOfSupplementary_4cfef_17 : decode cJ2_indexOfSupplementary_4cfef 17 = .ok (.istore 5, 2) := by decide +kernel
theorem dJ2_indexOfSupplementary_4cfef_19 : decode cJ2_indexOfSupplementary_4cfef 19 = .ok (.iload_n 2, 1) := by decide +kernel
theorem dJ2_indexOfSupplementary_4cfef_20 : decode cJ2_indexOfSupplementary_4cfef 20 = .ok (.iload_n 3, 1) := by decide +kernel
theorem dJ2_indexOfSupplementary_4cfef_21 : decode cJ2_indexOfSupplementary_4cfef 21 = .ok (.aload_n 0, 1) := by decide +kernel
theorem dJ2_indexOfSupplementary_4cfef_22 : decode cJ2_indexOfSupplementary_4cfef 22 = .ok (.invokestatic 96, 3) := by decide +kernel
theorem dJ2_indexOfSupplementary_4cfef_25 : decode cJ2_indexOfSupplementary_4cfef 25 = .ok (.iload_n 2, 1) := by decide +kernel
theorem dJ2_indexOfSupplementary_4cfef_26 : decode cJ2_indexOfSupplementary_4cfef 26 = .ok (.istore 6, 2) := by decide +kernel
theorem dJ2_indexOfSupplementary_4cfef_28 : decode cJ2_indexOfSupplementary_4cfef 28 = .ok (.iload 6, 2) := by decide +kernel
theorem dJ2_indexOfSupplementary_4cfef_30 : decode cJ2_indexOfSupplementary_4cfef 30 = .ok (.iload_n 3, 1) := by decide +kernel
theorem dJ2_indexOfSupplementary_4cfef_31 : decode cJ2_indexOfSupplementary_4cfef 31 = .ok (.iconst 1, 1) := by decide +kernel
theorem dJ2_indexOfSupplementary_4cfef_32 : decode cJ2_indexOfSupplementary_4cfef 32 = .ok (.isub, 1) := by decide +kernel
theorem dJ2_indexOfSupplementary_4cfef_33 : decode cJ2_indexOfSupplementary_4cfef 33 = .ok (.if_icmp .ge 36, 3) := by decide +kernel
theorem dJ2_indexOfSupplementary_4cfef_36 : decode cJ2_indexOfSupplementary_4cfef 36 = .ok (.aload_n 0, 1) := by decide +kernel
theorem dJ2_indexOfSupplementary_4cfef_37 : decode cJ2_indexOfSupplementary_4cfef 37 = .ok (.iload 6, 2) := by decide +kernel
theorem dJ2_indexOfSupplementary_4cfef_39 : decode cJ2_indexOfSupplementary_4cfef 39 = .ok (.invokestatic 71, 3) := by decide +kernel
theorem dJ2_indexOfSupplementary_4cfef_42 : decode cJ2_indexOfSupplementary_4cfef 42 = .ok (.iload 4, 2) := by decide +kernel
theorem dJ2_indexOfSupplementary_4cfef_44 : decode cJ2_indexOfSupplementary_4cfef 44 = .ok (.if_icmp .ne 19, 3) := by decide +kernel
theorem dJ2_indexOfSupplementary_4cfef_47 : decode cJ2_indexOfSupplementary_4cfef 47 = .ok (.aload_n 0, 1) := by decide +kernel
theorem dJ2_indexOfSupplementary_4cfef_48 : decode cJ2_indexOfSupplementary_4cfef 48 = .ok (.iload 6, 2) := by decide +kernel
theorem dJ2_indexOfSupplementary_4cfef_50 : decode cJ2_indexOfSupplementary_4cfef 50 = .ok (.iconst 1, 1) := by decide +kernel
theorem dJ2_indexOfSupplementary_4cfef_51 : decode cJ2_indexOfSupplementary_4cfef 51 = .ok (.iadd, 1) := by decide +kernel
theorem dJ2_indexOfSupplementary_4cfef_52 : decode cJ2_indexOfSupplementary_4cfef 52 = .ok (.invokestatic 71, 3) := by decide +kernel
theorem dJ2_indexOfSupplementary_4cfef_55 : decode cJ2_indexOfSupplementary_4cfef 55 = .ok (.iload 5, 2) := by decide +kernel
theorem dJ2_indexOfSupplementary_4cfef_57 : decode cJ2_indexOfSupplementary_4cfef 57 = .ok (.if_icmp .ne 6, 3) := by decide +kernel
theorem dJ2_indexOfSupplementary_4cfef_60 : decode cJ2_indexOfSupplementary_4cfef 60 = .ok (.iload 6, 2) := by decide +kernel
theorem dJ2_indexOfSupplementary_4cfef_62 : decode cJ2_indexOfSupplementary_4cfef 62 = .ok (.ireturn, 1) := by decide +kernel
theorem dJ2_indexOfSupplementary_4cfef_63 : decode cJ2_indexOfSupplementary_4cfef 63 = .ok (.iinc 6 1, 3) := by decide +kernel
theorem dJ2_indexOfSupplementary_4cfef_66 : decode cJ2_indexOfSupplementary_4cfef 66 = .ok (.goto (-38), 3) := by decide +kernel
theorem dJ2_indexOfSupplementary_4cfef_69 : decode cJ2_indexOfSupplementary_4cfef 69 = .ok (.iconst (-1), 1) := by decide +kernel
theorem dJ2_indexOfSupplementary_4cfef_70 : decode cJ2_indexOfSupplementary_4cfef 70 = .ok (.ireturn, 1) := by decide +kernel
theorem dJ2_charAt_3b067_0 : decode cJ2_charAt_3b067 0 = .ok (.iload_n 1, 1) := by decide +kernel
theorem dJ2_charAt_3b067_1 : decode cJ2_charAt_3b067 1 = .ok (.aload_n 0, 1) := by decide +kernel
theorem dJ2_charAt_3b067_2 : decode cJ2_charAt_3b067 2 = .ok (.invokestatic 67, 3) := by decide +kernel
theorem dJ2_charAt_3b067_5 : decode cJ2_charAt_3b067 5 = .ok (.aload_n 0, 1) := by decide +kernel
theorem dJ2_charAt_3b067_6 : decode cJ2_charAt_3b067 6 = .ok (.iload_n 1, 1) := by decide +kernel
theorem dJ2_charAt_3b067_7 : decode cJ2_charAt_3b067 7 = .ok (.invokestatic 71, 3) := by decide +kernel
theorem dJ2_charAt_3b067_10 : decode cJ2_charAt_3b067 10 = .ok (.ireturn, 1) := by decide +kernel
theorem dJ2_checkIndex_2214a_0 : decode cJ2_checkIndex_2214a 0 = .ok (.iload_n 0, 1) := by decide +kernel
theorem dJ2_checkIndex_2214a_1 : decode cJ2_checkIndex_2214a 1 = .ok (.aload_n 1, 1) := by decide +kernel
theorem dJ2_checkIndex_2214a_2 : decode cJ2_checkIndex_2214a 2 = .ok (.invokestatic 48, 3) := by decide +kernel
theorem dJ2_checkIndex_2214a_5 : decode cJ2_checkIndex_2214a 5 = .ok (.invokestatic 414, 3) := by decide +kernel
theorem dJ2_checkIndex_2214a_8 : decode cJ2_checkIndex_2214a 8 = .ok (.return_, 1) := by decide +kernel
theorem dJ2_checkBoundsBeginEnd_d044e_0 : decode cJ2_checkBoundsBeginEnd_d044e 0 = .ok (.iload_n 0, 1) := by decide +kernel
theorem dJ2_checkBoundsBeginEnd_d044e_1 : decode cJ2_checkBoundsBeginEnd_d044e 1 = .ok (.iload_n 1, 1) := by decide +kernel
theorem dJ2_checkBoundsBeginEnd_d044e_2 : decode cJ2_checkBoundsBeginEnd_d044e 2 = .ok (.aload_n 2, 1) := by decide +kernel
theorem dJ2_checkBoundsBeginEnd_d044e_3 : decode cJ2_checkBoundsBeginEnd_d044e 3 = .ok (.invokestatic 48, 3) := by decide +kernel
theorem dJ2_checkBoundsBeginEnd_d044e_6 : decode cJ2_checkBoundsBeginEnd_d044e 6 = .ok (.invokestatic 241, 3) := by decide +kernel
theorem dJ2_checkBoundsBeginEnd_d044e_9 : decode cJ2_checkBoundsBeginEnd_d044e 9 = .ok (.return_, 1) := by decide +kernel
theorem dJ7_rangeCheck_23922_0 : decode cJ7_rangeCheck_23922 0 = .ok (.iload_n 1, 1) := by decide +kernel
theorem dJ7_rangeCheck_23922_1 : decode cJ7_rangeCheck_23922 1 = .ok (.iload_n 2, 1) := by decide +kernel
theorem dJ7_rangeCheck_23922_2 : decode cJ7_rangeCheck_23922 2 = .ok (.if_icmp .le 44, 3) := by decide +kernel
theorem dJ7_rangeCheck_23922_5 : decode cJ7_rangeCheck_23922 5 = .ok (.new 43, 3) := by decide +kernel
theorem dJ7_rangeCheck_23922_8 : decode cJ7_rangeCheck_23922 8 = .ok (.dup, 1) := by decide +kernel
theorem dJ7_rangeCheck_23922_9 : decode cJ7_rangeCheck_23922 9 = .ok (.new 45, 3) := by decide +kernel
theorem dJ7_rangeCheck_23922_12 : decode cJ7_rangeCheck_23922 12 = .ok (.dup, 1) := by decide +kernel
theorem dJ7_rangeCheck_23922_13 : decode cJ7_rangeCheck_23922 13 = .ok (.invokespecial 47, 3) := by decide +kernel
theorem dJ7_rangeCheck_23922_16 : decode cJ7_rangeCheck_23922 16 = .ok (.ldc 48, 2) := by decide +kernel
theorem dJ7_rangeCheck_23922_18 : decode cJ7_rangeCheck_23922 18 = .ok (.invokevirtual 50, 3) := by decide +kernel
theorem dJ7_rangeCheck_23922_21 : decode cJ7_rangeCheck_23922 21 = .ok (.iload_n 1, 1) := by decide +kernel
theorem dJ7_rangeCheck_23922_22 : decode cJ7_rangeCheck_23922 22 = .ok (.invokevirtual 54, 3) := by decide +kernel
theorem dJ7_rangeCheck_23922_25 : decode cJ7_rangeCheck_23922 25 = .ok (.ldc 57, 2) := by decide +kernel
theorem dJ7_rangeCheck_23922_27 : decode cJ7_rangeCheck_23922 27 = .ok (.invokevirtual 50, 3) := by decide +kernel
theorem dJ7_rangeCheck_23922_30 : decode cJ7_rangeCheck_23922 30 = .ok (.iload_n 2, 1) := by decide +kernel
theorem dJ7_rangeCheck_23922_31 : decode cJ7_rangeCheck_23922 31 = .ok (.invokevirtual 54, 3) := by decide +kernel
theorem dJ7_rangeCheck_23922_34 : decode cJ7_rangeCheck_23922 34 = .ok (.ldc 59, 2) := by decide +kernel
theorem dJ7_rangeCheck_23922_36 : decode cJ7_rangeCheck_23922 36 = .ok (.invokevirtual 50, 3) := by decide +kernel
theorem dJ7_rangeCheck_23922_39 : decode cJ7_rangeCheck_23922 39 = .ok (.invokevirtual 61, 3) := by decide +kernel
theorem dJ7_rangeCheck_23922_42 : decode cJ7_rangeCheck_23922 42 = .ok (.invokespecial 65, 3) := by decide +kernel
theorem dJ7_rangeCheck_23922_45 : decode cJ7_rangeCheck_23922 45 = .ok (.athrow, 1) := by decide +kernel
theorem dJ7_rangeCheck_23922_46 : decode cJ7_rangeCheck_23922 46 = .ok (.iload_n 1, 1) := by decide +kernel
theorem dJ7_rangeCheck_23922_47 : decode cJ7_rangeCheck_23922 47 = .ok (.ifCond .ge 12, 3) := by decide +kernel
theorem dJ7_rangeCheck_23922_50 : decode cJ7_rangeCheck_23922 50 = .ok (.new 68, 3) := by decide +kernel
theorem dJ7_rangeCheck_23922_53 : decode cJ7_rangeCheck_23922 53 = .ok (.dup, 1) := by decide +kernel
theorem dJ7_rangeCheck_23922_54 : decode cJ7_rangeCheck_23922 54 = .ok (.iload_n 1, 1) := by decide +kernel
theorem dJ7_rangeCheck_23922_55 : decode cJ7_rangeCheck_23922 55 = .ok (.invokespecial 70, 3) := by decide +kernel
theorem dJ7_rangeCheck_23922_58 : decode cJ7_rangeCheck_23922 58 = .ok (.athrow, 1) := by decide +kernel
theorem dJ7_rangeCheck_23922_59 : decode cJ7_rangeCheck_23922 59 = .ok (.iload_n 2, 1) := by decide +kernel
theorem dJ7_rangeCheck_23922_60 : decode cJ7_rangeCheck_23922 60 = .ok (.iload_n 0, 1) := by decide +kernel
theorem dJ7_rangeCheck_23922_61 : decode cJ7_rangeCheck_23922 61 = .ok (.if_icmp .le 12, 3) := by decide +kernel
theorem dJ7_rangeCheck_23922_64 : decode cJ7_rangeCheck_23922 64 = .ok (.new 68, 3) := by decide +kernel
theorem dJ7_rangeCheck_23922_67 : decode cJ7_rangeCheck_23922 67 = .ok (.dup, 1) := by decide +kernel
theorem dJ7_rangeCheck_23922_68 : decode cJ7_rangeCheck_23922 68 = .ok (.iload_n 2, 1) := by decide +kernel
theorem dJ7_rangeCheck_23922_69 : decode cJ7_rangeCheck_23922 69 = .ok (.invokespecial 70, 3) := by decide +kernel
theorem dJ7_rangeCheck_23922_72 : decode cJ7_rangeCheck_23922 72 = .ok (.athrow, 1) := by decide +kernel
theorem dJ7_rangeCheck_23922_73 : decode cJ7_rangeCheck_23922 73 = .ok (.return_, 1) := by decide +kernel
theorem dJ7_fill_d0a16_0 : decode cJ7_fill_d0a16 0 = .ok (.iconst 0, 1) := by decide +kernel
theorem dJ7_fill_d0a16_1 : decode cJ7_fill_d0a16 1 = .ok (.istore_n 3, 1) := by decide +kernel
theorem dJ7_fill_d0a16_2 : decode cJ7_fill_d0a16 2 = .ok (.aload_n 0, 1) := by decide +kernel
theorem dJ7_fill_d0a16_3 : decode cJ7_fill_d0a16 3 = .ok (.arraylength, 1) := by decide +kernel
theorem dJ7_fill_d0a16_4 : decode cJ7_fill_d0a16 4 = .ok (.istore 4, 2) := by decide +kernel
theorem dJ7_fill_d0a16_6 : decode cJ7_fill_d0a16 6 = .ok (.iload_n 3, 1) := by decide +kernel
theorem dJ7_fill_d0a16_7 : decode cJ7_fill_d0a16 7 = .ok (.iload 4, 2) := by decide +kernel
theorem dJ7_fill_d0a16_9 : decode cJ7_fill_d0a16 9 = .ok (.if_icmp .ge 13, 3) := by decide +kernel
theorem dJ7_fill_d0a16_12 : decode cJ7_fill_d0a16 12 = .ok (.aload_n 0, 1) := by decide +kernel
theorem dJ7_fill_d0a16_13 : decode cJ7_fill_d0a16 13 = .ok (.iload_n 3, 1) := by decide +kernel
theorem dJ7_fill_d0a16_14 : decode cJ7_fill_d0a16 14 = .ok (.lload_n 1, 1) := by decide +kernel
theorem dJ7_fill_d0a16_15 : decode cJ7_fill_d0a16 15 = .ok (.lastore, 1) := by decide +kernel
theorem dJ7_fill_d0a16_16 : decode cJ7_fill_d0a16 16 = .ok (.iinc 3 1, 3) := by decide +kernel
theorem dJ7_fill_d0a16_19 : decode cJ7_fill_d0a16 19 = .ok (.goto (-13), 3) := by decide +kernel
theorem dJ7_fill_d0a16_22 : decode cJ7_fill_d0a16 22 = .ok (.return_, 1) := by decide +kernel
theorem dJ7_fill_53178_0 : decode cJ7_fill_53178 0 = .ok (.iconst 0, 1) := by decide +kernel
theorem dJ7_fill_53178_1 : decode cJ7_fill_53178 1 = .ok (.istore_n 2, 1) := by decide +kernel
theorem dJ7_fill_53178_2 : decode cJ7_fill_53178 2 = .ok (.aload_n 0, 1) := by decide +kernel
theorem dJ7_fill_53178_3 : decode cJ7_fill_53178 3 = .ok (.arraylength, 1) := by decide +kernel
theorem dJ7_fill_53178_4 : decode cJ7_fill_53178 4 = .ok (.istore_n 3, 1) := by decide +kernel
theorem dJ7_fill_53178_5 : decode cJ7_fill_53178 5 = .ok (.iload_n 2, 1) := by decide +kernel
theorem dJ7_fill_53178_6 : decode cJ7_fill_53178 6 = .ok (.iload_n 3, 1) := by decide +kernel
theorem dJ7_fill_53178_7 : decode cJ7_fill_53178 7 = .ok (.if_icmp .ge 13, 3) := by decide +kernel
theorem dJ7_fill_53178_10 : decode cJ7_fill_53178 10 = .ok (.aload_n 0, 1) := by decide +kernel
theorem dJ7_fill_53178_11 : decode cJ7_fill_53178 11 = .ok (.iload_n 2, 1) := by decide +kernel
theorem dJ7_fill_53178_12 : decode cJ7_fill_53178 12 = .ok (.iload_n 1, 1) := by decide +kernel
theorem dJ7_fill_53178_13 : decode cJ7_fill_53178 13 = .ok (.iastore, 1) := by decide +kernel
theorem dJ7_fill_53178_14 : decode cJ7_fill_53178 14 = .ok (.iinc 2 1, 3) := by decide +kernel
theorem dJ7_fill_53178_17 : decode cJ7_fill_53178 17 = .ok (.goto (-12), 3) := by decide +kernel
theorem dJ7_fill_53178_20 : decode cJ7_fill_53178 20 = .ok (.return_, 1) := by decide +kernel
theorem dJ7_fill_fda19_0 : decode cJ7_fill_fda19 0 = .ok (.aload_n 0, 1) := by decide +kernel
theorem dJ7_fill_fda19_1 : decode cJ7_fill_fda19 1 = .ok (.arraylength, 1) := by decide +kernel
theorem dJ7_fill_fda19_2 : decode cJ7_fill_fda19 2 = .ok (.iload_n 1, 1) := by decide +kernel
theorem dJ7_fill_fda19_3 : decode cJ7_fill_fda19 3 = .ok (.iload_n 2, 1) := by decide +kernel
theorem dJ7_fill_fda19_4 : decode cJ7_fill_fda19 4 = .ok (.invokestatic 13, 3) := by decide +kernel
theorem dJ7_fill_fda19_7 : decode cJ7_fill_fda19 7 = .ok (.iload_n 1, 1) := by decide +kernel
theorem dJ7_fill_fda19_8 : decode cJ7_fill_fda19 8 = .ok (.istore 4, 2) := by decide +kernel
theorem dJ7_fill_fda19_10 : decode cJ7_fill_fda19 10 = .ok (.iload 4, 2) := by decide +kernel
theorem dJ7_fill_fda19_12 : decode cJ7_fill_fda19 12 = .ok (.iload_n 2, 1) := by decide +kernel
theorem dJ7_fill_fda19_13 : decode cJ7_fill_fda19 13 = .ok (.if_icmp .ge 14, 3) := by decide +kernel
theorem dJ7_fill_fda19_16 : decode cJ7_fill_fda19 16 = .ok (.aload_n 0, 1) := by decide +kernel
theorem dJ7_fill_fda19_17 : decode cJ7_fill_fda19 17 = .ok (.iload 4, 2) := by decide +kernel
theorem dJ7_fill_fda19_19 : decode cJ7_fill_fda19 19 = .ok (.iload_n 3, 1) := by decide +kernel
theorem dJ7_fill_fda19_20 : decode cJ7_fill_fda19 20 = .ok (.iastore, 1) := by decide +kernel
theorem dJ7_fill_fda19_21 : decode cJ7_fill_fda19 21 = .ok (.iinc 4 1, 3) := by decide +kernel
theorem dJ7_fill_fda19_24 : decode cJ7_fill_fda19 24 = .ok (.goto (-14), 3) := by decide +kernel
theorem dJ7_fill_fda19_27 : decode cJ7_fill_fda19 27 = .ok (.return_, 1) := by decide +kernel
theorem dJ3_checkIndex_8e157_0 : decode cJ3_checkIndex_8e157 0 = .ok (.iload_n 0, 1) := by decide +kernel
theorem dJ3_checkIndex_8e157_1 : decode cJ3_checkIndex_8e157 1 = .ok (.ifCond .lt 8, 3) := by decide +kernel
theorem dJ3_checkIndex_8e157_4 : decode cJ3_checkIndex_8e157 4 = .ok (.iload_n 0, 1) := by decide +kernel
theorem dJ3_checkIndex_8e157_5 : decode cJ3_checkIndex_8e157 5 = .ok (.iload_n 1, 1) := by decide +kernel
theorem dJ3_checkIndex_8e157_6 : decode cJ3_checkIndex_8e157 6 = .ok (.if_icmp .lt 10, 3) := by decide +kernel
theorem dJ3_checkIndex_8e157_9 : decode cJ3_checkIndex_8e157 9 = .ok (.aload_n 2, 1) := by decide +kernel
theorem dJ3_checkIndex_8e157_10 : decode cJ3_checkIndex_8e157 10 = .ok (.iload_n 0, 1) := by decide +kernel
theorem dJ3_checkIndex_8e157_11 : decode cJ3_checkIndex_8e157 11 = .ok (.iload_n 1, 1) := by decide +kernel
theorem dJ3_checkIndex_8e157_12 : decode cJ3_checkIndex_8e157 12 = .ok (.invokestatic 95, 3) := by decide +kernel
theorem dJ3_checkIndex_8e157_15 : decode cJ3_checkIndex_8e157 15 = .ok (.athrow, 1) := by decide +kernel
theorem dJ3_checkIndex_8e157_16 : decode cJ3_checkIndex_8e157 16 = .ok (.iload_n 0, 1) := by decide +kernel
theorem dJ3_checkIndex_8e157_17 : decode cJ3_checkIndex_8e157 17 = .ok (.ireturn, 1) := by decide +kernel
theorem dJ3_checkFromToIndex_8c36e_0 : decode cJ3_checkFromToIndex_8c36e 0 = .ok (.iload_n 0, 1) := by decide +kernel
theorem dJ3_checkFromToIndex_8c36e_1 : decode cJ3_checkFromToIndex_8c36e 1 = .ok (.ifCond .lt 13, 3) := by decide +kernel
theorem dJ3_checkFromToIndex_8c36e_4 : decode cJ3_checkFromToIndex_8c36e 4 = .ok (.iload_n 0, 1) := by decide +kernel
theorem dJ3_checkFromToIndex_8c36e_5 : decode cJ3_checkFromToIndex_8c36e 5 = .ok (.iload_n 1, 1) := by decide +kernel
theorem dJ3_checkFromToIndex_8c36e_6 : decode cJ3_checkFromToIndex_8c36e 6 = .ok (.if_icmp .gt 8, 3) := by decide +kernel
theorem dJ3_checkFromToIndex_8c36e_9 : decode cJ3_checkFromToIndex_8c36e 9 = .ok (.iload_n 1, 1) := by decide +kernel
theorem dJ3_checkFromToIndex_8c36e_10 : decode cJ3_checkFromToIndex_8c36e 10 = .ok (.iload_n 2, 1) := by decide +kernel
theorem dJ3_checkFromToIndex_8c36e_11 : decode cJ3_checkFromToIndex_8c36e 11 = .ok (.if_icmp .le 11, 3) := by decide +kernel
theorem dJ3_checkFromToIndex_8c36e_14 : decode cJ3_checkFromToIndex_8c36e 14 = .ok (.aload_n 3, 1) := by decide +kernel
theorem dJ3_checkFromToIndex_8c36e_15 : decode cJ3_checkFromToIndex_8c36e 15 = .ok (.iload_n 0, 1) := by decide +kernel
theorem dJ3_checkFromToIndex_8c36e_16 : decode cJ3_checkFromToIndex_8c36e 16 = .ok (.iload_n 1, 1) := by decide +kernel
theorem dJ3_checkFromToIndex_8c36e_17 : decode cJ3_checkFromToIndex_8c36e 17 = .ok (.iload_n 2, 1) := by decide +kernel
theorem dJ3_checkFromToIndex_8c36e_18 : decode cJ3_checkFromToIndex_8c36e 18 = .ok (.invokestatic 99, 3) := by decide +kernel
theorem dJ3_checkFromToIndex_8c36e_21 : decode cJ3_checkFromToIndex_8c36e 21 = .ok (.athrow, 1) := by decide +kernel
theorem dJ3_checkFromToIndex_8c36e_22 : decode cJ3_checkFromToIndex_8c36e 22 = .ok (.iload_n 0, 1) := by decide +kernel
theorem dJ3_checkFromToIndex_8c36e_23 : decode cJ3_checkFromToIndex_8c36e 23 = .ok (.ireturn, 1) := by decide +kernel
theorem dL_least_0 : decode cL_least 0 = .ok (.aload 7, 2) := by decide +kernel
theorem dL_least_2 : decode cL_least 2 = .ok (.iconst 0, 1) := by decide +kernel
theorem dL_least_3 : decode cL_least 3 = .ok (.aload_n 0, 1) := by decide +kernel
theorem dL_least_4 : decode cL_least 4 = .ok (.iload_n 1, 1) := by decide +kernel
theorem dL_least_5 : decode cL_least 5 = .ok (.iload_n 2, 1) := by decide +kernel
theorem dL_least_6 : decode cL_least 6 = .ok (.iload_n 3, 1) := by decide +kernel
theorem dL_least_7 : decode cL_least 7 = .ok (.iload 4, 2) := by decide +kernel
theorem dL_least_9 : decode cL_least 9 = .ok (.iload 5, 2) := by decide +kernel
theorem dL_least_11 : decode cL_least 11 = .ok (.iload 6, 2) := by decide +kernel
theorem dL_least_13 : decode cL_least 13 = .ok (.invokevirtual 7, 3) := by decide +kernel
theorem dL_least_16 : decode cL_least 16 = .ok (.i2l, 1) := by decide +kernel
theorem dL_least_17 : decode cL_least 17 = .ok (.lastore, 1) := by decide +kernel
theorem dL_least_18 : decode cL_least 18 = .ok (.goto 7, 3) := by decide +kernel
theorem dL_least_21 : decode cL_least 21 = .ok (.astore 8, 2) := by decide +kernel
theorem dL_least_23 : decode cL_least 23 = .ok (.iconst 1, 1) := by decide +kernel
theorem dL_least_24 : decode cL_least 24 = .ok (.ireturn, 1) := by decide +kernel
theorem dL_least_25 : decode cL_least 25 = .ok (.iconst 0, 1) := by decide +kernel
theorem dL_least_26 : decode cL_least 26 = .ok (.ireturn, 1) := by decide +kernel
theorem dL_guessed_0 : decode cL_guessed 0 = .ok (.aload 9, 2) := by decide +kernel
theorem dL_guessed_2 : decode cL_guessed 2 = .ok (.iconst 0, 1) := by decide +kernel
theorem dL_guessed_3 : decode cL_guessed 3 = .ok (.aload_n 0, 1) := by decide +kernel
theorem dL_guessed_4 : decode cL_guessed 4 = .ok (.iload_n 1, 1) := by decide +kernel
theorem dL_guessed_5 : decode cL_guessed 5 = .ok (.iload_n 2, 1) := by decide +kernel
theorem dL_guessed_6 : decode cL_guessed 6 = .ok (.iload_n 3, 1) := by decide +kernel
theorem dL_guessed_7 : decode cL_guessed 7 = .ok (.iload 4, 2) := by decide +kernel
theorem dL_guessed_9 : decode cL_guessed 9 = .ok (.iload 5, 2) := by decide +kernel
theorem dL_guessed_11 : decode cL_guessed 11 = .ok (.iload 6, 2) := by decide +kernel
theorem dL_guessed_13 : decode cL_guessed 13 = .ok (.iload 7, 2) := by decide +kernel
theorem dL_guessed_15 : decode cL_guessed 15 = .ok (.iload 8, 2) := by decide +kernel
theorem dL_guessed_17 : decode cL_guessed 17 = .ok (.invokevirtual 15, 3) := by decide +kernel
theorem dL_guessed_20 : decode cL_guessed 20 = .ok (.lastore, 1) := by decide +kernel
theorem dL_guessed_21 : decode cL_guessed 21 = .ok (.goto 7, 3) := by decide +kernel
theorem dL_guessed_24 : decode cL_guessed 24 = .ok (.astore 10, 2) := by decide +kernel
theorem dL_guessed_26 : decode cL_guessed 26 = .ok (.iconst 1, 1) := by decide +kernel
theorem dL_guessed_27 : decode cL_guessed 27 = .ok (.ireturn, 1) := by decide +kernel
theorem dL_guessed_28 : decode cL_guessed 28 = .ok (.iconst 0, 1) := by decide +kernel
theorem dL_guessed_29 : decode cL_guessed 29 = .ok (.ireturn, 1) := by decide +kernel
theorem dL_crowd_0 : decode cL_crowd 0 = .ok (.aload 10, 2) := by decide +kernel
theorem dL_crowd_2 : decode cL_crowd 2 = .ok (.iconst 0, 1) := by decide +kernel
theorem dL_crowd_3 : decode cL_crowd 3 = .ok (.aload_n 0, 1) := by decide +kernel
theorem dL_crowd_4 : decode cL_crowd 4 = .ok (.iload_n 1, 1) := by decide +kernel
theorem dL_crowd_5 : decode cL_crowd 5 = .ok (.iload_n 2, 1) := by decide +kernel
theorem dL_crowd_6 : decode cL_crowd 6 = .ok (.iload_n 3, 1) := by decide +kernel
theorem dL_crowd_7 : decode cL_crowd 7 = .ok (.iload 4, 2) := by decide +kernel
theorem dL_crowd_9 : decode cL_crowd 9 = .ok (.iload 5, 2) := by decide +kernel
theorem dL_crowd_11 : decode cL_crowd 11 = .ok (.iload 6, 2) := by decide +kernel
theorem dL_crowd_13 : decode cL_crowd 13 = .ok (.iload 7, 2) := by decide +kernel
theorem dL_crowd_15 : decode cL_crowd 15 = .ok (.iload 8, 2) := by decide +kernel
theorem dL_crowd_17 : decode cL_crowd 17 = .ok (.iload 9, 2) := by decide +kernel
theorem dL_crowd_19 : decode cL_crowd 19 = .ok (.invokevirtual 19, 3) := by decide +kernel
theorem dL_crowd_22 : decode cL_crowd 22 = .ok (.i2l, 1) := by decide +kernel
theorem dL_crowd_23 : decode cL_crowd 23 = .ok (.lastore, 1) := by decide +kernel
theorem dL_crowd_24 : decode cL_crowd 24 = .ok (.goto 7, 3) := by decide +kernel
theorem dL_crowd_27 : decode cL_crowd 27 = .ok (.astore 11, 2) := by decide +kernel
theorem dL_crowd_29 : decode cL_crowd 29 = .ok (.iconst 1, 1) := by decide +kernel
theorem dL_crowd_30 : decode cL_crowd 30 = .ok (.ireturn, 1) := by decide +kernel
theorem dL_crowd_31 : decode cL_crowd 31 = .ok (.iconst 0, 1) := by decide +kernel
theorem dL_crowd_32 : decode cL_crowd 32 = .ok (.ireturn, 1) := by decide +kernel
theorem dL_plant_0 : decode cL_plant 0 = .ok (.aload 8, 2) := by decide +kernel
theorem dL_plant_2 : decode cL_plant 2 = .ok (.iconst 0, 1) := by decide +kernel
theorem dL_plant_3 : decode cL_plant 3 = .ok (.aload_n 0, 1) := by decide +kernel
theorem dL_plant_4 : decode cL_plant 4 = .ok (.iload_n 1, 1) := by decide +kernel
theorem dL_plant_5 : decode cL_plant 5 = .ok (.iload_n 2, 1) := by decide +kernel
theorem dL_plant_6 : decode cL_plant 6 = .ok (.iload_n 3, 1) := by decide +kernel
theorem dL_plant_7 : decode cL_plant 7 = .ok (.iload 4, 2) := by decide +kernel
theorem dL_plant_9 : decode cL_plant 9 = .ok (.iload 5, 2) := by decide +kernel
theorem dL_plant_11 : decode cL_plant 11 = .ok (.iload 6, 2) := by decide +kernel
theorem dL_plant_13 : decode cL_plant 13 = .ok (.iload 7, 2) := by decide +kernel
theorem dL_plant_15 : decode cL_plant 15 = .ok (.invokevirtual 23, 3) := by decide +kernel
theorem dL_plant_18 : decode cL_plant 18 = .ok (.i2l, 1) := by decide +kernel
theorem dL_plant_19 : decode cL_plant 19 = .ok (.lastore, 1) := by decide +kernel
theorem dL_plant_20 : decode cL_plant 20 = .ok (.goto 7, 3) := by decide +kernel
theorem dL_plant_23 : decode cL_plant 23 = .ok (.astore 9, 2) := by decide +kernel
theorem dL_plant_25 : decode cL_plant 25 = .ok (.iconst 1, 1) := by decide +kernel
theorem dL_plant_26 : decode cL_plant 26 = .ok (.ireturn, 1) := by decide +kernel
theorem dL_plant_27 : decode cL_plant 27 = .ok (.iconst 0, 1) := by decide +kernel
theorem dL_plant_28 : decode cL_plant 28 = .ok (.ireturn, 1) := by decide +kernel
theorem dL_spots_0 : decode cL_spots 0 = .ok (.aload 9, 2) := by decide +kernel
theorem dL_spots_2 : decode cL_spots 2 = .ok (.iconst 0, 1) := by decide +kernel
theorem dL_spots_3 : decode cL_spots 3 = .ok (.aload_n 0, 1) := by decide +kernel
theorem dL_spots_4 : decode cL_spots 4 = .ok (.iload_n 1, 1) := by decide +kernel
theorem dL_spots_5 : decode cL_spots 5 = .ok (.iload_n 2, 1) := by decide +kernel
theorem dL_spots_6 : decode cL_spots 6 = .ok (.iload_n 3, 1) := by decide +kernel
theorem dL_spots_7 : decode cL_spots 7 = .ok (.iload 4, 2) := by decide +kernel
theorem dL_spots_9 : decode cL_spots 9 = .ok (.iload 5, 2) := by decide +kernel
theorem dL_spots_11 : decode cL_spots 11 = .ok (.iload 6, 2) := by decide +kernel
theorem dL_spots_13 : decode cL_spots 13 = .ok (.iload 7, 2) := by decide +kernel
theorem dL_spots_15 : decode cL_spots 15 = .ok (.iload 8, 2) := by decide +kernel
theorem dL_spots_17 : decode cL_spots 17 = .ok (.invokevirtual 27, 3) := by decide +kernel
theorem dL_spots_20 : decode cL_spots 20 = .ok (.i2l, 1) := by decide +kernel
theorem dL_spots_21 : decode cL_spots 21 = .ok (.lastore, 1) := by decide +kernel
theorem dL_spots_22 : decode cL_spots 22 = .ok (.goto 7, 3) := by decide +kernel
theorem dL_spots_25 : decode cL_spots 25 = .ok (.astore 10, 2) := by decide +kernel
theorem dL_spots_27 : decode cL_spots 27 = .ok (.iconst 1, 1) := by decide +kernel
theorem dL_spots_28 : decode cL_spots 28 = .ok (.ireturn, 1) := by decide +kernel
theorem dL_spots_29 : decode cL_spots 29 = .ok (.iconst 0, 1) := by decide +kernel
theorem dL_spots_30 : decode cL_spots 30 = .ok (.ireturn, 1) := by decide +kernel
theorem dL_judged_0 : decode cL_judged 0 = .ok (.aload 6, 2) := by decide +kernel
theorem dL_judged_2 : decode cL_judged 2 = .ok (.iconst 0, 1) := by decide +kernel
theorem dL_judged_3 : decode cL_judged 3 = .ok (.aload_n 0, 1) := by decide +kernel
theorem dL_judged_4 : decode cL_judged 4 = .ok (.iload_n 1, 1) := by decide +kernel
theorem dL_judged_5 : decode cL_judged 5 = .ok (.iload_n 2, 1) := by decide +kernel
theorem dL_judged_6 : decode cL_judged 6 = .ok (.iload_n 3, 1) := by decide +kernel
theorem dL_judged_7 : decode cL_judged 7 = .ok (.iload 4, 2) := by decide +kernel
theorem dL_judged_9 : decode cL_judged 9 = .ok (.iload 5, 2) := by decide +kernel
theorem dL_judged_11 : decode cL_judged 11 = .ok (.invokevirtual 31, 3) := by decide +kernel
theorem dL_judged_14 : decode cL_judged 14 = .ok (.i2l, 1) := by decide +kernel
theorem dL_judged_15 : decode cL_judged 15 = .ok (.lastore, 1) := by decide +kernel
theorem dL_judged_16 : decode cL_judged 16 = .ok (.goto 7, 3) := by decide +kernel
theorem dL_judged_19 : decode cL_judged 19 = .ok (.astore 7, 2) := by decide +kernel
theorem dL_judged_21 : decode cL_judged 21 = .ok (.iconst 1, 1) := by decide +kernel
theorem dL_judged_22 : decode cL_judged 22 = .ok (.ireturn, 1) := by decide +kernel
theorem dL_judged_23 : decode cL_judged 23 = .ok (.iconst 0, 1) := by decide +kernel
theorem dL_judged_24 : decode cL_judged 24 = .ok (.ireturn, 1) := by decide +kernel
theorem dL_rests_0 : decode cL_rests 0 = .ok (.aload 7, 2) := by decide +kernel
theorem dL_rests_2 : decode cL_rests 2 = .ok (.iconst 0, 1) := by decide +kernel
theorem dL_rests_3 : decode cL_rests 3 = .ok (.aload_n 0, 1) := by decide +kernel
theorem dL_rests_4 : decode cL_rests 4 = .ok (.iload_n 1, 1) := by decide +kernel
theorem dL_rests_5 : decode cL_rests 5 = .ok (.iload_n 2, 1) := by decide +kernel
theorem dL_rests_6 : decode cL_rests 6 = .ok (.iload_n 3, 1) := by decide +kernel
theorem dL_rests_7 : decode cL_rests 7 = .ok (.iload 4, 2) := by decide +kernel
theorem dL_rests_9 : decode cL_rests 9 = .ok (.iload 5, 2) := by decide +kernel
theorem dL_rests_11 : decode cL_rests 11 = .ok (.iload 6, 2) := by decide +kernel
theorem dL_rests_13 : decode cL_rests 13 = .ok (.invokevirtual 35, 3) := by decide +kernel
theorem dL_rests_16 : decode cL_rests 16 = .ok (.i2l, 1) := by decide +kernel
theorem dL_rests_17 : decode cL_rests 17 = .ok (.lastore, 1) := by decide +kernel
theorem dL_rests_18 : decode cL_rests 18 = .ok (.goto 7, 3) := by decide +kernel
theorem dL_rests_21 : decode cL_rests 21 = .ok (.astore 8, 2) := by decide +kernel
theorem dL_rests_23 : decode cL_rests 23 = .ok (.iconst 1, 1) := by decide +kernel
theorem dL_rests_24 : decode cL_rests 24 = .ok (.ireturn, 1) := by decide +kernel
theorem dL_rests_25 : decode cL_rests 25 = .ok (.iconst 0, 1) := by decide +kernel
theorem dL_rests_26 : decode cL_rests 26 = .ok (.ireturn, 1) := by decide +kernel
theorem dL_errand_0 : decode cL_errand 0 = .ok (.aload 8, 2) := by decide +kernel
theorem dL_errand_2 : decode cL_errand 2 = .ok (.iconst 0, 1) := by decide +kernel
theorem dL_errand_3 : decode cL_errand 3 = .ok (.aload_n 0, 1) := by decide +kernel
theorem dL_errand_4 : decode cL_errand 4 = .ok (.iload_n 1, 1) := by decide +kernel
theorem dL_errand_5 : decode cL_errand 5 = .ok (.iload_n 2, 1) := by decide +kernel
theorem dL_errand_6 : decode cL_errand 6 = .ok (.iload_n 3, 1) := by decide +kernel
theorem dL_errand_7 : decode cL_errand 7 = .ok (.iload 4, 2) := by decide +kernel
theorem dL_errand_9 : decode cL_errand 9 = .ok (.iload 5, 2) := by decide +kernel
theorem dL_errand_11 : decode cL_errand 11 = .ok (.iload 6, 2) := by decide +kernel
theorem dL_errand_13 : decode cL_errand 13 = .ok (.iload 7, 2) := by decide +kernel
theorem dL_errand_15 : decode cL_errand 15 = .ok (.invokevirtual 38, 3) := by decide +kernel
theorem dL_errand_18 : decode cL_errand 18 = .ok (.i2l, 1) := by decide +kernel
theorem dL_errand_19 : decode cL_errand 19 = .ok (.lastore, 1) := by decide +kernel
theorem dL_errand_20 : decode cL_errand 20 = .ok (.goto 7, 3) := by decide +kernel
theorem dL_errand_23 : decode cL_errand 23 = .ok (.astore 9, 2) := by decide +kernel
theorem dL_errand_25 : decode cL_errand 25 = .ok (.iconst 1, 1) := by decide +kernel
theorem dL_errand_26 : decode cL_errand 26 = .ok (.ireturn, 1) := by decide +kernel
theorem dL_errand_27 : decode cL_errand 27 = .ok (.iconst 0, 1) := by decide +kernel
theorem dL_errand_28 : decode cL_errand 28 = .ok (.ireturn, 1) := by decide +kernel
theorem dL_meet_0 : decode cL_meet 0 = .ok (.aload 8, 2) := by decide +kernel
theorem dL_meet_2 : decode cL_meet 2 = .ok (.iconst 0, 1) := by decide +kernel
theorem dL_meet_3 : decode cL_meet 3 = .ok (.aload_n 0, 1) := by decide +kernel
theorem dL_meet_4 : decode cL_meet 4 = .ok (.iload_n 1, 1) := by decide +kernel
theorem dL_meet_5 : decode cL_meet 5 = .ok (.iload_n 2, 1) := by decide +kernel
theorem dL_meet_6 : decode cL_meet 6 = .ok (.iload_n 3, 1) := by decide +kernel
theorem dL_meet_7 : decode cL_meet 7 = .ok (.iload 4, 2) := by decide +kernel
theorem dL_meet_9 : decode cL_meet 9 = .ok (.iload 5, 2) := by decide +kernel
theorem dL_meet_11 : decode cL_meet 11 = .ok (.iload 6, 2) := by decide +kernel
theorem dL_meet_13 : decode cL_meet 13 = .ok (.iload 7, 2) := by decide +kernel
theorem dL_meet_15 : decode cL_meet 15 = .ok (.invokevirtual 41, 3) := by decide +kernel
theorem dL_meet_18 : decode cL_meet 18 = .ok (.i2l, 1) := by decide +kernel
theorem dL_meet_19 : decode cL_meet 19 = .ok (.lastore, 1) := by decide +kernel
theorem dL_meet_20 : decode cL_meet 20 = .ok (.goto 7, 3) := by decide +kernel
theorem dL_meet_23 : decode cL_meet 23 = .ok (.astore 9, 2) := by decide +kernel
theorem dL_meet_25 : decode cL_meet 25 = .ok (.iconst 1, 1) := by decide +kernel
theorem dL_meet_26 : decode cL_meet 26 = .ok (.ireturn, 1) := by decide +kernel
theorem dL_meet_27 : decode cL_meet 27 = .ok (.iconst 0, 1) := by decide +kernel
theorem dL_meet_28 : decode cL_meet 28 = .ok (.ireturn, 1) := by decide +kernel
theorem dL_cover_0 : decode cL_cover 0 = .ok (.aload 7, 2) := by decide +kernel
theorem dL_cover_2 : decode cL_cover 2 = .ok (.iconst 0, 1) := by decide +kernel
theorem dL_cover_3 : decode cL_cover 3 = .ok (.aload_n 0, 1) := by decide +kernel
theorem dL_cover_4 : decode cL_cover 4 = .ok (.iload_n 1, 1) := by decide +kernel
theorem dL_cover_5 : decode cL_cover 5 = .ok (.iload_n 2, 1) := by decide +kernel
theorem dL_cover_6 : decode cL_cover 6 = .ok (.iload_n 3, 1) := by decide +kernel
theorem dL_cover_7 : decode cL_cover 7 = .ok (.iload 4, 2) := by decide +kernel
theorem dL_cover_9 : decode cL_cover 9 = .ok (.iload 5, 2) := by decide +kernel
theorem dL_cover_11 : decode cL_cover 11 = .ok (.iload 6, 2) := by decide +kernel
theorem dL_cover_13 : decode cL_cover 13 = .ok (.invokevirtual 44, 3) := by decide +kernel
theorem dL_cover_16 : decode cL_cover 16 = .ok (.i2l, 1) := by decide +kernel
theorem dL_cover_17 : decode cL_cover 17 = .ok (.lastore, 1) := by decide +kernel
theorem dL_cover_18 : decode cL_cover 18 = .ok (.goto 7, 3) := by decide +kernel
theorem dL_cover_21 : decode cL_cover 21 = .ok (.astore 8, 2) := by decide +kernel
theorem dL_cover_23 : decode cL_cover 23 = .ok (.iconst 1, 1) := by decide +kernel
theorem dL_cover_24 : decode cL_cover 24 = .ok (.ireturn, 1) := by decide +kernel
theorem dL_cover_25 : decode cL_cover 25 = .ok (.iconst 0, 1) := by decide +kernel
theorem dL_cover_26 : decode cL_cover 26 = .ok (.ireturn, 1) := by decide +kernel
theorem dL_keeps_0 : decode cL_keeps 0 = .ok (.aload 7, 2) := by decide +kernel
theorem dL_keeps_2 : decode cL_keeps 2 = .ok (.iconst 0, 1) := by decide +kernel
theorem dL_keeps_3 : decode cL_keeps 3 = .ok (.aload_n 0, 1) := by decide +kernel
theorem dL_keeps_4 : decode cL_keeps 4 = .ok (.iload_n 1, 1) := by decide +kernel
theorem dL_keeps_5 : decode cL_keeps 5 = .ok (.iload_n 2, 1) := by decide +kernel
theorem dL_keeps_6 : decode cL_keeps 6 = .ok (.iload_n 3, 1) := by decide +kernel
theorem dL_keeps_7 : decode cL_keeps 7 = .ok (.iload 4, 2) := by decide +kernel
theorem dL_keeps_9 : decode cL_keeps 9 = .ok (.iload 5, 2) := by decide +kernel
theorem dL_keeps_11 : decode cL_keeps 11 = .ok (.iload 6, 2) := by decide +kernel
theorem dL_keeps_13 : decode cL_keeps 13 = .ok (.invokevirtual 47, 3) := by decide +kernel
theorem dL_keeps_16 : decode cL_keeps 16 = .ok (.i2l, 1) := by decide +kernel
theorem dL_keeps_17 : decode cL_keeps 17 = .ok (.lastore, 1) := by decide +kernel
theorem dL_keeps_18 : decode cL_keeps 18 = .ok (.goto 7, 3) := by decide +kernel
theorem dL_keeps_21 : decode cL_keeps 21 = .ok (.astore 8, 2) := by decide +kernel
theorem dL_keeps_23 : decode cL_keeps 23 = .ok (.iconst 1, 1) := by decide +kernel
theorem dL_keeps_24 : decode cL_keeps 24 = .ok (.ireturn, 1) := by decide +kernel
theorem dL_keeps_25 : decode cL_keeps 25 = .ok (.iconst 0, 1) := by decide +kernel
theorem dL_keeps_26 : decode cL_keeps 26 = .ok (.ireturn, 1) := by decide +kernel
theorem dL_price_0 : decode cL_price 0 = .ok (.aload 9, 2) := by decide +kernel
theorem dL_price_2 : decode cL_price 2 = .ok (.iconst 0, 1) := by decide +kernel
theorem dL_price_3 : decode cL_price 3 = .ok (.aload_n 0, 1) := by decide +kernel
theorem dL_price_4 : decode cL_price 4 = .ok (.iload_n 1, 1) := by decide +kernel
theorem dL_price_5 : decode cL_price 5 = .ok (.iload_n 2, 1) := by decide +kernel
theorem dL_price_6 : decode cL_price 6 = .ok (.iload_n 3, 1) := by decide +kernel
theorem dL_price_7 : decode cL_price 7 = .ok (.iload 4, 2) := by decide +kernel
theorem dL_price_9 : decode cL_price 9 = .ok (.iload 5, 2) := by decide +kernel
theorem dL_price_11 : decode cL_price 11 = .ok (.iload 6, 2) := by decide +kernel
theorem dL_price_13 : decode cL_price 13 = .ok (.iload 7, 2) := by decide +kernel
theorem dL_price_15 : decode cL_price 15 = .ok (.iload 8, 2) := by decide +kernel
theorem dL_price_17 : decode cL_price 17 = .ok (.invokevirtual 50, 3) := by decide +kernel
theorem dL_price_20 : decode cL_price 20 = .ok (.i2l, 1) := by decide +kernel
theorem dL_price_21 : decode cL_price 21 = .ok (.lastore, 1) := by decide +kernel
theorem dL_price_22 : decode cL_price 22 = .ok (.goto 7, 3) := by decide +kernel
theorem dL_price_25 : decode cL_price 25 = .ok (.astore 10, 2) := by decide +kernel
theorem dL_price_27 : decode cL_price 27 = .ok (.iconst 1, 1) := by decide +kernel
theorem dL_price_28 : decode cL_price 28 = .ok (.ireturn, 1) := by decide +kernel
theorem dL_price_29 : decode cL_price 29 = .ok (.iconst 0, 1) := by decide +kernel
theorem dL_price_30 : decode cL_price 30 = .ok (.ireturn, 1) := by decide +kernel
