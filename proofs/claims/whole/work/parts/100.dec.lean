theorem dX0_init_0 : decode cX0_init 0 = .ok (.aload_n 0, 1) := by decide +kernel
theorem dX0_init_1 : decode cX0_init 1 = .ok (.invokespecial 3, 3) := by decide +kernel
theorem dX0_init_4 : decode cX0_init 4 = .ok (.aload_n 0, 1) := by decide +kernel
theorem dX0_init_5 : decode cX0_init 5 = .ok (.iconst 0, 1) := by decide +kernel
theorem dX0_init_6 : decode cX0_init 6 = .ok (.iload_n 1, 1) := by decide +kernel
theorem dX0_init_7 : decode cX0_init 7 = .ok (.invokestatic 9, 3) := by decide +kernel
theorem dX0_init_10 : decode cX0_init 10 = .ok (.newarray .int, 2) := by decide +kernel
theorem dX0_init_12 : decode cX0_init 12 = .ok (.putfield 15, 3) := by decide +kernel
theorem dX0_init_15 : decode cX0_init 15 = .ok (.return_, 1) := by decide +kernel
theorem dX0_add_0 : decode cX0_add 0 = .ok (.aload_n 0, 1) := by decide +kernel
theorem dX0_add_1 : decode cX0_add 1 = .ok (.getfield 21, 3) := by decide +kernel
theorem dX0_add_4 : decode cX0_add 4 = .ok (.ifCond .lt 15, 3) := by decide +kernel
theorem dX0_add_7 : decode cX0_add 7 = .ok (.aload_n 0, 1) := by decide +kernel
theorem dX0_add_8 : decode cX0_add 8 = .ok (.getfield 21, 3) := by decide +kernel
theorem dX0_add_11 : decode cX0_add 11 = .ok (.aload_n 0, 1) := by decide +kernel
theorem dX0_add_12 : decode cX0_add 12 = .ok (.getfield 15, 3) := by decide +kernel
theorem dX0_add_15 : decode cX0_add 15 = .ok (.arraylength, 1) := by decide +kernel
theorem dX0_add_16 : decode cX0_add 16 = .ok (.if_icmp .lt 5, 3) := by decide +kernel
theorem dX0_add_19 : decode cX0_add 19 = .ok (.iconst 0, 1) := by decide +kernel
theorem dX0_add_20 : decode cX0_add 20 = .ok (.ireturn, 1) := by decide +kernel
theorem dX0_add_21 : decode cX0_add 21 = .ok (.aload_n 0, 1) := by decide +kernel
theorem dX0_add_22 : decode cX0_add 22 = .ok (.getfield 15, 3) := by decide +kernel
theorem dX0_add_25 : decode cX0_add 25 = .ok (.aload_n 0, 1) := by decide +kernel
theorem dX0_add_26 : decode cX0_add 26 = .ok (.getfield 21, 3) := by decide +kernel
theorem dX0_add_29 : decode cX0_add 29 = .ok (.iload_n 1, 1) := by decide +kernel
theorem dX0_add_30 : decode cX0_add 30 = .ok (.iastore, 1) := by decide +kernel
theorem dX0_add_31 : decode cX0_add 31 = .ok (.aload_n 0, 1) := by decide +kernel
theorem dX0_add_32 : decode cX0_add 32 = .ok (.dup, 1) := by decide +kernel
theorem dX0_add_33 : decode cX0_add 33 = .ok (.getfield 21, 3) := by decide +kernel
theorem dX0_add_36 : decode cX0_add 36 = .ok (.iconst 1, 1) := by decide +kernel
theorem dX0_add_37 : decode cX0_add 37 = .ok (.iadd, 1) := by decide +kernel
theorem dX0_add_38 : decode cX0_add 38 = .ok (.putfield 21, 3) := by decide +kernel
theorem dX0_add_41 : decode cX0_add 41 = .ok (.iconst 1, 1) := by decide +kernel
theorem dX0_add_42 : decode cX0_add 42 = .ok (.ireturn, 1) := by decide +kernel
theorem dX0_at_0 : decode cX0_at 0 = .ok (.iload_n 1, 1) := by decide +kernel
theorem dX0_at_1 : decode cX0_at 1 = .ok (.ifCond .lt 20, 3) := by decide +kernel
theorem dX0_at_4 : decode cX0_at 4 = .ok (.iload_n 1, 1) := by decide +kernel
theorem dX0_at_5 : decode cX0_at 5 = .ok (.aload_n 0, 1) := by decide +kernel
theorem dX0_at_6 : decode cX0_at 6 = .ok (.getfield 21, 3) := by decide +kernel
theorem dX0_at_9 : decode cX0_at 9 = .ok (.if_icmp .ge 12, 3) := by decide +kernel
theorem dX0_at_12 : decode cX0_at 12 = .ok (.iload_n 1, 1) := by decide +kernel
theorem dX0_at_13 : decode cX0_at 13 = .ok (.aload_n 0, 1) := by decide +kernel
theorem dX0_at_14 : decode cX0_at 14 = .ok (.getfield 15, 3) := by decide +kernel
theorem dX0_at_17 : decode cX0_at 17 = .ok (.arraylength, 1) := by decide +kernel
theorem dX0_at_18 : decode cX0_at 18 = .ok (.if_icmp .lt 7, 3) := by decide +kernel
theorem dX0_at_21 : decode cX0_at 21 = .ok (.iconst (-1), 1) := by decide +kernel
theorem dX0_at_22 : decode cX0_at 22 = .ok (.goto 9, 3) := by decide +kernel
theorem dX0_at_25 : decode cX0_at 25 = .ok (.aload_n 0, 1) := by decide +kernel
theorem dX0_at_26 : decode cX0_at 26 = .ok (.getfield 15, 3) := by decide +kernel
theorem dX0_at_29 : decode cX0_at 29 = .ok (.iload_n 1, 1) := by decide +kernel
theorem dX0_at_30 : decode cX0_at 30 = .ok (.iaload, 1) := by decide +kernel
theorem dX0_at_31 : decode cX0_at 31 = .ok (.ireturn, 1) := by decide +kernel
theorem dX0_last_0 : decode cX0_last 0 = .ok (.aload_n 0, 1) := by decide +kernel
theorem dX0_last_1 : decode cX0_last 1 = .ok (.getfield 21, 3) := by decide +kernel
theorem dX0_last_4 : decode cX0_last 4 = .ok (.iconst 1, 1) := by decide +kernel
theorem dX0_last_5 : decode cX0_last 5 = .ok (.if_icmp .lt 15, 3) := by decide +kernel
theorem dX0_last_8 : decode cX0_last 8 = .ok (.aload_n 0, 1) := by decide +kernel
theorem dX0_last_9 : decode cX0_last 9 = .ok (.getfield 21, 3) := by decide +kernel
theorem dX0_last_12 : decode cX0_last 12 = .ok (.aload_n 0, 1) := by decide +kernel
theorem dX0_last_13 : decode cX0_last 13 = .ok (.getfield 15, 3) := by decide +kernel
theorem dX0_last_16 : decode cX0_last 16 = .ok (.arraylength, 1) := by decide +kernel
theorem dX0_last_17 : decode cX0_last 17 = .ok (.if_icmp .le 7, 3) := by decide +kernel
theorem dX0_last_20 : decode cX0_last 20 = .ok (.iconst (-1), 1) := by decide +kernel
theorem dX0_last_21 : decode cX0_last 21 = .ok (.goto 14, 3) := by decide +kernel
theorem dX0_last_24 : decode cX0_last 24 = .ok (.aload_n 0, 1) := by decide +kernel
theorem dX0_last_25 : decode cX0_last 25 = .ok (.getfield 15, 3) := by decide +kernel
theorem dX0_last_28 : decode cX0_last 28 = .ok (.aload_n 0, 1) := by decide +kernel
theorem dX0_last_29 : decode cX0_last 29 = .ok (.getfield 21, 3) := by decide +kernel
theorem dX0_last_32 : decode cX0_last 32 = .ok (.iconst 1, 1) := by decide +kernel
theorem dX0_last_33 : decode cX0_last 33 = .ok (.isub, 1) := by decide +kernel
theorem dX0_last_34 : decode cX0_last 34 = .ok (.iaload, 1) := by decide +kernel
theorem dX0_last_35 : decode cX0_last 35 = .ok (.ireturn, 1) := by decide +kernel
theorem dX0_dropLast_0 : decode cX0_dropLast 0 = .ok (.aload_n 0, 1) := by decide +kernel
theorem dX0_dropLast_1 : decode cX0_dropLast 1 = .ok (.getfield 21, 3) := by decide +kernel
theorem dX0_dropLast_4 : decode cX0_dropLast 4 = .ok (.ifCond .le 13, 3) := by decide +kernel
theorem dX0_dropLast_7 : decode cX0_dropLast 7 = .ok (.aload_n 0, 1) := by decide +kernel
theorem dX0_dropLast_8 : decode cX0_dropLast 8 = .ok (.dup, 1) := by decide +kernel
theorem dX0_dropLast_9 : decode cX0_dropLast 9 = .ok (.getfield 21, 3) := by decide +kernel
theorem dX0_dropLast_12 : decode cX0_dropLast 12 = .ok (.iconst 1, 1) := by decide +kernel
theorem dX0_dropLast_13 : decode cX0_dropLast 13 = .ok (.isub, 1) := by decide +kernel
theorem dX0_dropLast_14 : decode cX0_dropLast 14 = .ok (.putfield 21, 3) := by decide +kernel
theorem dX0_dropLast_17 : decode cX0_dropLast 17 = .ok (.return_, 1) := by decide +kernel
theorem dX0_holds_0 : decode cX0_holds 0 = .ok (.iconst 0, 1) := by decide +kernel
theorem dX0_holds_1 : decode cX0_holds 1 = .ok (.istore_n 2, 1) := by decide +kernel
theorem dX0_holds_2 : decode cX0_holds 2 = .ok (.iload_n 2, 1) := by decide +kernel
theorem dX0_holds_3 : decode cX0_holds 3 = .ok (.aload_n 0, 1) := by decide +kernel
theorem dX0_holds_4 : decode cX0_holds 4 = .ok (.getfield 21, 3) := by decide +kernel
theorem dX0_holds_7 : decode cX0_holds 7 = .ok (.if_icmp .ge 20, 3) := by decide +kernel
theorem dX0_holds_10 : decode cX0_holds 10 = .ok (.aload_n 0, 1) := by decide +kernel
theorem dX0_holds_11 : decode cX0_holds 11 = .ok (.iload_n 2, 1) := by decide +kernel
theorem dX0_holds_12 : decode cX0_holds 12 = .ok (.invokevirtual 25, 3) := by decide +kernel
theorem dX0_holds_15 : decode cX0_holds 15 = .ok (.iload_n 1, 1) := by decide +kernel
theorem dX0_holds_16 : decode cX0_holds 16 = .ok (.if_icmp .ne 5, 3) := by decide +kernel
theorem dX0_holds_19 : decode cX0_holds 19 = .ok (.iconst 1, 1) := by decide +kernel
theorem dX0_holds_20 : decode cX0_holds 20 = .ok (.ireturn, 1) := by decide +kernel
theorem dX0_holds_21 : decode cX0_holds 21 = .ok (.iinc 2 1, 3) := by decide +kernel
theorem dX0_holds_24 : decode cX0_holds 24 = .ok (.goto (-22), 3) := by decide +kernel
theorem dX0_holds_27 : decode cX0_holds 27 = .ok (.iconst 0, 1) := by decide +kernel
theorem dX0_holds_28 : decode cX0_holds 28 = .ok (.ireturn, 1) := by decide +kernel
theorem dX0_empty_0 : decode cX0_empty 0 = .ok (.aload_n 0, 1) := by decide +kernel
theorem dX0_empty_1 : decode cX0_empty 1 = .ok (.iconst 0, 1) := by decide +kernel
theorem dX0_empty_2 : decode cX0_empty 2 = .ok (.putfield 21, 3) := by decide +kernel
theorem dX0_empty_5 : decode cX0_empty 5 = .ok (.return_, 1) := by decide +kernel
theorem dX0_copy_0 : decode cX0_copy 0 = .ok (.aload_n 0, 1) := by decide +kernel
theorem dX0_copy_1 : decode cX0_copy 1 = .ok (.iconst 0, 1) := by decide +kernel
theorem dX0_copy_2 : decode cX0_copy 2 = .ok (.putfield 21, 3) := by decide +kernel
theorem dX0_copy_5 : decode cX0_copy 5 = .ok (.iconst 0, 1) := by decide +kernel
theorem dX0_copy_6 : decode cX0_copy 6 = .ok (.istore_n 2, 1) := by decide +kernel
theorem dX0_copy_7 : decode cX0_copy 7 = .ok (.iload_n 2, 1) := by decide +kernel
theorem dX0_copy_8 : decode cX0_copy 8 = .ok (.aload_n 1, 1) := by decide +kernel
theorem dX0_copy_9 : decode cX0_copy 9 = .ok (.getfield 21, 3) := by decide +kernel
theorem dX0_copy_12 : decode cX0_copy 12 = .ok (.if_icmp .ge 19, 3) := by decide +kernel
theorem dX0_copy_15 : decode cX0_copy 15 = .ok (.aload_n 0, 1) := by decide +kernel
theorem dX0_copy_16 : decode cX0_copy 16 = .ok (.aload_n 1, 1) := by decide +kernel
theorem dX0_copy_17 : decode cX0_copy 17 = .ok (.iload_n 2, 1) := by decide +kernel
theorem dX0_copy_18 : decode cX0_copy 18 = .ok (.invokevirtual 25, 3) := by decide +kernel
theorem dX0_copy_21 : decode cX0_copy 21 = .ok (.invokevirtual 29, 3) := by decide +kernel
theorem dX0_copy_24 : decode cX0_copy 24 = .ok (.pop, 1) := by decide +kernel
theorem dX0_copy_25 : decode cX0_copy 25 = .ok (.iinc 2 1, 3) := by decide +kernel
theorem dX0_copy_28 : decode cX0_copy 28 = .ok (.goto (-21), 3) := by decide +kernel
theorem dX0_copy_31 : decode cX0_copy 31 = .ok (.return_, 1) := by decide +kernel
theorem dX1_init_0 : decode cX1_init 0 = .ok (.aload_n 0, 1) := by decide +kernel
theorem dX1_init_1 : decode cX1_init 1 = .ok (.invokespecial 3, 3) := by decide +kernel
theorem dX1_init_4 : decode cX1_init 4 = .ok (.aload_n 0, 1) := by decide +kernel
theorem dX1_init_5 : decode cX1_init 5 = .ok (.sipush 960, 3) := by decide +kernel
theorem dX1_init_8 : decode cX1_init 8 = .ok (.newarray .int, 2) := by decide +kernel
theorem dX1_init_10 : decode cX1_init 10 = .ok (.putfield 9, 3) := by decide +kernel
theorem dX1_init_13 : decode cX1_init 13 = .ok (.aload_n 0, 1) := by decide +kernel
theorem dX1_init_14 : decode cX1_init 14 = .ok (.sipush 12000, 3) := by decide +kernel
theorem dX1_init_17 : decode cX1_init 17 = .ok (.newarray .int, 2) := by decide +kernel
theorem dX1_init_19 : decode cX1_init 19 = .ok (.putfield 15, 3) := by decide +kernel
theorem dX1_init_22 : decode cX1_init 22 = .ok (.aload_n 0, 1) := by decide +kernel
theorem dX1_init_23 : decode cX1_init 23 = .ok (.aload_n 1, 1) := by decide +kernel
theorem dX1_init_24 : decode cX1_init 24 = .ok (.putfield 18, 3) := by decide +kernel
theorem dX1_init_27 : decode cX1_init 27 = .ok (.return_, 1) := by decide +kernel
theorem dX1_gather_0 : decode cX1_gather 0 = .ok (.aload_n 0, 1) := by decide +kernel
theorem dX1_gather_1 : decode cX1_gather 1 = .ok (.iconst 0, 1) := by decide +kernel
theorem dX1_gather_2 : decode cX1_gather 2 = .ok (.iload_n 2, 1) := by decide +kernel
theorem dX1_gather_3 : decode cX1_gather 3 = .ok (.bipush 8, 2) := by decide +kernel
theorem dX1_gather_5 : decode cX1_gather 5 = .ok (.invokestatic 22, 3) := by decide +kernel
theorem dX1_gather_8 : decode cX1_gather 8 = .ok (.invokestatic 28, 3) := by decide +kernel
theorem dX1_gather_11 : decode cX1_gather 11 = .ok (.putfield 31, 3) := by decide +kernel
theorem dX1_gather_14 : decode cX1_gather 14 = .ok (.aload_n 0, 1) := by decide +kernel
theorem dX1_gather_15 : decode cX1_gather 15 = .ok (.iload_n 3, 1) := by decide +kernel
theorem dX1_gather_16 : decode cX1_gather 16 = .ok (.putfield 35, 3) := by decide +kernel
theorem dX1_gather_19 : decode cX1_gather 19 = .ok (.aload_n 0, 1) := by decide +kernel
theorem dX1_gather_20 : decode cX1_gather 20 = .ok (.iload_n 1, 1) := by decide +kernel
theorem dX1_gather_21 : decode cX1_gather 21 = .ok (.putfield 38, 3) := by decide +kernel
theorem dX1_gather_24 : decode cX1_gather 24 = .ok (.aload_n 0, 1) := by decide +kernel
theorem dX1_gather_25 : decode cX1_gather 25 = .ok (.getfield 15, 3) := by decide +kernel
theorem dX1_gather_28 : decode cX1_gather 28 = .ok (.iconst 0, 1) := by decide +kernel
theorem dX1_gather_29 : decode cX1_gather 29 = .ok (.invokestatic 41, 3) := by decide +kernel
theorem dX1_gather_32 : decode cX1_gather 32 = .ok (.aload_n 0, 1) := by decide +kernel
theorem dX1_gather_33 : decode cX1_gather 33 = .ok (.getfield 18, 3) := by decide +kernel
theorem dX1_gather_36 : decode cX1_gather 36 = .ok (.aload_n 0, 1) := by decide +kernel
theorem dX1_gather_37 : decode cX1_gather 37 = .ok (.getfield 15, 3) := by decide +kernel
theorem dX1_gather_40 : decode cX1_gather 40 = .ok (.putfield 47, 3) := by decide +kernel
theorem dX1_gather_43 : decode cX1_gather 43 = .ok (.iconst 1, 1) := by decide +kernel
theorem dX1_gather_44 : decode cX1_gather 44 = .ok (.istore 4, 2) := by decide +kernel
theorem dX1_gather_46 : decode cX1_gather 46 = .ok (.iconst 0, 1) := by decide +kernel
theorem dX1_gather_47 : decode cX1_gather 47 = .ok (.istore 5, 2) := by decide +kernel
theorem dX1_gather_49 : decode cX1_gather 49 = .ok (.iload 5, 2) := by decide +kernel
theorem dX1_gather_51 : decode cX1_gather 51 = .ok (.aload_n 0, 1) := by decide +kernel
theorem dX1_gather_52 : decode cX1_gather 52 = .ok (.getfield 31, 3) := by decide +kernel
theorem dX1_gather_55 : decode cX1_gather 55 = .ok (.if_icmp .ge 24, 3) := by decide +kernel
theorem dX1_gather_58 : decode cX1_gather 58 = .ok (.iload 4, 2) := by decide +kernel
theorem dX1_gather_60 : decode cX1_gather 60 = .ok (.ifCond .eq 19, 3) := by decide +kernel
theorem dX1_gather_63 : decode cX1_gather 63 = .ok (.aload_n 0, 1) := by decide +kernel
theorem dX1_gather_64 : decode cX1_gather 64 = .ok (.iload 5, 2) := by decide +kernel
theorem dX1_gather_66 : decode cX1_gather 66 = .ok (.ldc 52, 2) := by decide +kernel
theorem dX1_gather_68 : decode cX1_gather 68 = .ok (.invokevirtual 53, 3) := by decide +kernel
theorem dX1_gather_71 : decode cX1_gather 71 = .ok (.istore 4, 2) := by decide +kernel
theorem dX1_gather_73 : decode cX1_gather 73 = .ok (.iinc 5 1, 3) := by decide +kernel
theorem dX1_gather_76 : decode cX1_gather 76 = .ok (.goto (-27), 3) := by decide +kernel
theorem dX1_gather_79 : decode cX1_gather 79 = .ok (.iload 4, 2) := by decide +kernel
theorem dX1_gather_81 : decode cX1_gather 81 = .ok (.istore 5, 2) := by decide +kernel
theorem dX1_gather_83 : decode cX1_gather 83 = .ok (.aload_n 0, 1) := by decide +kernel
theorem dX1_gather_84 : decode cX1_gather 84 = .ok (.iconst 0, 1) := by decide +kernel
theorem dX1_gather_85 : decode cX1_gather 85 = .ok (.putfield 57, 3) := by decide +kernel
theorem dX1_gather_88 : decode cX1_gather 88 = .ok (.iconst 0, 1) := by decide +kernel
theorem dX1_gather_89 : decode cX1_gather 89 = .ok (.istore 6, 2) := by decide +kernel
theorem dX1_gather_91 : decode cX1_gather 91 = .ok (.iload 6, 2) := by decide +kernel
theorem dX1_gather_93 : decode cX1_gather 93 = .ok (.ldc 60, 2) := by decide +kernel
theorem dX1_gather_95 : decode cX1_gather 95 = .ok (.if_icmp .ge 88, 3) := by decide +kernel
theorem dX1_gather_98 : decode cX1_gather 98 = .ok (.iload 5, 2) := by decide +kernel
theorem dX1_gather_100 : decode cX1_gather 100 = .ok (.ifCond .eq 83, 3) := by decide +kernel
theorem dX1_gather_103 : decode cX1_gather 103 = .ok (.iconst 0, 1) := by decide +kernel
theorem dX1_gather_104 : decode cX1_gather 104 = .ok (.istore 5, 2) := by decide +kernel
theorem dX1_gather_106 : decode cX1_gather 106 = .ok (.iconst 0, 1) := by decide +kernel
theorem dX1_gather_107 : decode cX1_gather 107 = .ok (.istore 7, 2) := by decide +kernel
theorem dX1_gather_109 : decode cX1_gather 109 = .ok (.iload 7, 2) := by decide +kernel
theorem dX1_gather_111 : decode cX1_gather 111 = .ok (.aload_n 0, 1) := by decide +kernel
theorem dX1_gather_112 : decode cX1_gather 112 = .ok (.getfield 31, 3) := by decide +kernel
theorem dX1_gather_115 : decode cX1_gather 115 = .ok (.if_icmp .ge 52, 3) := by decide +kernel
theorem dX1_gather_118 : decode cX1_gather 118 = .ok (.aload_n 0, 1) := by decide +kernel
theorem dX1_gather_119 : decode cX1_gather 119 = .ok (.iload 7, 2) := by decide +kernel
theorem dX1_gather_121 : decode cX1_gather 121 = .ok (.aload_n 0, 1) := by decide +kernel
theorem dX1_gather_122 : decode cX1_gather 122 = .ok (.getfield 35, 3) := by decide +kernel
theorem dX1_gather_125 : decode cX1_gather 125 = .ok (.ineg, 1) := by decide +kernel
theorem dX1_gather_126 : decode cX1_gather 126 = .ok (.invokevirtual 61, 3) := by decide +kernel
theorem dX1_gather_129 : decode cX1_gather 129 = .ok (.aload_n 0, 1) := by decide +kernel
theorem dX1_gather_130 : decode cX1_gather 130 = .ok (.iload 7, 2) := by decide +kernel
theorem dX1_gather_132 : decode cX1_gather 132 = .ok (.aload_n 0, 1) := by decide +kernel
theorem dX1_gather_133 : decode cX1_gather 133 = .ok (.iload 7, 2) := by decide +kernel
theorem dX1_gather_135 : decode cX1_gather 135 = .ok (.iconst 0, 1) := by decide +kernel
theorem dX1_gather_136 : decode cX1_gather 136 = .ok (.invokevirtual 65, 3) := by decide +kernel
theorem dX1_gather_139 : decode cX1_gather 139 = .ok (.invokevirtual 53, 3) := by decide +kernel
theorem dX1_gather_142 : decode cX1_gather 142 = .ok (.ifCond .eq 9, 3) := by decide +kernel
theorem dX1_gather_145 : decode cX1_gather 145 = .ok (.iconst 1, 1) := by decide +kernel
theorem dX1_gather_146 : decode cX1_gather 146 = .ok (.istore 5, 2) := by decide +kernel
theorem dX1_gather_148 : decode cX1_gather 148 = .ok (.goto 13, 3) := by decide +kernel
theorem dX1_gather_151 : decode cX1_gather 151 = .ok (.aload_n 0, 1) := by decide +kernel
theorem dX1_gather_152 : decode cX1_gather 152 = .ok (.iload 7, 2) := by decide +kernel
theorem dX1_gather_154 : decode cX1_gather 154 = .ok (.aload_n 0, 1) := by decide +kernel
theorem dX1_gather_155 : decode cX1_gather 155 = .ok (.getfield 35, 3) := by decide +kernel
theorem dX1_gather_158 : decode cX1_gather 158 = .ok (.invokevirtual 61, 3) := by decide +kernel
theorem dX1_gather_161 : decode cX1_gather 161 = .ok (.iinc 7 1, 3) := by decide +kernel
theorem dX1_gather_164 : decode cX1_gather 164 = .ok (.goto (-55), 3) := by decide +kernel
theorem dX1_gather_167 : decode cX1_gather 167 = .ok (.aload_n 0, 1) := by decide +kernel
theorem dX1_gather_168 : decode cX1_gather 168 = .ok (.dup, 1) := by decide +kernel
theorem dX1_gather_169 : decode cX1_gather 169 = .ok (.getfield 57, 3) := by decide +kernel
theorem dX1_gather_172 : decode cX1_gather 172 = .ok (.iconst 1, 1) := by decide +kernel
theorem dX1_gather_173 : decode cX1_gather 173 = .ok (.iadd, 1) := by decide +kernel
theorem dX1_gather_174 : decode cX1_gather 174 = .ok (.putfield 57, 3) := by decide +kernel
theorem dX1_gather_177 : decode cX1_gather 177 = .ok (.iinc 6 1, 3) := by decide +kernel
theorem dX1_gather_180 : decode cX1_gather 180 = .ok (.goto (-89), 3) := by decide +kernel
theorem dX1_gather_183 : decode cX1_gather 183 = .ok (.iload 4, 2) := by decide +kernel
theorem dX1_gather_185 : decode cX1_gather 185 = .ok (.ifCond .eq 7, 3) := by decide +kernel
theorem dX1_gather_188 : decode cX1_gather 188 = .ok (.aload_n 0, 1) := by decide +kernel
theorem dX1_gather_189 : decode cX1_gather 189 = .ok (.invokevirtual 69, 3) := by decide +kernel
theorem dX1_gather_192 : decode cX1_gather 192 = .ok (.aload_n 0, 1) := by decide +kernel
theorem dX1_gather_193 : decode cX1_gather 193 = .ok (.getfield 18, 3) := by decide +kernel
theorem dX1_gather_196 : decode cX1_gather 196 = .ok (.aconst_null, 1) := by decide +kernel
theorem dX1_gather_197 : decode cX1_gather 197 = .ok (.putfield 47, 3) := by decide +kernel
theorem dX1_gather_200 : decode cX1_gather 200 = .ok (.iload 4, 2) := by decide +kernel
theorem dX1_gather_202 : decode cX1_gather 202 = .ok (.ireturn, 1) := by decide +kernel
theorem dX1_choose_0 : decode cX1_choose 0 = .ok (.aload_n 0, 1) := by decide +kernel
theorem dX1_choose_1 : decode cX1_choose 1 = .ok (.getfield 18, 3) := by decide +kernel
theorem dX1_choose_4 : decode cX1_choose 4 = .ok (.iload_n 2, 1) := by decide +kernel
theorem dX1_choose_5 : decode cX1_choose 5 = .ok (.aload_n 0, 1) := by decide +kernel
theorem dX1_choose_6 : decode cX1_choose 6 = .ok (.getfield 38, 3) := by decide +kernel
theorem dX1_choose_9 : decode cX1_choose 9 = .ok (.invokevirtual 72, 3) := by decide +kernel
theorem dX1_choose_12 : decode cX1_choose 12 = .ok (.ifCond .ne 5, 3) := by decide +kernel
theorem dX1_choose_15 : decode cX1_choose 15 = .ok (.iconst 0, 1) := by decide +kernel
theorem dX1_choose_16 : decode cX1_choose 16 = .ok (.ireturn, 1) := by decide +kernel
theorem dX1_choose_17 : decode cX1_choose 17 = .ok (.aload_n 0, 1) := by decide +kernel
theorem dX1_choose_18 : decode cX1_choose 18 = .ok (.getfield 18, 3) := by decide +kernel
theorem dX1_choose_21 : decode cX1_choose 21 = .ok (.aload_n 0, 1) := by decide +kernel
theorem dX1_choose_22 : decode cX1_choose 22 = .ok (.getfield 18, 3) := by decide +kernel
theorem dX1_choose_25 : decode cX1_choose 25 = .ok (.getfield 75, 3) := by decide +kernel
theorem dX1_choose_28 : decode cX1_choose 28 = .ok (.aload_n 0, 1) := by decide +kernel
theorem dX1_choose_29 : decode cX1_choose 29 = .ok (.getfield 18, 3) := by decide +kernel
theorem dX1_choose_32 : decode cX1_choose 32 = .ok (.getfield 78, 3) := by decide +kernel
theorem dX1_choose_35 : decode cX1_choose 35 = .ok (.iconst 1, 1) := by decide +kernel
theorem dX1_choose_36 : decode cX1_choose 36 = .ok (.invokevirtual 81, 3) := by decide +kernel
theorem dX1_choose_39 : decode cX1_choose 39 = .ok (.aload_n 0, 1) := by decide +kernel
theorem dX1_choose_40 : decode cX1_choose 40 = .ok (.getfield 18, 3) := by decide +kernel
theorem dX1_choose_43 : decode cX1_choose 43 = .ok (.invokevirtual 85, 3) := by decide +kernel
theorem dX1_choose_46 : decode cX1_choose 46 = .ok (.aload_n 0, 1) := by decide +kernel
theorem dX1_choose_47 : decode cX1_choose 47 = .ok (.getfield 18, 3) := by decide +kernel
theorem dX1_choose_50 : decode cX1_choose 50 = .ok (.getfield 88, 3) := by decide +kernel
theorem dX1_choose_53 : decode cX1_choose 53 = .ok (.iconst 0, 1) := by decide +kernel
theorem dX1_choose_54 : decode cX1_choose 54 = .ok (.aload_n 0, 1) := by decide +kernel
theorem dX1_choose_55 : decode cX1_choose 55 = .ok (.getfield 9, 3) := by decide +kernel
theorem dX1_choose_58 : decode cX1_choose 58 = .ok (.iload_n 1, 1) := by decide +kernel
theorem dX1_choose_59 : decode cX1_choose 59 = .ok (.bipush 120, 2) := by decide +kernel
theorem dX1_choose_61 : decode cX1_choose 61 = .ok (.imul, 1) := by decide +kernel
theorem dX1_choose_62 : decode cX1_choose 62 = .ok (.bipush 120, 2) := by decide +kernel
theorem dX1_choose_64 : decode cX1_choose 64 = .ok (.invokestatic 91, 3) := by decide +kernel
theorem dX1_choose_67 : decode cX1_choose 67 = .ok (.aload_n 0, 1) := by decide +kernel
theorem dX1_choose_68 : decode cX1_choose 68 = .ok (.iload_n 1, 1) := by decide +kernel
theorem dX1_choose_69 : decode cX1_choose 69 = .ok (.aload_n 0, 1) := by decide +kernel
theorem dX1_choose_70 : decode cX1_choose 70 = .ok (.getfield 35, 3) := by decide +kernel
theorem dX1_choose_73 : decode cX1_choose 73 = .ok (.invokevirtual 61, 3) := by decide +kernel
theorem dX1_choose_76 : decode cX1_choose 76 = .ok (.iconst 1, 1) := by decide +kernel
theorem dX1_choose_77 : decode cX1_choose 77 = .ok (.ireturn, 1) := by decide +kernel
theorem dX1_crowdOut_0 : decode cX1_crowdOut 0 = .ok (.iconst 0, 1) := by decide +kernel
theorem dX1_crowdOut_1 : decode cX1_crowdOut 1 = .ok (.istore_n 3, 1) := by decide +kernel
theorem dX1_crowdOut_2 : decode cX1_crowdOut 2 = .ok (.iload_n 3, 1) := by decide +kernel
theorem dX1_crowdOut_3 : decode cX1_crowdOut 3 = .ok (.bipush 120, 2) := by decide +kernel
theorem dX1_crowdOut_5 : decode cX1_crowdOut 5 = .ok (.if_icmp .ge 41, 3) := by decide +kernel
theorem dX1_crowdOut_8 : decode cX1_crowdOut 8 = .ok (.aload_n 0, 1) := by decide +kernel
theorem dX1_crowdOut_9 : decode cX1_crowdOut 9 = .ok (.iload_n 1, 1) := by decide +kernel
theorem dX1_crowdOut_10 : decode cX1_crowdOut 10 = .ok (.iload_n 3, 1) := by decide +kernel
theorem dX1_crowdOut_11 : decode cX1_crowdOut 11 = .ok (.invokevirtual 97, 3) := by decide +kernel
theorem dX1_crowdOut_14 : decode cX1_crowdOut 14 = .ok (.istore 4, 2) := by decide +kernel
theorem dX1_crowdOut_16 : decode cX1_crowdOut 16 = .ok (.iload 4, 2) := by decide +kernel
theorem dX1_crowdOut_18 : decode cX1_crowdOut 18 = .ok (.invokestatic 100, 3) := by decide +kernel
theorem dX1_crowdOut_21 : decode cX1_crowdOut 21 = .ok (.ifCond .eq 19, 3) := by decide +kernel
theorem dX1_crowdOut_24 : decode cX1_crowdOut 24 = .ok (.aload_n 0, 1) := by decide +kernel
theorem dX1_crowdOut_25 : decode cX1_crowdOut 25 = .ok (.getfield 15, 3) := by decide +kernel
theorem dX1_crowdOut_28 : decode cX1_crowdOut 28 = .ok (.iload_n 3, 1) := by decide +kernel
theorem dX1_crowdOut_29 : decode cX1_crowdOut 29 = .ok (.bipush 100, 2) := by decide +kernel
theorem dX1_crowdOut_31 : decode cX1_crowdOut 31 = .ok (.imul, 1) := by decide +kernel
theorem dX1_crowdOut_32 : decode cX1_crowdOut 32 = .ok (.iload 4, 2) := by decide +kernel
theorem dX1_crowdOut_34 : decode cX1_crowdOut 34 = .ok (.iadd, 1) := by decide +kernel
theorem dX1_crowdOut_35 : decode cX1_crowdOut 35 = .ok (.dup2, 1) := by decide +kernel
theorem dX1_crowdOut_36 : decode cX1_crowdOut 36 = .ok (.iaload, 1) := by decide +kernel
theorem dX1_crowdOut_37 : decode cX1_crowdOut 37 = .ok (.iload_n 2, 1) := by decide +kernel
theorem dX1_crowdOut_38 : decode cX1_crowdOut 38 = .ok (.iadd, 1) := by decide +kernel
theorem dX1_crowdOut_39 : decode cX1_crowdOut 39 = .ok (.iastore, 1) := by decide +kernel
theorem dX1_crowdOut_40 : decode cX1_crowdOut 40 = .ok (.iinc 3 1, 3) := by decide +kernel
theorem dX1_crowdOut_43 : decode cX1_crowdOut 43 = .ok (.goto (-41), 3) := by decide +kernel
theorem dX1_crowdOut_46 : decode cX1_crowdOut 46 = .ok (.return_, 1) := by decide +kernel
theorem dX1_costOf_0 : decode cX1_costOf 0 = .ok (.iconst 0, 1) := by decide +kernel
theorem dX1_costOf_1 : decode cX1_costOf 1 = .ok (.istore_n 3, 1) := by decide +kernel
theorem dX1_costOf_2 : decode cX1_costOf 2 = .ok (.iconst 0, 1) := by decide +kernel
theorem dX1_costOf_3 : decode cX1_costOf 3 = .ok (.istore 4, 2) := by decide +kernel
theorem dX1_costOf_5 : decode cX1_costOf 5 = .ok (.iload 4, 2) := by decide +kernel
theorem dX1_costOf_7 : decode cX1_costOf 7 = .ok (.bipush 120, 2) := by decide +kernel
theorem dX1_costOf_9 : decode cX1_costOf 9 = .ok (.if_icmp .ge 75, 3) := by decide +kernel
theorem dX1_costOf_12 : decode cX1_costOf 12 = .ok (.aload_n 0, 1) := by decide +kernel
theorem dX1_costOf_13 : decode cX1_costOf 13 = .ok (.iload_n 1, 1) := by decide +kernel
theorem dX1_costOf_14 : decode cX1_costOf 14 = .ok (.iload 4, 2) := by decide +kernel
theorem dX1_costOf_16 : decode cX1_costOf 16 = .ok (.invokevirtual 97, 3) := by decide +kernel
theorem dX1_costOf_19 : decode cX1_costOf 19 = .ok (.istore 5, 2) := by decide +kernel
theorem dX1_costOf_21 : decode cX1_costOf 21 = .ok (.iload 5, 2) := by decide +kernel
theorem dX1_costOf_23 : decode cX1_costOf 23 = .ok (.invokestatic 100, 3) := by decide +kernel
theorem dX1_costOf_26 : decode cX1_costOf 26 = .ok (.ifCond .eq 52, 3) := by decide +kernel
theorem dX1_costOf_29 : decode cX1_costOf 29 = .ok (.iload_n 3, 1) := by decide +kernel
theorem dX1_costOf_30 : decode cX1_costOf 30 = .ok (.aload_n 0, 1) := by decide +kernel
theorem dX1_costOf_31 : decode cX1_costOf 31 = .ok (.getfield 18, 3) := by decide +kernel
theorem dX1_costOf_34 : decode cX1_costOf 34 = .ok (.getfield 104, 3) := by decide +kernel
theorem dX1_costOf_37 : decode cX1_costOf 37 = .ok (.iload 4, 2) := by decide +kernel
theorem dX1_costOf_39 : decode cX1_costOf 39 = .ok (.iload 5, 2) := by decide +kernel
theorem dX1_costOf_41 : decode cX1_costOf 41 = .ok (.invokevirtual 108, 3) := by decide +kernel
theorem dX1_costOf_44 : decode cX1_costOf 44 = .ok (.ifCond .eq 7, 3) := by decide +kernel
theorem dX1_costOf_47 : decode cX1_costOf 47 = .ok (.iconst 0, 1) := by decide +kernel
theorem dX1_costOf_48 : decode cX1_costOf 48 = .ok (.goto 4, 3) := by decide +kernel
theorem dX1_costOf_51 : decode cX1_costOf 51 = .ok (.iconst 1, 1) := by decide +kernel
theorem dX1_costOf_52 : decode cX1_costOf 52 = .ok (.iadd, 1) := by decide +kernel
theorem dX1_costOf_53 : decode cX1_costOf 53 = .ok (.istore_n 3, 1) := by decide +kernel
theorem dX1_costOf_54 : decode cX1_costOf 54 = .ok (.iload_n 3, 1) := by decide +kernel
theorem dX1_costOf_55 : decode cX1_costOf 55 = .ok (.iload_n 2, 1) := by decide +kernel
theorem dX1_costOf_56 : decode cX1_costOf 56 = .ok (.ifCond .eq 7, 3) := by decide +kernel
theorem dX1_costOf_59 : decode cX1_costOf 59 = .ok (.iconst 0, 1) := by decide +kernel
theorem dX1_costOf_60 : decode cX1_costOf 60 = .ok (.goto 16, 3) := by decide +kernel
theorem dX1_costOf_63 : decode cX1_costOf 63 = .ok (.aload_n 0, 1) := by decide +kernel
theorem dX1_costOf_64 : decode cX1_costOf 64 = .ok (.getfield 15, 3) := by decide +kernel
theorem dX1_costOf_67 : decode cX1_costOf 67 = .ok (.iload 4, 2) := by decide +kernel
theorem dX1_costOf_69 : decode cX1_costOf 69 = .ok (.bipush 100, 2) := by decide +kernel
theorem dX1_costOf_71 : decode cX1_costOf 71 = .ok (.imul, 1) := by decide +kernel
theorem dX1_costOf_72 : decode cX1_costOf 72 = .ok (.iload 5, 2) := by decide +kernel
theorem dX1_costOf_74 : decode cX1_costOf 74 = .ok (.iadd, 1) := by decide +kernel
theorem dX1_costOf_75 : decode cX1_costOf 75 = .ok (.iaload, 1) := by decide +kernel
theorem dX1_costOf_76 : decode cX1_costOf 76 = .ok (.iadd, 1) := by decide +kernel
theorem dX1_costOf_77 : decode cX1_costOf 77 = .ok (.istore_n 3, 1) := by decide +kernel
theorem dX1_costOf_78 : decode cX1_costOf 78 = .ok (.iinc 4 1, 3) := by decide +kernel
theorem dX1_costOf_81 : decode cX1_costOf 81 = .ok (.goto (-76), 3) := by decide +kernel
theorem dX1_costOf_84 : decode cX1_costOf 84 = .ok (.iload_n 3, 1) := by decide +kernel
theorem dX1_costOf_85 : decode cX1_costOf 85 = .ok (.ireturn, 1) := by decide +kernel
theorem dX1_whereIs_0 : decode cX1_whereIs 0 = .ok (.iload_n 1, 1) := by decide +kernel
theorem dX1_whereIs_1 : decode cX1_whereIs 1 = .ok (.bipush 120, 2) := by decide +kernel
theorem dX1_whereIs_3 : decode cX1_whereIs 3 = .ok (.imul, 1) := by decide +kernel
theorem dX1_whereIs_4 : decode cX1_whereIs 4 = .ok (.iload_n 2, 1) := by decide +kernel
theorem dX1_whereIs_5 : decode cX1_whereIs 5 = .ok (.iadd, 1) := by decide +kernel
theorem dX1_whereIs_6 : decode cX1_whereIs 6 = .ok (.istore_n 3, 1) := by decide +kernel
theorem dX1_whereIs_7 : decode cX1_whereIs 7 = .ok (.iload_n 3, 1) := by decide +kernel
theorem dX1_whereIs_8 : decode cX1_whereIs 8 = .ok (.ifCond .lt 12, 3) := by decide +kernel
theorem dX1_whereIs_11 : decode cX1_whereIs 11 = .ok (.iload_n 3, 1) := by decide +kernel
theorem dX1_whereIs_12 : decode cX1_whereIs 12 = .ok (.aload_n 0, 1) := by decide +kernel
theorem dX1_whereIs_13 : decode cX1_whereIs 13 = .ok (.getfield 9, 3) := by decide +kernel
theorem dX1_whereIs_16 : decode cX1_whereIs 16 = .ok (.arraylength, 1) := by decide +kernel
theorem dX1_whereIs_17 : decode cX1_whereIs 17 = .ok (.if_icmp .lt 7, 3) := by decide +kernel
theorem dX1_whereIs_20 : decode cX1_whereIs 20 = .ok (.iconst (-1), 1) := by decide +kernel
theorem dX1_whereIs_21 : decode cX1_whereIs 21 = .ok (.goto 9, 3) := by decide +kernel
theorem dX1_whereIs_24 : decode cX1_whereIs 24 = .ok (.aload_n 0, 1) := by decide +kernel
theorem dX1_whereIs_25 : decode cX1_whereIs 25 = .ok (.getfield 9, 3) := by decide +kernel
theorem dX1_whereIs_28 : decode cX1_whereIs 28 = .ok (.iload_n 3, 1) := by decide +kernel
theorem dX1_whereIs_29 : decode cX1_whereIs 29 = .ok (.iaload, 1) := by decide +kernel
theorem dX1_whereIs_30 : decode cX1_whereIs 30 = .ok (.ireturn, 1) := by decide +kernel
theorem dX1_addUp_0 : decode cX1_addUp 0 = .ok (.aload_n 0, 1) := by decide +kernel
theorem dX1_addUp_1 : decode cX1_addUp 1 = .ok (.iconst 0, 1) := by decide +kernel
theorem dX1_addUp_2 : decode cX1_addUp 2 = .ok (.putfield 113, 3) := by decide +kernel
theorem dX1_addUp_5 : decode cX1_addUp 5 = .ok (.aload_n 0, 1) := by decide +kernel
theorem dX1_addUp_6 : decode cX1_addUp 6 = .ok (.iconst 0, 1) := by decide +kernel
theorem dX1_addUp_7 : decode cX1_addUp 7 = .ok (.putfield 116, 3) := by decide +kernel
theorem dX1_addUp_10 : decode cX1_addUp 10 = .ok (.aload_n 0, 1) := by decide +kernel
theorem dX1_addUp_11 : decode cX1_addUp 11 = .ok (.iconst 0, 1) := by decide +kernel
theorem dX1_addUp_12 : decode cX1_addUp 12 = .ok (.putfield 119, 3) := by decide +kernel
theorem dX1_addUp_15 : decode cX1_addUp 15 = .ok (.iconst 0, 1) := by decide +kernel
theorem dX1_addUp_16 : decode cX1_addUp 16 = .ok (.istore_n 1, 1) := by decide +kernel
theorem dX1_addUp_17 : decode cX1_addUp 17 = .ok (.iload_n 1, 1) := by decide +kernel
theorem dX1_addUp_18 : decode cX1_addUp 18 = .ok (.aload_n 0, 1) := by decide +kernel
theorem dX1_addUp_19 : decode cX1_addUp 19 = .ok (.getfield 31, 3) := by decide +kernel
theorem dX1_addUp_22 : decode cX1_addUp 22 = .ok (.if_icmp .ge 72, 3) := by decide +kernel
theorem dX1_addUp_25 : decode cX1_addUp 25 = .ok (.aload_n 0, 1) := by decide +kernel
theorem dX1_addUp_26 : decode cX1_addUp 26 = .ok (.iload_n 1, 1) := by decide +kernel
theorem dX1_addUp_27 : decode cX1_addUp 27 = .ok (.aload_n 0, 1) := by decide +kernel
theorem dX1_addUp_28 : decode cX1_addUp 28 = .ok (.getfield 35, 3) := by decide +kernel
theorem dX1_addUp_31 : decode cX1_addUp 31 = .ok (.ineg, 1) := by decide +kernel
theorem dX1_addUp_32 : decode cX1_addUp 32 = .ok (.invokevirtual 61, 3) := by decide +kernel
theorem dX1_addUp_35 : decode cX1_addUp 35 = .ok (.aload_n 0, 1) := by decide +kernel
theorem dX1_addUp_36 : decode cX1_addUp 36 = .ok (.iload_n 1, 1) := by decide +kernel
theorem dX1_addUp_37 : decode cX1_addUp 37 = .ok (.iconst 0, 1) := by decide +kernel
theorem dX1_addUp_38 : decode cX1_addUp 38 = .ok (.invokevirtual 65, 3) := by decide +kernel
theorem dX1_addUp_41 : decode cX1_addUp 41 = .ok (.istore_n 2, 1) := by decide +kernel
theorem dX1_addUp_42 : decode cX1_addUp 42 = .ok (.aload_n 0, 1) := by decide +kernel
theorem dX1_addUp_43 : decode cX1_addUp 43 = .ok (.iload_n 1, 1) := by decide +kernel
theorem dX1_addUp_44 : decode cX1_addUp 44 = .ok (.aload_n 0, 1) := by decide +kernel
theorem dX1_addUp_45 : decode cX1_addUp 45 = .ok (.getfield 35, 3) := by decide +kernel
theorem dX1_addUp_48 : decode cX1_addUp 48 = .ok (.invokevirtual 61, 3) := by decide +kernel
theorem dX1_addUp_51 : decode cX1_addUp 51 = .ok (.aload_n 0, 1) := by decide +kernel
theorem dX1_addUp_52 : decode cX1_addUp 52 = .ok (.dup, 1) := by decide +kernel
theorem dX1_addUp_53 : decode cX1_addUp 53 = .ok (.getfield 113, 3) := by decide +kernel
theorem dX1_addUp_56 : decode cX1_addUp 56 = .ok (.iload_n 2, 1) := by decide +kernel
theorem dX1_addUp_57 : decode cX1_addUp 57 = .ok (.iadd, 1) := by decide +kernel
theorem dX1_addUp_58 : decode cX1_addUp 58 = .ok (.putfield 113, 3) := by decide +kernel
theorem dX1_addUp_61 : decode cX1_addUp 61 = .ok (.aload_n 0, 1) := by decide +kernel
theorem dX1_addUp_62 : decode cX1_addUp 62 = .ok (.dup, 1) := by decide +kernel
theorem dX1_addUp_63 : decode cX1_addUp 63 = .ok (.getfield 116, 3) := by decide +kernel
theorem dX1_addUp_66 : decode cX1_addUp 66 = .ok (.aload_n 0, 1) := by decide +kernel
theorem dX1_addUp_67 : decode cX1_addUp 67 = .ok (.iload_n 1, 1) := by decide +kernel
theorem dX1_addUp_68 : decode cX1_addUp 68 = .ok (.iconst 1, 1) := by decide +kernel
theorem dX1_addUp_69 : decode cX1_addUp 69 = .ok (.invokevirtual 65, 3) := by decide +kernel
theorem dX1_addUp_72 : decode cX1_addUp 72 = .ok (.iadd, 1) := by decide +kernel
theorem dX1_addUp_73 : decode cX1_addUp 73 = .ok (.putfield 116, 3) := by decide +kernel
theorem dX1_addUp_76 : decode cX1_addUp 76 = .ok (.aload_n 0, 1) := by decide +kernel
theorem dX1_addUp_77 : decode cX1_addUp 77 = .ok (.aload_n 0, 1) := by decide +kernel
theorem dX1_addUp_78 : decode cX1_addUp 78 = .ok (.getfield 119, 3) := by decide +kernel
theorem dX1_addUp_81 : decode cX1_addUp 81 = .ok (.iload_n 2, 1) := by decide +kernel
theorem dX1_addUp_82 : decode cX1_addUp 82 = .ok (.invokestatic 28, 3) := by decide +kernel
theorem dX1_addUp_85 : decode cX1_addUp 85 = .ok (.putfield 119, 3) := by decide +kernel
theorem dX1_addUp_88 : decode cX1_addUp 88 = .ok (.iinc 1 1, 3) := by decide +kernel
theorem dX1_addUp_91 : decode cX1_addUp 91 = .ok (.goto (-74), 3) := by decide +kernel
theorem dX1_addUp_94 : decode cX1_addUp 94 = .ok (.return_, 1) := by decide +kernel
theorem dX2_init_0 : decode cX2_init 0 = .ok (.aload_n 0, 1) := by decide +kernel
theorem dX2_init_1 : decode cX2_init 1 = .ok (.invokespecial 3, 3) := by decide +kernel
theorem dX2_init_4 : decode cX2_init 4 = .ok (.aload_n 0, 1) := by decide +kernel
theorem dX2_init_5 : decode cX2_init 5 = .ok (.new 9, 3) := by decide +kernel
theorem dX2_init_8 : decode cX2_init 8 = .ok (.dup, 1) := by decide +kernel
theorem dX2_init_9 : decode cX2_init 9 = .ok (.sipush 1000, 3) := by decide +kernel
theorem dX2_init_12 : decode cX2_init 12 = .ok (.invokespecial 11, 3) := by decide +kernel
theorem dX2_init_15 : decode cX2_init 15 = .ok (.putfield 14, 3) := by decide +kernel
theorem dX2_init_18 : decode cX2_init 18 = .ok (.aload_n 0, 1) := by decide +kernel
theorem dX2_init_19 : decode cX2_init 19 = .ok (.new 9, 3) := by decide +kernel
theorem dX2_init_22 : decode cX2_init 22 = .ok (.dup, 1) := by decide +kernel
theorem dX2_init_23 : decode cX2_init 23 = .ok (.sipush 1000, 3) := by decide +kernel
theorem dX2_init_26 : decode cX2_init 26 = .ok (.invokespecial 11, 3) := by decide +kernel
theorem dX2_init_29 : decode cX2_init 29 = .ok (.putfield 20, 3) := by decide +kernel
theorem dX2_init_32 : decode cX2_init 32 = .ok (.aload_n 0, 1) := by decide +kernel
theorem dX2_init_33 : decode cX2_init 33 = .ok (.bipush 64, 2) := by decide +kernel
theorem dX2_init_35 : decode cX2_init 35 = .ok (.newarray .int, 2) := by decide +kernel
theorem dX2_init_37 : decode cX2_init 37 = .ok (.putfield 23, 3) := by decide +kernel
theorem dX2_init_40 : decode cX2_init 40 = .ok (.return_, 1) := by decide +kernel
theorem dX2_begin_0 : decode cX2_begin 0 = .ok (.aload_n 0, 1) := by decide +kernel
theorem dX2_begin_1 : decode cX2_begin 1 = .ok (.getfield 14, 3) := by decide +kernel
theorem dX2_begin_4 : decode cX2_begin 4 = .ok (.invokevirtual 27, 3) := by decide +kernel
theorem dX2_begin_7 : decode cX2_begin 7 = .ok (.aload_n 0, 1) := by decide +kernel
theorem dX2_begin_8 : decode cX2_begin 8 = .ok (.getfield 20, 3) := by decide +kernel
theorem dX2_begin_11 : decode cX2_begin 11 = .ok (.invokevirtual 27, 3) := by decide +kernel
theorem dX2_begin_14 : decode cX2_begin 14 = .ok (.aload_n 0, 1) := by decide +kernel
theorem dX2_begin_15 : decode cX2_begin 15 = .ok (.iconst 0, 1) := by decide +kernel
theorem dX2_begin_16 : decode cX2_begin 16 = .ok (.putfield 30, 3) := by decide +kernel
theorem dX2_begin_19 : decode cX2_begin 19 = .ok (.aload_n 0, 1) := by decide +kernel
theorem dX2_begin_20 : decode cX2_begin 20 = .ok (.iconst 1, 1) := by decide +kernel
theorem dX2_begin_21 : decode cX2_begin 21 = .ok (.putfield 34, 3) := by decide +kernel
theorem dX2_begin_24 : decode cX2_begin 24 = .ok (.return_, 1) := by decide +kernel
theorem dX2_take_0 : decode cX2_take 0 = .ok (.aload_n 0, 1) := by decide +kernel
theorem dX2_take_1 : decode cX2_take 1 = .ok (.getfield 34, 3) := by decide +kernel
theorem dX2_take_4 : decode cX2_take 4 = .ok (.ifCond .eq 10, 3) := by decide +kernel
theorem dX2_take_7 : decode cX2_take 7 = .ok (.aload_n 0, 1) := by decide +kernel
theorem dX2_take_8 : decode cX2_take 8 = .ok (.iload_n 1, 1) := by decide +kernel
theorem dX2_take_9 : decode cX2_take 9 = .ok (.iload_n 2, 1) := by decide +kernel
theorem dX2_take_10 : decode cX2_take 10 = .ok (.invokevirtual 38, 3) := by decide +kernel
theorem dX2_take_13 : decode cX2_take 13 = .ok (.ireturn, 1) := by decide +kernel
theorem dX2_take_14 : decode cX2_take 14 = .ok (.iload_n 1, 1) := by decide +kernel
theorem dX2_take_15 : decode cX2_take 15 = .ok (.bipush 33, 2) := by decide +kernel
theorem dX2_take_17 : decode cX2_take 17 = .ok (.if_icmp .ne 10, 3) := by decide +kernel
theorem dX2_take_20 : decode cX2_take 20 = .ok (.aload_n 0, 1) := by decide +kernel
theorem dX2_take_21 : decode cX2_take 21 = .ok (.invokevirtual 44, 3) := by decide +kernel
theorem dX2_take_24 : decode cX2_take 24 = .ok (.goto 8, 3) := by decide +kernel
theorem dX2_take_27 : decode cX2_take 27 = .ok (.aload_n 0, 1) := by decide +kernel
theorem dX2_take_28 : decode cX2_take 28 = .ok (.iload_n 1, 1) := by decide +kernel
theorem dX2_take_29 : decode cX2_take 29 = .ok (.invokevirtual 48, 3) := by decide +kernel
theorem dX2_take_32 : decode cX2_take 32 = .ok (.ireturn, 1) := by decide +kernel
theorem dX2_takePart_0 : decode cX2_takePart 0 = .ok (.iload_n 1, 1) := by decide +kernel
theorem dX2_takePart_1 : decode cX2_takePart 1 = .ok (.bipush 19, 2) := by decide +kernel
theorem dX2_takePart_3 : decode cX2_takePart 3 = .ok (.if_icmp .eq 9, 3) := by decide +kernel
theorem dX2_takePart_6 : decode cX2_takePart 6 = .ok (.iload_n 1, 1) := by decide +kernel
theorem dX2_takePart_7 : decode cX2_takePart 7 = .ok (.bipush 32, 2) := by decide +kernel
theorem dX2_takePart_9 : decode cX2_takePart 9 = .ok (.if_icmp .ne 7, 3) := by decide +kernel
theorem dX2_takePart_12 : decode cX2_takePart 12 = .ok (.iconst 1, 1) := by decide +kernel
theorem dX2_takePart_13 : decode cX2_takePart 13 = .ok (.goto 4, 3) := by decide +kernel
theorem dX2_takePart_16 : decode cX2_takePart 16 = .ok (.iconst 0, 1) := by decide +kernel
theorem dX2_takePart_17 : decode cX2_takePart 17 = .ok (.istore_n 3, 1) := by decide +kernel
theorem dX2_takePart_18 : decode cX2_takePart 18 = .ok (.iload_n 1, 1) := by decide +kernel
theorem dX2_takePart_19 : decode cX2_takePart 19 = .ok (.bipush 50, 2) := by decide +kernel
theorem dX2_takePart_21 : decode cX2_takePart 21 = .ok (.if_icmp .eq 15, 3) := by decide +kernel
theorem dX2_takePart_24 : decode cX2_takePart 24 = .ok (.iload_n 1, 1) := by decide +kernel
theorem dX2_takePart_25 : decode cX2_takePart 25 = .ok (.bipush 20, 2) := by decide +kernel
theorem dX2_takePart_27 : decode cX2_takePart 27 = .ok (.if_icmp .eq 9, 3) := by decide +kernel
theorem dX2_takePart_30 : decode cX2_takePart 30 = .ok (.iload_n 1, 1) := by decide +kernel
theorem dX2_takePart_31 : decode cX2_takePart 31 = .ok (.bipush 21, 2) := by decide +kernel
theorem dX2_takePart_33 : decode cX2_takePart 33 = .ok (.if_icmp .ne 7, 3) := by decide +kernel
theorem dX2_takePart_36 : decode cX2_takePart 36 = .ok (.iconst 1, 1) := by decide +kernel
theorem dX2_takePart_37 : decode cX2_takePart 37 = .ok (.goto 4, 3) := by decide +kernel
theorem dX2_takePart_40 : decode cX2_takePart 40 = .ok (.iconst 0, 1) := by decide +kernel
theorem dX2_takePart_41 : decode cX2_takePart 41 = .ok (.istore 4, 2) := by decide +kernel
theorem dX2_takePart_43 : decode cX2_takePart 43 = .ok (.iload_n 3, 1) := by decide +kernel
theorem dX2_takePart_44 : decode cX2_takePart 44 = .ok (.ifCond .ne 10, 3) := by decide +kernel
theorem dX2_takePart_47 : decode cX2_takePart 47 = .ok (.iload 4, 2) := by decide +kernel
theorem dX2_takePart_49 : decode cX2_takePart 49 = .ok (.ifCond .ne 5, 3) := by decide +kernel
theorem dX2_takePart_52 : decode cX2_takePart 52 = .ok (.iconst 1, 1) := by decide +kernel
theorem dX2_takePart_53 : decode cX2_takePart 53 = .ok (.ireturn, 1) := by decide +kernel
theorem dX2_takePart_54 : decode cX2_takePart 54 = .ok (.aload_n 0, 1) := by decide +kernel
theorem dX2_takePart_55 : decode cX2_takePart 55 = .ok (.getfield 30, 3) := by decide +kernel
theorem dX2_takePart_58 : decode cX2_takePart 58 = .ok (.iconst 5, 1) := by decide +kernel
theorem dX2_takePart_59 : decode cX2_takePart 59 = .ok (.if_icmp .lt 5, 3) := by decide +kernel
theorem dX2_takePart_62 : decode cX2_takePart 62 = .ok (.iconst 5, 1) := by decide +kernel
theorem dX2_takePart_63 : decode cX2_takePart 63 = .ok (.ireturn, 1) := by decide +kernel
theorem dX2_takePart_64 : decode cX2_takePart 64 = .ok (.iload_n 3, 1) := by decide +kernel
theorem dX2_takePart_65 : decode cX2_takePart 65 = .ok (.ifCond .eq 25, 3) := by decide +kernel
theorem dX2_takePart_68 : decode cX2_takePart 68 = .ok (.aload_n 0, 1) := by decide +kernel
theorem dX2_takePart_69 : decode cX2_takePart 69 = .ok (.getfield 20, 3) := by decide +kernel
theorem dX2_takePart_72 : decode cX2_takePart 72 = .ok (.iload_n 1, 1) := by decide +kernel
theorem dX2_takePart_73 : decode cX2_takePart 73 = .ok (.invokevirtual 52, 3) := by decide +kernel
theorem dX2_takePart_76 : decode cX2_takePart 76 = .ok (.pop, 1) := by decide +kernel
theorem dX2_takePart_77 : decode cX2_takePart 77 = .ok (.aload_n 0, 1) := by decide +kernel
theorem dX2_takePart_78 : decode cX2_takePart 78 = .ok (.dup, 1) := by decide +kernel
theorem dX2_takePart_79 : decode cX2_takePart 79 = .ok (.getfield 30, 3) := by decide +kernel
theorem dX2_takePart_82 : decode cX2_takePart 82 = .ok (.iconst 1, 1) := by decide +kernel
theorem dX2_takePart_83 : decode cX2_takePart 83 = .ok (.iadd, 1) := by decide +kernel
theorem dX2_takePart_84 : decode cX2_takePart 84 = .ok (.putfield 30, 3) := by decide +kernel
theorem dX2_takePart_87 : decode cX2_takePart 87 = .ok (.goto 28, 3) := by decide +kernel
theorem dX2_takePart_90 : decode cX2_takePart 90 = .ok (.aload_n 0, 1) := by decide +kernel
theorem dX2_takePart_91 : decode cX2_takePart 91 = .ok (.getfield 14, 3) := by decide +kernel
theorem dX2_takePart_94 : decode cX2_takePart 94 = .ok (.iload_n 1, 1) := by decide +kernel
theorem dX2_takePart_95 : decode cX2_takePart 95 = .ok (.bipush 50, 2) := by decide +kernel
theorem dX2_takePart_97 : decode cX2_takePart 97 = .ok (.if_icmp .ne 7, 3) := by decide +kernel
theorem dX2_takePart_100 : decode cX2_takePart 100 = .ok (.iload_n 2, 1) := by decide +kernel
theorem dX2_takePart_101 : decode cX2_takePart 101 = .ok (.goto 6, 3) := by decide +kernel
theorem dX2_takePart_104 : decode cX2_takePart 104 = .ok (.iconst (-1), 1) := by decide +kernel
theorem dX2_takePart_105 : decode cX2_takePart 105 = .ok (.iload_n 1, 1) := by decide +kernel
theorem dX2_takePart_106 : decode cX2_takePart 106 = .ok (.isub, 1) := by decide +kernel
theorem dX2_takePart_107 : decode cX2_takePart 107 = .ok (.invokevirtual 52, 3) := by decide +kernel
theorem dX2_takePart_110 : decode cX2_takePart 110 = .ok (.pop, 1) := by decide +kernel
theorem dX2_takePart_111 : decode cX2_takePart 111 = .ok (.aload_n 0, 1) := by decide +kernel
theorem dX2_takePart_112 : decode cX2_takePart 112 = .ok (.invokevirtual 56, 3) := by decide +kernel
theorem dX2_takePart_115 : decode cX2_takePart 115 = .ok (.iconst 0, 1) := by decide +kernel
theorem dX2_takePart_116 : decode cX2_takePart 116 = .ok (.ireturn, 1) := by decide +kernel
theorem dX2_takeLink_0 : decode cX2_takeLink 0 = .ok (.iload_n 1, 1) := by decide +kernel
theorem dX2_takeLink_1 : decode cX2_takeLink 1 = .ok (.invokestatic 59, 3) := by decide +kernel
theorem dX2_takeLink_4 : decode cX2_takeLink 4 = .ok (.istore_n 2, 1) := by decide +kernel
theorem dX2_takeLink_5 : decode cX2_takeLink 5 = .ok (.iload_n 2, 1) := by decide +kernel
theorem dX2_takeLink_6 : decode cX2_takeLink 6 = .ok (.ifCond .ne 5, 3) := by decide +kernel
theorem dX2_takeLink_9 : decode cX2_takeLink 9 = .ok (.iconst 1, 1) := by decide +kernel
theorem dX2_takeLink_10 : decode cX2_takeLink 10 = .ok (.ireturn, 1) := by decide +kernel
theorem dX2_takeLink_11 : decode cX2_takeLink 11 = .ok (.aload_n 0, 1) := by decide +kernel
theorem dX2_takeLink_12 : decode cX2_takeLink 12 = .ok (.iload_n 2, 1) := by decide +kernel
theorem dX2_takeLink_13 : decode cX2_takeLink 13 = .ok (.iconst 2, 1) := by decide +kernel
theorem dX2_takeLink_14 : decode cX2_takeLink 14 = .ok (.if_icmp .ne 7, 3) := by decide +kernel
theorem dX2_takeLink_17 : decode cX2_takeLink 17 = .ok (.iconst 3, 1) := by decide +kernel
theorem dX2_takeLink_18 : decode cX2_takeLink 18 = .ok (.goto 4, 3) := by decide +kernel
theorem dX2_takeLink_21 : decode cX2_takeLink 21 = .ok (.iload_n 2, 1) := by decide +kernel
theorem dX2_takeLink_22 : decode cX2_takeLink 22 = .ok (.invokevirtual 62, 3) := by decide +kernel
theorem dX2_takeLink_25 : decode cX2_takeLink 25 = .ok (.iload_n 2, 1) := by decide +kernel
theorem dX2_takeLink_26 : decode cX2_takeLink 26 = .ok (.iconst 2, 1) := by decide +kernel
theorem dX2_takeLink_27 : decode cX2_takeLink 27 = .ok (.if_icmp .ne 19, 3) := by decide +kernel
theorem dX2_takeLink_30 : decode cX2_takeLink 30 = .ok (.aload_n 0, 1) := by decide +kernel
theorem dX2_takeLink_31 : decode cX2_takeLink 31 = .ok (.getfield 20, 3) := by decide +kernel
theorem dX2_takeLink_34 : decode cX2_takeLink 34 = .ok (.invokevirtual 65, 3) := by decide +kernel
theorem dX2_takeLink_37 : decode cX2_takeLink 37 = .ok (.invokestatic 59, 3) := by decide +kernel
theorem dX2_takeLink_40 : decode cX2_takeLink 40 = .ok (.iconst 2, 1) := by decide +kernel
theorem dX2_takeLink_41 : decode cX2_takeLink 41 = .ok (.if_icmp .ne 5, 3) := by decide +kernel
theorem dX2_takeLink_44 : decode cX2_takeLink 44 = .ok (.iconst 1, 1) := by decide +kernel
theorem dX2_takeLink_45 : decode cX2_takeLink 45 = .ok (.ireturn, 1) := by decide +kernel
theorem dX2_takeLink_46 : decode cX2_takeLink 46 = .ok (.aload_n 0, 1) := by decide +kernel
theorem dX2_takeLink_47 : decode cX2_takeLink 47 = .ok (.getfield 20, 3) := by decide +kernel
theorem dX2_takeLink_50 : decode cX2_takeLink 50 = .ok (.iload_n 1, 1) := by decide +kernel
theorem dX2_takeLink_51 : decode cX2_takeLink 51 = .ok (.invokevirtual 52, 3) := by decide +kernel
theorem dX2_takeLink_54 : decode cX2_takeLink 54 = .ok (.pop, 1) := by decide +kernel
theorem dX2_takeLink_55 : decode cX2_takeLink 55 = .ok (.aload_n 0, 1) := by decide +kernel
theorem dX2_takeLink_56 : decode cX2_takeLink 56 = .ok (.iconst 1, 1) := by decide +kernel
theorem dX2_takeLink_57 : decode cX2_takeLink 57 = .ok (.putfield 34, 3) := by decide +kernel
theorem dX2_takeLink_60 : decode cX2_takeLink 60 = .ok (.iconst 0, 1) := by decide +kernel
theorem dX2_takeLink_61 : decode cX2_takeLink 61 = .ok (.ireturn, 1) := by decide +kernel
theorem dX2_takeClose_0 : decode cX2_takeClose 0 = .ok (.aload_n 0, 1) := by decide +kernel
theorem dX2_takeClose_1 : decode cX2_takeClose 1 = .ok (.iconst 1, 1) := by decide +kernel
theorem dX2_takeClose_2 : decode cX2_takeClose 2 = .ok (.invokevirtual 62, 3) := by decide +kernel
theorem dX2_takeClose_5 : decode cX2_takeClose 5 = .ok (.aload_n 0, 1) := by decide +kernel
theorem dX2_takeClose_6 : decode cX2_takeClose 6 = .ok (.getfield 20, 3) := by decide +kernel
theorem dX2_takeClose_9 : decode cX2_takeClose 9 = .ok (.invokevirtual 65, 3) := by decide +kernel
theorem dX2_takeClose_12 : decode cX2_takeClose 12 = .ok (.bipush 32, 2) := by decide +kernel
theorem dX2_takeClose_14 : decode cX2_takeClose 14 = .ok (.if_icmp .eq 5, 3) := by decide +kernel
theorem dX2_takeClose_17 : decode cX2_takeClose 17 = .ok (.iconst 1, 1) := by decide +kernel
theorem dX2_takeClose_18 : decode cX2_takeClose 18 = .ok (.ireturn, 1) := by decide +kernel
theorem dX2_takeClose_19 : decode cX2_takeClose 19 = .ok (.aload_n 0, 1) := by decide +kernel
theorem dX2_takeClose_20 : decode cX2_takeClose 20 = .ok (.getfield 20, 3) := by decide +kernel
theorem dX2_takeClose_23 : decode cX2_takeClose 23 = .ok (.invokevirtual 68, 3) := by decide +kernel
theorem dX2_takeClose_26 : decode cX2_takeClose 26 = .ok (.aload_n 0, 1) := by decide +kernel
theorem dX2_takeClose_27 : decode cX2_takeClose 27 = .ok (.dup, 1) := by decide +kernel
theorem dX2_takeClose_28 : decode cX2_takeClose 28 = .ok (.getfield 30, 3) := by decide +kernel
theorem dX2_takeClose_31 : decode cX2_takeClose 31 = .ok (.iconst 1, 1) := by decide +kernel
theorem dX2_takeClose_32 : decode cX2_takeClose 32 = .ok (.isub, 1) := by decide +kernel
theorem dX2_takeClose_33 : decode cX2_takeClose 33 = .ok (.putfield 30, 3) := by decide +kernel
theorem dX2_takeClose_36 : decode cX2_takeClose 36 = .ok (.aload_n 0, 1) := by decide +kernel
theorem dX2_takeClose_37 : decode cX2_takeClose 37 = .ok (.invokevirtual 56, 3) := by decide +kernel
theorem dX2_takeClose_40 : decode cX2_takeClose 40 = .ok (.iconst 0, 1) := by decide +kernel
theorem dX2_takeClose_41 : decode cX2_takeClose 41 = .ok (.ireturn, 1) := by decide +kernel
theorem dX2_endPart_0 : decode cX2_endPart 0 = .ok (.aload_n 0, 1) := by decide +kernel
theorem dX2_endPart_1 : decode cX2_endPart 1 = .ok (.iconst 0, 1) := by decide +kernel
theorem dX2_endPart_2 : decode cX2_endPart 2 = .ok (.putfield 34, 3) := by decide +kernel
theorem dX2_endPart_5 : decode cX2_endPart 5 = .ok (.iconst 0, 1) := by decide +kernel
theorem dX2_endPart_6 : decode cX2_endPart 6 = .ok (.istore_n 1, 1) := by decide +kernel
theorem dX2_endPart_7 : decode cX2_endPart 7 = .ok (.iload_n 1, 1) := by decide +kernel
theorem dX2_endPart_8 : decode cX2_endPart 8 = .ok (.iconst 5, 1) := by decide +kernel
theorem dX2_endPart_9 : decode cX2_endPart 9 = .ok (.if_icmp .ge 48, 3) := by decide +kernel
theorem dX2_endPart_12 : decode cX2_endPart 12 = .ok (.aload_n 0, 1) := by decide +kernel
theorem dX2_endPart_13 : decode cX2_endPart 13 = .ok (.getfield 20, 3) := by decide +kernel
theorem dX2_endPart_16 : decode cX2_endPart 16 = .ok (.invokevirtual 65, 3) := by decide +kernel
theorem dX2_endPart_19 : decode cX2_endPart 19 = .ok (.bipush 19, 2) := by decide +kernel
theorem dX2_endPart_21 : decode cX2_endPart 21 = .ok (.if_icmp .ne 36, 3) := by decide +kernel
theorem dX2_endPart_24 : decode cX2_endPart 24 = .ok (.aload_n 0, 1) := by decide +kernel
theorem dX2_endPart_25 : decode cX2_endPart 25 = .ok (.getfield 14, 3) := by decide +kernel
theorem dX2_endPart_28 : decode cX2_endPart 28 = .ok (.bipush (-20), 2) := by decide +kernel
theorem dX2_endPart_30 : decode cX2_endPart 30 = .ok (.invokevirtual 52, 3) := by decide +kernel
theorem dX2_endPart_33 : decode cX2_endPart 33 = .ok (.pop, 1) := by decide +kernel
theorem dX2_endPart_34 : decode cX2_endPart 34 = .ok (.aload_n 0, 1) := by decide +kernel
theorem dX2_endPart_35 : decode cX2_endPart 35 = .ok (.getfield 20, 3) := by decide +kernel
theorem dX2_endPart_38 : decode cX2_endPart 38 = .ok (.invokevirtual 68, 3) := by decide +kernel
theorem dX2_endPart_41 : decode cX2_endPart 41 = .ok (.aload_n 0, 1) := by decide +kernel
theorem dX2_endPart_42 : decode cX2_endPart 42 = .ok (.dup, 1) := by decide +kernel
theorem dX2_endPart_43 : decode cX2_endPart 43 = .ok (.getfield 30, 3) := by decide +kernel
theorem dX2_endPart_46 : decode cX2_endPart 46 = .ok (.iconst 1, 1) := by decide +kernel
theorem dX2_endPart_47 : decode cX2_endPart 47 = .ok (.isub, 1) := by decide +kernel
theorem dX2_endPart_48 : decode cX2_endPart 48 = .ok (.putfield 30, 3) := by decide +kernel
theorem dX2_endPart_51 : decode cX2_endPart 51 = .ok (.iinc 1 1, 3) := by decide +kernel
theorem dX2_endPart_54 : decode cX2_endPart 54 = .ok (.goto (-47), 3) := by decide +kernel
theorem dX2_endPart_57 : decode cX2_endPart 57 = .ok (.return_, 1) := by decide +kernel
theorem dX2_ends_0 : decode cX2_ends 0 = .ok (.aload_n 0, 1) := by decide +kernel
theorem dX2_ends_1 : decode cX2_ends 1 = .ok (.getfield 34, 3) := by decide +kernel
theorem dX2_ends_4 : decode cX2_ends 4 = .ok (.ifCond .eq 5, 3) := by decide +kernel
theorem dX2_ends_7 : decode cX2_ends 7 = .ok (.iconst 0, 1) := by decide +kernel
theorem dX2_ends_8 : decode cX2_ends 8 = .ok (.ireturn, 1) := by decide +kernel
theorem dX2_ends_9 : decode cX2_ends 9 = .ok (.aload_n 0, 1) := by decide +kernel
theorem dX2_ends_10 : decode cX2_ends 10 = .ok (.iconst 1, 1) := by decide +kernel
theorem dX2_ends_11 : decode cX2_ends 11 = .ok (.invokevirtual 62, 3) := by decide +kernel
theorem dX2_ends_14 : decode cX2_ends 14 = .ok (.aload_n 0, 1) := by decide +kernel
theorem dX2_ends_15 : decode cX2_ends 15 = .ok (.getfield 20, 3) := by decide +kernel
theorem dX2_ends_18 : decode cX2_ends 18 = .ok (.getfield 71, 3) := by decide +kernel
theorem dX2_ends_21 : decode cX2_ends 21 = .ok (.ifCond .ne 7, 3) := by decide +kernel
theorem dX2_ends_24 : decode cX2_ends 24 = .ok (.iconst 1, 1) := by decide +kernel
theorem dX2_ends_25 : decode cX2_ends 25 = .ok (.goto 4, 3) := by decide +kernel
theorem dX2_ends_28 : decode cX2_ends 28 = .ok (.iconst 0, 1) := by decide +kernel
theorem dX2_ends_29 : decode cX2_ends 29 = .ok (.ireturn, 1) := by decide +kernel
theorem dX2_settle_0 : decode cX2_settle 0 = .ok (.iconst 0, 1) := by decide +kernel
theorem dX2_settle_1 : decode cX2_settle 1 = .ok (.istore_n 2, 1) := by decide +kernel
theorem dX2_settle_2 : decode cX2_settle 2 = .ok (.iload_n 2, 1) := by decide +kernel
theorem dX2_settle_3 : decode cX2_settle 3 = .ok (.sipush 1000, 3) := by decide +kernel
theorem dX2_settle_6 : decode cX2_settle 6 = .ok (.if_icmp .ge 47, 3) := by decide +kernel
theorem dX2_settle_9 : decode cX2_settle 9 = .ok (.aload_n 0, 1) := by decide +kernel
theorem dX2_settle_10 : decode cX2_settle 10 = .ok (.getfield 20, 3) := by decide +kernel
theorem dX2_settle_13 : decode cX2_settle 13 = .ok (.invokevirtual 65, 3) := by decide +kernel
theorem dX2_settle_16 : decode cX2_settle 16 = .ok (.invokestatic 59, 3) := by decide +kernel
theorem dX2_settle_19 : decode cX2_settle 19 = .ok (.iload_n 1, 1) := by decide +kernel
theorem dX2_settle_20 : decode cX2_settle 20 = .ok (.if_icmp .lt 33, 3) := by decide +kernel
theorem dX2_settle_23 : decode cX2_settle 23 = .ok (.aload_n 0, 1) := by decide +kernel
theorem dX2_settle_24 : decode cX2_settle 24 = .ok (.getfield 14, 3) := by decide +kernel
theorem dX2_settle_27 : decode cX2_settle 27 = .ok (.iconst (-1), 1) := by decide +kernel
theorem dX2_settle_28 : decode cX2_settle 28 = .ok (.aload_n 0, 1) := by decide +kernel
theorem dX2_settle_29 : decode cX2_settle 29 = .ok (.getfield 20, 3) := by decide +kernel
theorem dX2_settle_32 : decode cX2_settle 32 = .ok (.invokevirtual 65, 3) := by decide +kernel
theorem dX2_settle_35 : decode cX2_settle 35 = .ok (.isub, 1) := by decide +kernel
theorem dX2_settle_36 : decode cX2_settle 36 = .ok (.invokevirtual 52, 3) := by decide +kernel
theorem dX2_settle_39 : decode cX2_settle 39 = .ok (.pop, 1) := by decide +kernel
theorem dX2_settle_40 : decode cX2_settle 40 = .ok (.aload_n 0, 1) := by decide +kernel
theorem dX2_settle_41 : decode cX2_settle 41 = .ok (.getfield 20, 3) := by decide +kernel
theorem dX2_settle_44 : decode cX2_settle 44 = .ok (.invokevirtual 68, 3) := by decide +kernel
theorem dX2_settle_47 : decode cX2_settle 47 = .ok (.iinc 2 1, 3) := by decide +kernel
theorem dX2_settle_50 : decode cX2_settle 50 = .ok (.goto (-48), 3) := by decide +kernel
theorem dX2_settle_53 : decode cX2_settle 53 = .ok (.return_, 1) := by decide +kernel
theorem dX2_rank_0 : decode cX2_rank 0 = .ok (.iload_n 0, 1) := by decide +kernel
theorem dX2_rank_1 : decode cX2_rank 1 = .ok (.tableswitch 111 17 38 #[103, 103, 111, 111, 111, 111, 111, 111, 111, 111, 111, 111, 111, 111, 111, 111, 111, 105, 105, 107, 107, 109], 103) := by decide +kernel
theorem dX2_rank_104 : decode cX2_rank 104 = .ok (.iconst 1, 1) := by decide +kernel
theorem dX2_rank_105 : decode cX2_rank 105 = .ok (.ireturn, 1) := by decide +kernel
theorem dX2_rank_106 : decode cX2_rank 106 = .ok (.iconst 2, 1) := by decide +kernel
theorem dX2_rank_107 : decode cX2_rank 107 = .ok (.ireturn, 1) := by decide +kernel
theorem dX2_rank_108 : decode cX2_rank 108 = .ok (.iconst 3, 1) := by decide +kernel
theorem dX2_rank_109 : decode cX2_rank 109 = .ok (.ireturn, 1) := by decide +kernel
theorem dX2_rank_110 : decode cX2_rank 110 = .ok (.iconst 4, 1) := by decide +kernel
theorem dX2_rank_111 : decode cX2_rank 111 = .ok (.ireturn, 1) := by decide +kernel
theorem dX2_rank_112 : decode cX2_rank 112 = .ok (.iconst 0, 1) := by decide +kernel
theorem dX2_rank_113 : decode cX2_rank 113 = .ok (.ireturn, 1) := by decide +kernel
theorem dX2_value_0 : decode cX2_value 0 = .ok (.iconst (-1), 1) := by decide +kernel
theorem dX2_value_1 : decode cX2_value 1 = .ok (.istore_n 3, 1) := by decide +kernel
theorem dX2_value_2 : decode cX2_value 2 = .ok (.iconst 0, 1) := by decide +kernel
theorem dX2_value_3 : decode cX2_value 3 = .ok (.istore 4, 2) := by decide +kernel
theorem dX2_value_5 : decode cX2_value 5 = .ok (.iload 4, 2) := by decide +kernel
theorem dX2_value_7 : decode cX2_value 7 = .ok (.aload_n 0, 1) := by decide +kernel
theorem dX2_value_8 : decode cX2_value 8 = .ok (.getfield 14, 3) := by decide +kernel
theorem dX2_value_11 : decode cX2_value 11 = .ok (.getfield 71, 3) := by decide +kernel
theorem dX2_value_14 : decode cX2_value 14 = .ok (.if_icmp .ge 131, 3) := by decide +kernel
theorem dX2_value_17 : decode cX2_value 17 = .ok (.aload_n 0, 1) := by decide +kernel
theorem dX2_value_18 : decode cX2_value 18 = .ok (.getfield 14, 3) := by decide +kernel
theorem dX2_value_21 : decode cX2_value 21 = .ok (.iload 4, 2) := by decide +kernel
theorem dX2_value_23 : decode cX2_value 23 = .ok (.invokevirtual 74, 3) := by decide +kernel
theorem dX2_value_26 : decode cX2_value 26 = .ok (.istore 5, 2) := by decide +kernel
theorem dX2_value_28 : decode cX2_value 28 = .ok (.iconst (-1), 1) := by decide +kernel
theorem dX2_value_29 : decode cX2_value 29 = .ok (.iload 5, 2) := by decide +kernel
theorem dX2_value_31 : decode cX2_value 31 = .ok (.isub, 1) := by decide +kernel
theorem dX2_value_32 : decode cX2_value 32 = .ok (.istore 6, 2) := by decide +kernel
theorem dX2_value_34 : decode cX2_value 34 = .ok (.iload 5, 2) := by decide +kernel
theorem dX2_value_36 : decode cX2_value 36 = .ok (.ifCond .ge 17, 3) := by decide +kernel
theorem dX2_value_39 : decode cX2_value 39 = .ok (.iload 6, 2) := by decide +kernel
theorem dX2_value_41 : decode cX2_value 41 = .ok (.bipush 20, 2) := by decide +kernel
theorem dX2_value_43 : decode cX2_value 43 = .ok (.if_icmp .eq 10, 3) := by decide +kernel
theorem dX2_value_46 : decode cX2_value 46 = .ok (.iload 6, 2) := by decide +kernel
theorem dX2_value_48 : decode cX2_value 48 = .ok (.bipush 21, 2) := by decide +kernel
theorem dX2_value_50 : decode cX2_value 50 = .ok (.if_icmp .ne 36, 3) := by decide +kernel
theorem dX2_value_53 : decode cX2_value 53 = .ok (.iinc 3 1, 3) := by decide +kernel
theorem dX2_value_56 : decode cX2_value 56 = .ok (.aload_n 0, 1) := by decide +kernel
theorem dX2_value_57 : decode cX2_value 57 = .ok (.iload_n 3, 1) := by decide +kernel
theorem dX2_value_58 : decode cX2_value 58 = .ok (.iload 5, 2) := by decide +kernel
theorem dX2_value_60 : decode cX2_value 60 = .ok (.ifCond .lt 8, 3) := by decide +kernel
theorem dX2_value_63 : decode cX2_value 63 = .ok (.iload 5, 2) := by decide +kernel
theorem dX2_value_65 : decode cX2_value 65 = .ok (.goto 15, 3) := by decide +kernel
theorem dX2_value_68 : decode cX2_value 68 = .ok (.iload 6, 2) := by decide +kernel
theorem dX2_value_70 : decode cX2_value 70 = .ok (.bipush 21, 2) := by decide +kernel
theorem dX2_value_72 : decode cX2_value 72 = .ok (.if_icmp .ne 7, 3) := by decide +kernel
theorem dX2_value_75 : decode cX2_value 75 = .ok (.iload_n 1, 1) := by decide +kernel
theorem dX2_value_76 : decode cX2_value 76 = .ok (.goto 4, 3) := by decide +kernel
theorem dX2_value_79 : decode cX2_value 79 = .ok (.iload_n 2, 1) := by decide +kernel
theorem dX2_value_80 : decode cX2_value 80 = .ok (.invokevirtual 77, 3) := by decide +kernel
theorem dX2_value_83 : decode cX2_value 83 = .ok (.goto 56, 3) := by decide +kernel
theorem dX2_value_86 : decode cX2_value 86 = .ok (.iload 6, 2) := by decide +kernel
theorem dX2_value_88 : decode cX2_value 88 = .ok (.bipush 19, 2) := by decide +kernel
theorem dX2_value_90 : decode cX2_value 90 = .ok (.if_icmp .ne 24, 3) := by decide +kernel
theorem dX2_value_93 : decode cX2_value 93 = .ok (.aload_n 0, 1) := by decide +kernel
theorem dX2_value_94 : decode cX2_value 94 = .ok (.iload_n 3, 1) := by decide +kernel
theorem dX2_value_95 : decode cX2_value 95 = .ok (.aload_n 0, 1) := by decide +kernel
theorem dX2_value_96 : decode cX2_value 96 = .ok (.iload_n 3, 1) := by decide +kernel
theorem dX2_value_97 : decode cX2_value 97 = .ok (.invokevirtual 81, 3) := by decide +kernel
theorem dX2_value_100 : decode cX2_value 100 = .ok (.ifCond .ne 7, 3) := by decide +kernel
theorem dX2_value_103 : decode cX2_value 103 = .ok (.iconst 1, 1) := by decide +kernel
theorem dX2_value_104 : decode cX2_value 104 = .ok (.goto 4, 3) := by decide +kernel
theorem dX2_value_107 : decode cX2_value 107 = .ok (.iconst 0, 1) := by decide +kernel
theorem dX2_value_108 : decode cX2_value 108 = .ok (.invokevirtual 77, 3) := by decide +kernel
theorem dX2_value_111 : decode cX2_value 111 = .ok (.goto 28, 3) := by decide +kernel
theorem dX2_value_114 : decode cX2_value 114 = .ok (.iinc 3 (-1), 3) := by decide +kernel
theorem dX2_value_117 : decode cX2_value 117 = .ok (.aload_n 0, 1) := by decide +kernel
theorem dX2_value_118 : decode cX2_value 118 = .ok (.iload_n 3, 1) := by decide +kernel
theorem dX2_value_119 : decode cX2_value 119 = .ok (.iload 6, 2) := by decide +kernel
theorem dX2_value_121 : decode cX2_value 121 = .ok (.aload_n 0, 1) := by decide +kernel
theorem dX2_value_122 : decode cX2_value 122 = .ok (.iload_n 3, 1) := by decide +kernel
theorem dX2_value_123 : decode cX2_value 123 = .ok (.invokevirtual 81, 3) := by decide +kernel
theorem dX2_value_126 : decode cX2_value 126 = .ok (.aload_n 0, 1) := by decide +kernel
theorem dX2_value_127 : decode cX2_value 127 = .ok (.iload_n 3, 1) := by decide +kernel
theorem dX2_value_128 : decode cX2_value 128 = .ok (.iconst 1, 1) := by decide +kernel
theorem dX2_value_129 : decode cX2_value 129 = .ok (.iadd, 1) := by decide +kernel
theorem dX2_value_130 : decode cX2_value 130 = .ok (.invokevirtual 81, 3) := by decide +kernel
theorem dX2_value_133 : decode cX2_value 133 = .ok (.invokestatic 84, 3) := by decide +kernel
theorem dX2_value_136 : decode cX2_value 136 = .ok (.invokevirtual 77, 3) := by decide +kernel
theorem dX2_value_139 : decode cX2_value 139 = .ok (.iinc 4 1, 3) := by decide +kernel
theorem dX2_value_142 : decode cX2_value 142 = .ok (.goto (-137), 3) := by decide +kernel
theorem dX2_value_145 : decode cX2_value 145 = .ok (.aload_n 0, 1) := by decide +kernel
theorem dX2_value_146 : decode cX2_value 146 = .ok (.iload_n 3, 1) := by decide +kernel
theorem dX2_value_147 : decode cX2_value 147 = .ok (.invokevirtual 81, 3) := by decide +kernel
theorem dX2_value_150 : decode cX2_value 150 = .ok (.ireturn, 1) := by decide +kernel
theorem dX2_valueAt_0 : decode cX2_valueAt 0 = .ok (.iload_n 1, 1) := by decide +kernel
theorem dX2_valueAt_1 : decode cX2_valueAt 1 = .ok (.ifCond .lt 12, 3) := by decide +kernel
theorem dX2_valueAt_4 : decode cX2_valueAt 4 = .ok (.iload_n 1, 1) := by decide +kernel
theorem dX2_valueAt_5 : decode cX2_valueAt 5 = .ok (.aload_n 0, 1) := by decide +kernel
theorem dX2_valueAt_6 : decode cX2_valueAt 6 = .ok (.getfield 23, 3) := by decide +kernel
theorem dX2_valueAt_9 : decode cX2_valueAt 9 = .ok (.arraylength, 1) := by decide +kernel
theorem dX2_valueAt_10 : decode cX2_valueAt 10 = .ok (.if_icmp .lt 7, 3) := by decide +kernel
theorem dX2_valueAt_13 : decode cX2_valueAt 13 = .ok (.iconst 0, 1) := by decide +kernel
theorem dX2_valueAt_14 : decode cX2_valueAt 14 = .ok (.goto 9, 3) := by decide +kernel
theorem dX2_valueAt_17 : decode cX2_valueAt 17 = .ok (.aload_n 0, 1) := by decide +kernel
theorem dX2_valueAt_18 : decode cX2_valueAt 18 = .ok (.getfield 23, 3) := by decide +kernel
theorem dX2_valueAt_21 : decode cX2_valueAt 21 = .ok (.iload_n 1, 1) := by decide +kernel
theorem dX2_valueAt_22 : decode cX2_valueAt 22 = .ok (.iaload, 1) := by decide +kernel
theorem dX2_valueAt_23 : decode cX2_valueAt 23 = .ok (.ireturn, 1) := by decide +kernel
theorem dX2_setValue_0 : decode cX2_setValue 0 = .ok (.iload_n 1, 1) := by decide +kernel
theorem dX2_setValue_1 : decode cX2_setValue 1 = .ok (.ifCond .lt 19, 3) := by decide +kernel
theorem dX2_setValue_4 : decode cX2_setValue 4 = .ok (.iload_n 1, 1) := by decide +kernel
theorem dX2_setValue_5 : decode cX2_setValue 5 = .ok (.aload_n 0, 1) := by decide +kernel
theorem dX2_setValue_6 : decode cX2_setValue 6 = .ok (.getfield 23, 3) := by decide +kernel
theorem dX2_setValue_9 : decode cX2_setValue 9 = .ok (.arraylength, 1) := by decide +kernel
theorem dX2_setValue_10 : decode cX2_setValue 10 = .ok (.if_icmp .ge 10, 3) := by decide +kernel
theorem dX2_setValue_13 : decode cX2_setValue 13 = .ok (.aload_n 0, 1) := by decide +kernel
theorem dX2_setValue_14 : decode cX2_setValue 14 = .ok (.getfield 23, 3) := by decide +kernel
theorem dX2_setValue_17 : decode cX2_setValue 17 = .ok (.iload_n 1, 1) := by decide +kernel
theorem dX2_setValue_18 : decode cX2_setValue 18 = .ok (.iload_n 2, 1) := by decide +kernel
theorem dX2_setValue_19 : decode cX2_setValue 19 = .ok (.iastore, 1) := by decide +kernel
theorem dX2_setValue_20 : decode cX2_setValue 20 = .ok (.return_, 1) := by decide +kernel
theorem dX2_link_0 : decode cX2_link 0 = .ok (.iload_n 0, 1) := by decide +kernel
theorem dX2_link_1 : decode cX2_link 1 = .ok (.lookupswitch 117 #[(17, 59), (18, 73), (34, 87), (35, 98), (36, 109), (37, 113)], 59) := by decide +kernel
theorem dX2_link_60 : decode cX2_link 60 = .ok (.iload_n 1, 1) := by decide +kernel
theorem dX2_link_61 : decode cX2_link 61 = .ok (.ifCond .eq 11, 3) := by decide +kernel
theorem dX2_link_64 : decode cX2_link 64 = .ok (.iload_n 2, 1) := by decide +kernel
theorem dX2_link_65 : decode cX2_link 65 = .ok (.ifCond .eq 7, 3) := by decide +kernel
theorem dX2_link_68 : decode cX2_link 68 = .ok (.iconst 1, 1) := by decide +kernel
theorem dX2_link_69 : decode cX2_link 69 = .ok (.goto 4, 3) := by decide +kernel
theorem dX2_link_72 : decode cX2_link 72 = .ok (.iconst 0, 1) := by decide +kernel
theorem dX2_link_73 : decode cX2_link 73 = .ok (.ireturn, 1) := by decide +kernel
theorem dX2_link_74 : decode cX2_link 74 = .ok (.iload_n 1, 1) := by decide +kernel
theorem dX2_link_75 : decode cX2_link 75 = .ok (.ifCond .ne 7, 3) := by decide +kernel
theorem dX2_link_78 : decode cX2_link 78 = .ok (.iload_n 2, 1) := by decide +kernel
theorem dX2_link_79 : decode cX2_link 79 = .ok (.ifCond .eq 7, 3) := by decide +kernel
theorem dX2_link_82 : decode cX2_link 82 = .ok (.iconst 1, 1) := by decide +kernel
theorem dX2_link_83 : decode cX2_link 83 = .ok (.goto 4, 3) := by decide +kernel
theorem dX2_link_86 : decode cX2_link 86 = .ok (.iconst 0, 1) := by decide +kernel
theorem dX2_link_87 : decode cX2_link 87 = .ok (.ireturn, 1) := by decide +kernel
theorem dX2_link_88 : decode cX2_link 88 = .ok (.iload_n 1, 1) := by decide +kernel
theorem dX2_link_89 : decode cX2_link 89 = .ok (.iload_n 2, 1) := by decide +kernel
theorem dX2_link_90 : decode cX2_link 90 = .ok (.if_icmp .ge 7, 3) := by decide +kernel
theorem dX2_link_93 : decode cX2_link 93 = .ok (.iconst 1, 1) := by decide +kernel
theorem dX2_link_94 : decode cX2_link 94 = .ok (.goto 4, 3) := by decide +kernel
theorem dX2_link_97 : decode cX2_link 97 = .ok (.iconst 0, 1) := by decide +kernel
theorem dX2_link_98 : decode cX2_link 98 = .ok (.ireturn, 1) := by decide +kernel
theorem dX2_link_99 : decode cX2_link 99 = .ok (.iload_n 1, 1) := by decide +kernel
theorem dX2_link_100 : decode cX2_link 100 = .ok (.iload_n 2, 1) := by decide +kernel
theorem dX2_link_101 : decode cX2_link 101 = .ok (.if_icmp .ne 7, 3) := by decide +kernel
theorem dX2_link_104 : decode cX2_link 104 = .ok (.iconst 1, 1) := by decide +kernel
theorem dX2_link_105 : decode cX2_link 105 = .ok (.goto 4, 3) := by decide +kernel
theorem dX2_link_108 : decode cX2_link 108 = .ok (.iconst 0, 1) := by decide +kernel
theorem dX2_link_109 : decode cX2_link 109 = .ok (.ireturn, 1) := by decide +kernel
theorem dX2_link_110 : decode cX2_link 110 = .ok (.iload_n 1, 1) := by decide +kernel
theorem dX2_link_111 : decode cX2_link 111 = .ok (.iload_n 2, 1) := by decide +kernel
theorem dX2_link_112 : decode cX2_link 112 = .ok (.iadd, 1) := by decide +kernel
theorem dX2_link_113 : decode cX2_link 113 = .ok (.ireturn, 1) := by decide +kernel
theorem dX2_link_114 : decode cX2_link 114 = .ok (.iload_n 1, 1) := by decide +kernel
theorem dX2_link_115 : decode cX2_link 115 = .ok (.iload_n 2, 1) := by decide +kernel
theorem dX2_link_116 : decode cX2_link 116 = .ok (.isub, 1) := by decide +kernel
theorem dX2_link_117 : decode cX2_link 117 = .ok (.ireturn, 1) := by decide +kernel
theorem dX2_link_118 : decode cX2_link 118 = .ok (.iload_n 1, 1) := by decide +kernel
theorem dX2_link_119 : decode cX2_link 119 = .ok (.iload_n 2, 1) := by decide +kernel
theorem dX2_link_120 : decode cX2_link 120 = .ok (.imul, 1) := by decide +kernel
theorem dX2_link_121 : decode cX2_link 121 = .ok (.ireturn, 1) := by decide +kernel
theorem dX3_init_0 : decode cX3_init 0 = .ok (.aload_n 0, 1) := by decide +kernel
theorem dX3_init_1 : decode cX3_init 1 = .ok (.invokespecial 3, 3) := by decide +kernel
theorem dX3_init_4 : decode cX3_init 4 = .ok (.aload_n 0, 1) := by decide +kernel
theorem dX3_init_5 : decode cX3_init 5 = .ok (.new 9, 3) := by decide +kernel
theorem dX3_init_8 : decode cX3_init 8 = .ok (.dup, 1) := by decide +kernel
theorem dX3_init_9 : decode cX3_init 9 = .ok (.bipush 24, 2) := by decide +kernel
theorem dX3_init_11 : decode cX3_init 11 = .ok (.invokespecial 11, 3) := by decide +kernel
theorem dX3_init_14 : decode cX3_init 14 = .ok (.putfield 14, 3) := by decide +kernel
theorem dX3_init_17 : decode cX3_init 17 = .ok (.aload_n 0, 1) := by decide +kernel
theorem dX3_init_18 : decode cX3_init 18 = .ok (.new 9, 3) := by decide +kernel
theorem dX3_init_21 : decode cX3_init 21 = .ok (.dup, 1) := by decide +kernel
theorem dX3_init_22 : decode cX3_init 22 = .ok (.bipush 120, 2) := by decide +kernel
theorem dX3_init_24 : decode cX3_init 24 = .ok (.invokespecial 11, 3) := by decide +kernel
theorem dX3_init_27 : decode cX3_init 27 = .ok (.putfield 20, 3) := by decide +kernel
theorem dX3_init_30 : decode cX3_init 30 = .ok (.aload_n 0, 1) := by decide +kernel
theorem dX3_init_31 : decode cX3_init 31 = .ok (.aload_n 1, 1) := by decide +kernel
theorem dX3_init_32 : decode cX3_init 32 = .ok (.putfield 23, 3) := by decide +kernel
theorem dX3_init_35 : decode cX3_init 35 = .ok (.return_, 1) := by decide +kernel
theorem dX3_begin_0 : decode cX3_begin 0 = .ok (.aload_n 0, 1) := by decide +kernel
theorem dX3_begin_1 : decode cX3_begin 1 = .ok (.iload_n 1, 1) := by decide +kernel
theorem dX3_begin_2 : decode cX3_begin 2 = .ok (.putfield 27, 3) := by decide +kernel
theorem dX3_begin_5 : decode cX3_begin 5 = .ok (.aload_n 0, 1) := by decide +kernel
theorem dX3_begin_6 : decode cX3_begin 6 = .ok (.aload_n 0, 1) := by decide +kernel
theorem dX3_begin_7 : decode cX3_begin 7 = .ok (.getfield 23, 3) := by decide +kernel
theorem dX3_begin_10 : decode cX3_begin 10 = .ok (.getfield 31, 3) := by decide +kernel
theorem dX3_begin_13 : decode cX3_begin 13 = .ok (.putfield 36, 3) := by decide +kernel
theorem dX3_begin_16 : decode cX3_begin 16 = .ok (.aload_n 0, 1) := by decide +kernel
theorem dX3_begin_17 : decode cX3_begin 17 = .ok (.iconst 0, 1) := by decide +kernel
theorem dX3_begin_18 : decode cX3_begin 18 = .ok (.putfield 39, 3) := by decide +kernel
theorem dX3_begin_21 : decode cX3_begin 21 = .ok (.aload_n 0, 1) := by decide +kernel
theorem dX3_begin_22 : decode cX3_begin 22 = .ok (.getfield 23, 3) := by decide +kernel
theorem dX3_begin_25 : decode cX3_begin 25 = .ok (.invokevirtual 42, 3) := by decide +kernel
theorem dX3_begin_28 : decode cX3_begin 28 = .ok (.aload_n 0, 1) := by decide +kernel
theorem dX3_begin_29 : decode cX3_begin 29 = .ok (.getfield 20, 3) := by decide +kernel
theorem dX3_begin_32 : decode cX3_begin 32 = .ok (.aload_n 0, 1) := by decide +kernel
theorem dX3_begin_33 : decode cX3_begin 33 = .ok (.getfield 23, 3) := by decide +kernel
theorem dX3_begin_36 : decode cX3_begin 36 = .ok (.getfield 45, 3) := by decide +kernel
theorem dX3_begin_39 : decode cX3_begin 39 = .ok (.iconst 0, 1) := by decide +kernel
theorem dX3_begin_40 : decode cX3_begin 40 = .ok (.invokevirtual 48, 3) := by decide +kernel
theorem dX3_begin_43 : decode cX3_begin 43 = .ok (.return_, 1) := by decide +kernel
theorem dX3_choose_0 : decode cX3_choose 0 = .ok (.aload_n 0, 1) := by decide +kernel
theorem dX3_choose_1 : decode cX3_choose 1 = .ok (.dup, 1) := by decide +kernel
theorem dX3_choose_2 : decode cX3_choose 2 = .ok (.getfield 39, 3) := by decide +kernel
theorem dX3_choose_5 : decode cX3_choose 5 = .ok (.aload_n 0, 1) := by decide +kernel
theorem dX3_choose_6 : decode cX3_choose 6 = .ok (.getfield 36, 3) := by decide +kernel
theorem dX3_choose_9 : decode cX3_choose 9 = .ok (.aload_n 0, 1) := by decide +kernel
theorem dX3_choose_10 : decode cX3_choose 10 = .ok (.getfield 23, 3) := by decide +kernel
theorem dX3_choose_13 : decode cX3_choose 13 = .ok (.getfield 31, 3) := by decide +kernel
theorem dX3_choose_16 : decode cX3_choose 16 = .ok (.isub, 1) := by decide +kernel
theorem dX3_choose_17 : decode cX3_choose 17 = .ok (.iadd, 1) := by decide +kernel
theorem dX3_choose_18 : decode cX3_choose 18 = .ok (.putfield 39, 3) := by decide +kernel
theorem dX3_choose_21 : decode cX3_choose 21 = .ok (.aload_n 0, 1) := by decide +kernel
theorem dX3_choose_22 : decode cX3_choose 22 = .ok (.aload_n 0, 1) := by decide +kernel
theorem dX3_choose_23 : decode cX3_choose 23 = .ok (.getfield 23, 3) := by decide +kernel
theorem dX3_choose_26 : decode cX3_choose 26 = .ok (.getfield 31, 3) := by decide +kernel
theorem dX3_choose_29 : decode cX3_choose 29 = .ok (.putfield 36, 3) := by decide +kernel
theorem dX3_choose_32 : decode cX3_choose 32 = .ok (.aload_n 0, 1) := by decide +kernel
theorem dX3_choose_33 : decode cX3_choose 33 = .ok (.iload_n 1, 1) := by decide +kernel
theorem dX3_choose_34 : decode cX3_choose 34 = .ok (.putfield 27, 3) := by decide +kernel
theorem dX3_choose_37 : decode cX3_choose 37 = .ok (.return_, 1) := by decide +kernel
theorem dX3_helps_0 : decode cX3_helps 0 = .ok (.aload_n 0, 1) := by decide +kernel
theorem dX3_helps_1 : decode cX3_helps 1 = .ok (.getfield 23, 3) := by decide +kernel
theorem dX3_helps_4 : decode cX3_helps 4 = .ok (.getfield 45, 3) := by decide +kernel
theorem dX3_helps_7 : decode cX3_helps 7 = .ok (.invokevirtual 52, 3) := by decide +kernel
theorem dX3_helps_10 : decode cX3_helps 10 = .ok (.aload_n 0, 1) := by decide +kernel
theorem dX3_helps_11 : decode cX3_helps 11 = .ok (.getfield 23, 3) := by decide +kernel
theorem dX3_helps_14 : decode cX3_helps 14 = .ok (.getfield 55, 3) := by decide +kernel
theorem dX3_helps_17 : decode cX3_helps 17 = .ok (.istore_n 1, 1) := by decide +kernel
theorem dX3_helps_18 : decode cX3_helps 18 = .ok (.iload_n 1, 1) := by decide +kernel
theorem dX3_helps_19 : decode cX3_helps 19 = .ok (.bipush 120, 2) := by decide +kernel
theorem dX3_helps_21 : decode cX3_helps 21 = .ok (.if_icmp .ge 47, 3) := by decide +kernel
theorem dX3_helps_24 : decode cX3_helps 24 = .ok (.iload_n 1, 1) := by decide +kernel
theorem dX3_helps_25 : decode cX3_helps 25 = .ok (.istore_n 2, 1) := by decide +kernel
theorem dX3_helps_26 : decode cX3_helps 26 = .ok (.iload_n 2, 1) := by decide +kernel
theorem dX3_helps_27 : decode cX3_helps 27 = .ok (.iload_n 1, 1) := by decide +kernel
theorem dX3_helps_28 : decode cX3_helps 28 = .ok (.aload_n 0, 1) := by decide +kernel
theorem dX3_helps_29 : decode cX3_helps 29 = .ok (.getfield 23, 3) := by decide +kernel
theorem dX3_helps_32 : decode cX3_helps 32 = .ok (.getfield 58, 3) := by decide +kernel
theorem dX3_helps_35 : decode cX3_helps 35 = .ok (.getfield 62, 3) := by decide +kernel
theorem dX3_helps_38 : decode cX3_helps 38 = .ok (.iadd, 1) := by decide +kernel
theorem dX3_helps_39 : decode cX3_helps 39 = .ok (.if_icmp .ge 23, 3) := by decide +kernel
theorem dX3_helps_42 : decode cX3_helps 42 = .ok (.aload_n 0, 1) := by decide +kernel
theorem dX3_helps_43 : decode cX3_helps 43 = .ok (.iload_n 1, 1) := by decide +kernel
theorem dX3_helps_44 : decode cX3_helps 44 = .ok (.iload_n 2, 1) := by decide +kernel
theorem dX3_helps_45 : decode cX3_helps 45 = .ok (.iconst 0, 1) := by decide +kernel
theorem dX3_helps_46 : decode cX3_helps 46 = .ok (.invokevirtual 67, 3) := by decide +kernel
theorem dX3_helps_49 : decode cX3_helps 49 = .ok (.aload_n 0, 1) := by decide +kernel
theorem dX3_helps_50 : decode cX3_helps 50 = .ok (.iload_n 1, 1) := by decide +kernel
theorem dX3_helps_51 : decode cX3_helps 51 = .ok (.iload_n 2, 1) := by decide +kernel
theorem dX3_helps_52 : decode cX3_helps 52 = .ok (.iconst 1, 1) := by decide +kernel
theorem dX3_helps_53 : decode cX3_helps 53 = .ok (.invokevirtual 67, 3) := by decide +kernel
theorem dX3_helps_56 : decode cX3_helps 56 = .ok (.iinc 2 1, 3) := by decide +kernel
theorem dX3_helps_59 : decode cX3_helps 59 = .ok (.goto (-33), 3) := by decide +kernel
theorem dX3_helps_62 : decode cX3_helps 62 = .ok (.iinc 1 1, 3) := by decide +kernel
theorem dX3_helps_65 : decode cX3_helps 65 = .ok (.goto (-47), 3) := by decide +kernel
theorem dX3_helps_68 : decode cX3_helps 68 = .ok (.aload_n 0, 1) := by decide +kernel
theorem dX3_helps_69 : decode cX3_helps 69 = .ok (.getfield 23, 3) := by decide +kernel
theorem dX3_helps_72 : decode cX3_helps 72 = .ok (.aload_n 0, 1) := by decide +kernel
theorem dX3_helps_73 : decode cX3_helps 73 = .ok (.getfield 36, 3) := by decide +kernel
theorem dX3_helps_76 : decode cX3_helps 76 = .ok (.invokevirtual 71, 3) := by decide +kernel
theorem dX3_helps_79 : decode cX3_helps 79 = .ok (.ireturn, 1) := by decide +kernel
theorem dX3_wake_0 : decode cX3_wake 0 = .ok (.aload_n 0, 1) := by decide +kernel
theorem dX3_wake_1 : decode cX3_wake 1 = .ok (.getfield 23, 3) := by decide +kernel
theorem dX3_wake_4 : decode cX3_wake 4 = .ok (.getfield 75, 3) := by decide +kernel
theorem dX3_wake_7 : decode cX3_wake 7 = .ok (.getfield 79, 3) := by decide +kernel
theorem dX3_wake_10 : decode cX3_wake 10 = .ok (.aload_n 0, 1) := by decide +kernel
theorem dX3_wake_11 : decode cX3_wake 11 = .ok (.getfield 23, 3) := by decide +kernel
theorem dX3_wake_14 : decode cX3_wake 14 = .ok (.getfield 84, 3) := by decide +kernel
theorem dX3_wake_17 : decode cX3_wake 17 = .ok (.iload_n 2, 1) := by decide +kernel
theorem dX3_wake_18 : decode cX3_wake 18 = .ok (.invokestatic 87, 3) := by decide +kernel
theorem dX3_wake_21 : decode cX3_wake 21 = .ok (.iload_n 3, 1) := by decide +kernel
theorem dX3_wake_22 : decode cX3_wake 22 = .ok (.invokevirtual 91, 3) := by decide +kernel
theorem dX3_wake_25 : decode cX3_wake 25 = .ok (.lstore 4, 2) := by decide +kernel
theorem dX3_wake_27 : decode cX3_wake 27 = .ok (.aload_n 0, 1) := by decide +kernel
theorem dX3_wake_28 : decode cX3_wake 28 = .ok (.getfield 23, 3) := by decide +kernel
theorem dX3_wake_31 : decode cX3_wake 31 = .ok (.getfield 45, 3) := by decide +kernel
theorem dX3_wake_34 : decode cX3_wake 34 = .ok (.iload_n 1, 1) := by decide +kernel
theorem dX3_wake_35 : decode cX3_wake 35 = .ok (.iload_n 3, 1) := by decide +kernel
theorem dX3_wake_36 : decode cX3_wake 36 = .ok (.aload_n 0, 1) := by decide +kernel
theorem dX3_wake_37 : decode cX3_wake 37 = .ok (.getfield 23, 3) := by decide +kernel
theorem dX3_wake_40 : decode cX3_wake 40 = .ok (.getfield 95, 3) := by decide +kernel
theorem dX3_wake_43 : decode cX3_wake 43 = .ok (.iload_n 2, 1) := by decide +kernel
theorem dX3_wake_44 : decode cX3_wake 44 = .ok (.iload_n 3, 1) := by decide +kernel
theorem dX3_wake_45 : decode cX3_wake 45 = .ok (.invokevirtual 91, 3) := by decide +kernel
theorem dX3_wake_48 : decode cX3_wake 48 = .ok (.lload 4, 2) := by decide +kernel
theorem dX3_wake_50 : decode cX3_wake 50 = .ok (.ldc2_w 98, 3) := by decide +kernel
theorem dX3_wake_53 : decode cX3_wake 53 = .ok (.lxor, 1) := by decide +kernel
theorem dX3_wake_54 : decode cX3_wake 54 = .ok (.land, 1) := by decide +kernel
theorem dX3_wake_55 : decode cX3_wake 55 = .ok (.aload_n 0, 1) := by decide +kernel
theorem dX3_wake_56 : decode cX3_wake 56 = .ok (.getfield 20, 3) := by decide +kernel
theorem dX3_wake_59 : decode cX3_wake 59 = .ok (.iload_n 1, 1) := by decide +kernel
theorem dX3_wake_60 : decode cX3_wake 60 = .ok (.iload_n 3, 1) := by decide +kernel
theorem dX3_wake_61 : decode cX3_wake 61 = .ok (.invokevirtual 91, 3) := by decide +kernel
theorem dX3_wake_64 : decode cX3_wake 64 = .ok (.land, 1) := by decide +kernel
theorem dX3_wake_65 : decode cX3_wake 65 = .ok (.invokevirtual 100, 3) := by decide +kernel
theorem dX3_wake_68 : decode cX3_wake 68 = .ok (.return_, 1) := by decide +kernel
theorem dX3_tryTrees_0 : decode cX3_tryTrees 0 = .ok (.aload_n 0, 1) := by decide +kernel
theorem dX3_tryTrees_1 : decode cX3_tryTrees 1 = .ok (.iconst (-1), 1) := by decide +kernel
theorem dX3_tryTrees_2 : decode cX3_tryTrees 2 = .ok (.invokevirtual 104, 3) := by decide +kernel
theorem dX3_tryTrees_5 : decode cX3_tryTrees 5 = .ok (.iconst 0, 1) := by decide +kernel
theorem dX3_tryTrees_6 : decode cX3_tryTrees 6 = .ok (.istore_n 2, 1) := by decide +kernel
theorem dX3_tryTrees_7 : decode cX3_tryTrees 7 = .ok (.iload_n 2, 1) := by decide +kernel
theorem dX3_tryTrees_8 : decode cX3_tryTrees 8 = .ok (.bipush 100, 2) := by decide +kernel
theorem dX3_tryTrees_10 : decode cX3_tryTrees 10 = .ok (.if_icmp .ge 58, 3) := by decide +kernel
theorem dX3_tryTrees_13 : decode cX3_tryTrees 13 = .ok (.aload_n 0, 1) := by decide +kernel
theorem dX3_tryTrees_14 : decode cX3_tryTrees 14 = .ok (.getfield 36, 3) := by decide +kernel
theorem dX3_tryTrees_17 : decode cX3_tryTrees 17 = .ok (.ifCond .le 51, 3) := by decide +kernel
theorem dX3_tryTrees_20 : decode cX3_tryTrees 20 = .ok (.aload_n 0, 1) := by decide +kernel
theorem dX3_tryTrees_21 : decode cX3_tryTrees 21 = .ok (.getfield 23, 3) := by decide +kernel
theorem dX3_tryTrees_24 : decode cX3_tryTrees 24 = .ok (.getfield 75, 3) := by decide +kernel
theorem dX3_tryTrees_27 : decode cX3_tryTrees 27 = .ok (.getfield 107, 3) := by decide +kernel
theorem dX3_tryTrees_30 : decode cX3_tryTrees 30 = .ok (.iload_n 2, 1) := by decide +kernel
theorem dX3_tryTrees_31 : decode cX3_tryTrees 31 = .ok (.invokevirtual 111, 3) := by decide +kernel
theorem dX3_tryTrees_34 : decode cX3_tryTrees 34 = .ok (.ifCond .eq 28, 3) := by decide +kernel
theorem dX3_tryTrees_37 : decode cX3_tryTrees 37 = .ok (.aload_n 0, 1) := by decide +kernel
theorem dX3_tryTrees_38 : decode cX3_tryTrees 38 = .ok (.getfield 23, 3) := by decide +kernel
theorem dX3_tryTrees_41 : decode cX3_tryTrees 41 = .ok (.invokevirtual 116, 3) := by decide +kernel
theorem dX3_tryTrees_44 : decode cX3_tryTrees 44 = .ok (.aload_n 0, 1) := by decide +kernel
theorem dX3_tryTrees_45 : decode cX3_tryTrees 45 = .ok (.iload_n 2, 1) := by decide +kernel
theorem dX3_tryTrees_46 : decode cX3_tryTrees 46 = .ok (.iload_n 1, 1) := by decide +kernel
theorem dX3_tryTrees_47 : decode cX3_tryTrees 47 = .ok (.invokevirtual 119, 3) := by decide +kernel
theorem dX3_tryTrees_50 : decode cX3_tryTrees 50 = .ok (.aload_n 0, 1) := by decide +kernel
theorem dX3_tryTrees_51 : decode cX3_tryTrees 51 = .ok (.invokevirtual 123, 3) := by decide +kernel
theorem dX3_tryTrees_54 : decode cX3_tryTrees 54 = .ok (.ifCond .eq 8, 3) := by decide +kernel
theorem dX3_tryTrees_57 : decode cX3_tryTrees 57 = .ok (.aload_n 0, 1) := by decide +kernel
theorem dX3_tryTrees_58 : decode cX3_tryTrees 58 = .ok (.iload_n 2, 1) := by decide +kernel
theorem dX3_tryTrees_59 : decode cX3_tryTrees 59 = .ok (.invokevirtual 127, 3) := by decide +kernel
theorem dX3_tryTrees_62 : decode cX3_tryTrees 62 = .ok (.iinc 2 1, 3) := by decide +kernel
theorem dX3_tryTrees_65 : decode cX3_tryTrees 65 = .ok (.goto (-58), 3) := by decide +kernel
theorem dX3_tryTrees_68 : decode cX3_tryTrees 68 = .ok (.return_, 1) := by decide +kernel
theorem dX3_tryAwnings_0 : decode cX3_tryAwnings 0 = .ok (.aload_n 0, 1) := by decide +kernel
theorem dX3_tryAwnings_1 : decode cX3_tryAwnings 1 = .ok (.iconst (-1), 1) := by decide +kernel
theorem dX3_tryAwnings_2 : decode cX3_tryAwnings 2 = .ok (.invokevirtual 104, 3) := by decide +kernel
theorem dX3_tryAwnings_5 : decode cX3_tryAwnings 5 = .ok (.iconst 0, 1) := by decide +kernel
theorem dX3_tryAwnings_6 : decode cX3_tryAwnings 6 = .ok (.istore_n 1, 1) := by decide +kernel
theorem dX3_tryAwnings_7 : decode cX3_tryAwnings 7 = .ok (.iload_n 1, 1) := by decide +kernel
theorem dX3_tryAwnings_8 : decode cX3_tryAwnings 8 = .ok (.bipush 100, 2) := by decide +kernel
theorem dX3_tryAwnings_10 : decode cX3_tryAwnings 10 = .ok (.if_icmp .ge 78, 3) := by decide +kernel
theorem dX3_tryAwnings_13 : decode cX3_tryAwnings 13 = .ok (.aload_n 0, 1) := by decide +kernel
theorem dX3_tryAwnings_14 : decode cX3_tryAwnings 14 = .ok (.getfield 36, 3) := by decide +kernel
theorem dX3_tryAwnings_17 : decode cX3_tryAwnings 17 = .ok (.ifCond .le 71, 3) := by decide +kernel
theorem dX3_tryAwnings_20 : decode cX3_tryAwnings 20 = .ok (.aload_n 0, 1) := by decide +kernel
theorem dX3_tryAwnings_21 : decode cX3_tryAwnings 21 = .ok (.getfield 23, 3) := by decide +kernel
theorem dX3_tryAwnings_24 : decode cX3_tryAwnings 24 = .ok (.getfield 75, 3) := by decide +kernel
theorem dX3_tryAwnings_27 : decode cX3_tryAwnings 27 = .ok (.getfield 107, 3) := by decide +kernel
theorem dX3_tryAwnings_30 : decode cX3_tryAwnings 30 = .ok (.iload_n 1, 1) := by decide +kernel
theorem dX3_tryAwnings_31 : decode cX3_tryAwnings 31 = .ok (.invokevirtual 111, 3) := by decide +kernel
theorem dX3_tryAwnings_34 : decode cX3_tryAwnings 34 = .ok (.ifCond .eq 48, 3) := by decide +kernel
theorem dX3_tryAwnings_37 : decode cX3_tryAwnings 37 = .ok (.aload_n 0, 1) := by decide +kernel
theorem dX3_tryAwnings_38 : decode cX3_tryAwnings 38 = .ok (.getfield 23, 3) := by decide +kernel
theorem dX3_tryAwnings_41 : decode cX3_tryAwnings 41 = .ok (.invokevirtual 116, 3) := by decide +kernel
theorem dX3_tryAwnings_44 : decode cX3_tryAwnings 44 = .ok (.iconst 0, 1) := by decide +kernel
theorem dX3_tryAwnings_45 : decode cX3_tryAwnings 45 = .ok (.istore_n 2, 1) := by decide +kernel
theorem dX3_tryAwnings_46 : decode cX3_tryAwnings 46 = .ok (.iload_n 2, 1) := by decide +kernel
theorem dX3_tryAwnings_47 : decode cX3_tryAwnings 47 = .ok (.bipush 120, 2) := by decide +kernel
theorem dX3_tryAwnings_49 : decode cX3_tryAwnings 49 = .ok (.if_icmp .ge 21, 3) := by decide +kernel
theorem dX3_tryAwnings_52 : decode cX3_tryAwnings 52 = .ok (.aload_n 0, 1) := by decide +kernel
theorem dX3_tryAwnings_53 : decode cX3_tryAwnings 53 = .ok (.getfield 23, 3) := by decide +kernel
theorem dX3_tryAwnings_56 : decode cX3_tryAwnings 56 = .ok (.getfield 95, 3) := by decide +kernel
theorem dX3_tryAwnings_59 : decode cX3_tryAwnings 59 = .ok (.iload_n 2, 1) := by decide +kernel
theorem dX3_tryAwnings_60 : decode cX3_tryAwnings 60 = .ok (.iload_n 1, 1) := by decide +kernel
theorem dX3_tryAwnings_61 : decode cX3_tryAwnings 61 = .ok (.invokevirtual 130, 3) := by decide +kernel
theorem dX3_tryAwnings_64 : decode cX3_tryAwnings 64 = .ok (.iinc 2 1, 3) := by decide +kernel
theorem dX3_tryAwnings_67 : decode cX3_tryAwnings 67 = .ok (.goto (-21), 3) := by decide +kernel
theorem dX3_tryAwnings_70 : decode cX3_tryAwnings 70 = .ok (.aload_n 0, 1) := by decide +kernel
theorem dX3_tryAwnings_71 : decode cX3_tryAwnings 71 = .ok (.invokevirtual 123, 3) := by decide +kernel
theorem dX3_tryAwnings_74 : decode cX3_tryAwnings 74 = .ok (.ifCond .eq 8, 3) := by decide +kernel
theorem dX3_tryAwnings_77 : decode cX3_tryAwnings 77 = .ok (.aload_n 0, 1) := by decide +kernel
theorem dX3_tryAwnings_78 : decode cX3_tryAwnings 78 = .ok (.iload_n 1, 1) := by decide +kernel
theorem dX3_tryAwnings_79 : decode cX3_tryAwnings 79 = .ok (.invokevirtual 127, 3) := by decide +kernel
theorem dX3_tryAwnings_82 : decode cX3_tryAwnings 82 = .ok (.iinc 1 1, 3) := by decide +kernel
theorem dX3_tryAwnings_85 : decode cX3_tryAwnings 85 = .ok (.goto (-78), 3) := by decide +kernel
theorem dX3_tryAwnings_88 : decode cX3_tryAwnings 88 = .ok (.return_, 1) := by decide +kernel
theorem dX3_trySets_0 : decode cX3_trySets 0 = .ok (.aload_n 0, 1) := by decide +kernel
theorem dX3_trySets_1 : decode cX3_trySets 1 = .ok (.iconst 0, 1) := by decide +kernel
theorem dX3_trySets_2 : decode cX3_trySets 2 = .ok (.invokevirtual 104, 3) := by decide +kernel
theorem dX3_trySets_5 : decode cX3_trySets 5 = .ok (.iconst 1, 1) := by decide +kernel
theorem dX3_trySets_6 : decode cX3_trySets 6 = .ok (.aload_n 0, 1) := by decide +kernel
theorem dX3_trySets_7 : decode cX3_trySets 7 = .ok (.getfield 23, 3) := by decide +kernel
theorem dX3_trySets_10 : decode cX3_trySets 10 = .ok (.getfield 75, 3) := by decide +kernel
theorem dX3_trySets_13 : decode cX3_trySets 13 = .ok (.getfield 107, 3) := by decide +kernel
theorem dX3_trySets_16 : decode cX3_trySets 16 = .ok (.getfield 133, 3) := by decide +kernel
theorem dX3_trySets_19 : decode cX3_trySets 19 = .ok (.getfield 137, 3) := by decide +kernel
theorem dX3_trySets_22 : decode cX3_trySets 22 = .ok (.ishl, 1) := by decide +kernel
theorem dX3_trySets_23 : decode cX3_trySets 23 = .ok (.iconst 1, 1) := by decide +kernel
theorem dX3_trySets_24 : decode cX3_trySets 24 = .ok (.isub, 1) := by decide +kernel
theorem dX3_trySets_25 : decode cX3_trySets 25 = .ok (.istore_n 3, 1) := by decide +kernel
theorem dX3_trySets_26 : decode cX3_trySets 26 = .ok (.aload_n 0, 1) := by decide +kernel
theorem dX3_trySets_27 : decode cX3_trySets 27 = .ok (.iload_n 3, 1) := by decide +kernel
theorem dX3_trySets_28 : decode cX3_trySets 28 = .ok (.iload_n 1, 1) := by decide +kernel
theorem dX3_trySets_29 : decode cX3_trySets 29 = .ok (.invokevirtual 142, 3) := by decide +kernel
theorem dX3_trySets_32 : decode cX3_trySets 32 = .ok (.aload_n 0, 1) := by decide +kernel
theorem dX3_trySets_33 : decode cX3_trySets 33 = .ok (.invokevirtual 123, 3) := by decide +kernel
theorem dX3_trySets_36 : decode cX3_trySets 36 = .ok (.ifCond .eq 13, 3) := by decide +kernel
theorem dX3_trySets_39 : decode cX3_trySets 39 = .ok (.aload_n 0, 1) := by decide +kernel
theorem dX3_trySets_40 : decode cX3_trySets 40 = .ok (.getfield 23, 3) := by decide +kernel
theorem dX3_trySets_43 : decode cX3_trySets 43 = .ok (.getfield 31, 3) := by decide +kernel
theorem dX3_trySets_46 : decode cX3_trySets 46 = .ok (.goto 7, 3) := by decide +kernel
theorem dX3_trySets_49 : decode cX3_trySets 49 = .ok (.aload_n 0, 1) := by decide +kernel
theorem dX3_trySets_50 : decode cX3_trySets 50 = .ok (.getfield 36, 3) := by decide +kernel
theorem dX3_trySets_53 : decode cX3_trySets 53 = .ok (.istore 4, 2) := by decide +kernel
theorem dX3_trySets_55 : decode cX3_trySets 55 = .ok (.iconst 1, 1) := by decide +kernel
theorem dX3_trySets_56 : decode cX3_trySets 56 = .ok (.istore 5, 2) := by decide +kernel
theorem dX3_trySets_58 : decode cX3_trySets 58 = .ok (.iload 5, 2) := by decide +kernel
theorem dX3_trySets_60 : decode cX3_trySets 60 = .ok (.iload_n 2, 1) := by decide +kernel
theorem dX3_trySets_61 : decode cX3_trySets 61 = .ok (.if_icmp .gt 72, 3) := by decide +kernel
theorem dX3_trySets_64 : decode cX3_trySets 64 = .ok (.aload_n 0, 1) := by decide +kernel
theorem dX3_trySets_65 : decode cX3_trySets 65 = .ok (.getfield 36, 3) := by decide +kernel
theorem dX3_trySets_68 : decode cX3_trySets 68 = .ok (.iload 4, 2) := by decide +kernel
theorem dX3_trySets_70 : decode cX3_trySets 70 = .ok (.if_icmp .le 63, 3) := by decide +kernel
theorem dX3_trySets_73 : decode cX3_trySets 73 = .ok (.iconst 1, 1) := by decide +kernel
theorem dX3_trySets_74 : decode cX3_trySets 74 = .ok (.istore 6, 2) := by decide +kernel
theorem dX3_trySets_76 : decode cX3_trySets 76 = .ok (.iload 6, 2) := by decide +kernel
theorem dX3_trySets_78 : decode cX3_trySets 78 = .ok (.iload_n 3, 1) := by decide +kernel
theorem dX3_trySets_79 : decode cX3_trySets 79 = .ok (.if_icmp .gt 48, 3) := by decide +kernel
theorem dX3_trySets_82 : decode cX3_trySets 82 = .ok (.aload_n 0, 1) := by decide +kernel
theorem dX3_trySets_83 : decode cX3_trySets 83 = .ok (.getfield 36, 3) := by decide +kernel
theorem dX3_trySets_86 : decode cX3_trySets 86 = .ok (.iload 4, 2) := by decide +kernel
theorem dX3_trySets_88 : decode cX3_trySets 88 = .ok (.if_icmp .le 39, 3) := by decide +kernel
theorem dX3_trySets_91 : decode cX3_trySets 91 = .ok (.iload 6, 2) := by decide +kernel
theorem dX3_trySets_93 : decode cX3_trySets 93 = .ok (.invokestatic 145, 3) := by decide +kernel
theorem dX3_trySets_96 : decode cX3_trySets 96 = .ok (.iload 5, 2) := by decide +kernel
theorem dX3_trySets_98 : decode cX3_trySets 98 = .ok (.if_icmp .ne 23, 3) := by decide +kernel
theorem dX3_trySets_101 : decode cX3_trySets 101 = .ok (.aload_n 0, 1) := by decide +kernel
theorem dX3_trySets_102 : decode cX3_trySets 102 = .ok (.iload 6, 2) := by decide +kernel
theorem dX3_trySets_104 : decode cX3_trySets 104 = .ok (.iload_n 1, 1) := by decide +kernel
theorem dX3_trySets_105 : decode cX3_trySets 105 = .ok (.invokevirtual 142, 3) := by decide +kernel
theorem dX3_trySets_108 : decode cX3_trySets 108 = .ok (.aload_n 0, 1) := by decide +kernel
theorem dX3_trySets_109 : decode cX3_trySets 109 = .ok (.invokevirtual 123, 3) := by decide +kernel
theorem dX3_trySets_112 : decode cX3_trySets 112 = .ok (.ifCond .eq 9, 3) := by decide +kernel
theorem dX3_trySets_115 : decode cX3_trySets 115 = .ok (.aload_n 0, 1) := by decide +kernel
theorem dX3_trySets_116 : decode cX3_trySets 116 = .ok (.iload 6, 2) := by decide +kernel
theorem dX3_trySets_118 : decode cX3_trySets 118 = .ok (.invokevirtual 127, 3) := by decide +kernel
theorem dX3_trySets_121 : decode cX3_trySets 121 = .ok (.iinc 6 1, 3) := by decide +kernel
theorem dX3_trySets_124 : decode cX3_trySets 124 = .ok (.goto (-48), 3) := by decide +kernel
theorem dX3_trySets_127 : decode cX3_trySets 127 = .ok (.iinc 5 1, 3) := by decide +kernel
theorem dX3_trySets_130 : decode cX3_trySets 130 = .ok (.goto (-72), 3) := by decide +kernel
theorem dX3_trySets_133 : decode cX3_trySets 133 = .ok (.return_, 1) := by decide +kernel
theorem dX3_addTrees_0 : decode cX3_addTrees 0 = .ok (.aload_n 0, 1) := by decide +kernel
theorem dX3_addTrees_1 : decode cX3_addTrees 1 = .ok (.getfield 23, 3) := by decide +kernel
theorem dX3_addTrees_4 : decode cX3_addTrees 4 = .ok (.invokevirtual 116, 3) := by decide +kernel
theorem dX3_addTrees_7 : decode cX3_addTrees 7 = .ok (.iconst 0, 1) := by decide +kernel
theorem dX3_addTrees_8 : decode cX3_addTrees 8 = .ok (.istore_n 3, 1) := by decide +kernel
theorem dX3_addTrees_9 : decode cX3_addTrees 9 = .ok (.iload_n 3, 1) := by decide +kernel
theorem dX3_addTrees_10 : decode cX3_addTrees 10 = .ok (.bipush 8, 2) := by decide +kernel
theorem dX3_addTrees_12 : decode cX3_addTrees 12 = .ok (.if_icmp .ge 39, 3) := by decide +kernel
theorem dX3_addTrees_15 : decode cX3_addTrees 15 = .ok (.iload_n 1, 1) := by decide +kernel
theorem dX3_addTrees_16 : decode cX3_addTrees 16 = .ok (.iload_n 3, 1) := by decide +kernel
theorem dX3_addTrees_17 : decode cX3_addTrees 17 = .ok (.ishr, 1) := by decide +kernel
theorem dX3_addTrees_18 : decode cX3_addTrees 18 = .ok (.iconst 1, 1) := by decide +kernel
theorem dX3_addTrees_19 : decode cX3_addTrees 19 = .ok (.iand, 1) := by decide +kernel
theorem dX3_addTrees_20 : decode cX3_addTrees 20 = .ok (.ifCond .eq 25, 3) := by decide +kernel
theorem dX3_addTrees_23 : decode cX3_addTrees 23 = .ok (.aload_n 0, 1) := by decide +kernel
theorem dX3_addTrees_24 : decode cX3_addTrees 24 = .ok (.aload_n 0, 1) := by decide +kernel
theorem dX3_addTrees_25 : decode cX3_addTrees 25 = .ok (.getfield 23, 3) := by decide +kernel
theorem dX3_addTrees_28 : decode cX3_addTrees 28 = .ok (.getfield 75, 3) := by decide +kernel
theorem dX3_addTrees_31 : decode cX3_addTrees 31 = .ok (.getfield 107, 3) := by decide +kernel
theorem dX3_addTrees_34 : decode cX3_addTrees 34 = .ok (.getfield 133, 3) := by decide +kernel
theorem dX3_addTrees_37 : decode cX3_addTrees 37 = .ok (.iload_n 3, 1) := by decide +kernel
theorem dX3_addTrees_38 : decode cX3_addTrees 38 = .ok (.invokevirtual 151, 3) := by decide +kernel
theorem dX3_addTrees_41 : decode cX3_addTrees 41 = .ok (.iload_n 2, 1) := by decide +kernel
theorem dX3_addTrees_42 : decode cX3_addTrees 42 = .ok (.invokevirtual 119, 3) := by decide +kernel
theorem dX3_addTrees_45 : decode cX3_addTrees 45 = .ok (.iinc 3 1, 3) := by decide +kernel
theorem dX3_addTrees_48 : decode cX3_addTrees 48 = .ok (.goto (-39), 3) := by decide +kernel
theorem dX3_addTrees_51 : decode cX3_addTrees 51 = .ok (.return_, 1) := by decide +kernel
theorem dX3_addTree_0 : decode cX3_addTree 0 = .ok (.iconst 0, 1) := by decide +kernel
theorem dX3_addTree_1 : decode cX3_addTree 1 = .ok (.istore_n 3, 1) := by decide +kernel
theorem dX3_addTree_2 : decode cX3_addTree 2 = .ok (.iload_n 3, 1) := by decide +kernel
theorem dX3_addTree_3 : decode cX3_addTree 3 = .ok (.aload_n 0, 1) := by decide +kernel
theorem dX3_addTree_4 : decode cX3_addTree 4 = .ok (.getfield 23, 3) := by decide +kernel
theorem dX3_addTree_7 : decode cX3_addTree 7 = .ok (.getfield 75, 3) := by decide +kernel
theorem dX3_addTree_10 : decode cX3_addTree 10 = .ok (.getfield 107, 3) := by decide +kernel
theorem dX3_addTree_13 : decode cX3_addTree 13 = .ok (.getfield 154, 3) := by decide +kernel
theorem dX3_addTree_16 : decode cX3_addTree 16 = .ok (.if_icmp .ge 74, 3) := by decide +kernel
theorem dX3_addTree_19 : decode cX3_addTree 19 = .ok (.aload_n 0, 1) := by decide +kernel
theorem dX3_addTree_20 : decode cX3_addTree 20 = .ok (.getfield 23, 3) := by decide +kernel
theorem dX3_addTree_23 : decode cX3_addTree 23 = .ok (.getfield 75, 3) := by decide +kernel
theorem dX3_addTree_26 : decode cX3_addTree 26 = .ok (.getfield 107, 3) := by decide +kernel
theorem dX3_addTree_29 : decode cX3_addTree 29 = .ok (.iload_n 3, 1) := by decide +kernel
theorem dX3_addTree_30 : decode cX3_addTree 30 = .ok (.invokevirtual 157, 3) := by decide +kernel
theorem dX3_addTree_33 : decode cX3_addTree 33 = .ok (.astore 4, 2) := by decide +kernel
theorem dX3_addTree_35 : decode cX3_addTree 35 = .ok (.aload 4, 2) := by decide +kernel
theorem dX3_addTree_37 : decode cX3_addTree 37 = .ok (.ifnull 47, 3) := by decide +kernel
theorem dX3_addTree_40 : decode cX3_addTree 40 = .ok (.aload 4, 2) := by decide +kernel
theorem dX3_addTree_42 : decode cX3_addTree 42 = .ok (.getfield 161, 3) := by decide +kernel
theorem dX3_addTree_45 : decode cX3_addTree 45 = .ok (.aload_n 0, 1) := by decide +kernel
theorem dX3_addTree_46 : decode cX3_addTree 46 = .ok (.getfield 23, 3) := by decide +kernel
theorem dX3_addTree_49 : decode cX3_addTree 49 = .ok (.getfield 84, 3) := by decide +kernel
theorem dX3_addTree_52 : decode cX3_addTree 52 = .ok (.if_icmp .ne 32, 3) := by decide +kernel
theorem dX3_addTree_55 : decode cX3_addTree 55 = .ok (.aload_n 0, 1) := by decide +kernel
theorem dX3_addTree_56 : decode cX3_addTree 56 = .ok (.getfield 14, 3) := by decide +kernel
theorem dX3_addTree_59 : decode cX3_addTree 59 = .ok (.iload_n 3, 1) := by decide +kernel
theorem dX3_addTree_60 : decode cX3_addTree 60 = .ok (.invokevirtual 164, 3) := by decide +kernel
theorem dX3_addTree_63 : decode cX3_addTree 63 = .ok (.aload_n 0, 1) := by decide +kernel
theorem dX3_addTree_64 : decode cX3_addTree 64 = .ok (.getfield 14, 3) := by decide +kernel
theorem dX3_addTree_67 : decode cX3_addTree 67 = .ok (.iload_n 3, 1) := by decide +kernel
theorem dX3_addTree_68 : decode cX3_addTree 68 = .ok (.iload_n 1, 1) := by decide +kernel
theorem dX3_addTree_69 : decode cX3_addTree 69 = .ok (.invokevirtual 130, 3) := by decide +kernel
theorem dX3_addTree_72 : decode cX3_addTree 72 = .ok (.aload 4, 2) := by decide +kernel
theorem dX3_addTree_74 : decode cX3_addTree 74 = .ok (.aload_n 0, 1) := by decide +kernel
theorem dX3_addTree_75 : decode cX3_addTree 75 = .ok (.getfield 14, 3) := by decide +kernel
theorem dX3_addTree_78 : decode cX3_addTree 78 = .ok (.iload_n 3, 1) := by decide +kernel
theorem dX3_addTree_79 : decode cX3_addTree 79 = .ok (.iload_n 1, 1) := by decide +kernel
theorem dX3_addTree_80 : decode cX3_addTree 80 = .ok (.iload_n 2, 1) := by decide +kernel
theorem dX3_addTree_81 : decode cX3_addTree 81 = .ok (.invokevirtual 167, 3) := by decide +kernel
theorem dX3_addTree_84 : decode cX3_addTree 84 = .ok (.iinc 3 1, 3) := by decide +kernel
theorem dX3_addTree_87 : decode cX3_addTree 87 = .ok (.goto (-85), 3) := by decide +kernel
theorem dX3_addTree_90 : decode cX3_addTree 90 = .ok (.iconst 0, 1) := by decide +kernel
theorem dX3_addTree_91 : decode cX3_addTree 91 = .ok (.istore_n 3, 1) := by decide +kernel
theorem dX3_addTree_92 : decode cX3_addTree 92 = .ok (.iload_n 3, 1) := by decide +kernel
theorem dX3_addTree_93 : decode cX3_addTree 93 = .ok (.bipush 120, 2) := by decide +kernel
theorem dX3_addTree_95 : decode cX3_addTree 95 = .ok (.if_icmp .ge 42, 3) := by decide +kernel
theorem dX3_addTree_98 : decode cX3_addTree 98 = .ok (.aload_n 0, 1) := by decide +kernel
theorem dX3_addTree_99 : decode cX3_addTree 99 = .ok (.getfield 23, 3) := by decide +kernel
theorem dX3_addTree_102 : decode cX3_addTree 102 = .ok (.getfield 95, 3) := by decide +kernel
theorem dX3_addTree_105 : decode cX3_addTree 105 = .ok (.iload_n 3, 1) := by decide +kernel
theorem dX3_addTree_106 : decode cX3_addTree 106 = .ok (.aload_n 0, 1) := by decide +kernel
theorem dX3_addTree_107 : decode cX3_addTree 107 = .ok (.getfield 14, 3) := by decide +kernel
theorem dX3_addTree_110 : decode cX3_addTree 110 = .ok (.aload_n 0, 1) := by decide +kernel
theorem dX3_addTree_111 : decode cX3_addTree 111 = .ok (.getfield 23, 3) := by decide +kernel
theorem dX3_addTree_114 : decode cX3_addTree 114 = .ok (.getfield 75, 3) := by decide +kernel
theorem dX3_addTree_117 : decode cX3_addTree 117 = .ok (.aload_n 0, 1) := by decide +kernel
theorem dX3_addTree_118 : decode cX3_addTree 118 = .ok (.getfield 23, 3) := by decide +kernel
theorem dX3_addTree_121 : decode cX3_addTree 121 = .ok (.getfield 84, 3) := by decide +kernel
theorem dX3_addTree_124 : decode cX3_addTree 124 = .ok (.iload_n 3, 1) := by decide +kernel
theorem dX3_addTree_125 : decode cX3_addTree 125 = .ok (.invokevirtual 171, 3) := by decide +kernel
theorem dX3_addTree_128 : decode cX3_addTree 128 = .ok (.invokevirtual 174, 3) := by decide +kernel
theorem dX3_addTree_131 : decode cX3_addTree 131 = .ok (.iinc 3 1, 3) := by decide +kernel
theorem dX3_addTree_134 : decode cX3_addTree 134 = .ok (.goto (-42), 3) := by decide +kernel
theorem dX3_addTree_137 : decode cX3_addTree 137 = .ok (.return_, 1) := by decide +kernel
theorem dX4_init_0 : decode cX4_init 0 = .ok (.aload_n 0, 1) := by decide +kernel
theorem dX4_init_1 : decode cX4_init 1 = .ok (.invokespecial 3, 3) := by decide +kernel
theorem dX4_init_4 : decode cX4_init 4 = .ok (.aload_n 0, 1) := by decide +kernel
theorem dX4_init_5 : decode cX4_init 5 = .ok (.new 9, 3) := by decide +kernel
theorem dX4_init_8 : decode cX4_init 8 = .ok (.dup, 1) := by decide +kernel
theorem dX4_init_9 : decode cX4_init 9 = .ok (.sipush 1000, 3) := by decide +kernel
theorem dX4_init_12 : decode cX4_init 12 = .ok (.invokespecial 11, 3) := by decide +kernel
theorem dX4_init_15 : decode cX4_init 15 = .ok (.putfield 14, 3) := by decide +kernel
theorem dX4_init_18 : decode cX4_init 18 = .ok (.aload_n 0, 1) := by decide +kernel
theorem dX4_init_19 : decode cX4_init 19 = .ok (.new 9, 3) := by decide +kernel
theorem dX4_init_22 : decode cX4_init 22 = .ok (.dup, 1) := by decide +kernel
theorem dX4_init_23 : decode cX4_init 23 = .ok (.sipush 1001, 3) := by decide +kernel
theorem dX4_init_26 : decode cX4_init 26 = .ok (.invokespecial 11, 3) := by decide +kernel
theorem dX4_init_29 : decode cX4_init 29 = .ok (.putfield 20, 3) := by decide +kernel
theorem dX4_init_32 : decode cX4_init 32 = .ok (.aload_n 0, 1) := by decide +kernel
theorem dX4_init_33 : decode cX4_init 33 = .ok (.new 9, 3) := by decide +kernel
theorem dX4_init_36 : decode cX4_init 36 = .ok (.dup, 1) := by decide +kernel
theorem dX4_init_37 : decode cX4_init 37 = .ok (.sipush 1001, 3) := by decide +kernel
theorem dX4_init_40 : decode cX4_init 40 = .ok (.invokespecial 11, 3) := by decide +kernel
theorem dX4_init_43 : decode cX4_init 43 = .ok (.putfield 23, 3) := by decide +kernel
theorem dX4_init_46 : decode cX4_init 46 = .ok (.aload_n 0, 1) := by decide +kernel
theorem dX4_init_47 : decode cX4_init 47 = .ok (.new 9, 3) := by decide +kernel
theorem dX4_init_50 : decode cX4_init 50 = .ok (.dup, 1) := by decide +kernel
theorem dX4_init_51 : decode cX4_init 51 = .ok (.sipush 1001, 3) := by decide +kernel
theorem dX4_init_54 : decode cX4_init 54 = .ok (.invokespecial 11, 3) := by decide +kernel
theorem dX4_init_57 : decode cX4_init 57 = .ok (.putfield 26, 3) := by decide +kernel
theorem dX4_init_60 : decode cX4_init 60 = .ok (.aload_n 0, 1) := by decide +kernel
theorem dX4_init_61 : decode cX4_init 61 = .ok (.new 29, 3) := by decide +kernel
theorem dX4_init_64 : decode cX4_init 64 = .ok (.dup, 1) := by decide +kernel
theorem dX4_init_65 : decode cX4_init 65 = .ok (.invokespecial 31, 3) := by decide +kernel
theorem dX4_init_68 : decode cX4_init 68 = .ok (.putfield 32, 3) := by decide +kernel
theorem dX4_init_71 : decode cX4_init 71 = .ok (.aload_n 0, 1) := by decide +kernel
theorem dX4_init_72 : decode cX4_init 72 = .ok (.aload_n 1, 1) := by decide +kernel
theorem dX4_init_73 : decode cX4_init 73 = .ok (.putfield 36, 3) := by decide +kernel
theorem dX4_init_76 : decode cX4_init 76 = .ok (.return_, 1) := by decide +kernel
theorem dX4_read_0 : decode cX4_read 0 = .ok (.aload_n 0, 1) := by decide +kernel
theorem dX4_read_1 : decode cX4_read 1 = .ok (.aload_n 1, 1) := by decide +kernel
theorem dX4_read_2 : decode cX4_read 2 = .ok (.putfield 36, 3) := by decide +kernel
theorem dX4_read_5 : decode cX4_read 5 = .ok (.aload_n 0, 1) := by decide +kernel
theorem dX4_read_6 : decode cX4_read 6 = .ok (.getfield 36, 3) := by decide +kernel
theorem dX4_read_9 : decode cX4_read 9 = .ok (.invokevirtual 40, 3) := by decide +kernel
theorem dX4_read_12 : decode cX4_read 12 = .ok (.aload_n 0, 1) := by decide +kernel
theorem dX4_read_13 : decode cX4_read 13 = .ok (.iconst 0, 1) := by decide +kernel
theorem dX4_read_14 : decode cX4_read 14 = .ok (.putfield 45, 3) := by decide +kernel
theorem dX4_read_17 : decode cX4_read 17 = .ok (.aload_n 0, 1) := by decide +kernel
theorem dX4_read_18 : decode cX4_read 18 = .ok (.invokevirtual 49, 3) := by decide +kernel
theorem dX4_read_21 : decode cX4_read 21 = .ok (.aload_n 0, 1) := by decide +kernel
theorem dX4_read_22 : decode cX4_read 22 = .ok (.iconst 0, 1) := by decide +kernel
theorem dX4_read_23 : decode cX4_read 23 = .ok (.putfield 52, 3) := by decide +kernel
theorem dX4_read_26 : decode cX4_read 26 = .ok (.aload_n 0, 1) := by decide +kernel
theorem dX4_read_27 : decode cX4_read 27 = .ok (.invokevirtual 55, 3) := by decide +kernel
theorem dX4_read_30 : decode cX4_read 30 = .ok (.iconst 0, 1) := by decide +kernel
theorem dX4_read_31 : decode cX4_read 31 = .ok (.istore_n 2, 1) := by decide +kernel
theorem dX4_read_32 : decode cX4_read 32 = .ok (.iload_n 2, 1) := by decide +kernel
theorem dX4_read_33 : decode cX4_read 33 = .ok (.sipush 1000, 3) := by decide +kernel
theorem dX4_read_36 : decode cX4_read 36 = .ok (.if_icmp .ge 30, 3) := by decide +kernel
theorem dX4_read_39 : decode cX4_read 39 = .ok (.aload_n 0, 1) := by decide +kernel
theorem dX4_read_40 : decode cX4_read 40 = .ok (.getfield 58, 3) := by decide +kernel
theorem dX4_read_43 : decode cX4_read 43 = .ok (.bipush 51, 2) := by decide +kernel
theorem dX4_read_45 : decode cX4_read 45 = .ok (.if_icmp .eq 21, 3) := by decide +kernel
theorem dX4_read_48 : decode cX4_read 48 = .ok (.aload_n 0, 1) := by decide +kernel
theorem dX4_read_49 : decode cX4_read 49 = .ok (.invokevirtual 61, 3) := by decide +kernel
theorem dX4_read_52 : decode cX4_read 52 = .ok (.ifCond .ne 8, 3) := by decide +kernel
theorem dX4_read_55 : decode cX4_read 55 = .ok (.aload_n 0, 1) := by decide +kernel
theorem dX4_read_56 : decode cX4_read 56 = .ok (.getfield 45, 3) := by decide +kernel
theorem dX4_read_59 : decode cX4_read 59 = .ok (.ireturn, 1) := by decide +kernel
theorem dX4_read_60 : decode cX4_read 60 = .ok (.iinc 2 1, 3) := by decide +kernel
theorem dX4_read_63 : decode cX4_read 63 = .ok (.goto (-31), 3) := by decide +kernel
theorem dX4_read_66 : decode cX4_read 66 = .ok (.iconst 0, 1) := by decide +kernel
theorem dX4_read_67 : decode cX4_read 67 = .ok (.ireturn, 1) := by decide +kernel
theorem dX4_readLine_0 : decode cX4_readLine 0 = .ok (.aload_n 0, 1) := by decide +kernel
theorem dX4_readLine_1 : decode cX4_readLine 1 = .ok (.getfield 58, 3) := by decide +kernel
theorem dX4_readLine_4 : decode cX4_readLine 4 = .ok (.tableswitch 93 0 7 #[48, 54, 60, 66, 72, 78, 83, 88], 48) := by decide +kernel
theorem dX4_readLine_52 : decode cX4_readLine 52 = .ok (.aload_n 0, 1) := by decide +kernel
theorem dX4_readLine_53 : decode cX4_readLine 53 = .ok (.iconst 1, 1) := by decide +kernel
theorem dX4_readLine_54 : decode cX4_readLine 54 = .ok (.invokevirtual 65, 3) := by decide +kernel
theorem dX4_readLine_57 : decode cX4_readLine 57 = .ok (.ireturn, 1) := by decide +kernel
theorem dX4_readLine_58 : decode cX4_readLine 58 = .ok (.aload_n 0, 1) := by decide +kernel
theorem dX4_readLine_59 : decode cX4_readLine 59 = .ok (.iconst 2, 1) := by decide +kernel
theorem dX4_readLine_60 : decode cX4_readLine 60 = .ok (.invokevirtual 65, 3) := by decide +kernel
theorem dX4_readLine_63 : decode cX4_readLine 63 = .ok (.ireturn, 1) := by decide +kernel
theorem dX4_readLine_64 : decode cX4_readLine 64 = .ok (.aload_n 0, 1) := by decide +kernel
theorem dX4_readLine_65 : decode cX4_readLine 65 = .ok (.iconst 3, 1) := by decide +kernel
theorem dX4_readLine_66 : decode cX4_readLine 66 = .ok (.invokevirtual 65, 3) := by decide +kernel
theorem dX4_readLine_69 : decode cX4_readLine 69 = .ok (.ireturn, 1) := by decide +kernel
theorem dX4_readLine_70 : decode cX4_readLine 70 = .ok (.aload_n 0, 1) := by decide +kernel
theorem dX4_readLine_71 : decode cX4_readLine 71 = .ok (.iconst 1, 1) := by decide +kernel
theorem dX4_readLine_72 : decode cX4_readLine 72 = .ok (.invokevirtual 69, 3) := by decide +kernel
theorem dX4_readLine_75 : decode cX4_readLine 75 = .ok (.ireturn, 1) := by decide +kernel
theorem dX4_readLine_76 : decode cX4_readLine 76 = .ok (.aload_n 0, 1) := by decide +kernel
theorem dX4_readLine_77 : decode cX4_readLine 77 = .ok (.iconst 0, 1) := by decide +kernel
theorem dX4_readLine_78 : decode cX4_readLine 78 = .ok (.invokevirtual 69, 3) := by decide +kernel
theorem dX4_readLine_81 : decode cX4_readLine 81 = .ok (.ireturn, 1) := by decide +kernel
theorem dX4_readLine_82 : decode cX4_readLine 82 = .ok (.aload_n 0, 1) := by decide +kernel
theorem dX4_readLine_83 : decode cX4_readLine 83 = .ok (.invokevirtual 73, 3) := by decide +kernel
theorem dX4_readLine_86 : decode cX4_readLine 86 = .ok (.ireturn, 1) := by decide +kernel
theorem dX4_readLine_87 : decode cX4_readLine 87 = .ok (.aload_n 0, 1) := by decide +kernel
theorem dX4_readLine_88 : decode cX4_readLine 88 = .ok (.invokevirtual 76, 3) := by decide +kernel
theorem dX4_readLine_91 : decode cX4_readLine 91 = .ok (.ireturn, 1) := by decide +kernel
theorem dX4_readLine_92 : decode cX4_readLine 92 = .ok (.aload_n 0, 1) := by decide +kernel
theorem dX4_readLine_93 : decode cX4_readLine 93 = .ok (.invokevirtual 79, 3) := by decide +kernel
theorem dX4_readLine_96 : decode cX4_readLine 96 = .ok (.ireturn, 1) := by decide +kernel
theorem dX4_readLine_97 : decode cX4_readLine 97 = .ok (.aload_n 0, 1) := by decide +kernel
theorem dX4_readLine_98 : decode cX4_readLine 98 = .ok (.iconst 1, 1) := by decide +kernel
theorem dX4_readLine_99 : decode cX4_readLine 99 = .ok (.aload_n 0, 1) := by decide +kernel
theorem dX4_readLine_100 : decode cX4_readLine 100 = .ok (.getfield 82, 3) := by decide +kernel
theorem dX4_readLine_103 : decode cX4_readLine 103 = .ok (.invokevirtual 85, 3) := by decide +kernel
theorem dX4_readLine_106 : decode cX4_readLine 106 = .ok (.ireturn, 1) := by decide +kernel
theorem dX4_readBuilding_0 : decode cX4_readBuilding 0 = .ok (.aload_n 0, 1) := by decide +kernel
theorem dX4_readBuilding_1 : decode cX4_readBuilding 1 = .ok (.invokevirtual 55, 3) := by decide +kernel
theorem dX4_readBuilding_4 : decode cX4_readBuilding 4 = .ok (.aload_n 0, 1) := by decide +kernel
theorem dX4_readBuilding_5 : decode cX4_readBuilding 5 = .ok (.invokevirtual 89, 3) := by decide +kernel
theorem dX4_readBuilding_8 : decode cX4_readBuilding 8 = .ok (.ifCond .ne 5, 3) := by decide +kernel
theorem dX4_readBuilding_11 : decode cX4_readBuilding 11 = .ok (.iconst 0, 1) := by decide +kernel
theorem dX4_readBuilding_12 : decode cX4_readBuilding 12 = .ok (.ireturn, 1) := by decide +kernel
theorem dX4_readBuilding_13 : decode cX4_readBuilding 13 = .ok (.aload_n 0, 1) := by decide +kernel
theorem dX4_readBuilding_14 : decode cX4_readBuilding 14 = .ok (.getfield 92, 3) := by decide +kernel
theorem dX4_readBuilding_17 : decode cX4_readBuilding 17 = .ok (.istore_n 2, 1) := by decide +kernel
theorem dX4_readBuilding_18 : decode cX4_readBuilding 18 = .ok (.aload_n 0, 1) := by decide +kernel
theorem dX4_readBuilding_19 : decode cX4_readBuilding 19 = .ok (.getfield 36, 3) := by decide +kernel
theorem dX4_readBuilding_22 : decode cX4_readBuilding 22 = .ok (.iload_n 2, 1) := by decide +kernel
theorem dX4_readBuilding_23 : decode cX4_readBuilding 23 = .ok (.invokevirtual 95, 3) := by decide +kernel
theorem dX4_readBuilding_26 : decode cX4_readBuilding 26 = .ok (.ifCond .ne 13, 3) := by decide +kernel
theorem dX4_readBuilding_29 : decode cX4_readBuilding 29 = .ok (.aload_n 0, 1) := by decide +kernel
theorem dX4_readBuilding_30 : decode cX4_readBuilding 30 = .ok (.iconst 3, 1) := by decide +kernel
theorem dX4_readBuilding_31 : decode cX4_readBuilding 31 = .ok (.aload_n 0, 1) := by decide +kernel
theorem dX4_readBuilding_32 : decode cX4_readBuilding 32 = .ok (.getfield 98, 3) := by decide +kernel
theorem dX4_readBuilding_35 : decode cX4_readBuilding 35 = .ok (.invokevirtual 85, 3) := by decide +kernel
theorem dX4_readBuilding_38 : decode cX4_readBuilding 38 = .ok (.ireturn, 1) := by decide +kernel
theorem dX4_readBuilding_39 : decode cX4_readBuilding 39 = .ok (.iload_n 1, 1) := by decide +kernel
theorem dX4_readBuilding_40 : decode cX4_readBuilding 40 = .ok (.iconst 3, 1) := by decide +kernel
theorem dX4_readBuilding_41 : decode cX4_readBuilding 41 = .ok (.if_icmp .eq 15, 3) := by decide +kernel
theorem dX4_readBuilding_44 : decode cX4_readBuilding 44 = .ok (.aload_n 0, 1) := by decide +kernel
theorem dX4_readBuilding_45 : decode cX4_readBuilding 45 = .ok (.iconst 1, 1) := by decide +kernel
theorem dX4_readBuilding_46 : decode cX4_readBuilding 46 = .ok (.bipush 99, 2) := by decide +kernel
theorem dX4_readBuilding_48 : decode cX4_readBuilding 48 = .ok (.invokevirtual 101, 3) := by decide +kernel
theorem dX4_readBuilding_51 : decode cX4_readBuilding 51 = .ok (.ifCond .ne 5, 3) := by decide +kernel
theorem dX4_readBuilding_54 : decode cX4_readBuilding 54 = .ok (.iconst 0, 1) := by decide +kernel
theorem dX4_readBuilding_55 : decode cX4_readBuilding 55 = .ok (.ireturn, 1) := by decide +kernel
theorem dX4_readBuilding_56 : decode cX4_readBuilding 56 = .ok (.aload_n 0, 1) := by decide +kernel
theorem dX4_readBuilding_57 : decode cX4_readBuilding 57 = .ok (.getfield 36, 3) := by decide +kernel
theorem dX4_readBuilding_60 : decode cX4_readBuilding 60 = .ok (.iload_n 2, 1) := by decide +kernel
theorem dX4_readBuilding_61 : decode cX4_readBuilding 61 = .ok (.iload_n 1, 1) := by decide +kernel
theorem dX4_readBuilding_62 : decode cX4_readBuilding 62 = .ok (.iload_n 1, 1) := by decide +kernel
theorem dX4_readBuilding_63 : decode cX4_readBuilding 63 = .ok (.iconst 3, 1) := by decide +kernel
theorem dX4_readBuilding_64 : decode cX4_readBuilding 64 = .ok (.if_icmp .ne 7, 3) := by decide +kernel
theorem dX4_readBuilding_67 : decode cX4_readBuilding 67 = .ok (.iconst 0, 1) := by decide +kernel
theorem dX4_readBuilding_68 : decode cX4_readBuilding 68 = .ok (.goto 7, 3) := by decide +kernel
theorem dX4_readBuilding_71 : decode cX4_readBuilding 71 = .ok (.aload_n 0, 1) := by decide +kernel
theorem dX4_readBuilding_72 : decode cX4_readBuilding 72 = .ok (.getfield 104, 3) := by decide +kernel
theorem dX4_readBuilding_75 : decode cX4_readBuilding 75 = .ok (.invokevirtual 107, 3) := by decide +kernel
theorem dX4_readBuilding_78 : decode cX4_readBuilding 78 = .ok (.aload_n 0, 1) := by decide +kernel
theorem dX4_readBuilding_79 : decode cX4_readBuilding 79 = .ok (.bipush 39, 2) := by decide +kernel
theorem dX4_readBuilding_81 : decode cX4_readBuilding 81 = .ok (.invokevirtual 111, 3) := by decide +kernel
theorem dX4_readBuilding_84 : decode cX4_readBuilding 84 = .ok (.ireturn, 1) := by decide +kernel
theorem dX4_readTimed_0 : decode cX4_readTimed 0 = .ok (.aload_n 0, 1) := by decide +kernel
theorem dX4_readTimed_1 : decode cX4_readTimed 1 = .ok (.getfield 36, 3) := by decide +kernel
theorem dX4_readTimed_4 : decode cX4_readTimed 4 = .ok (.getfield 114, 3) := by decide +kernel
theorem dX4_readTimed_7 : decode cX4_readTimed 7 = .ok (.aload_n 0, 1) := by decide +kernel
theorem dX4_readTimed_8 : decode cX4_readTimed 8 = .ok (.getfield 36, 3) := by decide +kernel
theorem dX4_readTimed_11 : decode cX4_readTimed 11 = .ok (.getfield 117, 3) := by decide +kernel
theorem dX4_readTimed_14 : decode cX4_readTimed 14 = .ok (.iadd, 1) := by decide +kernel
theorem dX4_readTimed_15 : decode cX4_readTimed 15 = .ok (.bipush 20, 2) := by decide +kernel
theorem dX4_readTimed_17 : decode cX4_readTimed 17 = .ok (.if_icmp .lt 13, 3) := by decide +kernel
theorem dX4_readTimed_20 : decode cX4_readTimed 20 = .ok (.aload_n 0, 1) := by decide +kernel
theorem dX4_readTimed_21 : decode cX4_readTimed 21 = .ok (.iconst 5, 1) := by decide +kernel
theorem dX4_readTimed_22 : decode cX4_readTimed 22 = .ok (.aload_n 0, 1) := by decide +kernel
theorem dX4_readTimed_23 : decode cX4_readTimed 23 = .ok (.getfield 82, 3) := by decide +kernel
theorem dX4_readTimed_26 : decode cX4_readTimed 26 = .ok (.invokevirtual 85, 3) := by decide +kernel
theorem dX4_readTimed_29 : decode cX4_readTimed 29 = .ok (.ireturn, 1) := by decide +kernel
theorem dX4_readTimed_30 : decode cX4_readTimed 30 = .ok (.aload_n 0, 1) := by decide +kernel
theorem dX4_readTimed_31 : decode cX4_readTimed 31 = .ok (.invokevirtual 55, 3) := by decide +kernel
theorem dX4_readTimed_34 : decode cX4_readTimed 34 = .ok (.aload_n 0, 1) := by decide +kernel
theorem dX4_readTimed_35 : decode cX4_readTimed 35 = .ok (.invokevirtual 89, 3) := by decide +kernel
theorem dX4_readTimed_38 : decode cX4_readTimed 38 = .ok (.ifCond .eq 12, 3) := by decide +kernel
theorem dX4_readTimed_41 : decode cX4_readTimed 41 = .ok (.aload_n 0, 1) := by decide +kernel
theorem dX4_readTimed_42 : decode cX4_readTimed 42 = .ok (.bipush 8, 2) := by decide +kernel
theorem dX4_readTimed_44 : decode cX4_readTimed 44 = .ok (.invokevirtual 111, 3) := by decide +kernel
theorem dX4_readTimed_47 : decode cX4_readTimed 47 = .ok (.ifCond .ne 5, 3) := by decide +kernel
theorem dX4_readTimed_50 : decode cX4_readTimed 50 = .ok (.iconst 0, 1) := by decide +kernel
theorem dX4_readTimed_51 : decode cX4_readTimed 51 = .ok (.ireturn, 1) := by decide +kernel
theorem dX4_readTimed_52 : decode cX4_readTimed 52 = .ok (.aload_n 0, 1) := by decide +kernel
theorem dX4_readTimed_53 : decode cX4_readTimed 53 = .ok (.getfield 32, 3) := by decide +kernel
theorem dX4_readTimed_56 : decode cX4_readTimed 56 = .ok (.invokevirtual 120, 3) := by decide +kernel
theorem dX4_readTimed_59 : decode cX4_readTimed 59 = .ok (.iconst 0, 1) := by decide +kernel
theorem dX4_readTimed_60 : decode cX4_readTimed 60 = .ok (.istore_n 2, 1) := by decide +kernel
theorem dX4_readTimed_61 : decode cX4_readTimed 61 = .ok (.iload_n 2, 1) := by decide +kernel
theorem dX4_readTimed_62 : decode cX4_readTimed 62 = .ok (.sipush 1000, 3) := by decide +kernel
theorem dX4_readTimed_65 : decode cX4_readTimed 65 = .ok (.if_icmp .gt 52, 3) := by decide +kernel
theorem dX4_readTimed_68 : decode cX4_readTimed 68 = .ok (.aload_n 0, 1) := by decide +kernel
theorem dX4_readTimed_69 : decode cX4_readTimed 69 = .ok (.getfield 58, 3) := by decide +kernel
theorem dX4_readTimed_72 : decode cX4_readTimed 72 = .ok (.bipush 39, 2) := by decide +kernel
theorem dX4_readTimed_74 : decode cX4_readTimed 74 = .ok (.if_icmp .eq 43, 3) := by decide +kernel
theorem dX4_readTimed_77 : decode cX4_readTimed 77 = .ok (.aload_n 0, 1) := by decide +kernel
theorem dX4_readTimed_78 : decode cX4_readTimed 78 = .ok (.getfield 32, 3) := by decide +kernel
theorem dX4_readTimed_81 : decode cX4_readTimed 81 = .ok (.aload_n 0, 1) := by decide +kernel
theorem dX4_readTimed_82 : decode cX4_readTimed 82 = .ok (.getfield 58, 3) := by decide +kernel
theorem dX4_readTimed_85 : decode cX4_readTimed 85 = .ok (.aload_n 0, 1) := by decide +kernel
theorem dX4_readTimed_86 : decode cX4_readTimed 86 = .ok (.getfield 123, 3) := by decide +kernel
theorem dX4_readTimed_89 : decode cX4_readTimed 89 = .ok (.invokevirtual 126, 3) := by decide +kernel
theorem dX4_readTimed_92 : decode cX4_readTimed 92 = .ok (.istore_n 3, 1) := by decide +kernel
theorem dX4_readTimed_93 : decode cX4_readTimed 93 = .ok (.iload_n 3, 1) := by decide +kernel
theorem dX4_readTimed_94 : decode cX4_readTimed 94 = .ok (.ifCond .eq 13, 3) := by decide +kernel
theorem dX4_readTimed_97 : decode cX4_readTimed 97 = .ok (.aload_n 0, 1) := by decide +kernel
theorem dX4_readTimed_98 : decode cX4_readTimed 98 = .ok (.iload_n 3, 1) := by decide +kernel
theorem dX4_readTimed_99 : decode cX4_readTimed 99 = .ok (.aload_n 0, 1) := by decide +kernel
theorem dX4_readTimed_100 : decode cX4_readTimed 100 = .ok (.getfield 82, 3) := by decide +kernel
theorem dX4_readTimed_103 : decode cX4_readTimed 103 = .ok (.invokevirtual 85, 3) := by decide +kernel
theorem dX4_readTimed_106 : decode cX4_readTimed 106 = .ok (.ireturn, 1) := by decide +kernel
theorem dX4_readTimed_107 : decode cX4_readTimed 107 = .ok (.aload_n 0, 1) := by decide +kernel
theorem dX4_readTimed_108 : decode cX4_readTimed 108 = .ok (.invokevirtual 55, 3) := by decide +kernel
theorem dX4_readTimed_111 : decode cX4_readTimed 111 = .ok (.iinc 2 1, 3) := by decide +kernel
theorem dX4_readTimed_114 : decode cX4_readTimed 114 = .ok (.goto (-53), 3) := by decide +kernel
theorem dX4_readTimed_117 : decode cX4_readTimed 117 = .ok (.aload_n 0, 1) := by decide +kernel
theorem dX4_readTimed_118 : decode cX4_readTimed 118 = .ok (.getfield 32, 3) := by decide +kernel
theorem dX4_readTimed_121 : decode cX4_readTimed 121 = .ok (.invokevirtual 130, 3) := by decide +kernel
theorem dX4_readTimed_124 : decode cX4_readTimed 124 = .ok (.ifCond .ne 13, 3) := by decide +kernel
theorem dX4_readTimed_127 : decode cX4_readTimed 127 = .ok (.aload_n 0, 1) := by decide +kernel
theorem dX4_readTimed_128 : decode cX4_readTimed 128 = .ok (.iconst 1, 1) := by decide +kernel
theorem dX4_readTimed_129 : decode cX4_readTimed 129 = .ok (.aload_n 0, 1) := by decide +kernel
theorem dX4_readTimed_130 : decode cX4_readTimed 130 = .ok (.getfield 82, 3) := by decide +kernel
theorem dX4_readTimed_133 : decode cX4_readTimed 133 = .ok (.invokevirtual 85, 3) := by decide +kernel
theorem dX4_readTimed_136 : decode cX4_readTimed 136 = .ok (.ireturn, 1) := by decide +kernel
theorem dX4_readTimed_137 : decode cX4_readTimed 137 = .ok (.iload_n 1, 1) := by decide +kernel
theorem dX4_readTimed_138 : decode cX4_readTimed 138 = .ok (.ifCond .eq 19, 3) := by decide +kernel
theorem dX4_readTimed_141 : decode cX4_readTimed 141 = .ok (.aload_n 0, 1) := by decide +kernel
theorem dX4_readTimed_142 : decode cX4_readTimed 142 = .ok (.getfield 36, 3) := by decide +kernel
theorem dX4_readTimed_145 : decode cX4_readTimed 145 = .ok (.dup, 1) := by decide +kernel
theorem dX4_readTimed_146 : decode cX4_readTimed 146 = .ok (.getfield 114, 3) := by decide +kernel
theorem dX4_readTimed_149 : decode cX4_readTimed 149 = .ok (.iconst 1, 1) := by decide +kernel
theorem dX4_readTimed_150 : decode cX4_readTimed 150 = .ok (.iadd, 1) := by decide +kernel
theorem dX4_readTimed_151 : decode cX4_readTimed 151 = .ok (.putfield 114, 3) := by decide +kernel
theorem dX4_readTimed_154 : decode cX4_readTimed 154 = .ok (.goto 16, 3) := by decide +kernel
theorem dX4_readTimed_157 : decode cX4_readTimed 157 = .ok (.aload_n 0, 1) := by decide +kernel
theorem dX4_readTimed_158 : decode cX4_readTimed 158 = .ok (.getfield 36, 3) := by decide +kernel
theorem dX4_readTimed_161 : decode cX4_readTimed 161 = .ok (.dup, 1) := by decide +kernel
theorem dX4_readTimed_162 : decode cX4_readTimed 162 = .ok (.getfield 117, 3) := by decide +kernel
theorem dX4_readTimed_165 : decode cX4_readTimed 165 = .ok (.iconst 1, 1) := by decide +kernel
theorem dX4_readTimed_166 : decode cX4_readTimed 166 = .ok (.iadd, 1) := by decide +kernel
theorem dX4_readTimed_167 : decode cX4_readTimed 167 = .ok (.putfield 117, 3) := by decide +kernel
theorem dX4_readTimed_170 : decode cX4_readTimed 170 = .ok (.aload_n 0, 1) := by decide +kernel
theorem dX4_readTimed_171 : decode cX4_readTimed 171 = .ok (.iload_n 1, 1) := by decide +kernel
theorem dX4_readTimed_172 : decode cX4_readTimed 172 = .ok (.ifCond .eq 13, 3) := by decide +kernel
theorem dX4_readTimed_175 : decode cX4_readTimed 175 = .ok (.aload_n 0, 1) := by decide +kernel
theorem dX4_readTimed_176 : decode cX4_readTimed 176 = .ok (.getfield 36, 3) := by decide +kernel
theorem dX4_readTimed_179 : decode cX4_readTimed 179 = .ok (.getfield 133, 3) := by decide +kernel
theorem dX4_readTimed_182 : decode cX4_readTimed 182 = .ok (.goto 10, 3) := by decide +kernel
theorem dX4_readTimed_185 : decode cX4_readTimed 185 = .ok (.aload_n 0, 1) := by decide +kernel
theorem dX4_readTimed_186 : decode cX4_readTimed 186 = .ok (.getfield 36, 3) := by decide +kernel
theorem dX4_readTimed_189 : decode cX4_readTimed 189 = .ok (.getfield 137, 3) := by decide +kernel
theorem dX4_readTimed_192 : decode cX4_readTimed 192 = .ok (.invokevirtual 140, 3) := by decide +kernel
theorem dX4_readTimed_195 : decode cX4_readTimed 195 = .ok (.aload_n 0, 1) := by decide +kernel
theorem dX4_readTimed_196 : decode cX4_readTimed 196 = .ok (.bipush 39, 2) := by decide +kernel
theorem dX4_readTimed_198 : decode cX4_readTimed 198 = .ok (.invokevirtual 111, 3) := by decide +kernel
theorem dX4_readTimed_201 : decode cX4_readTimed 201 = .ok (.ireturn, 1) := by decide +kernel
theorem dX4_fillTimes_0 : decode cX4_fillTimes 0 = .ok (.iconst 0, 1) := by decide +kernel
theorem dX4_fillTimes_1 : decode cX4_fillTimes 1 = .ok (.istore_n 2, 1) := by decide +kernel
theorem dX4_fillTimes_2 : decode cX4_fillTimes 2 = .ok (.iload_n 2, 1) := by decide +kernel
theorem dX4_fillTimes_3 : decode cX4_fillTimes 3 = .ok (.iconst 4, 1) := by decide +kernel
theorem dX4_fillTimes_4 : decode cX4_fillTimes 4 = .ok (.if_icmp .ge 48, 3) := by decide +kernel
theorem dX4_fillTimes_7 : decode cX4_fillTimes 7 = .ok (.iconst 0, 1) := by decide +kernel
theorem dX4_fillTimes_8 : decode cX4_fillTimes 8 = .ok (.istore_n 3, 1) := by decide +kernel
theorem dX4_fillTimes_9 : decode cX4_fillTimes 9 = .ok (.iload_n 3, 1) := by decide +kernel
theorem dX4_fillTimes_10 : decode cX4_fillTimes 10 = .ok (.bipush 120, 2) := by decide +kernel
theorem dX4_fillTimes_12 : decode cX4_fillTimes 12 = .ok (.if_icmp .ge 34, 3) := by decide +kernel
theorem dX4_fillTimes_15 : decode cX4_fillTimes 15 = .ok (.aload_n 0, 1) := by decide +kernel
theorem dX4_fillTimes_16 : decode cX4_fillTimes 16 = .ok (.getfield 32, 3) := by decide +kernel
theorem dX4_fillTimes_19 : decode cX4_fillTimes 19 = .ok (.iload_n 2, 1) := by decide +kernel
theorem dX4_fillTimes_20 : decode cX4_fillTimes 20 = .ok (.iload_n 3, 1) := by decide +kernel
theorem dX4_fillTimes_21 : decode cX4_fillTimes 21 = .ok (.invokevirtual 144, 3) := by decide +kernel
theorem dX4_fillTimes_24 : decode cX4_fillTimes 24 = .ok (.ifCond .eq 16, 3) := by decide +kernel
theorem dX4_fillTimes_27 : decode cX4_fillTimes 27 = .ok (.aload_n 1, 1) := by decide +kernel
theorem dX4_fillTimes_28 : decode cX4_fillTimes 28 = .ok (.iload_n 2, 1) := by decide +kernel
theorem dX4_fillTimes_29 : decode cX4_fillTimes 29 = .ok (.iload_n 3, 1) := by decide +kernel
theorem dX4_fillTimes_30 : decode cX4_fillTimes 30 = .ok (.invokestatic 146, 3) := by decide +kernel
theorem dX4_fillTimes_33 : decode cX4_fillTimes 33 = .ok (.aload_n 0, 1) := by decide +kernel
theorem dX4_fillTimes_34 : decode cX4_fillTimes 34 = .ok (.getfield 92, 3) := by decide +kernel
theorem dX4_fillTimes_37 : decode cX4_fillTimes 37 = .ok (.invokevirtual 149, 3) := by decide +kernel
theorem dX4_fillTimes_40 : decode cX4_fillTimes 40 = .ok (.iinc 3 1, 3) := by decide +kernel
theorem dX4_fillTimes_43 : decode cX4_fillTimes 43 = .ok (.goto (-34), 3) := by decide +kernel
theorem dX4_fillTimes_46 : decode cX4_fillTimes 46 = .ok (.iinc 2 1, 3) := by decide +kernel
theorem dX4_fillTimes_49 : decode cX4_fillTimes 49 = .ok (.goto (-47), 3) := by decide +kernel
theorem dX4_fillTimes_52 : decode cX4_fillTimes 52 = .ok (.return_, 1) := by decide +kernel
theorem dX4_readWater_0 : decode cX4_readWater 0 = .ok (.aload_n 0, 1) := by decide +kernel
theorem dX4_readWater_1 : decode cX4_readWater 1 = .ok (.getfield 36, 3) := by decide +kernel
theorem dX4_readWater_4 : decode cX4_readWater 4 = .ok (.getfield 154, 3) := by decide +kernel
theorem dX4_readWater_7 : decode cX4_readWater 7 = .ok (.bipush 10, 2) := by decide +kernel
theorem dX4_readWater_9 : decode cX4_readWater 9 = .ok (.if_icmp .lt 13, 3) := by decide +kernel
theorem dX4_readWater_12 : decode cX4_readWater 12 = .ok (.aload_n 0, 1) := by decide +kernel
theorem dX4_readWater_13 : decode cX4_readWater 13 = .ok (.iconst 5, 1) := by decide +kernel
theorem dX4_readWater_14 : decode cX4_readWater 14 = .ok (.aload_n 0, 1) := by decide +kernel
theorem dX4_readWater_15 : decode cX4_readWater 15 = .ok (.getfield 82, 3) := by decide +kernel
theorem dX4_readWater_18 : decode cX4_readWater 18 = .ok (.invokevirtual 85, 3) := by decide +kernel
theorem dX4_readWater_21 : decode cX4_readWater 21 = .ok (.ireturn, 1) := by decide +kernel
theorem dX4_readWater_22 : decode cX4_readWater 22 = .ok (.aload_n 0, 1) := by decide +kernel
theorem dX4_readWater_23 : decode cX4_readWater 23 = .ok (.invokevirtual 55, 3) := by decide +kernel
theorem dX4_readWater_26 : decode cX4_readWater 26 = .ok (.aload_n 0, 1) := by decide +kernel
theorem dX4_readWater_27 : decode cX4_readWater 27 = .ok (.invokevirtual 89, 3) := by decide +kernel
theorem dX4_readWater_30 : decode cX4_readWater 30 = .ok (.ifCond .ne 5, 3) := by decide +kernel
theorem dX4_readWater_33 : decode cX4_readWater 33 = .ok (.iconst 0, 1) := by decide +kernel
theorem dX4_readWater_34 : decode cX4_readWater 34 = .ok (.ireturn, 1) := by decide +kernel
theorem dX4_readWater_35 : decode cX4_readWater 35 = .ok (.aload_n 0, 1) := by decide +kernel
theorem dX4_readWater_36 : decode cX4_readWater 36 = .ok (.getfield 36, 3) := by decide +kernel
theorem dX4_readWater_39 : decode cX4_readWater 39 = .ok (.dup, 1) := by decide +kernel
theorem dX4_readWater_40 : decode cX4_readWater 40 = .ok (.getfield 154, 3) := by decide +kernel
theorem dX4_readWater_43 : decode cX4_readWater 43 = .ok (.iconst 1, 1) := by decide +kernel
theorem dX4_readWater_44 : decode cX4_readWater 44 = .ok (.iadd, 1) := by decide +kernel
theorem dX4_readWater_45 : decode cX4_readWater 45 = .ok (.putfield 154, 3) := by decide +kernel
theorem dX4_readWater_48 : decode cX4_readWater 48 = .ok (.aload_n 0, 1) := by decide +kernel
theorem dX4_readWater_49 : decode cX4_readWater 49 = .ok (.getfield 36, 3) := by decide +kernel
theorem dX4_readWater_52 : decode cX4_readWater 52 = .ok (.getfield 157, 3) := by decide +kernel
theorem dX4_readWater_55 : decode cX4_readWater 55 = .ok (.iconst 0, 1) := by decide +kernel
theorem dX4_readWater_56 : decode cX4_readWater 56 = .ok (.aload_n 0, 1) := by decide +kernel
theorem dX4_readWater_57 : decode cX4_readWater 57 = .ok (.getfield 92, 3) := by decide +kernel
theorem dX4_readWater_60 : decode cX4_readWater 60 = .ok (.invokevirtual 149, 3) := by decide +kernel
theorem dX4_readWater_63 : decode cX4_readWater 63 = .ok (.aload_n 0, 1) := by decide +kernel
theorem dX4_readWater_64 : decode cX4_readWater 64 = .ok (.bipush 39, 2) := by decide +kernel
theorem dX4_readWater_66 : decode cX4_readWater 66 = .ok (.invokevirtual 111, 3) := by decide +kernel
theorem dX4_readWater_69 : decode cX4_readWater 69 = .ok (.ireturn, 1) := by decide +kernel
theorem dX4_readSun_0 : decode cX4_readSun 0 = .ok (.aload_n 0, 1) := by decide +kernel
theorem dX4_readSun_1 : decode cX4_readSun 1 = .ok (.getfield 36, 3) := by decide +kernel
theorem dX4_readSun_4 : decode cX4_readSun 4 = .ok (.getfield 160, 3) := by decide +kernel
theorem dX4_readSun_7 : decode cX4_readSun 7 = .ok (.bipush 24, 2) := by decide +kernel
theorem dX4_readSun_9 : decode cX4_readSun 9 = .ok (.if_icmp .lt 13, 3) := by decide +kernel
theorem dX4_readSun_12 : decode cX4_readSun 12 = .ok (.aload_n 0, 1) := by decide +kernel
theorem dX4_readSun_13 : decode cX4_readSun 13 = .ok (.iconst 5, 1) := by decide +kernel
theorem dX4_readSun_14 : decode cX4_readSun 14 = .ok (.aload_n 0, 1) := by decide +kernel
theorem dX4_readSun_15 : decode cX4_readSun 15 = .ok (.getfield 82, 3) := by decide +kernel
theorem dX4_readSun_18 : decode cX4_readSun 18 = .ok (.invokevirtual 85, 3) := by decide +kernel
theorem dX4_readSun_21 : decode cX4_readSun 21 = .ok (.ireturn, 1) := by decide +kernel
theorem dX4_readSun_22 : decode cX4_readSun 22 = .ok (.aload_n 0, 1) := by decide +kernel
theorem dX4_readSun_23 : decode cX4_readSun 23 = .ok (.invokevirtual 55, 3) := by decide +kernel
theorem dX4_readSun_26 : decode cX4_readSun 26 = .ok (.aload_n 0, 1) := by decide +kernel
theorem dX4_readSun_27 : decode cX4_readSun 27 = .ok (.iconst 0, 1) := by decide +kernel
theorem dX4_readSun_28 : decode cX4_readSun 28 = .ok (.iconst 3, 1) := by decide +kernel
theorem dX4_readSun_29 : decode cX4_readSun 29 = .ok (.invokevirtual 101, 3) := by decide +kernel
theorem dX4_readSun_32 : decode cX4_readSun 32 = .ok (.ifCond .ne 5, 3) := by decide +kernel
theorem dX4_readSun_35 : decode cX4_readSun 35 = .ok (.iconst 0, 1) := by decide +kernel
theorem dX4_readSun_36 : decode cX4_readSun 36 = .ok (.ireturn, 1) := by decide +kernel
theorem dX4_readSun_37 : decode cX4_readSun 37 = .ok (.aload_n 0, 1) := by decide +kernel
theorem dX4_readSun_38 : decode cX4_readSun 38 = .ok (.getfield 104, 3) := by decide +kernel
theorem dX4_readSun_41 : decode cX4_readSun 41 = .ok (.istore_n 1, 1) := by decide +kernel
theorem dX4_readSun_42 : decode cX4_readSun 42 = .ok (.aload_n 0, 1) := by decide +kernel
theorem dX4_readSun_43 : decode cX4_readSun 43 = .ok (.bipush 9, 2) := by decide +kernel
theorem dX4_readSun_45 : decode cX4_readSun 45 = .ok (.iconst 0, 1) := by decide +kernel
theorem dX4_readSun_46 : decode cX4_readSun 46 = .ok (.bipush 119, 2) := by decide +kernel
theorem dX4_readSun_48 : decode cX4_readSun 48 = .ok (.invokevirtual 163, 3) := by decide +kernel
theorem dX4_readSun_51 : decode cX4_readSun 51 = .ok (.ifCond .ne 5, 3) := by decide +kernel
theorem dX4_readSun_54 : decode cX4_readSun 54 = .ok (.iconst 0, 1) := by decide +kernel
theorem dX4_readSun_55 : decode cX4_readSun 55 = .ok (.ireturn, 1) := by decide +kernel
theorem dX4_readSun_56 : decode cX4_readSun 56 = .ok (.aload_n 0, 1) := by decide +kernel
theorem dX4_readSun_57 : decode cX4_readSun 57 = .ok (.getfield 104, 3) := by decide +kernel
theorem dX4_readSun_60 : decode cX4_readSun 60 = .ok (.istore_n 2, 1) := by decide +kernel
theorem dX4_readSun_61 : decode cX4_readSun 61 = .ok (.iload_n 2, 1) := by decide +kernel
theorem dX4_readSun_62 : decode cX4_readSun 62 = .ok (.aload_n 0, 1) := by decide +kernel
theorem dX4_readSun_63 : decode cX4_readSun 63 = .ok (.getfield 36, 3) := by decide +kernel
theorem dX4_readSun_66 : decode cX4_readSun 66 = .ok (.iload_n 1, 1) := by decide +kernel
theorem dX4_readSun_67 : decode cX4_readSun 67 = .ok (.invokevirtual 167, 3) := by decide +kernel
theorem dX4_readSun_70 : decode cX4_readSun 70 = .ok (.if_icmp .gt 13, 3) := by decide +kernel
theorem dX4_readSun_73 : decode cX4_readSun 73 = .ok (.aload_n 0, 1) := by decide +kernel
theorem dX4_readSun_74 : decode cX4_readSun 74 = .ok (.iconst 3, 1) := by decide +kernel
theorem dX4_readSun_75 : decode cX4_readSun 75 = .ok (.aload_n 0, 1) := by decide +kernel
theorem dX4_readSun_76 : decode cX4_readSun 76 = .ok (.getfield 98, 3) := by decide +kernel
theorem dX4_readSun_79 : decode cX4_readSun 79 = .ok (.invokevirtual 85, 3) := by decide +kernel
theorem dX4_readSun_82 : decode cX4_readSun 82 = .ok (.ireturn, 1) := by decide +kernel
theorem dX4_readSun_83 : decode cX4_readSun 83 = .ok (.aload_n 0, 1) := by decide +kernel
theorem dX4_readSun_84 : decode cX4_readSun 84 = .ok (.getfield 58, 3) := by decide +kernel
theorem dX4_readSun_87 : decode cX4_readSun 87 = .ok (.bipush 22, 2) := by decide +kernel
theorem dX4_readSun_89 : decode cX4_readSun 89 = .ok (.isub, 1) := by decide +kernel
theorem dX4_readSun_90 : decode cX4_readSun 90 = .ok (.istore_n 3, 1) := by decide +kernel
theorem dX4_readSun_91 : decode cX4_readSun 91 = .ok (.aload_n 0, 1) := by decide +kernel
theorem dX4_readSun_92 : decode cX4_readSun 92 = .ok (.getfield 58, 3) := by decide +kernel
theorem dX4_readSun_95 : decode cX4_readSun 95 = .ok (.bipush 22, 2) := by decide +kernel
theorem dX4_readSun_97 : decode cX4_readSun 97 = .ok (.if_icmp .lt 12, 3) := by decide +kernel
theorem dX4_readSun_100 : decode cX4_readSun 100 = .ok (.aload_n 0, 1) := by decide +kernel
theorem dX4_readSun_101 : decode cX4_readSun 101 = .ok (.getfield 58, 3) := by decide +kernel
theorem dX4_readSun_104 : decode cX4_readSun 104 = .ok (.bipush 29, 2) := by decide +kernel
theorem dX4_readSun_106 : decode cX4_readSun 106 = .ok (.if_icmp .le 13, 3) := by decide +kernel
theorem dX4_readSun_109 : decode cX4_readSun 109 = .ok (.aload_n 0, 1) := by decide +kernel
theorem dX4_readSun_110 : decode cX4_readSun 110 = .ok (.iconst 1, 1) := by decide +kernel
theorem dX4_readSun_111 : decode cX4_readSun 111 = .ok (.aload_n 0, 1) := by decide +kernel
theorem dX4_readSun_112 : decode cX4_readSun 112 = .ok (.getfield 82, 3) := by decide +kernel
theorem dX4_readSun_115 : decode cX4_readSun 115 = .ok (.invokevirtual 85, 3) := by decide +kernel
theorem dX4_readSun_118 : decode cX4_readSun 118 = .ok (.ireturn, 1) := by decide +kernel
theorem dX4_readSun_119 : decode cX4_readSun 119 = .ok (.aload_n 0, 1) := by decide +kernel
theorem dX4_readSun_120 : decode cX4_readSun 120 = .ok (.invokevirtual 55, 3) := by decide +kernel
theorem dX4_readSun_123 : decode cX4_readSun 123 = .ok (.aload_n 0, 1) := by decide +kernel
theorem dX4_readSun_124 : decode cX4_readSun 124 = .ok (.iconst 1, 1) := by decide +kernel
theorem dX4_readSun_125 : decode cX4_readSun 125 = .ok (.bipush 99, 2) := by decide +kernel
theorem dX4_readSun_127 : decode cX4_readSun 127 = .ok (.invokevirtual 101, 3) := by decide +kernel
theorem dX4_readSun_130 : decode cX4_readSun 130 = .ok (.ifCond .ne 5, 3) := by decide +kernel
theorem dX4_readSun_133 : decode cX4_readSun 133 = .ok (.iconst 0, 1) := by decide +kernel
theorem dX4_readSun_134 : decode cX4_readSun 134 = .ok (.ireturn, 1) := by decide +kernel
theorem dX4_readSun_135 : decode cX4_readSun 135 = .ok (.aload_n 0, 1) := by decide +kernel
theorem dX4_readSun_136 : decode cX4_readSun 136 = .ok (.getfield 104, 3) := by decide +kernel
theorem dX4_readSun_139 : decode cX4_readSun 139 = .ok (.istore 4, 2) := by decide +kernel
theorem dX4_readSun_141 : decode cX4_readSun 141 = .ok (.aload_n 0, 1) := by decide +kernel
theorem dX4_readSun_142 : decode cX4_readSun 142 = .ok (.bipush 10, 2) := by decide +kernel
theorem dX4_readSun_144 : decode cX4_readSun 144 = .ok (.iconst 1, 1) := by decide +kernel
theorem dX4_readSun_145 : decode cX4_readSun 145 = .ok (.bipush 99, 2) := by decide +kernel
theorem dX4_readSun_147 : decode cX4_readSun 147 = .ok (.invokevirtual 163, 3) := by decide +kernel
theorem dX4_readSun_150 : decode cX4_readSun 150 = .ok (.ifCond .ne 5, 3) := by decide +kernel
theorem dX4_readSun_153 : decode cX4_readSun 153 = .ok (.iconst 0, 1) := by decide +kernel
theorem dX4_readSun_154 : decode cX4_readSun 154 = .ok (.ireturn, 1) := by decide +kernel
theorem dX4_readSun_155 : decode cX4_readSun 155 = .ok (.aload_n 0, 1) := by decide +kernel
theorem dX4_readSun_156 : decode cX4_readSun 156 = .ok (.getfield 36, 3) := by decide +kernel
theorem dX4_readSun_159 : decode cX4_readSun 159 = .ok (.new 171, 3) := by decide +kernel
theorem dX4_readSun_162 : decode cX4_readSun 162 = .ok (.dup, 1) := by decide +kernel
theorem dX4_readSun_163 : decode cX4_readSun 163 = .ok (.iload_n 1, 1) := by decide +kernel
theorem dX4_readSun_164 : decode cX4_readSun 164 = .ok (.iload_n 2, 1) := by decide +kernel
theorem dX4_readSun_165 : decode cX4_readSun 165 = .ok (.iload_n 3, 1) := by decide +kernel
theorem dX4_readSun_166 : decode cX4_readSun 166 = .ok (.iload 4, 2) := by decide +kernel
theorem dX4_readSun_168 : decode cX4_readSun 168 = .ok (.aload_n 0, 1) := by decide +kernel
theorem dX4_readSun_169 : decode cX4_readSun 169 = .ok (.getfield 104, 3) := by decide +kernel
theorem dX4_readSun_172 : decode cX4_readSun 172 = .ok (.invokespecial 173, 3) := by decide +kernel
theorem dX4_readSun_175 : decode cX4_readSun 175 = .ok (.invokevirtual 176, 3) := by decide +kernel
theorem dX4_readSun_178 : decode cX4_readSun 178 = .ok (.aload_n 0, 1) := by decide +kernel
theorem dX4_readSun_179 : decode cX4_readSun 179 = .ok (.bipush 39, 2) := by decide +kernel
theorem dX4_readSun_181 : decode cX4_readSun 181 = .ok (.invokevirtual 111, 3) := by decide +kernel
theorem dX4_readSun_184 : decode cX4_readSun 184 = .ok (.ireturn, 1) := by decide +kernel
theorem dX4_readWalker_0 : decode cX4_readWalker 0 = .ok (.aload_n 0, 1) := by decide +kernel
theorem dX4_readWalker_1 : decode cX4_readWalker 1 = .ok (.invokevirtual 55, 3) := by decide +kernel
theorem dX4_readWalker_4 : decode cX4_readWalker 4 = .ok (.aload_n 0, 1) := by decide +kernel
theorem dX4_readWalker_5 : decode cX4_readWalker 5 = .ok (.iconst 0, 1) := by decide +kernel
theorem dX4_readWalker_6 : decode cX4_readWalker 6 = .ok (.iconst 5, 1) := by decide +kernel
theorem dX4_readWalker_7 : decode cX4_readWalker 7 = .ok (.invokevirtual 101, 3) := by decide +kernel
theorem dX4_readWalker_10 : decode cX4_readWalker 10 = .ok (.ifCond .ne 5, 3) := by decide +kernel
theorem dX4_readWalker_13 : decode cX4_readWalker 13 = .ok (.iconst 0, 1) := by decide +kernel
theorem dX4_readWalker_14 : decode cX4_readWalker 14 = .ok (.ireturn, 1) := by decide +kernel
theorem dX4_readWalker_15 : decode cX4_readWalker 15 = .ok (.aload_n 0, 1) := by decide +kernel
theorem dX4_readWalker_16 : decode cX4_readWalker 16 = .ok (.getfield 104, 3) := by decide +kernel
theorem dX4_readWalker_19 : decode cX4_readWalker 19 = .ok (.istore_n 1, 1) := by decide +kernel
theorem dX4_readWalker_20 : decode cX4_readWalker 20 = .ok (.iload_n 1, 1) := by decide +kernel
theorem dX4_readWalker_21 : decode cX4_readWalker 21 = .ok (.ifCond .lt 27, 3) := by decide +kernel
theorem dX4_readWalker_24 : decode cX4_readWalker 24 = .ok (.iload_n 1, 1) := by decide +kernel
theorem dX4_readWalker_25 : decode cX4_readWalker 25 = .ok (.aload_n 0, 1) := by decide +kernel
theorem dX4_readWalker_26 : decode cX4_readWalker 26 = .ok (.getfield 36, 3) := by decide +kernel
theorem dX4_readWalker_29 : decode cX4_readWalker 29 = .ok (.getfield 180, 3) := by decide +kernel
theorem dX4_readWalker_32 : decode cX4_readWalker 32 = .ok (.arraylength, 1) := by decide +kernel
theorem dX4_readWalker_33 : decode cX4_readWalker 33 = .ok (.if_icmp .ge 15, 3) := by decide +kernel
theorem dX4_readWalker_36 : decode cX4_readWalker 36 = .ok (.aload_n 0, 1) := by decide +kernel
theorem dX4_readWalker_37 : decode cX4_readWalker 37 = .ok (.getfield 36, 3) := by decide +kernel
theorem dX4_readWalker_40 : decode cX4_readWalker 40 = .ok (.getfield 180, 3) := by decide +kernel
theorem dX4_readWalker_43 : decode cX4_readWalker 43 = .ok (.iload_n 1, 1) := by decide +kernel
theorem dX4_readWalker_44 : decode cX4_readWalker 44 = .ok (.aaload, 1) := by decide +kernel
theorem dX4_readWalker_45 : decode cX4_readWalker 45 = .ok (.ifnull 13, 3) := by decide +kernel
theorem dX4_readWalker_48 : decode cX4_readWalker 48 = .ok (.aload_n 0, 1) := by decide +kernel
theorem dX4_readWalker_49 : decode cX4_readWalker 49 = .ok (.iconst 3, 1) := by decide +kernel
theorem dX4_readWalker_50 : decode cX4_readWalker 50 = .ok (.aload_n 0, 1) := by decide +kernel
theorem dX4_readWalker_51 : decode cX4_readWalker 51 = .ok (.getfield 98, 3) := by decide +kernel
theorem dX4_readWalker_54 : decode cX4_readWalker 54 = .ok (.invokevirtual 85, 3) := by decide +kernel
theorem dX4_readWalker_57 : decode cX4_readWalker 57 = .ok (.ireturn, 1) := by decide +kernel
theorem dX4_readWalker_58 : decode cX4_readWalker 58 = .ok (.new 184, 3) := by decide +kernel
theorem dX4_readWalker_61 : decode cX4_readWalker 61 = .ok (.dup, 1) := by decide +kernel
theorem dX4_readWalker_62 : decode cX4_readWalker 62 = .ok (.invokespecial 186, 3) := by decide +kernel
theorem dX4_readWalker_65 : decode cX4_readWalker 65 = .ok (.astore_n 2, 1) := by decide +kernel
theorem dX4_readWalker_66 : decode cX4_readWalker 66 = .ok (.aload_n 0, 1) := by decide +kernel
theorem dX4_readWalker_67 : decode cX4_readWalker 67 = .ok (.bipush 11, 2) := by decide +kernel
theorem dX4_readWalker_69 : decode cX4_readWalker 69 = .ok (.iconst 1, 1) := by decide +kernel
theorem dX4_readWalker_70 : decode cX4_readWalker 70 = .ok (.iconst 3, 1) := by decide +kernel
theorem dX4_readWalker_71 : decode cX4_readWalker 71 = .ok (.invokevirtual 163, 3) := by decide +kernel
theorem dX4_readWalker_74 : decode cX4_readWalker 74 = .ok (.istore_n 3, 1) := by decide +kernel
theorem dX4_readWalker_75 : decode cX4_readWalker 75 = .ok (.aload_n 2, 1) := by decide +kernel
theorem dX4_readWalker_76 : decode cX4_readWalker 76 = .ok (.aload_n 0, 1) := by decide +kernel
theorem dX4_readWalker_77 : decode cX4_readWalker 77 = .ok (.getfield 104, 3) := by decide +kernel
theorem dX4_readWalker_80 : decode cX4_readWalker 80 = .ok (.putfield 187, 3) := by decide +kernel
theorem dX4_readWalker_83 : decode cX4_readWalker 83 = .ok (.iload_n 3, 1) := by decide +kernel
theorem dX4_readWalker_84 : decode cX4_readWalker 84 = .ok (.ifCond .eq 19, 3) := by decide +kernel
theorem dX4_readWalker_87 : decode cX4_readWalker 87 = .ok (.aload_n 0, 1) := by decide +kernel
theorem dX4_readWalker_88 : decode cX4_readWalker 88 = .ok (.bipush 12, 2) := by decide +kernel
theorem dX4_readWalker_90 : decode cX4_readWalker 90 = .ok (.iconst 1, 1) := by decide +kernel
theorem dX4_readWalker_91 : decode cX4_readWalker 91 = .ok (.bipush 99, 2) := by decide +kernel
theorem dX4_readWalker_93 : decode cX4_readWalker 93 = .ok (.invokevirtual 163, 3) := by decide +kernel
theorem dX4_readWalker_96 : decode cX4_readWalker 96 = .ok (.ifCond .eq 7, 3) := by decide +kernel
theorem dX4_readWalker_99 : decode cX4_readWalker 99 = .ok (.iconst 1, 1) := by decide +kernel
theorem dX4_readWalker_100 : decode cX4_readWalker 100 = .ok (.goto 4, 3) := by decide +kernel
theorem dX4_readWalker_103 : decode cX4_readWalker 103 = .ok (.iconst 0, 1) := by decide +kernel
theorem dX4_readWalker_104 : decode cX4_readWalker 104 = .ok (.istore_n 3, 1) := by decide +kernel
theorem dX4_readWalker_105 : decode cX4_readWalker 105 = .ok (.aload_n 2, 1) := by decide +kernel
theorem dX4_readWalker_106 : decode cX4_readWalker 106 = .ok (.aload_n 0, 1) := by decide +kernel
theorem dX4_readWalker_107 : decode cX4_readWalker 107 = .ok (.getfield 104, 3) := by decide +kernel
theorem dX4_readWalker_110 : decode cX4_readWalker 110 = .ok (.putfield 190, 3) := by decide +kernel
theorem dX4_readWalker_113 : decode cX4_readWalker 113 = .ok (.iload_n 3, 1) := by decide +kernel
theorem dX4_readWalker_114 : decode cX4_readWalker 114 = .ok (.ifCond .eq 19, 3) := by decide +kernel
theorem dX4_readWalker_117 : decode cX4_readWalker 117 = .ok (.aload_n 0, 1) := by decide +kernel
theorem dX4_readWalker_118 : decode cX4_readWalker 118 = .ok (.bipush 13, 2) := by decide +kernel
theorem dX4_readWalker_120 : decode cX4_readWalker 120 = .ok (.iconst 1, 1) := by decide +kernel
theorem dX4_readWalker_121 : decode cX4_readWalker 121 = .ok (.bipush 99, 2) := by decide +kernel
theorem dX4_readWalker_123 : decode cX4_readWalker 123 = .ok (.invokevirtual 163, 3) := by decide +kernel
theorem dX4_readWalker_126 : decode cX4_readWalker 126 = .ok (.ifCond .eq 7, 3) := by decide +kernel
theorem dX4_readWalker_129 : decode cX4_readWalker 129 = .ok (.iconst 1, 1) := by decide +kernel
theorem dX4_readWalker_130 : decode cX4_readWalker 130 = .ok (.goto 4, 3) := by decide +kernel
theorem dX4_readWalker_133 : decode cX4_readWalker 133 = .ok (.iconst 0, 1) := by decide +kernel
theorem dX4_readWalker_134 : decode cX4_readWalker 134 = .ok (.istore_n 3, 1) := by decide +kernel
theorem dX4_readWalker_135 : decode cX4_readWalker 135 = .ok (.aload_n 2, 1) := by decide +kernel
theorem dX4_readWalker_136 : decode cX4_readWalker 136 = .ok (.aload_n 0, 1) := by decide +kernel
theorem dX4_readWalker_137 : decode cX4_readWalker 137 = .ok (.getfield 104, 3) := by decide +kernel
theorem dX4_readWalker_140 : decode cX4_readWalker 140 = .ok (.putfield 193, 3) := by decide +kernel
theorem dX4_readWalker_143 : decode cX4_readWalker 143 = .ok (.iload_n 3, 1) := by decide +kernel
theorem dX4_readWalker_144 : decode cX4_readWalker 144 = .ok (.ifCond .eq 20, 3) := by decide +kernel
theorem dX4_readWalker_147 : decode cX4_readWalker 147 = .ok (.aload_n 0, 1) := by decide +kernel
theorem dX4_readWalker_148 : decode cX4_readWalker 148 = .ok (.bipush 14, 2) := by decide +kernel
theorem dX4_readWalker_150 : decode cX4_readWalker 150 = .ok (.iconst 0, 1) := by decide +kernel
theorem dX4_readWalker_151 : decode cX4_readWalker 151 = .ok (.sipush 9999, 3) := by decide +kernel
theorem dX4_readWalker_154 : decode cX4_readWalker 154 = .ok (.invokevirtual 163, 3) := by decide +kernel
theorem dX4_readWalker_157 : decode cX4_readWalker 157 = .ok (.ifCond .eq 7, 3) := by decide +kernel
theorem dX4_readWalker_160 : decode cX4_readWalker 160 = .ok (.iconst 1, 1) := by decide +kernel
theorem dX4_readWalker_161 : decode cX4_readWalker 161 = .ok (.goto 4, 3) := by decide +kernel
theorem dX4_readWalker_164 : decode cX4_readWalker 164 = .ok (.iconst 0, 1) := by decide +kernel
theorem dX4_readWalker_165 : decode cX4_readWalker 165 = .ok (.istore_n 3, 1) := by decide +kernel
theorem dX4_readWalker_166 : decode cX4_readWalker 166 = .ok (.aload_n 2, 1) := by decide +kernel
theorem dX4_readWalker_167 : decode cX4_readWalker 167 = .ok (.aload_n 0, 1) := by decide +kernel
theorem dX4_readWalker_168 : decode cX4_readWalker 168 = .ok (.getfield 104, 3) := by decide +kernel
theorem dX4_readWalker_171 : decode cX4_readWalker 171 = .ok (.putfield 196, 3) := by decide +kernel
theorem dX4_readWalker_174 : decode cX4_readWalker 174 = .ok (.iload_n 3, 1) := by decide +kernel
theorem dX4_readWalker_175 : decode cX4_readWalker 175 = .ok (.ifCond .eq 19, 3) := by decide +kernel
theorem dX4_readWalker_178 : decode cX4_readWalker 178 = .ok (.aload_n 0, 1) := by decide +kernel
theorem dX4_readWalker_179 : decode cX4_readWalker 179 = .ok (.bipush 15, 2) := by decide +kernel
theorem dX4_readWalker_181 : decode cX4_readWalker 181 = .ok (.iconst 0, 1) := by decide +kernel
theorem dX4_readWalker_182 : decode cX4_readWalker 182 = .ok (.bipush 99, 2) := by decide +kernel
theorem dX4_readWalker_184 : decode cX4_readWalker 184 = .ok (.invokevirtual 163, 3) := by decide +kernel
theorem dX4_readWalker_187 : decode cX4_readWalker 187 = .ok (.ifCond .eq 7, 3) := by decide +kernel
theorem dX4_readWalker_190 : decode cX4_readWalker 190 = .ok (.iconst 1, 1) := by decide +kernel
theorem dX4_readWalker_191 : decode cX4_readWalker 191 = .ok (.goto 4, 3) := by decide +kernel
theorem dX4_readWalker_194 : decode cX4_readWalker 194 = .ok (.iconst 0, 1) := by decide +kernel
theorem dX4_readWalker_195 : decode cX4_readWalker 195 = .ok (.istore_n 3, 1) := by decide +kernel
theorem dX4_readWalker_196 : decode cX4_readWalker 196 = .ok (.aload_n 2, 1) := by decide +kernel
theorem dX4_readWalker_197 : decode cX4_readWalker 197 = .ok (.aload_n 0, 1) := by decide +kernel
theorem dX4_readWalker_198 : decode cX4_readWalker 198 = .ok (.getfield 104, 3) := by decide +kernel
theorem dX4_readWalker_201 : decode cX4_readWalker 201 = .ok (.putfield 199, 3) := by decide +kernel
theorem dX4_readWalker_204 : decode cX4_readWalker 204 = .ok (.iload_n 3, 1) := by decide +kernel
theorem dX4_readWalker_205 : decode cX4_readWalker 205 = .ok (.ifCond .eq 19, 3) := by decide +kernel
theorem dX4_readWalker_208 : decode cX4_readWalker 208 = .ok (.aload_n 0, 1) := by decide +kernel
theorem dX4_readWalker_209 : decode cX4_readWalker 209 = .ok (.bipush 16, 2) := by decide +kernel
theorem dX4_readWalker_211 : decode cX4_readWalker 211 = .ok (.iconst 0, 1) := by decide +kernel
theorem dX4_readWalker_212 : decode cX4_readWalker 212 = .ok (.bipush 99, 2) := by decide +kernel
theorem dX4_readWalker_214 : decode cX4_readWalker 214 = .ok (.invokevirtual 163, 3) := by decide +kernel
theorem dX4_readWalker_217 : decode cX4_readWalker 217 = .ok (.ifCond .eq 7, 3) := by decide +kernel
theorem dX4_readWalker_220 : decode cX4_readWalker 220 = .ok (.iconst 1, 1) := by decide +kernel
theorem dX4_readWalker_221 : decode cX4_readWalker 221 = .ok (.goto 4, 3) := by decide +kernel
theorem dX4_readWalker_224 : decode cX4_readWalker 224 = .ok (.iconst 0, 1) := by decide +kernel
theorem dX4_readWalker_225 : decode cX4_readWalker 225 = .ok (.istore_n 3, 1) := by decide +kernel
theorem dX4_readWalker_226 : decode cX4_readWalker 226 = .ok (.aload_n 2, 1) := by decide +kernel
theorem dX4_readWalker_227 : decode cX4_readWalker 227 = .ok (.aload_n 0, 1) := by decide +kernel
theorem dX4_readWalker_228 : decode cX4_readWalker 228 = .ok (.getfield 104, 3) := by decide +kernel
theorem dX4_readWalker_231 : decode cX4_readWalker 231 = .ok (.putfield 202, 3) := by decide +kernel
theorem dX4_readWalker_234 : decode cX4_readWalker 234 = .ok (.aload_n 0, 1) := by decide +kernel
theorem dX4_readWalker_235 : decode cX4_readWalker 235 = .ok (.getfield 36, 3) := by decide +kernel
theorem dX4_readWalker_238 : decode cX4_readWalker 238 = .ok (.getfield 180, 3) := by decide +kernel
theorem dX4_readWalker_241 : decode cX4_readWalker 241 = .ok (.iload_n 1, 1) := by decide +kernel
theorem dX4_readWalker_242 : decode cX4_readWalker 242 = .ok (.aload_n 2, 1) := by decide +kernel
theorem dX4_readWalker_243 : decode cX4_readWalker 243 = .ok (.aastore, 1) := by decide +kernel
theorem dX4_readWalker_244 : decode cX4_readWalker 244 = .ok (.iload_n 3, 1) := by decide +kernel
theorem dX4_readWalker_245 : decode cX4_readWalker 245 = .ok (.ifCond .eq 16, 3) := by decide +kernel
theorem dX4_readWalker_248 : decode cX4_readWalker 248 = .ok (.aload_n 0, 1) := by decide +kernel
theorem dX4_readWalker_249 : decode cX4_readWalker 249 = .ok (.bipush 39, 2) := by decide +kernel
theorem dX4_readWalker_251 : decode cX4_readWalker 251 = .ok (.invokevirtual 111, 3) := by decide +kernel
theorem dX4_readWalker_254 : decode cX4_readWalker 254 = .ok (.ifCond .eq 7, 3) := by decide +kernel
theorem dX4_readWalker_257 : decode cX4_readWalker 257 = .ok (.iconst 1, 1) := by decide +kernel
theorem dX4_readWalker_258 : decode cX4_readWalker 258 = .ok (.goto 4, 3) := by decide +kernel
theorem dX4_readWalker_261 : decode cX4_readWalker 261 = .ok (.iconst 0, 1) := by decide +kernel
theorem dX4_readWalker_262 : decode cX4_readWalker 262 = .ok (.ireturn, 1) := by decide +kernel
theorem dX4_readClause_0 : decode cX4_readClause 0 = .ok (.aload_n 0, 1) := by decide +kernel
theorem dX4_readClause_1 : decode cX4_readClause 1 = .ok (.iload_n 1, 1) := by decide +kernel
theorem dX4_readClause_2 : decode cX4_readClause 2 = .ok (.invokevirtual 111, 3) := by decide +kernel
theorem dX4_readClause_5 : decode cX4_readClause 5 = .ok (.ifCond .eq 16, 3) := by decide +kernel
theorem dX4_readClause_8 : decode cX4_readClause 8 = .ok (.aload_n 0, 1) := by decide +kernel
theorem dX4_readClause_9 : decode cX4_readClause 9 = .ok (.iload_n 2, 1) := by decide +kernel
theorem dX4_readClause_10 : decode cX4_readClause 10 = .ok (.iload_n 3, 1) := by decide +kernel
theorem dX4_readClause_11 : decode cX4_readClause 11 = .ok (.invokevirtual 101, 3) := by decide +kernel
theorem dX4_readClause_14 : decode cX4_readClause 14 = .ok (.ifCond .eq 7, 3) := by decide +kernel
theorem dX4_readClause_17 : decode cX4_readClause 17 = .ok (.iconst 1, 1) := by decide +kernel
theorem dX4_readClause_18 : decode cX4_readClause 18 = .ok (.goto 4, 3) := by decide +kernel
theorem dX4_readClause_21 : decode cX4_readClause 21 = .ok (.iconst 0, 1) := by decide +kernel
theorem dX4_readClause_22 : decode cX4_readClause 22 = .ok (.ireturn, 1) := by decide +kernel
theorem dX4_readSite_0 : decode cX4_readSite 0 = .ok (.aload_n 0, 1) := by decide +kernel
theorem dX4_readSite_1 : decode cX4_readSite 1 = .ok (.iconst 0, 1) := by decide +kernel
theorem dX4_readSite_2 : decode cX4_readSite 2 = .ok (.bipush 9, 2) := by decide +kernel
theorem dX4_readSite_4 : decode cX4_readSite 4 = .ok (.invokevirtual 101, 3) := by decide +kernel
theorem dX4_readSite_7 : decode cX4_readSite 7 = .ok (.ifCond .ne 5, 3) := by decide +kernel
theorem dX4_readSite_10 : decode cX4_readSite 10 = .ok (.iconst 0, 1) := by decide +kernel
theorem dX4_readSite_11 : decode cX4_readSite 11 = .ok (.ireturn, 1) := by decide +kernel
theorem dX4_readSite_12 : decode cX4_readSite 12 = .ok (.aload_n 0, 1) := by decide +kernel
theorem dX4_readSite_13 : decode cX4_readSite 13 = .ok (.getfield 104, 3) := by decide +kernel
theorem dX4_readSite_16 : decode cX4_readSite 16 = .ok (.istore_n 1, 1) := by decide +kernel
theorem dX4_readSite_17 : decode cX4_readSite 17 = .ok (.aload_n 0, 1) := by decide +kernel
theorem dX4_readSite_18 : decode cX4_readSite 18 = .ok (.iconst 0, 1) := by decide +kernel
theorem dX4_readSite_19 : decode cX4_readSite 19 = .ok (.bipush 9, 2) := by decide +kernel
theorem dX4_readSite_21 : decode cX4_readSite 21 = .ok (.invokevirtual 101, 3) := by decide +kernel
theorem dX4_readSite_24 : decode cX4_readSite 24 = .ok (.ifCond .ne 5, 3) := by decide +kernel
theorem dX4_readSite_27 : decode cX4_readSite 27 = .ok (.iconst 0, 1) := by decide +kernel
theorem dX4_readSite_28 : decode cX4_readSite 28 = .ok (.ireturn, 1) := by decide +kernel
theorem dX4_readSite_29 : decode cX4_readSite 29 = .ok (.aload_n 0, 1) := by decide +kernel
theorem dX4_readSite_30 : decode cX4_readSite 30 = .ok (.aload_n 0, 1) := by decide +kernel
theorem dX4_readSite_31 : decode cX4_readSite 31 = .ok (.getfield 104, 3) := by decide +kernel
theorem dX4_readSite_34 : decode cX4_readSite 34 = .ok (.bipush 10, 2) := by decide +kernel
theorem dX4_readSite_36 : decode cX4_readSite 36 = .ok (.imul, 1) := by decide +kernel
theorem dX4_readSite_37 : decode cX4_readSite 37 = .ok (.iload_n 1, 1) := by decide +kernel
theorem dX4_readSite_38 : decode cX4_readSite 38 = .ok (.iadd, 1) := by decide +kernel
theorem dX4_readSite_39 : decode cX4_readSite 39 = .ok (.putfield 92, 3) := by decide +kernel
theorem dX4_readSite_42 : decode cX4_readSite 42 = .ok (.iconst 1, 1) := by decide +kernel
theorem dX4_readSite_43 : decode cX4_readSite 43 = .ok (.ireturn, 1) := by decide +kernel
theorem dX4_readNumber_0 : decode cX4_readNumber 0 = .ok (.aload_n 0, 1) := by decide +kernel
theorem dX4_readNumber_1 : decode cX4_readNumber 1 = .ok (.getfield 58, 3) := by decide +kernel
theorem dX4_readNumber_4 : decode cX4_readNumber 4 = .ok (.bipush 50, 2) := by decide +kernel
theorem dX4_readNumber_6 : decode cX4_readNumber 6 = .ok (.if_icmp .eq 13, 3) := by decide +kernel
theorem dX4_readNumber_9 : decode cX4_readNumber 9 = .ok (.aload_n 0, 1) := by decide +kernel
theorem dX4_readNumber_10 : decode cX4_readNumber 10 = .ok (.iconst 1, 1) := by decide +kernel
theorem dX4_readNumber_11 : decode cX4_readNumber 11 = .ok (.aload_n 0, 1) := by decide +kernel
theorem dX4_readNumber_12 : decode cX4_readNumber 12 = .ok (.getfield 82, 3) := by decide +kernel
theorem dX4_readNumber_15 : decode cX4_readNumber 15 = .ok (.invokevirtual 85, 3) := by decide +kernel
theorem dX4_readNumber_18 : decode cX4_readNumber 18 = .ok (.ireturn, 1) := by decide +kernel
theorem dX4_readNumber_19 : decode cX4_readNumber 19 = .ok (.aload_n 0, 1) := by decide +kernel
theorem dX4_readNumber_20 : decode cX4_readNumber 20 = .ok (.getfield 123, 3) := by decide +kernel
theorem dX4_readNumber_23 : decode cX4_readNumber 23 = .ok (.iload_n 1, 1) := by decide +kernel
theorem dX4_readNumber_24 : decode cX4_readNumber 24 = .ok (.if_icmp .lt 11, 3) := by decide +kernel
theorem dX4_readNumber_27 : decode cX4_readNumber 27 = .ok (.aload_n 0, 1) := by decide +kernel
theorem dX4_readNumber_28 : decode cX4_readNumber 28 = .ok (.getfield 123, 3) := by decide +kernel
theorem dX4_readNumber_31 : decode cX4_readNumber 31 = .ok (.iload_n 2, 1) := by decide +kernel
theorem dX4_readNumber_32 : decode cX4_readNumber 32 = .ok (.if_icmp .le 13, 3) := by decide +kernel
theorem dX4_readNumber_35 : decode cX4_readNumber 35 = .ok (.aload_n 0, 1) := by decide +kernel
theorem dX4_readNumber_36 : decode cX4_readNumber 36 = .ok (.iconst 4, 1) := by decide +kernel
theorem dX4_readNumber_37 : decode cX4_readNumber 37 = .ok (.aload_n 0, 1) := by decide +kernel
theorem dX4_readNumber_38 : decode cX4_readNumber 38 = .ok (.getfield 82, 3) := by decide +kernel
theorem dX4_readNumber_41 : decode cX4_readNumber 41 = .ok (.invokevirtual 85, 3) := by decide +kernel
theorem dX4_readNumber_44 : decode cX4_readNumber 44 = .ok (.ireturn, 1) := by decide +kernel
theorem dX4_readNumber_45 : decode cX4_readNumber 45 = .ok (.aload_n 0, 1) := by decide +kernel
theorem dX4_readNumber_46 : decode cX4_readNumber 46 = .ok (.aload_n 0, 1) := by decide +kernel
theorem dX4_readNumber_47 : decode cX4_readNumber 47 = .ok (.getfield 123, 3) := by decide +kernel
theorem dX4_readNumber_50 : decode cX4_readNumber 50 = .ok (.putfield 104, 3) := by decide +kernel
theorem dX4_readNumber_53 : decode cX4_readNumber 53 = .ok (.aload_n 0, 1) := by decide +kernel
theorem dX4_readNumber_54 : decode cX4_readNumber 54 = .ok (.aload_n 0, 1) := by decide +kernel
theorem dX4_readNumber_55 : decode cX4_readNumber 55 = .ok (.getfield 82, 3) := by decide +kernel
theorem dX4_readNumber_58 : decode cX4_readNumber 58 = .ok (.putfield 98, 3) := by decide +kernel
theorem dX4_readNumber_61 : decode cX4_readNumber 61 = .ok (.aload_n 0, 1) := by decide +kernel
theorem dX4_readNumber_62 : decode cX4_readNumber 62 = .ok (.invokevirtual 55, 3) := by decide +kernel
theorem dX4_readNumber_65 : decode cX4_readNumber 65 = .ok (.iconst 1, 1) := by decide +kernel
theorem dX4_readNumber_66 : decode cX4_readNumber 66 = .ok (.ireturn, 1) := by decide +kernel
theorem dX4_expect_0 : decode cX4_expect 0 = .ok (.aload_n 0, 1) := by decide +kernel
theorem dX4_expect_1 : decode cX4_expect 1 = .ok (.getfield 58, 3) := by decide +kernel
theorem dX4_expect_4 : decode cX4_expect 4 = .ok (.iload_n 1, 1) := by decide +kernel
theorem dX4_expect_5 : decode cX4_expect 5 = .ok (.if_icmp .eq 13, 3) := by decide +kernel
theorem dX4_expect_8 : decode cX4_expect 8 = .ok (.aload_n 0, 1) := by decide +kernel
theorem dX4_expect_9 : decode cX4_expect 9 = .ok (.iconst 1, 1) := by decide +kernel
theorem dX4_expect_10 : decode cX4_expect 10 = .ok (.aload_n 0, 1) := by decide +kernel
theorem dX4_expect_11 : decode cX4_expect 11 = .ok (.getfield 82, 3) := by decide +kernel
theorem dX4_expect_14 : decode cX4_expect 14 = .ok (.invokevirtual 85, 3) := by decide +kernel
theorem dX4_expect_17 : decode cX4_expect 17 = .ok (.ireturn, 1) := by decide +kernel
theorem dX4_expect_18 : decode cX4_expect 18 = .ok (.aload_n 0, 1) := by decide +kernel
theorem dX4_expect_19 : decode cX4_expect 19 = .ok (.invokevirtual 55, 3) := by decide +kernel
theorem dX4_expect_22 : decode cX4_expect 22 = .ok (.iconst 1, 1) := by decide +kernel
theorem dX4_expect_23 : decode cX4_expect 23 = .ok (.ireturn, 1) := by decide +kernel
theorem dX4_wrong_0 : decode cX4_wrong 0 = .ok (.aload_n 0, 1) := by decide +kernel
theorem dX4_wrong_1 : decode cX4_wrong 1 = .ok (.iload_n 1, 1) := by decide +kernel
theorem dX4_wrong_2 : decode cX4_wrong 2 = .ok (.bipush 16, 2) := by decide +kernel
theorem dX4_wrong_4 : decode cX4_wrong 4 = .ok (.iload_n 2, 1) := by decide +kernel
theorem dX4_wrong_5 : decode cX4_wrong 5 = .ok (.imul, 1) := by decide +kernel
theorem dX4_wrong_6 : decode cX4_wrong 6 = .ok (.iadd, 1) := by decide +kernel
theorem dX4_wrong_7 : decode cX4_wrong 7 = .ok (.putfield 45, 3) := by decide +kernel
theorem dX4_wrong_10 : decode cX4_wrong 10 = .ok (.iconst 0, 1) := by decide +kernel
theorem dX4_wrong_11 : decode cX4_wrong 11 = .ok (.ireturn, 1) := by decide +kernel
theorem dX4_advance_0 : decode cX4_advance 0 = .ok (.aload_n 0, 1) := by decide +kernel
theorem dX4_advance_1 : decode cX4_advance 1 = .ok (.aload_n 0, 1) := by decide +kernel
theorem dX4_advance_2 : decode cX4_advance 2 = .ok (.getfield 52, 3) := by decide +kernel
theorem dX4_advance_5 : decode cX4_advance 5 = .ok (.aload_n 0, 1) := by decide +kernel
theorem dX4_advance_6 : decode cX4_advance 6 = .ok (.getfield 20, 3) := by decide +kernel
theorem dX4_advance_9 : decode cX4_advance 9 = .ok (.getfield 205, 3) := by decide +kernel
theorem dX4_advance_12 : decode cX4_advance 12 = .ok (.if_icmp .ge 17, 3) := by decide +kernel
theorem dX4_advance_15 : decode cX4_advance 15 = .ok (.aload_n 0, 1) := by decide +kernel
theorem dX4_advance_16 : decode cX4_advance 16 = .ok (.getfield 20, 3) := by decide +kernel
theorem dX4_advance_19 : decode cX4_advance 19 = .ok (.aload_n 0, 1) := by decide +kernel
theorem dX4_advance_20 : decode cX4_advance 20 = .ok (.getfield 52, 3) := by decide +kernel
theorem dX4_advance_23 : decode cX4_advance 23 = .ok (.invokevirtual 208, 3) := by decide +kernel
theorem dX4_advance_26 : decode cX4_advance 26 = .ok (.goto 5, 3) := by decide +kernel
theorem dX4_advance_29 : decode cX4_advance 29 = .ok (.bipush 51, 2) := by decide +kernel
theorem dX4_advance_31 : decode cX4_advance 31 = .ok (.putfield 58, 3) := by decide +kernel
theorem dX4_advance_34 : decode cX4_advance 34 = .ok (.aload_n 0, 1) := by decide +kernel
theorem dX4_advance_35 : decode cX4_advance 35 = .ok (.aload_n 0, 1) := by decide +kernel
theorem dX4_advance_36 : decode cX4_advance 36 = .ok (.getfield 23, 3) := by decide +kernel
theorem dX4_advance_39 : decode cX4_advance 39 = .ok (.aload_n 0, 1) := by decide +kernel
theorem dX4_advance_40 : decode cX4_advance 40 = .ok (.getfield 52, 3) := by decide +kernel
theorem dX4_advance_43 : decode cX4_advance 43 = .ok (.invokevirtual 208, 3) := by decide +kernel
theorem dX4_advance_46 : decode cX4_advance 46 = .ok (.putfield 123, 3) := by decide +kernel
theorem dX4_advance_49 : decode cX4_advance 49 = .ok (.aload_n 0, 1) := by decide +kernel
theorem dX4_advance_50 : decode cX4_advance 50 = .ok (.aload_n 0, 1) := by decide +kernel
theorem dX4_advance_51 : decode cX4_advance 51 = .ok (.getfield 52, 3) := by decide +kernel
theorem dX4_advance_54 : decode cX4_advance 54 = .ok (.aload_n 0, 1) := by decide +kernel
theorem dX4_advance_55 : decode cX4_advance 55 = .ok (.getfield 26, 3) := by decide +kernel
theorem dX4_advance_58 : decode cX4_advance 58 = .ok (.getfield 205, 3) := by decide +kernel
theorem dX4_advance_61 : decode cX4_advance 61 = .ok (.if_icmp .ge 17, 3) := by decide +kernel
theorem dX4_advance_64 : decode cX4_advance 64 = .ok (.aload_n 0, 1) := by decide +kernel
theorem dX4_advance_65 : decode cX4_advance 65 = .ok (.getfield 26, 3) := by decide +kernel
theorem dX4_advance_68 : decode cX4_advance 68 = .ok (.aload_n 0, 1) := by decide +kernel
theorem dX4_advance_69 : decode cX4_advance 69 = .ok (.getfield 52, 3) := by decide +kernel
theorem dX4_advance_72 : decode cX4_advance 72 = .ok (.invokevirtual 208, 3) := by decide +kernel
theorem dX4_advance_75 : decode cX4_advance 75 = .ok (.goto 10, 3) := by decide +kernel
theorem dX4_advance_78 : decode cX4_advance 78 = .ok (.aload_n 0, 1) := by decide +kernel
theorem dX4_advance_79 : decode cX4_advance 79 = .ok (.getfield 14, 3) := by decide +kernel
theorem dX4_advance_82 : decode cX4_advance 82 = .ok (.getfield 205, 3) := by decide +kernel
theorem dX4_advance_85 : decode cX4_advance 85 = .ok (.putfield 82, 3) := by decide +kernel
theorem dX4_advance_88 : decode cX4_advance 88 = .ok (.aload_n 0, 1) := by decide +kernel
theorem dX4_advance_89 : decode cX4_advance 89 = .ok (.dup, 1) := by decide +kernel
theorem dX4_advance_90 : decode cX4_advance 90 = .ok (.getfield 52, 3) := by decide +kernel
theorem dX4_advance_93 : decode cX4_advance 93 = .ok (.iconst 1, 1) := by decide +kernel
theorem dX4_advance_94 : decode cX4_advance 94 = .ok (.iadd, 1) := by decide +kernel
theorem dX4_advance_95 : decode cX4_advance 95 = .ok (.putfield 52, 3) := by decide +kernel
theorem dX4_advance_98 : decode cX4_advance 98 = .ok (.return_, 1) := by decide +kernel
theorem dX4_scan_0 : decode cX4_scan 0 = .ok (.aload_n 0, 1) := by decide +kernel
theorem dX4_scan_1 : decode cX4_scan 1 = .ok (.getfield 20, 3) := by decide +kernel
theorem dX4_scan_4 : decode cX4_scan 4 = .ok (.invokevirtual 211, 3) := by decide +kernel
theorem dX4_scan_7 : decode cX4_scan 7 = .ok (.aload_n 0, 1) := by decide +kernel
theorem dX4_scan_8 : decode cX4_scan 8 = .ok (.getfield 23, 3) := by decide +kernel
theorem dX4_scan_11 : decode cX4_scan 11 = .ok (.invokevirtual 211, 3) := by decide +kernel
theorem dX4_scan_14 : decode cX4_scan 14 = .ok (.aload_n 0, 1) := by decide +kernel
theorem dX4_scan_15 : decode cX4_scan 15 = .ok (.getfield 26, 3) := by decide +kernel
theorem dX4_scan_18 : decode cX4_scan 18 = .ok (.invokevirtual 211, 3) := by decide +kernel
theorem dX4_scan_21 : decode cX4_scan 21 = .ok (.iconst 0, 1) := by decide +kernel
theorem dX4_scan_22 : decode cX4_scan 22 = .ok (.istore_n 1, 1) := by decide +kernel
theorem dX4_scan_23 : decode cX4_scan 23 = .ok (.iconst 0, 1) := by decide +kernel
theorem dX4_scan_24 : decode cX4_scan 24 = .ok (.istore_n 2, 1) := by decide +kernel
theorem dX4_scan_25 : decode cX4_scan 25 = .ok (.iload_n 2, 1) := by decide +kernel
theorem dX4_scan_26 : decode cX4_scan 26 = .ok (.sipush 1000, 3) := by decide +kernel
theorem dX4_scan_29 : decode cX4_scan 29 = .ok (.if_icmp .gt 107, 3) := by decide +kernel
theorem dX4_scan_32 : decode cX4_scan 32 = .ok (.iload_n 1, 1) := by decide +kernel
theorem dX4_scan_33 : decode cX4_scan 33 = .ok (.aload_n 0, 1) := by decide +kernel
theorem dX4_scan_34 : decode cX4_scan 34 = .ok (.getfield 14, 3) := by decide +kernel
theorem dX4_scan_37 : decode cX4_scan 37 = .ok (.getfield 205, 3) := by decide +kernel
theorem dX4_scan_40 : decode cX4_scan 40 = .ok (.if_icmp .ge 96, 3) := by decide +kernel
theorem dX4_scan_43 : decode cX4_scan 43 = .ok (.aload_n 0, 1) := by decide +kernel
theorem dX4_scan_44 : decode cX4_scan 44 = .ok (.getfield 14, 3) := by decide +kernel
theorem dX4_scan_47 : decode cX4_scan 47 = .ok (.iload_n 1, 1) := by decide +kernel
theorem dX4_scan_48 : decode cX4_scan 48 = .ok (.invokevirtual 208, 3) := by decide +kernel
theorem dX4_scan_51 : decode cX4_scan 51 = .ok (.istore_n 3, 1) := by decide +kernel
theorem dX4_scan_52 : decode cX4_scan 52 = .ok (.iload_n 3, 1) := by decide +kernel
theorem dX4_scan_53 : decode cX4_scan 53 = .ok (.invokestatic 212, 3) := by decide +kernel
theorem dX4_scan_56 : decode cX4_scan 56 = .ok (.ifCond .eq 9, 3) := by decide +kernel
theorem dX4_scan_59 : decode cX4_scan 59 = .ok (.iinc 1 1, 3) := by decide +kernel
theorem dX4_scan_62 : decode cX4_scan 62 = .ok (.goto 68, 3) := by decide +kernel
theorem dX4_scan_65 : decode cX4_scan 65 = .ok (.iload_n 3, 1) := by decide +kernel
theorem dX4_scan_66 : decode cX4_scan 66 = .ok (.invokestatic 215, 3) := by decide +kernel
theorem dX4_scan_69 : decode cX4_scan 69 = .ok (.ifCond .eq 12, 3) := by decide +kernel
theorem dX4_scan_72 : decode cX4_scan 72 = .ok (.aload_n 0, 1) := by decide +kernel
theorem dX4_scan_73 : decode cX4_scan 73 = .ok (.iload_n 1, 1) := by decide +kernel
theorem dX4_scan_74 : decode cX4_scan 74 = .ok (.invokevirtual 218, 3) := by decide +kernel
theorem dX4_scan_77 : decode cX4_scan 77 = .ok (.istore_n 1, 1) := by decide +kernel
theorem dX4_scan_78 : decode cX4_scan 78 = .ok (.goto 52, 3) := by decide +kernel
theorem dX4_scan_81 : decode cX4_scan 81 = .ok (.iload_n 3, 1) := by decide +kernel
theorem dX4_scan_82 : decode cX4_scan 82 = .ok (.invokestatic 221, 3) := by decide +kernel
theorem dX4_scan_85 : decode cX4_scan 85 = .ok (.ifCond .eq 12, 3) := by decide +kernel
theorem dX4_scan_88 : decode cX4_scan 88 = .ok (.aload_n 0, 1) := by decide +kernel
theorem dX4_scan_89 : decode cX4_scan 89 = .ok (.iload_n 1, 1) := by decide +kernel
theorem dX4_scan_90 : decode cX4_scan 90 = .ok (.invokevirtual 224, 3) := by decide +kernel
theorem dX4_scan_93 : decode cX4_scan 93 = .ok (.istore_n 1, 1) := by decide +kernel
theorem dX4_scan_94 : decode cX4_scan 94 = .ok (.goto 36, 3) := by decide +kernel
theorem dX4_scan_97 : decode cX4_scan 97 = .ok (.ldc 227, 2) := by decide +kernel
theorem dX4_scan_99 : decode cX4_scan 99 = .ok (.iload_n 3, 1) := by decide +kernel
theorem dX4_scan_100 : decode cX4_scan 100 = .ok (.i2c, 1) := by decide +kernel
theorem dX4_scan_101 : decode cX4_scan 101 = .ok (.invokevirtual 229, 3) := by decide +kernel
theorem dX4_scan_104 : decode cX4_scan 104 = .ok (.istore 4, 2) := by decide +kernel
theorem dX4_scan_106 : decode cX4_scan 106 = .ok (.aload_n 0, 1) := by decide +kernel
theorem dX4_scan_107 : decode cX4_scan 107 = .ok (.iload 4, 2) := by decide +kernel
theorem dX4_scan_109 : decode cX4_scan 109 = .ok (.ifCond .ge 8, 3) := by decide +kernel
theorem dX4_scan_112 : decode cX4_scan 112 = .ok (.bipush 52, 2) := by decide +kernel
theorem dX4_scan_114 : decode cX4_scan 114 = .ok (.goto 8, 3) := by decide +kernel
theorem dX4_scan_117 : decode cX4_scan 117 = .ok (.bipush 32, 2) := by decide +kernel
theorem dX4_scan_119 : decode cX4_scan 119 = .ok (.iload 4, 2) := by decide +kernel
theorem dX4_scan_121 : decode cX4_scan 121 = .ok (.iadd, 1) := by decide +kernel
theorem dX4_scan_122 : decode cX4_scan 122 = .ok (.iconst 0, 1) := by decide +kernel
theorem dX4_scan_123 : decode cX4_scan 123 = .ok (.iload_n 1, 1) := by decide +kernel
theorem dX4_scan_124 : decode cX4_scan 124 = .ok (.invokevirtual 234, 3) := by decide +kernel
theorem dX4_scan_127 : decode cX4_scan 127 = .ok (.iinc 1 1, 3) := by decide +kernel
theorem dX4_scan_130 : decode cX4_scan 130 = .ok (.iinc 2 1, 3) := by decide +kernel
theorem dX4_scan_133 : decode cX4_scan 133 = .ok (.goto (-108), 3) := by decide +kernel
theorem dX4_scan_136 : decode cX4_scan 136 = .ok (.aload_n 0, 1) := by decide +kernel
theorem dX4_scan_137 : decode cX4_scan 137 = .ok (.bipush 51, 2) := by decide +kernel
theorem dX4_scan_139 : decode cX4_scan 139 = .ok (.iconst 0, 1) := by decide +kernel
theorem dX4_scan_140 : decode cX4_scan 140 = .ok (.aload_n 0, 1) := by decide +kernel
theorem dX4_scan_141 : decode cX4_scan 141 = .ok (.getfield 14, 3) := by decide +kernel
theorem dX4_scan_144 : decode cX4_scan 144 = .ok (.getfield 205, 3) := by decide +kernel
theorem dX4_scan_147 : decode cX4_scan 147 = .ok (.invokevirtual 234, 3) := by decide +kernel
theorem dX4_scan_150 : decode cX4_scan 150 = .ok (.return_, 1) := by decide +kernel
theorem dX4_addToken_0 : decode cX4_addToken 0 = .ok (.aload_n 0, 1) := by decide +kernel
theorem dX4_addToken_1 : decode cX4_addToken 1 = .ok (.getfield 20, 3) := by decide +kernel
theorem dX4_addToken_4 : decode cX4_addToken 4 = .ok (.iload_n 1, 1) := by decide +kernel
theorem dX4_addToken_5 : decode cX4_addToken 5 = .ok (.invokevirtual 237, 3) := by decide +kernel
theorem dX4_addToken_8 : decode cX4_addToken 8 = .ok (.pop, 1) := by decide +kernel
theorem dX4_addToken_9 : decode cX4_addToken 9 = .ok (.aload_n 0, 1) := by decide +kernel
theorem dX4_addToken_10 : decode cX4_addToken 10 = .ok (.getfield 23, 3) := by decide +kernel
theorem dX4_addToken_13 : decode cX4_addToken 13 = .ok (.iload_n 2, 1) := by decide +kernel
theorem dX4_addToken_14 : decode cX4_addToken 14 = .ok (.invokevirtual 237, 3) := by decide +kernel
theorem dX4_addToken_17 : decode cX4_addToken 17 = .ok (.pop, 1) := by decide +kernel
theorem dX4_addToken_18 : decode cX4_addToken 18 = .ok (.aload_n 0, 1) := by decide +kernel
theorem dX4_addToken_19 : decode cX4_addToken 19 = .ok (.getfield 26, 3) := by decide +kernel
theorem dX4_addToken_22 : decode cX4_addToken 22 = .ok (.iload_n 3, 1) := by decide +kernel
theorem dX4_addToken_23 : decode cX4_addToken 23 = .ok (.invokevirtual 237, 3) := by decide +kernel
theorem dX4_addToken_26 : decode cX4_addToken 26 = .ok (.pop, 1) := by decide +kernel
theorem dX4_addToken_27 : decode cX4_addToken 27 = .ok (.return_, 1) := by decide +kernel
theorem dX4_scanWord_0 : decode cX4_scanWord 0 = .ok (.iload_n 1, 1) := by decide +kernel
theorem dX4_scanWord_1 : decode cX4_scanWord 1 = .ok (.istore_n 2, 1) := by decide +kernel
theorem dX4_scanWord_2 : decode cX4_scanWord 2 = .ok (.iconst 0, 1) := by decide +kernel
theorem dX4_scanWord_3 : decode cX4_scanWord 3 = .ok (.istore_n 3, 1) := by decide +kernel
theorem dX4_scanWord_4 : decode cX4_scanWord 4 = .ok (.iload_n 3, 1) := by decide +kernel
theorem dX4_scanWord_5 : decode cX4_scanWord 5 = .ok (.sipush 1000, 3) := by decide +kernel
theorem dX4_scanWord_8 : decode cX4_scanWord 8 = .ok (.if_icmp .ge 26, 3) := by decide +kernel
theorem dX4_scanWord_11 : decode cX4_scanWord 11 = .ok (.aload_n 0, 1) := by decide +kernel
theorem dX4_scanWord_12 : decode cX4_scanWord 12 = .ok (.getfield 14, 3) := by decide +kernel
theorem dX4_scanWord_15 : decode cX4_scanWord 15 = .ok (.iload_n 2, 1) := by decide +kernel
theorem dX4_scanWord_16 : decode cX4_scanWord 16 = .ok (.invokevirtual 208, 3) := by decide +kernel
theorem dX4_scanWord_19 : decode cX4_scanWord 19 = .ok (.invokestatic 215, 3) := by decide +kernel
theorem dX4_scanWord_22 : decode cX4_scanWord 22 = .ok (.ifCond .eq 12, 3) := by decide +kernel
theorem dX4_scanWord_25 : decode cX4_scanWord 25 = .ok (.iinc 2 1, 3) := by decide +kernel
theorem dX4_scanWord_28 : decode cX4_scanWord 28 = .ok (.iinc 3 1, 3) := by decide +kernel
theorem dX4_scanWord_31 : decode cX4_scanWord 31 = .ok (.goto (-27), 3) := by decide +kernel
theorem dX4_scanWord_34 : decode cX4_scanWord 34 = .ok (.aload_n 0, 1) := by decide +kernel
theorem dX4_scanWord_35 : decode cX4_scanWord 35 = .ok (.aload_n 0, 1) := by decide +kernel
theorem dX4_scanWord_36 : decode cX4_scanWord 36 = .ok (.iload_n 1, 1) := by decide +kernel
theorem dX4_scanWord_37 : decode cX4_scanWord 37 = .ok (.iload_n 2, 1) := by decide +kernel
theorem dX4_scanWord_38 : decode cX4_scanWord 38 = .ok (.iload_n 1, 1) := by decide +kernel
theorem dX4_scanWord_39 : decode cX4_scanWord 39 = .ok (.isub, 1) := by decide +kernel
theorem dX4_scanWord_40 : decode cX4_scanWord 40 = .ok (.invokevirtual 240, 3) := by decide +kernel
theorem dX4_scanWord_43 : decode cX4_scanWord 43 = .ok (.iconst 0, 1) := by decide +kernel
theorem dX4_scanWord_44 : decode cX4_scanWord 44 = .ok (.iload_n 1, 1) := by decide +kernel
theorem dX4_scanWord_45 : decode cX4_scanWord 45 = .ok (.invokevirtual 234, 3) := by decide +kernel
theorem dX4_scanWord_48 : decode cX4_scanWord 48 = .ok (.iload_n 2, 1) := by decide +kernel
theorem dX4_scanWord_49 : decode cX4_scanWord 49 = .ok (.ireturn, 1) := by decide +kernel
theorem dX4_wordOnTape_0 : decode cX4_wordOnTape 0 = .ok (.iconst 0, 1) := by decide +kernel
theorem dX4_wordOnTape_1 : decode cX4_wordOnTape 1 = .ok (.istore_n 3, 1) := by decide +kernel
theorem dX4_wordOnTape_2 : decode cX4_wordOnTape 2 = .ok (.iconst 0, 1) := by decide +kernel
theorem dX4_wordOnTape_3 : decode cX4_wordOnTape 3 = .ok (.istore 4, 2) := by decide +kernel
theorem dX4_wordOnTape_5 : decode cX4_wordOnTape 5 = .ok (.iconst 0, 1) := by decide +kernel
theorem dX4_wordOnTape_6 : decode cX4_wordOnTape 6 = .ok (.istore 5, 2) := by decide +kernel
theorem dX4_wordOnTape_8 : decode cX4_wordOnTape 8 = .ok (.iload 5, 2) := by decide +kernel
theorem dX4_wordOnTape_10 : decode cX4_wordOnTape 10 = .ok (.ldc 243, 2) := by decide +kernel
theorem dX4_wordOnTape_12 : decode cX4_wordOnTape 12 = .ok (.invokevirtual 245, 3) := by decide +kernel
theorem dX4_wordOnTape_15 : decode cX4_wordOnTape 15 = .ok (.if_icmp .gt 95, 3) := by decide +kernel
theorem dX4_wordOnTape_18 : decode cX4_wordOnTape 18 = .ok (.iload 5, 2) := by decide +kernel
theorem dX4_wordOnTape_20 : decode cX4_wordOnTape 20 = .ok (.ldc 243, 2) := by decide +kernel
theorem dX4_wordOnTape_22 : decode cX4_wordOnTape 22 = .ok (.invokevirtual 245, 3) := by decide +kernel
theorem dX4_wordOnTape_25 : decode cX4_wordOnTape 25 = .ok (.if_icmp .ge 13, 3) := by decide +kernel
theorem dX4_wordOnTape_28 : decode cX4_wordOnTape 28 = .ok (.ldc 243, 2) := by decide +kernel
theorem dX4_wordOnTape_30 : decode cX4_wordOnTape 30 = .ok (.iload 5, 2) := by decide +kernel
theorem dX4_wordOnTape_32 : decode cX4_wordOnTape 32 = .ok (.invokevirtual 249, 3) := by decide +kernel
theorem dX4_wordOnTape_35 : decode cX4_wordOnTape 35 = .ok (.goto 5, 3) := by decide +kernel
theorem dX4_wordOnTape_38 : decode cX4_wordOnTape 38 = .ok (.bipush 32, 2) := by decide +kernel
theorem dX4_wordOnTape_40 : decode cX4_wordOnTape 40 = .ok (.istore 6, 2) := by decide +kernel
theorem dX4_wordOnTape_42 : decode cX4_wordOnTape 42 = .ok (.iload 6, 2) := by decide +kernel
theorem dX4_wordOnTape_44 : decode cX4_wordOnTape 44 = .ok (.bipush 32, 2) := by decide +kernel
theorem dX4_wordOnTape_46 : decode cX4_wordOnTape 46 = .ok (.if_icmp .ne 20, 3) := by decide +kernel
theorem dX4_wordOnTape_49 : decode cX4_wordOnTape 49 = .ok (.iload 4, 2) := by decide +kernel
theorem dX4_wordOnTape_51 : decode cX4_wordOnTape 51 = .ok (.iload_n 2, 1) := by decide +kernel
theorem dX4_wordOnTape_52 : decode cX4_wordOnTape 52 = .ok (.if_icmp .ne 5, 3) := by decide +kernel
theorem dX4_wordOnTape_55 : decode cX4_wordOnTape 55 = .ok (.iload_n 3, 1) := by decide +kernel
theorem dX4_wordOnTape_56 : decode cX4_wordOnTape 56 = .ok (.ireturn, 1) := by decide +kernel
theorem dX4_wordOnTape_57 : decode cX4_wordOnTape 57 = .ok (.iinc 3 1, 3) := by decide +kernel
theorem dX4_wordOnTape_60 : decode cX4_wordOnTape 60 = .ok (.iconst 0, 1) := by decide +kernel
theorem dX4_wordOnTape_61 : decode cX4_wordOnTape 61 = .ok (.istore 4, 2) := by decide +kernel
theorem dX4_wordOnTape_63 : decode cX4_wordOnTape 63 = .ok (.goto 41, 3) := by decide +kernel
theorem dX4_wordOnTape_66 : decode cX4_wordOnTape 66 = .ok (.iload 4, 2) := by decide +kernel
theorem dX4_wordOnTape_68 : decode cX4_wordOnTape 68 = .ok (.iconst (-1), 1) := by decide +kernel
theorem dX4_wordOnTape_69 : decode cX4_wordOnTape 69 = .ok (.if_icmp .eq 35, 3) := by decide +kernel
theorem dX4_wordOnTape_72 : decode cX4_wordOnTape 72 = .ok (.iload 4, 2) := by decide +kernel
theorem dX4_wordOnTape_74 : decode cX4_wordOnTape 74 = .ok (.iload_n 2, 1) := by decide +kernel
theorem dX4_wordOnTape_75 : decode cX4_wordOnTape 75 = .ok (.if_icmp .ge 26, 3) := by decide +kernel
theorem dX4_wordOnTape_78 : decode cX4_wordOnTape 78 = .ok (.aload_n 0, 1) := by decide +kernel
theorem dX4_wordOnTape_79 : decode cX4_wordOnTape 79 = .ok (.getfield 14, 3) := by decide +kernel
theorem dX4_wordOnTape_82 : decode cX4_wordOnTape 82 = .ok (.iload_n 1, 1) := by decide +kernel
theorem dX4_wordOnTape_83 : decode cX4_wordOnTape 83 = .ok (.iload 4, 2) := by decide +kernel
theorem dX4_wordOnTape_85 : decode cX4_wordOnTape 85 = .ok (.iadd, 1) := by decide +kernel
theorem dX4_wordOnTape_86 : decode cX4_wordOnTape 86 = .ok (.invokevirtual 208, 3) := by decide +kernel
theorem dX4_wordOnTape_89 : decode cX4_wordOnTape 89 = .ok (.iload 6, 2) := by decide +kernel
theorem dX4_wordOnTape_91 : decode cX4_wordOnTape 91 = .ok (.if_icmp .ne 10, 3) := by decide +kernel
theorem dX4_wordOnTape_94 : decode cX4_wordOnTape 94 = .ok (.iload 4, 2) := by decide +kernel
theorem dX4_wordOnTape_96 : decode cX4_wordOnTape 96 = .ok (.iconst 1, 1) := by decide +kernel
theorem dX4_wordOnTape_97 : decode cX4_wordOnTape 97 = .ok (.iadd, 1) := by decide +kernel
theorem dX4_wordOnTape_98 : decode cX4_wordOnTape 98 = .ok (.goto 4, 3) := by decide +kernel
theorem dX4_wordOnTape_101 : decode cX4_wordOnTape 101 = .ok (.iconst (-1), 1) := by decide +kernel
theorem dX4_wordOnTape_102 : decode cX4_wordOnTape 102 = .ok (.istore 4, 2) := by decide +kernel
theorem dX4_wordOnTape_104 : decode cX4_wordOnTape 104 = .ok (.iinc 5 1, 3) := by decide +kernel
theorem dX4_wordOnTape_107 : decode cX4_wordOnTape 107 = .ok (.goto (-99), 3) := by decide +kernel
theorem dX4_wordOnTape_110 : decode cX4_wordOnTape 110 = .ok (.bipush 52, 2) := by decide +kernel
theorem dX4_wordOnTape_112 : decode cX4_wordOnTape 112 = .ok (.ireturn, 1) := by decide +kernel
theorem dX4_scanNumber_0 : decode cX4_scanNumber 0 = .ok (.iload_n 1, 1) := by decide +kernel
theorem dX4_scanNumber_1 : decode cX4_scanNumber 1 = .ok (.istore_n 2, 1) := by decide +kernel
theorem dX4_scanNumber_2 : decode cX4_scanNumber 2 = .ok (.iconst 0, 1) := by decide +kernel
theorem dX4_scanNumber_3 : decode cX4_scanNumber 3 = .ok (.istore_n 3, 1) := by decide +kernel
theorem dX4_scanNumber_4 : decode cX4_scanNumber 4 = .ok (.iconst 0, 1) := by decide +kernel
theorem dX4_scanNumber_5 : decode cX4_scanNumber 5 = .ok (.istore 4, 2) := by decide +kernel
theorem dX4_scanNumber_7 : decode cX4_scanNumber 7 = .ok (.iload 4, 2) := by decide +kernel
theorem dX4_scanNumber_9 : decode cX4_scanNumber 9 = .ok (.sipush 1000, 3) := by decide +kernel
theorem dX4_scanNumber_12 : decode cX4_scanNumber 12 = .ok (.if_icmp .ge 53, 3) := by decide +kernel
theorem dX4_scanNumber_15 : decode cX4_scanNumber 15 = .ok (.aload_n 0, 1) := by decide +kernel
theorem dX4_scanNumber_16 : decode cX4_scanNumber 16 = .ok (.getfield 14, 3) := by decide +kernel
theorem dX4_scanNumber_19 : decode cX4_scanNumber 19 = .ok (.iload_n 2, 1) := by decide +kernel
theorem dX4_scanNumber_20 : decode cX4_scanNumber 20 = .ok (.invokevirtual 208, 3) := by decide +kernel
theorem dX4_scanNumber_23 : decode cX4_scanNumber 23 = .ok (.invokestatic 221, 3) := by decide +kernel
theorem dX4_scanNumber_26 : decode cX4_scanNumber 26 = .ok (.ifCond .eq 39, 3) := by decide +kernel
theorem dX4_scanNumber_29 : decode cX4_scanNumber 29 = .ok (.iload 4, 2) := by decide +kernel
theorem dX4_scanNumber_31 : decode cX4_scanNumber 31 = .ok (.iconst 4, 1) := by decide +kernel
theorem dX4_scanNumber_32 : decode cX4_scanNumber 32 = .ok (.if_icmp .ge 22, 3) := by decide +kernel
theorem dX4_scanNumber_35 : decode cX4_scanNumber 35 = .ok (.bipush 10, 2) := by decide +kernel
theorem dX4_scanNumber_37 : decode cX4_scanNumber 37 = .ok (.iload_n 3, 1) := by decide +kernel
theorem dX4_scanNumber_38 : decode cX4_scanNumber 38 = .ok (.imul, 1) := by decide +kernel
theorem dX4_scanNumber_39 : decode cX4_scanNumber 39 = .ok (.aload_n 0, 1) := by decide +kernel
theorem dX4_scanNumber_40 : decode cX4_scanNumber 40 = .ok (.getfield 14, 3) := by decide +kernel
theorem dX4_scanNumber_43 : decode cX4_scanNumber 43 = .ok (.iload_n 2, 1) := by decide +kernel
theorem dX4_scanNumber_44 : decode cX4_scanNumber 44 = .ok (.invokevirtual 208, 3) := by decide +kernel
theorem dX4_scanNumber_47 : decode cX4_scanNumber 47 = .ok (.iadd, 1) := by decide +kernel
theorem dX4_scanNumber_48 : decode cX4_scanNumber 48 = .ok (.bipush 48, 2) := by decide +kernel
theorem dX4_scanNumber_50 : decode cX4_scanNumber 50 = .ok (.isub, 1) := by decide +kernel
theorem dX4_scanNumber_51 : decode cX4_scanNumber 51 = .ok (.goto 4, 3) := by decide +kernel
theorem dX4_scanNumber_54 : decode cX4_scanNumber 54 = .ok (.iload_n 3, 1) := by decide +kernel
theorem dX4_scanNumber_55 : decode cX4_scanNumber 55 = .ok (.istore_n 3, 1) := by decide +kernel
theorem dX4_scanNumber_56 : decode cX4_scanNumber 56 = .ok (.iinc 2 1, 3) := by decide +kernel
theorem dX4_scanNumber_59 : decode cX4_scanNumber 59 = .ok (.iinc 4 1, 3) := by decide +kernel
theorem dX4_scanNumber_62 : decode cX4_scanNumber 62 = .ok (.goto (-55), 3) := by decide +kernel
theorem dX4_scanNumber_65 : decode cX4_scanNumber 65 = .ok (.aload_n 0, 1) := by decide +kernel
theorem dX4_scanNumber_66 : decode cX4_scanNumber 66 = .ok (.iload_n 2, 1) := by decide +kernel
theorem dX4_scanNumber_67 : decode cX4_scanNumber 67 = .ok (.iload_n 1, 1) := by decide +kernel
theorem dX4_scanNumber_68 : decode cX4_scanNumber 68 = .ok (.isub, 1) := by decide +kernel
theorem dX4_scanNumber_69 : decode cX4_scanNumber 69 = .ok (.iconst 4, 1) := by decide +kernel
theorem dX4_scanNumber_70 : decode cX4_scanNumber 70 = .ok (.if_icmp .le 8, 3) := by decide +kernel
theorem dX4_scanNumber_73 : decode cX4_scanNumber 73 = .ok (.bipush 52, 2) := by decide +kernel
theorem dX4_scanNumber_75 : decode cX4_scanNumber 75 = .ok (.goto 5, 3) := by decide +kernel
theorem dX4_scanNumber_78 : decode cX4_scanNumber 78 = .ok (.bipush 50, 2) := by decide +kernel
theorem dX4_scanNumber_80 : decode cX4_scanNumber 80 = .ok (.iload_n 3, 1) := by decide +kernel
theorem dX4_scanNumber_81 : decode cX4_scanNumber 81 = .ok (.iload_n 1, 1) := by decide +kernel
theorem dX4_scanNumber_82 : decode cX4_scanNumber 82 = .ok (.invokevirtual 234, 3) := by decide +kernel
theorem dX4_scanNumber_85 : decode cX4_scanNumber 85 = .ok (.iload_n 2, 1) := by decide +kernel
theorem dX4_scanNumber_86 : decode cX4_scanNumber 86 = .ok (.ireturn, 1) := by decide +kernel
theorem dX4_isBlank_0 : decode cX4_isBlank 0 = .ok (.iload_n 0, 1) := by decide +kernel
theorem dX4_isBlank_1 : decode cX4_isBlank 1 = .ok (.bipush 10, 2) := by decide +kernel
theorem dX4_isBlank_3 : decode cX4_isBlank 3 = .ok (.if_icmp .eq 9, 3) := by decide +kernel
theorem dX4_isBlank_6 : decode cX4_isBlank 6 = .ok (.iload_n 0, 1) := by decide +kernel
theorem dX4_isBlank_7 : decode cX4_isBlank 7 = .ok (.bipush 32, 2) := by decide +kernel
theorem dX4_isBlank_9 : decode cX4_isBlank 9 = .ok (.if_icmp .ne 7, 3) := by decide +kernel
theorem dX4_isBlank_12 : decode cX4_isBlank 12 = .ok (.iconst 1, 1) := by decide +kernel
theorem dX4_isBlank_13 : decode cX4_isBlank 13 = .ok (.goto 4, 3) := by decide +kernel
theorem dX4_isBlank_16 : decode cX4_isBlank 16 = .ok (.iconst 0, 1) := by decide +kernel
theorem dX4_isBlank_17 : decode cX4_isBlank 17 = .ok (.ireturn, 1) := by decide +kernel
theorem dX4_isLetter_0 : decode cX4_isLetter 0 = .ok (.iload_n 0, 1) := by decide +kernel
theorem dX4_isLetter_1 : decode cX4_isLetter 1 = .ok (.bipush 97, 2) := by decide +kernel
theorem dX4_isLetter_3 : decode cX4_isLetter 3 = .ok (.if_icmp .lt 13, 3) := by decide +kernel
theorem dX4_isLetter_6 : decode cX4_isLetter 6 = .ok (.iload_n 0, 1) := by decide +kernel
theorem dX4_isLetter_7 : decode cX4_isLetter 7 = .ok (.bipush 122, 2) := by decide +kernel
theorem dX4_isLetter_9 : decode cX4_isLetter 9 = .ok (.if_icmp .gt 7, 3) := by decide +kernel
theorem dX4_isLetter_12 : decode cX4_isLetter 12 = .ok (.iconst 1, 1) := by decide +kernel
theorem dX4_isLetter_13 : decode cX4_isLetter 13 = .ok (.goto 4, 3) := by decide +kernel
theorem dX4_isLetter_16 : decode cX4_isLetter 16 = .ok (.iconst 0, 1) := by decide +kernel
theorem dX4_isLetter_17 : decode cX4_isLetter 17 = .ok (.ireturn, 1) := by decide +kernel
theorem dX4_isDigit_0 : decode cX4_isDigit 0 = .ok (.iload_n 0, 1) := by decide +kernel
theorem dX4_isDigit_1 : decode cX4_isDigit 1 = .ok (.bipush 48, 2) := by decide +kernel
theorem dX4_isDigit_3 : decode cX4_isDigit 3 = .ok (.if_icmp .lt 13, 3) := by decide +kernel
theorem dX4_isDigit_6 : decode cX4_isDigit 6 = .ok (.iload_n 0, 1) := by decide +kernel
theorem dX4_isDigit_7 : decode cX4_isDigit 7 = .ok (.bipush 57, 2) := by decide +kernel
theorem dX4_isDigit_9 : decode cX4_isDigit 9 = .ok (.if_icmp .gt 7, 3) := by decide +kernel
theorem dX4_isDigit_12 : decode cX4_isDigit 12 = .ok (.iconst 1, 1) := by decide +kernel
theorem dX4_isDigit_13 : decode cX4_isDigit 13 = .ok (.goto 4, 3) := by decide +kernel
theorem dX4_isDigit_16 : decode cX4_isDigit 16 = .ok (.iconst 0, 1) := by decide +kernel
theorem dX4_isDigit_17 : decode cX4_isDigit 17 = .ok (.ireturn, 1) := by decide +kernel
theorem dX5_init_0 : decode cX5_init 0 = .ok (.aload_n 0, 1) := by decide +kernel
theorem dX5_init_1 : decode cX5_init 1 = .ok (.invokespecial 3, 3) := by decide +kernel
theorem dX5_init_4 : decode cX5_init 4 = .ok (.aload_n 0, 1) := by decide +kernel
theorem dX5_init_5 : decode cX5_init 5 = .ok (.iconst 2, 1) := by decide +kernel
theorem dX5_init_6 : decode cX5_init 6 = .ok (.iconst 0, 1) := by decide +kernel
theorem dX5_init_7 : decode cX5_init 7 = .ok (.iload_n 1, 1) := by decide +kernel
theorem dX5_init_8 : decode cX5_init 8 = .ok (.invokestatic 9, 3) := by decide +kernel
theorem dX5_init_11 : decode cX5_init 11 = .ok (.imul, 1) := by decide +kernel
theorem dX5_init_12 : decode cX5_init 12 = .ok (.newarray .long, 2) := by decide +kernel
theorem dX5_init_14 : decode cX5_init 14 = .ok (.putfield 15, 3) := by decide +kernel
theorem dX5_init_17 : decode cX5_init 17 = .ok (.return_, 1) := by decide +kernel
theorem dX5_holds_0 : decode cX5_holds 0 = .ok (.iload_n 1, 1) := by decide +kernel
theorem dX5_holds_1 : decode cX5_holds 1 = .ok (.ifCond .lt 20, 3) := by decide +kernel
theorem dX5_holds_4 : decode cX5_holds 4 = .ok (.iconst 2, 1) := by decide +kernel
theorem dX5_holds_5 : decode cX5_holds 5 = .ok (.iload_n 1, 1) := by decide +kernel
theorem dX5_holds_6 : decode cX5_holds 6 = .ok (.imul, 1) := by decide +kernel
theorem dX5_holds_7 : decode cX5_holds 7 = .ok (.iconst 1, 1) := by decide +kernel
theorem dX5_holds_8 : decode cX5_holds 8 = .ok (.iadd, 1) := by decide +kernel
theorem dX5_holds_9 : decode cX5_holds 9 = .ok (.aload_n 0, 1) := by decide +kernel
theorem dX5_holds_10 : decode cX5_holds 10 = .ok (.getfield 15, 3) := by decide +kernel
theorem dX5_holds_13 : decode cX5_holds 13 = .ok (.arraylength, 1) := by decide +kernel
theorem dX5_holds_14 : decode cX5_holds 14 = .ok (.if_icmp .ge 7, 3) := by decide +kernel
theorem dX5_holds_17 : decode cX5_holds 17 = .ok (.iconst 1, 1) := by decide +kernel
theorem dX5_holds_18 : decode cX5_holds 18 = .ok (.goto 4, 3) := by decide +kernel
theorem dX5_holds_21 : decode cX5_holds 21 = .ok (.iconst 0, 1) := by decide +kernel
theorem dX5_holds_22 : decode cX5_holds 22 = .ok (.ireturn, 1) := by decide +kernel
theorem dX5_has_0 : decode cX5_has 0 = .ok (.iconst 2, 1) := by decide +kernel
theorem dX5_has_1 : decode cX5_has 1 = .ok (.iload_n 1, 1) := by decide +kernel
theorem dX5_has_2 : decode cX5_has 2 = .ok (.imul, 1) := by decide +kernel
theorem dX5_has_3 : decode cX5_has 3 = .ok (.iload_n 2, 1) := by decide +kernel
theorem dX5_has_4 : decode cX5_has 4 = .ok (.bipush 6, 2) := by decide +kernel
theorem dX5_has_6 : decode cX5_has 6 = .ok (.ishr, 1) := by decide +kernel
theorem dX5_has_7 : decode cX5_has 7 = .ok (.iadd, 1) := by decide +kernel
theorem dX5_has_8 : decode cX5_has 8 = .ok (.istore_n 3, 1) := by decide +kernel
theorem dX5_has_9 : decode cX5_has 9 = .ok (.iload_n 2, 1) := by decide +kernel
theorem dX5_has_10 : decode cX5_has 10 = .ok (.ifCond .lt 44, 3) := by decide +kernel
theorem dX5_has_13 : decode cX5_has 13 = .ok (.iload_n 2, 1) := by decide +kernel
theorem dX5_has_14 : decode cX5_has 14 = .ok (.bipush 100, 2) := by decide +kernel
theorem dX5_has_16 : decode cX5_has 16 = .ok (.if_icmp .ge 38, 3) := by decide +kernel
theorem dX5_has_19 : decode cX5_has 19 = .ok (.iload_n 3, 1) := by decide +kernel
theorem dX5_has_20 : decode cX5_has 20 = .ok (.ifCond .lt 34, 3) := by decide +kernel
theorem dX5_has_23 : decode cX5_has 23 = .ok (.iload_n 3, 1) := by decide +kernel
theorem dX5_has_24 : decode cX5_has 24 = .ok (.aload_n 0, 1) := by decide +kernel
theorem dX5_has_25 : decode cX5_has 25 = .ok (.getfield 15, 3) := by decide +kernel
theorem dX5_has_28 : decode cX5_has 28 = .ok (.arraylength, 1) := by decide +kernel
theorem dX5_has_29 : decode cX5_has 29 = .ok (.if_icmp .ge 25, 3) := by decide +kernel
theorem dX5_has_32 : decode cX5_has 32 = .ok (.aload_n 0, 1) := by decide +kernel
theorem dX5_has_33 : decode cX5_has 33 = .ok (.getfield 15, 3) := by decide +kernel
theorem dX5_has_36 : decode cX5_has 36 = .ok (.iload_n 3, 1) := by decide +kernel
theorem dX5_has_37 : decode cX5_has 37 = .ok (.laload, 1) := by decide +kernel
theorem dX5_has_38 : decode cX5_has 38 = .ok (.iload_n 2, 1) := by decide +kernel
theorem dX5_has_39 : decode cX5_has 39 = .ok (.bipush 63, 2) := by decide +kernel
theorem dX5_has_41 : decode cX5_has 41 = .ok (.iand, 1) := by decide +kernel
theorem dX5_has_42 : decode cX5_has 42 = .ok (.lushr, 1) := by decide +kernel
theorem dX5_has_43 : decode cX5_has 43 = .ok (.lconst 1, 1) := by decide +kernel
theorem dX5_has_44 : decode cX5_has 44 = .ok (.land, 1) := by decide +kernel
theorem dX5_has_45 : decode cX5_has 45 = .ok (.lconst 0, 1) := by decide +kernel
theorem dX5_has_46 : decode cX5_has 46 = .ok (.lcmp, 1) := by decide +kernel
theorem dX5_has_47 : decode cX5_has 47 = .ok (.ifCond .eq 7, 3) := by decide +kernel
theorem dX5_has_50 : decode cX5_has 50 = .ok (.iconst 1, 1) := by decide +kernel
theorem dX5_has_51 : decode cX5_has 51 = .ok (.goto 4, 3) := by decide +kernel
theorem dX5_has_54 : decode cX5_has 54 = .ok (.iconst 0, 1) := by decide +kernel
theorem dX5_has_55 : decode cX5_has 55 = .ok (.ireturn, 1) := by decide +kernel
theorem dX5_word_0 : decode cX5_word 0 = .ok (.aload_n 0, 1) := by decide +kernel
theorem dX5_word_1 : decode cX5_word 1 = .ok (.iload_n 1, 1) := by decide +kernel
theorem dX5_word_2 : decode cX5_word 2 = .ok (.invokevirtual 21, 3) := by decide +kernel
theorem dX5_word_5 : decode cX5_word 5 = .ok (.ifCond .eq 25, 3) := by decide +kernel
theorem dX5_word_8 : decode cX5_word 8 = .ok (.iload_n 2, 1) := by decide +kernel
theorem dX5_word_9 : decode cX5_word 9 = .ok (.ifCond .lt 21, 3) := by decide +kernel
theorem dX5_word_12 : decode cX5_word 12 = .ok (.iload_n 2, 1) := by decide +kernel
theorem dX5_word_13 : decode cX5_word 13 = .ok (.iconst 2, 1) := by decide +kernel
theorem dX5_word_14 : decode cX5_word 14 = .ok (.if_icmp .ge 16, 3) := by decide +kernel
theorem dX5_word_17 : decode cX5_word 17 = .ok (.aload_n 0, 1) := by decide +kernel
theorem dX5_word_18 : decode cX5_word 18 = .ok (.getfield 15, 3) := by decide +kernel
theorem dX5_word_21 : decode cX5_word 21 = .ok (.iconst 2, 1) := by decide +kernel
theorem dX5_word_22 : decode cX5_word 22 = .ok (.iload_n 1, 1) := by decide +kernel
theorem dX5_word_23 : decode cX5_word 23 = .ok (.imul, 1) := by decide +kernel
theorem dX5_word_24 : decode cX5_word 24 = .ok (.iload_n 2, 1) := by decide +kernel
theorem dX5_word_25 : decode cX5_word 25 = .ok (.iadd, 1) := by decide +kernel
theorem dX5_word_26 : decode cX5_word 26 = .ok (.laload, 1) := by decide +kernel
theorem dX5_word_27 : decode cX5_word 27 = .ok (.goto 4, 3) := by decide +kernel
theorem dX5_word_30 : decode cX5_word 30 = .ok (.lconst 0, 1) := by decide +kernel
theorem dX5_word_31 : decode cX5_word 31 = .ok (.lreturn, 1) := by decide +kernel
theorem dX5_put_0 : decode cX5_put 0 = .ok (.iconst 2, 1) := by decide +kernel
theorem dX5_put_1 : decode cX5_put 1 = .ok (.iload_n 1, 1) := by decide +kernel
theorem dX5_put_2 : decode cX5_put 2 = .ok (.imul, 1) := by decide +kernel
theorem dX5_put_3 : decode cX5_put 3 = .ok (.iload_n 2, 1) := by decide +kernel
theorem dX5_put_4 : decode cX5_put 4 = .ok (.bipush 6, 2) := by decide +kernel
theorem dX5_put_6 : decode cX5_put 6 = .ok (.ishr, 1) := by decide +kernel
theorem dX5_put_7 : decode cX5_put 7 = .ok (.iadd, 1) := by decide +kernel
theorem dX5_put_8 : decode cX5_put 8 = .ok (.istore_n 3, 1) := by decide +kernel
theorem dX5_put_9 : decode cX5_put 9 = .ok (.iload_n 2, 1) := by decide +kernel
theorem dX5_put_10 : decode cX5_put 10 = .ok (.ifCond .lt 37, 3) := by decide +kernel
theorem dX5_put_13 : decode cX5_put 13 = .ok (.iload_n 2, 1) := by decide +kernel
theorem dX5_put_14 : decode cX5_put 14 = .ok (.bipush 100, 2) := by decide +kernel
theorem dX5_put_16 : decode cX5_put 16 = .ok (.if_icmp .ge 31, 3) := by decide +kernel
theorem dX5_put_19 : decode cX5_put 19 = .ok (.iload_n 3, 1) := by decide +kernel
theorem dX5_put_20 : decode cX5_put 20 = .ok (.ifCond .lt 27, 3) := by decide +kernel
theorem dX5_put_23 : decode cX5_put 23 = .ok (.iload_n 3, 1) := by decide +kernel
theorem dX5_put_24 : decode cX5_put 24 = .ok (.aload_n 0, 1) := by decide +kernel
theorem dX5_put_25 : decode cX5_put 25 = .ok (.getfield 15, 3) := by decide +kernel
theorem dX5_put_28 : decode cX5_put 28 = .ok (.arraylength, 1) := by decide +kernel
theorem dX5_put_29 : decode cX5_put 29 = .ok (.if_icmp .ge 18, 3) := by decide +kernel
theorem dX5_put_32 : decode cX5_put 32 = .ok (.aload_n 0, 1) := by decide +kernel
theorem dX5_put_33 : decode cX5_put 33 = .ok (.getfield 15, 3) := by decide +kernel
theorem dX5_put_36 : decode cX5_put 36 = .ok (.iload_n 3, 1) := by decide +kernel
theorem dX5_put_37 : decode cX5_put 37 = .ok (.dup2, 1) := by decide +kernel
theorem dX5_put_38 : decode cX5_put 38 = .ok (.laload, 1) := by decide +kernel
theorem dX5_put_39 : decode cX5_put 39 = .ok (.lconst 1, 1) := by decide +kernel
theorem dX5_put_40 : decode cX5_put 40 = .ok (.iload_n 2, 1) := by decide +kernel
theorem dX5_put_41 : decode cX5_put 41 = .ok (.bipush 63, 2) := by decide +kernel
theorem dX5_put_43 : decode cX5_put 43 = .ok (.iand, 1) := by decide +kernel
theorem dX5_put_44 : decode cX5_put 44 = .ok (.lshl, 1) := by decide +kernel
theorem dX5_put_45 : decode cX5_put 45 = .ok (.lor, 1) := by decide +kernel
theorem dX5_put_46 : decode cX5_put 46 = .ok (.lastore, 1) := by decide +kernel
theorem dX5_put_47 : decode cX5_put 47 = .ok (.return_, 1) := by decide +kernel
theorem dX5_lowest_0 : decode cX5_lowest 0 = .ok (.lload_n 0, 1) := by decide +kernel
theorem dX5_lowest_1 : decode cX5_lowest 1 = .ok (.lload_n 0, 1) := by decide +kernel
theorem dX5_lowest_2 : decode cX5_lowest 2 = .ok (.lneg, 1) := by decide +kernel
theorem dX5_lowest_3 : decode cX5_lowest 3 = .ok (.land, 1) := by decide +kernel
theorem dX5_lowest_4 : decode cX5_lowest 4 = .ok (.lconst 1, 1) := by decide +kernel
theorem dX5_lowest_5 : decode cX5_lowest 5 = .ok (.lsub, 1) := by decide +kernel
theorem dX5_lowest_6 : decode cX5_lowest 6 = .ok (.invokestatic 25, 3) := by decide +kernel
theorem dX5_lowest_9 : decode cX5_lowest 9 = .ok (.ireturn, 1) := by decide +kernel
theorem dX5_join_0 : decode cX5_join 0 = .ok (.aload_n 0, 1) := by decide +kernel
theorem dX5_join_1 : decode cX5_join 1 = .ok (.iload_n 1, 1) := by decide +kernel
theorem dX5_join_2 : decode cX5_join 2 = .ok (.iconst 0, 1) := by decide +kernel
theorem dX5_join_3 : decode cX5_join 3 = .ok (.aload_n 2, 1) := by decide +kernel
theorem dX5_join_4 : decode cX5_join 4 = .ok (.iload_n 3, 1) := by decide +kernel
theorem dX5_join_5 : decode cX5_join 5 = .ok (.iconst 0, 1) := by decide +kernel
theorem dX5_join_6 : decode cX5_join 6 = .ok (.invokevirtual 31, 3) := by decide +kernel
theorem dX5_join_9 : decode cX5_join 9 = .ok (.invokevirtual 35, 3) := by decide +kernel
theorem dX5_join_12 : decode cX5_join 12 = .ok (.aload_n 0, 1) := by decide +kernel
theorem dX5_join_13 : decode cX5_join 13 = .ok (.iload_n 1, 1) := by decide +kernel
theorem dX5_join_14 : decode cX5_join 14 = .ok (.iconst 1, 1) := by decide +kernel
theorem dX5_join_15 : decode cX5_join 15 = .ok (.aload_n 2, 1) := by decide +kernel
theorem dX5_join_16 : decode cX5_join 16 = .ok (.iload_n 3, 1) := by decide +kernel
theorem dX5_join_17 : decode cX5_join 17 = .ok (.iconst 1, 1) := by decide +kernel
theorem dX5_join_18 : decode cX5_join 18 = .ok (.invokevirtual 31, 3) := by decide +kernel
theorem dX5_join_21 : decode cX5_join 21 = .ok (.invokevirtual 35, 3) := by decide +kernel
theorem dX5_join_24 : decode cX5_join 24 = .ok (.return_, 1) := by decide +kernel
theorem dX5_joinHalf_0 : decode cX5_joinHalf 0 = .ok (.aload_n 0, 1) := by decide +kernel
theorem dX5_joinHalf_1 : decode cX5_joinHalf 1 = .ok (.iload_n 1, 1) := by decide +kernel
theorem dX5_joinHalf_2 : decode cX5_joinHalf 2 = .ok (.invokevirtual 21, 3) := by decide +kernel
theorem dX5_joinHalf_5 : decode cX5_joinHalf 5 = .ok (.ifCond .eq 26, 3) := by decide +kernel
theorem dX5_joinHalf_8 : decode cX5_joinHalf 8 = .ok (.iload_n 2, 1) := by decide +kernel
theorem dX5_joinHalf_9 : decode cX5_joinHalf 9 = .ok (.ifCond .lt 22, 3) := by decide +kernel
theorem dX5_joinHalf_12 : decode cX5_joinHalf 12 = .ok (.iload_n 2, 1) := by decide +kernel
theorem dX5_joinHalf_13 : decode cX5_joinHalf 13 = .ok (.iconst 2, 1) := by decide +kernel
theorem dX5_joinHalf_14 : decode cX5_joinHalf 14 = .ok (.if_icmp .ge 17, 3) := by decide +kernel
theorem dX5_joinHalf_17 : decode cX5_joinHalf 17 = .ok (.aload_n 0, 1) := by decide +kernel
theorem dX5_joinHalf_18 : decode cX5_joinHalf 18 = .ok (.getfield 15, 3) := by decide +kernel
theorem dX5_joinHalf_21 : decode cX5_joinHalf 21 = .ok (.iconst 2, 1) := by decide +kernel
theorem dX5_joinHalf_22 : decode cX5_joinHalf 22 = .ok (.iload_n 1, 1) := by decide +kernel
theorem dX5_joinHalf_23 : decode cX5_joinHalf 23 = .ok (.imul, 1) := by decide +kernel
theorem dX5_joinHalf_24 : decode cX5_joinHalf 24 = .ok (.iload_n 2, 1) := by decide +kernel
theorem dX5_joinHalf_25 : decode cX5_joinHalf 25 = .ok (.iadd, 1) := by decide +kernel
theorem dX5_joinHalf_26 : decode cX5_joinHalf 26 = .ok (.dup2, 1) := by decide +kernel
theorem dX5_joinHalf_27 : decode cX5_joinHalf 27 = .ok (.laload, 1) := by decide +kernel
theorem dX5_joinHalf_28 : decode cX5_joinHalf 28 = .ok (.lload_n 3, 1) := by decide +kernel
theorem dX5_joinHalf_29 : decode cX5_joinHalf 29 = .ok (.lor, 1) := by decide +kernel
theorem dX5_joinHalf_30 : decode cX5_joinHalf 30 = .ok (.lastore, 1) := by decide +kernel
theorem dX5_joinHalf_31 : decode cX5_joinHalf 31 = .ok (.return_, 1) := by decide +kernel
theorem dX5_empty_0 : decode cX5_empty 0 = .ok (.aload_n 0, 1) := by decide +kernel
theorem dX5_empty_1 : decode cX5_empty 1 = .ok (.getfield 15, 3) := by decide +kernel
theorem dX5_empty_4 : decode cX5_empty 4 = .ok (.lconst 0, 1) := by decide +kernel
theorem dX5_empty_5 : decode cX5_empty 5 = .ok (.invokestatic 39, 3) := by decide +kernel
theorem dX5_empty_8 : decode cX5_empty 8 = .ok (.return_, 1) := by decide +kernel
theorem dX5_emptyRow_0 : decode cX5_emptyRow 0 = .ok (.aload_n 0, 1) := by decide +kernel
theorem dX5_emptyRow_1 : decode cX5_emptyRow 1 = .ok (.iload_n 1, 1) := by decide +kernel
theorem dX5_emptyRow_2 : decode cX5_emptyRow 2 = .ok (.invokevirtual 21, 3) := by decide +kernel
theorem dX5_emptyRow_5 : decode cX5_emptyRow 5 = .ok (.ifCond .eq 23, 3) := by decide +kernel
theorem dX5_emptyRow_8 : decode cX5_emptyRow 8 = .ok (.aload_n 0, 1) := by decide +kernel
theorem dX5_emptyRow_9 : decode cX5_emptyRow 9 = .ok (.getfield 15, 3) := by decide +kernel
theorem dX5_emptyRow_12 : decode cX5_emptyRow 12 = .ok (.iconst 2, 1) := by decide +kernel
theorem dX5_emptyRow_13 : decode cX5_emptyRow 13 = .ok (.iload_n 1, 1) := by decide +kernel
theorem dX5_emptyRow_14 : decode cX5_emptyRow 14 = .ok (.imul, 1) := by decide +kernel
theorem dX5_emptyRow_15 : decode cX5_emptyRow 15 = .ok (.lconst 0, 1) := by decide +kernel
theorem dX5_emptyRow_16 : decode cX5_emptyRow 16 = .ok (.lastore, 1) := by decide +kernel
theorem dX5_emptyRow_17 : decode cX5_emptyRow 17 = .ok (.aload_n 0, 1) := by decide +kernel
theorem dX5_emptyRow_18 : decode cX5_emptyRow 18 = .ok (.getfield 15, 3) := by decide +kernel
theorem dX5_emptyRow_21 : decode cX5_emptyRow 21 = .ok (.iconst 2, 1) := by decide +kernel
theorem dX5_emptyRow_22 : decode cX5_emptyRow 22 = .ok (.iload_n 1, 1) := by decide +kernel
theorem dX5_emptyRow_23 : decode cX5_emptyRow 23 = .ok (.imul, 1) := by decide +kernel
theorem dX5_emptyRow_24 : decode cX5_emptyRow 24 = .ok (.iconst 1, 1) := by decide +kernel
theorem dX5_emptyRow_25 : decode cX5_emptyRow 25 = .ok (.iadd, 1) := by decide +kernel
theorem dX5_emptyRow_26 : decode cX5_emptyRow 26 = .ok (.lconst 0, 1) := by decide +kernel
theorem dX5_emptyRow_27 : decode cX5_emptyRow 27 = .ok (.lastore, 1) := by decide +kernel
theorem dX5_emptyRow_28 : decode cX5_emptyRow 28 = .ok (.return_, 1) := by decide +kernel
theorem dX5_fillRow_0 : decode cX5_fillRow 0 = .ok (.aload_n 0, 1) := by decide +kernel
theorem dX5_fillRow_1 : decode cX5_fillRow 1 = .ok (.iload_n 1, 1) := by decide +kernel
theorem dX5_fillRow_2 : decode cX5_fillRow 2 = .ok (.invokevirtual 21, 3) := by decide +kernel
theorem dX5_fillRow_5 : decode cX5_fillRow 5 = .ok (.ifCond .eq 27, 3) := by decide +kernel
theorem dX5_fillRow_8 : decode cX5_fillRow 8 = .ok (.aload_n 0, 1) := by decide +kernel
theorem dX5_fillRow_9 : decode cX5_fillRow 9 = .ok (.getfield 15, 3) := by decide +kernel
theorem dX5_fillRow_12 : decode cX5_fillRow 12 = .ok (.iconst 2, 1) := by decide +kernel
theorem dX5_fillRow_13 : decode cX5_fillRow 13 = .ok (.iload_n 1, 1) := by decide +kernel
theorem dX5_fillRow_14 : decode cX5_fillRow 14 = .ok (.imul, 1) := by decide +kernel
theorem dX5_fillRow_15 : decode cX5_fillRow 15 = .ok (.ldc2_w 45, 3) := by decide +kernel
theorem dX5_fillRow_18 : decode cX5_fillRow 18 = .ok (.lastore, 1) := by decide +kernel
theorem dX5_fillRow_19 : decode cX5_fillRow 19 = .ok (.aload_n 0, 1) := by decide +kernel
theorem dX5_fillRow_20 : decode cX5_fillRow 20 = .ok (.getfield 15, 3) := by decide +kernel
theorem dX5_fillRow_23 : decode cX5_fillRow 23 = .ok (.iconst 2, 1) := by decide +kernel
theorem dX5_fillRow_24 : decode cX5_fillRow 24 = .ok (.iload_n 1, 1) := by decide +kernel
theorem dX5_fillRow_25 : decode cX5_fillRow 25 = .ok (.imul, 1) := by decide +kernel
theorem dX5_fillRow_26 : decode cX5_fillRow 26 = .ok (.iconst 1, 1) := by decide +kernel
theorem dX5_fillRow_27 : decode cX5_fillRow 27 = .ok (.iadd, 1) := by decide +kernel
theorem dX5_fillRow_28 : decode cX5_fillRow 28 = .ok (.ldc2_w 47, 3) := by decide +kernel
theorem dX5_fillRow_31 : decode cX5_fillRow 31 = .ok (.lastore, 1) := by decide +kernel
theorem dX5_fillRow_32 : decode cX5_fillRow 32 = .ok (.return_, 1) := by decide +kernel
theorem dX5_howMany_0 : decode cX5_howMany 0 = .ok (.aload_n 0, 1) := by decide +kernel
theorem dX5_howMany_1 : decode cX5_howMany 1 = .ok (.iload_n 1, 1) := by decide +kernel
theorem dX5_howMany_2 : decode cX5_howMany 2 = .ok (.invokevirtual 21, 3) := by decide +kernel
theorem dX5_howMany_5 : decode cX5_howMany 5 = .ok (.ifCond .eq 11, 3) := by decide +kernel
theorem dX5_howMany_8 : decode cX5_howMany 8 = .ok (.aload_n 2, 1) := by decide +kernel
theorem dX5_howMany_9 : decode cX5_howMany 9 = .ok (.iconst 0, 1) := by decide +kernel
theorem dX5_howMany_10 : decode cX5_howMany 10 = .ok (.invokevirtual 21, 3) := by decide +kernel
theorem dX5_howMany_13 : decode cX5_howMany 13 = .ok (.ifCond .ne 5, 3) := by decide +kernel
theorem dX5_howMany_16 : decode cX5_howMany 16 = .ok (.iconst 0, 1) := by decide +kernel
theorem dX5_howMany_17 : decode cX5_howMany 17 = .ok (.ireturn, 1) := by decide +kernel
theorem dX5_howMany_18 : decode cX5_howMany 18 = .ok (.aload_n 0, 1) := by decide +kernel
theorem dX5_howMany_19 : decode cX5_howMany 19 = .ok (.getfield 15, 3) := by decide +kernel
theorem dX5_howMany_22 : decode cX5_howMany 22 = .ok (.iconst 2, 1) := by decide +kernel
theorem dX5_howMany_23 : decode cX5_howMany 23 = .ok (.iload_n 1, 1) := by decide +kernel
theorem dX5_howMany_24 : decode cX5_howMany 24 = .ok (.imul, 1) := by decide +kernel
theorem dX5_howMany_25 : decode cX5_howMany 25 = .ok (.laload, 1) := by decide +kernel
theorem dX5_howMany_26 : decode cX5_howMany 26 = .ok (.aload_n 2, 1) := by decide +kernel
theorem dX5_howMany_27 : decode cX5_howMany 27 = .ok (.getfield 15, 3) := by decide +kernel
theorem dX5_howMany_30 : decode cX5_howMany 30 = .ok (.iconst 0, 1) := by decide +kernel
theorem dX5_howMany_31 : decode cX5_howMany 31 = .ok (.laload, 1) := by decide +kernel
theorem dX5_howMany_32 : decode cX5_howMany 32 = .ok (.land, 1) := by decide +kernel
theorem dX5_howMany_33 : decode cX5_howMany 33 = .ok (.invokestatic 25, 3) := by decide +kernel
theorem dX5_howMany_36 : decode cX5_howMany 36 = .ok (.aload_n 0, 1) := by decide +kernel
theorem dX5_howMany_37 : decode cX5_howMany 37 = .ok (.getfield 15, 3) := by decide +kernel
theorem dX5_howMany_40 : decode cX5_howMany 40 = .ok (.iconst 2, 1) := by decide +kernel
theorem dX5_howMany_41 : decode cX5_howMany 41 = .ok (.iload_n 1, 1) := by decide +kernel
theorem dX5_howMany_42 : decode cX5_howMany 42 = .ok (.imul, 1) := by decide +kernel
theorem dX5_howMany_43 : decode cX5_howMany 43 = .ok (.iconst 1, 1) := by decide +kernel
theorem dX5_howMany_44 : decode cX5_howMany 44 = .ok (.iadd, 1) := by decide +kernel
theorem dX5_howMany_45 : decode cX5_howMany 45 = .ok (.laload, 1) := by decide +kernel
theorem dX5_howMany_46 : decode cX5_howMany 46 = .ok (.aload_n 2, 1) := by decide +kernel
theorem dX5_howMany_47 : decode cX5_howMany 47 = .ok (.getfield 15, 3) := by decide +kernel
theorem dX5_howMany_50 : decode cX5_howMany 50 = .ok (.iconst 1, 1) := by decide +kernel
theorem dX5_howMany_51 : decode cX5_howMany 51 = .ok (.laload, 1) := by decide +kernel
theorem dX5_howMany_52 : decode cX5_howMany 52 = .ok (.land, 1) := by decide +kernel
theorem dX5_howMany_53 : decode cX5_howMany 53 = .ok (.invokestatic 25, 3) := by decide +kernel
theorem dX5_howMany_56 : decode cX5_howMany 56 = .ok (.iadd, 1) := by decide +kernel
theorem dX5_howMany_57 : decode cX5_howMany 57 = .ok (.ireturn, 1) := by decide +kernel
theorem dX5_copy_0 : decode cX5_copy 0 = .ok (.aload_n 0, 1) := by decide +kernel
theorem dX5_copy_1 : decode cX5_copy 1 = .ok (.getfield 15, 3) := by decide +kernel
theorem dX5_copy_4 : decode cX5_copy 4 = .ok (.arraylength, 1) := by decide +kernel
theorem dX5_copy_5 : decode cX5_copy 5 = .ok (.aload_n 1, 1) := by decide +kernel
theorem dX5_copy_6 : decode cX5_copy 6 = .ok (.getfield 15, 3) := by decide +kernel
theorem dX5_copy_9 : decode cX5_copy 9 = .ok (.arraylength, 1) := by decide +kernel
theorem dX5_copy_10 : decode cX5_copy 10 = .ok (.iconst 2, 1) := by decide +kernel
theorem dX5_copy_11 : decode cX5_copy 11 = .ok (.iload_n 2, 1) := by decide +kernel
theorem dX5_copy_12 : decode cX5_copy 12 = .ok (.imul, 1) := by decide +kernel
theorem dX5_copy_13 : decode cX5_copy 13 = .ok (.isub, 1) := by decide +kernel
theorem dX5_copy_14 : decode cX5_copy 14 = .ok (.invokestatic 49, 3) := by decide +kernel
theorem dX5_copy_17 : decode cX5_copy 17 = .ok (.istore_n 3, 1) := by decide +kernel
theorem dX5_copy_18 : decode cX5_copy 18 = .ok (.iload_n 2, 1) := by decide +kernel
theorem dX5_copy_19 : decode cX5_copy 19 = .ok (.ifCond .lt 23, 3) := by decide +kernel
theorem dX5_copy_22 : decode cX5_copy 22 = .ok (.iload_n 3, 1) := by decide +kernel
theorem dX5_copy_23 : decode cX5_copy 23 = .ok (.ifCond .le 19, 3) := by decide +kernel
theorem dX5_copy_26 : decode cX5_copy 26 = .ok (.aload_n 1, 1) := by decide +kernel
theorem dX5_copy_27 : decode cX5_copy 27 = .ok (.getfield 15, 3) := by decide +kernel
theorem dX5_copy_30 : decode cX5_copy 30 = .ok (.iconst 2, 1) := by decide +kernel
theorem dX5_copy_31 : decode cX5_copy 31 = .ok (.iload_n 2, 1) := by decide +kernel
theorem dX5_copy_32 : decode cX5_copy 32 = .ok (.imul, 1) := by decide +kernel
theorem dX5_copy_33 : decode cX5_copy 33 = .ok (.aload_n 0, 1) := by decide +kernel
theorem dX5_copy_34 : decode cX5_copy 34 = .ok (.getfield 15, 3) := by decide +kernel
theorem dX5_copy_37 : decode cX5_copy 37 = .ok (.iconst 0, 1) := by decide +kernel
theorem dX5_copy_38 : decode cX5_copy 38 = .ok (.iload_n 3, 1) := by decide +kernel
theorem dX5_copy_39 : decode cX5_copy 39 = .ok (.invokestatic 52, 3) := by decide +kernel
theorem dX5_copy_42 : decode cX5_copy 42 = .ok (.return_, 1) := by decide +kernel
theorem dX6_init_0 : decode cX6_init 0 = .ok (.aload_n 0, 1) := by decide +kernel
theorem dX6_init_1 : decode cX6_init 1 = .ok (.invokespecial 3, 3) := by decide +kernel
theorem dX6_init_4 : decode cX6_init 4 = .ok (.aload_n 0, 1) := by decide +kernel
theorem dX6_init_5 : decode cX6_init 5 = .ok (.sipush 480, 3) := by decide +kernel
theorem dX6_init_8 : decode cX6_init 8 = .ok (.newarray .int, 2) := by decide +kernel
theorem dX6_init_10 : decode cX6_init 10 = .ok (.putfield 9, 3) := by decide +kernel
theorem dX6_init_13 : decode cX6_init 13 = .ok (.aload_n 0, 1) := by decide +kernel
theorem dX6_init_14 : decode cX6_init 14 = .ok (.new 15, 3) := by decide +kernel
theorem dX6_init_17 : decode cX6_init 17 = .ok (.dup, 1) := by decide +kernel
theorem dX6_init_18 : decode cX6_init 18 = .ok (.sipush 480, 3) := by decide +kernel
theorem dX6_init_21 : decode cX6_init 21 = .ok (.invokespecial 17, 3) := by decide +kernel
theorem dX6_init_24 : decode cX6_init 24 = .ok (.putfield 20, 3) := by decide +kernel
theorem dX6_init_27 : decode cX6_init 27 = .ok (.aload_n 0, 1) := by decide +kernel
theorem dX6_init_28 : decode cX6_init 28 = .ok (.new 15, 3) := by decide +kernel
theorem dX6_init_31 : decode cX6_init 31 = .ok (.dup, 1) := by decide +kernel
theorem dX6_init_32 : decode cX6_init 32 = .ok (.bipush 24, 2) := by decide +kernel
theorem dX6_init_34 : decode cX6_init 34 = .ok (.invokespecial 17, 3) := by decide +kernel
theorem dX6_init_37 : decode cX6_init 37 = .ok (.putfield 24, 3) := by decide +kernel
theorem dX6_init_40 : decode cX6_init 40 = .ok (.aload_n 0, 1) := by decide +kernel
theorem dX6_init_41 : decode cX6_init 41 = .ok (.new 15, 3) := by decide +kernel
theorem dX6_init_44 : decode cX6_init 44 = .ok (.dup, 1) := by decide +kernel
theorem dX6_init_45 : decode cX6_init 45 = .ok (.iconst 1, 1) := by decide +kernel
theorem dX6_init_46 : decode cX6_init 46 = .ok (.invokespecial 17, 3) := by decide +kernel
theorem dX6_init_49 : decode cX6_init 49 = .ok (.putfield 27, 3) := by decide +kernel
theorem dX6_init_52 : decode cX6_init 52 = .ok (.aload_n 0, 1) := by decide +kernel
theorem dX6_init_53 : decode cX6_init 53 = .ok (.new 15, 3) := by decide +kernel
theorem dX6_init_56 : decode cX6_init 56 = .ok (.dup, 1) := by decide +kernel
theorem dX6_init_57 : decode cX6_init 57 = .ok (.iconst 1, 1) := by decide +kernel
theorem dX6_init_58 : decode cX6_init 58 = .ok (.invokespecial 17, 3) := by decide +kernel
theorem dX6_init_61 : decode cX6_init 61 = .ok (.putfield 30, 3) := by decide +kernel
theorem dX6_init_64 : decode cX6_init 64 = .ok (.aload_n 0, 1) := by decide +kernel
theorem dX6_init_65 : decode cX6_init 65 = .ok (.sipush 400, 3) := by decide +kernel
theorem dX6_init_68 : decode cX6_init 68 = .ok (.newarray .int, 2) := by decide +kernel
theorem dX6_init_70 : decode cX6_init 70 = .ok (.putfield 33, 3) := by decide +kernel
theorem dX6_init_73 : decode cX6_init 73 = .ok (.aload_n 0, 1) := by decide +kernel
theorem dX6_init_74 : decode cX6_init 74 = .ok (.bipush 100, 2) := by decide +kernel
theorem dX6_init_76 : decode cX6_init 76 = .ok (.newarray .int, 2) := by decide +kernel
theorem dX6_init_78 : decode cX6_init 78 = .ok (.putfield 36, 3) := by decide +kernel
theorem dX6_init_81 : decode cX6_init 81 = .ok (.aload_n 0, 1) := by decide +kernel
theorem dX6_init_82 : decode cX6_init 82 = .ok (.bipush 100, 2) := by decide +kernel
theorem dX6_init_84 : decode cX6_init 84 = .ok (.newarray .int, 2) := by decide +kernel
theorem dX6_init_86 : decode cX6_init 86 = .ok (.putfield 39, 3) := by decide +kernel
theorem dX6_init_89 : decode cX6_init 89 = .ok (.aload_n 0, 1) := by decide +kernel
theorem dX6_init_90 : decode cX6_init 90 = .ok (.aload_n 1, 1) := by decide +kernel
theorem dX6_init_91 : decode cX6_init 91 = .ok (.putfield 42, 3) := by decide +kernel
theorem dX6_init_94 : decode cX6_init 94 = .ok (.return_, 1) := by decide +kernel
theorem dX6_build_0 : decode cX6_build 0 = .ok (.aload_n 0, 1) := by decide +kernel
theorem dX6_build_1 : decode cX6_build 1 = .ok (.aload_n 1, 1) := by decide +kernel
theorem dX6_build_2 : decode cX6_build 2 = .ok (.putfield 42, 3) := by decide +kernel
theorem dX6_build_5 : decode cX6_build 5 = .ok (.aload_n 0, 1) := by decide +kernel
theorem dX6_build_6 : decode cX6_build 6 = .ok (.invokevirtual 46, 3) := by decide +kernel
theorem dX6_build_9 : decode cX6_build 9 = .ok (.aload_n 0, 1) := by decide +kernel
theorem dX6_build_10 : decode cX6_build 10 = .ok (.invokevirtual 49, 3) := by decide +kernel
theorem dX6_build_13 : decode cX6_build 13 = .ok (.aload_n 0, 1) := by decide +kernel
theorem dX6_build_14 : decode cX6_build 14 = .ok (.invokevirtual 52, 3) := by decide +kernel
theorem dX6_build_17 : decode cX6_build 17 = .ok (.aload_n 0, 1) := by decide +kernel
theorem dX6_build_18 : decode cX6_build 18 = .ok (.getfield 20, 3) := by decide +kernel
theorem dX6_build_21 : decode cX6_build 21 = .ok (.invokevirtual 55, 3) := by decide +kernel
theorem dX6_build_24 : decode cX6_build 24 = .ok (.iconst 0, 1) := by decide +kernel
theorem dX6_build_25 : decode cX6_build 25 = .ok (.istore_n 2, 1) := by decide +kernel
theorem dX6_build_26 : decode cX6_build 26 = .ok (.iload_n 2, 1) := by decide +kernel
theorem dX6_build_27 : decode cX6_build 27 = .ok (.sipush 480, 3) := by decide +kernel
theorem dX6_build_30 : decode cX6_build 30 = .ok (.if_icmp .ge 77, 3) := by decide +kernel
theorem dX6_build_33 : decode cX6_build 33 = .ok (.aload_n 0, 1) := by decide +kernel
theorem dX6_build_34 : decode cX6_build 34 = .ok (.getfield 9, 3) := by decide +kernel
theorem dX6_build_37 : decode cX6_build 37 = .ok (.iload_n 2, 1) := by decide +kernel
theorem dX6_build_38 : decode cX6_build 38 = .ok (.iaload, 1) := by decide +kernel
theorem dX6_build_39 : decode cX6_build 39 = .ok (.iconst (-1), 1) := by decide +kernel
theorem dX6_build_40 : decode cX6_build 40 = .ok (.if_icmp .ne 14, 3) := by decide +kernel
theorem dX6_build_43 : decode cX6_build 43 = .ok (.aload_n 0, 1) := by decide +kernel
theorem dX6_build_44 : decode cX6_build 44 = .ok (.getfield 20, 3) := by decide +kernel
theorem dX6_build_47 : decode cX6_build 47 = .ok (.iload_n 2, 1) := by decide +kernel
theorem dX6_build_48 : decode cX6_build 48 = .ok (.invokevirtual 58, 3) := by decide +kernel
theorem dX6_build_51 : decode cX6_build 51 = .ok (.goto 50, 3) := by decide +kernel
theorem dX6_build_54 : decode cX6_build 54 = .ok (.aload_n 0, 1) := by decide +kernel
theorem dX6_build_55 : decode cX6_build 55 = .ok (.getfield 20, 3) := by decide +kernel
theorem dX6_build_58 : decode cX6_build 58 = .ok (.iload_n 2, 1) := by decide +kernel
theorem dX6_build_59 : decode cX6_build 59 = .ok (.aload_n 0, 1) := by decide +kernel
theorem dX6_build_60 : decode cX6_build 60 = .ok (.getfield 24, 3) := by decide +kernel
theorem dX6_build_63 : decode cX6_build 63 = .ok (.aload_n 0, 1) := by decide +kernel
theorem dX6_build_64 : decode cX6_build 64 = .ok (.getfield 9, 3) := by decide +kernel
theorem dX6_build_67 : decode cX6_build 67 = .ok (.iload_n 2, 1) := by decide +kernel
theorem dX6_build_68 : decode cX6_build 68 = .ok (.iaload, 1) := by decide +kernel
theorem dX6_build_69 : decode cX6_build 69 = .ok (.invokevirtual 61, 3) := by decide +kernel
theorem dX6_build_72 : decode cX6_build 72 = .ok (.aload_n 0, 1) := by decide +kernel
theorem dX6_build_73 : decode cX6_build 73 = .ok (.getfield 20, 3) := by decide +kernel
theorem dX6_build_76 : decode cX6_build 76 = .ok (.iload_n 2, 1) := by decide +kernel
theorem dX6_build_77 : decode cX6_build 77 = .ok (.aload_n 0, 1) := by decide +kernel
theorem dX6_build_78 : decode cX6_build 78 = .ok (.getfield 27, 3) := by decide +kernel
theorem dX6_build_81 : decode cX6_build 81 = .ok (.iconst 0, 1) := by decide +kernel
theorem dX6_build_82 : decode cX6_build 82 = .ok (.invokevirtual 61, 3) := by decide +kernel
theorem dX6_build_85 : decode cX6_build 85 = .ok (.aload_n 0, 1) := by decide +kernel
theorem dX6_build_86 : decode cX6_build 86 = .ok (.getfield 20, 3) := by decide +kernel
theorem dX6_build_89 : decode cX6_build 89 = .ok (.iload_n 2, 1) := by decide +kernel
theorem dX6_build_90 : decode cX6_build 90 = .ok (.aload_n 0, 1) := by decide +kernel
theorem dX6_build_91 : decode cX6_build 91 = .ok (.getfield 42, 3) := by decide +kernel
theorem dX6_build_94 : decode cX6_build 94 = .ok (.getfield 65, 3) := by decide +kernel
theorem dX6_build_97 : decode cX6_build 97 = .ok (.iload_n 2, 1) := by decide +kernel
theorem dX6_build_98 : decode cX6_build 98 = .ok (.invokevirtual 61, 3) := by decide +kernel
theorem dX6_build_101 : decode cX6_build 101 = .ok (.iinc 2 1, 3) := by decide +kernel
theorem dX6_build_104 : decode cX6_build 104 = .ok (.goto (-78), 3) := by decide +kernel
theorem dX6_build_107 : decode cX6_build 107 = .ok (.return_, 1) := by decide +kernel
