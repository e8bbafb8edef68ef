theorem dX6_layGround_0 : decode cX6_layGround 0 = .ok (.aload_n 0, 1) := by decide +kernel
theorem dX6_layGround_1 : decode cX6_layGround 1 = .ok (.getfield 27, 3) := by decide +kernel
theorem dX6_layGround_4 : decode cX6_layGround 4 = .ok (.invokevirtual 55, 3) := by decide +kernel
theorem dX6_layGround_7 : decode cX6_layGround 7 = .ok (.aload_n 0, 1) := by decide +kernel
theorem dX6_layGround_8 : decode cX6_layGround 8 = .ok (.getfield 30, 3) := by decide +kernel
theorem dX6_layGround_11 : decode cX6_layGround 11 = .ok (.invokevirtual 55, 3) := by decide +kernel
theorem dX6_layGround_14 : decode cX6_layGround 14 = .ok (.iconst 0, 1) := by decide +kernel
theorem dX6_layGround_15 : decode cX6_layGround 15 = .ok (.istore_n 1, 1) := by decide +kernel
theorem dX6_layGround_16 : decode cX6_layGround 16 = .ok (.iload_n 1, 1) := by decide +kernel
theorem dX6_layGround_17 : decode cX6_layGround 17 = .ok (.bipush 100, 2) := by decide +kernel
theorem dX6_layGround_19 : decode cX6_layGround 19 = .ok (.if_icmp .ge 97, 3) := by decide +kernel
theorem dX6_layGround_22 : decode cX6_layGround 22 = .ok (.aload_n 0, 1) := by decide +kernel
theorem dX6_layGround_23 : decode cX6_layGround 23 = .ok (.getfield 42, 3) := by decide +kernel
theorem dX6_layGround_26 : decode cX6_layGround 26 = .ok (.iload_n 1, 1) := by decide +kernel
theorem dX6_layGround_27 : decode cX6_layGround 27 = .ok (.invokevirtual 70, 3) := by decide +kernel
theorem dX6_layGround_30 : decode cX6_layGround 30 = .ok (.ifCond .eq 32, 3) := by decide +kernel
theorem dX6_layGround_33 : decode cX6_layGround 33 = .ok (.aload_n 0, 1) := by decide +kernel
theorem dX6_layGround_34 : decode cX6_layGround 34 = .ok (.getfield 30, 3) := by decide +kernel
theorem dX6_layGround_37 : decode cX6_layGround 37 = .ok (.iconst 0, 1) := by decide +kernel
theorem dX6_layGround_38 : decode cX6_layGround 38 = .ok (.iload_n 1, 1) := by decide +kernel
theorem dX6_layGround_39 : decode cX6_layGround 39 = .ok (.invokevirtual 74, 3) := by decide +kernel
theorem dX6_layGround_42 : decode cX6_layGround 42 = .ok (.aload_n 0, 1) := by decide +kernel
theorem dX6_layGround_43 : decode cX6_layGround 43 = .ok (.getfield 42, 3) := by decide +kernel
theorem dX6_layGround_46 : decode cX6_layGround 46 = .ok (.iload_n 1, 1) := by decide +kernel
theorem dX6_layGround_47 : decode cX6_layGround 47 = .ok (.invokevirtual 78, 3) := by decide +kernel
theorem dX6_layGround_50 : decode cX6_layGround 50 = .ok (.ifCond .ne 12, 3) := by decide +kernel
theorem dX6_layGround_53 : decode cX6_layGround 53 = .ok (.aload_n 0, 1) := by decide +kernel
theorem dX6_layGround_54 : decode cX6_layGround 54 = .ok (.getfield 27, 3) := by decide +kernel
theorem dX6_layGround_57 : decode cX6_layGround 57 = .ok (.iconst 0, 1) := by decide +kernel
theorem dX6_layGround_58 : decode cX6_layGround 58 = .ok (.iload_n 1, 1) := by decide +kernel
theorem dX6_layGround_59 : decode cX6_layGround 59 = .ok (.invokevirtual 74, 3) := by decide +kernel
theorem dX6_layGround_62 : decode cX6_layGround 62 = .ok (.iconst 0, 1) := by decide +kernel
theorem dX6_layGround_63 : decode cX6_layGround 63 = .ok (.istore_n 2, 1) := by decide +kernel
theorem dX6_layGround_64 : decode cX6_layGround 64 = .ok (.iload_n 2, 1) := by decide +kernel
theorem dX6_layGround_65 : decode cX6_layGround 65 = .ok (.iconst 4, 1) := by decide +kernel
theorem dX6_layGround_66 : decode cX6_layGround 66 = .ok (.if_icmp .ge 44, 3) := by decide +kernel
theorem dX6_layGround_69 : decode cX6_layGround 69 = .ok (.iload_n 1, 1) := by decide +kernel
theorem dX6_layGround_70 : decode cX6_layGround 70 = .ok (.iconst 2, 1) := by decide +kernel
theorem dX6_layGround_71 : decode cX6_layGround 71 = .ok (.iload_n 2, 1) := by decide +kernel
theorem dX6_layGround_72 : decode cX6_layGround 72 = .ok (.imul, 1) := by decide +kernel
theorem dX6_layGround_73 : decode cX6_layGround 73 = .ok (.iconst 1, 1) := by decide +kernel
theorem dX6_layGround_74 : decode cX6_layGround 74 = .ok (.invokestatic 81, 3) := by decide +kernel
theorem dX6_layGround_77 : decode cX6_layGround 77 = .ok (.istore_n 3, 1) := by decide +kernel
theorem dX6_layGround_78 : decode cX6_layGround 78 = .ok (.aload_n 0, 1) := by decide +kernel
theorem dX6_layGround_79 : decode cX6_layGround 79 = .ok (.getfield 33, 3) := by decide +kernel
theorem dX6_layGround_82 : decode cX6_layGround 82 = .ok (.iconst 4, 1) := by decide +kernel
theorem dX6_layGround_83 : decode cX6_layGround 83 = .ok (.iload_n 1, 1) := by decide +kernel
theorem dX6_layGround_84 : decode cX6_layGround 84 = .ok (.imul, 1) := by decide +kernel
theorem dX6_layGround_85 : decode cX6_layGround 85 = .ok (.iload_n 2, 1) := by decide +kernel
theorem dX6_layGround_86 : decode cX6_layGround 86 = .ok (.iadd, 1) := by decide +kernel
theorem dX6_layGround_87 : decode cX6_layGround 87 = .ok (.aload_n 0, 1) := by decide +kernel
theorem dX6_layGround_88 : decode cX6_layGround 88 = .ok (.getfield 42, 3) := by decide +kernel
theorem dX6_layGround_91 : decode cX6_layGround 91 = .ok (.iload_n 3, 1) := by decide +kernel
theorem dX6_layGround_92 : decode cX6_layGround 92 = .ok (.invokevirtual 70, 3) := by decide +kernel
theorem dX6_layGround_95 : decode cX6_layGround 95 = .ok (.ifCond .eq 7, 3) := by decide +kernel
theorem dX6_layGround_98 : decode cX6_layGround 98 = .ok (.iload_n 3, 1) := by decide +kernel
theorem dX6_layGround_99 : decode cX6_layGround 99 = .ok (.goto 4, 3) := by decide +kernel
theorem dX6_layGround_102 : decode cX6_layGround 102 = .ok (.iconst (-1), 1) := by decide +kernel
theorem dX6_layGround_103 : decode cX6_layGround 103 = .ok (.iastore, 1) := by decide +kernel
theorem dX6_layGround_104 : decode cX6_layGround 104 = .ok (.iinc 2 1, 3) := by decide +kernel
theorem dX6_layGround_107 : decode cX6_layGround 107 = .ok (.goto (-43), 3) := by decide +kernel
theorem dX6_layGround_110 : decode cX6_layGround 110 = .ok (.iinc 1 1, 3) := by decide +kernel
theorem dX6_layGround_113 : decode cX6_layGround 113 = .ok (.goto (-97), 3) := by decide +kernel
theorem dX6_layGround_116 : decode cX6_layGround 116 = .ok (.return_, 1) := by decide +kernel
theorem dX6_findLines_0 : decode cX6_findLines 0 = .ok (.aload_n 0, 1) := by decide +kernel
theorem dX6_findLines_1 : decode cX6_findLines 1 = .ok (.getfield 9, 3) := by decide +kernel
theorem dX6_findLines_4 : decode cX6_findLines 4 = .ok (.iconst (-1), 1) := by decide +kernel
theorem dX6_findLines_5 : decode cX6_findLines 5 = .ok (.invokestatic 85, 3) := by decide +kernel
theorem dX6_findLines_8 : decode cX6_findLines 8 = .ok (.iconst 0, 1) := by decide +kernel
theorem dX6_findLines_9 : decode cX6_findLines 9 = .ok (.istore_n 1, 1) := by decide +kernel
theorem dX6_findLines_10 : decode cX6_findLines 10 = .ok (.iload_n 1, 1) := by decide +kernel
theorem dX6_findLines_11 : decode cX6_findLines 11 = .ok (.aload_n 0, 1) := by decide +kernel
theorem dX6_findLines_12 : decode cX6_findLines 12 = .ok (.getfield 42, 3) := by decide +kernel
theorem dX6_findLines_15 : decode cX6_findLines 15 = .ok (.getfield 91, 3) := by decide +kernel
theorem dX6_findLines_18 : decode cX6_findLines 18 = .ok (.if_icmp .ge 64, 3) := by decide +kernel
theorem dX6_findLines_21 : decode cX6_findLines 21 = .ok (.aload_n 0, 1) := by decide +kernel
theorem dX6_findLines_22 : decode cX6_findLines 22 = .ok (.getfield 42, 3) := by decide +kernel
theorem dX6_findLines_25 : decode cX6_findLines 25 = .ok (.iload_n 1, 1) := by decide +kernel
theorem dX6_findLines_26 : decode cX6_findLines 26 = .ok (.invokevirtual 95, 3) := by decide +kernel
theorem dX6_findLines_29 : decode cX6_findLines 29 = .ok (.astore_n 2, 1) := by decide +kernel
theorem dX6_findLines_30 : decode cX6_findLines 30 = .ok (.aload_n 2, 1) := by decide +kernel
theorem dX6_findLines_31 : decode cX6_findLines 31 = .ok (.ifnull 45, 3) := by decide +kernel
theorem dX6_findLines_34 : decode cX6_findLines 34 = .ok (.aload_n 2, 1) := by decide +kernel
theorem dX6_findLines_35 : decode cX6_findLines 35 = .ok (.getfield 99, 3) := by decide +kernel
theorem dX6_findLines_38 : decode cX6_findLines 38 = .ok (.aload_n 2, 1) := by decide +kernel
theorem dX6_findLines_39 : decode cX6_findLines 39 = .ok (.getfield 104, 3) := by decide +kernel
theorem dX6_findLines_42 : decode cX6_findLines 42 = .ok (.invokestatic 107, 3) := by decide +kernel
theorem dX6_findLines_45 : decode cX6_findLines 45 = .ok (.ifCond .eq 31, 3) := by decide +kernel
theorem dX6_findLines_48 : decode cX6_findLines 48 = .ok (.aload_n 0, 1) := by decide +kernel
theorem dX6_findLines_49 : decode cX6_findLines 49 = .ok (.getfield 9, 3) := by decide +kernel
theorem dX6_findLines_52 : decode cX6_findLines 52 = .ok (.aload_n 2, 1) := by decide +kernel
theorem dX6_findLines_53 : decode cX6_findLines 53 = .ok (.getfield 99, 3) := by decide +kernel
theorem dX6_findLines_56 : decode cX6_findLines 56 = .ok (.aload_n 2, 1) := by decide +kernel
theorem dX6_findLines_57 : decode cX6_findLines 57 = .ok (.getfield 104, 3) := by decide +kernel
theorem dX6_findLines_60 : decode cX6_findLines 60 = .ok (.invokestatic 111, 3) := by decide +kernel
theorem dX6_findLines_63 : decode cX6_findLines 63 = .ok (.aload_n 2, 1) := by decide +kernel
theorem dX6_findLines_64 : decode cX6_findLines 64 = .ok (.getfield 99, 3) := by decide +kernel
theorem dX6_findLines_67 : decode cX6_findLines 67 = .ok (.bipush 120, 2) := by decide +kernel
theorem dX6_findLines_69 : decode cX6_findLines 69 = .ok (.invokestatic 111, 3) := by decide +kernel
theorem dX6_findLines_72 : decode cX6_findLines 72 = .ok (.iload_n 1, 1) := by decide +kernel
theorem dX6_findLines_73 : decode cX6_findLines 73 = .ok (.invokestatic 115, 3) := by decide +kernel
theorem dX6_findLines_76 : decode cX6_findLines 76 = .ok (.iinc 1 1, 3) := by decide +kernel
theorem dX6_findLines_79 : decode cX6_findLines 79 = .ok (.goto (-69), 3) := by decide +kernel
theorem dX6_findLines_82 : decode cX6_findLines 82 = .ok (.return_, 1) := by decide +kernel
theorem dX6_castShadows_0 : decode cX6_castShadows 0 = .ok (.aload_n 0, 1) := by decide +kernel
theorem dX6_castShadows_1 : decode cX6_castShadows 1 = .ok (.getfield 24, 3) := by decide +kernel
theorem dX6_castShadows_4 : decode cX6_castShadows 4 = .ok (.invokevirtual 55, 3) := by decide +kernel
theorem dX6_castShadows_7 : decode cX6_castShadows 7 = .ok (.iconst 0, 1) := by decide +kernel
theorem dX6_castShadows_8 : decode cX6_castShadows 8 = .ok (.istore_n 1, 1) := by decide +kernel
theorem dX6_castShadows_9 : decode cX6_castShadows 9 = .ok (.iload_n 1, 1) := by decide +kernel
theorem dX6_castShadows_10 : decode cX6_castShadows 10 = .ok (.aload_n 0, 1) := by decide +kernel
theorem dX6_castShadows_11 : decode cX6_castShadows 11 = .ok (.getfield 42, 3) := by decide +kernel
theorem dX6_castShadows_14 : decode cX6_castShadows 14 = .ok (.getfield 91, 3) := by decide +kernel
theorem dX6_castShadows_17 : decode cX6_castShadows 17 = .ok (.if_icmp .ge 67, 3) := by decide +kernel
theorem dX6_castShadows_20 : decode cX6_castShadows 20 = .ok (.aload_n 0, 1) := by decide +kernel
theorem dX6_castShadows_21 : decode cX6_castShadows 21 = .ok (.getfield 42, 3) := by decide +kernel
theorem dX6_castShadows_24 : decode cX6_castShadows 24 = .ok (.iload_n 1, 1) := by decide +kernel
theorem dX6_castShadows_25 : decode cX6_castShadows 25 = .ok (.invokevirtual 95, 3) := by decide +kernel
theorem dX6_castShadows_28 : decode cX6_castShadows 28 = .ok (.astore_n 2, 1) := by decide +kernel
theorem dX6_castShadows_29 : decode cX6_castShadows 29 = .ok (.iconst 0, 1) := by decide +kernel
theorem dX6_castShadows_30 : decode cX6_castShadows 30 = .ok (.istore_n 3, 1) := by decide +kernel
theorem dX6_castShadows_31 : decode cX6_castShadows 31 = .ok (.iload_n 3, 1) := by decide +kernel
theorem dX6_castShadows_32 : decode cX6_castShadows 32 = .ok (.bipush 100, 2) := by decide +kernel
theorem dX6_castShadows_34 : decode cX6_castShadows 34 = .ok (.if_icmp .ge 44, 3) := by decide +kernel
theorem dX6_castShadows_37 : decode cX6_castShadows 37 = .ok (.aload_n 2, 1) := by decide +kernel
theorem dX6_castShadows_38 : decode cX6_castShadows 38 = .ok (.ifnull 40, 3) := by decide +kernel
theorem dX6_castShadows_41 : decode cX6_castShadows 41 = .ok (.aload_n 0, 1) := by decide +kernel
theorem dX6_castShadows_42 : decode cX6_castShadows 42 = .ok (.getfield 42, 3) := by decide +kernel
theorem dX6_castShadows_45 : decode cX6_castShadows 45 = .ok (.getfield 118, 3) := by decide +kernel
theorem dX6_castShadows_48 : decode cX6_castShadows 48 = .ok (.iload_n 3, 1) := by decide +kernel
theorem dX6_castShadows_49 : decode cX6_castShadows 49 = .ok (.iaload, 1) := by decide +kernel
theorem dX6_castShadows_50 : decode cX6_castShadows 50 = .ok (.ifCond .le 22, 3) := by decide +kernel
theorem dX6_castShadows_53 : decode cX6_castShadows 53 = .ok (.aload_n 2, 1) := by decide +kernel
theorem dX6_castShadows_54 : decode cX6_castShadows 54 = .ok (.aload_n 0, 1) := by decide +kernel
theorem dX6_castShadows_55 : decode cX6_castShadows 55 = .ok (.getfield 24, 3) := by decide +kernel
theorem dX6_castShadows_58 : decode cX6_castShadows 58 = .ok (.iload_n 1, 1) := by decide +kernel
theorem dX6_castShadows_59 : decode cX6_castShadows 59 = .ok (.iload_n 3, 1) := by decide +kernel
theorem dX6_castShadows_60 : decode cX6_castShadows 60 = .ok (.aload_n 0, 1) := by decide +kernel
theorem dX6_castShadows_61 : decode cX6_castShadows 61 = .ok (.getfield 42, 3) := by decide +kernel
theorem dX6_castShadows_64 : decode cX6_castShadows 64 = .ok (.getfield 118, 3) := by decide +kernel
theorem dX6_castShadows_67 : decode cX6_castShadows 67 = .ok (.iload_n 3, 1) := by decide +kernel
theorem dX6_castShadows_68 : decode cX6_castShadows 68 = .ok (.iaload, 1) := by decide +kernel
theorem dX6_castShadows_69 : decode cX6_castShadows 69 = .ok (.invokevirtual 121, 3) := by decide +kernel
theorem dX6_castShadows_72 : decode cX6_castShadows 72 = .ok (.iinc 3 1, 3) := by decide +kernel
theorem dX6_castShadows_75 : decode cX6_castShadows 75 = .ok (.goto (-44), 3) := by decide +kernel
theorem dX6_castShadows_78 : decode cX6_castShadows 78 = .ok (.iinc 1 1, 3) := by decide +kernel
theorem dX6_castShadows_81 : decode cX6_castShadows 81 = .ok (.goto (-72), 3) := by decide +kernel
theorem dX6_castShadows_84 : decode cX6_castShadows 84 = .ok (.return_, 1) := by decide +kernel
theorem dX6_lineAt_0 : decode cX6_lineAt 0 = .ok (.iload_n 1, 1) := by decide +kernel
theorem dX6_lineAt_1 : decode cX6_lineAt 1 = .ok (.iload_n 2, 1) := by decide +kernel
theorem dX6_lineAt_2 : decode cX6_lineAt 2 = .ok (.invokestatic 107, 3) := by decide +kernel
theorem dX6_lineAt_5 : decode cX6_lineAt 5 = .ok (.ifCond .eq 16, 3) := by decide +kernel
theorem dX6_lineAt_8 : decode cX6_lineAt 8 = .ok (.aload_n 0, 1) := by decide +kernel
theorem dX6_lineAt_9 : decode cX6_lineAt 9 = .ok (.getfield 9, 3) := by decide +kernel
theorem dX6_lineAt_12 : decode cX6_lineAt 12 = .ok (.iload_n 1, 1) := by decide +kernel
theorem dX6_lineAt_13 : decode cX6_lineAt 13 = .ok (.iload_n 2, 1) := by decide +kernel
theorem dX6_lineAt_14 : decode cX6_lineAt 14 = .ok (.invokestatic 111, 3) := by decide +kernel
theorem dX6_lineAt_17 : decode cX6_lineAt 17 = .ok (.iaload, 1) := by decide +kernel
theorem dX6_lineAt_18 : decode cX6_lineAt 18 = .ok (.goto 4, 3) := by decide +kernel
theorem dX6_lineAt_21 : decode cX6_lineAt 21 = .ok (.iconst (-1), 1) := by decide +kernel
theorem dX6_lineAt_22 : decode cX6_lineAt 22 = .ok (.ireturn, 1) := by decide +kernel
theorem dX6_howDim_0 : decode cX6_howDim 0 = .ok (.aload_n 0, 1) := by decide +kernel
theorem dX6_howDim_1 : decode cX6_howDim 1 = .ok (.getfield 20, 3) := by decide +kernel
theorem dX6_howDim_4 : decode cX6_howDim 4 = .ok (.iload_n 1, 1) := by decide +kernel
theorem dX6_howDim_5 : decode cX6_howDim 5 = .ok (.aload_n 0, 1) := by decide +kernel
theorem dX6_howDim_6 : decode cX6_howDim 6 = .ok (.getfield 30, 3) := by decide +kernel
theorem dX6_howDim_9 : decode cX6_howDim 9 = .ok (.invokevirtual 125, 3) := by decide +kernel
theorem dX6_howDim_12 : decode cX6_howDim 12 = .ok (.ireturn, 1) := by decide +kernel
theorem dX6_howManyOnlyIn_0 : decode cX6_howManyOnlyIn 0 = .ok (.iconst 0, 1) := by decide +kernel
theorem dX6_howManyOnlyIn_1 : decode cX6_howManyOnlyIn 1 = .ok (.istore_n 3, 1) := by decide +kernel
theorem dX6_howManyOnlyIn_2 : decode cX6_howManyOnlyIn 2 = .ok (.iconst 0, 1) := by decide +kernel
theorem dX6_howManyOnlyIn_3 : decode cX6_howManyOnlyIn 3 = .ok (.istore 4, 2) := by decide +kernel
theorem dX6_howManyOnlyIn_5 : decode cX6_howManyOnlyIn 5 = .ok (.iload 4, 2) := by decide +kernel
theorem dX6_howManyOnlyIn_7 : decode cX6_howManyOnlyIn 7 = .ok (.bipush 100, 2) := by decide +kernel
theorem dX6_howManyOnlyIn_9 : decode cX6_howManyOnlyIn 9 = .ok (.if_icmp .ge 51, 3) := by decide +kernel
theorem dX6_howManyOnlyIn_12 : decode cX6_howManyOnlyIn 12 = .ok (.aload_n 0, 1) := by decide +kernel
theorem dX6_howManyOnlyIn_13 : decode cX6_howManyOnlyIn 13 = .ok (.getfield 30, 3) := by decide +kernel
theorem dX6_howManyOnlyIn_16 : decode cX6_howManyOnlyIn 16 = .ok (.iconst 0, 1) := by decide +kernel
theorem dX6_howManyOnlyIn_17 : decode cX6_howManyOnlyIn 17 = .ok (.iload 4, 2) := by decide +kernel
theorem dX6_howManyOnlyIn_19 : decode cX6_howManyOnlyIn 19 = .ok (.invokevirtual 129, 3) := by decide +kernel
theorem dX6_howManyOnlyIn_22 : decode cX6_howManyOnlyIn 22 = .ok (.ifCond .eq 32, 3) := by decide +kernel
theorem dX6_howManyOnlyIn_25 : decode cX6_howManyOnlyIn 25 = .ok (.aload_n 0, 1) := by decide +kernel
theorem dX6_howManyOnlyIn_26 : decode cX6_howManyOnlyIn 26 = .ok (.getfield 20, 3) := by decide +kernel
theorem dX6_howManyOnlyIn_29 : decode cX6_howManyOnlyIn 29 = .ok (.iload_n 1, 1) := by decide +kernel
theorem dX6_howManyOnlyIn_30 : decode cX6_howManyOnlyIn 30 = .ok (.iload 4, 2) := by decide +kernel
theorem dX6_howManyOnlyIn_32 : decode cX6_howManyOnlyIn 32 = .ok (.invokevirtual 129, 3) := by decide +kernel
theorem dX6_howManyOnlyIn_35 : decode cX6_howManyOnlyIn 35 = .ok (.ifCond .eq 19, 3) := by decide +kernel
theorem dX6_howManyOnlyIn_38 : decode cX6_howManyOnlyIn 38 = .ok (.aload_n 0, 1) := by decide +kernel
theorem dX6_howManyOnlyIn_39 : decode cX6_howManyOnlyIn 39 = .ok (.getfield 20, 3) := by decide +kernel
theorem dX6_howManyOnlyIn_42 : decode cX6_howManyOnlyIn 42 = .ok (.iload_n 2, 1) := by decide +kernel
theorem dX6_howManyOnlyIn_43 : decode cX6_howManyOnlyIn 43 = .ok (.iload 4, 2) := by decide +kernel
theorem dX6_howManyOnlyIn_45 : decode cX6_howManyOnlyIn 45 = .ok (.invokevirtual 129, 3) := by decide +kernel
theorem dX6_howManyOnlyIn_48 : decode cX6_howManyOnlyIn 48 = .ok (.ifCond .ne 6, 3) := by decide +kernel
theorem dX6_howManyOnlyIn_51 : decode cX6_howManyOnlyIn 51 = .ok (.iinc 3 1, 3) := by decide +kernel
theorem dX6_howManyOnlyIn_54 : decode cX6_howManyOnlyIn 54 = .ok (.iinc 4 1, 3) := by decide +kernel
theorem dX6_howManyOnlyIn_57 : decode cX6_howManyOnlyIn 57 = .ok (.goto (-52), 3) := by decide +kernel
theorem dX6_howManyOnlyIn_60 : decode cX6_howManyOnlyIn 60 = .ok (.iload_n 3, 1) := by decide +kernel
theorem dX6_howManyOnlyIn_61 : decode cX6_howManyOnlyIn 61 = .ok (.ireturn, 1) := by decide +kernel
theorem dX6_nextTo_0 : decode cX6_nextTo 0 = .ok (.iload_n 1, 1) := by decide +kernel
theorem dX6_nextTo_1 : decode cX6_nextTo 1 = .ok (.invokestatic 132, 3) := by decide +kernel
theorem dX6_nextTo_4 : decode cX6_nextTo 4 = .ok (.ifCond .eq 25, 3) := by decide +kernel
theorem dX6_nextTo_7 : decode cX6_nextTo 7 = .ok (.iload_n 2, 1) := by decide +kernel
theorem dX6_nextTo_8 : decode cX6_nextTo 8 = .ok (.ifCond .lt 21, 3) := by decide +kernel
theorem dX6_nextTo_11 : decode cX6_nextTo 11 = .ok (.iload_n 2, 1) := by decide +kernel
theorem dX6_nextTo_12 : decode cX6_nextTo 12 = .ok (.iconst 4, 1) := by decide +kernel
theorem dX6_nextTo_13 : decode cX6_nextTo 13 = .ok (.if_icmp .ge 16, 3) := by decide +kernel
theorem dX6_nextTo_16 : decode cX6_nextTo 16 = .ok (.aload_n 0, 1) := by decide +kernel
theorem dX6_nextTo_17 : decode cX6_nextTo 17 = .ok (.getfield 33, 3) := by decide +kernel
theorem dX6_nextTo_20 : decode cX6_nextTo 20 = .ok (.iconst 4, 1) := by decide +kernel
theorem dX6_nextTo_21 : decode cX6_nextTo 21 = .ok (.iload_n 1, 1) := by decide +kernel
theorem dX6_nextTo_22 : decode cX6_nextTo 22 = .ok (.imul, 1) := by decide +kernel
theorem dX6_nextTo_23 : decode cX6_nextTo 23 = .ok (.iload_n 2, 1) := by decide +kernel
theorem dX6_nextTo_24 : decode cX6_nextTo 24 = .ok (.iadd, 1) := by decide +kernel
theorem dX6_nextTo_25 : decode cX6_nextTo 25 = .ok (.iaload, 1) := by decide +kernel
theorem dX6_nextTo_26 : decode cX6_nextTo 26 = .ok (.goto 4, 3) := by decide +kernel
theorem dX6_nextTo_29 : decode cX6_nextTo 29 = .ok (.iconst (-1), 1) := by decide +kernel
theorem dX6_nextTo_30 : decode cX6_nextTo 30 = .ok (.ireturn, 1) := by decide +kernel
theorem dX6_isNext_0 : decode cX6_isNext 0 = .ok (.iconst 0, 1) := by decide +kernel
theorem dX6_isNext_1 : decode cX6_isNext 1 = .ok (.istore_n 3, 1) := by decide +kernel
theorem dX6_isNext_2 : decode cX6_isNext 2 = .ok (.iload_n 3, 1) := by decide +kernel
theorem dX6_isNext_3 : decode cX6_isNext 3 = .ok (.iconst 4, 1) := by decide +kernel
theorem dX6_isNext_4 : decode cX6_isNext 4 = .ok (.if_icmp .ge 25, 3) := by decide +kernel
theorem dX6_isNext_7 : decode cX6_isNext 7 = .ok (.iload_n 2, 1) := by decide +kernel
theorem dX6_isNext_8 : decode cX6_isNext 8 = .ok (.ifCond .lt 15, 3) := by decide +kernel
theorem dX6_isNext_11 : decode cX6_isNext 11 = .ok (.aload_n 0, 1) := by decide +kernel
theorem dX6_isNext_12 : decode cX6_isNext 12 = .ok (.iload_n 1, 1) := by decide +kernel
theorem dX6_isNext_13 : decode cX6_isNext 13 = .ok (.iload_n 3, 1) := by decide +kernel
theorem dX6_isNext_14 : decode cX6_isNext 14 = .ok (.invokevirtual 135, 3) := by decide +kernel
theorem dX6_isNext_17 : decode cX6_isNext 17 = .ok (.iload_n 2, 1) := by decide +kernel
theorem dX6_isNext_18 : decode cX6_isNext 18 = .ok (.if_icmp .ne 5, 3) := by decide +kernel
theorem dX6_isNext_21 : decode cX6_isNext 21 = .ok (.iconst 1, 1) := by decide +kernel
theorem dX6_isNext_22 : decode cX6_isNext 22 = .ok (.ireturn, 1) := by decide +kernel
theorem dX6_isNext_23 : decode cX6_isNext 23 = .ok (.iinc 3 1, 3) := by decide +kernel
theorem dX6_isNext_26 : decode cX6_isNext 26 = .ok (.goto (-24), 3) := by decide +kernel
theorem dX6_isNext_29 : decode cX6_isNext 29 = .ok (.iconst 0, 1) := by decide +kernel
theorem dX6_isNext_30 : decode cX6_isNext 30 = .ok (.ireturn, 1) := by decide +kernel
theorem dX6_fewestSteps_0 : decode cX6_fewestSteps 0 = .ok (.iload_n 1, 1) := by decide +kernel
theorem dX6_fewestSteps_1 : decode cX6_fewestSteps 1 = .ok (.invokestatic 132, 3) := by decide +kernel
theorem dX6_fewestSteps_4 : decode cX6_fewestSteps 4 = .ok (.ifCond .eq 10, 3) := by decide +kernel
theorem dX6_fewestSteps_7 : decode cX6_fewestSteps 7 = .ok (.iload_n 2, 1) := by decide +kernel
theorem dX6_fewestSteps_8 : decode cX6_fewestSteps 8 = .ok (.invokestatic 132, 3) := by decide +kernel
theorem dX6_fewestSteps_11 : decode cX6_fewestSteps 11 = .ok (.ifCond .ne 5, 3) := by decide +kernel
theorem dX6_fewestSteps_14 : decode cX6_fewestSteps 14 = .ok (.iconst (-1), 1) := by decide +kernel
theorem dX6_fewestSteps_15 : decode cX6_fewestSteps 15 = .ok (.ireturn, 1) := by decide +kernel
theorem dX6_fewestSteps_16 : decode cX6_fewestSteps 16 = .ok (.aload_n 0, 1) := by decide +kernel
theorem dX6_fewestSteps_17 : decode cX6_fewestSteps 17 = .ok (.getfield 39, 3) := by decide +kernel
theorem dX6_fewestSteps_20 : decode cX6_fewestSteps 20 = .ok (.iconst (-1), 1) := by decide +kernel
theorem dX6_fewestSteps_21 : decode cX6_fewestSteps 21 = .ok (.invokestatic 85, 3) := by decide +kernel
theorem dX6_fewestSteps_24 : decode cX6_fewestSteps 24 = .ok (.aload_n 0, 1) := by decide +kernel
theorem dX6_fewestSteps_25 : decode cX6_fewestSteps 25 = .ok (.getfield 39, 3) := by decide +kernel
theorem dX6_fewestSteps_28 : decode cX6_fewestSteps 28 = .ok (.iload_n 1, 1) := by decide +kernel
theorem dX6_fewestSteps_29 : decode cX6_fewestSteps 29 = .ok (.iconst 0, 1) := by decide +kernel
theorem dX6_fewestSteps_30 : decode cX6_fewestSteps 30 = .ok (.iastore, 1) := by decide +kernel
theorem dX6_fewestSteps_31 : decode cX6_fewestSteps 31 = .ok (.aload_n 0, 1) := by decide +kernel
theorem dX6_fewestSteps_32 : decode cX6_fewestSteps 32 = .ok (.getfield 36, 3) := by decide +kernel
theorem dX6_fewestSteps_35 : decode cX6_fewestSteps 35 = .ok (.iconst 0, 1) := by decide +kernel
theorem dX6_fewestSteps_36 : decode cX6_fewestSteps 36 = .ok (.iload_n 1, 1) := by decide +kernel
theorem dX6_fewestSteps_37 : decode cX6_fewestSteps 37 = .ok (.iastore, 1) := by decide +kernel
theorem dX6_fewestSteps_38 : decode cX6_fewestSteps 38 = .ok (.iconst 1, 1) := by decide +kernel
theorem dX6_fewestSteps_39 : decode cX6_fewestSteps 39 = .ok (.istore_n 3, 1) := by decide +kernel
theorem dX6_fewestSteps_40 : decode cX6_fewestSteps 40 = .ok (.iconst 0, 1) := by decide +kernel
theorem dX6_fewestSteps_41 : decode cX6_fewestSteps 41 = .ok (.istore 4, 2) := by decide +kernel
theorem dX6_fewestSteps_43 : decode cX6_fewestSteps 43 = .ok (.iload 4, 2) := by decide +kernel
theorem dX6_fewestSteps_45 : decode cX6_fewestSteps 45 = .ok (.iload_n 3, 1) := by decide +kernel
theorem dX6_fewestSteps_46 : decode cX6_fewestSteps 46 = .ok (.if_icmp .ge 100, 3) := by decide +kernel
theorem dX6_fewestSteps_49 : decode cX6_fewestSteps 49 = .ok (.iload 4, 2) := by decide +kernel
theorem dX6_fewestSteps_51 : decode cX6_fewestSteps 51 = .ok (.bipush 100, 2) := by decide +kernel
theorem dX6_fewestSteps_53 : decode cX6_fewestSteps 53 = .ok (.if_icmp .ge 93, 3) := by decide +kernel
theorem dX6_fewestSteps_56 : decode cX6_fewestSteps 56 = .ok (.iconst 0, 1) := by decide +kernel
theorem dX6_fewestSteps_57 : decode cX6_fewestSteps 57 = .ok (.istore 5, 2) := by decide +kernel
theorem dX6_fewestSteps_59 : decode cX6_fewestSteps 59 = .ok (.iload 5, 2) := by decide +kernel
theorem dX6_fewestSteps_61 : decode cX6_fewestSteps 61 = .ok (.iconst 4, 1) := by decide +kernel
theorem dX6_fewestSteps_62 : decode cX6_fewestSteps 62 = .ok (.if_icmp .ge 78, 3) := by decide +kernel
theorem dX6_fewestSteps_65 : decode cX6_fewestSteps 65 = .ok (.aload_n 0, 1) := by decide +kernel
theorem dX6_fewestSteps_66 : decode cX6_fewestSteps 66 = .ok (.aload_n 0, 1) := by decide +kernel
theorem dX6_fewestSteps_67 : decode cX6_fewestSteps 67 = .ok (.getfield 36, 3) := by decide +kernel
theorem dX6_fewestSteps_70 : decode cX6_fewestSteps 70 = .ok (.iload 4, 2) := by decide +kernel
theorem dX6_fewestSteps_72 : decode cX6_fewestSteps 72 = .ok (.iaload, 1) := by decide +kernel
theorem dX6_fewestSteps_73 : decode cX6_fewestSteps 73 = .ok (.iload 5, 2) := by decide +kernel
theorem dX6_fewestSteps_75 : decode cX6_fewestSteps 75 = .ok (.invokevirtual 135, 3) := by decide +kernel
theorem dX6_fewestSteps_78 : decode cX6_fewestSteps 78 = .ok (.istore 6, 2) := by decide +kernel
theorem dX6_fewestSteps_80 : decode cX6_fewestSteps 80 = .ok (.iload 6, 2) := by decide +kernel
theorem dX6_fewestSteps_82 : decode cX6_fewestSteps 82 = .ok (.ifCond .lt 52, 3) := by decide +kernel
theorem dX6_fewestSteps_85 : decode cX6_fewestSteps 85 = .ok (.aload_n 0, 1) := by decide +kernel
theorem dX6_fewestSteps_86 : decode cX6_fewestSteps 86 = .ok (.getfield 39, 3) := by decide +kernel
theorem dX6_fewestSteps_89 : decode cX6_fewestSteps 89 = .ok (.iload 6, 2) := by decide +kernel
theorem dX6_fewestSteps_91 : decode cX6_fewestSteps 91 = .ok (.iaload, 1) := by decide +kernel
theorem dX6_fewestSteps_92 : decode cX6_fewestSteps 92 = .ok (.iconst (-1), 1) := by decide +kernel
theorem dX6_fewestSteps_93 : decode cX6_fewestSteps 93 = .ok (.if_icmp .ne 41, 3) := by decide +kernel
theorem dX6_fewestSteps_96 : decode cX6_fewestSteps 96 = .ok (.iload_n 3, 1) := by decide +kernel
theorem dX6_fewestSteps_97 : decode cX6_fewestSteps 97 = .ok (.bipush 100, 2) := by decide +kernel
theorem dX6_fewestSteps_99 : decode cX6_fewestSteps 99 = .ok (.if_icmp .ge 35, 3) := by decide +kernel
theorem dX6_fewestSteps_102 : decode cX6_fewestSteps 102 = .ok (.aload_n 0, 1) := by decide +kernel
theorem dX6_fewestSteps_103 : decode cX6_fewestSteps 103 = .ok (.getfield 39, 3) := by decide +kernel
theorem dX6_fewestSteps_106 : decode cX6_fewestSteps 106 = .ok (.iload 6, 2) := by decide +kernel
theorem dX6_fewestSteps_108 : decode cX6_fewestSteps 108 = .ok (.aload_n 0, 1) := by decide +kernel
theorem dX6_fewestSteps_109 : decode cX6_fewestSteps 109 = .ok (.getfield 39, 3) := by decide +kernel
theorem dX6_fewestSteps_112 : decode cX6_fewestSteps 112 = .ok (.aload_n 0, 1) := by decide +kernel
theorem dX6_fewestSteps_113 : decode cX6_fewestSteps 113 = .ok (.getfield 36, 3) := by decide +kernel
theorem dX6_fewestSteps_116 : decode cX6_fewestSteps 116 = .ok (.iload 4, 2) := by decide +kernel
theorem dX6_fewestSteps_118 : decode cX6_fewestSteps 118 = .ok (.iaload, 1) := by decide +kernel
theorem dX6_fewestSteps_119 : decode cX6_fewestSteps 119 = .ok (.iaload, 1) := by decide +kernel
theorem dX6_fewestSteps_120 : decode cX6_fewestSteps 120 = .ok (.iconst 1, 1) := by decide +kernel
theorem dX6_fewestSteps_121 : decode cX6_fewestSteps 121 = .ok (.iadd, 1) := by decide +kernel
theorem dX6_fewestSteps_122 : decode cX6_fewestSteps 122 = .ok (.iastore, 1) := by decide +kernel
theorem dX6_fewestSteps_123 : decode cX6_fewestSteps 123 = .ok (.aload_n 0, 1) := by decide +kernel
theorem dX6_fewestSteps_124 : decode cX6_fewestSteps 124 = .ok (.getfield 36, 3) := by decide +kernel
theorem dX6_fewestSteps_127 : decode cX6_fewestSteps 127 = .ok (.iload_n 3, 1) := by decide +kernel
theorem dX6_fewestSteps_128 : decode cX6_fewestSteps 128 = .ok (.iload 6, 2) := by decide +kernel
theorem dX6_fewestSteps_130 : decode cX6_fewestSteps 130 = .ok (.iastore, 1) := by decide +kernel
theorem dX6_fewestSteps_131 : decode cX6_fewestSteps 131 = .ok (.iinc 3 1, 3) := by decide +kernel
theorem dX6_fewestSteps_134 : decode cX6_fewestSteps 134 = .ok (.iinc 5 1, 3) := by decide +kernel
theorem dX6_fewestSteps_137 : decode cX6_fewestSteps 137 = .ok (.goto (-78), 3) := by decide +kernel
theorem dX6_fewestSteps_140 : decode cX6_fewestSteps 140 = .ok (.iinc 4 1, 3) := by decide +kernel
theorem dX6_fewestSteps_143 : decode cX6_fewestSteps 143 = .ok (.goto (-100), 3) := by decide +kernel
theorem dX6_fewestSteps_146 : decode cX6_fewestSteps 146 = .ok (.aload_n 0, 1) := by decide +kernel
theorem dX6_fewestSteps_147 : decode cX6_fewestSteps 147 = .ok (.getfield 39, 3) := by decide +kernel
theorem dX6_fewestSteps_150 : decode cX6_fewestSteps 150 = .ok (.iload_n 2, 1) := by decide +kernel
theorem dX6_fewestSteps_151 : decode cX6_fewestSteps 151 = .ok (.iaload, 1) := by decide +kernel
theorem dX6_fewestSteps_152 : decode cX6_fewestSteps 152 = .ok (.ireturn, 1) := by decide +kernel
theorem dX7_init_0 : decode cX7_init 0 = .ok (.aload_n 0, 1) := by decide +kernel
theorem dX7_init_1 : decode cX7_init 1 = .ok (.invokespecial 3, 3) := by decide +kernel
theorem dX7_init_4 : decode cX7_init 4 = .ok (.aload_n 0, 1) := by decide +kernel
theorem dX7_init_5 : decode cX7_init 5 = .ok (.iload_n 1, 1) := by decide +kernel
theorem dX7_init_6 : decode cX7_init 6 = .ok (.putfield 9, 3) := by decide +kernel
theorem dX7_init_9 : decode cX7_init 9 = .ok (.aload_n 0, 1) := by decide +kernel
theorem dX7_init_10 : decode cX7_init 10 = .ok (.iload_n 2, 1) := by decide +kernel
theorem dX7_init_11 : decode cX7_init 11 = .ok (.putfield 15, 3) := by decide +kernel
theorem dX7_init_14 : decode cX7_init 14 = .ok (.aload_n 0, 1) := by decide +kernel
theorem dX7_init_15 : decode cX7_init 15 = .ok (.iload_n 3, 1) := by decide +kernel
theorem dX7_init_16 : decode cX7_init 16 = .ok (.putfield 18, 3) := by decide +kernel
theorem dX7_init_19 : decode cX7_init 19 = .ok (.aload_n 0, 1) := by decide +kernel
theorem dX7_init_20 : decode cX7_init 20 = .ok (.iload 4, 2) := by decide +kernel
theorem dX7_init_22 : decode cX7_init 22 = .ok (.putfield 21, 3) := by decide +kernel
theorem dX7_init_25 : decode cX7_init 25 = .ok (.aload_n 0, 1) := by decide +kernel
theorem dX7_init_26 : decode cX7_init 26 = .ok (.iload 5, 2) := by decide +kernel
theorem dX7_init_28 : decode cX7_init 28 = .ok (.putfield 24, 3) := by decide +kernel
theorem dX7_init_31 : decode cX7_init 31 = .ok (.return_, 1) := by decide +kernel
theorem dX7_cast_0 : decode cX7_cast 0 = .ok (.aload_n 0, 1) := by decide +kernel
theorem dX7_cast_1 : decode cX7_cast 1 = .ok (.getfield 18, 3) := by decide +kernel
theorem dX7_cast_4 : decode cX7_cast 4 = .ok (.iconst 4, 1) := by decide +kernel
theorem dX7_cast_5 : decode cX7_cast 5 = .ok (.iadd, 1) := by decide +kernel
theorem dX7_cast_6 : decode cX7_cast 6 = .ok (.bipush 7, 2) := by decide +kernel
theorem dX7_cast_8 : decode cX7_cast 8 = .ok (.iand, 1) := by decide +kernel
theorem dX7_cast_9 : decode cX7_cast 9 = .ok (.istore 5, 2) := by decide +kernel
theorem dX7_cast_11 : decode cX7_cast 11 = .ok (.iconst 1, 1) := by decide +kernel
theorem dX7_cast_12 : decode cX7_cast 12 = .ok (.istore 6, 2) := by decide +kernel
theorem dX7_cast_14 : decode cX7_cast 14 = .ok (.iload 6, 2) := by decide +kernel
theorem dX7_cast_16 : decode cX7_cast 16 = .ok (.bipush 10, 2) := by decide +kernel
theorem dX7_cast_18 : decode cX7_cast 18 = .ok (.if_icmp .ge 39, 3) := by decide +kernel
theorem dX7_cast_21 : decode cX7_cast 21 = .ok (.iload 4, 2) := by decide +kernel
theorem dX7_cast_23 : decode cX7_cast 23 = .ok (.aload_n 0, 1) := by decide +kernel
theorem dX7_cast_24 : decode cX7_cast 24 = .ok (.getfield 24, 3) := by decide +kernel
theorem dX7_cast_27 : decode cX7_cast 27 = .ok (.imul, 1) := by decide +kernel
theorem dX7_cast_28 : decode cX7_cast 28 = .ok (.iload 6, 2) := by decide +kernel
theorem dX7_cast_30 : decode cX7_cast 30 = .ok (.aload_n 0, 1) := by decide +kernel
theorem dX7_cast_31 : decode cX7_cast 31 = .ok (.getfield 21, 3) := by decide +kernel
theorem dX7_cast_34 : decode cX7_cast 34 = .ok (.imul, 1) := by decide +kernel
theorem dX7_cast_35 : decode cX7_cast 35 = .ok (.if_icmp .le 22, 3) := by decide +kernel
theorem dX7_cast_38 : decode cX7_cast 38 = .ok (.aload_n 1, 1) := by decide +kernel
theorem dX7_cast_39 : decode cX7_cast 39 = .ok (.iload_n 2, 1) := by decide +kernel
theorem dX7_cast_40 : decode cX7_cast 40 = .ok (.iload_n 3, 1) := by decide +kernel
theorem dX7_cast_41 : decode cX7_cast 41 = .ok (.iload 5, 2) := by decide +kernel
theorem dX7_cast_43 : decode cX7_cast 43 = .ok (.iload 6, 2) := by decide +kernel
theorem dX7_cast_45 : decode cX7_cast 45 = .ok (.invokestatic 27, 3) := by decide +kernel
theorem dX7_cast_48 : decode cX7_cast 48 = .ok (.invokevirtual 31, 3) := by decide +kernel
theorem dX7_cast_51 : decode cX7_cast 51 = .ok (.iinc 6 1, 3) := by decide +kernel
theorem dX7_cast_54 : decode cX7_cast 54 = .ok (.goto (-40), 3) := by decide +kernel
theorem dX7_cast_57 : decode cX7_cast 57 = .ok (.return_, 1) := by decide +kernel
theorem dX8_init_0 : decode cX8_init 0 = .ok (.aload_n 0, 1) := by decide +kernel
theorem dX8_init_1 : decode cX8_init 1 = .ok (.invokespecial 3, 3) := by decide +kernel
theorem dX8_init_4 : decode cX8_init 4 = .ok (.aload_n 0, 1) := by decide +kernel
theorem dX8_init_5 : decode cX8_init 5 = .ok (.bipush 100, 2) := by decide +kernel
theorem dX8_init_7 : decode cX8_init 7 = .ok (.newarray .int, 2) := by decide +kernel
theorem dX8_init_9 : decode cX8_init 9 = .ok (.putfield 9, 3) := by decide +kernel
theorem dX8_init_12 : decode cX8_init 12 = .ok (.aload_n 0, 1) := by decide +kernel
theorem dX8_init_13 : decode cX8_init 13 = .ok (.bipush 100, 2) := by decide +kernel
theorem dX8_init_15 : decode cX8_init 15 = .ok (.newarray .int, 2) := by decide +kernel
theorem dX8_init_17 : decode cX8_init 17 = .ok (.putfield 15, 3) := by decide +kernel
theorem dX8_init_20 : decode cX8_init 20 = .ok (.aload_n 0, 1) := by decide +kernel
theorem dX8_init_21 : decode cX8_init 21 = .ok (.new 18, 3) := by decide +kernel
theorem dX8_init_24 : decode cX8_init 24 = .ok (.dup, 1) := by decide +kernel
theorem dX8_init_25 : decode cX8_init 25 = .ok (.sipush 480, 3) := by decide +kernel
theorem dX8_init_28 : decode cX8_init 28 = .ok (.invokespecial 20, 3) := by decide +kernel
theorem dX8_init_31 : decode cX8_init 31 = .ok (.putfield 23, 3) := by decide +kernel
theorem dX8_init_34 : decode cX8_init 34 = .ok (.aload_n 0, 1) := by decide +kernel
theorem dX8_init_35 : decode cX8_init 35 = .ok (.new 18, 3) := by decide +kernel
theorem dX8_init_38 : decode cX8_init 38 = .ok (.dup, 1) := by decide +kernel
theorem dX8_init_39 : decode cX8_init 39 = .ok (.sipush 480, 3) := by decide +kernel
theorem dX8_init_42 : decode cX8_init 42 = .ok (.invokespecial 20, 3) := by decide +kernel
theorem dX8_init_45 : decode cX8_init 45 = .ok (.putfield 27, 3) := by decide +kernel
theorem dX8_init_48 : decode cX8_init 48 = .ok (.aload_n 0, 1) := by decide +kernel
theorem dX8_init_49 : decode cX8_init 49 = .ok (.new 18, 3) := by decide +kernel
theorem dX8_init_52 : decode cX8_init 52 = .ok (.dup, 1) := by decide +kernel
theorem dX8_init_53 : decode cX8_init 53 = .ok (.iconst 1, 1) := by decide +kernel
theorem dX8_init_54 : decode cX8_init 54 = .ok (.invokespecial 20, 3) := by decide +kernel
theorem dX8_init_57 : decode cX8_init 57 = .ok (.putfield 30, 3) := by decide +kernel
theorem dX8_init_60 : decode cX8_init 60 = .ok (.aload_n 0, 1) := by decide +kernel
theorem dX8_init_61 : decode cX8_init 61 = .ok (.bipush 24, 2) := by decide +kernel
theorem dX8_init_63 : decode cX8_init 63 = .ok (.anewarray 33, 3) := by decide +kernel
theorem dX8_init_66 : decode cX8_init 66 = .ok (.putfield 35, 3) := by decide +kernel
theorem dX8_init_69 : decode cX8_init 69 = .ok (.aload_n 0, 1) := by decide +kernel
theorem dX8_init_70 : decode cX8_init 70 = .ok (.bipush 6, 2) := by decide +kernel
theorem dX8_init_72 : decode cX8_init 72 = .ok (.anewarray 39, 3) := by decide +kernel
theorem dX8_init_75 : decode cX8_init 75 = .ok (.putfield 41, 3) := by decide +kernel
theorem dX8_init_78 : decode cX8_init 78 = .ok (.aload_n 0, 1) := by decide +kernel
theorem dX8_init_79 : decode cX8_init 79 = .ok (.new 45, 3) := by decide +kernel
theorem dX8_init_82 : decode cX8_init 82 = .ok (.dup, 1) := by decide +kernel
theorem dX8_init_83 : decode cX8_init 83 = .ok (.bipush 8, 2) := by decide +kernel
theorem dX8_init_85 : decode cX8_init 85 = .ok (.invokespecial 47, 3) := by decide +kernel
theorem dX8_init_88 : decode cX8_init 88 = .ok (.putfield 48, 3) := by decide +kernel
theorem dX8_init_91 : decode cX8_init 91 = .ok (.aload_n 0, 1) := by decide +kernel
theorem dX8_init_92 : decode cX8_init 92 = .ok (.new 45, 3) := by decide +kernel
theorem dX8_init_95 : decode cX8_init 95 = .ok (.dup, 1) := by decide +kernel
theorem dX8_init_96 : decode cX8_init 96 = .ok (.bipush 30, 2) := by decide +kernel
theorem dX8_init_98 : decode cX8_init 98 = .ok (.invokespecial 47, 3) := by decide +kernel
theorem dX8_init_101 : decode cX8_init 101 = .ok (.putfield 52, 3) := by decide +kernel
theorem dX8_init_104 : decode cX8_init 104 = .ok (.aload_n 0, 1) := by decide +kernel
theorem dX8_init_105 : decode cX8_init 105 = .ok (.new 45, 3) := by decide +kernel
theorem dX8_init_108 : decode cX8_init 108 = .ok (.dup, 1) := by decide +kernel
theorem dX8_init_109 : decode cX8_init 109 = .ok (.bipush 60, 2) := by decide +kernel
theorem dX8_init_111 : decode cX8_init 111 = .ok (.invokespecial 47, 3) := by decide +kernel
theorem dX8_init_114 : decode cX8_init 114 = .ok (.putfield 55, 3) := by decide +kernel
theorem dX8_init_117 : decode cX8_init 117 = .ok (.return_, 1) := by decide +kernel
theorem dX8_empty_0 : decode cX8_empty 0 = .ok (.aload_n 0, 1) := by decide +kernel
theorem dX8_empty_1 : decode cX8_empty 1 = .ok (.getfield 9, 3) := by decide +kernel
theorem dX8_empty_4 : decode cX8_empty 4 = .ok (.iconst 0, 1) := by decide +kernel
theorem dX8_empty_5 : decode cX8_empty 5 = .ok (.invokestatic 58, 3) := by decide +kernel
theorem dX8_empty_8 : decode cX8_empty 8 = .ok (.aload_n 0, 1) := by decide +kernel
theorem dX8_empty_9 : decode cX8_empty 9 = .ok (.getfield 15, 3) := by decide +kernel
theorem dX8_empty_12 : decode cX8_empty 12 = .ok (.iconst 0, 1) := by decide +kernel
theorem dX8_empty_13 : decode cX8_empty 13 = .ok (.invokestatic 58, 3) := by decide +kernel
theorem dX8_empty_16 : decode cX8_empty 16 = .ok (.aload_n 0, 1) := by decide +kernel
theorem dX8_empty_17 : decode cX8_empty 17 = .ok (.getfield 23, 3) := by decide +kernel
theorem dX8_empty_20 : decode cX8_empty 20 = .ok (.invokevirtual 64, 3) := by decide +kernel
theorem dX8_empty_23 : decode cX8_empty 23 = .ok (.aload_n 0, 1) := by decide +kernel
theorem dX8_empty_24 : decode cX8_empty 24 = .ok (.getfield 27, 3) := by decide +kernel
theorem dX8_empty_27 : decode cX8_empty 27 = .ok (.invokevirtual 64, 3) := by decide +kernel
theorem dX8_empty_30 : decode cX8_empty 30 = .ok (.aload_n 0, 1) := by decide +kernel
theorem dX8_empty_31 : decode cX8_empty 31 = .ok (.getfield 30, 3) := by decide +kernel
theorem dX8_empty_34 : decode cX8_empty 34 = .ok (.invokevirtual 64, 3) := by decide +kernel
theorem dX8_empty_37 : decode cX8_empty 37 = .ok (.iconst 0, 1) := by decide +kernel
theorem dX8_empty_38 : decode cX8_empty 38 = .ok (.istore_n 1, 1) := by decide +kernel
theorem dX8_empty_39 : decode cX8_empty 39 = .ok (.iload_n 1, 1) := by decide +kernel
theorem dX8_empty_40 : decode cX8_empty 40 = .ok (.aload_n 0, 1) := by decide +kernel
theorem dX8_empty_41 : decode cX8_empty 41 = .ok (.getfield 41, 3) := by decide +kernel
theorem dX8_empty_44 : decode cX8_empty 44 = .ok (.arraylength, 1) := by decide +kernel
theorem dX8_empty_45 : decode cX8_empty 45 = .ok (.if_icmp .ge 16, 3) := by decide +kernel
theorem dX8_empty_48 : decode cX8_empty 48 = .ok (.aload_n 0, 1) := by decide +kernel
theorem dX8_empty_49 : decode cX8_empty 49 = .ok (.getfield 41, 3) := by decide +kernel
theorem dX8_empty_52 : decode cX8_empty 52 = .ok (.iload_n 1, 1) := by decide +kernel
theorem dX8_empty_53 : decode cX8_empty 53 = .ok (.aconst_null, 1) := by decide +kernel
theorem dX8_empty_54 : decode cX8_empty 54 = .ok (.aastore, 1) := by decide +kernel
theorem dX8_empty_55 : decode cX8_empty 55 = .ok (.iinc 1 1, 3) := by decide +kernel
theorem dX8_empty_58 : decode cX8_empty 58 = .ok (.goto (-19), 3) := by decide +kernel
theorem dX8_empty_61 : decode cX8_empty 61 = .ok (.aload_n 0, 1) := by decide +kernel
theorem dX8_empty_62 : decode cX8_empty 62 = .ok (.getfield 48, 3) := by decide +kernel
theorem dX8_empty_65 : decode cX8_empty 65 = .ok (.invokevirtual 67, 3) := by decide +kernel
theorem dX8_empty_68 : decode cX8_empty 68 = .ok (.aload_n 0, 1) := by decide +kernel
theorem dX8_empty_69 : decode cX8_empty 69 = .ok (.getfield 52, 3) := by decide +kernel
theorem dX8_empty_72 : decode cX8_empty 72 = .ok (.invokevirtual 67, 3) := by decide +kernel
theorem dX8_empty_75 : decode cX8_empty 75 = .ok (.aload_n 0, 1) := by decide +kernel
theorem dX8_empty_76 : decode cX8_empty 76 = .ok (.getfield 55, 3) := by decide +kernel
theorem dX8_empty_79 : decode cX8_empty 79 = .ok (.invokevirtual 67, 3) := by decide +kernel
theorem dX8_empty_82 : decode cX8_empty 82 = .ok (.aload_n 0, 1) := by decide +kernel
theorem dX8_empty_83 : decode cX8_empty 83 = .ok (.iconst 0, 1) := by decide +kernel
theorem dX8_empty_84 : decode cX8_empty 84 = .ok (.putfield 68, 3) := by decide +kernel
theorem dX8_empty_87 : decode cX8_empty 87 = .ok (.aload_n 0, 1) := by decide +kernel
theorem dX8_empty_88 : decode cX8_empty 88 = .ok (.iconst 0, 1) := by decide +kernel
theorem dX8_empty_89 : decode cX8_empty 89 = .ok (.putfield 72, 3) := by decide +kernel
theorem dX8_empty_92 : decode cX8_empty 92 = .ok (.aload_n 0, 1) := by decide +kernel
theorem dX8_empty_93 : decode cX8_empty 93 = .ok (.iconst 0, 1) := by decide +kernel
theorem dX8_empty_94 : decode cX8_empty 94 = .ok (.putfield 75, 3) := by decide +kernel
theorem dX8_empty_97 : decode cX8_empty 97 = .ok (.aload_n 0, 1) := by decide +kernel
theorem dX8_empty_98 : decode cX8_empty 98 = .ok (.iconst 0, 1) := by decide +kernel
theorem dX8_empty_99 : decode cX8_empty 99 = .ok (.putfield 78, 3) := by decide +kernel
theorem dX8_empty_102 : decode cX8_empty 102 = .ok (.return_, 1) := by decide +kernel
theorem dX8_copy_0 : decode cX8_copy 0 = .ok (.aload_n 1, 1) := by decide +kernel
theorem dX8_copy_1 : decode cX8_copy 1 = .ok (.getfield 9, 3) := by decide +kernel
theorem dX8_copy_4 : decode cX8_copy 4 = .ok (.iconst 0, 1) := by decide +kernel
theorem dX8_copy_5 : decode cX8_copy 5 = .ok (.aload_n 0, 1) := by decide +kernel
theorem dX8_copy_6 : decode cX8_copy 6 = .ok (.getfield 9, 3) := by decide +kernel
theorem dX8_copy_9 : decode cX8_copy 9 = .ok (.iconst 0, 1) := by decide +kernel
theorem dX8_copy_10 : decode cX8_copy 10 = .ok (.bipush 100, 2) := by decide +kernel
theorem dX8_copy_12 : decode cX8_copy 12 = .ok (.invokestatic 81, 3) := by decide +kernel
theorem dX8_copy_15 : decode cX8_copy 15 = .ok (.aload_n 1, 1) := by decide +kernel
theorem dX8_copy_16 : decode cX8_copy 16 = .ok (.getfield 15, 3) := by decide +kernel
theorem dX8_copy_19 : decode cX8_copy 19 = .ok (.iconst 0, 1) := by decide +kernel
theorem dX8_copy_20 : decode cX8_copy 20 = .ok (.aload_n 0, 1) := by decide +kernel
theorem dX8_copy_21 : decode cX8_copy 21 = .ok (.getfield 15, 3) := by decide +kernel
theorem dX8_copy_24 : decode cX8_copy 24 = .ok (.iconst 0, 1) := by decide +kernel
theorem dX8_copy_25 : decode cX8_copy 25 = .ok (.bipush 100, 2) := by decide +kernel
theorem dX8_copy_27 : decode cX8_copy 27 = .ok (.invokestatic 81, 3) := by decide +kernel
theorem dX8_copy_30 : decode cX8_copy 30 = .ok (.aload_n 0, 1) := by decide +kernel
theorem dX8_copy_31 : decode cX8_copy 31 = .ok (.getfield 23, 3) := by decide +kernel
theorem dX8_copy_34 : decode cX8_copy 34 = .ok (.aload_n 1, 1) := by decide +kernel
theorem dX8_copy_35 : decode cX8_copy 35 = .ok (.getfield 23, 3) := by decide +kernel
theorem dX8_copy_38 : decode cX8_copy 38 = .ok (.iconst 0, 1) := by decide +kernel
theorem dX8_copy_39 : decode cX8_copy 39 = .ok (.invokevirtual 87, 3) := by decide +kernel
theorem dX8_copy_42 : decode cX8_copy 42 = .ok (.aload_n 0, 1) := by decide +kernel
theorem dX8_copy_43 : decode cX8_copy 43 = .ok (.getfield 27, 3) := by decide +kernel
theorem dX8_copy_46 : decode cX8_copy 46 = .ok (.aload_n 1, 1) := by decide +kernel
theorem dX8_copy_47 : decode cX8_copy 47 = .ok (.getfield 27, 3) := by decide +kernel
theorem dX8_copy_50 : decode cX8_copy 50 = .ok (.iconst 0, 1) := by decide +kernel
theorem dX8_copy_51 : decode cX8_copy 51 = .ok (.invokevirtual 87, 3) := by decide +kernel
theorem dX8_copy_54 : decode cX8_copy 54 = .ok (.aload_n 0, 1) := by decide +kernel
theorem dX8_copy_55 : decode cX8_copy 55 = .ok (.getfield 30, 3) := by decide +kernel
theorem dX8_copy_58 : decode cX8_copy 58 = .ok (.aload_n 1, 1) := by decide +kernel
theorem dX8_copy_59 : decode cX8_copy 59 = .ok (.getfield 30, 3) := by decide +kernel
theorem dX8_copy_62 : decode cX8_copy 62 = .ok (.iconst 0, 1) := by decide +kernel
theorem dX8_copy_63 : decode cX8_copy 63 = .ok (.invokevirtual 87, 3) := by decide +kernel
theorem dX8_copy_66 : decode cX8_copy 66 = .ok (.iconst 0, 1) := by decide +kernel
theorem dX8_copy_67 : decode cX8_copy 67 = .ok (.istore_n 2, 1) := by decide +kernel
theorem dX8_copy_68 : decode cX8_copy 68 = .ok (.iload_n 2, 1) := by decide +kernel
theorem dX8_copy_69 : decode cX8_copy 69 = .ok (.bipush 24, 2) := by decide +kernel
theorem dX8_copy_71 : decode cX8_copy 71 = .ok (.if_icmp .ge 21, 3) := by decide +kernel
theorem dX8_copy_74 : decode cX8_copy 74 = .ok (.aload_n 0, 1) := by decide +kernel
theorem dX8_copy_75 : decode cX8_copy 75 = .ok (.getfield 35, 3) := by decide +kernel
theorem dX8_copy_78 : decode cX8_copy 78 = .ok (.iload_n 2, 1) := by decide +kernel
theorem dX8_copy_79 : decode cX8_copy 79 = .ok (.aload_n 1, 1) := by decide +kernel
theorem dX8_copy_80 : decode cX8_copy 80 = .ok (.getfield 35, 3) := by decide +kernel
theorem dX8_copy_83 : decode cX8_copy 83 = .ok (.iload_n 2, 1) := by decide +kernel
theorem dX8_copy_84 : decode cX8_copy 84 = .ok (.aaload, 1) := by decide +kernel
theorem dX8_copy_85 : decode cX8_copy 85 = .ok (.aastore, 1) := by decide +kernel
theorem dX8_copy_86 : decode cX8_copy 86 = .ok (.iinc 2 1, 3) := by decide +kernel
theorem dX8_copy_89 : decode cX8_copy 89 = .ok (.goto (-21), 3) := by decide +kernel
theorem dX8_copy_92 : decode cX8_copy 92 = .ok (.iconst 0, 1) := by decide +kernel
theorem dX8_copy_93 : decode cX8_copy 93 = .ok (.istore_n 2, 1) := by decide +kernel
theorem dX8_copy_94 : decode cX8_copy 94 = .ok (.iload_n 2, 1) := by decide +kernel
theorem dX8_copy_95 : decode cX8_copy 95 = .ok (.bipush 6, 2) := by decide +kernel
theorem dX8_copy_97 : decode cX8_copy 97 = .ok (.if_icmp .ge 21, 3) := by decide +kernel
theorem dX8_copy_100 : decode cX8_copy 100 = .ok (.aload_n 0, 1) := by decide +kernel
theorem dX8_copy_101 : decode cX8_copy 101 = .ok (.getfield 41, 3) := by decide +kernel
theorem dX8_copy_104 : decode cX8_copy 104 = .ok (.iload_n 2, 1) := by decide +kernel
theorem dX8_copy_105 : decode cX8_copy 105 = .ok (.aload_n 1, 1) := by decide +kernel
theorem dX8_copy_106 : decode cX8_copy 106 = .ok (.getfield 41, 3) := by decide +kernel
theorem dX8_copy_109 : decode cX8_copy 109 = .ok (.iload_n 2, 1) := by decide +kernel
theorem dX8_copy_110 : decode cX8_copy 110 = .ok (.aaload, 1) := by decide +kernel
theorem dX8_copy_111 : decode cX8_copy 111 = .ok (.aastore, 1) := by decide +kernel
theorem dX8_copy_112 : decode cX8_copy 112 = .ok (.iinc 2 1, 3) := by decide +kernel
theorem dX8_copy_115 : decode cX8_copy 115 = .ok (.goto (-21), 3) := by decide +kernel
theorem dX8_copy_118 : decode cX8_copy 118 = .ok (.aload_n 0, 1) := by decide +kernel
theorem dX8_copy_119 : decode cX8_copy 119 = .ok (.getfield 48, 3) := by decide +kernel
theorem dX8_copy_122 : decode cX8_copy 122 = .ok (.aload_n 1, 1) := by decide +kernel
theorem dX8_copy_123 : decode cX8_copy 123 = .ok (.getfield 48, 3) := by decide +kernel
theorem dX8_copy_126 : decode cX8_copy 126 = .ok (.invokevirtual 91, 3) := by decide +kernel
theorem dX8_copy_129 : decode cX8_copy 129 = .ok (.aload_n 0, 1) := by decide +kernel
theorem dX8_copy_130 : decode cX8_copy 130 = .ok (.getfield 52, 3) := by decide +kernel
theorem dX8_copy_133 : decode cX8_copy 133 = .ok (.aload_n 1, 1) := by decide +kernel
theorem dX8_copy_134 : decode cX8_copy 134 = .ok (.getfield 52, 3) := by decide +kernel
theorem dX8_copy_137 : decode cX8_copy 137 = .ok (.invokevirtual 91, 3) := by decide +kernel
theorem dX8_copy_140 : decode cX8_copy 140 = .ok (.aload_n 0, 1) := by decide +kernel
theorem dX8_copy_141 : decode cX8_copy 141 = .ok (.getfield 55, 3) := by decide +kernel
theorem dX8_copy_144 : decode cX8_copy 144 = .ok (.aload_n 1, 1) := by decide +kernel
theorem dX8_copy_145 : decode cX8_copy 145 = .ok (.getfield 55, 3) := by decide +kernel
theorem dX8_copy_148 : decode cX8_copy 148 = .ok (.invokevirtual 91, 3) := by decide +kernel
theorem dX8_copy_151 : decode cX8_copy 151 = .ok (.aload_n 0, 1) := by decide +kernel
theorem dX8_copy_152 : decode cX8_copy 152 = .ok (.aload_n 1, 1) := by decide +kernel
theorem dX8_copy_153 : decode cX8_copy 153 = .ok (.getfield 68, 3) := by decide +kernel
theorem dX8_copy_156 : decode cX8_copy 156 = .ok (.putfield 68, 3) := by decide +kernel
theorem dX8_copy_159 : decode cX8_copy 159 = .ok (.aload_n 0, 1) := by decide +kernel
theorem dX8_copy_160 : decode cX8_copy 160 = .ok (.aload_n 1, 1) := by decide +kernel
theorem dX8_copy_161 : decode cX8_copy 161 = .ok (.getfield 72, 3) := by decide +kernel
theorem dX8_copy_164 : decode cX8_copy 164 = .ok (.putfield 72, 3) := by decide +kernel
theorem dX8_copy_167 : decode cX8_copy 167 = .ok (.aload_n 0, 1) := by decide +kernel
theorem dX8_copy_168 : decode cX8_copy 168 = .ok (.aload_n 1, 1) := by decide +kernel
theorem dX8_copy_169 : decode cX8_copy 169 = .ok (.getfield 75, 3) := by decide +kernel
theorem dX8_copy_172 : decode cX8_copy 172 = .ok (.putfield 75, 3) := by decide +kernel
theorem dX8_copy_175 : decode cX8_copy 175 = .ok (.aload_n 0, 1) := by decide +kernel
theorem dX8_copy_176 : decode cX8_copy 176 = .ok (.aload_n 1, 1) := by decide +kernel
theorem dX8_copy_177 : decode cX8_copy 177 = .ok (.getfield 78, 3) := by decide +kernel
theorem dX8_copy_180 : decode cX8_copy 180 = .ok (.putfield 78, 3) := by decide +kernel
theorem dX8_copy_183 : decode cX8_copy 183 = .ok (.return_, 1) := by decide +kernel
theorem dX8_put_0 : decode cX8_put 0 = .ok (.iload_n 1, 1) := by decide +kernel
theorem dX8_put_1 : decode cX8_put 1 = .ok (.invokestatic 94, 3) := by decide +kernel
theorem dX8_put_4 : decode cX8_put 4 = .ok (.ifCond .eq 17, 3) := by decide +kernel
theorem dX8_put_7 : decode cX8_put 7 = .ok (.aload_n 0, 1) := by decide +kernel
theorem dX8_put_8 : decode cX8_put 8 = .ok (.getfield 9, 3) := by decide +kernel
theorem dX8_put_11 : decode cX8_put 11 = .ok (.iload_n 1, 1) := by decide +kernel
theorem dX8_put_12 : decode cX8_put 12 = .ok (.iload_n 2, 1) := by decide +kernel
theorem dX8_put_13 : decode cX8_put 13 = .ok (.iastore, 1) := by decide +kernel
theorem dX8_put_14 : decode cX8_put 14 = .ok (.aload_n 0, 1) := by decide +kernel
theorem dX8_put_15 : decode cX8_put 15 = .ok (.getfield 15, 3) := by decide +kernel
theorem dX8_put_18 : decode cX8_put 18 = .ok (.iload_n 1, 1) := by decide +kernel
theorem dX8_put_19 : decode cX8_put 19 = .ok (.iload_n 3, 1) := by decide +kernel
theorem dX8_put_20 : decode cX8_put 20 = .ok (.iastore, 1) := by decide +kernel
theorem dX8_put_21 : decode cX8_put 21 = .ok (.return_, 1) := by decide +kernel
theorem dX8_isOpen_0 : decode cX8_isOpen 0 = .ok (.iload_n 1, 1) := by decide +kernel
theorem dX8_isOpen_1 : decode cX8_isOpen 1 = .ok (.invokestatic 94, 3) := by decide +kernel
theorem dX8_isOpen_4 : decode cX8_isOpen 4 = .ok (.ifCond .eq 17, 3) := by decide +kernel
theorem dX8_isOpen_7 : decode cX8_isOpen 7 = .ok (.aload_n 0, 1) := by decide +kernel
theorem dX8_isOpen_8 : decode cX8_isOpen 8 = .ok (.getfield 9, 3) := by decide +kernel
theorem dX8_isOpen_11 : decode cX8_isOpen 11 = .ok (.iload_n 1, 1) := by decide +kernel
theorem dX8_isOpen_12 : decode cX8_isOpen 12 = .ok (.iaload, 1) := by decide +kernel
theorem dX8_isOpen_13 : decode cX8_isOpen 13 = .ok (.iconst 1, 1) := by decide +kernel
theorem dX8_isOpen_14 : decode cX8_isOpen 14 = .ok (.if_icmp .eq 7, 3) := by decide +kernel
theorem dX8_isOpen_17 : decode cX8_isOpen 17 = .ok (.iconst 1, 1) := by decide +kernel
theorem dX8_isOpen_18 : decode cX8_isOpen 18 = .ok (.goto 4, 3) := by decide +kernel
theorem dX8_isOpen_21 : decode cX8_isOpen 21 = .ok (.iconst 0, 1) := by decide +kernel
theorem dX8_isOpen_22 : decode cX8_isOpen 22 = .ok (.ireturn, 1) := by decide +kernel
theorem dX8_isBare_0 : decode cX8_isBare 0 = .ok (.iload_n 1, 1) := by decide +kernel
theorem dX8_isBare_1 : decode cX8_isBare 1 = .ok (.invokestatic 94, 3) := by decide +kernel
theorem dX8_isBare_4 : decode cX8_isBare 4 = .ok (.ifCond .eq 16, 3) := by decide +kernel
theorem dX8_isBare_7 : decode cX8_isBare 7 = .ok (.aload_n 0, 1) := by decide +kernel
theorem dX8_isBare_8 : decode cX8_isBare 8 = .ok (.getfield 9, 3) := by decide +kernel
theorem dX8_isBare_11 : decode cX8_isBare 11 = .ok (.iload_n 1, 1) := by decide +kernel
theorem dX8_isBare_12 : decode cX8_isBare 12 = .ok (.iaload, 1) := by decide +kernel
theorem dX8_isBare_13 : decode cX8_isBare 13 = .ok (.ifCond .ne 7, 3) := by decide +kernel
theorem dX8_isBare_16 : decode cX8_isBare 16 = .ok (.iconst 1, 1) := by decide +kernel
theorem dX8_isBare_17 : decode cX8_isBare 17 = .ok (.goto 4, 3) := by decide +kernel
theorem dX8_isBare_20 : decode cX8_isBare 20 = .ok (.iconst 0, 1) := by decide +kernel
theorem dX8_isBare_21 : decode cX8_isBare 21 = .ok (.ireturn, 1) := by decide +kernel
theorem dX8_howMany_0 : decode cX8_howMany 0 = .ok (.iconst 0, 1) := by decide +kernel
theorem dX8_howMany_1 : decode cX8_howMany 1 = .ok (.istore_n 2, 1) := by decide +kernel
theorem dX8_howMany_2 : decode cX8_howMany 2 = .ok (.iconst 0, 1) := by decide +kernel
theorem dX8_howMany_3 : decode cX8_howMany 3 = .ok (.istore_n 3, 1) := by decide +kernel
theorem dX8_howMany_4 : decode cX8_howMany 4 = .ok (.iload_n 3, 1) := by decide +kernel
theorem dX8_howMany_5 : decode cX8_howMany 5 = .ok (.bipush 100, 2) := by decide +kernel
theorem dX8_howMany_7 : decode cX8_howMany 7 = .ok (.if_icmp .ge 22, 3) := by decide +kernel
theorem dX8_howMany_10 : decode cX8_howMany 10 = .ok (.aload_n 0, 1) := by decide +kernel
theorem dX8_howMany_11 : decode cX8_howMany 11 = .ok (.getfield 9, 3) := by decide +kernel
theorem dX8_howMany_14 : decode cX8_howMany 14 = .ok (.iload_n 3, 1) := by decide +kernel
theorem dX8_howMany_15 : decode cX8_howMany 15 = .ok (.iaload, 1) := by decide +kernel
theorem dX8_howMany_16 : decode cX8_howMany 16 = .ok (.iload_n 1, 1) := by decide +kernel
theorem dX8_howMany_17 : decode cX8_howMany 17 = .ok (.if_icmp .ne 6, 3) := by decide +kernel
theorem dX8_howMany_20 : decode cX8_howMany 20 = .ok (.iinc 2 1, 3) := by decide +kernel
theorem dX8_howMany_23 : decode cX8_howMany 23 = .ok (.iinc 3 1, 3) := by decide +kernel
theorem dX8_howMany_26 : decode cX8_howMany 26 = .ok (.goto (-22), 3) := by decide +kernel
theorem dX8_howMany_29 : decode cX8_howMany 29 = .ok (.iload_n 2, 1) := by decide +kernel
theorem dX8_howMany_30 : decode cX8_howMany 30 = .ok (.ireturn, 1) := by decide +kernel
theorem dX8_howManyWalkers_0 : decode cX8_howManyWalkers 0 = .ok (.iconst 0, 1) := by decide +kernel
theorem dX8_howManyWalkers_1 : decode cX8_howManyWalkers 1 = .ok (.istore_n 1, 1) := by decide +kernel
theorem dX8_howManyWalkers_2 : decode cX8_howManyWalkers 2 = .ok (.iconst 0, 1) := by decide +kernel
theorem dX8_howManyWalkers_3 : decode cX8_howManyWalkers 3 = .ok (.istore_n 2, 1) := by decide +kernel
theorem dX8_howManyWalkers_4 : decode cX8_howManyWalkers 4 = .ok (.iload_n 2, 1) := by decide +kernel
theorem dX8_howManyWalkers_5 : decode cX8_howManyWalkers 5 = .ok (.aload_n 0, 1) := by decide +kernel
theorem dX8_howManyWalkers_6 : decode cX8_howManyWalkers 6 = .ok (.getfield 41, 3) := by decide +kernel
theorem dX8_howManyWalkers_9 : decode cX8_howManyWalkers 9 = .ok (.arraylength, 1) := by decide +kernel
theorem dX8_howManyWalkers_10 : decode cX8_howManyWalkers 10 = .ok (.if_icmp .ge 21, 3) := by decide +kernel
theorem dX8_howManyWalkers_13 : decode cX8_howManyWalkers 13 = .ok (.aload_n 0, 1) := by decide +kernel
theorem dX8_howManyWalkers_14 : decode cX8_howManyWalkers 14 = .ok (.getfield 41, 3) := by decide +kernel
theorem dX8_howManyWalkers_17 : decode cX8_howManyWalkers 17 = .ok (.iload_n 2, 1) := by decide +kernel
theorem dX8_howManyWalkers_18 : decode cX8_howManyWalkers 18 = .ok (.aaload, 1) := by decide +kernel
theorem dX8_howManyWalkers_19 : decode cX8_howManyWalkers 19 = .ok (.ifnull 6, 3) := by decide +kernel
theorem dX8_howManyWalkers_22 : decode cX8_howManyWalkers 22 = .ok (.iinc 1 1, 3) := by decide +kernel
theorem dX8_howManyWalkers_25 : decode cX8_howManyWalkers 25 = .ok (.iinc 2 1, 3) := by decide +kernel
theorem dX8_howManyWalkers_28 : decode cX8_howManyWalkers 28 = .ok (.goto (-24), 3) := by decide +kernel
theorem dX8_howManyWalkers_31 : decode cX8_howManyWalkers 31 = .ok (.iload_n 1, 1) := by decide +kernel
theorem dX8_howManyWalkers_32 : decode cX8_howManyWalkers 32 = .ok (.ireturn, 1) := by decide +kernel
theorem dX8_sun_0 : decode cX8_sun 0 = .ok (.iload_n 1, 1) := by decide +kernel
theorem dX8_sun_1 : decode cX8_sun 1 = .ok (.ifCond .lt 20, 3) := by decide +kernel
theorem dX8_sun_4 : decode cX8_sun 4 = .ok (.iload_n 1, 1) := by decide +kernel
theorem dX8_sun_5 : decode cX8_sun 5 = .ok (.aload_n 0, 1) := by decide +kernel
theorem dX8_sun_6 : decode cX8_sun 6 = .ok (.getfield 78, 3) := by decide +kernel
theorem dX8_sun_9 : decode cX8_sun 9 = .ok (.if_icmp .ge 12, 3) := by decide +kernel
theorem dX8_sun_12 : decode cX8_sun 12 = .ok (.iload_n 1, 1) := by decide +kernel
theorem dX8_sun_13 : decode cX8_sun 13 = .ok (.aload_n 0, 1) := by decide +kernel
theorem dX8_sun_14 : decode cX8_sun 14 = .ok (.getfield 35, 3) := by decide +kernel
theorem dX8_sun_17 : decode cX8_sun 17 = .ok (.arraylength, 1) := by decide +kernel
theorem dX8_sun_18 : decode cX8_sun 18 = .ok (.if_icmp .lt 7, 3) := by decide +kernel
theorem dX8_sun_21 : decode cX8_sun 21 = .ok (.aconst_null, 1) := by decide +kernel
theorem dX8_sun_22 : decode cX8_sun 22 = .ok (.goto 9, 3) := by decide +kernel
theorem dX8_sun_25 : decode cX8_sun 25 = .ok (.aload_n 0, 1) := by decide +kernel
theorem dX8_sun_26 : decode cX8_sun 26 = .ok (.getfield 35, 3) := by decide +kernel
theorem dX8_sun_29 : decode cX8_sun 29 = .ok (.iload_n 1, 1) := by decide +kernel
theorem dX8_sun_30 : decode cX8_sun 30 = .ok (.aaload, 1) := by decide +kernel
theorem dX8_sun_31 : decode cX8_sun 31 = .ok (.areturn, 1) := by decide +kernel
theorem dX8_addSun_0 : decode cX8_addSun 0 = .ok (.aload_n 0, 1) := by decide +kernel
theorem dX8_addSun_1 : decode cX8_addSun 1 = .ok (.getfield 78, 3) := by decide +kernel
theorem dX8_addSun_4 : decode cX8_addSun 4 = .ok (.ifCond .lt 35, 3) := by decide +kernel
theorem dX8_addSun_7 : decode cX8_addSun 7 = .ok (.aload_n 0, 1) := by decide +kernel
theorem dX8_addSun_8 : decode cX8_addSun 8 = .ok (.getfield 78, 3) := by decide +kernel
theorem dX8_addSun_11 : decode cX8_addSun 11 = .ok (.aload_n 0, 1) := by decide +kernel
theorem dX8_addSun_12 : decode cX8_addSun 12 = .ok (.getfield 35, 3) := by decide +kernel
theorem dX8_addSun_15 : decode cX8_addSun 15 = .ok (.arraylength, 1) := by decide +kernel
theorem dX8_addSun_16 : decode cX8_addSun 16 = .ok (.if_icmp .ge 23, 3) := by decide +kernel
theorem dX8_addSun_19 : decode cX8_addSun 19 = .ok (.aload_n 0, 1) := by decide +kernel
theorem dX8_addSun_20 : decode cX8_addSun 20 = .ok (.getfield 35, 3) := by decide +kernel
theorem dX8_addSun_23 : decode cX8_addSun 23 = .ok (.aload_n 0, 1) := by decide +kernel
theorem dX8_addSun_24 : decode cX8_addSun 24 = .ok (.getfield 78, 3) := by decide +kernel
theorem dX8_addSun_27 : decode cX8_addSun 27 = .ok (.aload_n 1, 1) := by decide +kernel
theorem dX8_addSun_28 : decode cX8_addSun 28 = .ok (.aastore, 1) := by decide +kernel
theorem dX8_addSun_29 : decode cX8_addSun 29 = .ok (.aload_n 0, 1) := by decide +kernel
theorem dX8_addSun_30 : decode cX8_addSun 30 = .ok (.dup, 1) := by decide +kernel
theorem dX8_addSun_31 : decode cX8_addSun 31 = .ok (.getfield 78, 3) := by decide +kernel
theorem dX8_addSun_34 : decode cX8_addSun 34 = .ok (.iconst 1, 1) := by decide +kernel
theorem dX8_addSun_35 : decode cX8_addSun 35 = .ok (.iadd, 1) := by decide +kernel
theorem dX8_addSun_36 : decode cX8_addSun 36 = .ok (.putfield 78, 3) := by decide +kernel
theorem dX8_addSun_39 : decode cX8_addSun 39 = .ok (.return_, 1) := by decide +kernel
theorem dX8_lastSunOf_0 : decode cX8_lastSunOf 0 = .ok (.iconst (-1), 1) := by decide +kernel
theorem dX8_lastSunOf_1 : decode cX8_lastSunOf 1 = .ok (.istore_n 2, 1) := by decide +kernel
theorem dX8_lastSunOf_2 : decode cX8_lastSunOf 2 = .ok (.iconst 0, 1) := by decide +kernel
theorem dX8_lastSunOf_3 : decode cX8_lastSunOf 3 = .ok (.istore_n 3, 1) := by decide +kernel
theorem dX8_lastSunOf_4 : decode cX8_lastSunOf 4 = .ok (.iload_n 3, 1) := by decide +kernel
theorem dX8_lastSunOf_5 : decode cX8_lastSunOf 5 = .ok (.aload_n 0, 1) := by decide +kernel
theorem dX8_lastSunOf_6 : decode cX8_lastSunOf 6 = .ok (.getfield 78, 3) := by decide +kernel
theorem dX8_lastSunOf_9 : decode cX8_lastSunOf 9 = .ok (.if_icmp .ge 36, 3) := by decide +kernel
theorem dX8_lastSunOf_12 : decode cX8_lastSunOf 12 = .ok (.aload_n 0, 1) := by decide +kernel
theorem dX8_lastSunOf_13 : decode cX8_lastSunOf 13 = .ok (.iload_n 3, 1) := by decide +kernel
theorem dX8_lastSunOf_14 : decode cX8_lastSunOf 14 = .ok (.invokevirtual 98, 3) := by decide +kernel
theorem dX8_lastSunOf_17 : decode cX8_lastSunOf 17 = .ok (.astore 4, 2) := by decide +kernel
theorem dX8_lastSunOf_19 : decode cX8_lastSunOf 19 = .ok (.aload 4, 2) := by decide +kernel
theorem dX8_lastSunOf_21 : decode cX8_lastSunOf 21 = .ok (.ifnull 18, 3) := by decide +kernel
theorem dX8_lastSunOf_24 : decode cX8_lastSunOf 24 = .ok (.aload 4, 2) := by decide +kernel
theorem dX8_lastSunOf_26 : decode cX8_lastSunOf 26 = .ok (.getfield 102, 3) := by decide +kernel
theorem dX8_lastSunOf_29 : decode cX8_lastSunOf 29 = .ok (.iload_n 1, 1) := by decide +kernel
theorem dX8_lastSunOf_30 : decode cX8_lastSunOf 30 = .ok (.if_icmp .ne 9, 3) := by decide +kernel
theorem dX8_lastSunOf_33 : decode cX8_lastSunOf 33 = .ok (.aload 4, 2) := by decide +kernel
theorem dX8_lastSunOf_35 : decode cX8_lastSunOf 35 = .ok (.getfield 105, 3) := by decide +kernel
theorem dX8_lastSunOf_38 : decode cX8_lastSunOf 38 = .ok (.istore_n 2, 1) := by decide +kernel
theorem dX8_lastSunOf_39 : decode cX8_lastSunOf 39 = .ok (.iinc 3 1, 3) := by decide +kernel
theorem dX8_lastSunOf_42 : decode cX8_lastSunOf 42 = .ok (.goto (-38), 3) := by decide +kernel
theorem dX8_lastSunOf_45 : decode cX8_lastSunOf 45 = .ok (.iload_n 2, 1) := by decide +kernel
theorem dX8_lastSunOf_46 : decode cX8_lastSunOf 46 = .ok (.ireturn, 1) := by decide +kernel
theorem dX9_init_0 : decode cX9_init 0 = .ok (.aload_n 0, 1) := by decide +kernel
theorem dX9_init_1 : decode cX9_init 1 = .ok (.invokespecial 3, 3) := by decide +kernel
theorem dX9_init_4 : decode cX9_init 4 = .ok (.aload_n 0, 1) := by decide +kernel
theorem dX9_init_5 : decode cX9_init 5 = .ok (.new 9, 3) := by decide +kernel
theorem dX9_init_8 : decode cX9_init 8 = .ok (.dup, 1) := by decide +kernel
theorem dX9_init_9 : decode cX9_init 9 = .ok (.bipush 120, 2) := by decide +kernel
theorem dX9_init_11 : decode cX9_init 11 = .ok (.invokespecial 11, 3) := by decide +kernel
theorem dX9_init_14 : decode cX9_init 14 = .ok (.putfield 14, 3) := by decide +kernel
theorem dX9_init_17 : decode cX9_init 17 = .ok (.aload_n 0, 1) := by decide +kernel
theorem dX9_init_18 : decode cX9_init 18 = .ok (.new 9, 3) := by decide +kernel
theorem dX9_init_21 : decode cX9_init 21 = .ok (.dup, 1) := by decide +kernel
theorem dX9_init_22 : decode cX9_init 22 = .ok (.bipush 120, 2) := by decide +kernel
theorem dX9_init_24 : decode cX9_init 24 = .ok (.invokespecial 11, 3) := by decide +kernel
theorem dX9_init_27 : decode cX9_init 27 = .ok (.putfield 20, 3) := by decide +kernel
theorem dX9_init_30 : decode cX9_init 30 = .ok (.aload_n 0, 1) := by decide +kernel
theorem dX9_init_31 : decode cX9_init 31 = .ok (.sipush 12000, 3) := by decide +kernel
theorem dX9_init_34 : decode cX9_init 34 = .ok (.newarray .int, 2) := by decide +kernel
theorem dX9_init_36 : decode cX9_init 36 = .ok (.putfield 23, 3) := by decide +kernel
theorem dX9_init_39 : decode cX9_init 39 = .ok (.aload_n 0, 1) := by decide +kernel
theorem dX9_init_40 : decode cX9_init 40 = .ok (.sipush 12000, 3) := by decide +kernel
theorem dX9_init_43 : decode cX9_init 43 = .ok (.newarray .int, 2) := by decide +kernel
theorem dX9_init_45 : decode cX9_init 45 = .ok (.putfield 27, 3) := by decide +kernel
theorem dX9_init_48 : decode cX9_init 48 = .ok (.aload_n 0, 1) := by decide +kernel
theorem dX9_init_49 : decode cX9_init 49 = .ok (.new 30, 3) := by decide +kernel
theorem dX9_init_52 : decode cX9_init 52 = .ok (.dup, 1) := by decide +kernel
theorem dX9_init_53 : decode cX9_init 53 = .ok (.bipush 120, 2) := by decide +kernel
theorem dX9_init_55 : decode cX9_init 55 = .ok (.invokespecial 32, 3) := by decide +kernel
theorem dX9_init_58 : decode cX9_init 58 = .ok (.putfield 33, 3) := by decide +kernel
theorem dX9_init_61 : decode cX9_init 61 = .ok (.aload_n 0, 1) := by decide +kernel
theorem dX9_init_62 : decode cX9_init 62 = .ok (.bipush 120, 2) := by decide +kernel
theorem dX9_init_64 : decode cX9_init 64 = .ok (.newarray .int, 2) := by decide +kernel
theorem dX9_init_66 : decode cX9_init 66 = .ok (.putfield 37, 3) := by decide +kernel
theorem dX9_init_69 : decode cX9_init 69 = .ok (.aload_n 0, 1) := by decide +kernel
theorem dX9_init_70 : decode cX9_init 70 = .ok (.new 40, 3) := by decide +kernel
theorem dX9_init_73 : decode cX9_init 73 = .ok (.dup, 1) := by decide +kernel
theorem dX9_init_74 : decode cX9_init 74 = .ok (.invokespecial 42, 3) := by decide +kernel
theorem dX9_init_77 : decode cX9_init 77 = .ok (.putfield 43, 3) := by decide +kernel
theorem dX9_init_80 : decode cX9_init 80 = .ok (.aload_n 0, 1) := by decide +kernel
theorem dX9_init_81 : decode cX9_init 81 = .ok (.aload_n 1, 1) := by decide +kernel
theorem dX9_init_82 : decode cX9_init 82 = .ok (.putfield 47, 3) := by decide +kernel
theorem dX9_init_85 : decode cX9_init 85 = .ok (.return_, 1) := by decide +kernel
theorem dX9_set_0 : decode cX9_set 0 = .ok (.aload_n 0, 1) := by decide +kernel
theorem dX9_set_1 : decode cX9_set 1 = .ok (.aload_n 1, 1) := by decide +kernel
theorem dX9_set_2 : decode cX9_set 2 = .ok (.putfield 43, 3) := by decide +kernel
theorem dX9_set_5 : decode cX9_set 5 = .ok (.aload_n 0, 1) := by decide +kernel
theorem dX9_set_6 : decode cX9_set 6 = .ok (.iload_n 2, 1) := by decide +kernel
theorem dX9_set_7 : decode cX9_set 7 = .ok (.putfield 51, 3) := by decide +kernel
theorem dX9_set_10 : decode cX9_set 10 = .ok (.aload_n 0, 1) := by decide +kernel
theorem dX9_set_11 : decode cX9_set 11 = .ok (.iconst 1, 1) := by decide +kernel
theorem dX9_set_12 : decode cX9_set 12 = .ok (.putfield 55, 3) := by decide +kernel
theorem dX9_set_15 : decode cX9_set 15 = .ok (.aload_n 0, 1) := by decide +kernel
theorem dX9_set_16 : decode cX9_set 16 = .ok (.iconst 0, 1) := by decide +kernel
theorem dX9_set_17 : decode cX9_set 17 = .ok (.putfield 58, 3) := by decide +kernel
theorem dX9_set_20 : decode cX9_set 20 = .ok (.aload_n 0, 1) := by decide +kernel
theorem dX9_set_21 : decode cX9_set 21 = .ok (.iconst 1, 1) := by decide +kernel
theorem dX9_set_22 : decode cX9_set 22 = .ok (.putfield 61, 3) := by decide +kernel
theorem dX9_set_25 : decode cX9_set 25 = .ok (.aload_n 0, 1) := by decide +kernel
theorem dX9_set_26 : decode cX9_set 26 = .ok (.iconst 0, 1) := by decide +kernel
theorem dX9_set_27 : decode cX9_set 27 = .ok (.putfield 65, 3) := by decide +kernel
theorem dX9_set_30 : decode cX9_set 30 = .ok (.aload_n 0, 1) := by decide +kernel
theorem dX9_set_31 : decode cX9_set 31 = .ok (.invokevirtual 68, 3) := by decide +kernel
theorem dX9_set_34 : decode cX9_set 34 = .ok (.return_, 1) := by decide +kernel
theorem dX9_takeShade_0 : decode cX9_takeShade 0 = .ok (.aload_n 0, 1) := by decide +kernel
theorem dX9_takeShade_1 : decode cX9_takeShade 1 = .ok (.getfield 14, 3) := by decide +kernel
theorem dX9_takeShade_4 : decode cX9_takeShade 4 = .ok (.aload_n 0, 1) := by decide +kernel
theorem dX9_takeShade_5 : decode cX9_takeShade 5 = .ok (.getfield 47, 3) := by decide +kernel
theorem dX9_takeShade_8 : decode cX9_takeShade 8 = .ok (.getfield 71, 3) := by decide +kernel
theorem dX9_takeShade_11 : decode cX9_takeShade 11 = .ok (.aload_n 0, 1) := by decide +kernel
theorem dX9_takeShade_12 : decode cX9_takeShade 12 = .ok (.getfield 51, 3) := by decide +kernel
theorem dX9_takeShade_15 : decode cX9_takeShade 15 = .ok (.iconst 0, 1) := by decide +kernel
theorem dX9_takeShade_16 : decode cX9_takeShade 16 = .ok (.invokestatic 76, 3) := by decide +kernel
theorem dX9_takeShade_19 : decode cX9_takeShade 19 = .ok (.invokevirtual 80, 3) := by decide +kernel
theorem dX9_takeShade_22 : decode cX9_takeShade 22 = .ok (.return_, 1) := by decide +kernel
theorem dX9_aim_0 : decode cX9_aim 0 = .ok (.aload_n 0, 1) := by decide +kernel
theorem dX9_aim_1 : decode cX9_aim 1 = .ok (.iconst 0, 1) := by decide +kernel
theorem dX9_aim_2 : decode cX9_aim 2 = .ok (.iload_n 1, 1) := by decide +kernel
theorem dX9_aim_3 : decode cX9_aim 3 = .ok (.invokestatic 84, 3) := by decide +kernel
theorem dX9_aim_6 : decode cX9_aim 6 = .ok (.putfield 89, 3) := by decide +kernel
theorem dX9_aim_9 : decode cX9_aim 9 = .ok (.aload_n 0, 1) := by decide +kernel
theorem dX9_aim_10 : decode cX9_aim 10 = .ok (.iload_n 2, 1) := by decide +kernel
theorem dX9_aim_11 : decode cX9_aim 11 = .ok (.putfield 92, 3) := by decide +kernel
theorem dX9_aim_14 : decode cX9_aim 14 = .ok (.aload_n 0, 1) := by decide +kernel
theorem dX9_aim_15 : decode cX9_aim 15 = .ok (.iload_n 3, 1) := by decide +kernel
theorem dX9_aim_16 : decode cX9_aim 16 = .ok (.putfield 95, 3) := by decide +kernel
theorem dX9_aim_19 : decode cX9_aim 19 = .ok (.return_, 1) := by decide +kernel
theorem dX9_seekLeast_0 : decode cX9_seekLeast 0 = .ok (.aload_n 0, 1) := by decide +kernel
theorem dX9_seekLeast_1 : decode cX9_seekLeast 1 = .ok (.iconst 1, 1) := by decide +kernel
theorem dX9_seekLeast_2 : decode cX9_seekLeast 2 = .ok (.ldc 98, 2) := by decide +kernel
theorem dX9_seekLeast_4 : decode cX9_seekLeast 4 = .ok (.iload_n 1, 1) := by decide +kernel
theorem dX9_seekLeast_5 : decode cX9_seekLeast 5 = .ok (.invokevirtual 99, 3) := by decide +kernel
theorem dX9_seekLeast_8 : decode cX9_seekLeast 8 = .ok (.aload_n 0, 1) := by decide +kernel
theorem dX9_seekLeast_9 : decode cX9_seekLeast 9 = .ok (.iload_n 1, 1) := by decide +kernel
theorem dX9_seekLeast_10 : decode cX9_seekLeast 10 = .ok (.invokevirtual 103, 3) := by decide +kernel
theorem dX9_seekLeast_13 : decode cX9_seekLeast 13 = .ok (.ireturn, 1) := by decide +kernel
theorem dX9_seekBelow_0 : decode cX9_seekBelow 0 = .ok (.aload_n 0, 1) := by decide +kernel
theorem dX9_seekBelow_1 : decode cX9_seekBelow 1 = .ok (.iconst 1, 1) := by decide +kernel
theorem dX9_seekBelow_2 : decode cX9_seekBelow 2 = .ok (.iload_n 1, 1) := by decide +kernel
theorem dX9_seekBelow_3 : decode cX9_seekBelow 3 = .ok (.iconst 1, 1) := by decide +kernel
theorem dX9_seekBelow_4 : decode cX9_seekBelow 4 = .ok (.isub, 1) := by decide +kernel
theorem dX9_seekBelow_5 : decode cX9_seekBelow 5 = .ok (.iload_n 2, 1) := by decide +kernel
theorem dX9_seekBelow_6 : decode cX9_seekBelow 6 = .ok (.invokevirtual 99, 3) := by decide +kernel
theorem dX9_seekBelow_9 : decode cX9_seekBelow 9 = .ok (.aload_n 0, 1) := by decide +kernel
theorem dX9_seekBelow_10 : decode cX9_seekBelow 10 = .ok (.iload_n 2, 1) := by decide +kernel
theorem dX9_seekBelow_11 : decode cX9_seekBelow 11 = .ok (.invokevirtual 103, 3) := by decide +kernel
theorem dX9_seekBelow_14 : decode cX9_seekBelow 14 = .ok (.ireturn, 1) := by decide +kernel
theorem dX9_seekFirst_0 : decode cX9_seekFirst 0 = .ok (.aload_n 0, 1) := by decide +kernel
theorem dX9_seekFirst_1 : decode cX9_seekFirst 1 = .ok (.iconst 2, 1) := by decide +kernel
theorem dX9_seekFirst_2 : decode cX9_seekFirst 2 = .ok (.iload_n 1, 1) := by decide +kernel
theorem dX9_seekFirst_3 : decode cX9_seekFirst 3 = .ok (.bipush 119, 2) := by decide +kernel
theorem dX9_seekFirst_5 : decode cX9_seekFirst 5 = .ok (.invokevirtual 99, 3) := by decide +kernel
theorem dX9_seekFirst_8 : decode cX9_seekFirst 8 = .ok (.aload_n 0, 1) := by decide +kernel
theorem dX9_seekFirst_9 : decode cX9_seekFirst 9 = .ok (.bipush 119, 2) := by decide +kernel
theorem dX9_seekFirst_11 : decode cX9_seekFirst 11 = .ok (.invokevirtual 103, 3) := by decide +kernel
theorem dX9_seekFirst_14 : decode cX9_seekFirst 14 = .ok (.pop, 1) := by decide +kernel
theorem dX9_seekFirst_15 : decode cX9_seekFirst 15 = .ok (.return_, 1) := by decide +kernel
theorem dX9_seekBearable_0 : decode cX9_seekBearable 0 = .ok (.aload_n 0, 1) := by decide +kernel
theorem dX9_seekBearable_1 : decode cX9_seekBearable 1 = .ok (.iconst 3, 1) := by decide +kernel
theorem dX9_seekBearable_2 : decode cX9_seekBearable 2 = .ok (.aload_n 0, 1) := by decide +kernel
theorem dX9_seekBearable_3 : decode cX9_seekBearable 3 = .ok (.getfield 43, 3) := by decide +kernel
theorem dX9_seekBearable_6 : decode cX9_seekBearable 6 = .ok (.getfield 107, 3) := by decide +kernel
theorem dX9_seekBearable_9 : decode cX9_seekBearable 9 = .ok (.bipush 119, 2) := by decide +kernel
theorem dX9_seekBearable_11 : decode cX9_seekBearable 11 = .ok (.invokevirtual 99, 3) := by decide +kernel
theorem dX9_seekBearable_14 : decode cX9_seekBearable 14 = .ok (.aload_n 0, 1) := by decide +kernel
theorem dX9_seekBearable_15 : decode cX9_seekBearable 15 = .ok (.bipush 119, 2) := by decide +kernel
theorem dX9_seekBearable_17 : decode cX9_seekBearable 17 = .ok (.invokevirtual 103, 3) := by decide +kernel
theorem dX9_seekBearable_20 : decode cX9_seekBearable 20 = .ok (.pop, 1) := by decide +kernel
theorem dX9_seekBearable_21 : decode cX9_seekBearable 21 = .ok (.return_, 1) := by decide +kernel
theorem dX9_seekAll_0 : decode cX9_seekAll 0 = .ok (.aload_n 0, 1) := by decide +kernel
theorem dX9_seekAll_1 : decode cX9_seekAll 1 = .ok (.iconst 0, 1) := by decide +kernel
theorem dX9_seekAll_2 : decode cX9_seekAll 2 = .ok (.ldc 98, 2) := by decide +kernel
theorem dX9_seekAll_4 : decode cX9_seekAll 4 = .ok (.bipush 119, 2) := by decide +kernel
theorem dX9_seekAll_6 : decode cX9_seekAll 6 = .ok (.invokevirtual 99, 3) := by decide +kernel
theorem dX9_seekAll_9 : decode cX9_seekAll 9 = .ok (.aload_n 0, 1) := by decide +kernel
theorem dX9_seekAll_10 : decode cX9_seekAll 10 = .ok (.bipush 119, 2) := by decide +kernel
theorem dX9_seekAll_12 : decode cX9_seekAll 12 = .ok (.invokevirtual 103, 3) := by decide +kernel
theorem dX9_seekAll_15 : decode cX9_seekAll 15 = .ok (.pop, 1) := by decide +kernel
theorem dX9_seekAll_16 : decode cX9_seekAll 16 = .ok (.return_, 1) := by decide +kernel
theorem dX9_seekOn_0 : decode cX9_seekOn 0 = .ok (.aload_n 0, 1) := by decide +kernel
theorem dX9_seekOn_1 : decode cX9_seekOn 1 = .ok (.iconst 1, 1) := by decide +kernel
theorem dX9_seekOn_2 : decode cX9_seekOn 2 = .ok (.putfield 65, 3) := by decide +kernel
theorem dX9_seekOn_5 : decode cX9_seekOn 5 = .ok (.aload_n 0, 1) := by decide +kernel
theorem dX9_seekOn_6 : decode cX9_seekOn 6 = .ok (.iload_n 1, 1) := by decide +kernel
theorem dX9_seekOn_7 : decode cX9_seekOn 7 = .ok (.iconst 1, 1) := by decide +kernel
theorem dX9_seekOn_8 : decode cX9_seekOn 8 = .ok (.isub, 1) := by decide +kernel
theorem dX9_seekOn_9 : decode cX9_seekOn 9 = .ok (.putfield 110, 3) := by decide +kernel
theorem dX9_seekOn_12 : decode cX9_seekOn 12 = .ok (.aload_n 0, 1) := by decide +kernel
theorem dX9_seekOn_13 : decode cX9_seekOn 13 = .ok (.iconst (-1), 1) := by decide +kernel
theorem dX9_seekOn_14 : decode cX9_seekOn 14 = .ok (.putfield 113, 3) := by decide +kernel
theorem dX9_seekOn_17 : decode cX9_seekOn 17 = .ok (.aload_n 0, 1) := by decide +kernel
theorem dX9_seekOn_18 : decode cX9_seekOn 18 = .ok (.getfield 27, 3) := by decide +kernel
theorem dX9_seekOn_21 : decode cX9_seekOn 21 = .ok (.iconst 0, 1) := by decide +kernel
theorem dX9_seekOn_22 : decode cX9_seekOn 22 = .ok (.aload_n 0, 1) := by decide +kernel
theorem dX9_seekOn_23 : decode cX9_seekOn 23 = .ok (.getfield 23, 3) := by decide +kernel
theorem dX9_seekOn_26 : decode cX9_seekOn 26 = .ok (.iconst 0, 1) := by decide +kernel
theorem dX9_seekOn_27 : decode cX9_seekOn 27 = .ok (.sipush 12000, 3) := by decide +kernel
theorem dX9_seekOn_30 : decode cX9_seekOn 30 = .ok (.invokestatic 116, 3) := by decide +kernel
theorem dX9_seekOn_33 : decode cX9_seekOn 33 = .ok (.aload_n 0, 1) := by decide +kernel
theorem dX9_seekOn_34 : decode cX9_seekOn 34 = .ok (.bipush 119, 2) := by decide +kernel
theorem dX9_seekOn_36 : decode cX9_seekOn 36 = .ok (.invokevirtual 103, 3) := by decide +kernel
theorem dX9_seekOn_39 : decode cX9_seekOn 39 = .ok (.ireturn, 1) := by decide +kernel
theorem dX9_begin_0 : decode cX9_begin 0 = .ok (.aload_n 0, 1) := by decide +kernel
theorem dX9_begin_1 : decode cX9_begin 1 = .ok (.iload_n 1, 1) := by decide +kernel
theorem dX9_begin_2 : decode cX9_begin 2 = .ok (.putfield 65, 3) := by decide +kernel
theorem dX9_begin_5 : decode cX9_begin 5 = .ok (.aload_n 0, 1) := by decide +kernel
theorem dX9_begin_6 : decode cX9_begin 6 = .ok (.iload_n 2, 1) := by decide +kernel
theorem dX9_begin_7 : decode cX9_begin 7 = .ok (.putfield 110, 3) := by decide +kernel
theorem dX9_begin_10 : decode cX9_begin 10 = .ok (.aload_n 0, 1) := by decide +kernel
theorem dX9_begin_11 : decode cX9_begin 11 = .ok (.iconst (-1), 1) := by decide +kernel
theorem dX9_begin_12 : decode cX9_begin 12 = .ok (.putfield 113, 3) := by decide +kernel
theorem dX9_begin_15 : decode cX9_begin 15 = .ok (.aload_n 0, 1) := by decide +kernel
theorem dX9_begin_16 : decode cX9_begin 16 = .ok (.getfield 20, 3) := by decide +kernel
theorem dX9_begin_19 : decode cX9_begin 19 = .ok (.invokevirtual 122, 3) := by decide +kernel
theorem dX9_begin_22 : decode cX9_begin 22 = .ok (.aload_n 0, 1) := by decide +kernel
theorem dX9_begin_23 : decode cX9_begin 23 = .ok (.getfield 23, 3) := by decide +kernel
theorem dX9_begin_26 : decode cX9_begin 26 = .ok (.ldc 125, 2) := by decide +kernel
theorem dX9_begin_28 : decode cX9_begin 28 = .ok (.invokestatic 126, 3) := by decide +kernel
theorem dX9_begin_31 : decode cX9_begin 31 = .ok (.aload_n 0, 1) := by decide +kernel
theorem dX9_begin_32 : decode cX9_begin 32 = .ok (.getfield 89, 3) := by decide +kernel
theorem dX9_begin_35 : decode cX9_begin 35 = .ok (.iload_n 3, 1) := by decide +kernel
theorem dX9_begin_36 : decode cX9_begin 36 = .ok (.if_icmp .gt 16, 3) := by decide +kernel
theorem dX9_begin_39 : decode cX9_begin 39 = .ok (.aload_n 0, 1) := by decide +kernel
theorem dX9_begin_40 : decode cX9_begin 40 = .ok (.aload_n 0, 1) := by decide +kernel
theorem dX9_begin_41 : decode cX9_begin 41 = .ok (.getfield 89, 3) := by decide +kernel
theorem dX9_begin_44 : decode cX9_begin 44 = .ok (.aload_n 0, 1) := by decide +kernel
theorem dX9_begin_45 : decode cX9_begin 45 = .ok (.getfield 92, 3) := by decide +kernel
theorem dX9_begin_48 : decode cX9_begin 48 = .ok (.iconst 0, 1) := by decide +kernel
theorem dX9_begin_49 : decode cX9_begin 49 = .ok (.invokevirtual 132, 3) := by decide +kernel
theorem dX9_begin_52 : decode cX9_begin 52 = .ok (.return_, 1) := by decide +kernel
theorem dX9_run_0 : decode cX9_run 0 = .ok (.iload_n 1, 1) := by decide +kernel
theorem dX9_run_1 : decode cX9_run 1 = .ok (.bipush 119, 2) := by decide +kernel
theorem dX9_run_3 : decode cX9_run 3 = .ok (.invokestatic 135, 3) := by decide +kernel
theorem dX9_run_6 : decode cX9_run 6 = .ok (.istore_n 2, 1) := by decide +kernel
theorem dX9_run_7 : decode cX9_run 7 = .ok (.aload_n 0, 1) := by decide +kernel
theorem dX9_run_8 : decode cX9_run 8 = .ok (.getfield 89, 3) := by decide +kernel
theorem dX9_run_11 : decode cX9_run 11 = .ok (.istore_n 3, 1) := by decide +kernel
theorem dX9_run_12 : decode cX9_run 12 = .ok (.iload_n 3, 1) := by decide +kernel
theorem dX9_run_13 : decode cX9_run 13 = .ok (.iload_n 2, 1) := by decide +kernel
theorem dX9_run_14 : decode cX9_run 14 = .ok (.if_icmp .gt 92, 3) := by decide +kernel
theorem dX9_run_17 : decode cX9_run 17 = .ok (.aload_n 0, 1) := by decide +kernel
theorem dX9_run_18 : decode cX9_run 18 = .ok (.getfield 110, 3) := by decide +kernel
theorem dX9_run_21 : decode cX9_run 21 = .ok (.ifCond .lt 85, 3) := by decide +kernel
theorem dX9_run_24 : decode cX9_run 24 = .ok (.iconst 0, 1) := by decide +kernel
theorem dX9_run_25 : decode cX9_run 25 = .ok (.istore 4, 2) := by decide +kernel
theorem dX9_run_27 : decode cX9_run 27 = .ok (.iload 4, 2) := by decide +kernel
theorem dX9_run_29 : decode cX9_run 29 = .ok (.iconst 2, 1) := by decide +kernel
theorem dX9_run_30 : decode cX9_run 30 = .ok (.if_icmp .ge 70, 3) := by decide +kernel
theorem dX9_run_33 : decode cX9_run 33 = .ok (.aload_n 0, 1) := by decide +kernel
theorem dX9_run_34 : decode cX9_run 34 = .ok (.getfield 20, 3) := by decide +kernel
theorem dX9_run_37 : decode cX9_run 37 = .ok (.iload_n 3, 1) := by decide +kernel
theorem dX9_run_38 : decode cX9_run 38 = .ok (.iload 4, 2) := by decide +kernel
theorem dX9_run_40 : decode cX9_run 40 = .ok (.invokevirtual 138, 3) := by decide +kernel
theorem dX9_run_43 : decode cX9_run 43 = .ok (.lstore 5, 2) := by decide +kernel
theorem dX9_run_45 : decode cX9_run 45 = .ok (.iconst 0, 1) := by decide +kernel
theorem dX9_run_46 : decode cX9_run 46 = .ok (.istore 7, 2) := by decide +kernel
theorem dX9_run_48 : decode cX9_run 48 = .ok (.iload 7, 2) := by decide +kernel
theorem dX9_run_50 : decode cX9_run 50 = .ok (.bipush 64, 2) := by decide +kernel
theorem dX9_run_52 : decode cX9_run 52 = .ok (.if_icmp .ge 42, 3) := by decide +kernel
theorem dX9_run_55 : decode cX9_run 55 = .ok (.lload 5, 2) := by decide +kernel
theorem dX9_run_57 : decode cX9_run 57 = .ok (.lconst 0, 1) := by decide +kernel
theorem dX9_run_58 : decode cX9_run 58 = .ok (.lcmp, 1) := by decide +kernel
theorem dX9_run_59 : decode cX9_run 59 = .ok (.ifCond .eq 35, 3) := by decide +kernel
theorem dX9_run_62 : decode cX9_run 62 = .ok (.aload_n 0, 1) := by decide +kernel
theorem dX9_run_63 : decode cX9_run 63 = .ok (.iload_n 3, 1) := by decide +kernel
theorem dX9_run_64 : decode cX9_run 64 = .ok (.bipush 64, 2) := by decide +kernel
theorem dX9_run_66 : decode cX9_run 66 = .ok (.iload 4, 2) := by decide +kernel
theorem dX9_run_68 : decode cX9_run 68 = .ok (.imul, 1) := by decide +kernel
theorem dX9_run_69 : decode cX9_run 69 = .ok (.lload 5, 2) := by decide +kernel
theorem dX9_run_71 : decode cX9_run 71 = .ok (.invokestatic 142, 3) := by decide +kernel
theorem dX9_run_74 : decode cX9_run 74 = .ok (.iadd, 1) := by decide +kernel
theorem dX9_run_75 : decode cX9_run 75 = .ok (.iload_n 2, 1) := by decide +kernel
theorem dX9_run_76 : decode cX9_run 76 = .ok (.invokevirtual 146, 3) := by decide +kernel
theorem dX9_run_79 : decode cX9_run 79 = .ok (.lload 5, 2) := by decide +kernel
theorem dX9_run_81 : decode cX9_run 81 = .ok (.lload 5, 2) := by decide +kernel
theorem dX9_run_83 : decode cX9_run 83 = .ok (.lconst 1, 1) := by decide +kernel
theorem dX9_run_84 : decode cX9_run 84 = .ok (.lsub, 1) := by decide +kernel
theorem dX9_run_85 : decode cX9_run 85 = .ok (.land, 1) := by decide +kernel
theorem dX9_run_86 : decode cX9_run 86 = .ok (.lstore 5, 2) := by decide +kernel
theorem dX9_run_88 : decode cX9_run 88 = .ok (.iinc 7 1, 3) := by decide +kernel
theorem dX9_run_91 : decode cX9_run 91 = .ok (.goto (-43), 3) := by decide +kernel
theorem dX9_run_94 : decode cX9_run 94 = .ok (.iinc 4 1, 3) := by decide +kernel
theorem dX9_run_97 : decode cX9_run 97 = .ok (.goto (-70), 3) := by decide +kernel
theorem dX9_run_100 : decode cX9_run 100 = .ok (.iinc 3 1, 3) := by decide +kernel
theorem dX9_run_103 : decode cX9_run 103 = .ok (.goto (-91), 3) := by decide +kernel
theorem dX9_run_106 : decode cX9_run 106 = .ok (.aload_n 0, 1) := by decide +kernel
theorem dX9_run_107 : decode cX9_run 107 = .ok (.getfield 113, 3) := by decide +kernel
theorem dX9_run_110 : decode cX9_run 110 = .ok (.iconst (-1), 1) := by decide +kernel
theorem dX9_run_111 : decode cX9_run 111 = .ok (.if_icmp .eq 7, 3) := by decide +kernel
theorem dX9_run_114 : decode cX9_run 114 = .ok (.iconst 1, 1) := by decide +kernel
theorem dX9_run_115 : decode cX9_run 115 = .ok (.goto 4, 3) := by decide +kernel
theorem dX9_run_118 : decode cX9_run 118 = .ok (.iconst 0, 1) := by decide +kernel
theorem dX9_run_119 : decode cX9_run 119 = .ok (.ireturn, 1) := by decide +kernel
theorem dX9_goOn_0 : decode cX9_goOn 0 = .ok (.aload_n 0, 1) := by decide +kernel
theorem dX9_goOn_1 : decode cX9_goOn 1 = .ok (.iload_n 1, 1) := by decide +kernel
theorem dX9_goOn_2 : decode cX9_goOn 2 = .ok (.iload_n 2, 1) := by decide +kernel
theorem dX9_goOn_3 : decode cX9_goOn 3 = .ok (.invokevirtual 149, 3) := by decide +kernel
theorem dX9_goOn_6 : decode cX9_goOn 6 = .ok (.istore 4, 2) := by decide +kernel
theorem dX9_goOn_8 : decode cX9_goOn 8 = .ok (.iload 4, 2) := by decide +kernel
theorem dX9_goOn_10 : decode cX9_goOn 10 = .ok (.aload_n 0, 1) := by decide +kernel
theorem dX9_goOn_11 : decode cX9_goOn 11 = .ok (.getfield 110, 3) := by decide +kernel
theorem dX9_goOn_14 : decode cX9_goOn 14 = .ok (.if_icmp .gt 11, 3) := by decide +kernel
theorem dX9_goOn_17 : decode cX9_goOn 17 = .ok (.iload_n 2, 1) := by decide +kernel
theorem dX9_goOn_18 : decode cX9_goOn 18 = .ok (.aload_n 0, 1) := by decide +kernel
theorem dX9_goOn_19 : decode cX9_goOn 19 = .ok (.getfield 95, 3) := by decide +kernel
theorem dX9_goOn_22 : decode cX9_goOn 22 = .ok (.if_icmp .ne 4, 3) := by decide +kernel
theorem dX9_goOn_25 : decode cX9_goOn 25 = .ok (.return_, 1) := by decide +kernel
theorem dX9_goOn_26 : decode cX9_goOn 26 = .ok (.aload_n 0, 1) := by decide +kernel
theorem dX9_goOn_27 : decode cX9_goOn 27 = .ok (.iload 4, 2) := by decide +kernel
theorem dX9_goOn_29 : decode cX9_goOn 29 = .ok (.iload_n 1, 1) := by decide +kernel
theorem dX9_goOn_30 : decode cX9_goOn 30 = .ok (.iload_n 2, 1) := by decide +kernel
theorem dX9_goOn_31 : decode cX9_goOn 31 = .ok (.invokevirtual 152, 3) := by decide +kernel
theorem dX9_goOn_34 : decode cX9_goOn 34 = .ok (.istore 4, 2) := by decide +kernel
theorem dX9_goOn_36 : decode cX9_goOn 36 = .ok (.iload 4, 2) := by decide +kernel
theorem dX9_goOn_38 : decode cX9_goOn 38 = .ok (.aload_n 0, 1) := by decide +kernel
theorem dX9_goOn_39 : decode cX9_goOn 39 = .ok (.getfield 110, 3) := by decide +kernel
theorem dX9_goOn_42 : decode cX9_goOn 42 = .ok (.if_icmp .gt 25, 3) := by decide +kernel
theorem dX9_goOn_45 : decode cX9_goOn 45 = .ok (.aload_n 0, 1) := by decide +kernel
theorem dX9_goOn_46 : decode cX9_goOn 46 = .ok (.getfield 61, 3) := by decide +kernel
theorem dX9_goOn_49 : decode cX9_goOn 49 = .ok (.ifCond .eq 18, 3) := by decide +kernel
theorem dX9_goOn_52 : decode cX9_goOn 52 = .ok (.iload_n 1, 1) := by decide +kernel
theorem dX9_goOn_53 : decode cX9_goOn 53 = .ok (.iload_n 3, 1) := by decide +kernel
theorem dX9_goOn_54 : decode cX9_goOn 54 = .ok (.if_icmp .ge 13, 3) := by decide +kernel
theorem dX9_goOn_57 : decode cX9_goOn 57 = .ok (.aload_n 0, 1) := by decide +kernel
theorem dX9_goOn_58 : decode cX9_goOn 58 = .ok (.iload_n 1, 1) := by decide +kernel
theorem dX9_goOn_59 : decode cX9_goOn 59 = .ok (.iconst 1, 1) := by decide +kernel
theorem dX9_goOn_60 : decode cX9_goOn 60 = .ok (.iadd, 1) := by decide +kernel
theorem dX9_goOn_61 : decode cX9_goOn 61 = .ok (.iload_n 2, 1) := by decide +kernel
theorem dX9_goOn_62 : decode cX9_goOn 62 = .ok (.iload 4, 2) := by decide +kernel
theorem dX9_goOn_64 : decode cX9_goOn 64 = .ok (.invokevirtual 132, 3) := by decide +kernel
theorem dX9_goOn_67 : decode cX9_goOn 67 = .ok (.iload_n 1, 1) := by decide +kernel
theorem dX9_goOn_68 : decode cX9_goOn 68 = .ok (.aload_n 0, 1) := by decide +kernel
theorem dX9_goOn_69 : decode cX9_goOn 69 = .ok (.getfield 43, 3) := by decide +kernel
theorem dX9_goOn_72 : decode cX9_goOn 72 = .ok (.getfield 156, 3) := by decide +kernel
theorem dX9_goOn_75 : decode cX9_goOn 75 = .ok (.iadd, 1) := by decide +kernel
theorem dX9_goOn_76 : decode cX9_goOn 76 = .ok (.istore 5, 2) := by decide +kernel
theorem dX9_goOn_78 : decode cX9_goOn 78 = .ok (.iload_n 1, 1) := by decide +kernel
theorem dX9_goOn_79 : decode cX9_goOn 79 = .ok (.iconst 1, 1) := by decide +kernel
theorem dX9_goOn_80 : decode cX9_goOn 80 = .ok (.iadd, 1) := by decide +kernel
theorem dX9_goOn_81 : decode cX9_goOn 81 = .ok (.istore 6, 2) := by decide +kernel
theorem dX9_goOn_83 : decode cX9_goOn 83 = .ok (.iload 6, 2) := by decide +kernel
theorem dX9_goOn_85 : decode cX9_goOn 85 = .ok (.iload 5, 2) := by decide +kernel
theorem dX9_goOn_87 : decode cX9_goOn 87 = .ok (.if_icmp .ge 29, 3) := by decide +kernel
theorem dX9_goOn_90 : decode cX9_goOn 90 = .ok (.iload 4, 2) := by decide +kernel
theorem dX9_goOn_92 : decode cX9_goOn 92 = .ok (.aload_n 0, 1) := by decide +kernel
theorem dX9_goOn_93 : decode cX9_goOn 93 = .ok (.getfield 110, 3) := by decide +kernel
theorem dX9_goOn_96 : decode cX9_goOn 96 = .ok (.if_icmp .gt 20, 3) := by decide +kernel
theorem dX9_goOn_99 : decode cX9_goOn 99 = .ok (.aload_n 0, 1) := by decide +kernel
theorem dX9_goOn_100 : decode cX9_goOn 100 = .ok (.iload 4, 2) := by decide +kernel
theorem dX9_goOn_102 : decode cX9_goOn 102 = .ok (.iload 6, 2) := by decide +kernel
theorem dX9_goOn_104 : decode cX9_goOn 104 = .ok (.iload_n 2, 1) := by decide +kernel
theorem dX9_goOn_105 : decode cX9_goOn 105 = .ok (.invokevirtual 152, 3) := by decide +kernel
theorem dX9_goOn_108 : decode cX9_goOn 108 = .ok (.istore 4, 2) := by decide +kernel
theorem dX9_goOn_110 : decode cX9_goOn 110 = .ok (.iinc 6 1, 3) := by decide +kernel
theorem dX9_goOn_113 : decode cX9_goOn 113 = .ok (.goto (-30), 3) := by decide +kernel
theorem dX9_goOn_116 : decode cX9_goOn 116 = .ok (.iconst 0, 1) := by decide +kernel
theorem dX9_goOn_117 : decode cX9_goOn 117 = .ok (.istore 6, 2) := by decide +kernel
theorem dX9_goOn_119 : decode cX9_goOn 119 = .ok (.iload 6, 2) := by decide +kernel
theorem dX9_goOn_121 : decode cX9_goOn 121 = .ok (.iconst 4, 1) := by decide +kernel
theorem dX9_goOn_122 : decode cX9_goOn 122 = .ok (.if_icmp .ge 106, 3) := by decide +kernel
theorem dX9_goOn_125 : decode cX9_goOn 125 = .ok (.iload 4, 2) := by decide +kernel
theorem dX9_goOn_127 : decode cX9_goOn 127 = .ok (.aload_n 0, 1) := by decide +kernel
theorem dX9_goOn_128 : decode cX9_goOn 128 = .ok (.getfield 110, 3) := by decide +kernel
theorem dX9_goOn_131 : decode cX9_goOn 131 = .ok (.if_icmp .gt 97, 3) := by decide +kernel
theorem dX9_goOn_134 : decode cX9_goOn 134 = .ok (.iload 5, 2) := by decide +kernel
theorem dX9_goOn_136 : decode cX9_goOn 136 = .ok (.iload_n 3, 1) := by decide +kernel
theorem dX9_goOn_137 : decode cX9_goOn 137 = .ok (.if_icmp .gt 91, 3) := by decide +kernel
theorem dX9_goOn_140 : decode cX9_goOn 140 = .ok (.aload_n 0, 1) := by decide +kernel
theorem dX9_goOn_141 : decode cX9_goOn 141 = .ok (.getfield 47, 3) := by decide +kernel
theorem dX9_goOn_144 : decode cX9_goOn 144 = .ok (.iload_n 2, 1) := by decide +kernel
theorem dX9_goOn_145 : decode cX9_goOn 145 = .ok (.iload 6, 2) := by decide +kernel
theorem dX9_goOn_147 : decode cX9_goOn 147 = .ok (.invokevirtual 159, 3) := by decide +kernel
theorem dX9_goOn_150 : decode cX9_goOn 150 = .ok (.istore 7, 2) := by decide +kernel
theorem dX9_goOn_152 : decode cX9_goOn 152 = .ok (.iload 7, 2) := by decide +kernel
theorem dX9_goOn_154 : decode cX9_goOn 154 = .ok (.ifCond .lt 68, 3) := by decide +kernel
theorem dX9_goOn_157 : decode cX9_goOn 157 = .ok (.aload_n 0, 1) := by decide +kernel
theorem dX9_goOn_158 : decode cX9_goOn 158 = .ok (.getfield 47, 3) := by decide +kernel
theorem dX9_goOn_161 : decode cX9_goOn 161 = .ok (.getfield 162, 3) := by decide +kernel
theorem dX9_goOn_164 : decode cX9_goOn 164 = .ok (.getfield 166, 3) := by decide +kernel
theorem dX9_goOn_167 : decode cX9_goOn 167 = .ok (.ifCond .eq 14, 3) := by decide +kernel
theorem dX9_goOn_170 : decode cX9_goOn 170 = .ok (.aload_n 0, 1) := by decide +kernel
theorem dX9_goOn_171 : decode cX9_goOn 171 = .ok (.iload 5, 2) := by decide +kernel
theorem dX9_goOn_173 : decode cX9_goOn 173 = .ok (.iload 7, 2) := by decide +kernel
theorem dX9_goOn_175 : decode cX9_goOn 175 = .ok (.invokevirtual 171, 3) := by decide +kernel
theorem dX9_goOn_178 : decode cX9_goOn 178 = .ok (.ifCond .ne 44, 3) := by decide +kernel
theorem dX9_goOn_181 : decode cX9_goOn 181 = .ok (.aload_n 0, 1) := by decide +kernel
theorem dX9_goOn_182 : decode cX9_goOn 182 = .ok (.iload 5, 2) := by decide +kernel
theorem dX9_goOn_184 : decode cX9_goOn 184 = .ok (.iload 7, 2) := by decide +kernel
theorem dX9_goOn_186 : decode cX9_goOn 186 = .ok (.aload_n 0, 1) := by decide +kernel
theorem dX9_goOn_187 : decode cX9_goOn 187 = .ok (.getfield 65, 3) := by decide +kernel
theorem dX9_goOn_190 : decode cX9_goOn 190 = .ok (.iconst 3, 1) := by decide +kernel
theorem dX9_goOn_191 : decode cX9_goOn 191 = .ok (.if_icmp .ne 26, 3) := by decide +kernel
theorem dX9_goOn_194 : decode cX9_goOn 194 = .ok (.aload_n 0, 1) := by decide +kernel
theorem dX9_goOn_195 : decode cX9_goOn 195 = .ok (.getfield 47, 3) := by decide +kernel
theorem dX9_goOn_198 : decode cX9_goOn 198 = .ok (.getfield 162, 3) := by decide +kernel
theorem dX9_goOn_201 : decode cX9_goOn 201 = .ok (.getfield 175, 3) := by decide +kernel
theorem dX9_goOn_204 : decode cX9_goOn 204 = .ok (.iconst 0, 1) := by decide +kernel
theorem dX9_goOn_205 : decode cX9_goOn 205 = .ok (.iload 7, 2) := by decide +kernel
theorem dX9_goOn_207 : decode cX9_goOn 207 = .ok (.invokevirtual 178, 3) := by decide +kernel
theorem dX9_goOn_210 : decode cX9_goOn 210 = .ok (.ifCond .eq 7, 3) := by decide +kernel
theorem dX9_goOn_213 : decode cX9_goOn 213 = .ok (.iconst 0, 1) := by decide +kernel
theorem dX9_goOn_214 : decode cX9_goOn 214 = .ok (.goto 5, 3) := by decide +kernel
theorem dX9_goOn_217 : decode cX9_goOn 217 = .ok (.iload 4, 2) := by decide +kernel
theorem dX9_goOn_219 : decode cX9_goOn 219 = .ok (.invokevirtual 132, 3) := by decide +kernel
theorem dX9_goOn_222 : decode cX9_goOn 222 = .ok (.iinc 6 1, 3) := by decide +kernel
theorem dX9_goOn_225 : decode cX9_goOn 225 = .ok (.goto (-106), 3) := by decide +kernel
theorem dX9_goOn_228 : decode cX9_goOn 228 = .ok (.return_, 1) := by decide +kernel
theorem dX9_after_0 : decode cX9_after 0 = .ok (.aload_n 0, 1) := by decide +kernel
theorem dX9_after_1 : decode cX9_after 1 = .ok (.getfield 14, 3) := by decide +kernel
theorem dX9_after_4 : decode cX9_after 4 = .ok (.iload_n 2, 1) := by decide +kernel
theorem dX9_after_5 : decode cX9_after 5 = .ok (.iload_n 3, 1) := by decide +kernel
theorem dX9_after_6 : decode cX9_after 6 = .ok (.invokevirtual 178, 3) := by decide +kernel
theorem dX9_after_9 : decode cX9_after 9 = .ok (.istore 4, 2) := by decide +kernel
theorem dX9_after_11 : decode cX9_after 11 = .ok (.aload_n 0, 1) := by decide +kernel
theorem dX9_after_12 : decode cX9_after 12 = .ok (.getfield 65, 3) := by decide +kernel
theorem dX9_after_15 : decode cX9_after 15 = .ok (.iconst 3, 1) := by decide +kernel
theorem dX9_after_16 : decode cX9_after 16 = .ok (.if_icmp .ne 49, 3) := by decide +kernel
theorem dX9_after_19 : decode cX9_after 19 = .ok (.iload 4, 2) := by decide +kernel
theorem dX9_after_21 : decode cX9_after 21 = .ok (.ifCond .eq 19, 3) := by decide +kernel
theorem dX9_after_24 : decode cX9_after 24 = .ok (.iconst 0, 1) := by decide +kernel
theorem dX9_after_25 : decode cX9_after 25 = .ok (.iload_n 1, 1) := by decide +kernel
theorem dX9_after_26 : decode cX9_after 26 = .ok (.aload_n 0, 1) := by decide +kernel
theorem dX9_after_27 : decode cX9_after 27 = .ok (.getfield 43, 3) := by decide +kernel
theorem dX9_after_30 : decode cX9_after 30 = .ok (.getfield 181, 3) := by decide +kernel
theorem dX9_after_33 : decode cX9_after 33 = .ok (.isub, 1) := by decide +kernel
theorem dX9_after_34 : decode cX9_after 34 = .ok (.invokestatic 84, 3) := by decide +kernel
theorem dX9_after_37 : decode cX9_after 37 = .ok (.goto 6, 3) := by decide +kernel
theorem dX9_after_40 : decode cX9_after 40 = .ok (.iload_n 1, 1) := by decide +kernel
theorem dX9_after_41 : decode cX9_after 41 = .ok (.iconst 1, 1) := by decide +kernel
theorem dX9_after_42 : decode cX9_after 42 = .ok (.iadd, 1) := by decide +kernel
theorem dX9_after_43 : decode cX9_after 43 = .ok (.istore 5, 2) := by decide +kernel
theorem dX9_after_45 : decode cX9_after 45 = .ok (.iload 5, 2) := by decide +kernel
theorem dX9_after_47 : decode cX9_after 47 = .ok (.aload_n 0, 1) := by decide +kernel
theorem dX9_after_48 : decode cX9_after 48 = .ok (.getfield 43, 3) := by decide +kernel
theorem dX9_after_51 : decode cX9_after 51 = .ok (.getfield 107, 3) := by decide +kernel
theorem dX9_after_54 : decode cX9_after 54 = .ok (.if_icmp .le 8, 3) := by decide +kernel
theorem dX9_after_57 : decode cX9_after 57 = .ok (.ldc 125, 2) := by decide +kernel
theorem dX9_after_59 : decode cX9_after 59 = .ok (.goto 5, 3) := by decide +kernel
theorem dX9_after_62 : decode cX9_after 62 = .ok (.iload 5, 2) := by decide +kernel
theorem dX9_after_64 : decode cX9_after 64 = .ok (.ireturn, 1) := by decide +kernel
theorem dX9_after_65 : decode cX9_after 65 = .ok (.iload_n 2, 1) := by decide +kernel
theorem dX9_after_66 : decode cX9_after 66 = .ok (.bipush 100, 2) := by decide +kernel
theorem dX9_after_68 : decode cX9_after 68 = .ok (.imul, 1) := by decide +kernel
theorem dX9_after_69 : decode cX9_after 69 = .ok (.iload_n 3, 1) := by decide +kernel
theorem dX9_after_70 : decode cX9_after 70 = .ok (.iadd, 1) := by decide +kernel
theorem dX9_after_71 : decode cX9_after 71 = .ok (.istore 5, 2) := by decide +kernel
theorem dX9_after_73 : decode cX9_after 73 = .ok (.aload_n 0, 1) := by decide +kernel
theorem dX9_after_74 : decode cX9_after 74 = .ok (.getfield 184, 3) := by decide +kernel
theorem dX9_after_77 : decode cX9_after 77 = .ok (.ifnull 18, 3) := by decide +kernel
theorem dX9_after_80 : decode cX9_after 80 = .ok (.iload 5, 2) := by decide +kernel
theorem dX9_after_82 : decode cX9_after 82 = .ok (.ifCond .lt 13, 3) := by decide +kernel
theorem dX9_after_85 : decode cX9_after 85 = .ok (.iload 5, 2) := by decide +kernel
theorem dX9_after_87 : decode cX9_after 87 = .ok (.aload_n 0, 1) := by decide +kernel
theorem dX9_after_88 : decode cX9_after 88 = .ok (.getfield 184, 3) := by decide +kernel
theorem dX9_after_91 : decode cX9_after 91 = .ok (.arraylength, 1) := by decide +kernel
theorem dX9_after_92 : decode cX9_after 92 = .ok (.if_icmp .lt 7, 3) := by decide +kernel
theorem dX9_after_95 : decode cX9_after 95 = .ok (.iconst 0, 1) := by decide +kernel
theorem dX9_after_96 : decode cX9_after 96 = .ok (.goto 10, 3) := by decide +kernel
theorem dX9_after_99 : decode cX9_after 99 = .ok (.aload_n 0, 1) := by decide +kernel
theorem dX9_after_100 : decode cX9_after 100 = .ok (.getfield 184, 3) := by decide +kernel
theorem dX9_after_103 : decode cX9_after 103 = .ok (.iload 5, 2) := by decide +kernel
theorem dX9_after_105 : decode cX9_after 105 = .ok (.iaload, 1) := by decide +kernel
theorem dX9_after_106 : decode cX9_after 106 = .ok (.istore 6, 2) := by decide +kernel
theorem dX9_after_108 : decode cX9_after 108 = .ok (.iload_n 1, 1) := by decide +kernel
theorem dX9_after_109 : decode cX9_after 109 = .ok (.iload 4, 2) := by decide +kernel
theorem dX9_after_111 : decode cX9_after 111 = .ok (.ifCond .eq 10, 3) := by decide +kernel
theorem dX9_after_114 : decode cX9_after 114 = .ok (.aload_n 0, 1) := by decide +kernel
theorem dX9_after_115 : decode cX9_after 115 = .ok (.getfield 58, 3) := by decide +kernel
theorem dX9_after_118 : decode cX9_after 118 = .ok (.goto 7, 3) := by decide +kernel
theorem dX9_after_121 : decode cX9_after 121 = .ok (.aload_n 0, 1) := by decide +kernel
theorem dX9_after_122 : decode cX9_after 122 = .ok (.getfield 55, 3) := by decide +kernel
theorem dX9_after_125 : decode cX9_after 125 = .ok (.iadd, 1) := by decide +kernel
theorem dX9_after_126 : decode cX9_after 126 = .ok (.iload 6, 2) := by decide +kernel
theorem dX9_after_128 : decode cX9_after 128 = .ok (.iadd, 1) := by decide +kernel
theorem dX9_after_129 : decode cX9_after 129 = .ok (.ireturn, 1) := by decide +kernel
theorem dX9_offer_0 : decode cX9_offer 0 = .ok (.iload_n 1, 1) := by decide +kernel
theorem dX9_offer_1 : decode cX9_offer 1 = .ok (.bipush 100, 2) := by decide +kernel
theorem dX9_offer_3 : decode cX9_offer 3 = .ok (.imul, 1) := by decide +kernel
theorem dX9_offer_4 : decode cX9_offer 4 = .ok (.iload_n 2, 1) := by decide +kernel
theorem dX9_offer_5 : decode cX9_offer 5 = .ok (.iadd, 1) := by decide +kernel
theorem dX9_offer_6 : decode cX9_offer 6 = .ok (.istore 4, 2) := by decide +kernel
theorem dX9_offer_8 : decode cX9_offer 8 = .ok (.iload_n 3, 1) := by decide +kernel
theorem dX9_offer_9 : decode cX9_offer 9 = .ok (.aload_n 0, 1) := by decide +kernel
theorem dX9_offer_10 : decode cX9_offer 10 = .ok (.getfield 110, 3) := by decide +kernel
theorem dX9_offer_13 : decode cX9_offer 13 = .ok (.if_icmp .gt 29, 3) := by decide +kernel
theorem dX9_offer_16 : decode cX9_offer 16 = .ok (.iload 4, 2) := by decide +kernel
theorem dX9_offer_18 : decode cX9_offer 18 = .ok (.ifCond .lt 24, 3) := by decide +kernel
theorem dX9_offer_21 : decode cX9_offer 21 = .ok (.iload 4, 2) := by decide +kernel
theorem dX9_offer_23 : decode cX9_offer 23 = .ok (.aload_n 0, 1) := by decide +kernel
theorem dX9_offer_24 : decode cX9_offer 24 = .ok (.getfield 23, 3) := by decide +kernel
theorem dX9_offer_27 : decode cX9_offer 27 = .ok (.arraylength, 1) := by decide +kernel
theorem dX9_offer_28 : decode cX9_offer 28 = .ok (.if_icmp .ge 14, 3) := by decide +kernel
theorem dX9_offer_31 : decode cX9_offer 31 = .ok (.iload_n 3, 1) := by decide +kernel
theorem dX9_offer_32 : decode cX9_offer 32 = .ok (.aload_n 0, 1) := by decide +kernel
theorem dX9_offer_33 : decode cX9_offer 33 = .ok (.getfield 23, 3) := by decide +kernel
theorem dX9_offer_36 : decode cX9_offer 36 = .ok (.iload 4, 2) := by decide +kernel
theorem dX9_offer_38 : decode cX9_offer 38 = .ok (.iaload, 1) := by decide +kernel
theorem dX9_offer_39 : decode cX9_offer 39 = .ok (.if_icmp .lt 4, 3) := by decide +kernel
theorem dX9_offer_42 : decode cX9_offer 42 = .ok (.return_, 1) := by decide +kernel
theorem dX9_offer_43 : decode cX9_offer 43 = .ok (.aload_n 0, 1) := by decide +kernel
theorem dX9_offer_44 : decode cX9_offer 44 = .ok (.getfield 23, 3) := by decide +kernel
theorem dX9_offer_47 : decode cX9_offer 47 = .ok (.iload 4, 2) := by decide +kernel
theorem dX9_offer_49 : decode cX9_offer 49 = .ok (.iload_n 3, 1) := by decide +kernel
theorem dX9_offer_50 : decode cX9_offer 50 = .ok (.iastore, 1) := by decide +kernel
theorem dX9_offer_51 : decode cX9_offer 51 = .ok (.aload_n 0, 1) := by decide +kernel
theorem dX9_offer_52 : decode cX9_offer 52 = .ok (.getfield 20, 3) := by decide +kernel
theorem dX9_offer_55 : decode cX9_offer 55 = .ok (.iload_n 1, 1) := by decide +kernel
theorem dX9_offer_56 : decode cX9_offer 56 = .ok (.iload_n 2, 1) := by decide +kernel
theorem dX9_offer_57 : decode cX9_offer 57 = .ok (.invokevirtual 187, 3) := by decide +kernel
theorem dX9_offer_60 : decode cX9_offer 60 = .ok (.iload_n 2, 1) := by decide +kernel
theorem dX9_offer_61 : decode cX9_offer 61 = .ok (.aload_n 0, 1) := by decide +kernel
theorem dX9_offer_62 : decode cX9_offer 62 = .ok (.getfield 95, 3) := by decide +kernel
theorem dX9_offer_65 : decode cX9_offer 65 = .ok (.if_icmp .ne 46, 3) := by decide +kernel
theorem dX9_offer_68 : decode cX9_offer 68 = .ok (.aload_n 0, 1) := by decide +kernel
theorem dX9_offer_69 : decode cX9_offer 69 = .ok (.iload_n 3, 1) := by decide +kernel
theorem dX9_offer_70 : decode cX9_offer 70 = .ok (.putfield 191, 3) := by decide +kernel
theorem dX9_offer_73 : decode cX9_offer 73 = .ok (.aload_n 0, 1) := by decide +kernel
theorem dX9_offer_74 : decode cX9_offer 74 = .ok (.iload_n 1, 1) := by decide +kernel
theorem dX9_offer_75 : decode cX9_offer 75 = .ok (.putfield 113, 3) := by decide +kernel
theorem dX9_offer_78 : decode cX9_offer 78 = .ok (.aload_n 0, 1) := by decide +kernel
theorem dX9_offer_79 : decode cX9_offer 79 = .ok (.aload_n 0, 1) := by decide +kernel
theorem dX9_offer_80 : decode cX9_offer 80 = .ok (.getfield 65, 3) := by decide +kernel
theorem dX9_offer_83 : decode cX9_offer 83 = .ok (.ifCond .ne 10, 3) := by decide +kernel
theorem dX9_offer_86 : decode cX9_offer 86 = .ok (.aload_n 0, 1) := by decide +kernel
theorem dX9_offer_87 : decode cX9_offer 87 = .ok (.getfield 110, 3) := by decide +kernel
theorem dX9_offer_90 : decode cX9_offer 90 = .ok (.goto 18, 3) := by decide +kernel
theorem dX9_offer_93 : decode cX9_offer 93 = .ok (.aload_n 0, 1) := by decide +kernel
theorem dX9_offer_94 : decode cX9_offer 94 = .ok (.getfield 65, 3) := by decide +kernel
theorem dX9_offer_97 : decode cX9_offer 97 = .ok (.iconst 1, 1) := by decide +kernel
theorem dX9_offer_98 : decode cX9_offer 98 = .ok (.if_icmp .ne 9, 3) := by decide +kernel
theorem dX9_offer_101 : decode cX9_offer 101 = .ok (.iload_n 3, 1) := by decide +kernel
theorem dX9_offer_102 : decode cX9_offer 102 = .ok (.iconst 1, 1) := by decide +kernel
theorem dX9_offer_103 : decode cX9_offer 103 = .ok (.isub, 1) := by decide +kernel
theorem dX9_offer_104 : decode cX9_offer 104 = .ok (.goto 4, 3) := by decide +kernel
theorem dX9_offer_107 : decode cX9_offer 107 = .ok (.iconst (-1), 1) := by decide +kernel
theorem dX9_offer_108 : decode cX9_offer 108 = .ok (.putfield 110, 3) := by decide +kernel
theorem dX9_offer_111 : decode cX9_offer 111 = .ok (.return_, 1) := by decide +kernel
theorem dX9_isShut_0 : decode cX9_isShut 0 = .ok (.aload_n 0, 1) := by decide +kernel
theorem dX9_isShut_1 : decode cX9_isShut 1 = .ok (.getfield 47, 3) := by decide +kernel
theorem dX9_isShut_4 : decode cX9_isShut 4 = .ok (.getfield 162, 3) := by decide +kernel
theorem dX9_isShut_7 : decode cX9_isShut 7 = .ok (.getfield 194, 3) := by decide +kernel
theorem dX9_isShut_10 : decode cX9_isShut 10 = .ok (.aload_n 0, 1) := by decide +kernel
theorem dX9_isShut_11 : decode cX9_isShut 11 = .ok (.getfield 51, 3) := by decide +kernel
theorem dX9_isShut_14 : decode cX9_isShut 14 = .ok (.iload_n 1, 1) := by decide +kernel
theorem dX9_isShut_15 : decode cX9_isShut 15 = .ok (.invokestatic 76, 3) := by decide +kernel
theorem dX9_isShut_18 : decode cX9_isShut 18 = .ok (.iload_n 2, 1) := by decide +kernel
theorem dX9_isShut_19 : decode cX9_isShut 19 = .ok (.invokevirtual 178, 3) := by decide +kernel
theorem dX9_isShut_22 : decode cX9_isShut 22 = .ok (.ireturn, 1) := by decide +kernel
theorem dX9_reached_0 : decode cX9_reached 0 = .ok (.iload_n 1, 1) := by decide +kernel
theorem dX9_reached_1 : decode cX9_reached 1 = .ok (.bipush 100, 2) := by decide +kernel
theorem dX9_reached_3 : decode cX9_reached 3 = .ok (.imul, 1) := by decide +kernel
theorem dX9_reached_4 : decode cX9_reached 4 = .ok (.iload_n 2, 1) := by decide +kernel
theorem dX9_reached_5 : decode cX9_reached 5 = .ok (.iadd, 1) := by decide +kernel
theorem dX9_reached_6 : decode cX9_reached 6 = .ok (.istore_n 3, 1) := by decide +kernel
theorem dX9_reached_7 : decode cX9_reached 7 = .ok (.iload_n 2, 1) := by decide +kernel
theorem dX9_reached_8 : decode cX9_reached 8 = .ok (.ifCond .lt 16, 3) := by decide +kernel
theorem dX9_reached_11 : decode cX9_reached 11 = .ok (.iload_n 3, 1) := by decide +kernel
theorem dX9_reached_12 : decode cX9_reached 12 = .ok (.ifCond .lt 12, 3) := by decide +kernel
theorem dX9_reached_15 : decode cX9_reached 15 = .ok (.iload_n 3, 1) := by decide +kernel
theorem dX9_reached_16 : decode cX9_reached 16 = .ok (.aload_n 0, 1) := by decide +kernel
theorem dX9_reached_17 : decode cX9_reached 17 = .ok (.getfield 23, 3) := by decide +kernel
theorem dX9_reached_20 : decode cX9_reached 20 = .ok (.arraylength, 1) := by decide +kernel
theorem dX9_reached_21 : decode cX9_reached 21 = .ok (.if_icmp .lt 8, 3) := by decide +kernel
theorem dX9_reached_24 : decode cX9_reached 24 = .ok (.ldc 125, 2) := by decide +kernel
theorem dX9_reached_26 : decode cX9_reached 26 = .ok (.goto 9, 3) := by decide +kernel
theorem dX9_reached_29 : decode cX9_reached 29 = .ok (.aload_n 0, 1) := by decide +kernel
theorem dX9_reached_30 : decode cX9_reached 30 = .ok (.getfield 23, 3) := by decide +kernel
theorem dX9_reached_33 : decode cX9_reached 33 = .ok (.iload_n 3, 1) := by decide +kernel
theorem dX9_reached_34 : decode cX9_reached 34 = .ok (.iaload, 1) := by decide +kernel
theorem dX9_reached_35 : decode cX9_reached 35 = .ok (.ireturn, 1) := by decide +kernel
theorem dX9_labelled_0 : decode cX9_labelled 0 = .ok (.iload_n 1, 1) := by decide +kernel
theorem dX9_labelled_1 : decode cX9_labelled 1 = .ok (.bipush 100, 2) := by decide +kernel
theorem dX9_labelled_3 : decode cX9_labelled 3 = .ok (.imul, 1) := by decide +kernel
theorem dX9_labelled_4 : decode cX9_labelled 4 = .ok (.iload_n 2, 1) := by decide +kernel
theorem dX9_labelled_5 : decode cX9_labelled 5 = .ok (.iadd, 1) := by decide +kernel
theorem dX9_labelled_6 : decode cX9_labelled 6 = .ok (.istore_n 3, 1) := by decide +kernel
theorem dX9_labelled_7 : decode cX9_labelled 7 = .ok (.iload_n 2, 1) := by decide +kernel
theorem dX9_labelled_8 : decode cX9_labelled 8 = .ok (.ifCond .lt 16, 3) := by decide +kernel
theorem dX9_labelled_11 : decode cX9_labelled 11 = .ok (.iload_n 3, 1) := by decide +kernel
theorem dX9_labelled_12 : decode cX9_labelled 12 = .ok (.ifCond .lt 12, 3) := by decide +kernel
theorem dX9_labelled_15 : decode cX9_labelled 15 = .ok (.iload_n 3, 1) := by decide +kernel
theorem dX9_labelled_16 : decode cX9_labelled 16 = .ok (.aload_n 0, 1) := by decide +kernel
theorem dX9_labelled_17 : decode cX9_labelled 17 = .ok (.getfield 27, 3) := by decide +kernel
theorem dX9_labelled_20 : decode cX9_labelled 20 = .ok (.arraylength, 1) := by decide +kernel
theorem dX9_labelled_21 : decode cX9_labelled 21 = .ok (.if_icmp .lt 8, 3) := by decide +kernel
theorem dX9_labelled_24 : decode cX9_labelled 24 = .ok (.ldc 125, 2) := by decide +kernel
theorem dX9_labelled_26 : decode cX9_labelled 26 = .ok (.goto 9, 3) := by decide +kernel
theorem dX9_labelled_29 : decode cX9_labelled 29 = .ok (.aload_n 0, 1) := by decide +kernel
theorem dX9_labelled_30 : decode cX9_labelled 30 = .ok (.getfield 27, 3) := by decide +kernel
theorem dX9_labelled_33 : decode cX9_labelled 33 = .ok (.iload_n 3, 1) := by decide +kernel
theorem dX9_labelled_34 : decode cX9_labelled 34 = .ok (.iaload, 1) := by decide +kernel
theorem dX9_labelled_35 : decode cX9_labelled 35 = .ok (.ireturn, 1) := by decide +kernel
theorem dX9_keepReached_0 : decode cX9_keepReached 0 = .ok (.aload_n 0, 1) := by decide +kernel
theorem dX9_keepReached_1 : decode cX9_keepReached 1 = .ok (.getfield 23, 3) := by decide +kernel
theorem dX9_keepReached_4 : decode cX9_keepReached 4 = .ok (.iconst 0, 1) := by decide +kernel
theorem dX9_keepReached_5 : decode cX9_keepReached 5 = .ok (.aload_n 0, 1) := by decide +kernel
theorem dX9_keepReached_6 : decode cX9_keepReached 6 = .ok (.getfield 27, 3) := by decide +kernel
theorem dX9_keepReached_9 : decode cX9_keepReached 9 = .ok (.iconst 0, 1) := by decide +kernel
theorem dX9_keepReached_10 : decode cX9_keepReached 10 = .ok (.sipush 12000, 3) := by decide +kernel
theorem dX9_keepReached_13 : decode cX9_keepReached 13 = .ok (.invokestatic 116, 3) := by decide +kernel
theorem dX9_keepReached_16 : decode cX9_keepReached 16 = .ok (.return_, 1) := by decide +kernel
theorem dX9_arrivalNumber_0 : decode cX9_arrivalNumber 0 = .ok (.iload_n 1, 1) := by decide +kernel
theorem dX9_arrivalNumber_1 : decode cX9_arrivalNumber 1 = .ok (.istore_n 2, 1) := by decide +kernel
theorem dX9_arrivalNumber_2 : decode cX9_arrivalNumber 2 = .ok (.aload_n 0, 1) := by decide +kernel
theorem dX9_arrivalNumber_3 : decode cX9_arrivalNumber 3 = .ok (.getfield 89, 3) := by decide +kernel
theorem dX9_arrivalNumber_6 : decode cX9_arrivalNumber 6 = .ok (.istore_n 3, 1) := by decide +kernel
theorem dX9_arrivalNumber_7 : decode cX9_arrivalNumber 7 = .ok (.iload_n 3, 1) := by decide +kernel
theorem dX9_arrivalNumber_8 : decode cX9_arrivalNumber 8 = .ok (.bipush 119, 2) := by decide +kernel
theorem dX9_arrivalNumber_10 : decode cX9_arrivalNumber 10 = .ok (.if_icmp .gt 33, 3) := by decide +kernel
theorem dX9_arrivalNumber_13 : decode cX9_arrivalNumber 13 = .ok (.aload_n 0, 1) := by decide +kernel
theorem dX9_arrivalNumber_14 : decode cX9_arrivalNumber 14 = .ok (.getfield 20, 3) := by decide +kernel
theorem dX9_arrivalNumber_17 : decode cX9_arrivalNumber 17 = .ok (.iload_n 3, 1) := by decide +kernel
theorem dX9_arrivalNumber_18 : decode cX9_arrivalNumber 18 = .ok (.aload_n 0, 1) := by decide +kernel
theorem dX9_arrivalNumber_19 : decode cX9_arrivalNumber 19 = .ok (.getfield 95, 3) := by decide +kernel
theorem dX9_arrivalNumber_22 : decode cX9_arrivalNumber 22 = .ok (.invokevirtual 178, 3) := by decide +kernel
theorem dX9_arrivalNumber_25 : decode cX9_arrivalNumber 25 = .ok (.ifCond .eq 12, 3) := by decide +kernel
theorem dX9_arrivalNumber_28 : decode cX9_arrivalNumber 28 = .ok (.iload_n 2, 1) := by decide +kernel
theorem dX9_arrivalNumber_29 : decode cX9_arrivalNumber 29 = .ok (.ifCond .ne 5, 3) := by decide +kernel
theorem dX9_arrivalNumber_32 : decode cX9_arrivalNumber 32 = .ok (.iload_n 3, 1) := by decide +kernel
theorem dX9_arrivalNumber_33 : decode cX9_arrivalNumber 33 = .ok (.ireturn, 1) := by decide +kernel
theorem dX9_arrivalNumber_34 : decode cX9_arrivalNumber 34 = .ok (.iinc 2 (-1), 3) := by decide +kernel
theorem dX9_arrivalNumber_37 : decode cX9_arrivalNumber 37 = .ok (.iinc 3 1, 3) := by decide +kernel
theorem dX9_arrivalNumber_40 : decode cX9_arrivalNumber 40 = .ok (.goto (-33), 3) := by decide +kernel
theorem dX9_arrivalNumber_43 : decode cX9_arrivalNumber 43 = .ok (.iconst (-1), 1) := by decide +kernel
theorem dX9_arrivalNumber_44 : decode cX9_arrivalNumber 44 = .ok (.ireturn, 1) := by decide +kernel
theorem dX9_spent_0 : decode cX9_spent 0 = .ok (.iconst 0, 1) := by decide +kernel
theorem dX9_spent_1 : decode cX9_spent 1 = .ok (.istore 4, 2) := by decide +kernel
theorem dX9_spent_3 : decode cX9_spent 3 = .ok (.iload_n 1, 1) := by decide +kernel
theorem dX9_spent_4 : decode cX9_spent 4 = .ok (.istore 5, 2) := by decide +kernel
theorem dX9_spent_6 : decode cX9_spent 6 = .ok (.iload 5, 2) := by decide +kernel
theorem dX9_spent_8 : decode cX9_spent 8 = .ok (.iload_n 1, 1) := by decide +kernel
theorem dX9_spent_9 : decode cX9_spent 9 = .ok (.iload_n 2, 1) := by decide +kernel
theorem dX9_spent_10 : decode cX9_spent 10 = .ok (.iadd, 1) := by decide +kernel
theorem dX9_spent_11 : decode cX9_spent 11 = .ok (.if_icmp .ge 20, 3) := by decide +kernel
theorem dX9_spent_14 : decode cX9_spent 14 = .ok (.aload_n 0, 1) := by decide +kernel
theorem dX9_spent_15 : decode cX9_spent 15 = .ok (.iload 4, 2) := by decide +kernel
theorem dX9_spent_17 : decode cX9_spent 17 = .ok (.iload 5, 2) := by decide +kernel
theorem dX9_spent_19 : decode cX9_spent 19 = .ok (.iload_n 3, 1) := by decide +kernel
theorem dX9_spent_20 : decode cX9_spent 20 = .ok (.invokevirtual 152, 3) := by decide +kernel
theorem dX9_spent_23 : decode cX9_spent 23 = .ok (.istore 4, 2) := by decide +kernel
theorem dX9_spent_25 : decode cX9_spent 25 = .ok (.iinc 5 1, 3) := by decide +kernel
theorem dX9_spent_28 : decode cX9_spent 28 = .ok (.goto (-22), 3) := by decide +kernel
theorem dX9_spent_31 : decode cX9_spent 31 = .ok (.iload 4, 2) := by decide +kernel
theorem dX9_spent_33 : decode cX9_spent 33 = .ok (.ireturn, 1) := by decide +kernel
theorem dX9_labelBack_0 : decode cX9_labelBack 0 = .ok (.iconst 0, 1) := by decide +kernel
theorem dX9_labelBack_1 : decode cX9_labelBack 1 = .ok (.iload_n 1, 1) := by decide +kernel
theorem dX9_labelBack_2 : decode cX9_labelBack 2 = .ok (.invokestatic 84, 3) := by decide +kernel
theorem dX9_labelBack_5 : decode cX9_labelBack 5 = .ok (.istore 4, 2) := by decide +kernel
theorem dX9_labelBack_7 : decode cX9_labelBack 7 = .ok (.iload_n 2, 1) := by decide +kernel
theorem dX9_labelBack_8 : decode cX9_labelBack 8 = .ok (.bipush 119, 2) := by decide +kernel
theorem dX9_labelBack_10 : decode cX9_labelBack 10 = .ok (.invokestatic 135, 3) := by decide +kernel
theorem dX9_labelBack_13 : decode cX9_labelBack 13 = .ok (.istore 5, 2) := by decide +kernel
theorem dX9_labelBack_15 : decode cX9_labelBack 15 = .ok (.iload 4, 2) := by decide +kernel
theorem dX9_labelBack_17 : decode cX9_labelBack 17 = .ok (.iload 5, 2) := by decide +kernel
theorem dX9_labelBack_19 : decode cX9_labelBack 19 = .ok (.if_icmp .le 4, 3) := by decide +kernel
theorem dX9_labelBack_22 : decode cX9_labelBack 22 = .ok (.return_, 1) := by decide +kernel
theorem dX9_labelBack_23 : decode cX9_labelBack 23 = .ok (.aload_n 0, 1) := by decide +kernel
theorem dX9_labelBack_24 : decode cX9_labelBack 24 = .ok (.getfield 27, 3) := by decide +kernel
theorem dX9_labelBack_27 : decode cX9_labelBack 27 = .ok (.iload 4, 2) := by decide +kernel
theorem dX9_labelBack_29 : decode cX9_labelBack 29 = .ok (.bipush 100, 2) := by decide +kernel
theorem dX9_labelBack_31 : decode cX9_labelBack 31 = .ok (.imul, 1) := by decide +kernel
theorem dX9_labelBack_32 : decode cX9_labelBack 32 = .ok (.iload 5, 2) := by decide +kernel
theorem dX9_labelBack_34 : decode cX9_labelBack 34 = .ok (.iconst 1, 1) := by decide +kernel
theorem dX9_labelBack_35 : decode cX9_labelBack 35 = .ok (.iadd, 1) := by decide +kernel
theorem dX9_labelBack_36 : decode cX9_labelBack 36 = .ok (.bipush 100, 2) := by decide +kernel
theorem dX9_labelBack_38 : decode cX9_labelBack 38 = .ok (.imul, 1) := by decide +kernel
theorem dX9_labelBack_39 : decode cX9_labelBack 39 = .ok (.ldc 125, 2) := by decide +kernel
theorem dX9_labelBack_41 : decode cX9_labelBack 41 = .ok (.invokestatic 197, 3) := by decide +kernel
theorem dX9_labelBack_44 : decode cX9_labelBack 44 = .ok (.iload 5, 2) := by decide +kernel
theorem dX9_labelBack_46 : decode cX9_labelBack 46 = .ok (.istore 6, 2) := by decide +kernel
theorem dX9_labelBack_48 : decode cX9_labelBack 48 = .ok (.iload 6, 2) := by decide +kernel
theorem dX9_labelBack_50 : decode cX9_labelBack 50 = .ok (.iload 4, 2) := by decide +kernel
theorem dX9_labelBack_52 : decode cX9_labelBack 52 = .ok (.if_icmp .lt 108, 3) := by decide +kernel
theorem dX9_labelBack_55 : decode cX9_labelBack 55 = .ok (.iconst 0, 1) := by decide +kernel
theorem dX9_labelBack_56 : decode cX9_labelBack 56 = .ok (.istore 7, 2) := by decide +kernel
theorem dX9_labelBack_58 : decode cX9_labelBack 58 = .ok (.iload 7, 2) := by decide +kernel
theorem dX9_labelBack_60 : decode cX9_labelBack 60 = .ok (.iconst 2, 1) := by decide +kernel
theorem dX9_labelBack_61 : decode cX9_labelBack 61 = .ok (.if_icmp .ge 93, 3) := by decide +kernel
theorem dX9_labelBack_64 : decode cX9_labelBack 64 = .ok (.iload_n 3, 1) := by decide +kernel
theorem dX9_labelBack_65 : decode cX9_labelBack 65 = .ok (.ifCond .eq 17, 3) := by decide +kernel
theorem dX9_labelBack_68 : decode cX9_labelBack 68 = .ok (.aload_n 0, 1) := by decide +kernel
theorem dX9_labelBack_69 : decode cX9_labelBack 69 = .ok (.getfield 20, 3) := by decide +kernel
theorem dX9_labelBack_72 : decode cX9_labelBack 72 = .ok (.iload 6, 2) := by decide +kernel
theorem dX9_labelBack_74 : decode cX9_labelBack 74 = .ok (.iload 7, 2) := by decide +kernel
theorem dX9_labelBack_76 : decode cX9_labelBack 76 = .ok (.invokevirtual 138, 3) := by decide +kernel
theorem dX9_labelBack_79 : decode cX9_labelBack 79 = .ok (.goto 16, 3) := by decide +kernel
theorem dX9_labelBack_82 : decode cX9_labelBack 82 = .ok (.aload_n 0, 1) := by decide +kernel
theorem dX9_labelBack_83 : decode cX9_labelBack 83 = .ok (.getfield 47, 3) := by decide +kernel
theorem dX9_labelBack_86 : decode cX9_labelBack 86 = .ok (.getfield 200, 3) := by decide +kernel
theorem dX9_labelBack_89 : decode cX9_labelBack 89 = .ok (.iconst 0, 1) := by decide +kernel
theorem dX9_labelBack_90 : decode cX9_labelBack 90 = .ok (.iload 7, 2) := by decide +kernel
theorem dX9_labelBack_92 : decode cX9_labelBack 92 = .ok (.invokevirtual 138, 3) := by decide +kernel
theorem dX9_labelBack_95 : decode cX9_labelBack 95 = .ok (.lstore 8, 2) := by decide +kernel
theorem dX9_labelBack_97 : decode cX9_labelBack 97 = .ok (.iconst 0, 1) := by decide +kernel
theorem dX9_labelBack_98 : decode cX9_labelBack 98 = .ok (.istore 10, 2) := by decide +kernel
theorem dX9_labelBack_100 : decode cX9_labelBack 100 = .ok (.iload 10, 2) := by decide +kernel
theorem dX9_labelBack_102 : decode cX9_labelBack 102 = .ok (.bipush 64, 2) := by decide +kernel
theorem dX9_labelBack_104 : decode cX9_labelBack 104 = .ok (.if_icmp .ge 44, 3) := by decide +kernel
theorem dX9_labelBack_107 : decode cX9_labelBack 107 = .ok (.lload 8, 2) := by decide +kernel
theorem dX9_labelBack_109 : decode cX9_labelBack 109 = .ok (.lconst 0, 1) := by decide +kernel
theorem dX9_labelBack_110 : decode cX9_labelBack 110 = .ok (.lcmp, 1) := by decide +kernel
theorem dX9_labelBack_111 : decode cX9_labelBack 111 = .ok (.ifCond .eq 37, 3) := by decide +kernel
theorem dX9_labelBack_114 : decode cX9_labelBack 114 = .ok (.aload_n 0, 1) := by decide +kernel
theorem dX9_labelBack_115 : decode cX9_labelBack 115 = .ok (.iload 6, 2) := by decide +kernel
theorem dX9_labelBack_117 : decode cX9_labelBack 117 = .ok (.bipush 64, 2) := by decide +kernel
theorem dX9_labelBack_119 : decode cX9_labelBack 119 = .ok (.iload 7, 2) := by decide +kernel
theorem dX9_labelBack_121 : decode cX9_labelBack 121 = .ok (.imul, 1) := by decide +kernel
theorem dX9_labelBack_122 : decode cX9_labelBack 122 = .ok (.lload 8, 2) := by decide +kernel
theorem dX9_labelBack_124 : decode cX9_labelBack 124 = .ok (.invokestatic 142, 3) := by decide +kernel
theorem dX9_labelBack_127 : decode cX9_labelBack 127 = .ok (.iadd, 1) := by decide +kernel
theorem dX9_labelBack_128 : decode cX9_labelBack 128 = .ok (.iload 5, 2) := by decide +kernel
theorem dX9_labelBack_130 : decode cX9_labelBack 130 = .ok (.invokevirtual 203, 3) := by decide +kernel
theorem dX9_labelBack_133 : decode cX9_labelBack 133 = .ok (.lload 8, 2) := by decide +kernel
theorem dX9_labelBack_135 : decode cX9_labelBack 135 = .ok (.lload 8, 2) := by decide +kernel
theorem dX9_labelBack_137 : decode cX9_labelBack 137 = .ok (.lconst 1, 1) := by decide +kernel
theorem dX9_labelBack_138 : decode cX9_labelBack 138 = .ok (.lsub, 1) := by decide +kernel
theorem dX9_labelBack_139 : decode cX9_labelBack 139 = .ok (.land, 1) := by decide +kernel
theorem dX9_labelBack_140 : decode cX9_labelBack 140 = .ok (.lstore 8, 2) := by decide +kernel
theorem dX9_labelBack_142 : decode cX9_labelBack 142 = .ok (.iinc 10 1, 3) := by decide +kernel
theorem dX9_labelBack_145 : decode cX9_labelBack 145 = .ok (.goto (-45), 3) := by decide +kernel
theorem dX9_labelBack_148 : decode cX9_labelBack 148 = .ok (.iinc 7 1, 3) := by decide +kernel
theorem dX9_labelBack_151 : decode cX9_labelBack 151 = .ok (.goto (-93), 3) := by decide +kernel
theorem dX9_labelBack_154 : decode cX9_labelBack 154 = .ok (.iinc 6 (-1), 3) := by decide +kernel
theorem dX9_labelBack_157 : decode cX9_labelBack 157 = .ok (.goto (-109), 3) := by decide +kernel
theorem dX9_labelBack_160 : decode cX9_labelBack 160 = .ok (.return_, 1) := by decide +kernel
theorem dX9_label_0 : decode cX9_label 0 = .ok (.iload_n 1, 1) := by decide +kernel
theorem dX9_label_1 : decode cX9_label 1 = .ok (.invokestatic 206, 3) := by decide +kernel
theorem dX9_label_4 : decode cX9_label 4 = .ok (.ifCond .eq 10, 3) := by decide +kernel
theorem dX9_label_7 : decode cX9_label 7 = .ok (.iload_n 2, 1) := by decide +kernel
theorem dX9_label_8 : decode cX9_label 8 = .ok (.invokestatic 209, 3) := by decide +kernel
theorem dX9_label_11 : decode cX9_label 11 = .ok (.ifCond .ne 4, 3) := by decide +kernel
theorem dX9_label_14 : decode cX9_label 14 = .ok (.return_, 1) := by decide +kernel
theorem dX9_label_15 : decode cX9_label 15 = .ok (.iload_n 2, 1) := by decide +kernel
theorem dX9_label_16 : decode cX9_label 16 = .ok (.aload_n 0, 1) := by decide +kernel
theorem dX9_label_17 : decode cX9_label 17 = .ok (.getfield 95, 3) := by decide +kernel
theorem dX9_label_20 : decode cX9_label 20 = .ok (.if_icmp .ne 16, 3) := by decide +kernel
theorem dX9_label_23 : decode cX9_label 23 = .ok (.aload_n 0, 1) := by decide +kernel
theorem dX9_label_24 : decode cX9_label 24 = .ok (.getfield 27, 3) := by decide +kernel
theorem dX9_label_27 : decode cX9_label 27 = .ok (.iload_n 1, 1) := by decide +kernel
theorem dX9_label_28 : decode cX9_label 28 = .ok (.bipush 100, 2) := by decide +kernel
theorem dX9_label_30 : decode cX9_label 30 = .ok (.imul, 1) := by decide +kernel
theorem dX9_label_31 : decode cX9_label 31 = .ok (.iload_n 2, 1) := by decide +kernel
theorem dX9_label_32 : decode cX9_label 32 = .ok (.iadd, 1) := by decide +kernel
theorem dX9_label_33 : decode cX9_label 33 = .ok (.iload_n 1, 1) := by decide +kernel
theorem dX9_label_34 : decode cX9_label 34 = .ok (.iastore, 1) := by decide +kernel
theorem dX9_label_35 : decode cX9_label 35 = .ok (.return_, 1) := by decide +kernel
theorem dX9_label_36 : decode cX9_label 36 = .ok (.ldc 125, 2) := by decide +kernel
theorem dX9_label_38 : decode cX9_label 38 = .ok (.istore 4, 2) := by decide +kernel
theorem dX9_label_40 : decode cX9_label 40 = .ok (.iconst 0, 1) := by decide +kernel
theorem dX9_label_41 : decode cX9_label 41 = .ok (.istore 5, 2) := by decide +kernel
theorem dX9_label_43 : decode cX9_label 43 = .ok (.iload 5, 2) := by decide +kernel
theorem dX9_label_45 : decode cX9_label 45 = .ok (.iconst 4, 1) := by decide +kernel
theorem dX9_label_46 : decode cX9_label 46 = .ok (.if_icmp .ge 25, 3) := by decide +kernel
theorem dX9_label_49 : decode cX9_label 49 = .ok (.iload 4, 2) := by decide +kernel
theorem dX9_label_51 : decode cX9_label 51 = .ok (.aload_n 0, 1) := by decide +kernel
theorem dX9_label_52 : decode cX9_label 52 = .ok (.iload_n 1, 1) := by decide +kernel
theorem dX9_label_53 : decode cX9_label 53 = .ok (.iload_n 2, 1) := by decide +kernel
theorem dX9_label_54 : decode cX9_label 54 = .ok (.iload 5, 2) := by decide +kernel
theorem dX9_label_56 : decode cX9_label 56 = .ok (.iload_n 3, 1) := by decide +kernel
theorem dX9_label_57 : decode cX9_label 57 = .ok (.invokevirtual 212, 3) := by decide +kernel
theorem dX9_label_60 : decode cX9_label 60 = .ok (.invokestatic 135, 3) := by decide +kernel
theorem dX9_label_63 : decode cX9_label 63 = .ok (.istore 4, 2) := by decide +kernel
theorem dX9_label_65 : decode cX9_label 65 = .ok (.iinc 5 1, 3) := by decide +kernel
theorem dX9_label_68 : decode cX9_label 68 = .ok (.goto (-25), 3) := by decide +kernel
theorem dX9_label_71 : decode cX9_label 71 = .ok (.iload 4, 2) := by decide +kernel
theorem dX9_label_73 : decode cX9_label 73 = .ok (.ldc 125, 2) := by decide +kernel
theorem dX9_label_75 : decode cX9_label 75 = .ok (.if_icmp .ge 25, 3) := by decide +kernel
theorem dX9_label_78 : decode cX9_label 78 = .ok (.iload 4, 2) := by decide +kernel
theorem dX9_label_80 : decode cX9_label 80 = .ok (.sipush 128, 3) := by decide +kernel
theorem dX9_label_83 : decode cX9_label 83 = .ok (.aload_n 0, 1) := by decide +kernel
theorem dX9_label_84 : decode cX9_label 84 = .ok (.iload_n 1, 1) := by decide +kernel
theorem dX9_label_85 : decode cX9_label 85 = .ok (.aload_n 0, 1) := by decide +kernel
theorem dX9_label_86 : decode cX9_label 86 = .ok (.getfield 43, 3) := by decide +kernel
theorem dX9_label_89 : decode cX9_label 89 = .ok (.getfield 156, 3) := by decide +kernel
theorem dX9_label_92 : decode cX9_label 92 = .ok (.iload_n 2, 1) := by decide +kernel
theorem dX9_label_93 : decode cX9_label 93 = .ok (.invokevirtual 216, 3) := by decide +kernel
theorem dX9_label_96 : decode cX9_label 96 = .ok (.imul, 1) := by decide +kernel
theorem dX9_label_97 : decode cX9_label 97 = .ok (.iadd, 1) := by decide +kernel
theorem dX9_label_98 : decode cX9_label 98 = .ok (.istore 4, 2) := by decide +kernel
theorem dX9_label_100 : decode cX9_label 100 = .ok (.iload_n 1, 1) := by decide +kernel
theorem dX9_label_101 : decode cX9_label 101 = .ok (.iload_n 3, 1) := by decide +kernel
theorem dX9_label_102 : decode cX9_label 102 = .ok (.if_icmp .ge 43, 3) := by decide +kernel
theorem dX9_label_105 : decode cX9_label 105 = .ok (.aload_n 0, 1) := by decide +kernel
theorem dX9_label_106 : decode cX9_label 106 = .ok (.iload_n 1, 1) := by decide +kernel
theorem dX9_label_107 : decode cX9_label 107 = .ok (.iconst 1, 1) := by decide +kernel
theorem dX9_label_108 : decode cX9_label 108 = .ok (.iadd, 1) := by decide +kernel
theorem dX9_label_109 : decode cX9_label 109 = .ok (.iload_n 2, 1) := by decide +kernel
theorem dX9_label_110 : decode cX9_label 110 = .ok (.invokevirtual 219, 3) := by decide +kernel
theorem dX9_label_113 : decode cX9_label 113 = .ok (.ldc 125, 2) := by decide +kernel
theorem dX9_label_115 : decode cX9_label 115 = .ok (.if_icmp .ge 30, 3) := by decide +kernel
theorem dX9_label_118 : decode cX9_label 118 = .ok (.iload 4, 2) := by decide +kernel
theorem dX9_label_120 : decode cX9_label 120 = .ok (.aload_n 0, 1) := by decide +kernel
theorem dX9_label_121 : decode cX9_label 121 = .ok (.iload_n 1, 1) := by decide +kernel
theorem dX9_label_122 : decode cX9_label 122 = .ok (.iconst 1, 1) := by decide +kernel
theorem dX9_label_123 : decode cX9_label 123 = .ok (.iadd, 1) := by decide +kernel
theorem dX9_label_124 : decode cX9_label 124 = .ok (.iload_n 2, 1) := by decide +kernel
theorem dX9_label_125 : decode cX9_label 125 = .ok (.invokevirtual 219, 3) := by decide +kernel
theorem dX9_label_128 : decode cX9_label 128 = .ok (.sipush 128, 3) := by decide +kernel
theorem dX9_label_131 : decode cX9_label 131 = .ok (.aload_n 0, 1) := by decide +kernel
theorem dX9_label_132 : decode cX9_label 132 = .ok (.iconst 0, 1) := by decide +kernel
theorem dX9_label_133 : decode cX9_label 133 = .ok (.iload_n 1, 1) := by decide +kernel
theorem dX9_label_134 : decode cX9_label 134 = .ok (.iload_n 2, 1) := by decide +kernel
theorem dX9_label_135 : decode cX9_label 135 = .ok (.invokevirtual 152, 3) := by decide +kernel
theorem dX9_label_138 : decode cX9_label 138 = .ok (.imul, 1) := by decide +kernel
theorem dX9_label_139 : decode cX9_label 139 = .ok (.iadd, 1) := by decide +kernel
theorem dX9_label_140 : decode cX9_label 140 = .ok (.invokestatic 135, 3) := by decide +kernel
theorem dX9_label_143 : decode cX9_label 143 = .ok (.istore 4, 2) := by decide +kernel
theorem dX9_label_145 : decode cX9_label 145 = .ok (.aload_n 0, 1) := by decide +kernel
theorem dX9_label_146 : decode cX9_label 146 = .ok (.getfield 27, 3) := by decide +kernel
theorem dX9_label_149 : decode cX9_label 149 = .ok (.iload_n 1, 1) := by decide +kernel
theorem dX9_label_150 : decode cX9_label 150 = .ok (.bipush 100, 2) := by decide +kernel
theorem dX9_label_152 : decode cX9_label 152 = .ok (.imul, 1) := by decide +kernel
theorem dX9_label_153 : decode cX9_label 153 = .ok (.iload_n 2, 1) := by decide +kernel
theorem dX9_label_154 : decode cX9_label 154 = .ok (.iadd, 1) := by decide +kernel
theorem dX9_label_155 : decode cX9_label 155 = .ok (.iload 4, 2) := by decide +kernel
theorem dX9_label_157 : decode cX9_label 157 = .ok (.iastore, 1) := by decide +kernel
theorem dX9_label_158 : decode cX9_label 158 = .ok (.return_, 1) := by decide +kernel
theorem dX9_labelBehind_0 : decode cX9_labelBehind 0 = .ok (.iload_n 1, 1) := by decide +kernel
theorem dX9_labelBehind_1 : decode cX9_labelBehind 1 = .ok (.aload_n 0, 1) := by decide +kernel
theorem dX9_labelBehind_2 : decode cX9_labelBehind 2 = .ok (.getfield 43, 3) := by decide +kernel
theorem dX9_labelBehind_5 : decode cX9_labelBehind 5 = .ok (.getfield 156, 3) := by decide +kernel
theorem dX9_labelBehind_8 : decode cX9_labelBehind 8 = .ok (.iadd, 1) := by decide +kernel
theorem dX9_labelBehind_9 : decode cX9_labelBehind 9 = .ok (.istore 5, 2) := by decide +kernel
theorem dX9_labelBehind_11 : decode cX9_labelBehind 11 = .ok (.iload 5, 2) := by decide +kernel
theorem dX9_labelBehind_13 : decode cX9_labelBehind 13 = .ok (.iload 4, 2) := by decide +kernel
theorem dX9_labelBehind_15 : decode cX9_labelBehind 15 = .ok (.if_icmp .le 7, 3) := by decide +kernel
theorem dX9_labelBehind_18 : decode cX9_labelBehind 18 = .ok (.iconst (-1), 1) := by decide +kernel
theorem dX9_labelBehind_19 : decode cX9_labelBehind 19 = .ok (.goto 12, 3) := by decide +kernel
theorem dX9_labelBehind_22 : decode cX9_labelBehind 22 = .ok (.aload_n 0, 1) := by decide +kernel
theorem dX9_labelBehind_23 : decode cX9_labelBehind 23 = .ok (.getfield 47, 3) := by decide +kernel
theorem dX9_labelBehind_26 : decode cX9_labelBehind 26 = .ok (.iload_n 2, 1) := by decide +kernel
theorem dX9_labelBehind_27 : decode cX9_labelBehind 27 = .ok (.iload_n 3, 1) := by decide +kernel
theorem dX9_labelBehind_28 : decode cX9_labelBehind 28 = .ok (.invokevirtual 159, 3) := by decide +kernel
theorem dX9_labelBehind_31 : decode cX9_labelBehind 31 = .ok (.istore 6, 2) := by decide +kernel
theorem dX9_labelBehind_33 : decode cX9_labelBehind 33 = .ok (.iload 6, 2) := by decide +kernel
theorem dX9_labelBehind_35 : decode cX9_labelBehind 35 = .ok (.ifCond .lt 27, 3) := by decide +kernel
theorem dX9_labelBehind_38 : decode cX9_labelBehind 38 = .ok (.aload_n 0, 1) := by decide +kernel
theorem dX9_labelBehind_39 : decode cX9_labelBehind 39 = .ok (.getfield 47, 3) := by decide +kernel
theorem dX9_labelBehind_42 : decode cX9_labelBehind 42 = .ok (.getfield 162, 3) := by decide +kernel
theorem dX9_labelBehind_45 : decode cX9_labelBehind 45 = .ok (.getfield 166, 3) := by decide +kernel
theorem dX9_labelBehind_48 : decode cX9_labelBehind 48 = .ok (.ifCond .le 17, 3) := by decide +kernel
theorem dX9_labelBehind_51 : decode cX9_labelBehind 51 = .ok (.aload_n 0, 1) := by decide +kernel
theorem dX9_labelBehind_52 : decode cX9_labelBehind 52 = .ok (.iload 5, 2) := by decide +kernel
theorem dX9_labelBehind_54 : decode cX9_labelBehind 54 = .ok (.iload 6, 2) := by decide +kernel
theorem dX9_labelBehind_56 : decode cX9_labelBehind 56 = .ok (.invokevirtual 171, 3) := by decide +kernel
theorem dX9_labelBehind_59 : decode cX9_labelBehind 59 = .ok (.ifCond .eq 6, 3) := by decide +kernel
theorem dX9_labelBehind_62 : decode cX9_labelBehind 62 = .ok (.ldc 125, 2) := by decide +kernel
theorem dX9_labelBehind_64 : decode cX9_labelBehind 64 = .ok (.ireturn, 1) := by decide +kernel
theorem dX9_labelBehind_65 : decode cX9_labelBehind 65 = .ok (.aload_n 0, 1) := by decide +kernel
theorem dX9_labelBehind_66 : decode cX9_labelBehind 66 = .ok (.iload 5, 2) := by decide +kernel
theorem dX9_labelBehind_68 : decode cX9_labelBehind 68 = .ok (.iload 6, 2) := by decide +kernel
theorem dX9_labelBehind_70 : decode cX9_labelBehind 70 = .ok (.invokevirtual 219, 3) := by decide +kernel
theorem dX9_labelBehind_73 : decode cX9_labelBehind 73 = .ok (.ireturn, 1) := by decide +kernel
theorem dX9_traceWay_0 : decode cX9_traceWay 0 = .ok (.aload_n 0, 1) := by decide +kernel
theorem dX9_traceWay_1 : decode cX9_traceWay 1 = .ok (.getfield 113, 3) := by decide +kernel
theorem dX9_traceWay_4 : decode cX9_traceWay 4 = .ok (.istore_n 1, 1) := by decide +kernel
theorem dX9_traceWay_5 : decode cX9_traceWay 5 = .ok (.aload_n 0, 1) := by decide +kernel
theorem dX9_traceWay_6 : decode cX9_traceWay 6 = .ok (.invokevirtual 222, 3) := by decide +kernel
theorem dX9_traceWay_9 : decode cX9_traceWay 9 = .ok (.iconst 0, 1) := by decide +kernel
theorem dX9_traceWay_10 : decode cX9_traceWay 10 = .ok (.istore_n 2, 1) := by decide +kernel
theorem dX9_traceWay_11 : decode cX9_traceWay 11 = .ok (.iload_n 2, 1) := by decide +kernel
theorem dX9_traceWay_12 : decode cX9_traceWay 12 = .ok (.bipush 120, 2) := by decide +kernel
theorem dX9_traceWay_14 : decode cX9_traceWay 14 = .ok (.if_icmp .ge 37, 3) := by decide +kernel
theorem dX9_traceWay_17 : decode cX9_traceWay 17 = .ok (.aload_n 0, 1) := by decide +kernel
theorem dX9_traceWay_18 : decode cX9_traceWay 18 = .ok (.getfield 225, 3) := by decide +kernel
theorem dX9_traceWay_21 : decode cX9_traceWay 21 = .ok (.aload_n 0, 1) := by decide +kernel
theorem dX9_traceWay_22 : decode cX9_traceWay 22 = .ok (.getfield 95, 3) := by decide +kernel
theorem dX9_traceWay_25 : decode cX9_traceWay 25 = .ok (.if_icmp .eq 26, 3) := by decide +kernel
theorem dX9_traceWay_28 : decode cX9_traceWay 28 = .ok (.aload_n 0, 1) := by decide +kernel
theorem dX9_traceWay_29 : decode cX9_traceWay 29 = .ok (.getfield 113, 3) := by decide +kernel
theorem dX9_traceWay_32 : decode cX9_traceWay 32 = .ok (.iload_n 1, 1) := by decide +kernel
theorem dX9_traceWay_33 : decode cX9_traceWay 33 = .ok (.if_icmp .ge 18, 3) := by decide +kernel
theorem dX9_traceWay_36 : decode cX9_traceWay 36 = .ok (.aload_n 0, 1) := by decide +kernel
theorem dX9_traceWay_37 : decode cX9_traceWay 37 = .ok (.aload_n 0, 1) := by decide +kernel
theorem dX9_traceWay_38 : decode cX9_traceWay 38 = .ok (.iload_n 1, 1) := by decide +kernel
theorem dX9_traceWay_39 : decode cX9_traceWay 39 = .ok (.invokevirtual 228, 3) := by decide +kernel
theorem dX9_traceWay_42 : decode cX9_traceWay 42 = .ok (.invokevirtual 232, 3) := by decide +kernel
theorem dX9_traceWay_45 : decode cX9_traceWay 45 = .ok (.iinc 2 1, 3) := by decide +kernel
theorem dX9_traceWay_48 : decode cX9_traceWay 48 = .ok (.goto (-37), 3) := by decide +kernel
theorem dX9_traceWay_51 : decode cX9_traceWay 51 = .ok (.return_, 1) := by decide +kernel
theorem dX9_firstPiece_0 : decode cX9_firstPiece 0 = .ok (.aload_n 0, 1) := by decide +kernel
theorem dX9_firstPiece_1 : decode cX9_firstPiece 1 = .ok (.aload_n 0, 1) := by decide +kernel
theorem dX9_firstPiece_2 : decode cX9_firstPiece 2 = .ok (.getfield 113, 3) := by decide +kernel
theorem dX9_firstPiece_5 : decode cX9_firstPiece 5 = .ok (.aload_n 0, 1) := by decide +kernel
theorem dX9_firstPiece_6 : decode cX9_firstPiece 6 = .ok (.getfield 225, 3) := by decide +kernel
theorem dX9_firstPiece_9 : decode cX9_firstPiece 9 = .ok (.invokevirtual 219, 3) := by decide +kernel
theorem dX9_firstPiece_12 : decode cX9_firstPiece 12 = .ok (.istore_n 2, 1) := by decide +kernel
theorem dX9_firstPiece_13 : decode cX9_firstPiece 13 = .ok (.sipush 128, 3) := by decide +kernel
theorem dX9_firstPiece_16 : decode cX9_firstPiece 16 = .ok (.aload_n 0, 1) := by decide +kernel
theorem dX9_firstPiece_17 : decode cX9_firstPiece 17 = .ok (.aload_n 0, 1) := by decide +kernel
theorem dX9_firstPiece_18 : decode cX9_firstPiece 18 = .ok (.getfield 113, 3) := by decide +kernel
theorem dX9_firstPiece_21 : decode cX9_firstPiece 21 = .ok (.aload_n 0, 1) := by decide +kernel
theorem dX9_firstPiece_22 : decode cX9_firstPiece 22 = .ok (.getfield 43, 3) := by decide +kernel
theorem dX9_firstPiece_25 : decode cX9_firstPiece 25 = .ok (.getfield 156, 3) := by decide +kernel
theorem dX9_firstPiece_28 : decode cX9_firstPiece 28 = .ok (.aload_n 0, 1) := by decide +kernel
theorem dX9_firstPiece_29 : decode cX9_firstPiece 29 = .ok (.getfield 225, 3) := by decide +kernel
theorem dX9_firstPiece_32 : decode cX9_firstPiece 32 = .ok (.invokevirtual 216, 3) := by decide +kernel
theorem dX9_firstPiece_35 : decode cX9_firstPiece 35 = .ok (.imul, 1) := by decide +kernel
theorem dX9_firstPiece_36 : decode cX9_firstPiece 36 = .ok (.istore_n 3, 1) := by decide +kernel
theorem dX9_firstPiece_37 : decode cX9_firstPiece 37 = .ok (.iconst 0, 1) := by decide +kernel
theorem dX9_firstPiece_38 : decode cX9_firstPiece 38 = .ok (.istore 4, 2) := by decide +kernel
theorem dX9_firstPiece_40 : decode cX9_firstPiece 40 = .ok (.iload 4, 2) := by decide +kernel
theorem dX9_firstPiece_42 : decode cX9_firstPiece 42 = .ok (.iconst 4, 1) := by decide +kernel
theorem dX9_firstPiece_43 : decode cX9_firstPiece 43 = .ok (.if_icmp .ge 44, 3) := by decide +kernel
theorem dX9_firstPiece_46 : decode cX9_firstPiece 46 = .ok (.aload_n 0, 1) := by decide +kernel
theorem dX9_firstPiece_47 : decode cX9_firstPiece 47 = .ok (.aload_n 0, 1) := by decide +kernel
theorem dX9_firstPiece_48 : decode cX9_firstPiece 48 = .ok (.getfield 113, 3) := by decide +kernel
theorem dX9_firstPiece_51 : decode cX9_firstPiece 51 = .ok (.aload_n 0, 1) := by decide +kernel
theorem dX9_firstPiece_52 : decode cX9_firstPiece 52 = .ok (.getfield 225, 3) := by decide +kernel
theorem dX9_firstPiece_55 : decode cX9_firstPiece 55 = .ok (.iload 4, 2) := by decide +kernel
theorem dX9_firstPiece_57 : decode cX9_firstPiece 57 = .ok (.iload_n 1, 1) := by decide +kernel
theorem dX9_firstPiece_58 : decode cX9_firstPiece 58 = .ok (.invokevirtual 212, 3) := by decide +kernel
theorem dX9_firstPiece_61 : decode cX9_firstPiece 61 = .ok (.istore 5, 2) := by decide +kernel
theorem dX9_firstPiece_63 : decode cX9_firstPiece 63 = .ok (.iload 5, 2) := by decide +kernel
theorem dX9_firstPiece_65 : decode cX9_firstPiece 65 = .ok (.ldc 125, 2) := by decide +kernel
theorem dX9_firstPiece_67 : decode cX9_firstPiece 67 = .ok (.if_icmp .ge 14, 3) := by decide +kernel
theorem dX9_firstPiece_70 : decode cX9_firstPiece 70 = .ok (.iload 5, 2) := by decide +kernel
theorem dX9_firstPiece_72 : decode cX9_firstPiece 72 = .ok (.iload_n 3, 1) := by decide +kernel
theorem dX9_firstPiece_73 : decode cX9_firstPiece 73 = .ok (.iadd, 1) := by decide +kernel
theorem dX9_firstPiece_74 : decode cX9_firstPiece 74 = .ok (.iload_n 2, 1) := by decide +kernel
theorem dX9_firstPiece_75 : decode cX9_firstPiece 75 = .ok (.if_icmp .ne 6, 3) := by decide +kernel
theorem dX9_firstPiece_78 : decode cX9_firstPiece 78 = .ok (.iload 4, 2) := by decide +kernel
theorem dX9_firstPiece_80 : decode cX9_firstPiece 80 = .ok (.ireturn, 1) := by decide +kernel
theorem dX9_firstPiece_81 : decode cX9_firstPiece 81 = .ok (.iinc 4 1, 3) := by decide +kernel
theorem dX9_firstPiece_84 : decode cX9_firstPiece 84 = .ok (.goto (-44), 3) := by decide +kernel
theorem dX9_firstPiece_87 : decode cX9_firstPiece 87 = .ok (.iconst 4, 1) := by decide +kernel
theorem dX9_firstPiece_88 : decode cX9_firstPiece 88 = .ok (.ireturn, 1) := by decide +kernel
theorem dX9_beginWay_0 : decode cX9_beginWay 0 = .ok (.aload_n 0, 1) := by decide +kernel
theorem dX9_beginWay_1 : decode cX9_beginWay 1 = .ok (.getfield 33, 3) := by decide +kernel
theorem dX9_beginWay_4 : decode cX9_beginWay 4 = .ok (.invokevirtual 235, 3) := by decide +kernel
theorem dX9_beginWay_7 : decode cX9_beginWay 7 = .ok (.aload_n 0, 1) := by decide +kernel
theorem dX9_beginWay_8 : decode cX9_beginWay 8 = .ok (.getfield 37, 3) := by decide +kernel
theorem dX9_beginWay_11 : decode cX9_beginWay 11 = .ok (.iconst (-1), 1) := by decide +kernel
theorem dX9_beginWay_12 : decode cX9_beginWay 12 = .ok (.invokestatic 126, 3) := by decide +kernel
theorem dX9_beginWay_15 : decode cX9_beginWay 15 = .ok (.aload_n 0, 1) := by decide +kernel
theorem dX9_beginWay_16 : decode cX9_beginWay 16 = .ok (.aload_n 0, 1) := by decide +kernel
theorem dX9_beginWay_17 : decode cX9_beginWay 17 = .ok (.getfield 89, 3) := by decide +kernel
theorem dX9_beginWay_20 : decode cX9_beginWay 20 = .ok (.putfield 113, 3) := by decide +kernel
theorem dX9_beginWay_23 : decode cX9_beginWay 23 = .ok (.aload_n 0, 1) := by decide +kernel
theorem dX9_beginWay_24 : decode cX9_beginWay 24 = .ok (.aload_n 0, 1) := by decide +kernel
theorem dX9_beginWay_25 : decode cX9_beginWay 25 = .ok (.getfield 92, 3) := by decide +kernel
theorem dX9_beginWay_28 : decode cX9_beginWay 28 = .ok (.putfield 225, 3) := by decide +kernel
theorem dX9_beginWay_31 : decode cX9_beginWay 31 = .ok (.return_, 1) := by decide +kernel
theorem dX9_goPiece_0 : decode cX9_goPiece 0 = .ok (.aload_n 0, 1) := by decide +kernel
theorem dX9_goPiece_1 : decode cX9_goPiece 1 = .ok (.getfield 113, 3) := by decide +kernel
theorem dX9_goPiece_4 : decode cX9_goPiece 4 = .ok (.aload_n 0, 1) := by decide +kernel
theorem dX9_goPiece_5 : decode cX9_goPiece 5 = .ok (.iload_n 1, 1) := by decide +kernel
theorem dX9_goPiece_6 : decode cX9_goPiece 6 = .ok (.invokevirtual 236, 3) := by decide +kernel
theorem dX9_goPiece_9 : decode cX9_goPiece 9 = .ok (.iadd, 1) := by decide +kernel
theorem dX9_goPiece_10 : decode cX9_goPiece 10 = .ok (.istore_n 2, 1) := by decide +kernel
theorem dX9_goPiece_11 : decode cX9_goPiece 11 = .ok (.iconst 0, 1) := by decide +kernel
theorem dX9_goPiece_12 : decode cX9_goPiece 12 = .ok (.aload_n 0, 1) := by decide +kernel
theorem dX9_goPiece_13 : decode cX9_goPiece 13 = .ok (.getfield 113, 3) := by decide +kernel
theorem dX9_goPiece_16 : decode cX9_goPiece 16 = .ok (.invokestatic 84, 3) := by decide +kernel
theorem dX9_goPiece_19 : decode cX9_goPiece 19 = .ok (.istore_n 3, 1) := by decide +kernel
theorem dX9_goPiece_20 : decode cX9_goPiece 20 = .ok (.iload_n 3, 1) := by decide +kernel
theorem dX9_goPiece_21 : decode cX9_goPiece 21 = .ok (.iload_n 2, 1) := by decide +kernel
theorem dX9_goPiece_22 : decode cX9_goPiece 22 = .ok (.if_icmp .ge 25, 3) := by decide +kernel
theorem dX9_goPiece_25 : decode cX9_goPiece 25 = .ok (.iload_n 3, 1) := by decide +kernel
theorem dX9_goPiece_26 : decode cX9_goPiece 26 = .ok (.bipush 120, 2) := by decide +kernel
theorem dX9_goPiece_28 : decode cX9_goPiece 28 = .ok (.if_icmp .ge 19, 3) := by decide +kernel
theorem dX9_goPiece_31 : decode cX9_goPiece 31 = .ok (.aload_n 0, 1) := by decide +kernel
theorem dX9_goPiece_32 : decode cX9_goPiece 32 = .ok (.getfield 37, 3) := by decide +kernel
theorem dX9_goPiece_35 : decode cX9_goPiece 35 = .ok (.iload_n 3, 1) := by decide +kernel
theorem dX9_goPiece_36 : decode cX9_goPiece 36 = .ok (.aload_n 0, 1) := by decide +kernel
theorem dX9_goPiece_37 : decode cX9_goPiece 37 = .ok (.getfield 225, 3) := by decide +kernel
theorem dX9_goPiece_40 : decode cX9_goPiece 40 = .ok (.iastore, 1) := by decide +kernel
theorem dX9_goPiece_41 : decode cX9_goPiece 41 = .ok (.iinc 3 1, 3) := by decide +kernel
theorem dX9_goPiece_44 : decode cX9_goPiece 44 = .ok (.goto (-24), 3) := by decide +kernel
theorem dX9_goPiece_47 : decode cX9_goPiece 47 = .ok (.aload_n 0, 1) := by decide +kernel
theorem dX9_goPiece_48 : decode cX9_goPiece 48 = .ok (.iload_n 2, 1) := by decide +kernel
theorem dX9_goPiece_49 : decode cX9_goPiece 49 = .ok (.putfield 113, 3) := by decide +kernel
theorem dX9_goPiece_52 : decode cX9_goPiece 52 = .ok (.aload_n 0, 1) := by decide +kernel
theorem dX9_goPiece_53 : decode cX9_goPiece 53 = .ok (.iload_n 1, 1) := by decide +kernel
theorem dX9_goPiece_54 : decode cX9_goPiece 54 = .ok (.iconst 4, 1) := by decide +kernel
theorem dX9_goPiece_55 : decode cX9_goPiece 55 = .ok (.if_icmp .ne 10, 3) := by decide +kernel
theorem dX9_goPiece_58 : decode cX9_goPiece 58 = .ok (.aload_n 0, 1) := by decide +kernel
theorem dX9_goPiece_59 : decode cX9_goPiece 59 = .ok (.getfield 225, 3) := by decide +kernel
theorem dX9_goPiece_62 : decode cX9_goPiece 62 = .ok (.goto 15, 3) := by decide +kernel
theorem dX9_goPiece_65 : decode cX9_goPiece 65 = .ok (.aload_n 0, 1) := by decide +kernel
theorem dX9_goPiece_66 : decode cX9_goPiece 66 = .ok (.getfield 47, 3) := by decide +kernel
theorem dX9_goPiece_69 : decode cX9_goPiece 69 = .ok (.aload_n 0, 1) := by decide +kernel
theorem dX9_goPiece_70 : decode cX9_goPiece 70 = .ok (.getfield 225, 3) := by decide +kernel
theorem dX9_goPiece_73 : decode cX9_goPiece 73 = .ok (.iload_n 1, 1) := by decide +kernel
theorem dX9_goPiece_74 : decode cX9_goPiece 74 = .ok (.invokevirtual 159, 3) := by decide +kernel
theorem dX9_goPiece_77 : decode cX9_goPiece 77 = .ok (.putfield 225, 3) := by decide +kernel
theorem dX9_goPiece_80 : decode cX9_goPiece 80 = .ok (.aload_n 0, 1) := by decide +kernel
theorem dX9_goPiece_81 : decode cX9_goPiece 81 = .ok (.getfield 33, 3) := by decide +kernel
theorem dX9_goPiece_84 : decode cX9_goPiece 84 = .ok (.iload_n 1, 1) := by decide +kernel
theorem dX9_goPiece_85 : decode cX9_goPiece 85 = .ok (.invokevirtual 239, 3) := by decide +kernel
theorem dX9_goPiece_88 : decode cX9_goPiece 88 = .ok (.pop, 1) := by decide +kernel
theorem dX9_goPiece_89 : decode cX9_goPiece 89 = .ok (.return_, 1) := by decide +kernel
theorem dX9_lengthOf_0 : decode cX9_lengthOf 0 = .ok (.iload_n 1, 1) := by decide +kernel
theorem dX9_lengthOf_1 : decode cX9_lengthOf 1 = .ok (.iconst 4, 1) := by decide +kernel
theorem dX9_lengthOf_2 : decode cX9_lengthOf 2 = .ok (.if_icmp .ne 7, 3) := by decide +kernel
theorem dX9_lengthOf_5 : decode cX9_lengthOf 5 = .ok (.iconst 1, 1) := by decide +kernel
theorem dX9_lengthOf_6 : decode cX9_lengthOf 6 = .ok (.goto 10, 3) := by decide +kernel
theorem dX9_lengthOf_9 : decode cX9_lengthOf 9 = .ok (.aload_n 0, 1) := by decide +kernel
theorem dX9_lengthOf_10 : decode cX9_lengthOf 10 = .ok (.getfield 43, 3) := by decide +kernel
theorem dX9_lengthOf_13 : decode cX9_lengthOf 13 = .ok (.getfield 156, 3) := by decide +kernel
theorem dX9_lengthOf_16 : decode cX9_lengthOf 16 = .ok (.ireturn, 1) := by decide +kernel
theorem dX9_goAlong_0 : decode cX9_goAlong 0 = .ok (.aload_n 0, 1) := by decide +kernel
theorem dX9_goAlong_1 : decode cX9_goAlong 1 = .ok (.invokevirtual 222, 3) := by decide +kernel
theorem dX9_goAlong_4 : decode cX9_goAlong 4 = .ok (.iconst 0, 1) := by decide +kernel
theorem dX9_goAlong_5 : decode cX9_goAlong 5 = .ok (.istore_n 2, 1) := by decide +kernel
theorem dX9_goAlong_6 : decode cX9_goAlong 6 = .ok (.iload_n 2, 1) := by decide +kernel
theorem dX9_goAlong_7 : decode cX9_goAlong 7 = .ok (.aload_n 1, 1) := by decide +kernel
theorem dX9_goAlong_8 : decode cX9_goAlong 8 = .ok (.getfield 242, 3) := by decide +kernel
theorem dX9_goAlong_11 : decode cX9_goAlong 11 = .ok (.if_icmp .ge 34, 3) := by decide +kernel
theorem dX9_goAlong_14 : decode cX9_goAlong 14 = .ok (.aload_n 0, 1) := by decide +kernel
theorem dX9_goAlong_15 : decode cX9_goAlong 15 = .ok (.aload_n 1, 1) := by decide +kernel
theorem dX9_goAlong_16 : decode cX9_goAlong 16 = .ok (.iload_n 2, 1) := by decide +kernel
theorem dX9_goAlong_17 : decode cX9_goAlong 17 = .ok (.invokevirtual 245, 3) := by decide +kernel
theorem dX9_goAlong_20 : decode cX9_goAlong 20 = .ok (.invokevirtual 248, 3) := by decide +kernel
theorem dX9_goAlong_23 : decode cX9_goAlong 23 = .ok (.istore_n 3, 1) := by decide +kernel
theorem dX9_goAlong_24 : decode cX9_goAlong 24 = .ok (.iload_n 3, 1) := by decide +kernel
theorem dX9_goAlong_25 : decode cX9_goAlong 25 = .ok (.ifCond .eq 5, 3) := by decide +kernel
theorem dX9_goAlong_28 : decode cX9_goAlong 28 = .ok (.iload_n 3, 1) := by decide +kernel
theorem dX9_goAlong_29 : decode cX9_goAlong 29 = .ok (.ireturn, 1) := by decide +kernel
theorem dX9_goAlong_30 : decode cX9_goAlong 30 = .ok (.aload_n 0, 1) := by decide +kernel
theorem dX9_goAlong_31 : decode cX9_goAlong 31 = .ok (.aload_n 1, 1) := by decide +kernel
theorem dX9_goAlong_32 : decode cX9_goAlong 32 = .ok (.iload_n 2, 1) := by decide +kernel
theorem dX9_goAlong_33 : decode cX9_goAlong 33 = .ok (.invokevirtual 245, 3) := by decide +kernel
theorem dX9_goAlong_36 : decode cX9_goAlong 36 = .ok (.invokevirtual 232, 3) := by decide +kernel
theorem dX9_goAlong_39 : decode cX9_goAlong 39 = .ok (.iinc 2 1, 3) := by decide +kernel
theorem dX9_goAlong_42 : decode cX9_goAlong 42 = .ok (.goto (-36), 3) := by decide +kernel
theorem dX9_goAlong_45 : decode cX9_goAlong 45 = .ok (.iconst 0, 1) := by decide +kernel
theorem dX9_goAlong_46 : decode cX9_goAlong 46 = .ok (.ireturn, 1) := by decide +kernel
theorem dX9_whyNot_0 : decode cX9_whyNot 0 = .ok (.iload_n 1, 1) := by decide +kernel
theorem dX9_whyNot_1 : decode cX9_whyNot 1 = .ok (.iconst 4, 1) := by decide +kernel
theorem dX9_whyNot_2 : decode cX9_whyNot 2 = .ok (.if_icmp .ne 10, 3) := by decide +kernel
theorem dX9_whyNot_5 : decode cX9_whyNot 5 = .ok (.aload_n 0, 1) := by decide +kernel
theorem dX9_whyNot_6 : decode cX9_whyNot 6 = .ok (.getfield 225, 3) := by decide +kernel
theorem dX9_whyNot_9 : decode cX9_whyNot 9 = .ok (.goto 14, 3) := by decide +kernel
theorem dX9_whyNot_12 : decode cX9_whyNot 12 = .ok (.aload_n 0, 1) := by decide +kernel
theorem dX9_whyNot_13 : decode cX9_whyNot 13 = .ok (.getfield 225, 3) := by decide +kernel
theorem dX9_whyNot_16 : decode cX9_whyNot 16 = .ok (.iconst 2, 1) := by decide +kernel
theorem dX9_whyNot_17 : decode cX9_whyNot 17 = .ok (.iload_n 1, 1) := by decide +kernel
theorem dX9_whyNot_18 : decode cX9_whyNot 18 = .ok (.imul, 1) := by decide +kernel
theorem dX9_whyNot_19 : decode cX9_whyNot 19 = .ok (.iconst 1, 1) := by decide +kernel
theorem dX9_whyNot_20 : decode cX9_whyNot 20 = .ok (.invokestatic 251, 3) := by decide +kernel
theorem dX9_whyNot_23 : decode cX9_whyNot 23 = .ok (.istore_n 2, 1) := by decide +kernel
theorem dX9_whyNot_24 : decode cX9_whyNot 24 = .ok (.iload_n 2, 1) := by decide +kernel
theorem dX9_whyNot_25 : decode cX9_whyNot 25 = .ok (.iconst (-1), 1) := by decide +kernel
theorem dX9_whyNot_26 : decode cX9_whyNot 26 = .ok (.if_icmp .ne 5, 3) := by decide +kernel
theorem dX9_whyNot_29 : decode cX9_whyNot 29 = .ok (.iconst 1, 1) := by decide +kernel
theorem dX9_whyNot_30 : decode cX9_whyNot 30 = .ok (.ireturn, 1) := by decide +kernel
theorem dX9_whyNot_31 : decode cX9_whyNot 31 = .ok (.aload_n 0, 1) := by decide +kernel
theorem dX9_whyNot_32 : decode cX9_whyNot 32 = .ok (.getfield 47, 3) := by decide +kernel
theorem dX9_whyNot_35 : decode cX9_whyNot 35 = .ok (.getfield 162, 3) := by decide +kernel
theorem dX9_whyNot_38 : decode cX9_whyNot 38 = .ok (.iload_n 2, 1) := by decide +kernel
theorem dX9_whyNot_39 : decode cX9_whyNot 39 = .ok (.invokevirtual 254, 3) := by decide +kernel
theorem dX9_whyNot_42 : decode cX9_whyNot 42 = .ok (.ifCond .ne 5, 3) := by decide +kernel
theorem dX9_whyNot_45 : decode cX9_whyNot 45 = .ok (.iconst 2, 1) := by decide +kernel
theorem dX9_whyNot_46 : decode cX9_whyNot 46 = .ok (.ireturn, 1) := by decide +kernel
theorem dX9_whyNot_47 : decode cX9_whyNot 47 = .ok (.aload_n 0, 1) := by decide +kernel
theorem dX9_whyNot_48 : decode cX9_whyNot 48 = .ok (.getfield 113, 3) := by decide +kernel
theorem dX9_whyNot_51 : decode cX9_whyNot 51 = .ok (.aload_n 0, 1) := by decide +kernel
theorem dX9_whyNot_52 : decode cX9_whyNot 52 = .ok (.iload_n 1, 1) := by decide +kernel
theorem dX9_whyNot_53 : decode cX9_whyNot 53 = .ok (.invokevirtual 236, 3) := by decide +kernel
theorem dX9_whyNot_56 : decode cX9_whyNot 56 = .ok (.iadd, 1) := by decide +kernel
theorem dX9_whyNot_57 : decode cX9_whyNot 57 = .ok (.istore_n 3, 1) := by decide +kernel
theorem dX9_whyNot_58 : decode cX9_whyNot 58 = .ok (.iload_n 3, 1) := by decide +kernel
theorem dX9_whyNot_59 : decode cX9_whyNot 59 = .ok (.bipush 119, 2) := by decide +kernel
theorem dX9_whyNot_61 : decode cX9_whyNot 61 = .ok (.if_icmp .le 5, 3) := by decide +kernel
theorem dX9_whyNot_64 : decode cX9_whyNot 64 = .ok (.iconst 3, 1) := by decide +kernel
theorem dX9_whyNot_65 : decode cX9_whyNot 65 = .ok (.ireturn, 1) := by decide +kernel
theorem dX9_whyNot_66 : decode cX9_whyNot 66 = .ok (.iload_n 1, 1) := by decide +kernel
theorem dX9_whyNot_67 : decode cX9_whyNot 67 = .ok (.iconst 4, 1) := by decide +kernel
theorem dX9_whyNot_68 : decode cX9_whyNot 68 = .ok (.if_icmp .eq 16, 3) := by decide +kernel
theorem dX9_whyNot_71 : decode cX9_whyNot 71 = .ok (.aload_n 0, 1) := by decide +kernel
theorem dX9_whyNot_72 : decode cX9_whyNot 72 = .ok (.iload_n 3, 1) := by decide +kernel
theorem dX9_whyNot_73 : decode cX9_whyNot 73 = .ok (.iload_n 2, 1) := by decide +kernel
theorem dX9_whyNot_74 : decode cX9_whyNot 74 = .ok (.invokevirtual 171, 3) := by decide +kernel
theorem dX9_whyNot_77 : decode cX9_whyNot 77 = .ok (.ifCond .eq 7, 3) := by decide +kernel
theorem dX9_whyNot_80 : decode cX9_whyNot 80 = .ok (.iconst 4, 1) := by decide +kernel
theorem dX9_whyNot_81 : decode cX9_whyNot 81 = .ok (.goto 4, 3) := by decide +kernel
theorem dX9_whyNot_84 : decode cX9_whyNot 84 = .ok (.iconst 0, 1) := by decide +kernel
theorem dX9_whyNot_85 : decode cX9_whyNot 85 = .ok (.ireturn, 1) := by decide +kernel
theorem dX9_sunOnPath_0 : decode cX9_sunOnPath 0 = .ok (.iconst 0, 1) := by decide +kernel
theorem dX9_sunOnPath_1 : decode cX9_sunOnPath 1 = .ok (.istore_n 1, 1) := by decide +kernel
theorem dX9_sunOnPath_2 : decode cX9_sunOnPath 2 = .ok (.iconst 0, 1) := by decide +kernel
theorem dX9_sunOnPath_3 : decode cX9_sunOnPath 3 = .ok (.istore_n 2, 1) := by decide +kernel
theorem dX9_sunOnPath_4 : decode cX9_sunOnPath 4 = .ok (.iload_n 2, 1) := by decide +kernel
theorem dX9_sunOnPath_5 : decode cX9_sunOnPath 5 = .ok (.bipush 120, 2) := by decide +kernel
theorem dX9_sunOnPath_7 : decode cX9_sunOnPath 7 = .ok (.if_icmp .ge 39, 3) := by decide +kernel
theorem dX9_sunOnPath_10 : decode cX9_sunOnPath 10 = .ok (.aload_n 0, 1) := by decide +kernel
theorem dX9_sunOnPath_11 : decode cX9_sunOnPath 11 = .ok (.getfield 37, 3) := by decide +kernel
theorem dX9_sunOnPath_14 : decode cX9_sunOnPath 14 = .ok (.iload_n 2, 1) := by decide +kernel
theorem dX9_sunOnPath_15 : decode cX9_sunOnPath 15 = .ok (.iaload, 1) := by decide +kernel
theorem dX9_sunOnPath_16 : decode cX9_sunOnPath 16 = .ok (.iconst (-1), 1) := by decide +kernel
theorem dX9_sunOnPath_17 : decode cX9_sunOnPath 17 = .ok (.if_icmp .eq 23, 3) := by decide +kernel
theorem dX9_sunOnPath_20 : decode cX9_sunOnPath 20 = .ok (.aload_n 0, 1) := by decide +kernel
theorem dX9_sunOnPath_21 : decode cX9_sunOnPath 21 = .ok (.getfield 14, 3) := by decide +kernel
theorem dX9_sunOnPath_24 : decode cX9_sunOnPath 24 = .ok (.iload_n 2, 1) := by decide +kernel
theorem dX9_sunOnPath_25 : decode cX9_sunOnPath 25 = .ok (.aload_n 0, 1) := by decide +kernel
theorem dX9_sunOnPath_26 : decode cX9_sunOnPath 26 = .ok (.getfield 37, 3) := by decide +kernel
theorem dX9_sunOnPath_29 : decode cX9_sunOnPath 29 = .ok (.iload_n 2, 1) := by decide +kernel
theorem dX9_sunOnPath_30 : decode cX9_sunOnPath 30 = .ok (.iaload, 1) := by decide +kernel
theorem dX9_sunOnPath_31 : decode cX9_sunOnPath 31 = .ok (.invokevirtual 178, 3) := by decide +kernel
theorem dX9_sunOnPath_34 : decode cX9_sunOnPath 34 = .ok (.ifCond .ne 6, 3) := by decide +kernel
theorem dX9_sunOnPath_37 : decode cX9_sunOnPath 37 = .ok (.iinc 1 1, 3) := by decide +kernel
theorem dX9_sunOnPath_40 : decode cX9_sunOnPath 40 = .ok (.iinc 2 1, 3) := by decide +kernel
theorem dX9_sunOnPath_43 : decode cX9_sunOnPath 43 = .ok (.goto (-39), 3) := by decide +kernel
theorem dX9_sunOnPath_46 : decode cX9_sunOnPath 46 = .ok (.iload_n 1, 1) := by decide +kernel
theorem dX9_sunOnPath_47 : decode cX9_sunOnPath 47 = .ok (.ireturn, 1) := by decide +kernel
theorem dX9_greatestHeat_0 : decode cX9_greatestHeat 0 = .ok (.iconst 0, 1) := by decide +kernel
theorem dX9_greatestHeat_1 : decode cX9_greatestHeat 1 = .ok (.istore_n 1, 1) := by decide +kernel
theorem dX9_greatestHeat_2 : decode cX9_greatestHeat 2 = .ok (.iconst 0, 1) := by decide +kernel
theorem dX9_greatestHeat_3 : decode cX9_greatestHeat 3 = .ok (.istore_n 2, 1) := by decide +kernel
theorem dX9_greatestHeat_4 : decode cX9_greatestHeat 4 = .ok (.aload_n 0, 1) := by decide +kernel
theorem dX9_greatestHeat_5 : decode cX9_greatestHeat 5 = .ok (.getfield 89, 3) := by decide +kernel
theorem dX9_greatestHeat_8 : decode cX9_greatestHeat 8 = .ok (.istore_n 3, 1) := by decide +kernel
theorem dX9_greatestHeat_9 : decode cX9_greatestHeat 9 = .ok (.iload_n 3, 1) := by decide +kernel
theorem dX9_greatestHeat_10 : decode cX9_greatestHeat 10 = .ok (.aload_n 0, 1) := by decide +kernel
theorem dX9_greatestHeat_11 : decode cX9_greatestHeat 11 = .ok (.getfield 113, 3) := by decide +kernel
theorem dX9_greatestHeat_14 : decode cX9_greatestHeat 14 = .ok (.if_icmp .ge 120, 3) := by decide +kernel
theorem dX9_greatestHeat_17 : decode cX9_greatestHeat 17 = .ok (.iload_n 3, 1) := by decide +kernel
theorem dX9_greatestHeat_18 : decode cX9_greatestHeat 18 = .ok (.bipush 120, 2) := by decide +kernel
theorem dX9_greatestHeat_20 : decode cX9_greatestHeat 20 = .ok (.if_icmp .ge 114, 3) := by decide +kernel
theorem dX9_greatestHeat_23 : decode cX9_greatestHeat 23 = .ok (.iload_n 3, 1) := by decide +kernel
theorem dX9_greatestHeat_24 : decode cX9_greatestHeat 24 = .ok (.aload_n 0, 1) := by decide +kernel
theorem dX9_greatestHeat_25 : decode cX9_greatestHeat 25 = .ok (.getfield 89, 3) := by decide +kernel
theorem dX9_greatestHeat_28 : decode cX9_greatestHeat 28 = .ok (.if_icmp .le 24, 3) := by decide +kernel
theorem dX9_greatestHeat_31 : decode cX9_greatestHeat 31 = .ok (.aload_n 0, 1) := by decide +kernel
theorem dX9_greatestHeat_32 : decode cX9_greatestHeat 32 = .ok (.getfield 37, 3) := by decide +kernel
theorem dX9_greatestHeat_35 : decode cX9_greatestHeat 35 = .ok (.iload_n 3, 1) := by decide +kernel
theorem dX9_greatestHeat_36 : decode cX9_greatestHeat 36 = .ok (.iaload, 1) := by decide +kernel
theorem dX9_greatestHeat_37 : decode cX9_greatestHeat 37 = .ok (.aload_n 0, 1) := by decide +kernel
theorem dX9_greatestHeat_38 : decode cX9_greatestHeat 38 = .ok (.getfield 37, 3) := by decide +kernel
theorem dX9_greatestHeat_41 : decode cX9_greatestHeat 41 = .ok (.iload_n 3, 1) := by decide +kernel
theorem dX9_greatestHeat_42 : decode cX9_greatestHeat 42 = .ok (.iconst 1, 1) := by decide +kernel
theorem dX9_greatestHeat_43 : decode cX9_greatestHeat 43 = .ok (.isub, 1) := by decide +kernel
theorem dX9_greatestHeat_44 : decode cX9_greatestHeat 44 = .ok (.iaload, 1) := by decide +kernel
theorem dX9_greatestHeat_45 : decode cX9_greatestHeat 45 = .ok (.if_icmp .eq 7, 3) := by decide +kernel
theorem dX9_greatestHeat_48 : decode cX9_greatestHeat 48 = .ok (.iconst 1, 1) := by decide +kernel
theorem dX9_greatestHeat_49 : decode cX9_greatestHeat 49 = .ok (.goto 4, 3) := by decide +kernel
theorem dX9_greatestHeat_52 : decode cX9_greatestHeat 52 = .ok (.iconst 0, 1) := by decide +kernel
theorem dX9_greatestHeat_53 : decode cX9_greatestHeat 53 = .ok (.istore 4, 2) := by decide +kernel
theorem dX9_greatestHeat_55 : decode cX9_greatestHeat 55 = .ok (.iload 4, 2) := by decide +kernel
theorem dX9_greatestHeat_57 : decode cX9_greatestHeat 57 = .ok (.ifCond .eq 28, 3) := by decide +kernel
theorem dX9_greatestHeat_60 : decode cX9_greatestHeat 60 = .ok (.aload_n 0, 1) := by decide +kernel
theorem dX9_greatestHeat_61 : decode cX9_greatestHeat 61 = .ok (.getfield 47, 3) := by decide +kernel
theorem dX9_greatestHeat_64 : decode cX9_greatestHeat 64 = .ok (.getfield 162, 3) := by decide +kernel
theorem dX9_greatestHeat_67 : decode cX9_greatestHeat 67 = .ok (.getfield 175, 3) := by decide +kernel
theorem dX9_greatestHeat_70 : decode cX9_greatestHeat 70 = .ok (.iconst 0, 1) := by decide +kernel
theorem dX9_greatestHeat_71 : decode cX9_greatestHeat 71 = .ok (.aload_n 0, 1) := by decide +kernel
theorem dX9_greatestHeat_72 : decode cX9_greatestHeat 72 = .ok (.getfield 37, 3) := by decide +kernel
theorem dX9_greatestHeat_75 : decode cX9_greatestHeat 75 = .ok (.iload_n 3, 1) := by decide +kernel
theorem dX9_greatestHeat_76 : decode cX9_greatestHeat 76 = .ok (.iaload, 1) := by decide +kernel
theorem dX9_greatestHeat_77 : decode cX9_greatestHeat 77 = .ok (.invokevirtual 178, 3) := by decide +kernel
theorem dX9_greatestHeat_80 : decode cX9_greatestHeat 80 = .ok (.ifCond .eq 5, 3) := by decide +kernel
theorem dX9_greatestHeat_83 : decode cX9_greatestHeat 83 = .ok (.iconst 0, 1) := by decide +kernel
theorem dX9_greatestHeat_84 : decode cX9_greatestHeat 84 = .ok (.istore_n 1, 1) := by decide +kernel
theorem dX9_greatestHeat_85 : decode cX9_greatestHeat 85 = .ok (.aload_n 0, 1) := by decide +kernel
theorem dX9_greatestHeat_86 : decode cX9_greatestHeat 86 = .ok (.getfield 14, 3) := by decide +kernel
theorem dX9_greatestHeat_89 : decode cX9_greatestHeat 89 = .ok (.iload_n 3, 1) := by decide +kernel
theorem dX9_greatestHeat_90 : decode cX9_greatestHeat 90 = .ok (.aload_n 0, 1) := by decide +kernel
theorem dX9_greatestHeat_91 : decode cX9_greatestHeat 91 = .ok (.getfield 37, 3) := by decide +kernel
theorem dX9_greatestHeat_94 : decode cX9_greatestHeat 94 = .ok (.iload_n 3, 1) := by decide +kernel
theorem dX9_greatestHeat_95 : decode cX9_greatestHeat 95 = .ok (.iaload, 1) := by decide +kernel
theorem dX9_greatestHeat_96 : decode cX9_greatestHeat 96 = .ok (.invokevirtual 178, 3) := by decide +kernel
theorem dX9_greatestHeat_99 : decode cX9_greatestHeat 99 = .ok (.ifCond .eq 19, 3) := by decide +kernel
theorem dX9_greatestHeat_102 : decode cX9_greatestHeat 102 = .ok (.iconst 0, 1) := by decide +kernel
theorem dX9_greatestHeat_103 : decode cX9_greatestHeat 103 = .ok (.iload_n 1, 1) := by decide +kernel
theorem dX9_greatestHeat_104 : decode cX9_greatestHeat 104 = .ok (.aload_n 0, 1) := by decide +kernel
theorem dX9_greatestHeat_105 : decode cX9_greatestHeat 105 = .ok (.getfield 43, 3) := by decide +kernel
theorem dX9_greatestHeat_108 : decode cX9_greatestHeat 108 = .ok (.getfield 181, 3) := by decide +kernel
theorem dX9_greatestHeat_111 : decode cX9_greatestHeat 111 = .ok (.isub, 1) := by decide +kernel
theorem dX9_greatestHeat_112 : decode cX9_greatestHeat 112 = .ok (.invokestatic 84, 3) := by decide +kernel
theorem dX9_greatestHeat_115 : decode cX9_greatestHeat 115 = .ok (.goto 6, 3) := by decide +kernel
theorem dX9_greatestHeat_118 : decode cX9_greatestHeat 118 = .ok (.iload_n 1, 1) := by decide +kernel
theorem dX9_greatestHeat_119 : decode cX9_greatestHeat 119 = .ok (.iconst 1, 1) := by decide +kernel
theorem dX9_greatestHeat_120 : decode cX9_greatestHeat 120 = .ok (.iadd, 1) := by decide +kernel
theorem dX9_greatestHeat_121 : decode cX9_greatestHeat 121 = .ok (.istore_n 1, 1) := by decide +kernel
theorem dX9_greatestHeat_122 : decode cX9_greatestHeat 122 = .ok (.iload_n 2, 1) := by decide +kernel
theorem dX9_greatestHeat_123 : decode cX9_greatestHeat 123 = .ok (.iload_n 1, 1) := by decide +kernel
theorem dX9_greatestHeat_124 : decode cX9_greatestHeat 124 = .ok (.invokestatic 84, 3) := by decide +kernel
theorem dX9_greatestHeat_127 : decode cX9_greatestHeat 127 = .ok (.istore_n 2, 1) := by decide +kernel
theorem dX9_greatestHeat_128 : decode cX9_greatestHeat 128 = .ok (.iinc 3 1, 3) := by decide +kernel
theorem dX9_greatestHeat_131 : decode cX9_greatestHeat 131 = .ok (.goto (-122), 3) := by decide +kernel
theorem dX9_greatestHeat_134 : decode cX9_greatestHeat 134 = .ok (.iload_n 2, 1) := by decide +kernel
theorem dX9_greatestHeat_135 : decode cX9_greatestHeat 135 = .ok (.ireturn, 1) := by decide +kernel
theorem dX9_waitsOnWay_0 : decode cX9_waitsOnWay 0 = .ok (.iconst 0, 1) := by decide +kernel
theorem dX9_waitsOnWay_1 : decode cX9_waitsOnWay 1 = .ok (.istore_n 1, 1) := by decide +kernel
theorem dX9_waitsOnWay_2 : decode cX9_waitsOnWay 2 = .ok (.iconst 0, 1) := by decide +kernel
theorem dX9_waitsOnWay_3 : decode cX9_waitsOnWay 3 = .ok (.istore_n 2, 1) := by decide +kernel
theorem dX9_waitsOnWay_4 : decode cX9_waitsOnWay 4 = .ok (.iload_n 2, 1) := by decide +kernel
theorem dX9_waitsOnWay_5 : decode cX9_waitsOnWay 5 = .ok (.aload_n 0, 1) := by decide +kernel
theorem dX9_waitsOnWay_6 : decode cX9_waitsOnWay 6 = .ok (.getfield 33, 3) := by decide +kernel
theorem dX9_waitsOnWay_9 : decode cX9_waitsOnWay 9 = .ok (.getfield 242, 3) := by decide +kernel
theorem dX9_waitsOnWay_12 : decode cX9_waitsOnWay 12 = .ok (.if_icmp .ge 24, 3) := by decide +kernel
theorem dX9_waitsOnWay_15 : decode cX9_waitsOnWay 15 = .ok (.aload_n 0, 1) := by decide +kernel
theorem dX9_waitsOnWay_16 : decode cX9_waitsOnWay 16 = .ok (.getfield 33, 3) := by decide +kernel
theorem dX9_waitsOnWay_19 : decode cX9_waitsOnWay 19 = .ok (.iload_n 2, 1) := by decide +kernel
theorem dX9_waitsOnWay_20 : decode cX9_waitsOnWay 20 = .ok (.invokevirtual 245, 3) := by decide +kernel
theorem dX9_waitsOnWay_23 : decode cX9_waitsOnWay 23 = .ok (.iconst 4, 1) := by decide +kernel
theorem dX9_waitsOnWay_24 : decode cX9_waitsOnWay 24 = .ok (.if_icmp .ne 6, 3) := by decide +kernel
theorem dX9_waitsOnWay_27 : decode cX9_waitsOnWay 27 = .ok (.iinc 1 1, 3) := by decide +kernel
theorem dX9_waitsOnWay_30 : decode cX9_waitsOnWay 30 = .ok (.iinc 2 1, 3) := by decide +kernel
theorem dX9_waitsOnWay_33 : decode cX9_waitsOnWay 33 = .ok (.goto (-29), 3) := by decide +kernel
theorem dX9_waitsOnWay_36 : decode cX9_waitsOnWay 36 = .ok (.iload_n 1, 1) := by decide +kernel
theorem dX9_waitsOnWay_37 : decode cX9_waitsOnWay 37 = .ok (.ireturn, 1) := by decide +kernel
theorem dX9_longestRest_0 : decode cX9_longestRest 0 = .ok (.iconst 0, 1) := by decide +kernel
theorem dX9_longestRest_1 : decode cX9_longestRest 1 = .ok (.istore_n 1, 1) := by decide +kernel
theorem dX9_longestRest_2 : decode cX9_longestRest 2 = .ok (.iconst 0, 1) := by decide +kernel
theorem dX9_longestRest_3 : decode cX9_longestRest 3 = .ok (.istore_n 2, 1) := by decide +kernel
theorem dX9_longestRest_4 : decode cX9_longestRest 4 = .ok (.iconst 0, 1) := by decide +kernel
theorem dX9_longestRest_5 : decode cX9_longestRest 5 = .ok (.istore_n 3, 1) := by decide +kernel
theorem dX9_longestRest_6 : decode cX9_longestRest 6 = .ok (.iload_n 3, 1) := by decide +kernel
theorem dX9_longestRest_7 : decode cX9_longestRest 7 = .ok (.aload_n 0, 1) := by decide +kernel
theorem dX9_longestRest_8 : decode cX9_longestRest 8 = .ok (.getfield 33, 3) := by decide +kernel
theorem dX9_longestRest_11 : decode cX9_longestRest 11 = .ok (.getfield 242, 3) := by decide +kernel
theorem dX9_longestRest_14 : decode cX9_longestRest 14 = .ok (.if_icmp .ge 35, 3) := by decide +kernel
theorem dX9_longestRest_17 : decode cX9_longestRest 17 = .ok (.aload_n 0, 1) := by decide +kernel
theorem dX9_longestRest_18 : decode cX9_longestRest 18 = .ok (.getfield 33, 3) := by decide +kernel
theorem dX9_longestRest_21 : decode cX9_longestRest 21 = .ok (.iload_n 3, 1) := by decide +kernel
theorem dX9_longestRest_22 : decode cX9_longestRest 22 = .ok (.invokevirtual 245, 3) := by decide +kernel
theorem dX9_longestRest_25 : decode cX9_longestRest 25 = .ok (.iconst 4, 1) := by decide +kernel
theorem dX9_longestRest_26 : decode cX9_longestRest 26 = .ok (.if_icmp .ne 9, 3) := by decide +kernel
theorem dX9_longestRest_29 : decode cX9_longestRest 29 = .ok (.iload_n 2, 1) := by decide +kernel
theorem dX9_longestRest_30 : decode cX9_longestRest 30 = .ok (.iconst 1, 1) := by decide +kernel
theorem dX9_longestRest_31 : decode cX9_longestRest 31 = .ok (.iadd, 1) := by decide +kernel
theorem dX9_longestRest_32 : decode cX9_longestRest 32 = .ok (.goto 4, 3) := by decide +kernel
theorem dX9_longestRest_35 : decode cX9_longestRest 35 = .ok (.iconst 0, 1) := by decide +kernel
theorem dX9_longestRest_36 : decode cX9_longestRest 36 = .ok (.istore_n 2, 1) := by decide +kernel
theorem dX9_longestRest_37 : decode cX9_longestRest 37 = .ok (.iload_n 1, 1) := by decide +kernel
theorem dX9_longestRest_38 : decode cX9_longestRest 38 = .ok (.iload_n 2, 1) := by decide +kernel
theorem dX9_longestRest_39 : decode cX9_longestRest 39 = .ok (.invokestatic 84, 3) := by decide +kernel
theorem dX9_longestRest_42 : decode cX9_longestRest 42 = .ok (.istore_n 1, 1) := by decide +kernel
theorem dX9_longestRest_43 : decode cX9_longestRest 43 = .ok (.iinc 3 1, 3) := by decide +kernel
theorem dX9_longestRest_46 : decode cX9_longestRest 46 = .ok (.goto (-40), 3) := by decide +kernel
theorem dX9_longestRest_49 : decode cX9_longestRest 49 = .ok (.iload_n 1, 1) := by decide +kernel
theorem dX9_longestRest_50 : decode cX9_longestRest 50 = .ok (.ireturn, 1) := by decide +kernel
theorem dX9_restPlace_0 : decode cX9_restPlace 0 = .ok (.aload_n 0, 1) := by decide +kernel
theorem dX9_restPlace_1 : decode cX9_restPlace 1 = .ok (.getfield 89, 3) := by decide +kernel
theorem dX9_restPlace_4 : decode cX9_restPlace 4 = .ok (.istore_n 2, 1) := by decide +kernel
theorem dX9_restPlace_5 : decode cX9_restPlace 5 = .ok (.iconst 0, 1) := by decide +kernel
theorem dX9_restPlace_6 : decode cX9_restPlace 6 = .ok (.istore_n 3, 1) := by decide +kernel
theorem dX9_restPlace_7 : decode cX9_restPlace 7 = .ok (.iconst 0, 1) := by decide +kernel
theorem dX9_restPlace_8 : decode cX9_restPlace 8 = .ok (.istore 4, 2) := by decide +kernel
theorem dX9_restPlace_10 : decode cX9_restPlace 10 = .ok (.iload 4, 2) := by decide +kernel
theorem dX9_restPlace_12 : decode cX9_restPlace 12 = .ok (.aload_n 0, 1) := by decide +kernel
theorem dX9_restPlace_13 : decode cX9_restPlace 13 = .ok (.getfield 33, 3) := by decide +kernel
theorem dX9_restPlace_16 : decode cX9_restPlace 16 = .ok (.getfield 242, 3) := by decide +kernel
theorem dX9_restPlace_19 : decode cX9_restPlace 19 = .ok (.if_icmp .ge 69, 3) := by decide +kernel
theorem dX9_restPlace_22 : decode cX9_restPlace 22 = .ok (.iload_n 1, 1) := by decide +kernel
theorem dX9_restPlace_23 : decode cX9_restPlace 23 = .ok (.ifCond .le 65, 3) := by decide +kernel
theorem dX9_restPlace_26 : decode cX9_restPlace 26 = .ok (.aload_n 0, 1) := by decide +kernel
theorem dX9_restPlace_27 : decode cX9_restPlace 27 = .ok (.getfield 33, 3) := by decide +kernel
theorem dX9_restPlace_30 : decode cX9_restPlace 30 = .ok (.iload 4, 2) := by decide +kernel
theorem dX9_restPlace_32 : decode cX9_restPlace 32 = .ok (.invokevirtual 245, 3) := by decide +kernel
theorem dX9_restPlace_35 : decode cX9_restPlace 35 = .ok (.iconst 4, 1) := by decide +kernel
theorem dX9_restPlace_36 : decode cX9_restPlace 36 = .ok (.if_icmp .ne 9, 3) := by decide +kernel
theorem dX9_restPlace_39 : decode cX9_restPlace 39 = .ok (.iload_n 3, 1) := by decide +kernel
theorem dX9_restPlace_40 : decode cX9_restPlace 40 = .ok (.iconst 1, 1) := by decide +kernel
theorem dX9_restPlace_41 : decode cX9_restPlace 41 = .ok (.iadd, 1) := by decide +kernel
theorem dX9_restPlace_42 : decode cX9_restPlace 42 = .ok (.goto 4, 3) := by decide +kernel
theorem dX9_restPlace_45 : decode cX9_restPlace 45 = .ok (.iconst 0, 1) := by decide +kernel
theorem dX9_restPlace_46 : decode cX9_restPlace 46 = .ok (.istore_n 3, 1) := by decide +kernel
theorem dX9_restPlace_47 : decode cX9_restPlace 47 = .ok (.iload_n 3, 1) := by decide +kernel
theorem dX9_restPlace_48 : decode cX9_restPlace 48 = .ok (.iload_n 1, 1) := by decide +kernel
theorem dX9_restPlace_49 : decode cX9_restPlace 49 = .ok (.if_icmp .ne 17, 3) := by decide +kernel
theorem dX9_restPlace_52 : decode cX9_restPlace 52 = .ok (.iload_n 2, 1) := by decide +kernel
theorem dX9_restPlace_53 : decode cX9_restPlace 53 = .ok (.invokestatic 206, 3) := by decide +kernel
theorem dX9_restPlace_56 : decode cX9_restPlace 56 = .ok (.ifCond .eq 10, 3) := by decide +kernel
theorem dX9_restPlace_59 : decode cX9_restPlace 59 = .ok (.aload_n 0, 1) := by decide +kernel
theorem dX9_restPlace_60 : decode cX9_restPlace 60 = .ok (.getfield 37, 3) := by decide +kernel
theorem dX9_restPlace_63 : decode cX9_restPlace 63 = .ok (.iload_n 2, 1) := by decide +kernel
theorem dX9_restPlace_64 : decode cX9_restPlace 64 = .ok (.iaload, 1) := by decide +kernel
theorem dX9_restPlace_65 : decode cX9_restPlace 65 = .ok (.ireturn, 1) := by decide +kernel
theorem dX9_restPlace_66 : decode cX9_restPlace 66 = .ok (.iload_n 2, 1) := by decide +kernel
theorem dX9_restPlace_67 : decode cX9_restPlace 67 = .ok (.aload_n 0, 1) := by decide +kernel
theorem dX9_restPlace_68 : decode cX9_restPlace 68 = .ok (.aload_n 0, 1) := by decide +kernel
theorem dX9_restPlace_69 : decode cX9_restPlace 69 = .ok (.getfield 33, 3) := by decide +kernel
theorem dX9_restPlace_72 : decode cX9_restPlace 72 = .ok (.iload 4, 2) := by decide +kernel
theorem dX9_restPlace_74 : decode cX9_restPlace 74 = .ok (.invokevirtual 245, 3) := by decide +kernel
theorem dX9_restPlace_77 : decode cX9_restPlace 77 = .ok (.invokevirtual 236, 3) := by decide +kernel
theorem dX9_restPlace_80 : decode cX9_restPlace 80 = .ok (.iadd, 1) := by decide +kernel
theorem dX9_restPlace_81 : decode cX9_restPlace 81 = .ok (.istore_n 2, 1) := by decide +kernel
theorem dX9_restPlace_82 : decode cX9_restPlace 82 = .ok (.iinc 4 1, 3) := by decide +kernel
theorem dX9_restPlace_85 : decode cX9_restPlace 85 = .ok (.goto (-75), 3) := by decide +kernel
theorem dX9_restPlace_88 : decode cX9_restPlace 88 = .ok (.iconst (-1), 1) := by decide +kernel
theorem dX9_restPlace_89 : decode cX9_restPlace 89 = .ok (.ireturn, 1) := by decide +kernel
theorem dX9_allowHeat_0 : decode cX9_allowHeat 0 = .ok (.bipush 119, 2) := by decide +kernel
theorem dX9_allowHeat_2 : decode cX9_allowHeat 2 = .ok (.istore_n 1, 1) := by decide +kernel
theorem dX9_allowHeat_3 : decode cX9_allowHeat 3 = .ok (.iload_n 1, 1) := by decide +kernel
theorem dX9_allowHeat_4 : decode cX9_allowHeat 4 = .ok (.ifCond .lt 58, 3) := by decide +kernel
theorem dX9_allowHeat_7 : decode cX9_allowHeat 7 = .ok (.iconst 0, 1) := by decide +kernel
theorem dX9_allowHeat_8 : decode cX9_allowHeat 8 = .ok (.istore_n 2, 1) := by decide +kernel
theorem dX9_allowHeat_9 : decode cX9_allowHeat 9 = .ok (.iload_n 2, 1) := by decide +kernel
theorem dX9_allowHeat_10 : decode cX9_allowHeat 10 = .ok (.bipush 100, 2) := by decide +kernel
theorem dX9_allowHeat_12 : decode cX9_allowHeat 12 = .ok (.if_icmp .ge 44, 3) := by decide +kernel
theorem dX9_allowHeat_15 : decode cX9_allowHeat 15 = .ok (.aload_n 0, 1) := by decide +kernel
theorem dX9_allowHeat_16 : decode cX9_allowHeat 16 = .ok (.getfield 27, 3) := by decide +kernel
theorem dX9_allowHeat_19 : decode cX9_allowHeat 19 = .ok (.iload_n 1, 1) := by decide +kernel
theorem dX9_allowHeat_20 : decode cX9_allowHeat 20 = .ok (.bipush 100, 2) := by decide +kernel
theorem dX9_allowHeat_22 : decode cX9_allowHeat 22 = .ok (.imul, 1) := by decide +kernel
theorem dX9_allowHeat_23 : decode cX9_allowHeat 23 = .ok (.iload_n 2, 1) := by decide +kernel
theorem dX9_allowHeat_24 : decode cX9_allowHeat 24 = .ok (.iadd, 1) := by decide +kernel
theorem dX9_allowHeat_25 : decode cX9_allowHeat 25 = .ok (.iload_n 2, 1) := by decide +kernel
theorem dX9_allowHeat_26 : decode cX9_allowHeat 26 = .ok (.aload_n 0, 1) := by decide +kernel
theorem dX9_allowHeat_27 : decode cX9_allowHeat 27 = .ok (.getfield 95, 3) := by decide +kernel
theorem dX9_allowHeat_30 : decode cX9_allowHeat 30 = .ok (.if_icmp .ne 13, 3) := by decide +kernel
theorem dX9_allowHeat_33 : decode cX9_allowHeat 33 = .ok (.aload_n 0, 1) := by decide +kernel
theorem dX9_allowHeat_34 : decode cX9_allowHeat 34 = .ok (.getfield 43, 3) := by decide +kernel
theorem dX9_allowHeat_37 : decode cX9_allowHeat 37 = .ok (.getfield 107, 3) := by decide +kernel
theorem dX9_allowHeat_40 : decode cX9_allowHeat 40 = .ok (.goto 9, 3) := by decide +kernel
theorem dX9_allowHeat_43 : decode cX9_allowHeat 43 = .ok (.aload_n 0, 1) := by decide +kernel
theorem dX9_allowHeat_44 : decode cX9_allowHeat 44 = .ok (.iload_n 1, 1) := by decide +kernel
theorem dX9_allowHeat_45 : decode cX9_allowHeat 45 = .ok (.iload_n 2, 1) := by decide +kernel
theorem dX9_allowHeat_46 : decode cX9_allowHeat 46 = .ok (.invokevirtual 257, 3) := by decide +kernel
theorem dX9_allowHeat_49 : decode cX9_allowHeat 49 = .ok (.iastore, 1) := by decide +kernel
theorem dX9_allowHeat_50 : decode cX9_allowHeat 50 = .ok (.iinc 2 1, 3) := by decide +kernel
theorem dX9_allowHeat_53 : decode cX9_allowHeat 53 = .ok (.goto (-44), 3) := by decide +kernel
theorem dX9_allowHeat_56 : decode cX9_allowHeat 56 = .ok (.iinc 1 (-1), 3) := by decide +kernel
theorem dX9_allowHeat_59 : decode cX9_allowHeat 59 = .ok (.goto (-56), 3) := by decide +kernel
theorem dX9_allowHeat_62 : decode cX9_allowHeat 62 = .ok (.return_, 1) := by decide +kernel
theorem dX9_allowedAt_0 : decode cX9_allowedAt 0 = .ok (.aload_n 0, 1) := by decide +kernel
theorem dX9_allowedAt_1 : decode cX9_allowedAt 1 = .ok (.getfield 47, 3) := by decide +kernel
theorem dX9_allowedAt_4 : decode cX9_allowedAt 4 = .ok (.getfield 200, 3) := by decide +kernel
theorem dX9_allowedAt_7 : decode cX9_allowedAt 7 = .ok (.iconst 0, 1) := by decide +kernel
theorem dX9_allowedAt_8 : decode cX9_allowedAt 8 = .ok (.iload_n 2, 1) := by decide +kernel
theorem dX9_allowedAt_9 : decode cX9_allowedAt 9 = .ok (.invokevirtual 178, 3) := by decide +kernel
theorem dX9_allowedAt_12 : decode cX9_allowedAt 12 = .ok (.ifCond .ne 5, 3) := by decide +kernel
theorem dX9_allowedAt_15 : decode cX9_allowedAt 15 = .ok (.iconst (-1), 1) := by decide +kernel
theorem dX9_allowedAt_16 : decode cX9_allowedAt 16 = .ok (.ireturn, 1) := by decide +kernel
theorem dX9_allowedAt_17 : decode cX9_allowedAt 17 = .ok (.iconst (-1), 1) := by decide +kernel
theorem dX9_allowedAt_18 : decode cX9_allowedAt 18 = .ok (.istore_n 3, 1) := by decide +kernel
theorem dX9_allowedAt_19 : decode cX9_allowedAt 19 = .ok (.iload_n 1, 1) := by decide +kernel
theorem dX9_allowedAt_20 : decode cX9_allowedAt 20 = .ok (.aload_n 0, 1) := by decide +kernel
theorem dX9_allowedAt_21 : decode cX9_allowedAt 21 = .ok (.getfield 43, 3) := by decide +kernel
theorem dX9_allowedAt_24 : decode cX9_allowedAt 24 = .ok (.getfield 156, 3) := by decide +kernel
theorem dX9_allowedAt_27 : decode cX9_allowedAt 27 = .ok (.iadd, 1) := by decide +kernel
theorem dX9_allowedAt_28 : decode cX9_allowedAt 28 = .ok (.istore 4, 2) := by decide +kernel
theorem dX9_allowedAt_30 : decode cX9_allowedAt 30 = .ok (.iload 4, 2) := by decide +kernel
theorem dX9_allowedAt_32 : decode cX9_allowedAt 32 = .ok (.bipush 119, 2) := by decide +kernel
theorem dX9_allowedAt_34 : decode cX9_allowedAt 34 = .ok (.if_icmp .gt 66, 3) := by decide +kernel
theorem dX9_allowedAt_37 : decode cX9_allowedAt 37 = .ok (.iconst 0, 1) := by decide +kernel
theorem dX9_allowedAt_38 : decode cX9_allowedAt 38 = .ok (.istore 5, 2) := by decide +kernel
theorem dX9_allowedAt_40 : decode cX9_allowedAt 40 = .ok (.iload 5, 2) := by decide +kernel
theorem dX9_allowedAt_42 : decode cX9_allowedAt 42 = .ok (.iconst 4, 1) := by decide +kernel
theorem dX9_allowedAt_43 : decode cX9_allowedAt 43 = .ok (.if_icmp .ge 30, 3) := by decide +kernel
theorem dX9_allowedAt_46 : decode cX9_allowedAt 46 = .ok (.iload_n 3, 1) := by decide +kernel
theorem dX9_allowedAt_47 : decode cX9_allowedAt 47 = .ok (.aload_n 0, 1) := by decide +kernel
theorem dX9_allowedAt_48 : decode cX9_allowedAt 48 = .ok (.iload 4, 2) := by decide +kernel
theorem dX9_allowedAt_50 : decode cX9_allowedAt 50 = .ok (.aload_n 0, 1) := by decide +kernel
theorem dX9_allowedAt_51 : decode cX9_allowedAt 51 = .ok (.getfield 47, 3) := by decide +kernel
theorem dX9_allowedAt_54 : decode cX9_allowedAt 54 = .ok (.iload_n 2, 1) := by decide +kernel
theorem dX9_allowedAt_55 : decode cX9_allowedAt 55 = .ok (.iload 5, 2) := by decide +kernel
theorem dX9_allowedAt_57 : decode cX9_allowedAt 57 = .ok (.invokevirtual 159, 3) := by decide +kernel
theorem dX9_allowedAt_60 : decode cX9_allowedAt 60 = .ok (.invokevirtual 260, 3) := by decide +kernel
theorem dX9_allowedAt_63 : decode cX9_allowedAt 63 = .ok (.invokestatic 84, 3) := by decide +kernel
theorem dX9_allowedAt_66 : decode cX9_allowedAt 66 = .ok (.istore_n 3, 1) := by decide +kernel
theorem dX9_allowedAt_67 : decode cX9_allowedAt 67 = .ok (.iinc 5 1, 3) := by decide +kernel
theorem dX9_allowedAt_70 : decode cX9_allowedAt 70 = .ok (.goto (-30), 3) := by decide +kernel
theorem dX9_allowedAt_73 : decode cX9_allowedAt 73 = .ok (.iload 4, 2) := by decide +kernel
theorem dX9_allowedAt_75 : decode cX9_allowedAt 75 = .ok (.iconst 1, 1) := by decide +kernel
theorem dX9_allowedAt_76 : decode cX9_allowedAt 76 = .ok (.isub, 1) := by decide +kernel
theorem dX9_allowedAt_77 : decode cX9_allowedAt 77 = .ok (.istore 5, 2) := by decide +kernel
theorem dX9_allowedAt_79 : decode cX9_allowedAt 79 = .ok (.iload 5, 2) := by decide +kernel
theorem dX9_allowedAt_81 : decode cX9_allowedAt 81 = .ok (.iload_n 1, 1) := by decide +kernel
theorem dX9_allowedAt_82 : decode cX9_allowedAt 82 = .ok (.if_icmp .lt 18, 3) := by decide +kernel
theorem dX9_allowedAt_85 : decode cX9_allowedAt 85 = .ok (.aload_n 0, 1) := by decide +kernel
theorem dX9_allowedAt_86 : decode cX9_allowedAt 86 = .ok (.iload_n 3, 1) := by decide +kernel
theorem dX9_allowedAt_87 : decode cX9_allowedAt 87 = .ok (.iload 5, 2) := by decide +kernel
theorem dX9_allowedAt_89 : decode cX9_allowedAt 89 = .ok (.iload_n 2, 1) := by decide +kernel
theorem dX9_allowedAt_90 : decode cX9_allowedAt 90 = .ok (.invokevirtual 263, 3) := by decide +kernel
theorem dX9_allowedAt_93 : decode cX9_allowedAt 93 = .ok (.istore_n 3, 1) := by decide +kernel
theorem dX9_allowedAt_94 : decode cX9_allowedAt 94 = .ok (.iinc 5 (-1), 3) := by decide +kernel
theorem dX9_allowedAt_97 : decode cX9_allowedAt 97 = .ok (.goto (-18), 3) := by decide +kernel
theorem dX9_allowedAt_100 : decode cX9_allowedAt 100 = .ok (.iload_n 1, 1) := by decide +kernel
theorem dX9_allowedAt_101 : decode cX9_allowedAt 101 = .ok (.bipush 119, 2) := by decide +kernel
theorem dX9_allowedAt_103 : decode cX9_allowedAt 103 = .ok (.if_icmp .ge 22, 3) := by decide +kernel
theorem dX9_allowedAt_106 : decode cX9_allowedAt 106 = .ok (.iload_n 3, 1) := by decide +kernel
theorem dX9_allowedAt_107 : decode cX9_allowedAt 107 = .ok (.aload_n 0, 1) := by decide +kernel
theorem dX9_allowedAt_108 : decode cX9_allowedAt 108 = .ok (.aload_n 0, 1) := by decide +kernel
theorem dX9_allowedAt_109 : decode cX9_allowedAt 109 = .ok (.iload_n 1, 1) := by decide +kernel
theorem dX9_allowedAt_110 : decode cX9_allowedAt 110 = .ok (.iconst 1, 1) := by decide +kernel
theorem dX9_allowedAt_111 : decode cX9_allowedAt 111 = .ok (.iadd, 1) := by decide +kernel
theorem dX9_allowedAt_112 : decode cX9_allowedAt 112 = .ok (.iload_n 2, 1) := by decide +kernel
theorem dX9_allowedAt_113 : decode cX9_allowedAt 113 = .ok (.invokevirtual 219, 3) := by decide +kernel
theorem dX9_allowedAt_116 : decode cX9_allowedAt 116 = .ok (.iload_n 1, 1) := by decide +kernel
theorem dX9_allowedAt_117 : decode cX9_allowedAt 117 = .ok (.iload_n 2, 1) := by decide +kernel
theorem dX9_allowedAt_118 : decode cX9_allowedAt 118 = .ok (.invokevirtual 263, 3) := by decide +kernel
theorem dX9_allowedAt_121 : decode cX9_allowedAt 121 = .ok (.invokestatic 84, 3) := by decide +kernel
theorem dX9_allowedAt_124 : decode cX9_allowedAt 124 = .ok (.istore_n 3, 1) := by decide +kernel
theorem dX9_allowedAt_125 : decode cX9_allowedAt 125 = .ok (.iload_n 3, 1) := by decide +kernel
theorem dX9_allowedAt_126 : decode cX9_allowedAt 126 = .ok (.ireturn, 1) := by decide +kernel
theorem dX9_allowedBehind_0 : decode cX9_allowedBehind 0 = .ok (.iload_n 2, 1) := by decide +kernel
theorem dX9_allowedBehind_1 : decode cX9_allowedBehind 1 = .ok (.ifCond .lt 21, 3) := by decide +kernel
theorem dX9_allowedBehind_4 : decode cX9_allowedBehind 4 = .ok (.aload_n 0, 1) := by decide +kernel
theorem dX9_allowedBehind_5 : decode cX9_allowedBehind 5 = .ok (.iload_n 1, 1) := by decide +kernel
theorem dX9_allowedBehind_6 : decode cX9_allowedBehind 6 = .ok (.iload_n 2, 1) := by decide +kernel
theorem dX9_allowedBehind_7 : decode cX9_allowedBehind 7 = .ok (.invokevirtual 171, 3) := by decide +kernel
theorem dX9_allowedBehind_10 : decode cX9_allowedBehind 10 = .ok (.ifCond .ne 12, 3) := by decide +kernel
theorem dX9_allowedBehind_13 : decode cX9_allowedBehind 13 = .ok (.aload_n 0, 1) := by decide +kernel
theorem dX9_allowedBehind_14 : decode cX9_allowedBehind 14 = .ok (.iload_n 1, 1) := by decide +kernel
theorem dX9_allowedBehind_15 : decode cX9_allowedBehind 15 = .ok (.iload_n 2, 1) := by decide +kernel
theorem dX9_allowedBehind_16 : decode cX9_allowedBehind 16 = .ok (.invokevirtual 219, 3) := by decide +kernel
theorem dX9_allowedBehind_19 : decode cX9_allowedBehind 19 = .ok (.ifCond .ge 5, 3) := by decide +kernel
theorem dX9_allowedBehind_22 : decode cX9_allowedBehind 22 = .ok (.iconst (-1), 1) := by decide +kernel
theorem dX9_allowedBehind_23 : decode cX9_allowedBehind 23 = .ok (.ireturn, 1) := by decide +kernel
theorem dX9_allowedBehind_24 : decode cX9_allowedBehind 24 = .ok (.aload_n 0, 1) := by decide +kernel
theorem dX9_allowedBehind_25 : decode cX9_allowedBehind 25 = .ok (.getfield 47, 3) := by decide +kernel
theorem dX9_allowedBehind_28 : decode cX9_allowedBehind 28 = .ok (.getfield 162, 3) := by decide +kernel
theorem dX9_allowedBehind_31 : decode cX9_allowedBehind 31 = .ok (.getfield 175, 3) := by decide +kernel
theorem dX9_allowedBehind_34 : decode cX9_allowedBehind 34 = .ok (.iconst 0, 1) := by decide +kernel
theorem dX9_allowedBehind_35 : decode cX9_allowedBehind 35 = .ok (.iload_n 2, 1) := by decide +kernel
theorem dX9_allowedBehind_36 : decode cX9_allowedBehind 36 = .ok (.invokevirtual 178, 3) := by decide +kernel
theorem dX9_allowedBehind_39 : decode cX9_allowedBehind 39 = .ok (.ifCond .eq 13, 3) := by decide +kernel
theorem dX9_allowedBehind_42 : decode cX9_allowedBehind 42 = .ok (.aload_n 0, 1) := by decide +kernel
theorem dX9_allowedBehind_43 : decode cX9_allowedBehind 43 = .ok (.getfield 43, 3) := by decide +kernel
theorem dX9_allowedBehind_46 : decode cX9_allowedBehind 46 = .ok (.getfield 107, 3) := by decide +kernel
theorem dX9_allowedBehind_49 : decode cX9_allowedBehind 49 = .ok (.goto 9, 3) := by decide +kernel
theorem dX9_allowedBehind_52 : decode cX9_allowedBehind 52 = .ok (.aload_n 0, 1) := by decide +kernel
theorem dX9_allowedBehind_53 : decode cX9_allowedBehind 53 = .ok (.iload_n 1, 1) := by decide +kernel
theorem dX9_allowedBehind_54 : decode cX9_allowedBehind 54 = .ok (.iload_n 2, 1) := by decide +kernel
theorem dX9_allowedBehind_55 : decode cX9_allowedBehind 55 = .ok (.invokevirtual 219, 3) := by decide +kernel
theorem dX9_allowedBehind_58 : decode cX9_allowedBehind 58 = .ok (.ireturn, 1) := by decide +kernel
theorem dX9_allowedAhead_0 : decode cX9_allowedAhead 0 = .ok (.iload_n 1, 1) := by decide +kernel
theorem dX9_allowedAhead_1 : decode cX9_allowedAhead 1 = .ok (.ifCond .ge 5, 3) := by decide +kernel
theorem dX9_allowedAhead_4 : decode cX9_allowedAhead 4 = .ok (.iconst (-1), 1) := by decide +kernel
theorem dX9_allowedAhead_5 : decode cX9_allowedAhead 5 = .ok (.ireturn, 1) := by decide +kernel
theorem dX9_allowedAhead_6 : decode cX9_allowedAhead 6 = .ok (.aload_n 0, 1) := by decide +kernel
theorem dX9_allowedAhead_7 : decode cX9_allowedAhead 7 = .ok (.getfield 14, 3) := by decide +kernel
theorem dX9_allowedAhead_10 : decode cX9_allowedAhead 10 = .ok (.iload_n 2, 1) := by decide +kernel
theorem dX9_allowedAhead_11 : decode cX9_allowedAhead 11 = .ok (.iload_n 3, 1) := by decide +kernel
theorem dX9_allowedAhead_12 : decode cX9_allowedAhead 12 = .ok (.invokevirtual 178, 3) := by decide +kernel
theorem dX9_allowedAhead_15 : decode cX9_allowedAhead 15 = .ok (.ifCond .eq 25, 3) := by decide +kernel
theorem dX9_allowedAhead_18 : decode cX9_allowedAhead 18 = .ok (.aload_n 0, 1) := by decide +kernel
theorem dX9_allowedAhead_19 : decode cX9_allowedAhead 19 = .ok (.getfield 43, 3) := by decide +kernel
theorem dX9_allowedAhead_22 : decode cX9_allowedAhead 22 = .ok (.getfield 107, 3) := by decide +kernel
theorem dX9_allowedAhead_25 : decode cX9_allowedAhead 25 = .ok (.iload_n 1, 1) := by decide +kernel
theorem dX9_allowedAhead_26 : decode cX9_allowedAhead 26 = .ok (.aload_n 0, 1) := by decide +kernel
theorem dX9_allowedAhead_27 : decode cX9_allowedAhead 27 = .ok (.getfield 43, 3) := by decide +kernel
theorem dX9_allowedAhead_30 : decode cX9_allowedAhead 30 = .ok (.getfield 181, 3) := by decide +kernel
theorem dX9_allowedAhead_33 : decode cX9_allowedAhead 33 = .ok (.iadd, 1) := by decide +kernel
theorem dX9_allowedAhead_34 : decode cX9_allowedAhead 34 = .ok (.invokestatic 135, 3) := by decide +kernel
theorem dX9_allowedAhead_37 : decode cX9_allowedAhead 37 = .ok (.goto 6, 3) := by decide +kernel
theorem dX9_allowedAhead_40 : decode cX9_allowedAhead 40 = .ok (.iload_n 1, 1) := by decide +kernel
theorem dX9_allowedAhead_41 : decode cX9_allowedAhead 41 = .ok (.iconst 1, 1) := by decide +kernel
theorem dX9_allowedAhead_42 : decode cX9_allowedAhead 42 = .ok (.isub, 1) := by decide +kernel
theorem dX9_allowedAhead_43 : decode cX9_allowedAhead 43 = .ok (.ireturn, 1) := by decide +kernel
theorem dX10_init_0 : decode cX10_init 0 = .ok (.aload_n 0, 1) := by decide +kernel
theorem dX10_init_1 : decode cX10_init 1 = .ok (.invokespecial 1, 3) := by decide +kernel
theorem dX10_init_4 : decode cX10_init 4 = .ok (.aload_n 0, 1) := by decide +kernel
theorem dX10_init_5 : decode cX10_init 5 = .ok (.iconst 1, 1) := by decide +kernel
theorem dX10_init_6 : decode cX10_init 6 = .ok (.putfield 7, 3) := by decide +kernel
theorem dX10_init_9 : decode cX10_init 9 = .ok (.return_, 1) := by decide +kernel
theorem dX11_init_0 : decode cX11_init 0 = .ok (.aload_n 0, 1) := by decide +kernel
theorem dX11_init_1 : decode cX11_init 1 = .ok (.invokespecial 1, 3) := by decide +kernel
theorem dX11_init_4 : decode cX11_init 4 = .ok (.aload_n 0, 1) := by decide +kernel
theorem dX11_init_5 : decode cX11_init 5 = .ok (.new 7, 3) := by decide +kernel
theorem dX11_init_8 : decode cX11_init 8 = .ok (.dup, 1) := by decide +kernel
theorem dX11_init_9 : decode cX11_init 9 = .ok (.invokespecial 9, 3) := by decide +kernel
theorem dX11_init_12 : decode cX11_init 12 = .ok (.putfield 10, 3) := by decide +kernel
theorem dX11_init_15 : decode cX11_init 15 = .ok (.aload_n 0, 1) := by decide +kernel
theorem dX11_init_16 : decode cX11_init 16 = .ok (.new 7, 3) := by decide +kernel
theorem dX11_init_19 : decode cX11_init 19 = .ok (.dup, 1) := by decide +kernel
theorem dX11_init_20 : decode cX11_init 20 = .ok (.invokespecial 9, 3) := by decide +kernel
theorem dX11_init_23 : decode cX11_init 23 = .ok (.putfield 16, 3) := by decide +kernel
theorem dX11_init_26 : decode cX11_init 26 = .ok (.aload_n 0, 1) := by decide +kernel
theorem dX11_init_27 : decode cX11_init 27 = .ok (.iconst 4, 1) := by decide +kernel
theorem dX11_init_28 : decode cX11_init 28 = .ok (.anewarray 7, 3) := by decide +kernel
theorem dX11_init_31 : decode cX11_init 31 = .ok (.putfield 19, 3) := by decide +kernel
theorem dX11_init_34 : decode cX11_init 34 = .ok (.aload_n 0, 1) := by decide +kernel
theorem dX11_init_35 : decode cX11_init 35 = .ok (.new 23, 3) := by decide +kernel
theorem dX11_init_38 : decode cX11_init 38 = .ok (.dup, 1) := by decide +kernel
theorem dX11_init_39 : decode cX11_init 39 = .ok (.aload_n 0, 1) := by decide +kernel
theorem dX11_init_40 : decode cX11_init 40 = .ok (.getfield 16, 3) := by decide +kernel
theorem dX11_init_43 : decode cX11_init 43 = .ok (.invokespecial 25, 3) := by decide +kernel
theorem dX11_init_46 : decode cX11_init 46 = .ok (.putfield 28, 3) := by decide +kernel
theorem dX11_init_49 : decode cX11_init 49 = .ok (.aload_n 0, 1) := by decide +kernel
theorem dX11_init_50 : decode cX11_init 50 = .ok (.new 32, 3) := by decide +kernel
theorem dX11_init_53 : decode cX11_init 53 = .ok (.dup, 1) := by decide +kernel
theorem dX11_init_54 : decode cX11_init 54 = .ok (.aload_n 0, 1) := by decide +kernel
theorem dX11_init_55 : decode cX11_init 55 = .ok (.getfield 10, 3) := by decide +kernel
theorem dX11_init_58 : decode cX11_init 58 = .ok (.invokespecial 34, 3) := by decide +kernel
theorem dX11_init_61 : decode cX11_init 61 = .ok (.putfield 35, 3) := by decide +kernel
theorem dX11_init_64 : decode cX11_init 64 = .ok (.aload_n 0, 1) := by decide +kernel
theorem dX11_init_65 : decode cX11_init 65 = .ok (.new 39, 3) := by decide +kernel
theorem dX11_init_68 : decode cX11_init 68 = .ok (.dup, 1) := by decide +kernel
theorem dX11_init_69 : decode cX11_init 69 = .ok (.aload_n 0, 1) := by decide +kernel
theorem dX11_init_70 : decode cX11_init 70 = .ok (.getfield 35, 3) := by decide +kernel
theorem dX11_init_73 : decode cX11_init 73 = .ok (.invokespecial 41, 3) := by decide +kernel
theorem dX11_init_76 : decode cX11_init 76 = .ok (.putfield 44, 3) := by decide +kernel
theorem dX11_init_79 : decode cX11_init 79 = .ok (.aload_n 0, 1) := by decide +kernel
theorem dX11_init_80 : decode cX11_init 80 = .ok (.new 48, 3) := by decide +kernel
theorem dX11_init_83 : decode cX11_init 83 = .ok (.dup, 1) := by decide +kernel
theorem dX11_init_84 : decode cX11_init 84 = .ok (.aload_n 0, 1) := by decide +kernel
theorem dX11_init_85 : decode cX11_init 85 = .ok (.getfield 44, 3) := by decide +kernel
theorem dX11_init_88 : decode cX11_init 88 = .ok (.invokespecial 50, 3) := by decide +kernel
theorem dX11_init_91 : decode cX11_init 91 = .ok (.putfield 53, 3) := by decide +kernel
theorem dX11_init_94 : decode cX11_init 94 = .ok (.aload_n 0, 1) := by decide +kernel
theorem dX11_init_95 : decode cX11_init 95 = .ok (.new 57, 3) := by decide +kernel
theorem dX11_init_98 : decode cX11_init 98 = .ok (.dup, 1) := by decide +kernel
theorem dX11_init_99 : decode cX11_init 99 = .ok (.aload_n 0, 1) := by decide +kernel
theorem dX11_init_100 : decode cX11_init 100 = .ok (.getfield 44, 3) := by decide +kernel
theorem dX11_init_103 : decode cX11_init 103 = .ok (.invokespecial 59, 3) := by decide +kernel
theorem dX11_init_106 : decode cX11_init 106 = .ok (.putfield 60, 3) := by decide +kernel
theorem dX11_init_109 : decode cX11_init 109 = .ok (.aload_n 0, 1) := by decide +kernel
theorem dX11_init_110 : decode cX11_init 110 = .ok (.getfield 35, 3) := by decide +kernel
theorem dX11_init_113 : decode cX11_init 113 = .ok (.aload_n 0, 1) := by decide +kernel
theorem dX11_init_114 : decode cX11_init 114 = .ok (.getfield 10, 3) := by decide +kernel
theorem dX11_init_117 : decode cX11_init 117 = .ok (.invokevirtual 64, 3) := by decide +kernel
theorem dX11_init_120 : decode cX11_init 120 = .ok (.return_, 1) := by decide +kernel
theorem dX11_feed_0 : decode cX11_feed 0 = .ok (.aload_n 0, 1) := by decide +kernel
theorem dX11_feed_1 : decode cX11_feed 1 = .ok (.lload_n 1, 1) := by decide +kernel
theorem dX11_feed_2 : decode cX11_feed 2 = .ok (.invokevirtual 67, 3) := by decide +kernel
theorem dX11_feed_5 : decode cX11_feed 5 = .ok (.aload_n 0, 1) := by decide +kernel
theorem dX11_feed_6 : decode cX11_feed 6 = .ok (.lload_n 3, 1) := by decide +kernel
theorem dX11_feed_7 : decode cX11_feed 7 = .ok (.invokevirtual 67, 3) := by decide +kernel
theorem dX11_feed_10 : decode cX11_feed 10 = .ok (.aload_n 0, 1) := by decide +kernel
theorem dX11_feed_11 : decode cX11_feed 11 = .ok (.lload 5, 2) := by decide +kernel
theorem dX11_feed_13 : decode cX11_feed 13 = .ok (.invokevirtual 67, 3) := by decide +kernel
theorem dX11_feed_16 : decode cX11_feed 16 = .ok (.aload_n 0, 1) := by decide +kernel
theorem dX11_feed_17 : decode cX11_feed 17 = .ok (.getfield 28, 3) := by decide +kernel
theorem dX11_feed_20 : decode cX11_feed 20 = .ok (.getfield 71, 3) := by decide +kernel
theorem dX11_feed_23 : decode cX11_feed 23 = .ok (.getfield 75, 3) := by decide +kernel
theorem dX11_feed_26 : decode cX11_feed 26 = .ok (.ireturn, 1) := by decide +kernel
theorem dX11_feedSigns_0 : decode cX11_feedSigns 0 = .ok (.bipush 56, 2) := by decide +kernel
theorem dX11_feedSigns_2 : decode cX11_feedSigns 2 = .ok (.istore_n 3, 1) := by decide +kernel
theorem dX11_feedSigns_3 : decode cX11_feedSigns 3 = .ok (.iload_n 3, 1) := by decide +kernel
theorem dX11_feedSigns_4 : decode cX11_feedSigns 4 = .ok (.ifCond .lt 53, 3) := by decide +kernel
theorem dX11_feedSigns_7 : decode cX11_feedSigns 7 = .ok (.lload_n 1, 1) := by decide +kernel
theorem dX11_feedSigns_8 : decode cX11_feedSigns 8 = .ok (.iload_n 3, 1) := by decide +kernel
theorem dX11_feedSigns_9 : decode cX11_feedSigns 9 = .ok (.lushr, 1) := by decide +kernel
theorem dX11_feedSigns_10 : decode cX11_feedSigns 10 = .ok (.l2i, 1) := by decide +kernel
theorem dX11_feedSigns_11 : decode cX11_feedSigns 11 = .ok (.sipush 255, 3) := by decide +kernel
theorem dX11_feedSigns_14 : decode cX11_feedSigns 14 = .ok (.iand, 1) := by decide +kernel
theorem dX11_feedSigns_15 : decode cX11_feedSigns 15 = .ok (.istore 4, 2) := by decide +kernel
theorem dX11_feedSigns_17 : decode cX11_feedSigns 17 = .ok (.iload 4, 2) := by decide +kernel
theorem dX11_feedSigns_19 : decode cX11_feedSigns 19 = .ok (.bipush 10, 2) := by decide +kernel
theorem dX11_feedSigns_21 : decode cX11_feedSigns 21 = .ok (.if_icmp .eq 17, 3) := by decide +kernel
theorem dX11_feedSigns_24 : decode cX11_feedSigns 24 = .ok (.iload 4, 2) := by decide +kernel
theorem dX11_feedSigns_26 : decode cX11_feedSigns 26 = .ok (.bipush 32, 2) := by decide +kernel
theorem dX11_feedSigns_28 : decode cX11_feedSigns 28 = .ok (.if_icmp .lt 23, 3) := by decide +kernel
theorem dX11_feedSigns_31 : decode cX11_feedSigns 31 = .ok (.iload 4, 2) := by decide +kernel
theorem dX11_feedSigns_33 : decode cX11_feedSigns 33 = .ok (.bipush 126, 2) := by decide +kernel
theorem dX11_feedSigns_35 : decode cX11_feedSigns 35 = .ok (.if_icmp .gt 16, 3) := by decide +kernel
theorem dX11_feedSigns_38 : decode cX11_feedSigns 38 = .ok (.aload_n 0, 1) := by decide +kernel
theorem dX11_feedSigns_39 : decode cX11_feedSigns 39 = .ok (.getfield 28, 3) := by decide +kernel
theorem dX11_feedSigns_42 : decode cX11_feedSigns 42 = .ok (.getfield 71, 3) := by decide +kernel
theorem dX11_feedSigns_45 : decode cX11_feedSigns 45 = .ok (.iload 4, 2) := by decide +kernel
theorem dX11_feedSigns_47 : decode cX11_feedSigns 47 = .ok (.invokevirtual 81, 3) := by decide +kernel
theorem dX11_feedSigns_50 : decode cX11_feedSigns 50 = .ok (.pop, 1) := by decide +kernel
theorem dX11_feedSigns_51 : decode cX11_feedSigns 51 = .ok (.iinc 3 (-8), 3) := by decide +kernel
theorem dX11_feedSigns_54 : decode cX11_feedSigns 54 = .ok (.goto (-51), 3) := by decide +kernel
theorem dX11_feedSigns_57 : decode cX11_feedSigns 57 = .ok (.return_, 1) := by decide +kernel
theorem dX11_town_0 : decode cX11_town 0 = .ok (.aload_n 0, 1) := by decide +kernel
theorem dX11_town_1 : decode cX11_town 1 = .ok (.getfield 28, 3) := by decide +kernel
theorem dX11_town_4 : decode cX11_town 4 = .ok (.aload_n 0, 1) := by decide +kernel
theorem dX11_town_5 : decode cX11_town 5 = .ok (.getfield 16, 3) := by decide +kernel
theorem dX11_town_8 : decode cX11_town 8 = .ok (.invokevirtual 85, 3) := by decide +kernel
theorem dX11_town_11 : decode cX11_town 11 = .ok (.istore_n 1, 1) := by decide +kernel
theorem dX11_town_12 : decode cX11_town 12 = .ok (.aload_n 0, 1) := by decide +kernel
theorem dX11_town_13 : decode cX11_town 13 = .ok (.getfield 28, 3) := by decide +kernel
theorem dX11_town_16 : decode cX11_town 16 = .ok (.getfield 71, 3) := by decide +kernel
theorem dX11_town_19 : decode cX11_town 19 = .ok (.invokevirtual 89, 3) := by decide +kernel
theorem dX11_town_22 : decode cX11_town 22 = .ok (.iload_n 1, 1) := by decide +kernel
theorem dX11_town_23 : decode cX11_town 23 = .ok (.ifCond .ne 32, 3) := by decide +kernel
theorem dX11_town_26 : decode cX11_town 26 = .ok (.aload_n 0, 1) := by decide +kernel
theorem dX11_town_27 : decode cX11_town 27 = .ok (.getfield 16, 3) := by decide +kernel
theorem dX11_town_30 : decode cX11_town 30 = .ok (.astore_n 2, 1) := by decide +kernel
theorem dX11_town_31 : decode cX11_town 31 = .ok (.aload_n 0, 1) := by decide +kernel
theorem dX11_town_32 : decode cX11_town 32 = .ok (.aload_n 0, 1) := by decide +kernel
theorem dX11_town_33 : decode cX11_town 33 = .ok (.getfield 10, 3) := by decide +kernel
theorem dX11_town_36 : decode cX11_town 36 = .ok (.putfield 16, 3) := by decide +kernel
theorem dX11_town_39 : decode cX11_town 39 = .ok (.aload_n 0, 1) := by decide +kernel
theorem dX11_town_40 : decode cX11_town 40 = .ok (.aload_n 2, 1) := by decide +kernel
theorem dX11_town_41 : decode cX11_town 41 = .ok (.putfield 10, 3) := by decide +kernel
theorem dX11_town_44 : decode cX11_town 44 = .ok (.aload_n 0, 1) := by decide +kernel
theorem dX11_town_45 : decode cX11_town 45 = .ok (.getfield 35, 3) := by decide +kernel
theorem dX11_town_48 : decode cX11_town 48 = .ok (.aload_n 0, 1) := by decide +kernel
theorem dX11_town_49 : decode cX11_town 49 = .ok (.getfield 10, 3) := by decide +kernel
theorem dX11_town_52 : decode cX11_town 52 = .ok (.invokevirtual 64, 3) := by decide +kernel
theorem dX11_town_55 : decode cX11_town 55 = .ok (.iload_n 1, 1) := by decide +kernel
theorem dX11_town_56 : decode cX11_town 56 = .ok (.ireturn, 1) := by decide +kernel
theorem dX11_square_0 : decode cX11_square 0 = .ok (.iload_n 1, 1) := by decide +kernel
theorem dX11_square_1 : decode cX11_square 1 = .ok (.invokestatic 92, 3) := by decide +kernel
theorem dX11_square_4 : decode cX11_square 4 = .ok (.ifCond .eq 12, 3) := by decide +kernel
theorem dX11_square_7 : decode cX11_square 7 = .ok (.iload_n 2, 1) := by decide +kernel
theorem dX11_square_8 : decode cX11_square 8 = .ok (.ifCond .lt 8, 3) := by decide +kernel
theorem dX11_square_11 : decode cX11_square 11 = .ok (.iload_n 2, 1) := by decide +kernel
theorem dX11_square_12 : decode cX11_square 12 = .ok (.iconst 1, 1) := by decide +kernel
theorem dX11_square_13 : decode cX11_square 13 = .ok (.if_icmp .le 5, 3) := by decide +kernel
theorem dX11_square_16 : decode cX11_square 16 = .ok (.iconst (-1), 1) := by decide +kernel
theorem dX11_square_17 : decode cX11_square 17 = .ok (.ireturn, 1) := by decide +kernel
theorem dX11_square_18 : decode cX11_square 18 = .ok (.iload_n 2, 1) := by decide +kernel
theorem dX11_square_19 : decode cX11_square 19 = .ok (.ifCond .ne 15, 3) := by decide +kernel
theorem dX11_square_22 : decode cX11_square 22 = .ok (.aload_n 0, 1) := by decide +kernel
theorem dX11_square_23 : decode cX11_square 23 = .ok (.getfield 10, 3) := by decide +kernel
theorem dX11_square_26 : decode cX11_square 26 = .ok (.getfield 95, 3) := by decide +kernel
theorem dX11_square_29 : decode cX11_square 29 = .ok (.iload_n 1, 1) := by decide +kernel
theorem dX11_square_30 : decode cX11_square 30 = .ok (.iaload, 1) := by decide +kernel
theorem dX11_square_31 : decode cX11_square 31 = .ok (.goto 12, 3) := by decide +kernel
theorem dX11_square_34 : decode cX11_square 34 = .ok (.aload_n 0, 1) := by decide +kernel
theorem dX11_square_35 : decode cX11_square 35 = .ok (.getfield 10, 3) := by decide +kernel
theorem dX11_square_38 : decode cX11_square 38 = .ok (.getfield 99, 3) := by decide +kernel
theorem dX11_square_41 : decode cX11_square 41 = .ok (.iload_n 1, 1) := by decide +kernel
theorem dX11_square_42 : decode cX11_square 42 = .ok (.iaload, 1) := by decide +kernel
theorem dX11_square_43 : decode cX11_square 43 = .ok (.ireturn, 1) := by decide +kernel
theorem dX11_pull_0 : decode cX11_pull 0 = .ok (.iload_n 1, 1) := by decide +kernel
theorem dX11_pull_1 : decode cX11_pull 1 = .ok (.invokestatic 92, 3) := by decide +kernel
theorem dX11_pull_4 : decode cX11_pull 4 = .ok (.ifCond .eq 16, 3) := by decide +kernel
theorem dX11_pull_7 : decode cX11_pull 7 = .ok (.aload_n 0, 1) := by decide +kernel
theorem dX11_pull_8 : decode cX11_pull 8 = .ok (.getfield 10, 3) := by decide +kernel
theorem dX11_pull_11 : decode cX11_pull 11 = .ok (.getfield 95, 3) := by decide +kernel
theorem dX11_pull_14 : decode cX11_pull 14 = .ok (.iload_n 1, 1) := by decide +kernel
theorem dX11_pull_15 : decode cX11_pull 15 = .ok (.iaload, 1) := by decide +kernel
theorem dX11_pull_16 : decode cX11_pull 16 = .ok (.iconst 1, 1) := by decide +kernel
theorem dX11_pull_17 : decode cX11_pull 17 = .ok (.if_icmp .eq 5, 3) := by decide +kernel
theorem dX11_pull_20 : decode cX11_pull 20 = .ok (.iconst 0, 1) := by decide +kernel
theorem dX11_pull_21 : decode cX11_pull 21 = .ok (.ireturn, 1) := by decide +kernel
theorem dX11_pull_22 : decode cX11_pull 22 = .ok (.aload_n 0, 1) := by decide +kernel
theorem dX11_pull_23 : decode cX11_pull 23 = .ok (.getfield 10, 3) := by decide +kernel
theorem dX11_pull_26 : decode cX11_pull 26 = .ok (.iload_n 1, 1) := by decide +kernel
theorem dX11_pull_27 : decode cX11_pull 27 = .ok (.iconst 0, 1) := by decide +kernel
theorem dX11_pull_28 : decode cX11_pull 28 = .ok (.iconst 0, 1) := by decide +kernel
theorem dX11_pull_29 : decode cX11_pull 29 = .ok (.invokevirtual 102, 3) := by decide +kernel
theorem dX11_pull_32 : decode cX11_pull 32 = .ok (.aload_n 0, 1) := by decide +kernel
theorem dX11_pull_33 : decode cX11_pull 33 = .ok (.getfield 35, 3) := by decide +kernel
theorem dX11_pull_36 : decode cX11_pull 36 = .ok (.aload_n 0, 1) := by decide +kernel
theorem dX11_pull_37 : decode cX11_pull 37 = .ok (.getfield 10, 3) := by decide +kernel
theorem dX11_pull_40 : decode cX11_pull 40 = .ok (.invokevirtual 64, 3) := by decide +kernel
theorem dX11_pull_43 : decode cX11_pull 43 = .ok (.iconst 1, 1) := by decide +kernel
theorem dX11_pull_44 : decode cX11_pull 44 = .ok (.ireturn, 1) := by decide +kernel
theorem dX11_mark_0 : decode cX11_mark 0 = .ok (.iload_n 1, 1) := by decide +kernel
theorem dX11_mark_1 : decode cX11_mark 1 = .ok (.ifCond .lt 8, 3) := by decide +kernel
theorem dX11_mark_4 : decode cX11_mark 4 = .ok (.iload_n 1, 1) := by decide +kernel
theorem dX11_mark_5 : decode cX11_mark 5 = .ok (.iconst 4, 1) := by decide +kernel
theorem dX11_mark_6 : decode cX11_mark 6 = .ok (.if_icmp .lt 5, 3) := by decide +kernel
theorem dX11_mark_9 : decode cX11_mark 9 = .ok (.iconst 0, 1) := by decide +kernel
theorem dX11_mark_10 : decode cX11_mark 10 = .ok (.ireturn, 1) := by decide +kernel
theorem dX11_mark_11 : decode cX11_mark 11 = .ok (.aload_n 0, 1) := by decide +kernel
theorem dX11_mark_12 : decode cX11_mark 12 = .ok (.getfield 19, 3) := by decide +kernel
theorem dX11_mark_15 : decode cX11_mark 15 = .ok (.iload_n 1, 1) := by decide +kernel
theorem dX11_mark_16 : decode cX11_mark 16 = .ok (.aaload, 1) := by decide +kernel
theorem dX11_mark_17 : decode cX11_mark 17 = .ok (.astore_n 3, 1) := by decide +kernel
theorem dX11_mark_18 : decode cX11_mark 18 = .ok (.iload_n 2, 1) := by decide +kernel
theorem dX11_mark_19 : decode cX11_mark 19 = .ok (.ifCond .eq 30, 3) := by decide +kernel
theorem dX11_mark_22 : decode cX11_mark 22 = .ok (.aload_n 3, 1) := by decide +kernel
theorem dX11_mark_23 : decode cX11_mark 23 = .ok (.ifnonnull 5, 3) := by decide +kernel
theorem dX11_mark_26 : decode cX11_mark 26 = .ok (.iconst 0, 1) := by decide +kernel
theorem dX11_mark_27 : decode cX11_mark 27 = .ok (.ireturn, 1) := by decide +kernel
theorem dX11_mark_28 : decode cX11_mark 28 = .ok (.aload_n 0, 1) := by decide +kernel
theorem dX11_mark_29 : decode cX11_mark 29 = .ok (.getfield 10, 3) := by decide +kernel
theorem dX11_mark_32 : decode cX11_mark 32 = .ok (.aload_n 3, 1) := by decide +kernel
theorem dX11_mark_33 : decode cX11_mark 33 = .ok (.invokevirtual 106, 3) := by decide +kernel
theorem dX11_mark_36 : decode cX11_mark 36 = .ok (.aload_n 0, 1) := by decide +kernel
theorem dX11_mark_37 : decode cX11_mark 37 = .ok (.getfield 35, 3) := by decide +kernel
theorem dX11_mark_40 : decode cX11_mark 40 = .ok (.aload_n 0, 1) := by decide +kernel
theorem dX11_mark_41 : decode cX11_mark 41 = .ok (.getfield 10, 3) := by decide +kernel
theorem dX11_mark_44 : decode cX11_mark 44 = .ok (.invokevirtual 64, 3) := by decide +kernel
theorem dX11_mark_47 : decode cX11_mark 47 = .ok (.iconst 1, 1) := by decide +kernel
theorem dX11_mark_48 : decode cX11_mark 48 = .ok (.ireturn, 1) := by decide +kernel
theorem dX11_mark_49 : decode cX11_mark 49 = .ok (.aload_n 3, 1) := by decide +kernel
theorem dX11_mark_50 : decode cX11_mark 50 = .ok (.ifnonnull 18, 3) := by decide +kernel
theorem dX11_mark_53 : decode cX11_mark 53 = .ok (.new 7, 3) := by decide +kernel
theorem dX11_mark_56 : decode cX11_mark 56 = .ok (.dup, 1) := by decide +kernel
theorem dX11_mark_57 : decode cX11_mark 57 = .ok (.invokespecial 9, 3) := by decide +kernel
theorem dX11_mark_60 : decode cX11_mark 60 = .ok (.astore_n 3, 1) := by decide +kernel
theorem dX11_mark_61 : decode cX11_mark 61 = .ok (.aload_n 0, 1) := by decide +kernel
theorem dX11_mark_62 : decode cX11_mark 62 = .ok (.getfield 19, 3) := by decide +kernel
theorem dX11_mark_65 : decode cX11_mark 65 = .ok (.iload_n 1, 1) := by decide +kernel
theorem dX11_mark_66 : decode cX11_mark 66 = .ok (.aload_n 3, 1) := by decide +kernel
theorem dX11_mark_67 : decode cX11_mark 67 = .ok (.aastore, 1) := by decide +kernel
theorem dX11_mark_68 : decode cX11_mark 68 = .ok (.aload_n 3, 1) := by decide +kernel
theorem dX11_mark_69 : decode cX11_mark 69 = .ok (.aload_n 0, 1) := by decide +kernel
theorem dX11_mark_70 : decode cX11_mark 70 = .ok (.getfield 10, 3) := by decide +kernel
theorem dX11_mark_73 : decode cX11_mark 73 = .ok (.invokevirtual 106, 3) := by decide +kernel
theorem dX11_mark_76 : decode cX11_mark 76 = .ok (.iconst 1, 1) := by decide +kernel
theorem dX11_mark_77 : decode cX11_mark 77 = .ok (.ireturn, 1) := by decide +kernel
theorem dX11_count_0 : decode cX11_count 0 = .ok (.iload_n 1, 1) := by decide +kernel
theorem dX11_count_1 : decode cX11_count 1 = .ok (.tableswitch 174 0 11 #[63, 72, 81, 90, 98, 106, 114, 122, 133, 144, 155, 166], 63) := by decide +kernel
theorem dX11_count_64 : decode cX11_count 64 = .ok (.aload_n 0, 1) := by decide +kernel
theorem dX11_count_65 : decode cX11_count 65 = .ok (.getfield 10, 3) := by decide +kernel
theorem dX11_count_68 : decode cX11_count 68 = .ok (.iconst 1, 1) := by decide +kernel
theorem dX11_count_69 : decode cX11_count 69 = .ok (.invokevirtual 109, 3) := by decide +kernel
theorem dX11_count_72 : decode cX11_count 72 = .ok (.ireturn, 1) := by decide +kernel
theorem dX11_count_73 : decode cX11_count 73 = .ok (.aload_n 0, 1) := by decide +kernel
theorem dX11_count_74 : decode cX11_count 74 = .ok (.getfield 10, 3) := by decide +kernel
theorem dX11_count_77 : decode cX11_count 77 = .ok (.iconst 2, 1) := by decide +kernel
theorem dX11_count_78 : decode cX11_count 78 = .ok (.invokevirtual 109, 3) := by decide +kernel
theorem dX11_count_81 : decode cX11_count 81 = .ok (.ireturn, 1) := by decide +kernel
theorem dX11_count_82 : decode cX11_count 82 = .ok (.aload_n 0, 1) := by decide +kernel
theorem dX11_count_83 : decode cX11_count 83 = .ok (.getfield 10, 3) := by decide +kernel
theorem dX11_count_86 : decode cX11_count 86 = .ok (.iconst 3, 1) := by decide +kernel
theorem dX11_count_87 : decode cX11_count 87 = .ok (.invokevirtual 109, 3) := by decide +kernel
theorem dX11_count_90 : decode cX11_count 90 = .ok (.ireturn, 1) := by decide +kernel
theorem dX11_count_91 : decode cX11_count 91 = .ok (.aload_n 0, 1) := by decide +kernel
theorem dX11_count_92 : decode cX11_count 92 = .ok (.getfield 10, 3) := by decide +kernel
theorem dX11_count_95 : decode cX11_count 95 = .ok (.getfield 113, 3) := by decide +kernel
theorem dX11_count_98 : decode cX11_count 98 = .ok (.ireturn, 1) := by decide +kernel
theorem dX11_count_99 : decode cX11_count 99 = .ok (.aload_n 0, 1) := by decide +kernel
theorem dX11_count_100 : decode cX11_count 100 = .ok (.getfield 10, 3) := by decide +kernel
theorem dX11_count_103 : decode cX11_count 103 = .ok (.getfield 116, 3) := by decide +kernel
theorem dX11_count_106 : decode cX11_count 106 = .ok (.ireturn, 1) := by decide +kernel
theorem dX11_count_107 : decode cX11_count 107 = .ok (.aload_n 0, 1) := by decide +kernel
theorem dX11_count_108 : decode cX11_count 108 = .ok (.getfield 10, 3) := by decide +kernel
theorem dX11_count_111 : decode cX11_count 111 = .ok (.getfield 119, 3) := by decide +kernel
theorem dX11_count_114 : decode cX11_count 114 = .ok (.ireturn, 1) := by decide +kernel
theorem dX11_count_115 : decode cX11_count 115 = .ok (.aload_n 0, 1) := by decide +kernel
theorem dX11_count_116 : decode cX11_count 116 = .ok (.getfield 10, 3) := by decide +kernel
theorem dX11_count_119 : decode cX11_count 119 = .ok (.invokevirtual 122, 3) := by decide +kernel
theorem dX11_count_122 : decode cX11_count 122 = .ok (.ireturn, 1) := by decide +kernel
theorem dX11_count_123 : decode cX11_count 123 = .ok (.aload_n 0, 1) := by decide +kernel
theorem dX11_count_124 : decode cX11_count 124 = .ok (.getfield 10, 3) := by decide +kernel
theorem dX11_count_127 : decode cX11_count 127 = .ok (.getfield 126, 3) := by decide +kernel
theorem dX11_count_130 : decode cX11_count 130 = .ok (.getfield 75, 3) := by decide +kernel
theorem dX11_count_133 : decode cX11_count 133 = .ok (.ireturn, 1) := by decide +kernel
theorem dX11_count_134 : decode cX11_count 134 = .ok (.aload_n 0, 1) := by decide +kernel
theorem dX11_count_135 : decode cX11_count 135 = .ok (.getfield 10, 3) := by decide +kernel
theorem dX11_count_138 : decode cX11_count 138 = .ok (.getfield 129, 3) := by decide +kernel
theorem dX11_count_141 : decode cX11_count 141 = .ok (.getfield 75, 3) := by decide +kernel
theorem dX11_count_144 : decode cX11_count 144 = .ok (.ireturn, 1) := by decide +kernel
theorem dX11_count_145 : decode cX11_count 145 = .ok (.aload_n 0, 1) := by decide +kernel
theorem dX11_count_146 : decode cX11_count 146 = .ok (.getfield 10, 3) := by decide +kernel
theorem dX11_count_149 : decode cX11_count 149 = .ok (.getfield 132, 3) := by decide +kernel
theorem dX11_count_152 : decode cX11_count 152 = .ok (.getfield 75, 3) := by decide +kernel
theorem dX11_count_155 : decode cX11_count 155 = .ok (.ireturn, 1) := by decide +kernel
theorem dX11_count_156 : decode cX11_count 156 = .ok (.aload_n 0, 1) := by decide +kernel
theorem dX11_count_157 : decode cX11_count 157 = .ok (.getfield 28, 3) := by decide +kernel
theorem dX11_count_160 : decode cX11_count 160 = .ok (.getfield 71, 3) := by decide +kernel
theorem dX11_count_163 : decode cX11_count 163 = .ok (.getfield 75, 3) := by decide +kernel
theorem dX11_count_166 : decode cX11_count 166 = .ok (.ireturn, 1) := by decide +kernel
theorem dX11_count_167 : decode cX11_count 167 = .ok (.aload_n 0, 1) := by decide +kernel
theorem dX11_count_168 : decode cX11_count 168 = .ok (.getfield 10, 3) := by decide +kernel
theorem dX11_count_171 : decode cX11_count 171 = .ok (.getfield 135, 3) := by decide +kernel
theorem dX11_count_174 : decode cX11_count 174 = .ok (.ireturn, 1) := by decide +kernel
theorem dX11_count_175 : decode cX11_count 175 = .ok (.iconst (-1), 1) := by decide +kernel
theorem dX11_count_176 : decode cX11_count 176 = .ok (.ireturn, 1) := by decide +kernel
theorem dX11_shade_0 : decode cX11_shade 0 = .ok (.iload_n 1, 1) := by decide +kernel
theorem dX11_shade_1 : decode cX11_shade 1 = .ok (.iload_n 2, 1) := by decide +kernel
theorem dX11_shade_2 : decode cX11_shade 2 = .ok (.invokestatic 138, 3) := by decide +kernel
theorem dX11_shade_5 : decode cX11_shade 5 = .ok (.ifCond .eq 10, 3) := by decide +kernel
theorem dX11_shade_8 : decode cX11_shade 8 = .ok (.iload_n 3, 1) := by decide +kernel
theorem dX11_shade_9 : decode cX11_shade 9 = .ok (.invokestatic 92, 3) := by decide +kernel
theorem dX11_shade_12 : decode cX11_shade 12 = .ok (.ifCond .ne 5, 3) := by decide +kernel
theorem dX11_shade_15 : decode cX11_shade 15 = .ok (.iconst (-1), 1) := by decide +kernel
theorem dX11_shade_16 : decode cX11_shade 16 = .ok (.ireturn, 1) := by decide +kernel
theorem dX11_shade_17 : decode cX11_shade 17 = .ok (.aload_n 0, 1) := by decide +kernel
theorem dX11_shade_18 : decode cX11_shade 18 = .ok (.getfield 35, 3) := by decide +kernel
theorem dX11_shade_21 : decode cX11_shade 21 = .ok (.getfield 142, 3) := by decide +kernel
theorem dX11_shade_24 : decode cX11_shade 24 = .ok (.iload_n 1, 1) := by decide +kernel
theorem dX11_shade_25 : decode cX11_shade 25 = .ok (.iload_n 2, 1) := by decide +kernel
theorem dX11_shade_26 : decode cX11_shade 26 = .ok (.invokestatic 146, 3) := by decide +kernel
theorem dX11_shade_29 : decode cX11_shade 29 = .ok (.iload_n 3, 1) := by decide +kernel
theorem dX11_shade_30 : decode cX11_shade 30 = .ok (.invokevirtual 150, 3) := by decide +kernel
theorem dX11_shade_33 : decode cX11_shade 33 = .ok (.ifCond .eq 7, 3) := by decide +kernel
theorem dX11_shade_36 : decode cX11_shade 36 = .ok (.iconst 1, 1) := by decide +kernel
theorem dX11_shade_37 : decode cX11_shade 37 = .ok (.goto 4, 3) := by decide +kernel
theorem dX11_shade_40 : decode cX11_shade 40 = .ok (.iconst 0, 1) := by decide +kernel
theorem dX11_shade_41 : decode cX11_shade 41 = .ok (.ireturn, 1) := by decide +kernel
theorem dX11_when_0 : decode cX11_when 0 = .ok (.iload_n 1, 1) := by decide +kernel
theorem dX11_when_1 : decode cX11_when 1 = .ok (.iload_n 2, 1) := by decide +kernel
theorem dX11_when_2 : decode cX11_when 2 = .ok (.invokestatic 138, 3) := by decide +kernel
theorem dX11_when_5 : decode cX11_when 5 = .ok (.ifCond .eq 10, 3) := by decide +kernel
theorem dX11_when_8 : decode cX11_when 8 = .ok (.iload_n 3, 1) := by decide +kernel
theorem dX11_when_9 : decode cX11_when 9 = .ok (.invokestatic 92, 3) := by decide +kernel
theorem dX11_when_12 : decode cX11_when 12 = .ok (.ifCond .ne 5, 3) := by decide +kernel
theorem dX11_when_15 : decode cX11_when 15 = .ok (.iconst (-1), 1) := by decide +kernel
theorem dX11_when_16 : decode cX11_when 16 = .ok (.ireturn, 1) := by decide +kernel
theorem dX11_when_17 : decode cX11_when 17 = .ok (.iload_n 2, 1) := by decide +kernel
theorem dX11_when_18 : decode cX11_when 18 = .ok (.istore 5, 2) := by decide +kernel
theorem dX11_when_20 : decode cX11_when 20 = .ok (.iload 5, 2) := by decide +kernel
theorem dX11_when_22 : decode cX11_when 22 = .ok (.bipush 119, 2) := by decide +kernel
theorem dX11_when_24 : decode cX11_when 24 = .ok (.if_icmp .gt 34, 3) := by decide +kernel
theorem dX11_when_27 : decode cX11_when 27 = .ok (.aload_n 0, 1) := by decide +kernel
theorem dX11_when_28 : decode cX11_when 28 = .ok (.getfield 35, 3) := by decide +kernel
theorem dX11_when_31 : decode cX11_when 31 = .ok (.getfield 142, 3) := by decide +kernel
theorem dX11_when_34 : decode cX11_when 34 = .ok (.iload_n 1, 1) := by decide +kernel
theorem dX11_when_35 : decode cX11_when 35 = .ok (.iload 5, 2) := by decide +kernel
theorem dX11_when_37 : decode cX11_when 37 = .ok (.invokestatic 146, 3) := by decide +kernel
theorem dX11_when_40 : decode cX11_when 40 = .ok (.iload_n 3, 1) := by decide +kernel
theorem dX11_when_41 : decode cX11_when 41 = .ok (.invokevirtual 150, 3) := by decide +kernel
theorem dX11_when_44 : decode cX11_when 44 = .ok (.iload 4, 2) := by decide +kernel
theorem dX11_when_46 : decode cX11_when 46 = .ok (.if_icmp .ne 6, 3) := by decide +kernel
theorem dX11_when_49 : decode cX11_when 49 = .ok (.iload 5, 2) := by decide +kernel
theorem dX11_when_51 : decode cX11_when 51 = .ok (.ireturn, 1) := by decide +kernel
theorem dX11_when_52 : decode cX11_when 52 = .ok (.iinc 5 1, 3) := by decide +kernel
theorem dX11_when_55 : decode cX11_when 55 = .ok (.goto (-35), 3) := by decide +kernel
theorem dX11_when_58 : decode cX11_when 58 = .ok (.iconst (-1), 1) := by decide +kernel
theorem dX11_when_59 : decode cX11_when 59 = .ok (.ireturn, 1) := by decide +kernel
theorem dX11_dim_0 : decode cX11_dim 0 = .ok (.iload_n 1, 1) := by decide +kernel
theorem dX11_dim_1 : decode cX11_dim 1 = .ok (.iload_n 2, 1) := by decide +kernel
theorem dX11_dim_2 : decode cX11_dim 2 = .ok (.invokestatic 138, 3) := by decide +kernel
theorem dX11_dim_5 : decode cX11_dim 5 = .ok (.ifCond .eq 18, 3) := by decide +kernel
theorem dX11_dim_8 : decode cX11_dim 8 = .ok (.aload_n 0, 1) := by decide +kernel
theorem dX11_dim_9 : decode cX11_dim 9 = .ok (.getfield 35, 3) := by decide +kernel
theorem dX11_dim_12 : decode cX11_dim 12 = .ok (.iload_n 1, 1) := by decide +kernel
theorem dX11_dim_13 : decode cX11_dim 13 = .ok (.iload_n 2, 1) := by decide +kernel
theorem dX11_dim_14 : decode cX11_dim 14 = .ok (.invokestatic 146, 3) := by decide +kernel
theorem dX11_dim_17 : decode cX11_dim 17 = .ok (.invokevirtual 155, 3) := by decide +kernel
theorem dX11_dim_20 : decode cX11_dim 20 = .ok (.goto 4, 3) := by decide +kernel
theorem dX11_dim_23 : decode cX11_dim 23 = .ok (.iconst (-1), 1) := by decide +kernel
theorem dX11_dim_24 : decode cX11_dim 24 = .ok (.ireturn, 1) := by decide +kernel
theorem dX11_shutAt_0 : decode cX11_shutAt 0 = .ok (.iload_n 1, 1) := by decide +kernel
theorem dX11_shutAt_1 : decode cX11_shutAt 1 = .ok (.iload_n 2, 1) := by decide +kernel
theorem dX11_shutAt_2 : decode cX11_shutAt 2 = .ok (.invokestatic 138, 3) := by decide +kernel
theorem dX11_shutAt_5 : decode cX11_shutAt 5 = .ok (.ifCond .eq 10, 3) := by decide +kernel
theorem dX11_shutAt_8 : decode cX11_shutAt 8 = .ok (.iload_n 3, 1) := by decide +kernel
theorem dX11_shutAt_9 : decode cX11_shutAt 9 = .ok (.invokestatic 92, 3) := by decide +kernel
theorem dX11_shutAt_12 : decode cX11_shutAt 12 = .ok (.ifCond .ne 5, 3) := by decide +kernel
theorem dX11_shutAt_15 : decode cX11_shutAt 15 = .ok (.iconst (-1), 1) := by decide +kernel
theorem dX11_shutAt_16 : decode cX11_shutAt 16 = .ok (.ireturn, 1) := by decide +kernel
theorem dX11_shutAt_17 : decode cX11_shutAt 17 = .ok (.aload_n 0, 1) := by decide +kernel
theorem dX11_shutAt_18 : decode cX11_shutAt 18 = .ok (.getfield 10, 3) := by decide +kernel
theorem dX11_shutAt_21 : decode cX11_shutAt 21 = .ok (.getfield 158, 3) := by decide +kernel
theorem dX11_shutAt_24 : decode cX11_shutAt 24 = .ok (.iload_n 1, 1) := by decide +kernel
theorem dX11_shutAt_25 : decode cX11_shutAt 25 = .ok (.iload_n 2, 1) := by decide +kernel
theorem dX11_shutAt_26 : decode cX11_shutAt 26 = .ok (.invokestatic 146, 3) := by decide +kernel
theorem dX11_shutAt_29 : decode cX11_shutAt 29 = .ok (.iload_n 3, 1) := by decide +kernel
theorem dX11_shutAt_30 : decode cX11_shutAt 30 = .ok (.invokevirtual 150, 3) := by decide +kernel
theorem dX11_shutAt_33 : decode cX11_shutAt 33 = .ok (.ifCond .eq 7, 3) := by decide +kernel
theorem dX11_shutAt_36 : decode cX11_shutAt 36 = .ok (.iconst 1, 1) := by decide +kernel
theorem dX11_shutAt_37 : decode cX11_shutAt 37 = .ok (.goto 4, 3) := by decide +kernel
theorem dX11_shutAt_40 : decode cX11_shutAt 40 = .ok (.iconst 0, 1) := by decide +kernel
theorem dX11_shutAt_41 : decode cX11_shutAt 41 = .ok (.ireturn, 1) := by decide +kernel
theorem dX11_broad_0 : decode cX11_broad 0 = .ok (.iload_n 1, 1) := by decide +kernel
theorem dX11_broad_1 : decode cX11_broad 1 = .ok (.invokestatic 161, 3) := by decide +kernel
theorem dX11_broad_4 : decode cX11_broad 4 = .ok (.ifCond .eq 12, 3) := by decide +kernel
theorem dX11_broad_7 : decode cX11_broad 7 = .ok (.iload_n 2, 1) := by decide +kernel
theorem dX11_broad_8 : decode cX11_broad 8 = .ok (.ifCond .lt 8, 3) := by decide +kernel
theorem dX11_broad_11 : decode cX11_broad 11 = .ok (.iload_n 2, 1) := by decide +kernel
theorem dX11_broad_12 : decode cX11_broad 12 = .ok (.iconst 1, 1) := by decide +kernel
theorem dX11_broad_13 : decode cX11_broad 13 = .ok (.if_icmp .le 5, 3) := by decide +kernel
theorem dX11_broad_16 : decode cX11_broad 16 = .ok (.iconst (-1), 1) := by decide +kernel
theorem dX11_broad_17 : decode cX11_broad 17 = .ok (.ireturn, 1) := by decide +kernel
theorem dX11_broad_18 : decode cX11_broad 18 = .ok (.iconst (-1), 1) := by decide +kernel
theorem dX11_broad_19 : decode cX11_broad 19 = .ok (.istore_n 3, 1) := by decide +kernel
theorem dX11_broad_20 : decode cX11_broad 20 = .ok (.iconst (-1), 1) := by decide +kernel
theorem dX11_broad_21 : decode cX11_broad 21 = .ok (.istore 4, 2) := by decide +kernel
theorem dX11_broad_23 : decode cX11_broad 23 = .ok (.iconst 0, 1) := by decide +kernel
theorem dX11_broad_24 : decode cX11_broad 24 = .ok (.istore 5, 2) := by decide +kernel
theorem dX11_broad_26 : decode cX11_broad 26 = .ok (.iload 5, 2) := by decide +kernel
theorem dX11_broad_28 : decode cX11_broad 28 = .ok (.bipush 119, 2) := by decide +kernel
theorem dX11_broad_30 : decode cX11_broad 30 = .ok (.if_icmp .gt 56, 3) := by decide +kernel
theorem dX11_broad_33 : decode cX11_broad 33 = .ok (.aload_n 0, 1) := by decide +kernel
theorem dX11_broad_34 : decode cX11_broad 34 = .ok (.getfield 35, 3) := by decide +kernel
theorem dX11_broad_37 : decode cX11_broad 37 = .ok (.iload_n 1, 1) := by decide +kernel
theorem dX11_broad_38 : decode cX11_broad 38 = .ok (.iload 5, 2) := by decide +kernel
theorem dX11_broad_40 : decode cX11_broad 40 = .ok (.invokevirtual 164, 3) := by decide +kernel
theorem dX11_broad_43 : decode cX11_broad 43 = .ok (.iconst (-1), 1) := by decide +kernel
theorem dX11_broad_44 : decode cX11_broad 44 = .ok (.if_icmp .ne 7, 3) := by decide +kernel
theorem dX11_broad_47 : decode cX11_broad 47 = .ok (.iconst (-1), 1) := by decide +kernel
theorem dX11_broad_48 : decode cX11_broad 48 = .ok (.goto 16, 3) := by decide +kernel
theorem dX11_broad_51 : decode cX11_broad 51 = .ok (.aload_n 0, 1) := by decide +kernel
theorem dX11_broad_52 : decode cX11_broad 52 = .ok (.getfield 35, 3) := by decide +kernel
theorem dX11_broad_55 : decode cX11_broad 55 = .ok (.iload_n 1, 1) := by decide +kernel
theorem dX11_broad_56 : decode cX11_broad 56 = .ok (.iload 5, 2) := by decide +kernel
theorem dX11_broad_58 : decode cX11_broad 58 = .ok (.invokestatic 146, 3) := by decide +kernel
theorem dX11_broad_61 : decode cX11_broad 61 = .ok (.invokevirtual 155, 3) := by decide +kernel
theorem dX11_broad_64 : decode cX11_broad 64 = .ok (.istore 6, 2) := by decide +kernel
theorem dX11_broad_66 : decode cX11_broad 66 = .ok (.iload 6, 2) := by decide +kernel
theorem dX11_broad_68 : decode cX11_broad 68 = .ok (.iload 4, 2) := by decide +kernel
theorem dX11_broad_70 : decode cX11_broad 70 = .ok (.if_icmp .le 10, 3) := by decide +kernel
theorem dX11_broad_73 : decode cX11_broad 73 = .ok (.iload 6, 2) := by decide +kernel
theorem dX11_broad_75 : decode cX11_broad 75 = .ok (.istore 4, 2) := by decide +kernel
theorem dX11_broad_77 : decode cX11_broad 77 = .ok (.iload 5, 2) := by decide +kernel
theorem dX11_broad_79 : decode cX11_broad 79 = .ok (.istore_n 3, 1) := by decide +kernel
theorem dX11_broad_80 : decode cX11_broad 80 = .ok (.iinc 5 1, 3) := by decide +kernel
theorem dX11_broad_83 : decode cX11_broad 83 = .ok (.goto (-57), 3) := by decide +kernel
theorem dX11_broad_86 : decode cX11_broad 86 = .ok (.iload_n 2, 1) := by decide +kernel
theorem dX11_broad_87 : decode cX11_broad 87 = .ok (.ifCond .ne 7, 3) := by decide +kernel
theorem dX11_broad_90 : decode cX11_broad 90 = .ok (.iload_n 3, 1) := by decide +kernel
theorem dX11_broad_91 : decode cX11_broad 91 = .ok (.goto 5, 3) := by decide +kernel
theorem dX11_broad_94 : decode cX11_broad 94 = .ok (.iload 4, 2) := by decide +kernel
theorem dX11_broad_96 : decode cX11_broad 96 = .ok (.ireturn, 1) := by decide +kernel
