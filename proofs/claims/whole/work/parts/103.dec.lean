theorem dX12_readWater_0 : decode cX12_readWater 0 = .ok (.aload_n 0, 1) := by decide +kernel
theorem dX12_readWater_1 : decode cX12_readWater 1 = .ok (.getfield 97, 3) := by decide +kernel
theorem dX12_readWater_4 : decode cX12_readWater 4 = .ok (.sipush 864, 3) := by decide +kernel
theorem dX12_readWater_7 : decode cX12_readWater 7 = .ok (.iaload, 1) := by decide +kernel
theorem dX12_readWater_8 : decode cX12_readWater 8 = .ok (.istore_n 1, 1) := by decide +kernel
theorem dX12_readWater_9 : decode cX12_readWater 9 = .ok (.iload_n 1, 1) := by decide +kernel
theorem dX12_readWater_10 : decode cX12_readWater 10 = .ok (.bipush 10, 2) := by decide +kernel
theorem dX12_readWater_12 : decode cX12_readWater 12 = .ok (.if_icmp .ne 9, 3) := by decide +kernel
theorem dX12_readWater_15 : decode cX12_readWater 15 = .ok (.aload_n 0, 1) := by decide +kernel
theorem dX12_readWater_16 : decode cX12_readWater 16 = .ok (.iconst 5, 1) := by decide +kernel
theorem dX12_readWater_17 : decode cX12_readWater 17 = .ok (.invokevirtual 205, 3) := by decide +kernel
theorem dX12_readWater_20 : decode cX12_readWater 20 = .ok (.return_, 1) := by decide +kernel
theorem dX12_readWater_21 : decode cX12_readWater 21 = .ok (.aload_n 0, 1) := by decide +kernel
theorem dX12_readWater_22 : decode cX12_readWater 22 = .ok (.dup, 1) := by decide +kernel
theorem dX12_readWater_23 : decode cX12_readWater 23 = .ok (.getfield 196, 3) := by decide +kernel
theorem dX12_readWater_26 : decode cX12_readWater 26 = .ok (.iconst 1, 1) := by decide +kernel
theorem dX12_readWater_27 : decode cX12_readWater 27 = .ok (.iadd, 1) := by decide +kernel
theorem dX12_readWater_28 : decode cX12_readWater 28 = .ok (.putfield 196, 3) := by decide +kernel
theorem dX12_readWater_31 : decode cX12_readWater 31 = .ok (.aload_n 0, 1) := by decide +kernel
theorem dX12_readWater_32 : decode cX12_readWater 32 = .ok (.iconst 0, 1) := by decide +kernel
theorem dX12_readWater_33 : decode cX12_readWater 33 = .ok (.bipush 9, 2) := by decide +kernel
theorem dX12_readWater_35 : decode cX12_readWater 35 = .ok (.invokevirtual 255, 3) := by decide +kernel
theorem dX12_readWater_38 : decode cX12_readWater 38 = .ok (.istore_n 2, 1) := by decide +kernel
theorem dX12_readWater_39 : decode cX12_readWater 39 = .ok (.aload_n 0, 1) := by decide +kernel
theorem dX12_readWater_40 : decode cX12_readWater 40 = .ok (.iconst 0, 1) := by decide +kernel
theorem dX12_readWater_41 : decode cX12_readWater 41 = .ok (.bipush 9, 2) := by decide +kernel
theorem dX12_readWater_43 : decode cX12_readWater 43 = .ok (.invokevirtual 255, 3) := by decide +kernel
theorem dX12_readWater_46 : decode cX12_readWater 46 = .ok (.istore_n 3, 1) := by decide +kernel
theorem dX12_readWater_47 : decode cX12_readWater 47 = .ok (.aload_n 0, 1) := by decide +kernel
theorem dX12_readWater_48 : decode cX12_readWater 48 = .ok (.getfield 97, 3) := by decide +kernel
theorem dX12_readWater_51 : decode cX12_readWater 51 = .ok (.sipush 865, 3) := by decide +kernel
theorem dX12_readWater_54 : decode cX12_readWater 54 = .ok (.iload_n 1, 1) := by decide +kernel
theorem dX12_readWater_55 : decode cX12_readWater 55 = .ok (.iadd, 1) := by decide +kernel
theorem dX12_readWater_56 : decode cX12_readWater 56 = .ok (.bipush 10, 2) := by decide +kernel
theorem dX12_readWater_58 : decode cX12_readWater 58 = .ok (.iload_n 3, 1) := by decide +kernel
theorem dX12_readWater_59 : decode cX12_readWater 59 = .ok (.imul, 1) := by decide +kernel
theorem dX12_readWater_60 : decode cX12_readWater 60 = .ok (.iload_n 2, 1) := by decide +kernel
theorem dX12_readWater_61 : decode cX12_readWater 61 = .ok (.iadd, 1) := by decide +kernel
theorem dX12_readWater_62 : decode cX12_readWater 62 = .ok (.iastore, 1) := by decide +kernel
theorem dX12_readWater_63 : decode cX12_readWater 63 = .ok (.aload_n 0, 1) := by decide +kernel
theorem dX12_readWater_64 : decode cX12_readWater 64 = .ok (.getfield 97, 3) := by decide +kernel
theorem dX12_readWater_67 : decode cX12_readWater 67 = .ok (.sipush 864, 3) := by decide +kernel
theorem dX12_readWater_70 : decode cX12_readWater 70 = .ok (.dup2, 1) := by decide +kernel
theorem dX12_readWater_71 : decode cX12_readWater 71 = .ok (.iaload, 1) := by decide +kernel
theorem dX12_readWater_72 : decode cX12_readWater 72 = .ok (.iconst 1, 1) := by decide +kernel
theorem dX12_readWater_73 : decode cX12_readWater 73 = .ok (.iadd, 1) := by decide +kernel
theorem dX12_readWater_74 : decode cX12_readWater 74 = .ok (.iastore, 1) := by decide +kernel
theorem dX12_readWater_75 : decode cX12_readWater 75 = .ok (.return_, 1) := by decide +kernel
theorem dX12_hasWater_0 : decode cX12_hasWater 0 = .ok (.iconst 0, 1) := by decide +kernel
theorem dX12_hasWater_1 : decode cX12_hasWater 1 = .ok (.istore_n 2, 1) := by decide +kernel
theorem dX12_hasWater_2 : decode cX12_hasWater 2 = .ok (.iconst 0, 1) := by decide +kernel
theorem dX12_hasWater_3 : decode cX12_hasWater 3 = .ok (.istore_n 3, 1) := by decide +kernel
theorem dX12_hasWater_4 : decode cX12_hasWater 4 = .ok (.iload_n 3, 1) := by decide +kernel
theorem dX12_hasWater_5 : decode cX12_hasWater 5 = .ok (.aload_n 0, 1) := by decide +kernel
theorem dX12_hasWater_6 : decode cX12_hasWater 6 = .ok (.getfield 97, 3) := by decide +kernel
theorem dX12_hasWater_9 : decode cX12_hasWater 9 = .ok (.sipush 424, 3) := by decide +kernel
theorem dX12_hasWater_12 : decode cX12_hasWater 12 = .ok (.iaload, 1) := by decide +kernel
theorem dX12_hasWater_13 : decode cX12_hasWater 13 = .ok (.if_icmp .ge 33, 3) := by decide +kernel
theorem dX12_hasWater_16 : decode cX12_hasWater 16 = .ok (.iload_n 2, 1) := by decide +kernel
theorem dX12_hasWater_17 : decode cX12_hasWater 17 = .ok (.ifCond .ne 17, 3) := by decide +kernel
theorem dX12_hasWater_20 : decode cX12_hasWater 20 = .ok (.aload_n 0, 1) := by decide +kernel
theorem dX12_hasWater_21 : decode cX12_hasWater 21 = .ok (.getfield 97, 3) := by decide +kernel
theorem dX12_hasWater_24 : decode cX12_hasWater 24 = .ok (.sipush 425, 3) := by decide +kernel
theorem dX12_hasWater_27 : decode cX12_hasWater 27 = .ok (.iload_n 3, 1) := by decide +kernel
theorem dX12_hasWater_28 : decode cX12_hasWater 28 = .ok (.iadd, 1) := by decide +kernel
theorem dX12_hasWater_29 : decode cX12_hasWater 29 = .ok (.iaload, 1) := by decide +kernel
theorem dX12_hasWater_30 : decode cX12_hasWater 30 = .ok (.iload_n 1, 1) := by decide +kernel
theorem dX12_hasWater_31 : decode cX12_hasWater 31 = .ok (.if_icmp .ne 7, 3) := by decide +kernel
theorem dX12_hasWater_34 : decode cX12_hasWater 34 = .ok (.iconst 1, 1) := by decide +kernel
theorem dX12_hasWater_35 : decode cX12_hasWater 35 = .ok (.goto 4, 3) := by decide +kernel
theorem dX12_hasWater_38 : decode cX12_hasWater 38 = .ok (.iconst 0, 1) := by decide +kernel
theorem dX12_hasWater_39 : decode cX12_hasWater 39 = .ok (.istore_n 2, 1) := by decide +kernel
theorem dX12_hasWater_40 : decode cX12_hasWater 40 = .ok (.iinc 3 1, 3) := by decide +kernel
theorem dX12_hasWater_43 : decode cX12_hasWater 43 = .ok (.goto (-39), 3) := by decide +kernel
theorem dX12_hasWater_46 : decode cX12_hasWater 46 = .ok (.iload_n 2, 1) := by decide +kernel
theorem dX12_hasWater_47 : decode cX12_hasWater 47 = .ok (.ireturn, 1) := by decide +kernel
theorem dX12_readCloth_0 : decode cX12_readCloth 0 = .ok (.aload_n 0, 1) := by decide +kernel
theorem dX12_readCloth_1 : decode cX12_readCloth 1 = .ok (.getfield 97, 3) := by decide +kernel
theorem dX12_readCloth_4 : decode cX12_readCloth 4 = .ok (.sipush 640, 3) := by decide +kernel
theorem dX12_readCloth_7 : decode cX12_readCloth 7 = .ok (.iaload, 1) := by decide +kernel
theorem dX12_readCloth_8 : decode cX12_readCloth 8 = .ok (.istore_n 2, 1) := by decide +kernel
theorem dX12_readCloth_9 : decode cX12_readCloth 9 = .ok (.iload_n 2, 1) := by decide +kernel
theorem dX12_readCloth_10 : decode cX12_readCloth 10 = .ok (.bipush 20, 2) := by decide +kernel
theorem dX12_readCloth_12 : decode cX12_readCloth 12 = .ok (.if_icmp .ne 9, 3) := by decide +kernel
theorem dX12_readCloth_15 : decode cX12_readCloth 15 = .ok (.aload_n 0, 1) := by decide +kernel
theorem dX12_readCloth_16 : decode cX12_readCloth 16 = .ok (.iconst 5, 1) := by decide +kernel
theorem dX12_readCloth_17 : decode cX12_readCloth 17 = .ok (.invokevirtual 205, 3) := by decide +kernel
theorem dX12_readCloth_20 : decode cX12_readCloth 20 = .ok (.return_, 1) := by decide +kernel
theorem dX12_readCloth_21 : decode cX12_readCloth 21 = .ok (.aload_n 0, 1) := by decide +kernel
theorem dX12_readCloth_22 : decode cX12_readCloth 22 = .ok (.dup, 1) := by decide +kernel
theorem dX12_readCloth_23 : decode cX12_readCloth 23 = .ok (.getfield 196, 3) := by decide +kernel
theorem dX12_readCloth_26 : decode cX12_readCloth 26 = .ok (.iconst 1, 1) := by decide +kernel
theorem dX12_readCloth_27 : decode cX12_readCloth 27 = .ok (.iadd, 1) := by decide +kernel
theorem dX12_readCloth_28 : decode cX12_readCloth 28 = .ok (.putfield 196, 3) := by decide +kernel
theorem dX12_readCloth_31 : decode cX12_readCloth 31 = .ok (.aload_n 0, 1) := by decide +kernel
theorem dX12_readCloth_32 : decode cX12_readCloth 32 = .ok (.iconst 0, 1) := by decide +kernel
theorem dX12_readCloth_33 : decode cX12_readCloth 33 = .ok (.bipush 9, 2) := by decide +kernel
theorem dX12_readCloth_35 : decode cX12_readCloth 35 = .ok (.invokevirtual 255, 3) := by decide +kernel
theorem dX12_readCloth_38 : decode cX12_readCloth 38 = .ok (.istore_n 3, 1) := by decide +kernel
theorem dX12_readCloth_39 : decode cX12_readCloth 39 = .ok (.aload_n 0, 1) := by decide +kernel
theorem dX12_readCloth_40 : decode cX12_readCloth 40 = .ok (.iconst 0, 1) := by decide +kernel
theorem dX12_readCloth_41 : decode cX12_readCloth 41 = .ok (.bipush 9, 2) := by decide +kernel
theorem dX12_readCloth_43 : decode cX12_readCloth 43 = .ok (.invokevirtual 255, 3) := by decide +kernel
theorem dX12_readCloth_46 : decode cX12_readCloth 46 = .ok (.istore 4, 2) := by decide +kernel
theorem dX12_readCloth_48 : decode cX12_readCloth 48 = .ok (.aload_n 0, 1) := by decide +kernel
theorem dX12_readCloth_49 : decode cX12_readCloth 49 = .ok (.bipush 7, 2) := by decide +kernel
theorem dX12_readCloth_51 : decode cX12_readCloth 51 = .ok (.invokevirtual 259, 3) := by decide +kernel
theorem dX12_readCloth_54 : decode cX12_readCloth 54 = .ok (.sipush 641, 3) := by decide +kernel
theorem dX12_readCloth_57 : decode cX12_readCloth 57 = .ok (.iconst 3, 1) := by decide +kernel
theorem dX12_readCloth_58 : decode cX12_readCloth 58 = .ok (.iload_n 2, 1) := by decide +kernel
theorem dX12_readCloth_59 : decode cX12_readCloth 59 = .ok (.imul, 1) := by decide +kernel
theorem dX12_readCloth_60 : decode cX12_readCloth 60 = .ok (.iadd, 1) := by decide +kernel
theorem dX12_readCloth_61 : decode cX12_readCloth 61 = .ok (.istore 5, 2) := by decide +kernel
theorem dX12_readCloth_63 : decode cX12_readCloth 63 = .ok (.aload_n 0, 1) := by decide +kernel
theorem dX12_readCloth_64 : decode cX12_readCloth 64 = .ok (.getfield 97, 3) := by decide +kernel
theorem dX12_readCloth_67 : decode cX12_readCloth 67 = .ok (.iload 5, 2) := by decide +kernel
theorem dX12_readCloth_69 : decode cX12_readCloth 69 = .ok (.bipush 10, 2) := by decide +kernel
theorem dX12_readCloth_71 : decode cX12_readCloth 71 = .ok (.iload 4, 2) := by decide +kernel
theorem dX12_readCloth_73 : decode cX12_readCloth 73 = .ok (.imul, 1) := by decide +kernel
theorem dX12_readCloth_74 : decode cX12_readCloth 74 = .ok (.iload_n 3, 1) := by decide +kernel
theorem dX12_readCloth_75 : decode cX12_readCloth 75 = .ok (.iadd, 1) := by decide +kernel
theorem dX12_readCloth_76 : decode cX12_readCloth 76 = .ok (.iastore, 1) := by decide +kernel
theorem dX12_readCloth_77 : decode cX12_readCloth 77 = .ok (.aload_n 0, 1) := by decide +kernel
theorem dX12_readCloth_78 : decode cX12_readCloth 78 = .ok (.getfield 97, 3) := by decide +kernel
theorem dX12_readCloth_81 : decode cX12_readCloth 81 = .ok (.iload 5, 2) := by decide +kernel
theorem dX12_readCloth_83 : decode cX12_readCloth 83 = .ok (.iconst 1, 1) := by decide +kernel
theorem dX12_readCloth_84 : decode cX12_readCloth 84 = .ok (.iadd, 1) := by decide +kernel
theorem dX12_readCloth_85 : decode cX12_readCloth 85 = .ok (.iload_n 1, 1) := by decide +kernel
theorem dX12_readCloth_86 : decode cX12_readCloth 86 = .ok (.iastore, 1) := by decide +kernel
theorem dX12_readCloth_87 : decode cX12_readCloth 87 = .ok (.aload_n 0, 1) := by decide +kernel
theorem dX12_readCloth_88 : decode cX12_readCloth 88 = .ok (.getfield 97, 3) := by decide +kernel
theorem dX12_readCloth_91 : decode cX12_readCloth 91 = .ok (.iload 5, 2) := by decide +kernel
theorem dX12_readCloth_93 : decode cX12_readCloth 93 = .ok (.iconst 2, 1) := by decide +kernel
theorem dX12_readCloth_94 : decode cX12_readCloth 94 = .ok (.iadd, 1) := by decide +kernel
theorem dX12_readCloth_95 : decode cX12_readCloth 95 = .ok (.aload_n 0, 1) := by decide +kernel
theorem dX12_readCloth_96 : decode cX12_readCloth 96 = .ok (.getfield 218, 3) := by decide +kernel
theorem dX12_readCloth_99 : decode cX12_readCloth 99 = .ok (.iastore, 1) := by decide +kernel
theorem dX12_readCloth_100 : decode cX12_readCloth 100 = .ok (.aload_n 0, 1) := by decide +kernel
theorem dX12_readCloth_101 : decode cX12_readCloth 101 = .ok (.iconst 0, 1) := by decide +kernel
theorem dX12_readCloth_102 : decode cX12_readCloth 102 = .ok (.invokevirtual 262, 3) := by decide +kernel
theorem dX12_readCloth_105 : decode cX12_readCloth 105 = .ok (.aload_n 0, 1) := by decide +kernel
theorem dX12_readCloth_106 : decode cX12_readCloth 106 = .ok (.iconst 0, 1) := by decide +kernel
theorem dX12_readCloth_107 : decode cX12_readCloth 107 = .ok (.iconst 0, 1) := by decide +kernel
theorem dX12_readCloth_108 : decode cX12_readCloth 108 = .ok (.invokevirtual 265, 3) := by decide +kernel
theorem dX12_readCloth_111 : decode cX12_readCloth 111 = .ok (.aload_n 0, 1) := by decide +kernel
theorem dX12_readCloth_112 : decode cX12_readCloth 112 = .ok (.getfield 97, 3) := by decide +kernel
theorem dX12_readCloth_115 : decode cX12_readCloth 115 = .ok (.sipush 640, 3) := by decide +kernel
theorem dX12_readCloth_118 : decode cX12_readCloth 118 = .ok (.dup2, 1) := by decide +kernel
theorem dX12_readCloth_119 : decode cX12_readCloth 119 = .ok (.iaload, 1) := by decide +kernel
theorem dX12_readCloth_120 : decode cX12_readCloth 120 = .ok (.iconst 1, 1) := by decide +kernel
theorem dX12_readCloth_121 : decode cX12_readCloth 121 = .ok (.iadd, 1) := by decide +kernel
theorem dX12_readCloth_122 : decode cX12_readCloth 122 = .ok (.iastore, 1) := by decide +kernel
theorem dX12_readCloth_123 : decode cX12_readCloth 123 = .ok (.return_, 1) := by decide +kernel
theorem dX12_readSun_0 : decode cX12_readSun 0 = .ok (.aload_n 0, 1) := by decide +kernel
theorem dX12_readSun_1 : decode cX12_readSun 1 = .ok (.getfield 97, 3) := by decide +kernel
theorem dX12_readSun_4 : decode cX12_readSun 4 = .ok (.sipush 701, 3) := by decide +kernel
theorem dX12_readSun_7 : decode cX12_readSun 7 = .ok (.iaload, 1) := by decide +kernel
theorem dX12_readSun_8 : decode cX12_readSun 8 = .ok (.istore_n 1, 1) := by decide +kernel
theorem dX12_readSun_9 : decode cX12_readSun 9 = .ok (.iload_n 1, 1) := by decide +kernel
theorem dX12_readSun_10 : decode cX12_readSun 10 = .ok (.bipush 24, 2) := by decide +kernel
theorem dX12_readSun_12 : decode cX12_readSun 12 = .ok (.if_icmp .ne 9, 3) := by decide +kernel
theorem dX12_readSun_15 : decode cX12_readSun 15 = .ok (.aload_n 0, 1) := by decide +kernel
theorem dX12_readSun_16 : decode cX12_readSun 16 = .ok (.iconst 5, 1) := by decide +kernel
theorem dX12_readSun_17 : decode cX12_readSun 17 = .ok (.invokevirtual 205, 3) := by decide +kernel
theorem dX12_readSun_20 : decode cX12_readSun 20 = .ok (.return_, 1) := by decide +kernel
theorem dX12_readSun_21 : decode cX12_readSun 21 = .ok (.aload_n 0, 1) := by decide +kernel
theorem dX12_readSun_22 : decode cX12_readSun 22 = .ok (.dup, 1) := by decide +kernel
theorem dX12_readSun_23 : decode cX12_readSun 23 = .ok (.getfield 196, 3) := by decide +kernel
theorem dX12_readSun_26 : decode cX12_readSun 26 = .ok (.iconst 1, 1) := by decide +kernel
theorem dX12_readSun_27 : decode cX12_readSun 27 = .ok (.iadd, 1) := by decide +kernel
theorem dX12_readSun_28 : decode cX12_readSun 28 = .ok (.putfield 196, 3) := by decide +kernel
theorem dX12_readSun_31 : decode cX12_readSun 31 = .ok (.aload_n 0, 1) := by decide +kernel
theorem dX12_readSun_32 : decode cX12_readSun 32 = .ok (.iconst 0, 1) := by decide +kernel
theorem dX12_readSun_33 : decode cX12_readSun 33 = .ok (.iconst 3, 1) := by decide +kernel
theorem dX12_readSun_34 : decode cX12_readSun 34 = .ok (.invokevirtual 255, 3) := by decide +kernel
theorem dX12_readSun_37 : decode cX12_readSun 37 = .ok (.istore_n 2, 1) := by decide +kernel
theorem dX12_readSun_38 : decode cX12_readSun 38 = .ok (.aload_n 0, 1) := by decide +kernel
theorem dX12_readSun_39 : decode cX12_readSun 39 = .ok (.bipush 8, 2) := by decide +kernel
theorem dX12_readSun_41 : decode cX12_readSun 41 = .ok (.invokevirtual 259, 3) := by decide +kernel
theorem dX12_readSun_44 : decode cX12_readSun 44 = .ok (.iconst (-1), 1) := by decide +kernel
theorem dX12_readSun_45 : decode cX12_readSun 45 = .ok (.istore_n 3, 1) := by decide +kernel
theorem dX12_readSun_46 : decode cX12_readSun 46 = .ok (.iconst 0, 1) := by decide +kernel
theorem dX12_readSun_47 : decode cX12_readSun 47 = .ok (.istore 4, 2) := by decide +kernel
theorem dX12_readSun_49 : decode cX12_readSun 49 = .ok (.iload 4, 2) := by decide +kernel
theorem dX12_readSun_51 : decode cX12_readSun 51 = .ok (.iload_n 1, 1) := by decide +kernel
theorem dX12_readSun_52 : decode cX12_readSun 52 = .ok (.if_icmp .ge 44, 3) := by decide +kernel
theorem dX12_readSun_55 : decode cX12_readSun 55 = .ok (.sipush 702, 3) := by decide +kernel
theorem dX12_readSun_58 : decode cX12_readSun 58 = .ok (.iconst 5, 1) := by decide +kernel
theorem dX12_readSun_59 : decode cX12_readSun 59 = .ok (.iload 4, 2) := by decide +kernel
theorem dX12_readSun_61 : decode cX12_readSun 61 = .ok (.imul, 1) := by decide +kernel
theorem dX12_readSun_62 : decode cX12_readSun 62 = .ok (.iadd, 1) := by decide +kernel
theorem dX12_readSun_63 : decode cX12_readSun 63 = .ok (.istore 5, 2) := by decide +kernel
theorem dX12_readSun_65 : decode cX12_readSun 65 = .ok (.aload_n 0, 1) := by decide +kernel
theorem dX12_readSun_66 : decode cX12_readSun 66 = .ok (.getfield 97, 3) := by decide +kernel
theorem dX12_readSun_69 : decode cX12_readSun 69 = .ok (.iload 5, 2) := by decide +kernel
theorem dX12_readSun_71 : decode cX12_readSun 71 = .ok (.iaload, 1) := by decide +kernel
theorem dX12_readSun_72 : decode cX12_readSun 72 = .ok (.iload_n 2, 1) := by decide +kernel
theorem dX12_readSun_73 : decode cX12_readSun 73 = .ok (.if_icmp .ne 15, 3) := by decide +kernel
theorem dX12_readSun_76 : decode cX12_readSun 76 = .ok (.aload_n 0, 1) := by decide +kernel
theorem dX12_readSun_77 : decode cX12_readSun 77 = .ok (.getfield 97, 3) := by decide +kernel
theorem dX12_readSun_80 : decode cX12_readSun 80 = .ok (.iload 5, 2) := by decide +kernel
theorem dX12_readSun_82 : decode cX12_readSun 82 = .ok (.iconst 1, 1) := by decide +kernel
theorem dX12_readSun_83 : decode cX12_readSun 83 = .ok (.iadd, 1) := by decide +kernel
theorem dX12_readSun_84 : decode cX12_readSun 84 = .ok (.iaload, 1) := by decide +kernel
theorem dX12_readSun_85 : decode cX12_readSun 85 = .ok (.goto 4, 3) := by decide +kernel
theorem dX12_readSun_88 : decode cX12_readSun 88 = .ok (.iload_n 3, 1) := by decide +kernel
theorem dX12_readSun_89 : decode cX12_readSun 89 = .ok (.istore_n 3, 1) := by decide +kernel
theorem dX12_readSun_90 : decode cX12_readSun 90 = .ok (.iinc 4 1, 3) := by decide +kernel
theorem dX12_readSun_93 : decode cX12_readSun 93 = .ok (.goto (-44), 3) := by decide +kernel
theorem dX12_readSun_96 : decode cX12_readSun 96 = .ok (.aload_n 0, 1) := by decide +kernel
theorem dX12_readSun_97 : decode cX12_readSun 97 = .ok (.getfield 199, 3) := by decide +kernel
theorem dX12_readSun_100 : decode cX12_readSun 100 = .ok (.ifCond .ne 36, 3) := by decide +kernel
theorem dX12_readSun_103 : decode cX12_readSun 103 = .ok (.aload_n 0, 1) := by decide +kernel
theorem dX12_readSun_104 : decode cX12_readSun 104 = .ok (.getfield 24, 3) := by decide +kernel
theorem dX12_readSun_107 : decode cX12_readSun 107 = .ok (.aload_n 0, 1) := by decide +kernel
theorem dX12_readSun_108 : decode cX12_readSun 108 = .ok (.getfield 196, 3) := by decide +kernel
theorem dX12_readSun_111 : decode cX12_readSun 111 = .ok (.iaload, 1) := by decide +kernel
theorem dX12_readSun_112 : decode cX12_readSun 112 = .ok (.iconst 2, 1) := by decide +kernel
theorem dX12_readSun_113 : decode cX12_readSun 113 = .ok (.if_icmp .ne 23, 3) := by decide +kernel
theorem dX12_readSun_116 : decode cX12_readSun 116 = .ok (.aload_n 0, 1) := by decide +kernel
theorem dX12_readSun_117 : decode cX12_readSun 117 = .ok (.getfield 30, 3) := by decide +kernel
theorem dX12_readSun_120 : decode cX12_readSun 120 = .ok (.aload_n 0, 1) := by decide +kernel
theorem dX12_readSun_121 : decode cX12_readSun 121 = .ok (.getfield 196, 3) := by decide +kernel
theorem dX12_readSun_124 : decode cX12_readSun 124 = .ok (.laload, 1) := by decide +kernel
theorem dX12_readSun_125 : decode cX12_readSun 125 = .ok (.iload_n 3, 1) := by decide +kernel
theorem dX12_readSun_126 : decode cX12_readSun 126 = .ok (.i2l, 1) := by decide +kernel
theorem dX12_readSun_127 : decode cX12_readSun 127 = .ok (.lcmp, 1) := by decide +kernel
theorem dX12_readSun_128 : decode cX12_readSun 128 = .ok (.ifCond .gt 8, 3) := by decide +kernel
theorem dX12_readSun_131 : decode cX12_readSun 131 = .ok (.aload_n 0, 1) := by decide +kernel
theorem dX12_readSun_132 : decode cX12_readSun 132 = .ok (.iconst 3, 1) := by decide +kernel
theorem dX12_readSun_133 : decode cX12_readSun 133 = .ok (.invokevirtual 205, 3) := by decide +kernel
theorem dX12_readSun_136 : decode cX12_readSun 136 = .ok (.aload_n 0, 1) := by decide +kernel
theorem dX12_readSun_137 : decode cX12_readSun 137 = .ok (.iconst 0, 1) := by decide +kernel
theorem dX12_readSun_138 : decode cX12_readSun 138 = .ok (.bipush 119, 2) := by decide +kernel
theorem dX12_readSun_140 : decode cX12_readSun 140 = .ok (.invokevirtual 255, 3) := by decide +kernel
theorem dX12_readSun_143 : decode cX12_readSun 143 = .ok (.istore 4, 2) := by decide +kernel
theorem dX12_readSun_145 : decode cX12_readSun 145 = .ok (.iconst (-1), 1) := by decide +kernel
theorem dX12_readSun_146 : decode cX12_readSun 146 = .ok (.istore 5, 2) := by decide +kernel
theorem dX12_readSun_148 : decode cX12_readSun 148 = .ok (.iconst 0, 1) := by decide +kernel
theorem dX12_readSun_149 : decode cX12_readSun 149 = .ok (.istore 6, 2) := by decide +kernel
theorem dX12_readSun_151 : decode cX12_readSun 151 = .ok (.iload 6, 2) := by decide +kernel
theorem dX12_readSun_153 : decode cX12_readSun 153 = .ok (.bipush 8, 2) := by decide +kernel
theorem dX12_readSun_155 : decode cX12_readSun 155 = .ok (.if_icmp .ge 30, 3) := by decide +kernel
theorem dX12_readSun_158 : decode cX12_readSun 158 = .ok (.aload_n 0, 1) := by decide +kernel
theorem dX12_readSun_159 : decode cX12_readSun 159 = .ok (.bipush 10, 2) := by decide +kernel
theorem dX12_readSun_161 : decode cX12_readSun 161 = .ok (.iload 6, 2) := by decide +kernel
theorem dX12_readSun_163 : decode cX12_readSun 163 = .ok (.iadd, 1) := by decide +kernel
theorem dX12_readSun_164 : decode cX12_readSun 164 = .ok (.invokevirtual 209, 3) := by decide +kernel
theorem dX12_readSun_167 : decode cX12_readSun 167 = .ok (.ifCond .eq 8, 3) := by decide +kernel
theorem dX12_readSun_170 : decode cX12_readSun 170 = .ok (.iload 6, 2) := by decide +kernel
theorem dX12_readSun_172 : decode cX12_readSun 172 = .ok (.goto 5, 3) := by decide +kernel
theorem dX12_readSun_175 : decode cX12_readSun 175 = .ok (.iload 5, 2) := by decide +kernel
theorem dX12_readSun_177 : decode cX12_readSun 177 = .ok (.istore 5, 2) := by decide +kernel
theorem dX12_readSun_179 : decode cX12_readSun 179 = .ok (.iinc 6 1, 3) := by decide +kernel
theorem dX12_readSun_182 : decode cX12_readSun 182 = .ok (.goto (-31), 3) := by decide +kernel
theorem dX12_readSun_185 : decode cX12_readSun 185 = .ok (.iload 5, 2) := by decide +kernel
theorem dX12_readSun_187 : decode cX12_readSun 187 = .ok (.ifCond .ge 8, 3) := by decide +kernel
theorem dX12_readSun_190 : decode cX12_readSun 190 = .ok (.aload_n 0, 1) := by decide +kernel
theorem dX12_readSun_191 : decode cX12_readSun 191 = .ok (.iconst 1, 1) := by decide +kernel
theorem dX12_readSun_192 : decode cX12_readSun 192 = .ok (.invokevirtual 205, 3) := by decide +kernel
theorem dX12_readSun_195 : decode cX12_readSun 195 = .ok (.aload_n 0, 1) := by decide +kernel
theorem dX12_readSun_196 : decode cX12_readSun 196 = .ok (.getfield 199, 3) := by decide +kernel
theorem dX12_readSun_199 : decode cX12_readSun 199 = .ok (.ifCond .le 4, 3) := by decide +kernel
theorem dX12_readSun_202 : decode cX12_readSun 202 = .ok (.return_, 1) := by decide +kernel
theorem dX12_readSun_203 : decode cX12_readSun 203 = .ok (.aload_n 0, 1) := by decide +kernel
theorem dX12_readSun_204 : decode cX12_readSun 204 = .ok (.dup, 1) := by decide +kernel
theorem dX12_readSun_205 : decode cX12_readSun 205 = .ok (.getfield 196, 3) := by decide +kernel
theorem dX12_readSun_208 : decode cX12_readSun 208 = .ok (.iconst 1, 1) := by decide +kernel
theorem dX12_readSun_209 : decode cX12_readSun 209 = .ok (.iadd, 1) := by decide +kernel
theorem dX12_readSun_210 : decode cX12_readSun 210 = .ok (.putfield 196, 3) := by decide +kernel
theorem dX12_readSun_213 : decode cX12_readSun 213 = .ok (.aload_n 0, 1) := by decide +kernel
theorem dX12_readSun_214 : decode cX12_readSun 214 = .ok (.iconst 1, 1) := by decide +kernel
theorem dX12_readSun_215 : decode cX12_readSun 215 = .ok (.bipush 99, 2) := by decide +kernel
theorem dX12_readSun_217 : decode cX12_readSun 217 = .ok (.invokevirtual 255, 3) := by decide +kernel
theorem dX12_readSun_220 : decode cX12_readSun 220 = .ok (.istore 6, 2) := by decide +kernel
theorem dX12_readSun_222 : decode cX12_readSun 222 = .ok (.aload_n 0, 1) := by decide +kernel
theorem dX12_readSun_223 : decode cX12_readSun 223 = .ok (.bipush 9, 2) := by decide +kernel
theorem dX12_readSun_225 : decode cX12_readSun 225 = .ok (.invokevirtual 259, 3) := by decide +kernel
theorem dX12_readSun_228 : decode cX12_readSun 228 = .ok (.aload_n 0, 1) := by decide +kernel
theorem dX12_readSun_229 : decode cX12_readSun 229 = .ok (.iconst 1, 1) := by decide +kernel
theorem dX12_readSun_230 : decode cX12_readSun 230 = .ok (.bipush 99, 2) := by decide +kernel
theorem dX12_readSun_232 : decode cX12_readSun 232 = .ok (.invokevirtual 255, 3) := by decide +kernel
theorem dX12_readSun_235 : decode cX12_readSun 235 = .ok (.istore 7, 2) := by decide +kernel
theorem dX12_readSun_237 : decode cX12_readSun 237 = .ok (.sipush 702, 3) := by decide +kernel
theorem dX12_readSun_240 : decode cX12_readSun 240 = .ok (.iconst 5, 1) := by decide +kernel
theorem dX12_readSun_241 : decode cX12_readSun 241 = .ok (.iload_n 1, 1) := by decide +kernel
theorem dX12_readSun_242 : decode cX12_readSun 242 = .ok (.imul, 1) := by decide +kernel
theorem dX12_readSun_243 : decode cX12_readSun 243 = .ok (.iadd, 1) := by decide +kernel
theorem dX12_readSun_244 : decode cX12_readSun 244 = .ok (.istore 8, 2) := by decide +kernel
theorem dX12_readSun_246 : decode cX12_readSun 246 = .ok (.aload_n 0, 1) := by decide +kernel
theorem dX12_readSun_247 : decode cX12_readSun 247 = .ok (.getfield 97, 3) := by decide +kernel
theorem dX12_readSun_250 : decode cX12_readSun 250 = .ok (.iload 8, 2) := by decide +kernel
theorem dX12_readSun_252 : decode cX12_readSun 252 = .ok (.iload_n 2, 1) := by decide +kernel
theorem dX12_readSun_253 : decode cX12_readSun 253 = .ok (.iastore, 1) := by decide +kernel
theorem dX12_readSun_254 : decode cX12_readSun 254 = .ok (.aload_n 0, 1) := by decide +kernel
theorem dX12_readSun_255 : decode cX12_readSun 255 = .ok (.getfield 97, 3) := by decide +kernel
theorem dX12_readSun_258 : decode cX12_readSun 258 = .ok (.iload 8, 2) := by decide +kernel
theorem dX12_readSun_260 : decode cX12_readSun 260 = .ok (.iconst 1, 1) := by decide +kernel
theorem dX12_readSun_261 : decode cX12_readSun 261 = .ok (.iadd, 1) := by decide +kernel
theorem dX12_readSun_262 : decode cX12_readSun 262 = .ok (.iload 4, 2) := by decide +kernel
theorem dX12_readSun_264 : decode cX12_readSun 264 = .ok (.iastore, 1) := by decide +kernel
theorem dX12_readSun_265 : decode cX12_readSun 265 = .ok (.aload_n 0, 1) := by decide +kernel
theorem dX12_readSun_266 : decode cX12_readSun 266 = .ok (.getfield 97, 3) := by decide +kernel
theorem dX12_readSun_269 : decode cX12_readSun 269 = .ok (.iload 8, 2) := by decide +kernel
theorem dX12_readSun_271 : decode cX12_readSun 271 = .ok (.iconst 2, 1) := by decide +kernel
theorem dX12_readSun_272 : decode cX12_readSun 272 = .ok (.iadd, 1) := by decide +kernel
theorem dX12_readSun_273 : decode cX12_readSun 273 = .ok (.iload 5, 2) := by decide +kernel
theorem dX12_readSun_275 : decode cX12_readSun 275 = .ok (.iastore, 1) := by decide +kernel
theorem dX12_readSun_276 : decode cX12_readSun 276 = .ok (.aload_n 0, 1) := by decide +kernel
theorem dX12_readSun_277 : decode cX12_readSun 277 = .ok (.getfield 97, 3) := by decide +kernel
theorem dX12_readSun_280 : decode cX12_readSun 280 = .ok (.iload 8, 2) := by decide +kernel
theorem dX12_readSun_282 : decode cX12_readSun 282 = .ok (.iconst 3, 1) := by decide +kernel
theorem dX12_readSun_283 : decode cX12_readSun 283 = .ok (.iadd, 1) := by decide +kernel
theorem dX12_readSun_284 : decode cX12_readSun 284 = .ok (.iload 6, 2) := by decide +kernel
theorem dX12_readSun_286 : decode cX12_readSun 286 = .ok (.iastore, 1) := by decide +kernel
theorem dX12_readSun_287 : decode cX12_readSun 287 = .ok (.aload_n 0, 1) := by decide +kernel
theorem dX12_readSun_288 : decode cX12_readSun 288 = .ok (.getfield 97, 3) := by decide +kernel
theorem dX12_readSun_291 : decode cX12_readSun 291 = .ok (.iload 8, 2) := by decide +kernel
theorem dX12_readSun_293 : decode cX12_readSun 293 = .ok (.iconst 4, 1) := by decide +kernel
theorem dX12_readSun_294 : decode cX12_readSun 294 = .ok (.iadd, 1) := by decide +kernel
theorem dX12_readSun_295 : decode cX12_readSun 295 = .ok (.iload 7, 2) := by decide +kernel
theorem dX12_readSun_297 : decode cX12_readSun 297 = .ok (.iastore, 1) := by decide +kernel
theorem dX12_readSun_298 : decode cX12_readSun 298 = .ok (.aload_n 0, 1) := by decide +kernel
theorem dX12_readSun_299 : decode cX12_readSun 299 = .ok (.getfield 97, 3) := by decide +kernel
theorem dX12_readSun_302 : decode cX12_readSun 302 = .ok (.sipush 701, 3) := by decide +kernel
theorem dX12_readSun_305 : decode cX12_readSun 305 = .ok (.dup2, 1) := by decide +kernel
theorem dX12_readSun_306 : decode cX12_readSun 306 = .ok (.iaload, 1) := by decide +kernel
theorem dX12_readSun_307 : decode cX12_readSun 307 = .ok (.iconst 1, 1) := by decide +kernel
theorem dX12_readSun_308 : decode cX12_readSun 308 = .ok (.iadd, 1) := by decide +kernel
theorem dX12_readSun_309 : decode cX12_readSun 309 = .ok (.iastore, 1) := by decide +kernel
theorem dX12_readSun_310 : decode cX12_readSun 310 = .ok (.return_, 1) := by decide +kernel
theorem dX12_readWalker_0 : decode cX12_readWalker 0 = .ok (.aload_n 0, 1) := by decide +kernel
theorem dX12_readWalker_1 : decode cX12_readWalker 1 = .ok (.dup, 1) := by decide +kernel
theorem dX12_readWalker_2 : decode cX12_readWalker 2 = .ok (.getfield 196, 3) := by decide +kernel
theorem dX12_readWalker_5 : decode cX12_readWalker 5 = .ok (.iconst 1, 1) := by decide +kernel
theorem dX12_readWalker_6 : decode cX12_readWalker 6 = .ok (.iadd, 1) := by decide +kernel
theorem dX12_readWalker_7 : decode cX12_readWalker 7 = .ok (.putfield 196, 3) := by decide +kernel
theorem dX12_readWalker_10 : decode cX12_readWalker 10 = .ok (.aload_n 0, 1) := by decide +kernel
theorem dX12_readWalker_11 : decode cX12_readWalker 11 = .ok (.getfield 199, 3) := by decide +kernel
theorem dX12_readWalker_14 : decode cX12_readWalker 14 = .ok (.ifCond .ne 62, 3) := by decide +kernel
theorem dX12_readWalker_17 : decode cX12_readWalker 17 = .ok (.aload_n 0, 1) := by decide +kernel
theorem dX12_readWalker_18 : decode cX12_readWalker 18 = .ok (.getfield 24, 3) := by decide +kernel
theorem dX12_readWalker_21 : decode cX12_readWalker 21 = .ok (.aload_n 0, 1) := by decide +kernel
theorem dX12_readWalker_22 : decode cX12_readWalker 22 = .ok (.getfield 196, 3) := by decide +kernel
theorem dX12_readWalker_25 : decode cX12_readWalker 25 = .ok (.iaload, 1) := by decide +kernel
theorem dX12_readWalker_26 : decode cX12_readWalker 26 = .ok (.iconst 2, 1) := by decide +kernel
theorem dX12_readWalker_27 : decode cX12_readWalker 27 = .ok (.if_icmp .ne 49, 3) := by decide +kernel
theorem dX12_readWalker_30 : decode cX12_readWalker 30 = .ok (.aload_n 0, 1) := by decide +kernel
theorem dX12_readWalker_31 : decode cX12_readWalker 31 = .ok (.getfield 30, 3) := by decide +kernel
theorem dX12_readWalker_34 : decode cX12_readWalker 34 = .ok (.aload_n 0, 1) := by decide +kernel
theorem dX12_readWalker_35 : decode cX12_readWalker 35 = .ok (.getfield 196, 3) := by decide +kernel
theorem dX12_readWalker_38 : decode cX12_readWalker 38 = .ok (.laload, 1) := by decide +kernel
theorem dX12_readWalker_39 : decode cX12_readWalker 39 = .ok (.ldc2_w 268, 3) := by decide +kernel
theorem dX12_readWalker_42 : decode cX12_readWalker 42 = .ok (.lcmp, 1) := by decide +kernel
theorem dX12_readWalker_43 : decode cX12_readWalker 43 = .ok (.ifCond .ge 33, 3) := by decide +kernel
theorem dX12_readWalker_46 : decode cX12_readWalker 46 = .ok (.aload_n 0, 1) := by decide +kernel
theorem dX12_readWalker_47 : decode cX12_readWalker 47 = .ok (.getfield 97, 3) := by decide +kernel
theorem dX12_readWalker_50 : decode cX12_readWalker 50 = .ok (.sipush 822, 3) := by decide +kernel
theorem dX12_readWalker_53 : decode cX12_readWalker 53 = .ok (.bipush 7, 2) := by decide +kernel
theorem dX12_readWalker_55 : decode cX12_readWalker 55 = .ok (.aload_n 0, 1) := by decide +kernel
theorem dX12_readWalker_56 : decode cX12_readWalker 56 = .ok (.getfield 30, 3) := by decide +kernel
theorem dX12_readWalker_59 : decode cX12_readWalker 59 = .ok (.aload_n 0, 1) := by decide +kernel
theorem dX12_readWalker_60 : decode cX12_readWalker 60 = .ok (.getfield 196, 3) := by decide +kernel
theorem dX12_readWalker_63 : decode cX12_readWalker 63 = .ok (.laload, 1) := by decide +kernel
theorem dX12_readWalker_64 : decode cX12_readWalker 64 = .ok (.l2i, 1) := by decide +kernel
theorem dX12_readWalker_65 : decode cX12_readWalker 65 = .ok (.imul, 1) := by decide +kernel
theorem dX12_readWalker_66 : decode cX12_readWalker 66 = .ok (.iadd, 1) := by decide +kernel
theorem dX12_readWalker_67 : decode cX12_readWalker 67 = .ok (.iaload, 1) := by decide +kernel
theorem dX12_readWalker_68 : decode cX12_readWalker 68 = .ok (.ifCond .le 8, 3) := by decide +kernel
theorem dX12_readWalker_71 : decode cX12_readWalker 71 = .ok (.aload_n 0, 1) := by decide +kernel
theorem dX12_readWalker_72 : decode cX12_readWalker 72 = .ok (.iconst 3, 1) := by decide +kernel
theorem dX12_readWalker_73 : decode cX12_readWalker 73 = .ok (.invokevirtual 205, 3) := by decide +kernel
theorem dX12_readWalker_76 : decode cX12_readWalker 76 = .ok (.sipush 822, 3) := by decide +kernel
theorem dX12_readWalker_79 : decode cX12_readWalker 79 = .ok (.bipush 7, 2) := by decide +kernel
theorem dX12_readWalker_81 : decode cX12_readWalker 81 = .ok (.aload_n 0, 1) := by decide +kernel
theorem dX12_readWalker_82 : decode cX12_readWalker 82 = .ok (.iconst 0, 1) := by decide +kernel
theorem dX12_readWalker_83 : decode cX12_readWalker 83 = .ok (.iconst 5, 1) := by decide +kernel
theorem dX12_readWalker_84 : decode cX12_readWalker 84 = .ok (.invokevirtual 255, 3) := by decide +kernel
theorem dX12_readWalker_87 : decode cX12_readWalker 87 = .ok (.imul, 1) := by decide +kernel
theorem dX12_readWalker_88 : decode cX12_readWalker 88 = .ok (.iadd, 1) := by decide +kernel
theorem dX12_readWalker_89 : decode cX12_readWalker 89 = .ok (.istore_n 1, 1) := by decide +kernel
theorem dX12_readWalker_90 : decode cX12_readWalker 90 = .ok (.iconst 0, 1) := by decide +kernel
theorem dX12_readWalker_91 : decode cX12_readWalker 91 = .ok (.istore_n 2, 1) := by decide +kernel
theorem dX12_readWalker_92 : decode cX12_readWalker 92 = .ok (.iload_n 2, 1) := by decide +kernel
theorem dX12_readWalker_93 : decode cX12_readWalker 93 = .ok (.bipush 6, 2) := by decide +kernel
theorem dX12_readWalker_95 : decode cX12_readWalker 95 = .ok (.if_icmp .ge 75, 3) := by decide +kernel
theorem dX12_readWalker_98 : decode cX12_readWalker 98 = .ok (.aload_n 0, 1) := by decide +kernel
theorem dX12_readWalker_99 : decode cX12_readWalker 99 = .ok (.bipush 18, 2) := by decide +kernel
theorem dX12_readWalker_101 : decode cX12_readWalker 101 = .ok (.iload_n 2, 1) := by decide +kernel
theorem dX12_readWalker_102 : decode cX12_readWalker 102 = .ok (.iadd, 1) := by decide +kernel
theorem dX12_readWalker_103 : decode cX12_readWalker 103 = .ok (.invokevirtual 259, 3) := by decide +kernel
theorem dX12_readWalker_106 : decode cX12_readWalker 106 = .ok (.aload_n 0, 1) := by decide +kernel
theorem dX12_readWalker_107 : decode cX12_readWalker 107 = .ok (.iload_n 2, 1) := by decide +kernel
theorem dX12_readWalker_108 : decode cX12_readWalker 108 = .ok (.iconst 3, 1) := by decide +kernel
theorem dX12_readWalker_109 : decode cX12_readWalker 109 = .ok (.if_icmp .ge 7, 3) := by decide +kernel
theorem dX12_readWalker_112 : decode cX12_readWalker 112 = .ok (.iconst 1, 1) := by decide +kernel
theorem dX12_readWalker_113 : decode cX12_readWalker 113 = .ok (.goto 4, 3) := by decide +kernel
theorem dX12_readWalker_116 : decode cX12_readWalker 116 = .ok (.iconst 0, 1) := by decide +kernel
theorem dX12_readWalker_117 : decode cX12_readWalker 117 = .ok (.iload_n 2, 1) := by decide +kernel
theorem dX12_readWalker_118 : decode cX12_readWalker 118 = .ok (.ifCond .ne 7, 3) := by decide +kernel
theorem dX12_readWalker_121 : decode cX12_readWalker 121 = .ok (.iconst 3, 1) := by decide +kernel
theorem dX12_readWalker_122 : decode cX12_readWalker 122 = .ok (.goto 16, 3) := by decide +kernel
theorem dX12_readWalker_125 : decode cX12_readWalker 125 = .ok (.iload_n 2, 1) := by decide +kernel
theorem dX12_readWalker_126 : decode cX12_readWalker 126 = .ok (.iconst 3, 1) := by decide +kernel
theorem dX12_readWalker_127 : decode cX12_readWalker 127 = .ok (.if_icmp .ne 9, 3) := by decide +kernel
theorem dX12_readWalker_130 : decode cX12_readWalker 130 = .ok (.sipush 9999, 3) := by decide +kernel
theorem dX12_readWalker_133 : decode cX12_readWalker 133 = .ok (.goto 5, 3) := by decide +kernel
theorem dX12_readWalker_136 : decode cX12_readWalker 136 = .ok (.bipush 99, 2) := by decide +kernel
theorem dX12_readWalker_138 : decode cX12_readWalker 138 = .ok (.invokevirtual 255, 3) := by decide +kernel
theorem dX12_readWalker_141 : decode cX12_readWalker 141 = .ok (.istore_n 3, 1) := by decide +kernel
theorem dX12_readWalker_142 : decode cX12_readWalker 142 = .ok (.aload_n 0, 1) := by decide +kernel
theorem dX12_readWalker_143 : decode cX12_readWalker 143 = .ok (.getfield 97, 3) := by decide +kernel
theorem dX12_readWalker_146 : decode cX12_readWalker 146 = .ok (.iload_n 1, 1) := by decide +kernel
theorem dX12_readWalker_147 : decode cX12_readWalker 147 = .ok (.iconst 1, 1) := by decide +kernel
theorem dX12_readWalker_148 : decode cX12_readWalker 148 = .ok (.iadd, 1) := by decide +kernel
theorem dX12_readWalker_149 : decode cX12_readWalker 149 = .ok (.iload_n 2, 1) := by decide +kernel
theorem dX12_readWalker_150 : decode cX12_readWalker 150 = .ok (.iadd, 1) := by decide +kernel
theorem dX12_readWalker_151 : decode cX12_readWalker 151 = .ok (.aload_n 0, 1) := by decide +kernel
theorem dX12_readWalker_152 : decode cX12_readWalker 152 = .ok (.getfield 199, 3) := by decide +kernel
theorem dX12_readWalker_155 : decode cX12_readWalker 155 = .ok (.ifCond .ne 7, 3) := by decide +kernel
theorem dX12_readWalker_158 : decode cX12_readWalker 158 = .ok (.iload_n 3, 1) := by decide +kernel
theorem dX12_readWalker_159 : decode cX12_readWalker 159 = .ok (.goto 4, 3) := by decide +kernel
theorem dX12_readWalker_162 : decode cX12_readWalker 162 = .ok (.iconst 0, 1) := by decide +kernel
theorem dX12_readWalker_163 : decode cX12_readWalker 163 = .ok (.iastore, 1) := by decide +kernel
theorem dX12_readWalker_164 : decode cX12_readWalker 164 = .ok (.iinc 2 1, 3) := by decide +kernel
theorem dX12_readWalker_167 : decode cX12_readWalker 167 = .ok (.goto (-75), 3) := by decide +kernel
theorem dX12_readWalker_170 : decode cX12_readWalker 170 = .ok (.aload_n 0, 1) := by decide +kernel
theorem dX12_readWalker_171 : decode cX12_readWalker 171 = .ok (.getfield 97, 3) := by decide +kernel
theorem dX12_readWalker_174 : decode cX12_readWalker 174 = .ok (.iload_n 1, 1) := by decide +kernel
theorem dX12_readWalker_175 : decode cX12_readWalker 175 = .ok (.aload_n 0, 1) := by decide +kernel
theorem dX12_readWalker_176 : decode cX12_readWalker 176 = .ok (.getfield 199, 3) := by decide +kernel
theorem dX12_readWalker_179 : decode cX12_readWalker 179 = .ok (.ifCond .ne 7, 3) := by decide +kernel
theorem dX12_readWalker_182 : decode cX12_readWalker 182 = .ok (.iconst 1, 1) := by decide +kernel
theorem dX12_readWalker_183 : decode cX12_readWalker 183 = .ok (.goto 9, 3) := by decide +kernel
theorem dX12_readWalker_186 : decode cX12_readWalker 186 = .ok (.aload_n 0, 1) := by decide +kernel
theorem dX12_readWalker_187 : decode cX12_readWalker 187 = .ok (.getfield 97, 3) := by decide +kernel
theorem dX12_readWalker_190 : decode cX12_readWalker 190 = .ok (.iload_n 1, 1) := by decide +kernel
theorem dX12_readWalker_191 : decode cX12_readWalker 191 = .ok (.iaload, 1) := by decide +kernel
theorem dX12_readWalker_192 : decode cX12_readWalker 192 = .ok (.iastore, 1) := by decide +kernel
theorem dX12_readWalker_193 : decode cX12_readWalker 193 = .ok (.return_, 1) := by decide +kernel
theorem dX12_emit_0 : decode cX12_emit 0 = .ok (.aload_n 0, 1) := by decide +kernel
theorem dX12_emit_1 : decode cX12_emit 1 = .ok (.getfield 100, 3) := by decide +kernel
theorem dX12_emit_4 : decode cX12_emit 4 = .ok (.sipush 1100, 3) := by decide +kernel
theorem dX12_emit_7 : decode cX12_emit 7 = .ok (.aload_n 0, 1) := by decide +kernel
theorem dX12_emit_8 : decode cX12_emit 8 = .ok (.getfield 218, 3) := by decide +kernel
theorem dX12_emit_11 : decode cX12_emit 11 = .ok (.iadd, 1) := by decide +kernel
theorem dX12_emit_12 : decode cX12_emit 12 = .ok (.iload_n 1, 1) := by decide +kernel
theorem dX12_emit_13 : decode cX12_emit 13 = .ok (.iastore, 1) := by decide +kernel
theorem dX12_emit_14 : decode cX12_emit 14 = .ok (.aload_n 0, 1) := by decide +kernel
theorem dX12_emit_15 : decode cX12_emit 15 = .ok (.getfield 103, 3) := by decide +kernel
theorem dX12_emit_18 : decode cX12_emit 18 = .ok (.sipush 1100, 3) := by decide +kernel
theorem dX12_emit_21 : decode cX12_emit 21 = .ok (.aload_n 0, 1) := by decide +kernel
theorem dX12_emit_22 : decode cX12_emit 22 = .ok (.getfield 218, 3) := by decide +kernel
theorem dX12_emit_25 : decode cX12_emit 25 = .ok (.iadd, 1) := by decide +kernel
theorem dX12_emit_26 : decode cX12_emit 26 = .ok (.iload_n 2, 1) := by decide +kernel
theorem dX12_emit_27 : decode cX12_emit 27 = .ok (.iastore, 1) := by decide +kernel
theorem dX12_emit_28 : decode cX12_emit 28 = .ok (.aload_n 0, 1) := by decide +kernel
theorem dX12_emit_29 : decode cX12_emit 29 = .ok (.dup, 1) := by decide +kernel
theorem dX12_emit_30 : decode cX12_emit 30 = .ok (.getfield 218, 3) := by decide +kernel
theorem dX12_emit_33 : decode cX12_emit 33 = .ok (.iconst 1, 1) := by decide +kernel
theorem dX12_emit_34 : decode cX12_emit 34 = .ok (.iadd, 1) := by decide +kernel
theorem dX12_emit_35 : decode cX12_emit 35 = .ok (.putfield 218, 3) := by decide +kernel
theorem dX12_emit_38 : decode cX12_emit 38 = .ok (.return_, 1) := by decide +kernel
theorem dX12_all_0 : decode cX12_all 0 = .ok (.aload_n 0, 1) := by decide +kernel
theorem dX12_all_1 : decode cX12_all 1 = .ok (.iload_n 1, 1) := by decide +kernel
theorem dX12_all_2 : decode cX12_all 2 = .ok (.invokevirtual 270, 3) := by decide +kernel
theorem dX12_all_5 : decode cX12_all 5 = .ok (.aload_n 0, 1) := by decide +kernel
theorem dX12_all_6 : decode cX12_all 6 = .ok (.bipush 24, 2) := by decide +kernel
theorem dX12_all_8 : decode cX12_all 8 = .ok (.invokevirtual 209, 3) := by decide +kernel
theorem dX12_all_11 : decode cX12_all 11 = .ok (.ifCond .ne 12, 3) := by decide +kernel
theorem dX12_all_14 : decode cX12_all 14 = .ok (.aload_n 0, 1) := by decide +kernel
theorem dX12_all_15 : decode cX12_all 15 = .ok (.bipush 25, 2) := by decide +kernel
theorem dX12_all_17 : decode cX12_all 17 = .ok (.invokevirtual 209, 3) := by decide +kernel
theorem dX12_all_20 : decode cX12_all 20 = .ok (.ifCond .eq 44, 3) := by decide +kernel
theorem dX12_all_23 : decode cX12_all 23 = .ok (.aload_n 0, 1) := by decide +kernel
theorem dX12_all_24 : decode cX12_all 24 = .ok (.bipush 24, 2) := by decide +kernel
theorem dX12_all_26 : decode cX12_all 26 = .ok (.invokevirtual 209, 3) := by decide +kernel
theorem dX12_all_29 : decode cX12_all 29 = .ok (.istore_n 2, 1) := by decide +kernel
theorem dX12_all_30 : decode cX12_all 30 = .ok (.aload_n 0, 1) := by decide +kernel
theorem dX12_all_31 : decode cX12_all 31 = .ok (.dup, 1) := by decide +kernel
theorem dX12_all_32 : decode cX12_all 32 = .ok (.getfield 196, 3) := by decide +kernel
theorem dX12_all_35 : decode cX12_all 35 = .ok (.iconst 1, 1) := by decide +kernel
theorem dX12_all_36 : decode cX12_all 36 = .ok (.iadd, 1) := by decide +kernel
theorem dX12_all_37 : decode cX12_all 37 = .ok (.putfield 196, 3) := by decide +kernel
theorem dX12_all_40 : decode cX12_all 40 = .ok (.aload_n 0, 1) := by decide +kernel
theorem dX12_all_41 : decode cX12_all 41 = .ok (.iload_n 1, 1) := by decide +kernel
theorem dX12_all_42 : decode cX12_all 42 = .ok (.invokevirtual 270, 3) := by decide +kernel
theorem dX12_all_45 : decode cX12_all 45 = .ok (.aload_n 0, 1) := by decide +kernel
theorem dX12_all_46 : decode cX12_all 46 = .ok (.iload_n 2, 1) := by decide +kernel
theorem dX12_all_47 : decode cX12_all 47 = .ok (.ifCond .eq 8, 3) := by decide +kernel
theorem dX12_all_50 : decode cX12_all 50 = .ok (.bipush 9, 2) := by decide +kernel
theorem dX12_all_52 : decode cX12_all 52 = .ok (.goto 5, 3) := by decide +kernel
theorem dX12_all_55 : decode cX12_all 55 = .ok (.bipush 10, 2) := by decide +kernel
theorem dX12_all_57 : decode cX12_all 57 = .ok (.iconst 0, 1) := by decide +kernel
theorem dX12_all_58 : decode cX12_all 58 = .ok (.invokevirtual 265, 3) := by decide +kernel
theorem dX12_all_61 : decode cX12_all 61 = .ok (.goto (-56), 3) := by decide +kernel
theorem dX12_all_64 : decode cX12_all 64 = .ok (.return_, 1) := by decide +kernel
theorem dX12_test_0 : decode cX12_test 0 = .ok (.aload_n 0, 1) := by decide +kernel
theorem dX12_test_1 : decode cX12_test 1 = .ok (.iload_n 1, 1) := by decide +kernel
theorem dX12_test_2 : decode cX12_test 2 = .ok (.invokevirtual 273, 3) := by decide +kernel
theorem dX12_test_5 : decode cX12_test 5 = .ok (.aload_n 0, 1) := by decide +kernel
theorem dX12_test_6 : decode cX12_test 6 = .ok (.bipush 60, 2) := by decide +kernel
theorem dX12_test_8 : decode cX12_test 8 = .ok (.invokevirtual 202, 3) := by decide +kernel
theorem dX12_test_11 : decode cX12_test 11 = .ok (.istore_n 2, 1) := by decide +kernel
theorem dX12_test_12 : decode cX12_test 12 = .ok (.aload_n 0, 1) := by decide +kernel
theorem dX12_test_13 : decode cX12_test 13 = .ok (.bipush 60, 2) := by decide +kernel
theorem dX12_test_15 : decode cX12_test 15 = .ok (.invokevirtual 276, 3) := by decide +kernel
theorem dX12_test_18 : decode cX12_test 18 = .ok (.ifCond .ne 12, 3) := by decide +kernel
theorem dX12_test_21 : decode cX12_test 21 = .ok (.aload_n 0, 1) := by decide +kernel
theorem dX12_test_22 : decode cX12_test 22 = .ok (.bipush 61, 2) := by decide +kernel
theorem dX12_test_24 : decode cX12_test 24 = .ok (.invokevirtual 276, 3) := by decide +kernel
theorem dX12_test_27 : decode cX12_test 27 = .ok (.ifCond .eq 24, 3) := by decide +kernel
theorem dX12_test_30 : decode cX12_test 30 = .ok (.aload_n 0, 1) := by decide +kernel
theorem dX12_test_31 : decode cX12_test 31 = .ok (.iload_n 1, 1) := by decide +kernel
theorem dX12_test_32 : decode cX12_test 32 = .ok (.invokevirtual 273, 3) := by decide +kernel
theorem dX12_test_35 : decode cX12_test 35 = .ok (.aload_n 0, 1) := by decide +kernel
theorem dX12_test_36 : decode cX12_test 36 = .ok (.iload_n 2, 1) := by decide +kernel
theorem dX12_test_37 : decode cX12_test 37 = .ok (.ifCond .eq 8, 3) := by decide +kernel
theorem dX12_test_40 : decode cX12_test 40 = .ok (.bipush 7, 2) := by decide +kernel
theorem dX12_test_42 : decode cX12_test 42 = .ok (.goto 5, 3) := by decide +kernel
theorem dX12_test_45 : decode cX12_test 45 = .ok (.bipush 8, 2) := by decide +kernel
theorem dX12_test_47 : decode cX12_test 47 = .ok (.iconst 0, 1) := by decide +kernel
theorem dX12_test_48 : decode cX12_test 48 = .ok (.invokevirtual 265, 3) := by decide +kernel
theorem dX12_test_51 : decode cX12_test 51 = .ok (.return_, 1) := by decide +kernel
theorem dX12_sums_0 : decode cX12_sums 0 = .ok (.aload_n 0, 1) := by decide +kernel
theorem dX12_sums_1 : decode cX12_sums 1 = .ok (.iload_n 1, 1) := by decide +kernel
theorem dX12_sums_2 : decode cX12_sums 2 = .ok (.invokevirtual 279, 3) := by decide +kernel
theorem dX12_sums_5 : decode cX12_sums 5 = .ok (.aload_n 0, 1) := by decide +kernel
theorem dX12_sums_6 : decode cX12_sums 6 = .ok (.bipush 43, 2) := by decide +kernel
theorem dX12_sums_8 : decode cX12_sums 8 = .ok (.invokevirtual 202, 3) := by decide +kernel
theorem dX12_sums_11 : decode cX12_sums 11 = .ok (.ifCond .ne 12, 3) := by decide +kernel
theorem dX12_sums_14 : decode cX12_sums 14 = .ok (.aload_n 0, 1) := by decide +kernel
theorem dX12_sums_15 : decode cX12_sums 15 = .ok (.bipush 45, 2) := by decide +kernel
theorem dX12_sums_17 : decode cX12_sums 17 = .ok (.invokevirtual 202, 3) := by decide +kernel
theorem dX12_sums_20 : decode cX12_sums 20 = .ok (.ifCond .eq 42, 3) := by decide +kernel
theorem dX12_sums_23 : decode cX12_sums 23 = .ok (.aload_n 0, 1) := by decide +kernel
theorem dX12_sums_24 : decode cX12_sums 24 = .ok (.bipush 43, 2) := by decide +kernel
theorem dX12_sums_26 : decode cX12_sums 26 = .ok (.invokevirtual 202, 3) := by decide +kernel
theorem dX12_sums_29 : decode cX12_sums 29 = .ok (.istore_n 2, 1) := by decide +kernel
theorem dX12_sums_30 : decode cX12_sums 30 = .ok (.aload_n 0, 1) := by decide +kernel
theorem dX12_sums_31 : decode cX12_sums 31 = .ok (.dup, 1) := by decide +kernel
theorem dX12_sums_32 : decode cX12_sums 32 = .ok (.getfield 196, 3) := by decide +kernel
theorem dX12_sums_35 : decode cX12_sums 35 = .ok (.iconst 1, 1) := by decide +kernel
theorem dX12_sums_36 : decode cX12_sums 36 = .ok (.iadd, 1) := by decide +kernel
theorem dX12_sums_37 : decode cX12_sums 37 = .ok (.putfield 196, 3) := by decide +kernel
theorem dX12_sums_40 : decode cX12_sums 40 = .ok (.aload_n 0, 1) := by decide +kernel
theorem dX12_sums_41 : decode cX12_sums 41 = .ok (.iload_n 1, 1) := by decide +kernel
theorem dX12_sums_42 : decode cX12_sums 42 = .ok (.invokevirtual 279, 3) := by decide +kernel
theorem dX12_sums_45 : decode cX12_sums 45 = .ok (.aload_n 0, 1) := by decide +kernel
theorem dX12_sums_46 : decode cX12_sums 46 = .ok (.iload_n 2, 1) := by decide +kernel
theorem dX12_sums_47 : decode cX12_sums 47 = .ok (.ifCond .eq 7, 3) := by decide +kernel
theorem dX12_sums_50 : decode cX12_sums 50 = .ok (.iconst 4, 1) := by decide +kernel
theorem dX12_sums_51 : decode cX12_sums 51 = .ok (.goto 4, 3) := by decide +kernel
theorem dX12_sums_54 : decode cX12_sums 54 = .ok (.iconst 5, 1) := by decide +kernel
theorem dX12_sums_55 : decode cX12_sums 55 = .ok (.iconst 0, 1) := by decide +kernel
theorem dX12_sums_56 : decode cX12_sums 56 = .ok (.invokevirtual 265, 3) := by decide +kernel
theorem dX12_sums_59 : decode cX12_sums 59 = .ok (.goto (-54), 3) := by decide +kernel
theorem dX12_sums_62 : decode cX12_sums 62 = .ok (.return_, 1) := by decide +kernel
theorem dX12_products_0 : decode cX12_products 0 = .ok (.aload_n 0, 1) := by decide +kernel
theorem dX12_products_1 : decode cX12_products 1 = .ok (.iload_n 1, 1) := by decide +kernel
theorem dX12_products_2 : decode cX12_products 2 = .ok (.invokevirtual 282, 3) := by decide +kernel
theorem dX12_products_5 : decode cX12_products 5 = .ok (.aload_n 0, 1) := by decide +kernel
theorem dX12_products_6 : decode cX12_products 6 = .ok (.bipush 42, 2) := by decide +kernel
theorem dX12_products_8 : decode cX12_products 8 = .ok (.invokevirtual 276, 3) := by decide +kernel
theorem dX12_products_11 : decode cX12_products 11 = .ok (.ifCond .eq 18, 3) := by decide +kernel
theorem dX12_products_14 : decode cX12_products 14 = .ok (.aload_n 0, 1) := by decide +kernel
theorem dX12_products_15 : decode cX12_products 15 = .ok (.iload_n 1, 1) := by decide +kernel
theorem dX12_products_16 : decode cX12_products 16 = .ok (.invokevirtual 282, 3) := by decide +kernel
theorem dX12_products_19 : decode cX12_products 19 = .ok (.aload_n 0, 1) := by decide +kernel
theorem dX12_products_20 : decode cX12_products 20 = .ok (.bipush 6, 2) := by decide +kernel
theorem dX12_products_22 : decode cX12_products 22 = .ok (.iconst 0, 1) := by decide +kernel
theorem dX12_products_23 : decode cX12_products 23 = .ok (.invokevirtual 265, 3) := by decide +kernel
theorem dX12_products_26 : decode cX12_products 26 = .ok (.goto (-21), 3) := by decide +kernel
theorem dX12_products_29 : decode cX12_products 29 = .ok (.return_, 1) := by decide +kernel
theorem dX12_takePart_0 : decode cX12_takePart 0 = .ok (.aload_n 0, 1) := by decide +kernel
theorem dX12_takePart_1 : decode cX12_takePart 1 = .ok (.getfield 199, 3) := by decide +kernel
theorem dX12_takePart_4 : decode cX12_takePart 4 = .ok (.ifCond .le 4, 3) := by decide +kernel
theorem dX12_takePart_7 : decode cX12_takePart 7 = .ok (.return_, 1) := by decide +kernel
theorem dX12_takePart_8 : decode cX12_takePart 8 = .ok (.aload_n 0, 1) := by decide +kernel
theorem dX12_takePart_9 : decode cX12_takePart 9 = .ok (.getfield 24, 3) := by decide +kernel
theorem dX12_takePart_12 : decode cX12_takePart 12 = .ok (.aload_n 0, 1) := by decide +kernel
theorem dX12_takePart_13 : decode cX12_takePart 13 = .ok (.getfield 196, 3) := by decide +kernel
theorem dX12_takePart_16 : decode cX12_takePart 16 = .ok (.iaload, 1) := by decide +kernel
theorem dX12_takePart_17 : decode cX12_takePart 17 = .ok (.iconst 2, 1) := by decide +kernel
theorem dX12_takePart_18 : decode cX12_takePart 18 = .ok (.if_icmp .ne 7, 3) := by decide +kernel
theorem dX12_takePart_21 : decode cX12_takePart 21 = .ok (.iconst 1, 1) := by decide +kernel
theorem dX12_takePart_22 : decode cX12_takePart 22 = .ok (.goto 4, 3) := by decide +kernel
theorem dX12_takePart_25 : decode cX12_takePart 25 = .ok (.iconst 0, 1) := by decide +kernel
theorem dX12_takePart_26 : decode cX12_takePart 26 = .ok (.istore_n 2, 1) := by decide +kernel
theorem dX12_takePart_27 : decode cX12_takePart 27 = .ok (.aload_n 0, 1) := by decide +kernel
theorem dX12_takePart_28 : decode cX12_takePart 28 = .ok (.bipush 27, 2) := by decide +kernel
theorem dX12_takePart_30 : decode cX12_takePart 30 = .ok (.invokevirtual 209, 3) := by decide +kernel
theorem dX12_takePart_33 : decode cX12_takePart 33 = .ok (.ifCond .eq 7, 3) := by decide +kernel
theorem dX12_takePart_36 : decode cX12_takePart 36 = .ok (.iconst 0, 1) := by decide +kernel
theorem dX12_takePart_37 : decode cX12_takePart 37 = .ok (.goto 17, 3) := by decide +kernel
theorem dX12_takePart_40 : decode cX12_takePart 40 = .ok (.aload_n 0, 1) := by decide +kernel
theorem dX12_takePart_41 : decode cX12_takePart 41 = .ok (.bipush 28, 2) := by decide +kernel
theorem dX12_takePart_43 : decode cX12_takePart 43 = .ok (.invokevirtual 209, 3) := by decide +kernel
theorem dX12_takePart_46 : decode cX12_takePart 46 = .ok (.ifCond .eq 7, 3) := by decide +kernel
theorem dX12_takePart_49 : decode cX12_takePart 49 = .ok (.iconst 1, 1) := by decide +kernel
theorem dX12_takePart_50 : decode cX12_takePart 50 = .ok (.goto 4, 3) := by decide +kernel
theorem dX12_takePart_53 : decode cX12_takePart 53 = .ok (.iconst (-1), 1) := by decide +kernel
theorem dX12_takePart_54 : decode cX12_takePart 54 = .ok (.istore_n 3, 1) := by decide +kernel
theorem dX12_takePart_55 : decode cX12_takePart 55 = .ok (.iload_n 3, 1) := by decide +kernel
theorem dX12_takePart_56 : decode cX12_takePart 56 = .ok (.ifCond .ge 33, 3) := by decide +kernel
theorem dX12_takePart_59 : decode cX12_takePart 59 = .ok (.iload_n 2, 1) := by decide +kernel
theorem dX12_takePart_60 : decode cX12_takePart 60 = .ok (.ifCond .ne 29, 3) := by decide +kernel
theorem dX12_takePart_63 : decode cX12_takePart 63 = .ok (.aload_n 0, 1) := by decide +kernel
theorem dX12_takePart_64 : decode cX12_takePart 64 = .ok (.bipush 40, 2) := by decide +kernel
theorem dX12_takePart_66 : decode cX12_takePart 66 = .ok (.invokevirtual 202, 3) := by decide +kernel
theorem dX12_takePart_69 : decode cX12_takePart 69 = .ok (.ifCond .ne 20, 3) := by decide +kernel
theorem dX12_takePart_72 : decode cX12_takePart 72 = .ok (.aload_n 0, 1) := by decide +kernel
theorem dX12_takePart_73 : decode cX12_takePart 73 = .ok (.bipush 26, 2) := by decide +kernel
theorem dX12_takePart_75 : decode cX12_takePart 75 = .ok (.invokevirtual 209, 3) := by decide +kernel
theorem dX12_takePart_78 : decode cX12_takePart 78 = .ok (.ifCond .ne 11, 3) := by decide +kernel
theorem dX12_takePart_81 : decode cX12_takePart 81 = .ok (.aload_n 0, 1) := by decide +kernel
theorem dX12_takePart_82 : decode cX12_takePart 82 = .ok (.iconst 1, 1) := by decide +kernel
theorem dX12_takePart_83 : decode cX12_takePart 83 = .ok (.invokevirtual 205, 3) := by decide +kernel
theorem dX12_takePart_86 : decode cX12_takePart 86 = .ok (.goto 13, 3) := by decide +kernel
theorem dX12_takePart_89 : decode cX12_takePart 89 = .ok (.iload_n 1, 1) := by decide +kernel
theorem dX12_takePart_90 : decode cX12_takePart 90 = .ok (.iconst 5, 1) := by decide +kernel
theorem dX12_takePart_91 : decode cX12_takePart 91 = .ok (.if_icmp .ne 8, 3) := by decide +kernel
theorem dX12_takePart_94 : decode cX12_takePart 94 = .ok (.aload_n 0, 1) := by decide +kernel
theorem dX12_takePart_95 : decode cX12_takePart 95 = .ok (.iconst 5, 1) := by decide +kernel
theorem dX12_takePart_96 : decode cX12_takePart 96 = .ok (.invokevirtual 205, 3) := by decide +kernel
theorem dX12_takePart_99 : decode cX12_takePart 99 = .ok (.aload_n 0, 1) := by decide +kernel
theorem dX12_takePart_100 : decode cX12_takePart 100 = .ok (.getfield 199, 3) := by decide +kernel
theorem dX12_takePart_103 : decode cX12_takePart 103 = .ok (.ifCond .le 4, 3) := by decide +kernel
theorem dX12_takePart_106 : decode cX12_takePart 106 = .ok (.return_, 1) := by decide +kernel
theorem dX12_takePart_107 : decode cX12_takePart 107 = .ok (.aload_n 0, 1) := by decide +kernel
theorem dX12_takePart_108 : decode cX12_takePart 108 = .ok (.bipush 26, 2) := by decide +kernel
theorem dX12_takePart_110 : decode cX12_takePart 110 = .ok (.invokevirtual 212, 3) := by decide +kernel
theorem dX12_takePart_113 : decode cX12_takePart 113 = .ok (.ifCond .eq 19, 3) := by decide +kernel
theorem dX12_takePart_116 : decode cX12_takePart 116 = .ok (.aload_n 0, 1) := by decide +kernel
theorem dX12_takePart_117 : decode cX12_takePart 117 = .ok (.iload_n 1, 1) := by decide +kernel
theorem dX12_takePart_118 : decode cX12_takePart 118 = .ok (.iconst 1, 1) := by decide +kernel
theorem dX12_takePart_119 : decode cX12_takePart 119 = .ok (.iadd, 1) := by decide +kernel
theorem dX12_takePart_120 : decode cX12_takePart 120 = .ok (.invokevirtual 282, 3) := by decide +kernel
theorem dX12_takePart_123 : decode cX12_takePart 123 = .ok (.aload_n 0, 1) := by decide +kernel
theorem dX12_takePart_124 : decode cX12_takePart 124 = .ok (.iconst 3, 1) := by decide +kernel
theorem dX12_takePart_125 : decode cX12_takePart 125 = .ok (.iconst 0, 1) := by decide +kernel
theorem dX12_takePart_126 : decode cX12_takePart 126 = .ok (.invokevirtual 265, 3) := by decide +kernel
theorem dX12_takePart_129 : decode cX12_takePart 129 = .ok (.goto 69, 3) := by decide +kernel
theorem dX12_takePart_132 : decode cX12_takePart 132 = .ok (.aload_n 0, 1) := by decide +kernel
theorem dX12_takePart_133 : decode cX12_takePart 133 = .ok (.bipush 40, 2) := by decide +kernel
theorem dX12_takePart_135 : decode cX12_takePart 135 = .ok (.invokevirtual 276, 3) := by decide +kernel
theorem dX12_takePart_138 : decode cX12_takePart 138 = .ok (.ifCond .eq 19, 3) := by decide +kernel
theorem dX12_takePart_141 : decode cX12_takePart 141 = .ok (.aload_n 0, 1) := by decide +kernel
theorem dX12_takePart_142 : decode cX12_takePart 142 = .ok (.iload_n 1, 1) := by decide +kernel
theorem dX12_takePart_143 : decode cX12_takePart 143 = .ok (.iconst 1, 1) := by decide +kernel
theorem dX12_takePart_144 : decode cX12_takePart 144 = .ok (.iadd, 1) := by decide +kernel
theorem dX12_takePart_145 : decode cX12_takePart 145 = .ok (.invokevirtual 262, 3) := by decide +kernel
theorem dX12_takePart_148 : decode cX12_takePart 148 = .ok (.aload_n 0, 1) := by decide +kernel
theorem dX12_takePart_149 : decode cX12_takePart 149 = .ok (.bipush 41, 2) := by decide +kernel
theorem dX12_takePart_151 : decode cX12_takePart 151 = .ok (.invokevirtual 224, 3) := by decide +kernel
theorem dX12_takePart_154 : decode cX12_takePart 154 = .ok (.goto 44, 3) := by decide +kernel
theorem dX12_takePart_157 : decode cX12_takePart 157 = .ok (.aload_n 0, 1) := by decide +kernel
theorem dX12_takePart_158 : decode cX12_takePart 158 = .ok (.iload_n 2, 1) := by decide +kernel
theorem dX12_takePart_159 : decode cX12_takePart 159 = .ok (.ifCond .eq 7, 3) := by decide +kernel
theorem dX12_takePart_162 : decode cX12_takePart 162 = .ok (.iconst 1, 1) := by decide +kernel
theorem dX12_takePart_163 : decode cX12_takePart 163 = .ok (.goto 4, 3) := by decide +kernel
theorem dX12_takePart_166 : decode cX12_takePart 166 = .ok (.iconst 2, 1) := by decide +kernel
theorem dX12_takePart_167 : decode cX12_takePart 167 = .ok (.iload_n 2, 1) := by decide +kernel
theorem dX12_takePart_168 : decode cX12_takePart 168 = .ok (.ifCond .eq 16, 3) := by decide +kernel
theorem dX12_takePart_171 : decode cX12_takePart 171 = .ok (.aload_n 0, 1) := by decide +kernel
theorem dX12_takePart_172 : decode cX12_takePart 172 = .ok (.getfield 30, 3) := by decide +kernel
theorem dX12_takePart_175 : decode cX12_takePart 175 = .ok (.aload_n 0, 1) := by decide +kernel
theorem dX12_takePart_176 : decode cX12_takePart 176 = .ok (.getfield 196, 3) := by decide +kernel
theorem dX12_takePart_179 : decode cX12_takePart 179 = .ok (.laload, 1) := by decide +kernel
theorem dX12_takePart_180 : decode cX12_takePart 180 = .ok (.l2i, 1) := by decide +kernel
theorem dX12_takePart_181 : decode cX12_takePart 181 = .ok (.goto 4, 3) := by decide +kernel
theorem dX12_takePart_184 : decode cX12_takePart 184 = .ok (.iload_n 3, 1) := by decide +kernel
theorem dX12_takePart_185 : decode cX12_takePart 185 = .ok (.invokevirtual 265, 3) := by decide +kernel
theorem dX12_takePart_188 : decode cX12_takePart 188 = .ok (.aload_n 0, 1) := by decide +kernel
theorem dX12_takePart_189 : decode cX12_takePart 189 = .ok (.dup, 1) := by decide +kernel
theorem dX12_takePart_190 : decode cX12_takePart 190 = .ok (.getfield 196, 3) := by decide +kernel
theorem dX12_takePart_193 : decode cX12_takePart 193 = .ok (.iconst 1, 1) := by decide +kernel
theorem dX12_takePart_194 : decode cX12_takePart 194 = .ok (.iadd, 1) := by decide +kernel
theorem dX12_takePart_195 : decode cX12_takePart 195 = .ok (.putfield 196, 3) := by decide +kernel
theorem dX12_takePart_198 : decode cX12_takePart 198 = .ok (.return_, 1) := by decide +kernel
theorem dX12_worthAt_0 : decode cX12_worthAt 0 = .ok (.iconst 0, 1) := by decide +kernel
theorem dX12_worthAt_1 : decode cX12_worthAt 1 = .ok (.istore_n 2, 1) := by decide +kernel
theorem dX12_worthAt_2 : decode cX12_worthAt 2 = .ok (.iload_n 1, 1) := by decide +kernel
theorem dX12_worthAt_3 : decode cX12_worthAt 3 = .ok (.istore_n 3, 1) := by decide +kernel
theorem dX12_worthAt_4 : decode cX12_worthAt 4 = .ok (.aload_n 0, 1) := by decide +kernel
theorem dX12_worthAt_5 : decode cX12_worthAt 5 = .ok (.getfield 100, 3) := by decide +kernel
theorem dX12_worthAt_8 : decode cX12_worthAt 8 = .ok (.iload_n 3, 1) := by decide +kernel
theorem dX12_worthAt_9 : decode cX12_worthAt 9 = .ok (.iaload, 1) := by decide +kernel
theorem dX12_worthAt_10 : decode cX12_worthAt 10 = .ok (.ifCond .eq 130, 3) := by decide +kernel
theorem dX12_worthAt_13 : decode cX12_worthAt 13 = .ok (.aload_n 0, 1) := by decide +kernel
theorem dX12_worthAt_14 : decode cX12_worthAt 14 = .ok (.getfield 100, 3) := by decide +kernel
theorem dX12_worthAt_17 : decode cX12_worthAt 17 = .ok (.iload_n 3, 1) := by decide +kernel
theorem dX12_worthAt_18 : decode cX12_worthAt 18 = .ok (.iaload, 1) := by decide +kernel
theorem dX12_worthAt_19 : decode cX12_worthAt 19 = .ok (.istore 4, 2) := by decide +kernel
theorem dX12_worthAt_21 : decode cX12_worthAt 21 = .ok (.iload 4, 2) := by decide +kernel
theorem dX12_worthAt_23 : decode cX12_worthAt 23 = .ok (.iconst 1, 1) := by decide +kernel
theorem dX12_worthAt_24 : decode cX12_worthAt 24 = .ok (.if_icmp .eq 9, 3) := by decide +kernel
theorem dX12_worthAt_27 : decode cX12_worthAt 27 = .ok (.iload 4, 2) := by decide +kernel
theorem dX12_worthAt_29 : decode cX12_worthAt 29 = .ok (.iconst 2, 1) := by decide +kernel
theorem dX12_worthAt_30 : decode cX12_worthAt 30 = .ok (.if_icmp .ne 41, 3) := by decide +kernel
theorem dX12_worthAt_33 : decode cX12_worthAt 33 = .ok (.aload_n 0, 1) := by decide +kernel
theorem dX12_worthAt_34 : decode cX12_worthAt 34 = .ok (.getfield 109, 3) := by decide +kernel
theorem dX12_worthAt_37 : decode cX12_worthAt 37 = .ok (.iload_n 2, 1) := by decide +kernel
theorem dX12_worthAt_38 : decode cX12_worthAt 38 = .ok (.iload 4, 2) := by decide +kernel
theorem dX12_worthAt_40 : decode cX12_worthAt 40 = .ok (.iconst 1, 1) := by decide +kernel
theorem dX12_worthAt_41 : decode cX12_worthAt 41 = .ok (.if_icmp .ne 12, 3) := by decide +kernel
theorem dX12_worthAt_44 : decode cX12_worthAt 44 = .ok (.aload_n 0, 1) := by decide +kernel
theorem dX12_worthAt_45 : decode cX12_worthAt 45 = .ok (.getfield 103, 3) := by decide +kernel
theorem dX12_worthAt_48 : decode cX12_worthAt 48 = .ok (.iload_n 3, 1) := by decide +kernel
theorem dX12_worthAt_49 : decode cX12_worthAt 49 = .ok (.iaload, 1) := by decide +kernel
theorem dX12_worthAt_50 : decode cX12_worthAt 50 = .ok (.goto 14, 3) := by decide +kernel
theorem dX12_worthAt_53 : decode cX12_worthAt 53 = .ok (.aload_n 0, 1) := by decide +kernel
theorem dX12_worthAt_54 : decode cX12_worthAt 54 = .ok (.getfield 106, 3) := by decide +kernel
theorem dX12_worthAt_57 : decode cX12_worthAt 57 = .ok (.aload_n 0, 1) := by decide +kernel
theorem dX12_worthAt_58 : decode cX12_worthAt 58 = .ok (.getfield 103, 3) := by decide +kernel
theorem dX12_worthAt_61 : decode cX12_worthAt 61 = .ok (.iload_n 3, 1) := by decide +kernel
theorem dX12_worthAt_62 : decode cX12_worthAt 62 = .ok (.iaload, 1) := by decide +kernel
theorem dX12_worthAt_63 : decode cX12_worthAt 63 = .ok (.iaload, 1) := by decide +kernel
theorem dX12_worthAt_64 : decode cX12_worthAt 64 = .ok (.iastore, 1) := by decide +kernel
theorem dX12_worthAt_65 : decode cX12_worthAt 65 = .ok (.iinc 2 1, 3) := by decide +kernel
theorem dX12_worthAt_68 : decode cX12_worthAt 68 = .ok (.goto 66, 3) := by decide +kernel
theorem dX12_worthAt_71 : decode cX12_worthAt 71 = .ok (.iload 4, 2) := by decide +kernel
theorem dX12_worthAt_73 : decode cX12_worthAt 73 = .ok (.iconst 3, 1) := by decide +kernel
theorem dX12_worthAt_74 : decode cX12_worthAt 74 = .ok (.if_icmp .ne 30, 3) := by decide +kernel
theorem dX12_worthAt_77 : decode cX12_worthAt 77 = .ok (.aload_n 0, 1) := by decide +kernel
theorem dX12_worthAt_78 : decode cX12_worthAt 78 = .ok (.getfield 109, 3) := by decide +kernel
theorem dX12_worthAt_81 : decode cX12_worthAt 81 = .ok (.iload_n 2, 1) := by decide +kernel
theorem dX12_worthAt_82 : decode cX12_worthAt 82 = .ok (.iconst 1, 1) := by decide +kernel
theorem dX12_worthAt_83 : decode cX12_worthAt 83 = .ok (.isub, 1) := by decide +kernel
theorem dX12_worthAt_84 : decode cX12_worthAt 84 = .ok (.aload_n 0, 1) := by decide +kernel
theorem dX12_worthAt_85 : decode cX12_worthAt 85 = .ok (.getfield 109, 3) := by decide +kernel
theorem dX12_worthAt_88 : decode cX12_worthAt 88 = .ok (.iload_n 2, 1) := by decide +kernel
theorem dX12_worthAt_89 : decode cX12_worthAt 89 = .ok (.iconst 1, 1) := by decide +kernel
theorem dX12_worthAt_90 : decode cX12_worthAt 90 = .ok (.isub, 1) := by decide +kernel
theorem dX12_worthAt_91 : decode cX12_worthAt 91 = .ok (.iaload, 1) := by decide +kernel
theorem dX12_worthAt_92 : decode cX12_worthAt 92 = .ok (.ifCond .ne 7, 3) := by decide +kernel
theorem dX12_worthAt_95 : decode cX12_worthAt 95 = .ok (.iconst 1, 1) := by decide +kernel
theorem dX12_worthAt_96 : decode cX12_worthAt 96 = .ok (.goto 4, 3) := by decide +kernel
theorem dX12_worthAt_99 : decode cX12_worthAt 99 = .ok (.iconst 0, 1) := by decide +kernel
theorem dX12_worthAt_100 : decode cX12_worthAt 100 = .ok (.iastore, 1) := by decide +kernel
theorem dX12_worthAt_101 : decode cX12_worthAt 101 = .ok (.goto 33, 3) := by decide +kernel
theorem dX12_worthAt_104 : decode cX12_worthAt 104 = .ok (.iinc 2 (-1), 3) := by decide +kernel
theorem dX12_worthAt_107 : decode cX12_worthAt 107 = .ok (.aload_n 0, 1) := by decide +kernel
theorem dX12_worthAt_108 : decode cX12_worthAt 108 = .ok (.getfield 109, 3) := by decide +kernel
theorem dX12_worthAt_111 : decode cX12_worthAt 111 = .ok (.iload_n 2, 1) := by decide +kernel
theorem dX12_worthAt_112 : decode cX12_worthAt 112 = .ok (.iconst 1, 1) := by decide +kernel
theorem dX12_worthAt_113 : decode cX12_worthAt 113 = .ok (.isub, 1) := by decide +kernel
theorem dX12_worthAt_114 : decode cX12_worthAt 114 = .ok (.iload 4, 2) := by decide +kernel
theorem dX12_worthAt_116 : decode cX12_worthAt 116 = .ok (.aload_n 0, 1) := by decide +kernel
theorem dX12_worthAt_117 : decode cX12_worthAt 117 = .ok (.getfield 109, 3) := by decide +kernel
theorem dX12_worthAt_120 : decode cX12_worthAt 120 = .ok (.iload_n 2, 1) := by decide +kernel
theorem dX12_worthAt_121 : decode cX12_worthAt 121 = .ok (.iconst 1, 1) := by decide +kernel
theorem dX12_worthAt_122 : decode cX12_worthAt 122 = .ok (.isub, 1) := by decide +kernel
theorem dX12_worthAt_123 : decode cX12_worthAt 123 = .ok (.iaload, 1) := by decide +kernel
theorem dX12_worthAt_124 : decode cX12_worthAt 124 = .ok (.aload_n 0, 1) := by decide +kernel
theorem dX12_worthAt_125 : decode cX12_worthAt 125 = .ok (.getfield 109, 3) := by decide +kernel
theorem dX12_worthAt_128 : decode cX12_worthAt 128 = .ok (.iload_n 2, 1) := by decide +kernel
theorem dX12_worthAt_129 : decode cX12_worthAt 129 = .ok (.iaload, 1) := by decide +kernel
theorem dX12_worthAt_130 : decode cX12_worthAt 130 = .ok (.invokestatic 285, 3) := by decide +kernel
theorem dX12_worthAt_133 : decode cX12_worthAt 133 = .ok (.iastore, 1) := by decide +kernel
theorem dX12_worthAt_134 : decode cX12_worthAt 134 = .ok (.iinc 3 1, 3) := by decide +kernel
theorem dX12_worthAt_137 : decode cX12_worthAt 137 = .ok (.goto (-133), 3) := by decide +kernel
theorem dX12_worthAt_140 : decode cX12_worthAt 140 = .ok (.aload_n 0, 1) := by decide +kernel
theorem dX12_worthAt_141 : decode cX12_worthAt 141 = .ok (.getfield 109, 3) := by decide +kernel
theorem dX12_worthAt_144 : decode cX12_worthAt 144 = .ok (.iconst 0, 1) := by decide +kernel
theorem dX12_worthAt_145 : decode cX12_worthAt 145 = .ok (.iaload, 1) := by decide +kernel
theorem dX12_worthAt_146 : decode cX12_worthAt 146 = .ok (.ireturn, 1) := by decide +kernel
theorem dX12_both_0 : decode cX12_both 0 = .ok (.iload_n 0, 1) := by decide +kernel
theorem dX12_both_1 : decode cX12_both 1 = .ok (.tableswitch 87 4 9 #[39, 43, 47, 51, 62, 73], 39) := by decide +kernel
theorem dX12_both_40 : decode cX12_both 40 = .ok (.iload_n 1, 1) := by decide +kernel
theorem dX12_both_41 : decode cX12_both 41 = .ok (.iload_n 2, 1) := by decide +kernel
theorem dX12_both_42 : decode cX12_both 42 = .ok (.iadd, 1) := by decide +kernel
theorem dX12_both_43 : decode cX12_both 43 = .ok (.ireturn, 1) := by decide +kernel
theorem dX12_both_44 : decode cX12_both 44 = .ok (.iload_n 1, 1) := by decide +kernel
theorem dX12_both_45 : decode cX12_both 45 = .ok (.iload_n 2, 1) := by decide +kernel
theorem dX12_both_46 : decode cX12_both 46 = .ok (.isub, 1) := by decide +kernel
theorem dX12_both_47 : decode cX12_both 47 = .ok (.ireturn, 1) := by decide +kernel
theorem dX12_both_48 : decode cX12_both 48 = .ok (.iload_n 1, 1) := by decide +kernel
theorem dX12_both_49 : decode cX12_both 49 = .ok (.iload_n 2, 1) := by decide +kernel
theorem dX12_both_50 : decode cX12_both 50 = .ok (.imul, 1) := by decide +kernel
theorem dX12_both_51 : decode cX12_both 51 = .ok (.ireturn, 1) := by decide +kernel
theorem dX12_both_52 : decode cX12_both 52 = .ok (.iload_n 1, 1) := by decide +kernel
theorem dX12_both_53 : decode cX12_both 53 = .ok (.iload_n 2, 1) := by decide +kernel
theorem dX12_both_54 : decode cX12_both 54 = .ok (.if_icmp .ge 7, 3) := by decide +kernel
theorem dX12_both_57 : decode cX12_both 57 = .ok (.iconst 1, 1) := by decide +kernel
theorem dX12_both_58 : decode cX12_both 58 = .ok (.goto 4, 3) := by decide +kernel
theorem dX12_both_61 : decode cX12_both 61 = .ok (.iconst 0, 1) := by decide +kernel
theorem dX12_both_62 : decode cX12_both 62 = .ok (.ireturn, 1) := by decide +kernel
theorem dX12_both_63 : decode cX12_both 63 = .ok (.iload_n 1, 1) := by decide +kernel
theorem dX12_both_64 : decode cX12_both 64 = .ok (.iload_n 2, 1) := by decide +kernel
theorem dX12_both_65 : decode cX12_both 65 = .ok (.if_icmp .ne 7, 3) := by decide +kernel
theorem dX12_both_68 : decode cX12_both 68 = .ok (.iconst 1, 1) := by decide +kernel
theorem dX12_both_69 : decode cX12_both 69 = .ok (.goto 4, 3) := by decide +kernel
theorem dX12_both_72 : decode cX12_both 72 = .ok (.iconst 0, 1) := by decide +kernel
theorem dX12_both_73 : decode cX12_both 73 = .ok (.ireturn, 1) := by decide +kernel
theorem dX12_both_74 : decode cX12_both 74 = .ok (.iload_n 1, 1) := by decide +kernel
theorem dX12_both_75 : decode cX12_both 75 = .ok (.ifCond .eq 11, 3) := by decide +kernel
theorem dX12_both_78 : decode cX12_both 78 = .ok (.iload_n 2, 1) := by decide +kernel
theorem dX12_both_79 : decode cX12_both 79 = .ok (.ifCond .eq 7, 3) := by decide +kernel
theorem dX12_both_82 : decode cX12_both 82 = .ok (.iconst 1, 1) := by decide +kernel
theorem dX12_both_83 : decode cX12_both 83 = .ok (.goto 4, 3) := by decide +kernel
theorem dX12_both_86 : decode cX12_both 86 = .ok (.iconst 0, 1) := by decide +kernel
theorem dX12_both_87 : decode cX12_both 87 = .ok (.ireturn, 1) := by decide +kernel
theorem dX12_both_88 : decode cX12_both 88 = .ok (.iload_n 1, 1) := by decide +kernel
theorem dX12_both_89 : decode cX12_both 89 = .ok (.ifCond .ne 7, 3) := by decide +kernel
theorem dX12_both_92 : decode cX12_both 92 = .ok (.iload_n 2, 1) := by decide +kernel
theorem dX12_both_93 : decode cX12_both 93 = .ok (.ifCond .eq 7, 3) := by decide +kernel
theorem dX12_both_96 : decode cX12_both 96 = .ok (.iconst 1, 1) := by decide +kernel
theorem dX12_both_97 : decode cX12_both 97 = .ok (.goto 4, 3) := by decide +kernel
theorem dX12_both_100 : decode cX12_both 100 = .ok (.iconst 0, 1) := by decide +kernel
theorem dX12_both_101 : decode cX12_both 101 = .ok (.ireturn, 1) := by decide +kernel
theorem dX12_isDay_0 : decode cX12_isDay 0 = .ok (.iload_n 0, 1) := by decide +kernel
theorem dX12_isDay_1 : decode cX12_isDay 1 = .ok (.iconst 0, 1) := by decide +kernel
theorem dX12_isDay_2 : decode cX12_isDay 2 = .ok (.iconst 3, 1) := by decide +kernel
theorem dX12_isDay_3 : decode cX12_isDay 3 = .ok (.invokestatic 289, 3) := by decide +kernel
theorem dX12_isDay_6 : decode cX12_isDay 6 = .ok (.ireturn, 1) := by decide +kernel
theorem dX12_isMinute_0 : decode cX12_isMinute 0 = .ok (.iload_n 0, 1) := by decide +kernel
theorem dX12_isMinute_1 : decode cX12_isMinute 1 = .ok (.iconst 0, 1) := by decide +kernel
theorem dX12_isMinute_2 : decode cX12_isMinute 2 = .ok (.bipush 119, 2) := by decide +kernel
theorem dX12_isMinute_4 : decode cX12_isMinute 4 = .ok (.invokestatic 289, 3) := by decide +kernel
theorem dX12_isMinute_7 : decode cX12_isMinute 7 = .ok (.ireturn, 1) := by decide +kernel
theorem dX12_isSquare_0 : decode cX12_isSquare 0 = .ok (.iload_n 0, 1) := by decide +kernel
theorem dX12_isSquare_1 : decode cX12_isSquare 1 = .ok (.iconst 0, 1) := by decide +kernel
theorem dX12_isSquare_2 : decode cX12_isSquare 2 = .ok (.bipush 99, 2) := by decide +kernel
theorem dX12_isSquare_4 : decode cX12_isSquare 4 = .ok (.invokestatic 289, 3) := by decide +kernel
theorem dX12_isSquare_7 : decode cX12_isSquare 7 = .ok (.ireturn, 1) := by decide +kernel
theorem dX12_sunLine_0 : decode cX12_sunLine 0 = .ok (.iconst (-1), 1) := by decide +kernel
theorem dX12_sunLine_1 : decode cX12_sunLine 1 = .ok (.istore_n 3, 1) := by decide +kernel
theorem dX12_sunLine_2 : decode cX12_sunLine 2 = .ok (.iconst 0, 1) := by decide +kernel
theorem dX12_sunLine_3 : decode cX12_sunLine 3 = .ok (.istore 4, 2) := by decide +kernel
theorem dX12_sunLine_5 : decode cX12_sunLine 5 = .ok (.iload 4, 2) := by decide +kernel
theorem dX12_sunLine_7 : decode cX12_sunLine 7 = .ok (.aload_n 0, 1) := by decide +kernel
theorem dX12_sunLine_8 : decode cX12_sunLine 8 = .ok (.getfield 97, 3) := by decide +kernel
theorem dX12_sunLine_11 : decode cX12_sunLine 11 = .ok (.sipush 261, 3) := by decide +kernel
theorem dX12_sunLine_14 : decode cX12_sunLine 14 = .ok (.iaload, 1) := by decide +kernel
theorem dX12_sunLine_15 : decode cX12_sunLine 15 = .ok (.if_icmp .ge 50, 3) := by decide +kernel
theorem dX12_sunLine_18 : decode cX12_sunLine 18 = .ok (.sipush 262, 3) := by decide +kernel
theorem dX12_sunLine_21 : decode cX12_sunLine 21 = .ok (.iconst 5, 1) := by decide +kernel
theorem dX12_sunLine_22 : decode cX12_sunLine 22 = .ok (.iload 4, 2) := by decide +kernel
theorem dX12_sunLine_24 : decode cX12_sunLine 24 = .ok (.imul, 1) := by decide +kernel
theorem dX12_sunLine_25 : decode cX12_sunLine 25 = .ok (.iadd, 1) := by decide +kernel
theorem dX12_sunLine_26 : decode cX12_sunLine 26 = .ok (.istore 5, 2) := by decide +kernel
theorem dX12_sunLine_28 : decode cX12_sunLine 28 = .ok (.aload_n 0, 1) := by decide +kernel
theorem dX12_sunLine_29 : decode cX12_sunLine 29 = .ok (.getfield 97, 3) := by decide +kernel
theorem dX12_sunLine_32 : decode cX12_sunLine 32 = .ok (.iload 5, 2) := by decide +kernel
theorem dX12_sunLine_34 : decode cX12_sunLine 34 = .ok (.iaload, 1) := by decide +kernel
theorem dX12_sunLine_35 : decode cX12_sunLine 35 = .ok (.iload_n 1, 1) := by decide +kernel
theorem dX12_sunLine_36 : decode cX12_sunLine 36 = .ok (.if_icmp .ne 21, 3) := by decide +kernel
theorem dX12_sunLine_39 : decode cX12_sunLine 39 = .ok (.aload_n 0, 1) := by decide +kernel
theorem dX12_sunLine_40 : decode cX12_sunLine 40 = .ok (.getfield 97, 3) := by decide +kernel
theorem dX12_sunLine_43 : decode cX12_sunLine 43 = .ok (.iload 5, 2) := by decide +kernel
theorem dX12_sunLine_45 : decode cX12_sunLine 45 = .ok (.iconst 1, 1) := by decide +kernel
theorem dX12_sunLine_46 : decode cX12_sunLine 46 = .ok (.iadd, 1) := by decide +kernel
theorem dX12_sunLine_47 : decode cX12_sunLine 47 = .ok (.iaload, 1) := by decide +kernel
theorem dX12_sunLine_48 : decode cX12_sunLine 48 = .ok (.iload_n 2, 1) := by decide +kernel
theorem dX12_sunLine_49 : decode cX12_sunLine 49 = .ok (.if_icmp .gt 8, 3) := by decide +kernel
theorem dX12_sunLine_52 : decode cX12_sunLine 52 = .ok (.iload 5, 2) := by decide +kernel
theorem dX12_sunLine_54 : decode cX12_sunLine 54 = .ok (.goto 4, 3) := by decide +kernel
theorem dX12_sunLine_57 : decode cX12_sunLine 57 = .ok (.iload_n 3, 1) := by decide +kernel
theorem dX12_sunLine_58 : decode cX12_sunLine 58 = .ok (.istore_n 3, 1) := by decide +kernel
theorem dX12_sunLine_59 : decode cX12_sunLine 59 = .ok (.iinc 4 1, 3) := by decide +kernel
theorem dX12_sunLine_62 : decode cX12_sunLine 62 = .ok (.goto (-57), 3) := by decide +kernel
theorem dX12_sunLine_65 : decode cX12_sunLine 65 = .ok (.iload_n 3, 1) := by decide +kernel
theorem dX12_sunLine_66 : decode cX12_sunLine 66 = .ok (.ireturn, 1) := by decide +kernel
theorem dX12_isBehind_0 : decode cX12_isBehind 0 = .ok (.aload_n 0, 1) := by decide +kernel
theorem dX12_isBehind_1 : decode cX12_isBehind 1 = .ok (.getfield 97, 3) := by decide +kernel
theorem dX12_isBehind_4 : decode cX12_isBehind 4 = .ok (.iload_n 2, 1) := by decide +kernel
theorem dX12_isBehind_5 : decode cX12_isBehind 5 = .ok (.iconst 2, 1) := by decide +kernel
theorem dX12_isBehind_6 : decode cX12_isBehind 6 = .ok (.iadd, 1) := by decide +kernel
theorem dX12_isBehind_7 : decode cX12_isBehind 7 = .ok (.iaload, 1) := by decide +kernel
theorem dX12_isBehind_8 : decode cX12_isBehind 8 = .ok (.istore_n 3, 1) := by decide +kernel
theorem dX12_isBehind_9 : decode cX12_isBehind 9 = .ok (.iload_n 3, 1) := by decide +kernel
theorem dX12_isBehind_10 : decode cX12_isBehind 10 = .ok (.bipush 7, 2) := by decide +kernel
theorem dX12_isBehind_12 : decode cX12_isBehind 12 = .ok (.if_icmp .eq 8, 3) := by decide +kernel
theorem dX12_isBehind_15 : decode cX12_isBehind 15 = .ok (.iload_n 3, 1) := by decide +kernel
theorem dX12_isBehind_16 : decode cX12_isBehind 16 = .ok (.iconst 2, 1) := by decide +kernel
theorem dX12_isBehind_17 : decode cX12_isBehind 17 = .ok (.if_icmp .ge 7, 3) := by decide +kernel
theorem dX12_isBehind_20 : decode cX12_isBehind 20 = .ok (.iconst (-1), 1) := by decide +kernel
theorem dX12_isBehind_21 : decode cX12_isBehind 21 = .ok (.goto 17, 3) := by decide +kernel
theorem dX12_isBehind_24 : decode cX12_isBehind 24 = .ok (.iload_n 3, 1) := by decide +kernel
theorem dX12_isBehind_25 : decode cX12_isBehind 25 = .ok (.iconst 3, 1) := by decide +kernel
theorem dX12_isBehind_26 : decode cX12_isBehind 26 = .ok (.iconst 5, 1) := by decide +kernel
theorem dX12_isBehind_27 : decode cX12_isBehind 27 = .ok (.invokestatic 289, 3) := by decide +kernel
theorem dX12_isBehind_30 : decode cX12_isBehind 30 = .ok (.ifCond .eq 7, 3) := by decide +kernel
theorem dX12_isBehind_33 : decode cX12_isBehind 33 = .ok (.iconst 1, 1) := by decide +kernel
theorem dX12_isBehind_34 : decode cX12_isBehind 34 = .ok (.goto 4, 3) := by decide +kernel
theorem dX12_isBehind_37 : decode cX12_isBehind 37 = .ok (.iconst 0, 1) := by decide +kernel
theorem dX12_isBehind_38 : decode cX12_isBehind 38 = .ok (.istore 4, 2) := by decide +kernel
theorem dX12_isBehind_40 : decode cX12_isBehind 40 = .ok (.iload_n 3, 1) := by decide +kernel
theorem dX12_isBehind_41 : decode cX12_isBehind 41 = .ok (.iconst 1, 1) := by decide +kernel
theorem dX12_isBehind_42 : decode cX12_isBehind 42 = .ok (.iconst 3, 1) := by decide +kernel
theorem dX12_isBehind_43 : decode cX12_isBehind 43 = .ok (.invokestatic 289, 3) := by decide +kernel
theorem dX12_isBehind_46 : decode cX12_isBehind 46 = .ok (.ifCond .eq 7, 3) := by decide +kernel
theorem dX12_isBehind_49 : decode cX12_isBehind 49 = .ok (.iconst 1, 1) := by decide +kernel
theorem dX12_isBehind_50 : decode cX12_isBehind 50 = .ok (.goto 13, 3) := by decide +kernel
theorem dX12_isBehind_53 : decode cX12_isBehind 53 = .ok (.iload_n 3, 1) := by decide +kernel
theorem dX12_isBehind_54 : decode cX12_isBehind 54 = .ok (.iconst 4, 1) := by decide +kernel
theorem dX12_isBehind_55 : decode cX12_isBehind 55 = .ok (.if_icmp .le 7, 3) := by decide +kernel
theorem dX12_isBehind_58 : decode cX12_isBehind 58 = .ok (.iconst (-1), 1) := by decide +kernel
theorem dX12_isBehind_59 : decode cX12_isBehind 59 = .ok (.goto 4, 3) := by decide +kernel
theorem dX12_isBehind_62 : decode cX12_isBehind 62 = .ok (.iconst 0, 1) := by decide +kernel
theorem dX12_isBehind_63 : decode cX12_isBehind 63 = .ok (.istore 5, 2) := by decide +kernel
theorem dX12_isBehind_65 : decode cX12_isBehind 65 = .ok (.iconst 0, 1) := by decide +kernel
theorem dX12_isBehind_66 : decode cX12_isBehind 66 = .ok (.istore 6, 2) := by decide +kernel
theorem dX12_isBehind_68 : decode cX12_isBehind 68 = .ok (.iconst 1, 1) := by decide +kernel
theorem dX12_isBehind_69 : decode cX12_isBehind 69 = .ok (.istore 7, 2) := by decide +kernel
theorem dX12_isBehind_71 : decode cX12_isBehind 71 = .ok (.iload 7, 2) := by decide +kernel
theorem dX12_isBehind_73 : decode cX12_isBehind 73 = .ok (.bipush 10, 2) := by decide +kernel
theorem dX12_isBehind_75 : decode cX12_isBehind 75 = .ok (.if_icmp .ge 106, 3) := by decide +kernel
theorem dX12_isBehind_78 : decode cX12_isBehind 78 = .ok (.iload 6, 2) := by decide +kernel
theorem dX12_isBehind_80 : decode cX12_isBehind 80 = .ok (.ifCond .ne 101, 3) := by decide +kernel
theorem dX12_isBehind_83 : decode cX12_isBehind 83 = .ok (.iload_n 1, 1) := by decide +kernel
theorem dX12_isBehind_84 : decode cX12_isBehind 84 = .ok (.bipush 10, 2) := by decide +kernel
theorem dX12_isBehind_86 : decode cX12_isBehind 86 = .ok (.irem, 1) := by decide +kernel
theorem dX12_isBehind_87 : decode cX12_isBehind 87 = .ok (.iload 7, 2) := by decide +kernel
theorem dX12_isBehind_89 : decode cX12_isBehind 89 = .ok (.iload 5, 2) := by decide +kernel
theorem dX12_isBehind_91 : decode cX12_isBehind 91 = .ok (.imul, 1) := by decide +kernel
theorem dX12_isBehind_92 : decode cX12_isBehind 92 = .ok (.iadd, 1) := by decide +kernel
theorem dX12_isBehind_93 : decode cX12_isBehind 93 = .ok (.istore 8, 2) := by decide +kernel
theorem dX12_isBehind_95 : decode cX12_isBehind 95 = .ok (.iload_n 1, 1) := by decide +kernel
theorem dX12_isBehind_96 : decode cX12_isBehind 96 = .ok (.bipush 10, 2) := by decide +kernel
theorem dX12_isBehind_98 : decode cX12_isBehind 98 = .ok (.idiv, 1) := by decide +kernel
theorem dX12_isBehind_99 : decode cX12_isBehind 99 = .ok (.iload 7, 2) := by decide +kernel
theorem dX12_isBehind_101 : decode cX12_isBehind 101 = .ok (.iload 4, 2) := by decide +kernel
theorem dX12_isBehind_103 : decode cX12_isBehind 103 = .ok (.imul, 1) := by decide +kernel
theorem dX12_isBehind_104 : decode cX12_isBehind 104 = .ok (.iadd, 1) := by decide +kernel
theorem dX12_isBehind_105 : decode cX12_isBehind 105 = .ok (.istore 9, 2) := by decide +kernel
theorem dX12_isBehind_107 : decode cX12_isBehind 107 = .ok (.iload 8, 2) := by decide +kernel
theorem dX12_isBehind_109 : decode cX12_isBehind 109 = .ok (.iconst 0, 1) := by decide +kernel
theorem dX12_isBehind_110 : decode cX12_isBehind 110 = .ok (.bipush 9, 2) := by decide +kernel
theorem dX12_isBehind_112 : decode cX12_isBehind 112 = .ok (.invokestatic 289, 3) := by decide +kernel
theorem dX12_isBehind_115 : decode cX12_isBehind 115 = .ok (.ifCond .eq 57, 3) := by decide +kernel
theorem dX12_isBehind_118 : decode cX12_isBehind 118 = .ok (.iload 9, 2) := by decide +kernel
theorem dX12_isBehind_120 : decode cX12_isBehind 120 = .ok (.iconst 0, 1) := by decide +kernel
theorem dX12_isBehind_121 : decode cX12_isBehind 121 = .ok (.bipush 9, 2) := by decide +kernel
theorem dX12_isBehind_123 : decode cX12_isBehind 123 = .ok (.invokestatic 289, 3) := by decide +kernel
theorem dX12_isBehind_126 : decode cX12_isBehind 126 = .ok (.ifCond .eq 46, 3) := by decide +kernel
theorem dX12_isBehind_129 : decode cX12_isBehind 129 = .ok (.aload_n 0, 1) := by decide +kernel
theorem dX12_isBehind_130 : decode cX12_isBehind 130 = .ok (.getfield 97, 3) := by decide +kernel
theorem dX12_isBehind_133 : decode cX12_isBehind 133 = .ok (.bipush 100, 2) := by decide +kernel
theorem dX12_isBehind_135 : decode cX12_isBehind 135 = .ok (.bipush 10, 2) := by decide +kernel
theorem dX12_isBehind_137 : decode cX12_isBehind 137 = .ok (.iload 9, 2) := by decide +kernel
theorem dX12_isBehind_139 : decode cX12_isBehind 139 = .ok (.imul, 1) := by decide +kernel
theorem dX12_isBehind_140 : decode cX12_isBehind 140 = .ok (.iadd, 1) := by decide +kernel
theorem dX12_isBehind_141 : decode cX12_isBehind 141 = .ok (.iload 8, 2) := by decide +kernel
theorem dX12_isBehind_143 : decode cX12_isBehind 143 = .ok (.iadd, 1) := by decide +kernel
theorem dX12_isBehind_144 : decode cX12_isBehind 144 = .ok (.iaload, 1) := by decide +kernel
theorem dX12_isBehind_145 : decode cX12_isBehind 145 = .ok (.aload_n 0, 1) := by decide +kernel
theorem dX12_isBehind_146 : decode cX12_isBehind 146 = .ok (.getfield 97, 3) := by decide +kernel
theorem dX12_isBehind_149 : decode cX12_isBehind 149 = .ok (.iload_n 2, 1) := by decide +kernel
theorem dX12_isBehind_150 : decode cX12_isBehind 150 = .ok (.iconst 4, 1) := by decide +kernel
theorem dX12_isBehind_151 : decode cX12_isBehind 151 = .ok (.iadd, 1) := by decide +kernel
theorem dX12_isBehind_152 : decode cX12_isBehind 152 = .ok (.iaload, 1) := by decide +kernel
theorem dX12_isBehind_153 : decode cX12_isBehind 153 = .ok (.imul, 1) := by decide +kernel
theorem dX12_isBehind_154 : decode cX12_isBehind 154 = .ok (.iload 7, 2) := by decide +kernel
theorem dX12_isBehind_156 : decode cX12_isBehind 156 = .ok (.aload_n 0, 1) := by decide +kernel
theorem dX12_isBehind_157 : decode cX12_isBehind 157 = .ok (.getfield 97, 3) := by decide +kernel
theorem dX12_isBehind_160 : decode cX12_isBehind 160 = .ok (.iload_n 2, 1) := by decide +kernel
theorem dX12_isBehind_161 : decode cX12_isBehind 161 = .ok (.iconst 3, 1) := by decide +kernel
theorem dX12_isBehind_162 : decode cX12_isBehind 162 = .ok (.iadd, 1) := by decide +kernel
theorem dX12_isBehind_163 : decode cX12_isBehind 163 = .ok (.iaload, 1) := by decide +kernel
theorem dX12_isBehind_164 : decode cX12_isBehind 164 = .ok (.imul, 1) := by decide +kernel
theorem dX12_isBehind_165 : decode cX12_isBehind 165 = .ok (.if_icmp .le 7, 3) := by decide +kernel
theorem dX12_isBehind_168 : decode cX12_isBehind 168 = .ok (.iconst 1, 1) := by decide +kernel
theorem dX12_isBehind_169 : decode cX12_isBehind 169 = .ok (.goto 4, 3) := by decide +kernel
theorem dX12_isBehind_172 : decode cX12_isBehind 172 = .ok (.iconst 0, 1) := by decide +kernel
theorem dX12_isBehind_173 : decode cX12_isBehind 173 = .ok (.istore 6, 2) := by decide +kernel
theorem dX12_isBehind_175 : decode cX12_isBehind 175 = .ok (.iinc 7 1, 3) := by decide +kernel
theorem dX12_isBehind_178 : decode cX12_isBehind 178 = .ok (.goto (-107), 3) := by decide +kernel
theorem dX12_isBehind_181 : decode cX12_isBehind 181 = .ok (.iload 6, 2) := by decide +kernel
theorem dX12_isBehind_183 : decode cX12_isBehind 183 = .ok (.ireturn, 1) := by decide +kernel
theorem dX12_isDim_0 : decode cX12_isDim 0 = .ok (.aload_n 0, 1) := by decide +kernel
theorem dX12_isDim_1 : decode cX12_isDim 1 = .ok (.iload_n 1, 1) := by decide +kernel
theorem dX12_isDim_2 : decode cX12_isDim 2 = .ok (.iload_n 2, 1) := by decide +kernel
theorem dX12_isDim_3 : decode cX12_isDim 3 = .ok (.invokevirtual 293, 3) := by decide +kernel
theorem dX12_isDim_6 : decode cX12_isDim 6 = .ok (.istore 4, 2) := by decide +kernel
theorem dX12_isDim_8 : decode cX12_isDim 8 = .ok (.iload 4, 2) := by decide +kernel
theorem dX12_isDim_10 : decode cX12_isDim 10 = .ok (.ifCond .lt 17, 3) := by decide +kernel
theorem dX12_isDim_13 : decode cX12_isDim 13 = .ok (.aload_n 0, 1) := by decide +kernel
theorem dX12_isDim_14 : decode cX12_isDim 14 = .ok (.getfield 97, 3) := by decide +kernel
theorem dX12_isDim_17 : decode cX12_isDim 17 = .ok (.iload_n 3, 1) := by decide +kernel
theorem dX12_isDim_18 : decode cX12_isDim 18 = .ok (.iaload, 1) := by decide +kernel
theorem dX12_isDim_19 : decode cX12_isDim 19 = .ok (.iconst 2, 1) := by decide +kernel
theorem dX12_isDim_20 : decode cX12_isDim 20 = .ok (.iconst 3, 1) := by decide +kernel
theorem dX12_isDim_21 : decode cX12_isDim 21 = .ok (.invokestatic 289, 3) := by decide +kernel
theorem dX12_isDim_24 : decode cX12_isDim 24 = .ok (.ifCond .eq 5, 3) := by decide +kernel
theorem dX12_isDim_27 : decode cX12_isDim 27 = .ok (.iconst 1, 1) := by decide +kernel
theorem dX12_isDim_28 : decode cX12_isDim 28 = .ok (.ireturn, 1) := by decide +kernel
theorem dX12_isDim_29 : decode cX12_isDim 29 = .ok (.aload_n 0, 1) := by decide +kernel
theorem dX12_isDim_30 : decode cX12_isDim 30 = .ok (.iload_n 1, 1) := by decide +kernel
theorem dX12_isDim_31 : decode cX12_isDim 31 = .ok (.iload_n 2, 1) := by decide +kernel
theorem dX12_isDim_32 : decode cX12_isDim 32 = .ok (.iload_n 3, 1) := by decide +kernel
theorem dX12_isDim_33 : decode cX12_isDim 33 = .ok (.iconst 3, 1) := by decide +kernel
theorem dX12_isDim_34 : decode cX12_isDim 34 = .ok (.invokevirtual 296, 3) := by decide +kernel
theorem dX12_isDim_37 : decode cX12_isDim 37 = .ok (.ifCond .ne 13, 3) := by decide +kernel
theorem dX12_isDim_40 : decode cX12_isDim 40 = .ok (.aload_n 0, 1) := by decide +kernel
theorem dX12_isDim_41 : decode cX12_isDim 41 = .ok (.iload_n 3, 1) := by decide +kernel
theorem dX12_isDim_42 : decode cX12_isDim 42 = .ok (.iload 4, 2) := by decide +kernel
theorem dX12_isDim_44 : decode cX12_isDim 44 = .ok (.invokevirtual 300, 3) := by decide +kernel
theorem dX12_isDim_47 : decode cX12_isDim 47 = .ok (.ifCond .eq 7, 3) := by decide +kernel
theorem dX12_isDim_50 : decode cX12_isDim 50 = .ok (.iconst 1, 1) := by decide +kernel
theorem dX12_isDim_51 : decode cX12_isDim 51 = .ok (.goto 4, 3) := by decide +kernel
theorem dX12_isDim_54 : decode cX12_isDim 54 = .ok (.iconst 0, 1) := by decide +kernel
theorem dX12_isDim_55 : decode cX12_isDim 55 = .ok (.ireturn, 1) := by decide +kernel
theorem dX12_isClothed_0 : decode cX12_isClothed 0 = .ok (.iconst 0, 1) := by decide +kernel
theorem dX12_isClothed_1 : decode cX12_isClothed 1 = .ok (.istore 5, 2) := by decide +kernel
theorem dX12_isClothed_3 : decode cX12_isClothed 3 = .ok (.aload_n 0, 1) := by decide +kernel
theorem dX12_isClothed_4 : decode cX12_isClothed 4 = .ok (.getfield 106, 3) := by decide +kernel
theorem dX12_isClothed_7 : decode cX12_isClothed 7 = .ok (.iconst 0, 1) := by decide +kernel
theorem dX12_isClothed_8 : decode cX12_isClothed 8 = .ok (.iload_n 2, 1) := by decide +kernel
theorem dX12_isClothed_9 : decode cX12_isClothed 9 = .ok (.iastore, 1) := by decide +kernel
theorem dX12_isClothed_10 : decode cX12_isClothed 10 = .ok (.aload_n 0, 1) := by decide +kernel
theorem dX12_isClothed_11 : decode cX12_isClothed 11 = .ok (.getfield 106, 3) := by decide +kernel
theorem dX12_isClothed_14 : decode cX12_isClothed 14 = .ok (.iconst 1, 1) := by decide +kernel
theorem dX12_isClothed_15 : decode cX12_isClothed 15 = .ok (.iload_n 1, 1) := by decide +kernel
theorem dX12_isClothed_16 : decode cX12_isClothed 16 = .ok (.iastore, 1) := by decide +kernel
theorem dX12_isClothed_17 : decode cX12_isClothed 17 = .ok (.iconst 0, 1) := by decide +kernel
theorem dX12_isClothed_18 : decode cX12_isClothed 18 = .ok (.istore 6, 2) := by decide +kernel
theorem dX12_isClothed_20 : decode cX12_isClothed 20 = .ok (.iload 6, 2) := by decide +kernel
theorem dX12_isClothed_22 : decode cX12_isClothed 22 = .ok (.aload_n 0, 1) := by decide +kernel
theorem dX12_isClothed_23 : decode cX12_isClothed 23 = .ok (.getfield 97, 3) := by decide +kernel
theorem dX12_isClothed_26 : decode cX12_isClothed 26 = .ok (.sipush 200, 3) := by decide +kernel
theorem dX12_isClothed_29 : decode cX12_isClothed 29 = .ok (.iaload, 1) := by decide +kernel
theorem dX12_isClothed_30 : decode cX12_isClothed 30 = .ok (.if_icmp .ge 72, 3) := by decide +kernel
theorem dX12_isClothed_33 : decode cX12_isClothed 33 = .ok (.sipush 201, 3) := by decide +kernel
theorem dX12_isClothed_36 : decode cX12_isClothed 36 = .ok (.iconst 3, 1) := by decide +kernel
theorem dX12_isClothed_37 : decode cX12_isClothed 37 = .ok (.iload 6, 2) := by decide +kernel
theorem dX12_isClothed_39 : decode cX12_isClothed 39 = .ok (.imul, 1) := by decide +kernel
theorem dX12_isClothed_40 : decode cX12_isClothed 40 = .ok (.iadd, 1) := by decide +kernel
theorem dX12_isClothed_41 : decode cX12_isClothed 41 = .ok (.istore 7, 2) := by decide +kernel
theorem dX12_isClothed_43 : decode cX12_isClothed 43 = .ok (.iload 5, 2) := by decide +kernel
theorem dX12_isClothed_45 : decode cX12_isClothed 45 = .ok (.ifCond .ne 44, 3) := by decide +kernel
theorem dX12_isClothed_48 : decode cX12_isClothed 48 = .ok (.aload_n 0, 1) := by decide +kernel
theorem dX12_isClothed_49 : decode cX12_isClothed 49 = .ok (.getfield 97, 3) := by decide +kernel
theorem dX12_isClothed_52 : decode cX12_isClothed 52 = .ok (.iload 7, 2) := by decide +kernel
theorem dX12_isClothed_54 : decode cX12_isClothed 54 = .ok (.iaload, 1) := by decide +kernel
theorem dX12_isClothed_55 : decode cX12_isClothed 55 = .ok (.iload_n 3, 1) := by decide +kernel
theorem dX12_isClothed_56 : decode cX12_isClothed 56 = .ok (.if_icmp .ne 37, 3) := by decide +kernel
theorem dX12_isClothed_59 : decode cX12_isClothed 59 = .ok (.aload_n 0, 1) := by decide +kernel
theorem dX12_isClothed_60 : decode cX12_isClothed 60 = .ok (.getfield 97, 3) := by decide +kernel
theorem dX12_isClothed_63 : decode cX12_isClothed 63 = .ok (.iload 7, 2) := by decide +kernel
theorem dX12_isClothed_65 : decode cX12_isClothed 65 = .ok (.iconst 1, 1) := by decide +kernel
theorem dX12_isClothed_66 : decode cX12_isClothed 66 = .ok (.iadd, 1) := by decide +kernel
theorem dX12_isClothed_67 : decode cX12_isClothed 67 = .ok (.iaload, 1) := by decide +kernel
theorem dX12_isClothed_68 : decode cX12_isClothed 68 = .ok (.iload 4, 2) := by decide +kernel
theorem dX12_isClothed_70 : decode cX12_isClothed 70 = .ok (.if_icmp .ne 23, 3) := by decide +kernel
theorem dX12_isClothed_73 : decode cX12_isClothed 73 = .ok (.aload_n 0, 1) := by decide +kernel
theorem dX12_isClothed_74 : decode cX12_isClothed 74 = .ok (.aload_n 0, 1) := by decide +kernel
theorem dX12_isClothed_75 : decode cX12_isClothed 75 = .ok (.getfield 97, 3) := by decide +kernel
theorem dX12_isClothed_78 : decode cX12_isClothed 78 = .ok (.iload 7, 2) := by decide +kernel
theorem dX12_isClothed_80 : decode cX12_isClothed 80 = .ok (.iconst 2, 1) := by decide +kernel
theorem dX12_isClothed_81 : decode cX12_isClothed 81 = .ok (.iadd, 1) := by decide +kernel
theorem dX12_isClothed_82 : decode cX12_isClothed 82 = .ok (.iaload, 1) := by decide +kernel
theorem dX12_isClothed_83 : decode cX12_isClothed 83 = .ok (.invokevirtual 304, 3) := by decide +kernel
theorem dX12_isClothed_86 : decode cX12_isClothed 86 = .ok (.ifCond .eq 7, 3) := by decide +kernel
theorem dX12_isClothed_89 : decode cX12_isClothed 89 = .ok (.iconst 1, 1) := by decide +kernel
theorem dX12_isClothed_90 : decode cX12_isClothed 90 = .ok (.goto 4, 3) := by decide +kernel
theorem dX12_isClothed_93 : decode cX12_isClothed 93 = .ok (.iconst 0, 1) := by decide +kernel
theorem dX12_isClothed_94 : decode cX12_isClothed 94 = .ok (.istore 5, 2) := by decide +kernel
theorem dX12_isClothed_96 : decode cX12_isClothed 96 = .ok (.iinc 6 1, 3) := by decide +kernel
theorem dX12_isClothed_99 : decode cX12_isClothed 99 = .ok (.goto (-79), 3) := by decide +kernel
theorem dX12_isClothed_102 : decode cX12_isClothed 102 = .ok (.iload 5, 2) := by decide +kernel
theorem dX12_isClothed_104 : decode cX12_isClothed 104 = .ok (.ireturn, 1) := by decide +kernel
theorem dX12_laysDay_0 : decode cX12_laysDay 0 = .ok (.aload_n 0, 1) := by decide +kernel
theorem dX12_laysDay_1 : decode cX12_laysDay 1 = .ok (.getfield 170, 3) := by decide +kernel
theorem dX12_laysDay_4 : decode cX12_laysDay 4 = .ok (.iload_n 1, 1) := by decide +kernel
theorem dX12_laysDay_5 : decode cX12_laysDay 5 = .ok (.if_icmp .ne 4, 3) := by decide +kernel
theorem dX12_laysDay_8 : decode cX12_laysDay 8 = .ok (.return_, 1) := by decide +kernel
theorem dX12_laysDay_9 : decode cX12_laysDay 9 = .ok (.aload_n 0, 1) := by decide +kernel
theorem dX12_laysDay_10 : decode cX12_laysDay 10 = .ok (.iload_n 1, 1) := by decide +kernel
theorem dX12_laysDay_11 : decode cX12_laysDay 11 = .ok (.putfield 170, 3) := by decide +kernel
theorem dX12_laysDay_14 : decode cX12_laysDay 14 = .ok (.iconst (-1), 1) := by decide +kernel
theorem dX12_laysDay_15 : decode cX12_laysDay 15 = .ok (.istore_n 2, 1) := by decide +kernel
theorem dX12_laysDay_16 : decode cX12_laysDay 16 = .ok (.iconst 0, 1) := by decide +kernel
theorem dX12_laysDay_17 : decode cX12_laysDay 17 = .ok (.istore_n 3, 1) := by decide +kernel
theorem dX12_laysDay_18 : decode cX12_laysDay 18 = .ok (.iload_n 3, 1) := by decide +kernel
theorem dX12_laysDay_19 : decode cX12_laysDay 19 = .ok (.bipush 120, 2) := by decide +kernel
theorem dX12_laysDay_21 : decode cX12_laysDay 21 = .ok (.if_icmp .ge 136, 3) := by decide +kernel
theorem dX12_laysDay_24 : decode cX12_laysDay 24 = .ok (.aload_n 0, 1) := by decide +kernel
theorem dX12_laysDay_25 : decode cX12_laysDay 25 = .ok (.iload_n 1, 1) := by decide +kernel
theorem dX12_laysDay_26 : decode cX12_laysDay 26 = .ok (.iload_n 3, 1) := by decide +kernel
theorem dX12_laysDay_27 : decode cX12_laysDay 27 = .ok (.invokevirtual 293, 3) := by decide +kernel
theorem dX12_laysDay_30 : decode cX12_laysDay 30 = .ok (.istore 4, 2) := by decide +kernel
theorem dX12_laysDay_32 : decode cX12_laysDay 32 = .ok (.iconst 0, 1) := by decide +kernel
theorem dX12_laysDay_33 : decode cX12_laysDay 33 = .ok (.istore 5, 2) := by decide +kernel
theorem dX12_laysDay_35 : decode cX12_laysDay 35 = .ok (.iload 5, 2) := by decide +kernel
theorem dX12_laysDay_37 : decode cX12_laysDay 37 = .ok (.bipush 100, 2) := by decide +kernel
theorem dX12_laysDay_39 : decode cX12_laysDay 39 = .ok (.if_icmp .ge 53, 3) := by decide +kernel
theorem dX12_laysDay_42 : decode cX12_laysDay 42 = .ok (.iload 4, 2) := by decide +kernel
theorem dX12_laysDay_44 : decode cX12_laysDay 44 = .ok (.iload_n 2, 1) := by decide +kernel
theorem dX12_laysDay_45 : decode cX12_laysDay 45 = .ok (.if_icmp .eq 47, 3) := by decide +kernel
theorem dX12_laysDay_48 : decode cX12_laysDay 48 = .ok (.aload_n 0, 1) := by decide +kernel
theorem dX12_laysDay_49 : decode cX12_laysDay 49 = .ok (.getfield 119, 3) := by decide +kernel
theorem dX12_laysDay_52 : decode cX12_laysDay 52 = .ok (.iload 5, 2) := by decide +kernel
theorem dX12_laysDay_54 : decode cX12_laysDay 54 = .ok (.aload_n 0, 1) := by decide +kernel
theorem dX12_laysDay_55 : decode cX12_laysDay 55 = .ok (.getfield 97, 3) := by decide +kernel
theorem dX12_laysDay_58 : decode cX12_laysDay 58 = .ok (.iload 5, 2) := by decide +kernel
theorem dX12_laysDay_60 : decode cX12_laysDay 60 = .ok (.iaload, 1) := by decide +kernel
theorem dX12_laysDay_61 : decode cX12_laysDay 61 = .ok (.iconst 2, 1) := by decide +kernel
theorem dX12_laysDay_62 : decode cX12_laysDay 62 = .ok (.iconst 3, 1) := by decide +kernel
theorem dX12_laysDay_63 : decode cX12_laysDay 63 = .ok (.invokestatic 289, 3) := by decide +kernel
theorem dX12_laysDay_66 : decode cX12_laysDay 66 = .ok (.ifCond .ne 14, 3) := by decide +kernel
theorem dX12_laysDay_69 : decode cX12_laysDay 69 = .ok (.aload_n 0, 1) := by decide +kernel
theorem dX12_laysDay_70 : decode cX12_laysDay 70 = .ok (.iload 5, 2) := by decide +kernel
theorem dX12_laysDay_72 : decode cX12_laysDay 72 = .ok (.iload 4, 2) := by decide +kernel
theorem dX12_laysDay_74 : decode cX12_laysDay 74 = .ok (.invokevirtual 300, 3) := by decide +kernel
theorem dX12_laysDay_77 : decode cX12_laysDay 77 = .ok (.ifCond .eq 7, 3) := by decide +kernel
theorem dX12_laysDay_80 : decode cX12_laysDay 80 = .ok (.iconst 0, 1) := by decide +kernel
theorem dX12_laysDay_81 : decode cX12_laysDay 81 = .ok (.goto 4, 3) := by decide +kernel
theorem dX12_laysDay_84 : decode cX12_laysDay 84 = .ok (.iconst 1, 1) := by decide +kernel
theorem dX12_laysDay_85 : decode cX12_laysDay 85 = .ok (.iastore, 1) := by decide +kernel
theorem dX12_laysDay_86 : decode cX12_laysDay 86 = .ok (.iinc 5 1, 3) := by decide +kernel
theorem dX12_laysDay_89 : decode cX12_laysDay 89 = .ok (.goto (-54), 3) := by decide +kernel
theorem dX12_laysDay_92 : decode cX12_laysDay 92 = .ok (.iload 4, 2) := by decide +kernel
theorem dX12_laysDay_94 : decode cX12_laysDay 94 = .ok (.istore_n 2, 1) := by decide +kernel
theorem dX12_laysDay_95 : decode cX12_laysDay 95 = .ok (.iconst 0, 1) := by decide +kernel
theorem dX12_laysDay_96 : decode cX12_laysDay 96 = .ok (.istore 5, 2) := by decide +kernel
theorem dX12_laysDay_98 : decode cX12_laysDay 98 = .ok (.iload 5, 2) := by decide +kernel
theorem dX12_laysDay_100 : decode cX12_laysDay 100 = .ok (.bipush 100, 2) := by decide +kernel
theorem dX12_laysDay_102 : decode cX12_laysDay 102 = .ok (.if_icmp .ge 49, 3) := by decide +kernel
theorem dX12_laysDay_105 : decode cX12_laysDay 105 = .ok (.aload_n 0, 1) := by decide +kernel
theorem dX12_laysDay_106 : decode cX12_laysDay 106 = .ok (.getfield 112, 3) := by decide +kernel
theorem dX12_laysDay_109 : decode cX12_laysDay 109 = .ok (.bipush 100, 2) := by decide +kernel
theorem dX12_laysDay_111 : decode cX12_laysDay 111 = .ok (.iload_n 3, 1) := by decide +kernel
theorem dX12_laysDay_112 : decode cX12_laysDay 112 = .ok (.imul, 1) := by decide +kernel
theorem dX12_laysDay_113 : decode cX12_laysDay 113 = .ok (.iload 5, 2) := by decide +kernel
theorem dX12_laysDay_115 : decode cX12_laysDay 115 = .ok (.iadd, 1) := by decide +kernel
theorem dX12_laysDay_116 : decode cX12_laysDay 116 = .ok (.iload_n 2, 1) := by decide +kernel
theorem dX12_laysDay_117 : decode cX12_laysDay 117 = .ok (.ifCond .ge 7, 3) := by decide +kernel
theorem dX12_laysDay_120 : decode cX12_laysDay 120 = .ok (.iconst 0, 1) := by decide +kernel
theorem dX12_laysDay_121 : decode cX12_laysDay 121 = .ok (.goto 10, 3) := by decide +kernel
theorem dX12_laysDay_124 : decode cX12_laysDay 124 = .ok (.aload_n 0, 1) := by decide +kernel
theorem dX12_laysDay_125 : decode cX12_laysDay 125 = .ok (.getfield 119, 3) := by decide +kernel
theorem dX12_laysDay_128 : decode cX12_laysDay 128 = .ok (.iload 5, 2) := by decide +kernel
theorem dX12_laysDay_130 : decode cX12_laysDay 130 = .ok (.iaload, 1) := by decide +kernel
theorem dX12_laysDay_131 : decode cX12_laysDay 131 = .ok (.iastore, 1) := by decide +kernel
theorem dX12_laysDay_132 : decode cX12_laysDay 132 = .ok (.aload_n 0, 1) := by decide +kernel
theorem dX12_laysDay_133 : decode cX12_laysDay 133 = .ok (.getfield 115, 3) := by decide +kernel
theorem dX12_laysDay_136 : decode cX12_laysDay 136 = .ok (.bipush 100, 2) := by decide +kernel
theorem dX12_laysDay_138 : decode cX12_laysDay 138 = .ok (.iload_n 3, 1) := by decide +kernel
theorem dX12_laysDay_139 : decode cX12_laysDay 139 = .ok (.imul, 1) := by decide +kernel
theorem dX12_laysDay_140 : decode cX12_laysDay 140 = .ok (.iload 5, 2) := by decide +kernel
theorem dX12_laysDay_142 : decode cX12_laysDay 142 = .ok (.iadd, 1) := by decide +kernel
theorem dX12_laysDay_143 : decode cX12_laysDay 143 = .ok (.iconst 0, 1) := by decide +kernel
theorem dX12_laysDay_144 : decode cX12_laysDay 144 = .ok (.bastore, 1) := by decide +kernel
theorem dX12_laysDay_145 : decode cX12_laysDay 145 = .ok (.iinc 5 1, 3) := by decide +kernel
theorem dX12_laysDay_148 : decode cX12_laysDay 148 = .ok (.goto (-50), 3) := by decide +kernel
theorem dX12_laysDay_151 : decode cX12_laysDay 151 = .ok (.iinc 3 1, 3) := by decide +kernel
theorem dX12_laysDay_154 : decode cX12_laysDay 154 = .ok (.goto (-136), 3) := by decide +kernel
theorem dX12_laysDay_157 : decode cX12_laysDay 157 = .ok (.iconst 0, 1) := by decide +kernel
theorem dX12_laysDay_158 : decode cX12_laysDay 158 = .ok (.istore_n 3, 1) := by decide +kernel
theorem dX12_laysDay_159 : decode cX12_laysDay 159 = .ok (.iload_n 3, 1) := by decide +kernel
theorem dX12_laysDay_160 : decode cX12_laysDay 160 = .ok (.aload_n 0, 1) := by decide +kernel
theorem dX12_laysDay_161 : decode cX12_laysDay 161 = .ok (.getfield 97, 3) := by decide +kernel
theorem dX12_laysDay_164 : decode cX12_laysDay 164 = .ok (.sipush 200, 3) := by decide +kernel
theorem dX12_laysDay_167 : decode cX12_laysDay 167 = .ok (.iaload, 1) := by decide +kernel
theorem dX12_laysDay_168 : decode cX12_laysDay 168 = .ok (.if_icmp .ge 21, 3) := by decide +kernel
theorem dX12_laysDay_171 : decode cX12_laysDay 171 = .ok (.aload_n 0, 1) := by decide +kernel
theorem dX12_laysDay_172 : decode cX12_laysDay 172 = .ok (.iload_n 1, 1) := by decide +kernel
theorem dX12_laysDay_173 : decode cX12_laysDay 173 = .ok (.sipush 201, 3) := by decide +kernel
theorem dX12_laysDay_176 : decode cX12_laysDay 176 = .ok (.iconst 3, 1) := by decide +kernel
theorem dX12_laysDay_177 : decode cX12_laysDay 177 = .ok (.iload_n 3, 1) := by decide +kernel
theorem dX12_laysDay_178 : decode cX12_laysDay 178 = .ok (.imul, 1) := by decide +kernel
theorem dX12_laysDay_179 : decode cX12_laysDay 179 = .ok (.iadd, 1) := by decide +kernel
theorem dX12_laysDay_180 : decode cX12_laysDay 180 = .ok (.invokevirtual 307, 3) := by decide +kernel
theorem dX12_laysDay_183 : decode cX12_laysDay 183 = .ok (.iinc 3 1, 3) := by decide +kernel
theorem dX12_laysDay_186 : decode cX12_laysDay 186 = .ok (.goto (-27), 3) := by decide +kernel
theorem dX12_laysDay_189 : decode cX12_laysDay 189 = .ok (.return_, 1) := by decide +kernel
theorem dX12_laysCloth_0 : decode cX12_laysCloth 0 = .ok (.aload_n 0, 1) := by decide +kernel
theorem dX12_laysCloth_1 : decode cX12_laysCloth 1 = .ok (.getfield 106, 3) := by decide +kernel
theorem dX12_laysCloth_4 : decode cX12_laysCloth 4 = .ok (.iconst 1, 1) := by decide +kernel
theorem dX12_laysCloth_5 : decode cX12_laysCloth 5 = .ok (.iload_n 1, 1) := by decide +kernel
theorem dX12_laysCloth_6 : decode cX12_laysCloth 6 = .ok (.iastore, 1) := by decide +kernel
theorem dX12_laysCloth_7 : decode cX12_laysCloth 7 = .ok (.iconst 0, 1) := by decide +kernel
theorem dX12_laysCloth_8 : decode cX12_laysCloth 8 = .ok (.istore_n 3, 1) := by decide +kernel
theorem dX12_laysCloth_9 : decode cX12_laysCloth 9 = .ok (.iload_n 3, 1) := by decide +kernel
theorem dX12_laysCloth_10 : decode cX12_laysCloth 10 = .ok (.bipush 120, 2) := by decide +kernel
theorem dX12_laysCloth_12 : decode cX12_laysCloth 12 = .ok (.if_icmp .ge 108, 3) := by decide +kernel
theorem dX12_laysCloth_15 : decode cX12_laysCloth 15 = .ok (.aload_n 0, 1) := by decide +kernel
theorem dX12_laysCloth_16 : decode cX12_laysCloth 16 = .ok (.getfield 106, 3) := by decide +kernel
theorem dX12_laysCloth_19 : decode cX12_laysCloth 19 = .ok (.iconst 0, 1) := by decide +kernel
theorem dX12_laysCloth_20 : decode cX12_laysCloth 20 = .ok (.iload_n 3, 1) := by decide +kernel
theorem dX12_laysCloth_21 : decode cX12_laysCloth 21 = .ok (.iastore, 1) := by decide +kernel
theorem dX12_laysCloth_22 : decode cX12_laysCloth 22 = .ok (.bipush 100, 2) := by decide +kernel
theorem dX12_laysCloth_24 : decode cX12_laysCloth 24 = .ok (.iload_n 3, 1) := by decide +kernel
theorem dX12_laysCloth_25 : decode cX12_laysCloth 25 = .ok (.imul, 1) := by decide +kernel
theorem dX12_laysCloth_26 : decode cX12_laysCloth 26 = .ok (.aload_n 0, 1) := by decide +kernel
theorem dX12_laysCloth_27 : decode cX12_laysCloth 27 = .ok (.getfield 97, 3) := by decide +kernel
theorem dX12_laysCloth_30 : decode cX12_laysCloth 30 = .ok (.iload_n 2, 1) := by decide +kernel
theorem dX12_laysCloth_31 : decode cX12_laysCloth 31 = .ok (.iaload, 1) := by decide +kernel
theorem dX12_laysCloth_32 : decode cX12_laysCloth 32 = .ok (.iadd, 1) := by decide +kernel
theorem dX12_laysCloth_33 : decode cX12_laysCloth 33 = .ok (.istore 4, 2) := by decide +kernel
theorem dX12_laysCloth_35 : decode cX12_laysCloth 35 = .ok (.aload_n 0, 1) := by decide +kernel
theorem dX12_laysCloth_36 : decode cX12_laysCloth 36 = .ok (.aload_n 0, 1) := by decide +kernel
theorem dX12_laysCloth_37 : decode cX12_laysCloth 37 = .ok (.getfield 97, 3) := by decide +kernel
theorem dX12_laysCloth_40 : decode cX12_laysCloth 40 = .ok (.iload_n 2, 1) := by decide +kernel
theorem dX12_laysCloth_41 : decode cX12_laysCloth 41 = .ok (.iconst 2, 1) := by decide +kernel
theorem dX12_laysCloth_42 : decode cX12_laysCloth 42 = .ok (.iadd, 1) := by decide +kernel
theorem dX12_laysCloth_43 : decode cX12_laysCloth 43 = .ok (.iaload, 1) := by decide +kernel
theorem dX12_laysCloth_44 : decode cX12_laysCloth 44 = .ok (.invokevirtual 304, 3) := by decide +kernel
theorem dX12_laysCloth_47 : decode cX12_laysCloth 47 = .ok (.ifCond .eq 67, 3) := by decide +kernel
theorem dX12_laysCloth_50 : decode cX12_laysCloth 50 = .ok (.aload_n 0, 1) := by decide +kernel
theorem dX12_laysCloth_51 : decode cX12_laysCloth 51 = .ok (.getfield 112, 3) := by decide +kernel
theorem dX12_laysCloth_54 : decode cX12_laysCloth 54 = .ok (.iload 4, 2) := by decide +kernel
theorem dX12_laysCloth_56 : decode cX12_laysCloth 56 = .ok (.aload_n 0, 1) := by decide +kernel
theorem dX12_laysCloth_57 : decode cX12_laysCloth 57 = .ok (.getfield 97, 3) := by decide +kernel
theorem dX12_laysCloth_60 : decode cX12_laysCloth 60 = .ok (.iload_n 2, 1) := by decide +kernel
theorem dX12_laysCloth_61 : decode cX12_laysCloth 61 = .ok (.iconst 1, 1) := by decide +kernel
theorem dX12_laysCloth_62 : decode cX12_laysCloth 62 = .ok (.iadd, 1) := by decide +kernel
theorem dX12_laysCloth_63 : decode cX12_laysCloth 63 = .ok (.iaload, 1) := by decide +kernel
theorem dX12_laysCloth_64 : decode cX12_laysCloth 64 = .ok (.iconst 3, 1) := by decide +kernel
theorem dX12_laysCloth_65 : decode cX12_laysCloth 65 = .ok (.if_icmp .ne 7, 3) := by decide +kernel
theorem dX12_laysCloth_68 : decode cX12_laysCloth 68 = .ok (.iconst 0, 1) := by decide +kernel
theorem dX12_laysCloth_69 : decode cX12_laysCloth 69 = .ok (.goto 10, 3) := by decide +kernel
theorem dX12_laysCloth_72 : decode cX12_laysCloth 72 = .ok (.aload_n 0, 1) := by decide +kernel
theorem dX12_laysCloth_73 : decode cX12_laysCloth 73 = .ok (.getfield 112, 3) := by decide +kernel
theorem dX12_laysCloth_76 : decode cX12_laysCloth 76 = .ok (.iload 4, 2) := by decide +kernel
theorem dX12_laysCloth_78 : decode cX12_laysCloth 78 = .ok (.iaload, 1) := by decide +kernel
theorem dX12_laysCloth_79 : decode cX12_laysCloth 79 = .ok (.iastore, 1) := by decide +kernel
theorem dX12_laysCloth_80 : decode cX12_laysCloth 80 = .ok (.aload_n 0, 1) := by decide +kernel
theorem dX12_laysCloth_81 : decode cX12_laysCloth 81 = .ok (.getfield 115, 3) := by decide +kernel
theorem dX12_laysCloth_84 : decode cX12_laysCloth 84 = .ok (.iload 4, 2) := by decide +kernel
theorem dX12_laysCloth_86 : decode cX12_laysCloth 86 = .ok (.aload_n 0, 1) := by decide +kernel
theorem dX12_laysCloth_87 : decode cX12_laysCloth 87 = .ok (.getfield 115, 3) := by decide +kernel
theorem dX12_laysCloth_90 : decode cX12_laysCloth 90 = .ok (.iload 4, 2) := by decide +kernel
theorem dX12_laysCloth_92 : decode cX12_laysCloth 92 = .ok (.baload, 1) := by decide +kernel
theorem dX12_laysCloth_93 : decode cX12_laysCloth 93 = .ok (.ifCond .ne 15, 3) := by decide +kernel
theorem dX12_laysCloth_96 : decode cX12_laysCloth 96 = .ok (.aload_n 0, 1) := by decide +kernel
theorem dX12_laysCloth_97 : decode cX12_laysCloth 97 = .ok (.getfield 97, 3) := by decide +kernel
theorem dX12_laysCloth_100 : decode cX12_laysCloth 100 = .ok (.iload_n 2, 1) := by decide +kernel
theorem dX12_laysCloth_101 : decode cX12_laysCloth 101 = .ok (.iconst 1, 1) := by decide +kernel
theorem dX12_laysCloth_102 : decode cX12_laysCloth 102 = .ok (.iadd, 1) := by decide +kernel
theorem dX12_laysCloth_103 : decode cX12_laysCloth 103 = .ok (.iaload, 1) := by decide +kernel
theorem dX12_laysCloth_104 : decode cX12_laysCloth 104 = .ok (.iconst 4, 1) := by decide +kernel
theorem dX12_laysCloth_105 : decode cX12_laysCloth 105 = .ok (.if_icmp .ne 7, 3) := by decide +kernel
theorem dX12_laysCloth_108 : decode cX12_laysCloth 108 = .ok (.iconst 1, 1) := by decide +kernel
theorem dX12_laysCloth_109 : decode cX12_laysCloth 109 = .ok (.goto 4, 3) := by decide +kernel
theorem dX12_laysCloth_112 : decode cX12_laysCloth 112 = .ok (.iconst 0, 1) := by decide +kernel
theorem dX12_laysCloth_113 : decode cX12_laysCloth 113 = .ok (.bastore, 1) := by decide +kernel
theorem dX12_laysCloth_114 : decode cX12_laysCloth 114 = .ok (.iinc 3 1, 3) := by decide +kernel
theorem dX12_laysCloth_117 : decode cX12_laysCloth 117 = .ok (.goto (-108), 3) := by decide +kernel
theorem dX12_laysCloth_120 : decode cX12_laysCloth 120 = .ok (.return_, 1) := by decide +kernel
theorem dX12_square_0 : decode cX12_square 0 = .ok (.aload_n 0, 1) := by decide +kernel
theorem dX12_square_1 : decode cX12_square 1 = .ok (.iconst 0, 1) := by decide +kernel
theorem dX12_square_2 : decode cX12_square 2 = .ok (.putfield 1, 3) := by decide +kernel
theorem dX12_square_5 : decode cX12_square 5 = .ok (.iload_n 1, 1) := by decide +kernel
theorem dX12_square_6 : decode cX12_square 6 = .ok (.invokestatic 310, 3) := by decide +kernel
theorem dX12_square_9 : decode cX12_square 9 = .ok (.ifCond .eq 26, 3) := by decide +kernel
theorem dX12_square_12 : decode cX12_square 12 = .ok (.iload_n 2, 1) := by decide +kernel
theorem dX12_square_13 : decode cX12_square 13 = .ok (.iconst 0, 1) := by decide +kernel
theorem dX12_square_14 : decode cX12_square 14 = .ok (.iconst 1, 1) := by decide +kernel
theorem dX12_square_15 : decode cX12_square 15 = .ok (.invokestatic 289, 3) := by decide +kernel
theorem dX12_square_18 : decode cX12_square 18 = .ok (.ifCond .eq 17, 3) := by decide +kernel
theorem dX12_square_21 : decode cX12_square 21 = .ok (.aload_n 0, 1) := by decide +kernel
theorem dX12_square_22 : decode cX12_square 22 = .ok (.getfield 97, 3) := by decide +kernel
theorem dX12_square_25 : decode cX12_square 25 = .ok (.bipush 100, 2) := by decide +kernel
theorem dX12_square_27 : decode cX12_square 27 = .ok (.iload_n 2, 1) := by decide +kernel
theorem dX12_square_28 : decode cX12_square 28 = .ok (.imul, 1) := by decide +kernel
theorem dX12_square_29 : decode cX12_square 29 = .ok (.iload_n 1, 1) := by decide +kernel
theorem dX12_square_30 : decode cX12_square 30 = .ok (.iadd, 1) := by decide +kernel
theorem dX12_square_31 : decode cX12_square 31 = .ok (.iaload, 1) := by decide +kernel
theorem dX12_square_32 : decode cX12_square 32 = .ok (.goto 4, 3) := by decide +kernel
theorem dX12_square_35 : decode cX12_square 35 = .ok (.iconst (-1), 1) := by decide +kernel
theorem dX12_square_36 : decode cX12_square 36 = .ok (.ireturn, 1) := by decide +kernel
theorem dX12_shade_0 : decode cX12_shade 0 = .ok (.aload_n 0, 1) := by decide +kernel
theorem dX12_shade_1 : decode cX12_shade 1 = .ok (.iconst 0, 1) := by decide +kernel
theorem dX12_shade_2 : decode cX12_shade 2 = .ok (.putfield 1, 3) := by decide +kernel
theorem dX12_shade_5 : decode cX12_shade 5 = .ok (.iload_n 1, 1) := by decide +kernel
theorem dX12_shade_6 : decode cX12_shade 6 = .ok (.invokestatic 313, 3) := by decide +kernel
theorem dX12_shade_9 : decode cX12_shade 9 = .ok (.ifCond .eq 35, 3) := by decide +kernel
theorem dX12_shade_12 : decode cX12_shade 12 = .ok (.iload_n 2, 1) := by decide +kernel
theorem dX12_shade_13 : decode cX12_shade 13 = .ok (.invokestatic 316, 3) := by decide +kernel
theorem dX12_shade_16 : decode cX12_shade 16 = .ok (.ifCond .eq 28, 3) := by decide +kernel
theorem dX12_shade_19 : decode cX12_shade 19 = .ok (.iload_n 3, 1) := by decide +kernel
theorem dX12_shade_20 : decode cX12_shade 20 = .ok (.invokestatic 310, 3) := by decide +kernel
theorem dX12_shade_23 : decode cX12_shade 23 = .ok (.ifCond .eq 21, 3) := by decide +kernel
theorem dX12_shade_26 : decode cX12_shade 26 = .ok (.aload_n 0, 1) := by decide +kernel
theorem dX12_shade_27 : decode cX12_shade 27 = .ok (.iload_n 1, 1) := by decide +kernel
theorem dX12_shade_28 : decode cX12_shade 28 = .ok (.iload_n 2, 1) := by decide +kernel
theorem dX12_shade_29 : decode cX12_shade 29 = .ok (.iload_n 3, 1) := by decide +kernel
theorem dX12_shade_30 : decode cX12_shade 30 = .ok (.invokevirtual 319, 3) := by decide +kernel
theorem dX12_shade_33 : decode cX12_shade 33 = .ok (.ifCond .eq 7, 3) := by decide +kernel
theorem dX12_shade_36 : decode cX12_shade 36 = .ok (.iconst 1, 1) := by decide +kernel
theorem dX12_shade_37 : decode cX12_shade 37 = .ok (.goto 8, 3) := by decide +kernel
theorem dX12_shade_40 : decode cX12_shade 40 = .ok (.iconst 0, 1) := by decide +kernel
theorem dX12_shade_41 : decode cX12_shade 41 = .ok (.goto 4, 3) := by decide +kernel
theorem dX12_shade_44 : decode cX12_shade 44 = .ok (.iconst (-1), 1) := by decide +kernel
theorem dX12_shade_45 : decode cX12_shade 45 = .ok (.ireturn, 1) := by decide +kernel
theorem dX12_when_0 : decode cX12_when 0 = .ok (.aload_n 0, 1) := by decide +kernel
theorem dX12_when_1 : decode cX12_when 1 = .ok (.iconst 0, 1) := by decide +kernel
theorem dX12_when_2 : decode cX12_when 2 = .ok (.putfield 1, 3) := by decide +kernel
theorem dX12_when_5 : decode cX12_when 5 = .ok (.iload_n 1, 1) := by decide +kernel
theorem dX12_when_6 : decode cX12_when 6 = .ok (.invokestatic 313, 3) := by decide +kernel
theorem dX12_when_9 : decode cX12_when 9 = .ok (.ifCond .eq 17, 3) := by decide +kernel
theorem dX12_when_12 : decode cX12_when 12 = .ok (.iload_n 2, 1) := by decide +kernel
theorem dX12_when_13 : decode cX12_when 13 = .ok (.invokestatic 316, 3) := by decide +kernel
theorem dX12_when_16 : decode cX12_when 16 = .ok (.ifCond .eq 10, 3) := by decide +kernel
theorem dX12_when_19 : decode cX12_when 19 = .ok (.iload_n 3, 1) := by decide +kernel
theorem dX12_when_20 : decode cX12_when 20 = .ok (.invokestatic 310, 3) := by decide +kernel
theorem dX12_when_23 : decode cX12_when 23 = .ok (.ifCond .ne 5, 3) := by decide +kernel
theorem dX12_when_26 : decode cX12_when 26 = .ok (.iconst (-1), 1) := by decide +kernel
theorem dX12_when_27 : decode cX12_when 27 = .ok (.ireturn, 1) := by decide +kernel
theorem dX12_when_28 : decode cX12_when 28 = .ok (.iload_n 2, 1) := by decide +kernel
theorem dX12_when_29 : decode cX12_when 29 = .ok (.istore 5, 2) := by decide +kernel
theorem dX12_when_31 : decode cX12_when 31 = .ok (.iload 5, 2) := by decide +kernel
theorem dX12_when_33 : decode cX12_when 33 = .ok (.bipush 120, 2) := by decide +kernel
theorem dX12_when_35 : decode cX12_when 35 = .ok (.if_icmp .ge 25, 3) := by decide +kernel
theorem dX12_when_38 : decode cX12_when 38 = .ok (.aload_n 0, 1) := by decide +kernel
theorem dX12_when_39 : decode cX12_when 39 = .ok (.iload_n 1, 1) := by decide +kernel
theorem dX12_when_40 : decode cX12_when 40 = .ok (.iload 5, 2) := by decide +kernel
theorem dX12_when_42 : decode cX12_when 42 = .ok (.iload_n 3, 1) := by decide +kernel
theorem dX12_when_43 : decode cX12_when 43 = .ok (.invokevirtual 319, 3) := by decide +kernel
theorem dX12_when_46 : decode cX12_when 46 = .ok (.iload 4, 2) := by decide +kernel
theorem dX12_when_48 : decode cX12_when 48 = .ok (.if_icmp .ne 6, 3) := by decide +kernel
theorem dX12_when_51 : decode cX12_when 51 = .ok (.iload 5, 2) := by decide +kernel
theorem dX12_when_53 : decode cX12_when 53 = .ok (.ireturn, 1) := by decide +kernel
theorem dX12_when_54 : decode cX12_when 54 = .ok (.iinc 5 1, 3) := by decide +kernel
theorem dX12_when_57 : decode cX12_when 57 = .ok (.goto (-26), 3) := by decide +kernel
theorem dX12_when_60 : decode cX12_when 60 = .ok (.iconst (-1), 1) := by decide +kernel
theorem dX12_when_61 : decode cX12_when 61 = .ok (.ireturn, 1) := by decide +kernel
theorem dX12_dim_0 : decode cX12_dim 0 = .ok (.aload_n 0, 1) := by decide +kernel
theorem dX12_dim_1 : decode cX12_dim 1 = .ok (.iconst 0, 1) := by decide +kernel
theorem dX12_dim_2 : decode cX12_dim 2 = .ok (.putfield 1, 3) := by decide +kernel
theorem dX12_dim_5 : decode cX12_dim 5 = .ok (.iload_n 1, 1) := by decide +kernel
theorem dX12_dim_6 : decode cX12_dim 6 = .ok (.invokestatic 313, 3) := by decide +kernel
theorem dX12_dim_9 : decode cX12_dim 9 = .ok (.ifCond .eq 10, 3) := by decide +kernel
theorem dX12_dim_12 : decode cX12_dim 12 = .ok (.iload_n 2, 1) := by decide +kernel
theorem dX12_dim_13 : decode cX12_dim 13 = .ok (.invokestatic 316, 3) := by decide +kernel
theorem dX12_dim_16 : decode cX12_dim 16 = .ok (.ifCond .ne 5, 3) := by decide +kernel
theorem dX12_dim_19 : decode cX12_dim 19 = .ok (.iconst (-1), 1) := by decide +kernel
theorem dX12_dim_20 : decode cX12_dim 20 = .ok (.ireturn, 1) := by decide +kernel
theorem dX12_dim_21 : decode cX12_dim 21 = .ok (.iconst 0, 1) := by decide +kernel
theorem dX12_dim_22 : decode cX12_dim 22 = .ok (.istore_n 3, 1) := by decide +kernel
theorem dX12_dim_23 : decode cX12_dim 23 = .ok (.iconst 0, 1) := by decide +kernel
theorem dX12_dim_24 : decode cX12_dim 24 = .ok (.istore 4, 2) := by decide +kernel
theorem dX12_dim_26 : decode cX12_dim 26 = .ok (.iload 4, 2) := by decide +kernel
theorem dX12_dim_28 : decode cX12_dim 28 = .ok (.bipush 100, 2) := by decide +kernel
theorem dX12_dim_30 : decode cX12_dim 30 = .ok (.if_icmp .ge 39, 3) := by decide +kernel
theorem dX12_dim_33 : decode cX12_dim 33 = .ok (.iload_n 3, 1) := by decide +kernel
theorem dX12_dim_34 : decode cX12_dim 34 = .ok (.aload_n 0, 1) := by decide +kernel
theorem dX12_dim_35 : decode cX12_dim 35 = .ok (.getfield 97, 3) := by decide +kernel
theorem dX12_dim_38 : decode cX12_dim 38 = .ok (.iload 4, 2) := by decide +kernel
theorem dX12_dim_40 : decode cX12_dim 40 = .ok (.iaload, 1) := by decide +kernel
theorem dX12_dim_41 : decode cX12_dim 41 = .ok (.iconst 1, 1) := by decide +kernel
theorem dX12_dim_42 : decode cX12_dim 42 = .ok (.if_icmp .eq 18, 3) := by decide +kernel
theorem dX12_dim_45 : decode cX12_dim 45 = .ok (.aload_n 0, 1) := by decide +kernel
theorem dX12_dim_46 : decode cX12_dim 46 = .ok (.iload_n 1, 1) := by decide +kernel
theorem dX12_dim_47 : decode cX12_dim 47 = .ok (.iload_n 2, 1) := by decide +kernel
theorem dX12_dim_48 : decode cX12_dim 48 = .ok (.iload 4, 2) := by decide +kernel
theorem dX12_dim_50 : decode cX12_dim 50 = .ok (.invokevirtual 319, 3) := by decide +kernel
theorem dX12_dim_53 : decode cX12_dim 53 = .ok (.ifCond .eq 7, 3) := by decide +kernel
theorem dX12_dim_56 : decode cX12_dim 56 = .ok (.iconst 1, 1) := by decide +kernel
theorem dX12_dim_57 : decode cX12_dim 57 = .ok (.goto 4, 3) := by decide +kernel
theorem dX12_dim_60 : decode cX12_dim 60 = .ok (.iconst 0, 1) := by decide +kernel
theorem dX12_dim_61 : decode cX12_dim 61 = .ok (.iadd, 1) := by decide +kernel
theorem dX12_dim_62 : decode cX12_dim 62 = .ok (.istore_n 3, 1) := by decide +kernel
theorem dX12_dim_63 : decode cX12_dim 63 = .ok (.iinc 4 1, 3) := by decide +kernel
theorem dX12_dim_66 : decode cX12_dim 66 = .ok (.goto (-40), 3) := by decide +kernel
theorem dX12_dim_69 : decode cX12_dim 69 = .ok (.iload_n 3, 1) := by decide +kernel
theorem dX12_dim_70 : decode cX12_dim 70 = .ok (.ireturn, 1) := by decide +kernel
theorem dX12_shutAt_0 : decode cX12_shutAt 0 = .ok (.aload_n 0, 1) := by decide +kernel
theorem dX12_shutAt_1 : decode cX12_shutAt 1 = .ok (.iconst 0, 1) := by decide +kernel
theorem dX12_shutAt_2 : decode cX12_shutAt 2 = .ok (.putfield 1, 3) := by decide +kernel
theorem dX12_shutAt_5 : decode cX12_shutAt 5 = .ok (.iload_n 1, 1) := by decide +kernel
theorem dX12_shutAt_6 : decode cX12_shutAt 6 = .ok (.invokestatic 313, 3) := by decide +kernel
theorem dX12_shutAt_9 : decode cX12_shutAt 9 = .ok (.ifCond .eq 36, 3) := by decide +kernel
theorem dX12_shutAt_12 : decode cX12_shutAt 12 = .ok (.iload_n 2, 1) := by decide +kernel
theorem dX12_shutAt_13 : decode cX12_shutAt 13 = .ok (.invokestatic 316, 3) := by decide +kernel
theorem dX12_shutAt_16 : decode cX12_shutAt 16 = .ok (.ifCond .eq 29, 3) := by decide +kernel
theorem dX12_shutAt_19 : decode cX12_shutAt 19 = .ok (.iload_n 3, 1) := by decide +kernel
theorem dX12_shutAt_20 : decode cX12_shutAt 20 = .ok (.invokestatic 310, 3) := by decide +kernel
theorem dX12_shutAt_23 : decode cX12_shutAt 23 = .ok (.ifCond .eq 22, 3) := by decide +kernel
theorem dX12_shutAt_26 : decode cX12_shutAt 26 = .ok (.aload_n 0, 1) := by decide +kernel
theorem dX12_shutAt_27 : decode cX12_shutAt 27 = .ok (.iload_n 1, 1) := by decide +kernel
theorem dX12_shutAt_28 : decode cX12_shutAt 28 = .ok (.iload_n 2, 1) := by decide +kernel
theorem dX12_shutAt_29 : decode cX12_shutAt 29 = .ok (.iload_n 3, 1) := by decide +kernel
theorem dX12_shutAt_30 : decode cX12_shutAt 30 = .ok (.iconst 4, 1) := by decide +kernel
theorem dX12_shutAt_31 : decode cX12_shutAt 31 = .ok (.invokevirtual 296, 3) := by decide +kernel
theorem dX12_shutAt_34 : decode cX12_shutAt 34 = .ok (.ifCond .eq 7, 3) := by decide +kernel
theorem dX12_shutAt_37 : decode cX12_shutAt 37 = .ok (.iconst 1, 1) := by decide +kernel
theorem dX12_shutAt_38 : decode cX12_shutAt 38 = .ok (.goto 8, 3) := by decide +kernel
theorem dX12_shutAt_41 : decode cX12_shutAt 41 = .ok (.iconst 0, 1) := by decide +kernel
theorem dX12_shutAt_42 : decode cX12_shutAt 42 = .ok (.goto 4, 3) := by decide +kernel
theorem dX12_shutAt_45 : decode cX12_shutAt 45 = .ok (.iconst (-1), 1) := by decide +kernel
theorem dX12_shutAt_46 : decode cX12_shutAt 46 = .ok (.ireturn, 1) := by decide +kernel
theorem dX12_isWalker_0 : decode cX12_isWalker 0 = .ok (.iload_n 1, 1) := by decide +kernel
theorem dX12_isWalker_1 : decode cX12_isWalker 1 = .ok (.iconst 0, 1) := by decide +kernel
theorem dX12_isWalker_2 : decode cX12_isWalker 2 = .ok (.iconst 5, 1) := by decide +kernel
theorem dX12_isWalker_3 : decode cX12_isWalker 3 = .ok (.invokestatic 289, 3) := by decide +kernel
theorem dX12_isWalker_6 : decode cX12_isWalker 6 = .ok (.ifCond .eq 23, 3) := by decide +kernel
theorem dX12_isWalker_9 : decode cX12_isWalker 9 = .ok (.aload_n 0, 1) := by decide +kernel
theorem dX12_isWalker_10 : decode cX12_isWalker 10 = .ok (.getfield 97, 3) := by decide +kernel
theorem dX12_isWalker_13 : decode cX12_isWalker 13 = .ok (.sipush 382, 3) := by decide +kernel
theorem dX12_isWalker_16 : decode cX12_isWalker 16 = .ok (.bipush 7, 2) := by decide +kernel
theorem dX12_isWalker_18 : decode cX12_isWalker 18 = .ok (.iload_n 1, 1) := by decide +kernel
theorem dX12_isWalker_19 : decode cX12_isWalker 19 = .ok (.imul, 1) := by decide +kernel
theorem dX12_isWalker_20 : decode cX12_isWalker 20 = .ok (.iadd, 1) := by decide +kernel
theorem dX12_isWalker_21 : decode cX12_isWalker 21 = .ok (.iaload, 1) := by decide +kernel
theorem dX12_isWalker_22 : decode cX12_isWalker 22 = .ok (.ifCond .le 7, 3) := by decide +kernel
theorem dX12_isWalker_25 : decode cX12_isWalker 25 = .ok (.iconst 1, 1) := by decide +kernel
theorem dX12_isWalker_26 : decode cX12_isWalker 26 = .ok (.goto 4, 3) := by decide +kernel
theorem dX12_isWalker_29 : decode cX12_isWalker 29 = .ok (.iconst 0, 1) := by decide +kernel
theorem dX12_isWalker_30 : decode cX12_isWalker 30 = .ok (.ireturn, 1) := by decide +kernel
theorem dX12_walkerOf_0 : decode cX12_walkerOf 0 = .ok (.aload_n 0, 1) := by decide +kernel
theorem dX12_walkerOf_1 : decode cX12_walkerOf 1 = .ok (.getfield 97, 3) := by decide +kernel
theorem dX12_walkerOf_4 : decode cX12_walkerOf 4 = .ok (.sipush 382, 3) := by decide +kernel
theorem dX12_walkerOf_7 : decode cX12_walkerOf 7 = .ok (.bipush 7, 2) := by decide +kernel
theorem dX12_walkerOf_9 : decode cX12_walkerOf 9 = .ok (.iload_n 1, 1) := by decide +kernel
theorem dX12_walkerOf_10 : decode cX12_walkerOf 10 = .ok (.imul, 1) := by decide +kernel
theorem dX12_walkerOf_11 : decode cX12_walkerOf 11 = .ok (.iadd, 1) := by decide +kernel
theorem dX12_walkerOf_12 : decode cX12_walkerOf 12 = .ok (.iconst 1, 1) := by decide +kernel
theorem dX12_walkerOf_13 : decode cX12_walkerOf 13 = .ok (.iadd, 1) := by decide +kernel
theorem dX12_walkerOf_14 : decode cX12_walkerOf 14 = .ok (.iload_n 2, 1) := by decide +kernel
theorem dX12_walkerOf_15 : decode cX12_walkerOf 15 = .ok (.iadd, 1) := by decide +kernel
theorem dX12_walkerOf_16 : decode cX12_walkerOf 16 = .ok (.iaload, 1) := by decide +kernel
theorem dX12_walkerOf_17 : decode cX12_walkerOf 17 = .ok (.ireturn, 1) := by decide +kernel
theorem dX12_isPlace_0 : decode cX12_isPlace 0 = .ok (.iload_n 1, 1) := by decide +kernel
theorem dX12_isPlace_1 : decode cX12_isPlace 1 = .ok (.invokestatic 310, 3) := by decide +kernel
theorem dX12_isPlace_4 : decode cX12_isPlace 4 = .ok (.ifCond .eq 17, 3) := by decide +kernel
theorem dX12_isPlace_7 : decode cX12_isPlace 7 = .ok (.aload_n 0, 1) := by decide +kernel
theorem dX12_isPlace_8 : decode cX12_isPlace 8 = .ok (.getfield 97, 3) := by decide +kernel
theorem dX12_isPlace_11 : decode cX12_isPlace 11 = .ok (.iload_n 1, 1) := by decide +kernel
theorem dX12_isPlace_12 : decode cX12_isPlace 12 = .ok (.iaload, 1) := by decide +kernel
theorem dX12_isPlace_13 : decode cX12_isPlace 13 = .ok (.iconst 1, 1) := by decide +kernel
theorem dX12_isPlace_14 : decode cX12_isPlace 14 = .ok (.if_icmp .eq 7, 3) := by decide +kernel
theorem dX12_isPlace_17 : decode cX12_isPlace 17 = .ok (.iconst 1, 1) := by decide +kernel
theorem dX12_isPlace_18 : decode cX12_isPlace 18 = .ok (.goto 4, 3) := by decide +kernel
theorem dX12_isPlace_21 : decode cX12_isPlace 21 = .ok (.iconst 0, 1) := by decide +kernel
theorem dX12_isPlace_22 : decode cX12_isPlace 22 = .ok (.ireturn, 1) := by decide +kernel
theorem dX12_isTrip_0 : decode cX12_isTrip 0 = .ok (.aload_n 0, 1) := by decide +kernel
theorem dX12_isTrip_1 : decode cX12_isTrip 1 = .ok (.iload_n 1, 1) := by decide +kernel
theorem dX12_isTrip_2 : decode cX12_isTrip 2 = .ok (.invokevirtual 322, 3) := by decide +kernel
theorem dX12_isTrip_5 : decode cX12_isTrip 5 = .ok (.ifCond .eq 39, 3) := by decide +kernel
theorem dX12_isTrip_8 : decode cX12_isTrip 8 = .ok (.iload_n 2, 1) := by decide +kernel
theorem dX12_isTrip_9 : decode cX12_isTrip 9 = .ok (.invokestatic 313, 3) := by decide +kernel
theorem dX12_isTrip_12 : decode cX12_isTrip 12 = .ok (.ifCond .eq 32, 3) := by decide +kernel
theorem dX12_isTrip_15 : decode cX12_isTrip 15 = .ok (.iload_n 3, 1) := by decide +kernel
theorem dX12_isTrip_16 : decode cX12_isTrip 16 = .ok (.invokestatic 316, 3) := by decide +kernel
theorem dX12_isTrip_19 : decode cX12_isTrip 19 = .ok (.ifCond .eq 25, 3) := by decide +kernel
theorem dX12_isTrip_22 : decode cX12_isTrip 22 = .ok (.aload_n 0, 1) := by decide +kernel
theorem dX12_isTrip_23 : decode cX12_isTrip 23 = .ok (.iload 4, 2) := by decide +kernel
theorem dX12_isTrip_25 : decode cX12_isTrip 25 = .ok (.invokevirtual 325, 3) := by decide +kernel
theorem dX12_isTrip_28 : decode cX12_isTrip 28 = .ok (.ifCond .eq 16, 3) := by decide +kernel
theorem dX12_isTrip_31 : decode cX12_isTrip 31 = .ok (.aload_n 0, 1) := by decide +kernel
theorem dX12_isTrip_32 : decode cX12_isTrip 32 = .ok (.iload 5, 2) := by decide +kernel
theorem dX12_isTrip_34 : decode cX12_isTrip 34 = .ok (.invokevirtual 325, 3) := by decide +kernel
theorem dX12_isTrip_37 : decode cX12_isTrip 37 = .ok (.ifCond .eq 7, 3) := by decide +kernel
theorem dX12_isTrip_40 : decode cX12_isTrip 40 = .ok (.iconst 1, 1) := by decide +kernel
theorem dX12_isTrip_41 : decode cX12_isTrip 41 = .ok (.goto 4, 3) := by decide +kernel
theorem dX12_isTrip_44 : decode cX12_isTrip 44 = .ok (.iconst 0, 1) := by decide +kernel
theorem dX12_isTrip_45 : decode cX12_isTrip 45 = .ok (.ireturn, 1) := by decide +kernel
theorem dX12_stepTo_0 : decode cX12_stepTo 0 = .ok (.iload_n 0, 1) := by decide +kernel
theorem dX12_stepTo_1 : decode cX12_stepTo 1 = .ok (.bipush 10, 2) := by decide +kernel
theorem dX12_stepTo_3 : decode cX12_stepTo 3 = .ok (.irem, 1) := by decide +kernel
theorem dX12_stepTo_4 : decode cX12_stepTo 4 = .ok (.iload_n 1, 1) := by decide +kernel
theorem dX12_stepTo_5 : decode cX12_stepTo 5 = .ok (.iconst 1, 1) := by decide +kernel
theorem dX12_stepTo_6 : decode cX12_stepTo 6 = .ok (.if_icmp .ne 7, 3) := by decide +kernel
theorem dX12_stepTo_9 : decode cX12_stepTo 9 = .ok (.iconst 1, 1) := by decide +kernel
theorem dX12_stepTo_10 : decode cX12_stepTo 10 = .ok (.goto 13, 3) := by decide +kernel
theorem dX12_stepTo_13 : decode cX12_stepTo 13 = .ok (.iload_n 1, 1) := by decide +kernel
theorem dX12_stepTo_14 : decode cX12_stepTo 14 = .ok (.iconst 3, 1) := by decide +kernel
theorem dX12_stepTo_15 : decode cX12_stepTo 15 = .ok (.if_icmp .ne 7, 3) := by decide +kernel
theorem dX12_stepTo_18 : decode cX12_stepTo 18 = .ok (.iconst (-1), 1) := by decide +kernel
theorem dX12_stepTo_19 : decode cX12_stepTo 19 = .ok (.goto 4, 3) := by decide +kernel
theorem dX12_stepTo_22 : decode cX12_stepTo 22 = .ok (.iconst 0, 1) := by decide +kernel
theorem dX12_stepTo_23 : decode cX12_stepTo 23 = .ok (.iadd, 1) := by decide +kernel
theorem dX12_stepTo_24 : decode cX12_stepTo 24 = .ok (.istore_n 2, 1) := by decide +kernel
theorem dX12_stepTo_25 : decode cX12_stepTo 25 = .ok (.iload_n 0, 1) := by decide +kernel
theorem dX12_stepTo_26 : decode cX12_stepTo 26 = .ok (.bipush 10, 2) := by decide +kernel
theorem dX12_stepTo_28 : decode cX12_stepTo 28 = .ok (.idiv, 1) := by decide +kernel
theorem dX12_stepTo_29 : decode cX12_stepTo 29 = .ok (.iload_n 1, 1) := by decide +kernel
theorem dX12_stepTo_30 : decode cX12_stepTo 30 = .ok (.iconst 2, 1) := by decide +kernel
theorem dX12_stepTo_31 : decode cX12_stepTo 31 = .ok (.if_icmp .ne 7, 3) := by decide +kernel
theorem dX12_stepTo_34 : decode cX12_stepTo 34 = .ok (.iconst 1, 1) := by decide +kernel
theorem dX12_stepTo_35 : decode cX12_stepTo 35 = .ok (.goto 12, 3) := by decide +kernel
theorem dX12_stepTo_38 : decode cX12_stepTo 38 = .ok (.iload_n 1, 1) := by decide +kernel
theorem dX12_stepTo_39 : decode cX12_stepTo 39 = .ok (.ifCond .ne 7, 3) := by decide +kernel
theorem dX12_stepTo_42 : decode cX12_stepTo 42 = .ok (.iconst (-1), 1) := by decide +kernel
theorem dX12_stepTo_43 : decode cX12_stepTo 43 = .ok (.goto 4, 3) := by decide +kernel
theorem dX12_stepTo_46 : decode cX12_stepTo 46 = .ok (.iconst 0, 1) := by decide +kernel
theorem dX12_stepTo_47 : decode cX12_stepTo 47 = .ok (.iadd, 1) := by decide +kernel
theorem dX12_stepTo_48 : decode cX12_stepTo 48 = .ok (.istore_n 3, 1) := by decide +kernel
theorem dX12_stepTo_49 : decode cX12_stepTo 49 = .ok (.iload_n 2, 1) := by decide +kernel
theorem dX12_stepTo_50 : decode cX12_stepTo 50 = .ok (.iconst 0, 1) := by decide +kernel
theorem dX12_stepTo_51 : decode cX12_stepTo 51 = .ok (.bipush 9, 2) := by decide +kernel
theorem dX12_stepTo_53 : decode cX12_stepTo 53 = .ok (.invokestatic 289, 3) := by decide +kernel
theorem dX12_stepTo_56 : decode cX12_stepTo 56 = .ok (.ifCond .eq 22, 3) := by decide +kernel
theorem dX12_stepTo_59 : decode cX12_stepTo 59 = .ok (.iload_n 3, 1) := by decide +kernel
theorem dX12_stepTo_60 : decode cX12_stepTo 60 = .ok (.iconst 0, 1) := by decide +kernel
theorem dX12_stepTo_61 : decode cX12_stepTo 61 = .ok (.bipush 9, 2) := by decide +kernel
theorem dX12_stepTo_63 : decode cX12_stepTo 63 = .ok (.invokestatic 289, 3) := by decide +kernel
theorem dX12_stepTo_66 : decode cX12_stepTo 66 = .ok (.ifCond .eq 12, 3) := by decide +kernel
theorem dX12_stepTo_69 : decode cX12_stepTo 69 = .ok (.bipush 10, 2) := by decide +kernel
theorem dX12_stepTo_71 : decode cX12_stepTo 71 = .ok (.iload_n 3, 1) := by decide +kernel
theorem dX12_stepTo_72 : decode cX12_stepTo 72 = .ok (.imul, 1) := by decide +kernel
theorem dX12_stepTo_73 : decode cX12_stepTo 73 = .ok (.iload_n 2, 1) := by decide +kernel
theorem dX12_stepTo_74 : decode cX12_stepTo 74 = .ok (.iadd, 1) := by decide +kernel
theorem dX12_stepTo_75 : decode cX12_stepTo 75 = .ok (.goto 4, 3) := by decide +kernel
theorem dX12_stepTo_78 : decode cX12_stepTo 78 = .ok (.iconst (-1), 1) := by decide +kernel
theorem dX12_stepTo_79 : decode cX12_stepTo 79 = .ok (.ireturn, 1) := by decide +kernel
theorem dX12_behind_0 : decode cX12_behind 0 = .ok (.iload_n 1, 1) := by decide +kernel
theorem dX12_behind_1 : decode cX12_behind 1 = .ok (.iload_n 3, 1) := by decide +kernel
theorem dX12_behind_2 : decode cX12_behind 2 = .ok (.iconst 4, 1) := by decide +kernel
theorem dX12_behind_3 : decode cX12_behind 3 = .ok (.if_icmp .ne 7, 3) := by decide +kernel
theorem dX12_behind_6 : decode cX12_behind 6 = .ok (.iconst 1, 1) := by decide +kernel
theorem dX12_behind_7 : decode cX12_behind 7 = .ok (.goto 5, 3) := by decide +kernel
theorem dX12_behind_10 : decode cX12_behind 10 = .ok (.iload 4, 2) := by decide +kernel
theorem dX12_behind_12 : decode cX12_behind 12 = .ok (.iadd, 1) := by decide +kernel
theorem dX12_behind_13 : decode cX12_behind 13 = .ok (.istore 5, 2) := by decide +kernel
theorem dX12_behind_15 : decode cX12_behind 15 = .ok (.iload_n 3, 1) := by decide +kernel
theorem dX12_behind_16 : decode cX12_behind 16 = .ok (.iconst 4, 1) := by decide +kernel
theorem dX12_behind_17 : decode cX12_behind 17 = .ok (.if_icmp .ne 7, 3) := by decide +kernel
theorem dX12_behind_20 : decode cX12_behind 20 = .ok (.iload_n 2, 1) := by decide +kernel
theorem dX12_behind_21 : decode cX12_behind 21 = .ok (.goto 8, 3) := by decide +kernel
theorem dX12_behind_24 : decode cX12_behind 24 = .ok (.iload_n 2, 1) := by decide +kernel
theorem dX12_behind_25 : decode cX12_behind 25 = .ok (.iload_n 3, 1) := by decide +kernel
theorem dX12_behind_26 : decode cX12_behind 26 = .ok (.invokestatic 328, 3) := by decide +kernel
theorem dX12_behind_29 : decode cX12_behind 29 = .ok (.istore 6, 2) := by decide +kernel
theorem dX12_behind_31 : decode cX12_behind 31 = .ok (.iload 5, 2) := by decide +kernel
theorem dX12_behind_33 : decode cX12_behind 33 = .ok (.bipush 119, 2) := by decide +kernel
theorem dX12_behind_35 : decode cX12_behind 35 = .ok (.if_icmp .gt 41, 3) := by decide +kernel
theorem dX12_behind_38 : decode cX12_behind 38 = .ok (.iload 6, 2) := by decide +kernel
theorem dX12_behind_40 : decode cX12_behind 40 = .ok (.iconst (-1), 1) := by decide +kernel
theorem dX12_behind_41 : decode cX12_behind 41 = .ok (.if_icmp .eq 35, 3) := by decide +kernel
theorem dX12_behind_44 : decode cX12_behind 44 = .ok (.aload_n 0, 1) := by decide +kernel
theorem dX12_behind_45 : decode cX12_behind 45 = .ok (.getfield 97, 3) := by decide +kernel
theorem dX12_behind_48 : decode cX12_behind 48 = .ok (.iload 6, 2) := by decide +kernel
theorem dX12_behind_50 : decode cX12_behind 50 = .ok (.iaload, 1) := by decide +kernel
theorem dX12_behind_51 : decode cX12_behind 51 = .ok (.iconst 1, 1) := by decide +kernel
theorem dX12_behind_52 : decode cX12_behind 52 = .ok (.if_icmp .eq 24, 3) := by decide +kernel
theorem dX12_behind_55 : decode cX12_behind 55 = .ok (.iload_n 3, 1) := by decide +kernel
theorem dX12_behind_56 : decode cX12_behind 56 = .ok (.iconst 4, 1) := by decide +kernel
theorem dX12_behind_57 : decode cX12_behind 57 = .ok (.if_icmp .eq 21, 3) := by decide +kernel
theorem dX12_behind_60 : decode cX12_behind 60 = .ok (.aload_n 0, 1) := by decide +kernel
theorem dX12_behind_61 : decode cX12_behind 61 = .ok (.getfield 115, 3) := by decide +kernel
theorem dX12_behind_64 : decode cX12_behind 64 = .ok (.bipush 100, 2) := by decide +kernel
theorem dX12_behind_66 : decode cX12_behind 66 = .ok (.iload 5, 2) := by decide +kernel
theorem dX12_behind_68 : decode cX12_behind 68 = .ok (.imul, 1) := by decide +kernel
theorem dX12_behind_69 : decode cX12_behind 69 = .ok (.iload 6, 2) := by decide +kernel
theorem dX12_behind_71 : decode cX12_behind 71 = .ok (.iadd, 1) := by decide +kernel
theorem dX12_behind_72 : decode cX12_behind 72 = .ok (.baload, 1) := by decide +kernel
theorem dX12_behind_73 : decode cX12_behind 73 = .ok (.ifCond .eq 5, 3) := by decide +kernel
theorem dX12_behind_76 : decode cX12_behind 76 = .ok (.iconst (-1), 1) := by decide +kernel
theorem dX12_behind_77 : decode cX12_behind 77 = .ok (.ireturn, 1) := by decide +kernel
theorem dX12_behind_78 : decode cX12_behind 78 = .ok (.bipush 100, 2) := by decide +kernel
theorem dX12_behind_80 : decode cX12_behind 80 = .ok (.iload 5, 2) := by decide +kernel
theorem dX12_behind_82 : decode cX12_behind 82 = .ok (.imul, 1) := by decide +kernel
theorem dX12_behind_83 : decode cX12_behind 83 = .ok (.iload 6, 2) := by decide +kernel
theorem dX12_behind_85 : decode cX12_behind 85 = .ok (.iadd, 1) := by decide +kernel
theorem dX12_behind_86 : decode cX12_behind 86 = .ok (.ireturn, 1) := by decide +kernel
theorem dX12_costOf_0 : decode cX12_costOf 0 = .ok (.iconst 0, 1) := by decide +kernel
theorem dX12_costOf_1 : decode cX12_costOf 1 = .ok (.istore 5, 2) := by decide +kernel
theorem dX12_costOf_3 : decode cX12_costOf 3 = .ok (.iload_n 1, 1) := by decide +kernel
theorem dX12_costOf_4 : decode cX12_costOf 4 = .ok (.istore 6, 2) := by decide +kernel
theorem dX12_costOf_6 : decode cX12_costOf 6 = .ok (.iload 6, 2) := by decide +kernel
theorem dX12_costOf_8 : decode cX12_costOf 8 = .ok (.iload_n 1, 1) := by decide +kernel
theorem dX12_costOf_9 : decode cX12_costOf 9 = .ok (.iload_n 3, 1) := by decide +kernel
theorem dX12_costOf_10 : decode cX12_costOf 10 = .ok (.iconst 4, 1) := by decide +kernel
theorem dX12_costOf_11 : decode cX12_costOf 11 = .ok (.if_icmp .ne 7, 3) := by decide +kernel
theorem dX12_costOf_14 : decode cX12_costOf 14 = .ok (.iconst 1, 1) := by decide +kernel
theorem dX12_costOf_15 : decode cX12_costOf 15 = .ok (.goto 5, 3) := by decide +kernel
theorem dX12_costOf_18 : decode cX12_costOf 18 = .ok (.iload 4, 2) := by decide +kernel
theorem dX12_costOf_20 : decode cX12_costOf 20 = .ok (.iadd, 1) := by decide +kernel
theorem dX12_costOf_21 : decode cX12_costOf 21 = .ok (.if_icmp .ge 26, 3) := by decide +kernel
theorem dX12_costOf_24 : decode cX12_costOf 24 = .ok (.iload 5, 2) := by decide +kernel
theorem dX12_costOf_26 : decode cX12_costOf 26 = .ok (.aload_n 0, 1) := by decide +kernel
theorem dX12_costOf_27 : decode cX12_costOf 27 = .ok (.getfield 122, 3) := by decide +kernel
theorem dX12_costOf_30 : decode cX12_costOf 30 = .ok (.bipush 100, 2) := by decide +kernel
theorem dX12_costOf_32 : decode cX12_costOf 32 = .ok (.iload 6, 2) := by decide +kernel
theorem dX12_costOf_34 : decode cX12_costOf 34 = .ok (.imul, 1) := by decide +kernel
theorem dX12_costOf_35 : decode cX12_costOf 35 = .ok (.iload_n 2, 1) := by decide +kernel
theorem dX12_costOf_36 : decode cX12_costOf 36 = .ok (.iadd, 1) := by decide +kernel
theorem dX12_costOf_37 : decode cX12_costOf 37 = .ok (.iaload, 1) := by decide +kernel
theorem dX12_costOf_38 : decode cX12_costOf 38 = .ok (.iadd, 1) := by decide +kernel
theorem dX12_costOf_39 : decode cX12_costOf 39 = .ok (.istore 5, 2) := by decide +kernel
theorem dX12_costOf_41 : decode cX12_costOf 41 = .ok (.iinc 6 1, 3) := by decide +kernel
theorem dX12_costOf_44 : decode cX12_costOf 44 = .ok (.goto (-38), 3) := by decide +kernel
theorem dX12_costOf_47 : decode cX12_costOf 47 = .ok (.iload 5, 2) := by decide +kernel
theorem dX12_costOf_49 : decode cX12_costOf 49 = .ok (.ireturn, 1) := by decide +kernel
theorem dX12_findLeast_0 : decode cX12_findLeast 0 = .ok (.sipush 11999, 3) := by decide +kernel
theorem dX12_findLeast_3 : decode cX12_findLeast 3 = .ok (.istore 5, 2) := by decide +kernel
theorem dX12_findLeast_5 : decode cX12_findLeast 5 = .ok (.iload 5, 2) := by decide +kernel
theorem dX12_findLeast_7 : decode cX12_findLeast 7 = .ok (.ifCond .lt 270, 3) := by decide +kernel
theorem dX12_findLeast_10 : decode cX12_findLeast 10 = .ok (.aload_n 0, 1) := by decide +kernel
theorem dX12_findLeast_11 : decode cX12_findLeast 11 = .ok (.getfield 125, 3) := by decide +kernel
theorem dX12_findLeast_14 : decode cX12_findLeast 14 = .ok (.iload 5, 2) := by decide +kernel
theorem dX12_findLeast_16 : decode cX12_findLeast 16 = .ok (.ldc_w 331, 3) := by decide +kernel
theorem dX12_findLeast_19 : decode cX12_findLeast 19 = .ok (.iastore, 1) := by decide +kernel
theorem dX12_findLeast_20 : decode cX12_findLeast 20 = .ok (.aload_n 0, 1) := by decide +kernel
theorem dX12_findLeast_21 : decode cX12_findLeast 21 = .ok (.getfield 128, 3) := by decide +kernel
theorem dX12_findLeast_24 : decode cX12_findLeast 24 = .ok (.iload 5, 2) := by decide +kernel
theorem dX12_findLeast_26 : decode cX12_findLeast 26 = .ok (.ldc_w 331, 3) := by decide +kernel
theorem dX12_findLeast_29 : decode cX12_findLeast 29 = .ok (.iastore, 1) := by decide +kernel
theorem dX12_findLeast_30 : decode cX12_findLeast 30 = .ok (.iload 5, 2) := by decide +kernel
theorem dX12_findLeast_32 : decode cX12_findLeast 32 = .ok (.bipush 100, 2) := by decide +kernel
theorem dX12_findLeast_34 : decode cX12_findLeast 34 = .ok (.idiv, 1) := by decide +kernel
theorem dX12_findLeast_35 : decode cX12_findLeast 35 = .ok (.istore 6, 2) := by decide +kernel
theorem dX12_findLeast_37 : decode cX12_findLeast 37 = .ok (.iload 5, 2) := by decide +kernel
theorem dX12_findLeast_39 : decode cX12_findLeast 39 = .ok (.bipush 100, 2) := by decide +kernel
theorem dX12_findLeast_41 : decode cX12_findLeast 41 = .ok (.irem, 1) := by decide +kernel
theorem dX12_findLeast_42 : decode cX12_findLeast 42 = .ok (.istore 7, 2) := by decide +kernel
theorem dX12_findLeast_44 : decode cX12_findLeast 44 = .ok (.iload 6, 2) := by decide +kernel
theorem dX12_findLeast_46 : decode cX12_findLeast 46 = .ok (.iload 4, 2) := by decide +kernel
theorem dX12_findLeast_48 : decode cX12_findLeast 48 = .ok (.if_icmp .gt 29, 3) := by decide +kernel
theorem dX12_findLeast_51 : decode cX12_findLeast 51 = .ok (.iload 7, 2) := by decide +kernel
theorem dX12_findLeast_53 : decode cX12_findLeast 53 = .ok (.iload_n 1, 1) := by decide +kernel
theorem dX12_findLeast_54 : decode cX12_findLeast 54 = .ok (.if_icmp .ne 23, 3) := by decide +kernel
theorem dX12_findLeast_57 : decode cX12_findLeast 57 = .ok (.aload_n 0, 1) := by decide +kernel
theorem dX12_findLeast_58 : decode cX12_findLeast 58 = .ok (.getfield 125, 3) := by decide +kernel
theorem dX12_findLeast_61 : decode cX12_findLeast 61 = .ok (.iload 5, 2) := by decide +kernel
theorem dX12_findLeast_63 : decode cX12_findLeast 63 = .ok (.iconst 0, 1) := by decide +kernel
theorem dX12_findLeast_64 : decode cX12_findLeast 64 = .ok (.iastore, 1) := by decide +kernel
theorem dX12_findLeast_65 : decode cX12_findLeast 65 = .ok (.aload_n 0, 1) := by decide +kernel
theorem dX12_findLeast_66 : decode cX12_findLeast 66 = .ok (.getfield 128, 3) := by decide +kernel
theorem dX12_findLeast_69 : decode cX12_findLeast 69 = .ok (.iload 5, 2) := by decide +kernel
theorem dX12_findLeast_71 : decode cX12_findLeast 71 = .ok (.iload 6, 2) := by decide +kernel
theorem dX12_findLeast_73 : decode cX12_findLeast 73 = .ok (.iastore, 1) := by decide +kernel
theorem dX12_findLeast_74 : decode cX12_findLeast 74 = .ok (.goto 197, 3) := by decide +kernel
theorem dX12_findLeast_77 : decode cX12_findLeast 77 = .ok (.iload 6, 2) := by decide +kernel
theorem dX12_findLeast_79 : decode cX12_findLeast 79 = .ok (.iload 4, 2) := by decide +kernel
theorem dX12_findLeast_81 : decode cX12_findLeast 81 = .ok (.if_icmp .ge 190, 3) := by decide +kernel
theorem dX12_findLeast_84 : decode cX12_findLeast 84 = .ok (.aload_n 0, 1) := by decide +kernel
theorem dX12_findLeast_85 : decode cX12_findLeast 85 = .ok (.getfield 97, 3) := by decide +kernel
theorem dX12_findLeast_88 : decode cX12_findLeast 88 = .ok (.iload 7, 2) := by decide +kernel
theorem dX12_findLeast_90 : decode cX12_findLeast 90 = .ok (.iaload, 1) := by decide +kernel
theorem dX12_findLeast_91 : decode cX12_findLeast 91 = .ok (.iconst 1, 1) := by decide +kernel
theorem dX12_findLeast_92 : decode cX12_findLeast 92 = .ok (.if_icmp .eq 179, 3) := by decide +kernel
theorem dX12_findLeast_95 : decode cX12_findLeast 95 = .ok (.iconst 0, 1) := by decide +kernel
theorem dX12_findLeast_96 : decode cX12_findLeast 96 = .ok (.istore 8, 2) := by decide +kernel
theorem dX12_findLeast_98 : decode cX12_findLeast 98 = .ok (.iload 8, 2) := by decide +kernel
theorem dX12_findLeast_100 : decode cX12_findLeast 100 = .ok (.iload_n 3, 1) := by decide +kernel
theorem dX12_findLeast_101 : decode cX12_findLeast 101 = .ok (.ifCond .eq 7, 3) := by decide +kernel
theorem dX12_findLeast_104 : decode cX12_findLeast 104 = .ok (.iconst 5, 1) := by decide +kernel
theorem dX12_findLeast_105 : decode cX12_findLeast 105 = .ok (.goto 4, 3) := by decide +kernel
theorem dX12_findLeast_108 : decode cX12_findLeast 108 = .ok (.iconst 4, 1) := by decide +kernel
theorem dX12_findLeast_109 : decode cX12_findLeast 109 = .ok (.if_icmp .ge 162, 3) := by decide +kernel
theorem dX12_findLeast_112 : decode cX12_findLeast 112 = .ok (.aload_n 0, 1) := by decide +kernel
theorem dX12_findLeast_113 : decode cX12_findLeast 113 = .ok (.iload 6, 2) := by decide +kernel
theorem dX12_findLeast_115 : decode cX12_findLeast 115 = .ok (.iload 7, 2) := by decide +kernel
theorem dX12_findLeast_117 : decode cX12_findLeast 117 = .ok (.iload 8, 2) := by decide +kernel
theorem dX12_findLeast_119 : decode cX12_findLeast 119 = .ok (.iload_n 2, 1) := by decide +kernel
theorem dX12_findLeast_120 : decode cX12_findLeast 120 = .ok (.invokevirtual 332, 3) := by decide +kernel
theorem dX12_findLeast_123 : decode cX12_findLeast 123 = .ok (.istore 9, 2) := by decide +kernel
theorem dX12_findLeast_125 : decode cX12_findLeast 125 = .ok (.iload 9, 2) := by decide +kernel
theorem dX12_findLeast_127 : decode cX12_findLeast 127 = .ok (.ifCond .lt 138, 3) := by decide +kernel
theorem dX12_findLeast_130 : decode cX12_findLeast 130 = .ok (.aload_n 0, 1) := by decide +kernel
theorem dX12_findLeast_131 : decode cX12_findLeast 131 = .ok (.getfield 125, 3) := by decide +kernel
theorem dX12_findLeast_134 : decode cX12_findLeast 134 = .ok (.iload 9, 2) := by decide +kernel
theorem dX12_findLeast_136 : decode cX12_findLeast 136 = .ok (.iaload, 1) := by decide +kernel
theorem dX12_findLeast_137 : decode cX12_findLeast 137 = .ok (.ldc_w 331, 3) := by decide +kernel
theorem dX12_findLeast_140 : decode cX12_findLeast 140 = .ok (.if_icmp .ge 125, 3) := by decide +kernel
theorem dX12_findLeast_143 : decode cX12_findLeast 143 = .ok (.aload_n 0, 1) := by decide +kernel
theorem dX12_findLeast_144 : decode cX12_findLeast 144 = .ok (.iload 6, 2) := by decide +kernel
theorem dX12_findLeast_146 : decode cX12_findLeast 146 = .ok (.iload 7, 2) := by decide +kernel
theorem dX12_findLeast_148 : decode cX12_findLeast 148 = .ok (.iload 8, 2) := by decide +kernel
theorem dX12_findLeast_150 : decode cX12_findLeast 150 = .ok (.iload_n 2, 1) := by decide +kernel
theorem dX12_findLeast_151 : decode cX12_findLeast 151 = .ok (.invokevirtual 336, 3) := by decide +kernel
theorem dX12_findLeast_154 : decode cX12_findLeast 154 = .ok (.aload_n 0, 1) := by decide +kernel
theorem dX12_findLeast_155 : decode cX12_findLeast 155 = .ok (.getfield 125, 3) := by decide +kernel
theorem dX12_findLeast_158 : decode cX12_findLeast 158 = .ok (.iload 9, 2) := by decide +kernel
theorem dX12_findLeast_160 : decode cX12_findLeast 160 = .ok (.iaload, 1) := by decide +kernel
theorem dX12_findLeast_161 : decode cX12_findLeast 161 = .ok (.iadd, 1) := by decide +kernel
theorem dX12_findLeast_162 : decode cX12_findLeast 162 = .ok (.istore 10, 2) := by decide +kernel
theorem dX12_findLeast_164 : decode cX12_findLeast 164 = .ok (.iload 10, 2) := by decide +kernel
theorem dX12_findLeast_166 : decode cX12_findLeast 166 = .ok (.aload_n 0, 1) := by decide +kernel
theorem dX12_findLeast_167 : decode cX12_findLeast 167 = .ok (.getfield 125, 3) := by decide +kernel
theorem dX12_findLeast_170 : decode cX12_findLeast 170 = .ok (.iload 5, 2) := by decide +kernel
theorem dX12_findLeast_172 : decode cX12_findLeast 172 = .ok (.iaload, 1) := by decide +kernel
theorem dX12_findLeast_173 : decode cX12_findLeast 173 = .ok (.if_icmp .lt 32, 3) := by decide +kernel
theorem dX12_findLeast_176 : decode cX12_findLeast 176 = .ok (.iload 10, 2) := by decide +kernel
theorem dX12_findLeast_178 : decode cX12_findLeast 178 = .ok (.aload_n 0, 1) := by decide +kernel
theorem dX12_findLeast_179 : decode cX12_findLeast 179 = .ok (.getfield 125, 3) := by decide +kernel
theorem dX12_findLeast_182 : decode cX12_findLeast 182 = .ok (.iload 5, 2) := by decide +kernel
theorem dX12_findLeast_184 : decode cX12_findLeast 184 = .ok (.iaload, 1) := by decide +kernel
theorem dX12_findLeast_185 : decode cX12_findLeast 185 = .ok (.if_icmp .ne 24, 3) := by decide +kernel
theorem dX12_findLeast_188 : decode cX12_findLeast 188 = .ok (.aload_n 0, 1) := by decide +kernel
theorem dX12_findLeast_189 : decode cX12_findLeast 189 = .ok (.getfield 128, 3) := by decide +kernel
theorem dX12_findLeast_192 : decode cX12_findLeast 192 = .ok (.iload 9, 2) := by decide +kernel
theorem dX12_findLeast_194 : decode cX12_findLeast 194 = .ok (.iaload, 1) := by decide +kernel
theorem dX12_findLeast_195 : decode cX12_findLeast 195 = .ok (.aload_n 0, 1) := by decide +kernel
theorem dX12_findLeast_196 : decode cX12_findLeast 196 = .ok (.getfield 128, 3) := by decide +kernel
theorem dX12_findLeast_199 : decode cX12_findLeast 199 = .ok (.iload 5, 2) := by decide +kernel
theorem dX12_findLeast_201 : decode cX12_findLeast 201 = .ok (.iaload, 1) := by decide +kernel
theorem dX12_findLeast_202 : decode cX12_findLeast 202 = .ok (.if_icmp .ge 7, 3) := by decide +kernel
theorem dX12_findLeast_205 : decode cX12_findLeast 205 = .ok (.iconst 1, 1) := by decide +kernel
theorem dX12_findLeast_206 : decode cX12_findLeast 206 = .ok (.goto 4, 3) := by decide +kernel
theorem dX12_findLeast_209 : decode cX12_findLeast 209 = .ok (.iconst 0, 1) := by decide +kernel
theorem dX12_findLeast_210 : decode cX12_findLeast 210 = .ok (.istore 11, 2) := by decide +kernel
theorem dX12_findLeast_212 : decode cX12_findLeast 212 = .ok (.aload_n 0, 1) := by decide +kernel
theorem dX12_findLeast_213 : decode cX12_findLeast 213 = .ok (.getfield 128, 3) := by decide +kernel
theorem dX12_findLeast_216 : decode cX12_findLeast 216 = .ok (.iload 5, 2) := by decide +kernel
theorem dX12_findLeast_218 : decode cX12_findLeast 218 = .ok (.iload 11, 2) := by decide +kernel
theorem dX12_findLeast_220 : decode cX12_findLeast 220 = .ok (.ifCond .eq 13, 3) := by decide +kernel
theorem dX12_findLeast_223 : decode cX12_findLeast 223 = .ok (.aload_n 0, 1) := by decide +kernel
theorem dX12_findLeast_224 : decode cX12_findLeast 224 = .ok (.getfield 128, 3) := by decide +kernel
theorem dX12_findLeast_227 : decode cX12_findLeast 227 = .ok (.iload 9, 2) := by decide +kernel
theorem dX12_findLeast_229 : decode cX12_findLeast 229 = .ok (.iaload, 1) := by decide +kernel
theorem dX12_findLeast_230 : decode cX12_findLeast 230 = .ok (.goto 10, 3) := by decide +kernel
theorem dX12_findLeast_233 : decode cX12_findLeast 233 = .ok (.aload_n 0, 1) := by decide +kernel
theorem dX12_findLeast_234 : decode cX12_findLeast 234 = .ok (.getfield 128, 3) := by decide +kernel
theorem dX12_findLeast_237 : decode cX12_findLeast 237 = .ok (.iload 5, 2) := by decide +kernel
theorem dX12_findLeast_239 : decode cX12_findLeast 239 = .ok (.iaload, 1) := by decide +kernel
theorem dX12_findLeast_240 : decode cX12_findLeast 240 = .ok (.iastore, 1) := by decide +kernel
theorem dX12_findLeast_241 : decode cX12_findLeast 241 = .ok (.aload_n 0, 1) := by decide +kernel
theorem dX12_findLeast_242 : decode cX12_findLeast 242 = .ok (.getfield 125, 3) := by decide +kernel
theorem dX12_findLeast_245 : decode cX12_findLeast 245 = .ok (.iload 5, 2) := by decide +kernel
theorem dX12_findLeast_247 : decode cX12_findLeast 247 = .ok (.iload 11, 2) := by decide +kernel
theorem dX12_findLeast_249 : decode cX12_findLeast 249 = .ok (.ifCond .eq 8, 3) := by decide +kernel
theorem dX12_findLeast_252 : decode cX12_findLeast 252 = .ok (.iload 10, 2) := by decide +kernel
theorem dX12_findLeast_254 : decode cX12_findLeast 254 = .ok (.goto 10, 3) := by decide +kernel
theorem dX12_findLeast_257 : decode cX12_findLeast 257 = .ok (.aload_n 0, 1) := by decide +kernel
theorem dX12_findLeast_258 : decode cX12_findLeast 258 = .ok (.getfield 125, 3) := by decide +kernel
theorem dX12_findLeast_261 : decode cX12_findLeast 261 = .ok (.iload 5, 2) := by decide +kernel
theorem dX12_findLeast_263 : decode cX12_findLeast 263 = .ok (.iaload, 1) := by decide +kernel
theorem dX12_findLeast_264 : decode cX12_findLeast 264 = .ok (.iastore, 1) := by decide +kernel
theorem dX12_findLeast_265 : decode cX12_findLeast 265 = .ok (.iinc 8 1, 3) := by decide +kernel
theorem dX12_findLeast_268 : decode cX12_findLeast 268 = .ok (.goto (-170), 3) := by decide +kernel
theorem dX12_findLeast_271 : decode cX12_findLeast 271 = .ok (.iinc 5 (-1), 3) := by decide +kernel
theorem dX12_findLeast_274 : decode cX12_findLeast 274 = .ok (.goto (-269), 3) := by decide +kernel
theorem dX12_findLeast_277 : decode cX12_findLeast 277 = .ok (.return_, 1) := by decide +kernel
theorem dX12_costsSun_0 : decode cX12_costsSun 0 = .ok (.iconst 0, 1) := by decide +kernel
theorem dX12_costsSun_1 : decode cX12_costsSun 1 = .ok (.istore_n 1, 1) := by decide +kernel
theorem dX12_costsSun_2 : decode cX12_costsSun 2 = .ok (.iload_n 1, 1) := by decide +kernel
theorem dX12_costsSun_3 : decode cX12_costsSun 3 = .ok (.sipush 12000, 3) := by decide +kernel
theorem dX12_costsSun_6 : decode cX12_costsSun 6 = .ok (.if_icmp .ge 21, 3) := by decide +kernel
theorem dX12_costsSun_9 : decode cX12_costsSun 9 = .ok (.aload_n 0, 1) := by decide +kernel
theorem dX12_costsSun_10 : decode cX12_costsSun 10 = .ok (.getfield 122, 3) := by decide +kernel
theorem dX12_costsSun_13 : decode cX12_costsSun 13 = .ok (.iload_n 1, 1) := by decide +kernel
theorem dX12_costsSun_14 : decode cX12_costsSun 14 = .ok (.aload_n 0, 1) := by decide +kernel
theorem dX12_costsSun_15 : decode cX12_costsSun 15 = .ok (.getfield 112, 3) := by decide +kernel
theorem dX12_costsSun_18 : decode cX12_costsSun 18 = .ok (.iload_n 1, 1) := by decide +kernel
theorem dX12_costsSun_19 : decode cX12_costsSun 19 = .ok (.iaload, 1) := by decide +kernel
theorem dX12_costsSun_20 : decode cX12_costsSun 20 = .ok (.iastore, 1) := by decide +kernel
theorem dX12_costsSun_21 : decode cX12_costsSun 21 = .ok (.iinc 1 1, 3) := by decide +kernel
theorem dX12_costsSun_24 : decode cX12_costsSun 24 = .ok (.goto (-22), 3) := by decide +kernel
theorem dX12_costsSun_27 : decode cX12_costsSun 27 = .ok (.return_, 1) := by decide +kernel
theorem dX12_findSun_0 : decode cX12_findSun 0 = .ok (.aload_n 0, 1) := by decide +kernel
theorem dX12_findSun_1 : decode cX12_findSun 1 = .ok (.iload_n 2, 1) := by decide +kernel
theorem dX12_findSun_2 : decode cX12_findSun 2 = .ok (.invokevirtual 339, 3) := by decide +kernel
theorem dX12_findSun_5 : decode cX12_findSun 5 = .ok (.aload_n 0, 1) := by decide +kernel
theorem dX12_findSun_6 : decode cX12_findSun 6 = .ok (.invokevirtual 342, 3) := by decide +kernel
theorem dX12_findSun_9 : decode cX12_findSun 9 = .ok (.aload_n 0, 1) := by decide +kernel
theorem dX12_findSun_10 : decode cX12_findSun 10 = .ok (.iload_n 3, 1) := by decide +kernel
theorem dX12_findSun_11 : decode cX12_findSun 11 = .ok (.aload_n 0, 1) := by decide +kernel
theorem dX12_findSun_12 : decode cX12_findSun 12 = .ok (.iload_n 1, 1) := by decide +kernel
theorem dX12_findSun_13 : decode cX12_findSun 13 = .ok (.iconst 0, 1) := by decide +kernel
theorem dX12_findSun_14 : decode cX12_findSun 14 = .ok (.invokevirtual 345, 3) := by decide +kernel
theorem dX12_findSun_17 : decode cX12_findSun 17 = .ok (.iconst 1, 1) := by decide +kernel
theorem dX12_findSun_18 : decode cX12_findSun 18 = .ok (.bipush 119, 2) := by decide +kernel
theorem dX12_findSun_20 : decode cX12_findSun 20 = .ok (.invokevirtual 348, 3) := by decide +kernel
theorem dX12_findSun_23 : decode cX12_findSun 23 = .ok (.return_, 1) := by decide +kernel
theorem dX12_findWay_0 : decode cX12_findWay 0 = .ok (.aload_n 0, 1) := by decide +kernel
theorem dX12_findWay_1 : decode cX12_findWay 1 = .ok (.iconst 0, 1) := by decide +kernel
theorem dX12_findWay_2 : decode cX12_findWay 2 = .ok (.putfield 352, 3) := by decide +kernel
theorem dX12_findWay_5 : decode cX12_findWay 5 = .ok (.iconst 0, 1) := by decide +kernel
theorem dX12_findWay_6 : decode cX12_findWay 6 = .ok (.istore 5, 2) := by decide +kernel
theorem dX12_findWay_8 : decode cX12_findWay 8 = .ok (.iload 5, 2) := by decide +kernel
theorem dX12_findWay_10 : decode cX12_findWay 10 = .ok (.bipush 120, 2) := by decide +kernel
theorem dX12_findWay_12 : decode cX12_findWay 12 = .ok (.if_icmp .ge 17, 3) := by decide +kernel
theorem dX12_findWay_15 : decode cX12_findWay 15 = .ok (.aload_n 0, 1) := by decide +kernel
theorem dX12_findWay_16 : decode cX12_findWay 16 = .ok (.getfield 134, 3) := by decide +kernel
theorem dX12_findWay_19 : decode cX12_findWay 19 = .ok (.iload 5, 2) := by decide +kernel
theorem dX12_findWay_21 : decode cX12_findWay 21 = .ok (.iconst (-1), 1) := by decide +kernel
theorem dX12_findWay_22 : decode cX12_findWay 22 = .ok (.iastore, 1) := by decide +kernel
theorem dX12_findWay_23 : decode cX12_findWay 23 = .ok (.iinc 5 1, 3) := by decide +kernel
theorem dX12_findWay_26 : decode cX12_findWay 26 = .ok (.goto (-18), 3) := by decide +kernel
theorem dX12_findWay_29 : decode cX12_findWay 29 = .ok (.bipush 100, 2) := by decide +kernel
theorem dX12_findWay_31 : decode cX12_findWay 31 = .ok (.iload_n 1, 1) := by decide +kernel
theorem dX12_findWay_32 : decode cX12_findWay 32 = .ok (.imul, 1) := by decide +kernel
theorem dX12_findWay_33 : decode cX12_findWay 33 = .ok (.iload_n 2, 1) := by decide +kernel
theorem dX12_findWay_34 : decode cX12_findWay 34 = .ok (.iadd, 1) := by decide +kernel
theorem dX12_findWay_35 : decode cX12_findWay 35 = .ok (.istore 5, 2) := by decide +kernel
theorem dX12_findWay_37 : decode cX12_findWay 37 = .ok (.iload 5, 2) := by decide +kernel
theorem dX12_findWay_39 : decode cX12_findWay 39 = .ok (.bipush 100, 2) := by decide +kernel
theorem dX12_findWay_41 : decode cX12_findWay 41 = .ok (.irem, 1) := by decide +kernel
theorem dX12_findWay_42 : decode cX12_findWay 42 = .ok (.iload_n 3, 1) := by decide +kernel
theorem dX12_findWay_43 : decode cX12_findWay 43 = .ok (.if_icmp .eq 173, 3) := by decide +kernel
theorem dX12_findWay_46 : decode cX12_findWay 46 = .ok (.iconst 0, 1) := by decide +kernel
theorem dX12_findWay_47 : decode cX12_findWay 47 = .ok (.istore 6, 2) := by decide +kernel
theorem dX12_findWay_49 : decode cX12_findWay 49 = .ok (.aload_n 0, 1) := by decide +kernel
theorem dX12_findWay_50 : decode cX12_findWay 50 = .ok (.iload 5, 2) := by decide +kernel
theorem dX12_findWay_52 : decode cX12_findWay 52 = .ok (.bipush 100, 2) := by decide +kernel
theorem dX12_findWay_54 : decode cX12_findWay 54 = .ok (.idiv, 1) := by decide +kernel
theorem dX12_findWay_55 : decode cX12_findWay 55 = .ok (.iload 5, 2) := by decide +kernel
theorem dX12_findWay_57 : decode cX12_findWay 57 = .ok (.bipush 100, 2) := by decide +kernel
theorem dX12_findWay_59 : decode cX12_findWay 59 = .ok (.irem, 1) := by decide +kernel
theorem dX12_findWay_60 : decode cX12_findWay 60 = .ok (.iload 6, 2) := by decide +kernel
theorem dX12_findWay_62 : decode cX12_findWay 62 = .ok (.iload 4, 2) := by decide +kernel
theorem dX12_findWay_64 : decode cX12_findWay 64 = .ok (.invokevirtual 332, 3) := by decide +kernel
theorem dX12_findWay_67 : decode cX12_findWay 67 = .ok (.istore 7, 2) := by decide +kernel
theorem dX12_findWay_69 : decode cX12_findWay 69 = .ok (.iload 7, 2) := by decide +kernel
theorem dX12_findWay_71 : decode cX12_findWay 71 = .ok (.ifCond .lt 56, 3) := by decide +kernel
theorem dX12_findWay_74 : decode cX12_findWay 74 = .ok (.aload_n 0, 1) := by decide +kernel
theorem dX12_findWay_75 : decode cX12_findWay 75 = .ok (.getfield 128, 3) := by decide +kernel
theorem dX12_findWay_78 : decode cX12_findWay 78 = .ok (.iload 7, 2) := by decide +kernel
theorem dX12_findWay_80 : decode cX12_findWay 80 = .ok (.iaload, 1) := by decide +kernel
theorem dX12_findWay_81 : decode cX12_findWay 81 = .ok (.aload_n 0, 1) := by decide +kernel
theorem dX12_findWay_82 : decode cX12_findWay 82 = .ok (.getfield 128, 3) := by decide +kernel
theorem dX12_findWay_85 : decode cX12_findWay 85 = .ok (.iload 5, 2) := by decide +kernel
theorem dX12_findWay_87 : decode cX12_findWay 87 = .ok (.iaload, 1) := by decide +kernel
theorem dX12_findWay_88 : decode cX12_findWay 88 = .ok (.if_icmp .ne 39, 3) := by decide +kernel
theorem dX12_findWay_91 : decode cX12_findWay 91 = .ok (.aload_n 0, 1) := by decide +kernel
theorem dX12_findWay_92 : decode cX12_findWay 92 = .ok (.iload 5, 2) := by decide +kernel
theorem dX12_findWay_94 : decode cX12_findWay 94 = .ok (.bipush 100, 2) := by decide +kernel
theorem dX12_findWay_96 : decode cX12_findWay 96 = .ok (.idiv, 1) := by decide +kernel
theorem dX12_findWay_97 : decode cX12_findWay 97 = .ok (.iload 5, 2) := by decide +kernel
theorem dX12_findWay_99 : decode cX12_findWay 99 = .ok (.bipush 100, 2) := by decide +kernel
theorem dX12_findWay_101 : decode cX12_findWay 101 = .ok (.irem, 1) := by decide +kernel
theorem dX12_findWay_102 : decode cX12_findWay 102 = .ok (.iload 6, 2) := by decide +kernel
theorem dX12_findWay_104 : decode cX12_findWay 104 = .ok (.iload 4, 2) := by decide +kernel
theorem dX12_findWay_106 : decode cX12_findWay 106 = .ok (.invokevirtual 336, 3) := by decide +kernel
theorem dX12_findWay_109 : decode cX12_findWay 109 = .ok (.aload_n 0, 1) := by decide +kernel
theorem dX12_findWay_110 : decode cX12_findWay 110 = .ok (.getfield 125, 3) := by decide +kernel
theorem dX12_findWay_113 : decode cX12_findWay 113 = .ok (.iload 7, 2) := by decide +kernel
theorem dX12_findWay_115 : decode cX12_findWay 115 = .ok (.iaload, 1) := by decide +kernel
theorem dX12_findWay_116 : decode cX12_findWay 116 = .ok (.iadd, 1) := by decide +kernel
theorem dX12_findWay_117 : decode cX12_findWay 117 = .ok (.aload_n 0, 1) := by decide +kernel
theorem dX12_findWay_118 : decode cX12_findWay 118 = .ok (.getfield 125, 3) := by decide +kernel
theorem dX12_findWay_121 : decode cX12_findWay 121 = .ok (.iload 5, 2) := by decide +kernel
theorem dX12_findWay_123 : decode cX12_findWay 123 = .ok (.iaload, 1) := by decide +kernel
theorem dX12_findWay_124 : decode cX12_findWay 124 = .ok (.if_icmp .eq 29, 3) := by decide +kernel
theorem dX12_findWay_127 : decode cX12_findWay 127 = .ok (.iinc 6 1, 3) := by decide +kernel
theorem dX12_findWay_130 : decode cX12_findWay 130 = .ok (.aload_n 0, 1) := by decide +kernel
theorem dX12_findWay_131 : decode cX12_findWay 131 = .ok (.iload 5, 2) := by decide +kernel
theorem dX12_findWay_133 : decode cX12_findWay 133 = .ok (.bipush 100, 2) := by decide +kernel
theorem dX12_findWay_135 : decode cX12_findWay 135 = .ok (.idiv, 1) := by decide +kernel
theorem dX12_findWay_136 : decode cX12_findWay 136 = .ok (.iload 5, 2) := by decide +kernel
theorem dX12_findWay_138 : decode cX12_findWay 138 = .ok (.bipush 100, 2) := by decide +kernel
theorem dX12_findWay_140 : decode cX12_findWay 140 = .ok (.irem, 1) := by decide +kernel
theorem dX12_findWay_141 : decode cX12_findWay 141 = .ok (.iload 6, 2) := by decide +kernel
theorem dX12_findWay_143 : decode cX12_findWay 143 = .ok (.iload 4, 2) := by decide +kernel
theorem dX12_findWay_145 : decode cX12_findWay 145 = .ok (.invokevirtual 332, 3) := by decide +kernel
theorem dX12_findWay_148 : decode cX12_findWay 148 = .ok (.istore 7, 2) := by decide +kernel
theorem dX12_findWay_150 : decode cX12_findWay 150 = .ok (.goto (-81), 3) := by decide +kernel
theorem dX12_findWay_153 : decode cX12_findWay 153 = .ok (.iload 5, 2) := by decide +kernel
theorem dX12_findWay_155 : decode cX12_findWay 155 = .ok (.bipush 100, 2) := by decide +kernel
theorem dX12_findWay_157 : decode cX12_findWay 157 = .ok (.idiv, 1) := by decide +kernel
theorem dX12_findWay_158 : decode cX12_findWay 158 = .ok (.istore 8, 2) := by decide +kernel
theorem dX12_findWay_160 : decode cX12_findWay 160 = .ok (.iload 8, 2) := by decide +kernel
theorem dX12_findWay_162 : decode cX12_findWay 162 = .ok (.iload 7, 2) := by decide +kernel
theorem dX12_findWay_164 : decode cX12_findWay 164 = .ok (.bipush 100, 2) := by decide +kernel
theorem dX12_findWay_166 : decode cX12_findWay 166 = .ok (.idiv, 1) := by decide +kernel
theorem dX12_findWay_167 : decode cX12_findWay 167 = .ok (.if_icmp .ge 21, 3) := by decide +kernel
theorem dX12_findWay_170 : decode cX12_findWay 170 = .ok (.aload_n 0, 1) := by decide +kernel
theorem dX12_findWay_171 : decode cX12_findWay 171 = .ok (.getfield 134, 3) := by decide +kernel
theorem dX12_findWay_174 : decode cX12_findWay 174 = .ok (.iload 8, 2) := by decide +kernel
theorem dX12_findWay_176 : decode cX12_findWay 176 = .ok (.iload 5, 2) := by decide +kernel
theorem dX12_findWay_178 : decode cX12_findWay 178 = .ok (.bipush 100, 2) := by decide +kernel
theorem dX12_findWay_180 : decode cX12_findWay 180 = .ok (.irem, 1) := by decide +kernel
theorem dX12_findWay_181 : decode cX12_findWay 181 = .ok (.iastore, 1) := by decide +kernel
theorem dX12_findWay_182 : decode cX12_findWay 182 = .ok (.iinc 8 1, 3) := by decide +kernel
theorem dX12_findWay_185 : decode cX12_findWay 185 = .ok (.goto (-25), 3) := by decide +kernel
theorem dX12_findWay_188 : decode cX12_findWay 188 = .ok (.aload_n 0, 1) := by decide +kernel
theorem dX12_findWay_189 : decode cX12_findWay 189 = .ok (.getfield 131, 3) := by decide +kernel
theorem dX12_findWay_192 : decode cX12_findWay 192 = .ok (.aload_n 0, 1) := by decide +kernel
theorem dX12_findWay_193 : decode cX12_findWay 193 = .ok (.getfield 352, 3) := by decide +kernel
theorem dX12_findWay_196 : decode cX12_findWay 196 = .ok (.iload 6, 2) := by decide +kernel
theorem dX12_findWay_198 : decode cX12_findWay 198 = .ok (.iastore, 1) := by decide +kernel
theorem dX12_findWay_199 : decode cX12_findWay 199 = .ok (.aload_n 0, 1) := by decide +kernel
theorem dX12_findWay_200 : decode cX12_findWay 200 = .ok (.dup, 1) := by decide +kernel
theorem dX12_findWay_201 : decode cX12_findWay 201 = .ok (.getfield 352, 3) := by decide +kernel
theorem dX12_findWay_204 : decode cX12_findWay 204 = .ok (.iconst 1, 1) := by decide +kernel
theorem dX12_findWay_205 : decode cX12_findWay 205 = .ok (.iadd, 1) := by decide +kernel
theorem dX12_findWay_206 : decode cX12_findWay 206 = .ok (.putfield 352, 3) := by decide +kernel
theorem dX12_findWay_209 : decode cX12_findWay 209 = .ok (.iload 7, 2) := by decide +kernel
theorem dX12_findWay_211 : decode cX12_findWay 211 = .ok (.istore 5, 2) := by decide +kernel
theorem dX12_findWay_213 : decode cX12_findWay 213 = .ok (.goto (-176), 3) := by decide +kernel
theorem dX12_findWay_216 : decode cX12_findWay 216 = .ok (.return_, 1) := by decide +kernel
theorem dX12_least_0 : decode cX12_least 0 = .ok (.aload_n 0, 1) := by decide +kernel
theorem dX12_least_1 : decode cX12_least 1 = .ok (.aload_n 0, 1) := by decide +kernel
theorem dX12_least_2 : decode cX12_least 2 = .ok (.iload_n 1, 1) := by decide +kernel
theorem dX12_least_3 : decode cX12_least 3 = .ok (.iload_n 2, 1) := by decide +kernel
theorem dX12_least_4 : decode cX12_least 4 = .ok (.iload_n 3, 1) := by decide +kernel
theorem dX12_least_5 : decode cX12_least 5 = .ok (.iload 4, 2) := by decide +kernel
theorem dX12_least_7 : decode cX12_least 7 = .ok (.iload 5, 2) := by decide +kernel
theorem dX12_least_9 : decode cX12_least 9 = .ok (.invokevirtual 355, 3) := by decide +kernel
theorem dX12_least_12 : decode cX12_least 12 = .ok (.ifCond .eq 17, 3) := by decide +kernel
theorem dX12_least_15 : decode cX12_least 15 = .ok (.iload 6, 2) := by decide +kernel
theorem dX12_least_17 : decode cX12_least 17 = .ok (.iconst 0, 1) := by decide +kernel
theorem dX12_least_18 : decode cX12_least 18 = .ok (.iconst 2, 1) := by decide +kernel
theorem dX12_least_19 : decode cX12_least 19 = .ok (.invokestatic 289, 3) := by decide +kernel
theorem dX12_least_22 : decode cX12_least 22 = .ok (.ifCond .eq 7, 3) := by decide +kernel
theorem dX12_least_25 : decode cX12_least 25 = .ok (.iconst 0, 1) := by decide +kernel
theorem dX12_least_26 : decode cX12_least 26 = .ok (.goto 4, 3) := by decide +kernel
theorem dX12_least_29 : decode cX12_least 29 = .ok (.iconst 1, 1) := by decide +kernel
theorem dX12_least_30 : decode cX12_least 30 = .ok (.putfield 1, 3) := by decide +kernel
theorem dX12_least_33 : decode cX12_least 33 = .ok (.aload_n 0, 1) := by decide +kernel
theorem dX12_least_34 : decode cX12_least 34 = .ok (.getfield 1, 3) := by decide +kernel
theorem dX12_least_37 : decode cX12_least 37 = .ok (.ifCond .le 5, 3) := by decide +kernel
theorem dX12_least_40 : decode cX12_least 40 = .ok (.iconst 0, 1) := by decide +kernel
theorem dX12_least_41 : decode cX12_least 41 = .ok (.ireturn, 1) := by decide +kernel
theorem dX12_least_42 : decode cX12_least 42 = .ok (.aload_n 0, 1) := by decide +kernel
theorem dX12_least_43 : decode cX12_least 43 = .ok (.iload_n 1, 1) := by decide +kernel
theorem dX12_least_44 : decode cX12_least 44 = .ok (.iload_n 2, 1) := by decide +kernel
theorem dX12_least_45 : decode cX12_least 45 = .ok (.iload 5, 2) := by decide +kernel
theorem dX12_least_47 : decode cX12_least 47 = .ok (.invokevirtual 359, 3) := by decide +kernel
theorem dX12_least_50 : decode cX12_least 50 = .ok (.bipush 100, 2) := by decide +kernel
theorem dX12_least_52 : decode cX12_least 52 = .ok (.iload_n 3, 1) := by decide +kernel
theorem dX12_least_53 : decode cX12_least 53 = .ok (.imul, 1) := by decide +kernel
theorem dX12_least_54 : decode cX12_least 54 = .ok (.iload 4, 2) := by decide +kernel
theorem dX12_least_56 : decode cX12_least 56 = .ok (.iadd, 1) := by decide +kernel
theorem dX12_least_57 : decode cX12_least 57 = .ok (.istore 7, 2) := by decide +kernel
theorem dX12_least_59 : decode cX12_least 59 = .ok (.aload_n 0, 1) := by decide +kernel
theorem dX12_least_60 : decode cX12_least 60 = .ok (.aload_n 0, 1) := by decide +kernel
theorem dX12_least_61 : decode cX12_least 61 = .ok (.getfield 125, 3) := by decide +kernel
theorem dX12_least_64 : decode cX12_least 64 = .ok (.iload 7, 2) := by decide +kernel
theorem dX12_least_66 : decode cX12_least 66 = .ok (.iaload, 1) := by decide +kernel
theorem dX12_least_67 : decode cX12_least 67 = .ok (.ldc_w 331, 3) := by decide +kernel
theorem dX12_least_70 : decode cX12_least 70 = .ok (.if_icmp .ge 7, 3) := by decide +kernel
theorem dX12_least_73 : decode cX12_least 73 = .ok (.iconst 0, 1) := by decide +kernel
theorem dX12_least_74 : decode cX12_least 74 = .ok (.goto 4, 3) := by decide +kernel
theorem dX12_least_77 : decode cX12_least 77 = .ok (.iconst 1, 1) := by decide +kernel
theorem dX12_least_78 : decode cX12_least 78 = .ok (.putfield 1, 3) := by decide +kernel
theorem dX12_least_81 : decode cX12_least 81 = .ok (.aload_n 0, 1) := by decide +kernel
theorem dX12_least_82 : decode cX12_least 82 = .ok (.getfield 1, 3) := by decide +kernel
theorem dX12_least_85 : decode cX12_least 85 = .ok (.ifCond .le 5, 3) := by decide +kernel
theorem dX12_least_88 : decode cX12_least 88 = .ok (.iconst 0, 1) := by decide +kernel
theorem dX12_least_89 : decode cX12_least 89 = .ok (.ireturn, 1) := by decide +kernel
theorem dX12_least_90 : decode cX12_least 90 = .ok (.aload_n 0, 1) := by decide +kernel
theorem dX12_least_91 : decode cX12_least 91 = .ok (.iload_n 3, 1) := by decide +kernel
theorem dX12_least_92 : decode cX12_least 92 = .ok (.iload 4, 2) := by decide +kernel
theorem dX12_least_94 : decode cX12_least 94 = .ok (.iload 5, 2) := by decide +kernel
theorem dX12_least_96 : decode cX12_least 96 = .ok (.aload_n 0, 1) := by decide +kernel
theorem dX12_least_97 : decode cX12_least 97 = .ok (.iload_n 1, 1) := by decide +kernel
theorem dX12_least_98 : decode cX12_least 98 = .ok (.iconst 0, 1) := by decide +kernel
theorem dX12_least_99 : decode cX12_least 99 = .ok (.invokevirtual 345, 3) := by decide +kernel
theorem dX12_least_102 : decode cX12_least 102 = .ok (.invokevirtual 363, 3) := by decide +kernel
theorem dX12_least_105 : decode cX12_least 105 = .ok (.iload 6, 2) := by decide +kernel
theorem dX12_least_107 : decode cX12_least 107 = .ok (.ifCond .ne 13, 3) := by decide +kernel
theorem dX12_least_110 : decode cX12_least 110 = .ok (.aload_n 0, 1) := by decide +kernel
theorem dX12_least_111 : decode cX12_least 111 = .ok (.getfield 125, 3) := by decide +kernel
theorem dX12_least_114 : decode cX12_least 114 = .ok (.iload 7, 2) := by decide +kernel
theorem dX12_least_116 : decode cX12_least 116 = .ok (.iaload, 1) := by decide +kernel
theorem dX12_least_117 : decode cX12_least 117 = .ok (.goto 23, 3) := by decide +kernel
theorem dX12_least_120 : decode cX12_least 120 = .ok (.iload 6, 2) := by decide +kernel
theorem dX12_least_122 : decode cX12_least 122 = .ok (.iconst 1, 1) := by decide +kernel
theorem dX12_least_123 : decode cX12_least 123 = .ok (.if_icmp .ne 13, 3) := by decide +kernel
theorem dX12_least_126 : decode cX12_least 126 = .ok (.aload_n 0, 1) := by decide +kernel
theorem dX12_least_127 : decode cX12_least 127 = .ok (.getfield 128, 3) := by decide +kernel
theorem dX12_least_130 : decode cX12_least 130 = .ok (.iload 7, 2) := by decide +kernel
theorem dX12_least_132 : decode cX12_least 132 = .ok (.iaload, 1) := by decide +kernel
theorem dX12_least_133 : decode cX12_least 133 = .ok (.goto 7, 3) := by decide +kernel
theorem dX12_least_136 : decode cX12_least 136 = .ok (.aload_n 0, 1) := by decide +kernel
theorem dX12_least_137 : decode cX12_least 137 = .ok (.getfield 352, 3) := by decide +kernel
theorem dX12_least_140 : decode cX12_least 140 = .ok (.ireturn, 1) := by decide +kernel
theorem dX12_piece_0 : decode cX12_piece 0 = .ok (.aload_n 0, 1) := by decide +kernel
theorem dX12_piece_1 : decode cX12_piece 1 = .ok (.iconst 0, 1) := by decide +kernel
theorem dX12_piece_2 : decode cX12_piece 2 = .ok (.putfield 1, 3) := by decide +kernel
theorem dX12_piece_5 : decode cX12_piece 5 = .ok (.aload_n 0, 1) := by decide +kernel
theorem dX12_piece_6 : decode cX12_piece 6 = .ok (.iload_n 1, 1) := by decide +kernel
theorem dX12_piece_7 : decode cX12_piece 7 = .ok (.iload_n 2, 1) := by decide +kernel
theorem dX12_piece_8 : decode cX12_piece 8 = .ok (.iload_n 3, 1) := by decide +kernel
theorem dX12_piece_9 : decode cX12_piece 9 = .ok (.iload 4, 2) := by decide +kernel
theorem dX12_piece_11 : decode cX12_piece 11 = .ok (.iload 5, 2) := by decide +kernel
theorem dX12_piece_13 : decode cX12_piece 13 = .ok (.invokevirtual 355, 3) := by decide +kernel
theorem dX12_piece_16 : decode cX12_piece 16 = .ok (.ifCond .eq 8, 3) := by decide +kernel
theorem dX12_piece_19 : decode cX12_piece 19 = .ok (.iload 6, 2) := by decide +kernel
theorem dX12_piece_21 : decode cX12_piece 21 = .ok (.ifCond .ge 5, 3) := by decide +kernel
theorem dX12_piece_24 : decode cX12_piece 24 = .ok (.iconst (-1), 1) := by decide +kernel
theorem dX12_piece_25 : decode cX12_piece 25 = .ok (.ireturn, 1) := by decide +kernel
theorem dX12_piece_26 : decode cX12_piece 26 = .ok (.aload_n 0, 1) := by decide +kernel
theorem dX12_piece_27 : decode cX12_piece 27 = .ok (.iload_n 1, 1) := by decide +kernel
theorem dX12_piece_28 : decode cX12_piece 28 = .ok (.iload_n 2, 1) := by decide +kernel
theorem dX12_piece_29 : decode cX12_piece 29 = .ok (.iload 5, 2) := by decide +kernel
theorem dX12_piece_31 : decode cX12_piece 31 = .ok (.invokevirtual 359, 3) := by decide +kernel
theorem dX12_piece_34 : decode cX12_piece 34 = .ok (.aload_n 0, 1) := by decide +kernel
theorem dX12_piece_35 : decode cX12_piece 35 = .ok (.getfield 125, 3) := by decide +kernel
theorem dX12_piece_38 : decode cX12_piece 38 = .ok (.bipush 100, 2) := by decide +kernel
theorem dX12_piece_40 : decode cX12_piece 40 = .ok (.iload_n 3, 1) := by decide +kernel
theorem dX12_piece_41 : decode cX12_piece 41 = .ok (.imul, 1) := by decide +kernel
theorem dX12_piece_42 : decode cX12_piece 42 = .ok (.iload 4, 2) := by decide +kernel
theorem dX12_piece_44 : decode cX12_piece 44 = .ok (.iadd, 1) := by decide +kernel
theorem dX12_piece_45 : decode cX12_piece 45 = .ok (.iaload, 1) := by decide +kernel
theorem dX12_piece_46 : decode cX12_piece 46 = .ok (.ldc_w 331, 3) := by decide +kernel
theorem dX12_piece_49 : decode cX12_piece 49 = .ok (.if_icmp .lt 5, 3) := by decide +kernel
theorem dX12_piece_52 : decode cX12_piece 52 = .ok (.iconst (-1), 1) := by decide +kernel
theorem dX12_piece_53 : decode cX12_piece 53 = .ok (.ireturn, 1) := by decide +kernel
theorem dX12_piece_54 : decode cX12_piece 54 = .ok (.aload_n 0, 1) := by decide +kernel
theorem dX12_piece_55 : decode cX12_piece 55 = .ok (.iload_n 3, 1) := by decide +kernel
theorem dX12_piece_56 : decode cX12_piece 56 = .ok (.iload 4, 2) := by decide +kernel
theorem dX12_piece_58 : decode cX12_piece 58 = .ok (.iload 5, 2) := by decide +kernel
theorem dX12_piece_60 : decode cX12_piece 60 = .ok (.aload_n 0, 1) := by decide +kernel
theorem dX12_piece_61 : decode cX12_piece 61 = .ok (.iload_n 1, 1) := by decide +kernel
theorem dX12_piece_62 : decode cX12_piece 62 = .ok (.iconst 0, 1) := by decide +kernel
theorem dX12_piece_63 : decode cX12_piece 63 = .ok (.invokevirtual 345, 3) := by decide +kernel
theorem dX12_piece_66 : decode cX12_piece 66 = .ok (.invokevirtual 363, 3) := by decide +kernel
theorem dX12_piece_69 : decode cX12_piece 69 = .ok (.iload 6, 2) := by decide +kernel
theorem dX12_piece_71 : decode cX12_piece 71 = .ok (.aload_n 0, 1) := by decide +kernel
theorem dX12_piece_72 : decode cX12_piece 72 = .ok (.getfield 352, 3) := by decide +kernel
theorem dX12_piece_75 : decode cX12_piece 75 = .ok (.if_icmp .ge 13, 3) := by decide +kernel
theorem dX12_piece_78 : decode cX12_piece 78 = .ok (.aload_n 0, 1) := by decide +kernel
theorem dX12_piece_79 : decode cX12_piece 79 = .ok (.getfield 131, 3) := by decide +kernel
theorem dX12_piece_82 : decode cX12_piece 82 = .ok (.iload 6, 2) := by decide +kernel
theorem dX12_piece_84 : decode cX12_piece 84 = .ok (.iaload, 1) := by decide +kernel
theorem dX12_piece_85 : decode cX12_piece 85 = .ok (.goto 4, 3) := by decide +kernel
theorem dX12_piece_88 : decode cX12_piece 88 = .ok (.iconst (-1), 1) := by decide +kernel
theorem dX12_piece_89 : decode cX12_piece 89 = .ok (.ireturn, 1) := by decide +kernel
theorem dX12_findReach_0 : decode cX12_findReach 0 = .ok (.iconst 0, 1) := by decide +kernel
theorem dX12_findReach_1 : decode cX12_findReach 1 = .ok (.istore 5, 2) := by decide +kernel
theorem dX12_findReach_3 : decode cX12_findReach 3 = .ok (.iload 5, 2) := by decide +kernel
theorem dX12_findReach_5 : decode cX12_findReach 5 = .ok (.sipush 12000, 3) := by decide +kernel
theorem dX12_findReach_8 : decode cX12_findReach 8 = .ok (.if_icmp .ge 19, 3) := by decide +kernel
theorem dX12_findReach_11 : decode cX12_findReach 11 = .ok (.aload_n 0, 1) := by decide +kernel
theorem dX12_findReach_12 : decode cX12_findReach 12 = .ok (.getfield 137, 3) := by decide +kernel
theorem dX12_findReach_15 : decode cX12_findReach 15 = .ok (.iload 5, 2) := by decide +kernel
theorem dX12_findReach_17 : decode cX12_findReach 17 = .ok (.ldc_w 331, 3) := by decide +kernel
theorem dX12_findReach_20 : decode cX12_findReach 20 = .ok (.iastore, 1) := by decide +kernel
theorem dX12_findReach_21 : decode cX12_findReach 21 = .ok (.iinc 5 1, 3) := by decide +kernel
theorem dX12_findReach_24 : decode cX12_findReach 24 = .ok (.goto (-21), 3) := by decide +kernel
theorem dX12_findReach_27 : decode cX12_findReach 27 = .ok (.aload_n 0, 1) := by decide +kernel
theorem dX12_findReach_28 : decode cX12_findReach 28 = .ok (.getfield 137, 3) := by decide +kernel
theorem dX12_findReach_31 : decode cX12_findReach 31 = .ok (.bipush 100, 2) := by decide +kernel
theorem dX12_findReach_33 : decode cX12_findReach 33 = .ok (.iload_n 1, 1) := by decide +kernel
theorem dX12_findReach_34 : decode cX12_findReach 34 = .ok (.imul, 1) := by decide +kernel
theorem dX12_findReach_35 : decode cX12_findReach 35 = .ok (.iload_n 2, 1) := by decide +kernel
theorem dX12_findReach_36 : decode cX12_findReach 36 = .ok (.iadd, 1) := by decide +kernel
theorem dX12_findReach_37 : decode cX12_findReach 37 = .ok (.iconst 0, 1) := by decide +kernel
theorem dX12_findReach_38 : decode cX12_findReach 38 = .ok (.iastore, 1) := by decide +kernel
theorem dX12_findReach_39 : decode cX12_findReach 39 = .ok (.bipush 100, 2) := by decide +kernel
theorem dX12_findReach_41 : decode cX12_findReach 41 = .ok (.iload_n 1, 1) := by decide +kernel
theorem dX12_findReach_42 : decode cX12_findReach 42 = .ok (.imul, 1) := by decide +kernel
theorem dX12_findReach_43 : decode cX12_findReach 43 = .ok (.istore 5, 2) := by decide +kernel
theorem dX12_findReach_45 : decode cX12_findReach 45 = .ok (.iload 5, 2) := by decide +kernel
theorem dX12_findReach_47 : decode cX12_findReach 47 = .ok (.sipush 12000, 3) := by decide +kernel
theorem dX12_findReach_50 : decode cX12_findReach 50 = .ok (.if_icmp .ge 130, 3) := by decide +kernel
theorem dX12_findReach_53 : decode cX12_findReach 53 = .ok (.aload_n 0, 1) := by decide +kernel
theorem dX12_findReach_54 : decode cX12_findReach 54 = .ok (.getfield 137, 3) := by decide +kernel
theorem dX12_findReach_57 : decode cX12_findReach 57 = .ok (.iload 5, 2) := by decide +kernel
theorem dX12_findReach_59 : decode cX12_findReach 59 = .ok (.iaload, 1) := by decide +kernel
theorem dX12_findReach_60 : decode cX12_findReach 60 = .ok (.ldc_w 331, 3) := by decide +kernel
theorem dX12_findReach_63 : decode cX12_findReach 63 = .ok (.if_icmp .ge 111, 3) := by decide +kernel
theorem dX12_findReach_66 : decode cX12_findReach 66 = .ok (.iload 5, 2) := by decide +kernel
theorem dX12_findReach_68 : decode cX12_findReach 68 = .ok (.bipush 100, 2) := by decide +kernel
theorem dX12_findReach_70 : decode cX12_findReach 70 = .ok (.irem, 1) := by decide +kernel
theorem dX12_findReach_71 : decode cX12_findReach 71 = .ok (.iload_n 3, 1) := by decide +kernel
theorem dX12_findReach_72 : decode cX12_findReach 72 = .ok (.if_icmp .eq 102, 3) := by decide +kernel
theorem dX12_findReach_75 : decode cX12_findReach 75 = .ok (.iconst 0, 1) := by decide +kernel
theorem dX12_findReach_76 : decode cX12_findReach 76 = .ok (.istore 6, 2) := by decide +kernel
theorem dX12_findReach_78 : decode cX12_findReach 78 = .ok (.iload 6, 2) := by decide +kernel
theorem dX12_findReach_80 : decode cX12_findReach 80 = .ok (.iconst 5, 1) := by decide +kernel
theorem dX12_findReach_81 : decode cX12_findReach 81 = .ok (.if_icmp .ge 93, 3) := by decide +kernel
theorem dX12_findReach_84 : decode cX12_findReach 84 = .ok (.aload_n 0, 1) := by decide +kernel
theorem dX12_findReach_85 : decode cX12_findReach 85 = .ok (.iload 5, 2) := by decide +kernel
theorem dX12_findReach_87 : decode cX12_findReach 87 = .ok (.bipush 100, 2) := by decide +kernel
theorem dX12_findReach_89 : decode cX12_findReach 89 = .ok (.idiv, 1) := by decide +kernel
theorem dX12_findReach_90 : decode cX12_findReach 90 = .ok (.iload 5, 2) := by decide +kernel
theorem dX12_findReach_92 : decode cX12_findReach 92 = .ok (.bipush 100, 2) := by decide +kernel
theorem dX12_findReach_94 : decode cX12_findReach 94 = .ok (.irem, 1) := by decide +kernel
theorem dX12_findReach_95 : decode cX12_findReach 95 = .ok (.iload 6, 2) := by decide +kernel
theorem dX12_findReach_97 : decode cX12_findReach 97 = .ok (.iload 4, 2) := by decide +kernel
theorem dX12_findReach_99 : decode cX12_findReach 99 = .ok (.invokevirtual 332, 3) := by decide +kernel
theorem dX12_findReach_102 : decode cX12_findReach 102 = .ok (.istore 7, 2) := by decide +kernel
theorem dX12_findReach_104 : decode cX12_findReach 104 = .ok (.iload 7, 2) := by decide +kernel
theorem dX12_findReach_106 : decode cX12_findReach 106 = .ok (.ifCond .lt 62, 3) := by decide +kernel
theorem dX12_findReach_109 : decode cX12_findReach 109 = .ok (.aload_n 0, 1) := by decide +kernel
theorem dX12_findReach_110 : decode cX12_findReach 110 = .ok (.getfield 137, 3) := by decide +kernel
theorem dX12_findReach_113 : decode cX12_findReach 113 = .ok (.iload 5, 2) := by decide +kernel
theorem dX12_findReach_115 : decode cX12_findReach 115 = .ok (.iaload, 1) := by decide +kernel
theorem dX12_findReach_116 : decode cX12_findReach 116 = .ok (.aload_n 0, 1) := by decide +kernel
theorem dX12_findReach_117 : decode cX12_findReach 117 = .ok (.iload 5, 2) := by decide +kernel
theorem dX12_findReach_119 : decode cX12_findReach 119 = .ok (.bipush 100, 2) := by decide +kernel
theorem dX12_findReach_121 : decode cX12_findReach 121 = .ok (.idiv, 1) := by decide +kernel
theorem dX12_findReach_122 : decode cX12_findReach 122 = .ok (.iload 5, 2) := by decide +kernel
theorem dX12_findReach_124 : decode cX12_findReach 124 = .ok (.bipush 100, 2) := by decide +kernel
theorem dX12_findReach_126 : decode cX12_findReach 126 = .ok (.irem, 1) := by decide +kernel
theorem dX12_findReach_127 : decode cX12_findReach 127 = .ok (.iload 6, 2) := by decide +kernel
theorem dX12_findReach_129 : decode cX12_findReach 129 = .ok (.iload 4, 2) := by decide +kernel
theorem dX12_findReach_131 : decode cX12_findReach 131 = .ok (.invokevirtual 336, 3) := by decide +kernel
theorem dX12_findReach_134 : decode cX12_findReach 134 = .ok (.iadd, 1) := by decide +kernel
theorem dX12_findReach_135 : decode cX12_findReach 135 = .ok (.istore 8, 2) := by decide +kernel
theorem dX12_findReach_137 : decode cX12_findReach 137 = .ok (.aload_n 0, 1) := by decide +kernel
theorem dX12_findReach_138 : decode cX12_findReach 138 = .ok (.getfield 137, 3) := by decide +kernel
theorem dX12_findReach_141 : decode cX12_findReach 141 = .ok (.iload 7, 2) := by decide +kernel
theorem dX12_findReach_143 : decode cX12_findReach 143 = .ok (.iload 8, 2) := by decide +kernel
theorem dX12_findReach_145 : decode cX12_findReach 145 = .ok (.aload_n 0, 1) := by decide +kernel
theorem dX12_findReach_146 : decode cX12_findReach 146 = .ok (.getfield 137, 3) := by decide +kernel
theorem dX12_findReach_149 : decode cX12_findReach 149 = .ok (.iload 7, 2) := by decide +kernel
theorem dX12_findReach_151 : decode cX12_findReach 151 = .ok (.iaload, 1) := by decide +kernel
theorem dX12_findReach_152 : decode cX12_findReach 152 = .ok (.if_icmp .ge 8, 3) := by decide +kernel
theorem dX12_findReach_155 : decode cX12_findReach 155 = .ok (.iload 8, 2) := by decide +kernel
theorem dX12_findReach_157 : decode cX12_findReach 157 = .ok (.goto 10, 3) := by decide +kernel
theorem dX12_findReach_160 : decode cX12_findReach 160 = .ok (.aload_n 0, 1) := by decide +kernel
theorem dX12_findReach_161 : decode cX12_findReach 161 = .ok (.getfield 137, 3) := by decide +kernel
theorem dX12_findReach_164 : decode cX12_findReach 164 = .ok (.iload 7, 2) := by decide +kernel
theorem dX12_findReach_166 : decode cX12_findReach 166 = .ok (.iaload, 1) := by decide +kernel
theorem dX12_findReach_167 : decode cX12_findReach 167 = .ok (.iastore, 1) := by decide +kernel
theorem dX12_findReach_168 : decode cX12_findReach 168 = .ok (.iinc 6 1, 3) := by decide +kernel
theorem dX12_findReach_171 : decode cX12_findReach 171 = .ok (.goto (-93), 3) := by decide +kernel
theorem dX12_findReach_174 : decode cX12_findReach 174 = .ok (.iinc 5 1, 3) := by decide +kernel
theorem dX12_findReach_177 : decode cX12_findReach 177 = .ok (.goto (-132), 3) := by decide +kernel
theorem dX12_findReach_180 : decode cX12_findReach 180 = .ok (.return_, 1) := by decide +kernel
theorem dX12_reachesSun_0 : decode cX12_reachesSun 0 = .ok (.aload_n 0, 1) := by decide +kernel
theorem dX12_reachesSun_1 : decode cX12_reachesSun 1 = .ok (.iload_n 2, 1) := by decide +kernel
theorem dX12_reachesSun_2 : decode cX12_reachesSun 2 = .ok (.invokevirtual 339, 3) := by decide +kernel
theorem dX12_reachesSun_5 : decode cX12_reachesSun 5 = .ok (.aload_n 0, 1) := by decide +kernel
theorem dX12_reachesSun_6 : decode cX12_reachesSun 6 = .ok (.invokevirtual 342, 3) := by decide +kernel
theorem dX12_reachesSun_9 : decode cX12_reachesSun 9 = .ok (.aload_n 0, 1) := by decide +kernel
theorem dX12_reachesSun_10 : decode cX12_reachesSun 10 = .ok (.iload_n 3, 1) := by decide +kernel
theorem dX12_reachesSun_11 : decode cX12_reachesSun 11 = .ok (.iload 4, 2) := by decide +kernel
theorem dX12_reachesSun_13 : decode cX12_reachesSun 13 = .ok (.iload 5, 2) := by decide +kernel
theorem dX12_reachesSun_15 : decode cX12_reachesSun 15 = .ok (.aload_n 0, 1) := by decide +kernel
theorem dX12_reachesSun_16 : decode cX12_reachesSun 16 = .ok (.iload_n 1, 1) := by decide +kernel
theorem dX12_reachesSun_17 : decode cX12_reachesSun 17 = .ok (.iconst 0, 1) := by decide +kernel
theorem dX12_reachesSun_18 : decode cX12_reachesSun 18 = .ok (.invokevirtual 345, 3) := by decide +kernel
theorem dX12_reachesSun_21 : decode cX12_reachesSun 21 = .ok (.invokevirtual 367, 3) := by decide +kernel
theorem dX12_reachesSun_24 : decode cX12_reachesSun 24 = .ok (.return_, 1) := by decide +kernel
theorem dX12_soon_0 : decode cX12_soon 0 = .ok (.aload_n 0, 1) := by decide +kernel
theorem dX12_soon_1 : decode cX12_soon 1 = .ok (.iconst 0, 1) := by decide +kernel
theorem dX12_soon_2 : decode cX12_soon 2 = .ok (.putfield 1, 3) := by decide +kernel
theorem dX12_soon_5 : decode cX12_soon 5 = .ok (.aload_n 0, 1) := by decide +kernel
theorem dX12_soon_6 : decode cX12_soon 6 = .ok (.iload_n 1, 1) := by decide +kernel
theorem dX12_soon_7 : decode cX12_soon 7 = .ok (.iload_n 2, 1) := by decide +kernel
theorem dX12_soon_8 : decode cX12_soon 8 = .ok (.iload_n 3, 1) := by decide +kernel
theorem dX12_soon_9 : decode cX12_soon 9 = .ok (.iload 4, 2) := by decide +kernel
theorem dX12_soon_11 : decode cX12_soon 11 = .ok (.iload 5, 2) := by decide +kernel
theorem dX12_soon_13 : decode cX12_soon 13 = .ok (.invokevirtual 355, 3) := by decide +kernel
theorem dX12_soon_16 : decode cX12_soon 16 = .ok (.ifCond .eq 8, 3) := by decide +kernel
theorem dX12_soon_19 : decode cX12_soon 19 = .ok (.iload 6, 2) := by decide +kernel
theorem dX12_soon_21 : decode cX12_soon 21 = .ok (.ifCond .ge 5, 3) := by decide +kernel
theorem dX12_soon_24 : decode cX12_soon 24 = .ok (.iconst (-1), 1) := by decide +kernel
theorem dX12_soon_25 : decode cX12_soon 25 = .ok (.ireturn, 1) := by decide +kernel
theorem dX12_soon_26 : decode cX12_soon 26 = .ok (.aload_n 0, 1) := by decide +kernel
theorem dX12_soon_27 : decode cX12_soon 27 = .ok (.iload_n 1, 1) := by decide +kernel
theorem dX12_soon_28 : decode cX12_soon 28 = .ok (.iload_n 2, 1) := by decide +kernel
theorem dX12_soon_29 : decode cX12_soon 29 = .ok (.iload_n 3, 1) := by decide +kernel
theorem dX12_soon_30 : decode cX12_soon 30 = .ok (.iload 4, 2) := by decide +kernel
theorem dX12_soon_32 : decode cX12_soon 32 = .ok (.iload 5, 2) := by decide +kernel
theorem dX12_soon_34 : decode cX12_soon 34 = .ok (.invokevirtual 370, 3) := by decide +kernel
theorem dX12_soon_37 : decode cX12_soon 37 = .ok (.iload_n 3, 1) := by decide +kernel
theorem dX12_soon_38 : decode cX12_soon 38 = .ok (.istore 7, 2) := by decide +kernel
theorem dX12_soon_40 : decode cX12_soon 40 = .ok (.iload 7, 2) := by decide +kernel
theorem dX12_soon_42 : decode cX12_soon 42 = .ok (.bipush 120, 2) := by decide +kernel
theorem dX12_soon_44 : decode cX12_soon 44 = .ok (.if_icmp .ge 49, 3) := by decide +kernel
theorem dX12_soon_47 : decode cX12_soon 47 = .ok (.aload_n 0, 1) := by decide +kernel
theorem dX12_soon_48 : decode cX12_soon 48 = .ok (.getfield 137, 3) := by decide +kernel
theorem dX12_soon_51 : decode cX12_soon 51 = .ok (.bipush 100, 2) := by decide +kernel
theorem dX12_soon_53 : decode cX12_soon 53 = .ok (.iload 7, 2) := by decide +kernel
theorem dX12_soon_55 : decode cX12_soon 55 = .ok (.imul, 1) := by decide +kernel
theorem dX12_soon_56 : decode cX12_soon 56 = .ok (.iload 5, 2) := by decide +kernel
theorem dX12_soon_58 : decode cX12_soon 58 = .ok (.iadd, 1) := by decide +kernel
theorem dX12_soon_59 : decode cX12_soon 59 = .ok (.iaload, 1) := by decide +kernel
theorem dX12_soon_60 : decode cX12_soon 60 = .ok (.iload 6, 2) := by decide +kernel
theorem dX12_soon_62 : decode cX12_soon 62 = .ok (.if_icmp .gt 25, 3) := by decide +kernel
theorem dX12_soon_65 : decode cX12_soon 65 = .ok (.aload_n 0, 1) := by decide +kernel
theorem dX12_soon_66 : decode cX12_soon 66 = .ok (.getfield 137, 3) := by decide +kernel
theorem dX12_soon_69 : decode cX12_soon 69 = .ok (.bipush 100, 2) := by decide +kernel
theorem dX12_soon_71 : decode cX12_soon 71 = .ok (.iload 7, 2) := by decide +kernel
theorem dX12_soon_73 : decode cX12_soon 73 = .ok (.imul, 1) := by decide +kernel
theorem dX12_soon_74 : decode cX12_soon 74 = .ok (.iload 5, 2) := by decide +kernel
theorem dX12_soon_76 : decode cX12_soon 76 = .ok (.iadd, 1) := by decide +kernel
theorem dX12_soon_77 : decode cX12_soon 77 = .ok (.iaload, 1) := by decide +kernel
theorem dX12_soon_78 : decode cX12_soon 78 = .ok (.ldc_w 331, 3) := by decide +kernel
theorem dX12_soon_81 : decode cX12_soon 81 = .ok (.if_icmp .ge 6, 3) := by decide +kernel
theorem dX12_soon_84 : decode cX12_soon 84 = .ok (.iload 7, 2) := by decide +kernel
theorem dX12_soon_86 : decode cX12_soon 86 = .ok (.ireturn, 1) := by decide +kernel
theorem dX12_soon_87 : decode cX12_soon 87 = .ok (.iinc 7 1, 3) := by decide +kernel
theorem dX12_soon_90 : decode cX12_soon 90 = .ok (.goto (-50), 3) := by decide +kernel
theorem dX12_soon_93 : decode cX12_soon 93 = .ok (.iconst (-1), 1) := by decide +kernel
theorem dX12_soon_94 : decode cX12_soon 94 = .ok (.ireturn, 1) := by decide +kernel
theorem dX12_both__0 : decode cX12_both_ 0 = .ok (.aload_n 0, 1) := by decide +kernel
theorem dX12_both__1 : decode cX12_both_ 1 = .ok (.iconst 0, 1) := by decide +kernel
theorem dX12_both__2 : decode cX12_both_ 2 = .ok (.putfield 1, 3) := by decide +kernel
theorem dX12_both__5 : decode cX12_both_ 5 = .ok (.aload_n 0, 1) := by decide +kernel
theorem dX12_both__6 : decode cX12_both_ 6 = .ok (.iload_n 1, 1) := by decide +kernel
theorem dX12_both__7 : decode cX12_both_ 7 = .ok (.iload_n 2, 1) := by decide +kernel
theorem dX12_both__8 : decode cX12_both_ 8 = .ok (.iload_n 3, 1) := by decide +kernel
theorem dX12_both__9 : decode cX12_both_ 9 = .ok (.iload 4, 2) := by decide +kernel
theorem dX12_both__11 : decode cX12_both_ 11 = .ok (.iload 5, 2) := by decide +kernel
theorem dX12_both__13 : decode cX12_both_ 13 = .ok (.invokevirtual 355, 3) := by decide +kernel
theorem dX12_both__16 : decode cX12_both_ 16 = .ok (.ifCond .eq 18, 3) := by decide +kernel
theorem dX12_both__19 : decode cX12_both_ 19 = .ok (.iload 6, 2) := by decide +kernel
theorem dX12_both__21 : decode cX12_both_ 21 = .ok (.ifCond .lt 13, 3) := by decide +kernel
theorem dX12_both__24 : decode cX12_both_ 24 = .ok (.iload 7, 2) := by decide +kernel
theorem dX12_both__26 : decode cX12_both_ 26 = .ok (.iconst 0, 1) := by decide +kernel
theorem dX12_both__27 : decode cX12_both_ 27 = .ok (.iconst 1, 1) := by decide +kernel
theorem dX12_both__28 : decode cX12_both_ 28 = .ok (.invokestatic 289, 3) := by decide +kernel
theorem dX12_both__31 : decode cX12_both_ 31 = .ok (.ifCond .ne 5, 3) := by decide +kernel
theorem dX12_both__34 : decode cX12_both_ 34 = .ok (.iconst (-1), 1) := by decide +kernel
theorem dX12_both__35 : decode cX12_both_ 35 = .ok (.ireturn, 1) := by decide +kernel
theorem dX12_both__36 : decode cX12_both_ 36 = .ok (.aload_n 0, 1) := by decide +kernel
theorem dX12_both__37 : decode cX12_both_ 37 = .ok (.iload_n 1, 1) := by decide +kernel
theorem dX12_both__38 : decode cX12_both_ 38 = .ok (.iload_n 2, 1) := by decide +kernel
theorem dX12_both__39 : decode cX12_both_ 39 = .ok (.iload_n 3, 1) := by decide +kernel
theorem dX12_both__40 : decode cX12_both_ 40 = .ok (.iload 4, 2) := by decide +kernel
theorem dX12_both__42 : decode cX12_both_ 42 = .ok (.iload 5, 2) := by decide +kernel
theorem dX12_both__44 : decode cX12_both_ 44 = .ok (.invokevirtual 370, 3) := by decide +kernel
theorem dX12_both__47 : decode cX12_both_ 47 = .ok (.ldc_w 331, 3) := by decide +kernel
theorem dX12_both__50 : decode cX12_both_ 50 = .ok (.istore 8, 2) := by decide +kernel
theorem dX12_both__52 : decode cX12_both_ 52 = .ok (.iconst 0, 1) := by decide +kernel
theorem dX12_both__53 : decode cX12_both_ 53 = .ok (.istore 9, 2) := by decide +kernel
theorem dX12_both__55 : decode cX12_both_ 55 = .ok (.iload_n 3, 1) := by decide +kernel
theorem dX12_both__56 : decode cX12_both_ 56 = .ok (.istore 10, 2) := by decide +kernel
theorem dX12_both__58 : decode cX12_both_ 58 = .ok (.iload 10, 2) := by decide +kernel
theorem dX12_both__60 : decode cX12_both_ 60 = .ok (.bipush 120, 2) := by decide +kernel
theorem dX12_both__62 : decode cX12_both_ 62 = .ok (.if_icmp .ge 65, 3) := by decide +kernel
theorem dX12_both__65 : decode cX12_both_ 65 = .ok (.aload_n 0, 1) := by decide +kernel
theorem dX12_both__66 : decode cX12_both_ 66 = .ok (.getfield 137, 3) := by decide +kernel
theorem dX12_both__69 : decode cX12_both_ 69 = .ok (.bipush 100, 2) := by decide +kernel
theorem dX12_both__71 : decode cX12_both_ 71 = .ok (.iload 10, 2) := by decide +kernel
theorem dX12_both__73 : decode cX12_both_ 73 = .ok (.imul, 1) := by decide +kernel
theorem dX12_both__74 : decode cX12_both_ 74 = .ok (.iload 5, 2) := by decide +kernel
theorem dX12_both__76 : decode cX12_both_ 76 = .ok (.iadd, 1) := by decide +kernel
theorem dX12_both__77 : decode cX12_both_ 77 = .ok (.iaload, 1) := by decide +kernel
theorem dX12_both__78 : decode cX12_both_ 78 = .ok (.iload 8, 2) := by decide +kernel
theorem dX12_both__80 : decode cX12_both_ 80 = .ok (.if_icmp .ge 41, 3) := by decide +kernel
theorem dX12_both__83 : decode cX12_both_ 83 = .ok (.aload_n 0, 1) := by decide +kernel
theorem dX12_both__84 : decode cX12_both_ 84 = .ok (.getfield 137, 3) := by decide +kernel
theorem dX12_both__87 : decode cX12_both_ 87 = .ok (.bipush 100, 2) := by decide +kernel
theorem dX12_both__89 : decode cX12_both_ 89 = .ok (.iload 10, 2) := by decide +kernel
theorem dX12_both__91 : decode cX12_both_ 91 = .ok (.imul, 1) := by decide +kernel
theorem dX12_both__92 : decode cX12_both_ 92 = .ok (.iload 5, 2) := by decide +kernel
theorem dX12_both__94 : decode cX12_both_ 94 = .ok (.iadd, 1) := by decide +kernel
theorem dX12_both__95 : decode cX12_both_ 95 = .ok (.iaload, 1) := by decide +kernel
theorem dX12_both__96 : decode cX12_both_ 96 = .ok (.istore 8, 2) := by decide +kernel
theorem dX12_both__98 : decode cX12_both_ 98 = .ok (.iload 9, 2) := by decide +kernel
theorem dX12_both__100 : decode cX12_both_ 100 = .ok (.iload 6, 2) := by decide +kernel
theorem dX12_both__102 : decode cX12_both_ 102 = .ok (.if_icmp .ne 16, 3) := by decide +kernel
theorem dX12_both__105 : decode cX12_both_ 105 = .ok (.iload 7, 2) := by decide +kernel
theorem dX12_both__107 : decode cX12_both_ 107 = .ok (.ifCond .ne 8, 3) := by decide +kernel
theorem dX12_both__110 : decode cX12_both_ 110 = .ok (.iload 10, 2) := by decide +kernel
theorem dX12_both__112 : decode cX12_both_ 112 = .ok (.goto 5, 3) := by decide +kernel
theorem dX12_both__115 : decode cX12_both_ 115 = .ok (.iload 8, 2) := by decide +kernel
theorem dX12_both__117 : decode cX12_both_ 117 = .ok (.ireturn, 1) := by decide +kernel
theorem dX12_both__118 : decode cX12_both_ 118 = .ok (.iinc 9 1, 3) := by decide +kernel
theorem dX12_both__121 : decode cX12_both_ 121 = .ok (.iinc 10 1, 3) := by decide +kernel
theorem dX12_both__124 : decode cX12_both_ 124 = .ok (.goto (-66), 3) := by decide +kernel
theorem dX12_both__127 : decode cX12_both_ 127 = .ok (.iconst (-1), 1) := by decide +kernel
theorem dX12_both__128 : decode cX12_both_ 128 = .ok (.ireturn, 1) := by decide +kernel
theorem dX12_heatBehind_0 : decode cX12_heatBehind 0 = .ok (.iload_n 1, 1) := by decide +kernel
theorem dX12_heatBehind_1 : decode cX12_heatBehind 1 = .ok (.istore 6, 2) := by decide +kernel
theorem dX12_heatBehind_3 : decode cX12_heatBehind 3 = .ok (.iload_n 2, 1) := by decide +kernel
theorem dX12_heatBehind_4 : decode cX12_heatBehind 4 = .ok (.istore 7, 2) := by decide +kernel
theorem dX12_heatBehind_6 : decode cX12_heatBehind 6 = .ok (.iload 7, 2) := by decide +kernel
theorem dX12_heatBehind_8 : decode cX12_heatBehind 8 = .ok (.iload_n 2, 1) := by decide +kernel
theorem dX12_heatBehind_9 : decode cX12_heatBehind 9 = .ok (.iload 4, 2) := by decide +kernel
theorem dX12_heatBehind_11 : decode cX12_heatBehind 11 = .ok (.iconst 4, 1) := by decide +kernel
theorem dX12_heatBehind_12 : decode cX12_heatBehind 12 = .ok (.if_icmp .ne 7, 3) := by decide +kernel
theorem dX12_heatBehind_15 : decode cX12_heatBehind 15 = .ok (.iconst 1, 1) := by decide +kernel
theorem dX12_heatBehind_16 : decode cX12_heatBehind 16 = .ok (.goto 10, 3) := by decide +kernel
theorem dX12_heatBehind_19 : decode cX12_heatBehind 19 = .ok (.aload_n 0, 1) := by decide +kernel
theorem dX12_heatBehind_20 : decode cX12_heatBehind 20 = .ok (.iload 5, 2) := by decide +kernel
theorem dX12_heatBehind_22 : decode cX12_heatBehind 22 = .ok (.iconst 0, 1) := by decide +kernel
theorem dX12_heatBehind_23 : decode cX12_heatBehind 23 = .ok (.invokevirtual 345, 3) := by decide +kernel
theorem dX12_heatBehind_26 : decode cX12_heatBehind 26 = .ok (.iadd, 1) := by decide +kernel
theorem dX12_heatBehind_27 : decode cX12_heatBehind 27 = .ok (.if_icmp .ge 72, 3) := by decide +kernel
theorem dX12_heatBehind_30 : decode cX12_heatBehind 30 = .ok (.aload_n 0, 1) := by decide +kernel
theorem dX12_heatBehind_31 : decode cX12_heatBehind 31 = .ok (.getfield 112, 3) := by decide +kernel
theorem dX12_heatBehind_34 : decode cX12_heatBehind 34 = .ok (.bipush 100, 2) := by decide +kernel
theorem dX12_heatBehind_36 : decode cX12_heatBehind 36 = .ok (.iload 7, 2) := by decide +kernel
theorem dX12_heatBehind_38 : decode cX12_heatBehind 38 = .ok (.imul, 1) := by decide +kernel
theorem dX12_heatBehind_39 : decode cX12_heatBehind 39 = .ok (.iload_n 3, 1) := by decide +kernel
theorem dX12_heatBehind_40 : decode cX12_heatBehind 40 = .ok (.iadd, 1) := by decide +kernel
theorem dX12_heatBehind_41 : decode cX12_heatBehind 41 = .ok (.iaload, 1) := by decide +kernel
theorem dX12_heatBehind_42 : decode cX12_heatBehind 42 = .ok (.ifCond .le 10, 3) := by decide +kernel
theorem dX12_heatBehind_45 : decode cX12_heatBehind 45 = .ok (.iload 6, 2) := by decide +kernel
theorem dX12_heatBehind_47 : decode cX12_heatBehind 47 = .ok (.iconst 1, 1) := by decide +kernel
theorem dX12_heatBehind_48 : decode cX12_heatBehind 48 = .ok (.iadd, 1) := by decide +kernel
theorem dX12_heatBehind_49 : decode cX12_heatBehind 49 = .ok (.goto 13, 3) := by decide +kernel
theorem dX12_heatBehind_52 : decode cX12_heatBehind 52 = .ok (.iload 6, 2) := by decide +kernel
theorem dX12_heatBehind_54 : decode cX12_heatBehind 54 = .ok (.aload_n 0, 1) := by decide +kernel
theorem dX12_heatBehind_55 : decode cX12_heatBehind 55 = .ok (.iload 5, 2) := by decide +kernel
theorem dX12_heatBehind_57 : decode cX12_heatBehind 57 = .ok (.iconst 2, 1) := by decide +kernel
theorem dX12_heatBehind_58 : decode cX12_heatBehind 58 = .ok (.invokevirtual 345, 3) := by decide +kernel
theorem dX12_heatBehind_61 : decode cX12_heatBehind 61 = .ok (.isub, 1) := by decide +kernel
theorem dX12_heatBehind_62 : decode cX12_heatBehind 62 = .ok (.istore 6, 2) := by decide +kernel
theorem dX12_heatBehind_64 : decode cX12_heatBehind 64 = .ok (.iload 6, 2) := by decide +kernel
theorem dX12_heatBehind_66 : decode cX12_heatBehind 66 = .ok (.ifCond .ge 7, 3) := by decide +kernel
theorem dX12_heatBehind_69 : decode cX12_heatBehind 69 = .ok (.iconst 0, 1) := by decide +kernel
theorem dX12_heatBehind_70 : decode cX12_heatBehind 70 = .ok (.goto 5, 3) := by decide +kernel
theorem dX12_heatBehind_73 : decode cX12_heatBehind 73 = .ok (.iload 6, 2) := by decide +kernel
theorem dX12_heatBehind_75 : decode cX12_heatBehind 75 = .ok (.istore 6, 2) := by decide +kernel
theorem dX12_heatBehind_77 : decode cX12_heatBehind 77 = .ok (.iload 6, 2) := by decide +kernel
theorem dX12_heatBehind_79 : decode cX12_heatBehind 79 = .ok (.aload_n 0, 1) := by decide +kernel
theorem dX12_heatBehind_80 : decode cX12_heatBehind 80 = .ok (.iload 5, 2) := by decide +kernel
theorem dX12_heatBehind_82 : decode cX12_heatBehind 82 = .ok (.iconst 1, 1) := by decide +kernel
theorem dX12_heatBehind_83 : decode cX12_heatBehind 83 = .ok (.invokevirtual 345, 3) := by decide +kernel
theorem dX12_heatBehind_86 : decode cX12_heatBehind 86 = .ok (.if_icmp .le 7, 3) := by decide +kernel
theorem dX12_heatBehind_89 : decode cX12_heatBehind 89 = .ok (.ldc_w 331, 3) := by decide +kernel
theorem dX12_heatBehind_92 : decode cX12_heatBehind 92 = .ok (.ireturn, 1) := by decide +kernel
theorem dX12_heatBehind_93 : decode cX12_heatBehind 93 = .ok (.iinc 7 1, 3) := by decide +kernel
theorem dX12_heatBehind_96 : decode cX12_heatBehind 96 = .ok (.goto (-90), 3) := by decide +kernel
theorem dX12_heatBehind_99 : decode cX12_heatBehind 99 = .ok (.iload 4, 2) := by decide +kernel
theorem dX12_heatBehind_101 : decode cX12_heatBehind 101 = .ok (.iconst 4, 1) := by decide +kernel
theorem dX12_heatBehind_102 : decode cX12_heatBehind 102 = .ok (.if_icmp .eq 20, 3) := by decide +kernel
theorem dX12_heatBehind_105 : decode cX12_heatBehind 105 = .ok (.aload_n 0, 1) := by decide +kernel
theorem dX12_heatBehind_106 : decode cX12_heatBehind 106 = .ok (.iload_n 3, 1) := by decide +kernel
theorem dX12_heatBehind_107 : decode cX12_heatBehind 107 = .ok (.iload 4, 2) := by decide +kernel
theorem dX12_heatBehind_109 : decode cX12_heatBehind 109 = .ok (.invokestatic 328, 3) := by decide +kernel
theorem dX12_heatBehind_112 : decode cX12_heatBehind 112 = .ok (.invokevirtual 374, 3) := by decide +kernel
theorem dX12_heatBehind_115 : decode cX12_heatBehind 115 = .ok (.ifCond .eq 7, 3) := by decide +kernel
theorem dX12_heatBehind_118 : decode cX12_heatBehind 118 = .ok (.iconst 0, 1) := by decide +kernel
theorem dX12_heatBehind_119 : decode cX12_heatBehind 119 = .ok (.goto 5, 3) := by decide +kernel
theorem dX12_heatBehind_122 : decode cX12_heatBehind 122 = .ok (.iload 6, 2) := by decide +kernel
theorem dX12_heatBehind_124 : decode cX12_heatBehind 124 = .ok (.ireturn, 1) := by decide +kernel
theorem dX12_bearsFrom_0 : decode cX12_bearsFrom 0 = .ok (.iconst 0, 1) := by decide +kernel
theorem dX12_bearsFrom_1 : decode cX12_bearsFrom 1 = .ok (.istore 5, 2) := by decide +kernel
theorem dX12_bearsFrom_3 : decode cX12_bearsFrom 3 = .ok (.iload 5, 2) := by decide +kernel
theorem dX12_bearsFrom_5 : decode cX12_bearsFrom 5 = .ok (.sipush 12000, 3) := by decide +kernel
theorem dX12_bearsFrom_8 : decode cX12_bearsFrom 8 = .ok (.if_icmp .ge 19, 3) := by decide +kernel
theorem dX12_bearsFrom_11 : decode cX12_bearsFrom 11 = .ok (.aload_n 0, 1) := by decide +kernel
theorem dX12_bearsFrom_12 : decode cX12_bearsFrom 12 = .ok (.getfield 137, 3) := by decide +kernel
theorem dX12_bearsFrom_15 : decode cX12_bearsFrom 15 = .ok (.iload 5, 2) := by decide +kernel
theorem dX12_bearsFrom_17 : decode cX12_bearsFrom 17 = .ok (.ldc_w 331, 3) := by decide +kernel
theorem dX12_bearsFrom_20 : decode cX12_bearsFrom 20 = .ok (.iastore, 1) := by decide +kernel
theorem dX12_bearsFrom_21 : decode cX12_bearsFrom 21 = .ok (.iinc 5 1, 3) := by decide +kernel
theorem dX12_bearsFrom_24 : decode cX12_bearsFrom 24 = .ok (.goto (-21), 3) := by decide +kernel
theorem dX12_bearsFrom_27 : decode cX12_bearsFrom 27 = .ok (.aload_n 0, 1) := by decide +kernel
theorem dX12_bearsFrom_28 : decode cX12_bearsFrom 28 = .ok (.getfield 137, 3) := by decide +kernel
theorem dX12_bearsFrom_31 : decode cX12_bearsFrom 31 = .ok (.bipush 100, 2) := by decide +kernel
theorem dX12_bearsFrom_33 : decode cX12_bearsFrom 33 = .ok (.iload_n 2, 1) := by decide +kernel
theorem dX12_bearsFrom_34 : decode cX12_bearsFrom 34 = .ok (.imul, 1) := by decide +kernel
theorem dX12_bearsFrom_35 : decode cX12_bearsFrom 35 = .ok (.iload_n 3, 1) := by decide +kernel
theorem dX12_bearsFrom_36 : decode cX12_bearsFrom 36 = .ok (.iadd, 1) := by decide +kernel
theorem dX12_bearsFrom_37 : decode cX12_bearsFrom 37 = .ok (.iconst 0, 1) := by decide +kernel
theorem dX12_bearsFrom_38 : decode cX12_bearsFrom 38 = .ok (.iastore, 1) := by decide +kernel
theorem dX12_bearsFrom_39 : decode cX12_bearsFrom 39 = .ok (.bipush 100, 2) := by decide +kernel
theorem dX12_bearsFrom_41 : decode cX12_bearsFrom 41 = .ok (.iload_n 2, 1) := by decide +kernel
theorem dX12_bearsFrom_42 : decode cX12_bearsFrom 42 = .ok (.imul, 1) := by decide +kernel
theorem dX12_bearsFrom_43 : decode cX12_bearsFrom 43 = .ok (.istore 5, 2) := by decide +kernel
theorem dX12_bearsFrom_45 : decode cX12_bearsFrom 45 = .ok (.iload 5, 2) := by decide +kernel
theorem dX12_bearsFrom_47 : decode cX12_bearsFrom 47 = .ok (.sipush 12000, 3) := by decide +kernel
theorem dX12_bearsFrom_50 : decode cX12_bearsFrom 50 = .ok (.if_icmp .ge 139, 3) := by decide +kernel
theorem dX12_bearsFrom_53 : decode cX12_bearsFrom 53 = .ok (.aload_n 0, 1) := by decide +kernel
theorem dX12_bearsFrom_54 : decode cX12_bearsFrom 54 = .ok (.getfield 137, 3) := by decide +kernel
theorem dX12_bearsFrom_57 : decode cX12_bearsFrom 57 = .ok (.iload 5, 2) := by decide +kernel
theorem dX12_bearsFrom_59 : decode cX12_bearsFrom 59 = .ok (.iaload, 1) := by decide +kernel
theorem dX12_bearsFrom_60 : decode cX12_bearsFrom 60 = .ok (.ldc_w 331, 3) := by decide +kernel
theorem dX12_bearsFrom_63 : decode cX12_bearsFrom 63 = .ok (.if_icmp .ge 120, 3) := by decide +kernel
theorem dX12_bearsFrom_66 : decode cX12_bearsFrom 66 = .ok (.iload 5, 2) := by decide +kernel
theorem dX12_bearsFrom_68 : decode cX12_bearsFrom 68 = .ok (.bipush 100, 2) := by decide +kernel
theorem dX12_bearsFrom_70 : decode cX12_bearsFrom 70 = .ok (.irem, 1) := by decide +kernel
theorem dX12_bearsFrom_71 : decode cX12_bearsFrom 71 = .ok (.iload 4, 2) := by decide +kernel
theorem dX12_bearsFrom_73 : decode cX12_bearsFrom 73 = .ok (.if_icmp .ne 9, 3) := by decide +kernel
theorem dX12_bearsFrom_76 : decode cX12_bearsFrom 76 = .ok (.iload 5, 2) := by decide +kernel
theorem dX12_bearsFrom_78 : decode cX12_bearsFrom 78 = .ok (.bipush 100, 2) := by decide +kernel
theorem dX12_bearsFrom_80 : decode cX12_bearsFrom 80 = .ok (.idiv, 1) := by decide +kernel
theorem dX12_bearsFrom_81 : decode cX12_bearsFrom 81 = .ok (.ireturn, 1) := by decide +kernel
theorem dX12_bearsFrom_82 : decode cX12_bearsFrom 82 = .ok (.iconst 0, 1) := by decide +kernel
theorem dX12_bearsFrom_83 : decode cX12_bearsFrom 83 = .ok (.istore 6, 2) := by decide +kernel
theorem dX12_bearsFrom_85 : decode cX12_bearsFrom 85 = .ok (.iload 6, 2) := by decide +kernel
theorem dX12_bearsFrom_87 : decode cX12_bearsFrom 87 = .ok (.iconst 5, 1) := by decide +kernel
theorem dX12_bearsFrom_88 : decode cX12_bearsFrom 88 = .ok (.if_icmp .ge 95, 3) := by decide +kernel
theorem dX12_bearsFrom_91 : decode cX12_bearsFrom 91 = .ok (.aload_n 0, 1) := by decide +kernel
theorem dX12_bearsFrom_92 : decode cX12_bearsFrom 92 = .ok (.iload 5, 2) := by decide +kernel
theorem dX12_bearsFrom_94 : decode cX12_bearsFrom 94 = .ok (.bipush 100, 2) := by decide +kernel
theorem dX12_bearsFrom_96 : decode cX12_bearsFrom 96 = .ok (.idiv, 1) := by decide +kernel
theorem dX12_bearsFrom_97 : decode cX12_bearsFrom 97 = .ok (.iload 5, 2) := by decide +kernel
theorem dX12_bearsFrom_99 : decode cX12_bearsFrom 99 = .ok (.bipush 100, 2) := by decide +kernel
theorem dX12_bearsFrom_101 : decode cX12_bearsFrom 101 = .ok (.irem, 1) := by decide +kernel
theorem dX12_bearsFrom_102 : decode cX12_bearsFrom 102 = .ok (.iload 6, 2) := by decide +kernel
theorem dX12_bearsFrom_104 : decode cX12_bearsFrom 104 = .ok (.aload_n 0, 1) := by decide +kernel
theorem dX12_bearsFrom_105 : decode cX12_bearsFrom 105 = .ok (.iload_n 1, 1) := by decide +kernel
theorem dX12_bearsFrom_106 : decode cX12_bearsFrom 106 = .ok (.iconst 0, 1) := by decide +kernel
theorem dX12_bearsFrom_107 : decode cX12_bearsFrom 107 = .ok (.invokevirtual 345, 3) := by decide +kernel
theorem dX12_bearsFrom_110 : decode cX12_bearsFrom 110 = .ok (.invokevirtual 332, 3) := by decide +kernel
theorem dX12_bearsFrom_113 : decode cX12_bearsFrom 113 = .ok (.istore 7, 2) := by decide +kernel
theorem dX12_bearsFrom_115 : decode cX12_bearsFrom 115 = .ok (.iload 7, 2) := by decide +kernel
theorem dX12_bearsFrom_117 : decode cX12_bearsFrom 117 = .ok (.ifCond .lt 60, 3) := by decide +kernel
theorem dX12_bearsFrom_120 : decode cX12_bearsFrom 120 = .ok (.aload_n 0, 1) := by decide +kernel
theorem dX12_bearsFrom_121 : decode cX12_bearsFrom 121 = .ok (.aload_n 0, 1) := by decide +kernel
theorem dX12_bearsFrom_122 : decode cX12_bearsFrom 122 = .ok (.getfield 137, 3) := by decide +kernel
theorem dX12_bearsFrom_125 : decode cX12_bearsFrom 125 = .ok (.iload 5, 2) := by decide +kernel
theorem dX12_bearsFrom_127 : decode cX12_bearsFrom 127 = .ok (.iaload, 1) := by decide +kernel
theorem dX12_bearsFrom_128 : decode cX12_bearsFrom 128 = .ok (.iload 5, 2) := by decide +kernel
theorem dX12_bearsFrom_130 : decode cX12_bearsFrom 130 = .ok (.bipush 100, 2) := by decide +kernel
theorem dX12_bearsFrom_132 : decode cX12_bearsFrom 132 = .ok (.idiv, 1) := by decide +kernel
theorem dX12_bearsFrom_133 : decode cX12_bearsFrom 133 = .ok (.iload 5, 2) := by decide +kernel
theorem dX12_bearsFrom_135 : decode cX12_bearsFrom 135 = .ok (.bipush 100, 2) := by decide +kernel
theorem dX12_bearsFrom_137 : decode cX12_bearsFrom 137 = .ok (.irem, 1) := by decide +kernel
theorem dX12_bearsFrom_138 : decode cX12_bearsFrom 138 = .ok (.iload 6, 2) := by decide +kernel
theorem dX12_bearsFrom_140 : decode cX12_bearsFrom 140 = .ok (.iload_n 1, 1) := by decide +kernel
theorem dX12_bearsFrom_141 : decode cX12_bearsFrom 141 = .ok (.invokevirtual 377, 3) := by decide +kernel
theorem dX12_bearsFrom_144 : decode cX12_bearsFrom 144 = .ok (.istore 8, 2) := by decide +kernel
theorem dX12_bearsFrom_146 : decode cX12_bearsFrom 146 = .ok (.aload_n 0, 1) := by decide +kernel
theorem dX12_bearsFrom_147 : decode cX12_bearsFrom 147 = .ok (.getfield 137, 3) := by decide +kernel
theorem dX12_bearsFrom_150 : decode cX12_bearsFrom 150 = .ok (.iload 7, 2) := by decide +kernel
theorem dX12_bearsFrom_152 : decode cX12_bearsFrom 152 = .ok (.iload 8, 2) := by decide +kernel
theorem dX12_bearsFrom_154 : decode cX12_bearsFrom 154 = .ok (.aload_n 0, 1) := by decide +kernel
theorem dX12_bearsFrom_155 : decode cX12_bearsFrom 155 = .ok (.getfield 137, 3) := by decide +kernel
theorem dX12_bearsFrom_158 : decode cX12_bearsFrom 158 = .ok (.iload 7, 2) := by decide +kernel
theorem dX12_bearsFrom_160 : decode cX12_bearsFrom 160 = .ok (.iaload, 1) := by decide +kernel
theorem dX12_bearsFrom_161 : decode cX12_bearsFrom 161 = .ok (.if_icmp .ge 8, 3) := by decide +kernel
theorem dX12_bearsFrom_164 : decode cX12_bearsFrom 164 = .ok (.iload 8, 2) := by decide +kernel
theorem dX12_bearsFrom_166 : decode cX12_bearsFrom 166 = .ok (.goto 10, 3) := by decide +kernel
theorem dX12_bearsFrom_169 : decode cX12_bearsFrom 169 = .ok (.aload_n 0, 1) := by decide +kernel
theorem dX12_bearsFrom_170 : decode cX12_bearsFrom 170 = .ok (.getfield 137, 3) := by decide +kernel
theorem dX12_bearsFrom_173 : decode cX12_bearsFrom 173 = .ok (.iload 7, 2) := by decide +kernel
theorem dX12_bearsFrom_175 : decode cX12_bearsFrom 175 = .ok (.iaload, 1) := by decide +kernel
theorem dX12_bearsFrom_176 : decode cX12_bearsFrom 176 = .ok (.iastore, 1) := by decide +kernel
theorem dX12_bearsFrom_177 : decode cX12_bearsFrom 177 = .ok (.iinc 6 1, 3) := by decide +kernel
theorem dX12_bearsFrom_180 : decode cX12_bearsFrom 180 = .ok (.goto (-95), 3) := by decide +kernel
theorem dX12_bearsFrom_183 : decode cX12_bearsFrom 183 = .ok (.iinc 5 1, 3) := by decide +kernel
theorem dX12_bearsFrom_186 : decode cX12_bearsFrom 186 = .ok (.goto (-141), 3) := by decide +kernel
theorem dX12_bearsFrom_189 : decode cX12_bearsFrom 189 = .ok (.iconst (-1), 1) := by decide +kernel
theorem dX12_bearsFrom_190 : decode cX12_bearsFrom 190 = .ok (.ireturn, 1) := by decide +kernel
theorem dX12_bears_0 : decode cX12_bears 0 = .ok (.aload_n 0, 1) := by decide +kernel
theorem dX12_bears_1 : decode cX12_bears 1 = .ok (.iconst 0, 1) := by decide +kernel
theorem dX12_bears_2 : decode cX12_bears 2 = .ok (.putfield 1, 3) := by decide +kernel
theorem dX12_bears_5 : decode cX12_bears 5 = .ok (.aload_n 0, 1) := by decide +kernel
theorem dX12_bears_6 : decode cX12_bears 6 = .ok (.iload_n 1, 1) := by decide +kernel
theorem dX12_bears_7 : decode cX12_bears 7 = .ok (.iload_n 2, 1) := by decide +kernel
theorem dX12_bears_8 : decode cX12_bears 8 = .ok (.iload_n 3, 1) := by decide +kernel
theorem dX12_bears_9 : decode cX12_bears 9 = .ok (.iload 4, 2) := by decide +kernel
theorem dX12_bears_11 : decode cX12_bears 11 = .ok (.iload 5, 2) := by decide +kernel
theorem dX12_bears_13 : decode cX12_bears 13 = .ok (.invokevirtual 355, 3) := by decide +kernel
theorem dX12_bears_16 : decode cX12_bears 16 = .ok (.ifCond .ne 5, 3) := by decide +kernel
theorem dX12_bears_19 : decode cX12_bears 19 = .ok (.iconst (-1), 1) := by decide +kernel
theorem dX12_bears_20 : decode cX12_bears 20 = .ok (.ireturn, 1) := by decide +kernel
theorem dX12_bears_21 : decode cX12_bears 21 = .ok (.aload_n 0, 1) := by decide +kernel
theorem dX12_bears_22 : decode cX12_bears 22 = .ok (.iload_n 2, 1) := by decide +kernel
theorem dX12_bears_23 : decode cX12_bears 23 = .ok (.invokevirtual 339, 3) := by decide +kernel
theorem dX12_bears_26 : decode cX12_bears 26 = .ok (.aload_n 0, 1) := by decide +kernel
theorem dX12_bears_27 : decode cX12_bears 27 = .ok (.iload_n 1, 1) := by decide +kernel
theorem dX12_bears_28 : decode cX12_bears 28 = .ok (.iload_n 3, 1) := by decide +kernel
theorem dX12_bears_29 : decode cX12_bears 29 = .ok (.iload 4, 2) := by decide +kernel
theorem dX12_bears_31 : decode cX12_bears 31 = .ok (.iload 5, 2) := by decide +kernel
theorem dX12_bears_33 : decode cX12_bears 33 = .ok (.invokevirtual 381, 3) := by decide +kernel
theorem dX12_bears_36 : decode cX12_bears 36 = .ok (.ireturn, 1) := by decide +kernel
theorem dX12_hours_0 : decode cX12_hours 0 = .ok (.aload_n 0, 1) := by decide +kernel
theorem dX12_hours_1 : decode cX12_hours 1 = .ok (.iconst 0, 1) := by decide +kernel
theorem dX12_hours_2 : decode cX12_hours 2 = .ok (.putfield 1, 3) := by decide +kernel
theorem dX12_hours_5 : decode cX12_hours 5 = .ok (.aload_n 0, 1) := by decide +kernel
theorem dX12_hours_6 : decode cX12_hours 6 = .ok (.iload_n 1, 1) := by decide +kernel
theorem dX12_hours_7 : decode cX12_hours 7 = .ok (.iload_n 2, 1) := by decide +kernel
theorem dX12_hours_8 : decode cX12_hours 8 = .ok (.iconst 0, 1) := by decide +kernel
theorem dX12_hours_9 : decode cX12_hours 9 = .ok (.iload_n 3, 1) := by decide +kernel
theorem dX12_hours_10 : decode cX12_hours 10 = .ok (.iload 4, 2) := by decide +kernel
theorem dX12_hours_12 : decode cX12_hours 12 = .ok (.invokevirtual 355, 3) := by decide +kernel
theorem dX12_hours_15 : decode cX12_hours 15 = .ok (.ifCond .ne 5, 3) := by decide +kernel
theorem dX12_hours_18 : decode cX12_hours 18 = .ok (.iconst (-1), 1) := by decide +kernel
theorem dX12_hours_19 : decode cX12_hours 19 = .ok (.ireturn, 1) := by decide +kernel
theorem dX12_hours_20 : decode cX12_hours 20 = .ok (.aload_n 0, 1) := by decide +kernel
theorem dX12_hours_21 : decode cX12_hours 21 = .ok (.iload_n 2, 1) := by decide +kernel
theorem dX12_hours_22 : decode cX12_hours 22 = .ok (.invokevirtual 339, 3) := by decide +kernel
theorem dX12_hours_25 : decode cX12_hours 25 = .ok (.iconst 0, 1) := by decide +kernel
theorem dX12_hours_26 : decode cX12_hours 26 = .ok (.istore 5, 2) := by decide +kernel
theorem dX12_hours_28 : decode cX12_hours 28 = .ok (.iconst 0, 1) := by decide +kernel
theorem dX12_hours_29 : decode cX12_hours 29 = .ok (.istore 6, 2) := by decide +kernel
theorem dX12_hours_31 : decode cX12_hours 31 = .ok (.iload 6, 2) := by decide +kernel
theorem dX12_hours_33 : decode cX12_hours 33 = .ok (.bipush 120, 2) := by decide +kernel
theorem dX12_hours_35 : decode cX12_hours 35 = .ok (.if_icmp .ge 32, 3) := by decide +kernel
theorem dX12_hours_38 : decode cX12_hours 38 = .ok (.iload 5, 2) := by decide +kernel
theorem dX12_hours_40 : decode cX12_hours 40 = .ok (.aload_n 0, 1) := by decide +kernel
theorem dX12_hours_41 : decode cX12_hours 41 = .ok (.iload_n 1, 1) := by decide +kernel
theorem dX12_hours_42 : decode cX12_hours 42 = .ok (.iload 6, 2) := by decide +kernel
theorem dX12_hours_44 : decode cX12_hours 44 = .ok (.iload_n 3, 1) := by decide +kernel
theorem dX12_hours_45 : decode cX12_hours 45 = .ok (.iload 4, 2) := by decide +kernel
theorem dX12_hours_47 : decode cX12_hours 47 = .ok (.invokevirtual 381, 3) := by decide +kernel
theorem dX12_hours_50 : decode cX12_hours 50 = .ok (.ifCond .lt 7, 3) := by decide +kernel
theorem dX12_hours_53 : decode cX12_hours 53 = .ok (.iconst 1, 1) := by decide +kernel
theorem dX12_hours_54 : decode cX12_hours 54 = .ok (.goto 4, 3) := by decide +kernel
theorem dX12_hours_57 : decode cX12_hours 57 = .ok (.iconst 0, 1) := by decide +kernel
theorem dX12_hours_58 : decode cX12_hours 58 = .ok (.iadd, 1) := by decide +kernel
theorem dX12_hours_59 : decode cX12_hours 59 = .ok (.istore 5, 2) := by decide +kernel
theorem dX12_hours_61 : decode cX12_hours 61 = .ok (.iinc 6 1, 3) := by decide +kernel
theorem dX12_hours_64 : decode cX12_hours 64 = .ok (.goto (-33), 3) := by decide +kernel
theorem dX12_hours_67 : decode cX12_hours 67 = .ok (.iload 5, 2) := by decide +kernel
theorem dX12_hours_69 : decode cX12_hours 69 = .ok (.ireturn, 1) := by decide +kernel
theorem dX12_ice_0 : decode cX12_ice 0 = .ok (.aload_n 0, 1) := by decide +kernel
theorem dX12_ice_1 : decode cX12_ice 1 = .ok (.iconst 0, 1) := by decide +kernel
theorem dX12_ice_2 : decode cX12_ice 2 = .ok (.putfield 1, 3) := by decide +kernel
theorem dX12_ice_5 : decode cX12_ice 5 = .ok (.aload_n 0, 1) := by decide +kernel
theorem dX12_ice_6 : decode cX12_ice 6 = .ok (.iload_n 1, 1) := by decide +kernel
theorem dX12_ice_7 : decode cX12_ice 7 = .ok (.iload_n 2, 1) := by decide +kernel
theorem dX12_ice_8 : decode cX12_ice 8 = .ok (.iload_n 3, 1) := by decide +kernel
theorem dX12_ice_9 : decode cX12_ice 9 = .ok (.iload 4, 2) := by decide +kernel
theorem dX12_ice_11 : decode cX12_ice 11 = .ok (.iload 5, 2) := by decide +kernel
theorem dX12_ice_13 : decode cX12_ice 13 = .ok (.invokevirtual 355, 3) := by decide +kernel
theorem dX12_ice_16 : decode cX12_ice 16 = .ok (.ifCond .ne 5, 3) := by decide +kernel
theorem dX12_ice_19 : decode cX12_ice 19 = .ok (.iconst (-1), 1) := by decide +kernel
theorem dX12_ice_20 : decode cX12_ice 20 = .ok (.ireturn, 1) := by decide +kernel
theorem dX12_ice_21 : decode cX12_ice 21 = .ok (.aload_n 0, 1) := by decide +kernel
theorem dX12_ice_22 : decode cX12_ice 22 = .ok (.iload_n 2, 1) := by decide +kernel
theorem dX12_ice_23 : decode cX12_ice 23 = .ok (.invokevirtual 339, 3) := by decide +kernel
theorem dX12_ice_26 : decode cX12_ice 26 = .ok (.iconst 0, 1) := by decide +kernel
theorem dX12_ice_27 : decode cX12_ice 27 = .ok (.istore 6, 2) := by decide +kernel
theorem dX12_ice_29 : decode cX12_ice 29 = .ok (.iload 6, 2) := by decide +kernel
theorem dX12_ice_31 : decode cX12_ice 31 = .ok (.sipush 12000, 3) := by decide +kernel
theorem dX12_ice_34 : decode cX12_ice 34 = .ok (.if_icmp .ge 36, 3) := by decide +kernel
theorem dX12_ice_37 : decode cX12_ice 37 = .ok (.aload_n 0, 1) := by decide +kernel
theorem dX12_ice_38 : decode cX12_ice 38 = .ok (.getfield 122, 3) := by decide +kernel
theorem dX12_ice_41 : decode cX12_ice 41 = .ok (.iload 6, 2) := by decide +kernel
theorem dX12_ice_43 : decode cX12_ice 43 = .ok (.aload_n 0, 1) := by decide +kernel
theorem dX12_ice_44 : decode cX12_ice 44 = .ok (.iload_n 1, 1) := by decide +kernel
theorem dX12_ice_45 : decode cX12_ice 45 = .ok (.aload_n 0, 1) := by decide +kernel
theorem dX12_ice_46 : decode cX12_ice 46 = .ok (.getfield 112, 3) := by decide +kernel
theorem dX12_ice_49 : decode cX12_ice 49 = .ok (.iload 6, 2) := by decide +kernel
theorem dX12_ice_51 : decode cX12_ice 51 = .ok (.iaload, 1) := by decide +kernel
theorem dX12_ice_52 : decode cX12_ice 52 = .ok (.ifCond .le 7, 3) := by decide +kernel
theorem dX12_ice_55 : decode cX12_ice 55 = .ok (.iconst 4, 1) := by decide +kernel
theorem dX12_ice_56 : decode cX12_ice 56 = .ok (.goto 4, 3) := by decide +kernel
theorem dX12_ice_59 : decode cX12_ice 59 = .ok (.iconst 5, 1) := by decide +kernel
theorem dX12_ice_60 : decode cX12_ice 60 = .ok (.invokevirtual 345, 3) := by decide +kernel
theorem dX12_ice_63 : decode cX12_ice 63 = .ok (.iastore, 1) := by decide +kernel
theorem dX12_ice_64 : decode cX12_ice 64 = .ok (.iinc 6 1, 3) := by decide +kernel
theorem dX12_ice_67 : decode cX12_ice 67 = .ok (.goto (-38), 3) := by decide +kernel
theorem dX12_ice_70 : decode cX12_ice 70 = .ok (.aload_n 0, 1) := by decide +kernel
theorem dX12_ice_71 : decode cX12_ice 71 = .ok (.iload 5, 2) := by decide +kernel
theorem dX12_ice_73 : decode cX12_ice 73 = .ok (.aload_n 0, 1) := by decide +kernel
theorem dX12_ice_74 : decode cX12_ice 74 = .ok (.iload_n 1, 1) := by decide +kernel
theorem dX12_ice_75 : decode cX12_ice 75 = .ok (.iconst 0, 1) := by decide +kernel
theorem dX12_ice_76 : decode cX12_ice 76 = .ok (.invokevirtual 345, 3) := by decide +kernel
theorem dX12_ice_79 : decode cX12_ice 79 = .ok (.iconst 1, 1) := by decide +kernel
theorem dX12_ice_80 : decode cX12_ice 80 = .ok (.bipush 119, 2) := by decide +kernel
theorem dX12_ice_82 : decode cX12_ice 82 = .ok (.invokevirtual 348, 3) := by decide +kernel
theorem dX12_ice_85 : decode cX12_ice 85 = .ok (.aload_n 0, 1) := by decide +kernel
theorem dX12_ice_86 : decode cX12_ice 86 = .ok (.getfield 125, 3) := by decide +kernel
theorem dX12_ice_89 : decode cX12_ice 89 = .ok (.bipush 100, 2) := by decide +kernel
theorem dX12_ice_91 : decode cX12_ice 91 = .ok (.iload_n 3, 1) := by decide +kernel
theorem dX12_ice_92 : decode cX12_ice 92 = .ok (.imul, 1) := by decide +kernel
theorem dX12_ice_93 : decode cX12_ice 93 = .ok (.iload 4, 2) := by decide +kernel
theorem dX12_ice_95 : decode cX12_ice 95 = .ok (.iadd, 1) := by decide +kernel
theorem dX12_ice_96 : decode cX12_ice 96 = .ok (.iaload, 1) := by decide +kernel
theorem dX12_ice_97 : decode cX12_ice 97 = .ok (.istore 6, 2) := by decide +kernel
theorem dX12_ice_99 : decode cX12_ice 99 = .ok (.aload_n 0, 1) := by decide +kernel
theorem dX12_ice_100 : decode cX12_ice 100 = .ok (.iload_n 1, 1) := by decide +kernel
theorem dX12_ice_101 : decode cX12_ice 101 = .ok (.iconst 3, 1) := by decide +kernel
theorem dX12_ice_102 : decode cX12_ice 102 = .ok (.invokevirtual 345, 3) := by decide +kernel
theorem dX12_ice_105 : decode cX12_ice 105 = .ok (.iload 6, 2) := by decide +kernel
theorem dX12_ice_107 : decode cX12_ice 107 = .ok (.isub, 1) := by decide +kernel
theorem dX12_ice_108 : decode cX12_ice 108 = .ok (.istore 7, 2) := by decide +kernel
theorem dX12_ice_110 : decode cX12_ice 110 = .ok (.iload 6, 2) := by decide +kernel
theorem dX12_ice_112 : decode cX12_ice 112 = .ok (.ldc_w 331, 3) := by decide +kernel
theorem dX12_ice_115 : decode cX12_ice 115 = .ok (.if_icmp .lt 7, 3) := by decide +kernel
theorem dX12_ice_118 : decode cX12_ice 118 = .ok (.iconst (-1), 1) := by decide +kernel
theorem dX12_ice_119 : decode cX12_ice 119 = .ok (.goto 14, 3) := by decide +kernel
theorem dX12_ice_122 : decode cX12_ice 122 = .ok (.iload 7, 2) := by decide +kernel
theorem dX12_ice_124 : decode cX12_ice 124 = .ok (.ifCond .ge 7, 3) := by decide +kernel
theorem dX12_ice_127 : decode cX12_ice 127 = .ok (.iconst 0, 1) := by decide +kernel
theorem dX12_ice_128 : decode cX12_ice 128 = .ok (.goto 5, 3) := by decide +kernel
theorem dX12_ice_131 : decode cX12_ice 131 = .ok (.iload 7, 2) := by decide +kernel
theorem dX12_ice_133 : decode cX12_ice 133 = .ok (.ireturn, 1) := by decide +kernel
