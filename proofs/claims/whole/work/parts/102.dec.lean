theorem dX11_edges_0 : decode cX11_edges 0 = .ok (.iload_n 1, 1) := by decide +kernel
theorem dX11_edges_1 : decode cX11_edges 1 = .ok (.iload_n 2, 1) := by decide +kernel
theorem dX11_edges_2 : decode cX11_edges 2 = .ok (.invokestatic 138, 3) := by decide +kernel
theorem dX11_edges_5 : decode cX11_edges 5 = .ok (.ifCond .eq 8, 3) := by decide +kernel
theorem dX11_edges_8 : decode cX11_edges 8 = .ok (.iload_n 2, 1) := by decide +kernel
theorem dX11_edges_9 : decode cX11_edges 9 = .ok (.iconst 1, 1) := by decide +kernel
theorem dX11_edges_10 : decode cX11_edges 10 = .ok (.if_icmp .ge 5, 3) := by decide +kernel
theorem dX11_edges_13 : decode cX11_edges 13 = .ok (.iconst (-1), 1) := by decide +kernel
theorem dX11_edges_14 : decode cX11_edges 14 = .ok (.ireturn, 1) := by decide +kernel
theorem dX11_edges_15 : decode cX11_edges 15 = .ok (.iload_n 1, 1) := by decide +kernel
theorem dX11_edges_16 : decode cX11_edges 16 = .ok (.iload_n 2, 1) := by decide +kernel
theorem dX11_edges_17 : decode cX11_edges 17 = .ok (.invokestatic 146, 3) := by decide +kernel
theorem dX11_edges_20 : decode cX11_edges 20 = .ok (.istore 4, 2) := by decide +kernel
theorem dX11_edges_22 : decode cX11_edges 22 = .ok (.iload_n 3, 1) := by decide +kernel
theorem dX11_edges_23 : decode cX11_edges 23 = .ok (.ifCond .eq 19, 3) := by decide +kernel
theorem dX11_edges_26 : decode cX11_edges 26 = .ok (.aload_n 0, 1) := by decide +kernel
theorem dX11_edges_27 : decode cX11_edges 27 = .ok (.getfield 35, 3) := by decide +kernel
theorem dX11_edges_30 : decode cX11_edges 30 = .ok (.iload 4, 2) := by decide +kernel
theorem dX11_edges_32 : decode cX11_edges 32 = .ok (.iload 4, 2) := by decide +kernel
theorem dX11_edges_34 : decode cX11_edges 34 = .ok (.iconst 1, 1) := by decide +kernel
theorem dX11_edges_35 : decode cX11_edges 35 = .ok (.isub, 1) := by decide +kernel
theorem dX11_edges_36 : decode cX11_edges 36 = .ok (.invokevirtual 167, 3) := by decide +kernel
theorem dX11_edges_39 : decode cX11_edges 39 = .ok (.goto 16, 3) := by decide +kernel
theorem dX11_edges_42 : decode cX11_edges 42 = .ok (.aload_n 0, 1) := by decide +kernel
theorem dX11_edges_43 : decode cX11_edges 43 = .ok (.getfield 35, 3) := by decide +kernel
theorem dX11_edges_46 : decode cX11_edges 46 = .ok (.iload 4, 2) := by decide +kernel
theorem dX11_edges_48 : decode cX11_edges 48 = .ok (.iconst 1, 1) := by decide +kernel
theorem dX11_edges_49 : decode cX11_edges 49 = .ok (.isub, 1) := by decide +kernel
theorem dX11_edges_50 : decode cX11_edges 50 = .ok (.iload 4, 2) := by decide +kernel
theorem dX11_edges_52 : decode cX11_edges 52 = .ok (.invokevirtual 167, 3) := by decide +kernel
theorem dX11_edges_55 : decode cX11_edges 55 = .ok (.ireturn, 1) := by decide +kernel
theorem dX11_least_0 : decode cX11_least 0 = .ok (.iload 6, 2) := by decide +kernel
theorem dX11_least_2 : decode cX11_least 2 = .ok (.ifCond .lt 35, 3) := by decide +kernel
theorem dX11_least_5 : decode cX11_least 5 = .ok (.iload 6, 2) := by decide +kernel
theorem dX11_least_7 : decode cX11_least 7 = .ok (.iconst 2, 1) := by decide +kernel
theorem dX11_least_8 : decode cX11_least 8 = .ok (.if_icmp .gt 29, 3) := by decide +kernel
theorem dX11_least_11 : decode cX11_least 11 = .ok (.aload_n 0, 1) := by decide +kernel
theorem dX11_least_12 : decode cX11_least 12 = .ok (.iload_n 1, 1) := by decide +kernel
theorem dX11_least_13 : decode cX11_least 13 = .ok (.iload_n 2, 1) := by decide +kernel
theorem dX11_least_14 : decode cX11_least 14 = .ok (.iload_n 3, 1) := by decide +kernel
theorem dX11_least_15 : decode cX11_least 15 = .ok (.iload 4, 2) := by decide +kernel
theorem dX11_least_17 : decode cX11_least 17 = .ok (.iload 5, 2) := by decide +kernel
theorem dX11_least_19 : decode cX11_least 19 = .ok (.invokevirtual 170, 3) := by decide +kernel
theorem dX11_least_22 : decode cX11_least 22 = .ok (.ifCond .eq 15, 3) := by decide +kernel
theorem dX11_least_25 : decode cX11_least 25 = .ok (.aload_n 0, 1) := by decide +kernel
theorem dX11_least_26 : decode cX11_least 26 = .ok (.getfield 44, 3) := by decide +kernel
theorem dX11_least_29 : decode cX11_least 29 = .ok (.bipush 119, 2) := by decide +kernel
theorem dX11_least_31 : decode cX11_least 31 = .ok (.invokevirtual 174, 3) := by decide +kernel
theorem dX11_least_34 : decode cX11_least 34 = .ok (.ifCond .ne 11, 3) := by decide +kernel
theorem dX11_least_37 : decode cX11_least 37 = .ok (.new 177, 3) := by decide +kernel
theorem dX11_least_40 : decode cX11_least 40 = .ok (.dup, 1) := by decide +kernel
theorem dX11_least_41 : decode cX11_least 41 = .ok (.invokespecial 179, 3) := by decide +kernel
theorem dX11_least_44 : decode cX11_least 44 = .ok (.athrow, 1) := by decide +kernel
theorem dX11_least_45 : decode cX11_least 45 = .ok (.iload 6, 2) := by decide +kernel
theorem dX11_least_47 : decode cX11_least 47 = .ok (.ifCond .ne 11, 3) := by decide +kernel
theorem dX11_least_50 : decode cX11_least 50 = .ok (.aload_n 0, 1) := by decide +kernel
theorem dX11_least_51 : decode cX11_least 51 = .ok (.getfield 44, 3) := by decide +kernel
theorem dX11_least_54 : decode cX11_least 54 = .ok (.getfield 180, 3) := by decide +kernel
theorem dX11_least_57 : decode cX11_least 57 = .ok (.ireturn, 1) := by decide +kernel
theorem dX11_least_58 : decode cX11_least 58 = .ok (.iload 6, 2) := by decide +kernel
theorem dX11_least_60 : decode cX11_least 60 = .ok (.iconst 1, 1) := by decide +kernel
theorem dX11_least_61 : decode cX11_least 61 = .ok (.if_icmp .ne 11, 3) := by decide +kernel
theorem dX11_least_64 : decode cX11_least 64 = .ok (.aload_n 0, 1) := by decide +kernel
theorem dX11_least_65 : decode cX11_least 65 = .ok (.getfield 44, 3) := by decide +kernel
theorem dX11_least_68 : decode cX11_least 68 = .ok (.getfield 183, 3) := by decide +kernel
theorem dX11_least_71 : decode cX11_least 71 = .ok (.ireturn, 1) := by decide +kernel
theorem dX11_least_72 : decode cX11_least 72 = .ok (.aload_n 0, 1) := by decide +kernel
theorem dX11_least_73 : decode cX11_least 73 = .ok (.invokevirtual 186, 3) := by decide +kernel
theorem dX11_least_76 : decode cX11_least 76 = .ok (.aload_n 0, 1) := by decide +kernel
theorem dX11_least_77 : decode cX11_least 77 = .ok (.getfield 44, 3) := by decide +kernel
theorem dX11_least_80 : decode cX11_least 80 = .ok (.getfield 189, 3) := by decide +kernel
theorem dX11_least_83 : decode cX11_least 83 = .ok (.getfield 75, 3) := by decide +kernel
theorem dX11_least_86 : decode cX11_least 86 = .ok (.ireturn, 1) := by decide +kernel
theorem dX11_piece_0 : decode cX11_piece 0 = .ok (.iload 6, 2) := by decide +kernel
theorem dX11_piece_2 : decode cX11_piece 2 = .ok (.ifCond .lt 29, 3) := by decide +kernel
theorem dX11_piece_5 : decode cX11_piece 5 = .ok (.aload_n 0, 1) := by decide +kernel
theorem dX11_piece_6 : decode cX11_piece 6 = .ok (.iload_n 1, 1) := by decide +kernel
theorem dX11_piece_7 : decode cX11_piece 7 = .ok (.iload_n 2, 1) := by decide +kernel
theorem dX11_piece_8 : decode cX11_piece 8 = .ok (.iload_n 3, 1) := by decide +kernel
theorem dX11_piece_9 : decode cX11_piece 9 = .ok (.iload 4, 2) := by decide +kernel
theorem dX11_piece_11 : decode cX11_piece 11 = .ok (.iload 5, 2) := by decide +kernel
theorem dX11_piece_13 : decode cX11_piece 13 = .ok (.invokevirtual 170, 3) := by decide +kernel
theorem dX11_piece_16 : decode cX11_piece 16 = .ok (.ifCond .eq 15, 3) := by decide +kernel
theorem dX11_piece_19 : decode cX11_piece 19 = .ok (.aload_n 0, 1) := by decide +kernel
theorem dX11_piece_20 : decode cX11_piece 20 = .ok (.getfield 44, 3) := by decide +kernel
theorem dX11_piece_23 : decode cX11_piece 23 = .ok (.bipush 119, 2) := by decide +kernel
theorem dX11_piece_25 : decode cX11_piece 25 = .ok (.invokevirtual 174, 3) := by decide +kernel
theorem dX11_piece_28 : decode cX11_piece 28 = .ok (.ifCond .ne 5, 3) := by decide +kernel
theorem dX11_piece_31 : decode cX11_piece 31 = .ok (.iconst (-1), 1) := by decide +kernel
theorem dX11_piece_32 : decode cX11_piece 32 = .ok (.ireturn, 1) := by decide +kernel
theorem dX11_piece_33 : decode cX11_piece 33 = .ok (.aload_n 0, 1) := by decide +kernel
theorem dX11_piece_34 : decode cX11_piece 34 = .ok (.invokevirtual 186, 3) := by decide +kernel
theorem dX11_piece_37 : decode cX11_piece 37 = .ok (.aload_n 0, 1) := by decide +kernel
theorem dX11_piece_38 : decode cX11_piece 38 = .ok (.getfield 44, 3) := by decide +kernel
theorem dX11_piece_41 : decode cX11_piece 41 = .ok (.getfield 189, 3) := by decide +kernel
theorem dX11_piece_44 : decode cX11_piece 44 = .ok (.iload 6, 2) := by decide +kernel
theorem dX11_piece_46 : decode cX11_piece 46 = .ok (.invokevirtual 192, 3) := by decide +kernel
theorem dX11_piece_49 : decode cX11_piece 49 = .ok (.ireturn, 1) := by decide +kernel
theorem dX11_takeWay_0 : decode cX11_takeWay 0 = .ok (.aload_n 0, 1) := by decide +kernel
theorem dX11_takeWay_1 : decode cX11_takeWay 1 = .ok (.getfield 44, 3) := by decide +kernel
theorem dX11_takeWay_4 : decode cX11_takeWay 4 = .ok (.aload_n 0, 1) := by decide +kernel
theorem dX11_takeWay_5 : decode cX11_takeWay 5 = .ok (.getfield 44, 3) := by decide +kernel
theorem dX11_takeWay_8 : decode cX11_takeWay 8 = .ok (.getfield 195, 3) := by decide +kernel
theorem dX11_takeWay_11 : decode cX11_takeWay 11 = .ok (.aload_n 0, 1) := by decide +kernel
theorem dX11_takeWay_12 : decode cX11_takeWay 12 = .ok (.getfield 44, 3) := by decide +kernel
theorem dX11_takeWay_15 : decode cX11_takeWay 15 = .ok (.getfield 183, 3) := by decide +kernel
theorem dX11_takeWay_18 : decode cX11_takeWay 18 = .ok (.iconst 1, 1) := by decide +kernel
theorem dX11_takeWay_19 : decode cX11_takeWay 19 = .ok (.invokevirtual 198, 3) := by decide +kernel
theorem dX11_takeWay_22 : decode cX11_takeWay 22 = .ok (.aload_n 0, 1) := by decide +kernel
theorem dX11_takeWay_23 : decode cX11_takeWay 23 = .ok (.getfield 44, 3) := by decide +kernel
theorem dX11_takeWay_26 : decode cX11_takeWay 26 = .ok (.invokevirtual 202, 3) := by decide +kernel
theorem dX11_takeWay_29 : decode cX11_takeWay 29 = .ok (.return_, 1) := by decide +kernel
theorem dX11_soon_0 : decode cX11_soon 0 = .ok (.iload 6, 2) := by decide +kernel
theorem dX11_soon_2 : decode cX11_soon 2 = .ok (.ifCond .lt 17, 3) := by decide +kernel
theorem dX11_soon_5 : decode cX11_soon 5 = .ok (.aload_n 0, 1) := by decide +kernel
theorem dX11_soon_6 : decode cX11_soon 6 = .ok (.iload_n 1, 1) := by decide +kernel
theorem dX11_soon_7 : decode cX11_soon 7 = .ok (.iload_n 2, 1) := by decide +kernel
theorem dX11_soon_8 : decode cX11_soon 8 = .ok (.iload_n 3, 1) := by decide +kernel
theorem dX11_soon_9 : decode cX11_soon 9 = .ok (.iload 4, 2) := by decide +kernel
theorem dX11_soon_11 : decode cX11_soon 11 = .ok (.iload 5, 2) := by decide +kernel
theorem dX11_soon_13 : decode cX11_soon 13 = .ok (.invokevirtual 170, 3) := by decide +kernel
theorem dX11_soon_16 : decode cX11_soon 16 = .ok (.ifCond .ne 5, 3) := by decide +kernel
theorem dX11_soon_19 : decode cX11_soon 19 = .ok (.iconst (-1), 1) := by decide +kernel
theorem dX11_soon_20 : decode cX11_soon 20 = .ok (.ireturn, 1) := by decide +kernel
theorem dX11_soon_21 : decode cX11_soon 21 = .ok (.aload_n 0, 1) := by decide +kernel
theorem dX11_soon_22 : decode cX11_soon 22 = .ok (.getfield 44, 3) := by decide +kernel
theorem dX11_soon_25 : decode cX11_soon 25 = .ok (.iload 6, 2) := by decide +kernel
theorem dX11_soon_27 : decode cX11_soon 27 = .ok (.ldc 205, 2) := by decide +kernel
theorem dX11_soon_29 : decode cX11_soon 29 = .ok (.invokestatic 206, 3) := by decide +kernel
theorem dX11_soon_32 : decode cX11_soon 32 = .ok (.invokevirtual 211, 3) := by decide +kernel
theorem dX11_soon_35 : decode cX11_soon 35 = .ok (.aload_n 0, 1) := by decide +kernel
theorem dX11_soon_36 : decode cX11_soon 36 = .ok (.getfield 44, 3) := by decide +kernel
theorem dX11_soon_39 : decode cX11_soon 39 = .ok (.getfield 183, 3) := by decide +kernel
theorem dX11_soon_42 : decode cX11_soon 42 = .ok (.ireturn, 1) := by decide +kernel
theorem dX11_both_0 : decode cX11_both 0 = .ok (.iload 6, 2) := by decide +kernel
theorem dX11_both_2 : decode cX11_both 2 = .ok (.ifCond .lt 40, 3) := by decide +kernel
theorem dX11_both_5 : decode cX11_both 5 = .ok (.iload 7, 2) := by decide +kernel
theorem dX11_both_7 : decode cX11_both 7 = .ok (.ifCond .lt 35, 3) := by decide +kernel
theorem dX11_both_10 : decode cX11_both 10 = .ok (.iload 7, 2) := by decide +kernel
theorem dX11_both_12 : decode cX11_both 12 = .ok (.iconst 1, 1) := by decide +kernel
theorem dX11_both_13 : decode cX11_both 13 = .ok (.if_icmp .gt 29, 3) := by decide +kernel
theorem dX11_both_16 : decode cX11_both 16 = .ok (.aload_n 0, 1) := by decide +kernel
theorem dX11_both_17 : decode cX11_both 17 = .ok (.iload_n 1, 1) := by decide +kernel
theorem dX11_both_18 : decode cX11_both 18 = .ok (.iload_n 2, 1) := by decide +kernel
theorem dX11_both_19 : decode cX11_both 19 = .ok (.iload_n 3, 1) := by decide +kernel
theorem dX11_both_20 : decode cX11_both 20 = .ok (.iload 4, 2) := by decide +kernel
theorem dX11_both_22 : decode cX11_both 22 = .ok (.iload 5, 2) := by decide +kernel
theorem dX11_both_24 : decode cX11_both 24 = .ok (.invokevirtual 170, 3) := by decide +kernel
theorem dX11_both_27 : decode cX11_both 27 = .ok (.ifCond .eq 15, 3) := by decide +kernel
theorem dX11_both_30 : decode cX11_both 30 = .ok (.aload_n 0, 1) := by decide +kernel
theorem dX11_both_31 : decode cX11_both 31 = .ok (.getfield 44, 3) := by decide +kernel
theorem dX11_both_34 : decode cX11_both 34 = .ok (.bipush 119, 2) := by decide +kernel
theorem dX11_both_36 : decode cX11_both 36 = .ok (.invokevirtual 174, 3) := by decide +kernel
theorem dX11_both_39 : decode cX11_both 39 = .ok (.ifCond .ne 5, 3) := by decide +kernel
theorem dX11_both_42 : decode cX11_both 42 = .ok (.iconst (-1), 1) := by decide +kernel
theorem dX11_both_43 : decode cX11_both 43 = .ok (.ireturn, 1) := by decide +kernel
theorem dX11_both_44 : decode cX11_both 44 = .ok (.aload_n 0, 1) := by decide +kernel
theorem dX11_both_45 : decode cX11_both 45 = .ok (.getfield 44, 3) := by decide +kernel
theorem dX11_both_48 : decode cX11_both 48 = .ok (.iload 6, 2) := by decide +kernel
theorem dX11_both_50 : decode cX11_both 50 = .ok (.invokevirtual 215, 3) := by decide +kernel
theorem dX11_both_53 : decode cX11_both 53 = .ok (.istore 8, 2) := by decide +kernel
theorem dX11_both_55 : decode cX11_both 55 = .ok (.iload 8, 2) := by decide +kernel
theorem dX11_both_57 : decode cX11_both 57 = .ok (.iconst (-1), 1) := by decide +kernel
theorem dX11_both_58 : decode cX11_both 58 = .ok (.if_icmp .eq 8, 3) := by decide +kernel
theorem dX11_both_61 : decode cX11_both 61 = .ok (.iload 7, 2) := by decide +kernel
theorem dX11_both_63 : decode cX11_both 63 = .ok (.ifCond .ne 8, 3) := by decide +kernel
theorem dX11_both_66 : decode cX11_both 66 = .ok (.iload 8, 2) := by decide +kernel
theorem dX11_both_68 : decode cX11_both 68 = .ok (.goto 14, 3) := by decide +kernel
theorem dX11_both_71 : decode cX11_both 71 = .ok (.aload_n 0, 1) := by decide +kernel
theorem dX11_both_72 : decode cX11_both 72 = .ok (.getfield 44, 3) := by decide +kernel
theorem dX11_both_75 : decode cX11_both 75 = .ok (.iload 8, 2) := by decide +kernel
theorem dX11_both_77 : decode cX11_both 77 = .ok (.iload 5, 2) := by decide +kernel
theorem dX11_both_79 : decode cX11_both 79 = .ok (.invokevirtual 218, 3) := by decide +kernel
theorem dX11_both_82 : decode cX11_both 82 = .ok (.ireturn, 1) := by decide +kernel
theorem dX11_bears_0 : decode cX11_bears 0 = .ok (.aload_n 0, 1) := by decide +kernel
theorem dX11_bears_1 : decode cX11_bears 1 = .ok (.iload_n 1, 1) := by decide +kernel
theorem dX11_bears_2 : decode cX11_bears 2 = .ok (.iload_n 2, 1) := by decide +kernel
theorem dX11_bears_3 : decode cX11_bears 3 = .ok (.iload_n 3, 1) := by decide +kernel
theorem dX11_bears_4 : decode cX11_bears 4 = .ok (.iload 4, 2) := by decide +kernel
theorem dX11_bears_6 : decode cX11_bears 6 = .ok (.iload 5, 2) := by decide +kernel
theorem dX11_bears_8 : decode cX11_bears 8 = .ok (.invokevirtual 170, 3) := by decide +kernel
theorem dX11_bears_11 : decode cX11_bears 11 = .ok (.ifCond .ne 5, 3) := by decide +kernel
theorem dX11_bears_14 : decode cX11_bears 14 = .ok (.iconst (-1), 1) := by decide +kernel
theorem dX11_bears_15 : decode cX11_bears 15 = .ok (.ireturn, 1) := by decide +kernel
theorem dX11_bears_16 : decode cX11_bears 16 = .ok (.aload_n 0, 1) := by decide +kernel
theorem dX11_bears_17 : decode cX11_bears 17 = .ok (.getfield 44, 3) := by decide +kernel
theorem dX11_bears_20 : decode cX11_bears 20 = .ok (.invokevirtual 221, 3) := by decide +kernel
theorem dX11_bears_23 : decode cX11_bears 23 = .ok (.aload_n 0, 1) := by decide +kernel
theorem dX11_bears_24 : decode cX11_bears 24 = .ok (.getfield 44, 3) := by decide +kernel
theorem dX11_bears_27 : decode cX11_bears 27 = .ok (.getfield 183, 3) := by decide +kernel
theorem dX11_bears_30 : decode cX11_bears 30 = .ok (.ireturn, 1) := by decide +kernel
theorem dX11_hours_0 : decode cX11_hours 0 = .ok (.aload_n 0, 1) := by decide +kernel
theorem dX11_hours_1 : decode cX11_hours 1 = .ok (.iload_n 1, 1) := by decide +kernel
theorem dX11_hours_2 : decode cX11_hours 2 = .ok (.iload_n 2, 1) := by decide +kernel
theorem dX11_hours_3 : decode cX11_hours 3 = .ok (.iconst 0, 1) := by decide +kernel
theorem dX11_hours_4 : decode cX11_hours 4 = .ok (.iload_n 3, 1) := by decide +kernel
theorem dX11_hours_5 : decode cX11_hours 5 = .ok (.iload 4, 2) := by decide +kernel
theorem dX11_hours_7 : decode cX11_hours 7 = .ok (.invokevirtual 170, 3) := by decide +kernel
theorem dX11_hours_10 : decode cX11_hours 10 = .ok (.ifCond .ne 5, 3) := by decide +kernel
theorem dX11_hours_13 : decode cX11_hours 13 = .ok (.iconst (-1), 1) := by decide +kernel
theorem dX11_hours_14 : decode cX11_hours 14 = .ok (.ireturn, 1) := by decide +kernel
theorem dX11_hours_15 : decode cX11_hours 15 = .ok (.aload_n 0, 1) := by decide +kernel
theorem dX11_hours_16 : decode cX11_hours 16 = .ok (.getfield 44, 3) := by decide +kernel
theorem dX11_hours_19 : decode cX11_hours 19 = .ok (.invokevirtual 224, 3) := by decide +kernel
theorem dX11_hours_22 : decode cX11_hours 22 = .ok (.iconst 0, 1) := by decide +kernel
theorem dX11_hours_23 : decode cX11_hours 23 = .ok (.istore 5, 2) := by decide +kernel
theorem dX11_hours_25 : decode cX11_hours 25 = .ok (.iconst 0, 1) := by decide +kernel
theorem dX11_hours_26 : decode cX11_hours 26 = .ok (.istore 6, 2) := by decide +kernel
theorem dX11_hours_28 : decode cX11_hours 28 = .ok (.iload 6, 2) := by decide +kernel
theorem dX11_hours_30 : decode cX11_hours 30 = .ok (.bipush 119, 2) := by decide +kernel
theorem dX11_hours_32 : decode cX11_hours 32 = .ok (.if_icmp .gt 25, 3) := by decide +kernel
theorem dX11_hours_35 : decode cX11_hours 35 = .ok (.aload_n 0, 1) := by decide +kernel
theorem dX11_hours_36 : decode cX11_hours 36 = .ok (.getfield 44, 3) := by decide +kernel
theorem dX11_hours_39 : decode cX11_hours 39 = .ok (.iload 6, 2) := by decide +kernel
theorem dX11_hours_41 : decode cX11_hours 41 = .ok (.iload_n 3, 1) := by decide +kernel
theorem dX11_hours_42 : decode cX11_hours 42 = .ok (.invokevirtual 227, 3) := by decide +kernel
theorem dX11_hours_45 : decode cX11_hours 45 = .ok (.ifCond .lt 6, 3) := by decide +kernel
theorem dX11_hours_48 : decode cX11_hours 48 = .ok (.iinc 5 1, 3) := by decide +kernel
theorem dX11_hours_51 : decode cX11_hours 51 = .ok (.iinc 6 1, 3) := by decide +kernel
theorem dX11_hours_54 : decode cX11_hours 54 = .ok (.goto (-26), 3) := by decide +kernel
theorem dX11_hours_57 : decode cX11_hours 57 = .ok (.iload 5, 2) := by decide +kernel
theorem dX11_hours_59 : decode cX11_hours 59 = .ok (.ireturn, 1) := by decide +kernel
theorem dX11_ice_0 : decode cX11_ice 0 = .ok (.aload_n 0, 1) := by decide +kernel
theorem dX11_ice_1 : decode cX11_ice 1 = .ok (.iload_n 1, 1) := by decide +kernel
theorem dX11_ice_2 : decode cX11_ice 2 = .ok (.iload_n 2, 1) := by decide +kernel
theorem dX11_ice_3 : decode cX11_ice 3 = .ok (.iload_n 3, 1) := by decide +kernel
theorem dX11_ice_4 : decode cX11_ice 4 = .ok (.iload 4, 2) := by decide +kernel
theorem dX11_ice_6 : decode cX11_ice 6 = .ok (.iload 5, 2) := by decide +kernel
theorem dX11_ice_8 : decode cX11_ice 8 = .ok (.invokevirtual 170, 3) := by decide +kernel
theorem dX11_ice_11 : decode cX11_ice 11 = .ok (.ifCond .ne 5, 3) := by decide +kernel
theorem dX11_ice_14 : decode cX11_ice 14 = .ok (.iconst (-1), 1) := by decide +kernel
theorem dX11_ice_15 : decode cX11_ice 15 = .ok (.ireturn, 1) := by decide +kernel
theorem dX11_ice_16 : decode cX11_ice 16 = .ok (.aload_n 0, 1) := by decide +kernel
theorem dX11_ice_17 : decode cX11_ice 17 = .ok (.getfield 44, 3) := by decide +kernel
theorem dX11_ice_20 : decode cX11_ice 20 = .ok (.aload_n 0, 1) := by decide +kernel
theorem dX11_ice_21 : decode cX11_ice 21 = .ok (.getfield 44, 3) := by decide +kernel
theorem dX11_ice_24 : decode cX11_ice 24 = .ok (.getfield 230, 3) := by decide +kernel
theorem dX11_ice_27 : decode cX11_ice 27 = .ok (.getfield 234, 3) := by decide +kernel
theorem dX11_ice_30 : decode cX11_ice 30 = .ok (.putfield 239, 3) := by decide +kernel
theorem dX11_ice_33 : decode cX11_ice 33 = .ok (.aload_n 0, 1) := by decide +kernel
theorem dX11_ice_34 : decode cX11_ice 34 = .ok (.getfield 44, 3) := by decide +kernel
theorem dX11_ice_37 : decode cX11_ice 37 = .ok (.aload_n 0, 1) := by decide +kernel
theorem dX11_ice_38 : decode cX11_ice 38 = .ok (.getfield 44, 3) := by decide +kernel
theorem dX11_ice_41 : decode cX11_ice 41 = .ok (.getfield 230, 3) := by decide +kernel
theorem dX11_ice_44 : decode cX11_ice 44 = .ok (.getfield 240, 3) := by decide +kernel
theorem dX11_ice_47 : decode cX11_ice 47 = .ok (.putfield 243, 3) := by decide +kernel
theorem dX11_ice_50 : decode cX11_ice 50 = .ok (.aload_n 0, 1) := by decide +kernel
theorem dX11_ice_51 : decode cX11_ice 51 = .ok (.getfield 44, 3) := by decide +kernel
theorem dX11_ice_54 : decode cX11_ice 54 = .ok (.bipush 119, 2) := by decide +kernel
theorem dX11_ice_56 : decode cX11_ice 56 = .ok (.invokevirtual 174, 3) := by decide +kernel
theorem dX11_ice_59 : decode cX11_ice 59 = .ok (.ifCond .eq 28, 3) := by decide +kernel
theorem dX11_ice_62 : decode cX11_ice 62 = .ok (.iconst 0, 1) := by decide +kernel
theorem dX11_ice_63 : decode cX11_ice 63 = .ok (.aload_n 0, 1) := by decide +kernel
theorem dX11_ice_64 : decode cX11_ice 64 = .ok (.getfield 44, 3) := by decide +kernel
theorem dX11_ice_67 : decode cX11_ice 67 = .ok (.getfield 230, 3) := by decide +kernel
theorem dX11_ice_70 : decode cX11_ice 70 = .ok (.getfield 244, 3) := by decide +kernel
theorem dX11_ice_73 : decode cX11_ice 73 = .ok (.aload_n 0, 1) := by decide +kernel
theorem dX11_ice_74 : decode cX11_ice 74 = .ok (.getfield 44, 3) := by decide +kernel
theorem dX11_ice_77 : decode cX11_ice 77 = .ok (.getfield 180, 3) := by decide +kernel
theorem dX11_ice_80 : decode cX11_ice 80 = .ok (.isub, 1) := by decide +kernel
theorem dX11_ice_81 : decode cX11_ice 81 = .ok (.invokestatic 247, 3) := by decide +kernel
theorem dX11_ice_84 : decode cX11_ice 84 = .ok (.goto 4, 3) := by decide +kernel
theorem dX11_ice_87 : decode cX11_ice 87 = .ok (.iconst (-1), 1) := by decide +kernel
theorem dX11_ice_88 : decode cX11_ice 88 = .ok (.ireturn, 1) := by decide +kernel
theorem dX11_pays_0 : decode cX11_pays 0 = .ok (.aload_n 0, 1) := by decide +kernel
theorem dX11_pays_1 : decode cX11_pays 1 = .ok (.iload_n 1, 1) := by decide +kernel
theorem dX11_pays_2 : decode cX11_pays 2 = .ok (.iload_n 2, 1) := by decide +kernel
theorem dX11_pays_3 : decode cX11_pays 3 = .ok (.iload_n 3, 1) := by decide +kernel
theorem dX11_pays_4 : decode cX11_pays 4 = .ok (.iload 4, 2) := by decide +kernel
theorem dX11_pays_6 : decode cX11_pays 6 = .ok (.iload 5, 2) := by decide +kernel
theorem dX11_pays_8 : decode cX11_pays 8 = .ok (.invokevirtual 170, 3) := by decide +kernel
theorem dX11_pays_11 : decode cX11_pays 11 = .ok (.ifCond .eq 15, 3) := by decide +kernel
theorem dX11_pays_14 : decode cX11_pays 14 = .ok (.aload_n 0, 1) := by decide +kernel
theorem dX11_pays_15 : decode cX11_pays 15 = .ok (.getfield 44, 3) := by decide +kernel
theorem dX11_pays_18 : decode cX11_pays 18 = .ok (.bipush 119, 2) := by decide +kernel
theorem dX11_pays_20 : decode cX11_pays 20 = .ok (.invokevirtual 174, 3) := by decide +kernel
theorem dX11_pays_23 : decode cX11_pays 23 = .ok (.ifCond .ne 5, 3) := by decide +kernel
theorem dX11_pays_26 : decode cX11_pays 26 = .ok (.iconst (-1), 1) := by decide +kernel
theorem dX11_pays_27 : decode cX11_pays 27 = .ok (.ireturn, 1) := by decide +kernel
theorem dX11_pays_28 : decode cX11_pays 28 = .ok (.aload_n 0, 1) := by decide +kernel
theorem dX11_pays_29 : decode cX11_pays 29 = .ok (.getfield 44, 3) := by decide +kernel
theorem dX11_pays_32 : decode cX11_pays 32 = .ok (.getfield 180, 3) := by decide +kernel
theorem dX11_pays_35 : decode cX11_pays 35 = .ok (.istore 6, 2) := by decide +kernel
theorem dX11_pays_37 : decode cX11_pays 37 = .ok (.aload_n 0, 1) := by decide +kernel
theorem dX11_pays_38 : decode cX11_pays 38 = .ok (.getfield 44, 3) := by decide +kernel
theorem dX11_pays_41 : decode cX11_pays 41 = .ok (.iconst 0, 1) := by decide +kernel
theorem dX11_pays_42 : decode cX11_pays 42 = .ok (.putfield 250, 3) := by decide +kernel
theorem dX11_pays_45 : decode cX11_pays 45 = .ok (.aload_n 0, 1) := by decide +kernel
theorem dX11_pays_46 : decode cX11_pays 46 = .ok (.getfield 44, 3) := by decide +kernel
theorem dX11_pays_49 : decode cX11_pays 49 = .ok (.bipush 119, 2) := by decide +kernel
theorem dX11_pays_51 : decode cX11_pays 51 = .ok (.invokevirtual 174, 3) := by decide +kernel
theorem dX11_pays_54 : decode cX11_pays 54 = .ok (.ifCond .eq 16, 3) := by decide +kernel
theorem dX11_pays_57 : decode cX11_pays 57 = .ok (.aload_n 0, 1) := by decide +kernel
theorem dX11_pays_58 : decode cX11_pays 58 = .ok (.getfield 44, 3) := by decide +kernel
theorem dX11_pays_61 : decode cX11_pays 61 = .ok (.getfield 180, 3) := by decide +kernel
theorem dX11_pays_64 : decode cX11_pays 64 = .ok (.iload 6, 2) := by decide +kernel
theorem dX11_pays_66 : decode cX11_pays 66 = .ok (.isub, 1) := by decide +kernel
theorem dX11_pays_67 : decode cX11_pays 67 = .ok (.goto 4, 3) := by decide +kernel
theorem dX11_pays_70 : decode cX11_pays 70 = .ok (.iconst (-1), 1) := by decide +kernel
theorem dX11_pays_71 : decode cX11_pays 71 = .ok (.ireturn, 1) := by decide +kernel
theorem dX11_guessed_0 : decode cX11_guessed 0 = .ok (.iload 6, 2) := by decide +kernel
theorem dX11_guessed_2 : decode cX11_guessed 2 = .ok (.ifCond .lt 67, 3) := by decide +kernel
theorem dX11_guessed_5 : decode cX11_guessed 5 = .ok (.iload 6, 2) := by decide +kernel
theorem dX11_guessed_7 : decode cX11_guessed 7 = .ok (.bipush 10, 2) := by decide +kernel
theorem dX11_guessed_9 : decode cX11_guessed 9 = .ok (.if_icmp .gt 60, 3) := by decide +kernel
theorem dX11_guessed_12 : decode cX11_guessed 12 = .ok (.iload 7, 2) := by decide +kernel
theorem dX11_guessed_14 : decode cX11_guessed 14 = .ok (.iconst 1, 1) := by decide +kernel
theorem dX11_guessed_15 : decode cX11_guessed 15 = .ok (.if_icmp .lt 54, 3) := by decide +kernel
theorem dX11_guessed_18 : decode cX11_guessed 18 = .ok (.iload 7, 2) := by decide +kernel
theorem dX11_guessed_20 : decode cX11_guessed 20 = .ok (.bipush 12, 2) := by decide +kernel
theorem dX11_guessed_22 : decode cX11_guessed 22 = .ok (.if_icmp .gt 47, 3) := by decide +kernel
theorem dX11_guessed_25 : decode cX11_guessed 25 = .ok (.iload 8, 2) := by decide +kernel
theorem dX11_guessed_27 : decode cX11_guessed 27 = .ok (.ifCond .lt 42, 3) := by decide +kernel
theorem dX11_guessed_30 : decode cX11_guessed 30 = .ok (.iload 8, 2) := by decide +kernel
theorem dX11_guessed_32 : decode cX11_guessed 32 = .ok (.iconst 1, 1) := by decide +kernel
theorem dX11_guessed_33 : decode cX11_guessed 33 = .ok (.if_icmp .gt 36, 3) := by decide +kernel
theorem dX11_guessed_36 : decode cX11_guessed 36 = .ok (.aload_n 0, 1) := by decide +kernel
theorem dX11_guessed_37 : decode cX11_guessed 37 = .ok (.iload_n 1, 1) := by decide +kernel
theorem dX11_guessed_38 : decode cX11_guessed 38 = .ok (.iload_n 2, 1) := by decide +kernel
theorem dX11_guessed_39 : decode cX11_guessed 39 = .ok (.iload_n 3, 1) := by decide +kernel
theorem dX11_guessed_40 : decode cX11_guessed 40 = .ok (.iload 4, 2) := by decide +kernel
theorem dX11_guessed_42 : decode cX11_guessed 42 = .ok (.iload 5, 2) := by decide +kernel
theorem dX11_guessed_44 : decode cX11_guessed 44 = .ok (.invokevirtual 170, 3) := by decide +kernel
theorem dX11_guessed_47 : decode cX11_guessed 47 = .ok (.ifCond .eq 22, 3) := by decide +kernel
theorem dX11_guessed_50 : decode cX11_guessed 50 = .ok (.aload_n 0, 1) := by decide +kernel
theorem dX11_guessed_51 : decode cX11_guessed 51 = .ok (.getfield 44, 3) := by decide +kernel
theorem dX11_guessed_54 : decode cX11_guessed 54 = .ok (.bipush 119, 2) := by decide +kernel
theorem dX11_guessed_56 : decode cX11_guessed 56 = .ok (.iload_n 3, 1) := by decide +kernel
theorem dX11_guessed_57 : decode cX11_guessed 57 = .ok (.iload 7, 2) := by decide +kernel
theorem dX11_guessed_59 : decode cX11_guessed 59 = .ok (.iadd, 1) := by decide +kernel
theorem dX11_guessed_60 : decode cX11_guessed 60 = .ok (.invokestatic 206, 3) := by decide +kernel
theorem dX11_guessed_63 : decode cX11_guessed 63 = .ok (.invokevirtual 174, 3) := by decide +kernel
theorem dX11_guessed_66 : decode cX11_guessed 66 = .ok (.ifCond .ne 11, 3) := by decide +kernel
theorem dX11_guessed_69 : decode cX11_guessed 69 = .ok (.new 177, 3) := by decide +kernel
theorem dX11_guessed_72 : decode cX11_guessed 72 = .ok (.dup, 1) := by decide +kernel
theorem dX11_guessed_73 : decode cX11_guessed 73 = .ok (.invokespecial 179, 3) := by decide +kernel
theorem dX11_guessed_76 : decode cX11_guessed 76 = .ok (.athrow, 1) := by decide +kernel
theorem dX11_guessed_77 : decode cX11_guessed 77 = .ok (.aload_n 0, 1) := by decide +kernel
theorem dX11_guessed_78 : decode cX11_guessed 78 = .ok (.getfield 44, 3) := by decide +kernel
theorem dX11_guessed_81 : decode cX11_guessed 81 = .ok (.getfield 180, 3) := by decide +kernel
theorem dX11_guessed_84 : decode cX11_guessed 84 = .ok (.bipush 10, 2) := by decide +kernel
theorem dX11_guessed_86 : decode cX11_guessed 86 = .ok (.iload 6, 2) := by decide +kernel
theorem dX11_guessed_88 : decode cX11_guessed 88 = .ok (.isub, 1) := by decide +kernel
theorem dX11_guessed_89 : decode cX11_guessed 89 = .ok (.imul, 1) := by decide +kernel
theorem dX11_guessed_90 : decode cX11_guessed 90 = .ok (.istore 9, 2) := by decide +kernel
theorem dX11_guessed_92 : decode cX11_guessed 92 = .ok (.iconst 1, 1) := by decide +kernel
theorem dX11_guessed_93 : decode cX11_guessed 93 = .ok (.istore 10, 2) := by decide +kernel
theorem dX11_guessed_95 : decode cX11_guessed 95 = .ok (.iconst 2, 1) := by decide +kernel
theorem dX11_guessed_96 : decode cX11_guessed 96 = .ok (.istore 11, 2) := by decide +kernel
theorem dX11_guessed_98 : decode cX11_guessed 98 = .ok (.iload 11, 2) := by decide +kernel
theorem dX11_guessed_100 : decode cX11_guessed 100 = .ok (.bipush 10, 2) := by decide +kernel
theorem dX11_guessed_102 : decode cX11_guessed 102 = .ok (.if_icmp .gt 29, 3) := by decide +kernel
theorem dX11_guessed_105 : decode cX11_guessed 105 = .ok (.bipush 10, 2) := by decide +kernel
theorem dX11_guessed_107 : decode cX11_guessed 107 = .ok (.iload 11, 2) := by decide +kernel
theorem dX11_guessed_109 : decode cX11_guessed 109 = .ok (.irem, 1) := by decide +kernel
theorem dX11_guessed_110 : decode cX11_guessed 110 = .ok (.ifCond .ne 15, 3) := by decide +kernel
theorem dX11_guessed_113 : decode cX11_guessed 113 = .ok (.iload 9, 2) := by decide +kernel
theorem dX11_guessed_115 : decode cX11_guessed 115 = .ok (.iload 11, 2) := by decide +kernel
theorem dX11_guessed_117 : decode cX11_guessed 117 = .ok (.irem, 1) := by decide +kernel
theorem dX11_guessed_118 : decode cX11_guessed 118 = .ok (.ifCond .ne 7, 3) := by decide +kernel
theorem dX11_guessed_121 : decode cX11_guessed 121 = .ok (.iload 11, 2) := by decide +kernel
theorem dX11_guessed_123 : decode cX11_guessed 123 = .ok (.istore 10, 2) := by decide +kernel
theorem dX11_guessed_125 : decode cX11_guessed 125 = .ok (.iinc 11 1, 3) := by decide +kernel
theorem dX11_guessed_128 : decode cX11_guessed 128 = .ok (.goto (-30), 3) := by decide +kernel
theorem dX11_guessed_131 : decode cX11_guessed 131 = .ok (.iload 8, 2) := by decide +kernel
theorem dX11_guessed_133 : decode cX11_guessed 133 = .ok (.ifCond .ne 12, 3) := by decide +kernel
theorem dX11_guessed_136 : decode cX11_guessed 136 = .ok (.iload 9, 2) := by decide +kernel
theorem dX11_guessed_138 : decode cX11_guessed 138 = .ok (.iload 10, 2) := by decide +kernel
theorem dX11_guessed_140 : decode cX11_guessed 140 = .ok (.idiv, 1) := by decide +kernel
theorem dX11_guessed_141 : decode cX11_guessed 141 = .ok (.i2l, 1) := by decide +kernel
theorem dX11_guessed_142 : decode cX11_guessed 142 = .ok (.goto 9, 3) := by decide +kernel
theorem dX11_guessed_145 : decode cX11_guessed 145 = .ok (.bipush 10, 2) := by decide +kernel
theorem dX11_guessed_147 : decode cX11_guessed 147 = .ok (.iload 10, 2) := by decide +kernel
theorem dX11_guessed_149 : decode cX11_guessed 149 = .ok (.idiv, 1) := by decide +kernel
theorem dX11_guessed_150 : decode cX11_guessed 150 = .ok (.i2l, 1) := by decide +kernel
theorem dX11_guessed_151 : decode cX11_guessed 151 = .ok (.lreturn, 1) := by decide +kernel
theorem dX11_dark_0 : decode cX11_dark 0 = .ok (.iload 5, 2) := by decide +kernel
theorem dX11_dark_2 : decode cX11_dark 2 = .ok (.ifCond .lt 22, 3) := by decide +kernel
theorem dX11_dark_5 : decode cX11_dark 5 = .ok (.iload 5, 2) := by decide +kernel
theorem dX11_dark_7 : decode cX11_dark 7 = .ok (.iconst 2, 1) := by decide +kernel
theorem dX11_dark_8 : decode cX11_dark 8 = .ok (.if_icmp .gt 16, 3) := by decide +kernel
theorem dX11_dark_11 : decode cX11_dark 11 = .ok (.aload_n 0, 1) := by decide +kernel
theorem dX11_dark_12 : decode cX11_dark 12 = .ok (.iload_n 1, 1) := by decide +kernel
theorem dX11_dark_13 : decode cX11_dark 13 = .ok (.iload_n 2, 1) := by decide +kernel
theorem dX11_dark_14 : decode cX11_dark 14 = .ok (.iconst 0, 1) := by decide +kernel
theorem dX11_dark_15 : decode cX11_dark 15 = .ok (.iload_n 3, 1) := by decide +kernel
theorem dX11_dark_16 : decode cX11_dark 16 = .ok (.iload 4, 2) := by decide +kernel
theorem dX11_dark_18 : decode cX11_dark 18 = .ok (.invokevirtual 170, 3) := by decide +kernel
theorem dX11_dark_21 : decode cX11_dark 21 = .ok (.ifCond .ne 5, 3) := by decide +kernel
theorem dX11_dark_24 : decode cX11_dark 24 = .ok (.iconst (-1), 1) := by decide +kernel
theorem dX11_dark_25 : decode cX11_dark 25 = .ok (.ireturn, 1) := by decide +kernel
theorem dX11_dark_26 : decode cX11_dark 26 = .ok (.aload_n 0, 1) := by decide +kernel
theorem dX11_dark_27 : decode cX11_dark 27 = .ok (.getfield 44, 3) := by decide +kernel
theorem dX11_dark_30 : decode cX11_dark 30 = .ok (.iconst 0, 1) := by decide +kernel
theorem dX11_dark_31 : decode cX11_dark 31 = .ok (.bipush 119, 2) := by decide +kernel
theorem dX11_dark_33 : decode cX11_dark 33 = .ok (.iconst 0, 1) := by decide +kernel
theorem dX11_dark_34 : decode cX11_dark 34 = .ok (.invokevirtual 198, 3) := by decide +kernel
theorem dX11_dark_37 : decode cX11_dark 37 = .ok (.iconst 0, 1) := by decide +kernel
theorem dX11_dark_38 : decode cX11_dark 38 = .ok (.istore 6, 2) := by decide +kernel
theorem dX11_dark_40 : decode cX11_dark 40 = .ok (.iconst (-1), 1) := by decide +kernel
theorem dX11_dark_41 : decode cX11_dark 41 = .ok (.istore 7, 2) := by decide +kernel
theorem dX11_dark_43 : decode cX11_dark 43 = .ok (.iconst (-1), 1) := by decide +kernel
theorem dX11_dark_44 : decode cX11_dark 44 = .ok (.istore 8, 2) := by decide +kernel
theorem dX11_dark_46 : decode cX11_dark 46 = .ok (.iconst 0, 1) := by decide +kernel
theorem dX11_dark_47 : decode cX11_dark 47 = .ok (.istore 9, 2) := by decide +kernel
theorem dX11_dark_49 : decode cX11_dark 49 = .ok (.iload 9, 2) := by decide +kernel
theorem dX11_dark_51 : decode cX11_dark 51 = .ok (.bipush 119, 2) := by decide +kernel
theorem dX11_dark_53 : decode cX11_dark 53 = .ok (.if_icmp .gt 67, 3) := by decide +kernel
theorem dX11_dark_56 : decode cX11_dark 56 = .ok (.aload_n 0, 1) := by decide +kernel
theorem dX11_dark_57 : decode cX11_dark 57 = .ok (.getfield 44, 3) := by decide +kernel
theorem dX11_dark_60 : decode cX11_dark 60 = .ok (.iload 9, 2) := by decide +kernel
theorem dX11_dark_62 : decode cX11_dark 62 = .ok (.iload_n 3, 1) := by decide +kernel
theorem dX11_dark_63 : decode cX11_dark 63 = .ok (.invokevirtual 227, 3) := by decide +kernel
theorem dX11_dark_66 : decode cX11_dark 66 = .ok (.istore 10, 2) := by decide +kernel
theorem dX11_dark_68 : decode cX11_dark 68 = .ok (.iload 10, 2) := by decide +kernel
theorem dX11_dark_70 : decode cX11_dark 70 = .ok (.sipush 128, 3) := by decide +kernel
theorem dX11_dark_73 : decode cX11_dark 73 = .ok (.if_icmp .ge 41, 3) := by decide +kernel
theorem dX11_dark_76 : decode cX11_dark 76 = .ok (.iinc 6 1, 3) := by decide +kernel
theorem dX11_dark_79 : decode cX11_dark 79 = .ok (.iload 7, 2) := by decide +kernel
theorem dX11_dark_81 : decode cX11_dark 81 = .ok (.iconst (-1), 1) := by decide +kernel
theorem dX11_dark_82 : decode cX11_dark 82 = .ok (.if_icmp .ne 8, 3) := by decide +kernel
theorem dX11_dark_85 : decode cX11_dark 85 = .ok (.iload 9, 2) := by decide +kernel
theorem dX11_dark_87 : decode cX11_dark 87 = .ok (.goto 5, 3) := by decide +kernel
theorem dX11_dark_90 : decode cX11_dark 90 = .ok (.iload 7, 2) := by decide +kernel
theorem dX11_dark_92 : decode cX11_dark 92 = .ok (.istore 7, 2) := by decide +kernel
theorem dX11_dark_94 : decode cX11_dark 94 = .ok (.iload 8, 2) := by decide +kernel
theorem dX11_dark_96 : decode cX11_dark 96 = .ok (.iconst (-1), 1) := by decide +kernel
theorem dX11_dark_97 : decode cX11_dark 97 = .ok (.if_icmp .ne 8, 3) := by decide +kernel
theorem dX11_dark_100 : decode cX11_dark 100 = .ok (.iload 10, 2) := by decide +kernel
theorem dX11_dark_102 : decode cX11_dark 102 = .ok (.goto 10, 3) := by decide +kernel
theorem dX11_dark_105 : decode cX11_dark 105 = .ok (.iload 8, 2) := by decide +kernel
theorem dX11_dark_107 : decode cX11_dark 107 = .ok (.iload 10, 2) := by decide +kernel
theorem dX11_dark_109 : decode cX11_dark 109 = .ok (.invokestatic 206, 3) := by decide +kernel
theorem dX11_dark_112 : decode cX11_dark 112 = .ok (.istore 8, 2) := by decide +kernel
theorem dX11_dark_114 : decode cX11_dark 114 = .ok (.iinc 9 1, 3) := by decide +kernel
theorem dX11_dark_117 : decode cX11_dark 117 = .ok (.goto (-68), 3) := by decide +kernel
theorem dX11_dark_120 : decode cX11_dark 120 = .ok (.iload 5, 2) := by decide +kernel
theorem dX11_dark_122 : decode cX11_dark 122 = .ok (.ifCond .ne 8, 3) := by decide +kernel
theorem dX11_dark_125 : decode cX11_dark 125 = .ok (.iload 6, 2) := by decide +kernel
theorem dX11_dark_127 : decode cX11_dark 127 = .ok (.goto 16, 3) := by decide +kernel
theorem dX11_dark_130 : decode cX11_dark 130 = .ok (.iload 5, 2) := by decide +kernel
theorem dX11_dark_132 : decode cX11_dark 132 = .ok (.iconst 1, 1) := by decide +kernel
theorem dX11_dark_133 : decode cX11_dark 133 = .ok (.if_icmp .ne 8, 3) := by decide +kernel
theorem dX11_dark_136 : decode cX11_dark 136 = .ok (.iload 7, 2) := by decide +kernel
theorem dX11_dark_138 : decode cX11_dark 138 = .ok (.goto 5, 3) := by decide +kernel
theorem dX11_dark_141 : decode cX11_dark 141 = .ok (.iload 8, 2) := by decide +kernel
theorem dX11_dark_143 : decode cX11_dark 143 = .ok (.ireturn, 1) := by decide +kernel
theorem dX11_rests_0 : decode cX11_rests 0 = .ok (.iload 6, 2) := by decide +kernel
theorem dX11_rests_2 : decode cX11_rests 2 = .ok (.ifCond .lt 35, 3) := by decide +kernel
theorem dX11_rests_5 : decode cX11_rests 5 = .ok (.iload 6, 2) := by decide +kernel
theorem dX11_rests_7 : decode cX11_rests 7 = .ok (.iconst 3, 1) := by decide +kernel
theorem dX11_rests_8 : decode cX11_rests 8 = .ok (.if_icmp .gt 29, 3) := by decide +kernel
theorem dX11_rests_11 : decode cX11_rests 11 = .ok (.aload_n 0, 1) := by decide +kernel
theorem dX11_rests_12 : decode cX11_rests 12 = .ok (.iload_n 1, 1) := by decide +kernel
theorem dX11_rests_13 : decode cX11_rests 13 = .ok (.iload_n 2, 1) := by decide +kernel
theorem dX11_rests_14 : decode cX11_rests 14 = .ok (.iload_n 3, 1) := by decide +kernel
theorem dX11_rests_15 : decode cX11_rests 15 = .ok (.iload 4, 2) := by decide +kernel
theorem dX11_rests_17 : decode cX11_rests 17 = .ok (.iload 5, 2) := by decide +kernel
theorem dX11_rests_19 : decode cX11_rests 19 = .ok (.invokevirtual 170, 3) := by decide +kernel
theorem dX11_rests_22 : decode cX11_rests 22 = .ok (.ifCond .eq 15, 3) := by decide +kernel
theorem dX11_rests_25 : decode cX11_rests 25 = .ok (.aload_n 0, 1) := by decide +kernel
theorem dX11_rests_26 : decode cX11_rests 26 = .ok (.getfield 44, 3) := by decide +kernel
theorem dX11_rests_29 : decode cX11_rests 29 = .ok (.bipush 119, 2) := by decide +kernel
theorem dX11_rests_31 : decode cX11_rests 31 = .ok (.invokevirtual 174, 3) := by decide +kernel
theorem dX11_rests_34 : decode cX11_rests 34 = .ok (.ifCond .ne 11, 3) := by decide +kernel
theorem dX11_rests_37 : decode cX11_rests 37 = .ok (.new 177, 3) := by decide +kernel
theorem dX11_rests_40 : decode cX11_rests 40 = .ok (.dup, 1) := by decide +kernel
theorem dX11_rests_41 : decode cX11_rests 41 = .ok (.invokespecial 179, 3) := by decide +kernel
theorem dX11_rests_44 : decode cX11_rests 44 = .ok (.athrow, 1) := by decide +kernel
theorem dX11_rests_45 : decode cX11_rests 45 = .ok (.aload_n 0, 1) := by decide +kernel
theorem dX11_rests_46 : decode cX11_rests 46 = .ok (.invokevirtual 186, 3) := by decide +kernel
theorem dX11_rests_49 : decode cX11_rests 49 = .ok (.aload_n 0, 1) := by decide +kernel
theorem dX11_rests_50 : decode cX11_rests 50 = .ok (.getfield 44, 3) := by decide +kernel
theorem dX11_rests_53 : decode cX11_rests 53 = .ok (.invokevirtual 254, 3) := by decide +kernel
theorem dX11_rests_56 : decode cX11_rests 56 = .ok (.istore 7, 2) := by decide +kernel
theorem dX11_rests_58 : decode cX11_rests 58 = .ok (.iload 6, 2) := by decide +kernel
theorem dX11_rests_60 : decode cX11_rests 60 = .ok (.ifCond .ne 6, 3) := by decide +kernel
theorem dX11_rests_63 : decode cX11_rests 63 = .ok (.iload 7, 2) := by decide +kernel
theorem dX11_rests_65 : decode cX11_rests 65 = .ok (.ireturn, 1) := by decide +kernel
theorem dX11_rests_66 : decode cX11_rests 66 = .ok (.iload 6, 2) := by decide +kernel
theorem dX11_rests_68 : decode cX11_rests 68 = .ok (.iconst 3, 1) := by decide +kernel
theorem dX11_rests_69 : decode cX11_rests 69 = .ok (.if_icmp .ne 29, 3) := by decide +kernel
theorem dX11_rests_72 : decode cX11_rests 72 = .ok (.aload_n 0, 1) := by decide +kernel
theorem dX11_rests_73 : decode cX11_rests 73 = .ok (.getfield 44, 3) := by decide +kernel
theorem dX11_rests_76 : decode cX11_rests 76 = .ok (.getfield 189, 3) := by decide +kernel
theorem dX11_rests_79 : decode cX11_rests 79 = .ok (.getfield 75, 3) := by decide +kernel
theorem dX11_rests_82 : decode cX11_rests 82 = .ok (.iload 7, 2) := by decide +kernel
theorem dX11_rests_84 : decode cX11_rests 84 = .ok (.isub, 1) := by decide +kernel
theorem dX11_rests_85 : decode cX11_rests 85 = .ok (.aload_n 0, 1) := by decide +kernel
theorem dX11_rests_86 : decode cX11_rests 86 = .ok (.getfield 35, 3) := by decide +kernel
theorem dX11_rests_89 : decode cX11_rests 89 = .ok (.iload 4, 2) := by decide +kernel
theorem dX11_rests_91 : decode cX11_rests 91 = .ok (.iload 5, 2) := by decide +kernel
theorem dX11_rests_93 : decode cX11_rests 93 = .ok (.invokevirtual 257, 3) := by decide +kernel
theorem dX11_rests_96 : decode cX11_rests 96 = .ok (.isub, 1) := by decide +kernel
theorem dX11_rests_97 : decode cX11_rests 97 = .ok (.ireturn, 1) := by decide +kernel
theorem dX11_rests_98 : decode cX11_rests 98 = .ok (.aload_n 0, 1) := by decide +kernel
theorem dX11_rests_99 : decode cX11_rests 99 = .ok (.getfield 44, 3) := by decide +kernel
theorem dX11_rests_102 : decode cX11_rests 102 = .ok (.invokevirtual 260, 3) := by decide +kernel
theorem dX11_rests_105 : decode cX11_rests 105 = .ok (.istore 8, 2) := by decide +kernel
theorem dX11_rests_107 : decode cX11_rests 107 = .ok (.iload 6, 2) := by decide +kernel
theorem dX11_rests_109 : decode cX11_rests 109 = .ok (.iconst 1, 1) := by decide +kernel
theorem dX11_rests_110 : decode cX11_rests 110 = .ok (.if_icmp .ne 8, 3) := by decide +kernel
theorem dX11_rests_113 : decode cX11_rests 113 = .ok (.iload 8, 2) := by decide +kernel
theorem dX11_rests_115 : decode cX11_rests 115 = .ok (.goto 12, 3) := by decide +kernel
theorem dX11_rests_118 : decode cX11_rests 118 = .ok (.aload_n 0, 1) := by decide +kernel
theorem dX11_rests_119 : decode cX11_rests 119 = .ok (.getfield 44, 3) := by decide +kernel
theorem dX11_rests_122 : decode cX11_rests 122 = .ok (.iload 8, 2) := by decide +kernel
theorem dX11_rests_124 : decode cX11_rests 124 = .ok (.invokevirtual 263, 3) := by decide +kernel
theorem dX11_rests_127 : decode cX11_rests 127 = .ok (.ireturn, 1) := by decide +kernel
theorem dX11_leave_0 : decode cX11_leave 0 = .ok (.iload 7, 2) := by decide +kernel
theorem dX11_leave_2 : decode cX11_leave 2 = .ok (.ifCond .lt 37, 3) := by decide +kernel
theorem dX11_leave_5 : decode cX11_leave 5 = .ok (.iload 7, 2) := by decide +kernel
theorem dX11_leave_7 : decode cX11_leave 7 = .ok (.iconst 3, 1) := by decide +kernel
theorem dX11_leave_8 : decode cX11_leave 8 = .ok (.if_icmp .gt 31, 3) := by decide +kernel
theorem dX11_leave_11 : decode cX11_leave 11 = .ok (.iload 4, 2) := by decide +kernel
theorem dX11_leave_13 : decode cX11_leave 13 = .ok (.invokestatic 266, 3) := by decide +kernel
theorem dX11_leave_16 : decode cX11_leave 16 = .ok (.ifCond .eq 23, 3) := by decide +kernel
theorem dX11_leave_19 : decode cX11_leave 19 = .ok (.iload_n 3, 1) := by decide +kernel
theorem dX11_leave_20 : decode cX11_leave 20 = .ok (.iload 4, 2) := by decide +kernel
theorem dX11_leave_22 : decode cX11_leave 22 = .ok (.if_icmp .gt 17, 3) := by decide +kernel
theorem dX11_leave_25 : decode cX11_leave 25 = .ok (.aload_n 0, 1) := by decide +kernel
theorem dX11_leave_26 : decode cX11_leave 26 = .ok (.iload_n 1, 1) := by decide +kernel
theorem dX11_leave_27 : decode cX11_leave 27 = .ok (.iload_n 2, 1) := by decide +kernel
theorem dX11_leave_28 : decode cX11_leave 28 = .ok (.iload_n 3, 1) := by decide +kernel
theorem dX11_leave_29 : decode cX11_leave 29 = .ok (.iload 5, 2) := by decide +kernel
theorem dX11_leave_31 : decode cX11_leave 31 = .ok (.iload 6, 2) := by decide +kernel
theorem dX11_leave_33 : decode cX11_leave 33 = .ok (.invokevirtual 170, 3) := by decide +kernel
theorem dX11_leave_36 : decode cX11_leave 36 = .ok (.ifCond .ne 5, 3) := by decide +kernel
theorem dX11_leave_39 : decode cX11_leave 39 = .ok (.iconst (-1), 1) := by decide +kernel
theorem dX11_leave_40 : decode cX11_leave 40 = .ok (.ireturn, 1) := by decide +kernel
theorem dX11_leave_41 : decode cX11_leave 41 = .ok (.aload_n 0, 1) := by decide +kernel
theorem dX11_leave_42 : decode cX11_leave 42 = .ok (.getfield 44, 3) := by decide +kernel
theorem dX11_leave_45 : decode cX11_leave 45 = .ok (.iload_n 3, 1) := by decide +kernel
theorem dX11_leave_46 : decode cX11_leave 46 = .ok (.bipush 119, 2) := by decide +kernel
theorem dX11_leave_48 : decode cX11_leave 48 = .ok (.iconst 0, 1) := by decide +kernel
theorem dX11_leave_49 : decode cX11_leave 49 = .ok (.invokevirtual 198, 3) := by decide +kernel
theorem dX11_leave_52 : decode cX11_leave 52 = .ok (.iconst (-1), 1) := by decide +kernel
theorem dX11_leave_53 : decode cX11_leave 53 = .ok (.istore 8, 2) := by decide +kernel
theorem dX11_leave_55 : decode cX11_leave 55 = .ok (.iconst (-1), 1) := by decide +kernel
theorem dX11_leave_56 : decode cX11_leave 56 = .ok (.istore 9, 2) := by decide +kernel
theorem dX11_leave_58 : decode cX11_leave 58 = .ok (.ldc_w 269, 3) := by decide +kernel
theorem dX11_leave_61 : decode cX11_leave 61 = .ok (.istore 10, 2) := by decide +kernel
theorem dX11_leave_63 : decode cX11_leave 63 = .ok (.iconst (-1), 1) := by decide +kernel
theorem dX11_leave_64 : decode cX11_leave 64 = .ok (.istore 11, 2) := by decide +kernel
theorem dX11_leave_66 : decode cX11_leave 66 = .ok (.iload_n 3, 1) := by decide +kernel
theorem dX11_leave_67 : decode cX11_leave 67 = .ok (.istore 12, 2) := by decide +kernel
theorem dX11_leave_69 : decode cX11_leave 69 = .ok (.iload 12, 2) := by decide +kernel
theorem dX11_leave_71 : decode cX11_leave 71 = .ok (.iload 4, 2) := by decide +kernel
theorem dX11_leave_73 : decode cX11_leave 73 = .ok (.if_icmp .gt 76, 3) := by decide +kernel
theorem dX11_leave_76 : decode cX11_leave 76 = .ok (.aload_n 0, 1) := by decide +kernel
theorem dX11_leave_77 : decode cX11_leave 77 = .ok (.getfield 44, 3) := by decide +kernel
theorem dX11_leave_80 : decode cX11_leave 80 = .ok (.iload 12, 2) := by decide +kernel
theorem dX11_leave_82 : decode cX11_leave 82 = .ok (.iload 5, 2) := by decide +kernel
theorem dX11_leave_84 : decode cX11_leave 84 = .ok (.invokevirtual 227, 3) := by decide +kernel
theorem dX11_leave_87 : decode cX11_leave 87 = .ok (.istore 13, 2) := by decide +kernel
theorem dX11_leave_89 : decode cX11_leave 89 = .ok (.iload 13, 2) := by decide +kernel
theorem dX11_leave_91 : decode cX11_leave 91 = .ok (.sipush 128, 3) := by decide +kernel
theorem dX11_leave_94 : decode cX11_leave 94 = .ok (.idiv, 1) := by decide +kernel
theorem dX11_leave_95 : decode cX11_leave 95 = .ok (.istore 14, 2) := by decide +kernel
theorem dX11_leave_97 : decode cX11_leave 97 = .ok (.iload 13, 2) := by decide +kernel
theorem dX11_leave_99 : decode cX11_leave 99 = .ok (.ldc_w 269, 3) := by decide +kernel
theorem dX11_leave_102 : decode cX11_leave 102 = .ok (.if_icmp .ge 18, 3) := by decide +kernel
theorem dX11_leave_105 : decode cX11_leave 105 = .ok (.iload 14, 2) := by decide +kernel
theorem dX11_leave_107 : decode cX11_leave 107 = .ok (.iload 10, 2) := by decide +kernel
theorem dX11_leave_109 : decode cX11_leave 109 = .ok (.if_icmp .ge 11, 3) := by decide +kernel
theorem dX11_leave_112 : decode cX11_leave 112 = .ok (.iload 14, 2) := by decide +kernel
theorem dX11_leave_114 : decode cX11_leave 114 = .ok (.istore 10, 2) := by decide +kernel
theorem dX11_leave_116 : decode cX11_leave 116 = .ok (.iload 12, 2) := by decide +kernel
theorem dX11_leave_118 : decode cX11_leave 118 = .ok (.istore 8, 2) := by decide +kernel
theorem dX11_leave_120 : decode cX11_leave 120 = .ok (.iload 13, 2) := by decide +kernel
theorem dX11_leave_122 : decode cX11_leave 122 = .ok (.ldc_w 269, 3) := by decide +kernel
theorem dX11_leave_125 : decode cX11_leave 125 = .ok (.if_icmp .ge 18, 3) := by decide +kernel
theorem dX11_leave_128 : decode cX11_leave 128 = .ok (.iload 14, 2) := by decide +kernel
theorem dX11_leave_130 : decode cX11_leave 130 = .ok (.iload 11, 2) := by decide +kernel
theorem dX11_leave_132 : decode cX11_leave 132 = .ok (.if_icmp .le 11, 3) := by decide +kernel
theorem dX11_leave_135 : decode cX11_leave 135 = .ok (.iload 14, 2) := by decide +kernel
theorem dX11_leave_137 : decode cX11_leave 137 = .ok (.istore 11, 2) := by decide +kernel
theorem dX11_leave_139 : decode cX11_leave 139 = .ok (.iload 12, 2) := by decide +kernel
theorem dX11_leave_141 : decode cX11_leave 141 = .ok (.istore 9, 2) := by decide +kernel
theorem dX11_leave_143 : decode cX11_leave 143 = .ok (.iinc 12 1, 3) := by decide +kernel
theorem dX11_leave_146 : decode cX11_leave 146 = .ok (.goto (-77), 3) := by decide +kernel
theorem dX11_leave_149 : decode cX11_leave 149 = .ok (.iload 8, 2) := by decide +kernel
theorem dX11_leave_151 : decode cX11_leave 151 = .ok (.iconst (-1), 1) := by decide +kernel
theorem dX11_leave_152 : decode cX11_leave 152 = .ok (.if_icmp .ne 5, 3) := by decide +kernel
theorem dX11_leave_155 : decode cX11_leave 155 = .ok (.iconst (-1), 1) := by decide +kernel
theorem dX11_leave_156 : decode cX11_leave 156 = .ok (.ireturn, 1) := by decide +kernel
theorem dX11_leave_157 : decode cX11_leave 157 = .ok (.iload 7, 2) := by decide +kernel
theorem dX11_leave_159 : decode cX11_leave 159 = .ok (.ifCond .ne 8, 3) := by decide +kernel
theorem dX11_leave_162 : decode cX11_leave 162 = .ok (.iload 8, 2) := by decide +kernel
theorem dX11_leave_164 : decode cX11_leave 164 = .ok (.goto 27, 3) := by decide +kernel
theorem dX11_leave_167 : decode cX11_leave 167 = .ok (.iload 7, 2) := by decide +kernel
theorem dX11_leave_169 : decode cX11_leave 169 = .ok (.iconst 1, 1) := by decide +kernel
theorem dX11_leave_170 : decode cX11_leave 170 = .ok (.if_icmp .ne 8, 3) := by decide +kernel
theorem dX11_leave_173 : decode cX11_leave 173 = .ok (.iload 10, 2) := by decide +kernel
theorem dX11_leave_175 : decode cX11_leave 175 = .ok (.goto 16, 3) := by decide +kernel
theorem dX11_leave_178 : decode cX11_leave 178 = .ok (.iload 7, 2) := by decide +kernel
theorem dX11_leave_180 : decode cX11_leave 180 = .ok (.iconst 2, 1) := by decide +kernel
theorem dX11_leave_181 : decode cX11_leave 181 = .ok (.if_icmp .ne 8, 3) := by decide +kernel
theorem dX11_leave_184 : decode cX11_leave 184 = .ok (.iload 9, 2) := by decide +kernel
theorem dX11_leave_186 : decode cX11_leave 186 = .ok (.goto 5, 3) := by decide +kernel
theorem dX11_leave_189 : decode cX11_leave 189 = .ok (.iload 11, 2) := by decide +kernel
theorem dX11_leave_191 : decode cX11_leave 191 = .ok (.ireturn, 1) := by decide +kernel
theorem dX11_errand_0 : decode cX11_errand 0 = .ok (.iload 6, 2) := by decide +kernel
theorem dX11_errand_2 : decode cX11_errand 2 = .ok (.ifCond .lt 35, 3) := by decide +kernel
theorem dX11_errand_5 : decode cX11_errand 5 = .ok (.iload 6, 2) := by decide +kernel
theorem dX11_errand_7 : decode cX11_errand 7 = .ok (.bipush 60, 2) := by decide +kernel
theorem dX11_errand_9 : decode cX11_errand 9 = .ok (.if_icmp .gt 28, 3) := by decide +kernel
theorem dX11_errand_12 : decode cX11_errand 12 = .ok (.iload 7, 2) := by decide +kernel
theorem dX11_errand_14 : decode cX11_errand 14 = .ok (.ifCond .lt 23, 3) := by decide +kernel
theorem dX11_errand_17 : decode cX11_errand 17 = .ok (.iload 7, 2) := by decide +kernel
theorem dX11_errand_19 : decode cX11_errand 19 = .ok (.iconst 1, 1) := by decide +kernel
theorem dX11_errand_20 : decode cX11_errand 20 = .ok (.if_icmp .gt 17, 3) := by decide +kernel
theorem dX11_errand_23 : decode cX11_errand 23 = .ok (.aload_n 0, 1) := by decide +kernel
theorem dX11_errand_24 : decode cX11_errand 24 = .ok (.iload_n 1, 1) := by decide +kernel
theorem dX11_errand_25 : decode cX11_errand 25 = .ok (.iload_n 2, 1) := by decide +kernel
theorem dX11_errand_26 : decode cX11_errand 26 = .ok (.iload_n 3, 1) := by decide +kernel
theorem dX11_errand_27 : decode cX11_errand 27 = .ok (.iload 4, 2) := by decide +kernel
theorem dX11_errand_29 : decode cX11_errand 29 = .ok (.iload 5, 2) := by decide +kernel
theorem dX11_errand_31 : decode cX11_errand 31 = .ok (.invokevirtual 170, 3) := by decide +kernel
theorem dX11_errand_34 : decode cX11_errand 34 = .ok (.ifCond .ne 11, 3) := by decide +kernel
theorem dX11_errand_37 : decode cX11_errand 37 = .ok (.new 177, 3) := by decide +kernel
theorem dX11_errand_40 : decode cX11_errand 40 = .ok (.dup, 1) := by decide +kernel
theorem dX11_errand_41 : decode cX11_errand 41 = .ok (.invokespecial 179, 3) := by decide +kernel
theorem dX11_errand_44 : decode cX11_errand 44 = .ok (.athrow, 1) := by decide +kernel
theorem dX11_errand_45 : decode cX11_errand 45 = .ok (.aload_n 0, 1) := by decide +kernel
theorem dX11_errand_46 : decode cX11_errand 46 = .ok (.getfield 44, 3) := by decide +kernel
theorem dX11_errand_49 : decode cX11_errand 49 = .ok (.invokevirtual 270, 3) := by decide +kernel
theorem dX11_errand_52 : decode cX11_errand 52 = .ok (.aload_n 0, 1) := by decide +kernel
theorem dX11_errand_53 : decode cX11_errand 53 = .ok (.getfield 44, 3) := by decide +kernel
theorem dX11_errand_56 : decode cX11_errand 56 = .ok (.iload_n 3, 1) := by decide +kernel
theorem dX11_errand_57 : decode cX11_errand 57 = .ok (.iload 5, 2) := by decide +kernel
theorem dX11_errand_59 : decode cX11_errand 59 = .ok (.iload 4, 2) := by decide +kernel
theorem dX11_errand_61 : decode cX11_errand 61 = .ok (.invokevirtual 273, 3) := by decide +kernel
theorem dX11_errand_64 : decode cX11_errand 64 = .ok (.aload_n 0, 1) := by decide +kernel
theorem dX11_errand_65 : decode cX11_errand 65 = .ok (.getfield 44, 3) := by decide +kernel
theorem dX11_errand_68 : decode cX11_errand 68 = .ok (.iload_n 3, 1) := by decide +kernel
theorem dX11_errand_69 : decode cX11_errand 69 = .ok (.bipush 119, 2) := by decide +kernel
theorem dX11_errand_71 : decode cX11_errand 71 = .ok (.iconst 0, 1) := by decide +kernel
theorem dX11_errand_72 : decode cX11_errand 72 = .ok (.invokevirtual 198, 3) := by decide +kernel
theorem dX11_errand_75 : decode cX11_errand 75 = .ok (.ldc_w 269, 3) := by decide +kernel
theorem dX11_errand_78 : decode cX11_errand 78 = .ok (.istore 8, 2) := by decide +kernel
theorem dX11_errand_80 : decode cX11_errand 80 = .ok (.iload_n 3, 1) := by decide +kernel
theorem dX11_errand_81 : decode cX11_errand 81 = .ok (.istore 9, 2) := by decide +kernel
theorem dX11_errand_83 : decode cX11_errand 83 = .ok (.iload 9, 2) := by decide +kernel
theorem dX11_errand_85 : decode cX11_errand 85 = .ok (.iload 6, 2) := by decide +kernel
theorem dX11_errand_87 : decode cX11_errand 87 = .ok (.iadd, 1) := by decide +kernel
theorem dX11_errand_88 : decode cX11_errand 88 = .ok (.bipush 119, 2) := by decide +kernel
theorem dX11_errand_90 : decode cX11_errand 90 = .ok (.if_icmp .gt 84, 3) := by decide +kernel
theorem dX11_errand_93 : decode cX11_errand 93 = .ok (.aload_n 0, 1) := by decide +kernel
theorem dX11_errand_94 : decode cX11_errand 94 = .ok (.getfield 44, 3) := by decide +kernel
theorem dX11_errand_97 : decode cX11_errand 97 = .ok (.iload 9, 2) := by decide +kernel
theorem dX11_errand_99 : decode cX11_errand 99 = .ok (.iload 5, 2) := by decide +kernel
theorem dX11_errand_101 : decode cX11_errand 101 = .ok (.invokevirtual 218, 3) := by decide +kernel
theorem dX11_errand_104 : decode cX11_errand 104 = .ok (.istore 10, 2) := by decide +kernel
theorem dX11_errand_106 : decode cX11_errand 106 = .ok (.aload_n 0, 1) := by decide +kernel
theorem dX11_errand_107 : decode cX11_errand 107 = .ok (.getfield 44, 3) := by decide +kernel
theorem dX11_errand_110 : decode cX11_errand 110 = .ok (.iload 9, 2) := by decide +kernel
theorem dX11_errand_112 : decode cX11_errand 112 = .ok (.iload 6, 2) := by decide +kernel
theorem dX11_errand_114 : decode cX11_errand 114 = .ok (.iadd, 1) := by decide +kernel
theorem dX11_errand_115 : decode cX11_errand 115 = .ok (.iload 5, 2) := by decide +kernel
theorem dX11_errand_117 : decode cX11_errand 117 = .ok (.invokevirtual 227, 3) := by decide +kernel
theorem dX11_errand_120 : decode cX11_errand 120 = .ok (.istore 11, 2) := by decide +kernel
theorem dX11_errand_122 : decode cX11_errand 122 = .ok (.iload 10, 2) := by decide +kernel
theorem dX11_errand_124 : decode cX11_errand 124 = .ok (.ldc_w 269, 3) := by decide +kernel
theorem dX11_errand_127 : decode cX11_errand 127 = .ok (.if_icmp .ge 41, 3) := by decide +kernel
theorem dX11_errand_130 : decode cX11_errand 130 = .ok (.iload 11, 2) := by decide +kernel
theorem dX11_errand_132 : decode cX11_errand 132 = .ok (.ldc_w 269, 3) := by decide +kernel
theorem dX11_errand_135 : decode cX11_errand 135 = .ok (.if_icmp .ge 33, 3) := by decide +kernel
theorem dX11_errand_138 : decode cX11_errand 138 = .ok (.iload 8, 2) := by decide +kernel
theorem dX11_errand_140 : decode cX11_errand 140 = .ok (.iload 10, 2) := by decide +kernel
theorem dX11_errand_142 : decode cX11_errand 142 = .ok (.aload_n 0, 1) := by decide +kernel
theorem dX11_errand_143 : decode cX11_errand 143 = .ok (.getfield 44, 3) := by decide +kernel
theorem dX11_errand_146 : decode cX11_errand 146 = .ok (.iload 9, 2) := by decide +kernel
theorem dX11_errand_148 : decode cX11_errand 148 = .ok (.iload 6, 2) := by decide +kernel
theorem dX11_errand_150 : decode cX11_errand 150 = .ok (.iload 5, 2) := by decide +kernel
theorem dX11_errand_152 : decode cX11_errand 152 = .ok (.invokevirtual 276, 3) := by decide +kernel
theorem dX11_errand_155 : decode cX11_errand 155 = .ok (.iadd, 1) := by decide +kernel
theorem dX11_errand_156 : decode cX11_errand 156 = .ok (.sipush 128, 3) := by decide +kernel
theorem dX11_errand_159 : decode cX11_errand 159 = .ok (.imul, 1) := by decide +kernel
theorem dX11_errand_160 : decode cX11_errand 160 = .ok (.iload 11, 2) := by decide +kernel
theorem dX11_errand_162 : decode cX11_errand 162 = .ok (.iadd, 1) := by decide +kernel
theorem dX11_errand_163 : decode cX11_errand 163 = .ok (.invokestatic 206, 3) := by decide +kernel
theorem dX11_errand_166 : decode cX11_errand 166 = .ok (.istore 8, 2) := by decide +kernel
theorem dX11_errand_168 : decode cX11_errand 168 = .ok (.iinc 9 1, 3) := by decide +kernel
theorem dX11_errand_171 : decode cX11_errand 171 = .ok (.goto (-88), 3) := by decide +kernel
theorem dX11_errand_174 : decode cX11_errand 174 = .ok (.iload 8, 2) := by decide +kernel
theorem dX11_errand_176 : decode cX11_errand 176 = .ok (.ldc_w 269, 3) := by decide +kernel
theorem dX11_errand_179 : decode cX11_errand 179 = .ok (.if_icmp .lt 11, 3) := by decide +kernel
theorem dX11_errand_182 : decode cX11_errand 182 = .ok (.new 177, 3) := by decide +kernel
theorem dX11_errand_185 : decode cX11_errand 185 = .ok (.dup, 1) := by decide +kernel
theorem dX11_errand_186 : decode cX11_errand 186 = .ok (.invokespecial 179, 3) := by decide +kernel
theorem dX11_errand_189 : decode cX11_errand 189 = .ok (.athrow, 1) := by decide +kernel
theorem dX11_errand_190 : decode cX11_errand 190 = .ok (.iload 7, 2) := by decide +kernel
theorem dX11_errand_192 : decode cX11_errand 192 = .ok (.ifCond .ne 12, 3) := by decide +kernel
theorem dX11_errand_195 : decode cX11_errand 195 = .ok (.iload 8, 2) := by decide +kernel
theorem dX11_errand_197 : decode cX11_errand 197 = .ok (.sipush 128, 3) := by decide +kernel
theorem dX11_errand_200 : decode cX11_errand 200 = .ok (.idiv, 1) := by decide +kernel
theorem dX11_errand_201 : decode cX11_errand 201 = .ok (.goto 9, 3) := by decide +kernel
theorem dX11_errand_204 : decode cX11_errand 204 = .ok (.iload 8, 2) := by decide +kernel
theorem dX11_errand_206 : decode cX11_errand 206 = .ok (.sipush 128, 3) := by decide +kernel
theorem dX11_errand_209 : decode cX11_errand 209 = .ok (.irem, 1) := by decide +kernel
theorem dX11_errand_210 : decode cX11_errand 210 = .ok (.ireturn, 1) := by decide +kernel
theorem dX11_meet_0 : decode cX11_meet 0 = .ok (.iload 7, 2) := by decide +kernel
theorem dX11_meet_2 : decode cX11_meet 2 = .ok (.ifCond .lt 24, 3) := by decide +kernel
theorem dX11_meet_5 : decode cX11_meet 5 = .ok (.iload 7, 2) := by decide +kernel
theorem dX11_meet_7 : decode cX11_meet 7 = .ok (.iconst 2, 1) := by decide +kernel
theorem dX11_meet_8 : decode cX11_meet 8 = .ok (.if_icmp .gt 18, 3) := by decide +kernel
theorem dX11_meet_11 : decode cX11_meet 11 = .ok (.aload_n 0, 1) := by decide +kernel
theorem dX11_meet_12 : decode cX11_meet 12 = .ok (.iload_n 1, 1) := by decide +kernel
theorem dX11_meet_13 : decode cX11_meet 13 = .ok (.iload 5, 2) := by decide +kernel
theorem dX11_meet_15 : decode cX11_meet 15 = .ok (.iload 6, 2) := by decide +kernel
theorem dX11_meet_17 : decode cX11_meet 17 = .ok (.iload_n 2, 1) := by decide +kernel
theorem dX11_meet_18 : decode cX11_meet 18 = .ok (.iload 4, 2) := by decide +kernel
theorem dX11_meet_20 : decode cX11_meet 20 = .ok (.invokevirtual 170, 3) := by decide +kernel
theorem dX11_meet_23 : decode cX11_meet 23 = .ok (.ifCond .ne 11, 3) := by decide +kernel
theorem dX11_meet_26 : decode cX11_meet 26 = .ok (.new 177, 3) := by decide +kernel
theorem dX11_meet_29 : decode cX11_meet 29 = .ok (.dup, 1) := by decide +kernel
theorem dX11_meet_30 : decode cX11_meet 30 = .ok (.invokespecial 179, 3) := by decide +kernel
theorem dX11_meet_33 : decode cX11_meet 33 = .ok (.athrow, 1) := by decide +kernel
theorem dX11_meet_34 : decode cX11_meet 34 = .ok (.aload_n 0, 1) := by decide +kernel
theorem dX11_meet_35 : decode cX11_meet 35 = .ok (.getfield 44, 3) := by decide +kernel
theorem dX11_meet_38 : decode cX11_meet 38 = .ok (.iload 6, 2) := by decide +kernel
theorem dX11_meet_40 : decode cX11_meet 40 = .ok (.iload_n 2, 1) := by decide +kernel
theorem dX11_meet_41 : decode cX11_meet 41 = .ok (.iconst (-1), 1) := by decide +kernel
theorem dX11_meet_42 : decode cX11_meet 42 = .ok (.invokevirtual 273, 3) := by decide +kernel
theorem dX11_meet_45 : decode cX11_meet 45 = .ok (.aload_n 0, 1) := by decide +kernel
theorem dX11_meet_46 : decode cX11_meet 46 = .ok (.getfield 44, 3) := by decide +kernel
theorem dX11_meet_49 : decode cX11_meet 49 = .ok (.invokevirtual 270, 3) := by decide +kernel
theorem dX11_meet_52 : decode cX11_meet 52 = .ok (.aload_n 0, 1) := by decide +kernel
theorem dX11_meet_53 : decode cX11_meet 53 = .ok (.getfield 44, 3) := by decide +kernel
theorem dX11_meet_56 : decode cX11_meet 56 = .ok (.invokevirtual 280, 3) := by decide +kernel
theorem dX11_meet_59 : decode cX11_meet 59 = .ok (.aload_n 0, 1) := by decide +kernel
theorem dX11_meet_60 : decode cX11_meet 60 = .ok (.iload_n 3, 1) := by decide +kernel
theorem dX11_meet_61 : decode cX11_meet 61 = .ok (.iload 5, 2) := by decide +kernel
theorem dX11_meet_63 : decode cX11_meet 63 = .ok (.iload 6, 2) := by decide +kernel
theorem dX11_meet_65 : decode cX11_meet 65 = .ok (.iload 4, 2) := by decide +kernel
theorem dX11_meet_67 : decode cX11_meet 67 = .ok (.iload_n 2, 1) := by decide +kernel
theorem dX11_meet_68 : decode cX11_meet 68 = .ok (.invokevirtual 170, 3) := by decide +kernel
theorem dX11_meet_71 : decode cX11_meet 71 = .ok (.ifCond .ne 11, 3) := by decide +kernel
theorem dX11_meet_74 : decode cX11_meet 74 = .ok (.new 177, 3) := by decide +kernel
theorem dX11_meet_77 : decode cX11_meet 77 = .ok (.dup, 1) := by decide +kernel
theorem dX11_meet_78 : decode cX11_meet 78 = .ok (.invokespecial 179, 3) := by decide +kernel
theorem dX11_meet_81 : decode cX11_meet 81 = .ok (.athrow, 1) := by decide +kernel
theorem dX11_meet_82 : decode cX11_meet 82 = .ok (.aload_n 0, 1) := by decide +kernel
theorem dX11_meet_83 : decode cX11_meet 83 = .ok (.getfield 44, 3) := by decide +kernel
theorem dX11_meet_86 : decode cX11_meet 86 = .ok (.iload 6, 2) := by decide +kernel
theorem dX11_meet_88 : decode cX11_meet 88 = .ok (.iload 4, 2) := by decide +kernel
theorem dX11_meet_90 : decode cX11_meet 90 = .ok (.iconst (-1), 1) := by decide +kernel
theorem dX11_meet_91 : decode cX11_meet 91 = .ok (.invokevirtual 273, 3) := by decide +kernel
theorem dX11_meet_94 : decode cX11_meet 94 = .ok (.aload_n 0, 1) := by decide +kernel
theorem dX11_meet_95 : decode cX11_meet 95 = .ok (.getfield 44, 3) := by decide +kernel
theorem dX11_meet_98 : decode cX11_meet 98 = .ok (.invokevirtual 270, 3) := by decide +kernel
theorem dX11_meet_101 : decode cX11_meet 101 = .ok (.ldc_w 269, 3) := by decide +kernel
theorem dX11_meet_104 : decode cX11_meet 104 = .ok (.istore 8, 2) := by decide +kernel
theorem dX11_meet_106 : decode cX11_meet 106 = .ok (.iconst (-1), 1) := by decide +kernel
theorem dX11_meet_107 : decode cX11_meet 107 = .ok (.istore 9, 2) := by decide +kernel
theorem dX11_meet_109 : decode cX11_meet 109 = .ok (.iload 6, 2) := by decide +kernel
theorem dX11_meet_111 : decode cX11_meet 111 = .ok (.bipush 100, 2) := by decide +kernel
theorem dX11_meet_113 : decode cX11_meet 113 = .ok (.imul, 1) := by decide +kernel
theorem dX11_meet_114 : decode cX11_meet 114 = .ok (.istore 10, 2) := by decide +kernel
theorem dX11_meet_116 : decode cX11_meet 116 = .ok (.iload 10, 2) := by decide +kernel
theorem dX11_meet_118 : decode cX11_meet 118 = .ok (.sipush 12000, 3) := by decide +kernel
theorem dX11_meet_121 : decode cX11_meet 121 = .ok (.if_icmp .ge 61, 3) := by decide +kernel
theorem dX11_meet_124 : decode cX11_meet 124 = .ok (.aload_n 0, 1) := by decide +kernel
theorem dX11_meet_125 : decode cX11_meet 125 = .ok (.getfield 44, 3) := by decide +kernel
theorem dX11_meet_128 : decode cX11_meet 128 = .ok (.iload 10, 2) := by decide +kernel
theorem dX11_meet_130 : decode cX11_meet 130 = .ok (.bipush 100, 2) := by decide +kernel
theorem dX11_meet_132 : decode cX11_meet 132 = .ok (.idiv, 1) := by decide +kernel
theorem dX11_meet_133 : decode cX11_meet 133 = .ok (.iload 10, 2) := by decide +kernel
theorem dX11_meet_135 : decode cX11_meet 135 = .ok (.bipush 100, 2) := by decide +kernel
theorem dX11_meet_137 : decode cX11_meet 137 = .ok (.irem, 1) := by decide +kernel
theorem dX11_meet_138 : decode cX11_meet 138 = .ok (.invokevirtual 218, 3) := by decide +kernel
theorem dX11_meet_141 : decode cX11_meet 141 = .ok (.aload_n 0, 1) := by decide +kernel
theorem dX11_meet_142 : decode cX11_meet 142 = .ok (.getfield 44, 3) := by decide +kernel
theorem dX11_meet_145 : decode cX11_meet 145 = .ok (.iload 10, 2) := by decide +kernel
theorem dX11_meet_147 : decode cX11_meet 147 = .ok (.bipush 100, 2) := by decide +kernel
theorem dX11_meet_149 : decode cX11_meet 149 = .ok (.idiv, 1) := by decide +kernel
theorem dX11_meet_150 : decode cX11_meet 150 = .ok (.iload 10, 2) := by decide +kernel
theorem dX11_meet_152 : decode cX11_meet 152 = .ok (.bipush 100, 2) := by decide +kernel
theorem dX11_meet_154 : decode cX11_meet 154 = .ok (.irem, 1) := by decide +kernel
theorem dX11_meet_155 : decode cX11_meet 155 = .ok (.invokevirtual 227, 3) := by decide +kernel
theorem dX11_meet_158 : decode cX11_meet 158 = .ok (.iadd, 1) := by decide +kernel
theorem dX11_meet_159 : decode cX11_meet 159 = .ok (.istore 11, 2) := by decide +kernel
theorem dX11_meet_161 : decode cX11_meet 161 = .ok (.iload 11, 2) := by decide +kernel
theorem dX11_meet_163 : decode cX11_meet 163 = .ok (.iload 8, 2) := by decide +kernel
theorem dX11_meet_165 : decode cX11_meet 165 = .ok (.if_icmp .ge 11, 3) := by decide +kernel
theorem dX11_meet_168 : decode cX11_meet 168 = .ok (.iload 11, 2) := by decide +kernel
theorem dX11_meet_170 : decode cX11_meet 170 = .ok (.istore 8, 2) := by decide +kernel
theorem dX11_meet_172 : decode cX11_meet 172 = .ok (.iload 10, 2) := by decide +kernel
theorem dX11_meet_174 : decode cX11_meet 174 = .ok (.istore 9, 2) := by decide +kernel
theorem dX11_meet_176 : decode cX11_meet 176 = .ok (.iinc 10 1, 3) := by decide +kernel
theorem dX11_meet_179 : decode cX11_meet 179 = .ok (.goto (-63), 3) := by decide +kernel
theorem dX11_meet_182 : decode cX11_meet 182 = .ok (.iload 9, 2) := by decide +kernel
theorem dX11_meet_184 : decode cX11_meet 184 = .ok (.iconst (-1), 1) := by decide +kernel
theorem dX11_meet_185 : decode cX11_meet 185 = .ok (.if_icmp .ne 11, 3) := by decide +kernel
theorem dX11_meet_188 : decode cX11_meet 188 = .ok (.new 177, 3) := by decide +kernel
theorem dX11_meet_191 : decode cX11_meet 191 = .ok (.dup, 1) := by decide +kernel
theorem dX11_meet_192 : decode cX11_meet 192 = .ok (.invokespecial 179, 3) := by decide +kernel
theorem dX11_meet_195 : decode cX11_meet 195 = .ok (.athrow, 1) := by decide +kernel
theorem dX11_meet_196 : decode cX11_meet 196 = .ok (.iload 7, 2) := by decide +kernel
theorem dX11_meet_198 : decode cX11_meet 198 = .ok (.ifCond .ne 8, 3) := by decide +kernel
theorem dX11_meet_201 : decode cX11_meet 201 = .ok (.iload 8, 2) := by decide +kernel
theorem dX11_meet_203 : decode cX11_meet 203 = .ok (.goto 22, 3) := by decide +kernel
theorem dX11_meet_206 : decode cX11_meet 206 = .ok (.iload 7, 2) := by decide +kernel
theorem dX11_meet_208 : decode cX11_meet 208 = .ok (.iconst 1, 1) := by decide +kernel
theorem dX11_meet_209 : decode cX11_meet 209 = .ok (.if_icmp .ne 11, 3) := by decide +kernel
theorem dX11_meet_212 : decode cX11_meet 212 = .ok (.iload 9, 2) := by decide +kernel
theorem dX11_meet_214 : decode cX11_meet 214 = .ok (.bipush 100, 2) := by decide +kernel
theorem dX11_meet_216 : decode cX11_meet 216 = .ok (.idiv, 1) := by decide +kernel
theorem dX11_meet_217 : decode cX11_meet 217 = .ok (.goto 8, 3) := by decide +kernel
theorem dX11_meet_220 : decode cX11_meet 220 = .ok (.iload 9, 2) := by decide +kernel
theorem dX11_meet_222 : decode cX11_meet 222 = .ok (.bipush 100, 2) := by decide +kernel
theorem dX11_meet_224 : decode cX11_meet 224 = .ok (.irem, 1) := by decide +kernel
theorem dX11_meet_225 : decode cX11_meet 225 = .ok (.ireturn, 1) := by decide +kernel
theorem dX11_crowd_0 : decode cX11_crowd 0 = .ok (.iload 9, 2) := by decide +kernel
theorem dX11_crowd_2 : decode cX11_crowd 2 = .ok (.ifCond .lt 52, 3) := by decide +kernel
theorem dX11_crowd_5 : decode cX11_crowd 5 = .ok (.iload 9, 2) := by decide +kernel
theorem dX11_crowd_7 : decode cX11_crowd 7 = .ok (.iconst 3, 1) := by decide +kernel
theorem dX11_crowd_8 : decode cX11_crowd 8 = .ok (.if_icmp .gt 46, 3) := by decide +kernel
theorem dX11_crowd_11 : decode cX11_crowd 11 = .ok (.aload_n 0, 1) := by decide +kernel
theorem dX11_crowd_12 : decode cX11_crowd 12 = .ok (.iload 6, 2) := by decide +kernel
theorem dX11_crowd_14 : decode cX11_crowd 14 = .ok (.iload 7, 2) := by decide +kernel
theorem dX11_crowd_16 : decode cX11_crowd 16 = .ok (.iload 8, 2) := by decide +kernel
theorem dX11_crowd_18 : decode cX11_crowd 18 = .ok (.invokevirtual 283, 3) := by decide +kernel
theorem dX11_crowd_21 : decode cX11_crowd 21 = .ok (.ifCond .eq 33, 3) := by decide +kernel
theorem dX11_crowd_24 : decode cX11_crowd 24 = .ok (.aload_n 0, 1) := by decide +kernel
theorem dX11_crowd_25 : decode cX11_crowd 25 = .ok (.iload_n 1, 1) := by decide +kernel
theorem dX11_crowd_26 : decode cX11_crowd 26 = .ok (.iload_n 2, 1) := by decide +kernel
theorem dX11_crowd_27 : decode cX11_crowd 27 = .ok (.iload_n 3, 1) := by decide +kernel
theorem dX11_crowd_28 : decode cX11_crowd 28 = .ok (.iload 4, 2) := by decide +kernel
theorem dX11_crowd_30 : decode cX11_crowd 30 = .ok (.iload 5, 2) := by decide +kernel
theorem dX11_crowd_32 : decode cX11_crowd 32 = .ok (.invokevirtual 170, 3) := by decide +kernel
theorem dX11_crowd_35 : decode cX11_crowd 35 = .ok (.ifCond .eq 19, 3) := by decide +kernel
theorem dX11_crowd_38 : decode cX11_crowd 38 = .ok (.aload_n 0, 1) := by decide +kernel
theorem dX11_crowd_39 : decode cX11_crowd 39 = .ok (.getfield 60, 3) := by decide +kernel
theorem dX11_crowd_42 : decode cX11_crowd 42 = .ok (.iload 6, 2) := by decide +kernel
theorem dX11_crowd_44 : decode cX11_crowd 44 = .ok (.iload 7, 2) := by decide +kernel
theorem dX11_crowd_46 : decode cX11_crowd 46 = .ok (.iload 8, 2) := by decide +kernel
theorem dX11_crowd_48 : decode cX11_crowd 48 = .ok (.invokevirtual 287, 3) := by decide +kernel
theorem dX11_crowd_51 : decode cX11_crowd 51 = .ok (.ifCond .ne 11, 3) := by decide +kernel
theorem dX11_crowd_54 : decode cX11_crowd 54 = .ok (.new 177, 3) := by decide +kernel
theorem dX11_crowd_57 : decode cX11_crowd 57 = .ok (.dup, 1) := by decide +kernel
theorem dX11_crowd_58 : decode cX11_crowd 58 = .ok (.invokespecial 179, 3) := by decide +kernel
theorem dX11_crowd_61 : decode cX11_crowd 61 = .ok (.athrow, 1) := by decide +kernel
theorem dX11_crowd_62 : decode cX11_crowd 62 = .ok (.iload 9, 2) := by decide +kernel
theorem dX11_crowd_64 : decode cX11_crowd 64 = .ok (.ifCond .ne 13, 3) := by decide +kernel
theorem dX11_crowd_67 : decode cX11_crowd 67 = .ok (.aload_n 0, 1) := by decide +kernel
theorem dX11_crowd_68 : decode cX11_crowd 68 = .ok (.getfield 60, 3) := by decide +kernel
theorem dX11_crowd_71 : decode cX11_crowd 71 = .ok (.getfield 290, 3) := by decide +kernel
theorem dX11_crowd_74 : decode cX11_crowd 74 = .ok (.goto 42, 3) := by decide +kernel
theorem dX11_crowd_77 : decode cX11_crowd 77 = .ok (.iload 9, 2) := by decide +kernel
theorem dX11_crowd_79 : decode cX11_crowd 79 = .ok (.iconst 1, 1) := by decide +kernel
theorem dX11_crowd_80 : decode cX11_crowd 80 = .ok (.if_icmp .ne 13, 3) := by decide +kernel
theorem dX11_crowd_83 : decode cX11_crowd 83 = .ok (.aload_n 0, 1) := by decide +kernel
theorem dX11_crowd_84 : decode cX11_crowd 84 = .ok (.getfield 60, 3) := by decide +kernel
theorem dX11_crowd_87 : decode cX11_crowd 87 = .ok (.getfield 293, 3) := by decide +kernel
theorem dX11_crowd_90 : decode cX11_crowd 90 = .ok (.goto 26, 3) := by decide +kernel
theorem dX11_crowd_93 : decode cX11_crowd 93 = .ok (.iload 9, 2) := by decide +kernel
theorem dX11_crowd_95 : decode cX11_crowd 95 = .ok (.iconst 2, 1) := by decide +kernel
theorem dX11_crowd_96 : decode cX11_crowd 96 = .ok (.if_icmp .ne 13, 3) := by decide +kernel
theorem dX11_crowd_99 : decode cX11_crowd 99 = .ok (.aload_n 0, 1) := by decide +kernel
theorem dX11_crowd_100 : decode cX11_crowd 100 = .ok (.getfield 60, 3) := by decide +kernel
theorem dX11_crowd_103 : decode cX11_crowd 103 = .ok (.getfield 296, 3) := by decide +kernel
theorem dX11_crowd_106 : decode cX11_crowd 106 = .ok (.goto 10, 3) := by decide +kernel
theorem dX11_crowd_109 : decode cX11_crowd 109 = .ok (.aload_n 0, 1) := by decide +kernel
theorem dX11_crowd_110 : decode cX11_crowd 110 = .ok (.getfield 60, 3) := by decide +kernel
theorem dX11_crowd_113 : decode cX11_crowd 113 = .ok (.getfield 299, 3) := by decide +kernel
theorem dX11_crowd_116 : decode cX11_crowd 116 = .ok (.ireturn, 1) := by decide +kernel
theorem dX11_price_0 : decode cX11_price 0 = .ok (.aload_n 0, 1) := by decide +kernel
theorem dX11_price_1 : decode cX11_price 1 = .ok (.iload 6, 2) := by decide +kernel
theorem dX11_price_3 : decode cX11_price 3 = .ok (.iload 7, 2) := by decide +kernel
theorem dX11_price_5 : decode cX11_price 5 = .ok (.iload 8, 2) := by decide +kernel
theorem dX11_price_7 : decode cX11_price 7 = .ok (.invokevirtual 283, 3) := by decide +kernel
theorem dX11_price_10 : decode cX11_price 10 = .ok (.ifCond .eq 45, 3) := by decide +kernel
theorem dX11_price_13 : decode cX11_price 13 = .ok (.aload_n 0, 1) := by decide +kernel
theorem dX11_price_14 : decode cX11_price 14 = .ok (.iload_n 1, 1) := by decide +kernel
theorem dX11_price_15 : decode cX11_price 15 = .ok (.iload_n 2, 1) := by decide +kernel
theorem dX11_price_16 : decode cX11_price 16 = .ok (.iload_n 3, 1) := by decide +kernel
theorem dX11_price_17 : decode cX11_price 17 = .ok (.iload 4, 2) := by decide +kernel
theorem dX11_price_19 : decode cX11_price 19 = .ok (.iload 5, 2) := by decide +kernel
theorem dX11_price_21 : decode cX11_price 21 = .ok (.invokevirtual 170, 3) := by decide +kernel
theorem dX11_price_24 : decode cX11_price 24 = .ok (.ifCond .eq 31, 3) := by decide +kernel
theorem dX11_price_27 : decode cX11_price 27 = .ok (.aload_n 0, 1) := by decide +kernel
theorem dX11_price_28 : decode cX11_price 28 = .ok (.getfield 60, 3) := by decide +kernel
theorem dX11_price_31 : decode cX11_price 31 = .ok (.iload 6, 2) := by decide +kernel
theorem dX11_price_33 : decode cX11_price 33 = .ok (.iload 7, 2) := by decide +kernel
theorem dX11_price_35 : decode cX11_price 35 = .ok (.iload 8, 2) := by decide +kernel
theorem dX11_price_37 : decode cX11_price 37 = .ok (.invokevirtual 287, 3) := by decide +kernel
theorem dX11_price_40 : decode cX11_price 40 = .ok (.ifCond .eq 15, 3) := by decide +kernel
theorem dX11_price_43 : decode cX11_price 43 = .ok (.aload_n 0, 1) := by decide +kernel
theorem dX11_price_44 : decode cX11_price 44 = .ok (.getfield 44, 3) := by decide +kernel
theorem dX11_price_47 : decode cX11_price 47 = .ok (.iload 6, 2) := by decide +kernel
theorem dX11_price_49 : decode cX11_price 49 = .ok (.invokevirtual 174, 3) := by decide +kernel
theorem dX11_price_52 : decode cX11_price 52 = .ok (.ifCond .ne 11, 3) := by decide +kernel
theorem dX11_price_55 : decode cX11_price 55 = .ok (.new 177, 3) := by decide +kernel
theorem dX11_price_58 : decode cX11_price 58 = .ok (.dup, 1) := by decide +kernel
theorem dX11_price_59 : decode cX11_price 59 = .ok (.invokespecial 179, 3) := by decide +kernel
theorem dX11_price_62 : decode cX11_price 62 = .ok (.athrow, 1) := by decide +kernel
theorem dX11_price_63 : decode cX11_price 63 = .ok (.aload_n 0, 1) := by decide +kernel
theorem dX11_price_64 : decode cX11_price 64 = .ok (.getfield 60, 3) := by decide +kernel
theorem dX11_price_67 : decode cX11_price 67 = .ok (.getfield 290, 3) := by decide +kernel
theorem dX11_price_70 : decode cX11_price 70 = .ok (.iload 7, 2) := by decide +kernel
theorem dX11_price_72 : decode cX11_price 72 = .ok (.aload_n 0, 1) := by decide +kernel
theorem dX11_price_73 : decode cX11_price 73 = .ok (.getfield 44, 3) := by decide +kernel
theorem dX11_price_76 : decode cX11_price 76 = .ok (.getfield 180, 3) := by decide +kernel
theorem dX11_price_79 : decode cX11_price 79 = .ok (.imul, 1) := by decide +kernel
theorem dX11_price_80 : decode cX11_price 80 = .ok (.isub, 1) := by decide +kernel
theorem dX11_price_81 : decode cX11_price 81 = .ok (.ireturn, 1) := by decide +kernel
theorem dX11_isGroup_0 : decode cX11_isGroup 0 = .ok (.iload_n 1, 1) := by decide +kernel
theorem dX11_isGroup_1 : decode cX11_isGroup 1 = .ok (.invokestatic 266, 3) := by decide +kernel
theorem dX11_isGroup_4 : decode cX11_isGroup 4 = .ok (.ifCond .eq 28, 3) := by decide +kernel
theorem dX11_isGroup_7 : decode cX11_isGroup 7 = .ok (.iload_n 2, 1) := by decide +kernel
theorem dX11_isGroup_8 : decode cX11_isGroup 8 = .ok (.iconst 1, 1) := by decide +kernel
theorem dX11_isGroup_9 : decode cX11_isGroup 9 = .ok (.if_icmp .lt 23, 3) := by decide +kernel
theorem dX11_isGroup_12 : decode cX11_isGroup 12 = .ok (.iload_n 2, 1) := by decide +kernel
theorem dX11_isGroup_13 : decode cX11_isGroup 13 = .ok (.bipush 8, 2) := by decide +kernel
theorem dX11_isGroup_15 : decode cX11_isGroup 15 = .ok (.if_icmp .gt 17, 3) := by decide +kernel
theorem dX11_isGroup_18 : decode cX11_isGroup 18 = .ok (.iload_n 3, 1) := by decide +kernel
theorem dX11_isGroup_19 : decode cX11_isGroup 19 = .ok (.ifCond .lt 13, 3) := by decide +kernel
theorem dX11_isGroup_22 : decode cX11_isGroup 22 = .ok (.iload_n 3, 1) := by decide +kernel
theorem dX11_isGroup_23 : decode cX11_isGroup 23 = .ok (.bipush 9, 2) := by decide +kernel
theorem dX11_isGroup_25 : decode cX11_isGroup 25 = .ok (.if_icmp .gt 7, 3) := by decide +kernel
theorem dX11_isGroup_28 : decode cX11_isGroup 28 = .ok (.iconst 1, 1) := by decide +kernel
theorem dX11_isGroup_29 : decode cX11_isGroup 29 = .ok (.goto 4, 3) := by decide +kernel
theorem dX11_isGroup_32 : decode cX11_isGroup 32 = .ok (.iconst 0, 1) := by decide +kernel
theorem dX11_isGroup_33 : decode cX11_isGroup 33 = .ok (.ireturn, 1) := by decide +kernel
theorem dX11_plant_0 : decode cX11_plant 0 = .ok (.iload 7, 2) := by decide +kernel
theorem dX11_plant_2 : decode cX11_plant 2 = .ok (.ifCond .lt 48, 3) := by decide +kernel
theorem dX11_plant_5 : decode cX11_plant 5 = .ok (.iload 7, 2) := by decide +kernel
theorem dX11_plant_7 : decode cX11_plant 7 = .ok (.iconst 1, 1) := by decide +kernel
theorem dX11_plant_8 : decode cX11_plant 8 = .ok (.if_icmp .gt 42, 3) := by decide +kernel
theorem dX11_plant_11 : decode cX11_plant 11 = .ok (.iload 6, 2) := by decide +kernel
theorem dX11_plant_13 : decode cX11_plant 13 = .ok (.iconst 1, 1) := by decide +kernel
theorem dX11_plant_14 : decode cX11_plant 14 = .ok (.if_icmp .lt 36, 3) := by decide +kernel
theorem dX11_plant_17 : decode cX11_plant 17 = .ok (.iload 6, 2) := by decide +kernel
theorem dX11_plant_19 : decode cX11_plant 19 = .ok (.bipush 99, 2) := by decide +kernel
theorem dX11_plant_21 : decode cX11_plant 21 = .ok (.if_icmp .gt 29, 3) := by decide +kernel
theorem dX11_plant_24 : decode cX11_plant 24 = .ok (.aload_n 0, 1) := by decide +kernel
theorem dX11_plant_25 : decode cX11_plant 25 = .ok (.iload_n 1, 1) := by decide +kernel
theorem dX11_plant_26 : decode cX11_plant 26 = .ok (.iload_n 2, 1) := by decide +kernel
theorem dX11_plant_27 : decode cX11_plant 27 = .ok (.iload_n 3, 1) := by decide +kernel
theorem dX11_plant_28 : decode cX11_plant 28 = .ok (.iload 4, 2) := by decide +kernel
theorem dX11_plant_30 : decode cX11_plant 30 = .ok (.iload 5, 2) := by decide +kernel
theorem dX11_plant_32 : decode cX11_plant 32 = .ok (.invokevirtual 170, 3) := by decide +kernel
theorem dX11_plant_35 : decode cX11_plant 35 = .ok (.ifCond .eq 15, 3) := by decide +kernel
theorem dX11_plant_38 : decode cX11_plant 38 = .ok (.aload_n 0, 1) := by decide +kernel
theorem dX11_plant_39 : decode cX11_plant 39 = .ok (.getfield 44, 3) := by decide +kernel
theorem dX11_plant_42 : decode cX11_plant 42 = .ok (.bipush 119, 2) := by decide +kernel
theorem dX11_plant_44 : decode cX11_plant 44 = .ok (.invokevirtual 174, 3) := by decide +kernel
theorem dX11_plant_47 : decode cX11_plant 47 = .ok (.ifCond .ne 11, 3) := by decide +kernel
theorem dX11_plant_50 : decode cX11_plant 50 = .ok (.new 177, 3) := by decide +kernel
theorem dX11_plant_53 : decode cX11_plant 53 = .ok (.dup, 1) := by decide +kernel
theorem dX11_plant_54 : decode cX11_plant 54 = .ok (.invokespecial 179, 3) := by decide +kernel
theorem dX11_plant_57 : decode cX11_plant 57 = .ok (.athrow, 1) := by decide +kernel
theorem dX11_plant_58 : decode cX11_plant 58 = .ok (.aload_n 0, 1) := by decide +kernel
theorem dX11_plant_59 : decode cX11_plant 59 = .ok (.getfield 53, 3) := by decide +kernel
theorem dX11_plant_62 : decode cX11_plant 62 = .ok (.iload 6, 2) := by decide +kernel
theorem dX11_plant_64 : decode cX11_plant 64 = .ok (.invokevirtual 302, 3) := by decide +kernel
theorem dX11_plant_67 : decode cX11_plant 67 = .ok (.iload 7, 2) := by decide +kernel
theorem dX11_plant_69 : decode cX11_plant 69 = .ok (.ifCond .ne 13, 3) := by decide +kernel
theorem dX11_plant_72 : decode cX11_plant 72 = .ok (.aload_n 0, 1) := by decide +kernel
theorem dX11_plant_73 : decode cX11_plant 73 = .ok (.getfield 53, 3) := by decide +kernel
theorem dX11_plant_76 : decode cX11_plant 76 = .ok (.getfield 305, 3) := by decide +kernel
theorem dX11_plant_79 : decode cX11_plant 79 = .ok (.goto 10, 3) := by decide +kernel
theorem dX11_plant_82 : decode cX11_plant 82 = .ok (.aload_n 0, 1) := by decide +kernel
theorem dX11_plant_83 : decode cX11_plant 83 = .ok (.getfield 53, 3) := by decide +kernel
theorem dX11_plant_86 : decode cX11_plant 86 = .ok (.getfield 308, 3) := by decide +kernel
theorem dX11_plant_89 : decode cX11_plant 89 = .ok (.ireturn, 1) := by decide +kernel
theorem dX11_spot_0 : decode cX11_spot 0 = .ok (.iload_n 1, 1) := by decide +kernel
theorem dX11_spot_1 : decode cX11_spot 1 = .ok (.invokestatic 92, 3) := by decide +kernel
theorem dX11_spot_4 : decode cX11_spot 4 = .ok (.ifCond .eq 43, 3) := by decide +kernel
theorem dX11_spot_7 : decode cX11_spot 7 = .ok (.aload_n 0, 1) := by decide +kernel
theorem dX11_spot_8 : decode cX11_spot 8 = .ok (.getfield 10, 3) := by decide +kernel
theorem dX11_spot_11 : decode cX11_spot 11 = .ok (.getfield 95, 3) := by decide +kernel
theorem dX11_spot_14 : decode cX11_spot 14 = .ok (.iload_n 1, 1) := by decide +kernel
theorem dX11_spot_15 : decode cX11_spot 15 = .ok (.iaload, 1) := by decide +kernel
theorem dX11_spot_16 : decode cX11_spot 16 = .ok (.ifCond .ne 31, 3) := by decide +kernel
theorem dX11_spot_19 : decode cX11_spot 19 = .ok (.aload_n 0, 1) := by decide +kernel
theorem dX11_spot_20 : decode cX11_spot 20 = .ok (.getfield 10, 3) := by decide +kernel
theorem dX11_spot_23 : decode cX11_spot 23 = .ok (.getfield 126, 3) := by decide +kernel
theorem dX11_spot_26 : decode cX11_spot 26 = .ok (.iload_n 1, 1) := by decide +kernel
theorem dX11_spot_27 : decode cX11_spot 27 = .ok (.invokevirtual 311, 3) := by decide +kernel
theorem dX11_spot_30 : decode cX11_spot 30 = .ok (.ifCond .ne 17, 3) := by decide +kernel
theorem dX11_spot_33 : decode cX11_spot 33 = .ok (.aload_n 0, 1) := by decide +kernel
theorem dX11_spot_34 : decode cX11_spot 34 = .ok (.getfield 10, 3) := by decide +kernel
theorem dX11_spot_37 : decode cX11_spot 37 = .ok (.getfield 126, 3) := by decide +kernel
theorem dX11_spot_40 : decode cX11_spot 40 = .ok (.iload_n 1, 1) := by decide +kernel
theorem dX11_spot_41 : decode cX11_spot 41 = .ok (.invokevirtual 81, 3) := by decide +kernel
theorem dX11_spot_44 : decode cX11_spot 44 = .ok (.ifCond .ne 5, 3) := by decide +kernel
theorem dX11_spot_47 : decode cX11_spot 47 = .ok (.iconst (-1), 1) := by decide +kernel
theorem dX11_spot_48 : decode cX11_spot 48 = .ok (.ireturn, 1) := by decide +kernel
theorem dX11_spot_49 : decode cX11_spot 49 = .ok (.aload_n 0, 1) := by decide +kernel
theorem dX11_spot_50 : decode cX11_spot 50 = .ok (.getfield 10, 3) := by decide +kernel
theorem dX11_spot_53 : decode cX11_spot 53 = .ok (.getfield 126, 3) := by decide +kernel
theorem dX11_spot_56 : decode cX11_spot 56 = .ok (.getfield 75, 3) := by decide +kernel
theorem dX11_spot_59 : decode cX11_spot 59 = .ok (.iconst 1, 1) := by decide +kernel
theorem dX11_spot_60 : decode cX11_spot 60 = .ok (.isub, 1) := by decide +kernel
theorem dX11_spot_61 : decode cX11_spot 61 = .ok (.ireturn, 1) := by decide +kernel
theorem dX11_spots_0 : decode cX11_spots 0 = .ok (.iload 8, 2) := by decide +kernel
theorem dX11_spots_2 : decode cX11_spots 2 = .ok (.ifCond .lt 61, 3) := by decide +kernel
theorem dX11_spots_5 : decode cX11_spots 5 = .ok (.iload 8, 2) := by decide +kernel
theorem dX11_spots_7 : decode cX11_spots 7 = .ok (.iconst 1, 1) := by decide +kernel
theorem dX11_spots_8 : decode cX11_spots 8 = .ok (.if_icmp .gt 55, 3) := by decide +kernel
theorem dX11_spots_11 : decode cX11_spots 11 = .ok (.iload 6, 2) := by decide +kernel
theorem dX11_spots_13 : decode cX11_spots 13 = .ok (.iconst 1, 1) := by decide +kernel
theorem dX11_spots_14 : decode cX11_spots 14 = .ok (.if_icmp .lt 49, 3) := by decide +kernel
theorem dX11_spots_17 : decode cX11_spots 17 = .ok (.iload 6, 2) := by decide +kernel
theorem dX11_spots_19 : decode cX11_spots 19 = .ok (.bipush 99, 2) := by decide +kernel
theorem dX11_spots_21 : decode cX11_spots 21 = .ok (.if_icmp .gt 42, 3) := by decide +kernel
theorem dX11_spots_24 : decode cX11_spots 24 = .ok (.iload 7, 2) := by decide +kernel
theorem dX11_spots_26 : decode cX11_spots 26 = .ok (.iconst 1, 1) := by decide +kernel
theorem dX11_spots_27 : decode cX11_spots 27 = .ok (.if_icmp .lt 36, 3) := by decide +kernel
theorem dX11_spots_30 : decode cX11_spots 30 = .ok (.iload 7, 2) := by decide +kernel
theorem dX11_spots_32 : decode cX11_spots 32 = .ok (.bipush 8, 2) := by decide +kernel
theorem dX11_spots_34 : decode cX11_spots 34 = .ok (.if_icmp .gt 29, 3) := by decide +kernel
theorem dX11_spots_37 : decode cX11_spots 37 = .ok (.aload_n 0, 1) := by decide +kernel
theorem dX11_spots_38 : decode cX11_spots 38 = .ok (.iload_n 1, 1) := by decide +kernel
theorem dX11_spots_39 : decode cX11_spots 39 = .ok (.iload_n 2, 1) := by decide +kernel
theorem dX11_spots_40 : decode cX11_spots 40 = .ok (.iload_n 3, 1) := by decide +kernel
theorem dX11_spots_41 : decode cX11_spots 41 = .ok (.iload 4, 2) := by decide +kernel
theorem dX11_spots_43 : decode cX11_spots 43 = .ok (.iload 5, 2) := by decide +kernel
theorem dX11_spots_45 : decode cX11_spots 45 = .ok (.invokevirtual 170, 3) := by decide +kernel
theorem dX11_spots_48 : decode cX11_spots 48 = .ok (.ifCond .eq 15, 3) := by decide +kernel
theorem dX11_spots_51 : decode cX11_spots 51 = .ok (.aload_n 0, 1) := by decide +kernel
theorem dX11_spots_52 : decode cX11_spots 52 = .ok (.getfield 44, 3) := by decide +kernel
theorem dX11_spots_55 : decode cX11_spots 55 = .ok (.bipush 119, 2) := by decide +kernel
theorem dX11_spots_57 : decode cX11_spots 57 = .ok (.invokevirtual 174, 3) := by decide +kernel
theorem dX11_spots_60 : decode cX11_spots 60 = .ok (.ifCond .ne 11, 3) := by decide +kernel
theorem dX11_spots_63 : decode cX11_spots 63 = .ok (.new 177, 3) := by decide +kernel
theorem dX11_spots_66 : decode cX11_spots 66 = .ok (.dup, 1) := by decide +kernel
theorem dX11_spots_67 : decode cX11_spots 67 = .ok (.invokespecial 179, 3) := by decide +kernel
theorem dX11_spots_70 : decode cX11_spots 70 = .ok (.athrow, 1) := by decide +kernel
theorem dX11_spots_71 : decode cX11_spots 71 = .ok (.aload_n 0, 1) := by decide +kernel
theorem dX11_spots_72 : decode cX11_spots 72 = .ok (.getfield 53, 3) := by decide +kernel
theorem dX11_spots_75 : decode cX11_spots 75 = .ok (.iload 6, 2) := by decide +kernel
theorem dX11_spots_77 : decode cX11_spots 77 = .ok (.iload 7, 2) := by decide +kernel
theorem dX11_spots_79 : decode cX11_spots 79 = .ok (.invokevirtual 314, 3) := by decide +kernel
theorem dX11_spots_82 : decode cX11_spots 82 = .ok (.iload 8, 2) := by decide +kernel
theorem dX11_spots_84 : decode cX11_spots 84 = .ok (.ifCond .ne 13, 3) := by decide +kernel
theorem dX11_spots_87 : decode cX11_spots 87 = .ok (.aload_n 0, 1) := by decide +kernel
theorem dX11_spots_88 : decode cX11_spots 88 = .ok (.getfield 53, 3) := by decide +kernel
theorem dX11_spots_91 : decode cX11_spots 91 = .ok (.getfield 305, 3) := by decide +kernel
theorem dX11_spots_94 : decode cX11_spots 94 = .ok (.goto 10, 3) := by decide +kernel
theorem dX11_spots_97 : decode cX11_spots 97 = .ok (.aload_n 0, 1) := by decide +kernel
theorem dX11_spots_98 : decode cX11_spots 98 = .ok (.getfield 53, 3) := by decide +kernel
theorem dX11_spots_101 : decode cX11_spots 101 = .ok (.getfield 318, 3) := by decide +kernel
theorem dX11_spots_104 : decode cX11_spots 104 = .ok (.ireturn, 1) := by decide +kernel
theorem dX11_cover_0 : decode cX11_cover 0 = .ok (.iload 6, 2) := by decide +kernel
theorem dX11_cover_2 : decode cX11_cover 2 = .ok (.ifCond .lt 35, 3) := by decide +kernel
theorem dX11_cover_5 : decode cX11_cover 5 = .ok (.iload 6, 2) := by decide +kernel
theorem dX11_cover_7 : decode cX11_cover 7 = .ok (.iconst 1, 1) := by decide +kernel
theorem dX11_cover_8 : decode cX11_cover 8 = .ok (.if_icmp .gt 29, 3) := by decide +kernel
theorem dX11_cover_11 : decode cX11_cover 11 = .ok (.aload_n 0, 1) := by decide +kernel
theorem dX11_cover_12 : decode cX11_cover 12 = .ok (.iload_n 1, 1) := by decide +kernel
theorem dX11_cover_13 : decode cX11_cover 13 = .ok (.iload_n 2, 1) := by decide +kernel
theorem dX11_cover_14 : decode cX11_cover 14 = .ok (.iload_n 3, 1) := by decide +kernel
theorem dX11_cover_15 : decode cX11_cover 15 = .ok (.iload 4, 2) := by decide +kernel
theorem dX11_cover_17 : decode cX11_cover 17 = .ok (.iload 5, 2) := by decide +kernel
theorem dX11_cover_19 : decode cX11_cover 19 = .ok (.invokevirtual 170, 3) := by decide +kernel
theorem dX11_cover_22 : decode cX11_cover 22 = .ok (.ifCond .eq 15, 3) := by decide +kernel
theorem dX11_cover_25 : decode cX11_cover 25 = .ok (.aload_n 0, 1) := by decide +kernel
theorem dX11_cover_26 : decode cX11_cover 26 = .ok (.getfield 44, 3) := by decide +kernel
theorem dX11_cover_29 : decode cX11_cover 29 = .ok (.bipush 119, 2) := by decide +kernel
theorem dX11_cover_31 : decode cX11_cover 31 = .ok (.invokevirtual 174, 3) := by decide +kernel
theorem dX11_cover_34 : decode cX11_cover 34 = .ok (.ifCond .ne 11, 3) := by decide +kernel
theorem dX11_cover_37 : decode cX11_cover 37 = .ok (.new 177, 3) := by decide +kernel
theorem dX11_cover_40 : decode cX11_cover 40 = .ok (.dup, 1) := by decide +kernel
theorem dX11_cover_41 : decode cX11_cover 41 = .ok (.invokespecial 179, 3) := by decide +kernel
theorem dX11_cover_44 : decode cX11_cover 44 = .ok (.athrow, 1) := by decide +kernel
theorem dX11_cover_45 : decode cX11_cover 45 = .ok (.aload_n 0, 1) := by decide +kernel
theorem dX11_cover_46 : decode cX11_cover 46 = .ok (.getfield 53, 3) := by decide +kernel
theorem dX11_cover_49 : decode cX11_cover 49 = .ok (.invokevirtual 321, 3) := by decide +kernel
theorem dX11_cover_52 : decode cX11_cover 52 = .ok (.iload 6, 2) := by decide +kernel
theorem dX11_cover_54 : decode cX11_cover 54 = .ok (.ifCond .ne 13, 3) := by decide +kernel
theorem dX11_cover_57 : decode cX11_cover 57 = .ok (.aload_n 0, 1) := by decide +kernel
theorem dX11_cover_58 : decode cX11_cover 58 = .ok (.getfield 53, 3) := by decide +kernel
theorem dX11_cover_61 : decode cX11_cover 61 = .ok (.getfield 305, 3) := by decide +kernel
theorem dX11_cover_64 : decode cX11_cover 64 = .ok (.goto 10, 3) := by decide +kernel
theorem dX11_cover_67 : decode cX11_cover 67 = .ok (.aload_n 0, 1) := by decide +kernel
theorem dX11_cover_68 : decode cX11_cover 68 = .ok (.getfield 53, 3) := by decide +kernel
theorem dX11_cover_71 : decode cX11_cover 71 = .ok (.getfield 308, 3) := by decide +kernel
theorem dX11_cover_74 : decode cX11_cover 74 = .ok (.ireturn, 1) := by decide +kernel
theorem dX11_keeps_0 : decode cX11_keeps 0 = .ok (.iload 6, 2) := by decide +kernel
theorem dX11_keeps_2 : decode cX11_keeps 2 = .ok (.invokestatic 92, 3) := by decide +kernel
theorem dX11_keeps_5 : decode cX11_keeps 5 = .ok (.ifCond .eq 43, 3) := by decide +kernel
theorem dX11_keeps_8 : decode cX11_keeps 8 = .ok (.aload_n 0, 1) := by decide +kernel
theorem dX11_keeps_9 : decode cX11_keeps 9 = .ok (.getfield 10, 3) := by decide +kernel
theorem dX11_keeps_12 : decode cX11_keeps 12 = .ok (.getfield 95, 3) := by decide +kernel
theorem dX11_keeps_15 : decode cX11_keeps 15 = .ok (.iload 6, 2) := by decide +kernel
theorem dX11_keeps_17 : decode cX11_keeps 17 = .ok (.iaload, 1) := by decide +kernel
theorem dX11_keeps_18 : decode cX11_keeps 18 = .ok (.iconst 1, 1) := by decide +kernel
theorem dX11_keeps_19 : decode cX11_keeps 19 = .ok (.if_icmp .ne 29, 3) := by decide +kernel
theorem dX11_keeps_22 : decode cX11_keeps 22 = .ok (.aload_n 0, 1) := by decide +kernel
theorem dX11_keeps_23 : decode cX11_keeps 23 = .ok (.iload_n 1, 1) := by decide +kernel
theorem dX11_keeps_24 : decode cX11_keeps 24 = .ok (.iload_n 2, 1) := by decide +kernel
theorem dX11_keeps_25 : decode cX11_keeps 25 = .ok (.iload_n 3, 1) := by decide +kernel
theorem dX11_keeps_26 : decode cX11_keeps 26 = .ok (.iload 4, 2) := by decide +kernel
theorem dX11_keeps_28 : decode cX11_keeps 28 = .ok (.iload 5, 2) := by decide +kernel
theorem dX11_keeps_30 : decode cX11_keeps 30 = .ok (.invokevirtual 170, 3) := by decide +kernel
theorem dX11_keeps_33 : decode cX11_keeps 33 = .ok (.ifCond .eq 15, 3) := by decide +kernel
theorem dX11_keeps_36 : decode cX11_keeps 36 = .ok (.aload_n 0, 1) := by decide +kernel
theorem dX11_keeps_37 : decode cX11_keeps 37 = .ok (.getfield 44, 3) := by decide +kernel
theorem dX11_keeps_40 : decode cX11_keeps 40 = .ok (.bipush 119, 2) := by decide +kernel
theorem dX11_keeps_42 : decode cX11_keeps 42 = .ok (.invokevirtual 174, 3) := by decide +kernel
theorem dX11_keeps_45 : decode cX11_keeps 45 = .ok (.ifCond .ne 11, 3) := by decide +kernel
theorem dX11_keeps_48 : decode cX11_keeps 48 = .ok (.new 177, 3) := by decide +kernel
theorem dX11_keeps_51 : decode cX11_keeps 51 = .ok (.dup, 1) := by decide +kernel
theorem dX11_keeps_52 : decode cX11_keeps 52 = .ok (.invokespecial 179, 3) := by decide +kernel
theorem dX11_keeps_55 : decode cX11_keeps 55 = .ok (.athrow, 1) := by decide +kernel
theorem dX11_keeps_56 : decode cX11_keeps 56 = .ok (.aload_n 0, 1) := by decide +kernel
theorem dX11_keeps_57 : decode cX11_keeps 57 = .ok (.getfield 44, 3) := by decide +kernel
theorem dX11_keeps_60 : decode cX11_keeps 60 = .ok (.getfield 180, 3) := by decide +kernel
theorem dX11_keeps_63 : decode cX11_keeps 63 = .ok (.istore 7, 2) := by decide +kernel
theorem dX11_keeps_65 : decode cX11_keeps 65 = .ok (.aload_n 0, 1) := by decide +kernel
theorem dX11_keeps_66 : decode cX11_keeps 66 = .ok (.getfield 10, 3) := by decide +kernel
theorem dX11_keeps_69 : decode cX11_keeps 69 = .ok (.getfield 99, 3) := by decide +kernel
theorem dX11_keeps_72 : decode cX11_keeps 72 = .ok (.iload 6, 2) := by decide +kernel
theorem dX11_keeps_74 : decode cX11_keeps 74 = .ok (.iaload, 1) := by decide +kernel
theorem dX11_keeps_75 : decode cX11_keeps 75 = .ok (.istore 8, 2) := by decide +kernel
theorem dX11_keeps_77 : decode cX11_keeps 77 = .ok (.aload_n 0, 1) := by decide +kernel
theorem dX11_keeps_78 : decode cX11_keeps 78 = .ok (.getfield 10, 3) := by decide +kernel
theorem dX11_keeps_81 : decode cX11_keeps 81 = .ok (.iload 6, 2) := by decide +kernel
theorem dX11_keeps_83 : decode cX11_keeps 83 = .ok (.iconst 0, 1) := by decide +kernel
theorem dX11_keeps_84 : decode cX11_keeps 84 = .ok (.iconst 0, 1) := by decide +kernel
theorem dX11_keeps_85 : decode cX11_keeps 85 = .ok (.invokevirtual 102, 3) := by decide +kernel
theorem dX11_keeps_88 : decode cX11_keeps 88 = .ok (.aload_n 0, 1) := by decide +kernel
theorem dX11_keeps_89 : decode cX11_keeps 89 = .ok (.getfield 35, 3) := by decide +kernel
theorem dX11_keeps_92 : decode cX11_keeps 92 = .ok (.aload_n 0, 1) := by decide +kernel
theorem dX11_keeps_93 : decode cX11_keeps 93 = .ok (.getfield 10, 3) := by decide +kernel
theorem dX11_keeps_96 : decode cX11_keeps 96 = .ok (.invokevirtual 64, 3) := by decide +kernel
theorem dX11_keeps_99 : decode cX11_keeps 99 = .ok (.aload_n 0, 1) := by decide +kernel
theorem dX11_keeps_100 : decode cX11_keeps 100 = .ok (.iload_n 1, 1) := by decide +kernel
theorem dX11_keeps_101 : decode cX11_keeps 101 = .ok (.iload_n 2, 1) := by decide +kernel
theorem dX11_keeps_102 : decode cX11_keeps 102 = .ok (.iload_n 3, 1) := by decide +kernel
theorem dX11_keeps_103 : decode cX11_keeps 103 = .ok (.iload 4, 2) := by decide +kernel
theorem dX11_keeps_105 : decode cX11_keeps 105 = .ok (.iload 5, 2) := by decide +kernel
theorem dX11_keeps_107 : decode cX11_keeps 107 = .ok (.invokevirtual 170, 3) := by decide +kernel
theorem dX11_keeps_110 : decode cX11_keeps 110 = .ok (.ifCond .eq 19, 3) := by decide +kernel
theorem dX11_keeps_113 : decode cX11_keeps 113 = .ok (.aload_n 0, 1) := by decide +kernel
theorem dX11_keeps_114 : decode cX11_keeps 114 = .ok (.getfield 44, 3) := by decide +kernel
theorem dX11_keeps_117 : decode cX11_keeps 117 = .ok (.bipush 119, 2) := by decide +kernel
theorem dX11_keeps_119 : decode cX11_keeps 119 = .ok (.invokevirtual 174, 3) := by decide +kernel
theorem dX11_keeps_122 : decode cX11_keeps 122 = .ok (.ifCond .eq 7, 3) := by decide +kernel
theorem dX11_keeps_125 : decode cX11_keeps 125 = .ok (.iconst 1, 1) := by decide +kernel
theorem dX11_keeps_126 : decode cX11_keeps 126 = .ok (.goto 4, 3) := by decide +kernel
theorem dX11_keeps_129 : decode cX11_keeps 129 = .ok (.iconst 0, 1) := by decide +kernel
theorem dX11_keeps_130 : decode cX11_keeps 130 = .ok (.istore 9, 2) := by decide +kernel
theorem dX11_keeps_132 : decode cX11_keeps 132 = .ok (.aload_n 0, 1) := by decide +kernel
theorem dX11_keeps_133 : decode cX11_keeps 133 = .ok (.getfield 10, 3) := by decide +kernel
theorem dX11_keeps_136 : decode cX11_keeps 136 = .ok (.iload 6, 2) := by decide +kernel
theorem dX11_keeps_138 : decode cX11_keeps 138 = .ok (.iconst 1, 1) := by decide +kernel
theorem dX11_keeps_139 : decode cX11_keeps 139 = .ok (.iload 8, 2) := by decide +kernel
theorem dX11_keeps_141 : decode cX11_keeps 141 = .ok (.invokevirtual 102, 3) := by decide +kernel
theorem dX11_keeps_144 : decode cX11_keeps 144 = .ok (.aload_n 0, 1) := by decide +kernel
theorem dX11_keeps_145 : decode cX11_keeps 145 = .ok (.getfield 35, 3) := by decide +kernel
theorem dX11_keeps_148 : decode cX11_keeps 148 = .ok (.aload_n 0, 1) := by decide +kernel
theorem dX11_keeps_149 : decode cX11_keeps 149 = .ok (.getfield 10, 3) := by decide +kernel
theorem dX11_keeps_152 : decode cX11_keeps 152 = .ok (.invokevirtual 64, 3) := by decide +kernel
theorem dX11_keeps_155 : decode cX11_keeps 155 = .ok (.iload 9, 2) := by decide +kernel
theorem dX11_keeps_157 : decode cX11_keeps 157 = .ok (.ifCond .ne 11, 3) := by decide +kernel
theorem dX11_keeps_160 : decode cX11_keeps 160 = .ok (.new 177, 3) := by decide +kernel
theorem dX11_keeps_163 : decode cX11_keeps 163 = .ok (.dup, 1) := by decide +kernel
theorem dX11_keeps_164 : decode cX11_keeps 164 = .ok (.invokespecial 179, 3) := by decide +kernel
theorem dX11_keeps_167 : decode cX11_keeps 167 = .ok (.athrow, 1) := by decide +kernel
theorem dX11_keeps_168 : decode cX11_keeps 168 = .ok (.aload_n 0, 1) := by decide +kernel
theorem dX11_keeps_169 : decode cX11_keeps 169 = .ok (.getfield 44, 3) := by decide +kernel
theorem dX11_keeps_172 : decode cX11_keeps 172 = .ok (.getfield 180, 3) := by decide +kernel
theorem dX11_keeps_175 : decode cX11_keeps 175 = .ok (.iload 7, 2) := by decide +kernel
theorem dX11_keeps_177 : decode cX11_keeps 177 = .ok (.isub, 1) := by decide +kernel
theorem dX11_keeps_178 : decode cX11_keeps 178 = .ok (.ireturn, 1) := by decide +kernel
theorem dX11_follow_0 : decode cX11_follow 0 = .ok (.aload_n 0, 1) := by decide +kernel
theorem dX11_follow_1 : decode cX11_follow 1 = .ok (.getfield 10, 3) := by decide +kernel
theorem dX11_follow_4 : decode cX11_follow 4 = .ok (.getfield 129, 3) := by decide +kernel
theorem dX11_follow_7 : decode cX11_follow 7 = .ok (.astore_n 2, 1) := by decide +kernel
theorem dX11_follow_8 : decode cX11_follow 8 = .ok (.aload_n 0, 1) := by decide +kernel
theorem dX11_follow_9 : decode cX11_follow 9 = .ok (.getfield 10, 3) := by decide +kernel
theorem dX11_follow_12 : decode cX11_follow 12 = .ok (.iload_n 1, 1) := by decide +kernel
theorem dX11_follow_13 : decode cX11_follow 13 = .ok (.invokevirtual 324, 3) := by decide +kernel
theorem dX11_follow_16 : decode cX11_follow 16 = .ok (.ifCond .ne 5, 3) := by decide +kernel
theorem dX11_follow_19 : decode cX11_follow 19 = .ok (.iconst (-1), 1) := by decide +kernel
theorem dX11_follow_20 : decode cX11_follow 20 = .ok (.ireturn, 1) := by decide +kernel
theorem dX11_follow_21 : decode cX11_follow 21 = .ok (.aload_n 2, 1) := by decide +kernel
theorem dX11_follow_22 : decode cX11_follow 22 = .ok (.getfield 75, 3) := by decide +kernel
theorem dX11_follow_25 : decode cX11_follow 25 = .ok (.ifCond .le 26, 3) := by decide +kernel
theorem dX11_follow_28 : decode cX11_follow 28 = .ok (.aload_n 0, 1) := by decide +kernel
theorem dX11_follow_29 : decode cX11_follow 29 = .ok (.getfield 35, 3) := by decide +kernel
theorem dX11_follow_32 : decode cX11_follow 32 = .ok (.aload_n 2, 1) := by decide +kernel
theorem dX11_follow_33 : decode cX11_follow 33 = .ok (.aload_n 2, 1) := by decide +kernel
theorem dX11_follow_34 : decode cX11_follow 34 = .ok (.getfield 75, 3) := by decide +kernel
theorem dX11_follow_37 : decode cX11_follow 37 = .ok (.iconst 1, 1) := by decide +kernel
theorem dX11_follow_38 : decode cX11_follow 38 = .ok (.isub, 1) := by decide +kernel
theorem dX11_follow_39 : decode cX11_follow 39 = .ok (.invokevirtual 192, 3) := by decide +kernel
theorem dX11_follow_42 : decode cX11_follow 42 = .ok (.iload_n 1, 1) := by decide +kernel
theorem dX11_follow_43 : decode cX11_follow 43 = .ok (.invokevirtual 327, 3) := by decide +kernel
theorem dX11_follow_46 : decode cX11_follow 46 = .ok (.ifCond .ne 5, 3) := by decide +kernel
theorem dX11_follow_49 : decode cX11_follow 49 = .ok (.iconst (-1), 1) := by decide +kernel
theorem dX11_follow_50 : decode cX11_follow 50 = .ok (.ireturn, 1) := by decide +kernel
theorem dX11_follow_51 : decode cX11_follow 51 = .ok (.aload_n 2, 1) := by decide +kernel
theorem dX11_follow_52 : decode cX11_follow 52 = .ok (.iload_n 1, 1) := by decide +kernel
theorem dX11_follow_53 : decode cX11_follow 53 = .ok (.invokevirtual 81, 3) := by decide +kernel
theorem dX11_follow_56 : decode cX11_follow 56 = .ok (.ifCond .eq 10, 3) := by decide +kernel
theorem dX11_follow_59 : decode cX11_follow 59 = .ok (.aload_n 2, 1) := by decide +kernel
theorem dX11_follow_60 : decode cX11_follow 60 = .ok (.getfield 75, 3) := by decide +kernel
theorem dX11_follow_63 : decode cX11_follow 63 = .ok (.goto 4, 3) := by decide +kernel
theorem dX11_follow_66 : decode cX11_follow 66 = .ok (.iconst (-1), 1) := by decide +kernel
theorem dX11_follow_67 : decode cX11_follow 67 = .ok (.ireturn, 1) := by decide +kernel
theorem dX11_parade_0 : decode cX11_parade 0 = .ok (.iload_n 1, 1) := by decide +kernel
theorem dX11_parade_1 : decode cX11_parade 1 = .ok (.iload_n 2, 1) := by decide +kernel
theorem dX11_parade_2 : decode cX11_parade 2 = .ok (.invokestatic 138, 3) := by decide +kernel
theorem dX11_parade_5 : decode cX11_parade 5 = .ok (.ifCond .eq 13, 3) := by decide +kernel
theorem dX11_parade_8 : decode cX11_parade 8 = .ok (.iload_n 3, 1) := by decide +kernel
theorem dX11_parade_9 : decode cX11_parade 9 = .ok (.iconst 1, 1) := by decide +kernel
theorem dX11_parade_10 : decode cX11_parade 10 = .ok (.if_icmp .lt 8, 3) := by decide +kernel
theorem dX11_parade_13 : decode cX11_parade 13 = .ok (.iload_n 3, 1) := by decide +kernel
theorem dX11_parade_14 : decode cX11_parade 14 = .ok (.iconst 3, 1) := by decide +kernel
theorem dX11_parade_15 : decode cX11_parade 15 = .ok (.if_icmp .le 5, 3) := by decide +kernel
theorem dX11_parade_18 : decode cX11_parade 18 = .ok (.iconst (-1), 1) := by decide +kernel
theorem dX11_parade_19 : decode cX11_parade 19 = .ok (.ireturn, 1) := by decide +kernel
theorem dX11_parade_20 : decode cX11_parade 20 = .ok (.aload_n 0, 1) := by decide +kernel
theorem dX11_parade_21 : decode cX11_parade 21 = .ok (.iload_n 1, 1) := by decide +kernel
theorem dX11_parade_22 : decode cX11_parade 22 = .ok (.iload_n 2, 1) := by decide +kernel
theorem dX11_parade_23 : decode cX11_parade 23 = .ok (.iload_n 3, 1) := by decide +kernel
theorem dX11_parade_24 : decode cX11_parade 24 = .ok (.invokevirtual 330, 3) := by decide +kernel
theorem dX11_parade_27 : decode cX11_parade 27 = .ok (.ireturn, 1) := by decide +kernel
theorem dX11_start_0 : decode cX11_start 0 = .ok (.iload_n 1, 1) := by decide +kernel
theorem dX11_start_1 : decode cX11_start 1 = .ok (.iload_n 2, 1) := by decide +kernel
theorem dX11_start_2 : decode cX11_start 2 = .ok (.invokestatic 138, 3) := by decide +kernel
theorem dX11_start_5 : decode cX11_start 5 = .ok (.ifCond .eq 22, 3) := by decide +kernel
theorem dX11_start_8 : decode cX11_start 8 = .ok (.iload_n 3, 1) := by decide +kernel
theorem dX11_start_9 : decode cX11_start 9 = .ok (.invokestatic 266, 3) := by decide +kernel
theorem dX11_start_12 : decode cX11_start 12 = .ok (.ifCond .eq 15, 3) := by decide +kernel
theorem dX11_start_15 : decode cX11_start 15 = .ok (.iload 4, 2) := by decide +kernel
theorem dX11_start_17 : decode cX11_start 17 = .ok (.iconst 1, 1) := by decide +kernel
theorem dX11_start_18 : decode cX11_start 18 = .ok (.if_icmp .lt 9, 3) := by decide +kernel
theorem dX11_start_21 : decode cX11_start 21 = .ok (.iload 4, 2) := by decide +kernel
theorem dX11_start_23 : decode cX11_start 23 = .ok (.iconst 3, 1) := by decide +kernel
theorem dX11_start_24 : decode cX11_start 24 = .ok (.if_icmp .le 5, 3) := by decide +kernel
theorem dX11_start_27 : decode cX11_start 27 = .ok (.iconst (-1), 1) := by decide +kernel
theorem dX11_start_28 : decode cX11_start 28 = .ok (.ireturn, 1) := by decide +kernel
theorem dX11_start_29 : decode cX11_start 29 = .ok (.iconst (-1), 1) := by decide +kernel
theorem dX11_start_30 : decode cX11_start 30 = .ok (.istore 5, 2) := by decide +kernel
theorem dX11_start_32 : decode cX11_start 32 = .ok (.ldc_w 269, 3) := by decide +kernel
theorem dX11_start_35 : decode cX11_start 35 = .ok (.istore 6, 2) := by decide +kernel
theorem dX11_start_37 : decode cX11_start 37 = .ok (.iload_n 2, 1) := by decide +kernel
theorem dX11_start_38 : decode cX11_start 38 = .ok (.istore 7, 2) := by decide +kernel
theorem dX11_start_40 : decode cX11_start 40 = .ok (.iload 7, 2) := by decide +kernel
theorem dX11_start_42 : decode cX11_start 42 = .ok (.iload_n 3, 1) := by decide +kernel
theorem dX11_start_43 : decode cX11_start 43 = .ok (.if_icmp .gt 41, 3) := by decide +kernel
theorem dX11_start_46 : decode cX11_start 46 = .ok (.aload_n 0, 1) := by decide +kernel
theorem dX11_start_47 : decode cX11_start 47 = .ok (.iload_n 1, 1) := by decide +kernel
theorem dX11_start_48 : decode cX11_start 48 = .ok (.iload 7, 2) := by decide +kernel
theorem dX11_start_50 : decode cX11_start 50 = .ok (.iload 4, 2) := by decide +kernel
theorem dX11_start_52 : decode cX11_start 52 = .ok (.invokevirtual 330, 3) := by decide +kernel
theorem dX11_start_55 : decode cX11_start 55 = .ok (.istore 8, 2) := by decide +kernel
theorem dX11_start_57 : decode cX11_start 57 = .ok (.iload 8, 2) := by decide +kernel
theorem dX11_start_59 : decode cX11_start 59 = .ok (.iconst (-1), 1) := by decide +kernel
theorem dX11_start_60 : decode cX11_start 60 = .ok (.if_icmp .eq 18, 3) := by decide +kernel
theorem dX11_start_63 : decode cX11_start 63 = .ok (.iload 8, 2) := by decide +kernel
theorem dX11_start_65 : decode cX11_start 65 = .ok (.iload 6, 2) := by decide +kernel
theorem dX11_start_67 : decode cX11_start 67 = .ok (.if_icmp .ge 11, 3) := by decide +kernel
theorem dX11_start_70 : decode cX11_start 70 = .ok (.iload 8, 2) := by decide +kernel
theorem dX11_start_72 : decode cX11_start 72 = .ok (.istore 6, 2) := by decide +kernel
theorem dX11_start_74 : decode cX11_start 74 = .ok (.iload 7, 2) := by decide +kernel
theorem dX11_start_76 : decode cX11_start 76 = .ok (.istore 5, 2) := by decide +kernel
theorem dX11_start_78 : decode cX11_start 78 = .ok (.iinc 7 1, 3) := by decide +kernel
theorem dX11_start_81 : decode cX11_start 81 = .ok (.goto (-41), 3) := by decide +kernel
theorem dX11_start_84 : decode cX11_start 84 = .ok (.iload 5, 2) := by decide +kernel
theorem dX11_start_86 : decode cX11_start 86 = .ok (.ireturn, 1) := by decide +kernel
theorem dX11_paradeSun_0 : decode cX11_paradeSun 0 = .ok (.aload_n 0, 1) := by decide +kernel
theorem dX11_paradeSun_1 : decode cX11_paradeSun 1 = .ok (.getfield 10, 3) := by decide +kernel
theorem dX11_paradeSun_4 : decode cX11_paradeSun 4 = .ok (.getfield 129, 3) := by decide +kernel
theorem dX11_paradeSun_7 : decode cX11_paradeSun 7 = .ok (.astore 4, 2) := by decide +kernel
theorem dX11_paradeSun_9 : decode cX11_paradeSun 9 = .ok (.aload 4, 2) := by decide +kernel
theorem dX11_paradeSun_11 : decode cX11_paradeSun 11 = .ok (.getfield 75, 3) := by decide +kernel
theorem dX11_paradeSun_14 : decode cX11_paradeSun 14 = .ok (.ifCond .eq 19, 3) := by decide +kernel
theorem dX11_paradeSun_17 : decode cX11_paradeSun 17 = .ok (.iload_n 2, 1) := by decide +kernel
theorem dX11_paradeSun_18 : decode cX11_paradeSun 18 = .ok (.aload 4, 2) := by decide +kernel
theorem dX11_paradeSun_20 : decode cX11_paradeSun 20 = .ok (.getfield 75, 3) := by decide +kernel
theorem dX11_paradeSun_23 : decode cX11_paradeSun 23 = .ok (.iconst 1, 1) := by decide +kernel
theorem dX11_paradeSun_24 : decode cX11_paradeSun 24 = .ok (.isub, 1) := by decide +kernel
theorem dX11_paradeSun_25 : decode cX11_paradeSun 25 = .ok (.iload_n 3, 1) := by decide +kernel
theorem dX11_paradeSun_26 : decode cX11_paradeSun 26 = .ok (.imul, 1) := by decide +kernel
theorem dX11_paradeSun_27 : decode cX11_paradeSun 27 = .ok (.iadd, 1) := by decide +kernel
theorem dX11_paradeSun_28 : decode cX11_paradeSun 28 = .ok (.bipush 119, 2) := by decide +kernel
theorem dX11_paradeSun_30 : decode cX11_paradeSun 30 = .ok (.if_icmp .le 5, 3) := by decide +kernel
theorem dX11_paradeSun_33 : decode cX11_paradeSun 33 = .ok (.iconst (-1), 1) := by decide +kernel
theorem dX11_paradeSun_34 : decode cX11_paradeSun 34 = .ok (.ireturn, 1) := by decide +kernel
theorem dX11_paradeSun_35 : decode cX11_paradeSun 35 = .ok (.iconst 0, 1) := by decide +kernel
theorem dX11_paradeSun_36 : decode cX11_paradeSun 36 = .ok (.istore 5, 2) := by decide +kernel
theorem dX11_paradeSun_38 : decode cX11_paradeSun 38 = .ok (.iconst 0, 1) := by decide +kernel
theorem dX11_paradeSun_39 : decode cX11_paradeSun 39 = .ok (.istore 6, 2) := by decide +kernel
theorem dX11_paradeSun_41 : decode cX11_paradeSun 41 = .ok (.iload 6, 2) := by decide +kernel
theorem dX11_paradeSun_43 : decode cX11_paradeSun 43 = .ok (.aload 4, 2) := by decide +kernel
theorem dX11_paradeSun_45 : decode cX11_paradeSun 45 = .ok (.getfield 75, 3) := by decide +kernel
theorem dX11_paradeSun_48 : decode cX11_paradeSun 48 = .ok (.iconst 1, 1) := by decide +kernel
theorem dX11_paradeSun_49 : decode cX11_paradeSun 49 = .ok (.isub, 1) := by decide +kernel
theorem dX11_paradeSun_50 : decode cX11_paradeSun 50 = .ok (.iload_n 3, 1) := by decide +kernel
theorem dX11_paradeSun_51 : decode cX11_paradeSun 51 = .ok (.imul, 1) := by decide +kernel
theorem dX11_paradeSun_52 : decode cX11_paradeSun 52 = .ok (.if_icmp .ge 46, 3) := by decide +kernel
theorem dX11_paradeSun_55 : decode cX11_paradeSun 55 = .ok (.aload_n 0, 1) := by decide +kernel
theorem dX11_paradeSun_56 : decode cX11_paradeSun 56 = .ok (.getfield 35, 3) := by decide +kernel
theorem dX11_paradeSun_59 : decode cX11_paradeSun 59 = .ok (.getfield 142, 3) := by decide +kernel
theorem dX11_paradeSun_62 : decode cX11_paradeSun 62 = .ok (.iload_n 1, 1) := by decide +kernel
theorem dX11_paradeSun_63 : decode cX11_paradeSun 63 = .ok (.iload_n 2, 1) := by decide +kernel
theorem dX11_paradeSun_64 : decode cX11_paradeSun 64 = .ok (.iload 6, 2) := by decide +kernel
theorem dX11_paradeSun_66 : decode cX11_paradeSun 66 = .ok (.iadd, 1) := by decide +kernel
theorem dX11_paradeSun_67 : decode cX11_paradeSun 67 = .ok (.invokestatic 146, 3) := by decide +kernel
theorem dX11_paradeSun_70 : decode cX11_paradeSun 70 = .ok (.aload 4, 2) := by decide +kernel
theorem dX11_paradeSun_72 : decode cX11_paradeSun 72 = .ok (.iload 6, 2) := by decide +kernel
theorem dX11_paradeSun_74 : decode cX11_paradeSun 74 = .ok (.iconst 1, 1) := by decide +kernel
theorem dX11_paradeSun_75 : decode cX11_paradeSun 75 = .ok (.iload_n 3, 1) := by decide +kernel
theorem dX11_paradeSun_76 : decode cX11_paradeSun 76 = .ok (.invokestatic 247, 3) := by decide +kernel
theorem dX11_paradeSun_79 : decode cX11_paradeSun 79 = .ok (.idiv, 1) := by decide +kernel
theorem dX11_paradeSun_80 : decode cX11_paradeSun 80 = .ok (.invokevirtual 192, 3) := by decide +kernel
theorem dX11_paradeSun_83 : decode cX11_paradeSun 83 = .ok (.invokevirtual 150, 3) := by decide +kernel
theorem dX11_paradeSun_86 : decode cX11_paradeSun 86 = .ok (.ifCond .ne 6, 3) := by decide +kernel
theorem dX11_paradeSun_89 : decode cX11_paradeSun 89 = .ok (.iinc 5 1, 3) := by decide +kernel
theorem dX11_paradeSun_92 : decode cX11_paradeSun 92 = .ok (.iinc 6 1, 3) := by decide +kernel
theorem dX11_paradeSun_95 : decode cX11_paradeSun 95 = .ok (.goto (-54), 3) := by decide +kernel
theorem dX11_paradeSun_98 : decode cX11_paradeSun 98 = .ok (.iload 5, 2) := by decide +kernel
theorem dX11_paradeSun_100 : decode cX11_paradeSun 100 = .ok (.ireturn, 1) := by decide +kernel
theorem dX11_tell_0 : decode cX11_tell 0 = .ok (.iload_n 1, 1) := by decide +kernel
theorem dX11_tell_1 : decode cX11_tell 1 = .ok (.ifCond .lt 22, 3) := by decide +kernel
theorem dX11_tell_4 : decode cX11_tell 4 = .ok (.iload_n 1, 1) := by decide +kernel
theorem dX11_tell_5 : decode cX11_tell 5 = .ok (.iconst 4, 1) := by decide +kernel
theorem dX11_tell_6 : decode cX11_tell 6 = .ok (.if_icmp .gt 17, 3) := by decide +kernel
theorem dX11_tell_9 : decode cX11_tell 9 = .ok (.aload_n 0, 1) := by decide +kernel
theorem dX11_tell_10 : decode cX11_tell 10 = .ok (.getfield 10, 3) := by decide +kernel
theorem dX11_tell_13 : decode cX11_tell 13 = .ok (.getfield 132, 3) := by decide +kernel
theorem dX11_tell_16 : decode cX11_tell 16 = .ok (.iload_n 1, 1) := by decide +kernel
theorem dX11_tell_17 : decode cX11_tell 17 = .ok (.invokevirtual 81, 3) := by decide +kernel
theorem dX11_tell_20 : decode cX11_tell 20 = .ok (.ifCond .ne 5, 3) := by decide +kernel
theorem dX11_tell_23 : decode cX11_tell 23 = .ok (.iconst (-1), 1) := by decide +kernel
theorem dX11_tell_24 : decode cX11_tell 24 = .ok (.ireturn, 1) := by decide +kernel
theorem dX11_tell_25 : decode cX11_tell 25 = .ok (.aload_n 0, 1) := by decide +kernel
theorem dX11_tell_26 : decode cX11_tell 26 = .ok (.getfield 10, 3) := by decide +kernel
theorem dX11_tell_29 : decode cX11_tell 29 = .ok (.getfield 132, 3) := by decide +kernel
theorem dX11_tell_32 : decode cX11_tell 32 = .ok (.getfield 75, 3) := by decide +kernel
theorem dX11_tell_35 : decode cX11_tell 35 = .ok (.ireturn, 1) := by decide +kernel
theorem dX11_clear_0 : decode cX11_clear 0 = .ok (.aload_n 0, 1) := by decide +kernel
theorem dX11_clear_1 : decode cX11_clear 1 = .ok (.getfield 10, 3) := by decide +kernel
theorem dX11_clear_4 : decode cX11_clear 4 = .ok (.getfield 129, 3) := by decide +kernel
theorem dX11_clear_7 : decode cX11_clear 7 = .ok (.invokevirtual 89, 3) := by decide +kernel
theorem dX11_clear_10 : decode cX11_clear 10 = .ok (.aload_n 0, 1) := by decide +kernel
theorem dX11_clear_11 : decode cX11_clear 11 = .ok (.getfield 10, 3) := by decide +kernel
theorem dX11_clear_14 : decode cX11_clear 14 = .ok (.getfield 132, 3) := by decide +kernel
theorem dX11_clear_17 : decode cX11_clear 17 = .ok (.invokevirtual 89, 3) := by decide +kernel
theorem dX11_clear_20 : decode cX11_clear 20 = .ok (.iconst 1, 1) := by decide +kernel
theorem dX11_clear_21 : decode cX11_clear 21 = .ok (.ireturn, 1) := by decide +kernel
theorem dX11_judged_0 : decode cX11_judged 0 = .ok (.iload 5, 2) := by decide +kernel
theorem dX11_judged_2 : decode cX11_judged 2 = .ok (.ifCond .lt 24, 3) := by decide +kernel
theorem dX11_judged_5 : decode cX11_judged 5 = .ok (.iload 5, 2) := by decide +kernel
theorem dX11_judged_7 : decode cX11_judged 7 = .ok (.bipush 6, 2) := by decide +kernel
theorem dX11_judged_9 : decode cX11_judged 9 = .ok (.if_icmp .gt 17, 3) := by decide +kernel
theorem dX11_judged_12 : decode cX11_judged 12 = .ok (.aload_n 0, 1) := by decide +kernel
theorem dX11_judged_13 : decode cX11_judged 13 = .ok (.iload_n 1, 1) := by decide +kernel
theorem dX11_judged_14 : decode cX11_judged 14 = .ok (.iload_n 2, 1) := by decide +kernel
theorem dX11_judged_15 : decode cX11_judged 15 = .ok (.iload_n 3, 1) := by decide +kernel
theorem dX11_judged_16 : decode cX11_judged 16 = .ok (.iload 4, 2) := by decide +kernel
theorem dX11_judged_18 : decode cX11_judged 18 = .ok (.iload 4, 2) := by decide +kernel
theorem dX11_judged_20 : decode cX11_judged 20 = .ok (.invokevirtual 170, 3) := by decide +kernel
theorem dX11_judged_23 : decode cX11_judged 23 = .ok (.ifCond .ne 11, 3) := by decide +kernel
theorem dX11_judged_26 : decode cX11_judged 26 = .ok (.new 177, 3) := by decide +kernel
theorem dX11_judged_29 : decode cX11_judged 29 = .ok (.dup, 1) := by decide +kernel
theorem dX11_judged_30 : decode cX11_judged 30 = .ok (.invokespecial 179, 3) := by decide +kernel
theorem dX11_judged_33 : decode cX11_judged 33 = .ok (.athrow, 1) := by decide +kernel
theorem dX11_judged_34 : decode cX11_judged 34 = .ok (.aload_n 0, 1) := by decide +kernel
theorem dX11_judged_35 : decode cX11_judged 35 = .ok (.getfield 44, 3) := by decide +kernel
theorem dX11_judged_38 : decode cX11_judged 38 = .ok (.aload_n 0, 1) := by decide +kernel
theorem dX11_judged_39 : decode cX11_judged 39 = .ok (.getfield 10, 3) := by decide +kernel
theorem dX11_judged_42 : decode cX11_judged 42 = .ok (.getfield 132, 3) := by decide +kernel
theorem dX11_judged_45 : decode cX11_judged 45 = .ok (.invokevirtual 333, 3) := by decide +kernel
theorem dX11_judged_48 : decode cX11_judged 48 = .ok (.istore 6, 2) := by decide +kernel
theorem dX11_judged_50 : decode cX11_judged 50 = .ok (.aload_n 0, 1) := by decide +kernel
theorem dX11_judged_51 : decode cX11_judged 51 = .ok (.getfield 44, 3) := by decide +kernel
theorem dX11_judged_54 : decode cX11_judged 54 = .ok (.invokevirtual 337, 3) := by decide +kernel
theorem dX11_judged_57 : decode cX11_judged 57 = .ok (.istore 7, 2) := by decide +kernel
theorem dX11_judged_59 : decode cX11_judged 59 = .ok (.iload 5, 2) := by decide +kernel
theorem dX11_judged_61 : decode cX11_judged 61 = .ok (.tableswitch 134 0 5 #[39, 59, 62, 65, 73, 126], 39) := by decide +kernel
theorem dX11_judged_100 : decode cX11_judged 100 = .ok (.iload 6, 2) := by decide +kernel
theorem dX11_judged_102 : decode cX11_judged 102 = .ok (.ifCond .ne 7, 3) := by decide +kernel
theorem dX11_judged_105 : decode cX11_judged 105 = .ok (.iconst (-1), 1) := by decide +kernel
theorem dX11_judged_106 : decode cX11_judged 106 = .ok (.goto 13, 3) := by decide +kernel
theorem dX11_judged_109 : decode cX11_judged 109 = .ok (.aload_n 0, 1) := by decide +kernel
theorem dX11_judged_110 : decode cX11_judged 110 = .ok (.getfield 44, 3) := by decide +kernel
theorem dX11_judged_113 : decode cX11_judged 113 = .ok (.getfield 189, 3) := by decide +kernel
theorem dX11_judged_116 : decode cX11_judged 116 = .ok (.getfield 75, 3) := by decide +kernel
theorem dX11_judged_119 : decode cX11_judged 119 = .ok (.ireturn, 1) := by decide +kernel
theorem dX11_judged_120 : decode cX11_judged 120 = .ok (.iload 6, 2) := by decide +kernel
theorem dX11_judged_122 : decode cX11_judged 122 = .ok (.ireturn, 1) := by decide +kernel
theorem dX11_judged_123 : decode cX11_judged 123 = .ok (.iload 7, 2) := by decide +kernel
theorem dX11_judged_125 : decode cX11_judged 125 = .ok (.ireturn, 1) := by decide +kernel
theorem dX11_judged_126 : decode cX11_judged 126 = .ok (.aload_n 0, 1) := by decide +kernel
theorem dX11_judged_127 : decode cX11_judged 127 = .ok (.getfield 44, 3) := by decide +kernel
theorem dX11_judged_130 : decode cX11_judged 130 = .ok (.invokevirtual 340, 3) := by decide +kernel
theorem dX11_judged_133 : decode cX11_judged 133 = .ok (.ireturn, 1) := by decide +kernel
theorem dX11_judged_134 : decode cX11_judged 134 = .ok (.iconst 0, 1) := by decide +kernel
theorem dX11_judged_135 : decode cX11_judged 135 = .ok (.aload_n 0, 1) := by decide +kernel
theorem dX11_judged_136 : decode cX11_judged 136 = .ok (.getfield 44, 3) := by decide +kernel
theorem dX11_judged_139 : decode cX11_judged 139 = .ok (.getfield 230, 3) := by decide +kernel
theorem dX11_judged_142 : decode cX11_judged 142 = .ok (.getfield 244, 3) := by decide +kernel
theorem dX11_judged_145 : decode cX11_judged 145 = .ok (.aload_n 0, 1) := by decide +kernel
theorem dX11_judged_146 : decode cX11_judged 146 = .ok (.getfield 44, 3) := by decide +kernel
theorem dX11_judged_149 : decode cX11_judged 149 = .ok (.getfield 230, 3) := by decide +kernel
theorem dX11_judged_152 : decode cX11_judged 152 = .ok (.getfield 234, 3) := by decide +kernel
theorem dX11_judged_155 : decode cX11_judged 155 = .ok (.iload 7, 2) := by decide +kernel
theorem dX11_judged_157 : decode cX11_judged 157 = .ok (.imul, 1) := by decide +kernel
theorem dX11_judged_158 : decode cX11_judged 158 = .ok (.isub, 1) := by decide +kernel
theorem dX11_judged_159 : decode cX11_judged 159 = .ok (.aload_n 0, 1) := by decide +kernel
theorem dX11_judged_160 : decode cX11_judged 160 = .ok (.getfield 44, 3) := by decide +kernel
theorem dX11_judged_163 : decode cX11_judged 163 = .ok (.getfield 230, 3) := by decide +kernel
theorem dX11_judged_166 : decode cX11_judged 166 = .ok (.getfield 240, 3) := by decide +kernel
theorem dX11_judged_169 : decode cX11_judged 169 = .ok (.aload_n 0, 1) := by decide +kernel
theorem dX11_judged_170 : decode cX11_judged 170 = .ok (.getfield 44, 3) := by decide +kernel
theorem dX11_judged_173 : decode cX11_judged 173 = .ok (.getfield 183, 3) := by decide +kernel
theorem dX11_judged_176 : decode cX11_judged 176 = .ok (.iload_n 3, 1) := by decide +kernel
theorem dX11_judged_177 : decode cX11_judged 177 = .ok (.isub, 1) := by decide +kernel
theorem dX11_judged_178 : decode cX11_judged 178 = .ok (.iload 7, 2) := by decide +kernel
theorem dX11_judged_180 : decode cX11_judged 180 = .ok (.isub, 1) := by decide +kernel
theorem dX11_judged_181 : decode cX11_judged 181 = .ok (.imul, 1) := by decide +kernel
theorem dX11_judged_182 : decode cX11_judged 182 = .ok (.isub, 1) := by decide +kernel
theorem dX11_judged_183 : decode cX11_judged 183 = .ok (.invokestatic 247, 3) := by decide +kernel
theorem dX11_judged_186 : decode cX11_judged 186 = .ok (.ireturn, 1) := by decide +kernel
theorem dX11_judged_187 : decode cX11_judged 187 = .ok (.aload_n 0, 1) := by decide +kernel
theorem dX11_judged_188 : decode cX11_judged 188 = .ok (.getfield 44, 3) := by decide +kernel
theorem dX11_judged_191 : decode cX11_judged 191 = .ok (.getfield 183, 3) := by decide +kernel
theorem dX11_judged_194 : decode cX11_judged 194 = .ok (.ireturn, 1) := by decide +kernel
theorem dX11_judged_195 : decode cX11_judged 195 = .ok (.aload_n 0, 1) := by decide +kernel
theorem dX11_judged_196 : decode cX11_judged 196 = .ok (.getfield 44, 3) := by decide +kernel
theorem dX11_judged_199 : decode cX11_judged 199 = .ok (.getfield 343, 3) := by decide +kernel
theorem dX11_judged_202 : decode cX11_judged 202 = .ok (.ireturn, 1) := by decide +kernel
theorem dX11_ready_0 : decode cX11_ready 0 = .ok (.iload_n 1, 1) := by decide +kernel
theorem dX11_ready_1 : decode cX11_ready 1 = .ok (.ifCond .lt 41, 3) := by decide +kernel
theorem dX11_ready_4 : decode cX11_ready 4 = .ok (.iload_n 1, 1) := by decide +kernel
theorem dX11_ready_5 : decode cX11_ready 5 = .ok (.bipush 6, 2) := by decide +kernel
theorem dX11_ready_7 : decode cX11_ready 7 = .ok (.if_icmp .ge 35, 3) := by decide +kernel
theorem dX11_ready_10 : decode cX11_ready 10 = .ok (.iload_n 2, 1) := by decide +kernel
theorem dX11_ready_11 : decode cX11_ready 11 = .ok (.iload_n 3, 1) := by decide +kernel
theorem dX11_ready_12 : decode cX11_ready 12 = .ok (.invokestatic 138, 3) := by decide +kernel
theorem dX11_ready_15 : decode cX11_ready 15 = .ok (.ifCond .eq 27, 3) := by decide +kernel
theorem dX11_ready_18 : decode cX11_ready 18 = .ok (.aload_n 0, 1) := by decide +kernel
theorem dX11_ready_19 : decode cX11_ready 19 = .ok (.getfield 10, 3) := by decide +kernel
theorem dX11_ready_22 : decode cX11_ready 22 = .ok (.iload 4, 2) := by decide +kernel
theorem dX11_ready_24 : decode cX11_ready 24 = .ok (.invokevirtual 324, 3) := by decide +kernel
theorem dX11_ready_27 : decode cX11_ready 27 = .ok (.ifCond .eq 15, 3) := by decide +kernel
theorem dX11_ready_30 : decode cX11_ready 30 = .ok (.aload_n 0, 1) := by decide +kernel
theorem dX11_ready_31 : decode cX11_ready 31 = .ok (.getfield 10, 3) := by decide +kernel
theorem dX11_ready_34 : decode cX11_ready 34 = .ok (.iload 5, 2) := by decide +kernel
theorem dX11_ready_36 : decode cX11_ready 36 = .ok (.invokevirtual 324, 3) := by decide +kernel
theorem dX11_ready_39 : decode cX11_ready 39 = .ok (.ifCond .ne 5, 3) := by decide +kernel
theorem dX11_ready_42 : decode cX11_ready 42 = .ok (.iconst 0, 1) := by decide +kernel
theorem dX11_ready_43 : decode cX11_ready 43 = .ok (.ireturn, 1) := by decide +kernel
theorem dX11_ready_44 : decode cX11_ready 44 = .ok (.aload_n 0, 1) := by decide +kernel
theorem dX11_ready_45 : decode cX11_ready 45 = .ok (.getfield 10, 3) := by decide +kernel
theorem dX11_ready_48 : decode cX11_ready 48 = .ok (.getfield 346, 3) := by decide +kernel
theorem dX11_ready_51 : decode cX11_ready 51 = .ok (.iload_n 1, 1) := by decide +kernel
theorem dX11_ready_52 : decode cX11_ready 52 = .ok (.aaload, 1) := by decide +kernel
theorem dX11_ready_53 : decode cX11_ready 53 = .ok (.astore 6, 2) := by decide +kernel
theorem dX11_ready_55 : decode cX11_ready 55 = .ok (.aload 6, 2) := by decide +kernel
theorem dX11_ready_57 : decode cX11_ready 57 = .ok (.ifnonnull 5, 3) := by decide +kernel
theorem dX11_ready_60 : decode cX11_ready 60 = .ok (.iconst 0, 1) := by decide +kernel
theorem dX11_ready_61 : decode cX11_ready 61 = .ok (.ireturn, 1) := by decide +kernel
theorem dX11_ready_62 : decode cX11_ready 62 = .ok (.aload_n 0, 1) := by decide +kernel
theorem dX11_ready_63 : decode cX11_ready 63 = .ok (.getfield 44, 3) := by decide +kernel
theorem dX11_ready_66 : decode cX11_ready 66 = .ok (.aload 6, 2) := by decide +kernel
theorem dX11_ready_68 : decode cX11_ready 68 = .ok (.iload_n 2, 1) := by decide +kernel
theorem dX11_ready_69 : decode cX11_ready 69 = .ok (.invokevirtual 350, 3) := by decide +kernel
theorem dX11_ready_72 : decode cX11_ready 72 = .ok (.aload_n 0, 1) := by decide +kernel
theorem dX11_ready_73 : decode cX11_ready 73 = .ok (.getfield 44, 3) := by decide +kernel
theorem dX11_ready_76 : decode cX11_ready 76 = .ok (.iload_n 3, 1) := by decide +kernel
theorem dX11_ready_77 : decode cX11_ready 77 = .ok (.iload 4, 2) := by decide +kernel
theorem dX11_ready_79 : decode cX11_ready 79 = .ok (.iload 5, 2) := by decide +kernel
theorem dX11_ready_81 : decode cX11_ready 81 = .ok (.invokevirtual 273, 3) := by decide +kernel
theorem dX11_ready_84 : decode cX11_ready 84 = .ok (.iconst 1, 1) := by decide +kernel
theorem dX11_ready_85 : decode cX11_ready 85 = .ok (.ireturn, 1) := by decide +kernel
theorem dX11_isSquare_0 : decode cX11_isSquare 0 = .ok (.iload_n 0, 1) := by decide +kernel
theorem dX11_isSquare_1 : decode cX11_isSquare 1 = .ok (.ifCond .lt 13, 3) := by decide +kernel
theorem dX11_isSquare_4 : decode cX11_isSquare 4 = .ok (.iload_n 0, 1) := by decide +kernel
theorem dX11_isSquare_5 : decode cX11_isSquare 5 = .ok (.bipush 100, 2) := by decide +kernel
theorem dX11_isSquare_7 : decode cX11_isSquare 7 = .ok (.if_icmp .ge 7, 3) := by decide +kernel
theorem dX11_isSquare_10 : decode cX11_isSquare 10 = .ok (.iconst 1, 1) := by decide +kernel
theorem dX11_isSquare_11 : decode cX11_isSquare 11 = .ok (.goto 4, 3) := by decide +kernel
theorem dX11_isSquare_14 : decode cX11_isSquare 14 = .ok (.iconst 0, 1) := by decide +kernel
theorem dX11_isSquare_15 : decode cX11_isSquare 15 = .ok (.ireturn, 1) := by decide +kernel
theorem dX11_isMinute_0 : decode cX11_isMinute 0 = .ok (.iload_n 0, 1) := by decide +kernel
theorem dX11_isMinute_1 : decode cX11_isMinute 1 = .ok (.ifCond .lt 13, 3) := by decide +kernel
theorem dX11_isMinute_4 : decode cX11_isMinute 4 = .ok (.iload_n 0, 1) := by decide +kernel
theorem dX11_isMinute_5 : decode cX11_isMinute 5 = .ok (.bipush 120, 2) := by decide +kernel
theorem dX11_isMinute_7 : decode cX11_isMinute 7 = .ok (.if_icmp .ge 7, 3) := by decide +kernel
theorem dX11_isMinute_10 : decode cX11_isMinute 10 = .ok (.iconst 1, 1) := by decide +kernel
theorem dX11_isMinute_11 : decode cX11_isMinute 11 = .ok (.goto 4, 3) := by decide +kernel
theorem dX11_isMinute_14 : decode cX11_isMinute 14 = .ok (.iconst 0, 1) := by decide +kernel
theorem dX11_isMinute_15 : decode cX11_isMinute 15 = .ok (.ireturn, 1) := by decide +kernel
theorem dX11_isDay_0 : decode cX11_isDay 0 = .ok (.iload_n 0, 1) := by decide +kernel
theorem dX11_isDay_1 : decode cX11_isDay 1 = .ok (.ifCond .lt 12, 3) := by decide +kernel
theorem dX11_isDay_4 : decode cX11_isDay 4 = .ok (.iload_n 0, 1) := by decide +kernel
theorem dX11_isDay_5 : decode cX11_isDay 5 = .ok (.iconst 4, 1) := by decide +kernel
theorem dX11_isDay_6 : decode cX11_isDay 6 = .ok (.if_icmp .ge 7, 3) := by decide +kernel
theorem dX11_isDay_9 : decode cX11_isDay 9 = .ok (.iconst 1, 1) := by decide +kernel
theorem dX11_isDay_10 : decode cX11_isDay 10 = .ok (.goto 4, 3) := by decide +kernel
theorem dX11_isDay_13 : decode cX11_isDay 13 = .ok (.iconst 0, 1) := by decide +kernel
theorem dX11_isDay_14 : decode cX11_isDay 14 = .ok (.ireturn, 1) := by decide +kernel
theorem dX11_isTime_0 : decode cX11_isTime 0 = .ok (.iload_n 0, 1) := by decide +kernel
theorem dX11_isTime_1 : decode cX11_isTime 1 = .ok (.invokestatic 161, 3) := by decide +kernel
theorem dX11_isTime_4 : decode cX11_isTime 4 = .ok (.ifCond .eq 14, 3) := by decide +kernel
theorem dX11_isTime_7 : decode cX11_isTime 7 = .ok (.iload_n 1, 1) := by decide +kernel
theorem dX11_isTime_8 : decode cX11_isTime 8 = .ok (.invokestatic 266, 3) := by decide +kernel
theorem dX11_isTime_11 : decode cX11_isTime 11 = .ok (.ifCond .eq 7, 3) := by decide +kernel
theorem dX11_isTime_14 : decode cX11_isTime 14 = .ok (.iconst 1, 1) := by decide +kernel
theorem dX11_isTime_15 : decode cX11_isTime 15 = .ok (.goto 4, 3) := by decide +kernel
theorem dX11_isTime_18 : decode cX11_isTime 18 = .ok (.iconst 0, 1) := by decide +kernel
theorem dX11_isTime_19 : decode cX11_isTime 19 = .ok (.ireturn, 1) := by decide +kernel
theorem dX11_row_0 : decode cX11_row 0 = .ok (.iload_n 0, 1) := by decide +kernel
theorem dX11_row_1 : decode cX11_row 1 = .ok (.bipush 120, 2) := by decide +kernel
theorem dX11_row_3 : decode cX11_row 3 = .ok (.imul, 1) := by decide +kernel
theorem dX11_row_4 : decode cX11_row 4 = .ok (.iload_n 1, 1) := by decide +kernel
theorem dX11_row_5 : decode cX11_row 5 = .ok (.iadd, 1) := by decide +kernel
theorem dX11_row_6 : decode cX11_row 6 = .ok (.ireturn, 1) := by decide +kernel
theorem dX11_away_0 : decode cX11_away 0 = .ok (.iload_n 0, 1) := by decide +kernel
theorem dX11_away_1 : decode cX11_away 1 = .ok (.invokestatic 92, 3) := by decide +kernel
theorem dX11_away_4 : decode cX11_away 4 = .ok (.ifCond .eq 13, 3) := by decide +kernel
theorem dX11_away_7 : decode cX11_away 7 = .ok (.iload_n 1, 1) := by decide +kernel
theorem dX11_away_8 : decode cX11_away 8 = .ok (.ifCond .lt 9, 3) := by decide +kernel
theorem dX11_away_11 : decode cX11_away 11 = .ok (.iload_n 1, 1) := by decide +kernel
theorem dX11_away_12 : decode cX11_away 12 = .ok (.bipush 8, 2) := by decide +kernel
theorem dX11_away_14 : decode cX11_away 14 = .ok (.if_icmp .lt 5, 3) := by decide +kernel
theorem dX11_away_17 : decode cX11_away 17 = .ok (.iconst (-1), 1) := by decide +kernel
theorem dX11_away_18 : decode cX11_away 18 = .ok (.ireturn, 1) := by decide +kernel
theorem dX11_away_19 : decode cX11_away 19 = .ok (.iload_n 0, 1) := by decide +kernel
theorem dX11_away_20 : decode cX11_away 20 = .ok (.bipush 10, 2) := by decide +kernel
theorem dX11_away_22 : decode cX11_away 22 = .ok (.irem, 1) := by decide +kernel
theorem dX11_away_23 : decode cX11_away 23 = .ok (.getstatic 354, 3) := by decide +kernel
theorem dX11_away_26 : decode cX11_away 26 = .ok (.iload_n 1, 1) := by decide +kernel
theorem dX11_away_27 : decode cX11_away 27 = .ok (.iaload, 1) := by decide +kernel
theorem dX11_away_28 : decode cX11_away 28 = .ok (.iload_n 2, 1) := by decide +kernel
theorem dX11_away_29 : decode cX11_away 29 = .ok (.imul, 1) := by decide +kernel
theorem dX11_away_30 : decode cX11_away 30 = .ok (.iadd, 1) := by decide +kernel
theorem dX11_away_31 : decode cX11_away 31 = .ok (.istore_n 3, 1) := by decide +kernel
theorem dX11_away_32 : decode cX11_away 32 = .ok (.iload_n 0, 1) := by decide +kernel
theorem dX11_away_33 : decode cX11_away 33 = .ok (.bipush 10, 2) := by decide +kernel
theorem dX11_away_35 : decode cX11_away 35 = .ok (.idiv, 1) := by decide +kernel
theorem dX11_away_36 : decode cX11_away 36 = .ok (.getstatic 357, 3) := by decide +kernel
theorem dX11_away_39 : decode cX11_away 39 = .ok (.iload_n 1, 1) := by decide +kernel
theorem dX11_away_40 : decode cX11_away 40 = .ok (.iaload, 1) := by decide +kernel
theorem dX11_away_41 : decode cX11_away 41 = .ok (.iload_n 2, 1) := by decide +kernel
theorem dX11_away_42 : decode cX11_away 42 = .ok (.imul, 1) := by decide +kernel
theorem dX11_away_43 : decode cX11_away 43 = .ok (.iadd, 1) := by decide +kernel
theorem dX11_away_44 : decode cX11_away 44 = .ok (.istore 4, 2) := by decide +kernel
theorem dX11_away_46 : decode cX11_away 46 = .ok (.iload_n 3, 1) := by decide +kernel
theorem dX11_away_47 : decode cX11_away 47 = .ok (.ifCond .lt 21, 3) := by decide +kernel
theorem dX11_away_50 : decode cX11_away 50 = .ok (.iload_n 3, 1) := by decide +kernel
theorem dX11_away_51 : decode cX11_away 51 = .ok (.bipush 10, 2) := by decide +kernel
theorem dX11_away_53 : decode cX11_away 53 = .ok (.if_icmp .ge 15, 3) := by decide +kernel
theorem dX11_away_56 : decode cX11_away 56 = .ok (.iload 4, 2) := by decide +kernel
theorem dX11_away_58 : decode cX11_away 58 = .ok (.ifCond .lt 10, 3) := by decide +kernel
theorem dX11_away_61 : decode cX11_away 61 = .ok (.iload 4, 2) := by decide +kernel
theorem dX11_away_63 : decode cX11_away 63 = .ok (.bipush 10, 2) := by decide +kernel
theorem dX11_away_65 : decode cX11_away 65 = .ok (.if_icmp .lt 7, 3) := by decide +kernel
theorem dX11_away_68 : decode cX11_away 68 = .ok (.iconst (-1), 1) := by decide +kernel
theorem dX11_away_69 : decode cX11_away 69 = .ok (.goto 10, 3) := by decide +kernel
theorem dX11_away_72 : decode cX11_away 72 = .ok (.iload 4, 2) := by decide +kernel
theorem dX11_away_74 : decode cX11_away 74 = .ok (.bipush 10, 2) := by decide +kernel
theorem dX11_away_76 : decode cX11_away 76 = .ok (.imul, 1) := by decide +kernel
theorem dX11_away_77 : decode cX11_away 77 = .ok (.iload_n 3, 1) := by decide +kernel
theorem dX11_away_78 : decode cX11_away 78 = .ok (.iadd, 1) := by decide +kernel
theorem dX11_away_79 : decode cX11_away 79 = .ok (.ireturn, 1) := by decide +kernel
theorem dX12_thrown_0 : decode cX12_thrown 0 = .ok (.aload_n 0, 1) := by decide +kernel
theorem dX12_thrown_1 : decode cX12_thrown 1 = .ok (.getfield 1, 3) := by decide +kernel
theorem dX12_thrown_4 : decode cX12_thrown 4 = .ok (.ireturn, 1) := by decide +kernel
theorem dX12_feed_0 : decode cX12_feed 0 = .ok (.aload_n 0, 1) := by decide +kernel
theorem dX12_feed_1 : decode cX12_feed 1 = .ok (.iconst 0, 1) := by decide +kernel
theorem dX12_feed_2 : decode cX12_feed 2 = .ok (.putfield 1, 3) := by decide +kernel
theorem dX12_feed_5 : decode cX12_feed 5 = .ok (.aload_n 0, 1) := by decide +kernel
theorem dX12_feed_6 : decode cX12_feed 6 = .ok (.lload_n 1, 1) := by decide +kernel
theorem dX12_feed_7 : decode cX12_feed 7 = .ok (.invokevirtual 7, 3) := by decide +kernel
theorem dX12_feed_10 : decode cX12_feed 10 = .ok (.aload_n 0, 1) := by decide +kernel
theorem dX12_feed_11 : decode cX12_feed 11 = .ok (.lload_n 3, 1) := by decide +kernel
theorem dX12_feed_12 : decode cX12_feed 12 = .ok (.invokevirtual 7, 3) := by decide +kernel
theorem dX12_feed_15 : decode cX12_feed 15 = .ok (.aload_n 0, 1) := by decide +kernel
theorem dX12_feed_16 : decode cX12_feed 16 = .ok (.lload 5, 2) := by decide +kernel
theorem dX12_feed_18 : decode cX12_feed 18 = .ok (.invokevirtual 7, 3) := by decide +kernel
theorem dX12_feed_21 : decode cX12_feed 21 = .ok (.aload_n 0, 1) := by decide +kernel
theorem dX12_feed_22 : decode cX12_feed 22 = .ok (.getfield 11, 3) := by decide +kernel
theorem dX12_feed_25 : decode cX12_feed 25 = .ok (.ireturn, 1) := by decide +kernel
theorem dX12_lay_0 : decode cX12_lay 0 = .ok (.bipush 56, 2) := by decide +kernel
theorem dX12_lay_2 : decode cX12_lay 2 = .ok (.istore_n 3, 1) := by decide +kernel
theorem dX12_lay_3 : decode cX12_lay 3 = .ok (.iload_n 3, 1) := by decide +kernel
theorem dX12_lay_4 : decode cX12_lay 4 = .ok (.ifCond .lt 71, 3) := by decide +kernel
theorem dX12_lay_7 : decode cX12_lay 7 = .ok (.lload_n 1, 1) := by decide +kernel
theorem dX12_lay_8 : decode cX12_lay 8 = .ok (.iload_n 3, 1) := by decide +kernel
theorem dX12_lay_9 : decode cX12_lay 9 = .ok (.lshr, 1) := by decide +kernel
theorem dX12_lay_10 : decode cX12_lay 10 = .ok (.l2i, 1) := by decide +kernel
theorem dX12_lay_11 : decode cX12_lay 11 = .ok (.sipush 255, 3) := by decide +kernel
theorem dX12_lay_14 : decode cX12_lay 14 = .ok (.iand, 1) := by decide +kernel
theorem dX12_lay_15 : decode cX12_lay 15 = .ok (.istore 4, 2) := by decide +kernel
theorem dX12_lay_17 : decode cX12_lay 17 = .ok (.iload 4, 2) := by decide +kernel
theorem dX12_lay_19 : decode cX12_lay 19 = .ok (.bipush 10, 2) := by decide +kernel
theorem dX12_lay_21 : decode cX12_lay 21 = .ok (.if_icmp .eq 17, 3) := by decide +kernel
theorem dX12_lay_24 : decode cX12_lay 24 = .ok (.iload 4, 2) := by decide +kernel
theorem dX12_lay_26 : decode cX12_lay 26 = .ok (.bipush 32, 2) := by decide +kernel
theorem dX12_lay_28 : decode cX12_lay 28 = .ok (.if_icmp .lt 41, 3) := by decide +kernel
theorem dX12_lay_31 : decode cX12_lay 31 = .ok (.iload 4, 2) := by decide +kernel
theorem dX12_lay_33 : decode cX12_lay 33 = .ok (.bipush 126, 2) := by decide +kernel
theorem dX12_lay_35 : decode cX12_lay 35 = .ok (.if_icmp .gt 34, 3) := by decide +kernel
theorem dX12_lay_38 : decode cX12_lay 38 = .ok (.aload_n 0, 1) := by decide +kernel
theorem dX12_lay_39 : decode cX12_lay 39 = .ok (.getfield 11, 3) := by decide +kernel
theorem dX12_lay_42 : decode cX12_lay 42 = .ok (.sipush 1000, 3) := by decide +kernel
theorem dX12_lay_45 : decode cX12_lay 45 = .ok (.if_icmp .ge 24, 3) := by decide +kernel
theorem dX12_lay_48 : decode cX12_lay 48 = .ok (.aload_n 0, 1) := by decide +kernel
theorem dX12_lay_49 : decode cX12_lay 49 = .ok (.getfield 14, 3) := by decide +kernel
theorem dX12_lay_52 : decode cX12_lay 52 = .ok (.aload_n 0, 1) := by decide +kernel
theorem dX12_lay_53 : decode cX12_lay 53 = .ok (.getfield 11, 3) := by decide +kernel
theorem dX12_lay_56 : decode cX12_lay 56 = .ok (.iload 4, 2) := by decide +kernel
theorem dX12_lay_58 : decode cX12_lay 58 = .ok (.iastore, 1) := by decide +kernel
theorem dX12_lay_59 : decode cX12_lay 59 = .ok (.aload_n 0, 1) := by decide +kernel
theorem dX12_lay_60 : decode cX12_lay 60 = .ok (.dup, 1) := by decide +kernel
theorem dX12_lay_61 : decode cX12_lay 61 = .ok (.getfield 11, 3) := by decide +kernel
theorem dX12_lay_64 : decode cX12_lay 64 = .ok (.iconst 1, 1) := by decide +kernel
theorem dX12_lay_65 : decode cX12_lay 65 = .ok (.iadd, 1) := by decide +kernel
theorem dX12_lay_66 : decode cX12_lay 66 = .ok (.putfield 11, 3) := by decide +kernel
theorem dX12_lay_69 : decode cX12_lay 69 = .ok (.iinc 3 (-8), 3) := by decide +kernel
theorem dX12_lay_72 : decode cX12_lay 72 = .ok (.goto (-69), 3) := by decide +kernel
theorem dX12_lay_75 : decode cX12_lay 75 = .ok (.return_, 1) := by decide +kernel
theorem dX12_init_0 : decode cX12_init 0 = .ok (.aload_n 0, 1) := by decide +kernel
theorem dX12_init_1 : decode cX12_init 1 = .ok (.invokespecial 18, 3) := by decide +kernel
theorem dX12_init_4 : decode cX12_init 4 = .ok (.aload_n 0, 1) := by decide +kernel
theorem dX12_init_5 : decode cX12_init 5 = .ok (.sipush 1000, 3) := by decide +kernel
theorem dX12_init_8 : decode cX12_init 8 = .ok (.newarray .int, 2) := by decide +kernel
theorem dX12_init_10 : decode cX12_init 10 = .ok (.putfield 14, 3) := by decide +kernel
theorem dX12_init_13 : decode cX12_init 13 = .ok (.aload_n 0, 1) := by decide +kernel
theorem dX12_init_14 : decode cX12_init 14 = .ok (.sipush 1002, 3) := by decide +kernel
theorem dX12_init_17 : decode cX12_init 17 = .ok (.newarray .int, 2) := by decide +kernel
theorem dX12_init_19 : decode cX12_init 19 = .ok (.putfield 24, 3) := by decide +kernel
theorem dX12_init_22 : decode cX12_init 22 = .ok (.aload_n 0, 1) := by decide +kernel
theorem dX12_init_23 : decode cX12_init 23 = .ok (.sipush 1002, 3) := by decide +kernel
theorem dX12_init_26 : decode cX12_init 26 = .ok (.newarray .int, 2) := by decide +kernel
theorem dX12_init_28 : decode cX12_init 28 = .ok (.putfield 27, 3) := by decide +kernel
theorem dX12_init_31 : decode cX12_init 31 = .ok (.aload_n 0, 1) := by decide +kernel
theorem dX12_init_32 : decode cX12_init 32 = .ok (.sipush 1002, 3) := by decide +kernel
theorem dX12_init_35 : decode cX12_init 35 = .ok (.newarray .long, 2) := by decide +kernel
theorem dX12_init_37 : decode cX12_init 37 = .ok (.putfield 30, 3) := by decide +kernel
theorem dX12_init_40 : decode cX12_init 40 = .ok (.aload_n 0, 1) := by decide +kernel
theorem dX12_init_41 : decode cX12_init 41 = .ok (.bipush 30, 2) := by decide +kernel
theorem dX12_init_43 : decode cX12_init 43 = .ok (.newarray .long, 2) := by decide +kernel
theorem dX12_init_45 : decode cX12_init 45 = .ok (.dup, 1) := by decide +kernel
theorem dX12_init_46 : decode cX12_init 46 = .ok (.iconst 0, 1) := by decide +kernel
theorem dX12_init_47 : decode cX12_init 47 = .ok (.ldc2_w 34, 3) := by decide +kernel
theorem dX12_init_50 : decode cX12_init 50 = .ok (.lastore, 1) := by decide +kernel
theorem dX12_init_51 : decode cX12_init 51 = .ok (.dup, 1) := by decide +kernel
theorem dX12_init_52 : decode cX12_init 52 = .ok (.iconst 1, 1) := by decide +kernel
theorem dX12_init_53 : decode cX12_init 53 = .ok (.ldc2_w 36, 3) := by decide +kernel
theorem dX12_init_56 : decode cX12_init 56 = .ok (.lastore, 1) := by decide +kernel
theorem dX12_init_57 : decode cX12_init 57 = .ok (.dup, 1) := by decide +kernel
theorem dX12_init_58 : decode cX12_init 58 = .ok (.iconst 2, 1) := by decide +kernel
theorem dX12_init_59 : decode cX12_init 59 = .ok (.ldc2_w 38, 3) := by decide +kernel
theorem dX12_init_62 : decode cX12_init 62 = .ok (.lastore, 1) := by decide +kernel
theorem dX12_init_63 : decode cX12_init 63 = .ok (.dup, 1) := by decide +kernel
theorem dX12_init_64 : decode cX12_init 64 = .ok (.iconst 3, 1) := by decide +kernel
theorem dX12_init_65 : decode cX12_init 65 = .ok (.ldc2_w 40, 3) := by decide +kernel
theorem dX12_init_68 : decode cX12_init 68 = .ok (.lastore, 1) := by decide +kernel
theorem dX12_init_69 : decode cX12_init 69 = .ok (.dup, 1) := by decide +kernel
theorem dX12_init_70 : decode cX12_init 70 = .ok (.iconst 4, 1) := by decide +kernel
theorem dX12_init_71 : decode cX12_init 71 = .ok (.ldc2_w 42, 3) := by decide +kernel
theorem dX12_init_74 : decode cX12_init 74 = .ok (.lastore, 1) := by decide +kernel
theorem dX12_init_75 : decode cX12_init 75 = .ok (.dup, 1) := by decide +kernel
theorem dX12_init_76 : decode cX12_init 76 = .ok (.iconst 5, 1) := by decide +kernel
theorem dX12_init_77 : decode cX12_init 77 = .ok (.ldc2_w 44, 3) := by decide +kernel
theorem dX12_init_80 : decode cX12_init 80 = .ok (.lastore, 1) := by decide +kernel
theorem dX12_init_81 : decode cX12_init 81 = .ok (.dup, 1) := by decide +kernel
theorem dX12_init_82 : decode cX12_init 82 = .ok (.bipush 6, 2) := by decide +kernel
theorem dX12_init_84 : decode cX12_init 84 = .ok (.ldc2_w 46, 3) := by decide +kernel
theorem dX12_init_87 : decode cX12_init 87 = .ok (.lastore, 1) := by decide +kernel
theorem dX12_init_88 : decode cX12_init 88 = .ok (.dup, 1) := by decide +kernel
theorem dX12_init_89 : decode cX12_init 89 = .ok (.bipush 7, 2) := by decide +kernel
theorem dX12_init_91 : decode cX12_init 91 = .ok (.ldc2_w 48, 3) := by decide +kernel
theorem dX12_init_94 : decode cX12_init 94 = .ok (.lastore, 1) := by decide +kernel
theorem dX12_init_95 : decode cX12_init 95 = .ok (.dup, 1) := by decide +kernel
theorem dX12_init_96 : decode cX12_init 96 = .ok (.bipush 8, 2) := by decide +kernel
theorem dX12_init_98 : decode cX12_init 98 = .ok (.ldc2_w 50, 3) := by decide +kernel
theorem dX12_init_101 : decode cX12_init 101 = .ok (.lastore, 1) := by decide +kernel
theorem dX12_init_102 : decode cX12_init 102 = .ok (.dup, 1) := by decide +kernel
theorem dX12_init_103 : decode cX12_init 103 = .ok (.bipush 9, 2) := by decide +kernel
theorem dX12_init_105 : decode cX12_init 105 = .ok (.ldc2_w 52, 3) := by decide +kernel
theorem dX12_init_108 : decode cX12_init 108 = .ok (.lastore, 1) := by decide +kernel
theorem dX12_init_109 : decode cX12_init 109 = .ok (.dup, 1) := by decide +kernel
theorem dX12_init_110 : decode cX12_init 110 = .ok (.bipush 10, 2) := by decide +kernel
theorem dX12_init_112 : decode cX12_init 112 = .ok (.ldc2_w 54, 3) := by decide +kernel
theorem dX12_init_115 : decode cX12_init 115 = .ok (.lastore, 1) := by decide +kernel
theorem dX12_init_116 : decode cX12_init 116 = .ok (.dup, 1) := by decide +kernel
theorem dX12_init_117 : decode cX12_init 117 = .ok (.bipush 11, 2) := by decide +kernel
theorem dX12_init_119 : decode cX12_init 119 = .ok (.ldc2_w 56, 3) := by decide +kernel
theorem dX12_init_122 : decode cX12_init 122 = .ok (.lastore, 1) := by decide +kernel
theorem dX12_init_123 : decode cX12_init 123 = .ok (.dup, 1) := by decide +kernel
theorem dX12_init_124 : decode cX12_init 124 = .ok (.bipush 12, 2) := by decide +kernel
theorem dX12_init_126 : decode cX12_init 126 = .ok (.ldc2_w 58, 3) := by decide +kernel
theorem dX12_init_129 : decode cX12_init 129 = .ok (.lastore, 1) := by decide +kernel
theorem dX12_init_130 : decode cX12_init 130 = .ok (.dup, 1) := by decide +kernel
theorem dX12_init_131 : decode cX12_init 131 = .ok (.bipush 13, 2) := by decide +kernel
theorem dX12_init_133 : decode cX12_init 133 = .ok (.ldc2_w 60, 3) := by decide +kernel
theorem dX12_init_136 : decode cX12_init 136 = .ok (.lastore, 1) := by decide +kernel
theorem dX12_init_137 : decode cX12_init 137 = .ok (.dup, 1) := by decide +kernel
theorem dX12_init_138 : decode cX12_init 138 = .ok (.bipush 14, 2) := by decide +kernel
theorem dX12_init_140 : decode cX12_init 140 = .ok (.ldc2_w 62, 3) := by decide +kernel
theorem dX12_init_143 : decode cX12_init 143 = .ok (.lastore, 1) := by decide +kernel
theorem dX12_init_144 : decode cX12_init 144 = .ok (.dup, 1) := by decide +kernel
theorem dX12_init_145 : decode cX12_init 145 = .ok (.bipush 15, 2) := by decide +kernel
theorem dX12_init_147 : decode cX12_init 147 = .ok (.ldc2_w 64, 3) := by decide +kernel
theorem dX12_init_150 : decode cX12_init 150 = .ok (.lastore, 1) := by decide +kernel
theorem dX12_init_151 : decode cX12_init 151 = .ok (.dup, 1) := by decide +kernel
theorem dX12_init_152 : decode cX12_init 152 = .ok (.bipush 16, 2) := by decide +kernel
theorem dX12_init_154 : decode cX12_init 154 = .ok (.ldc2_w 66, 3) := by decide +kernel
theorem dX12_init_157 : decode cX12_init 157 = .ok (.lastore, 1) := by decide +kernel
theorem dX12_init_158 : decode cX12_init 158 = .ok (.dup, 1) := by decide +kernel
theorem dX12_init_159 : decode cX12_init 159 = .ok (.bipush 17, 2) := by decide +kernel
theorem dX12_init_161 : decode cX12_init 161 = .ok (.ldc2_w 68, 3) := by decide +kernel
theorem dX12_init_164 : decode cX12_init 164 = .ok (.lastore, 1) := by decide +kernel
theorem dX12_init_165 : decode cX12_init 165 = .ok (.dup, 1) := by decide +kernel
theorem dX12_init_166 : decode cX12_init 166 = .ok (.bipush 18, 2) := by decide +kernel
theorem dX12_init_168 : decode cX12_init 168 = .ok (.ldc2_w 70, 3) := by decide +kernel
theorem dX12_init_171 : decode cX12_init 171 = .ok (.lastore, 1) := by decide +kernel
theorem dX12_init_172 : decode cX12_init 172 = .ok (.dup, 1) := by decide +kernel
theorem dX12_init_173 : decode cX12_init 173 = .ok (.bipush 19, 2) := by decide +kernel
theorem dX12_init_175 : decode cX12_init 175 = .ok (.ldc2_w 72, 3) := by decide +kernel
theorem dX12_init_178 : decode cX12_init 178 = .ok (.lastore, 1) := by decide +kernel
theorem dX12_init_179 : decode cX12_init 179 = .ok (.dup, 1) := by decide +kernel
theorem dX12_init_180 : decode cX12_init 180 = .ok (.bipush 20, 2) := by decide +kernel
theorem dX12_init_182 : decode cX12_init 182 = .ok (.ldc2_w 74, 3) := by decide +kernel
theorem dX12_init_185 : decode cX12_init 185 = .ok (.lastore, 1) := by decide +kernel
theorem dX12_init_186 : decode cX12_init 186 = .ok (.dup, 1) := by decide +kernel
theorem dX12_init_187 : decode cX12_init 187 = .ok (.bipush 21, 2) := by decide +kernel
theorem dX12_init_189 : decode cX12_init 189 = .ok (.ldc2_w 76, 3) := by decide +kernel
theorem dX12_init_192 : decode cX12_init 192 = .ok (.lastore, 1) := by decide +kernel
theorem dX12_init_193 : decode cX12_init 193 = .ok (.dup, 1) := by decide +kernel
theorem dX12_init_194 : decode cX12_init 194 = .ok (.bipush 22, 2) := by decide +kernel
theorem dX12_init_196 : decode cX12_init 196 = .ok (.ldc2_w 78, 3) := by decide +kernel
theorem dX12_init_199 : decode cX12_init 199 = .ok (.lastore, 1) := by decide +kernel
theorem dX12_init_200 : decode cX12_init 200 = .ok (.dup, 1) := by decide +kernel
theorem dX12_init_201 : decode cX12_init 201 = .ok (.bipush 23, 2) := by decide +kernel
theorem dX12_init_203 : decode cX12_init 203 = .ok (.ldc2_w 80, 3) := by decide +kernel
theorem dX12_init_206 : decode cX12_init 206 = .ok (.lastore, 1) := by decide +kernel
theorem dX12_init_207 : decode cX12_init 207 = .ok (.dup, 1) := by decide +kernel
theorem dX12_init_208 : decode cX12_init 208 = .ok (.bipush 24, 2) := by decide +kernel
theorem dX12_init_210 : decode cX12_init 210 = .ok (.ldc2_w 82, 3) := by decide +kernel
theorem dX12_init_213 : decode cX12_init 213 = .ok (.lastore, 1) := by decide +kernel
theorem dX12_init_214 : decode cX12_init 214 = .ok (.dup, 1) := by decide +kernel
theorem dX12_init_215 : decode cX12_init 215 = .ok (.bipush 25, 2) := by decide +kernel
theorem dX12_init_217 : decode cX12_init 217 = .ok (.ldc2_w 84, 3) := by decide +kernel
theorem dX12_init_220 : decode cX12_init 220 = .ok (.lastore, 1) := by decide +kernel
theorem dX12_init_221 : decode cX12_init 221 = .ok (.dup, 1) := by decide +kernel
theorem dX12_init_222 : decode cX12_init 222 = .ok (.bipush 26, 2) := by decide +kernel
theorem dX12_init_224 : decode cX12_init 224 = .ok (.ldc2_w 86, 3) := by decide +kernel
theorem dX12_init_227 : decode cX12_init 227 = .ok (.lastore, 1) := by decide +kernel
theorem dX12_init_228 : decode cX12_init 228 = .ok (.dup, 1) := by decide +kernel
theorem dX12_init_229 : decode cX12_init 229 = .ok (.bipush 27, 2) := by decide +kernel
theorem dX12_init_231 : decode cX12_init 231 = .ok (.ldc2_w 88, 3) := by decide +kernel
theorem dX12_init_234 : decode cX12_init 234 = .ok (.lastore, 1) := by decide +kernel
theorem dX12_init_235 : decode cX12_init 235 = .ok (.dup, 1) := by decide +kernel
theorem dX12_init_236 : decode cX12_init 236 = .ok (.bipush 28, 2) := by decide +kernel
theorem dX12_init_238 : decode cX12_init 238 = .ok (.ldc2_w 90, 3) := by decide +kernel
theorem dX12_init_241 : decode cX12_init 241 = .ok (.lastore, 1) := by decide +kernel
theorem dX12_init_242 : decode cX12_init 242 = .ok (.dup, 1) := by decide +kernel
theorem dX12_init_243 : decode cX12_init 243 = .ok (.bipush 29, 2) := by decide +kernel
theorem dX12_init_245 : decode cX12_init 245 = .ok (.ldc2_w 92, 3) := by decide +kernel
theorem dX12_init_248 : decode cX12_init 248 = .ok (.lastore, 1) := by decide +kernel
theorem dX12_init_249 : decode cX12_init 249 = .ok (.putfield 94, 3) := by decide +kernel
theorem dX12_init_252 : decode cX12_init 252 = .ok (.aload_n 0, 1) := by decide +kernel
theorem dX12_init_253 : decode cX12_init 253 = .ok (.sipush 2640, 3) := by decide +kernel
theorem dX12_init_256 : decode cX12_init 256 = .ok (.newarray .int, 2) := by decide +kernel
theorem dX12_init_258 : decode cX12_init 258 = .ok (.putfield 97, 3) := by decide +kernel
theorem dX12_init_261 : decode cX12_init 261 = .ok (.aload_n 0, 1) := by decide +kernel
theorem dX12_init_262 : decode cX12_init 262 = .ok (.sipush 6600, 3) := by decide +kernel
theorem dX12_init_265 : decode cX12_init 265 = .ok (.newarray .int, 2) := by decide +kernel
theorem dX12_init_267 : decode cX12_init 267 = .ok (.putfield 100, 3) := by decide +kernel
theorem dX12_init_270 : decode cX12_init 270 = .ok (.aload_n 0, 1) := by decide +kernel
theorem dX12_init_271 : decode cX12_init 271 = .ok (.sipush 6600, 3) := by decide +kernel
theorem dX12_init_274 : decode cX12_init 274 = .ok (.newarray .int, 2) := by decide +kernel
theorem dX12_init_276 : decode cX12_init 276 = .ok (.putfield 103, 3) := by decide +kernel
theorem dX12_init_279 : decode cX12_init 279 = .ok (.aload_n 0, 1) := by decide +kernel
theorem dX12_init_280 : decode cX12_init 280 = .ok (.iconst 2, 1) := by decide +kernel
theorem dX12_init_281 : decode cX12_init 281 = .ok (.newarray .int, 2) := by decide +kernel
theorem dX12_init_283 : decode cX12_init 283 = .ok (.putfield 106, 3) := by decide +kernel
theorem dX12_init_286 : decode cX12_init 286 = .ok (.aload_n 0, 1) := by decide +kernel
theorem dX12_init_287 : decode cX12_init 287 = .ok (.sipush 1100, 3) := by decide +kernel
theorem dX12_init_290 : decode cX12_init 290 = .ok (.newarray .int, 2) := by decide +kernel
theorem dX12_init_292 : decode cX12_init 292 = .ok (.putfield 109, 3) := by decide +kernel
theorem dX12_init_295 : decode cX12_init 295 = .ok (.aload_n 0, 1) := by decide +kernel
theorem dX12_init_296 : decode cX12_init 296 = .ok (.sipush 12000, 3) := by decide +kernel
theorem dX12_init_299 : decode cX12_init 299 = .ok (.newarray .int, 2) := by decide +kernel
theorem dX12_init_301 : decode cX12_init 301 = .ok (.putfield 112, 3) := by decide +kernel
theorem dX12_init_304 : decode cX12_init 304 = .ok (.aload_n 0, 1) := by decide +kernel
theorem dX12_init_305 : decode cX12_init 305 = .ok (.sipush 12000, 3) := by decide +kernel
theorem dX12_init_308 : decode cX12_init 308 = .ok (.newarray .boolean, 2) := by decide +kernel
theorem dX12_init_310 : decode cX12_init 310 = .ok (.putfield 115, 3) := by decide +kernel
theorem dX12_init_313 : decode cX12_init 313 = .ok (.aload_n 0, 1) := by decide +kernel
theorem dX12_init_314 : decode cX12_init 314 = .ok (.bipush 100, 2) := by decide +kernel
theorem dX12_init_316 : decode cX12_init 316 = .ok (.newarray .int, 2) := by decide +kernel
theorem dX12_init_318 : decode cX12_init 318 = .ok (.putfield 119, 3) := by decide +kernel
theorem dX12_init_321 : decode cX12_init 321 = .ok (.aload_n 0, 1) := by decide +kernel
theorem dX12_init_322 : decode cX12_init 322 = .ok (.sipush 12000, 3) := by decide +kernel
theorem dX12_init_325 : decode cX12_init 325 = .ok (.newarray .int, 2) := by decide +kernel
theorem dX12_init_327 : decode cX12_init 327 = .ok (.putfield 122, 3) := by decide +kernel
theorem dX12_init_330 : decode cX12_init 330 = .ok (.aload_n 0, 1) := by decide +kernel
theorem dX12_init_331 : decode cX12_init 331 = .ok (.sipush 12000, 3) := by decide +kernel
theorem dX12_init_334 : decode cX12_init 334 = .ok (.newarray .int, 2) := by decide +kernel
theorem dX12_init_336 : decode cX12_init 336 = .ok (.putfield 125, 3) := by decide +kernel
theorem dX12_init_339 : decode cX12_init 339 = .ok (.aload_n 0, 1) := by decide +kernel
theorem dX12_init_340 : decode cX12_init 340 = .ok (.sipush 12000, 3) := by decide +kernel
theorem dX12_init_343 : decode cX12_init 343 = .ok (.newarray .int, 2) := by decide +kernel
theorem dX12_init_345 : decode cX12_init 345 = .ok (.putfield 128, 3) := by decide +kernel
theorem dX12_init_348 : decode cX12_init 348 = .ok (.aload_n 0, 1) := by decide +kernel
theorem dX12_init_349 : decode cX12_init 349 = .ok (.bipush 120, 2) := by decide +kernel
theorem dX12_init_351 : decode cX12_init 351 = .ok (.newarray .int, 2) := by decide +kernel
theorem dX12_init_353 : decode cX12_init 353 = .ok (.putfield 131, 3) := by decide +kernel
theorem dX12_init_356 : decode cX12_init 356 = .ok (.aload_n 0, 1) := by decide +kernel
theorem dX12_init_357 : decode cX12_init 357 = .ok (.bipush 120, 2) := by decide +kernel
theorem dX12_init_359 : decode cX12_init 359 = .ok (.newarray .int, 2) := by decide +kernel
theorem dX12_init_361 : decode cX12_init 361 = .ok (.putfield 134, 3) := by decide +kernel
theorem dX12_init_364 : decode cX12_init 364 = .ok (.aload_n 0, 1) := by decide +kernel
theorem dX12_init_365 : decode cX12_init 365 = .ok (.sipush 12000, 3) := by decide +kernel
theorem dX12_init_368 : decode cX12_init 368 = .ok (.newarray .int, 2) := by decide +kernel
theorem dX12_init_370 : decode cX12_init 370 = .ok (.putfield 137, 3) := by decide +kernel
theorem dX12_init_373 : decode cX12_init 373 = .ok (.aload_n 0, 1) := by decide +kernel
theorem dX12_init_374 : decode cX12_init 374 = .ok (.sipush 1300, 3) := by decide +kernel
theorem dX12_init_377 : decode cX12_init 377 = .ok (.newarray .long, 2) := by decide +kernel
theorem dX12_init_379 : decode cX12_init 379 = .ok (.putfield 140, 3) := by decide +kernel
theorem dX12_init_382 : decode cX12_init 382 = .ok (.aload_n 0, 1) := by decide +kernel
theorem dX12_init_383 : decode cX12_init 383 = .ok (.sipush 960, 3) := by decide +kernel
theorem dX12_init_386 : decode cX12_init 386 = .ok (.newarray .int, 2) := by decide +kernel
theorem dX12_init_388 : decode cX12_init 388 = .ok (.putfield 143, 3) := by decide +kernel
theorem dX12_init_391 : decode cX12_init 391 = .ok (.aload_n 0, 1) := by decide +kernel
theorem dX12_init_392 : decode cX12_init 392 = .ok (.bipush 8, 2) := by decide +kernel
theorem dX12_init_394 : decode cX12_init 394 = .ok (.newarray .int, 2) := by decide +kernel
theorem dX12_init_396 : decode cX12_init 396 = .ok (.putfield 146, 3) := by decide +kernel
theorem dX12_init_399 : decode cX12_init 399 = .ok (.aload_n 0, 1) := by decide +kernel
theorem dX12_init_400 : decode cX12_init 400 = .ok (.bipush 8, 2) := by decide +kernel
theorem dX12_init_402 : decode cX12_init 402 = .ok (.newarray .int, 2) := by decide +kernel
theorem dX12_init_404 : decode cX12_init 404 = .ok (.putfield 149, 3) := by decide +kernel
theorem dX12_init_407 : decode cX12_init 407 = .ok (.aload_n 0, 1) := by decide +kernel
theorem dX12_init_408 : decode cX12_init 408 = .ok (.bipush 30, 2) := by decide +kernel
theorem dX12_init_410 : decode cX12_init 410 = .ok (.newarray .int, 2) := by decide +kernel
theorem dX12_init_412 : decode cX12_init 412 = .ok (.putfield 152, 3) := by decide +kernel
theorem dX12_init_415 : decode cX12_init 415 = .ok (.aload_n 0, 1) := by decide +kernel
theorem dX12_init_416 : decode cX12_init 416 = .ok (.bipush 60, 2) := by decide +kernel
theorem dX12_init_418 : decode cX12_init 418 = .ok (.newarray .int, 2) := by decide +kernel
theorem dX12_init_420 : decode cX12_init 420 = .ok (.putfield 155, 3) := by decide +kernel
theorem dX12_init_423 : decode cX12_init 423 = .ok (.aload_n 0, 1) := by decide +kernel
theorem dX12_init_424 : decode cX12_init 424 = .ok (.bipush 100, 2) := by decide +kernel
theorem dX12_init_426 : decode cX12_init 426 = .ok (.newarray .int, 2) := by decide +kernel
theorem dX12_init_428 : decode cX12_init 428 = .ok (.putfield 158, 3) := by decide +kernel
theorem dX12_init_431 : decode cX12_init 431 = .ok (.aload_n 0, 1) := by decide +kernel
theorem dX12_init_432 : decode cX12_init 432 = .ok (.sipush 12000, 3) := by decide +kernel
theorem dX12_init_435 : decode cX12_init 435 = .ok (.newarray .int, 2) := by decide +kernel
theorem dX12_init_437 : decode cX12_init 437 = .ok (.putfield 161, 3) := by decide +kernel
theorem dX12_init_440 : decode cX12_init 440 = .ok (.aload_n 0, 1) := by decide +kernel
theorem dX12_init_441 : decode cX12_init 441 = .ok (.iconst 4, 1) := by decide +kernel
theorem dX12_init_442 : decode cX12_init 442 = .ok (.newarray .boolean, 2) := by decide +kernel
theorem dX12_init_444 : decode cX12_init 444 = .ok (.putfield 164, 3) := by decide +kernel
theorem dX12_init_447 : decode cX12_init 447 = .ok (.aload_n 0, 1) := by decide +kernel
theorem dX12_init_448 : decode cX12_init 448 = .ok (.sipush 404, 3) := by decide +kernel
theorem dX12_init_451 : decode cX12_init 451 = .ok (.newarray .int, 2) := by decide +kernel
theorem dX12_init_453 : decode cX12_init 453 = .ok (.putfield 167, 3) := by decide +kernel
theorem dX12_init_456 : decode cX12_init 456 = .ok (.aload_n 0, 1) := by decide +kernel
theorem dX12_init_457 : decode cX12_init 457 = .ok (.iconst (-1), 1) := by decide +kernel
theorem dX12_init_458 : decode cX12_init 458 = .ok (.putfield 170, 3) := by decide +kernel
theorem dX12_init_461 : decode cX12_init 461 = .ok (.return_, 1) := by decide +kernel
theorem dX12_isLetter_0 : decode cX12_isLetter 0 = .ok (.iload_n 0, 1) := by decide +kernel
theorem dX12_isLetter_1 : decode cX12_isLetter 1 = .ok (.bipush 97, 2) := by decide +kernel
theorem dX12_isLetter_3 : decode cX12_isLetter 3 = .ok (.if_icmp .lt 13, 3) := by decide +kernel
theorem dX12_isLetter_6 : decode cX12_isLetter 6 = .ok (.iload_n 0, 1) := by decide +kernel
theorem dX12_isLetter_7 : decode cX12_isLetter 7 = .ok (.bipush 122, 2) := by decide +kernel
theorem dX12_isLetter_9 : decode cX12_isLetter 9 = .ok (.if_icmp .gt 7, 3) := by decide +kernel
theorem dX12_isLetter_12 : decode cX12_isLetter 12 = .ok (.iconst 1, 1) := by decide +kernel
theorem dX12_isLetter_13 : decode cX12_isLetter 13 = .ok (.goto 4, 3) := by decide +kernel
theorem dX12_isLetter_16 : decode cX12_isLetter 16 = .ok (.iconst 0, 1) := by decide +kernel
theorem dX12_isLetter_17 : decode cX12_isLetter 17 = .ok (.ireturn, 1) := by decide +kernel
theorem dX12_isDigit_0 : decode cX12_isDigit 0 = .ok (.iload_n 0, 1) := by decide +kernel
theorem dX12_isDigit_1 : decode cX12_isDigit 1 = .ok (.bipush 48, 2) := by decide +kernel
theorem dX12_isDigit_3 : decode cX12_isDigit 3 = .ok (.if_icmp .lt 13, 3) := by decide +kernel
theorem dX12_isDigit_6 : decode cX12_isDigit 6 = .ok (.iload_n 0, 1) := by decide +kernel
theorem dX12_isDigit_7 : decode cX12_isDigit 7 = .ok (.bipush 57, 2) := by decide +kernel
theorem dX12_isDigit_9 : decode cX12_isDigit 9 = .ok (.if_icmp .gt 7, 3) := by decide +kernel
theorem dX12_isDigit_12 : decode cX12_isDigit 12 = .ok (.iconst 1, 1) := by decide +kernel
theorem dX12_isDigit_13 : decode cX12_isDigit 13 = .ok (.goto 4, 3) := by decide +kernel
theorem dX12_isDigit_16 : decode cX12_isDigit 16 = .ok (.iconst 0, 1) := by decide +kernel
theorem dX12_isDigit_17 : decode cX12_isDigit 17 = .ok (.ireturn, 1) := by decide +kernel
theorem dX12_rank_0 : decode cX12_rank 0 = .ok (.iload_n 0, 1) := by decide +kernel
theorem dX12_rank_1 : decode cX12_rank 1 = .ok (.invokestatic 173, 3) := by decide +kernel
theorem dX12_rank_4 : decode cX12_rank 4 = .ok (.ifCond .eq 10, 3) := by decide +kernel
theorem dX12_rank_7 : decode cX12_rank 7 = .ok (.iload_n 0, 1) := by decide +kernel
theorem dX12_rank_8 : decode cX12_rank 8 = .ok (.bipush 96, 2) := by decide +kernel
theorem dX12_rank_10 : decode cX12_rank 10 = .ok (.isub, 1) := by decide +kernel
theorem dX12_rank_11 : decode cX12_rank 11 = .ok (.goto 7, 3) := by decide +kernel
theorem dX12_rank_14 : decode cX12_rank 14 = .ok (.iload_n 0, 1) := by decide +kernel
theorem dX12_rank_15 : decode cX12_rank 15 = .ok (.bipush 21, 2) := by decide +kernel
theorem dX12_rank_17 : decode cX12_rank 17 = .ok (.isub, 1) := by decide +kernel
theorem dX12_rank_18 : decode cX12_rank 18 = .ok (.ireturn, 1) := by decide +kernel
theorem dX12_isSignOf_0 : decode cX12_isSignOf 0 = .ok (.iload_n 0, 1) := by decide +kernel
theorem dX12_isSignOf_1 : decode cX12_isSignOf 1 = .ok (.bipush 40, 2) := by decide +kernel
theorem dX12_isSignOf_3 : decode cX12_isSignOf 3 = .ok (.if_icmp .eq 45, 3) := by decide +kernel
theorem dX12_isSignOf_6 : decode cX12_isSignOf 6 = .ok (.iload_n 0, 1) := by decide +kernel
theorem dX12_isSignOf_7 : decode cX12_isSignOf 7 = .ok (.bipush 41, 2) := by decide +kernel
theorem dX12_isSignOf_9 : decode cX12_isSignOf 9 = .ok (.if_icmp .eq 39, 3) := by decide +kernel
theorem dX12_isSignOf_12 : decode cX12_isSignOf 12 = .ok (.iload_n 0, 1) := by decide +kernel
theorem dX12_isSignOf_13 : decode cX12_isSignOf 13 = .ok (.bipush 59, 2) := by decide +kernel
theorem dX12_isSignOf_15 : decode cX12_isSignOf 15 = .ok (.if_icmp .eq 33, 3) := by decide +kernel
theorem dX12_isSignOf_18 : decode cX12_isSignOf 18 = .ok (.iload_n 0, 1) := by decide +kernel
theorem dX12_isSignOf_19 : decode cX12_isSignOf 19 = .ok (.bipush 61, 2) := by decide +kernel
theorem dX12_isSignOf_21 : decode cX12_isSignOf 21 = .ok (.if_icmp .eq 27, 3) := by decide +kernel
theorem dX12_isSignOf_24 : decode cX12_isSignOf 24 = .ok (.iload_n 0, 1) := by decide +kernel
theorem dX12_isSignOf_25 : decode cX12_isSignOf 25 = .ok (.bipush 60, 2) := by decide +kernel
theorem dX12_isSignOf_27 : decode cX12_isSignOf 27 = .ok (.if_icmp .eq 21, 3) := by decide +kernel
theorem dX12_isSignOf_30 : decode cX12_isSignOf 30 = .ok (.iload_n 0, 1) := by decide +kernel
theorem dX12_isSignOf_31 : decode cX12_isSignOf 31 = .ok (.bipush 43, 2) := by decide +kernel
theorem dX12_isSignOf_33 : decode cX12_isSignOf 33 = .ok (.if_icmp .eq 15, 3) := by decide +kernel
theorem dX12_isSignOf_36 : decode cX12_isSignOf 36 = .ok (.iload_n 0, 1) := by decide +kernel
theorem dX12_isSignOf_37 : decode cX12_isSignOf 37 = .ok (.bipush 45, 2) := by decide +kernel
theorem dX12_isSignOf_39 : decode cX12_isSignOf 39 = .ok (.if_icmp .eq 9, 3) := by decide +kernel
theorem dX12_isSignOf_42 : decode cX12_isSignOf 42 = .ok (.iload_n 0, 1) := by decide +kernel
theorem dX12_isSignOf_43 : decode cX12_isSignOf 43 = .ok (.bipush 42, 2) := by decide +kernel
theorem dX12_isSignOf_45 : decode cX12_isSignOf 45 = .ok (.if_icmp .ne 7, 3) := by decide +kernel
theorem dX12_isSignOf_48 : decode cX12_isSignOf 48 = .ok (.iconst 1, 1) := by decide +kernel
theorem dX12_isSignOf_49 : decode cX12_isSignOf 49 = .ok (.goto 4, 3) := by decide +kernel
theorem dX12_isSignOf_52 : decode cX12_isSignOf 52 = .ok (.iconst 0, 1) := by decide +kernel
theorem dX12_isSignOf_53 : decode cX12_isSignOf 53 = .ok (.ireturn, 1) := by decide +kernel
theorem dX12_cutAll_0 : decode cX12_cutAll 0 = .ok (.aload_n 0, 1) := by decide +kernel
theorem dX12_cutAll_1 : decode cX12_cutAll 1 = .ok (.aload_n 0, 1) := by decide +kernel
theorem dX12_cutAll_2 : decode cX12_cutAll 2 = .ok (.getfield 11, 3) := by decide +kernel
theorem dX12_cutAll_5 : decode cX12_cutAll 5 = .ok (.putfield 177, 3) := by decide +kernel
theorem dX12_cutAll_8 : decode cX12_cutAll 8 = .ok (.aload_n 0, 1) := by decide +kernel
theorem dX12_cutAll_9 : decode cX12_cutAll 9 = .ok (.iconst 0, 1) := by decide +kernel
theorem dX12_cutAll_10 : decode cX12_cutAll 10 = .ok (.putfield 11, 3) := by decide +kernel
theorem dX12_cutAll_13 : decode cX12_cutAll 13 = .ok (.iconst 0, 1) := by decide +kernel
theorem dX12_cutAll_14 : decode cX12_cutAll 14 = .ok (.istore_n 1, 1) := by decide +kernel
theorem dX12_cutAll_15 : decode cX12_cutAll 15 = .ok (.iconst 0, 1) := by decide +kernel
theorem dX12_cutAll_16 : decode cX12_cutAll 16 = .ok (.istore_n 2, 1) := by decide +kernel
theorem dX12_cutAll_17 : decode cX12_cutAll 17 = .ok (.iload_n 2, 1) := by decide +kernel
theorem dX12_cutAll_18 : decode cX12_cutAll 18 = .ok (.aload_n 0, 1) := by decide +kernel
theorem dX12_cutAll_19 : decode cX12_cutAll 19 = .ok (.getfield 177, 3) := by decide +kernel
theorem dX12_cutAll_22 : decode cX12_cutAll 22 = .ok (.if_icmp .ge 257, 3) := by decide +kernel
theorem dX12_cutAll_25 : decode cX12_cutAll 25 = .ok (.aload_n 0, 1) := by decide +kernel
theorem dX12_cutAll_26 : decode cX12_cutAll 26 = .ok (.getfield 14, 3) := by decide +kernel
theorem dX12_cutAll_29 : decode cX12_cutAll 29 = .ok (.iload_n 2, 1) := by decide +kernel
theorem dX12_cutAll_30 : decode cX12_cutAll 30 = .ok (.iaload, 1) := by decide +kernel
theorem dX12_cutAll_31 : decode cX12_cutAll 31 = .ok (.istore_n 3, 1) := by decide +kernel
theorem dX12_cutAll_32 : decode cX12_cutAll 32 = .ok (.iload_n 3, 1) := by decide +kernel
theorem dX12_cutAll_33 : decode cX12_cutAll 33 = .ok (.bipush 10, 2) := by decide +kernel
theorem dX12_cutAll_35 : decode cX12_cutAll 35 = .ok (.if_icmp .eq 9, 3) := by decide +kernel
theorem dX12_cutAll_38 : decode cX12_cutAll 38 = .ok (.iload_n 3, 1) := by decide +kernel
theorem dX12_cutAll_39 : decode cX12_cutAll 39 = .ok (.bipush 32, 2) := by decide +kernel
theorem dX12_cutAll_41 : decode cX12_cutAll 41 = .ok (.if_icmp .ne 9, 3) := by decide +kernel
theorem dX12_cutAll_44 : decode cX12_cutAll 44 = .ok (.iinc 2 1, 3) := by decide +kernel
theorem dX12_cutAll_47 : decode cX12_cutAll 47 = .ok (.goto (-30), 3) := by decide +kernel
theorem dX12_cutAll_50 : decode cX12_cutAll 50 = .ok (.iload_n 2, 1) := by decide +kernel
theorem dX12_cutAll_51 : decode cX12_cutAll 51 = .ok (.istore 4, 2) := by decide +kernel
theorem dX12_cutAll_53 : decode cX12_cutAll 53 = .ok (.lconst 0, 1) := by decide +kernel
theorem dX12_cutAll_54 : decode cX12_cutAll 54 = .ok (.lstore 5, 2) := by decide +kernel
theorem dX12_cutAll_56 : decode cX12_cutAll 56 = .ok (.aload_n 0, 1) := by decide +kernel
theorem dX12_cutAll_57 : decode cX12_cutAll 57 = .ok (.getfield 27, 3) := by decide +kernel
theorem dX12_cutAll_60 : decode cX12_cutAll 60 = .ok (.iload_n 1, 1) := by decide +kernel
theorem dX12_cutAll_61 : decode cX12_cutAll 61 = .ok (.iload_n 2, 1) := by decide +kernel
theorem dX12_cutAll_62 : decode cX12_cutAll 62 = .ok (.iastore, 1) := by decide +kernel
theorem dX12_cutAll_63 : decode cX12_cutAll 63 = .ok (.iload_n 3, 1) := by decide +kernel
theorem dX12_cutAll_64 : decode cX12_cutAll 64 = .ok (.invokestatic 173, 3) := by decide +kernel
theorem dX12_cutAll_67 : decode cX12_cutAll 67 = .ok (.ifCond .eq 85, 3) := by decide +kernel
theorem dX12_cutAll_70 : decode cX12_cutAll 70 = .ok (.iload_n 2, 1) := by decide +kernel
theorem dX12_cutAll_71 : decode cX12_cutAll 71 = .ok (.aload_n 0, 1) := by decide +kernel
theorem dX12_cutAll_72 : decode cX12_cutAll 72 = .ok (.getfield 177, 3) := by decide +kernel
theorem dX12_cutAll_75 : decode cX12_cutAll 75 = .ok (.if_icmp .ge 54, 3) := by decide +kernel
theorem dX12_cutAll_78 : decode cX12_cutAll 78 = .ok (.aload_n 0, 1) := by decide +kernel
theorem dX12_cutAll_79 : decode cX12_cutAll 79 = .ok (.getfield 14, 3) := by decide +kernel
theorem dX12_cutAll_82 : decode cX12_cutAll 82 = .ok (.iload_n 2, 1) := by decide +kernel
theorem dX12_cutAll_83 : decode cX12_cutAll 83 = .ok (.iaload, 1) := by decide +kernel
theorem dX12_cutAll_84 : decode cX12_cutAll 84 = .ok (.invokestatic 173, 3) := by decide +kernel
theorem dX12_cutAll_87 : decode cX12_cutAll 87 = .ok (.ifCond .eq 42, 3) := by decide +kernel
theorem dX12_cutAll_90 : decode cX12_cutAll 90 = .ok (.iload_n 2, 1) := by decide +kernel
theorem dX12_cutAll_91 : decode cX12_cutAll 91 = .ok (.iload 4, 2) := by decide +kernel
theorem dX12_cutAll_93 : decode cX12_cutAll 93 = .ok (.isub, 1) := by decide +kernel
theorem dX12_cutAll_94 : decode cX12_cutAll 94 = .ok (.bipush 9, 2) := by decide +kernel
theorem dX12_cutAll_96 : decode cX12_cutAll 96 = .ok (.if_icmp .ge 23, 3) := by decide +kernel
theorem dX12_cutAll_99 : decode cX12_cutAll 99 = .ok (.ldc2_w 180, 3) := by decide +kernel
theorem dX12_cutAll_102 : decode cX12_cutAll 102 = .ok (.lload 5, 2) := by decide +kernel
theorem dX12_cutAll_104 : decode cX12_cutAll 104 = .ok (.lmul, 1) := by decide +kernel
theorem dX12_cutAll_105 : decode cX12_cutAll 105 = .ok (.aload_n 0, 1) := by decide +kernel
theorem dX12_cutAll_106 : decode cX12_cutAll 106 = .ok (.getfield 14, 3) := by decide +kernel
theorem dX12_cutAll_109 : decode cX12_cutAll 109 = .ok (.iload_n 2, 1) := by decide +kernel
theorem dX12_cutAll_110 : decode cX12_cutAll 110 = .ok (.iaload, 1) := by decide +kernel
theorem dX12_cutAll_111 : decode cX12_cutAll 111 = .ok (.invokestatic 182, 3) := by decide +kernel
theorem dX12_cutAll_114 : decode cX12_cutAll 114 = .ok (.i2l, 1) := by decide +kernel
theorem dX12_cutAll_115 : decode cX12_cutAll 115 = .ok (.ladd, 1) := by decide +kernel
theorem dX12_cutAll_116 : decode cX12_cutAll 116 = .ok (.goto 5, 3) := by decide +kernel
theorem dX12_cutAll_119 : decode cX12_cutAll 119 = .ok (.lload 5, 2) := by decide +kernel
theorem dX12_cutAll_121 : decode cX12_cutAll 121 = .ok (.lstore 5, 2) := by decide +kernel
theorem dX12_cutAll_123 : decode cX12_cutAll 123 = .ok (.iinc 2 1, 3) := by decide +kernel
theorem dX12_cutAll_126 : decode cX12_cutAll 126 = .ok (.goto (-56), 3) := by decide +kernel
theorem dX12_cutAll_129 : decode cX12_cutAll 129 = .ok (.aload_n 0, 1) := by decide +kernel
theorem dX12_cutAll_130 : decode cX12_cutAll 130 = .ok (.getfield 24, 3) := by decide +kernel
theorem dX12_cutAll_133 : decode cX12_cutAll 133 = .ok (.iload_n 1, 1) := by decide +kernel
theorem dX12_cutAll_134 : decode cX12_cutAll 134 = .ok (.iload_n 2, 1) := by decide +kernel
theorem dX12_cutAll_135 : decode cX12_cutAll 135 = .ok (.iload 4, 2) := by decide +kernel
theorem dX12_cutAll_137 : decode cX12_cutAll 137 = .ok (.isub, 1) := by decide +kernel
theorem dX12_cutAll_138 : decode cX12_cutAll 138 = .ok (.bipush 9, 2) := by decide +kernel
theorem dX12_cutAll_140 : decode cX12_cutAll 140 = .ok (.if_icmp .le 7, 3) := by decide +kernel
theorem dX12_cutAll_143 : decode cX12_cutAll 143 = .ok (.iconst 4, 1) := by decide +kernel
theorem dX12_cutAll_144 : decode cX12_cutAll 144 = .ok (.goto 4, 3) := by decide +kernel
theorem dX12_cutAll_147 : decode cX12_cutAll 147 = .ok (.iconst 1, 1) := by decide +kernel
theorem dX12_cutAll_148 : decode cX12_cutAll 148 = .ok (.iastore, 1) := by decide +kernel
theorem dX12_cutAll_149 : decode cX12_cutAll 149 = .ok (.goto 116, 3) := by decide +kernel
theorem dX12_cutAll_152 : decode cX12_cutAll 152 = .ok (.iload_n 3, 1) := by decide +kernel
theorem dX12_cutAll_153 : decode cX12_cutAll 153 = .ok (.invokestatic 186, 3) := by decide +kernel
theorem dX12_cutAll_156 : decode cX12_cutAll 156 = .ok (.ifCond .eq 84, 3) := by decide +kernel
theorem dX12_cutAll_159 : decode cX12_cutAll 159 = .ok (.iload_n 2, 1) := by decide +kernel
theorem dX12_cutAll_160 : decode cX12_cutAll 160 = .ok (.aload_n 0, 1) := by decide +kernel
theorem dX12_cutAll_161 : decode cX12_cutAll 161 = .ok (.getfield 177, 3) := by decide +kernel
theorem dX12_cutAll_164 : decode cX12_cutAll 164 = .ok (.if_icmp .ge 54, 3) := by decide +kernel
theorem dX12_cutAll_167 : decode cX12_cutAll 167 = .ok (.aload_n 0, 1) := by decide +kernel
theorem dX12_cutAll_168 : decode cX12_cutAll 168 = .ok (.getfield 14, 3) := by decide +kernel
theorem dX12_cutAll_171 : decode cX12_cutAll 171 = .ok (.iload_n 2, 1) := by decide +kernel
theorem dX12_cutAll_172 : decode cX12_cutAll 172 = .ok (.iaload, 1) := by decide +kernel
theorem dX12_cutAll_173 : decode cX12_cutAll 173 = .ok (.invokestatic 186, 3) := by decide +kernel
theorem dX12_cutAll_176 : decode cX12_cutAll 176 = .ok (.ifCond .eq 42, 3) := by decide +kernel
theorem dX12_cutAll_179 : decode cX12_cutAll 179 = .ok (.iload_n 2, 1) := by decide +kernel
theorem dX12_cutAll_180 : decode cX12_cutAll 180 = .ok (.iload 4, 2) := by decide +kernel
theorem dX12_cutAll_182 : decode cX12_cutAll 182 = .ok (.isub, 1) := by decide +kernel
theorem dX12_cutAll_183 : decode cX12_cutAll 183 = .ok (.iconst 4, 1) := by decide +kernel
theorem dX12_cutAll_184 : decode cX12_cutAll 184 = .ok (.if_icmp .ge 24, 3) := by decide +kernel
theorem dX12_cutAll_187 : decode cX12_cutAll 187 = .ok (.ldc2_w 189, 3) := by decide +kernel
theorem dX12_cutAll_190 : decode cX12_cutAll 190 = .ok (.lload 5, 2) := by decide +kernel
theorem dX12_cutAll_192 : decode cX12_cutAll 192 = .ok (.lmul, 1) := by decide +kernel
theorem dX12_cutAll_193 : decode cX12_cutAll 193 = .ok (.aload_n 0, 1) := by decide +kernel
theorem dX12_cutAll_194 : decode cX12_cutAll 194 = .ok (.getfield 14, 3) := by decide +kernel
theorem dX12_cutAll_197 : decode cX12_cutAll 197 = .ok (.iload_n 2, 1) := by decide +kernel
theorem dX12_cutAll_198 : decode cX12_cutAll 198 = .ok (.iaload, 1) := by decide +kernel
theorem dX12_cutAll_199 : decode cX12_cutAll 199 = .ok (.i2l, 1) := by decide +kernel
theorem dX12_cutAll_200 : decode cX12_cutAll 200 = .ok (.ladd, 1) := by decide +kernel
theorem dX12_cutAll_201 : decode cX12_cutAll 201 = .ok (.ldc2_w 191, 3) := by decide +kernel
theorem dX12_cutAll_204 : decode cX12_cutAll 204 = .ok (.lsub, 1) := by decide +kernel
theorem dX12_cutAll_205 : decode cX12_cutAll 205 = .ok (.goto 5, 3) := by decide +kernel
theorem dX12_cutAll_208 : decode cX12_cutAll 208 = .ok (.lload 5, 2) := by decide +kernel
theorem dX12_cutAll_210 : decode cX12_cutAll 210 = .ok (.lstore 5, 2) := by decide +kernel
theorem dX12_cutAll_212 : decode cX12_cutAll 212 = .ok (.iinc 2 1, 3) := by decide +kernel
theorem dX12_cutAll_215 : decode cX12_cutAll 215 = .ok (.goto (-56), 3) := by decide +kernel
theorem dX12_cutAll_218 : decode cX12_cutAll 218 = .ok (.aload_n 0, 1) := by decide +kernel
theorem dX12_cutAll_219 : decode cX12_cutAll 219 = .ok (.getfield 24, 3) := by decide +kernel
theorem dX12_cutAll_222 : decode cX12_cutAll 222 = .ok (.iload_n 1, 1) := by decide +kernel
theorem dX12_cutAll_223 : decode cX12_cutAll 223 = .ok (.iload_n 2, 1) := by decide +kernel
theorem dX12_cutAll_224 : decode cX12_cutAll 224 = .ok (.iload 4, 2) := by decide +kernel
theorem dX12_cutAll_226 : decode cX12_cutAll 226 = .ok (.isub, 1) := by decide +kernel
theorem dX12_cutAll_227 : decode cX12_cutAll 227 = .ok (.iconst 4, 1) := by decide +kernel
theorem dX12_cutAll_228 : decode cX12_cutAll 228 = .ok (.if_icmp .le 7, 3) := by decide +kernel
theorem dX12_cutAll_231 : decode cX12_cutAll 231 = .ok (.iconst 4, 1) := by decide +kernel
theorem dX12_cutAll_232 : decode cX12_cutAll 232 = .ok (.goto 4, 3) := by decide +kernel
theorem dX12_cutAll_235 : decode cX12_cutAll 235 = .ok (.iconst 2, 1) := by decide +kernel
theorem dX12_cutAll_236 : decode cX12_cutAll 236 = .ok (.iastore, 1) := by decide +kernel
theorem dX12_cutAll_237 : decode cX12_cutAll 237 = .ok (.goto 28, 3) := by decide +kernel
theorem dX12_cutAll_240 : decode cX12_cutAll 240 = .ok (.iload_n 3, 1) := by decide +kernel
theorem dX12_cutAll_241 : decode cX12_cutAll 241 = .ok (.i2l, 1) := by decide +kernel
theorem dX12_cutAll_242 : decode cX12_cutAll 242 = .ok (.lstore 5, 2) := by decide +kernel
theorem dX12_cutAll_244 : decode cX12_cutAll 244 = .ok (.aload_n 0, 1) := by decide +kernel
theorem dX12_cutAll_245 : decode cX12_cutAll 245 = .ok (.getfield 24, 3) := by decide +kernel
theorem dX12_cutAll_248 : decode cX12_cutAll 248 = .ok (.iload_n 1, 1) := by decide +kernel
theorem dX12_cutAll_249 : decode cX12_cutAll 249 = .ok (.iload_n 3, 1) := by decide +kernel
theorem dX12_cutAll_250 : decode cX12_cutAll 250 = .ok (.invokestatic 193, 3) := by decide +kernel
theorem dX12_cutAll_253 : decode cX12_cutAll 253 = .ok (.ifCond .eq 7, 3) := by decide +kernel
theorem dX12_cutAll_256 : decode cX12_cutAll 256 = .ok (.iconst 3, 1) := by decide +kernel
theorem dX12_cutAll_257 : decode cX12_cutAll 257 = .ok (.goto 4, 3) := by decide +kernel
theorem dX12_cutAll_260 : decode cX12_cutAll 260 = .ok (.iconst 4, 1) := by decide +kernel
theorem dX12_cutAll_261 : decode cX12_cutAll 261 = .ok (.iastore, 1) := by decide +kernel
theorem dX12_cutAll_262 : decode cX12_cutAll 262 = .ok (.iinc 2 1, 3) := by decide +kernel
theorem dX12_cutAll_265 : decode cX12_cutAll 265 = .ok (.aload_n 0, 1) := by decide +kernel
theorem dX12_cutAll_266 : decode cX12_cutAll 266 = .ok (.getfield 30, 3) := by decide +kernel
theorem dX12_cutAll_269 : decode cX12_cutAll 269 = .ok (.iload_n 1, 1) := by decide +kernel
theorem dX12_cutAll_270 : decode cX12_cutAll 270 = .ok (.lload 5, 2) := by decide +kernel
theorem dX12_cutAll_272 : decode cX12_cutAll 272 = .ok (.lastore, 1) := by decide +kernel
theorem dX12_cutAll_273 : decode cX12_cutAll 273 = .ok (.iinc 1 1, 3) := by decide +kernel
theorem dX12_cutAll_276 : decode cX12_cutAll 276 = .ok (.goto (-259), 3) := by decide +kernel
theorem dX12_cutAll_279 : decode cX12_cutAll 279 = .ok (.aload_n 0, 1) := by decide +kernel
theorem dX12_cutAll_280 : decode cX12_cutAll 280 = .ok (.getfield 24, 3) := by decide +kernel
theorem dX12_cutAll_283 : decode cX12_cutAll 283 = .ok (.iload_n 1, 1) := by decide +kernel
theorem dX12_cutAll_284 : decode cX12_cutAll 284 = .ok (.iconst 0, 1) := by decide +kernel
theorem dX12_cutAll_285 : decode cX12_cutAll 285 = .ok (.iastore, 1) := by decide +kernel
theorem dX12_cutAll_286 : decode cX12_cutAll 286 = .ok (.aload_n 0, 1) := by decide +kernel
theorem dX12_cutAll_287 : decode cX12_cutAll 287 = .ok (.getfield 27, 3) := by decide +kernel
theorem dX12_cutAll_290 : decode cX12_cutAll 290 = .ok (.iload_n 1, 1) := by decide +kernel
theorem dX12_cutAll_291 : decode cX12_cutAll 291 = .ok (.aload_n 0, 1) := by decide +kernel
theorem dX12_cutAll_292 : decode cX12_cutAll 292 = .ok (.getfield 177, 3) := by decide +kernel
theorem dX12_cutAll_295 : decode cX12_cutAll 295 = .ok (.iastore, 1) := by decide +kernel
theorem dX12_cutAll_296 : decode cX12_cutAll 296 = .ok (.aload_n 0, 1) := by decide +kernel
theorem dX12_cutAll_297 : decode cX12_cutAll 297 = .ok (.iconst 0, 1) := by decide +kernel
theorem dX12_cutAll_298 : decode cX12_cutAll 298 = .ok (.putfield 196, 3) := by decide +kernel
theorem dX12_cutAll_301 : decode cX12_cutAll 301 = .ok (.aload_n 0, 1) := by decide +kernel
theorem dX12_cutAll_302 : decode cX12_cutAll 302 = .ok (.iconst 0, 1) := by decide +kernel
theorem dX12_cutAll_303 : decode cX12_cutAll 303 = .ok (.putfield 199, 3) := by decide +kernel
theorem dX12_cutAll_306 : decode cX12_cutAll 306 = .ok (.return_, 1) := by decide +kernel
theorem dX12_wrong_0 : decode cX12_wrong 0 = .ok (.aload_n 0, 1) := by decide +kernel
theorem dX12_wrong_1 : decode cX12_wrong 1 = .ok (.getfield 199, 3) := by decide +kernel
theorem dX12_wrong_4 : decode cX12_wrong 4 = .ok (.ifCond .ne 21, 3) := by decide +kernel
theorem dX12_wrong_7 : decode cX12_wrong 7 = .ok (.aload_n 0, 1) := by decide +kernel
theorem dX12_wrong_8 : decode cX12_wrong 8 = .ok (.iload_n 1, 1) := by decide +kernel
theorem dX12_wrong_9 : decode cX12_wrong 9 = .ok (.bipush 16, 2) := by decide +kernel
theorem dX12_wrong_11 : decode cX12_wrong 11 = .ok (.aload_n 0, 1) := by decide +kernel
theorem dX12_wrong_12 : decode cX12_wrong 12 = .ok (.getfield 27, 3) := by decide +kernel
theorem dX12_wrong_15 : decode cX12_wrong 15 = .ok (.aload_n 0, 1) := by decide +kernel
theorem dX12_wrong_16 : decode cX12_wrong 16 = .ok (.getfield 196, 3) := by decide +kernel
theorem dX12_wrong_19 : decode cX12_wrong 19 = .ok (.iaload, 1) := by decide +kernel
theorem dX12_wrong_20 : decode cX12_wrong 20 = .ok (.imul, 1) := by decide +kernel
theorem dX12_wrong_21 : decode cX12_wrong 21 = .ok (.iadd, 1) := by decide +kernel
theorem dX12_wrong_22 : decode cX12_wrong 22 = .ok (.putfield 199, 3) := by decide +kernel
theorem dX12_wrong_25 : decode cX12_wrong 25 = .ok (.return_, 1) := by decide +kernel
theorem dX12_isSign_0 : decode cX12_isSign 0 = .ok (.aload_n 0, 1) := by decide +kernel
theorem dX12_isSign_1 : decode cX12_isSign 1 = .ok (.getfield 199, 3) := by decide +kernel
theorem dX12_isSign_4 : decode cX12_isSign 4 = .ok (.ifCond .ne 35, 3) := by decide +kernel
theorem dX12_isSign_7 : decode cX12_isSign 7 = .ok (.aload_n 0, 1) := by decide +kernel
theorem dX12_isSign_8 : decode cX12_isSign 8 = .ok (.getfield 24, 3) := by decide +kernel
theorem dX12_isSign_11 : decode cX12_isSign 11 = .ok (.aload_n 0, 1) := by decide +kernel
theorem dX12_isSign_12 : decode cX12_isSign 12 = .ok (.getfield 196, 3) := by decide +kernel
theorem dX12_isSign_15 : decode cX12_isSign 15 = .ok (.iaload, 1) := by decide +kernel
theorem dX12_isSign_16 : decode cX12_isSign 16 = .ok (.iconst 3, 1) := by decide +kernel
theorem dX12_isSign_17 : decode cX12_isSign 17 = .ok (.if_icmp .ne 22, 3) := by decide +kernel
theorem dX12_isSign_20 : decode cX12_isSign 20 = .ok (.aload_n 0, 1) := by decide +kernel
theorem dX12_isSign_21 : decode cX12_isSign 21 = .ok (.getfield 30, 3) := by decide +kernel
theorem dX12_isSign_24 : decode cX12_isSign 24 = .ok (.aload_n 0, 1) := by decide +kernel
theorem dX12_isSign_25 : decode cX12_isSign 25 = .ok (.getfield 196, 3) := by decide +kernel
theorem dX12_isSign_28 : decode cX12_isSign 28 = .ok (.laload, 1) := by decide +kernel
theorem dX12_isSign_29 : decode cX12_isSign 29 = .ok (.iload_n 1, 1) := by decide +kernel
theorem dX12_isSign_30 : decode cX12_isSign 30 = .ok (.i2l, 1) := by decide +kernel
theorem dX12_isSign_31 : decode cX12_isSign 31 = .ok (.lcmp, 1) := by decide +kernel
theorem dX12_isSign_32 : decode cX12_isSign 32 = .ok (.ifCond .ne 7, 3) := by decide +kernel
theorem dX12_isSign_35 : decode cX12_isSign 35 = .ok (.iconst 1, 1) := by decide +kernel
theorem dX12_isSign_36 : decode cX12_isSign 36 = .ok (.goto 4, 3) := by decide +kernel
theorem dX12_isSign_39 : decode cX12_isSign 39 = .ok (.iconst 0, 1) := by decide +kernel
theorem dX12_isSign_40 : decode cX12_isSign 40 = .ok (.ireturn, 1) := by decide +kernel
theorem dX12_isWord_0 : decode cX12_isWord 0 = .ok (.aload_n 0, 1) := by decide +kernel
theorem dX12_isWord_1 : decode cX12_isWord 1 = .ok (.getfield 199, 3) := by decide +kernel
theorem dX12_isWord_4 : decode cX12_isWord 4 = .ok (.ifCond .ne 39, 3) := by decide +kernel
theorem dX12_isWord_7 : decode cX12_isWord 7 = .ok (.aload_n 0, 1) := by decide +kernel
theorem dX12_isWord_8 : decode cX12_isWord 8 = .ok (.getfield 24, 3) := by decide +kernel
theorem dX12_isWord_11 : decode cX12_isWord 11 = .ok (.aload_n 0, 1) := by decide +kernel
theorem dX12_isWord_12 : decode cX12_isWord 12 = .ok (.getfield 196, 3) := by decide +kernel
theorem dX12_isWord_15 : decode cX12_isWord 15 = .ok (.iaload, 1) := by decide +kernel
theorem dX12_isWord_16 : decode cX12_isWord 16 = .ok (.iconst 1, 1) := by decide +kernel
theorem dX12_isWord_17 : decode cX12_isWord 17 = .ok (.if_icmp .ne 26, 3) := by decide +kernel
theorem dX12_isWord_20 : decode cX12_isWord 20 = .ok (.aload_n 0, 1) := by decide +kernel
theorem dX12_isWord_21 : decode cX12_isWord 21 = .ok (.getfield 30, 3) := by decide +kernel
theorem dX12_isWord_24 : decode cX12_isWord 24 = .ok (.aload_n 0, 1) := by decide +kernel
theorem dX12_isWord_25 : decode cX12_isWord 25 = .ok (.getfield 196, 3) := by decide +kernel
theorem dX12_isWord_28 : decode cX12_isWord 28 = .ok (.laload, 1) := by decide +kernel
theorem dX12_isWord_29 : decode cX12_isWord 29 = .ok (.aload_n 0, 1) := by decide +kernel
theorem dX12_isWord_30 : decode cX12_isWord 30 = .ok (.getfield 94, 3) := by decide +kernel
theorem dX12_isWord_33 : decode cX12_isWord 33 = .ok (.iload_n 1, 1) := by decide +kernel
theorem dX12_isWord_34 : decode cX12_isWord 34 = .ok (.laload, 1) := by decide +kernel
theorem dX12_isWord_35 : decode cX12_isWord 35 = .ok (.lcmp, 1) := by decide +kernel
theorem dX12_isWord_36 : decode cX12_isWord 36 = .ok (.ifCond .ne 7, 3) := by decide +kernel
theorem dX12_isWord_39 : decode cX12_isWord 39 = .ok (.iconst 1, 1) := by decide +kernel
theorem dX12_isWord_40 : decode cX12_isWord 40 = .ok (.goto 4, 3) := by decide +kernel
theorem dX12_isWord_43 : decode cX12_isWord 43 = .ok (.iconst 0, 1) := by decide +kernel
theorem dX12_isWord_44 : decode cX12_isWord 44 = .ok (.ireturn, 1) := by decide +kernel
theorem dX12_takeSign_0 : decode cX12_takeSign 0 = .ok (.aload_n 0, 1) := by decide +kernel
theorem dX12_takeSign_1 : decode cX12_takeSign 1 = .ok (.iload_n 1, 1) := by decide +kernel
theorem dX12_takeSign_2 : decode cX12_takeSign 2 = .ok (.invokevirtual 202, 3) := by decide +kernel
theorem dX12_takeSign_5 : decode cX12_takeSign 5 = .ok (.ifCond .eq 16, 3) := by decide +kernel
theorem dX12_takeSign_8 : decode cX12_takeSign 8 = .ok (.aload_n 0, 1) := by decide +kernel
theorem dX12_takeSign_9 : decode cX12_takeSign 9 = .ok (.dup, 1) := by decide +kernel
theorem dX12_takeSign_10 : decode cX12_takeSign 10 = .ok (.getfield 196, 3) := by decide +kernel
theorem dX12_takeSign_13 : decode cX12_takeSign 13 = .ok (.iconst 1, 1) := by decide +kernel
theorem dX12_takeSign_14 : decode cX12_takeSign 14 = .ok (.iadd, 1) := by decide +kernel
theorem dX12_takeSign_15 : decode cX12_takeSign 15 = .ok (.putfield 196, 3) := by decide +kernel
theorem dX12_takeSign_18 : decode cX12_takeSign 18 = .ok (.goto 8, 3) := by decide +kernel
theorem dX12_takeSign_21 : decode cX12_takeSign 21 = .ok (.aload_n 0, 1) := by decide +kernel
theorem dX12_takeSign_22 : decode cX12_takeSign 22 = .ok (.iconst 1, 1) := by decide +kernel
theorem dX12_takeSign_23 : decode cX12_takeSign 23 = .ok (.invokevirtual 205, 3) := by decide +kernel
theorem dX12_takeSign_26 : decode cX12_takeSign 26 = .ok (.return_, 1) := by decide +kernel
theorem dX12_hasSign_0 : decode cX12_hasSign 0 = .ok (.aload_n 0, 1) := by decide +kernel
theorem dX12_hasSign_1 : decode cX12_hasSign 1 = .ok (.iload_n 1, 1) := by decide +kernel
theorem dX12_hasSign_2 : decode cX12_hasSign 2 = .ok (.invokevirtual 202, 3) := by decide +kernel
theorem dX12_hasSign_5 : decode cX12_hasSign 5 = .ok (.istore_n 2, 1) := by decide +kernel
theorem dX12_hasSign_6 : decode cX12_hasSign 6 = .ok (.aload_n 0, 1) := by decide +kernel
theorem dX12_hasSign_7 : decode cX12_hasSign 7 = .ok (.dup, 1) := by decide +kernel
theorem dX12_hasSign_8 : decode cX12_hasSign 8 = .ok (.getfield 196, 3) := by decide +kernel
theorem dX12_hasSign_11 : decode cX12_hasSign 11 = .ok (.iload_n 2, 1) := by decide +kernel
theorem dX12_hasSign_12 : decode cX12_hasSign 12 = .ok (.ifCond .eq 7, 3) := by decide +kernel
theorem dX12_hasSign_15 : decode cX12_hasSign 15 = .ok (.iconst 1, 1) := by decide +kernel
theorem dX12_hasSign_16 : decode cX12_hasSign 16 = .ok (.goto 4, 3) := by decide +kernel
theorem dX12_hasSign_19 : decode cX12_hasSign 19 = .ok (.iconst 0, 1) := by decide +kernel
theorem dX12_hasSign_20 : decode cX12_hasSign 20 = .ok (.iadd, 1) := by decide +kernel
theorem dX12_hasSign_21 : decode cX12_hasSign 21 = .ok (.putfield 196, 3) := by decide +kernel
theorem dX12_hasSign_24 : decode cX12_hasSign 24 = .ok (.iload_n 2, 1) := by decide +kernel
theorem dX12_hasSign_25 : decode cX12_hasSign 25 = .ok (.ireturn, 1) := by decide +kernel
theorem dX12_hasWord_0 : decode cX12_hasWord 0 = .ok (.aload_n 0, 1) := by decide +kernel
theorem dX12_hasWord_1 : decode cX12_hasWord 1 = .ok (.iload_n 1, 1) := by decide +kernel
theorem dX12_hasWord_2 : decode cX12_hasWord 2 = .ok (.invokevirtual 209, 3) := by decide +kernel
theorem dX12_hasWord_5 : decode cX12_hasWord 5 = .ok (.istore_n 2, 1) := by decide +kernel
theorem dX12_hasWord_6 : decode cX12_hasWord 6 = .ok (.aload_n 0, 1) := by decide +kernel
theorem dX12_hasWord_7 : decode cX12_hasWord 7 = .ok (.dup, 1) := by decide +kernel
theorem dX12_hasWord_8 : decode cX12_hasWord 8 = .ok (.getfield 196, 3) := by decide +kernel
theorem dX12_hasWord_11 : decode cX12_hasWord 11 = .ok (.iload_n 2, 1) := by decide +kernel
theorem dX12_hasWord_12 : decode cX12_hasWord 12 = .ok (.ifCond .eq 7, 3) := by decide +kernel
theorem dX12_hasWord_15 : decode cX12_hasWord 15 = .ok (.iconst 1, 1) := by decide +kernel
theorem dX12_hasWord_16 : decode cX12_hasWord 16 = .ok (.goto 4, 3) := by decide +kernel
theorem dX12_hasWord_19 : decode cX12_hasWord 19 = .ok (.iconst 0, 1) := by decide +kernel
theorem dX12_hasWord_20 : decode cX12_hasWord 20 = .ok (.iadd, 1) := by decide +kernel
theorem dX12_hasWord_21 : decode cX12_hasWord 21 = .ok (.putfield 196, 3) := by decide +kernel
theorem dX12_hasWord_24 : decode cX12_hasWord 24 = .ok (.iload_n 2, 1) := by decide +kernel
theorem dX12_hasWord_25 : decode cX12_hasWord 25 = .ok (.ireturn, 1) := by decide +kernel
theorem dX12_takeWord_0 : decode cX12_takeWord 0 = .ok (.aload_n 0, 1) := by decide +kernel
theorem dX12_takeWord_1 : decode cX12_takeWord 1 = .ok (.iload_n 1, 1) := by decide +kernel
theorem dX12_takeWord_2 : decode cX12_takeWord 2 = .ok (.invokevirtual 212, 3) := by decide +kernel
theorem dX12_takeWord_5 : decode cX12_takeWord 5 = .ok (.ifCond .ne 8, 3) := by decide +kernel
theorem dX12_takeWord_8 : decode cX12_takeWord 8 = .ok (.aload_n 0, 1) := by decide +kernel
theorem dX12_takeWord_9 : decode cX12_takeWord 9 = .ok (.iconst 1, 1) := by decide +kernel
theorem dX12_takeWord_10 : decode cX12_takeWord 10 = .ok (.invokevirtual 205, 3) := by decide +kernel
theorem dX12_takeWord_13 : decode cX12_takeWord 13 = .ok (.return_, 1) := by decide +kernel
theorem dX12_within_0 : decode cX12_within 0 = .ok (.iload_n 0, 1) := by decide +kernel
theorem dX12_within_1 : decode cX12_within 1 = .ok (.iload_n 1, 1) := by decide +kernel
theorem dX12_within_2 : decode cX12_within 2 = .ok (.if_icmp .lt 12, 3) := by decide +kernel
theorem dX12_within_5 : decode cX12_within 5 = .ok (.iload_n 0, 1) := by decide +kernel
theorem dX12_within_6 : decode cX12_within 6 = .ok (.iload_n 2, 1) := by decide +kernel
theorem dX12_within_7 : decode cX12_within 7 = .ok (.if_icmp .gt 7, 3) := by decide +kernel
theorem dX12_within_10 : decode cX12_within 10 = .ok (.iconst 1, 1) := by decide +kernel
theorem dX12_within_11 : decode cX12_within 11 = .ok (.goto 4, 3) := by decide +kernel
theorem dX12_within_14 : decode cX12_within 14 = .ok (.iconst 0, 1) := by decide +kernel
theorem dX12_within_15 : decode cX12_within 15 = .ok (.ireturn, 1) := by decide +kernel
theorem dX12_takeNumber_0 : decode cX12_takeNumber 0 = .ok (.aload_n 0, 1) := by decide +kernel
theorem dX12_takeNumber_1 : decode cX12_takeNumber 1 = .ok (.getfield 199, 3) := by decide +kernel
theorem dX12_takeNumber_4 : decode cX12_takeNumber 4 = .ok (.ifCond .ne 24, 3) := by decide +kernel
theorem dX12_takeNumber_7 : decode cX12_takeNumber 7 = .ok (.aload_n 0, 1) := by decide +kernel
theorem dX12_takeNumber_8 : decode cX12_takeNumber 8 = .ok (.getfield 24, 3) := by decide +kernel
theorem dX12_takeNumber_11 : decode cX12_takeNumber 11 = .ok (.aload_n 0, 1) := by decide +kernel
theorem dX12_takeNumber_12 : decode cX12_takeNumber 12 = .ok (.getfield 196, 3) := by decide +kernel
theorem dX12_takeNumber_15 : decode cX12_takeNumber 15 = .ok (.iaload, 1) := by decide +kernel
theorem dX12_takeNumber_16 : decode cX12_takeNumber 16 = .ok (.iconst 2, 1) := by decide +kernel
theorem dX12_takeNumber_17 : decode cX12_takeNumber 17 = .ok (.if_icmp .eq 11, 3) := by decide +kernel
theorem dX12_takeNumber_20 : decode cX12_takeNumber 20 = .ok (.aload_n 0, 1) := by decide +kernel
theorem dX12_takeNumber_21 : decode cX12_takeNumber 21 = .ok (.iconst 1, 1) := by decide +kernel
theorem dX12_takeNumber_22 : decode cX12_takeNumber 22 = .ok (.invokevirtual 205, 3) := by decide +kernel
theorem dX12_takeNumber_25 : decode cX12_takeNumber 25 = .ok (.goto 45, 3) := by decide +kernel
theorem dX12_takeNumber_28 : decode cX12_takeNumber 28 = .ok (.aload_n 0, 1) := by decide +kernel
theorem dX12_takeNumber_29 : decode cX12_takeNumber 29 = .ok (.getfield 199, 3) := by decide +kernel
theorem dX12_takeNumber_32 : decode cX12_takeNumber 32 = .ok (.ifCond .ne 38, 3) := by decide +kernel
theorem dX12_takeNumber_35 : decode cX12_takeNumber 35 = .ok (.aload_n 0, 1) := by decide +kernel
theorem dX12_takeNumber_36 : decode cX12_takeNumber 36 = .ok (.getfield 30, 3) := by decide +kernel
theorem dX12_takeNumber_39 : decode cX12_takeNumber 39 = .ok (.aload_n 0, 1) := by decide +kernel
theorem dX12_takeNumber_40 : decode cX12_takeNumber 40 = .ok (.getfield 196, 3) := by decide +kernel
theorem dX12_takeNumber_43 : decode cX12_takeNumber 43 = .ok (.laload, 1) := by decide +kernel
theorem dX12_takeNumber_44 : decode cX12_takeNumber 44 = .ok (.iload_n 1, 1) := by decide +kernel
theorem dX12_takeNumber_45 : decode cX12_takeNumber 45 = .ok (.i2l, 1) := by decide +kernel
theorem dX12_takeNumber_46 : decode cX12_takeNumber 46 = .ok (.lcmp, 1) := by decide +kernel
theorem dX12_takeNumber_47 : decode cX12_takeNumber 47 = .ok (.ifCond .lt 18, 3) := by decide +kernel
theorem dX12_takeNumber_50 : decode cX12_takeNumber 50 = .ok (.aload_n 0, 1) := by decide +kernel
theorem dX12_takeNumber_51 : decode cX12_takeNumber 51 = .ok (.getfield 30, 3) := by decide +kernel
theorem dX12_takeNumber_54 : decode cX12_takeNumber 54 = .ok (.aload_n 0, 1) := by decide +kernel
theorem dX12_takeNumber_55 : decode cX12_takeNumber 55 = .ok (.getfield 196, 3) := by decide +kernel
theorem dX12_takeNumber_58 : decode cX12_takeNumber 58 = .ok (.laload, 1) := by decide +kernel
theorem dX12_takeNumber_59 : decode cX12_takeNumber 59 = .ok (.iload_n 2, 1) := by decide +kernel
theorem dX12_takeNumber_60 : decode cX12_takeNumber 60 = .ok (.i2l, 1) := by decide +kernel
theorem dX12_takeNumber_61 : decode cX12_takeNumber 61 = .ok (.lcmp, 1) := by decide +kernel
theorem dX12_takeNumber_62 : decode cX12_takeNumber 62 = .ok (.ifCond .le 8, 3) := by decide +kernel
theorem dX12_takeNumber_65 : decode cX12_takeNumber 65 = .ok (.aload_n 0, 1) := by decide +kernel
theorem dX12_takeNumber_66 : decode cX12_takeNumber 66 = .ok (.iconst 4, 1) := by decide +kernel
theorem dX12_takeNumber_67 : decode cX12_takeNumber 67 = .ok (.invokevirtual 205, 3) := by decide +kernel
theorem dX12_takeNumber_70 : decode cX12_takeNumber 70 = .ok (.aload_n 0, 1) := by decide +kernel
theorem dX12_takeNumber_71 : decode cX12_takeNumber 71 = .ok (.getfield 199, 3) := by decide +kernel
theorem dX12_takeNumber_74 : decode cX12_takeNumber 74 = .ok (.ifCond .le 5, 3) := by decide +kernel
theorem dX12_takeNumber_77 : decode cX12_takeNumber 77 = .ok (.iconst 0, 1) := by decide +kernel
theorem dX12_takeNumber_78 : decode cX12_takeNumber 78 = .ok (.ireturn, 1) := by decide +kernel
theorem dX12_takeNumber_79 : decode cX12_takeNumber 79 = .ok (.aload_n 0, 1) := by decide +kernel
theorem dX12_takeNumber_80 : decode cX12_takeNumber 80 = .ok (.dup, 1) := by decide +kernel
theorem dX12_takeNumber_81 : decode cX12_takeNumber 81 = .ok (.getfield 196, 3) := by decide +kernel
theorem dX12_takeNumber_84 : decode cX12_takeNumber 84 = .ok (.iconst 1, 1) := by decide +kernel
theorem dX12_takeNumber_85 : decode cX12_takeNumber 85 = .ok (.iadd, 1) := by decide +kernel
theorem dX12_takeNumber_86 : decode cX12_takeNumber 86 = .ok (.putfield 196, 3) := by decide +kernel
theorem dX12_takeNumber_89 : decode cX12_takeNumber 89 = .ok (.aload_n 0, 1) := by decide +kernel
theorem dX12_takeNumber_90 : decode cX12_takeNumber 90 = .ok (.getfield 30, 3) := by decide +kernel
theorem dX12_takeNumber_93 : decode cX12_takeNumber 93 = .ok (.aload_n 0, 1) := by decide +kernel
theorem dX12_takeNumber_94 : decode cX12_takeNumber 94 = .ok (.getfield 196, 3) := by decide +kernel
theorem dX12_takeNumber_97 : decode cX12_takeNumber 97 = .ok (.iconst 1, 1) := by decide +kernel
theorem dX12_takeNumber_98 : decode cX12_takeNumber 98 = .ok (.isub, 1) := by decide +kernel
theorem dX12_takeNumber_99 : decode cX12_takeNumber 99 = .ok (.laload, 1) := by decide +kernel
theorem dX12_takeNumber_100 : decode cX12_takeNumber 100 = .ok (.l2i, 1) := by decide +kernel
theorem dX12_takeNumber_101 : decode cX12_takeNumber 101 = .ok (.ireturn, 1) := by decide +kernel
theorem dX12_town_0 : decode cX12_town 0 = .ok (.aload_n 0, 1) := by decide +kernel
theorem dX12_town_1 : decode cX12_town 1 = .ok (.iconst 0, 1) := by decide +kernel
theorem dX12_town_2 : decode cX12_town 2 = .ok (.putfield 1, 3) := by decide +kernel
theorem dX12_town_5 : decode cX12_town 5 = .ok (.aload_n 0, 1) := by decide +kernel
theorem dX12_town_6 : decode cX12_town 6 = .ok (.invokevirtual 215, 3) := by decide +kernel
theorem dX12_town_9 : decode cX12_town 9 = .ok (.aload_n 0, 1) := by decide +kernel
theorem dX12_town_10 : decode cX12_town 10 = .ok (.iconst 0, 1) := by decide +kernel
theorem dX12_town_11 : decode cX12_town 11 = .ok (.putfield 218, 3) := by decide +kernel
theorem dX12_town_14 : decode cX12_town 14 = .ok (.iconst 0, 1) := by decide +kernel
theorem dX12_town_15 : decode cX12_town 15 = .ok (.istore_n 1, 1) := by decide +kernel
theorem dX12_town_16 : decode cX12_town 16 = .ok (.iload_n 1, 1) := by decide +kernel
theorem dX12_town_17 : decode cX12_town 17 = .ok (.sipush 440, 3) := by decide +kernel
theorem dX12_town_20 : decode cX12_town 20 = .ok (.if_icmp .ge 20, 3) := by decide +kernel
theorem dX12_town_23 : decode cX12_town 23 = .ok (.aload_n 0, 1) := by decide +kernel
theorem dX12_town_24 : decode cX12_town 24 = .ok (.getfield 97, 3) := by decide +kernel
theorem dX12_town_27 : decode cX12_town 27 = .ok (.sipush 440, 3) := by decide +kernel
theorem dX12_town_30 : decode cX12_town 30 = .ok (.iload_n 1, 1) := by decide +kernel
theorem dX12_town_31 : decode cX12_town 31 = .ok (.iadd, 1) := by decide +kernel
theorem dX12_town_32 : decode cX12_town 32 = .ok (.iconst 0, 1) := by decide +kernel
theorem dX12_town_33 : decode cX12_town 33 = .ok (.iastore, 1) := by decide +kernel
theorem dX12_town_34 : decode cX12_town 34 = .ok (.iinc 1 1, 3) := by decide +kernel
theorem dX12_town_37 : decode cX12_town 37 = .ok (.goto (-21), 3) := by decide +kernel
theorem dX12_town_40 : decode cX12_town 40 = .ok (.aload_n 0, 1) := by decide +kernel
theorem dX12_town_41 : decode cX12_town 41 = .ok (.getfield 199, 3) := by decide +kernel
theorem dX12_town_44 : decode cX12_town 44 = .ok (.ifCond .ne 28, 3) := by decide +kernel
theorem dX12_town_47 : decode cX12_town 47 = .ok (.aload_n 0, 1) := by decide +kernel
theorem dX12_town_48 : decode cX12_town 48 = .ok (.getfield 24, 3) := by decide +kernel
theorem dX12_town_51 : decode cX12_town 51 = .ok (.aload_n 0, 1) := by decide +kernel
theorem dX12_town_52 : decode cX12_town 52 = .ok (.getfield 196, 3) := by decide +kernel
theorem dX12_town_55 : decode cX12_town 55 = .ok (.iaload, 1) := by decide +kernel
theorem dX12_town_56 : decode cX12_town 56 = .ok (.ifCond .eq 16, 3) := by decide +kernel
theorem dX12_town_59 : decode cX12_town 59 = .ok (.aload_n 0, 1) := by decide +kernel
theorem dX12_town_60 : decode cX12_town 60 = .ok (.invokevirtual 221, 3) := by decide +kernel
theorem dX12_town_63 : decode cX12_town 63 = .ok (.aload_n 0, 1) := by decide +kernel
theorem dX12_town_64 : decode cX12_town 64 = .ok (.bipush 59, 2) := by decide +kernel
theorem dX12_town_66 : decode cX12_town 66 = .ok (.invokevirtual 224, 3) := by decide +kernel
theorem dX12_town_69 : decode cX12_town 69 = .ok (.goto (-29), 3) := by decide +kernel
theorem dX12_town_72 : decode cX12_town 72 = .ok (.aload_n 0, 1) := by decide +kernel
theorem dX12_town_73 : decode cX12_town 73 = .ok (.getfield 199, 3) := by decide +kernel
theorem dX12_town_76 : decode cX12_town 76 = .ok (.ifCond .le 8, 3) := by decide +kernel
theorem dX12_town_79 : decode cX12_town 79 = .ok (.aload_n 0, 1) := by decide +kernel
theorem dX12_town_80 : decode cX12_town 80 = .ok (.getfield 199, 3) := by decide +kernel
theorem dX12_town_83 : decode cX12_town 83 = .ok (.ireturn, 1) := by decide +kernel
theorem dX12_town_84 : decode cX12_town 84 = .ok (.aload_n 0, 1) := by decide +kernel
theorem dX12_town_85 : decode cX12_town 85 = .ok (.iconst 1, 1) := by decide +kernel
theorem dX12_town_86 : decode cX12_town 86 = .ok (.iconst 0, 1) := by decide +kernel
theorem dX12_town_87 : decode cX12_town 87 = .ok (.invokevirtual 227, 3) := by decide +kernel
theorem dX12_town_90 : decode cX12_town 90 = .ok (.aload_n 0, 1) := by decide +kernel
theorem dX12_town_91 : decode cX12_town 91 = .ok (.iconst 0, 1) := by decide +kernel
theorem dX12_town_92 : decode cX12_town 92 = .ok (.putfield 231, 3) := by decide +kernel
theorem dX12_town_95 : decode cX12_town 95 = .ok (.aload_n 0, 1) := by decide +kernel
theorem dX12_town_96 : decode cX12_town 96 = .ok (.iconst 0, 1) := by decide +kernel
theorem dX12_town_97 : decode cX12_town 97 = .ok (.putfield 234, 3) := by decide +kernel
theorem dX12_town_100 : decode cX12_town 100 = .ok (.aload_n 0, 1) := by decide +kernel
theorem dX12_town_101 : decode cX12_town 101 = .ok (.iconst 0, 1) := by decide +kernel
theorem dX12_town_102 : decode cX12_town 102 = .ok (.putfield 237, 3) := by decide +kernel
theorem dX12_town_105 : decode cX12_town 105 = .ok (.aload_n 0, 1) := by decide +kernel
theorem dX12_town_106 : decode cX12_town 106 = .ok (.iconst (-1), 1) := by decide +kernel
theorem dX12_town_107 : decode cX12_town 107 = .ok (.putfield 170, 3) := by decide +kernel
theorem dX12_town_110 : decode cX12_town 110 = .ok (.iconst 0, 1) := by decide +kernel
theorem dX12_town_111 : decode cX12_town 111 = .ok (.ireturn, 1) := by decide +kernel
theorem dX12_carry_0 : decode cX12_carry 0 = .ok (.iconst 0, 1) := by decide +kernel
theorem dX12_carry_1 : decode cX12_carry 1 = .ok (.istore_n 3, 1) := by decide +kernel
theorem dX12_carry_2 : decode cX12_carry 2 = .ok (.iload_n 3, 1) := by decide +kernel
theorem dX12_carry_3 : decode cX12_carry 3 = .ok (.sipush 440, 3) := by decide +kernel
theorem dX12_carry_6 : decode cX12_carry 6 = .ok (.if_icmp .ge 33, 3) := by decide +kernel
theorem dX12_carry_9 : decode cX12_carry 9 = .ok (.aload_n 0, 1) := by decide +kernel
theorem dX12_carry_10 : decode cX12_carry 10 = .ok (.getfield 97, 3) := by decide +kernel
theorem dX12_carry_13 : decode cX12_carry 13 = .ok (.sipush 440, 3) := by decide +kernel
theorem dX12_carry_16 : decode cX12_carry 16 = .ok (.iload_n 2, 1) := by decide +kernel
theorem dX12_carry_17 : decode cX12_carry 17 = .ok (.imul, 1) := by decide +kernel
theorem dX12_carry_18 : decode cX12_carry 18 = .ok (.iload_n 3, 1) := by decide +kernel
theorem dX12_carry_19 : decode cX12_carry 19 = .ok (.iadd, 1) := by decide +kernel
theorem dX12_carry_20 : decode cX12_carry 20 = .ok (.aload_n 0, 1) := by decide +kernel
theorem dX12_carry_21 : decode cX12_carry 21 = .ok (.getfield 97, 3) := by decide +kernel
theorem dX12_carry_24 : decode cX12_carry 24 = .ok (.sipush 440, 3) := by decide +kernel
theorem dX12_carry_27 : decode cX12_carry 27 = .ok (.iload_n 1, 1) := by decide +kernel
theorem dX12_carry_28 : decode cX12_carry 28 = .ok (.imul, 1) := by decide +kernel
theorem dX12_carry_29 : decode cX12_carry 29 = .ok (.iload_n 3, 1) := by decide +kernel
theorem dX12_carry_30 : decode cX12_carry 30 = .ok (.iadd, 1) := by decide +kernel
theorem dX12_carry_31 : decode cX12_carry 31 = .ok (.iaload, 1) := by decide +kernel
theorem dX12_carry_32 : decode cX12_carry 32 = .ok (.iastore, 1) := by decide +kernel
theorem dX12_carry_33 : decode cX12_carry 33 = .ok (.iinc 3 1, 3) := by decide +kernel
theorem dX12_carry_36 : decode cX12_carry 36 = .ok (.goto (-34), 3) := by decide +kernel
theorem dX12_carry_39 : decode cX12_carry 39 = .ok (.iconst 0, 1) := by decide +kernel
theorem dX12_carry_40 : decode cX12_carry 40 = .ok (.istore_n 3, 1) := by decide +kernel
theorem dX12_carry_41 : decode cX12_carry 41 = .ok (.iload_n 3, 1) := by decide +kernel
theorem dX12_carry_42 : decode cX12_carry 42 = .ok (.sipush 1100, 3) := by decide +kernel
theorem dX12_carry_45 : decode cX12_carry 45 = .ok (.if_icmp .ge 57, 3) := by decide +kernel
theorem dX12_carry_48 : decode cX12_carry 48 = .ok (.aload_n 0, 1) := by decide +kernel
theorem dX12_carry_49 : decode cX12_carry 49 = .ok (.getfield 100, 3) := by decide +kernel
theorem dX12_carry_52 : decode cX12_carry 52 = .ok (.sipush 1100, 3) := by decide +kernel
theorem dX12_carry_55 : decode cX12_carry 55 = .ok (.iload_n 2, 1) := by decide +kernel
theorem dX12_carry_56 : decode cX12_carry 56 = .ok (.imul, 1) := by decide +kernel
theorem dX12_carry_57 : decode cX12_carry 57 = .ok (.iload_n 3, 1) := by decide +kernel
theorem dX12_carry_58 : decode cX12_carry 58 = .ok (.iadd, 1) := by decide +kernel
theorem dX12_carry_59 : decode cX12_carry 59 = .ok (.aload_n 0, 1) := by decide +kernel
theorem dX12_carry_60 : decode cX12_carry 60 = .ok (.getfield 100, 3) := by decide +kernel
theorem dX12_carry_63 : decode cX12_carry 63 = .ok (.sipush 1100, 3) := by decide +kernel
theorem dX12_carry_66 : decode cX12_carry 66 = .ok (.iload_n 1, 1) := by decide +kernel
theorem dX12_carry_67 : decode cX12_carry 67 = .ok (.imul, 1) := by decide +kernel
theorem dX12_carry_68 : decode cX12_carry 68 = .ok (.iload_n 3, 1) := by decide +kernel
theorem dX12_carry_69 : decode cX12_carry 69 = .ok (.iadd, 1) := by decide +kernel
theorem dX12_carry_70 : decode cX12_carry 70 = .ok (.iaload, 1) := by decide +kernel
theorem dX12_carry_71 : decode cX12_carry 71 = .ok (.iastore, 1) := by decide +kernel
theorem dX12_carry_72 : decode cX12_carry 72 = .ok (.aload_n 0, 1) := by decide +kernel
theorem dX12_carry_73 : decode cX12_carry 73 = .ok (.getfield 103, 3) := by decide +kernel
theorem dX12_carry_76 : decode cX12_carry 76 = .ok (.sipush 1100, 3) := by decide +kernel
theorem dX12_carry_79 : decode cX12_carry 79 = .ok (.iload_n 2, 1) := by decide +kernel
theorem dX12_carry_80 : decode cX12_carry 80 = .ok (.imul, 1) := by decide +kernel
theorem dX12_carry_81 : decode cX12_carry 81 = .ok (.iload_n 3, 1) := by decide +kernel
theorem dX12_carry_82 : decode cX12_carry 82 = .ok (.iadd, 1) := by decide +kernel
theorem dX12_carry_83 : decode cX12_carry 83 = .ok (.aload_n 0, 1) := by decide +kernel
theorem dX12_carry_84 : decode cX12_carry 84 = .ok (.getfield 103, 3) := by decide +kernel
theorem dX12_carry_87 : decode cX12_carry 87 = .ok (.sipush 1100, 3) := by decide +kernel
theorem dX12_carry_90 : decode cX12_carry 90 = .ok (.iload_n 1, 1) := by decide +kernel
theorem dX12_carry_91 : decode cX12_carry 91 = .ok (.imul, 1) := by decide +kernel
theorem dX12_carry_92 : decode cX12_carry 92 = .ok (.iload_n 3, 1) := by decide +kernel
theorem dX12_carry_93 : decode cX12_carry 93 = .ok (.iadd, 1) := by decide +kernel
theorem dX12_carry_94 : decode cX12_carry 94 = .ok (.iaload, 1) := by decide +kernel
theorem dX12_carry_95 : decode cX12_carry 95 = .ok (.iastore, 1) := by decide +kernel
theorem dX12_carry_96 : decode cX12_carry 96 = .ok (.iinc 3 1, 3) := by decide +kernel
theorem dX12_carry_99 : decode cX12_carry 99 = .ok (.goto (-58), 3) := by decide +kernel
theorem dX12_carry_102 : decode cX12_carry 102 = .ok (.return_, 1) := by decide +kernel
theorem dX12_readLine_0 : decode cX12_readLine 0 = .ok (.iconst (-1), 1) := by decide +kernel
theorem dX12_readLine_1 : decode cX12_readLine 1 = .ok (.istore_n 1, 1) := by decide +kernel
theorem dX12_readLine_2 : decode cX12_readLine 2 = .ok (.iconst 0, 1) := by decide +kernel
theorem dX12_readLine_3 : decode cX12_readLine 3 = .ok (.istore_n 2, 1) := by decide +kernel
theorem dX12_readLine_4 : decode cX12_readLine 4 = .ok (.iload_n 2, 1) := by decide +kernel
theorem dX12_readLine_5 : decode cX12_readLine 5 = .ok (.bipush 6, 2) := by decide +kernel
theorem dX12_readLine_7 : decode cX12_readLine 7 = .ok (.if_icmp .gt 23, 3) := by decide +kernel
theorem dX12_readLine_10 : decode cX12_readLine 10 = .ok (.aload_n 0, 1) := by decide +kernel
theorem dX12_readLine_11 : decode cX12_readLine 11 = .ok (.iload_n 2, 1) := by decide +kernel
theorem dX12_readLine_12 : decode cX12_readLine 12 = .ok (.invokevirtual 209, 3) := by decide +kernel
theorem dX12_readLine_15 : decode cX12_readLine 15 = .ok (.ifCond .eq 7, 3) := by decide +kernel
theorem dX12_readLine_18 : decode cX12_readLine 18 = .ok (.iload_n 2, 1) := by decide +kernel
theorem dX12_readLine_19 : decode cX12_readLine 19 = .ok (.goto 4, 3) := by decide +kernel
theorem dX12_readLine_22 : decode cX12_readLine 22 = .ok (.iload_n 1, 1) := by decide +kernel
theorem dX12_readLine_23 : decode cX12_readLine 23 = .ok (.istore_n 1, 1) := by decide +kernel
theorem dX12_readLine_24 : decode cX12_readLine 24 = .ok (.iinc 2 1, 3) := by decide +kernel
theorem dX12_readLine_27 : decode cX12_readLine 27 = .ok (.goto (-23), 3) := by decide +kernel
theorem dX12_readLine_30 : decode cX12_readLine 30 = .ok (.aload_n 0, 1) := by decide +kernel
theorem dX12_readLine_31 : decode cX12_readLine 31 = .ok (.bipush 29, 2) := by decide +kernel
theorem dX12_readLine_33 : decode cX12_readLine 33 = .ok (.invokevirtual 209, 3) := by decide +kernel
theorem dX12_readLine_36 : decode cX12_readLine 36 = .ok (.ifCond .eq 10, 3) := by decide +kernel
theorem dX12_readLine_39 : decode cX12_readLine 39 = .ok (.aload_n 0, 1) := by decide +kernel
theorem dX12_readLine_40 : decode cX12_readLine 40 = .ok (.invokevirtual 240, 3) := by decide +kernel
theorem dX12_readLine_43 : decode cX12_readLine 43 = .ok (.goto 57, 3) := by decide +kernel
theorem dX12_readLine_46 : decode cX12_readLine 46 = .ok (.iload_n 1, 1) := by decide +kernel
theorem dX12_readLine_47 : decode cX12_readLine 47 = .ok (.ifCond .ge 11, 3) := by decide +kernel
theorem dX12_readLine_50 : decode cX12_readLine 50 = .ok (.aload_n 0, 1) := by decide +kernel
theorem dX12_readLine_51 : decode cX12_readLine 51 = .ok (.iconst 1, 1) := by decide +kernel
theorem dX12_readLine_52 : decode cX12_readLine 52 = .ok (.invokevirtual 205, 3) := by decide +kernel
theorem dX12_readLine_55 : decode cX12_readLine 55 = .ok (.goto 45, 3) := by decide +kernel
theorem dX12_readLine_58 : decode cX12_readLine 58 = .ok (.iload_n 1, 1) := by decide +kernel
theorem dX12_readLine_59 : decode cX12_readLine 59 = .ok (.iconst 2, 1) := by decide +kernel
theorem dX12_readLine_60 : decode cX12_readLine 60 = .ok (.if_icmp .gt 11, 3) := by decide +kernel
theorem dX12_readLine_63 : decode cX12_readLine 63 = .ok (.aload_n 0, 1) := by decide +kernel
theorem dX12_readLine_64 : decode cX12_readLine 64 = .ok (.iload_n 1, 1) := by decide +kernel
theorem dX12_readLine_65 : decode cX12_readLine 65 = .ok (.invokevirtual 243, 3) := by decide +kernel
theorem dX12_readLine_68 : decode cX12_readLine 68 = .ok (.goto 32, 3) := by decide +kernel
theorem dX12_readLine_71 : decode cX12_readLine 71 = .ok (.iload_n 1, 1) := by decide +kernel
theorem dX12_readLine_72 : decode cX12_readLine 72 = .ok (.iconst 4, 1) := by decide +kernel
theorem dX12_readLine_73 : decode cX12_readLine 73 = .ok (.if_icmp .gt 11, 3) := by decide +kernel
theorem dX12_readLine_76 : decode cX12_readLine 76 = .ok (.aload_n 0, 1) := by decide +kernel
theorem dX12_readLine_77 : decode cX12_readLine 77 = .ok (.iload_n 1, 1) := by decide +kernel
theorem dX12_readLine_78 : decode cX12_readLine 78 = .ok (.invokevirtual 246, 3) := by decide +kernel
theorem dX12_readLine_81 : decode cX12_readLine 81 = .ok (.goto 19, 3) := by decide +kernel
theorem dX12_readLine_84 : decode cX12_readLine 84 = .ok (.iload_n 1, 1) := by decide +kernel
theorem dX12_readLine_85 : decode cX12_readLine 85 = .ok (.iconst 5, 1) := by decide +kernel
theorem dX12_readLine_86 : decode cX12_readLine 86 = .ok (.if_icmp .ne 10, 3) := by decide +kernel
theorem dX12_readLine_89 : decode cX12_readLine 89 = .ok (.aload_n 0, 1) := by decide +kernel
theorem dX12_readLine_90 : decode cX12_readLine 90 = .ok (.invokevirtual 249, 3) := by decide +kernel
theorem dX12_readLine_93 : decode cX12_readLine 93 = .ok (.goto 7, 3) := by decide +kernel
theorem dX12_readLine_96 : decode cX12_readLine 96 = .ok (.aload_n 0, 1) := by decide +kernel
theorem dX12_readLine_97 : decode cX12_readLine 97 = .ok (.invokevirtual 252, 3) := by decide +kernel
theorem dX12_readLine_100 : decode cX12_readLine 100 = .ok (.return_, 1) := by decide +kernel
theorem dX12_readThing_0 : decode cX12_readThing 0 = .ok (.aload_n 0, 1) := by decide +kernel
theorem dX12_readThing_1 : decode cX12_readThing 1 = .ok (.dup, 1) := by decide +kernel
theorem dX12_readThing_2 : decode cX12_readThing 2 = .ok (.getfield 196, 3) := by decide +kernel
theorem dX12_readThing_5 : decode cX12_readThing 5 = .ok (.iconst 1, 1) := by decide +kernel
theorem dX12_readThing_6 : decode cX12_readThing 6 = .ok (.iadd, 1) := by decide +kernel
theorem dX12_readThing_7 : decode cX12_readThing 7 = .ok (.putfield 196, 3) := by decide +kernel
theorem dX12_readThing_10 : decode cX12_readThing 10 = .ok (.aload_n 0, 1) := by decide +kernel
theorem dX12_readThing_11 : decode cX12_readThing 11 = .ok (.iconst 0, 1) := by decide +kernel
theorem dX12_readThing_12 : decode cX12_readThing 12 = .ok (.bipush 9, 2) := by decide +kernel
theorem dX12_readThing_14 : decode cX12_readThing 14 = .ok (.invokevirtual 255, 3) := by decide +kernel
theorem dX12_readThing_17 : decode cX12_readThing 17 = .ok (.istore_n 2, 1) := by decide +kernel
theorem dX12_readThing_18 : decode cX12_readThing 18 = .ok (.aload_n 0, 1) := by decide +kernel
theorem dX12_readThing_19 : decode cX12_readThing 19 = .ok (.getfield 199, 3) := by decide +kernel
theorem dX12_readThing_22 : decode cX12_readThing 22 = .ok (.ifCond .ne 64, 3) := by decide +kernel
theorem dX12_readThing_25 : decode cX12_readThing 25 = .ok (.aload_n 0, 1) := by decide +kernel
theorem dX12_readThing_26 : decode cX12_readThing 26 = .ok (.getfield 24, 3) := by decide +kernel
theorem dX12_readThing_29 : decode cX12_readThing 29 = .ok (.aload_n 0, 1) := by decide +kernel
theorem dX12_readThing_30 : decode cX12_readThing 30 = .ok (.getfield 196, 3) := by decide +kernel
theorem dX12_readThing_33 : decode cX12_readThing 33 = .ok (.iaload, 1) := by decide +kernel
theorem dX12_readThing_34 : decode cX12_readThing 34 = .ok (.iconst 2, 1) := by decide +kernel
theorem dX12_readThing_35 : decode cX12_readThing 35 = .ok (.if_icmp .ne 51, 3) := by decide +kernel
theorem dX12_readThing_38 : decode cX12_readThing 38 = .ok (.aload_n 0, 1) := by decide +kernel
theorem dX12_readThing_39 : decode cX12_readThing 39 = .ok (.getfield 30, 3) := by decide +kernel
theorem dX12_readThing_42 : decode cX12_readThing 42 = .ok (.aload_n 0, 1) := by decide +kernel
theorem dX12_readThing_43 : decode cX12_readThing 43 = .ok (.getfield 196, 3) := by decide +kernel
theorem dX12_readThing_46 : decode cX12_readThing 46 = .ok (.laload, 1) := by decide +kernel
theorem dX12_readThing_47 : decode cX12_readThing 47 = .ok (.ldc2_w 189, 3) := by decide +kernel
theorem dX12_readThing_50 : decode cX12_readThing 50 = .ok (.lcmp, 1) := by decide +kernel
theorem dX12_readThing_51 : decode cX12_readThing 51 = .ok (.ifCond .ge 35, 3) := by decide +kernel
theorem dX12_readThing_54 : decode cX12_readThing 54 = .ok (.aload_n 0, 1) := by decide +kernel
theorem dX12_readThing_55 : decode cX12_readThing 55 = .ok (.getfield 97, 3) := by decide +kernel
theorem dX12_readThing_58 : decode cX12_readThing 58 = .ok (.sipush 440, 3) := by decide +kernel
theorem dX12_readThing_61 : decode cX12_readThing 61 = .ok (.bipush 10, 2) := by decide +kernel
theorem dX12_readThing_63 : decode cX12_readThing 63 = .ok (.aload_n 0, 1) := by decide +kernel
theorem dX12_readThing_64 : decode cX12_readThing 64 = .ok (.getfield 30, 3) := by decide +kernel
theorem dX12_readThing_67 : decode cX12_readThing 67 = .ok (.aload_n 0, 1) := by decide +kernel
theorem dX12_readThing_68 : decode cX12_readThing 68 = .ok (.getfield 196, 3) := by decide +kernel
theorem dX12_readThing_71 : decode cX12_readThing 71 = .ok (.laload, 1) := by decide +kernel
theorem dX12_readThing_72 : decode cX12_readThing 72 = .ok (.l2i, 1) := by decide +kernel
theorem dX12_readThing_73 : decode cX12_readThing 73 = .ok (.imul, 1) := by decide +kernel
theorem dX12_readThing_74 : decode cX12_readThing 74 = .ok (.iadd, 1) := by decide +kernel
theorem dX12_readThing_75 : decode cX12_readThing 75 = .ok (.iload_n 2, 1) := by decide +kernel
theorem dX12_readThing_76 : decode cX12_readThing 76 = .ok (.iadd, 1) := by decide +kernel
theorem dX12_readThing_77 : decode cX12_readThing 77 = .ok (.iaload, 1) := by decide +kernel
theorem dX12_readThing_78 : decode cX12_readThing 78 = .ok (.ifCond .le 8, 3) := by decide +kernel
theorem dX12_readThing_81 : decode cX12_readThing 81 = .ok (.aload_n 0, 1) := by decide +kernel
theorem dX12_readThing_82 : decode cX12_readThing 82 = .ok (.iconst 3, 1) := by decide +kernel
theorem dX12_readThing_83 : decode cX12_readThing 83 = .ok (.invokevirtual 205, 3) := by decide +kernel
theorem dX12_readThing_86 : decode cX12_readThing 86 = .ok (.aload_n 0, 1) := by decide +kernel
theorem dX12_readThing_87 : decode cX12_readThing 87 = .ok (.iconst 0, 1) := by decide +kernel
theorem dX12_readThing_88 : decode cX12_readThing 88 = .ok (.bipush 9, 2) := by decide +kernel
theorem dX12_readThing_90 : decode cX12_readThing 90 = .ok (.invokevirtual 255, 3) := by decide +kernel
theorem dX12_readThing_93 : decode cX12_readThing 93 = .ok (.istore_n 3, 1) := by decide +kernel
theorem dX12_readThing_94 : decode cX12_readThing 94 = .ok (.iload_n 1, 1) := by decide +kernel
theorem dX12_readThing_95 : decode cX12_readThing 95 = .ok (.iconst 2, 1) := by decide +kernel
theorem dX12_readThing_96 : decode cX12_readThing 96 = .ok (.if_icmp .ne 7, 3) := by decide +kernel
theorem dX12_readThing_99 : decode cX12_readThing 99 = .ok (.iconst 0, 1) := by decide +kernel
theorem dX12_readThing_100 : decode cX12_readThing 100 = .ok (.goto 10, 3) := by decide +kernel
theorem dX12_readThing_103 : decode cX12_readThing 103 = .ok (.aload_n 0, 1) := by decide +kernel
theorem dX12_readThing_104 : decode cX12_readThing 104 = .ok (.iconst 1, 1) := by decide +kernel
theorem dX12_readThing_105 : decode cX12_readThing 105 = .ok (.bipush 99, 2) := by decide +kernel
theorem dX12_readThing_107 : decode cX12_readThing 107 = .ok (.invokevirtual 255, 3) := by decide +kernel
theorem dX12_readThing_110 : decode cX12_readThing 110 = .ok (.istore 4, 2) := by decide +kernel
theorem dX12_readThing_112 : decode cX12_readThing 112 = .ok (.aload_n 0, 1) := by decide +kernel
theorem dX12_readThing_113 : decode cX12_readThing 113 = .ok (.getfield 199, 3) := by decide +kernel
theorem dX12_readThing_116 : decode cX12_readThing 116 = .ok (.ifCond .ne 38, 3) := by decide +kernel
theorem dX12_readThing_119 : decode cX12_readThing 119 = .ok (.aload_n 0, 1) := by decide +kernel
theorem dX12_readThing_120 : decode cX12_readThing 120 = .ok (.getfield 97, 3) := by decide +kernel
theorem dX12_readThing_123 : decode cX12_readThing 123 = .ok (.sipush 440, 3) := by decide +kernel
theorem dX12_readThing_126 : decode cX12_readThing 126 = .ok (.bipush 10, 2) := by decide +kernel
theorem dX12_readThing_128 : decode cX12_readThing 128 = .ok (.iload_n 3, 1) := by decide +kernel
theorem dX12_readThing_129 : decode cX12_readThing 129 = .ok (.imul, 1) := by decide +kernel
theorem dX12_readThing_130 : decode cX12_readThing 130 = .ok (.iadd, 1) := by decide +kernel
theorem dX12_readThing_131 : decode cX12_readThing 131 = .ok (.iload_n 2, 1) := by decide +kernel
theorem dX12_readThing_132 : decode cX12_readThing 132 = .ok (.iadd, 1) := by decide +kernel
theorem dX12_readThing_133 : decode cX12_readThing 133 = .ok (.iload_n 1, 1) := by decide +kernel
theorem dX12_readThing_134 : decode cX12_readThing 134 = .ok (.iconst 1, 1) := by decide +kernel
theorem dX12_readThing_135 : decode cX12_readThing 135 = .ok (.iadd, 1) := by decide +kernel
theorem dX12_readThing_136 : decode cX12_readThing 136 = .ok (.iastore, 1) := by decide +kernel
theorem dX12_readThing_137 : decode cX12_readThing 137 = .ok (.aload_n 0, 1) := by decide +kernel
theorem dX12_readThing_138 : decode cX12_readThing 138 = .ok (.getfield 97, 3) := by decide +kernel
theorem dX12_readThing_141 : decode cX12_readThing 141 = .ok (.sipush 540, 3) := by decide +kernel
theorem dX12_readThing_144 : decode cX12_readThing 144 = .ok (.bipush 10, 2) := by decide +kernel
theorem dX12_readThing_146 : decode cX12_readThing 146 = .ok (.iload_n 3, 1) := by decide +kernel
theorem dX12_readThing_147 : decode cX12_readThing 147 = .ok (.imul, 1) := by decide +kernel
theorem dX12_readThing_148 : decode cX12_readThing 148 = .ok (.iadd, 1) := by decide +kernel
theorem dX12_readThing_149 : decode cX12_readThing 149 = .ok (.iload_n 2, 1) := by decide +kernel
theorem dX12_readThing_150 : decode cX12_readThing 150 = .ok (.iadd, 1) := by decide +kernel
theorem dX12_readThing_151 : decode cX12_readThing 151 = .ok (.iload 4, 2) := by decide +kernel
theorem dX12_readThing_153 : decode cX12_readThing 153 = .ok (.iastore, 1) := by decide +kernel
theorem dX12_readThing_154 : decode cX12_readThing 154 = .ok (.return_, 1) := by decide +kernel
