theorem dX3_gainOf_17 : decode cX3_gainOf 17 = .ok (.invokevirtual 33, 3) := by decide +kernel
theorem dX3_gainOf_20 : decode cX3_gainOf 20 = .ok (.lsub, 1) := by decide +kernel
theorem dX3_gainOf_21 : decode cX3_gainOf 21 = .ok (.lreturn, 1) := by decide +kernel
theorem dX3_mostToBlame_0 : decode cX3_mostToBlame 0 = .ok (.iconst (-1), 1) := by decide +kernel
theorem dX3_mostToBlame_1 : decode cX3_mostToBlame 1 = .ok (.istore_n 2, 1) := by decide +kernel
theorem dX3_mostToBlame_2 : decode cX3_mostToBlame 2 = .ok (.lconst 0, 1) := by decide +kernel
theorem dX3_mostToBlame_3 : decode cX3_mostToBlame 3 = .ok (.lstore_n 3, 1) := by decide +kernel
theorem dX3_mostToBlame_4 : decode cX3_mostToBlame 4 = .ok (.iconst 0, 1) := by decide +kernel
theorem dX3_mostToBlame_5 : decode cX3_mostToBlame 5 = .ok (.istore 5, 2) := by decide +kernel
theorem dX3_mostToBlame_7 : decode cX3_mostToBlame 7 = .ok (.iload 5, 2) := by decide +kernel
theorem dX3_mostToBlame_9 : decode cX3_mostToBlame 9 = .ok (.aload_n 0, 1) := by decide +kernel
theorem dX3_mostToBlame_10 : decode cX3_mostToBlame 10 = .ok (.getfield 9, 3) := by decide +kernel
theorem dX3_mostToBlame_13 : decode cX3_mostToBlame 13 = .ok (.getfield 43, 3) := by decide +kernel
theorem dX3_mostToBlame_16 : decode cX3_mostToBlame 16 = .ok (.if_icmp .ge 47, 3) := by decide +kernel
theorem dX3_mostToBlame_19 : decode cX3_mostToBlame 19 = .ok (.aload_n 0, 1) := by decide +kernel
theorem dX3_mostToBlame_20 : decode cX3_mostToBlame 20 = .ok (.getfield 9, 3) := by decide +kernel
theorem dX3_mostToBlame_23 : decode cX3_mostToBlame 23 = .ok (.iload 5, 2) := by decide +kernel
theorem dX3_mostToBlame_25 : decode cX3_mostToBlame 25 = .ok (.invokevirtual 48, 3) := by decide +kernel
theorem dX3_mostToBlame_28 : decode cX3_mostToBlame 28 = .ok (.ifCond .eq 13, 3) := by decide +kernel
theorem dX3_mostToBlame_31 : decode cX3_mostToBlame 31 = .ok (.aload_n 0, 1) := by decide +kernel
theorem dX3_mostToBlame_32 : decode cX3_mostToBlame 32 = .ok (.iload_n 1, 1) := by decide +kernel
theorem dX3_mostToBlame_33 : decode cX3_mostToBlame 33 = .ok (.iload 5, 2) := by decide +kernel
theorem dX3_mostToBlame_35 : decode cX3_mostToBlame 35 = .ok (.invokevirtual 52, 3) := by decide +kernel
theorem dX3_mostToBlame_38 : decode cX3_mostToBlame 38 = .ok (.goto 4, 3) := by decide +kernel
theorem dX3_mostToBlame_41 : decode cX3_mostToBlame 41 = .ok (.lconst 0, 1) := by decide +kernel
theorem dX3_mostToBlame_42 : decode cX3_mostToBlame 42 = .ok (.lstore 6, 2) := by decide +kernel
theorem dX3_mostToBlame_44 : decode cX3_mostToBlame 44 = .ok (.lload 6, 2) := by decide +kernel
theorem dX3_mostToBlame_46 : decode cX3_mostToBlame 46 = .ok (.lload_n 3, 1) := by decide +kernel
theorem dX3_mostToBlame_47 : decode cX3_mostToBlame 47 = .ok (.lcmp, 1) := by decide +kernel
theorem dX3_mostToBlame_48 : decode cX3_mostToBlame 48 = .ok (.ifCond .le 9, 3) := by decide +kernel
theorem dX3_mostToBlame_51 : decode cX3_mostToBlame 51 = .ok (.lload 6, 2) := by decide +kernel
theorem dX3_mostToBlame_53 : decode cX3_mostToBlame 53 = .ok (.lstore_n 3, 1) := by decide +kernel
theorem dX3_mostToBlame_54 : decode cX3_mostToBlame 54 = .ok (.iload 5, 2) := by decide +kernel
theorem dX3_mostToBlame_56 : decode cX3_mostToBlame 56 = .ok (.istore_n 2, 1) := by decide +kernel
theorem dX3_mostToBlame_57 : decode cX3_mostToBlame 57 = .ok (.iinc 5 1, 3) := by decide +kernel
theorem dX3_mostToBlame_60 : decode cX3_mostToBlame 60 = .ok (.goto (-53), 3) := by decide +kernel
theorem dX3_mostToBlame_63 : decode cX3_mostToBlame 63 = .ok (.iload_n 2, 1) := by decide +kernel
theorem dX3_mostToBlame_64 : decode cX3_mostToBlame 64 = .ok (.ireturn, 1) := by decide +kernel
theorem dX3_lessenInTurn_0 : decode cX3_lessenInTurn 0 = .ok (.aload_n 0, 1) := by decide +kernel
theorem dX3_lessenInTurn_1 : decode cX3_lessenInTurn 1 = .ok (.iload_n 1, 1) := by decide +kernel
theorem dX3_lessenInTurn_2 : decode cX3_lessenInTurn 2 = .ok (.invokevirtual 56, 3) := by decide +kernel
theorem dX3_lessenInTurn_5 : decode cX3_lessenInTurn 5 = .ok (.lload_n 2, 1) := by decide +kernel
theorem dX3_lessenInTurn_6 : decode cX3_lessenInTurn 6 = .ok (.lcmp, 1) := by decide +kernel
theorem dX3_lessenInTurn_7 : decode cX3_lessenInTurn 7 = .ok (.ifCond .le 6, 3) := by decide +kernel
theorem dX3_lessenInTurn_10 : decode cX3_lessenInTurn 10 = .ok (.bipush (-5), 2) := by decide +kernel
theorem dX3_lessenInTurn_12 : decode cX3_lessenInTurn 12 = .ok (.ireturn, 1) := by decide +kernel
theorem dX3_lessenInTurn_13 : decode cX3_lessenInTurn 13 = .ok (.iconst 0, 1) := by decide +kernel
theorem dX3_lessenInTurn_14 : decode cX3_lessenInTurn 14 = .ok (.istore 4, 2) := by decide +kernel
theorem dX3_lessenInTurn_16 : decode cX3_lessenInTurn 16 = .ok (.iload 4, 2) := by decide +kernel
theorem dX3_lessenInTurn_18 : decode cX3_lessenInTurn 18 = .ok (.aload_n 0, 1) := by decide +kernel
theorem dX3_lessenInTurn_19 : decode cX3_lessenInTurn 19 = .ok (.getfield 9, 3) := by decide +kernel
theorem dX3_lessenInTurn_22 : decode cX3_lessenInTurn 22 = .ok (.getfield 43, 3) := by decide +kernel
theorem dX3_lessenInTurn_25 : decode cX3_lessenInTurn 25 = .ok (.if_icmp .ge 29, 3) := by decide +kernel
theorem dX3_lessenInTurn_28 : decode cX3_lessenInTurn 28 = .ok (.aload_n 0, 1) := by decide +kernel
theorem dX3_lessenInTurn_29 : decode cX3_lessenInTurn 29 = .ok (.getfield 9, 3) := by decide +kernel
theorem dX3_lessenInTurn_32 : decode cX3_lessenInTurn 32 = .ok (.iload 4, 2) := by decide +kernel
theorem dX3_lessenInTurn_34 : decode cX3_lessenInTurn 34 = .ok (.invokevirtual 48, 3) := by decide +kernel
theorem dX3_lessenInTurn_37 : decode cX3_lessenInTurn 37 = .ok (.ifCond .eq 11, 3) := by decide +kernel
theorem dX3_lessenInTurn_40 : decode cX3_lessenInTurn 40 = .ok (.aload_n 0, 1) := by decide +kernel
theorem dX3_lessenInTurn_41 : decode cX3_lessenInTurn 41 = .ok (.iload 4, 2) := by decide +kernel
theorem dX3_lessenInTurn_43 : decode cX3_lessenInTurn 43 = .ok (.iload_n 1, 1) := by decide +kernel
theorem dX3_lessenInTurn_44 : decode cX3_lessenInTurn 44 = .ok (.lload_n 2, 1) := by decide +kernel
theorem dX3_lessenInTurn_45 : decode cX3_lessenInTurn 45 = .ok (.invokevirtual 59, 3) := by decide +kernel
theorem dX3_lessenInTurn_48 : decode cX3_lessenInTurn 48 = .ok (.iinc 4 1, 3) := by decide +kernel
theorem dX3_lessenInTurn_51 : decode cX3_lessenInTurn 51 = .ok (.goto (-35), 3) := by decide +kernel
theorem dX3_lessenInTurn_54 : decode cX3_lessenInTurn 54 = .ok (.aload_n 0, 1) := by decide +kernel
theorem dX3_lessenInTurn_55 : decode cX3_lessenInTurn 55 = .ok (.aload_n 0, 1) := by decide +kernel
theorem dX3_lessenInTurn_56 : decode cX3_lessenInTurn 56 = .ok (.getfield 15, 3) := by decide +kernel
theorem dX3_lessenInTurn_59 : decode cX3_lessenInTurn 59 = .ok (.invokevirtual 63, 3) := by decide +kernel
theorem dX3_lessenInTurn_62 : decode cX3_lessenInTurn 62 = .ok (.aload_n 0, 1) := by decide +kernel
theorem dX3_lessenInTurn_63 : decode cX3_lessenInTurn 63 = .ok (.getfield 9, 3) := by decide +kernel
theorem dX3_lessenInTurn_66 : decode cX3_lessenInTurn 66 = .ok (.invokevirtual 67, 3) := by decide +kernel
theorem dX3_lessenInTurn_69 : decode cX3_lessenInTurn 69 = .ok (.ireturn, 1) := by decide +kernel
theorem dX3_lessen_0 : decode cX3_lessen 0 = .ok (.bipush 15, 2) := by decide +kernel
theorem dX3_lessen_2 : decode cX3_lessen 2 = .ok (.istore 5, 2) := by decide +kernel
theorem dX3_lessen_4 : decode cX3_lessen 4 = .ok (.iload 5, 2) := by decide +kernel
theorem dX3_lessen_6 : decode cX3_lessen 6 = .ok (.ifCond .lt 38, 3) := by decide +kernel
theorem dX3_lessen_9 : decode cX3_lessen 9 = .ok (.aload_n 0, 1) := by decide +kernel
theorem dX3_lessen_10 : decode cX3_lessen 10 = .ok (.getfield 15, 3) := by decide +kernel
theorem dX3_lessen_13 : decode cX3_lessen 13 = .ok (.iload_n 1, 1) := by decide +kernel
theorem dX3_lessen_14 : decode cX3_lessen 14 = .ok (.iload 5, 2) := by decide +kernel
theorem dX3_lessen_16 : decode cX3_lessen 16 = .ok (.iastore, 1) := by decide +kernel
theorem dX3_lessen_17 : decode cX3_lessen 17 = .ok (.aload_n 0, 1) := by decide +kernel
theorem dX3_lessen_18 : decode cX3_lessen 18 = .ok (.iload_n 2, 1) := by decide +kernel
theorem dX3_lessen_19 : decode cX3_lessen 19 = .ok (.invokevirtual 33, 3) := by decide +kernel
theorem dX3_lessen_22 : decode cX3_lessen 22 = .ok (.lload_n 3, 1) := by decide +kernel
theorem dX3_lessen_23 : decode cX3_lessen 23 = .ok (.lcmp, 1) := by decide +kernel
theorem dX3_lessen_24 : decode cX3_lessen 24 = .ok (.ifCond .le 14, 3) := by decide +kernel
theorem dX3_lessen_27 : decode cX3_lessen 27 = .ok (.aload_n 0, 1) := by decide +kernel
theorem dX3_lessen_28 : decode cX3_lessen 28 = .ok (.getfield 15, 3) := by decide +kernel
theorem dX3_lessen_31 : decode cX3_lessen 31 = .ok (.iload_n 1, 1) := by decide +kernel
theorem dX3_lessen_32 : decode cX3_lessen 32 = .ok (.iload 5, 2) := by decide +kernel
theorem dX3_lessen_34 : decode cX3_lessen 34 = .ok (.iconst 1, 1) := by decide +kernel
theorem dX3_lessen_35 : decode cX3_lessen 35 = .ok (.iadd, 1) := by decide +kernel
theorem dX3_lessen_36 : decode cX3_lessen 36 = .ok (.iastore, 1) := by decide +kernel
theorem dX3_lessen_37 : decode cX3_lessen 37 = .ok (.return_, 1) := by decide +kernel
theorem dX3_lessen_38 : decode cX3_lessen 38 = .ok (.iinc 5 (-1), 3) := by decide +kernel
theorem dX3_lessen_41 : decode cX3_lessen 41 = .ok (.goto (-37), 3) := by decide +kernel
theorem dX3_lessen_44 : decode cX3_lessen 44 = .ok (.return_, 1) := by decide +kernel
theorem dX3_chooseCheapest_0 : decode cX3_chooseCheapest 0 = .ok (.aload_n 0, 1) := by decide +kernel
theorem dX3_chooseCheapest_1 : decode cX3_chooseCheapest 1 = .ok (.getfield 9, 3) := by decide +kernel
theorem dX3_chooseCheapest_4 : decode cX3_chooseCheapest 4 = .ok (.invokevirtual 71, 3) := by decide +kernel
theorem dX3_chooseCheapest_7 : decode cX3_chooseCheapest 7 = .ok (.bipush 6, 2) := by decide +kernel
theorem dX3_chooseCheapest_9 : decode cX3_chooseCheapest 9 = .ok (.if_icmp .le 6, 3) := by decide +kernel
theorem dX3_chooseCheapest_12 : decode cX3_chooseCheapest 12 = .ok (.bipush (-5), 2) := by decide +kernel
theorem dX3_chooseCheapest_14 : decode cX3_chooseCheapest 14 = .ok (.ireturn, 1) := by decide +kernel
theorem dX3_chooseCheapest_15 : decode cX3_chooseCheapest 15 = .ok (.aload_n 0, 1) := by decide +kernel
theorem dX3_chooseCheapest_16 : decode cX3_chooseCheapest 16 = .ok (.ldc 76, 2) := by decide +kernel
theorem dX3_chooseCheapest_18 : decode cX3_chooseCheapest 18 = .ok (.putfield 26, 3) := by decide +kernel
theorem dX3_chooseCheapest_21 : decode cX3_chooseCheapest 21 = .ok (.aload_n 0, 1) := by decide +kernel
theorem dX3_chooseCheapest_22 : decode cX3_chooseCheapest 22 = .ok (.iconst 0, 1) := by decide +kernel
theorem dX3_chooseCheapest_23 : decode cX3_chooseCheapest 23 = .ok (.iconst 0, 1) := by decide +kernel
theorem dX3_chooseCheapest_24 : decode cX3_chooseCheapest 24 = .ok (.iload_n 1, 1) := by decide +kernel
theorem dX3_chooseCheapest_25 : decode cX3_chooseCheapest 25 = .ok (.lload_n 2, 1) := by decide +kernel
theorem dX3_chooseCheapest_26 : decode cX3_chooseCheapest 26 = .ok (.invokevirtual 77, 3) := by decide +kernel
theorem dX3_chooseCheapest_29 : decode cX3_chooseCheapest 29 = .ok (.aload_n 0, 1) := by decide +kernel
theorem dX3_chooseCheapest_30 : decode cX3_chooseCheapest 30 = .ok (.getfield 26, 3) := by decide +kernel
theorem dX3_chooseCheapest_33 : decode cX3_chooseCheapest 33 = .ok (.ldc 76, 2) := by decide +kernel
theorem dX3_chooseCheapest_35 : decode cX3_chooseCheapest 35 = .ok (.if_icmp .ne 6, 3) := by decide +kernel
theorem dX3_chooseCheapest_38 : decode cX3_chooseCheapest 38 = .ok (.bipush (-5), 2) := by decide +kernel
theorem dX3_chooseCheapest_40 : decode cX3_chooseCheapest 40 = .ok (.ireturn, 1) := by decide +kernel
theorem dX3_chooseCheapest_41 : decode cX3_chooseCheapest 41 = .ok (.aload_n 0, 1) := by decide +kernel
theorem dX3_chooseCheapest_42 : decode cX3_chooseCheapest 42 = .ok (.aload_n 0, 1) := by decide +kernel
theorem dX3_chooseCheapest_43 : decode cX3_chooseCheapest 43 = .ok (.getfield 23, 3) := by decide +kernel
theorem dX3_chooseCheapest_46 : decode cX3_chooseCheapest 46 = .ok (.invokevirtual 63, 3) := by decide +kernel
theorem dX3_chooseCheapest_49 : decode cX3_chooseCheapest 49 = .ok (.aload_n 0, 1) := by decide +kernel
theorem dX3_chooseCheapest_50 : decode cX3_chooseCheapest 50 = .ok (.getfield 9, 3) := by decide +kernel
theorem dX3_chooseCheapest_53 : decode cX3_chooseCheapest 53 = .ok (.invokevirtual 67, 3) := by decide +kernel
theorem dX3_chooseCheapest_56 : decode cX3_chooseCheapest 56 = .ok (.ireturn, 1) := by decide +kernel
theorem dX3_choose_0 : decode cX3_choose 0 = .ok (.iload_n 2, 1) := by decide +kernel
theorem dX3_choose_1 : decode cX3_choose 1 = .ok (.aload_n 0, 1) := by decide +kernel
theorem dX3_choose_2 : decode cX3_choose 2 = .ok (.getfield 26, 3) := by decide +kernel
theorem dX3_choose_5 : decode cX3_choose 5 = .ok (.if_icmp .lt 4, 3) := by decide +kernel
theorem dX3_choose_8 : decode cX3_choose 8 = .ok (.return_, 1) := by decide +kernel
theorem dX3_choose_9 : decode cX3_choose 9 = .ok (.iload_n 1, 1) := by decide +kernel
theorem dX3_choose_10 : decode cX3_choose 10 = .ok (.aload_n 0, 1) := by decide +kernel
theorem dX3_choose_11 : decode cX3_choose 11 = .ok (.getfield 9, 3) := by decide +kernel
theorem dX3_choose_14 : decode cX3_choose 14 = .ok (.getfield 43, 3) := by decide +kernel
theorem dX3_choose_17 : decode cX3_choose 17 = .ok (.if_icmp .lt 24, 3) := by decide +kernel
theorem dX3_choose_20 : decode cX3_choose 20 = .ok (.aload_n 0, 1) := by decide +kernel
theorem dX3_choose_21 : decode cX3_choose 21 = .ok (.iload_n 2, 1) := by decide +kernel
theorem dX3_choose_22 : decode cX3_choose 22 = .ok (.putfield 26, 3) := by decide +kernel
theorem dX3_choose_25 : decode cX3_choose 25 = .ok (.aload_n 0, 1) := by decide +kernel
theorem dX3_choose_26 : decode cX3_choose 26 = .ok (.getfield 15, 3) := by decide +kernel
theorem dX3_choose_29 : decode cX3_choose 29 = .ok (.iconst 0, 1) := by decide +kernel
theorem dX3_choose_30 : decode cX3_choose 30 = .ok (.aload_n 0, 1) := by decide +kernel
theorem dX3_choose_31 : decode cX3_choose 31 = .ok (.getfield 23, 3) := by decide +kernel
theorem dX3_choose_34 : decode cX3_choose 34 = .ok (.iconst 0, 1) := by decide +kernel
theorem dX3_choose_35 : decode cX3_choose 35 = .ok (.bipush 16, 2) := by decide +kernel
theorem dX3_choose_37 : decode cX3_choose 37 = .ok (.invokestatic 81, 3) := by decide +kernel
theorem dX3_choose_40 : decode cX3_choose 40 = .ok (.return_, 1) := by decide +kernel
theorem dX3_choose_41 : decode cX3_choose 41 = .ok (.aload_n 0, 1) := by decide +kernel
theorem dX3_choose_42 : decode cX3_choose 42 = .ok (.getfield 9, 3) := by decide +kernel
theorem dX3_choose_45 : decode cX3_choose 45 = .ok (.getfield 87, 3) := by decide +kernel
theorem dX3_choose_48 : decode cX3_choose 48 = .ok (.iload_n 1, 1) := by decide +kernel
theorem dX3_choose_49 : decode cX3_choose 49 = .ok (.aaload, 1) := by decide +kernel
theorem dX3_choose_50 : decode cX3_choose 50 = .ok (.astore 6, 2) := by decide +kernel
theorem dX3_choose_52 : decode cX3_choose 52 = .ok (.aload 6, 2) := by decide +kernel
theorem dX3_choose_54 : decode cX3_choose 54 = .ok (.invokevirtual 91, 3) := by decide +kernel
theorem dX3_choose_57 : decode cX3_choose 57 = .ok (.ifCond .eq 7, 3) := by decide +kernel
theorem dX3_choose_60 : decode cX3_choose 60 = .ok (.iconst 0, 1) := by decide +kernel
theorem dX3_choose_61 : decode cX3_choose 61 = .ok (.goto 8, 3) := by decide +kernel
theorem dX3_choose_64 : decode cX3_choose 64 = .ok (.aload 6, 2) := by decide +kernel
theorem dX3_choose_66 : decode cX3_choose 66 = .ok (.getfield 97, 3) := by decide +kernel
theorem dX3_choose_69 : decode cX3_choose 69 = .ok (.istore 7, 2) := by decide +kernel
theorem dX3_choose_71 : decode cX3_choose 71 = .ok (.aload 6, 2) := by decide +kernel
theorem dX3_choose_73 : decode cX3_choose 73 = .ok (.invokevirtual 91, 3) := by decide +kernel
theorem dX3_choose_76 : decode cX3_choose 76 = .ok (.ifCond .eq 8, 3) := by decide +kernel
theorem dX3_choose_79 : decode cX3_choose 79 = .ok (.bipush 16, 2) := by decide +kernel
theorem dX3_choose_81 : decode cX3_choose 81 = .ok (.goto 4, 3) := by decide +kernel
theorem dX3_choose_84 : decode cX3_choose 84 = .ok (.iconst 0, 1) := by decide +kernel
theorem dX3_choose_85 : decode cX3_choose 85 = .ok (.istore 8, 2) := by decide +kernel
theorem dX3_choose_87 : decode cX3_choose 87 = .ok (.iload 8, 2) := by decide +kernel
theorem dX3_choose_89 : decode cX3_choose 89 = .ok (.istore 9, 2) := by decide +kernel
theorem dX3_choose_91 : decode cX3_choose 91 = .ok (.iload 9, 2) := by decide +kernel
theorem dX3_choose_93 : decode cX3_choose 93 = .ok (.bipush 16, 2) := by decide +kernel
theorem dX3_choose_95 : decode cX3_choose 95 = .ok (.if_icmp .gt 62, 3) := by decide +kernel
theorem dX3_choose_98 : decode cX3_choose 98 = .ok (.aload_n 0, 1) := by decide +kernel
theorem dX3_choose_99 : decode cX3_choose 99 = .ok (.getfield 15, 3) := by decide +kernel
theorem dX3_choose_102 : decode cX3_choose 102 = .ok (.iload_n 1, 1) := by decide +kernel
theorem dX3_choose_103 : decode cX3_choose 103 = .ok (.iload 9, 2) := by decide +kernel
theorem dX3_choose_105 : decode cX3_choose 105 = .ok (.iastore, 1) := by decide +kernel
theorem dX3_choose_106 : decode cX3_choose 106 = .ok (.aload_n 0, 1) := by decide +kernel
theorem dX3_choose_107 : decode cX3_choose 107 = .ok (.getfield 19, 3) := by decide +kernel
theorem dX3_choose_110 : decode cX3_choose 110 = .ok (.iload_n 1, 1) := by decide +kernel
theorem dX3_choose_111 : decode cX3_choose 111 = .ok (.aload_n 0, 1) := by decide +kernel
theorem dX3_choose_112 : decode cX3_choose 112 = .ok (.iload_n 1, 1) := by decide +kernel
theorem dX3_choose_113 : decode cX3_choose 113 = .ok (.invokevirtual 100, 3) := by decide +kernel
theorem dX3_choose_116 : decode cX3_choose 116 = .ok (.lastore, 1) := by decide +kernel
theorem dX3_choose_117 : decode cX3_choose 117 = .ok (.iload_n 1, 1) := by decide +kernel
theorem dX3_choose_118 : decode cX3_choose 118 = .ok (.iload_n 3, 1) := by decide +kernel
theorem dX3_choose_119 : decode cX3_choose 119 = .ok (.if_icmp .ne 15, 3) := by decide +kernel
theorem dX3_choose_122 : decode cX3_choose 122 = .ok (.aload_n 0, 1) := by decide +kernel
theorem dX3_choose_123 : decode cX3_choose 123 = .ok (.getfield 19, 3) := by decide +kernel
theorem dX3_choose_126 : decode cX3_choose 126 = .ok (.iload_n 1, 1) := by decide +kernel
theorem dX3_choose_127 : decode cX3_choose 127 = .ok (.laload, 1) := by decide +kernel
theorem dX3_choose_128 : decode cX3_choose 128 = .ok (.lload 4, 2) := by decide +kernel
theorem dX3_choose_130 : decode cX3_choose 130 = .ok (.lcmp, 1) := by decide +kernel
theorem dX3_choose_131 : decode cX3_choose 131 = .ok (.ifCond .gt 20, 3) := by decide +kernel
theorem dX3_choose_134 : decode cX3_choose 134 = .ok (.aload_n 0, 1) := by decide +kernel
theorem dX3_choose_135 : decode cX3_choose 135 = .ok (.iload_n 1, 1) := by decide +kernel
theorem dX3_choose_136 : decode cX3_choose 136 = .ok (.iconst 1, 1) := by decide +kernel
theorem dX3_choose_137 : decode cX3_choose 137 = .ok (.iadd, 1) := by decide +kernel
theorem dX3_choose_138 : decode cX3_choose 138 = .ok (.iload_n 2, 1) := by decide +kernel
theorem dX3_choose_139 : decode cX3_choose 139 = .ok (.iload 7, 2) := by decide +kernel
theorem dX3_choose_141 : decode cX3_choose 141 = .ok (.iload 9, 2) := by decide +kernel
theorem dX3_choose_143 : decode cX3_choose 143 = .ok (.imul, 1) := by decide +kernel
theorem dX3_choose_144 : decode cX3_choose 144 = .ok (.iadd, 1) := by decide +kernel
theorem dX3_choose_145 : decode cX3_choose 145 = .ok (.iload_n 3, 1) := by decide +kernel
theorem dX3_choose_146 : decode cX3_choose 146 = .ok (.lload 4, 2) := by decide +kernel
theorem dX3_choose_148 : decode cX3_choose 148 = .ok (.invokevirtual 77, 3) := by decide +kernel
theorem dX3_choose_151 : decode cX3_choose 151 = .ok (.iinc 9 4, 3) := by decide +kernel
theorem dX3_choose_154 : decode cX3_choose 154 = .ok (.goto (-63), 3) := by decide +kernel
theorem dX3_choose_157 : decode cX3_choose 157 = .ok (.return_, 1) := by decide +kernel
theorem dX3_tryAsTold_0 : decode cX3_tryAsTold 0 = .ok (.iconst 0, 1) := by decide +kernel
theorem dX3_tryAsTold_1 : decode cX3_tryAsTold 1 = .ok (.istore_n 1, 1) := by decide +kernel
theorem dX3_tryAsTold_2 : decode cX3_tryAsTold 2 = .ok (.iload_n 1, 1) := by decide +kernel
theorem dX3_tryAsTold_3 : decode cX3_tryAsTold 3 = .ok (.aload_n 0, 1) := by decide +kernel
theorem dX3_tryAsTold_4 : decode cX3_tryAsTold 4 = .ok (.getfield 9, 3) := by decide +kernel
theorem dX3_tryAsTold_7 : decode cX3_tryAsTold 7 = .ok (.getfield 43, 3) := by decide +kernel
theorem dX3_tryAsTold_10 : decode cX3_tryAsTold 10 = .ok (.if_icmp .ge 27, 3) := by decide +kernel
theorem dX3_tryAsTold_13 : decode cX3_tryAsTold 13 = .ok (.aload_n 0, 1) := by decide +kernel
theorem dX3_tryAsTold_14 : decode cX3_tryAsTold 14 = .ok (.getfield 15, 3) := by decide +kernel
theorem dX3_tryAsTold_17 : decode cX3_tryAsTold 17 = .ok (.iload_n 1, 1) := by decide +kernel
theorem dX3_tryAsTold_18 : decode cX3_tryAsTold 18 = .ok (.aload_n 0, 1) := by decide +kernel
theorem dX3_tryAsTold_19 : decode cX3_tryAsTold 19 = .ok (.getfield 9, 3) := by decide +kernel
theorem dX3_tryAsTold_22 : decode cX3_tryAsTold 22 = .ok (.getfield 87, 3) := by decide +kernel
theorem dX3_tryAsTold_25 : decode cX3_tryAsTold 25 = .ok (.iload_n 1, 1) := by decide +kernel
theorem dX3_tryAsTold_26 : decode cX3_tryAsTold 26 = .ok (.aaload, 1) := by decide +kernel
theorem dX3_tryAsTold_27 : decode cX3_tryAsTold 27 = .ok (.getfield 103, 3) := by decide +kernel
theorem dX3_tryAsTold_30 : decode cX3_tryAsTold 30 = .ok (.iastore, 1) := by decide +kernel
theorem dX3_tryAsTold_31 : decode cX3_tryAsTold 31 = .ok (.iinc 1 1, 3) := by decide +kernel
theorem dX3_tryAsTold_34 : decode cX3_tryAsTold 34 = .ok (.goto (-32), 3) := by decide +kernel
theorem dX3_tryAsTold_37 : decode cX3_tryAsTold 37 = .ok (.return_, 1) := by decide +kernel
theorem dX3_tryWidest_0 : decode cX3_tryWidest 0 = .ok (.iconst 0, 1) := by decide +kernel
theorem dX3_tryWidest_1 : decode cX3_tryWidest 1 = .ok (.istore_n 1, 1) := by decide +kernel
theorem dX3_tryWidest_2 : decode cX3_tryWidest 2 = .ok (.iload_n 1, 1) := by decide +kernel
theorem dX3_tryWidest_3 : decode cX3_tryWidest 3 = .ok (.bipush 16, 2) := by decide +kernel
theorem dX3_tryWidest_5 : decode cX3_tryWidest 5 = .ok (.if_icmp .ge 17, 3) := by decide +kernel
theorem dX3_tryWidest_8 : decode cX3_tryWidest 8 = .ok (.aload_n 0, 1) := by decide +kernel
theorem dX3_tryWidest_9 : decode cX3_tryWidest 9 = .ok (.getfield 15, 3) := by decide +kernel
theorem dX3_tryWidest_12 : decode cX3_tryWidest 12 = .ok (.iload_n 1, 1) := by decide +kernel
theorem dX3_tryWidest_13 : decode cX3_tryWidest 13 = .ok (.bipush 16, 2) := by decide +kernel
theorem dX3_tryWidest_15 : decode cX3_tryWidest 15 = .ok (.iastore, 1) := by decide +kernel
theorem dX3_tryWidest_16 : decode cX3_tryWidest 16 = .ok (.iinc 1 1, 3) := by decide +kernel
theorem dX3_tryWidest_19 : decode cX3_tryWidest 19 = .ok (.goto (-17), 3) := by decide +kernel
theorem dX3_tryWidest_22 : decode cX3_tryWidest 22 = .ok (.return_, 1) := by decide +kernel
theorem dX3_take_0 : decode cX3_take 0 = .ok (.iconst 0, 1) := by decide +kernel
theorem dX3_take_1 : decode cX3_take 1 = .ok (.istore_n 2, 1) := by decide +kernel
theorem dX3_take_2 : decode cX3_take 2 = .ok (.iload_n 2, 1) := by decide +kernel
theorem dX3_take_3 : decode cX3_take 3 = .ok (.aload_n 0, 1) := by decide +kernel
theorem dX3_take_4 : decode cX3_take 4 = .ok (.getfield 9, 3) := by decide +kernel
theorem dX3_take_7 : decode cX3_take 7 = .ok (.getfield 43, 3) := by decide +kernel
theorem dX3_take_10 : decode cX3_take 10 = .ok (.if_icmp .ge 24, 3) := by decide +kernel
theorem dX3_take_13 : decode cX3_take 13 = .ok (.aload_n 0, 1) := by decide +kernel
theorem dX3_take_14 : decode cX3_take 14 = .ok (.getfield 9, 3) := by decide +kernel
theorem dX3_take_17 : decode cX3_take 17 = .ok (.getfield 87, 3) := by decide +kernel
theorem dX3_take_20 : decode cX3_take 20 = .ok (.iload_n 2, 1) := by decide +kernel
theorem dX3_take_21 : decode cX3_take 21 = .ok (.aaload, 1) := by decide +kernel
theorem dX3_take_22 : decode cX3_take 22 = .ok (.aload_n 1, 1) := by decide +kernel
theorem dX3_take_23 : decode cX3_take 23 = .ok (.iload_n 2, 1) := by decide +kernel
theorem dX3_take_24 : decode cX3_take 24 = .ok (.iaload, 1) := by decide +kernel
theorem dX3_take_25 : decode cX3_take 25 = .ok (.putfield 103, 3) := by decide +kernel
theorem dX3_take_28 : decode cX3_take 28 = .ok (.iinc 2 1, 3) := by decide +kernel
theorem dX3_take_31 : decode cX3_take 31 = .ok (.goto (-29), 3) := by decide +kernel
theorem dX3_take_34 : decode cX3_take 34 = .ok (.return_, 1) := by decide +kernel
theorem dX3_boundTried_0 : decode cX3_boundTried 0 = .ok (.iconst 0, 1) := by decide +kernel
theorem dX3_boundTried_1 : decode cX3_boundTried 1 = .ok (.istore_n 2, 1) := by decide +kernel
theorem dX3_boundTried_2 : decode cX3_boundTried 2 = .ok (.iload_n 2, 1) := by decide +kernel
theorem dX3_boundTried_3 : decode cX3_boundTried 3 = .ok (.iload_n 1, 1) := by decide +kernel
theorem dX3_boundTried_4 : decode cX3_boundTried 4 = .ok (.if_icmp .gt 20, 3) := by decide +kernel
theorem dX3_boundTried_7 : decode cX3_boundTried 7 = .ok (.aload_n 0, 1) := by decide +kernel
theorem dX3_boundTried_8 : decode cX3_boundTried 8 = .ok (.getfield 19, 3) := by decide +kernel
theorem dX3_boundTried_11 : decode cX3_boundTried 11 = .ok (.iload_n 2, 1) := by decide +kernel
theorem dX3_boundTried_12 : decode cX3_boundTried 12 = .ok (.aload_n 0, 1) := by decide +kernel
theorem dX3_boundTried_13 : decode cX3_boundTried 13 = .ok (.iload_n 2, 1) := by decide +kernel
theorem dX3_boundTried_14 : decode cX3_boundTried 14 = .ok (.invokevirtual 100, 3) := by decide +kernel
theorem dX3_boundTried_17 : decode cX3_boundTried 17 = .ok (.lastore, 1) := by decide +kernel
theorem dX3_boundTried_18 : decode cX3_boundTried 18 = .ok (.iinc 2 1, 3) := by decide +kernel
theorem dX3_boundTried_21 : decode cX3_boundTried 21 = .ok (.goto (-19), 3) := by decide +kernel
theorem dX3_boundTried_24 : decode cX3_boundTried 24 = .ok (.aload_n 0, 1) := by decide +kernel
theorem dX3_boundTried_25 : decode cX3_boundTried 25 = .ok (.getfield 19, 3) := by decide +kernel
theorem dX3_boundTried_28 : decode cX3_boundTried 28 = .ok (.iload_n 1, 1) := by decide +kernel
theorem dX3_boundTried_29 : decode cX3_boundTried 29 = .ok (.laload, 1) := by decide +kernel
theorem dX3_boundTried_30 : decode cX3_boundTried 30 = .ok (.lreturn, 1) := by decide +kernel
theorem dX3_boundFromParts_0 : decode cX3_boundFromParts 0 = .ok (.aload_n 0, 1) := by decide +kernel
theorem dX3_boundFromParts_1 : decode cX3_boundFromParts 1 = .ok (.getfield 9, 3) := by decide +kernel
theorem dX3_boundFromParts_4 : decode cX3_boundFromParts 4 = .ok (.getfield 87, 3) := by decide +kernel
theorem dX3_boundFromParts_7 : decode cX3_boundFromParts 7 = .ok (.iload_n 1, 1) := by decide +kernel
theorem dX3_boundFromParts_8 : decode cX3_boundFromParts 8 = .ok (.aaload, 1) := by decide +kernel
theorem dX3_boundFromParts_9 : decode cX3_boundFromParts 9 = .ok (.astore_n 2, 1) := by decide +kernel
theorem dX3_boundFromParts_10 : decode cX3_boundFromParts 10 = .ok (.aload_n 2, 1) := by decide +kernel
theorem dX3_boundFromParts_11 : decode cX3_boundFromParts 11 = .ok (.invokevirtual 91, 3) := by decide +kernel
theorem dX3_boundFromParts_14 : decode cX3_boundFromParts 14 = .ok (.ifCond .eq 5, 3) := by decide +kernel
theorem dX3_boundFromParts_17 : decode cX3_boundFromParts 17 = .ok (.lconst 0, 1) := by decide +kernel
theorem dX3_boundFromParts_18 : decode cX3_boundFromParts 18 = .ok (.lreturn, 1) := by decide +kernel
theorem dX3_boundFromParts_19 : decode cX3_boundFromParts 19 = .ok (.aload_n 0, 1) := by decide +kernel
theorem dX3_boundFromParts_20 : decode cX3_boundFromParts 20 = .ok (.getfield 19, 3) := by decide +kernel
theorem dX3_boundFromParts_23 : decode cX3_boundFromParts 23 = .ok (.aload_n 2, 1) := by decide +kernel
theorem dX3_boundFromParts_24 : decode cX3_boundFromParts 24 = .ok (.getfield 106, 3) := by decide +kernel
theorem dX3_boundFromParts_27 : decode cX3_boundFromParts 27 = .ok (.laload, 1) := by decide +kernel
theorem dX3_boundFromParts_28 : decode cX3_boundFromParts 28 = .ok (.lstore_n 3, 1) := by decide +kernel
theorem dX3_boundFromParts_29 : decode cX3_boundFromParts 29 = .ok (.aload_n 2, 1) := by decide +kernel
theorem dX3_boundFromParts_30 : decode cX3_boundFromParts 30 = .ok (.getfield 109, 3) := by decide +kernel
theorem dX3_boundFromParts_33 : decode cX3_boundFromParts 33 = .ok (.invokestatic 112, 3) := by decide +kernel
theorem dX3_boundFromParts_36 : decode cX3_boundFromParts 36 = .ok (.ifCond .eq 15, 3) := by decide +kernel
theorem dX3_boundFromParts_39 : decode cX3_boundFromParts 39 = .ok (.aload_n 0, 1) := by decide +kernel
theorem dX3_boundFromParts_40 : decode cX3_boundFromParts 40 = .ok (.getfield 19, 3) := by decide +kernel
theorem dX3_boundFromParts_43 : decode cX3_boundFromParts 43 = .ok (.aload_n 2, 1) := by decide +kernel
theorem dX3_boundFromParts_44 : decode cX3_boundFromParts 44 = .ok (.getfield 115, 3) := by decide +kernel
theorem dX3_boundFromParts_47 : decode cX3_boundFromParts 47 = .ok (.laload, 1) := by decide +kernel
theorem dX3_boundFromParts_48 : decode cX3_boundFromParts 48 = .ok (.goto 4, 3) := by decide +kernel
theorem dX3_boundFromParts_51 : decode cX3_boundFromParts 51 = .ok (.lconst 0, 1) := by decide +kernel
theorem dX3_boundFromParts_52 : decode cX3_boundFromParts 52 = .ok (.lstore 5, 2) := by decide +kernel
theorem dX3_boundFromParts_54 : decode cX3_boundFromParts 54 = .ok (.aload_n 2, 1) := by decide +kernel
theorem dX3_boundFromParts_55 : decode cX3_boundFromParts 55 = .ok (.getfield 109, 3) := by decide +kernel
theorem dX3_boundFromParts_58 : decode cX3_boundFromParts 58 = .ok (.lookupswitch 50 #[(4, 26), (5, 39)], 26) := by decide +kernel
theorem dX3_boundFromParts_84 : decode cX3_boundFromParts 84 = .ok (.aload_n 0, 1) := by decide +kernel
theorem dX3_boundFromParts_85 : decode cX3_boundFromParts 85 = .ok (.aload_n 2, 1) := by decide +kernel
theorem dX3_boundFromParts_86 : decode cX3_boundFromParts 86 = .ok (.lload_n 3, 1) := by decide +kernel
theorem dX3_boundFromParts_87 : decode cX3_boundFromParts 87 = .ok (.lload 5, 2) := by decide +kernel
theorem dX3_boundFromParts_89 : decode cX3_boundFromParts 89 = .ok (.invokevirtual 118, 3) := by decide +kernel
theorem dX3_boundFromParts_92 : decode cX3_boundFromParts 92 = .ok (.lstore 7, 2) := by decide +kernel
theorem dX3_boundFromParts_94 : decode cX3_boundFromParts 94 = .ok (.goto 20, 3) := by decide +kernel
theorem dX3_boundFromParts_97 : decode cX3_boundFromParts 97 = .ok (.lload_n 3, 1) := by decide +kernel
theorem dX3_boundFromParts_98 : decode cX3_boundFromParts 98 = .ok (.lload 5, 2) := by decide +kernel
theorem dX3_boundFromParts_100 : decode cX3_boundFromParts 100 = .ok (.invokestatic 122, 3) := by decide +kernel
theorem dX3_boundFromParts_103 : decode cX3_boundFromParts 103 = .ok (.lstore 7, 2) := by decide +kernel
theorem dX3_boundFromParts_105 : decode cX3_boundFromParts 105 = .ok (.goto 9, 3) := by decide +kernel
theorem dX3_boundFromParts_108 : decode cX3_boundFromParts 108 = .ok (.lload_n 3, 1) := by decide +kernel
theorem dX3_boundFromParts_109 : decode cX3_boundFromParts 109 = .ok (.lload 5, 2) := by decide +kernel
theorem dX3_boundFromParts_111 : decode cX3_boundFromParts 111 = .ok (.ladd, 1) := by decide +kernel
theorem dX3_boundFromParts_112 : decode cX3_boundFromParts 112 = .ok (.lstore 7, 2) := by decide +kernel
theorem dX3_boundFromParts_114 : decode cX3_boundFromParts 114 = .ok (.ldc2_w 128, 3) := by decide +kernel
theorem dX3_boundFromParts_117 : decode cX3_boundFromParts 117 = .ok (.lload 7, 2) := by decide +kernel
theorem dX3_boundFromParts_119 : decode cX3_boundFromParts 119 = .ok (.aload_n 2, 1) := by decide +kernel
theorem dX3_boundFromParts_120 : decode cX3_boundFromParts 120 = .ok (.getfield 130, 3) := by decide +kernel
theorem dX3_boundFromParts_123 : decode cX3_boundFromParts 123 = .ok (.aload_n 0, 1) := by decide +kernel
theorem dX3_boundFromParts_124 : decode cX3_boundFromParts 124 = .ok (.getfield 15, 3) := by decide +kernel
theorem dX3_boundFromParts_127 : decode cX3_boundFromParts 127 = .ok (.iload_n 1, 1) := by decide +kernel
theorem dX3_boundFromParts_128 : decode cX3_boundFromParts 128 = .ok (.iaload, 1) := by decide +kernel
theorem dX3_boundFromParts_129 : decode cX3_boundFromParts 129 = .ok (.invokestatic 133, 3) := by decide +kernel
theorem dX3_boundFromParts_132 : decode cX3_boundFromParts 132 = .ok (.ladd, 1) := by decide +kernel
theorem dX3_boundFromParts_133 : decode cX3_boundFromParts 133 = .ok (.invokestatic 136, 3) := by decide +kernel
theorem dX3_boundFromParts_136 : decode cX3_boundFromParts 136 = .ok (.lreturn, 1) := by decide +kernel
theorem dX3_boundOfProduct_0 : decode cX3_boundOfProduct 0 = .ok (.lload_n 2, 1) := by decide +kernel
theorem dX3_boundOfProduct_1 : decode cX3_boundOfProduct 1 = .ok (.ldc2_w 128, 3) := by decide +kernel
theorem dX3_boundOfProduct_4 : decode cX3_boundOfProduct 4 = .ok (.lcmp, 1) := by decide +kernel
theorem dX3_boundOfProduct_5 : decode cX3_boundOfProduct 5 = .ok (.ifCond .eq 12, 3) := by decide +kernel
theorem dX3_boundOfProduct_8 : decode cX3_boundOfProduct 8 = .ok (.lload 4, 2) := by decide +kernel
theorem dX3_boundOfProduct_10 : decode cX3_boundOfProduct 10 = .ok (.ldc2_w 128, 3) := by decide +kernel
theorem dX3_boundOfProduct_13 : decode cX3_boundOfProduct 13 = .ok (.lcmp, 1) := by decide +kernel
theorem dX3_boundOfProduct_14 : decode cX3_boundOfProduct 14 = .ok (.ifCond .ne 7, 3) := by decide +kernel
theorem dX3_boundOfProduct_17 : decode cX3_boundOfProduct 17 = .ok (.ldc2_w 128, 3) := by decide +kernel
theorem dX3_boundOfProduct_20 : decode cX3_boundOfProduct 20 = .ok (.lreturn, 1) := by decide +kernel
theorem dX3_boundOfProduct_21 : decode cX3_boundOfProduct 21 = .ok (.aload_n 0, 1) := by decide +kernel
theorem dX3_boundOfProduct_22 : decode cX3_boundOfProduct 22 = .ok (.getfield 9, 3) := by decide +kernel
theorem dX3_boundOfProduct_25 : decode cX3_boundOfProduct 25 = .ok (.getfield 87, 3) := by decide +kernel
theorem dX3_boundOfProduct_28 : decode cX3_boundOfProduct 28 = .ok (.aload_n 1, 1) := by decide +kernel
theorem dX3_boundOfProduct_29 : decode cX3_boundOfProduct 29 = .ok (.getfield 106, 3) := by decide +kernel
theorem dX3_boundOfProduct_32 : decode cX3_boundOfProduct 32 = .ok (.aaload, 1) := by decide +kernel
theorem dX3_boundOfProduct_33 : decode cX3_boundOfProduct 33 = .ok (.getfield 139, 3) := by decide +kernel
theorem dX3_boundOfProduct_36 : decode cX3_boundOfProduct 36 = .ok (.lstore 6, 2) := by decide +kernel
theorem dX3_boundOfProduct_38 : decode cX3_boundOfProduct 38 = .ok (.aload_n 0, 1) := by decide +kernel
theorem dX3_boundOfProduct_39 : decode cX3_boundOfProduct 39 = .ok (.getfield 9, 3) := by decide +kernel
theorem dX3_boundOfProduct_42 : decode cX3_boundOfProduct 42 = .ok (.getfield 87, 3) := by decide +kernel
theorem dX3_boundOfProduct_45 : decode cX3_boundOfProduct 45 = .ok (.aload_n 1, 1) := by decide +kernel
theorem dX3_boundOfProduct_46 : decode cX3_boundOfProduct 46 = .ok (.getfield 115, 3) := by decide +kernel
theorem dX3_boundOfProduct_49 : decode cX3_boundOfProduct 49 = .ok (.aaload, 1) := by decide +kernel
theorem dX3_boundOfProduct_50 : decode cX3_boundOfProduct 50 = .ok (.getfield 139, 3) := by decide +kernel
theorem dX3_boundOfProduct_53 : decode cX3_boundOfProduct 53 = .ok (.lstore 8, 2) := by decide +kernel
theorem dX3_boundOfProduct_55 : decode cX3_boundOfProduct 55 = .ok (.lload 6, 2) := by decide +kernel
theorem dX3_boundOfProduct_57 : decode cX3_boundOfProduct 57 = .ok (.lload 4, 2) := by decide +kernel
theorem dX3_boundOfProduct_59 : decode cX3_boundOfProduct 59 = .ok (.lmul, 1) := by decide +kernel
theorem dX3_boundOfProduct_60 : decode cX3_boundOfProduct 60 = .ok (.lload 8, 2) := by decide +kernel
theorem dX3_boundOfProduct_62 : decode cX3_boundOfProduct 62 = .ok (.lload_n 2, 1) := by decide +kernel
theorem dX3_boundOfProduct_63 : decode cX3_boundOfProduct 63 = .ok (.lmul, 1) := by decide +kernel
theorem dX3_boundOfProduct_64 : decode cX3_boundOfProduct 64 = .ok (.ladd, 1) := by decide +kernel
theorem dX3_boundOfProduct_65 : decode cX3_boundOfProduct 65 = .ok (.lload_n 2, 1) := by decide +kernel
theorem dX3_boundOfProduct_66 : decode cX3_boundOfProduct 66 = .ok (.lload 4, 2) := by decide +kernel
theorem dX3_boundOfProduct_68 : decode cX3_boundOfProduct 68 = .ok (.lmul, 1) := by decide +kernel
theorem dX3_boundOfProduct_69 : decode cX3_boundOfProduct 69 = .ok (.ladd, 1) := by decide +kernel
theorem dX3_boundOfProduct_70 : decode cX3_boundOfProduct 70 = .ok (.lstore 10, 2) := by decide +kernel
theorem dX3_boundOfProduct_72 : decode cX3_boundOfProduct 72 = .ok (.lload 10, 2) := by decide +kernel
theorem dX3_boundOfProduct_74 : decode cX3_boundOfProduct 74 = .ok (.ldc2_w 143, 3) := by decide +kernel
theorem dX3_boundOfProduct_77 : decode cX3_boundOfProduct 77 = .ok (.ladd, 1) := by decide +kernel
theorem dX3_boundOfProduct_78 : decode cX3_boundOfProduct 78 = .ok (.bipush 16, 2) := by decide +kernel
theorem dX3_boundOfProduct_80 : decode cX3_boundOfProduct 80 = .ok (.lshr, 1) := by decide +kernel
theorem dX3_boundOfProduct_81 : decode cX3_boundOfProduct 81 = .ok (.lreturn, 1) := by decide +kernel
theorem dX3_roundingMiss_0 : decode cX3_roundingMiss 0 = .ok (.ldc2_w 145, 3) := by decide +kernel
theorem dX3_roundingMiss_3 : decode cX3_roundingMiss 3 = .ok (.iload_n 1, 1) := by decide +kernel
theorem dX3_roundingMiss_4 : decode cX3_roundingMiss 4 = .ok (.lshr, 1) := by decide +kernel
theorem dX3_roundingMiss_5 : decode cX3_roundingMiss 5 = .ok (.lstore_n 2, 1) := by decide +kernel
theorem dX3_roundingMiss_6 : decode cX3_roundingMiss 6 = .ok (.iload_n 0, 1) := by decide +kernel
theorem dX3_roundingMiss_7 : decode cX3_roundingMiss 7 = .ok (.iconst 1, 1) := by decide +kernel
theorem dX3_roundingMiss_8 : decode cX3_roundingMiss 8 = .ok (.if_icmp .ne 11, 3) := by decide +kernel
theorem dX3_roundingMiss_11 : decode cX3_roundingMiss 11 = .ok (.lload_n 2, 1) := by decide +kernel
theorem dX3_roundingMiss_12 : decode cX3_roundingMiss 12 = .ok (.ldc2_w 147, 3) := by decide +kernel
theorem dX3_roundingMiss_15 : decode cX3_roundingMiss 15 = .ok (.ldiv, 1) := by decide +kernel
theorem dX3_roundingMiss_16 : decode cX3_roundingMiss 16 = .ok (.goto 6, 3) := by decide +kernel
theorem dX3_roundingMiss_19 : decode cX3_roundingMiss 19 = .ok (.lload_n 2, 1) := by decide +kernel
theorem dX3_roundingMiss_20 : decode cX3_roundingMiss 20 = .ok (.lconst 1, 1) := by decide +kernel
theorem dX3_roundingMiss_21 : decode cX3_roundingMiss 21 = .ok (.lsub, 1) := by decide +kernel
theorem dX3_roundingMiss_22 : decode cX3_roundingMiss 22 = .ok (.lreturn, 1) := by decide +kernel
theorem dX4_init_0 : decode cX4_init 0 = .ok (.aload_n 0, 1) := by decide +kernel
theorem dX4_init_1 : decode cX4_init 1 = .ok (.invokespecial 1, 3) := by decide +kernel
theorem dX4_init_4 : decode cX4_init 4 = .ok (.aload_n 0, 1) := by decide +kernel
theorem dX4_init_5 : decode cX4_init 5 = .ok (.new 7, 3) := by decide +kernel
theorem dX4_init_8 : decode cX4_init 8 = .ok (.dup, 1) := by decide +kernel
theorem dX4_init_9 : decode cX4_init 9 = .ok (.invokespecial 9, 3) := by decide +kernel
theorem dX4_init_12 : decode cX4_init 12 = .ok (.putfield 10, 3) := by decide +kernel
theorem dX4_init_15 : decode cX4_init 15 = .ok (.aload_n 0, 1) := by decide +kernel
theorem dX4_init_16 : decode cX4_init 16 = .ok (.new 16, 3) := by decide +kernel
theorem dX4_init_19 : decode cX4_init 19 = .ok (.dup, 1) := by decide +kernel
theorem dX4_init_20 : decode cX4_init 20 = .ok (.aload_n 0, 1) := by decide +kernel
theorem dX4_init_21 : decode cX4_init 21 = .ok (.getfield 10, 3) := by decide +kernel
theorem dX4_init_24 : decode cX4_init 24 = .ok (.invokespecial 18, 3) := by decide +kernel
theorem dX4_init_27 : decode cX4_init 27 = .ok (.putfield 21, 3) := by decide +kernel
theorem dX4_init_30 : decode cX4_init 30 = .ok (.aload_n 0, 1) := by decide +kernel
theorem dX4_init_31 : decode cX4_init 31 = .ok (.new 25, 3) := by decide +kernel
theorem dX4_init_34 : decode cX4_init 34 = .ok (.dup, 1) := by decide +kernel
theorem dX4_init_35 : decode cX4_init 35 = .ok (.aload_n 0, 1) := by decide +kernel
theorem dX4_init_36 : decode cX4_init 36 = .ok (.getfield 10, 3) := by decide +kernel
theorem dX4_init_39 : decode cX4_init 39 = .ok (.invokespecial 27, 3) := by decide +kernel
theorem dX4_init_42 : decode cX4_init 42 = .ok (.putfield 28, 3) := by decide +kernel
theorem dX4_init_45 : decode cX4_init 45 = .ok (.return_, 1) := by decide +kernel
theorem dX4_input_0 : decode cX4_input 0 = .ok (.iload_n 1, 1) := by decide +kernel
theorem dX4_input_1 : decode cX4_input 1 = .ok (.invokestatic 32, 3) := by decide +kernel
theorem dX4_input_4 : decode cX4_input 4 = .ok (.ifCond .eq 15, 3) := by decide +kernel
theorem dX4_input_7 : decode cX4_input 7 = .ok (.iload_n 2, 1) := by decide +kernel
theorem dX4_input_8 : decode cX4_input 8 = .ok (.invokestatic 32, 3) := by decide +kernel
theorem dX4_input_11 : decode cX4_input 11 = .ok (.ifCond .eq 8, 3) := by decide +kernel
theorem dX4_input_14 : decode cX4_input 14 = .ok (.iload_n 1, 1) := by decide +kernel
theorem dX4_input_15 : decode cX4_input 15 = .ok (.iload_n 2, 1) := by decide +kernel
theorem dX4_input_16 : decode cX4_input 16 = .ok (.if_icmp .le 6, 3) := by decide +kernel
theorem dX4_input_19 : decode cX4_input 19 = .ok (.bipush (-2), 2) := by decide +kernel
theorem dX4_input_21 : decode cX4_input 21 = .ok (.ireturn, 1) := by decide +kernel
theorem dX4_input_22 : decode cX4_input 22 = .ok (.aload_n 0, 1) := by decide +kernel
theorem dX4_input_23 : decode cX4_input 23 = .ok (.getfield 10, 3) := by decide +kernel
theorem dX4_input_26 : decode cX4_input 26 = .ok (.iconst 0, 1) := by decide +kernel
theorem dX4_input_27 : decode cX4_input 27 = .ok (.iload_n 1, 1) := by decide +kernel
theorem dX4_input_28 : decode cX4_input 28 = .ok (.iload_n 2, 1) := by decide +kernel
theorem dX4_input_29 : decode cX4_input 29 = .ok (.invokevirtual 36, 3) := by decide +kernel
theorem dX4_input_32 : decode cX4_input 32 = .ok (.ireturn, 1) := by decide +kernel
theorem dX4_fixed_0 : decode cX4_fixed 0 = .ok (.iload_n 1, 1) := by decide +kernel
theorem dX4_fixed_1 : decode cX4_fixed 1 = .ok (.invokestatic 32, 3) := by decide +kernel
theorem dX4_fixed_4 : decode cX4_fixed 4 = .ok (.ifCond .ne 6, 3) := by decide +kernel
theorem dX4_fixed_7 : decode cX4_fixed 7 = .ok (.bipush (-2), 2) := by decide +kernel
theorem dX4_fixed_9 : decode cX4_fixed 9 = .ok (.ireturn, 1) := by decide +kernel
theorem dX4_fixed_10 : decode cX4_fixed 10 = .ok (.aload_n 0, 1) := by decide +kernel
theorem dX4_fixed_11 : decode cX4_fixed 11 = .ok (.getfield 10, 3) := by decide +kernel
theorem dX4_fixed_14 : decode cX4_fixed 14 = .ok (.iconst 1, 1) := by decide +kernel
theorem dX4_fixed_15 : decode cX4_fixed 15 = .ok (.iload_n 1, 1) := by decide +kernel
theorem dX4_fixed_16 : decode cX4_fixed 16 = .ok (.iconst 0, 1) := by decide +kernel
theorem dX4_fixed_17 : decode cX4_fixed 17 = .ok (.invokevirtual 36, 3) := by decide +kernel
theorem dX4_fixed_20 : decode cX4_fixed 20 = .ok (.ireturn, 1) := by decide +kernel
theorem dX4_work_0 : decode cX4_work 0 = .ok (.iload_n 1, 1) := by decide +kernel
theorem dX4_work_1 : decode cX4_work 1 = .ok (.iconst 2, 1) := by decide +kernel
theorem dX4_work_2 : decode cX4_work 2 = .ok (.if_icmp .lt 20, 3) := by decide +kernel
theorem dX4_work_5 : decode cX4_work 5 = .ok (.iload_n 1, 1) := by decide +kernel
theorem dX4_work_6 : decode cX4_work 6 = .ok (.bipush 7, 2) := by decide +kernel
theorem dX4_work_8 : decode cX4_work 8 = .ok (.if_icmp .gt 14, 3) := by decide +kernel
theorem dX4_work_11 : decode cX4_work 11 = .ok (.aload_n 0, 1) := by decide +kernel
theorem dX4_work_12 : decode cX4_work 12 = .ok (.getfield 10, 3) := by decide +kernel
theorem dX4_work_15 : decode cX4_work 15 = .ok (.iload_n 2, 1) := by decide +kernel
theorem dX4_work_16 : decode cX4_work 16 = .ok (.invokevirtual 40, 3) := by decide +kernel
theorem dX4_work_19 : decode cX4_work 19 = .ok (.ifCond .ne 6, 3) := by decide +kernel
theorem dX4_work_22 : decode cX4_work 22 = .ok (.bipush (-2), 2) := by decide +kernel
theorem dX4_work_24 : decode cX4_work 24 = .ok (.ireturn, 1) := by decide +kernel
theorem dX4_work_25 : decode cX4_work 25 = .ok (.iload_n 1, 1) := by decide +kernel
theorem dX4_work_26 : decode cX4_work 26 = .ok (.invokestatic 43, 3) := by decide +kernel
theorem dX4_work_29 : decode cX4_work 29 = .ok (.ifCond .eq 14, 3) := by decide +kernel
theorem dX4_work_32 : decode cX4_work 32 = .ok (.aload_n 0, 1) := by decide +kernel
theorem dX4_work_33 : decode cX4_work 33 = .ok (.getfield 10, 3) := by decide +kernel
theorem dX4_work_36 : decode cX4_work 36 = .ok (.iload_n 3, 1) := by decide +kernel
theorem dX4_work_37 : decode cX4_work 37 = .ok (.invokevirtual 40, 3) := by decide +kernel
theorem dX4_work_40 : decode cX4_work 40 = .ok (.goto 12, 3) := by decide +kernel
theorem dX4_work_43 : decode cX4_work 43 = .ok (.iload_n 3, 1) := by decide +kernel
theorem dX4_work_44 : decode cX4_work 44 = .ok (.ifCond .ne 7, 3) := by decide +kernel
theorem dX4_work_47 : decode cX4_work 47 = .ok (.iconst 1, 1) := by decide +kernel
theorem dX4_work_48 : decode cX4_work 48 = .ok (.goto 4, 3) := by decide +kernel
theorem dX4_work_51 : decode cX4_work 51 = .ok (.iconst 0, 1) := by decide +kernel
theorem dX4_work_52 : decode cX4_work 52 = .ok (.istore 4, 2) := by decide +kernel
theorem dX4_work_54 : decode cX4_work 54 = .ok (.iload 4, 2) := by decide +kernel
theorem dX4_work_56 : decode cX4_work 56 = .ok (.ifCond .eq 16, 3) := by decide +kernel
theorem dX4_work_59 : decode cX4_work 59 = .ok (.aload_n 0, 1) := by decide +kernel
theorem dX4_work_60 : decode cX4_work 60 = .ok (.getfield 10, 3) := by decide +kernel
theorem dX4_work_63 : decode cX4_work 63 = .ok (.iload_n 1, 1) := by decide +kernel
theorem dX4_work_64 : decode cX4_work 64 = .ok (.iload_n 2, 1) := by decide +kernel
theorem dX4_work_65 : decode cX4_work 65 = .ok (.iload_n 3, 1) := by decide +kernel
theorem dX4_work_66 : decode cX4_work 66 = .ok (.invokevirtual 46, 3) := by decide +kernel
theorem dX4_work_69 : decode cX4_work 69 = .ok (.goto 5, 3) := by decide +kernel
theorem dX4_work_72 : decode cX4_work 72 = .ok (.bipush (-2), 2) := by decide +kernel
theorem dX4_work_74 : decode cX4_work 74 = .ok (.ireturn, 1) := by decide +kernel
theorem dX4_cut_0 : decode cX4_cut 0 = .ok (.iload_n 1, 1) := by decide +kernel
theorem dX4_cut_1 : decode cX4_cut 1 = .ok (.ifCond .lt 14, 3) := by decide +kernel
theorem dX4_cut_4 : decode cX4_cut 4 = .ok (.iload_n 1, 1) := by decide +kernel
theorem dX4_cut_5 : decode cX4_cut 5 = .ok (.aload_n 0, 1) := by decide +kernel
theorem dX4_cut_6 : decode cX4_cut 6 = .ok (.getfield 10, 3) := by decide +kernel
theorem dX4_cut_9 : decode cX4_cut 9 = .ok (.getfield 49, 3) := by decide +kernel
theorem dX4_cut_12 : decode cX4_cut 12 = .ok (.if_icmp .le 6, 3) := by decide +kernel
theorem dX4_cut_15 : decode cX4_cut 15 = .ok (.bipush (-2), 2) := by decide +kernel
theorem dX4_cut_17 : decode cX4_cut 17 = .ok (.ireturn, 1) := by decide +kernel
theorem dX4_cut_18 : decode cX4_cut 18 = .ok (.aload_n 0, 1) := by decide +kernel
theorem dX4_cut_19 : decode cX4_cut 19 = .ok (.getfield 10, 3) := by decide +kernel
theorem dX4_cut_22 : decode cX4_cut 22 = .ok (.getfield 49, 3) := by decide +kernel
theorem dX4_cut_25 : decode cX4_cut 25 = .ok (.iload_n 1, 1) := by decide +kernel
theorem dX4_cut_26 : decode cX4_cut 26 = .ok (.isub, 1) := by decide +kernel
theorem dX4_cut_27 : decode cX4_cut 27 = .ok (.istore_n 2, 1) := by decide +kernel
theorem dX4_cut_28 : decode cX4_cut 28 = .ok (.aload_n 0, 1) := by decide +kernel
theorem dX4_cut_29 : decode cX4_cut 29 = .ok (.getfield 10, 3) := by decide +kernel
theorem dX4_cut_32 : decode cX4_cut 32 = .ok (.iload_n 1, 1) := by decide +kernel
theorem dX4_cut_33 : decode cX4_cut 33 = .ok (.putfield 49, 3) := by decide +kernel
theorem dX4_cut_36 : decode cX4_cut 36 = .ok (.iload_n 2, 1) := by decide +kernel
theorem dX4_cut_37 : decode cX4_cut 37 = .ok (.ireturn, 1) := by decide +kernel
theorem dX4_bits_0 : decode cX4_bits 0 = .ok (.aload_n 0, 1) := by decide +kernel
theorem dX4_bits_1 : decode cX4_bits 1 = .ok (.getfield 10, 3) := by decide +kernel
theorem dX4_bits_4 : decode cX4_bits 4 = .ok (.iload_n 1, 1) := by decide +kernel
theorem dX4_bits_5 : decode cX4_bits 5 = .ok (.invokevirtual 53, 3) := by decide +kernel
theorem dX4_bits_8 : decode cX4_bits 8 = .ok (.ifCond .eq 13, 3) := by decide +kernel
theorem dX4_bits_11 : decode cX4_bits 11 = .ok (.iload_n 2, 1) := by decide +kernel
theorem dX4_bits_12 : decode cX4_bits 12 = .ok (.ifCond .lt 9, 3) := by decide +kernel
theorem dX4_bits_15 : decode cX4_bits 15 = .ok (.iload_n 2, 1) := by decide +kernel
theorem dX4_bits_16 : decode cX4_bits 16 = .ok (.bipush 16, 2) := by decide +kernel
theorem dX4_bits_18 : decode cX4_bits 18 = .ok (.if_icmp .le 6, 3) := by decide +kernel
theorem dX4_bits_21 : decode cX4_bits 21 = .ok (.bipush (-2), 2) := by decide +kernel
theorem dX4_bits_23 : decode cX4_bits 23 = .ok (.ireturn, 1) := by decide +kernel
theorem dX4_bits_24 : decode cX4_bits 24 = .ok (.aload_n 0, 1) := by decide +kernel
theorem dX4_bits_25 : decode cX4_bits 25 = .ok (.getfield 10, 3) := by decide +kernel
theorem dX4_bits_28 : decode cX4_bits 28 = .ok (.getfield 56, 3) := by decide +kernel
theorem dX4_bits_31 : decode cX4_bits 31 = .ok (.iload_n 1, 1) := by decide +kernel
theorem dX4_bits_32 : decode cX4_bits 32 = .ok (.aaload, 1) := by decide +kernel
theorem dX4_bits_33 : decode cX4_bits 33 = .ok (.astore_n 3, 1) := by decide +kernel
theorem dX4_bits_34 : decode cX4_bits 34 = .ok (.aload_n 3, 1) := by decide +kernel
theorem dX4_bits_35 : decode cX4_bits 35 = .ok (.getfield 60, 3) := by decide +kernel
theorem dX4_bits_38 : decode cX4_bits 38 = .ok (.istore 4, 2) := by decide +kernel
theorem dX4_bits_40 : decode cX4_bits 40 = .ok (.aload_n 3, 1) := by decide +kernel
theorem dX4_bits_41 : decode cX4_bits 41 = .ok (.iload_n 2, 1) := by decide +kernel
theorem dX4_bits_42 : decode cX4_bits 42 = .ok (.putfield 60, 3) := by decide +kernel
theorem dX4_bits_45 : decode cX4_bits 45 = .ok (.iload 4, 2) := by decide +kernel
theorem dX4_bits_47 : decode cX4_bits 47 = .ok (.ireturn, 1) := by decide +kernel
theorem dX4_rounding_0 : decode cX4_rounding 0 = .ok (.aload_n 0, 1) := by decide +kernel
theorem dX4_rounding_1 : decode cX4_rounding 1 = .ok (.getfield 10, 3) := by decide +kernel
theorem dX4_rounding_4 : decode cX4_rounding 4 = .ok (.iload_n 1, 1) := by decide +kernel
theorem dX4_rounding_5 : decode cX4_rounding 5 = .ok (.invokevirtual 53, 3) := by decide +kernel
theorem dX4_rounding_8 : decode cX4_rounding 8 = .ok (.ifCond .eq 12, 3) := by decide +kernel
theorem dX4_rounding_11 : decode cX4_rounding 11 = .ok (.iload_n 2, 1) := by decide +kernel
theorem dX4_rounding_12 : decode cX4_rounding 12 = .ok (.ifCond .lt 8, 3) := by decide +kernel
theorem dX4_rounding_15 : decode cX4_rounding 15 = .ok (.iload_n 2, 1) := by decide +kernel
theorem dX4_rounding_16 : decode cX4_rounding 16 = .ok (.iconst 2, 1) := by decide +kernel
theorem dX4_rounding_17 : decode cX4_rounding 17 = .ok (.if_icmp .le 6, 3) := by decide +kernel
theorem dX4_rounding_20 : decode cX4_rounding 20 = .ok (.bipush (-2), 2) := by decide +kernel
theorem dX4_rounding_22 : decode cX4_rounding 22 = .ok (.ireturn, 1) := by decide +kernel
theorem dX4_rounding_23 : decode cX4_rounding 23 = .ok (.aload_n 0, 1) := by decide +kernel
theorem dX4_rounding_24 : decode cX4_rounding 24 = .ok (.getfield 10, 3) := by decide +kernel
theorem dX4_rounding_27 : decode cX4_rounding 27 = .ok (.getfield 56, 3) := by decide +kernel
theorem dX4_rounding_30 : decode cX4_rounding 30 = .ok (.iload_n 1, 1) := by decide +kernel
theorem dX4_rounding_31 : decode cX4_rounding 31 = .ok (.aaload, 1) := by decide +kernel
theorem dX4_rounding_32 : decode cX4_rounding 32 = .ok (.astore_n 3, 1) := by decide +kernel
theorem dX4_rounding_33 : decode cX4_rounding 33 = .ok (.aload_n 3, 1) := by decide +kernel
theorem dX4_rounding_34 : decode cX4_rounding 34 = .ok (.getfield 65, 3) := by decide +kernel
theorem dX4_rounding_37 : decode cX4_rounding 37 = .ok (.istore 4, 2) := by decide +kernel
theorem dX4_rounding_39 : decode cX4_rounding 39 = .ok (.aload_n 3, 1) := by decide +kernel
theorem dX4_rounding_40 : decode cX4_rounding 40 = .ok (.iload_n 2, 1) := by decide +kernel
theorem dX4_rounding_41 : decode cX4_rounding 41 = .ok (.putfield 65, 3) := by decide +kernel
theorem dX4_rounding_44 : decode cX4_rounding 44 = .ok (.iload 4, 2) := by decide +kernel
theorem dX4_rounding_46 : decode cX4_rounding 46 = .ok (.ireturn, 1) := by decide +kernel
theorem dX4_weight_0 : decode cX4_weight 0 = .ok (.aload_n 0, 1) := by decide +kernel
theorem dX4_weight_1 : decode cX4_weight 1 = .ok (.getfield 10, 3) := by decide +kernel
theorem dX4_weight_4 : decode cX4_weight 4 = .ok (.iload_n 1, 1) := by decide +kernel
theorem dX4_weight_5 : decode cX4_weight 5 = .ok (.invokevirtual 53, 3) := by decide +kernel
theorem dX4_weight_8 : decode cX4_weight 8 = .ok (.ifCond .eq 13, 3) := by decide +kernel
theorem dX4_weight_11 : decode cX4_weight 11 = .ok (.iload_n 2, 1) := by decide +kernel
theorem dX4_weight_12 : decode cX4_weight 12 = .ok (.ifCond .lt 9, 3) := by decide +kernel
theorem dX4_weight_15 : decode cX4_weight 15 = .ok (.iload_n 2, 1) := by decide +kernel
theorem dX4_weight_16 : decode cX4_weight 16 = .ok (.bipush 100, 2) := by decide +kernel
theorem dX4_weight_18 : decode cX4_weight 18 = .ok (.if_icmp .le 6, 3) := by decide +kernel
theorem dX4_weight_21 : decode cX4_weight 21 = .ok (.bipush (-2), 2) := by decide +kernel
theorem dX4_weight_23 : decode cX4_weight 23 = .ok (.ireturn, 1) := by decide +kernel
theorem dX4_weight_24 : decode cX4_weight 24 = .ok (.aload_n 0, 1) := by decide +kernel
theorem dX4_weight_25 : decode cX4_weight 25 = .ok (.getfield 10, 3) := by decide +kernel
theorem dX4_weight_28 : decode cX4_weight 28 = .ok (.getfield 56, 3) := by decide +kernel
theorem dX4_weight_31 : decode cX4_weight 31 = .ok (.iload_n 1, 1) := by decide +kernel
theorem dX4_weight_32 : decode cX4_weight 32 = .ok (.aaload, 1) := by decide +kernel
theorem dX4_weight_33 : decode cX4_weight 33 = .ok (.astore_n 3, 1) := by decide +kernel
theorem dX4_weight_34 : decode cX4_weight 34 = .ok (.aload_n 3, 1) := by decide +kernel
theorem dX4_weight_35 : decode cX4_weight 35 = .ok (.getfield 68, 3) := by decide +kernel
theorem dX4_weight_38 : decode cX4_weight 38 = .ok (.istore 4, 2) := by decide +kernel
theorem dX4_weight_40 : decode cX4_weight 40 = .ok (.aload_n 3, 1) := by decide +kernel
theorem dX4_weight_41 : decode cX4_weight 41 = .ok (.iload_n 2, 1) := by decide +kernel
theorem dX4_weight_42 : decode cX4_weight 42 = .ok (.putfield 68, 3) := by decide +kernel
theorem dX4_weight_45 : decode cX4_weight 45 = .ok (.iload 4, 2) := by decide +kernel
theorem dX4_weight_47 : decode cX4_weight 47 = .ok (.ireturn, 1) := by decide +kernel
theorem dX4_about_0 : decode cX4_about 0 = .ok (.aload_n 0, 1) := by decide +kernel
theorem dX4_about_1 : decode cX4_about 1 = .ok (.getfield 10, 3) := by decide +kernel
theorem dX4_about_4 : decode cX4_about 4 = .ok (.iload_n 1, 1) := by decide +kernel
theorem dX4_about_5 : decode cX4_about 5 = .ok (.invokevirtual 40, 3) := by decide +kernel
theorem dX4_about_8 : decode cX4_about 8 = .ok (.ifCond .ne 9, 3) := by decide +kernel
theorem dX4_about_11 : decode cX4_about 11 = .ok (.bipush (-2), 2) := by decide +kernel
theorem dX4_about_13 : decode cX4_about 13 = .ok (.invokestatic 71, 3) := by decide +kernel
theorem dX4_about_16 : decode cX4_about 16 = .ok (.lreturn, 1) := by decide +kernel
theorem dX4_about_17 : decode cX4_about 17 = .ok (.aload_n 0, 1) := by decide +kernel
theorem dX4_about_18 : decode cX4_about 18 = .ok (.getfield 10, 3) := by decide +kernel
theorem dX4_about_21 : decode cX4_about 21 = .ok (.getfield 56, 3) := by decide +kernel
theorem dX4_about_24 : decode cX4_about 24 = .ok (.iload_n 1, 1) := by decide +kernel
theorem dX4_about_25 : decode cX4_about 25 = .ok (.aaload, 1) := by decide +kernel
theorem dX4_about_26 : decode cX4_about 26 = .ok (.astore_n 3, 1) := by decide +kernel
theorem dX4_about_27 : decode cX4_about 27 = .ok (.iload_n 2, 1) := by decide +kernel
theorem dX4_about_28 : decode cX4_about 28 = .ok (.tableswitch 117 0 9 #[56, 62, 68, 74, 80, 86, 92, 98, 103, 108], 56) := by decide +kernel
theorem dX4_about_84 : decode cX4_about 84 = .ok (.aload_n 3, 1) := by decide +kernel
theorem dX4_about_85 : decode cX4_about 85 = .ok (.getfield 75, 3) := by decide +kernel
theorem dX4_about_88 : decode cX4_about 88 = .ok (.i2l, 1) := by decide +kernel
theorem dX4_about_89 : decode cX4_about 89 = .ok (.lreturn, 1) := by decide +kernel
theorem dX4_about_90 : decode cX4_about 90 = .ok (.aload_n 3, 1) := by decide +kernel
theorem dX4_about_91 : decode cX4_about 91 = .ok (.getfield 78, 3) := by decide +kernel
theorem dX4_about_94 : decode cX4_about 94 = .ok (.i2l, 1) := by decide +kernel
theorem dX4_about_95 : decode cX4_about 95 = .ok (.lreturn, 1) := by decide +kernel
theorem dX4_about_96 : decode cX4_about 96 = .ok (.aload_n 3, 1) := by decide +kernel
theorem dX4_about_97 : decode cX4_about 97 = .ok (.getfield 81, 3) := by decide +kernel
theorem dX4_about_100 : decode cX4_about 100 = .ok (.i2l, 1) := by decide +kernel
theorem dX4_about_101 : decode cX4_about 101 = .ok (.lreturn, 1) := by decide +kernel
theorem dX4_about_102 : decode cX4_about 102 = .ok (.aload_n 3, 1) := by decide +kernel
theorem dX4_about_103 : decode cX4_about 103 = .ok (.getfield 84, 3) := by decide +kernel
theorem dX4_about_106 : decode cX4_about 106 = .ok (.i2l, 1) := by decide +kernel
theorem dX4_about_107 : decode cX4_about 107 = .ok (.lreturn, 1) := by decide +kernel
theorem dX4_about_108 : decode cX4_about 108 = .ok (.aload_n 3, 1) := by decide +kernel
theorem dX4_about_109 : decode cX4_about 109 = .ok (.getfield 60, 3) := by decide +kernel
theorem dX4_about_112 : decode cX4_about 112 = .ok (.i2l, 1) := by decide +kernel
theorem dX4_about_113 : decode cX4_about 113 = .ok (.lreturn, 1) := by decide +kernel
theorem dX4_about_114 : decode cX4_about 114 = .ok (.aload_n 3, 1) := by decide +kernel
theorem dX4_about_115 : decode cX4_about 115 = .ok (.getfield 65, 3) := by decide +kernel
theorem dX4_about_118 : decode cX4_about 118 = .ok (.i2l, 1) := by decide +kernel
theorem dX4_about_119 : decode cX4_about 119 = .ok (.lreturn, 1) := by decide +kernel
theorem dX4_about_120 : decode cX4_about 120 = .ok (.aload_n 3, 1) := by decide +kernel
theorem dX4_about_121 : decode cX4_about 121 = .ok (.getfield 68, 3) := by decide +kernel
theorem dX4_about_124 : decode cX4_about 124 = .ok (.i2l, 1) := by decide +kernel
theorem dX4_about_125 : decode cX4_about 125 = .ok (.lreturn, 1) := by decide +kernel
theorem dX4_about_126 : decode cX4_about 126 = .ok (.aload_n 3, 1) := by decide +kernel
theorem dX4_about_127 : decode cX4_about 127 = .ok (.getfield 87, 3) := by decide +kernel
theorem dX4_about_130 : decode cX4_about 130 = .ok (.lreturn, 1) := by decide +kernel
theorem dX4_about_131 : decode cX4_about 131 = .ok (.aload_n 3, 1) := by decide +kernel
theorem dX4_about_132 : decode cX4_about 132 = .ok (.getfield 91, 3) := by decide +kernel
theorem dX4_about_135 : decode cX4_about 135 = .ok (.lreturn, 1) := by decide +kernel
theorem dX4_about_136 : decode cX4_about 136 = .ok (.aload_n 0, 1) := by decide +kernel
theorem dX4_about_137 : decode cX4_about 137 = .ok (.getfield 28, 3) := by decide +kernel
theorem dX4_about_140 : decode cX4_about 140 = .ok (.iload_n 1, 1) := by decide +kernel
theorem dX4_about_141 : decode cX4_about 141 = .ok (.invokevirtual 94, 3) := by decide +kernel
theorem dX4_about_144 : decode cX4_about 144 = .ok (.lreturn, 1) := by decide +kernel
theorem dX4_about_145 : decode cX4_about 145 = .ok (.bipush (-2), 2) := by decide +kernel
theorem dX4_about_147 : decode cX4_about 147 = .ok (.invokestatic 71, 3) := by decide +kernel
theorem dX4_about_150 : decode cX4_about 150 = .ok (.lreturn, 1) := by decide +kernel
theorem dX4_price_0 : decode cX4_price 0 = .ok (.aload_n 0, 1) := by decide +kernel
theorem dX4_price_1 : decode cX4_price 1 = .ok (.getfield 10, 3) := by decide +kernel
theorem dX4_price_4 : decode cX4_price 4 = .ok (.invokevirtual 97, 3) := by decide +kernel
theorem dX4_price_7 : decode cX4_price 7 = .ok (.ireturn, 1) := by decide +kernel
theorem dX4_set_0 : decode cX4_set 0 = .ok (.aload_n 0, 1) := by decide +kernel
theorem dX4_set_1 : decode cX4_set 1 = .ok (.getfield 10, 3) := by decide +kernel
theorem dX4_set_4 : decode cX4_set 4 = .ok (.iload_n 1, 1) := by decide +kernel
theorem dX4_set_5 : decode cX4_set 5 = .ok (.invokevirtual 101, 3) := by decide +kernel
theorem dX4_set_8 : decode cX4_set 8 = .ok (.ifCond .eq 10, 3) := by decide +kernel
theorem dX4_set_11 : decode cX4_set 11 = .ok (.iload_n 2, 1) := by decide +kernel
theorem dX4_set_12 : decode cX4_set 12 = .ok (.invokestatic 104, 3) := by decide +kernel
theorem dX4_set_15 : decode cX4_set 15 = .ok (.ifCond .ne 6, 3) := by decide +kernel
theorem dX4_set_18 : decode cX4_set 18 = .ok (.bipush (-2), 2) := by decide +kernel
theorem dX4_set_20 : decode cX4_set 20 = .ok (.ireturn, 1) := by decide +kernel
theorem dX4_set_21 : decode cX4_set 21 = .ok (.aload_n 0, 1) := by decide +kernel
theorem dX4_set_22 : decode cX4_set 22 = .ok (.getfield 10, 3) := by decide +kernel
theorem dX4_set_25 : decode cX4_set 25 = .ok (.getfield 56, 3) := by decide +kernel
theorem dX4_set_28 : decode cX4_set 28 = .ok (.iload_n 1, 1) := by decide +kernel
theorem dX4_set_29 : decode cX4_set 29 = .ok (.aaload, 1) := by decide +kernel
theorem dX4_set_30 : decode cX4_set 30 = .ok (.astore_n 3, 1) := by decide +kernel
theorem dX4_set_31 : decode cX4_set 31 = .ok (.iload_n 2, 1) := by decide +kernel
theorem dX4_set_32 : decode cX4_set 32 = .ok (.i2l, 1) := by decide +kernel
theorem dX4_set_33 : decode cX4_set 33 = .ok (.aload_n 3, 1) := by decide +kernel
theorem dX4_set_34 : decode cX4_set 34 = .ok (.getfield 87, 3) := by decide +kernel
theorem dX4_set_37 : decode cX4_set 37 = .ok (.lcmp, 1) := by decide +kernel
theorem dX4_set_38 : decode cX4_set 38 = .ok (.ifCond .lt 13, 3) := by decide +kernel
theorem dX4_set_41 : decode cX4_set 41 = .ok (.iload_n 2, 1) := by decide +kernel
theorem dX4_set_42 : decode cX4_set 42 = .ok (.i2l, 1) := by decide +kernel
theorem dX4_set_43 : decode cX4_set 43 = .ok (.aload_n 3, 1) := by decide +kernel
theorem dX4_set_44 : decode cX4_set 44 = .ok (.getfield 91, 3) := by decide +kernel
theorem dX4_set_47 : decode cX4_set 47 = .ok (.lcmp, 1) := by decide +kernel
theorem dX4_set_48 : decode cX4_set 48 = .ok (.ifCond .le 6, 3) := by decide +kernel
theorem dX4_set_51 : decode cX4_set 51 = .ok (.bipush (-2), 2) := by decide +kernel
theorem dX4_set_53 : decode cX4_set 53 = .ok (.ireturn, 1) := by decide +kernel
theorem dX4_set_54 : decode cX4_set 54 = .ok (.aload_n 3, 1) := by decide +kernel
theorem dX4_set_55 : decode cX4_set 55 = .ok (.iload_n 2, 1) := by decide +kernel
theorem dX4_set_56 : decode cX4_set 56 = .ok (.putfield 107, 3) := by decide +kernel
theorem dX4_set_59 : decode cX4_set 59 = .ok (.iconst 1, 1) := by decide +kernel
theorem dX4_set_60 : decode cX4_set 60 = .ok (.ireturn, 1) := by decide +kernel
theorem dX4_enter_0 : decode cX4_enter 0 = .ok (.dload_n 2, 1) := by decide +kernel
theorem dX4_enter_1 : decode cX4_enter 1 = .ok (.ldc2_w 110, 3) := by decide +kernel
theorem dX4_enter_4 : decode cX4_enter 4 = .ok (.dcmp .l, 1) := by decide +kernel
theorem dX4_enter_5 : decode cX4_enter 5 = .ok (.ifCond .lt 11, 3) := by decide +kernel
theorem dX4_enter_8 : decode cX4_enter 8 = .ok (.dload_n 2, 1) := by decide +kernel
theorem dX4_enter_9 : decode cX4_enter 9 = .ok (.ldc2_w 112, 3) := by decide +kernel
theorem dX4_enter_12 : decode cX4_enter 12 = .ok (.dcmp .g, 1) := by decide +kernel
theorem dX4_enter_13 : decode cX4_enter 13 = .ok (.ifCond .le 6, 3) := by decide +kernel
theorem dX4_enter_16 : decode cX4_enter 16 = .ok (.bipush (-2), 2) := by decide +kernel
theorem dX4_enter_18 : decode cX4_enter 18 = .ok (.ireturn, 1) := by decide +kernel
theorem dX4_enter_19 : decode cX4_enter 19 = .ok (.dload_n 2, 1) := by decide +kernel
theorem dX4_enter_20 : decode cX4_enter 20 = .ok (.ldc2_w 114, 3) := by decide +kernel
theorem dX4_enter_23 : decode cX4_enter 23 = .ok (.dmul, 1) := by decide +kernel
theorem dX4_enter_24 : decode cX4_enter 24 = .ok (.dstore 4, 2) := by decide +kernel
theorem dX4_enter_26 : decode cX4_enter 26 = .ok (.dload 4, 2) := by decide +kernel
theorem dX4_enter_28 : decode cX4_enter 28 = .ok (.d2i, 1) := by decide +kernel
theorem dX4_enter_29 : decode cX4_enter 29 = .ok (.istore 6, 2) := by decide +kernel
theorem dX4_enter_31 : decode cX4_enter 31 = .ok (.iload 6, 2) := by decide +kernel
theorem dX4_enter_33 : decode cX4_enter 33 = .ok (.i2d, 1) := by decide +kernel
theorem dX4_enter_34 : decode cX4_enter 34 = .ok (.dload 4, 2) := by decide +kernel
theorem dX4_enter_36 : decode cX4_enter 36 = .ok (.dcmp .l, 1) := by decide +kernel
theorem dX4_enter_37 : decode cX4_enter 37 = .ok (.ifCond .eq 6, 3) := by decide +kernel
theorem dX4_enter_40 : decode cX4_enter 40 = .ok (.bipush (-2), 2) := by decide +kernel
theorem dX4_enter_42 : decode cX4_enter 42 = .ok (.ireturn, 1) := by decide +kernel
theorem dX4_enter_43 : decode cX4_enter 43 = .ok (.aload_n 0, 1) := by decide +kernel
theorem dX4_enter_44 : decode cX4_enter 44 = .ok (.iload_n 1, 1) := by decide +kernel
theorem dX4_enter_45 : decode cX4_enter 45 = .ok (.iload 6, 2) := by decide +kernel
theorem dX4_enter_47 : decode cX4_enter 47 = .ok (.sipush 4096, 3) := by decide +kernel
theorem dX4_enter_50 : decode cX4_enter 50 = .ok (.imul, 1) := by decide +kernel
theorem dX4_enter_51 : decode cX4_enter 51 = .ok (.invokevirtual 116, 3) := by decide +kernel
theorem dX4_enter_54 : decode cX4_enter 54 = .ok (.ireturn, 1) := by decide +kernel
theorem dX4_exact_0 : decode cX4_exact 0 = .ok (.aload_n 0, 1) := by decide +kernel
theorem dX4_exact_1 : decode cX4_exact 1 = .ok (.getfield 10, 3) := by decide +kernel
theorem dX4_exact_4 : decode cX4_exact 4 = .ok (.iload_n 1, 1) := by decide +kernel
theorem dX4_exact_5 : decode cX4_exact 5 = .ok (.invokevirtual 40, 3) := by decide +kernel
theorem dX4_exact_8 : decode cX4_exact 8 = .ok (.ifCond .ne 9, 3) := by decide +kernel
theorem dX4_exact_11 : decode cX4_exact 11 = .ok (.bipush (-2), 2) := by decide +kernel
theorem dX4_exact_13 : decode cX4_exact 13 = .ok (.invokestatic 71, 3) := by decide +kernel
theorem dX4_exact_16 : decode cX4_exact 16 = .ok (.lreturn, 1) := by decide +kernel
theorem dX4_exact_17 : decode cX4_exact 17 = .ok (.aload_n 0, 1) := by decide +kernel
theorem dX4_exact_18 : decode cX4_exact 18 = .ok (.getfield 21, 3) := by decide +kernel
theorem dX4_exact_21 : decode cX4_exact 21 = .ok (.iload_n 1, 1) := by decide +kernel
theorem dX4_exact_22 : decode cX4_exact 22 = .ok (.invokevirtual 120, 3) := by decide +kernel
theorem dX4_exact_25 : decode cX4_exact 25 = .ok (.aload_n 0, 1) := by decide +kernel
theorem dX4_exact_26 : decode cX4_exact 26 = .ok (.getfield 21, 3) := by decide +kernel
theorem dX4_exact_29 : decode cX4_exact 29 = .ok (.getfield 124, 3) := by decide +kernel
theorem dX4_exact_32 : decode cX4_exact 32 = .ok (.iload_n 1, 1) := by decide +kernel
theorem dX4_exact_33 : decode cX4_exact 33 = .ok (.laload, 1) := by decide +kernel
theorem dX4_exact_34 : decode cX4_exact 34 = .ok (.lreturn, 1) := by decide +kernel
theorem dX4_tuned_0 : decode cX4_tuned 0 = .ok (.aload_n 0, 1) := by decide +kernel
theorem dX4_tuned_1 : decode cX4_tuned 1 = .ok (.getfield 10, 3) := by decide +kernel
theorem dX4_tuned_4 : decode cX4_tuned 4 = .ok (.iload_n 1, 1) := by decide +kernel
theorem dX4_tuned_5 : decode cX4_tuned 5 = .ok (.invokevirtual 40, 3) := by decide +kernel
theorem dX4_tuned_8 : decode cX4_tuned 8 = .ok (.ifCond .ne 9, 3) := by decide +kernel
theorem dX4_tuned_11 : decode cX4_tuned 11 = .ok (.bipush (-2), 2) := by decide +kernel
theorem dX4_tuned_13 : decode cX4_tuned 13 = .ok (.invokestatic 71, 3) := by decide +kernel
theorem dX4_tuned_16 : decode cX4_tuned 16 = .ok (.lreturn, 1) := by decide +kernel
theorem dX4_tuned_17 : decode cX4_tuned 17 = .ok (.aload_n 0, 1) := by decide +kernel
theorem dX4_tuned_18 : decode cX4_tuned 18 = .ok (.getfield 21, 3) := by decide +kernel
theorem dX4_tuned_21 : decode cX4_tuned 21 = .ok (.iload_n 1, 1) := by decide +kernel
theorem dX4_tuned_22 : decode cX4_tuned 22 = .ok (.invokevirtual 120, 3) := by decide +kernel
theorem dX4_tuned_25 : decode cX4_tuned 25 = .ok (.aload_n 0, 1) := by decide +kernel
theorem dX4_tuned_26 : decode cX4_tuned 26 = .ok (.getfield 21, 3) := by decide +kernel
theorem dX4_tuned_29 : decode cX4_tuned 29 = .ok (.getfield 128, 3) := by decide +kernel
theorem dX4_tuned_32 : decode cX4_tuned 32 = .ok (.iload_n 1, 1) := by decide +kernel
theorem dX4_tuned_33 : decode cX4_tuned 33 = .ok (.laload, 1) := by decide +kernel
theorem dX4_tuned_34 : decode cX4_tuned 34 = .ok (.lreturn, 1) := by decide +kernel
theorem dX4_miss_0 : decode cX4_miss 0 = .ok (.aload_n 0, 1) := by decide +kernel
theorem dX4_miss_1 : decode cX4_miss 1 = .ok (.getfield 10, 3) := by decide +kernel
theorem dX4_miss_4 : decode cX4_miss 4 = .ok (.iload_n 1, 1) := by decide +kernel
theorem dX4_miss_5 : decode cX4_miss 5 = .ok (.invokevirtual 40, 3) := by decide +kernel
theorem dX4_miss_8 : decode cX4_miss 8 = .ok (.ifCond .ne 9, 3) := by decide +kernel
theorem dX4_miss_11 : decode cX4_miss 11 = .ok (.bipush (-2), 2) := by decide +kernel
theorem dX4_miss_13 : decode cX4_miss 13 = .ok (.invokestatic 71, 3) := by decide +kernel
theorem dX4_miss_16 : decode cX4_miss 16 = .ok (.lreturn, 1) := by decide +kernel
theorem dX4_miss_17 : decode cX4_miss 17 = .ok (.aload_n 0, 1) := by decide +kernel
theorem dX4_miss_18 : decode cX4_miss 18 = .ok (.getfield 21, 3) := by decide +kernel
theorem dX4_miss_21 : decode cX4_miss 21 = .ok (.iload_n 1, 1) := by decide +kernel
theorem dX4_miss_22 : decode cX4_miss 22 = .ok (.invokevirtual 120, 3) := by decide +kernel
theorem dX4_miss_25 : decode cX4_miss 25 = .ok (.aload_n 0, 1) := by decide +kernel
theorem dX4_miss_26 : decode cX4_miss 26 = .ok (.getfield 21, 3) := by decide +kernel
theorem dX4_miss_29 : decode cX4_miss 29 = .ok (.iload_n 1, 1) := by decide +kernel
theorem dX4_miss_30 : decode cX4_miss 30 = .ok (.invokevirtual 131, 3) := by decide +kernel
theorem dX4_miss_33 : decode cX4_miss 33 = .ok (.lreturn, 1) := by decide +kernel
theorem dX4_leave_0 : decode cX4_leave 0 = .ok (.aload_n 0, 1) := by decide +kernel
theorem dX4_leave_1 : decode cX4_leave 1 = .ok (.getfield 10, 3) := by decide +kernel
theorem dX4_leave_4 : decode cX4_leave 4 = .ok (.iload_n 1, 1) := by decide +kernel
theorem dX4_leave_5 : decode cX4_leave 5 = .ok (.invokevirtual 40, 3) := by decide +kernel
theorem dX4_leave_8 : decode cX4_leave 8 = .ok (.ifCond .ne 5, 3) := by decide +kernel
theorem dX4_leave_11 : decode cX4_leave 11 = .ok (.dconst 0, 1) := by decide +kernel
theorem dX4_leave_12 : decode cX4_leave 12 = .ok (.dreturn, 1) := by decide +kernel
theorem dX4_leave_13 : decode cX4_leave 13 = .ok (.aload_n 0, 1) := by decide +kernel
theorem dX4_leave_14 : decode cX4_leave 14 = .ok (.getfield 21, 3) := by decide +kernel
theorem dX4_leave_17 : decode cX4_leave 17 = .ok (.iload_n 1, 1) := by decide +kernel
theorem dX4_leave_18 : decode cX4_leave 18 = .ok (.invokevirtual 120, 3) := by decide +kernel
theorem dX4_leave_21 : decode cX4_leave 21 = .ok (.aload_n 0, 1) := by decide +kernel
theorem dX4_leave_22 : decode cX4_leave 22 = .ok (.getfield 21, 3) := by decide +kernel
theorem dX4_leave_25 : decode cX4_leave 25 = .ok (.getfield 128, 3) := by decide +kernel
theorem dX4_leave_28 : decode cX4_leave 28 = .ok (.iload_n 1, 1) := by decide +kernel
theorem dX4_leave_29 : decode cX4_leave 29 = .ok (.laload, 1) := by decide +kernel
theorem dX4_leave_30 : decode cX4_leave 30 = .ok (.l2d, 1) := by decide +kernel
theorem dX4_leave_31 : decode cX4_leave 31 = .ok (.ldc2_w 134, 3) := by decide +kernel
theorem dX4_leave_34 : decode cX4_leave 34 = .ok (.ddiv, 1) := by decide +kernel
theorem dX4_leave_35 : decode cX4_leave 35 = .ok (.dreturn, 1) := by decide +kernel
theorem dX4_narrow_0 : decode cX4_narrow 0 = .ok (.aload_n 0, 1) := by decide +kernel
theorem dX4_narrow_1 : decode cX4_narrow 1 = .ok (.iload_n 1, 1) := by decide +kernel
theorem dX4_narrow_2 : decode cX4_narrow 2 = .ok (.invokevirtual 136, 3) := by decide +kernel
theorem dX4_narrow_5 : decode cX4_narrow 5 = .ok (.d2f, 1) := by decide +kernel
theorem dX4_narrow_6 : decode cX4_narrow 6 = .ok (.freturn, 1) := by decide +kernel
theorem dX4_rows_0 : decode cX4_rows 0 = .ok (.aload_n 0, 1) := by decide +kernel
theorem dX4_rows_1 : decode cX4_rows 1 = .ok (.getfield 21, 3) := by decide +kernel
theorem dX4_rows_4 : decode cX4_rows 4 = .ok (.invokevirtual 140, 3) := by decide +kernel
theorem dX4_rows_7 : decode cX4_rows 7 = .ok (.ireturn, 1) := by decide +kernel
theorem dX4_worst_0 : decode cX4_worst 0 = .ok (.aload_n 0, 1) := by decide +kernel
theorem dX4_worst_1 : decode cX4_worst 1 = .ok (.getfield 10, 3) := by decide +kernel
theorem dX4_worst_4 : decode cX4_worst 4 = .ok (.iload_n 1, 1) := by decide +kernel
theorem dX4_worst_5 : decode cX4_worst 5 = .ok (.invokevirtual 40, 3) := by decide +kernel
theorem dX4_worst_8 : decode cX4_worst 8 = .ok (.ifCond .ne 9, 3) := by decide +kernel
theorem dX4_worst_11 : decode cX4_worst 11 = .ok (.bipush (-2), 2) := by decide +kernel
theorem dX4_worst_13 : decode cX4_worst 13 = .ok (.invokestatic 71, 3) := by decide +kernel
theorem dX4_worst_16 : decode cX4_worst 16 = .ok (.lreturn, 1) := by decide +kernel
theorem dX4_worst_17 : decode cX4_worst 17 = .ok (.aload_n 0, 1) := by decide +kernel
theorem dX4_worst_18 : decode cX4_worst 18 = .ok (.getfield 21, 3) := by decide +kernel
theorem dX4_worst_21 : decode cX4_worst 21 = .ok (.invokevirtual 143, 3) := by decide +kernel
theorem dX4_worst_24 : decode cX4_worst 24 = .ok (.ifCond .ne 9, 3) := by decide +kernel
theorem dX4_worst_27 : decode cX4_worst 27 = .ok (.bipush (-5), 2) := by decide +kernel
theorem dX4_worst_29 : decode cX4_worst 29 = .ok (.invokestatic 71, 3) := by decide +kernel
theorem dX4_worst_32 : decode cX4_worst 32 = .ok (.lreturn, 1) := by decide +kernel
theorem dX4_worst_33 : decode cX4_worst 33 = .ok (.aload_n 0, 1) := by decide +kernel
theorem dX4_worst_34 : decode cX4_worst 34 = .ok (.getfield 21, 3) := by decide +kernel
theorem dX4_worst_37 : decode cX4_worst 37 = .ok (.iload_n 1, 1) := by decide +kernel
theorem dX4_worst_38 : decode cX4_worst 38 = .ok (.invokevirtual 147, 3) := by decide +kernel
theorem dX4_worst_41 : decode cX4_worst 41 = .ok (.lreturn, 1) := by decide +kernel
theorem dX4_worstAt_0 : decode cX4_worstAt 0 = .ok (.iload_n 1, 1) := by decide +kernel
theorem dX4_worstAt_1 : decode cX4_worstAt 1 = .ok (.ifCond .lt 21, 3) := by decide +kernel
theorem dX4_worstAt_4 : decode cX4_worstAt 4 = .ok (.iload_n 1, 1) := by decide +kernel
theorem dX4_worstAt_5 : decode cX4_worstAt 5 = .ok (.bipush 16, 2) := by decide +kernel
theorem dX4_worstAt_7 : decode cX4_worstAt 7 = .ok (.if_icmp .ge 15, 3) := by decide +kernel
theorem dX4_worstAt_10 : decode cX4_worstAt 10 = .ok (.aload_n 0, 1) := by decide +kernel
theorem dX4_worstAt_11 : decode cX4_worstAt 11 = .ok (.getfield 21, 3) := by decide +kernel
theorem dX4_worstAt_14 : decode cX4_worstAt 14 = .ok (.getfield 150, 3) := by decide +kernel
theorem dX4_worstAt_17 : decode cX4_worstAt 17 = .ok (.iload_n 1, 1) := by decide +kernel
theorem dX4_worstAt_18 : decode cX4_worstAt 18 = .ok (.iaload, 1) := by decide +kernel
theorem dX4_worstAt_19 : decode cX4_worstAt 19 = .ok (.goto 5, 3) := by decide +kernel
theorem dX4_worstAt_22 : decode cX4_worstAt 22 = .ok (.bipush (-2), 2) := by decide +kernel
theorem dX4_worstAt_24 : decode cX4_worstAt 24 = .ok (.ireturn, 1) := by decide +kernel
theorem dX4_above_0 : decode cX4_above 0 = .ok (.aload_n 0, 1) := by decide +kernel
theorem dX4_above_1 : decode cX4_above 1 = .ok (.getfield 10, 3) := by decide +kernel
theorem dX4_above_4 : decode cX4_above 4 = .ok (.iload_n 1, 1) := by decide +kernel
theorem dX4_above_5 : decode cX4_above 5 = .ok (.invokevirtual 40, 3) := by decide +kernel
theorem dX4_above_8 : decode cX4_above 8 = .ok (.ifCond .ne 6, 3) := by decide +kernel
theorem dX4_above_11 : decode cX4_above 11 = .ok (.bipush (-2), 2) := by decide +kernel
theorem dX4_above_13 : decode cX4_above 13 = .ok (.ireturn, 1) := by decide +kernel
theorem dX4_above_14 : decode cX4_above 14 = .ok (.aload_n 0, 1) := by decide +kernel
theorem dX4_above_15 : decode cX4_above 15 = .ok (.getfield 21, 3) := by decide +kernel
theorem dX4_above_18 : decode cX4_above 18 = .ok (.invokevirtual 143, 3) := by decide +kernel
theorem dX4_above_21 : decode cX4_above 21 = .ok (.ifCond .eq 15, 3) := by decide +kernel
theorem dX4_above_24 : decode cX4_above 24 = .ok (.aload_n 0, 1) := by decide +kernel
theorem dX4_above_25 : decode cX4_above 25 = .ok (.getfield 21, 3) := by decide +kernel
theorem dX4_above_28 : decode cX4_above 28 = .ok (.iload_n 1, 1) := by decide +kernel
theorem dX4_above_29 : decode cX4_above 29 = .ok (.lload_n 2, 1) := by decide +kernel
theorem dX4_above_30 : decode cX4_above 30 = .ok (.invokevirtual 154, 3) := by decide +kernel
theorem dX4_above_33 : decode cX4_above 33 = .ok (.goto 5, 3) := by decide +kernel
theorem dX4_above_36 : decode cX4_above 36 = .ok (.bipush (-5), 2) := by decide +kernel
theorem dX4_above_38 : decode cX4_above 38 = .ok (.ireturn, 1) := by decide +kernel
theorem dX4_least_0 : decode cX4_least 0 = .ok (.aload_n 0, 1) := by decide +kernel
theorem dX4_least_1 : decode cX4_least 1 = .ok (.getfield 10, 3) := by decide +kernel
theorem dX4_least_4 : decode cX4_least 4 = .ok (.iload_n 1, 1) := by decide +kernel
theorem dX4_least_5 : decode cX4_least 5 = .ok (.invokevirtual 40, 3) := by decide +kernel
theorem dX4_least_8 : decode cX4_least 8 = .ok (.ifCond .eq 9, 3) := by decide +kernel
theorem dX4_least_11 : decode cX4_least 11 = .ok (.lload_n 2, 1) := by decide +kernel
theorem dX4_least_12 : decode cX4_least 12 = .ok (.lconst 0, 1) := by decide +kernel
theorem dX4_least_13 : decode cX4_least 13 = .ok (.lcmp, 1) := by decide +kernel
theorem dX4_least_14 : decode cX4_least 14 = .ok (.ifCond .ge 6, 3) := by decide +kernel
theorem dX4_least_17 : decode cX4_least 17 = .ok (.bipush (-2), 2) := by decide +kernel
theorem dX4_least_19 : decode cX4_least 19 = .ok (.ireturn, 1) := by decide +kernel
theorem dX4_least_20 : decode cX4_least 20 = .ok (.aload_n 0, 1) := by decide +kernel
theorem dX4_least_21 : decode cX4_least 21 = .ok (.getfield 28, 3) := by decide +kernel
theorem dX4_least_24 : decode cX4_least 24 = .ok (.iload_n 1, 1) := by decide +kernel
theorem dX4_least_25 : decode cX4_least 25 = .ok (.lload_n 2, 1) := by decide +kernel
theorem dX4_least_26 : decode cX4_least 26 = .ok (.invokevirtual 158, 3) := by decide +kernel
theorem dX4_least_29 : decode cX4_least 29 = .ok (.ireturn, 1) := by decide +kernel
theorem dX4_trim_0 : decode cX4_trim 0 = .ok (.aload_n 0, 1) := by decide +kernel
theorem dX4_trim_1 : decode cX4_trim 1 = .ok (.getfield 10, 3) := by decide +kernel
theorem dX4_trim_4 : decode cX4_trim 4 = .ok (.iload_n 1, 1) := by decide +kernel
theorem dX4_trim_5 : decode cX4_trim 5 = .ok (.invokevirtual 40, 3) := by decide +kernel
theorem dX4_trim_8 : decode cX4_trim 8 = .ok (.ifCond .eq 9, 3) := by decide +kernel
theorem dX4_trim_11 : decode cX4_trim 11 = .ok (.lload_n 2, 1) := by decide +kernel
theorem dX4_trim_12 : decode cX4_trim 12 = .ok (.lconst 0, 1) := by decide +kernel
theorem dX4_trim_13 : decode cX4_trim 13 = .ok (.lcmp, 1) := by decide +kernel
theorem dX4_trim_14 : decode cX4_trim 14 = .ok (.ifCond .ge 6, 3) := by decide +kernel
theorem dX4_trim_17 : decode cX4_trim 17 = .ok (.bipush (-2), 2) := by decide +kernel
theorem dX4_trim_19 : decode cX4_trim 19 = .ok (.ireturn, 1) := by decide +kernel
theorem dX4_trim_20 : decode cX4_trim 20 = .ok (.aload_n 0, 1) := by decide +kernel
theorem dX4_trim_21 : decode cX4_trim 21 = .ok (.getfield 28, 3) := by decide +kernel
theorem dX4_trim_24 : decode cX4_trim 24 = .ok (.iload_n 1, 1) := by decide +kernel
theorem dX4_trim_25 : decode cX4_trim 25 = .ok (.lload_n 2, 1) := by decide +kernel
theorem dX4_trim_26 : decode cX4_trim 26 = .ok (.invokevirtual 161, 3) := by decide +kernel
theorem dX4_trim_29 : decode cX4_trim 29 = .ok (.ireturn, 1) := by decide +kernel
theorem dX4_floor_0 : decode cX4_floor 0 = .ok (.aload_n 0, 1) := by decide +kernel
theorem dX4_floor_1 : decode cX4_floor 1 = .ok (.getfield 10, 3) := by decide +kernel
theorem dX4_floor_4 : decode cX4_floor 4 = .ok (.iload_n 1, 1) := by decide +kernel
theorem dX4_floor_5 : decode cX4_floor 5 = .ok (.invokevirtual 40, 3) := by decide +kernel
theorem dX4_floor_8 : decode cX4_floor 8 = .ok (.ifCond .eq 14, 3) := by decide +kernel
theorem dX4_floor_11 : decode cX4_floor 11 = .ok (.aload_n 0, 1) := by decide +kernel
theorem dX4_floor_12 : decode cX4_floor 12 = .ok (.getfield 28, 3) := by decide +kernel
theorem dX4_floor_15 : decode cX4_floor 15 = .ok (.iload_n 1, 1) := by decide +kernel
theorem dX4_floor_16 : decode cX4_floor 16 = .ok (.invokevirtual 164, 3) := by decide +kernel
theorem dX4_floor_19 : decode cX4_floor 19 = .ok (.goto 8, 3) := by decide +kernel
theorem dX4_floor_22 : decode cX4_floor 22 = .ok (.bipush (-2), 2) := by decide +kernel
