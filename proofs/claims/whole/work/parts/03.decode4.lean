theorem dX5_least_60 : decode cX5_least 60 = .ok (.ifCond .gt 32, 3) := by decide +kernel
theorem dX5_least_63 : decode cX5_least 63 = .ok (.iload 4, 2) := by decide +kernel
theorem dX5_least_65 : decode cX5_least 65 = .ok (.iconst (-1), 1) := by decide +kernel
theorem dX5_least_66 : decode cX5_least 66 = .ok (.if_icmp .eq 12, 3) := by decide +kernel
theorem dX5_least_69 : decode cX5_least 69 = .ok (.aload_n 0, 1) := by decide +kernel
theorem dX5_least_70 : decode cX5_least 70 = .ok (.invokevirtual 202, 3) := by decide +kernel
theorem dX5_least_73 : decode cX5_least 73 = .ok (.iload 4, 2) := by decide +kernel
theorem dX5_least_75 : decode cX5_least 75 = .ok (.if_icmp .ge 17, 3) := by decide +kernel
theorem dX5_least_78 : decode cX5_least 78 = .ok (.aload_n 0, 1) := by decide +kernel
theorem dX5_least_79 : decode cX5_least 79 = .ok (.invokevirtual 202, 3) := by decide +kernel
theorem dX5_least_82 : decode cX5_least 82 = .ok (.istore 4, 2) := by decide +kernel
theorem dX5_least_84 : decode cX5_least 84 = .ok (.aload_n 0, 1) := by decide +kernel
theorem dX5_least_85 : decode cX5_least 85 = .ok (.aload_n 0, 1) := by decide +kernel
theorem dX5_least_86 : decode cX5_least 86 = .ok (.getfield 63, 3) := by decide +kernel
theorem dX5_least_89 : decode cX5_least 89 = .ok (.invokevirtual 195, 3) := by decide +kernel
theorem dX5_least_92 : decode cX5_least 92 = .ok (.aload_n 0, 1) := by decide +kernel
theorem dX5_least_93 : decode cX5_least 93 = .ok (.invokevirtual 205, 3) := by decide +kernel
theorem dX5_least_96 : decode cX5_least 96 = .ok (.istore 5, 2) := by decide +kernel
theorem dX5_least_98 : decode cX5_least 98 = .ok (.goto (-50), 3) := by decide +kernel
theorem dX5_least_101 : decode cX5_least 101 = .ok (.iload 4, 2) := by decide +kernel
theorem dX5_least_103 : decode cX5_least 103 = .ok (.iconst (-1), 1) := by decide +kernel
theorem dX5_least_104 : decode cX5_least 104 = .ok (.if_icmp .ne 14, 3) := by decide +kernel
theorem dX5_least_107 : decode cX5_least 107 = .ok (.aload_n 0, 1) := by decide +kernel
theorem dX5_least_108 : decode cX5_least 108 = .ok (.aload_n 0, 1) := by decide +kernel
theorem dX5_least_109 : decode cX5_least 109 = .ok (.getfield 60, 3) := by decide +kernel
theorem dX5_least_112 : decode cX5_least 112 = .ok (.invokevirtual 208, 3) := by decide +kernel
theorem dX5_least_115 : decode cX5_least 115 = .ok (.bipush (-5), 2) := by decide +kernel
theorem dX5_least_117 : decode cX5_least 117 = .ok (.ireturn, 1) := by decide +kernel
theorem dX5_least_118 : decode cX5_least 118 = .ok (.aload_n 0, 1) := by decide +kernel
theorem dX5_least_119 : decode cX5_least 119 = .ok (.aload_n 0, 1) := by decide +kernel
theorem dX5_least_120 : decode cX5_least 120 = .ok (.getfield 63, 3) := by decide +kernel
theorem dX5_least_123 : decode cX5_least 123 = .ok (.invokevirtual 208, 3) := by decide +kernel
theorem dX5_least_126 : decode cX5_least 126 = .ok (.iload 4, 2) := by decide +kernel
theorem dX5_least_128 : decode cX5_least 128 = .ok (.ireturn, 1) := by decide +kernel
theorem dX5_trim_0 : decode cX5_trim 0 = .ok (.aload_n 0, 1) := by decide +kernel
theorem dX5_trim_1 : decode cX5_trim 1 = .ok (.iload_n 1, 1) := by decide +kernel
theorem dX5_trim_2 : decode cX5_trim 2 = .ok (.invokevirtual 76, 3) := by decide +kernel
theorem dX5_trim_5 : decode cX5_trim 5 = .ok (.ifCond .eq 9, 3) := by decide +kernel
theorem dX5_trim_8 : decode cX5_trim 8 = .ok (.lload_n 2, 1) := by decide +kernel
theorem dX5_trim_9 : decode cX5_trim 9 = .ok (.lconst 0, 1) := by decide +kernel
theorem dX5_trim_10 : decode cX5_trim 10 = .ok (.lcmp, 1) := by decide +kernel
theorem dX5_trim_11 : decode cX5_trim 11 = .ok (.ifCond .ge 6, 3) := by decide +kernel
theorem dX5_trim_14 : decode cX5_trim 14 = .ok (.bipush (-2), 2) := by decide +kernel
theorem dX5_trim_16 : decode cX5_trim 16 = .ok (.ireturn, 1) := by decide +kernel
theorem dX5_trim_17 : decode cX5_trim 17 = .ok (.aload_n 0, 1) := by decide +kernel
theorem dX5_trim_18 : decode cX5_trim 18 = .ok (.aload_n 0, 1) := by decide +kernel
theorem dX5_trim_19 : decode cX5_trim 19 = .ok (.getfield 60, 3) := by decide +kernel
theorem dX5_trim_22 : decode cX5_trim 22 = .ok (.invokevirtual 195, 3) := by decide +kernel
theorem dX5_trim_25 : decode cX5_trim 25 = .ok (.aload_n 0, 1) := by decide +kernel
theorem dX5_trim_26 : decode cX5_trim 26 = .ok (.bipush 16, 2) := by decide +kernel
theorem dX5_trim_28 : decode cX5_trim 28 = .ok (.invokevirtual 199, 3) := by decide +kernel
theorem dX5_trim_31 : decode cX5_trim 31 = .ok (.aload_n 0, 1) := by decide +kernel
theorem dX5_trim_32 : decode cX5_trim 32 = .ok (.iload_n 1, 1) := by decide +kernel
theorem dX5_trim_33 : decode cX5_trim 33 = .ok (.invokevirtual 132, 3) := by decide +kernel
theorem dX5_trim_36 : decode cX5_trim 36 = .ok (.lload_n 2, 1) := by decide +kernel
theorem dX5_trim_37 : decode cX5_trim 37 = .ok (.lcmp, 1) := by decide +kernel
theorem dX5_trim_38 : decode cX5_trim 38 = .ok (.ifCond .le 14, 3) := by decide +kernel
theorem dX5_trim_41 : decode cX5_trim 41 = .ok (.aload_n 0, 1) := by decide +kernel
theorem dX5_trim_42 : decode cX5_trim 42 = .ok (.aload_n 0, 1) := by decide +kernel
theorem dX5_trim_43 : decode cX5_trim 43 = .ok (.getfield 60, 3) := by decide +kernel
theorem dX5_trim_46 : decode cX5_trim 46 = .ok (.invokevirtual 208, 3) := by decide +kernel
theorem dX5_trim_49 : decode cX5_trim 49 = .ok (.bipush (-5), 2) := by decide +kernel
theorem dX5_trim_51 : decode cX5_trim 51 = .ok (.ireturn, 1) := by decide +kernel
theorem dX5_trim_52 : decode cX5_trim 52 = .ok (.iconst 0, 1) := by decide +kernel
theorem dX5_trim_53 : decode cX5_trim 53 = .ok (.istore 4, 2) := by decide +kernel
theorem dX5_trim_55 : decode cX5_trim 55 = .ok (.iload 4, 2) := by decide +kernel
theorem dX5_trim_57 : decode cX5_trim 57 = .ok (.aload_n 0, 1) := by decide +kernel
theorem dX5_trim_58 : decode cX5_trim 58 = .ok (.getfield 68, 3) := by decide +kernel
theorem dX5_trim_61 : decode cX5_trim 61 = .ok (.if_icmp .ge 80, 3) := by decide +kernel
theorem dX5_trim_64 : decode cX5_trim 64 = .ok (.aload_n 0, 1) := by decide +kernel
theorem dX5_trim_65 : decode cX5_trim 65 = .ok (.getfield 7, 3) := by decide +kernel
theorem dX5_trim_68 : decode cX5_trim 68 = .ok (.iload 4, 2) := by decide +kernel
theorem dX5_trim_70 : decode cX5_trim 70 = .ok (.iaload, 1) := by decide +kernel
theorem dX5_trim_71 : decode cX5_trim 71 = .ok (.iconst 1, 1) := by decide +kernel
theorem dX5_trim_72 : decode cX5_trim 72 = .ok (.if_icmp .le 7, 3) := by decide +kernel
theorem dX5_trim_75 : decode cX5_trim 75 = .ok (.iconst 1, 1) := by decide +kernel
theorem dX5_trim_76 : decode cX5_trim 76 = .ok (.goto 4, 3) := by decide +kernel
theorem dX5_trim_79 : decode cX5_trim 79 = .ok (.iconst 0, 1) := by decide +kernel
theorem dX5_trim_80 : decode cX5_trim 80 = .ok (.istore 5, 2) := by decide +kernel
theorem dX5_trim_82 : decode cX5_trim 82 = .ok (.iload 5, 2) := by decide +kernel
theorem dX5_trim_84 : decode cX5_trim 84 = .ok (.ifCond .eq 51, 3) := by decide +kernel
theorem dX5_trim_87 : decode cX5_trim 87 = .ok (.aload_n 0, 1) := by decide +kernel
theorem dX5_trim_88 : decode cX5_trim 88 = .ok (.getfield 29, 3) := by decide +kernel
theorem dX5_trim_91 : decode cX5_trim 91 = .ok (.iload 4, 2) := by decide +kernel
theorem dX5_trim_93 : decode cX5_trim 93 = .ok (.iaload, 1) := by decide +kernel
theorem dX5_trim_94 : decode cX5_trim 94 = .ok (.ifCond .le 41, 3) := by decide +kernel
theorem dX5_trim_97 : decode cX5_trim 97 = .ok (.aload_n 0, 1) := by decide +kernel
theorem dX5_trim_98 : decode cX5_trim 98 = .ok (.getfield 29, 3) := by decide +kernel
theorem dX5_trim_101 : decode cX5_trim 101 = .ok (.iload 4, 2) := by decide +kernel
theorem dX5_trim_103 : decode cX5_trim 103 = .ok (.dup2, 1) := by decide +kernel
theorem dX5_trim_104 : decode cX5_trim 104 = .ok (.iaload, 1) := by decide +kernel
theorem dX5_trim_105 : decode cX5_trim 105 = .ok (.iconst 1, 1) := by decide +kernel
theorem dX5_trim_106 : decode cX5_trim 106 = .ok (.isub, 1) := by decide +kernel
theorem dX5_trim_107 : decode cX5_trim 107 = .ok (.iastore, 1) := by decide +kernel
theorem dX5_trim_108 : decode cX5_trim 108 = .ok (.aload_n 0, 1) := by decide +kernel
theorem dX5_trim_109 : decode cX5_trim 109 = .ok (.iload_n 1, 1) := by decide +kernel
theorem dX5_trim_110 : decode cX5_trim 110 = .ok (.invokevirtual 132, 3) := by decide +kernel
theorem dX5_trim_113 : decode cX5_trim 113 = .ok (.lload_n 2, 1) := by decide +kernel
theorem dX5_trim_114 : decode cX5_trim 114 = .ok (.lcmp, 1) := by decide +kernel
theorem dX5_trim_115 : decode cX5_trim 115 = .ok (.ifCond .le (-33), 3) := by decide +kernel
theorem dX5_trim_118 : decode cX5_trim 118 = .ok (.aload_n 0, 1) := by decide +kernel
theorem dX5_trim_119 : decode cX5_trim 119 = .ok (.getfield 29, 3) := by decide +kernel
theorem dX5_trim_122 : decode cX5_trim 122 = .ok (.iload 4, 2) := by decide +kernel
theorem dX5_trim_124 : decode cX5_trim 124 = .ok (.dup2, 1) := by decide +kernel
theorem dX5_trim_125 : decode cX5_trim 125 = .ok (.iaload, 1) := by decide +kernel
theorem dX5_trim_126 : decode cX5_trim 126 = .ok (.iconst 1, 1) := by decide +kernel
theorem dX5_trim_127 : decode cX5_trim 127 = .ok (.iadd, 1) := by decide +kernel
theorem dX5_trim_128 : decode cX5_trim 128 = .ok (.iastore, 1) := by decide +kernel
theorem dX5_trim_129 : decode cX5_trim 129 = .ok (.iconst 0, 1) := by decide +kernel
theorem dX5_trim_130 : decode cX5_trim 130 = .ok (.istore 5, 2) := by decide +kernel
theorem dX5_trim_132 : decode cX5_trim 132 = .ok (.goto (-50), 3) := by decide +kernel
theorem dX5_trim_135 : decode cX5_trim 135 = .ok (.iinc 4 1, 3) := by decide +kernel
theorem dX5_trim_138 : decode cX5_trim 138 = .ok (.goto (-83), 3) := by decide +kernel
theorem dX5_trim_141 : decode cX5_trim 141 = .ok (.aload_n 0, 1) := by decide +kernel
theorem dX5_trim_142 : decode cX5_trim 142 = .ok (.invokevirtual 202, 3) := by decide +kernel
theorem dX5_trim_145 : decode cX5_trim 145 = .ok (.ireturn, 1) := by decide +kernel
theorem dX5_floor_0 : decode cX5_floor 0 = .ok (.aload_n 0, 1) := by decide +kernel
theorem dX5_floor_1 : decode cX5_floor 1 = .ok (.iload_n 1, 1) := by decide +kernel
theorem dX5_floor_2 : decode cX5_floor 2 = .ok (.invokevirtual 76, 3) := by decide +kernel
theorem dX5_floor_5 : decode cX5_floor 5 = .ok (.ifCond .ne 9, 3) := by decide +kernel
theorem dX5_floor_8 : decode cX5_floor 8 = .ok (.bipush (-2), 2) := by decide +kernel
theorem dX5_floor_10 : decode cX5_floor 10 = .ok (.invokestatic 129, 3) := by decide +kernel
theorem dX5_floor_13 : decode cX5_floor 13 = .ok (.lreturn, 1) := by decide +kernel
theorem dX5_floor_14 : decode cX5_floor 14 = .ok (.aload_n 0, 1) := by decide +kernel
theorem dX5_floor_15 : decode cX5_floor 15 = .ok (.aload_n 0, 1) := by decide +kernel
theorem dX5_floor_16 : decode cX5_floor 16 = .ok (.getfield 60, 3) := by decide +kernel
theorem dX5_floor_19 : decode cX5_floor 19 = .ok (.invokevirtual 195, 3) := by decide +kernel
theorem dX5_floor_22 : decode cX5_floor 22 = .ok (.aload_n 0, 1) := by decide +kernel
theorem dX5_floor_23 : decode cX5_floor 23 = .ok (.bipush 16, 2) := by decide +kernel
theorem dX5_floor_25 : decode cX5_floor 25 = .ok (.invokevirtual 199, 3) := by decide +kernel
theorem dX5_floor_28 : decode cX5_floor 28 = .ok (.aload_n 0, 1) := by decide +kernel
theorem dX5_floor_29 : decode cX5_floor 29 = .ok (.iload_n 1, 1) := by decide +kernel
theorem dX5_floor_30 : decode cX5_floor 30 = .ok (.invokevirtual 132, 3) := by decide +kernel
theorem dX5_floor_33 : decode cX5_floor 33 = .ok (.lstore_n 2, 1) := by decide +kernel
theorem dX5_floor_34 : decode cX5_floor 34 = .ok (.aload_n 0, 1) := by decide +kernel
theorem dX5_floor_35 : decode cX5_floor 35 = .ok (.aload_n 0, 1) := by decide +kernel
theorem dX5_floor_36 : decode cX5_floor 36 = .ok (.getfield 60, 3) := by decide +kernel
theorem dX5_floor_39 : decode cX5_floor 39 = .ok (.invokevirtual 208, 3) := by decide +kernel
theorem dX5_floor_42 : decode cX5_floor 42 = .ok (.lload_n 2, 1) := by decide +kernel
theorem dX5_floor_43 : decode cX5_floor 43 = .ok (.lreturn, 1) := by decide +kernel
theorem dX5_gainOf_0 : decode cX5_gainOf 0 = .ok (.aload_n 0, 1) := by decide +kernel
theorem dX5_gainOf_1 : decode cX5_gainOf 1 = .ok (.iload_n 1, 1) := by decide +kernel
theorem dX5_gainOf_2 : decode cX5_gainOf 2 = .ok (.invokevirtual 132, 3) := by decide +kernel
theorem dX5_gainOf_5 : decode cX5_gainOf 5 = .ok (.lstore_n 3, 1) := by decide +kernel
theorem dX5_gainOf_6 : decode cX5_gainOf 6 = .ok (.aload_n 0, 1) := by decide +kernel
theorem dX5_gainOf_7 : decode cX5_gainOf 7 = .ok (.getfield 29, 3) := by decide +kernel
theorem dX5_gainOf_10 : decode cX5_gainOf 10 = .ok (.iload_n 2, 1) := by decide +kernel
theorem dX5_gainOf_11 : decode cX5_gainOf 11 = .ok (.iaload, 1) := by decide +kernel
theorem dX5_gainOf_12 : decode cX5_gainOf 12 = .ok (.istore 5, 2) := by decide +kernel
theorem dX5_gainOf_14 : decode cX5_gainOf 14 = .ok (.aload_n 0, 1) := by decide +kernel
theorem dX5_gainOf_15 : decode cX5_gainOf 15 = .ok (.getfield 29, 3) := by decide +kernel
theorem dX5_gainOf_18 : decode cX5_gainOf 18 = .ok (.iload_n 2, 1) := by decide +kernel
theorem dX5_gainOf_19 : decode cX5_gainOf 19 = .ok (.bipush 16, 2) := by decide +kernel
theorem dX5_gainOf_21 : decode cX5_gainOf 21 = .ok (.iastore, 1) := by decide +kernel
theorem dX5_gainOf_22 : decode cX5_gainOf 22 = .ok (.lload_n 3, 1) := by decide +kernel
theorem dX5_gainOf_23 : decode cX5_gainOf 23 = .ok (.aload_n 0, 1) := by decide +kernel
theorem dX5_gainOf_24 : decode cX5_gainOf 24 = .ok (.iload_n 1, 1) := by decide +kernel
theorem dX5_gainOf_25 : decode cX5_gainOf 25 = .ok (.invokevirtual 132, 3) := by decide +kernel
theorem dX5_gainOf_28 : decode cX5_gainOf 28 = .ok (.lsub, 1) := by decide +kernel
theorem dX5_gainOf_29 : decode cX5_gainOf 29 = .ok (.lstore 6, 2) := by decide +kernel
theorem dX5_gainOf_31 : decode cX5_gainOf 31 = .ok (.aload_n 0, 1) := by decide +kernel
theorem dX5_gainOf_32 : decode cX5_gainOf 32 = .ok (.getfield 29, 3) := by decide +kernel
theorem dX5_gainOf_35 : decode cX5_gainOf 35 = .ok (.iload_n 2, 1) := by decide +kernel
theorem dX5_gainOf_36 : decode cX5_gainOf 36 = .ok (.iload 5, 2) := by decide +kernel
theorem dX5_gainOf_38 : decode cX5_gainOf 38 = .ok (.iastore, 1) := by decide +kernel
theorem dX5_gainOf_39 : decode cX5_gainOf 39 = .ok (.lload 6, 2) := by decide +kernel
theorem dX5_gainOf_41 : decode cX5_gainOf 41 = .ok (.lreturn, 1) := by decide +kernel
theorem dX5_gain_0 : decode cX5_gain 0 = .ok (.aload_n 0, 1) := by decide +kernel
theorem dX5_gain_1 : decode cX5_gain 1 = .ok (.iload_n 1, 1) := by decide +kernel
theorem dX5_gain_2 : decode cX5_gain 2 = .ok (.invokevirtual 76, 3) := by decide +kernel
theorem dX5_gain_5 : decode cX5_gain 5 = .ok (.ifCond .eq 20, 3) := by decide +kernel
theorem dX5_gain_8 : decode cX5_gain 8 = .ok (.aload_n 0, 1) := by decide +kernel
theorem dX5_gain_9 : decode cX5_gain 9 = .ok (.iload_n 2, 1) := by decide +kernel
theorem dX5_gain_10 : decode cX5_gain 10 = .ok (.invokevirtual 76, 3) := by decide +kernel
theorem dX5_gain_13 : decode cX5_gain 13 = .ok (.ifCond .eq 12, 3) := by decide +kernel
theorem dX5_gain_16 : decode cX5_gain 16 = .ok (.aload_n 0, 1) := by decide +kernel
theorem dX5_gain_17 : decode cX5_gain 17 = .ok (.iload_n 1, 1) := by decide +kernel
theorem dX5_gain_18 : decode cX5_gain 18 = .ok (.iload_n 2, 1) := by decide +kernel
theorem dX5_gain_19 : decode cX5_gain 19 = .ok (.invokevirtual 211, 3) := by decide +kernel
theorem dX5_gain_22 : decode cX5_gain 22 = .ok (.goto 8, 3) := by decide +kernel
theorem dX5_gain_25 : decode cX5_gain 25 = .ok (.bipush (-2), 2) := by decide +kernel
theorem dX5_gain_27 : decode cX5_gain 27 = .ok (.invokestatic 129, 3) := by decide +kernel
theorem dX5_gain_30 : decode cX5_gain 30 = .ok (.lreturn, 1) := by decide +kernel
theorem dX5_blame_0 : decode cX5_blame 0 = .ok (.aload_n 0, 1) := by decide +kernel
theorem dX5_blame_1 : decode cX5_blame 1 = .ok (.iload_n 1, 1) := by decide +kernel
theorem dX5_blame_2 : decode cX5_blame 2 = .ok (.invokevirtual 76, 3) := by decide +kernel
theorem dX5_blame_5 : decode cX5_blame 5 = .ok (.ifCond .ne 6, 3) := by decide +kernel
theorem dX5_blame_8 : decode cX5_blame 8 = .ok (.bipush (-2), 2) := by decide +kernel
theorem dX5_blame_10 : decode cX5_blame 10 = .ok (.ireturn, 1) := by decide +kernel
theorem dX5_blame_11 : decode cX5_blame 11 = .ok (.iconst (-1), 1) := by decide +kernel
theorem dX5_blame_12 : decode cX5_blame 12 = .ok (.istore_n 2, 1) := by decide +kernel
theorem dX5_blame_13 : decode cX5_blame 13 = .ok (.lconst 0, 1) := by decide +kernel
theorem dX5_blame_14 : decode cX5_blame 14 = .ok (.lstore_n 3, 1) := by decide +kernel
theorem dX5_blame_15 : decode cX5_blame 15 = .ok (.iconst 0, 1) := by decide +kernel
theorem dX5_blame_16 : decode cX5_blame 16 = .ok (.istore 5, 2) := by decide +kernel
theorem dX5_blame_18 : decode cX5_blame 18 = .ok (.iload 5, 2) := by decide +kernel
theorem dX5_blame_20 : decode cX5_blame 20 = .ok (.aload_n 0, 1) := by decide +kernel
theorem dX5_blame_21 : decode cX5_blame 21 = .ok (.getfield 68, 3) := by decide +kernel
theorem dX5_blame_24 : decode cX5_blame 24 = .ok (.if_icmp .ge 46, 3) := by decide +kernel
theorem dX5_blame_27 : decode cX5_blame 27 = .ok (.aload_n 0, 1) := by decide +kernel
theorem dX5_blame_28 : decode cX5_blame 28 = .ok (.getfield 7, 3) := by decide +kernel
theorem dX5_blame_31 : decode cX5_blame 31 = .ok (.iload 5, 2) := by decide +kernel
theorem dX5_blame_33 : decode cX5_blame 33 = .ok (.iaload, 1) := by decide +kernel
theorem dX5_blame_34 : decode cX5_blame 34 = .ok (.iconst 1, 1) := by decide +kernel
theorem dX5_blame_35 : decode cX5_blame 35 = .ok (.if_icmp .le 13, 3) := by decide +kernel
theorem dX5_blame_38 : decode cX5_blame 38 = .ok (.aload_n 0, 1) := by decide +kernel
theorem dX5_blame_39 : decode cX5_blame 39 = .ok (.iload_n 1, 1) := by decide +kernel
theorem dX5_blame_40 : decode cX5_blame 40 = .ok (.iload 5, 2) := by decide +kernel
theorem dX5_blame_42 : decode cX5_blame 42 = .ok (.invokevirtual 211, 3) := by decide +kernel
theorem dX5_blame_45 : decode cX5_blame 45 = .ok (.goto 4, 3) := by decide +kernel
theorem dX5_blame_48 : decode cX5_blame 48 = .ok (.lconst 0, 1) := by decide +kernel
theorem dX5_blame_49 : decode cX5_blame 49 = .ok (.lstore 6, 2) := by decide +kernel
theorem dX5_blame_51 : decode cX5_blame 51 = .ok (.lload 6, 2) := by decide +kernel
theorem dX5_blame_53 : decode cX5_blame 53 = .ok (.lload_n 3, 1) := by decide +kernel
theorem dX5_blame_54 : decode cX5_blame 54 = .ok (.lcmp, 1) := by decide +kernel
theorem dX5_blame_55 : decode cX5_blame 55 = .ok (.ifCond .le 9, 3) := by decide +kernel
theorem dX5_blame_58 : decode cX5_blame 58 = .ok (.lload 6, 2) := by decide +kernel
theorem dX5_blame_60 : decode cX5_blame 60 = .ok (.lstore_n 3, 1) := by decide +kernel
theorem dX5_blame_61 : decode cX5_blame 61 = .ok (.iload 5, 2) := by decide +kernel
theorem dX5_blame_63 : decode cX5_blame 63 = .ok (.istore_n 2, 1) := by decide +kernel
theorem dX5_blame_64 : decode cX5_blame 64 = .ok (.iinc 5 1, 3) := by decide +kernel
theorem dX5_blame_67 : decode cX5_blame 67 = .ok (.goto (-49), 3) := by decide +kernel
theorem dX5_blame_70 : decode cX5_blame 70 = .ok (.iload_n 2, 1) := by decide +kernel
theorem dX5_blame_71 : decode cX5_blame 71 = .ok (.ireturn, 1) := by decide +kernel
theorem dX5_count_0 : decode cX5_count 0 = .ok (.iconst 0, 1) := by decide +kernel
theorem dX5_count_1 : decode cX5_count 1 = .ok (.istore_n 2, 1) := by decide +kernel
theorem dX5_count_2 : decode cX5_count 2 = .ok (.iconst 0, 1) := by decide +kernel
theorem dX5_count_3 : decode cX5_count 3 = .ok (.istore_n 3, 1) := by decide +kernel
theorem dX5_count_4 : decode cX5_count 4 = .ok (.iload_n 3, 1) := by decide +kernel
theorem dX5_count_5 : decode cX5_count 5 = .ok (.aload_n 0, 1) := by decide +kernel
theorem dX5_count_6 : decode cX5_count 6 = .ok (.getfield 68, 3) := by decide +kernel
theorem dX5_count_9 : decode cX5_count 9 = .ok (.if_icmp .ge 26, 3) := by decide +kernel
theorem dX5_count_12 : decode cX5_count 12 = .ok (.iload_n 2, 1) := by decide +kernel
theorem dX5_count_13 : decode cX5_count 13 = .ok (.aload_n 0, 1) := by decide +kernel
theorem dX5_count_14 : decode cX5_count 14 = .ok (.getfield 7, 3) := by decide +kernel
theorem dX5_count_17 : decode cX5_count 17 = .ok (.iload_n 3, 1) := by decide +kernel
theorem dX5_count_18 : decode cX5_count 18 = .ok (.iaload, 1) := by decide +kernel
theorem dX5_count_19 : decode cX5_count 19 = .ok (.ifCond .ne 7, 3) := by decide +kernel
theorem dX5_count_22 : decode cX5_count 22 = .ok (.iconst 1, 1) := by decide +kernel
theorem dX5_count_23 : decode cX5_count 23 = .ok (.goto 4, 3) := by decide +kernel
theorem dX5_count_26 : decode cX5_count 26 = .ok (.iconst 0, 1) := by decide +kernel
theorem dX5_count_27 : decode cX5_count 27 = .ok (.iadd, 1) := by decide +kernel
theorem dX5_count_28 : decode cX5_count 28 = .ok (.istore_n 2, 1) := by decide +kernel
theorem dX5_count_29 : decode cX5_count 29 = .ok (.iinc 3 1, 3) := by decide +kernel
theorem dX5_count_32 : decode cX5_count 32 = .ok (.goto (-28), 3) := by decide +kernel
theorem dX5_count_35 : decode cX5_count 35 = .ok (.iload_n 1, 1) := by decide +kernel
theorem dX5_count_36 : decode cX5_count 36 = .ok (.tableswitch 49 0 3 #[32, 37, 39, 44], 32) := by decide +kernel
theorem dX5_count_68 : decode cX5_count 68 = .ok (.aload_n 0, 1) := by decide +kernel
theorem dX5_count_69 : decode cX5_count 69 = .ok (.getfield 68, 3) := by decide +kernel
theorem dX5_count_72 : decode cX5_count 72 = .ok (.ireturn, 1) := by decide +kernel
theorem dX5_count_73 : decode cX5_count 73 = .ok (.iload_n 2, 1) := by decide +kernel
theorem dX5_count_74 : decode cX5_count 74 = .ok (.ireturn, 1) := by decide +kernel
theorem dX5_count_75 : decode cX5_count 75 = .ok (.aload_n 0, 1) := by decide +kernel
theorem dX5_count_76 : decode cX5_count 76 = .ok (.invokevirtual 202, 3) := by decide +kernel
theorem dX5_count_79 : decode cX5_count 79 = .ok (.ireturn, 1) := by decide +kernel
theorem dX5_count_80 : decode cX5_count 80 = .ok (.aload_n 0, 1) := by decide +kernel
theorem dX5_count_81 : decode cX5_count 81 = .ok (.invokevirtual 192, 3) := by decide +kernel
theorem dX5_count_84 : decode cX5_count 84 = .ok (.ireturn, 1) := by decide +kernel
theorem dX5_count_85 : decode cX5_count 85 = .ok (.bipush (-2), 2) := by decide +kernel
theorem dX5_count_87 : decode cX5_count 87 = .ok (.ireturn, 1) := by decide +kernel
theorem dX5_digest_0 : decode cX5_digest 0 = .ok (.ldc2_w 215, 3) := by decide +kernel
theorem dX5_digest_3 : decode cX5_digest 3 = .ok (.lstore_n 1, 1) := by decide +kernel
theorem dX5_digest_4 : decode cX5_digest 4 = .ok (.iconst 0, 1) := by decide +kernel
theorem dX5_digest_5 : decode cX5_digest 5 = .ok (.istore_n 3, 1) := by decide +kernel
theorem dX5_digest_6 : decode cX5_digest 6 = .ok (.iload_n 3, 1) := by decide +kernel
theorem dX5_digest_7 : decode cX5_digest 7 = .ok (.iconst 4, 1) := by decide +kernel
theorem dX5_digest_8 : decode cX5_digest 8 = .ok (.if_icmp .ge 22, 3) := by decide +kernel
theorem dX5_digest_11 : decode cX5_digest 11 = .ok (.ldc2_w 217, 3) := by decide +kernel
theorem dX5_digest_14 : decode cX5_digest 14 = .ok (.lload_n 1, 1) := by decide +kernel
theorem dX5_digest_15 : decode cX5_digest 15 = .ok (.lmul, 1) := by decide +kernel
theorem dX5_digest_16 : decode cX5_digest 16 = .ok (.aload_n 0, 1) := by decide +kernel
theorem dX5_digest_17 : decode cX5_digest 17 = .ok (.iload_n 3, 1) := by decide +kernel
theorem dX5_digest_18 : decode cX5_digest 18 = .ok (.invokevirtual 219, 3) := by decide +kernel
theorem dX5_digest_21 : decode cX5_digest 21 = .ok (.i2l, 1) := by decide +kernel
theorem dX5_digest_22 : decode cX5_digest 22 = .ok (.ladd, 1) := by decide +kernel
theorem dX5_digest_23 : decode cX5_digest 23 = .ok (.lstore_n 1, 1) := by decide +kernel
theorem dX5_digest_24 : decode cX5_digest 24 = .ok (.iinc 3 1, 3) := by decide +kernel
theorem dX5_digest_27 : decode cX5_digest 27 = .ok (.goto (-21), 3) := by decide +kernel
theorem dX5_digest_30 : decode cX5_digest 30 = .ok (.iconst 0, 1) := by decide +kernel
theorem dX5_digest_31 : decode cX5_digest 31 = .ok (.istore_n 3, 1) := by decide +kernel
theorem dX5_digest_32 : decode cX5_digest 32 = .ok (.iload_n 3, 1) := by decide +kernel
theorem dX5_digest_33 : decode cX5_digest 33 = .ok (.aload_n 0, 1) := by decide +kernel
theorem dX5_digest_34 : decode cX5_digest 34 = .ok (.getfield 68, 3) := by decide +kernel
theorem dX5_digest_37 : decode cX5_digest 37 = .ok (.if_icmp .ge 63, 3) := by decide +kernel
theorem dX5_digest_40 : decode cX5_digest 40 = .ok (.iconst 0, 1) := by decide +kernel
theorem dX5_digest_41 : decode cX5_digest 41 = .ok (.istore 4, 2) := by decide +kernel
theorem dX5_digest_43 : decode cX5_digest 43 = .ok (.iload 4, 2) := by decide +kernel
theorem dX5_digest_45 : decode cX5_digest 45 = .ok (.bipush 10, 2) := by decide +kernel
theorem dX5_digest_47 : decode cX5_digest 47 = .ok (.if_icmp .ge 23, 3) := by decide +kernel
theorem dX5_digest_50 : decode cX5_digest 50 = .ok (.ldc2_w 217, 3) := by decide +kernel
theorem dX5_digest_53 : decode cX5_digest 53 = .ok (.lload_n 1, 1) := by decide +kernel
theorem dX5_digest_54 : decode cX5_digest 54 = .ok (.lmul, 1) := by decide +kernel
theorem dX5_digest_55 : decode cX5_digest 55 = .ok (.aload_n 0, 1) := by decide +kernel
theorem dX5_digest_56 : decode cX5_digest 56 = .ok (.iload_n 3, 1) := by decide +kernel
theorem dX5_digest_57 : decode cX5_digest 57 = .ok (.iload 4, 2) := by decide +kernel
theorem dX5_digest_59 : decode cX5_digest 59 = .ok (.invokevirtual 223, 3) := by decide +kernel
theorem dX5_digest_62 : decode cX5_digest 62 = .ok (.ladd, 1) := by decide +kernel
theorem dX5_digest_63 : decode cX5_digest 63 = .ok (.lstore_n 1, 1) := by decide +kernel
theorem dX5_digest_64 : decode cX5_digest 64 = .ok (.iinc 4 1, 3) := by decide +kernel
theorem dX5_digest_67 : decode cX5_digest 67 = .ok (.goto (-24), 3) := by decide +kernel
theorem dX5_digest_70 : decode cX5_digest 70 = .ok (.ldc2_w 217, 3) := by decide +kernel
theorem dX5_digest_73 : decode cX5_digest 73 = .ok (.lload_n 1, 1) := by decide +kernel
theorem dX5_digest_74 : decode cX5_digest 74 = .ok (.lmul, 1) := by decide +kernel
theorem dX5_digest_75 : decode cX5_digest 75 = .ok (.aload_n 0, 1) := by decide +kernel
theorem dX5_digest_76 : decode cX5_digest 76 = .ok (.iload_n 3, 1) := by decide +kernel
theorem dX5_digest_77 : decode cX5_digest 77 = .ok (.invokevirtual 226, 3) := by decide +kernel
theorem dX5_digest_80 : decode cX5_digest 80 = .ok (.ladd, 1) := by decide +kernel
theorem dX5_digest_81 : decode cX5_digest 81 = .ok (.lstore_n 1, 1) := by decide +kernel
theorem dX5_digest_82 : decode cX5_digest 82 = .ok (.ldc2_w 217, 3) := by decide +kernel
theorem dX5_digest_85 : decode cX5_digest 85 = .ok (.lload_n 1, 1) := by decide +kernel
theorem dX5_digest_86 : decode cX5_digest 86 = .ok (.lmul, 1) := by decide +kernel
theorem dX5_digest_87 : decode cX5_digest 87 = .ok (.aload_n 0, 1) := by decide +kernel
theorem dX5_digest_88 : decode cX5_digest 88 = .ok (.iload_n 3, 1) := by decide +kernel
theorem dX5_digest_89 : decode cX5_digest 89 = .ok (.invokevirtual 229, 3) := by decide +kernel
theorem dX5_digest_92 : decode cX5_digest 92 = .ok (.ladd, 1) := by decide +kernel
theorem dX5_digest_93 : decode cX5_digest 93 = .ok (.lstore_n 1, 1) := by decide +kernel
theorem dX5_digest_94 : decode cX5_digest 94 = .ok (.iinc 3 1, 3) := by decide +kernel
theorem dX5_digest_97 : decode cX5_digest 97 = .ok (.goto (-65), 3) := by decide +kernel
theorem dX5_digest_100 : decode cX5_digest 100 = .ok (.lload_n 1, 1) := by decide +kernel
theorem dX5_digest_101 : decode cX5_digest 101 = .ok (.lreturn, 1) := by decide +kernel
theorem dJ9_abs_067f4_0 : decode cJ9_abs_067f4 0 = .ok (.lload_n 0, 1) := by decide +kernel
theorem dJ9_abs_067f4_1 : decode cJ9_abs_067f4 1 = .ok (.lconst 0, 1) := by decide +kernel
theorem dJ9_abs_067f4_2 : decode cJ9_abs_067f4 2 = .ok (.lcmp, 1) := by decide +kernel
theorem dJ9_abs_067f4_3 : decode cJ9_abs_067f4 3 = .ok (.ifCond .ge 8, 3) := by decide +kernel
theorem dJ9_abs_067f4_6 : decode cJ9_abs_067f4 6 = .ok (.lload_n 0, 1) := by decide +kernel
theorem dJ9_abs_067f4_7 : decode cJ9_abs_067f4 7 = .ok (.lneg, 1) := by decide +kernel
theorem dJ9_abs_067f4_8 : decode cJ9_abs_067f4 8 = .ok (.goto 4, 3) := by decide +kernel
theorem dJ9_abs_067f4_11 : decode cJ9_abs_067f4 11 = .ok (.lload_n 0, 1) := by decide +kernel
theorem dJ9_abs_067f4_12 : decode cJ9_abs_067f4 12 = .ok (.lreturn, 1) := by decide +kernel
theorem dJ9_max_7cf53_0 : decode cJ9_max_7cf53 0 = .ok (.iload_n 0, 1) := by decide +kernel
theorem dJ9_max_7cf53_1 : decode cJ9_max_7cf53 1 = .ok (.iload_n 1, 1) := by decide +kernel
theorem dJ9_max_7cf53_2 : decode cJ9_max_7cf53 2 = .ok (.if_icmp .lt 7, 3) := by decide +kernel
theorem dJ9_max_7cf53_5 : decode cJ9_max_7cf53 5 = .ok (.iload_n 0, 1) := by decide +kernel
theorem dJ9_max_7cf53_6 : decode cJ9_max_7cf53 6 = .ok (.goto 4, 3) := by decide +kernel
theorem dJ9_max_7cf53_9 : decode cJ9_max_7cf53 9 = .ok (.iload_n 1, 1) := by decide +kernel
theorem dJ9_max_7cf53_10 : decode cJ9_max_7cf53 10 = .ok (.ireturn, 1) := by decide +kernel
theorem dJ9_max_f86c9_0 : decode cJ9_max_f86c9 0 = .ok (.lload_n 0, 1) := by decide +kernel
theorem dJ9_max_f86c9_1 : decode cJ9_max_f86c9 1 = .ok (.lload_n 2, 1) := by decide +kernel
theorem dJ9_max_f86c9_2 : decode cJ9_max_f86c9 2 = .ok (.lcmp, 1) := by decide +kernel
theorem dJ9_max_f86c9_3 : decode cJ9_max_f86c9 3 = .ok (.ifCond .lt 7, 3) := by decide +kernel
theorem dJ9_max_f86c9_6 : decode cJ9_max_f86c9 6 = .ok (.lload_n 0, 1) := by decide +kernel
theorem dJ9_max_f86c9_7 : decode cJ9_max_f86c9 7 = .ok (.goto 4, 3) := by decide +kernel
theorem dJ9_max_f86c9_10 : decode cJ9_max_f86c9 10 = .ok (.lload_n 2, 1) := by decide +kernel
theorem dJ9_max_f86c9_11 : decode cJ9_max_f86c9 11 = .ok (.lreturn, 1) := by decide +kernel
theorem dJ9_min_f86c9_0 : decode cJ9_min_f86c9 0 = .ok (.lload_n 0, 1) := by decide +kernel
theorem dJ9_min_f86c9_1 : decode cJ9_min_f86c9 1 = .ok (.lload_n 2, 1) := by decide +kernel
theorem dJ9_min_f86c9_2 : decode cJ9_min_f86c9 2 = .ok (.lcmp, 1) := by decide +kernel
theorem dJ9_min_f86c9_3 : decode cJ9_min_f86c9 3 = .ok (.ifCond .gt 7, 3) := by decide +kernel
theorem dJ9_min_f86c9_6 : decode cJ9_min_f86c9 6 = .ok (.lload_n 0, 1) := by decide +kernel
theorem dJ9_min_f86c9_7 : decode cJ9_min_f86c9 7 = .ok (.goto 4, 3) := by decide +kernel
theorem dJ9_min_f86c9_10 : decode cJ9_min_f86c9 10 = .ok (.lload_n 2, 1) := by decide +kernel
theorem dJ9_min_f86c9_11 : decode cJ9_min_f86c9 11 = .ok (.lreturn, 1) := by decide +kernel
theorem dL_law_0 : decode cL_law 0 = .ok (.new 7, 3) := by decide +kernel
theorem dL_law_3 : decode cL_law 3 = .ok (.dup, 1) := by decide +kernel
theorem dL_law_4 : decode cL_law 4 = .ok (.invokespecial 9, 3) := by decide +kernel
theorem dL_law_7 : decode cL_law 7 = .ok (.astore_n 1, 1) := by decide +kernel
theorem dL_law_8 : decode cL_law 8 = .ok (.new 10, 3) := by decide +kernel
theorem dL_law_11 : decode cL_law 11 = .ok (.dup, 1) := by decide +kernel
theorem dL_law_12 : decode cL_law 12 = .ok (.invokespecial 12, 3) := by decide +kernel
theorem dL_law_15 : decode cL_law 15 = .ok (.astore_n 2, 1) := by decide +kernel
theorem dL_law_16 : decode cL_law 16 = .ok (.iconst 0, 1) := by decide +kernel
theorem dL_law_17 : decode cL_law 17 = .ok (.istore_n 3, 1) := by decide +kernel
theorem dL_law_18 : decode cL_law 18 = .ok (.iload_n 3, 1) := by decide +kernel
theorem dL_law_19 : decode cL_law 19 = .ok (.aload_n 0, 1) := by decide +kernel
theorem dL_law_20 : decode cL_law 20 = .ok (.arraylength, 1) := by decide +kernel
theorem dL_law_21 : decode cL_law 21 = .ok (.iconst 4, 1) := by decide +kernel
theorem dL_law_22 : decode cL_law 22 = .ok (.isub, 1) := by decide +kernel
theorem dL_law_23 : decode cL_law 23 = .ok (.if_icmp .gt 1026, 3) := by decide +kernel
theorem dL_law_26 : decode cL_law 26 = .ok (.aload_n 0, 1) := by decide +kernel
theorem dL_law_27 : decode cL_law 27 = .ok (.iload_n 3, 1) := by decide +kernel
theorem dL_law_28 : decode cL_law 28 = .ok (.iaload, 1) := by decide +kernel
theorem dL_law_29 : decode cL_law 29 = .ok (.bipush 31, 2) := by decide +kernel
theorem dL_law_31 : decode cL_law 31 = .ok (.iand, 1) := by decide +kernel
theorem dL_law_32 : decode cL_law 32 = .ok (.tableswitch 1011 0 26 #[124, 157, 180, 223, 246, 279, 312, 345, 379, 392, 425, 468, 492, 516, 540, 591, 644, 657, 681, 704, 767, 830, 893, 917, 951, 974, 997], 124) := by decide +kernel
theorem dL_law_156 : decode cL_law 156 = .ok (.aload_n 1, 1) := by decide +kernel
theorem dL_law_157 : decode cL_law 157 = .ok (.aload_n 0, 1) := by decide +kernel
theorem dL_law_158 : decode cL_law 158 = .ok (.iload_n 3, 1) := by decide +kernel
theorem dL_law_159 : decode cL_law 159 = .ok (.iconst 1, 1) := by decide +kernel
theorem dL_law_160 : decode cL_law 160 = .ok (.iadd, 1) := by decide +kernel
theorem dL_law_161 : decode cL_law 161 = .ok (.iaload, 1) := by decide +kernel
theorem dL_law_162 : decode cL_law 162 = .ok (.aload_n 0, 1) := by decide +kernel
theorem dL_law_163 : decode cL_law 163 = .ok (.iload_n 3, 1) := by decide +kernel
theorem dL_law_164 : decode cL_law 164 = .ok (.iconst 2, 1) := by decide +kernel
theorem dL_law_165 : decode cL_law 165 = .ok (.iadd, 1) := by decide +kernel
theorem dL_law_166 : decode cL_law 166 = .ok (.iaload, 1) := by decide +kernel
theorem dL_law_167 : decode cL_law 167 = .ok (.invokevirtual 13, 3) := by decide +kernel
theorem dL_law_170 : decode cL_law 170 = .ok (.aload_n 2, 1) := by decide +kernel
theorem dL_law_171 : decode cL_law 171 = .ok (.aload_n 0, 1) := by decide +kernel
theorem dL_law_172 : decode cL_law 172 = .ok (.iload_n 3, 1) := by decide +kernel
theorem dL_law_173 : decode cL_law 173 = .ok (.iconst 1, 1) := by decide +kernel
theorem dL_law_174 : decode cL_law 174 = .ok (.iadd, 1) := by decide +kernel
theorem dL_law_175 : decode cL_law 175 = .ok (.iaload, 1) := by decide +kernel
theorem dL_law_176 : decode cL_law 176 = .ok (.aload_n 0, 1) := by decide +kernel
theorem dL_law_177 : decode cL_law 177 = .ok (.iload_n 3, 1) := by decide +kernel
theorem dL_law_178 : decode cL_law 178 = .ok (.iconst 2, 1) := by decide +kernel
theorem dL_law_179 : decode cL_law 179 = .ok (.iadd, 1) := by decide +kernel
theorem dL_law_180 : decode cL_law 180 = .ok (.iaload, 1) := by decide +kernel
theorem dL_law_181 : decode cL_law 181 = .ok (.invokevirtual 17, 3) := by decide +kernel
theorem dL_law_184 : decode cL_law 184 = .ok (.if_icmp .eq 859, 3) := by decide +kernel
theorem dL_law_187 : decode cL_law 187 = .ok (.iconst 0, 1) := by decide +kernel
theorem dL_law_188 : decode cL_law 188 = .ok (.ireturn, 1) := by decide +kernel
theorem dL_law_189 : decode cL_law 189 = .ok (.aload_n 1, 1) := by decide +kernel
theorem dL_law_190 : decode cL_law 190 = .ok (.aload_n 0, 1) := by decide +kernel
theorem dL_law_191 : decode cL_law 191 = .ok (.iload_n 3, 1) := by decide +kernel
theorem dL_law_192 : decode cL_law 192 = .ok (.iconst 1, 1) := by decide +kernel
theorem dL_law_193 : decode cL_law 193 = .ok (.iadd, 1) := by decide +kernel
theorem dL_law_194 : decode cL_law 194 = .ok (.iaload, 1) := by decide +kernel
theorem dL_law_195 : decode cL_law 195 = .ok (.invokevirtual 18, 3) := by decide +kernel
theorem dL_law_198 : decode cL_law 198 = .ok (.aload_n 2, 1) := by decide +kernel
theorem dL_law_199 : decode cL_law 199 = .ok (.aload_n 0, 1) := by decide +kernel
theorem dL_law_200 : decode cL_law 200 = .ok (.iload_n 3, 1) := by decide +kernel
theorem dL_law_201 : decode cL_law 201 = .ok (.iconst 1, 1) := by decide +kernel
theorem dL_law_202 : decode cL_law 202 = .ok (.iadd, 1) := by decide +kernel
theorem dL_law_203 : decode cL_law 203 = .ok (.iaload, 1) := by decide +kernel
theorem dL_law_204 : decode cL_law 204 = .ok (.invokevirtual 22, 3) := by decide +kernel
theorem dL_law_207 : decode cL_law 207 = .ok (.if_icmp .eq 836, 3) := by decide +kernel
theorem dL_law_210 : decode cL_law 210 = .ok (.iconst 0, 1) := by decide +kernel
theorem dL_law_211 : decode cL_law 211 = .ok (.ireturn, 1) := by decide +kernel
theorem dL_law_212 : decode cL_law 212 = .ok (.aload_n 1, 1) := by decide +kernel
theorem dL_law_213 : decode cL_law 213 = .ok (.aload_n 0, 1) := by decide +kernel
theorem dL_law_214 : decode cL_law 214 = .ok (.iload_n 3, 1) := by decide +kernel
theorem dL_law_215 : decode cL_law 215 = .ok (.iconst 1, 1) := by decide +kernel
theorem dL_law_216 : decode cL_law 216 = .ok (.iadd, 1) := by decide +kernel
theorem dL_law_217 : decode cL_law 217 = .ok (.iaload, 1) := by decide +kernel
theorem dL_law_218 : decode cL_law 218 = .ok (.aload_n 0, 1) := by decide +kernel
theorem dL_law_219 : decode cL_law 219 = .ok (.iload_n 3, 1) := by decide +kernel
theorem dL_law_220 : decode cL_law 220 = .ok (.iconst 2, 1) := by decide +kernel
theorem dL_law_221 : decode cL_law 221 = .ok (.iadd, 1) := by decide +kernel
theorem dL_law_222 : decode cL_law 222 = .ok (.iaload, 1) := by decide +kernel
theorem dL_law_223 : decode cL_law 223 = .ok (.aload_n 0, 1) := by decide +kernel
theorem dL_law_224 : decode cL_law 224 = .ok (.iload_n 3, 1) := by decide +kernel
theorem dL_law_225 : decode cL_law 225 = .ok (.iconst 3, 1) := by decide +kernel
theorem dL_law_226 : decode cL_law 226 = .ok (.iadd, 1) := by decide +kernel
theorem dL_law_227 : decode cL_law 227 = .ok (.iaload, 1) := by decide +kernel
theorem dL_law_228 : decode cL_law 228 = .ok (.invokevirtual 23, 3) := by decide +kernel
theorem dL_law_231 : decode cL_law 231 = .ok (.aload_n 2, 1) := by decide +kernel
theorem dL_law_232 : decode cL_law 232 = .ok (.aload_n 0, 1) := by decide +kernel
theorem dL_law_233 : decode cL_law 233 = .ok (.iload_n 3, 1) := by decide +kernel
theorem dL_law_234 : decode cL_law 234 = .ok (.iconst 1, 1) := by decide +kernel
theorem dL_law_235 : decode cL_law 235 = .ok (.iadd, 1) := by decide +kernel
theorem dL_law_236 : decode cL_law 236 = .ok (.iaload, 1) := by decide +kernel
theorem dL_law_237 : decode cL_law 237 = .ok (.aload_n 0, 1) := by decide +kernel
theorem dL_law_238 : decode cL_law 238 = .ok (.iload_n 3, 1) := by decide +kernel
theorem dL_law_239 : decode cL_law 239 = .ok (.iconst 2, 1) := by decide +kernel
theorem dL_law_240 : decode cL_law 240 = .ok (.iadd, 1) := by decide +kernel
theorem dL_law_241 : decode cL_law 241 = .ok (.iaload, 1) := by decide +kernel
theorem dL_law_242 : decode cL_law 242 = .ok (.aload_n 0, 1) := by decide +kernel
theorem dL_law_243 : decode cL_law 243 = .ok (.iload_n 3, 1) := by decide +kernel
theorem dL_law_244 : decode cL_law 244 = .ok (.iconst 3, 1) := by decide +kernel
theorem dL_law_245 : decode cL_law 245 = .ok (.iadd, 1) := by decide +kernel
theorem dL_law_246 : decode cL_law 246 = .ok (.iaload, 1) := by decide +kernel
theorem dL_law_247 : decode cL_law 247 = .ok (.invokevirtual 27, 3) := by decide +kernel
theorem dL_law_250 : decode cL_law 250 = .ok (.if_icmp .eq 793, 3) := by decide +kernel
theorem dL_law_253 : decode cL_law 253 = .ok (.iconst 0, 1) := by decide +kernel
theorem dL_law_254 : decode cL_law 254 = .ok (.ireturn, 1) := by decide +kernel
theorem dL_law_255 : decode cL_law 255 = .ok (.aload_n 1, 1) := by decide +kernel
theorem dL_law_256 : decode cL_law 256 = .ok (.aload_n 0, 1) := by decide +kernel
theorem dL_law_257 : decode cL_law 257 = .ok (.iload_n 3, 1) := by decide +kernel
theorem dL_law_258 : decode cL_law 258 = .ok (.iconst 1, 1) := by decide +kernel
theorem dL_law_259 : decode cL_law 259 = .ok (.iadd, 1) := by decide +kernel
theorem dL_law_260 : decode cL_law 260 = .ok (.iaload, 1) := by decide +kernel
theorem dL_law_261 : decode cL_law 261 = .ok (.invokevirtual 28, 3) := by decide +kernel
theorem dL_law_264 : decode cL_law 264 = .ok (.aload_n 2, 1) := by decide +kernel
theorem dL_law_265 : decode cL_law 265 = .ok (.aload_n 0, 1) := by decide +kernel
theorem dL_law_266 : decode cL_law 266 = .ok (.iload_n 3, 1) := by decide +kernel
theorem dL_law_267 : decode cL_law 267 = .ok (.iconst 1, 1) := by decide +kernel
theorem dL_law_268 : decode cL_law 268 = .ok (.iadd, 1) := by decide +kernel
theorem dL_law_269 : decode cL_law 269 = .ok (.iaload, 1) := by decide +kernel
theorem dL_law_270 : decode cL_law 270 = .ok (.invokevirtual 31, 3) := by decide +kernel
theorem dL_law_273 : decode cL_law 273 = .ok (.if_icmp .eq 770, 3) := by decide +kernel
theorem dL_law_276 : decode cL_law 276 = .ok (.iconst 0, 1) := by decide +kernel
theorem dL_law_277 : decode cL_law 277 = .ok (.ireturn, 1) := by decide +kernel
theorem dL_law_278 : decode cL_law 278 = .ok (.aload_n 1, 1) := by decide +kernel
theorem dL_law_279 : decode cL_law 279 = .ok (.aload_n 0, 1) := by decide +kernel
theorem dL_law_280 : decode cL_law 280 = .ok (.iload_n 3, 1) := by decide +kernel
theorem dL_law_281 : decode cL_law 281 = .ok (.iconst 1, 1) := by decide +kernel
theorem dL_law_282 : decode cL_law 282 = .ok (.iadd, 1) := by decide +kernel
theorem dL_law_283 : decode cL_law 283 = .ok (.iaload, 1) := by decide +kernel
theorem dL_law_284 : decode cL_law 284 = .ok (.aload_n 0, 1) := by decide +kernel
theorem dL_law_285 : decode cL_law 285 = .ok (.iload_n 3, 1) := by decide +kernel
theorem dL_law_286 : decode cL_law 286 = .ok (.iconst 2, 1) := by decide +kernel
theorem dL_law_287 : decode cL_law 287 = .ok (.iadd, 1) := by decide +kernel
theorem dL_law_288 : decode cL_law 288 = .ok (.iaload, 1) := by decide +kernel
theorem dL_law_289 : decode cL_law 289 = .ok (.invokevirtual 32, 3) := by decide +kernel
theorem dL_law_292 : decode cL_law 292 = .ok (.aload_n 2, 1) := by decide +kernel
theorem dL_law_293 : decode cL_law 293 = .ok (.aload_n 0, 1) := by decide +kernel
theorem dL_law_294 : decode cL_law 294 = .ok (.iload_n 3, 1) := by decide +kernel
theorem dL_law_295 : decode cL_law 295 = .ok (.iconst 1, 1) := by decide +kernel
theorem dL_law_296 : decode cL_law 296 = .ok (.iadd, 1) := by decide +kernel
theorem dL_law_297 : decode cL_law 297 = .ok (.iaload, 1) := by decide +kernel
theorem dL_law_298 : decode cL_law 298 = .ok (.aload_n 0, 1) := by decide +kernel
theorem dL_law_299 : decode cL_law 299 = .ok (.iload_n 3, 1) := by decide +kernel
theorem dL_law_300 : decode cL_law 300 = .ok (.iconst 2, 1) := by decide +kernel
theorem dL_law_301 : decode cL_law 301 = .ok (.iadd, 1) := by decide +kernel
theorem dL_law_302 : decode cL_law 302 = .ok (.iaload, 1) := by decide +kernel
theorem dL_law_303 : decode cL_law 303 = .ok (.invokevirtual 35, 3) := by decide +kernel
theorem dL_law_306 : decode cL_law 306 = .ok (.if_icmp .eq 737, 3) := by decide +kernel
theorem dL_law_309 : decode cL_law 309 = .ok (.iconst 0, 1) := by decide +kernel
theorem dL_law_310 : decode cL_law 310 = .ok (.ireturn, 1) := by decide +kernel
theorem dL_law_311 : decode cL_law 311 = .ok (.aload_n 1, 1) := by decide +kernel
theorem dL_law_312 : decode cL_law 312 = .ok (.aload_n 0, 1) := by decide +kernel
theorem dL_law_313 : decode cL_law 313 = .ok (.iload_n 3, 1) := by decide +kernel
theorem dL_law_314 : decode cL_law 314 = .ok (.iconst 1, 1) := by decide +kernel
theorem dL_law_315 : decode cL_law 315 = .ok (.iadd, 1) := by decide +kernel
theorem dL_law_316 : decode cL_law 316 = .ok (.iaload, 1) := by decide +kernel
theorem dL_law_317 : decode cL_law 317 = .ok (.aload_n 0, 1) := by decide +kernel
theorem dL_law_318 : decode cL_law 318 = .ok (.iload_n 3, 1) := by decide +kernel
theorem dL_law_319 : decode cL_law 319 = .ok (.iconst 2, 1) := by decide +kernel
theorem dL_law_320 : decode cL_law 320 = .ok (.iadd, 1) := by decide +kernel
theorem dL_law_321 : decode cL_law 321 = .ok (.iaload, 1) := by decide +kernel
theorem dL_law_322 : decode cL_law 322 = .ok (.invokevirtual 36, 3) := by decide +kernel
theorem dL_law_325 : decode cL_law 325 = .ok (.aload_n 2, 1) := by decide +kernel
theorem dL_law_326 : decode cL_law 326 = .ok (.aload_n 0, 1) := by decide +kernel
theorem dL_law_327 : decode cL_law 327 = .ok (.iload_n 3, 1) := by decide +kernel
theorem dL_law_328 : decode cL_law 328 = .ok (.iconst 1, 1) := by decide +kernel
theorem dL_law_329 : decode cL_law 329 = .ok (.iadd, 1) := by decide +kernel
theorem dL_law_330 : decode cL_law 330 = .ok (.iaload, 1) := by decide +kernel
theorem dL_law_331 : decode cL_law 331 = .ok (.aload_n 0, 1) := by decide +kernel
theorem dL_law_332 : decode cL_law 332 = .ok (.iload_n 3, 1) := by decide +kernel
theorem dL_law_333 : decode cL_law 333 = .ok (.iconst 2, 1) := by decide +kernel
theorem dL_law_334 : decode cL_law 334 = .ok (.iadd, 1) := by decide +kernel
theorem dL_law_335 : decode cL_law 335 = .ok (.iaload, 1) := by decide +kernel
theorem dL_law_336 : decode cL_law 336 = .ok (.invokevirtual 39, 3) := by decide +kernel
theorem dL_law_339 : decode cL_law 339 = .ok (.if_icmp .eq 704, 3) := by decide +kernel
theorem dL_law_342 : decode cL_law 342 = .ok (.iconst 0, 1) := by decide +kernel
theorem dL_law_343 : decode cL_law 343 = .ok (.ireturn, 1) := by decide +kernel
theorem dL_law_344 : decode cL_law 344 = .ok (.aload_n 1, 1) := by decide +kernel
theorem dL_law_345 : decode cL_law 345 = .ok (.aload_n 0, 1) := by decide +kernel
theorem dL_law_346 : decode cL_law 346 = .ok (.iload_n 3, 1) := by decide +kernel
theorem dL_law_347 : decode cL_law 347 = .ok (.iconst 1, 1) := by decide +kernel
theorem dL_law_348 : decode cL_law 348 = .ok (.iadd, 1) := by decide +kernel
theorem dL_law_349 : decode cL_law 349 = .ok (.iaload, 1) := by decide +kernel
theorem dL_law_350 : decode cL_law 350 = .ok (.aload_n 0, 1) := by decide +kernel
theorem dL_law_351 : decode cL_law 351 = .ok (.iload_n 3, 1) := by decide +kernel
theorem dL_law_352 : decode cL_law 352 = .ok (.iconst 2, 1) := by decide +kernel
theorem dL_law_353 : decode cL_law 353 = .ok (.iadd, 1) := by decide +kernel
theorem dL_law_354 : decode cL_law 354 = .ok (.iaload, 1) := by decide +kernel
theorem dL_law_355 : decode cL_law 355 = .ok (.invokevirtual 40, 3) := by decide +kernel
theorem dL_law_358 : decode cL_law 358 = .ok (.aload_n 2, 1) := by decide +kernel
theorem dL_law_359 : decode cL_law 359 = .ok (.aload_n 0, 1) := by decide +kernel
theorem dL_law_360 : decode cL_law 360 = .ok (.iload_n 3, 1) := by decide +kernel
theorem dL_law_361 : decode cL_law 361 = .ok (.iconst 1, 1) := by decide +kernel
theorem dL_law_362 : decode cL_law 362 = .ok (.iadd, 1) := by decide +kernel
theorem dL_law_363 : decode cL_law 363 = .ok (.iaload, 1) := by decide +kernel
theorem dL_law_364 : decode cL_law 364 = .ok (.aload_n 0, 1) := by decide +kernel
theorem dL_law_365 : decode cL_law 365 = .ok (.iload_n 3, 1) := by decide +kernel
theorem dL_law_366 : decode cL_law 366 = .ok (.iconst 2, 1) := by decide +kernel
theorem dL_law_367 : decode cL_law 367 = .ok (.iadd, 1) := by decide +kernel
theorem dL_law_368 : decode cL_law 368 = .ok (.iaload, 1) := by decide +kernel
theorem dL_law_369 : decode cL_law 369 = .ok (.invokevirtual 43, 3) := by decide +kernel
theorem dL_law_372 : decode cL_law 372 = .ok (.if_icmp .eq 671, 3) := by decide +kernel
theorem dL_law_375 : decode cL_law 375 = .ok (.iconst 0, 1) := by decide +kernel
theorem dL_law_376 : decode cL_law 376 = .ok (.ireturn, 1) := by decide +kernel
theorem dL_law_377 : decode cL_law 377 = .ok (.aload_n 1, 1) := by decide +kernel
theorem dL_law_378 : decode cL_law 378 = .ok (.aload_n 0, 1) := by decide +kernel
theorem dL_law_379 : decode cL_law 379 = .ok (.iload_n 3, 1) := by decide +kernel
theorem dL_law_380 : decode cL_law 380 = .ok (.iconst 1, 1) := by decide +kernel
theorem dL_law_381 : decode cL_law 381 = .ok (.iadd, 1) := by decide +kernel
theorem dL_law_382 : decode cL_law 382 = .ok (.iaload, 1) := by decide +kernel
theorem dL_law_383 : decode cL_law 383 = .ok (.aload_n 0, 1) := by decide +kernel
theorem dL_law_384 : decode cL_law 384 = .ok (.iload_n 3, 1) := by decide +kernel
theorem dL_law_385 : decode cL_law 385 = .ok (.iconst 2, 1) := by decide +kernel
theorem dL_law_386 : decode cL_law 386 = .ok (.iadd, 1) := by decide +kernel
theorem dL_law_387 : decode cL_law 387 = .ok (.iaload, 1) := by decide +kernel
theorem dL_law_388 : decode cL_law 388 = .ok (.invokevirtual 44, 3) := by decide +kernel
theorem dL_law_391 : decode cL_law 391 = .ok (.aload_n 2, 1) := by decide +kernel
theorem dL_law_392 : decode cL_law 392 = .ok (.aload_n 0, 1) := by decide +kernel
theorem dL_law_393 : decode cL_law 393 = .ok (.iload_n 3, 1) := by decide +kernel
theorem dL_law_394 : decode cL_law 394 = .ok (.iconst 1, 1) := by decide +kernel
theorem dL_law_395 : decode cL_law 395 = .ok (.iadd, 1) := by decide +kernel
theorem dL_law_396 : decode cL_law 396 = .ok (.iaload, 1) := by decide +kernel
theorem dL_law_397 : decode cL_law 397 = .ok (.aload_n 0, 1) := by decide +kernel
theorem dL_law_398 : decode cL_law 398 = .ok (.iload_n 3, 1) := by decide +kernel
theorem dL_law_399 : decode cL_law 399 = .ok (.iconst 2, 1) := by decide +kernel
theorem dL_law_400 : decode cL_law 400 = .ok (.iadd, 1) := by decide +kernel
theorem dL_law_401 : decode cL_law 401 = .ok (.iaload, 1) := by decide +kernel
theorem dL_law_402 : decode cL_law 402 = .ok (.invokevirtual 48, 3) := by decide +kernel
theorem dL_law_405 : decode cL_law 405 = .ok (.lcmp, 1) := by decide +kernel
theorem dL_law_406 : decode cL_law 406 = .ok (.ifCond .eq 637, 3) := by decide +kernel
theorem dL_law_409 : decode cL_law 409 = .ok (.iconst 0, 1) := by decide +kernel
theorem dL_law_410 : decode cL_law 410 = .ok (.ireturn, 1) := by decide +kernel
theorem dL_law_411 : decode cL_law 411 = .ok (.aload_n 1, 1) := by decide +kernel
theorem dL_law_412 : decode cL_law 412 = .ok (.invokevirtual 49, 3) := by decide +kernel
theorem dL_law_415 : decode cL_law 415 = .ok (.aload_n 2, 1) := by decide +kernel
theorem dL_law_416 : decode cL_law 416 = .ok (.invokevirtual 53, 3) := by decide +kernel
theorem dL_law_419 : decode cL_law 419 = .ok (.if_icmp .eq 624, 3) := by decide +kernel
theorem dL_law_422 : decode cL_law 422 = .ok (.iconst 0, 1) := by decide +kernel
theorem dL_law_423 : decode cL_law 423 = .ok (.ireturn, 1) := by decide +kernel
theorem dL_law_424 : decode cL_law 424 = .ok (.aload_n 1, 1) := by decide +kernel
theorem dL_law_425 : decode cL_law 425 = .ok (.aload_n 0, 1) := by decide +kernel
theorem dL_law_426 : decode cL_law 426 = .ok (.iload_n 3, 1) := by decide +kernel
theorem dL_law_427 : decode cL_law 427 = .ok (.iconst 1, 1) := by decide +kernel
theorem dL_law_428 : decode cL_law 428 = .ok (.iadd, 1) := by decide +kernel
theorem dL_law_429 : decode cL_law 429 = .ok (.iaload, 1) := by decide +kernel
theorem dL_law_430 : decode cL_law 430 = .ok (.aload_n 0, 1) := by decide +kernel
theorem dL_law_431 : decode cL_law 431 = .ok (.iload_n 3, 1) := by decide +kernel
theorem dL_law_432 : decode cL_law 432 = .ok (.iconst 2, 1) := by decide +kernel
theorem dL_law_433 : decode cL_law 433 = .ok (.iadd, 1) := by decide +kernel
theorem dL_law_434 : decode cL_law 434 = .ok (.iaload, 1) := by decide +kernel
theorem dL_law_435 : decode cL_law 435 = .ok (.invokevirtual 54, 3) := by decide +kernel
theorem dL_law_438 : decode cL_law 438 = .ok (.aload_n 2, 1) := by decide +kernel
theorem dL_law_439 : decode cL_law 439 = .ok (.aload_n 0, 1) := by decide +kernel
theorem dL_law_440 : decode cL_law 440 = .ok (.iload_n 3, 1) := by decide +kernel
theorem dL_law_441 : decode cL_law 441 = .ok (.iconst 1, 1) := by decide +kernel
theorem dL_law_442 : decode cL_law 442 = .ok (.iadd, 1) := by decide +kernel
theorem dL_law_443 : decode cL_law 443 = .ok (.iaload, 1) := by decide +kernel
theorem dL_law_444 : decode cL_law 444 = .ok (.aload_n 0, 1) := by decide +kernel
theorem dL_law_445 : decode cL_law 445 = .ok (.iload_n 3, 1) := by decide +kernel
theorem dL_law_446 : decode cL_law 446 = .ok (.iconst 2, 1) := by decide +kernel
theorem dL_law_447 : decode cL_law 447 = .ok (.iadd, 1) := by decide +kernel
theorem dL_law_448 : decode cL_law 448 = .ok (.iaload, 1) := by decide +kernel
theorem dL_law_449 : decode cL_law 449 = .ok (.invokevirtual 57, 3) := by decide +kernel
theorem dL_law_452 : decode cL_law 452 = .ok (.if_icmp .eq 591, 3) := by decide +kernel
theorem dL_law_455 : decode cL_law 455 = .ok (.iconst 0, 1) := by decide +kernel
theorem dL_law_456 : decode cL_law 456 = .ok (.ireturn, 1) := by decide +kernel
theorem dL_law_457 : decode cL_law 457 = .ok (.aload_n 1, 1) := by decide +kernel
theorem dL_law_458 : decode cL_law 458 = .ok (.aload_n 0, 1) := by decide +kernel
theorem dL_law_459 : decode cL_law 459 = .ok (.iload_n 3, 1) := by decide +kernel
theorem dL_law_460 : decode cL_law 460 = .ok (.iconst 1, 1) := by decide +kernel
theorem dL_law_461 : decode cL_law 461 = .ok (.iadd, 1) := by decide +kernel
theorem dL_law_462 : decode cL_law 462 = .ok (.iaload, 1) := by decide +kernel
theorem dL_law_463 : decode cL_law 463 = .ok (.aload_n 0, 1) := by decide +kernel
theorem dL_law_464 : decode cL_law 464 = .ok (.iload_n 3, 1) := by decide +kernel
theorem dL_law_465 : decode cL_law 465 = .ok (.iconst 2, 1) := by decide +kernel
theorem dL_law_466 : decode cL_law 466 = .ok (.iadd, 1) := by decide +kernel
theorem dL_law_467 : decode cL_law 467 = .ok (.iaload, 1) := by decide +kernel
theorem dL_law_468 : decode cL_law 468 = .ok (.i2d, 1) := by decide +kernel
theorem dL_law_469 : decode cL_law 469 = .ok (.ldc2_w 58, 3) := by decide +kernel
theorem dL_law_472 : decode cL_law 472 = .ok (.dmul, 1) := by decide +kernel
theorem dL_law_473 : decode cL_law 473 = .ok (.invokevirtual 60, 3) := by decide +kernel
theorem dL_law_476 : decode cL_law 476 = .ok (.aload_n 2, 1) := by decide +kernel
theorem dL_law_477 : decode cL_law 477 = .ok (.aload_n 0, 1) := by decide +kernel
theorem dL_law_478 : decode cL_law 478 = .ok (.iload_n 3, 1) := by decide +kernel
theorem dL_law_479 : decode cL_law 479 = .ok (.iconst 1, 1) := by decide +kernel
theorem dL_law_480 : decode cL_law 480 = .ok (.iadd, 1) := by decide +kernel
theorem dL_law_481 : decode cL_law 481 = .ok (.iaload, 1) := by decide +kernel
theorem dL_law_482 : decode cL_law 482 = .ok (.aload_n 0, 1) := by decide +kernel
theorem dL_law_483 : decode cL_law 483 = .ok (.iload_n 3, 1) := by decide +kernel
theorem dL_law_484 : decode cL_law 484 = .ok (.iconst 2, 1) := by decide +kernel
theorem dL_law_485 : decode cL_law 485 = .ok (.iadd, 1) := by decide +kernel
theorem dL_law_486 : decode cL_law 486 = .ok (.iaload, 1) := by decide +kernel
theorem dL_law_487 : decode cL_law 487 = .ok (.i2d, 1) := by decide +kernel
theorem dL_law_488 : decode cL_law 488 = .ok (.ldc2_w 58, 3) := by decide +kernel
theorem dL_law_491 : decode cL_law 491 = .ok (.dmul, 1) := by decide +kernel
theorem dL_law_492 : decode cL_law 492 = .ok (.invokevirtual 64, 3) := by decide +kernel
theorem dL_law_495 : decode cL_law 495 = .ok (.if_icmp .eq 548, 3) := by decide +kernel
theorem dL_law_498 : decode cL_law 498 = .ok (.iconst 0, 1) := by decide +kernel
theorem dL_law_499 : decode cL_law 499 = .ok (.ireturn, 1) := by decide +kernel
theorem dL_law_500 : decode cL_law 500 = .ok (.aload_n 1, 1) := by decide +kernel
theorem dL_law_501 : decode cL_law 501 = .ok (.aload_n 0, 1) := by decide +kernel
theorem dL_law_502 : decode cL_law 502 = .ok (.iload_n 3, 1) := by decide +kernel
theorem dL_law_503 : decode cL_law 503 = .ok (.iconst 1, 1) := by decide +kernel
theorem dL_law_504 : decode cL_law 504 = .ok (.iadd, 1) := by decide +kernel
theorem dL_law_505 : decode cL_law 505 = .ok (.iaload, 1) := by decide +kernel
theorem dL_law_506 : decode cL_law 506 = .ok (.invokevirtual 65, 3) := by decide +kernel
theorem dL_law_509 : decode cL_law 509 = .ok (.aload_n 2, 1) := by decide +kernel
theorem dL_law_510 : decode cL_law 510 = .ok (.aload_n 0, 1) := by decide +kernel
theorem dL_law_511 : decode cL_law 511 = .ok (.iload_n 3, 1) := by decide +kernel
theorem dL_law_512 : decode cL_law 512 = .ok (.iconst 1, 1) := by decide +kernel
theorem dL_law_513 : decode cL_law 513 = .ok (.iadd, 1) := by decide +kernel
theorem dL_law_514 : decode cL_law 514 = .ok (.iaload, 1) := by decide +kernel
theorem dL_law_515 : decode cL_law 515 = .ok (.invokevirtual 69, 3) := by decide +kernel
theorem dL_law_518 : decode cL_law 518 = .ok (.lcmp, 1) := by decide +kernel
theorem dL_law_519 : decode cL_law 519 = .ok (.ifCond .eq 524, 3) := by decide +kernel
theorem dL_law_522 : decode cL_law 522 = .ok (.iconst 0, 1) := by decide +kernel
theorem dL_law_523 : decode cL_law 523 = .ok (.ireturn, 1) := by decide +kernel
theorem dL_law_524 : decode cL_law 524 = .ok (.aload_n 1, 1) := by decide +kernel
theorem dL_law_525 : decode cL_law 525 = .ok (.aload_n 0, 1) := by decide +kernel
theorem dL_law_526 : decode cL_law 526 = .ok (.iload_n 3, 1) := by decide +kernel
theorem dL_law_527 : decode cL_law 527 = .ok (.iconst 1, 1) := by decide +kernel
theorem dL_law_528 : decode cL_law 528 = .ok (.iadd, 1) := by decide +kernel
theorem dL_law_529 : decode cL_law 529 = .ok (.iaload, 1) := by decide +kernel
theorem dL_law_530 : decode cL_law 530 = .ok (.invokevirtual 70, 3) := by decide +kernel
theorem dL_law_533 : decode cL_law 533 = .ok (.aload_n 2, 1) := by decide +kernel
theorem dL_law_534 : decode cL_law 534 = .ok (.aload_n 0, 1) := by decide +kernel
theorem dL_law_535 : decode cL_law 535 = .ok (.iload_n 3, 1) := by decide +kernel
theorem dL_law_536 : decode cL_law 536 = .ok (.iconst 1, 1) := by decide +kernel
theorem dL_law_537 : decode cL_law 537 = .ok (.iadd, 1) := by decide +kernel
theorem dL_law_538 : decode cL_law 538 = .ok (.iaload, 1) := by decide +kernel
theorem dL_law_539 : decode cL_law 539 = .ok (.invokevirtual 73, 3) := by decide +kernel
theorem dL_law_542 : decode cL_law 542 = .ok (.lcmp, 1) := by decide +kernel
theorem dL_law_543 : decode cL_law 543 = .ok (.ifCond .eq 500, 3) := by decide +kernel
theorem dL_law_546 : decode cL_law 546 = .ok (.iconst 0, 1) := by decide +kernel
theorem dL_law_547 : decode cL_law 547 = .ok (.ireturn, 1) := by decide +kernel
theorem dL_law_548 : decode cL_law 548 = .ok (.aload_n 1, 1) := by decide +kernel
theorem dL_law_549 : decode cL_law 549 = .ok (.aload_n 0, 1) := by decide +kernel
theorem dL_law_550 : decode cL_law 550 = .ok (.iload_n 3, 1) := by decide +kernel
theorem dL_law_551 : decode cL_law 551 = .ok (.iconst 1, 1) := by decide +kernel
theorem dL_law_552 : decode cL_law 552 = .ok (.iadd, 1) := by decide +kernel
theorem dL_law_553 : decode cL_law 553 = .ok (.iaload, 1) := by decide +kernel
theorem dL_law_554 : decode cL_law 554 = .ok (.invokevirtual 74, 3) := by decide +kernel
theorem dL_law_557 : decode cL_law 557 = .ok (.aload_n 2, 1) := by decide +kernel
theorem dL_law_558 : decode cL_law 558 = .ok (.aload_n 0, 1) := by decide +kernel
theorem dL_law_559 : decode cL_law 559 = .ok (.iload_n 3, 1) := by decide +kernel
theorem dL_law_560 : decode cL_law 560 = .ok (.iconst 1, 1) := by decide +kernel
theorem dL_law_561 : decode cL_law 561 = .ok (.iadd, 1) := by decide +kernel
theorem dL_law_562 : decode cL_law 562 = .ok (.iaload, 1) := by decide +kernel
theorem dL_law_563 : decode cL_law 563 = .ok (.invokevirtual 77, 3) := by decide +kernel
theorem dL_law_566 : decode cL_law 566 = .ok (.lcmp, 1) := by decide +kernel
theorem dL_law_567 : decode cL_law 567 = .ok (.ifCond .eq 476, 3) := by decide +kernel
theorem dL_law_570 : decode cL_law 570 = .ok (.iconst 0, 1) := by decide +kernel
theorem dL_law_571 : decode cL_law 571 = .ok (.ireturn, 1) := by decide +kernel
theorem dL_law_572 : decode cL_law 572 = .ok (.aload_n 1, 1) := by decide +kernel
theorem dL_law_573 : decode cL_law 573 = .ok (.aload_n 0, 1) := by decide +kernel
theorem dL_law_574 : decode cL_law 574 = .ok (.iload_n 3, 1) := by decide +kernel
theorem dL_law_575 : decode cL_law 575 = .ok (.iconst 1, 1) := by decide +kernel
theorem dL_law_576 : decode cL_law 576 = .ok (.iadd, 1) := by decide +kernel
theorem dL_law_577 : decode cL_law 577 = .ok (.iaload, 1) := by decide +kernel
theorem dL_law_578 : decode cL_law 578 = .ok (.invokevirtual 78, 3) := by decide +kernel
theorem dL_law_581 : decode cL_law 581 = .ok (.dstore 4, 2) := by decide +kernel
theorem dL_law_583 : decode cL_law 583 = .ok (.aload_n 2, 1) := by decide +kernel
theorem dL_law_584 : decode cL_law 584 = .ok (.aload_n 0, 1) := by decide +kernel
theorem dL_law_585 : decode cL_law 585 = .ok (.iload_n 3, 1) := by decide +kernel
theorem dL_law_586 : decode cL_law 586 = .ok (.iconst 1, 1) := by decide +kernel
theorem dL_law_587 : decode cL_law 587 = .ok (.iadd, 1) := by decide +kernel
theorem dL_law_588 : decode cL_law 588 = .ok (.iaload, 1) := by decide +kernel
theorem dL_law_589 : decode cL_law 589 = .ok (.invokevirtual 82, 3) := by decide +kernel
theorem dL_law_592 : decode cL_law 592 = .ok (.dstore 6, 2) := by decide +kernel
theorem dL_law_594 : decode cL_law 594 = .ok (.dload 4, 2) := by decide +kernel
theorem dL_law_596 : decode cL_law 596 = .ok (.dload 6, 2) := by decide +kernel
theorem dL_law_598 : decode cL_law 598 = .ok (.dcmp .l, 1) := by decide +kernel
theorem dL_law_599 : decode cL_law 599 = .ok (.ifCond .eq 21, 3) := by decide +kernel
theorem dL_law_602 : decode cL_law 602 = .ok (.dload 4, 2) := by decide +kernel
theorem dL_law_604 : decode cL_law 604 = .ok (.dload 4, 2) := by decide +kernel
theorem dL_law_606 : decode cL_law 606 = .ok (.dcmp .l, 1) := by decide +kernel
theorem dL_law_607 : decode cL_law 607 = .ok (.ifCond .eq 11, 3) := by decide +kernel
theorem dL_law_610 : decode cL_law 610 = .ok (.dload 6, 2) := by decide +kernel
theorem dL_law_612 : decode cL_law 612 = .ok (.dload 6, 2) := by decide +kernel
theorem dL_law_614 : decode cL_law 614 = .ok (.dcmp .l, 1) := by decide +kernel
theorem dL_law_615 : decode cL_law 615 = .ok (.ifCond .ne 5, 3) := by decide +kernel
theorem dL_law_618 : decode cL_law 618 = .ok (.iconst 0, 1) := by decide +kernel
theorem dL_law_619 : decode cL_law 619 = .ok (.ireturn, 1) := by decide +kernel
theorem dL_law_620 : decode cL_law 620 = .ok (.goto 423, 3) := by decide +kernel
theorem dL_law_623 : decode cL_law 623 = .ok (.aload_n 1, 1) := by decide +kernel
theorem dL_law_624 : decode cL_law 624 = .ok (.aload_n 0, 1) := by decide +kernel
theorem dL_law_625 : decode cL_law 625 = .ok (.iload_n 3, 1) := by decide +kernel
theorem dL_law_626 : decode cL_law 626 = .ok (.iconst 1, 1) := by decide +kernel
theorem dL_law_627 : decode cL_law 627 = .ok (.iadd, 1) := by decide +kernel
theorem dL_law_628 : decode cL_law 628 = .ok (.iaload, 1) := by decide +kernel
theorem dL_law_629 : decode cL_law 629 = .ok (.invokevirtual 83, 3) := by decide +kernel
theorem dL_law_632 : decode cL_law 632 = .ok (.f2d, 1) := by decide +kernel
theorem dL_law_633 : decode cL_law 633 = .ok (.dstore 4, 2) := by decide +kernel
theorem dL_law_635 : decode cL_law 635 = .ok (.aload_n 2, 1) := by decide +kernel
theorem dL_law_636 : decode cL_law 636 = .ok (.aload_n 0, 1) := by decide +kernel
theorem dL_law_637 : decode cL_law 637 = .ok (.iload_n 3, 1) := by decide +kernel
theorem dL_law_638 : decode cL_law 638 = .ok (.iconst 1, 1) := by decide +kernel
theorem dL_law_639 : decode cL_law 639 = .ok (.iadd, 1) := by decide +kernel
theorem dL_law_640 : decode cL_law 640 = .ok (.iaload, 1) := by decide +kernel
theorem dL_law_641 : decode cL_law 641 = .ok (.invokevirtual 87, 3) := by decide +kernel
theorem dL_law_644 : decode cL_law 644 = .ok (.f2d, 1) := by decide +kernel
theorem dL_law_645 : decode cL_law 645 = .ok (.dstore 6, 2) := by decide +kernel
theorem dL_law_647 : decode cL_law 647 = .ok (.dload 4, 2) := by decide +kernel
theorem dL_law_649 : decode cL_law 649 = .ok (.dload 6, 2) := by decide +kernel
theorem dL_law_651 : decode cL_law 651 = .ok (.dcmp .l, 1) := by decide +kernel
theorem dL_law_652 : decode cL_law 652 = .ok (.ifCond .eq 21, 3) := by decide +kernel
theorem dL_law_655 : decode cL_law 655 = .ok (.dload 4, 2) := by decide +kernel
theorem dL_law_657 : decode cL_law 657 = .ok (.dload 4, 2) := by decide +kernel
theorem dL_law_659 : decode cL_law 659 = .ok (.dcmp .l, 1) := by decide +kernel
theorem dL_law_660 : decode cL_law 660 = .ok (.ifCond .eq 11, 3) := by decide +kernel
theorem dL_law_663 : decode cL_law 663 = .ok (.dload 6, 2) := by decide +kernel
theorem dL_law_665 : decode cL_law 665 = .ok (.dload 6, 2) := by decide +kernel
theorem dL_law_667 : decode cL_law 667 = .ok (.dcmp .l, 1) := by decide +kernel
theorem dL_law_668 : decode cL_law 668 = .ok (.ifCond .ne 5, 3) := by decide +kernel
theorem dL_law_671 : decode cL_law 671 = .ok (.iconst 0, 1) := by decide +kernel
theorem dL_law_672 : decode cL_law 672 = .ok (.ireturn, 1) := by decide +kernel
theorem dL_law_673 : decode cL_law 673 = .ok (.goto 370, 3) := by decide +kernel
theorem dL_law_676 : decode cL_law 676 = .ok (.aload_n 1, 1) := by decide +kernel
theorem dL_law_677 : decode cL_law 677 = .ok (.invokevirtual 88, 3) := by decide +kernel
theorem dL_law_680 : decode cL_law 680 = .ok (.aload_n 2, 1) := by decide +kernel
theorem dL_law_681 : decode cL_law 681 = .ok (.invokevirtual 91, 3) := by decide +kernel
theorem dL_law_684 : decode cL_law 684 = .ok (.if_icmp .eq 359, 3) := by decide +kernel
theorem dL_law_687 : decode cL_law 687 = .ok (.iconst 0, 1) := by decide +kernel
theorem dL_law_688 : decode cL_law 688 = .ok (.ireturn, 1) := by decide +kernel
theorem dL_law_689 : decode cL_law 689 = .ok (.aload_n 1, 1) := by decide +kernel
theorem dL_law_690 : decode cL_law 690 = .ok (.aload_n 0, 1) := by decide +kernel
theorem dL_law_691 : decode cL_law 691 = .ok (.iload_n 3, 1) := by decide +kernel
theorem dL_law_692 : decode cL_law 692 = .ok (.iconst 1, 1) := by decide +kernel
theorem dL_law_693 : decode cL_law 693 = .ok (.iadd, 1) := by decide +kernel
theorem dL_law_694 : decode cL_law 694 = .ok (.iaload, 1) := by decide +kernel
theorem dL_law_695 : decode cL_law 695 = .ok (.invokevirtual 92, 3) := by decide +kernel
theorem dL_law_698 : decode cL_law 698 = .ok (.aload_n 2, 1) := by decide +kernel
theorem dL_law_699 : decode cL_law 699 = .ok (.aload_n 0, 1) := by decide +kernel
theorem dL_law_700 : decode cL_law 700 = .ok (.iload_n 3, 1) := by decide +kernel
theorem dL_law_701 : decode cL_law 701 = .ok (.iconst 1, 1) := by decide +kernel
theorem dL_law_702 : decode cL_law 702 = .ok (.iadd, 1) := by decide +kernel
theorem dL_law_703 : decode cL_law 703 = .ok (.iaload, 1) := by decide +kernel
theorem dL_law_704 : decode cL_law 704 = .ok (.invokevirtual 95, 3) := by decide +kernel
theorem dL_law_707 : decode cL_law 707 = .ok (.lcmp, 1) := by decide +kernel
theorem dL_law_708 : decode cL_law 708 = .ok (.ifCond .eq 335, 3) := by decide +kernel
theorem dL_law_711 : decode cL_law 711 = .ok (.iconst 0, 1) := by decide +kernel
theorem dL_law_712 : decode cL_law 712 = .ok (.ireturn, 1) := by decide +kernel
theorem dL_law_713 : decode cL_law 713 = .ok (.aload_n 1, 1) := by decide +kernel
theorem dL_law_714 : decode cL_law 714 = .ok (.aload_n 0, 1) := by decide +kernel
theorem dL_law_715 : decode cL_law 715 = .ok (.iload_n 3, 1) := by decide +kernel
theorem dL_law_716 : decode cL_law 716 = .ok (.iconst 1, 1) := by decide +kernel
theorem dL_law_717 : decode cL_law 717 = .ok (.iadd, 1) := by decide +kernel
theorem dL_law_718 : decode cL_law 718 = .ok (.iaload, 1) := by decide +kernel
theorem dL_law_719 : decode cL_law 719 = .ok (.invokevirtual 96, 3) := by decide +kernel
theorem dL_law_722 : decode cL_law 722 = .ok (.aload_n 2, 1) := by decide +kernel
theorem dL_law_723 : decode cL_law 723 = .ok (.aload_n 0, 1) := by decide +kernel
theorem dL_law_724 : decode cL_law 724 = .ok (.iload_n 3, 1) := by decide +kernel
theorem dL_law_725 : decode cL_law 725 = .ok (.iconst 1, 1) := by decide +kernel
theorem dL_law_726 : decode cL_law 726 = .ok (.iadd, 1) := by decide +kernel
theorem dL_law_727 : decode cL_law 727 = .ok (.iaload, 1) := by decide +kernel
theorem dL_law_728 : decode cL_law 728 = .ok (.invokevirtual 99, 3) := by decide +kernel
theorem dL_law_731 : decode cL_law 731 = .ok (.if_icmp .eq 312, 3) := by decide +kernel
theorem dL_law_734 : decode cL_law 734 = .ok (.iconst 0, 1) := by decide +kernel
theorem dL_law_735 : decode cL_law 735 = .ok (.ireturn, 1) := by decide +kernel
theorem dL_law_736 : decode cL_law 736 = .ok (.aload_n 1, 1) := by decide +kernel
theorem dL_law_737 : decode cL_law 737 = .ok (.aload_n 0, 1) := by decide +kernel
theorem dL_law_738 : decode cL_law 738 = .ok (.iload_n 3, 1) := by decide +kernel
theorem dL_law_739 : decode cL_law 739 = .ok (.iconst 1, 1) := by decide +kernel
theorem dL_law_740 : decode cL_law 740 = .ok (.iadd, 1) := by decide +kernel
theorem dL_law_741 : decode cL_law 741 = .ok (.iaload, 1) := by decide +kernel
theorem dL_law_742 : decode cL_law 742 = .ok (.aload_n 0, 1) := by decide +kernel
theorem dL_law_743 : decode cL_law 743 = .ok (.iload_n 3, 1) := by decide +kernel
theorem dL_law_744 : decode cL_law 744 = .ok (.iconst 2, 1) := by decide +kernel
theorem dL_law_745 : decode cL_law 745 = .ok (.iadd, 1) := by decide +kernel
theorem dL_law_746 : decode cL_law 746 = .ok (.iaload, 1) := by decide +kernel
theorem dL_law_747 : decode cL_law 747 = .ok (.i2l, 1) := by decide +kernel
theorem dL_law_748 : decode cL_law 748 = .ok (.bipush 32, 2) := by decide +kernel
theorem dL_law_750 : decode cL_law 750 = .ok (.lshl, 1) := by decide +kernel
theorem dL_law_751 : decode cL_law 751 = .ok (.aload_n 0, 1) := by decide +kernel
theorem dL_law_752 : decode cL_law 752 = .ok (.iload_n 3, 1) := by decide +kernel
theorem dL_law_753 : decode cL_law 753 = .ok (.iconst 3, 1) := by decide +kernel
theorem dL_law_754 : decode cL_law 754 = .ok (.iadd, 1) := by decide +kernel
theorem dL_law_755 : decode cL_law 755 = .ok (.iaload, 1) := by decide +kernel
theorem dL_law_756 : decode cL_law 756 = .ok (.i2l, 1) := by decide +kernel
theorem dL_law_757 : decode cL_law 757 = .ok (.ldc2_w 100, 3) := by decide +kernel
theorem dL_law_760 : decode cL_law 760 = .ok (.land, 1) := by decide +kernel
theorem dL_law_761 : decode cL_law 761 = .ok (.lor, 1) := by decide +kernel
theorem dL_law_762 : decode cL_law 762 = .ok (.invokevirtual 102, 3) := by decide +kernel
theorem dL_law_765 : decode cL_law 765 = .ok (.aload_n 2, 1) := by decide +kernel
theorem dL_law_766 : decode cL_law 766 = .ok (.aload_n 0, 1) := by decide +kernel
theorem dL_law_767 : decode cL_law 767 = .ok (.iload_n 3, 1) := by decide +kernel
theorem dL_law_768 : decode cL_law 768 = .ok (.iconst 1, 1) := by decide +kernel
theorem dL_law_769 : decode cL_law 769 = .ok (.iadd, 1) := by decide +kernel
theorem dL_law_770 : decode cL_law 770 = .ok (.iaload, 1) := by decide +kernel
theorem dL_law_771 : decode cL_law 771 = .ok (.aload_n 0, 1) := by decide +kernel
theorem dL_law_772 : decode cL_law 772 = .ok (.iload_n 3, 1) := by decide +kernel
theorem dL_law_773 : decode cL_law 773 = .ok (.iconst 2, 1) := by decide +kernel
theorem dL_law_774 : decode cL_law 774 = .ok (.iadd, 1) := by decide +kernel
theorem dL_law_775 : decode cL_law 775 = .ok (.iaload, 1) := by decide +kernel
theorem dL_law_776 : decode cL_law 776 = .ok (.i2l, 1) := by decide +kernel
theorem dL_law_777 : decode cL_law 777 = .ok (.bipush 32, 2) := by decide +kernel
theorem dL_law_779 : decode cL_law 779 = .ok (.lshl, 1) := by decide +kernel
theorem dL_law_780 : decode cL_law 780 = .ok (.aload_n 0, 1) := by decide +kernel
theorem dL_law_781 : decode cL_law 781 = .ok (.iload_n 3, 1) := by decide +kernel
theorem dL_law_782 : decode cL_law 782 = .ok (.iconst 3, 1) := by decide +kernel
theorem dL_law_783 : decode cL_law 783 = .ok (.iadd, 1) := by decide +kernel
theorem dL_law_784 : decode cL_law 784 = .ok (.iaload, 1) := by decide +kernel
theorem dL_law_785 : decode cL_law 785 = .ok (.i2l, 1) := by decide +kernel
theorem dL_law_786 : decode cL_law 786 = .ok (.ldc2_w 100, 3) := by decide +kernel
theorem dL_law_789 : decode cL_law 789 = .ok (.land, 1) := by decide +kernel
theorem dL_law_790 : decode cL_law 790 = .ok (.lor, 1) := by decide +kernel
theorem dL_law_791 : decode cL_law 791 = .ok (.invokevirtual 106, 3) := by decide +kernel
theorem dL_law_794 : decode cL_law 794 = .ok (.if_icmp .eq 249, 3) := by decide +kernel
theorem dL_law_797 : decode cL_law 797 = .ok (.iconst 0, 1) := by decide +kernel
theorem dL_law_798 : decode cL_law 798 = .ok (.ireturn, 1) := by decide +kernel
theorem dL_law_799 : decode cL_law 799 = .ok (.aload_n 1, 1) := by decide +kernel
theorem dL_law_800 : decode cL_law 800 = .ok (.aload_n 0, 1) := by decide +kernel
theorem dL_law_801 : decode cL_law 801 = .ok (.iload_n 3, 1) := by decide +kernel
theorem dL_law_802 : decode cL_law 802 = .ok (.iconst 1, 1) := by decide +kernel
theorem dL_law_803 : decode cL_law 803 = .ok (.iadd, 1) := by decide +kernel
theorem dL_law_804 : decode cL_law 804 = .ok (.iaload, 1) := by decide +kernel
theorem dL_law_805 : decode cL_law 805 = .ok (.aload_n 0, 1) := by decide +kernel
theorem dL_law_806 : decode cL_law 806 = .ok (.iload_n 3, 1) := by decide +kernel
theorem dL_law_807 : decode cL_law 807 = .ok (.iconst 2, 1) := by decide +kernel
theorem dL_law_808 : decode cL_law 808 = .ok (.iadd, 1) := by decide +kernel
theorem dL_law_809 : decode cL_law 809 = .ok (.iaload, 1) := by decide +kernel
theorem dL_law_810 : decode cL_law 810 = .ok (.i2l, 1) := by decide +kernel
theorem dL_law_811 : decode cL_law 811 = .ok (.bipush 32, 2) := by decide +kernel
theorem dL_law_813 : decode cL_law 813 = .ok (.lshl, 1) := by decide +kernel
theorem dL_law_814 : decode cL_law 814 = .ok (.aload_n 0, 1) := by decide +kernel
theorem dL_law_815 : decode cL_law 815 = .ok (.iload_n 3, 1) := by decide +kernel
theorem dL_law_816 : decode cL_law 816 = .ok (.iconst 3, 1) := by decide +kernel
theorem dL_law_817 : decode cL_law 817 = .ok (.iadd, 1) := by decide +kernel
theorem dL_law_818 : decode cL_law 818 = .ok (.iaload, 1) := by decide +kernel
theorem dL_law_819 : decode cL_law 819 = .ok (.i2l, 1) := by decide +kernel
theorem dL_law_820 : decode cL_law 820 = .ok (.ldc2_w 100, 3) := by decide +kernel
theorem dL_law_823 : decode cL_law 823 = .ok (.land, 1) := by decide +kernel
theorem dL_law_824 : decode cL_law 824 = .ok (.lor, 1) := by decide +kernel
theorem dL_law_825 : decode cL_law 825 = .ok (.invokevirtual 107, 3) := by decide +kernel
theorem dL_law_828 : decode cL_law 828 = .ok (.aload_n 2, 1) := by decide +kernel
theorem dL_law_829 : decode cL_law 829 = .ok (.aload_n 0, 1) := by decide +kernel
theorem dL_law_830 : decode cL_law 830 = .ok (.iload_n 3, 1) := by decide +kernel
theorem dL_law_831 : decode cL_law 831 = .ok (.iconst 1, 1) := by decide +kernel
theorem dL_law_832 : decode cL_law 832 = .ok (.iadd, 1) := by decide +kernel
theorem dL_law_833 : decode cL_law 833 = .ok (.iaload, 1) := by decide +kernel
theorem dL_law_834 : decode cL_law 834 = .ok (.aload_n 0, 1) := by decide +kernel
theorem dL_law_835 : decode cL_law 835 = .ok (.iload_n 3, 1) := by decide +kernel
theorem dL_law_836 : decode cL_law 836 = .ok (.iconst 2, 1) := by decide +kernel
theorem dL_law_837 : decode cL_law 837 = .ok (.iadd, 1) := by decide +kernel
theorem dL_law_838 : decode cL_law 838 = .ok (.iaload, 1) := by decide +kernel
theorem dL_law_839 : decode cL_law 839 = .ok (.i2l, 1) := by decide +kernel
theorem dL_law_840 : decode cL_law 840 = .ok (.bipush 32, 2) := by decide +kernel
theorem dL_law_842 : decode cL_law 842 = .ok (.lshl, 1) := by decide +kernel
theorem dL_law_843 : decode cL_law 843 = .ok (.aload_n 0, 1) := by decide +kernel
theorem dL_law_844 : decode cL_law 844 = .ok (.iload_n 3, 1) := by decide +kernel
theorem dL_law_845 : decode cL_law 845 = .ok (.iconst 3, 1) := by decide +kernel
