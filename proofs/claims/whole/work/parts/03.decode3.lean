theorem dX5_bound_243 : decode cX5_bound 243 = .ok (.laload, 1) := by decide +kernel
theorem dX5_bound_244 : decode cX5_bound 244 = .ok (.lreturn, 1) := by decide +kernel
theorem dX5_about_0 : decode cX5_about 0 = .ok (.aload_n 0, 1) := by decide +kernel
theorem dX5_about_1 : decode cX5_about 1 = .ok (.iload_n 1, 1) := by decide +kernel
theorem dX5_about_2 : decode cX5_about 2 = .ok (.invokevirtual 76, 3) := by decide +kernel
theorem dX5_about_5 : decode cX5_about 5 = .ok (.ifCond .ne 9, 3) := by decide +kernel
theorem dX5_about_8 : decode cX5_about 8 = .ok (.bipush (-2), 2) := by decide +kernel
theorem dX5_about_10 : decode cX5_about 10 = .ok (.invokestatic 129, 3) := by decide +kernel
theorem dX5_about_13 : decode cX5_about 13 = .ok (.lreturn, 1) := by decide +kernel
theorem dX5_about_14 : decode cX5_about 14 = .ok (.iload_n 2, 1) := by decide +kernel
theorem dX5_about_15 : decode cX5_about 15 = .ok (.tableswitch 129 0 9 #[53, 61, 69, 77, 85, 93, 101, 109, 116, 123], 53) := by decide +kernel
theorem dX5_about_68 : decode cX5_about 68 = .ok (.aload_n 0, 1) := by decide +kernel
theorem dX5_about_69 : decode cX5_about 69 = .ok (.getfield 7, 3) := by decide +kernel
theorem dX5_about_72 : decode cX5_about 72 = .ok (.iload_n 1, 1) := by decide +kernel
theorem dX5_about_73 : decode cX5_about 73 = .ok (.iaload, 1) := by decide +kernel
theorem dX5_about_74 : decode cX5_about 74 = .ok (.i2l, 1) := by decide +kernel
theorem dX5_about_75 : decode cX5_about 75 = .ok (.lreturn, 1) := by decide +kernel
theorem dX5_about_76 : decode cX5_about 76 = .ok (.aload_n 0, 1) := by decide +kernel
theorem dX5_about_77 : decode cX5_about 77 = .ok (.getfield 13, 3) := by decide +kernel
theorem dX5_about_80 : decode cX5_about 80 = .ok (.iload_n 1, 1) := by decide +kernel
theorem dX5_about_81 : decode cX5_about 81 = .ok (.iaload, 1) := by decide +kernel
theorem dX5_about_82 : decode cX5_about 82 = .ok (.i2l, 1) := by decide +kernel
theorem dX5_about_83 : decode cX5_about 83 = .ok (.lreturn, 1) := by decide +kernel
theorem dX5_about_84 : decode cX5_about 84 = .ok (.aload_n 0, 1) := by decide +kernel
theorem dX5_about_85 : decode cX5_about 85 = .ok (.getfield 16, 3) := by decide +kernel
theorem dX5_about_88 : decode cX5_about 88 = .ok (.iload_n 1, 1) := by decide +kernel
theorem dX5_about_89 : decode cX5_about 89 = .ok (.iaload, 1) := by decide +kernel
theorem dX5_about_90 : decode cX5_about 90 = .ok (.i2l, 1) := by decide +kernel
theorem dX5_about_91 : decode cX5_about 91 = .ok (.lreturn, 1) := by decide +kernel
theorem dX5_about_92 : decode cX5_about 92 = .ok (.aload_n 0, 1) := by decide +kernel
theorem dX5_about_93 : decode cX5_about 93 = .ok (.getfield 19, 3) := by decide +kernel
theorem dX5_about_96 : decode cX5_about 96 = .ok (.iload_n 1, 1) := by decide +kernel
theorem dX5_about_97 : decode cX5_about 97 = .ok (.iaload, 1) := by decide +kernel
theorem dX5_about_98 : decode cX5_about 98 = .ok (.i2l, 1) := by decide +kernel
theorem dX5_about_99 : decode cX5_about 99 = .ok (.lreturn, 1) := by decide +kernel
theorem dX5_about_100 : decode cX5_about 100 = .ok (.aload_n 0, 1) := by decide +kernel
theorem dX5_about_101 : decode cX5_about 101 = .ok (.getfield 29, 3) := by decide +kernel
theorem dX5_about_104 : decode cX5_about 104 = .ok (.iload_n 1, 1) := by decide +kernel
theorem dX5_about_105 : decode cX5_about 105 = .ok (.iaload, 1) := by decide +kernel
theorem dX5_about_106 : decode cX5_about 106 = .ok (.i2l, 1) := by decide +kernel
theorem dX5_about_107 : decode cX5_about 107 = .ok (.lreturn, 1) := by decide +kernel
theorem dX5_about_108 : decode cX5_about 108 = .ok (.aload_n 0, 1) := by decide +kernel
theorem dX5_about_109 : decode cX5_about 109 = .ok (.getfield 32, 3) := by decide +kernel
theorem dX5_about_112 : decode cX5_about 112 = .ok (.iload_n 1, 1) := by decide +kernel
theorem dX5_about_113 : decode cX5_about 113 = .ok (.iaload, 1) := by decide +kernel
theorem dX5_about_114 : decode cX5_about 114 = .ok (.i2l, 1) := by decide +kernel
theorem dX5_about_115 : decode cX5_about 115 = .ok (.lreturn, 1) := by decide +kernel
theorem dX5_about_116 : decode cX5_about 116 = .ok (.aload_n 0, 1) := by decide +kernel
theorem dX5_about_117 : decode cX5_about 117 = .ok (.getfield 35, 3) := by decide +kernel
theorem dX5_about_120 : decode cX5_about 120 = .ok (.iload_n 1, 1) := by decide +kernel
theorem dX5_about_121 : decode cX5_about 121 = .ok (.iaload, 1) := by decide +kernel
theorem dX5_about_122 : decode cX5_about 122 = .ok (.i2l, 1) := by decide +kernel
theorem dX5_about_123 : decode cX5_about 123 = .ok (.lreturn, 1) := by decide +kernel
theorem dX5_about_124 : decode cX5_about 124 = .ok (.aload_n 0, 1) := by decide +kernel
theorem dX5_about_125 : decode cX5_about 125 = .ok (.getfield 22, 3) := by decide +kernel
theorem dX5_about_128 : decode cX5_about 128 = .ok (.iload_n 1, 1) := by decide +kernel
theorem dX5_about_129 : decode cX5_about 129 = .ok (.laload, 1) := by decide +kernel
theorem dX5_about_130 : decode cX5_about 130 = .ok (.lreturn, 1) := by decide +kernel
theorem dX5_about_131 : decode cX5_about 131 = .ok (.aload_n 0, 1) := by decide +kernel
theorem dX5_about_132 : decode cX5_about 132 = .ok (.getfield 26, 3) := by decide +kernel
theorem dX5_about_135 : decode cX5_about 135 = .ok (.iload_n 1, 1) := by decide +kernel
theorem dX5_about_136 : decode cX5_about 136 = .ok (.laload, 1) := by decide +kernel
theorem dX5_about_137 : decode cX5_about 137 = .ok (.lreturn, 1) := by decide +kernel
theorem dX5_about_138 : decode cX5_about 138 = .ok (.aload_n 0, 1) := by decide +kernel
theorem dX5_about_139 : decode cX5_about 139 = .ok (.iload_n 1, 1) := by decide +kernel
theorem dX5_about_140 : decode cX5_about 140 = .ok (.invokevirtual 132, 3) := by decide +kernel
theorem dX5_about_143 : decode cX5_about 143 = .ok (.lreturn, 1) := by decide +kernel
theorem dX5_about_144 : decode cX5_about 144 = .ok (.bipush (-2), 2) := by decide +kernel
theorem dX5_about_146 : decode cX5_about 146 = .ok (.invokestatic 129, 3) := by decide +kernel
theorem dX5_about_149 : decode cX5_about 149 = .ok (.lreturn, 1) := by decide +kernel
theorem dX5_price_0 : decode cX5_price 0 = .ok (.iconst 0, 1) := by decide +kernel
theorem dX5_price_1 : decode cX5_price 1 = .ok (.istore_n 1, 1) := by decide +kernel
theorem dX5_price_2 : decode cX5_price 2 = .ok (.iconst 0, 1) := by decide +kernel
theorem dX5_price_3 : decode cX5_price 3 = .ok (.istore_n 2, 1) := by decide +kernel
theorem dX5_price_4 : decode cX5_price 4 = .ok (.iload_n 2, 1) := by decide +kernel
theorem dX5_price_5 : decode cX5_price 5 = .ok (.aload_n 0, 1) := by decide +kernel
theorem dX5_price_6 : decode cX5_price 6 = .ok (.getfield 68, 3) := by decide +kernel
theorem dX5_price_9 : decode cX5_price 9 = .ok (.if_icmp .ge 39, 3) := by decide +kernel
theorem dX5_price_12 : decode cX5_price 12 = .ok (.iload_n 1, 1) := by decide +kernel
theorem dX5_price_13 : decode cX5_price 13 = .ok (.aload_n 0, 1) := by decide +kernel
theorem dX5_price_14 : decode cX5_price 14 = .ok (.getfield 7, 3) := by decide +kernel
theorem dX5_price_17 : decode cX5_price 17 = .ok (.iload_n 2, 1) := by decide +kernel
theorem dX5_price_18 : decode cX5_price 18 = .ok (.iaload, 1) := by decide +kernel
theorem dX5_price_19 : decode cX5_price 19 = .ok (.iconst 1, 1) := by decide +kernel
theorem dX5_price_20 : decode cX5_price 20 = .ok (.if_icmp .le 19, 3) := by decide +kernel
theorem dX5_price_23 : decode cX5_price 23 = .ok (.aload_n 0, 1) := by decide +kernel
theorem dX5_price_24 : decode cX5_price 24 = .ok (.getfield 35, 3) := by decide +kernel
theorem dX5_price_27 : decode cX5_price 27 = .ok (.iload_n 2, 1) := by decide +kernel
theorem dX5_price_28 : decode cX5_price 28 = .ok (.iaload, 1) := by decide +kernel
theorem dX5_price_29 : decode cX5_price 29 = .ok (.aload_n 0, 1) := by decide +kernel
theorem dX5_price_30 : decode cX5_price 30 = .ok (.getfield 29, 3) := by decide +kernel
theorem dX5_price_33 : decode cX5_price 33 = .ok (.iload_n 2, 1) := by decide +kernel
theorem dX5_price_34 : decode cX5_price 34 = .ok (.iaload, 1) := by decide +kernel
theorem dX5_price_35 : decode cX5_price 35 = .ok (.imul, 1) := by decide +kernel
theorem dX5_price_36 : decode cX5_price 36 = .ok (.goto 4, 3) := by decide +kernel
theorem dX5_price_39 : decode cX5_price 39 = .ok (.iconst 0, 1) := by decide +kernel
theorem dX5_price_40 : decode cX5_price 40 = .ok (.iadd, 1) := by decide +kernel
theorem dX5_price_41 : decode cX5_price 41 = .ok (.istore_n 1, 1) := by decide +kernel
theorem dX5_price_42 : decode cX5_price 42 = .ok (.iinc 2 1, 3) := by decide +kernel
theorem dX5_price_45 : decode cX5_price 45 = .ok (.goto (-41), 3) := by decide +kernel
theorem dX5_price_48 : decode cX5_price 48 = .ok (.iload_n 1, 1) := by decide +kernel
theorem dX5_price_49 : decode cX5_price 49 = .ok (.ireturn, 1) := by decide +kernel
theorem dX5_floored_0 : decode cX5_floored 0 = .ok (.lload_n 0, 1) := by decide +kernel
theorem dX5_floored_1 : decode cX5_floored 1 = .ok (.lload_n 2, 1) := by decide +kernel
theorem dX5_floored_2 : decode cX5_floored 2 = .ok (.ldiv, 1) := by decide +kernel
theorem dX5_floored_3 : decode cX5_floored 3 = .ok (.lstore 4, 2) := by decide +kernel
theorem dX5_floored_5 : decode cX5_floored 5 = .ok (.lload_n 0, 1) := by decide +kernel
theorem dX5_floored_6 : decode cX5_floored 6 = .ok (.lload_n 2, 1) := by decide +kernel
theorem dX5_floored_7 : decode cX5_floored 7 = .ok (.lrem, 1) := by decide +kernel
theorem dX5_floored_8 : decode cX5_floored 8 = .ok (.lconst 0, 1) := by decide +kernel
theorem dX5_floored_9 : decode cX5_floored 9 = .ok (.lcmp, 1) := by decide +kernel
theorem dX5_floored_10 : decode cX5_floored 10 = .ok (.ifCond .ge 10, 3) := by decide +kernel
theorem dX5_floored_13 : decode cX5_floored 13 = .ok (.lload 4, 2) := by decide +kernel
theorem dX5_floored_15 : decode cX5_floored 15 = .ok (.lconst 1, 1) := by decide +kernel
theorem dX5_floored_16 : decode cX5_floored 16 = .ok (.lsub, 1) := by decide +kernel
theorem dX5_floored_17 : decode cX5_floored 17 = .ok (.goto 5, 3) := by decide +kernel
theorem dX5_floored_20 : decode cX5_floored 20 = .ok (.lload 4, 2) := by decide +kernel
theorem dX5_floored_22 : decode cX5_floored 22 = .ok (.lreturn, 1) := by decide +kernel
theorem dX5_rounded_0 : decode cX5_rounded 0 = .ok (.iload 4, 2) := by decide +kernel
theorem dX5_rounded_2 : decode cX5_rounded 2 = .ok (.iconst 1, 1) := by decide +kernel
theorem dX5_rounded_3 : decode cX5_rounded 3 = .ok (.if_icmp .ne 15, 3) := by decide +kernel
theorem dX5_rounded_6 : decode cX5_rounded 6 = .ok (.lload_n 0, 1) := by decide +kernel
theorem dX5_rounded_7 : decode cX5_rounded 7 = .ok (.lload_n 2, 1) := by decide +kernel
theorem dX5_rounded_8 : decode cX5_rounded 8 = .ok (.ldc2_w 91, 3) := by decide +kernel
theorem dX5_rounded_11 : decode cX5_rounded 11 = .ok (.ldiv, 1) := by decide +kernel
theorem dX5_rounded_12 : decode cX5_rounded 12 = .ok (.ladd, 1) := by decide +kernel
theorem dX5_rounded_13 : decode cX5_rounded 13 = .ok (.lload_n 2, 1) := by decide +kernel
theorem dX5_rounded_14 : decode cX5_rounded 14 = .ok (.invokestatic 135, 3) := by decide +kernel
theorem dX5_rounded_17 : decode cX5_rounded 17 = .ok (.lreturn, 1) := by decide +kernel
theorem dX5_rounded_18 : decode cX5_rounded 18 = .ok (.iload 4, 2) := by decide +kernel
theorem dX5_rounded_20 : decode cX5_rounded 20 = .ok (.ifCond .ne 11, 3) := by decide +kernel
theorem dX5_rounded_23 : decode cX5_rounded 23 = .ok (.lload_n 0, 1) := by decide +kernel
theorem dX5_rounded_24 : decode cX5_rounded 24 = .ok (.lload_n 2, 1) := by decide +kernel
theorem dX5_rounded_25 : decode cX5_rounded 25 = .ok (.invokestatic 135, 3) := by decide +kernel
theorem dX5_rounded_28 : decode cX5_rounded 28 = .ok (.goto 6, 3) := by decide +kernel
theorem dX5_rounded_31 : decode cX5_rounded 31 = .ok (.lload_n 0, 1) := by decide +kernel
theorem dX5_rounded_32 : decode cX5_rounded 32 = .ok (.lload_n 2, 1) := by decide +kernel
theorem dX5_rounded_33 : decode cX5_rounded 33 = .ok (.ldiv, 1) := by decide +kernel
theorem dX5_rounded_34 : decode cX5_rounded 34 = .ok (.lreturn, 1) := by decide +kernel
theorem dX5_does_0 : decode cX5_does 0 = .ok (.iload_n 0, 1) := by decide +kernel
theorem dX5_does_1 : decode cX5_does 1 = .ok (.tableswitch 58 2 6 #[35, 39, 43, 47, 53], 35) := by decide +kernel
theorem dX5_does_36 : decode cX5_does 36 = .ok (.lload_n 1, 1) := by decide +kernel
theorem dX5_does_37 : decode cX5_does 37 = .ok (.lload_n 3, 1) := by decide +kernel
theorem dX5_does_38 : decode cX5_does 38 = .ok (.ladd, 1) := by decide +kernel
theorem dX5_does_39 : decode cX5_does 39 = .ok (.lreturn, 1) := by decide +kernel
theorem dX5_does_40 : decode cX5_does 40 = .ok (.lload_n 1, 1) := by decide +kernel
theorem dX5_does_41 : decode cX5_does 41 = .ok (.lload_n 3, 1) := by decide +kernel
theorem dX5_does_42 : decode cX5_does 42 = .ok (.lsub, 1) := by decide +kernel
theorem dX5_does_43 : decode cX5_does 43 = .ok (.lreturn, 1) := by decide +kernel
theorem dX5_does_44 : decode cX5_does 44 = .ok (.lload_n 1, 1) := by decide +kernel
theorem dX5_does_45 : decode cX5_does 45 = .ok (.lload_n 3, 1) := by decide +kernel
theorem dX5_does_46 : decode cX5_does 46 = .ok (.lmul, 1) := by decide +kernel
theorem dX5_does_47 : decode cX5_does 47 = .ok (.lreturn, 1) := by decide +kernel
theorem dX5_does_48 : decode cX5_does 48 = .ok (.lload_n 1, 1) := by decide +kernel
theorem dX5_does_49 : decode cX5_does 49 = .ok (.lload_n 3, 1) := by decide +kernel
theorem dX5_does_50 : decode cX5_does 50 = .ok (.invokestatic 95, 3) := by decide +kernel
theorem dX5_does_53 : decode cX5_does 53 = .ok (.lreturn, 1) := by decide +kernel
theorem dX5_does_54 : decode cX5_does 54 = .ok (.lload_n 1, 1) := by decide +kernel
theorem dX5_does_55 : decode cX5_does 55 = .ok (.invokestatic 104, 3) := by decide +kernel
theorem dX5_does_58 : decode cX5_does 58 = .ok (.lreturn, 1) := by decide +kernel
theorem dX5_does_59 : decode cX5_does 59 = .ok (.lload_n 1, 1) := by decide +kernel
theorem dX5_does_60 : decode cX5_does 60 = .ok (.lreturn, 1) := by decide +kernel
theorem dX5_runs_0 : decode cX5_runs 0 = .ok (.iconst 0, 1) := by decide +kernel
theorem dX5_runs_1 : decode cX5_runs 1 = .ok (.istore_n 2, 1) := by decide +kernel
theorem dX5_runs_2 : decode cX5_runs 2 = .ok (.iload_n 2, 1) := by decide +kernel
theorem dX5_runs_3 : decode cX5_runs 3 = .ok (.iload_n 1, 1) := by decide +kernel
theorem dX5_runs_4 : decode cX5_runs 4 = .ok (.if_icmp .gt 223, 3) := by decide +kernel
theorem dX5_runs_7 : decode cX5_runs 7 = .ok (.aload_n 0, 1) := by decide +kernel
theorem dX5_runs_8 : decode cX5_runs 8 = .ok (.getfield 7, 3) := by decide +kernel
theorem dX5_runs_11 : decode cX5_runs 11 = .ok (.iload_n 2, 1) := by decide +kernel
theorem dX5_runs_12 : decode cX5_runs 12 = .ok (.iaload, 1) := by decide +kernel
theorem dX5_runs_13 : decode cX5_runs 13 = .ok (.iconst 1, 1) := by decide +kernel
theorem dX5_runs_14 : decode cX5_runs 14 = .ok (.if_icmp .gt 50, 3) := by decide +kernel
theorem dX5_runs_17 : decode cX5_runs 17 = .ok (.aload_n 0, 1) := by decide +kernel
theorem dX5_runs_18 : decode cX5_runs 18 = .ok (.getfield 44, 3) := by decide +kernel
theorem dX5_runs_21 : decode cX5_runs 21 = .ok (.iload_n 2, 1) := by decide +kernel
theorem dX5_runs_22 : decode cX5_runs 22 = .ok (.aload_n 0, 1) := by decide +kernel
theorem dX5_runs_23 : decode cX5_runs 23 = .ok (.getfield 7, 3) := by decide +kernel
theorem dX5_runs_26 : decode cX5_runs 26 = .ok (.iload_n 2, 1) := by decide +kernel
theorem dX5_runs_27 : decode cX5_runs 27 = .ok (.iaload, 1) := by decide +kernel
theorem dX5_runs_28 : decode cX5_runs 28 = .ok (.ifCond .ne 13, 3) := by decide +kernel
theorem dX5_runs_31 : decode cX5_runs 31 = .ok (.aload_n 0, 1) := by decide +kernel
theorem dX5_runs_32 : decode cX5_runs 32 = .ok (.getfield 38, 3) := by decide +kernel
theorem dX5_runs_35 : decode cX5_runs 35 = .ok (.iload_n 2, 1) := by decide +kernel
theorem dX5_runs_36 : decode cX5_runs 36 = .ok (.iaload, 1) := by decide +kernel
theorem dX5_runs_37 : decode cX5_runs 37 = .ok (.i2l, 1) := by decide +kernel
theorem dX5_runs_38 : decode cX5_runs 38 = .ok (.goto 10, 3) := by decide +kernel
theorem dX5_runs_41 : decode cX5_runs 41 = .ok (.aload_n 0, 1) := by decide +kernel
theorem dX5_runs_42 : decode cX5_runs 42 = .ok (.getfield 13, 3) := by decide +kernel
theorem dX5_runs_45 : decode cX5_runs 45 = .ok (.iload_n 2, 1) := by decide +kernel
theorem dX5_runs_46 : decode cX5_runs 46 = .ok (.iaload, 1) := by decide +kernel
theorem dX5_runs_47 : decode cX5_runs 47 = .ok (.i2l, 1) := by decide +kernel
theorem dX5_runs_48 : decode cX5_runs 48 = .ok (.lastore, 1) := by decide +kernel
theorem dX5_runs_49 : decode cX5_runs 49 = .ok (.aload_n 0, 1) := by decide +kernel
theorem dX5_runs_50 : decode cX5_runs 50 = .ok (.getfield 47, 3) := by decide +kernel
theorem dX5_runs_53 : decode cX5_runs 53 = .ok (.iload_n 2, 1) := by decide +kernel
theorem dX5_runs_54 : decode cX5_runs 54 = .ok (.aload_n 0, 1) := by decide +kernel
theorem dX5_runs_55 : decode cX5_runs 55 = .ok (.getfield 44, 3) := by decide +kernel
theorem dX5_runs_58 : decode cX5_runs 58 = .ok (.iload_n 2, 1) := by decide +kernel
theorem dX5_runs_59 : decode cX5_runs 59 = .ok (.laload, 1) := by decide +kernel
theorem dX5_runs_60 : decode cX5_runs 60 = .ok (.lastore, 1) := by decide +kernel
theorem dX5_runs_61 : decode cX5_runs 61 = .ok (.goto 160, 3) := by decide +kernel
theorem dX5_runs_64 : decode cX5_runs 64 = .ok (.aload_n 0, 1) := by decide +kernel
theorem dX5_runs_65 : decode cX5_runs 65 = .ok (.getfield 7, 3) := by decide +kernel
theorem dX5_runs_68 : decode cX5_runs 68 = .ok (.iload_n 2, 1) := by decide +kernel
theorem dX5_runs_69 : decode cX5_runs 69 = .ok (.iaload, 1) := by decide +kernel
theorem dX5_runs_70 : decode cX5_runs 70 = .ok (.iconst 4, 1) := by decide +kernel
theorem dX5_runs_71 : decode cX5_runs 71 = .ok (.if_icmp .ne 7, 3) := by decide +kernel
theorem dX5_runs_74 : decode cX5_runs 74 = .ok (.iconst 1, 1) := by decide +kernel
theorem dX5_runs_75 : decode cX5_runs 75 = .ok (.goto 4, 3) := by decide +kernel
theorem dX5_runs_78 : decode cX5_runs 78 = .ok (.iconst 0, 1) := by decide +kernel
theorem dX5_runs_79 : decode cX5_runs 79 = .ok (.istore_n 3, 1) := by decide +kernel
theorem dX5_runs_80 : decode cX5_runs 80 = .ok (.ldc 119, 2) := by decide +kernel
theorem dX5_runs_82 : decode cX5_runs 82 = .ok (.aload_n 0, 1) := by decide +kernel
theorem dX5_runs_83 : decode cX5_runs 83 = .ok (.getfield 29, 3) := by decide +kernel
theorem dX5_runs_86 : decode cX5_runs 86 = .ok (.iload_n 2, 1) := by decide +kernel
theorem dX5_runs_87 : decode cX5_runs 87 = .ok (.iaload, 1) := by decide +kernel
theorem dX5_runs_88 : decode cX5_runs 88 = .ok (.ishr, 1) := by decide +kernel
theorem dX5_runs_89 : decode cX5_runs 89 = .ok (.i2l, 1) := by decide +kernel
theorem dX5_runs_90 : decode cX5_runs 90 = .ok (.lstore 4, 2) := by decide +kernel
theorem dX5_runs_92 : decode cX5_runs 92 = .ok (.aload_n 0, 1) := by decide +kernel
theorem dX5_runs_93 : decode cX5_runs 93 = .ok (.getfield 44, 3) := by decide +kernel
theorem dX5_runs_96 : decode cX5_runs 96 = .ok (.iload_n 2, 1) := by decide +kernel
theorem dX5_runs_97 : decode cX5_runs 97 = .ok (.aload_n 0, 1) := by decide +kernel
theorem dX5_runs_98 : decode cX5_runs 98 = .ok (.getfield 7, 3) := by decide +kernel
theorem dX5_runs_101 : decode cX5_runs 101 = .ok (.iload_n 2, 1) := by decide +kernel
theorem dX5_runs_102 : decode cX5_runs 102 = .ok (.iaload, 1) := by decide +kernel
theorem dX5_runs_103 : decode cX5_runs 103 = .ok (.aload_n 0, 1) := by decide +kernel
theorem dX5_runs_104 : decode cX5_runs 104 = .ok (.getfield 44, 3) := by decide +kernel
theorem dX5_runs_107 : decode cX5_runs 107 = .ok (.aload_n 0, 1) := by decide +kernel
theorem dX5_runs_108 : decode cX5_runs 108 = .ok (.getfield 13, 3) := by decide +kernel
theorem dX5_runs_111 : decode cX5_runs 111 = .ok (.iload_n 2, 1) := by decide +kernel
theorem dX5_runs_112 : decode cX5_runs 112 = .ok (.iaload, 1) := by decide +kernel
theorem dX5_runs_113 : decode cX5_runs 113 = .ok (.laload, 1) := by decide +kernel
theorem dX5_runs_114 : decode cX5_runs 114 = .ok (.aload_n 0, 1) := by decide +kernel
theorem dX5_runs_115 : decode cX5_runs 115 = .ok (.getfield 44, 3) := by decide +kernel
theorem dX5_runs_118 : decode cX5_runs 118 = .ok (.aload_n 0, 1) := by decide +kernel
theorem dX5_runs_119 : decode cX5_runs 119 = .ok (.getfield 16, 3) := by decide +kernel
theorem dX5_runs_122 : decode cX5_runs 122 = .ok (.iload_n 2, 1) := by decide +kernel
theorem dX5_runs_123 : decode cX5_runs 123 = .ok (.iaload, 1) := by decide +kernel
theorem dX5_runs_124 : decode cX5_runs 124 = .ok (.laload, 1) := by decide +kernel
theorem dX5_runs_125 : decode cX5_runs 125 = .ok (.invokestatic 138, 3) := by decide +kernel
theorem dX5_runs_128 : decode cX5_runs 128 = .ok (.iload_n 3, 1) := by decide +kernel
theorem dX5_runs_129 : decode cX5_runs 129 = .ok (.ifCond .eq 9, 3) := by decide +kernel
theorem dX5_runs_132 : decode cX5_runs 132 = .ok (.ldc2_w 102, 3) := by decide +kernel
theorem dX5_runs_135 : decode cX5_runs 135 = .ok (.goto 4, 3) := by decide +kernel
theorem dX5_runs_138 : decode cX5_runs 138 = .ok (.lconst 1, 1) := by decide +kernel
theorem dX5_runs_139 : decode cX5_runs 139 = .ok (.ldiv, 1) := by decide +kernel
theorem dX5_runs_140 : decode cX5_runs 140 = .ok (.lastore, 1) := by decide +kernel
theorem dX5_runs_141 : decode cX5_runs 141 = .ok (.lload 4, 2) := by decide +kernel
theorem dX5_runs_143 : decode cX5_runs 143 = .ok (.aload_n 0, 1) := by decide +kernel
theorem dX5_runs_144 : decode cX5_runs 144 = .ok (.getfield 7, 3) := by decide +kernel
theorem dX5_runs_147 : decode cX5_runs 147 = .ok (.iload_n 2, 1) := by decide +kernel
theorem dX5_runs_148 : decode cX5_runs 148 = .ok (.iaload, 1) := by decide +kernel
theorem dX5_runs_149 : decode cX5_runs 149 = .ok (.aload_n 0, 1) := by decide +kernel
theorem dX5_runs_150 : decode cX5_runs 150 = .ok (.getfield 47, 3) := by decide +kernel
theorem dX5_runs_153 : decode cX5_runs 153 = .ok (.aload_n 0, 1) := by decide +kernel
theorem dX5_runs_154 : decode cX5_runs 154 = .ok (.getfield 13, 3) := by decide +kernel
theorem dX5_runs_157 : decode cX5_runs 157 = .ok (.iload_n 2, 1) := by decide +kernel
theorem dX5_runs_158 : decode cX5_runs 158 = .ok (.iaload, 1) := by decide +kernel
theorem dX5_runs_159 : decode cX5_runs 159 = .ok (.laload, 1) := by decide +kernel
theorem dX5_runs_160 : decode cX5_runs 160 = .ok (.aload_n 0, 1) := by decide +kernel
theorem dX5_runs_161 : decode cX5_runs 161 = .ok (.getfield 47, 3) := by decide +kernel
theorem dX5_runs_164 : decode cX5_runs 164 = .ok (.aload_n 0, 1) := by decide +kernel
theorem dX5_runs_165 : decode cX5_runs 165 = .ok (.getfield 16, 3) := by decide +kernel
theorem dX5_runs_168 : decode cX5_runs 168 = .ok (.iload_n 2, 1) := by decide +kernel
theorem dX5_runs_169 : decode cX5_runs 169 = .ok (.iaload, 1) := by decide +kernel
theorem dX5_runs_170 : decode cX5_runs 170 = .ok (.laload, 1) := by decide +kernel
theorem dX5_runs_171 : decode cX5_runs 171 = .ok (.invokestatic 138, 3) := by decide +kernel
theorem dX5_runs_174 : decode cX5_runs 174 = .ok (.iload_n 3, 1) := by decide +kernel
theorem dX5_runs_175 : decode cX5_runs 175 = .ok (.ifCond .eq 12, 3) := by decide +kernel
theorem dX5_runs_178 : decode cX5_runs 178 = .ok (.ldc2_w 102, 3) := by decide +kernel
theorem dX5_runs_181 : decode cX5_runs 181 = .ok (.lload 4, 2) := by decide +kernel
theorem dX5_runs_183 : decode cX5_runs 183 = .ok (.lmul, 1) := by decide +kernel
theorem dX5_runs_184 : decode cX5_runs 184 = .ok (.goto 5, 3) := by decide +kernel
theorem dX5_runs_187 : decode cX5_runs 187 = .ok (.lload 4, 2) := by decide +kernel
theorem dX5_runs_189 : decode cX5_runs 189 = .ok (.aload_n 0, 1) := by decide +kernel
theorem dX5_runs_190 : decode cX5_runs 190 = .ok (.getfield 32, 3) := by decide +kernel
theorem dX5_runs_193 : decode cX5_runs 193 = .ok (.iload_n 2, 1) := by decide +kernel
theorem dX5_runs_194 : decode cX5_runs 194 = .ok (.iaload, 1) := by decide +kernel
theorem dX5_runs_195 : decode cX5_runs 195 = .ok (.invokestatic 142, 3) := by decide +kernel
theorem dX5_runs_198 : decode cX5_runs 198 = .ok (.lmul, 1) := by decide +kernel
theorem dX5_runs_199 : decode cX5_runs 199 = .ok (.lstore 6, 2) := by decide +kernel
theorem dX5_runs_201 : decode cX5_runs 201 = .ok (.aload_n 0, 1) := by decide +kernel
theorem dX5_runs_202 : decode cX5_runs 202 = .ok (.getfield 47, 3) := by decide +kernel
theorem dX5_runs_205 : decode cX5_runs 205 = .ok (.iload_n 2, 1) := by decide +kernel
theorem dX5_runs_206 : decode cX5_runs 206 = .ok (.ldc2_w 146, 3) := by decide +kernel
theorem dX5_runs_209 : decode cX5_runs 209 = .ok (.ldc2_w 148, 3) := by decide +kernel
theorem dX5_runs_212 : decode cX5_runs 212 = .ok (.lload 6, 2) := by decide +kernel
theorem dX5_runs_214 : decode cX5_runs 214 = .ok (.invokestatic 99, 3) := by decide +kernel
theorem dX5_runs_217 : decode cX5_runs 217 = .ok (.invokestatic 95, 3) := by decide +kernel
theorem dX5_runs_220 : decode cX5_runs 220 = .ok (.lastore, 1) := by decide +kernel
theorem dX5_runs_221 : decode cX5_runs 221 = .ok (.iinc 2 1, 3) := by decide +kernel
theorem dX5_runs_224 : decode cX5_runs 224 = .ok (.goto (-222), 3) := by decide +kernel
theorem dX5_runs_227 : decode cX5_runs 227 = .ok (.return_, 1) := by decide +kernel
theorem dX5_isOf_0 : decode cX5_isOf 0 = .ok (.lload_n 2, 1) := by decide +kernel
theorem dX5_isOf_1 : decode cX5_isOf 1 = .ok (.aload_n 0, 1) := by decide +kernel
theorem dX5_isOf_2 : decode cX5_isOf 2 = .ok (.getfield 22, 3) := by decide +kernel
theorem dX5_isOf_5 : decode cX5_isOf 5 = .ok (.iload_n 1, 1) := by decide +kernel
theorem dX5_isOf_6 : decode cX5_isOf 6 = .ok (.laload, 1) := by decide +kernel
theorem dX5_isOf_7 : decode cX5_isOf 7 = .ok (.aload_n 0, 1) := by decide +kernel
theorem dX5_isOf_8 : decode cX5_isOf 8 = .ok (.getfield 26, 3) := by decide +kernel
theorem dX5_isOf_11 : decode cX5_isOf 11 = .ok (.iload_n 1, 1) := by decide +kernel
theorem dX5_isOf_12 : decode cX5_isOf 12 = .ok (.laload, 1) := by decide +kernel
theorem dX5_isOf_13 : decode cX5_isOf 13 = .ok (.invokestatic 72, 3) := by decide +kernel
theorem dX5_isOf_16 : decode cX5_isOf 16 = .ok (.ifCond .eq 17, 3) := by decide +kernel
theorem dX5_isOf_19 : decode cX5_isOf 19 = .ok (.lload_n 2, 1) := by decide +kernel
theorem dX5_isOf_20 : decode cX5_isOf 20 = .ok (.ldc2_w 150, 3) := by decide +kernel
theorem dX5_isOf_23 : decode cX5_isOf 23 = .ok (.lrem, 1) := by decide +kernel
theorem dX5_isOf_24 : decode cX5_isOf 24 = .ok (.lconst 0, 1) := by decide +kernel
theorem dX5_isOf_25 : decode cX5_isOf 25 = .ok (.lcmp, 1) := by decide +kernel
theorem dX5_isOf_26 : decode cX5_isOf 26 = .ok (.ifCond .ne 7, 3) := by decide +kernel
theorem dX5_isOf_29 : decode cX5_isOf 29 = .ok (.iconst 1, 1) := by decide +kernel
theorem dX5_isOf_30 : decode cX5_isOf 30 = .ok (.goto 4, 3) := by decide +kernel
theorem dX5_isOf_33 : decode cX5_isOf 33 = .ok (.iconst 0, 1) := by decide +kernel
theorem dX5_isOf_34 : decode cX5_isOf 34 = .ok (.ireturn, 1) := by decide +kernel
theorem dX5_set_0 : decode cX5_set 0 = .ok (.aload_n 0, 1) := by decide +kernel
theorem dX5_set_1 : decode cX5_set 1 = .ok (.iload_n 1, 1) := by decide +kernel
theorem dX5_set_2 : decode cX5_set 2 = .ok (.invokevirtual 152, 3) := by decide +kernel
theorem dX5_set_5 : decode cX5_set 5 = .ok (.ifCond .eq 13, 3) := by decide +kernel
theorem dX5_set_8 : decode cX5_set 8 = .ok (.aload_n 0, 1) := by decide +kernel
theorem dX5_set_9 : decode cX5_set 9 = .ok (.iload_n 1, 1) := by decide +kernel
theorem dX5_set_10 : decode cX5_set 10 = .ok (.iload_n 2, 1) := by decide +kernel
theorem dX5_set_11 : decode cX5_set 11 = .ok (.i2l, 1) := by decide +kernel
theorem dX5_set_12 : decode cX5_set 12 = .ok (.invokevirtual 155, 3) := by decide +kernel
theorem dX5_set_15 : decode cX5_set 15 = .ok (.ifCond .ne 6, 3) := by decide +kernel
theorem dX5_set_18 : decode cX5_set 18 = .ok (.bipush (-2), 2) := by decide +kernel
theorem dX5_set_20 : decode cX5_set 20 = .ok (.ireturn, 1) := by decide +kernel
theorem dX5_set_21 : decode cX5_set 21 = .ok (.aload_n 0, 1) := by decide +kernel
theorem dX5_set_22 : decode cX5_set 22 = .ok (.getfield 38, 3) := by decide +kernel
theorem dX5_set_25 : decode cX5_set 25 = .ok (.iload_n 1, 1) := by decide +kernel
theorem dX5_set_26 : decode cX5_set 26 = .ok (.iload_n 2, 1) := by decide +kernel
theorem dX5_set_27 : decode cX5_set 27 = .ok (.iastore, 1) := by decide +kernel
theorem dX5_set_28 : decode cX5_set 28 = .ok (.iconst 1, 1) := by decide +kernel
theorem dX5_set_29 : decode cX5_set 29 = .ok (.ireturn, 1) := by decide +kernel
theorem dX5_enter_0 : decode cX5_enter 0 = .ok (.aload_n 0, 1) := by decide +kernel
theorem dX5_enter_1 : decode cX5_enter 1 = .ok (.iload_n 1, 1) := by decide +kernel
theorem dX5_enter_2 : decode cX5_enter 2 = .ok (.invokevirtual 152, 3) := by decide +kernel
theorem dX5_enter_5 : decode cX5_enter 5 = .ok (.ifCond .eq 19, 3) := by decide +kernel
theorem dX5_enter_8 : decode cX5_enter 8 = .ok (.dload_n 2, 1) := by decide +kernel
theorem dX5_enter_9 : decode cX5_enter 9 = .ok (.ldc2_w 159, 3) := by decide +kernel
theorem dX5_enter_12 : decode cX5_enter 12 = .ok (.dcmp .l, 1) := by decide +kernel
theorem dX5_enter_13 : decode cX5_enter 13 = .ok (.ifCond .lt 11, 3) := by decide +kernel
theorem dX5_enter_16 : decode cX5_enter 16 = .ok (.dload_n 2, 1) := by decide +kernel
theorem dX5_enter_17 : decode cX5_enter 17 = .ok (.ldc2_w 161, 3) := by decide +kernel
theorem dX5_enter_20 : decode cX5_enter 20 = .ok (.dcmp .g, 1) := by decide +kernel
theorem dX5_enter_21 : decode cX5_enter 21 = .ok (.ifCond .le 6, 3) := by decide +kernel
theorem dX5_enter_24 : decode cX5_enter 24 = .ok (.bipush (-2), 2) := by decide +kernel
theorem dX5_enter_26 : decode cX5_enter 26 = .ok (.ireturn, 1) := by decide +kernel
theorem dX5_enter_27 : decode cX5_enter 27 = .ok (.dload_n 2, 1) := by decide +kernel
theorem dX5_enter_28 : decode cX5_enter 28 = .ok (.ldc2_w 163, 3) := by decide +kernel
theorem dX5_enter_31 : decode cX5_enter 31 = .ok (.dmul, 1) := by decide +kernel
theorem dX5_enter_32 : decode cX5_enter 32 = .ok (.dstore 4, 2) := by decide +kernel
theorem dX5_enter_34 : decode cX5_enter 34 = .ok (.dload 4, 2) := by decide +kernel
theorem dX5_enter_36 : decode cX5_enter 36 = .ok (.d2l, 1) := by decide +kernel
theorem dX5_enter_37 : decode cX5_enter 37 = .ok (.lstore 6, 2) := by decide +kernel
theorem dX5_enter_39 : decode cX5_enter 39 = .ok (.lload 6, 2) := by decide +kernel
theorem dX5_enter_41 : decode cX5_enter 41 = .ok (.l2d, 1) := by decide +kernel
theorem dX5_enter_42 : decode cX5_enter 42 = .ok (.dload 4, 2) := by decide +kernel
theorem dX5_enter_44 : decode cX5_enter 44 = .ok (.dcmp .l, 1) := by decide +kernel
theorem dX5_enter_45 : decode cX5_enter 45 = .ok (.ifCond .ne 13, 3) := by decide +kernel
theorem dX5_enter_48 : decode cX5_enter 48 = .ok (.aload_n 0, 1) := by decide +kernel
theorem dX5_enter_49 : decode cX5_enter 49 = .ok (.iload_n 1, 1) := by decide +kernel
theorem dX5_enter_50 : decode cX5_enter 50 = .ok (.lload 6, 2) := by decide +kernel
theorem dX5_enter_52 : decode cX5_enter 52 = .ok (.invokevirtual 155, 3) := by decide +kernel
theorem dX5_enter_55 : decode cX5_enter 55 = .ok (.ifCond .ne 6, 3) := by decide +kernel
theorem dX5_enter_58 : decode cX5_enter 58 = .ok (.bipush (-2), 2) := by decide +kernel
theorem dX5_enter_60 : decode cX5_enter 60 = .ok (.ireturn, 1) := by decide +kernel
theorem dX5_enter_61 : decode cX5_enter 61 = .ok (.aload_n 0, 1) := by decide +kernel
theorem dX5_enter_62 : decode cX5_enter 62 = .ok (.getfield 38, 3) := by decide +kernel
theorem dX5_enter_65 : decode cX5_enter 65 = .ok (.iload_n 1, 1) := by decide +kernel
theorem dX5_enter_66 : decode cX5_enter 66 = .ok (.lload 6, 2) := by decide +kernel
theorem dX5_enter_68 : decode cX5_enter 68 = .ok (.l2i, 1) := by decide +kernel
theorem dX5_enter_69 : decode cX5_enter 69 = .ok (.iastore, 1) := by decide +kernel
theorem dX5_enter_70 : decode cX5_enter 70 = .ok (.iconst 1, 1) := by decide +kernel
theorem dX5_enter_71 : decode cX5_enter 71 = .ok (.ireturn, 1) := by decide +kernel
theorem dX5_exact_0 : decode cX5_exact 0 = .ok (.aload_n 0, 1) := by decide +kernel
theorem dX5_exact_1 : decode cX5_exact 1 = .ok (.iload_n 1, 1) := by decide +kernel
theorem dX5_exact_2 : decode cX5_exact 2 = .ok (.invokevirtual 76, 3) := by decide +kernel
theorem dX5_exact_5 : decode cX5_exact 5 = .ok (.ifCond .ne 9, 3) := by decide +kernel
theorem dX5_exact_8 : decode cX5_exact 8 = .ok (.bipush (-2), 2) := by decide +kernel
theorem dX5_exact_10 : decode cX5_exact 10 = .ok (.invokestatic 129, 3) := by decide +kernel
theorem dX5_exact_13 : decode cX5_exact 13 = .ok (.lreturn, 1) := by decide +kernel
theorem dX5_exact_14 : decode cX5_exact 14 = .ok (.aload_n 0, 1) := by decide +kernel
theorem dX5_exact_15 : decode cX5_exact 15 = .ok (.iload_n 1, 1) := by decide +kernel
theorem dX5_exact_16 : decode cX5_exact 16 = .ok (.invokevirtual 165, 3) := by decide +kernel
theorem dX5_exact_19 : decode cX5_exact 19 = .ok (.aload_n 0, 1) := by decide +kernel
theorem dX5_exact_20 : decode cX5_exact 20 = .ok (.getfield 44, 3) := by decide +kernel
theorem dX5_exact_23 : decode cX5_exact 23 = .ok (.iload_n 1, 1) := by decide +kernel
theorem dX5_exact_24 : decode cX5_exact 24 = .ok (.laload, 1) := by decide +kernel
theorem dX5_exact_25 : decode cX5_exact 25 = .ok (.lreturn, 1) := by decide +kernel
theorem dX5_tuned_0 : decode cX5_tuned 0 = .ok (.aload_n 0, 1) := by decide +kernel
theorem dX5_tuned_1 : decode cX5_tuned 1 = .ok (.iload_n 1, 1) := by decide +kernel
theorem dX5_tuned_2 : decode cX5_tuned 2 = .ok (.invokevirtual 76, 3) := by decide +kernel
theorem dX5_tuned_5 : decode cX5_tuned 5 = .ok (.ifCond .ne 9, 3) := by decide +kernel
theorem dX5_tuned_8 : decode cX5_tuned 8 = .ok (.bipush (-2), 2) := by decide +kernel
theorem dX5_tuned_10 : decode cX5_tuned 10 = .ok (.invokestatic 129, 3) := by decide +kernel
theorem dX5_tuned_13 : decode cX5_tuned 13 = .ok (.lreturn, 1) := by decide +kernel
theorem dX5_tuned_14 : decode cX5_tuned 14 = .ok (.aload_n 0, 1) := by decide +kernel
theorem dX5_tuned_15 : decode cX5_tuned 15 = .ok (.iload_n 1, 1) := by decide +kernel
theorem dX5_tuned_16 : decode cX5_tuned 16 = .ok (.invokevirtual 165, 3) := by decide +kernel
theorem dX5_tuned_19 : decode cX5_tuned 19 = .ok (.aload_n 0, 1) := by decide +kernel
theorem dX5_tuned_20 : decode cX5_tuned 20 = .ok (.getfield 47, 3) := by decide +kernel
theorem dX5_tuned_23 : decode cX5_tuned 23 = .ok (.iload_n 1, 1) := by decide +kernel
theorem dX5_tuned_24 : decode cX5_tuned 24 = .ok (.laload, 1) := by decide +kernel
theorem dX5_tuned_25 : decode cX5_tuned 25 = .ok (.lreturn, 1) := by decide +kernel
theorem dX5_missNow_0 : decode cX5_missNow 0 = .ok (.aload_n 0, 1) := by decide +kernel
theorem dX5_missNow_1 : decode cX5_missNow 1 = .ok (.iload_n 1, 1) := by decide +kernel
theorem dX5_missNow_2 : decode cX5_missNow 2 = .ok (.invokevirtual 165, 3) := by decide +kernel
theorem dX5_missNow_5 : decode cX5_missNow 5 = .ok (.aload_n 0, 1) := by decide +kernel
theorem dX5_missNow_6 : decode cX5_missNow 6 = .ok (.getfield 47, 3) := by decide +kernel
theorem dX5_missNow_9 : decode cX5_missNow 9 = .ok (.iload_n 1, 1) := by decide +kernel
theorem dX5_missNow_10 : decode cX5_missNow 10 = .ok (.laload, 1) := by decide +kernel
theorem dX5_missNow_11 : decode cX5_missNow 11 = .ok (.aload_n 0, 1) := by decide +kernel
theorem dX5_missNow_12 : decode cX5_missNow 12 = .ok (.getfield 44, 3) := by decide +kernel
theorem dX5_missNow_15 : decode cX5_missNow 15 = .ok (.iload_n 1, 1) := by decide +kernel
theorem dX5_missNow_16 : decode cX5_missNow 16 = .ok (.laload, 1) := by decide +kernel
theorem dX5_missNow_17 : decode cX5_missNow 17 = .ok (.lsub, 1) := by decide +kernel
theorem dX5_missNow_18 : decode cX5_missNow 18 = .ok (.invokestatic 104, 3) := by decide +kernel
theorem dX5_missNow_21 : decode cX5_missNow 21 = .ok (.lreturn, 1) := by decide +kernel
theorem dX5_miss_0 : decode cX5_miss 0 = .ok (.aload_n 0, 1) := by decide +kernel
theorem dX5_miss_1 : decode cX5_miss 1 = .ok (.iload_n 1, 1) := by decide +kernel
theorem dX5_miss_2 : decode cX5_miss 2 = .ok (.invokevirtual 76, 3) := by decide +kernel
theorem dX5_miss_5 : decode cX5_miss 5 = .ok (.ifCond .eq 11, 3) := by decide +kernel
theorem dX5_miss_8 : decode cX5_miss 8 = .ok (.aload_n 0, 1) := by decide +kernel
theorem dX5_miss_9 : decode cX5_miss 9 = .ok (.iload_n 1, 1) := by decide +kernel
theorem dX5_miss_10 : decode cX5_miss 10 = .ok (.invokevirtual 169, 3) := by decide +kernel
theorem dX5_miss_13 : decode cX5_miss 13 = .ok (.goto 8, 3) := by decide +kernel
theorem dX5_miss_16 : decode cX5_miss 16 = .ok (.bipush (-2), 2) := by decide +kernel
theorem dX5_miss_18 : decode cX5_miss 18 = .ok (.invokestatic 129, 3) := by decide +kernel
theorem dX5_miss_21 : decode cX5_miss 21 = .ok (.lreturn, 1) := by decide +kernel
theorem dX5_leave_0 : decode cX5_leave 0 = .ok (.aload_n 0, 1) := by decide +kernel
theorem dX5_leave_1 : decode cX5_leave 1 = .ok (.iload_n 1, 1) := by decide +kernel
theorem dX5_leave_2 : decode cX5_leave 2 = .ok (.invokevirtual 76, 3) := by decide +kernel
theorem dX5_leave_5 : decode cX5_leave 5 = .ok (.ifCond .ne 5, 3) := by decide +kernel
theorem dX5_leave_8 : decode cX5_leave 8 = .ok (.dconst 0, 1) := by decide +kernel
theorem dX5_leave_9 : decode cX5_leave 9 = .ok (.dreturn, 1) := by decide +kernel
theorem dX5_leave_10 : decode cX5_leave 10 = .ok (.aload_n 0, 1) := by decide +kernel
theorem dX5_leave_11 : decode cX5_leave 11 = .ok (.iload_n 1, 1) := by decide +kernel
theorem dX5_leave_12 : decode cX5_leave 12 = .ok (.invokevirtual 165, 3) := by decide +kernel
theorem dX5_leave_15 : decode cX5_leave 15 = .ok (.aload_n 0, 1) := by decide +kernel
theorem dX5_leave_16 : decode cX5_leave 16 = .ok (.getfield 47, 3) := by decide +kernel
theorem dX5_leave_19 : decode cX5_leave 19 = .ok (.iload_n 1, 1) := by decide +kernel
theorem dX5_leave_20 : decode cX5_leave 20 = .ok (.laload, 1) := by decide +kernel
theorem dX5_leave_21 : decode cX5_leave 21 = .ok (.l2d, 1) := by decide +kernel
theorem dX5_leave_22 : decode cX5_leave 22 = .ok (.ldc2_w 163, 3) := by decide +kernel
theorem dX5_leave_25 : decode cX5_leave 25 = .ok (.ddiv, 1) := by decide +kernel
theorem dX5_leave_26 : decode cX5_leave 26 = .ok (.dreturn, 1) := by decide +kernel
theorem dX5_narrow_0 : decode cX5_narrow 0 = .ok (.aload_n 0, 1) := by decide +kernel
theorem dX5_narrow_1 : decode cX5_narrow 1 = .ok (.iload_n 1, 1) := by decide +kernel
theorem dX5_narrow_2 : decode cX5_narrow 2 = .ok (.invokevirtual 76, 3) := by decide +kernel
theorem dX5_narrow_5 : decode cX5_narrow 5 = .ok (.ifCond .ne 5, 3) := by decide +kernel
theorem dX5_narrow_8 : decode cX5_narrow 8 = .ok (.fconst 0, 1) := by decide +kernel
theorem dX5_narrow_9 : decode cX5_narrow 9 = .ok (.freturn, 1) := by decide +kernel
theorem dX5_narrow_10 : decode cX5_narrow 10 = .ok (.aload_n 0, 1) := by decide +kernel
theorem dX5_narrow_11 : decode cX5_narrow 11 = .ok (.iload_n 1, 1) := by decide +kernel
theorem dX5_narrow_12 : decode cX5_narrow 12 = .ok (.invokevirtual 165, 3) := by decide +kernel
theorem dX5_narrow_15 : decode cX5_narrow 15 = .ok (.aload_n 0, 1) := by decide +kernel
theorem dX5_narrow_16 : decode cX5_narrow 16 = .ok (.getfield 47, 3) := by decide +kernel
theorem dX5_narrow_19 : decode cX5_narrow 19 = .ok (.iload_n 1, 1) := by decide +kernel
theorem dX5_narrow_20 : decode cX5_narrow 20 = .ok (.laload, 1) := by decide +kernel
theorem dX5_narrow_21 : decode cX5_narrow 21 = .ok (.l2d, 1) := by decide +kernel
theorem dX5_narrow_22 : decode cX5_narrow 22 = .ok (.ldc2_w 163, 3) := by decide +kernel
theorem dX5_narrow_25 : decode cX5_narrow 25 = .ok (.ddiv, 1) := by decide +kernel
theorem dX5_narrow_26 : decode cX5_narrow 26 = .ok (.d2f, 1) := by decide +kernel
theorem dX5_narrow_27 : decode cX5_narrow 27 = .ok (.freturn, 1) := by decide +kernel
theorem dX5_rows_0 : decode cX5_rows 0 = .ok (.lconst 1, 1) := by decide +kernel
theorem dX5_rows_1 : decode cX5_rows 1 = .ok (.lstore_n 1, 1) := by decide +kernel
theorem dX5_rows_2 : decode cX5_rows 2 = .ok (.iconst 0, 1) := by decide +kernel
theorem dX5_rows_3 : decode cX5_rows 3 = .ok (.istore_n 3, 1) := by decide +kernel
theorem dX5_rows_4 : decode cX5_rows 4 = .ok (.iload_n 3, 1) := by decide +kernel
theorem dX5_rows_5 : decode cX5_rows 5 = .ok (.aload_n 0, 1) := by decide +kernel
theorem dX5_rows_6 : decode cX5_rows 6 = .ok (.getfield 68, 3) := by decide +kernel
theorem dX5_rows_9 : decode cX5_rows 9 = .ok (.if_icmp .ge 50, 3) := by decide +kernel
theorem dX5_rows_12 : decode cX5_rows 12 = .ok (.aload_n 0, 1) := by decide +kernel
theorem dX5_rows_13 : decode cX5_rows 13 = .ok (.getfield 7, 3) := by decide +kernel
theorem dX5_rows_16 : decode cX5_rows 16 = .ok (.iload_n 3, 1) := by decide +kernel
theorem dX5_rows_17 : decode cX5_rows 17 = .ok (.iaload, 1) := by decide +kernel
theorem dX5_rows_18 : decode cX5_rows 18 = .ok (.ifCond .ne 33, 3) := by decide +kernel
theorem dX5_rows_21 : decode cX5_rows 21 = .ok (.ldc2_w 172, 3) := by decide +kernel
theorem dX5_rows_24 : decode cX5_rows 24 = .ok (.lload_n 1, 1) := by decide +kernel
theorem dX5_rows_25 : decode cX5_rows 25 = .ok (.aload_n 0, 1) := by decide +kernel
theorem dX5_rows_26 : decode cX5_rows 26 = .ok (.getfield 26, 3) := by decide +kernel
theorem dX5_rows_29 : decode cX5_rows 29 = .ok (.iload_n 3, 1) := by decide +kernel
theorem dX5_rows_30 : decode cX5_rows 30 = .ok (.laload, 1) := by decide +kernel
theorem dX5_rows_31 : decode cX5_rows 31 = .ok (.aload_n 0, 1) := by decide +kernel
theorem dX5_rows_32 : decode cX5_rows 32 = .ok (.getfield 22, 3) := by decide +kernel
theorem dX5_rows_35 : decode cX5_rows 35 = .ok (.iload_n 3, 1) := by decide +kernel
theorem dX5_rows_36 : decode cX5_rows 36 = .ok (.laload, 1) := by decide +kernel
theorem dX5_rows_37 : decode cX5_rows 37 = .ok (.lsub, 1) := by decide +kernel
theorem dX5_rows_38 : decode cX5_rows 38 = .ok (.ldc2_w 150, 3) := by decide +kernel
theorem dX5_rows_41 : decode cX5_rows 41 = .ok (.ldiv, 1) := by decide +kernel
theorem dX5_rows_42 : decode cX5_rows 42 = .ok (.lconst 1, 1) := by decide +kernel
theorem dX5_rows_43 : decode cX5_rows 43 = .ok (.ladd, 1) := by decide +kernel
theorem dX5_rows_44 : decode cX5_rows 44 = .ok (.lmul, 1) := by decide +kernel
theorem dX5_rows_45 : decode cX5_rows 45 = .ok (.invokestatic 99, 3) := by decide +kernel
theorem dX5_rows_48 : decode cX5_rows 48 = .ok (.goto 4, 3) := by decide +kernel
theorem dX5_rows_51 : decode cX5_rows 51 = .ok (.lload_n 1, 1) := by decide +kernel
theorem dX5_rows_52 : decode cX5_rows 52 = .ok (.lstore_n 1, 1) := by decide +kernel
theorem dX5_rows_53 : decode cX5_rows 53 = .ok (.iinc 3 1, 3) := by decide +kernel
theorem dX5_rows_56 : decode cX5_rows 56 = .ok (.goto (-52), 3) := by decide +kernel
theorem dX5_rows_59 : decode cX5_rows 59 = .ok (.lload_n 1, 1) := by decide +kernel
theorem dX5_rows_60 : decode cX5_rows 60 = .ok (.l2i, 1) := by decide +kernel
theorem dX5_rows_61 : decode cX5_rows 61 = .ok (.ireturn, 1) := by decide +kernel
theorem dX5_keep_0 : decode cX5_keep 0 = .ok (.iconst 0, 1) := by decide +kernel
theorem dX5_keep_1 : decode cX5_keep 1 = .ok (.istore_n 1, 1) := by decide +kernel
theorem dX5_keep_2 : decode cX5_keep 2 = .ok (.iload_n 1, 1) := by decide +kernel
theorem dX5_keep_3 : decode cX5_keep 3 = .ok (.aload_n 0, 1) := by decide +kernel
theorem dX5_keep_4 : decode cX5_keep 4 = .ok (.getfield 68, 3) := by decide +kernel
theorem dX5_keep_7 : decode cX5_keep 7 = .ok (.if_icmp .ge 51, 3) := by decide +kernel
theorem dX5_keep_10 : decode cX5_keep 10 = .ok (.aload_n 0, 1) := by decide +kernel
theorem dX5_keep_11 : decode cX5_keep 11 = .ok (.getfield 50, 3) := by decide +kernel
theorem dX5_keep_14 : decode cX5_keep 14 = .ok (.iload_n 1, 1) := by decide +kernel
theorem dX5_keep_15 : decode cX5_keep 15 = .ok (.aload_n 0, 1) := by decide +kernel
theorem dX5_keep_16 : decode cX5_keep 16 = .ok (.getfield 38, 3) := by decide +kernel
theorem dX5_keep_19 : decode cX5_keep 19 = .ok (.iload_n 1, 1) := by decide +kernel
theorem dX5_keep_20 : decode cX5_keep 20 = .ok (.iaload, 1) := by decide +kernel
theorem dX5_keep_21 : decode cX5_keep 21 = .ok (.iastore, 1) := by decide +kernel
theorem dX5_keep_22 : decode cX5_keep 22 = .ok (.aload_n 0, 1) := by decide +kernel
theorem dX5_keep_23 : decode cX5_keep 23 = .ok (.getfield 38, 3) := by decide +kernel
theorem dX5_keep_26 : decode cX5_keep 26 = .ok (.iload_n 1, 1) := by decide +kernel
theorem dX5_keep_27 : decode cX5_keep 27 = .ok (.aload_n 0, 1) := by decide +kernel
theorem dX5_keep_28 : decode cX5_keep 28 = .ok (.getfield 7, 3) := by decide +kernel
theorem dX5_keep_31 : decode cX5_keep 31 = .ok (.iload_n 1, 1) := by decide +kernel
theorem dX5_keep_32 : decode cX5_keep 32 = .ok (.iaload, 1) := by decide +kernel
theorem dX5_keep_33 : decode cX5_keep 33 = .ok (.ifCond .ne 12, 3) := by decide +kernel
theorem dX5_keep_36 : decode cX5_keep 36 = .ok (.aload_n 0, 1) := by decide +kernel
theorem dX5_keep_37 : decode cX5_keep 37 = .ok (.getfield 13, 3) := by decide +kernel
theorem dX5_keep_40 : decode cX5_keep 40 = .ok (.iload_n 1, 1) := by decide +kernel
theorem dX5_keep_41 : decode cX5_keep 41 = .ok (.iaload, 1) := by decide +kernel
theorem dX5_keep_42 : decode cX5_keep 42 = .ok (.goto 9, 3) := by decide +kernel
theorem dX5_keep_45 : decode cX5_keep 45 = .ok (.aload_n 0, 1) := by decide +kernel
theorem dX5_keep_46 : decode cX5_keep 46 = .ok (.getfield 38, 3) := by decide +kernel
theorem dX5_keep_49 : decode cX5_keep 49 = .ok (.iload_n 1, 1) := by decide +kernel
theorem dX5_keep_50 : decode cX5_keep 50 = .ok (.iaload, 1) := by decide +kernel
theorem dX5_keep_51 : decode cX5_keep 51 = .ok (.iastore, 1) := by decide +kernel
theorem dX5_keep_52 : decode cX5_keep 52 = .ok (.iinc 1 1, 3) := by decide +kernel
theorem dX5_keep_55 : decode cX5_keep 55 = .ok (.goto (-53), 3) := by decide +kernel
theorem dX5_keep_58 : decode cX5_keep 58 = .ok (.return_, 1) := by decide +kernel
theorem dX5_restore_0 : decode cX5_restore 0 = .ok (.iconst 0, 1) := by decide +kernel
theorem dX5_restore_1 : decode cX5_restore 1 = .ok (.istore_n 1, 1) := by decide +kernel
theorem dX5_restore_2 : decode cX5_restore 2 = .ok (.iload_n 1, 1) := by decide +kernel
theorem dX5_restore_3 : decode cX5_restore 3 = .ok (.aload_n 0, 1) := by decide +kernel
theorem dX5_restore_4 : decode cX5_restore 4 = .ok (.getfield 68, 3) := by decide +kernel
theorem dX5_restore_7 : decode cX5_restore 7 = .ok (.if_icmp .ge 21, 3) := by decide +kernel
theorem dX5_restore_10 : decode cX5_restore 10 = .ok (.aload_n 0, 1) := by decide +kernel
theorem dX5_restore_11 : decode cX5_restore 11 = .ok (.getfield 38, 3) := by decide +kernel
theorem dX5_restore_14 : decode cX5_restore 14 = .ok (.iload_n 1, 1) := by decide +kernel
theorem dX5_restore_15 : decode cX5_restore 15 = .ok (.aload_n 0, 1) := by decide +kernel
theorem dX5_restore_16 : decode cX5_restore 16 = .ok (.getfield 50, 3) := by decide +kernel
theorem dX5_restore_19 : decode cX5_restore 19 = .ok (.iload_n 1, 1) := by decide +kernel
theorem dX5_restore_20 : decode cX5_restore 20 = .ok (.iaload, 1) := by decide +kernel
theorem dX5_restore_21 : decode cX5_restore 21 = .ok (.iastore, 1) := by decide +kernel
theorem dX5_restore_22 : decode cX5_restore 22 = .ok (.iinc 1 1, 3) := by decide +kernel
theorem dX5_restore_25 : decode cX5_restore 25 = .ok (.goto (-23), 3) := by decide +kernel
theorem dX5_restore_28 : decode cX5_restore 28 = .ok (.return_, 1) := by decide +kernel
theorem dX5_goesOn_0 : decode cX5_goesOn 0 = .ok (.aload_n 0, 1) := by decide +kernel
theorem dX5_goesOn_1 : decode cX5_goesOn 1 = .ok (.getfield 68, 3) := by decide +kernel
theorem dX5_goesOn_4 : decode cX5_goesOn 4 = .ok (.iconst 1, 1) := by decide +kernel
theorem dX5_goesOn_5 : decode cX5_goesOn 5 = .ok (.isub, 1) := by decide +kernel
theorem dX5_goesOn_6 : decode cX5_goesOn 6 = .ok (.istore_n 1, 1) := by decide +kernel
theorem dX5_goesOn_7 : decode cX5_goesOn 7 = .ok (.iload_n 1, 1) := by decide +kernel
theorem dX5_goesOn_8 : decode cX5_goesOn 8 = .ok (.ifCond .lt 63, 3) := by decide +kernel
theorem dX5_goesOn_11 : decode cX5_goesOn 11 = .ok (.aload_n 0, 1) := by decide +kernel
theorem dX5_goesOn_12 : decode cX5_goesOn 12 = .ok (.getfield 7, 3) := by decide +kernel
theorem dX5_goesOn_15 : decode cX5_goesOn 15 = .ok (.iload_n 1, 1) := by decide +kernel
theorem dX5_goesOn_16 : decode cX5_goesOn 16 = .ok (.iaload, 1) := by decide +kernel
theorem dX5_goesOn_17 : decode cX5_goesOn 17 = .ok (.ifCond .ne 18, 3) := by decide +kernel
theorem dX5_goesOn_20 : decode cX5_goesOn 20 = .ok (.aload_n 0, 1) := by decide +kernel
theorem dX5_goesOn_21 : decode cX5_goesOn 21 = .ok (.getfield 38, 3) := by decide +kernel
theorem dX5_goesOn_24 : decode cX5_goesOn 24 = .ok (.iload_n 1, 1) := by decide +kernel
theorem dX5_goesOn_25 : decode cX5_goesOn 25 = .ok (.iaload, 1) := by decide +kernel
theorem dX5_goesOn_26 : decode cX5_goesOn 26 = .ok (.aload_n 0, 1) := by decide +kernel
theorem dX5_goesOn_27 : decode cX5_goesOn 27 = .ok (.getfield 16, 3) := by decide +kernel
theorem dX5_goesOn_30 : decode cX5_goesOn 30 = .ok (.iload_n 1, 1) := by decide +kernel
theorem dX5_goesOn_31 : decode cX5_goesOn 31 = .ok (.iaload, 1) := by decide +kernel
theorem dX5_goesOn_32 : decode cX5_goesOn 32 = .ok (.if_icmp .ne 39, 3) := by decide +kernel
theorem dX5_goesOn_35 : decode cX5_goesOn 35 = .ok (.aload_n 0, 1) := by decide +kernel
theorem dX5_goesOn_36 : decode cX5_goesOn 36 = .ok (.getfield 38, 3) := by decide +kernel
theorem dX5_goesOn_39 : decode cX5_goesOn 39 = .ok (.iload_n 1, 1) := by decide +kernel
theorem dX5_goesOn_40 : decode cX5_goesOn 40 = .ok (.aload_n 0, 1) := by decide +kernel
theorem dX5_goesOn_41 : decode cX5_goesOn 41 = .ok (.getfield 7, 3) := by decide +kernel
theorem dX5_goesOn_44 : decode cX5_goesOn 44 = .ok (.iload_n 1, 1) := by decide +kernel
theorem dX5_goesOn_45 : decode cX5_goesOn 45 = .ok (.iaload, 1) := by decide +kernel
theorem dX5_goesOn_46 : decode cX5_goesOn 46 = .ok (.ifCond .ne 12, 3) := by decide +kernel
theorem dX5_goesOn_49 : decode cX5_goesOn 49 = .ok (.aload_n 0, 1) := by decide +kernel
theorem dX5_goesOn_50 : decode cX5_goesOn 50 = .ok (.getfield 13, 3) := by decide +kernel
theorem dX5_goesOn_53 : decode cX5_goesOn 53 = .ok (.iload_n 1, 1) := by decide +kernel
theorem dX5_goesOn_54 : decode cX5_goesOn 54 = .ok (.iaload, 1) := by decide +kernel
theorem dX5_goesOn_55 : decode cX5_goesOn 55 = .ok (.goto 9, 3) := by decide +kernel
theorem dX5_goesOn_58 : decode cX5_goesOn 58 = .ok (.aload_n 0, 1) := by decide +kernel
theorem dX5_goesOn_59 : decode cX5_goesOn 59 = .ok (.getfield 38, 3) := by decide +kernel
theorem dX5_goesOn_62 : decode cX5_goesOn 62 = .ok (.iload_n 1, 1) := by decide +kernel
theorem dX5_goesOn_63 : decode cX5_goesOn 63 = .ok (.iaload, 1) := by decide +kernel
theorem dX5_goesOn_64 : decode cX5_goesOn 64 = .ok (.iastore, 1) := by decide +kernel
theorem dX5_goesOn_65 : decode cX5_goesOn 65 = .ok (.iinc 1 (-1), 3) := by decide +kernel
theorem dX5_goesOn_68 : decode cX5_goesOn 68 = .ok (.goto (-61), 3) := by decide +kernel
theorem dX5_goesOn_71 : decode cX5_goesOn 71 = .ok (.iload_n 1, 1) := by decide +kernel
theorem dX5_goesOn_72 : decode cX5_goesOn 72 = .ok (.ifCond .ge 5, 3) := by decide +kernel
theorem dX5_goesOn_75 : decode cX5_goesOn 75 = .ok (.iconst 0, 1) := by decide +kernel
theorem dX5_goesOn_76 : decode cX5_goesOn 76 = .ok (.ireturn, 1) := by decide +kernel
theorem dX5_goesOn_77 : decode cX5_goesOn 77 = .ok (.aload_n 0, 1) := by decide +kernel
theorem dX5_goesOn_78 : decode cX5_goesOn 78 = .ok (.getfield 38, 3) := by decide +kernel
theorem dX5_goesOn_81 : decode cX5_goesOn 81 = .ok (.iload_n 1, 1) := by decide +kernel
theorem dX5_goesOn_82 : decode cX5_goesOn 82 = .ok (.dup2, 1) := by decide +kernel
theorem dX5_goesOn_83 : decode cX5_goesOn 83 = .ok (.iaload, 1) := by decide +kernel
theorem dX5_goesOn_84 : decode cX5_goesOn 84 = .ok (.sipush 4096, 3) := by decide +kernel
theorem dX5_goesOn_87 : decode cX5_goesOn 87 = .ok (.iadd, 1) := by decide +kernel
theorem dX5_goesOn_88 : decode cX5_goesOn 88 = .ok (.iastore, 1) := by decide +kernel
theorem dX5_goesOn_89 : decode cX5_goesOn 89 = .ok (.iconst 1, 1) := by decide +kernel
theorem dX5_goesOn_90 : decode cX5_goesOn 90 = .ok (.ireturn, 1) := by decide +kernel
theorem dX5_worst_0 : decode cX5_worst 0 = .ok (.aload_n 0, 1) := by decide +kernel
theorem dX5_worst_1 : decode cX5_worst 1 = .ok (.iload_n 1, 1) := by decide +kernel
theorem dX5_worst_2 : decode cX5_worst 2 = .ok (.invokevirtual 76, 3) := by decide +kernel
theorem dX5_worst_5 : decode cX5_worst 5 = .ok (.ifCond .ne 9, 3) := by decide +kernel
theorem dX5_worst_8 : decode cX5_worst 8 = .ok (.bipush (-2), 2) := by decide +kernel
theorem dX5_worst_10 : decode cX5_worst 10 = .ok (.invokestatic 129, 3) := by decide +kernel
theorem dX5_worst_13 : decode cX5_worst 13 = .ok (.lreturn, 1) := by decide +kernel
theorem dX5_worst_14 : decode cX5_worst 14 = .ok (.aload_n 0, 1) := by decide +kernel
theorem dX5_worst_15 : decode cX5_worst 15 = .ok (.invokevirtual 174, 3) := by decide +kernel
theorem dX5_worst_18 : decode cX5_worst 18 = .ok (.sipush 4000, 3) := by decide +kernel
theorem dX5_worst_21 : decode cX5_worst 21 = .ok (.if_icmp .le 9, 3) := by decide +kernel
theorem dX5_worst_24 : decode cX5_worst 24 = .ok (.bipush (-5), 2) := by decide +kernel
theorem dX5_worst_26 : decode cX5_worst 26 = .ok (.invokestatic 129, 3) := by decide +kernel
theorem dX5_worst_29 : decode cX5_worst 29 = .ok (.lreturn, 1) := by decide +kernel
theorem dX5_worst_30 : decode cX5_worst 30 = .ok (.aload_n 0, 1) := by decide +kernel
theorem dX5_worst_31 : decode cX5_worst 31 = .ok (.invokevirtual 178, 3) := by decide +kernel
theorem dX5_worst_34 : decode cX5_worst 34 = .ok (.ldc2_w 181, 3) := by decide +kernel
theorem dX5_worst_37 : decode cX5_worst 37 = .ok (.lstore_n 2, 1) := by decide +kernel
theorem dX5_worst_38 : decode cX5_worst 38 = .ok (.iconst 1, 1) := by decide +kernel
theorem dX5_worst_39 : decode cX5_worst 39 = .ok (.istore 4, 2) := by decide +kernel
theorem dX5_worst_41 : decode cX5_worst 41 = .ok (.iload 4, 2) := by decide +kernel
theorem dX5_worst_43 : decode cX5_worst 43 = .ok (.ifCond .eq 90, 3) := by decide +kernel
theorem dX5_worst_46 : decode cX5_worst 46 = .ok (.aload_n 0, 1) := by decide +kernel
theorem dX5_worst_47 : decode cX5_worst 47 = .ok (.iload_n 1, 1) := by decide +kernel
theorem dX5_worst_48 : decode cX5_worst 48 = .ok (.invokevirtual 169, 3) := by decide +kernel
theorem dX5_worst_51 : decode cX5_worst 51 = .ok (.lstore 5, 2) := by decide +kernel
theorem dX5_worst_53 : decode cX5_worst 53 = .ok (.lload 5, 2) := by decide +kernel
theorem dX5_worst_55 : decode cX5_worst 55 = .ok (.lload_n 2, 1) := by decide +kernel
theorem dX5_worst_56 : decode cX5_worst 56 = .ok (.lcmp, 1) := by decide +kernel
theorem dX5_worst_57 : decode cX5_worst 57 = .ok (.ifCond .le 67, 3) := by decide +kernel
theorem dX5_worst_60 : decode cX5_worst 60 = .ok (.lload 5, 2) := by decide +kernel
theorem dX5_worst_62 : decode cX5_worst 62 = .ok (.lstore_n 2, 1) := by decide +kernel
theorem dX5_worst_63 : decode cX5_worst 63 = .ok (.iconst 0, 1) := by decide +kernel
theorem dX5_worst_64 : decode cX5_worst 64 = .ok (.istore 7, 2) := by decide +kernel
theorem dX5_worst_66 : decode cX5_worst 66 = .ok (.iload 7, 2) := by decide +kernel
theorem dX5_worst_68 : decode cX5_worst 68 = .ok (.bipush 16, 2) := by decide +kernel
theorem dX5_worst_70 : decode cX5_worst 70 = .ok (.if_icmp .ge 54, 3) := by decide +kernel
theorem dX5_worst_73 : decode cX5_worst 73 = .ok (.aload_n 0, 1) := by decide +kernel
theorem dX5_worst_74 : decode cX5_worst 74 = .ok (.getfield 53, 3) := by decide +kernel
theorem dX5_worst_77 : decode cX5_worst 77 = .ok (.iload 7, 2) := by decide +kernel
theorem dX5_worst_79 : decode cX5_worst 79 = .ok (.iload 7, 2) := by decide +kernel
theorem dX5_worst_81 : decode cX5_worst 81 = .ok (.aload_n 0, 1) := by decide +kernel
theorem dX5_worst_82 : decode cX5_worst 82 = .ok (.getfield 68, 3) := by decide +kernel
theorem dX5_worst_85 : decode cX5_worst 85 = .ok (.if_icmp .ge 17, 3) := by decide +kernel
theorem dX5_worst_88 : decode cX5_worst 88 = .ok (.aload_n 0, 1) := by decide +kernel
theorem dX5_worst_89 : decode cX5_worst 89 = .ok (.getfield 7, 3) := by decide +kernel
theorem dX5_worst_92 : decode cX5_worst 92 = .ok (.iload 7, 2) := by decide +kernel
theorem dX5_worst_94 : decode cX5_worst 94 = .ok (.iaload, 1) := by decide +kernel
theorem dX5_worst_95 : decode cX5_worst 95 = .ok (.ifCond .ne 7, 3) := by decide +kernel
theorem dX5_worst_98 : decode cX5_worst 98 = .ok (.iconst 1, 1) := by decide +kernel
theorem dX5_worst_99 : decode cX5_worst 99 = .ok (.goto 4, 3) := by decide +kernel
theorem dX5_worst_102 : decode cX5_worst 102 = .ok (.iconst 0, 1) := by decide +kernel
theorem dX5_worst_103 : decode cX5_worst 103 = .ok (.bastore, 1) := by decide +kernel
theorem dX5_worst_104 : decode cX5_worst 104 = .ok (.aload_n 0, 1) := by decide +kernel
theorem dX5_worst_105 : decode cX5_worst 105 = .ok (.getfield 57, 3) := by decide +kernel
theorem dX5_worst_108 : decode cX5_worst 108 = .ok (.iload 7, 2) := by decide +kernel
theorem dX5_worst_110 : decode cX5_worst 110 = .ok (.aload_n 0, 1) := by decide +kernel
theorem dX5_worst_111 : decode cX5_worst 111 = .ok (.getfield 38, 3) := by decide +kernel
theorem dX5_worst_114 : decode cX5_worst 114 = .ok (.iload 7, 2) := by decide +kernel
theorem dX5_worst_116 : decode cX5_worst 116 = .ok (.iaload, 1) := by decide +kernel
theorem dX5_worst_117 : decode cX5_worst 117 = .ok (.iastore, 1) := by decide +kernel
theorem dX5_worst_118 : decode cX5_worst 118 = .ok (.iinc 7 1, 3) := by decide +kernel
theorem dX5_worst_121 : decode cX5_worst 121 = .ok (.goto (-55), 3) := by decide +kernel
theorem dX5_worst_124 : decode cX5_worst 124 = .ok (.aload_n 0, 1) := by decide +kernel
theorem dX5_worst_125 : decode cX5_worst 125 = .ok (.invokevirtual 183, 3) := by decide +kernel
theorem dX5_worst_128 : decode cX5_worst 128 = .ok (.istore 4, 2) := by decide +kernel
theorem dX5_worst_130 : decode cX5_worst 130 = .ok (.goto (-89), 3) := by decide +kernel
theorem dX5_worst_133 : decode cX5_worst 133 = .ok (.aload_n 0, 1) := by decide +kernel
theorem dX5_worst_134 : decode cX5_worst 134 = .ok (.invokevirtual 187, 3) := by decide +kernel
theorem dX5_worst_137 : decode cX5_worst 137 = .ok (.lload_n 2, 1) := by decide +kernel
theorem dX5_worst_138 : decode cX5_worst 138 = .ok (.lreturn, 1) := by decide +kernel
theorem dX5_worstAt_0 : decode cX5_worstAt 0 = .ok (.iload_n 1, 1) := by decide +kernel
theorem dX5_worstAt_1 : decode cX5_worstAt 1 = .ok (.i2l, 1) := by decide +kernel
theorem dX5_worstAt_2 : decode cX5_worstAt 2 = .ok (.lconst 0, 1) := by decide +kernel
theorem dX5_worstAt_3 : decode cX5_worstAt 3 = .ok (.ldc2_w 190, 3) := by decide +kernel
theorem dX5_worstAt_6 : decode cX5_worstAt 6 = .ok (.invokestatic 72, 3) := by decide +kernel
theorem dX5_worstAt_9 : decode cX5_worstAt 9 = .ok (.ifCond .eq 21, 3) := by decide +kernel
theorem dX5_worstAt_12 : decode cX5_worstAt 12 = .ok (.aload_n 0, 1) := by decide +kernel
theorem dX5_worstAt_13 : decode cX5_worstAt 13 = .ok (.getfield 53, 3) := by decide +kernel
theorem dX5_worstAt_16 : decode cX5_worstAt 16 = .ok (.iload_n 1, 1) := by decide +kernel
theorem dX5_worstAt_17 : decode cX5_worstAt 17 = .ok (.baload, 1) := by decide +kernel
theorem dX5_worstAt_18 : decode cX5_worstAt 18 = .ok (.ifCond .eq 12, 3) := by decide +kernel
theorem dX5_worstAt_21 : decode cX5_worstAt 21 = .ok (.aload_n 0, 1) := by decide +kernel
theorem dX5_worstAt_22 : decode cX5_worstAt 22 = .ok (.getfield 57, 3) := by decide +kernel
theorem dX5_worstAt_25 : decode cX5_worstAt 25 = .ok (.iload_n 1, 1) := by decide +kernel
theorem dX5_worstAt_26 : decode cX5_worstAt 26 = .ok (.iaload, 1) := by decide +kernel
theorem dX5_worstAt_27 : decode cX5_worstAt 27 = .ok (.goto 5, 3) := by decide +kernel
theorem dX5_worstAt_30 : decode cX5_worstAt 30 = .ok (.bipush (-2), 2) := by decide +kernel
theorem dX5_worstAt_32 : decode cX5_worstAt 32 = .ok (.ireturn, 1) := by decide +kernel
theorem dX5_above_0 : decode cX5_above 0 = .ok (.aload_n 0, 1) := by decide +kernel
theorem dX5_above_1 : decode cX5_above 1 = .ok (.iload_n 1, 1) := by decide +kernel
theorem dX5_above_2 : decode cX5_above 2 = .ok (.invokevirtual 76, 3) := by decide +kernel
theorem dX5_above_5 : decode cX5_above 5 = .ok (.ifCond .ne 6, 3) := by decide +kernel
theorem dX5_above_8 : decode cX5_above 8 = .ok (.bipush (-2), 2) := by decide +kernel
theorem dX5_above_10 : decode cX5_above 10 = .ok (.ireturn, 1) := by decide +kernel
theorem dX5_above_11 : decode cX5_above 11 = .ok (.aload_n 0, 1) := by decide +kernel
theorem dX5_above_12 : decode cX5_above 12 = .ok (.invokevirtual 174, 3) := by decide +kernel
theorem dX5_above_15 : decode cX5_above 15 = .ok (.sipush 4000, 3) := by decide +kernel
theorem dX5_above_18 : decode cX5_above 18 = .ok (.if_icmp .le 6, 3) := by decide +kernel
theorem dX5_above_21 : decode cX5_above 21 = .ok (.bipush (-5), 2) := by decide +kernel
theorem dX5_above_23 : decode cX5_above 23 = .ok (.ireturn, 1) := by decide +kernel
theorem dX5_above_24 : decode cX5_above 24 = .ok (.aload_n 0, 1) := by decide +kernel
theorem dX5_above_25 : decode cX5_above 25 = .ok (.invokevirtual 178, 3) := by decide +kernel
theorem dX5_above_28 : decode cX5_above 28 = .ok (.iconst 0, 1) := by decide +kernel
theorem dX5_above_29 : decode cX5_above 29 = .ok (.istore 4, 2) := by decide +kernel
theorem dX5_above_31 : decode cX5_above 31 = .ok (.iconst 1, 1) := by decide +kernel
theorem dX5_above_32 : decode cX5_above 32 = .ok (.istore 5, 2) := by decide +kernel
theorem dX5_above_34 : decode cX5_above 34 = .ok (.iload 5, 2) := by decide +kernel
theorem dX5_above_36 : decode cX5_above 36 = .ok (.ifCond .eq 32, 3) := by decide +kernel
theorem dX5_above_39 : decode cX5_above 39 = .ok (.iload 4, 2) := by decide +kernel
theorem dX5_above_41 : decode cX5_above 41 = .ok (.aload_n 0, 1) := by decide +kernel
theorem dX5_above_42 : decode cX5_above 42 = .ok (.iload_n 1, 1) := by decide +kernel
theorem dX5_above_43 : decode cX5_above 43 = .ok (.invokevirtual 169, 3) := by decide +kernel
theorem dX5_above_46 : decode cX5_above 46 = .ok (.lload_n 2, 1) := by decide +kernel
theorem dX5_above_47 : decode cX5_above 47 = .ok (.lcmp, 1) := by decide +kernel
theorem dX5_above_48 : decode cX5_above 48 = .ok (.ifCond .le 7, 3) := by decide +kernel
theorem dX5_above_51 : decode cX5_above 51 = .ok (.iconst 1, 1) := by decide +kernel
theorem dX5_above_52 : decode cX5_above 52 = .ok (.goto 4, 3) := by decide +kernel
theorem dX5_above_55 : decode cX5_above 55 = .ok (.iconst 0, 1) := by decide +kernel
theorem dX5_above_56 : decode cX5_above 56 = .ok (.iadd, 1) := by decide +kernel
theorem dX5_above_57 : decode cX5_above 57 = .ok (.istore 4, 2) := by decide +kernel
theorem dX5_above_59 : decode cX5_above 59 = .ok (.aload_n 0, 1) := by decide +kernel
theorem dX5_above_60 : decode cX5_above 60 = .ok (.invokevirtual 183, 3) := by decide +kernel
theorem dX5_above_63 : decode cX5_above 63 = .ok (.istore 5, 2) := by decide +kernel
theorem dX5_above_65 : decode cX5_above 65 = .ok (.goto (-31), 3) := by decide +kernel
theorem dX5_above_68 : decode cX5_above 68 = .ok (.aload_n 0, 1) := by decide +kernel
theorem dX5_above_69 : decode cX5_above 69 = .ok (.invokevirtual 187, 3) := by decide +kernel
theorem dX5_above_72 : decode cX5_above 72 = .ok (.iload 4, 2) := by decide +kernel
theorem dX5_above_74 : decode cX5_above 74 = .ok (.ireturn, 1) := by decide +kernel
theorem dX5_works_0 : decode cX5_works 0 = .ok (.iconst 0, 1) := by decide +kernel
theorem dX5_works_1 : decode cX5_works 1 = .ok (.istore_n 1, 1) := by decide +kernel
theorem dX5_works_2 : decode cX5_works 2 = .ok (.iconst 0, 1) := by decide +kernel
theorem dX5_works_3 : decode cX5_works 3 = .ok (.istore_n 2, 1) := by decide +kernel
theorem dX5_works_4 : decode cX5_works 4 = .ok (.iload_n 2, 1) := by decide +kernel
theorem dX5_works_5 : decode cX5_works 5 = .ok (.aload_n 0, 1) := by decide +kernel
theorem dX5_works_6 : decode cX5_works 6 = .ok (.getfield 68, 3) := by decide +kernel
theorem dX5_works_9 : decode cX5_works 9 = .ok (.if_icmp .ge 27, 3) := by decide +kernel
theorem dX5_works_12 : decode cX5_works 12 = .ok (.iload_n 1, 1) := by decide +kernel
theorem dX5_works_13 : decode cX5_works 13 = .ok (.aload_n 0, 1) := by decide +kernel
theorem dX5_works_14 : decode cX5_works 14 = .ok (.getfield 7, 3) := by decide +kernel
theorem dX5_works_17 : decode cX5_works 17 = .ok (.iload_n 2, 1) := by decide +kernel
theorem dX5_works_18 : decode cX5_works 18 = .ok (.iaload, 1) := by decide +kernel
theorem dX5_works_19 : decode cX5_works 19 = .ok (.iconst 1, 1) := by decide +kernel
theorem dX5_works_20 : decode cX5_works 20 = .ok (.if_icmp .le 7, 3) := by decide +kernel
theorem dX5_works_23 : decode cX5_works 23 = .ok (.iconst 1, 1) := by decide +kernel
theorem dX5_works_24 : decode cX5_works 24 = .ok (.goto 4, 3) := by decide +kernel
theorem dX5_works_27 : decode cX5_works 27 = .ok (.iconst 0, 1) := by decide +kernel
theorem dX5_works_28 : decode cX5_works 28 = .ok (.iadd, 1) := by decide +kernel
theorem dX5_works_29 : decode cX5_works 29 = .ok (.istore_n 1, 1) := by decide +kernel
theorem dX5_works_30 : decode cX5_works 30 = .ok (.iinc 2 1, 3) := by decide +kernel
theorem dX5_works_33 : decode cX5_works 33 = .ok (.goto (-29), 3) := by decide +kernel
theorem dX5_works_36 : decode cX5_works 36 = .ok (.iload_n 1, 1) := by decide +kernel
theorem dX5_works_37 : decode cX5_works 37 = .ok (.ireturn, 1) := by decide +kernel
theorem dX5_save_0 : decode cX5_save 0 = .ok (.iconst 0, 1) := by decide +kernel
theorem dX5_save_1 : decode cX5_save 1 = .ok (.istore_n 2, 1) := by decide +kernel
theorem dX5_save_2 : decode cX5_save 2 = .ok (.iload_n 2, 1) := by decide +kernel
theorem dX5_save_3 : decode cX5_save 3 = .ok (.aload_n 0, 1) := by decide +kernel
theorem dX5_save_4 : decode cX5_save 4 = .ok (.getfield 68, 3) := by decide +kernel
theorem dX5_save_7 : decode cX5_save 7 = .ok (.if_icmp .ge 18, 3) := by decide +kernel
theorem dX5_save_10 : decode cX5_save 10 = .ok (.aload_n 1, 1) := by decide +kernel
theorem dX5_save_11 : decode cX5_save 11 = .ok (.iload_n 2, 1) := by decide +kernel
theorem dX5_save_12 : decode cX5_save 12 = .ok (.aload_n 0, 1) := by decide +kernel
theorem dX5_save_13 : decode cX5_save 13 = .ok (.getfield 29, 3) := by decide +kernel
theorem dX5_save_16 : decode cX5_save 16 = .ok (.iload_n 2, 1) := by decide +kernel
theorem dX5_save_17 : decode cX5_save 17 = .ok (.iaload, 1) := by decide +kernel
theorem dX5_save_18 : decode cX5_save 18 = .ok (.iastore, 1) := by decide +kernel
theorem dX5_save_19 : decode cX5_save 19 = .ok (.iinc 2 1, 3) := by decide +kernel
theorem dX5_save_22 : decode cX5_save 22 = .ok (.goto (-20), 3) := by decide +kernel
theorem dX5_save_25 : decode cX5_save 25 = .ok (.return_, 1) := by decide +kernel
theorem dX5_take_0 : decode cX5_take 0 = .ok (.iconst 0, 1) := by decide +kernel
theorem dX5_take_1 : decode cX5_take 1 = .ok (.istore_n 2, 1) := by decide +kernel
theorem dX5_take_2 : decode cX5_take 2 = .ok (.iload_n 2, 1) := by decide +kernel
theorem dX5_take_3 : decode cX5_take 3 = .ok (.aload_n 0, 1) := by decide +kernel
theorem dX5_take_4 : decode cX5_take 4 = .ok (.getfield 68, 3) := by decide +kernel
theorem dX5_take_7 : decode cX5_take 7 = .ok (.if_icmp .ge 18, 3) := by decide +kernel
theorem dX5_take_10 : decode cX5_take 10 = .ok (.aload_n 0, 1) := by decide +kernel
theorem dX5_take_11 : decode cX5_take 11 = .ok (.getfield 29, 3) := by decide +kernel
theorem dX5_take_14 : decode cX5_take 14 = .ok (.iload_n 2, 1) := by decide +kernel
theorem dX5_take_15 : decode cX5_take 15 = .ok (.aload_n 1, 1) := by decide +kernel
theorem dX5_take_16 : decode cX5_take 16 = .ok (.iload_n 2, 1) := by decide +kernel
theorem dX5_take_17 : decode cX5_take 17 = .ok (.iaload, 1) := by decide +kernel
theorem dX5_take_18 : decode cX5_take 18 = .ok (.iastore, 1) := by decide +kernel
theorem dX5_take_19 : decode cX5_take 19 = .ok (.iinc 2 1, 3) := by decide +kernel
theorem dX5_take_22 : decode cX5_take 22 = .ok (.goto (-20), 3) := by decide +kernel
theorem dX5_take_25 : decode cX5_take 25 = .ok (.return_, 1) := by decide +kernel
theorem dX5_setAll_0 : decode cX5_setAll 0 = .ok (.iconst 0, 1) := by decide +kernel
theorem dX5_setAll_1 : decode cX5_setAll 1 = .ok (.istore_n 2, 1) := by decide +kernel
theorem dX5_setAll_2 : decode cX5_setAll 2 = .ok (.iload_n 2, 1) := by decide +kernel
theorem dX5_setAll_3 : decode cX5_setAll 3 = .ok (.aload_n 0, 1) := by decide +kernel
theorem dX5_setAll_4 : decode cX5_setAll 4 = .ok (.getfield 68, 3) := by decide +kernel
theorem dX5_setAll_7 : decode cX5_setAll 7 = .ok (.if_icmp .ge 31, 3) := by decide +kernel
theorem dX5_setAll_10 : decode cX5_setAll 10 = .ok (.aload_n 0, 1) := by decide +kernel
theorem dX5_setAll_11 : decode cX5_setAll 11 = .ok (.getfield 29, 3) := by decide +kernel
theorem dX5_setAll_14 : decode cX5_setAll 14 = .ok (.iload_n 2, 1) := by decide +kernel
theorem dX5_setAll_15 : decode cX5_setAll 15 = .ok (.aload_n 0, 1) := by decide +kernel
theorem dX5_setAll_16 : decode cX5_setAll 16 = .ok (.getfield 7, 3) := by decide +kernel
theorem dX5_setAll_19 : decode cX5_setAll 19 = .ok (.iload_n 2, 1) := by decide +kernel
theorem dX5_setAll_20 : decode cX5_setAll 20 = .ok (.iaload, 1) := by decide +kernel
theorem dX5_setAll_21 : decode cX5_setAll 21 = .ok (.iconst 1, 1) := by decide +kernel
theorem dX5_setAll_22 : decode cX5_setAll 22 = .ok (.if_icmp .le 7, 3) := by decide +kernel
theorem dX5_setAll_25 : decode cX5_setAll 25 = .ok (.iload_n 1, 1) := by decide +kernel
theorem dX5_setAll_26 : decode cX5_setAll 26 = .ok (.goto 5, 3) := by decide +kernel
theorem dX5_setAll_29 : decode cX5_setAll 29 = .ok (.bipush 16, 2) := by decide +kernel
theorem dX5_setAll_31 : decode cX5_setAll 31 = .ok (.iastore, 1) := by decide +kernel
theorem dX5_setAll_32 : decode cX5_setAll 32 = .ok (.iinc 2 1, 3) := by decide +kernel
theorem dX5_setAll_35 : decode cX5_setAll 35 = .ok (.goto (-33), 3) := by decide +kernel
theorem dX5_setAll_38 : decode cX5_setAll 38 = .ok (.return_, 1) := by decide +kernel
theorem dX5_choosesOn_0 : decode cX5_choosesOn 0 = .ok (.aload_n 0, 1) := by decide +kernel
theorem dX5_choosesOn_1 : decode cX5_choosesOn 1 = .ok (.getfield 68, 3) := by decide +kernel
theorem dX5_choosesOn_4 : decode cX5_choosesOn 4 = .ok (.iconst 1, 1) := by decide +kernel
theorem dX5_choosesOn_5 : decode cX5_choosesOn 5 = .ok (.isub, 1) := by decide +kernel
theorem dX5_choosesOn_6 : decode cX5_choosesOn 6 = .ok (.istore_n 1, 1) := by decide +kernel
theorem dX5_choosesOn_7 : decode cX5_choosesOn 7 = .ok (.iload_n 1, 1) := by decide +kernel
theorem dX5_choosesOn_8 : decode cX5_choosesOn 8 = .ok (.ifCond .lt 52, 3) := by decide +kernel
theorem dX5_choosesOn_11 : decode cX5_choosesOn 11 = .ok (.aload_n 0, 1) := by decide +kernel
theorem dX5_choosesOn_12 : decode cX5_choosesOn 12 = .ok (.getfield 7, 3) := by decide +kernel
theorem dX5_choosesOn_15 : decode cX5_choosesOn 15 = .ok (.iload_n 1, 1) := by decide +kernel
theorem dX5_choosesOn_16 : decode cX5_choosesOn 16 = .ok (.iaload, 1) := by decide +kernel
theorem dX5_choosesOn_17 : decode cX5_choosesOn 17 = .ok (.iconst 1, 1) := by decide +kernel
theorem dX5_choosesOn_18 : decode cX5_choosesOn 18 = .ok (.if_icmp .le 14, 3) := by decide +kernel
theorem dX5_choosesOn_21 : decode cX5_choosesOn 21 = .ok (.aload_n 0, 1) := by decide +kernel
theorem dX5_choosesOn_22 : decode cX5_choosesOn 22 = .ok (.getfield 29, 3) := by decide +kernel
theorem dX5_choosesOn_25 : decode cX5_choosesOn 25 = .ok (.iload_n 1, 1) := by decide +kernel
theorem dX5_choosesOn_26 : decode cX5_choosesOn 26 = .ok (.iaload, 1) := by decide +kernel
theorem dX5_choosesOn_27 : decode cX5_choosesOn 27 = .ok (.bipush 16, 2) := by decide +kernel
theorem dX5_choosesOn_29 : decode cX5_choosesOn 29 = .ok (.if_icmp .ne 31, 3) := by decide +kernel
theorem dX5_choosesOn_32 : decode cX5_choosesOn 32 = .ok (.aload_n 0, 1) := by decide +kernel
theorem dX5_choosesOn_33 : decode cX5_choosesOn 33 = .ok (.getfield 29, 3) := by decide +kernel
theorem dX5_choosesOn_36 : decode cX5_choosesOn 36 = .ok (.iload_n 1, 1) := by decide +kernel
theorem dX5_choosesOn_37 : decode cX5_choosesOn 37 = .ok (.aload_n 0, 1) := by decide +kernel
theorem dX5_choosesOn_38 : decode cX5_choosesOn 38 = .ok (.getfield 7, 3) := by decide +kernel
theorem dX5_choosesOn_41 : decode cX5_choosesOn 41 = .ok (.iload_n 1, 1) := by decide +kernel
theorem dX5_choosesOn_42 : decode cX5_choosesOn 42 = .ok (.iaload, 1) := by decide +kernel
theorem dX5_choosesOn_43 : decode cX5_choosesOn 43 = .ok (.iconst 1, 1) := by decide +kernel
theorem dX5_choosesOn_44 : decode cX5_choosesOn 44 = .ok (.if_icmp .le 7, 3) := by decide +kernel
theorem dX5_choosesOn_47 : decode cX5_choosesOn 47 = .ok (.iconst 0, 1) := by decide +kernel
theorem dX5_choosesOn_48 : decode cX5_choosesOn 48 = .ok (.goto 5, 3) := by decide +kernel
theorem dX5_choosesOn_51 : decode cX5_choosesOn 51 = .ok (.bipush 16, 2) := by decide +kernel
theorem dX5_choosesOn_53 : decode cX5_choosesOn 53 = .ok (.iastore, 1) := by decide +kernel
theorem dX5_choosesOn_54 : decode cX5_choosesOn 54 = .ok (.iinc 1 (-1), 3) := by decide +kernel
theorem dX5_choosesOn_57 : decode cX5_choosesOn 57 = .ok (.goto (-50), 3) := by decide +kernel
theorem dX5_choosesOn_60 : decode cX5_choosesOn 60 = .ok (.iload_n 1, 1) := by decide +kernel
theorem dX5_choosesOn_61 : decode cX5_choosesOn 61 = .ok (.ifCond .ge 5, 3) := by decide +kernel
theorem dX5_choosesOn_64 : decode cX5_choosesOn 64 = .ok (.iconst 0, 1) := by decide +kernel
theorem dX5_choosesOn_65 : decode cX5_choosesOn 65 = .ok (.ireturn, 1) := by decide +kernel
theorem dX5_choosesOn_66 : decode cX5_choosesOn 66 = .ok (.aload_n 0, 1) := by decide +kernel
theorem dX5_choosesOn_67 : decode cX5_choosesOn 67 = .ok (.getfield 29, 3) := by decide +kernel
theorem dX5_choosesOn_70 : decode cX5_choosesOn 70 = .ok (.iload_n 1, 1) := by decide +kernel
theorem dX5_choosesOn_71 : decode cX5_choosesOn 71 = .ok (.dup2, 1) := by decide +kernel
theorem dX5_choosesOn_72 : decode cX5_choosesOn 72 = .ok (.iaload, 1) := by decide +kernel
theorem dX5_choosesOn_73 : decode cX5_choosesOn 73 = .ok (.iconst 4, 1) := by decide +kernel
theorem dX5_choosesOn_74 : decode cX5_choosesOn 74 = .ok (.iadd, 1) := by decide +kernel
theorem dX5_choosesOn_75 : decode cX5_choosesOn 75 = .ok (.iastore, 1) := by decide +kernel
theorem dX5_choosesOn_76 : decode cX5_choosesOn 76 = .ok (.iconst 1, 1) := by decide +kernel
theorem dX5_choosesOn_77 : decode cX5_choosesOn 77 = .ok (.ireturn, 1) := by decide +kernel
theorem dX5_least_0 : decode cX5_least 0 = .ok (.aload_n 0, 1) := by decide +kernel
theorem dX5_least_1 : decode cX5_least 1 = .ok (.iload_n 1, 1) := by decide +kernel
theorem dX5_least_2 : decode cX5_least 2 = .ok (.invokevirtual 76, 3) := by decide +kernel
theorem dX5_least_5 : decode cX5_least 5 = .ok (.ifCond .eq 9, 3) := by decide +kernel
theorem dX5_least_8 : decode cX5_least 8 = .ok (.lload_n 2, 1) := by decide +kernel
theorem dX5_least_9 : decode cX5_least 9 = .ok (.lconst 0, 1) := by decide +kernel
theorem dX5_least_10 : decode cX5_least 10 = .ok (.lcmp, 1) := by decide +kernel
theorem dX5_least_11 : decode cX5_least 11 = .ok (.ifCond .ge 6, 3) := by decide +kernel
theorem dX5_least_14 : decode cX5_least 14 = .ok (.bipush (-2), 2) := by decide +kernel
theorem dX5_least_16 : decode cX5_least 16 = .ok (.ireturn, 1) := by decide +kernel
theorem dX5_least_17 : decode cX5_least 17 = .ok (.aload_n 0, 1) := by decide +kernel
theorem dX5_least_18 : decode cX5_least 18 = .ok (.invokevirtual 192, 3) := by decide +kernel
theorem dX5_least_21 : decode cX5_least 21 = .ok (.bipush 6, 2) := by decide +kernel
theorem dX5_least_23 : decode cX5_least 23 = .ok (.if_icmp .le 6, 3) := by decide +kernel
theorem dX5_least_26 : decode cX5_least 26 = .ok (.bipush (-5), 2) := by decide +kernel
theorem dX5_least_28 : decode cX5_least 28 = .ok (.ireturn, 1) := by decide +kernel
theorem dX5_least_29 : decode cX5_least 29 = .ok (.aload_n 0, 1) := by decide +kernel
theorem dX5_least_30 : decode cX5_least 30 = .ok (.aload_n 0, 1) := by decide +kernel
theorem dX5_least_31 : decode cX5_least 31 = .ok (.getfield 60, 3) := by decide +kernel
theorem dX5_least_34 : decode cX5_least 34 = .ok (.invokevirtual 195, 3) := by decide +kernel
theorem dX5_least_37 : decode cX5_least 37 = .ok (.aload_n 0, 1) := by decide +kernel
theorem dX5_least_38 : decode cX5_least 38 = .ok (.iconst 0, 1) := by decide +kernel
theorem dX5_least_39 : decode cX5_least 39 = .ok (.invokevirtual 199, 3) := by decide +kernel
theorem dX5_least_42 : decode cX5_least 42 = .ok (.iconst (-1), 1) := by decide +kernel
theorem dX5_least_43 : decode cX5_least 43 = .ok (.istore 4, 2) := by decide +kernel
theorem dX5_least_45 : decode cX5_least 45 = .ok (.iconst 1, 1) := by decide +kernel
theorem dX5_least_46 : decode cX5_least 46 = .ok (.istore 5, 2) := by decide +kernel
theorem dX5_least_48 : decode cX5_least 48 = .ok (.iload 5, 2) := by decide +kernel
theorem dX5_least_50 : decode cX5_least 50 = .ok (.ifCond .eq 51, 3) := by decide +kernel
theorem dX5_least_53 : decode cX5_least 53 = .ok (.aload_n 0, 1) := by decide +kernel
theorem dX5_least_54 : decode cX5_least 54 = .ok (.iload_n 1, 1) := by decide +kernel
theorem dX5_least_55 : decode cX5_least 55 = .ok (.invokevirtual 132, 3) := by decide +kernel
theorem dX5_least_58 : decode cX5_least 58 = .ok (.lload_n 2, 1) := by decide +kernel
theorem dX5_least_59 : decode cX5_least 59 = .ok (.lcmp, 1) := by decide +kernel
