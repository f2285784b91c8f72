theorem dX4_floor_24 : decode cX4_floor 24 = .ok (.invokestatic 71, 3) := by decide +kernel
theorem dX4_floor_27 : decode cX4_floor 27 = .ok (.lreturn, 1) := by decide +kernel
theorem dX4_gain_0 : decode cX4_gain 0 = .ok (.aload_n 0, 1) := by decide +kernel
theorem dX4_gain_1 : decode cX4_gain 1 = .ok (.getfield 10, 3) := by decide +kernel
theorem dX4_gain_4 : decode cX4_gain 4 = .ok (.iload_n 1, 1) := by decide +kernel
theorem dX4_gain_5 : decode cX4_gain 5 = .ok (.invokevirtual 40, 3) := by decide +kernel
theorem dX4_gain_8 : decode cX4_gain 8 = .ok (.ifCond .eq 14, 3) := by decide +kernel
theorem dX4_gain_11 : decode cX4_gain 11 = .ok (.aload_n 0, 1) := by decide +kernel
theorem dX4_gain_12 : decode cX4_gain 12 = .ok (.getfield 10, 3) := by decide +kernel
theorem dX4_gain_15 : decode cX4_gain 15 = .ok (.iload_n 2, 1) := by decide +kernel
theorem dX4_gain_16 : decode cX4_gain 16 = .ok (.invokevirtual 40, 3) := by decide +kernel
theorem dX4_gain_19 : decode cX4_gain 19 = .ok (.ifCond .ne 9, 3) := by decide +kernel
theorem dX4_gain_22 : decode cX4_gain 22 = .ok (.bipush (-2), 2) := by decide +kernel
theorem dX4_gain_24 : decode cX4_gain 24 = .ok (.invokestatic 71, 3) := by decide +kernel
theorem dX4_gain_27 : decode cX4_gain 27 = .ok (.lreturn, 1) := by decide +kernel
theorem dX4_gain_28 : decode cX4_gain 28 = .ok (.aload_n 0, 1) := by decide +kernel
theorem dX4_gain_29 : decode cX4_gain 29 = .ok (.getfield 28, 3) := by decide +kernel
theorem dX4_gain_32 : decode cX4_gain 32 = .ok (.iload_n 1, 1) := by decide +kernel
theorem dX4_gain_33 : decode cX4_gain 33 = .ok (.iload_n 2, 1) := by decide +kernel
theorem dX4_gain_34 : decode cX4_gain 34 = .ok (.invokevirtual 167, 3) := by decide +kernel
theorem dX4_gain_37 : decode cX4_gain 37 = .ok (.lreturn, 1) := by decide +kernel
theorem dX4_blame_0 : decode cX4_blame 0 = .ok (.aload_n 0, 1) := by decide +kernel
theorem dX4_blame_1 : decode cX4_blame 1 = .ok (.getfield 10, 3) := by decide +kernel
theorem dX4_blame_4 : decode cX4_blame 4 = .ok (.iload_n 1, 1) := by decide +kernel
theorem dX4_blame_5 : decode cX4_blame 5 = .ok (.invokevirtual 40, 3) := by decide +kernel
theorem dX4_blame_8 : decode cX4_blame 8 = .ok (.ifCond .eq 14, 3) := by decide +kernel
theorem dX4_blame_11 : decode cX4_blame 11 = .ok (.aload_n 0, 1) := by decide +kernel
theorem dX4_blame_12 : decode cX4_blame 12 = .ok (.getfield 28, 3) := by decide +kernel
theorem dX4_blame_15 : decode cX4_blame 15 = .ok (.iload_n 1, 1) := by decide +kernel
theorem dX4_blame_16 : decode cX4_blame 16 = .ok (.invokevirtual 171, 3) := by decide +kernel
theorem dX4_blame_19 : decode cX4_blame 19 = .ok (.goto 5, 3) := by decide +kernel
theorem dX4_blame_22 : decode cX4_blame 22 = .ok (.bipush (-2), 2) := by decide +kernel
theorem dX4_blame_24 : decode cX4_blame 24 = .ok (.ireturn, 1) := by decide +kernel
theorem dX4_count_0 : decode cX4_count 0 = .ok (.iload_n 1, 1) := by decide +kernel
theorem dX4_count_1 : decode cX4_count 1 = .ok (.tableswitch 63 0 3 #[31, 39, 47, 55], 31) := by decide +kernel
theorem dX4_count_32 : decode cX4_count 32 = .ok (.aload_n 0, 1) := by decide +kernel
theorem dX4_count_33 : decode cX4_count 33 = .ok (.getfield 10, 3) := by decide +kernel
theorem dX4_count_36 : decode cX4_count 36 = .ok (.getfield 49, 3) := by decide +kernel
theorem dX4_count_39 : decode cX4_count 39 = .ok (.ireturn, 1) := by decide +kernel
theorem dX4_count_40 : decode cX4_count 40 = .ok (.aload_n 0, 1) := by decide +kernel
theorem dX4_count_41 : decode cX4_count 41 = .ok (.getfield 10, 3) := by decide +kernel
theorem dX4_count_44 : decode cX4_count 44 = .ok (.invokevirtual 175, 3) := by decide +kernel
theorem dX4_count_47 : decode cX4_count 47 = .ok (.ireturn, 1) := by decide +kernel
theorem dX4_count_48 : decode cX4_count 48 = .ok (.aload_n 0, 1) := by decide +kernel
theorem dX4_count_49 : decode cX4_count 49 = .ok (.getfield 10, 3) := by decide +kernel
theorem dX4_count_52 : decode cX4_count 52 = .ok (.invokevirtual 97, 3) := by decide +kernel
theorem dX4_count_55 : decode cX4_count 55 = .ok (.ireturn, 1) := by decide +kernel
theorem dX4_count_56 : decode cX4_count 56 = .ok (.aload_n 0, 1) := by decide +kernel
theorem dX4_count_57 : decode cX4_count 57 = .ok (.getfield 10, 3) := by decide +kernel
theorem dX4_count_60 : decode cX4_count 60 = .ok (.invokevirtual 178, 3) := by decide +kernel
theorem dX4_count_63 : decode cX4_count 63 = .ok (.ireturn, 1) := by decide +kernel
theorem dX4_count_64 : decode cX4_count 64 = .ok (.bipush (-2), 2) := by decide +kernel
theorem dX4_count_66 : decode cX4_count 66 = .ok (.ireturn, 1) := by decide +kernel
theorem dX4_digest_0 : decode cX4_digest 0 = .ok (.ldc2_w 181, 3) := by decide +kernel
theorem dX4_digest_3 : decode cX4_digest 3 = .ok (.lstore_n 1, 1) := by decide +kernel
theorem dX4_digest_4 : decode cX4_digest 4 = .ok (.iconst 0, 1) := by decide +kernel
theorem dX4_digest_5 : decode cX4_digest 5 = .ok (.istore_n 3, 1) := by decide +kernel
theorem dX4_digest_6 : decode cX4_digest 6 = .ok (.iload_n 3, 1) := by decide +kernel
theorem dX4_digest_7 : decode cX4_digest 7 = .ok (.iconst 3, 1) := by decide +kernel
theorem dX4_digest_8 : decode cX4_digest 8 = .ok (.if_icmp .gt 22, 3) := by decide +kernel
theorem dX4_digest_11 : decode cX4_digest 11 = .ok (.ldc2_w 183, 3) := by decide +kernel
theorem dX4_digest_14 : decode cX4_digest 14 = .ok (.lload_n 1, 1) := by decide +kernel
theorem dX4_digest_15 : decode cX4_digest 15 = .ok (.lmul, 1) := by decide +kernel
theorem dX4_digest_16 : decode cX4_digest 16 = .ok (.aload_n 0, 1) := by decide +kernel
theorem dX4_digest_17 : decode cX4_digest 17 = .ok (.iload_n 3, 1) := by decide +kernel
theorem dX4_digest_18 : decode cX4_digest 18 = .ok (.invokevirtual 185, 3) := by decide +kernel
theorem dX4_digest_21 : decode cX4_digest 21 = .ok (.i2l, 1) := by decide +kernel
theorem dX4_digest_22 : decode cX4_digest 22 = .ok (.ladd, 1) := by decide +kernel
theorem dX4_digest_23 : decode cX4_digest 23 = .ok (.lstore_n 1, 1) := by decide +kernel
theorem dX4_digest_24 : decode cX4_digest 24 = .ok (.iinc 3 1, 3) := by decide +kernel
theorem dX4_digest_27 : decode cX4_digest 27 = .ok (.goto (-21), 3) := by decide +kernel
theorem dX4_digest_30 : decode cX4_digest 30 = .ok (.iconst 0, 1) := by decide +kernel
theorem dX4_digest_31 : decode cX4_digest 31 = .ok (.istore_n 3, 1) := by decide +kernel
theorem dX4_digest_32 : decode cX4_digest 32 = .ok (.iload_n 3, 1) := by decide +kernel
theorem dX4_digest_33 : decode cX4_digest 33 = .ok (.aload_n 0, 1) := by decide +kernel
theorem dX4_digest_34 : decode cX4_digest 34 = .ok (.getfield 10, 3) := by decide +kernel
theorem dX4_digest_37 : decode cX4_digest 37 = .ok (.getfield 49, 3) := by decide +kernel
theorem dX4_digest_40 : decode cX4_digest 40 = .ok (.if_icmp .ge 63, 3) := by decide +kernel
theorem dX4_digest_43 : decode cX4_digest 43 = .ok (.iconst 0, 1) := by decide +kernel
theorem dX4_digest_44 : decode cX4_digest 44 = .ok (.istore 4, 2) := by decide +kernel
theorem dX4_digest_46 : decode cX4_digest 46 = .ok (.iload 4, 2) := by decide +kernel
theorem dX4_digest_48 : decode cX4_digest 48 = .ok (.bipush 9, 2) := by decide +kernel
theorem dX4_digest_50 : decode cX4_digest 50 = .ok (.if_icmp .gt 23, 3) := by decide +kernel
theorem dX4_digest_53 : decode cX4_digest 53 = .ok (.ldc2_w 183, 3) := by decide +kernel
theorem dX4_digest_56 : decode cX4_digest 56 = .ok (.lload_n 1, 1) := by decide +kernel
theorem dX4_digest_57 : decode cX4_digest 57 = .ok (.lmul, 1) := by decide +kernel
theorem dX4_digest_58 : decode cX4_digest 58 = .ok (.aload_n 0, 1) := by decide +kernel
theorem dX4_digest_59 : decode cX4_digest 59 = .ok (.iload_n 3, 1) := by decide +kernel
theorem dX4_digest_60 : decode cX4_digest 60 = .ok (.iload 4, 2) := by decide +kernel
theorem dX4_digest_62 : decode cX4_digest 62 = .ok (.invokevirtual 188, 3) := by decide +kernel
theorem dX4_digest_65 : decode cX4_digest 65 = .ok (.ladd, 1) := by decide +kernel
theorem dX4_digest_66 : decode cX4_digest 66 = .ok (.lstore_n 1, 1) := by decide +kernel
theorem dX4_digest_67 : decode cX4_digest 67 = .ok (.iinc 4 1, 3) := by decide +kernel
theorem dX4_digest_70 : decode cX4_digest 70 = .ok (.goto (-24), 3) := by decide +kernel
theorem dX4_digest_73 : decode cX4_digest 73 = .ok (.ldc2_w 183, 3) := by decide +kernel
theorem dX4_digest_76 : decode cX4_digest 76 = .ok (.lload_n 1, 1) := by decide +kernel
theorem dX4_digest_77 : decode cX4_digest 77 = .ok (.lmul, 1) := by decide +kernel
theorem dX4_digest_78 : decode cX4_digest 78 = .ok (.aload_n 0, 1) := by decide +kernel
theorem dX4_digest_79 : decode cX4_digest 79 = .ok (.iload_n 3, 1) := by decide +kernel
theorem dX4_digest_80 : decode cX4_digest 80 = .ok (.invokevirtual 191, 3) := by decide +kernel
theorem dX4_digest_83 : decode cX4_digest 83 = .ok (.ladd, 1) := by decide +kernel
theorem dX4_digest_84 : decode cX4_digest 84 = .ok (.lstore_n 1, 1) := by decide +kernel
theorem dX4_digest_85 : decode cX4_digest 85 = .ok (.ldc2_w 183, 3) := by decide +kernel
theorem dX4_digest_88 : decode cX4_digest 88 = .ok (.lload_n 1, 1) := by decide +kernel
theorem dX4_digest_89 : decode cX4_digest 89 = .ok (.lmul, 1) := by decide +kernel
theorem dX4_digest_90 : decode cX4_digest 90 = .ok (.aload_n 0, 1) := by decide +kernel
theorem dX4_digest_91 : decode cX4_digest 91 = .ok (.iload_n 3, 1) := by decide +kernel
theorem dX4_digest_92 : decode cX4_digest 92 = .ok (.invokevirtual 194, 3) := by decide +kernel
theorem dX4_digest_95 : decode cX4_digest 95 = .ok (.ladd, 1) := by decide +kernel
theorem dX4_digest_96 : decode cX4_digest 96 = .ok (.lstore_n 1, 1) := by decide +kernel
theorem dX4_digest_97 : decode cX4_digest 97 = .ok (.iinc 3 1, 3) := by decide +kernel
theorem dX4_digest_100 : decode cX4_digest 100 = .ok (.goto (-68), 3) := by decide +kernel
theorem dX4_digest_103 : decode cX4_digest 103 = .ok (.lload_n 1, 1) := by decide +kernel
theorem dX4_digest_104 : decode cX4_digest 104 = .ok (.lreturn, 1) := by decide +kernel
theorem dX4_refusal_0 : decode cX4_refusal 0 = .ok (.ldc2_w 199, 3) := by decide +kernel
theorem dX4_refusal_3 : decode cX4_refusal 3 = .ok (.iload_n 0, 1) := by decide +kernel
theorem dX4_refusal_4 : decode cX4_refusal 4 = .ok (.i2l, 1) := by decide +kernel
theorem dX4_refusal_5 : decode cX4_refusal 5 = .ok (.lsub, 1) := by decide +kernel
theorem dX4_refusal_6 : decode cX4_refusal 6 = .ok (.lreturn, 1) := by decide +kernel
theorem dX4_isStep_0 : decode cX4_isStep 0 = .ok (.iload_n 0, 1) := by decide +kernel
theorem dX4_isStep_1 : decode cX4_isStep 1 = .ok (.sipush 4096, 3) := by decide +kernel
theorem dX4_isStep_4 : decode cX4_isStep 4 = .ok (.irem, 1) := by decide +kernel
theorem dX4_isStep_5 : decode cX4_isStep 5 = .ok (.ifCond .ne 7, 3) := by decide +kernel
theorem dX4_isStep_8 : decode cX4_isStep 8 = .ok (.iconst 1, 1) := by decide +kernel
theorem dX4_isStep_9 : decode cX4_isStep 9 = .ok (.goto 4, 3) := by decide +kernel
theorem dX4_isStep_12 : decode cX4_isStep 12 = .ok (.iconst 0, 1) := by decide +kernel
theorem dX4_isStep_13 : decode cX4_isStep 13 = .ok (.ireturn, 1) := by decide +kernel
theorem dX4_isGivable_0 : decode cX4_isGivable 0 = .ok (.iload_n 0, 1) := by decide +kernel
theorem dX4_isGivable_1 : decode cX4_isGivable 1 = .ok (.invokestatic 104, 3) := by decide +kernel
theorem dX4_isGivable_4 : decode cX4_isGivable 4 = .ok (.ifCond .eq 19, 3) := by decide +kernel
theorem dX4_isGivable_7 : decode cX4_isGivable 7 = .ok (.iload_n 0, 1) := by decide +kernel
theorem dX4_isGivable_8 : decode cX4_isGivable 8 = .ok (.ldc 201, 2) := by decide +kernel
theorem dX4_isGivable_10 : decode cX4_isGivable 10 = .ok (.if_icmp .lt 13, 3) := by decide +kernel
theorem dX4_isGivable_13 : decode cX4_isGivable 13 = .ok (.iload_n 0, 1) := by decide +kernel
theorem dX4_isGivable_14 : decode cX4_isGivable 14 = .ok (.ldc 202, 2) := by decide +kernel
theorem dX4_isGivable_16 : decode cX4_isGivable 16 = .ok (.if_icmp .gt 7, 3) := by decide +kernel
theorem dX4_isGivable_19 : decode cX4_isGivable 19 = .ok (.iconst 1, 1) := by decide +kernel
theorem dX4_isGivable_20 : decode cX4_isGivable 20 = .ok (.goto 4, 3) := by decide +kernel
theorem dX4_isGivable_23 : decode cX4_isGivable 23 = .ok (.iconst 0, 1) := by decide +kernel
theorem dX4_isGivable_24 : decode cX4_isGivable 24 = .ok (.ireturn, 1) := by decide +kernel
theorem dX4_hasTwoParts_0 : decode cX4_hasTwoParts 0 = .ok (.iload_n 0, 1) := by decide +kernel
theorem dX4_hasTwoParts_1 : decode cX4_hasTwoParts 1 = .ok (.iconst 2, 1) := by decide +kernel
theorem dX4_hasTwoParts_2 : decode cX4_hasTwoParts 2 = .ok (.if_icmp .lt 12, 3) := by decide +kernel
theorem dX4_hasTwoParts_5 : decode cX4_hasTwoParts 5 = .ok (.iload_n 0, 1) := by decide +kernel
theorem dX4_hasTwoParts_6 : decode cX4_hasTwoParts 6 = .ok (.iconst 5, 1) := by decide +kernel
theorem dX4_hasTwoParts_7 : decode cX4_hasTwoParts 7 = .ok (.if_icmp .gt 7, 3) := by decide +kernel
theorem dX4_hasTwoParts_10 : decode cX4_hasTwoParts 10 = .ok (.iconst 1, 1) := by decide +kernel
theorem dX4_hasTwoParts_11 : decode cX4_hasTwoParts 11 = .ok (.goto 4, 3) := by decide +kernel
theorem dX4_hasTwoParts_14 : decode cX4_hasTwoParts 14 = .ok (.iconst 0, 1) := by decide +kernel
theorem dX4_hasTwoParts_15 : decode cX4_hasTwoParts 15 = .ok (.ireturn, 1) := by decide +kernel
theorem dX4_result_0 : decode cX4_result 0 = .ok (.iload_n 0, 1) := by decide +kernel
theorem dX4_result_1 : decode cX4_result 1 = .ok (.tableswitch 58 2 6 #[35, 39, 43, 47, 53], 35) := by decide +kernel
theorem dX4_result_36 : decode cX4_result 36 = .ok (.lload_n 1, 1) := by decide +kernel
theorem dX4_result_37 : decode cX4_result 37 = .ok (.lload_n 3, 1) := by decide +kernel
theorem dX4_result_38 : decode cX4_result 38 = .ok (.ladd, 1) := by decide +kernel
theorem dX4_result_39 : decode cX4_result 39 = .ok (.lreturn, 1) := by decide +kernel
theorem dX4_result_40 : decode cX4_result 40 = .ok (.lload_n 1, 1) := by decide +kernel
theorem dX4_result_41 : decode cX4_result 41 = .ok (.lload_n 3, 1) := by decide +kernel
theorem dX4_result_42 : decode cX4_result 42 = .ok (.lsub, 1) := by decide +kernel
theorem dX4_result_43 : decode cX4_result 43 = .ok (.lreturn, 1) := by decide +kernel
theorem dX4_result_44 : decode cX4_result 44 = .ok (.lload_n 1, 1) := by decide +kernel
theorem dX4_result_45 : decode cX4_result 45 = .ok (.lload_n 3, 1) := by decide +kernel
theorem dX4_result_46 : decode cX4_result 46 = .ok (.lmul, 1) := by decide +kernel
theorem dX4_result_47 : decode cX4_result 47 = .ok (.lreturn, 1) := by decide +kernel
theorem dX4_result_48 : decode cX4_result 48 = .ok (.lload_n 1, 1) := by decide +kernel
theorem dX4_result_49 : decode cX4_result 49 = .ok (.lload_n 3, 1) := by decide +kernel
theorem dX4_result_50 : decode cX4_result 50 = .ok (.invokestatic 203, 3) := by decide +kernel
theorem dX4_result_53 : decode cX4_result 53 = .ok (.lreturn, 1) := by decide +kernel
theorem dX4_result_54 : decode cX4_result 54 = .ok (.lload_n 1, 1) := by decide +kernel
theorem dX4_result_55 : decode cX4_result 55 = .ok (.invokestatic 209, 3) := by decide +kernel
theorem dX4_result_58 : decode cX4_result 58 = .ok (.lreturn, 1) := by decide +kernel
theorem dX4_result_59 : decode cX4_result 59 = .ok (.lload_n 1, 1) := by decide +kernel
theorem dX4_result_60 : decode cX4_result 60 = .ok (.lreturn, 1) := by decide +kernel
theorem dX5_init_0 : decode cX5_init 0 = .ok (.aload_n 0, 1) := by decide +kernel
theorem dX5_init_1 : decode cX5_init 1 = .ok (.invokespecial 1, 3) := by decide +kernel
theorem dX5_init_4 : decode cX5_init 4 = .ok (.aload_n 0, 1) := by decide +kernel
theorem dX5_init_5 : decode cX5_init 5 = .ok (.bipush 16, 2) := by decide +kernel
theorem dX5_init_7 : decode cX5_init 7 = .ok (.newarray .int, 2) := by decide +kernel
theorem dX5_init_9 : decode cX5_init 9 = .ok (.putfield 7, 3) := by decide +kernel
theorem dX5_init_12 : decode cX5_init 12 = .ok (.aload_n 0, 1) := by decide +kernel
theorem dX5_init_13 : decode cX5_init 13 = .ok (.bipush 16, 2) := by decide +kernel
theorem dX5_init_15 : decode cX5_init 15 = .ok (.newarray .int, 2) := by decide +kernel
theorem dX5_init_17 : decode cX5_init 17 = .ok (.putfield 13, 3) := by decide +kernel
theorem dX5_init_20 : decode cX5_init 20 = .ok (.aload_n 0, 1) := by decide +kernel
theorem dX5_init_21 : decode cX5_init 21 = .ok (.bipush 16, 2) := by decide +kernel
theorem dX5_init_23 : decode cX5_init 23 = .ok (.newarray .int, 2) := by decide +kernel
theorem dX5_init_25 : decode cX5_init 25 = .ok (.putfield 16, 3) := by decide +kernel
theorem dX5_init_28 : decode cX5_init 28 = .ok (.aload_n 0, 1) := by decide +kernel
theorem dX5_init_29 : decode cX5_init 29 = .ok (.bipush 16, 2) := by decide +kernel
theorem dX5_init_31 : decode cX5_init 31 = .ok (.newarray .int, 2) := by decide +kernel
theorem dX5_init_33 : decode cX5_init 33 = .ok (.putfield 19, 3) := by decide +kernel
theorem dX5_init_36 : decode cX5_init 36 = .ok (.aload_n 0, 1) := by decide +kernel
theorem dX5_init_37 : decode cX5_init 37 = .ok (.bipush 16, 2) := by decide +kernel
theorem dX5_init_39 : decode cX5_init 39 = .ok (.newarray .long, 2) := by decide +kernel
theorem dX5_init_41 : decode cX5_init 41 = .ok (.putfield 22, 3) := by decide +kernel
theorem dX5_init_44 : decode cX5_init 44 = .ok (.aload_n 0, 1) := by decide +kernel
theorem dX5_init_45 : decode cX5_init 45 = .ok (.bipush 16, 2) := by decide +kernel
theorem dX5_init_47 : decode cX5_init 47 = .ok (.newarray .long, 2) := by decide +kernel
theorem dX5_init_49 : decode cX5_init 49 = .ok (.putfield 26, 3) := by decide +kernel
theorem dX5_init_52 : decode cX5_init 52 = .ok (.aload_n 0, 1) := by decide +kernel
theorem dX5_init_53 : decode cX5_init 53 = .ok (.bipush 16, 2) := by decide +kernel
theorem dX5_init_55 : decode cX5_init 55 = .ok (.newarray .int, 2) := by decide +kernel
theorem dX5_init_57 : decode cX5_init 57 = .ok (.putfield 29, 3) := by decide +kernel
theorem dX5_init_60 : decode cX5_init 60 = .ok (.aload_n 0, 1) := by decide +kernel
theorem dX5_init_61 : decode cX5_init 61 = .ok (.bipush 16, 2) := by decide +kernel
theorem dX5_init_63 : decode cX5_init 63 = .ok (.newarray .int, 2) := by decide +kernel
theorem dX5_init_65 : decode cX5_init 65 = .ok (.putfield 32, 3) := by decide +kernel
theorem dX5_init_68 : decode cX5_init 68 = .ok (.aload_n 0, 1) := by decide +kernel
theorem dX5_init_69 : decode cX5_init 69 = .ok (.bipush 16, 2) := by decide +kernel
theorem dX5_init_71 : decode cX5_init 71 = .ok (.newarray .int, 2) := by decide +kernel
theorem dX5_init_73 : decode cX5_init 73 = .ok (.putfield 35, 3) := by decide +kernel
theorem dX5_init_76 : decode cX5_init 76 = .ok (.aload_n 0, 1) := by decide +kernel
theorem dX5_init_77 : decode cX5_init 77 = .ok (.bipush 16, 2) := by decide +kernel
theorem dX5_init_79 : decode cX5_init 79 = .ok (.newarray .int, 2) := by decide +kernel
theorem dX5_init_81 : decode cX5_init 81 = .ok (.putfield 38, 3) := by decide +kernel
theorem dX5_init_84 : decode cX5_init 84 = .ok (.aload_n 0, 1) := by decide +kernel
theorem dX5_init_85 : decode cX5_init 85 = .ok (.bipush 16, 2) := by decide +kernel
theorem dX5_init_87 : decode cX5_init 87 = .ok (.newarray .long, 2) := by decide +kernel
theorem dX5_init_89 : decode cX5_init 89 = .ok (.putfield 41, 3) := by decide +kernel
theorem dX5_init_92 : decode cX5_init 92 = .ok (.aload_n 0, 1) := by decide +kernel
theorem dX5_init_93 : decode cX5_init 93 = .ok (.bipush 16, 2) := by decide +kernel
theorem dX5_init_95 : decode cX5_init 95 = .ok (.newarray .long, 2) := by decide +kernel
theorem dX5_init_97 : decode cX5_init 97 = .ok (.putfield 44, 3) := by decide +kernel
theorem dX5_init_100 : decode cX5_init 100 = .ok (.aload_n 0, 1) := by decide +kernel
theorem dX5_init_101 : decode cX5_init 101 = .ok (.bipush 16, 2) := by decide +kernel
theorem dX5_init_103 : decode cX5_init 103 = .ok (.newarray .long, 2) := by decide +kernel
theorem dX5_init_105 : decode cX5_init 105 = .ok (.putfield 47, 3) := by decide +kernel
theorem dX5_init_108 : decode cX5_init 108 = .ok (.aload_n 0, 1) := by decide +kernel
theorem dX5_init_109 : decode cX5_init 109 = .ok (.bipush 16, 2) := by decide +kernel
theorem dX5_init_111 : decode cX5_init 111 = .ok (.newarray .int, 2) := by decide +kernel
theorem dX5_init_113 : decode cX5_init 113 = .ok (.putfield 50, 3) := by decide +kernel
theorem dX5_init_116 : decode cX5_init 116 = .ok (.aload_n 0, 1) := by decide +kernel
theorem dX5_init_117 : decode cX5_init 117 = .ok (.bipush 16, 2) := by decide +kernel
theorem dX5_init_119 : decode cX5_init 119 = .ok (.newarray .boolean, 2) := by decide +kernel
theorem dX5_init_121 : decode cX5_init 121 = .ok (.putfield 53, 3) := by decide +kernel
theorem dX5_init_124 : decode cX5_init 124 = .ok (.aload_n 0, 1) := by decide +kernel
theorem dX5_init_125 : decode cX5_init 125 = .ok (.bipush 16, 2) := by decide +kernel
theorem dX5_init_127 : decode cX5_init 127 = .ok (.newarray .int, 2) := by decide +kernel
theorem dX5_init_129 : decode cX5_init 129 = .ok (.putfield 57, 3) := by decide +kernel
theorem dX5_init_132 : decode cX5_init 132 = .ok (.aload_n 0, 1) := by decide +kernel
theorem dX5_init_133 : decode cX5_init 133 = .ok (.bipush 16, 2) := by decide +kernel
theorem dX5_init_135 : decode cX5_init 135 = .ok (.newarray .int, 2) := by decide +kernel
theorem dX5_init_137 : decode cX5_init 137 = .ok (.putfield 60, 3) := by decide +kernel
theorem dX5_init_140 : decode cX5_init 140 = .ok (.aload_n 0, 1) := by decide +kernel
theorem dX5_init_141 : decode cX5_init 141 = .ok (.bipush 16, 2) := by decide +kernel
theorem dX5_init_143 : decode cX5_init 143 = .ok (.newarray .int, 2) := by decide +kernel
theorem dX5_init_145 : decode cX5_init 145 = .ok (.putfield 63, 3) := by decide +kernel
theorem dX5_init_148 : decode cX5_init 148 = .ok (.return_, 1) := by decide +kernel
theorem dX5_in_0 : decode cX5_in 0 = .ok (.lload_n 0, 1) := by decide +kernel
theorem dX5_in_1 : decode cX5_in 1 = .ok (.lload_n 2, 1) := by decide +kernel
theorem dX5_in_2 : decode cX5_in 2 = .ok (.lcmp, 1) := by decide +kernel
theorem dX5_in_3 : decode cX5_in 3 = .ok (.ifCond .lt 14, 3) := by decide +kernel
theorem dX5_in_6 : decode cX5_in 6 = .ok (.lload_n 0, 1) := by decide +kernel
theorem dX5_in_7 : decode cX5_in 7 = .ok (.lload 4, 2) := by decide +kernel
theorem dX5_in_9 : decode cX5_in 9 = .ok (.lcmp, 1) := by decide +kernel
theorem dX5_in_10 : decode cX5_in 10 = .ok (.ifCond .gt 7, 3) := by decide +kernel
theorem dX5_in_13 : decode cX5_in 13 = .ok (.iconst 1, 1) := by decide +kernel
theorem dX5_in_14 : decode cX5_in 14 = .ok (.goto 4, 3) := by decide +kernel
theorem dX5_in_17 : decode cX5_in 17 = .ok (.iconst 0, 1) := by decide +kernel
theorem dX5_in_18 : decode cX5_in 18 = .ok (.ireturn, 1) := by decide +kernel
theorem dX5_no_0 : decode cX5_no 0 = .ok (.ldc2_w 66, 3) := by decide +kernel
theorem dX5_no_3 : decode cX5_no 3 = .ok (.iload_n 0, 1) := by decide +kernel
theorem dX5_no_4 : decode cX5_no 4 = .ok (.i2l, 1) := by decide +kernel
theorem dX5_no_5 : decode cX5_no 5 = .ok (.lsub, 1) := by decide +kernel
theorem dX5_no_6 : decode cX5_no 6 = .ok (.lreturn, 1) := by decide +kernel
theorem dX5_isValue_0 : decode cX5_isValue 0 = .ok (.iload_n 1, 1) := by decide +kernel
theorem dX5_isValue_1 : decode cX5_isValue 1 = .ok (.i2l, 1) := by decide +kernel
theorem dX5_isValue_2 : decode cX5_isValue 2 = .ok (.lconst 0, 1) := by decide +kernel
theorem dX5_isValue_3 : decode cX5_isValue 3 = .ok (.aload_n 0, 1) := by decide +kernel
theorem dX5_isValue_4 : decode cX5_isValue 4 = .ok (.getfield 68, 3) := by decide +kernel
theorem dX5_isValue_7 : decode cX5_isValue 7 = .ok (.iconst 1, 1) := by decide +kernel
theorem dX5_isValue_8 : decode cX5_isValue 8 = .ok (.isub, 1) := by decide +kernel
theorem dX5_isValue_9 : decode cX5_isValue 9 = .ok (.i2l, 1) := by decide +kernel
theorem dX5_isValue_10 : decode cX5_isValue 10 = .ok (.invokestatic 72, 3) := by decide +kernel
theorem dX5_isValue_13 : decode cX5_isValue 13 = .ok (.ireturn, 1) := by decide +kernel
theorem dX5_isInput_0 : decode cX5_isInput 0 = .ok (.aload_n 0, 1) := by decide +kernel
theorem dX5_isInput_1 : decode cX5_isInput 1 = .ok (.iload_n 1, 1) := by decide +kernel
theorem dX5_isInput_2 : decode cX5_isInput 2 = .ok (.invokevirtual 76, 3) := by decide +kernel
theorem dX5_isInput_5 : decode cX5_isInput 5 = .ok (.ifCond .eq 16, 3) := by decide +kernel
theorem dX5_isInput_8 : decode cX5_isInput 8 = .ok (.aload_n 0, 1) := by decide +kernel
theorem dX5_isInput_9 : decode cX5_isInput 9 = .ok (.getfield 7, 3) := by decide +kernel
theorem dX5_isInput_12 : decode cX5_isInput 12 = .ok (.iload_n 1, 1) := by decide +kernel
theorem dX5_isInput_13 : decode cX5_isInput 13 = .ok (.iaload, 1) := by decide +kernel
theorem dX5_isInput_14 : decode cX5_isInput 14 = .ok (.ifCond .ne 7, 3) := by decide +kernel
theorem dX5_isInput_17 : decode cX5_isInput 17 = .ok (.iconst 1, 1) := by decide +kernel
theorem dX5_isInput_18 : decode cX5_isInput 18 = .ok (.goto 4, 3) := by decide +kernel
theorem dX5_isInput_21 : decode cX5_isInput 21 = .ok (.iconst 0, 1) := by decide +kernel
theorem dX5_isInput_22 : decode cX5_isInput 22 = .ok (.ireturn, 1) := by decide +kernel
theorem dX5_isWork_0 : decode cX5_isWork 0 = .ok (.aload_n 0, 1) := by decide +kernel
theorem dX5_isWork_1 : decode cX5_isWork 1 = .ok (.iload_n 1, 1) := by decide +kernel
theorem dX5_isWork_2 : decode cX5_isWork 2 = .ok (.invokevirtual 76, 3) := by decide +kernel
theorem dX5_isWork_5 : decode cX5_isWork 5 = .ok (.ifCond .eq 17, 3) := by decide +kernel
theorem dX5_isWork_8 : decode cX5_isWork 8 = .ok (.aload_n 0, 1) := by decide +kernel
theorem dX5_isWork_9 : decode cX5_isWork 9 = .ok (.getfield 7, 3) := by decide +kernel
theorem dX5_isWork_12 : decode cX5_isWork 12 = .ok (.iload_n 1, 1) := by decide +kernel
theorem dX5_isWork_13 : decode cX5_isWork 13 = .ok (.iaload, 1) := by decide +kernel
theorem dX5_isWork_14 : decode cX5_isWork 14 = .ok (.iconst 1, 1) := by decide +kernel
theorem dX5_isWork_15 : decode cX5_isWork 15 = .ok (.if_icmp .le 7, 3) := by decide +kernel
theorem dX5_isWork_18 : decode cX5_isWork 18 = .ok (.iconst 1, 1) := by decide +kernel
theorem dX5_isWork_19 : decode cX5_isWork 19 = .ok (.goto 4, 3) := by decide +kernel
theorem dX5_isWork_22 : decode cX5_isWork 22 = .ok (.iconst 0, 1) := by decide +kernel
theorem dX5_isWork_23 : decode cX5_isWork 23 = .ok (.ireturn, 1) := by decide +kernel
theorem dX5_isNumber_0 : decode cX5_isNumber 0 = .ok (.iload_n 0, 1) := by decide +kernel
theorem dX5_isNumber_1 : decode cX5_isNumber 1 = .ok (.i2l, 1) := by decide +kernel
theorem dX5_isNumber_2 : decode cX5_isNumber 2 = .ok (.ldc2_w 80, 3) := by decide +kernel
theorem dX5_isNumber_5 : decode cX5_isNumber 5 = .ok (.ldc2_w 82, 3) := by decide +kernel
theorem dX5_isNumber_8 : decode cX5_isNumber 8 = .ok (.invokestatic 72, 3) := by decide +kernel
theorem dX5_isNumber_11 : decode cX5_isNumber 11 = .ok (.ifCond .eq 15, 3) := by decide +kernel
theorem dX5_isNumber_14 : decode cX5_isNumber 14 = .ok (.iload_n 0, 1) := by decide +kernel
theorem dX5_isNumber_15 : decode cX5_isNumber 15 = .ok (.sipush 4096, 3) := by decide +kernel
theorem dX5_isNumber_18 : decode cX5_isNumber 18 = .ok (.irem, 1) := by decide +kernel
theorem dX5_isNumber_19 : decode cX5_isNumber 19 = .ok (.ifCond .ne 7, 3) := by decide +kernel
theorem dX5_isNumber_22 : decode cX5_isNumber 22 = .ok (.iconst 1, 1) := by decide +kernel
theorem dX5_isNumber_23 : decode cX5_isNumber 23 = .ok (.goto 4, 3) := by decide +kernel
theorem dX5_isNumber_26 : decode cX5_isNumber 26 = .ok (.iconst 0, 1) := by decide +kernel
theorem dX5_isNumber_27 : decode cX5_isNumber 27 = .ok (.ireturn, 1) := by decide +kernel
theorem dX5_lays_0 : decode cX5_lays 0 = .ok (.aload_n 0, 1) := by decide +kernel
theorem dX5_lays_1 : decode cX5_lays 1 = .ok (.getfield 7, 3) := by decide +kernel
theorem dX5_lays_4 : decode cX5_lays 4 = .ok (.aload_n 0, 1) := by decide +kernel
theorem dX5_lays_5 : decode cX5_lays 5 = .ok (.getfield 68, 3) := by decide +kernel
theorem dX5_lays_8 : decode cX5_lays 8 = .ok (.iload_n 1, 1) := by decide +kernel
theorem dX5_lays_9 : decode cX5_lays 9 = .ok (.iastore, 1) := by decide +kernel
theorem dX5_lays_10 : decode cX5_lays 10 = .ok (.aload_n 0, 1) := by decide +kernel
theorem dX5_lays_11 : decode cX5_lays 11 = .ok (.getfield 13, 3) := by decide +kernel
theorem dX5_lays_14 : decode cX5_lays 14 = .ok (.aload_n 0, 1) := by decide +kernel
theorem dX5_lays_15 : decode cX5_lays 15 = .ok (.getfield 68, 3) := by decide +kernel
theorem dX5_lays_18 : decode cX5_lays 18 = .ok (.iload_n 2, 1) := by decide +kernel
theorem dX5_lays_19 : decode cX5_lays 19 = .ok (.iastore, 1) := by decide +kernel
theorem dX5_lays_20 : decode cX5_lays 20 = .ok (.aload_n 0, 1) := by decide +kernel
theorem dX5_lays_21 : decode cX5_lays 21 = .ok (.getfield 16, 3) := by decide +kernel
theorem dX5_lays_24 : decode cX5_lays 24 = .ok (.aload_n 0, 1) := by decide +kernel
theorem dX5_lays_25 : decode cX5_lays 25 = .ok (.getfield 68, 3) := by decide +kernel
theorem dX5_lays_28 : decode cX5_lays 28 = .ok (.iload_n 3, 1) := by decide +kernel
theorem dX5_lays_29 : decode cX5_lays 29 = .ok (.iastore, 1) := by decide +kernel
theorem dX5_lays_30 : decode cX5_lays 30 = .ok (.aload_n 0, 1) := by decide +kernel
theorem dX5_lays_31 : decode cX5_lays 31 = .ok (.getfield 19, 3) := by decide +kernel
theorem dX5_lays_34 : decode cX5_lays 34 = .ok (.aload_n 0, 1) := by decide +kernel
theorem dX5_lays_35 : decode cX5_lays 35 = .ok (.getfield 68, 3) := by decide +kernel
theorem dX5_lays_38 : decode cX5_lays 38 = .ok (.iload 4, 2) := by decide +kernel
theorem dX5_lays_40 : decode cX5_lays 40 = .ok (.iastore, 1) := by decide +kernel
theorem dX5_lays_41 : decode cX5_lays 41 = .ok (.aload_n 0, 1) := by decide +kernel
theorem dX5_lays_42 : decode cX5_lays 42 = .ok (.getfield 22, 3) := by decide +kernel
theorem dX5_lays_45 : decode cX5_lays 45 = .ok (.aload_n 0, 1) := by decide +kernel
theorem dX5_lays_46 : decode cX5_lays 46 = .ok (.getfield 68, 3) := by decide +kernel
theorem dX5_lays_49 : decode cX5_lays 49 = .ok (.lload 5, 2) := by decide +kernel
theorem dX5_lays_51 : decode cX5_lays 51 = .ok (.lastore, 1) := by decide +kernel
theorem dX5_lays_52 : decode cX5_lays 52 = .ok (.aload_n 0, 1) := by decide +kernel
theorem dX5_lays_53 : decode cX5_lays 53 = .ok (.getfield 26, 3) := by decide +kernel
theorem dX5_lays_56 : decode cX5_lays 56 = .ok (.aload_n 0, 1) := by decide +kernel
theorem dX5_lays_57 : decode cX5_lays 57 = .ok (.getfield 68, 3) := by decide +kernel
theorem dX5_lays_60 : decode cX5_lays 60 = .ok (.lload 7, 2) := by decide +kernel
theorem dX5_lays_62 : decode cX5_lays 62 = .ok (.lastore, 1) := by decide +kernel
theorem dX5_lays_63 : decode cX5_lays 63 = .ok (.aload_n 0, 1) := by decide +kernel
theorem dX5_lays_64 : decode cX5_lays 64 = .ok (.getfield 29, 3) := by decide +kernel
theorem dX5_lays_67 : decode cX5_lays 67 = .ok (.aload_n 0, 1) := by decide +kernel
theorem dX5_lays_68 : decode cX5_lays 68 = .ok (.getfield 68, 3) := by decide +kernel
theorem dX5_lays_71 : decode cX5_lays 71 = .ok (.bipush 16, 2) := by decide +kernel
theorem dX5_lays_73 : decode cX5_lays 73 = .ok (.iastore, 1) := by decide +kernel
theorem dX5_lays_74 : decode cX5_lays 74 = .ok (.aload_n 0, 1) := by decide +kernel
theorem dX5_lays_75 : decode cX5_lays 75 = .ok (.getfield 32, 3) := by decide +kernel
theorem dX5_lays_78 : decode cX5_lays 78 = .ok (.aload_n 0, 1) := by decide +kernel
theorem dX5_lays_79 : decode cX5_lays 79 = .ok (.getfield 68, 3) := by decide +kernel
theorem dX5_lays_82 : decode cX5_lays 82 = .ok (.iconst 0, 1) := by decide +kernel
theorem dX5_lays_83 : decode cX5_lays 83 = .ok (.iastore, 1) := by decide +kernel
theorem dX5_lays_84 : decode cX5_lays 84 = .ok (.aload_n 0, 1) := by decide +kernel
theorem dX5_lays_85 : decode cX5_lays 85 = .ok (.getfield 35, 3) := by decide +kernel
theorem dX5_lays_88 : decode cX5_lays 88 = .ok (.aload_n 0, 1) := by decide +kernel
theorem dX5_lays_89 : decode cX5_lays 89 = .ok (.getfield 68, 3) := by decide +kernel
theorem dX5_lays_92 : decode cX5_lays 92 = .ok (.iconst 1, 1) := by decide +kernel
theorem dX5_lays_93 : decode cX5_lays 93 = .ok (.iastore, 1) := by decide +kernel
theorem dX5_lays_94 : decode cX5_lays 94 = .ok (.aload_n 0, 1) := by decide +kernel
theorem dX5_lays_95 : decode cX5_lays 95 = .ok (.dup, 1) := by decide +kernel
theorem dX5_lays_96 : decode cX5_lays 96 = .ok (.getfield 68, 3) := by decide +kernel
theorem dX5_lays_99 : decode cX5_lays 99 = .ok (.iconst 1, 1) := by decide +kernel
theorem dX5_lays_100 : decode cX5_lays 100 = .ok (.iadd, 1) := by decide +kernel
theorem dX5_lays_101 : decode cX5_lays 101 = .ok (.putfield 68, 3) := by decide +kernel
theorem dX5_lays_104 : decode cX5_lays 104 = .ok (.aload_n 0, 1) := by decide +kernel
theorem dX5_lays_105 : decode cX5_lays 105 = .ok (.getfield 68, 3) := by decide +kernel
theorem dX5_lays_108 : decode cX5_lays 108 = .ok (.iconst 1, 1) := by decide +kernel
theorem dX5_lays_109 : decode cX5_lays 109 = .ok (.isub, 1) := by decide +kernel
theorem dX5_lays_110 : decode cX5_lays 110 = .ok (.ireturn, 1) := by decide +kernel
theorem dX5_input_0 : decode cX5_input 0 = .ok (.iload_n 1, 1) := by decide +kernel
theorem dX5_input_1 : decode cX5_input 1 = .ok (.invokestatic 84, 3) := by decide +kernel
theorem dX5_input_4 : decode cX5_input 4 = .ok (.ifCond .eq 15, 3) := by decide +kernel
theorem dX5_input_7 : decode cX5_input 7 = .ok (.iload_n 2, 1) := by decide +kernel
theorem dX5_input_8 : decode cX5_input 8 = .ok (.invokestatic 84, 3) := by decide +kernel
theorem dX5_input_11 : decode cX5_input 11 = .ok (.ifCond .eq 8, 3) := by decide +kernel
theorem dX5_input_14 : decode cX5_input 14 = .ok (.iload_n 1, 1) := by decide +kernel
theorem dX5_input_15 : decode cX5_input 15 = .ok (.iload_n 2, 1) := by decide +kernel
theorem dX5_input_16 : decode cX5_input 16 = .ok (.if_icmp .le 6, 3) := by decide +kernel
theorem dX5_input_19 : decode cX5_input 19 = .ok (.bipush (-2), 2) := by decide +kernel
theorem dX5_input_21 : decode cX5_input 21 = .ok (.ireturn, 1) := by decide +kernel
theorem dX5_input_22 : decode cX5_input 22 = .ok (.aload_n 0, 1) := by decide +kernel
theorem dX5_input_23 : decode cX5_input 23 = .ok (.getfield 68, 3) := by decide +kernel
theorem dX5_input_26 : decode cX5_input 26 = .ok (.bipush 16, 2) := by decide +kernel
theorem dX5_input_28 : decode cX5_input 28 = .ok (.if_icmp .ne 6, 3) := by decide +kernel
theorem dX5_input_31 : decode cX5_input 31 = .ok (.bipush (-3), 2) := by decide +kernel
theorem dX5_input_33 : decode cX5_input 33 = .ok (.ireturn, 1) := by decide +kernel
theorem dX5_input_34 : decode cX5_input 34 = .ok (.aload_n 0, 1) := by decide +kernel
theorem dX5_input_35 : decode cX5_input 35 = .ok (.getfield 38, 3) := by decide +kernel
theorem dX5_input_38 : decode cX5_input 38 = .ok (.aload_n 0, 1) := by decide +kernel
theorem dX5_input_39 : decode cX5_input 39 = .ok (.getfield 68, 3) := by decide +kernel
theorem dX5_input_42 : decode cX5_input 42 = .ok (.iload_n 1, 1) := by decide +kernel
theorem dX5_input_43 : decode cX5_input 43 = .ok (.iastore, 1) := by decide +kernel
theorem dX5_input_44 : decode cX5_input 44 = .ok (.aload_n 0, 1) := by decide +kernel
theorem dX5_input_45 : decode cX5_input 45 = .ok (.iconst 0, 1) := by decide +kernel
theorem dX5_input_46 : decode cX5_input 46 = .ok (.iload_n 1, 1) := by decide +kernel
theorem dX5_input_47 : decode cX5_input 47 = .ok (.iload_n 2, 1) := by decide +kernel
theorem dX5_input_48 : decode cX5_input 48 = .ok (.iconst 1, 1) := by decide +kernel
theorem dX5_input_49 : decode cX5_input 49 = .ok (.iload_n 1, 1) := by decide +kernel
theorem dX5_input_50 : decode cX5_input 50 = .ok (.i2l, 1) := by decide +kernel
theorem dX5_input_51 : decode cX5_input 51 = .ok (.iload_n 2, 1) := by decide +kernel
theorem dX5_input_52 : decode cX5_input 52 = .ok (.i2l, 1) := by decide +kernel
theorem dX5_input_53 : decode cX5_input 53 = .ok (.invokevirtual 87, 3) := by decide +kernel
theorem dX5_input_56 : decode cX5_input 56 = .ok (.ireturn, 1) := by decide +kernel
theorem dX5_fixed_0 : decode cX5_fixed 0 = .ok (.iload_n 1, 1) := by decide +kernel
theorem dX5_fixed_1 : decode cX5_fixed 1 = .ok (.invokestatic 84, 3) := by decide +kernel
theorem dX5_fixed_4 : decode cX5_fixed 4 = .ok (.ifCond .ne 6, 3) := by decide +kernel
theorem dX5_fixed_7 : decode cX5_fixed 7 = .ok (.bipush (-2), 2) := by decide +kernel
theorem dX5_fixed_9 : decode cX5_fixed 9 = .ok (.ireturn, 1) := by decide +kernel
theorem dX5_fixed_10 : decode cX5_fixed 10 = .ok (.aload_n 0, 1) := by decide +kernel
theorem dX5_fixed_11 : decode cX5_fixed 11 = .ok (.getfield 68, 3) := by decide +kernel
theorem dX5_fixed_14 : decode cX5_fixed 14 = .ok (.bipush 16, 2) := by decide +kernel
theorem dX5_fixed_16 : decode cX5_fixed 16 = .ok (.if_icmp .ne 8, 3) := by decide +kernel
theorem dX5_fixed_19 : decode cX5_fixed 19 = .ok (.bipush (-3), 2) := by decide +kernel
theorem dX5_fixed_21 : decode cX5_fixed 21 = .ok (.goto 15, 3) := by decide +kernel
theorem dX5_fixed_24 : decode cX5_fixed 24 = .ok (.aload_n 0, 1) := by decide +kernel
theorem dX5_fixed_25 : decode cX5_fixed 25 = .ok (.iconst 1, 1) := by decide +kernel
theorem dX5_fixed_26 : decode cX5_fixed 26 = .ok (.iload_n 1, 1) := by decide +kernel
theorem dX5_fixed_27 : decode cX5_fixed 27 = .ok (.iconst 0, 1) := by decide +kernel
theorem dX5_fixed_28 : decode cX5_fixed 28 = .ok (.iconst 1, 1) := by decide +kernel
theorem dX5_fixed_29 : decode cX5_fixed 29 = .ok (.iload_n 1, 1) := by decide +kernel
theorem dX5_fixed_30 : decode cX5_fixed 30 = .ok (.i2l, 1) := by decide +kernel
theorem dX5_fixed_31 : decode cX5_fixed 31 = .ok (.iload_n 1, 1) := by decide +kernel
theorem dX5_fixed_32 : decode cX5_fixed 32 = .ok (.i2l, 1) := by decide +kernel
theorem dX5_fixed_33 : decode cX5_fixed 33 = .ok (.invokevirtual 87, 3) := by decide +kernel
theorem dX5_fixed_36 : decode cX5_fixed 36 = .ok (.ireturn, 1) := by decide +kernel
theorem dX5_max_0 : decode cX5_max 0 = .ok (.lload_n 0, 1) := by decide +kernel
theorem dX5_max_1 : decode cX5_max 1 = .ok (.lload_n 2, 1) := by decide +kernel
theorem dX5_max_2 : decode cX5_max 2 = .ok (.lcmp, 1) := by decide +kernel
theorem dX5_max_3 : decode cX5_max 3 = .ok (.ifCond .le 7, 3) := by decide +kernel
theorem dX5_max_6 : decode cX5_max 6 = .ok (.lload_n 0, 1) := by decide +kernel
theorem dX5_max_7 : decode cX5_max 7 = .ok (.goto 4, 3) := by decide +kernel
theorem dX5_max_10 : decode cX5_max 10 = .ok (.lload_n 2, 1) := by decide +kernel
theorem dX5_max_11 : decode cX5_max 11 = .ok (.lreturn, 1) := by decide +kernel
theorem dX5_min_0 : decode cX5_min 0 = .ok (.lload_n 0, 1) := by decide +kernel
theorem dX5_min_1 : decode cX5_min 1 = .ok (.lload_n 2, 1) := by decide +kernel
theorem dX5_min_2 : decode cX5_min 2 = .ok (.lcmp, 1) := by decide +kernel
theorem dX5_min_3 : decode cX5_min 3 = .ok (.ifCond .ge 7, 3) := by decide +kernel
theorem dX5_min_6 : decode cX5_min 6 = .ok (.lload_n 0, 1) := by decide +kernel
theorem dX5_min_7 : decode cX5_min 7 = .ok (.goto 4, 3) := by decide +kernel
theorem dX5_min_10 : decode cX5_min 10 = .ok (.lload_n 2, 1) := by decide +kernel
theorem dX5_min_11 : decode cX5_min 11 = .ok (.lreturn, 1) := by decide +kernel
theorem dX5_amount_0 : decode cX5_amount 0 = .ok (.lload_n 0, 1) := by decide +kernel
theorem dX5_amount_1 : decode cX5_amount 1 = .ok (.lconst 0, 1) := by decide +kernel
theorem dX5_amount_2 : decode cX5_amount 2 = .ok (.lcmp, 1) := by decide +kernel
theorem dX5_amount_3 : decode cX5_amount 3 = .ok (.ifCond .ge 8, 3) := by decide +kernel
theorem dX5_amount_6 : decode cX5_amount 6 = .ok (.lload_n 0, 1) := by decide +kernel
theorem dX5_amount_7 : decode cX5_amount 7 = .ok (.lneg, 1) := by decide +kernel
theorem dX5_amount_8 : decode cX5_amount 8 = .ok (.goto 4, 3) := by decide +kernel
theorem dX5_amount_11 : decode cX5_amount 11 = .ok (.lload_n 0, 1) := by decide +kernel
theorem dX5_amount_12 : decode cX5_amount 12 = .ok (.lreturn, 1) := by decide +kernel
theorem dX5_work_0 : decode cX5_work 0 = .ok (.iload_n 1, 1) := by decide +kernel
theorem dX5_work_1 : decode cX5_work 1 = .ok (.i2l, 1) := by decide +kernel
theorem dX5_work_2 : decode cX5_work 2 = .ok (.ldc2_w 91, 3) := by decide +kernel
theorem dX5_work_5 : decode cX5_work 5 = .ok (.ldc2_w 93, 3) := by decide +kernel
theorem dX5_work_8 : decode cX5_work 8 = .ok (.invokestatic 72, 3) := by decide +kernel
theorem dX5_work_11 : decode cX5_work 11 = .ok (.ifCond .eq 32, 3) := by decide +kernel
theorem dX5_work_14 : decode cX5_work 14 = .ok (.aload_n 0, 1) := by decide +kernel
theorem dX5_work_15 : decode cX5_work 15 = .ok (.iload_n 2, 1) := by decide +kernel
theorem dX5_work_16 : decode cX5_work 16 = .ok (.invokevirtual 76, 3) := by decide +kernel
theorem dX5_work_19 : decode cX5_work 19 = .ok (.ifCond .eq 24, 3) := by decide +kernel
theorem dX5_work_22 : decode cX5_work 22 = .ok (.iload_n 1, 1) := by decide +kernel
theorem dX5_work_23 : decode cX5_work 23 = .ok (.bipush 6, 2) := by decide +kernel
theorem dX5_work_25 : decode cX5_work 25 = .ok (.if_icmp .ge 14, 3) := by decide +kernel
theorem dX5_work_28 : decode cX5_work 28 = .ok (.aload_n 0, 1) := by decide +kernel
theorem dX5_work_29 : decode cX5_work 29 = .ok (.iload_n 3, 1) := by decide +kernel
theorem dX5_work_30 : decode cX5_work 30 = .ok (.invokevirtual 76, 3) := by decide +kernel
theorem dX5_work_33 : decode cX5_work 33 = .ok (.ifCond .ne 13, 3) := by decide +kernel
theorem dX5_work_36 : decode cX5_work 36 = .ok (.goto 7, 3) := by decide +kernel
theorem dX5_work_39 : decode cX5_work 39 = .ok (.iload_n 3, 1) := by decide +kernel
theorem dX5_work_40 : decode cX5_work 40 = .ok (.ifCond .eq 6, 3) := by decide +kernel
theorem dX5_work_43 : decode cX5_work 43 = .ok (.bipush (-2), 2) := by decide +kernel
theorem dX5_work_45 : decode cX5_work 45 = .ok (.ireturn, 1) := by decide +kernel
theorem dX5_work_46 : decode cX5_work 46 = .ok (.aload_n 0, 1) := by decide +kernel
theorem dX5_work_47 : decode cX5_work 47 = .ok (.getfield 68, 3) := by decide +kernel
theorem dX5_work_50 : decode cX5_work 50 = .ok (.bipush 16, 2) := by decide +kernel
theorem dX5_work_52 : decode cX5_work 52 = .ok (.if_icmp .ne 6, 3) := by decide +kernel
theorem dX5_work_55 : decode cX5_work 55 = .ok (.bipush (-3), 2) := by decide +kernel
theorem dX5_work_57 : decode cX5_work 57 = .ok (.ireturn, 1) := by decide +kernel
theorem dX5_work_58 : decode cX5_work 58 = .ok (.aload_n 0, 1) := by decide +kernel
theorem dX5_work_59 : decode cX5_work 59 = .ok (.getfield 22, 3) := by decide +kernel
theorem dX5_work_62 : decode cX5_work 62 = .ok (.iload_n 2, 1) := by decide +kernel
theorem dX5_work_63 : decode cX5_work 63 = .ok (.laload, 1) := by decide +kernel
theorem dX5_work_64 : decode cX5_work 64 = .ok (.lstore 4, 2) := by decide +kernel
theorem dX5_work_66 : decode cX5_work 66 = .ok (.aload_n 0, 1) := by decide +kernel
theorem dX5_work_67 : decode cX5_work 67 = .ok (.getfield 26, 3) := by decide +kernel
theorem dX5_work_70 : decode cX5_work 70 = .ok (.iload_n 2, 1) := by decide +kernel
theorem dX5_work_71 : decode cX5_work 71 = .ok (.laload, 1) := by decide +kernel
theorem dX5_work_72 : decode cX5_work 72 = .ok (.lstore 6, 2) := by decide +kernel
theorem dX5_work_74 : decode cX5_work 74 = .ok (.aload_n 0, 1) := by decide +kernel
theorem dX5_work_75 : decode cX5_work 75 = .ok (.getfield 22, 3) := by decide +kernel
theorem dX5_work_78 : decode cX5_work 78 = .ok (.iload_n 3, 1) := by decide +kernel
theorem dX5_work_79 : decode cX5_work 79 = .ok (.laload, 1) := by decide +kernel
theorem dX5_work_80 : decode cX5_work 80 = .ok (.lstore 8, 2) := by decide +kernel
theorem dX5_work_82 : decode cX5_work 82 = .ok (.aload_n 0, 1) := by decide +kernel
theorem dX5_work_83 : decode cX5_work 83 = .ok (.getfield 26, 3) := by decide +kernel
theorem dX5_work_86 : decode cX5_work 86 = .ok (.iload_n 3, 1) := by decide +kernel
theorem dX5_work_87 : decode cX5_work 87 = .ok (.laload, 1) := by decide +kernel
theorem dX5_work_88 : decode cX5_work 88 = .ok (.lstore 10, 2) := by decide +kernel
theorem dX5_work_90 : decode cX5_work 90 = .ok (.iload_n 1, 1) := by decide +kernel
theorem dX5_work_91 : decode cX5_work 91 = .ok (.iconst 5, 1) := by decide +kernel
theorem dX5_work_92 : decode cX5_work 92 = .ok (.if_icmp .le 12, 3) := by decide +kernel
theorem dX5_work_95 : decode cX5_work 95 = .ok (.aload_n 0, 1) := by decide +kernel
theorem dX5_work_96 : decode cX5_work 96 = .ok (.getfield 19, 3) := by decide +kernel
theorem dX5_work_99 : decode cX5_work 99 = .ok (.iload_n 2, 1) := by decide +kernel
theorem dX5_work_100 : decode cX5_work 100 = .ok (.iaload, 1) := by decide +kernel
theorem dX5_work_101 : decode cX5_work 101 = .ok (.goto 42, 3) := by decide +kernel
theorem dX5_work_104 : decode cX5_work 104 = .ok (.iload_n 1, 1) := by decide +kernel
theorem dX5_work_105 : decode cX5_work 105 = .ok (.iconst 4, 1) := by decide +kernel
theorem dX5_work_106 : decode cX5_work 106 = .ok (.if_icmp .ne 19, 3) := by decide +kernel
theorem dX5_work_109 : decode cX5_work 109 = .ok (.aload_n 0, 1) := by decide +kernel
theorem dX5_work_110 : decode cX5_work 110 = .ok (.getfield 19, 3) := by decide +kernel
theorem dX5_work_113 : decode cX5_work 113 = .ok (.iload_n 2, 1) := by decide +kernel
theorem dX5_work_114 : decode cX5_work 114 = .ok (.iaload, 1) := by decide +kernel
theorem dX5_work_115 : decode cX5_work 115 = .ok (.aload_n 0, 1) := by decide +kernel
theorem dX5_work_116 : decode cX5_work 116 = .ok (.getfield 19, 3) := by decide +kernel
theorem dX5_work_119 : decode cX5_work 119 = .ok (.iload_n 3, 1) := by decide +kernel
theorem dX5_work_120 : decode cX5_work 120 = .ok (.iaload, 1) := by decide +kernel
theorem dX5_work_121 : decode cX5_work 121 = .ok (.iadd, 1) := by decide +kernel
theorem dX5_work_122 : decode cX5_work 122 = .ok (.goto 21, 3) := by decide +kernel
theorem dX5_work_125 : decode cX5_work 125 = .ok (.aload_n 0, 1) := by decide +kernel
theorem dX5_work_126 : decode cX5_work 126 = .ok (.getfield 19, 3) := by decide +kernel
theorem dX5_work_129 : decode cX5_work 129 = .ok (.iload_n 2, 1) := by decide +kernel
theorem dX5_work_130 : decode cX5_work 130 = .ok (.iaload, 1) := by decide +kernel
theorem dX5_work_131 : decode cX5_work 131 = .ok (.i2l, 1) := by decide +kernel
theorem dX5_work_132 : decode cX5_work 132 = .ok (.aload_n 0, 1) := by decide +kernel
theorem dX5_work_133 : decode cX5_work 133 = .ok (.getfield 19, 3) := by decide +kernel
theorem dX5_work_136 : decode cX5_work 136 = .ok (.iload_n 3, 1) := by decide +kernel
theorem dX5_work_137 : decode cX5_work 137 = .ok (.iaload, 1) := by decide +kernel
theorem dX5_work_138 : decode cX5_work 138 = .ok (.i2l, 1) := by decide +kernel
theorem dX5_work_139 : decode cX5_work 139 = .ok (.invokestatic 95, 3) := by decide +kernel
theorem dX5_work_142 : decode cX5_work 142 = .ok (.l2i, 1) := by decide +kernel
theorem dX5_work_143 : decode cX5_work 143 = .ok (.istore 12, 2) := by decide +kernel
theorem dX5_work_145 : decode cX5_work 145 = .ok (.lload 4, 2) := by decide +kernel
theorem dX5_work_147 : decode cX5_work 147 = .ok (.lstore 13, 2) := by decide +kernel
theorem dX5_work_149 : decode cX5_work 149 = .ok (.lload 6, 2) := by decide +kernel
theorem dX5_work_151 : decode cX5_work 151 = .ok (.lstore 15, 2) := by decide +kernel
theorem dX5_work_153 : decode cX5_work 153 = .ok (.iload_n 1, 1) := by decide +kernel
theorem dX5_work_154 : decode cX5_work 154 = .ok (.tableswitch 213 2 6 #[34, 51, 68, 141, 162], 34) := by decide +kernel
theorem dX5_work_188 : decode cX5_work 188 = .ok (.lload 4, 2) := by decide +kernel
theorem dX5_work_190 : decode cX5_work 190 = .ok (.lload 8, 2) := by decide +kernel
theorem dX5_work_192 : decode cX5_work 192 = .ok (.ladd, 1) := by decide +kernel
theorem dX5_work_193 : decode cX5_work 193 = .ok (.lstore 13, 2) := by decide +kernel
theorem dX5_work_195 : decode cX5_work 195 = .ok (.lload 6, 2) := by decide +kernel
theorem dX5_work_197 : decode cX5_work 197 = .ok (.lload 10, 2) := by decide +kernel
theorem dX5_work_199 : decode cX5_work 199 = .ok (.ladd, 1) := by decide +kernel
theorem dX5_work_200 : decode cX5_work 200 = .ok (.lstore 15, 2) := by decide +kernel
theorem dX5_work_202 : decode cX5_work 202 = .ok (.goto 165, 3) := by decide +kernel
theorem dX5_work_205 : decode cX5_work 205 = .ok (.lload 4, 2) := by decide +kernel
theorem dX5_work_207 : decode cX5_work 207 = .ok (.lload 10, 2) := by decide +kernel
theorem dX5_work_209 : decode cX5_work 209 = .ok (.lsub, 1) := by decide +kernel
theorem dX5_work_210 : decode cX5_work 210 = .ok (.lstore 13, 2) := by decide +kernel
theorem dX5_work_212 : decode cX5_work 212 = .ok (.lload 6, 2) := by decide +kernel
theorem dX5_work_214 : decode cX5_work 214 = .ok (.lload 8, 2) := by decide +kernel
theorem dX5_work_216 : decode cX5_work 216 = .ok (.lsub, 1) := by decide +kernel
theorem dX5_work_217 : decode cX5_work 217 = .ok (.lstore 15, 2) := by decide +kernel
theorem dX5_work_219 : decode cX5_work 219 = .ok (.goto 148, 3) := by decide +kernel
theorem dX5_work_222 : decode cX5_work 222 = .ok (.lload 4, 2) := by decide +kernel
theorem dX5_work_224 : decode cX5_work 224 = .ok (.lload 8, 2) := by decide +kernel
theorem dX5_work_226 : decode cX5_work 226 = .ok (.lmul, 1) := by decide +kernel
theorem dX5_work_227 : decode cX5_work 227 = .ok (.lload 4, 2) := by decide +kernel
theorem dX5_work_229 : decode cX5_work 229 = .ok (.lload 10, 2) := by decide +kernel
theorem dX5_work_231 : decode cX5_work 231 = .ok (.lmul, 1) := by decide +kernel
theorem dX5_work_232 : decode cX5_work 232 = .ok (.invokestatic 99, 3) := by decide +kernel
theorem dX5_work_235 : decode cX5_work 235 = .ok (.lload 6, 2) := by decide +kernel
theorem dX5_work_237 : decode cX5_work 237 = .ok (.lload 8, 2) := by decide +kernel
theorem dX5_work_239 : decode cX5_work 239 = .ok (.lmul, 1) := by decide +kernel
theorem dX5_work_240 : decode cX5_work 240 = .ok (.lload 6, 2) := by decide +kernel
theorem dX5_work_242 : decode cX5_work 242 = .ok (.lload 10, 2) := by decide +kernel
theorem dX5_work_244 : decode cX5_work 244 = .ok (.lmul, 1) := by decide +kernel
theorem dX5_work_245 : decode cX5_work 245 = .ok (.invokestatic 99, 3) := by decide +kernel
theorem dX5_work_248 : decode cX5_work 248 = .ok (.invokestatic 99, 3) := by decide +kernel
theorem dX5_work_251 : decode cX5_work 251 = .ok (.ldc2_w 102, 3) := by decide +kernel
theorem dX5_work_254 : decode cX5_work 254 = .ok (.ldiv, 1) := by decide +kernel
theorem dX5_work_255 : decode cX5_work 255 = .ok (.lstore 13, 2) := by decide +kernel
theorem dX5_work_257 : decode cX5_work 257 = .ok (.lload 4, 2) := by decide +kernel
theorem dX5_work_259 : decode cX5_work 259 = .ok (.lload 8, 2) := by decide +kernel
theorem dX5_work_261 : decode cX5_work 261 = .ok (.lmul, 1) := by decide +kernel
theorem dX5_work_262 : decode cX5_work 262 = .ok (.lload 4, 2) := by decide +kernel
theorem dX5_work_264 : decode cX5_work 264 = .ok (.lload 10, 2) := by decide +kernel
theorem dX5_work_266 : decode cX5_work 266 = .ok (.lmul, 1) := by decide +kernel
theorem dX5_work_267 : decode cX5_work 267 = .ok (.invokestatic 95, 3) := by decide +kernel
theorem dX5_work_270 : decode cX5_work 270 = .ok (.lload 6, 2) := by decide +kernel
theorem dX5_work_272 : decode cX5_work 272 = .ok (.lload 8, 2) := by decide +kernel
theorem dX5_work_274 : decode cX5_work 274 = .ok (.lmul, 1) := by decide +kernel
theorem dX5_work_275 : decode cX5_work 275 = .ok (.lload 6, 2) := by decide +kernel
theorem dX5_work_277 : decode cX5_work 277 = .ok (.lload 10, 2) := by decide +kernel
theorem dX5_work_279 : decode cX5_work 279 = .ok (.lmul, 1) := by decide +kernel
theorem dX5_work_280 : decode cX5_work 280 = .ok (.invokestatic 95, 3) := by decide +kernel
theorem dX5_work_283 : decode cX5_work 283 = .ok (.invokestatic 95, 3) := by decide +kernel
theorem dX5_work_286 : decode cX5_work 286 = .ok (.ldc2_w 102, 3) := by decide +kernel
theorem dX5_work_289 : decode cX5_work 289 = .ok (.ldiv, 1) := by decide +kernel
theorem dX5_work_290 : decode cX5_work 290 = .ok (.lstore 15, 2) := by decide +kernel
theorem dX5_work_292 : decode cX5_work 292 = .ok (.goto 75, 3) := by decide +kernel
theorem dX5_work_295 : decode cX5_work 295 = .ok (.lload 4, 2) := by decide +kernel
theorem dX5_work_297 : decode cX5_work 297 = .ok (.lload 8, 2) := by decide +kernel
theorem dX5_work_299 : decode cX5_work 299 = .ok (.invokestatic 95, 3) := by decide +kernel
theorem dX5_work_302 : decode cX5_work 302 = .ok (.lstore 13, 2) := by decide +kernel
theorem dX5_work_304 : decode cX5_work 304 = .ok (.lload 6, 2) := by decide +kernel
theorem dX5_work_306 : decode cX5_work 306 = .ok (.lload 10, 2) := by decide +kernel
theorem dX5_work_308 : decode cX5_work 308 = .ok (.invokestatic 95, 3) := by decide +kernel
theorem dX5_work_311 : decode cX5_work 311 = .ok (.lstore 15, 2) := by decide +kernel
theorem dX5_work_313 : decode cX5_work 313 = .ok (.goto 54, 3) := by decide +kernel
theorem dX5_work_316 : decode cX5_work 316 = .ok (.lload 4, 2) := by decide +kernel
theorem dX5_work_318 : decode cX5_work 318 = .ok (.lconst 0, 1) := by decide +kernel
theorem dX5_work_319 : decode cX5_work 319 = .ok (.lcmp, 1) := by decide +kernel
theorem dX5_work_320 : decode cX5_work 320 = .ok (.ifCond .gt 14, 3) := by decide +kernel
theorem dX5_work_323 : decode cX5_work 323 = .ok (.lload 6, 2) := by decide +kernel
theorem dX5_work_325 : decode cX5_work 325 = .ok (.lconst 0, 1) := by decide +kernel
theorem dX5_work_326 : decode cX5_work 326 = .ok (.lcmp, 1) := by decide +kernel
theorem dX5_work_327 : decode cX5_work 327 = .ok (.ifCond .lt 7, 3) := by decide +kernel
theorem dX5_work_330 : decode cX5_work 330 = .ok (.lconst 0, 1) := by decide +kernel
theorem dX5_work_331 : decode cX5_work 331 = .ok (.goto 16, 3) := by decide +kernel
theorem dX5_work_334 : decode cX5_work 334 = .ok (.lload 4, 2) := by decide +kernel
theorem dX5_work_336 : decode cX5_work 336 = .ok (.invokestatic 104, 3) := by decide +kernel
theorem dX5_work_339 : decode cX5_work 339 = .ok (.lload 6, 2) := by decide +kernel
theorem dX5_work_341 : decode cX5_work 341 = .ok (.invokestatic 104, 3) := by decide +kernel
theorem dX5_work_344 : decode cX5_work 344 = .ok (.invokestatic 99, 3) := by decide +kernel
theorem dX5_work_347 : decode cX5_work 347 = .ok (.lstore 13, 2) := by decide +kernel
theorem dX5_work_349 : decode cX5_work 349 = .ok (.lload 4, 2) := by decide +kernel
theorem dX5_work_351 : decode cX5_work 351 = .ok (.invokestatic 104, 3) := by decide +kernel
theorem dX5_work_354 : decode cX5_work 354 = .ok (.lload 6, 2) := by decide +kernel
theorem dX5_work_356 : decode cX5_work 356 = .ok (.invokestatic 104, 3) := by decide +kernel
theorem dX5_work_359 : decode cX5_work 359 = .ok (.invokestatic 95, 3) := by decide +kernel
theorem dX5_work_362 : decode cX5_work 362 = .ok (.lstore 15, 2) := by decide +kernel
theorem dX5_work_364 : decode cX5_work 364 = .ok (.goto 3, 3) := by decide +kernel
theorem dX5_work_367 : decode cX5_work 367 = .ok (.iload 12, 2) := by decide +kernel
theorem dX5_work_369 : decode cX5_work 369 = .ok (.iconst 4, 1) := by decide +kernel
theorem dX5_work_370 : decode cX5_work 370 = .ok (.if_icmp .gt 31, 3) := by decide +kernel
theorem dX5_work_373 : decode cX5_work 373 = .ok (.lload 13, 2) := by decide +kernel
theorem dX5_work_375 : decode cX5_work 375 = .ok (.ldc2_w 108, 3) := by decide +kernel
theorem dX5_work_378 : decode cX5_work 378 = .ok (.ldc2_w 110, 3) := by decide +kernel
theorem dX5_work_381 : decode cX5_work 381 = .ok (.invokestatic 72, 3) := by decide +kernel
theorem dX5_work_384 : decode cX5_work 384 = .ok (.ifCond .eq 17, 3) := by decide +kernel
theorem dX5_work_387 : decode cX5_work 387 = .ok (.lload 15, 2) := by decide +kernel
theorem dX5_work_389 : decode cX5_work 389 = .ok (.ldc2_w 108, 3) := by decide +kernel
theorem dX5_work_392 : decode cX5_work 392 = .ok (.ldc2_w 110, 3) := by decide +kernel
theorem dX5_work_395 : decode cX5_work 395 = .ok (.invokestatic 72, 3) := by decide +kernel
theorem dX5_work_398 : decode cX5_work 398 = .ok (.ifCond .ne 6, 3) := by decide +kernel
theorem dX5_work_401 : decode cX5_work 401 = .ok (.bipush (-4), 2) := by decide +kernel
theorem dX5_work_403 : decode cX5_work 403 = .ok (.ireturn, 1) := by decide +kernel
theorem dX5_work_404 : decode cX5_work 404 = .ok (.aload_n 0, 1) := by decide +kernel
theorem dX5_work_405 : decode cX5_work 405 = .ok (.iload_n 1, 1) := by decide +kernel
theorem dX5_work_406 : decode cX5_work 406 = .ok (.iload_n 2, 1) := by decide +kernel
theorem dX5_work_407 : decode cX5_work 407 = .ok (.iload_n 3, 1) := by decide +kernel
theorem dX5_work_408 : decode cX5_work 408 = .ok (.iload 12, 2) := by decide +kernel
theorem dX5_work_410 : decode cX5_work 410 = .ok (.lload 13, 2) := by decide +kernel
theorem dX5_work_412 : decode cX5_work 412 = .ok (.lload 15, 2) := by decide +kernel
theorem dX5_work_414 : decode cX5_work 414 = .ok (.invokevirtual 87, 3) := by decide +kernel
theorem dX5_work_417 : decode cX5_work 417 = .ok (.ireturn, 1) := by decide +kernel
theorem dX5_cut_0 : decode cX5_cut 0 = .ok (.iload_n 1, 1) := by decide +kernel
theorem dX5_cut_1 : decode cX5_cut 1 = .ok (.i2l, 1) := by decide +kernel
theorem dX5_cut_2 : decode cX5_cut 2 = .ok (.lconst 0, 1) := by decide +kernel
theorem dX5_cut_3 : decode cX5_cut 3 = .ok (.aload_n 0, 1) := by decide +kernel
theorem dX5_cut_4 : decode cX5_cut 4 = .ok (.getfield 68, 3) := by decide +kernel
theorem dX5_cut_7 : decode cX5_cut 7 = .ok (.i2l, 1) := by decide +kernel
theorem dX5_cut_8 : decode cX5_cut 8 = .ok (.invokestatic 72, 3) := by decide +kernel
theorem dX5_cut_11 : decode cX5_cut 11 = .ok (.ifCond .ne 6, 3) := by decide +kernel
theorem dX5_cut_14 : decode cX5_cut 14 = .ok (.bipush (-2), 2) := by decide +kernel
theorem dX5_cut_16 : decode cX5_cut 16 = .ok (.ireturn, 1) := by decide +kernel
theorem dX5_cut_17 : decode cX5_cut 17 = .ok (.aload_n 0, 1) := by decide +kernel
theorem dX5_cut_18 : decode cX5_cut 18 = .ok (.getfield 68, 3) := by decide +kernel
theorem dX5_cut_21 : decode cX5_cut 21 = .ok (.iload_n 1, 1) := by decide +kernel
theorem dX5_cut_22 : decode cX5_cut 22 = .ok (.isub, 1) := by decide +kernel
theorem dX5_cut_23 : decode cX5_cut 23 = .ok (.istore_n 2, 1) := by decide +kernel
theorem dX5_cut_24 : decode cX5_cut 24 = .ok (.aload_n 0, 1) := by decide +kernel
theorem dX5_cut_25 : decode cX5_cut 25 = .ok (.iload_n 1, 1) := by decide +kernel
theorem dX5_cut_26 : decode cX5_cut 26 = .ok (.putfield 68, 3) := by decide +kernel
theorem dX5_cut_29 : decode cX5_cut 29 = .ok (.iload_n 2, 1) := by decide +kernel
theorem dX5_cut_30 : decode cX5_cut 30 = .ok (.ireturn, 1) := by decide +kernel
theorem dX5_bits_0 : decode cX5_bits 0 = .ok (.aload_n 0, 1) := by decide +kernel
theorem dX5_bits_1 : decode cX5_bits 1 = .ok (.iload_n 1, 1) := by decide +kernel
theorem dX5_bits_2 : decode cX5_bits 2 = .ok (.invokevirtual 112, 3) := by decide +kernel
theorem dX5_bits_5 : decode cX5_bits 5 = .ok (.ifCond .eq 15, 3) := by decide +kernel
theorem dX5_bits_8 : decode cX5_bits 8 = .ok (.iload_n 2, 1) := by decide +kernel
theorem dX5_bits_9 : decode cX5_bits 9 = .ok (.i2l, 1) := by decide +kernel
theorem dX5_bits_10 : decode cX5_bits 10 = .ok (.lconst 0, 1) := by decide +kernel
theorem dX5_bits_11 : decode cX5_bits 11 = .ok (.ldc2_w 115, 3) := by decide +kernel
theorem dX5_bits_14 : decode cX5_bits 14 = .ok (.invokestatic 72, 3) := by decide +kernel
theorem dX5_bits_17 : decode cX5_bits 17 = .ok (.ifCond .ne 6, 3) := by decide +kernel
theorem dX5_bits_20 : decode cX5_bits 20 = .ok (.bipush (-2), 2) := by decide +kernel
theorem dX5_bits_22 : decode cX5_bits 22 = .ok (.ireturn, 1) := by decide +kernel
theorem dX5_bits_23 : decode cX5_bits 23 = .ok (.aload_n 0, 1) := by decide +kernel
theorem dX5_bits_24 : decode cX5_bits 24 = .ok (.getfield 29, 3) := by decide +kernel
theorem dX5_bits_27 : decode cX5_bits 27 = .ok (.iload_n 1, 1) := by decide +kernel
theorem dX5_bits_28 : decode cX5_bits 28 = .ok (.iaload, 1) := by decide +kernel
theorem dX5_bits_29 : decode cX5_bits 29 = .ok (.istore_n 3, 1) := by decide +kernel
theorem dX5_bits_30 : decode cX5_bits 30 = .ok (.aload_n 0, 1) := by decide +kernel
theorem dX5_bits_31 : decode cX5_bits 31 = .ok (.getfield 29, 3) := by decide +kernel
theorem dX5_bits_34 : decode cX5_bits 34 = .ok (.iload_n 1, 1) := by decide +kernel
theorem dX5_bits_35 : decode cX5_bits 35 = .ok (.iload_n 2, 1) := by decide +kernel
theorem dX5_bits_36 : decode cX5_bits 36 = .ok (.iastore, 1) := by decide +kernel
theorem dX5_bits_37 : decode cX5_bits 37 = .ok (.iload_n 3, 1) := by decide +kernel
theorem dX5_bits_38 : decode cX5_bits 38 = .ok (.ireturn, 1) := by decide +kernel
theorem dX5_rounding_0 : decode cX5_rounding 0 = .ok (.aload_n 0, 1) := by decide +kernel
theorem dX5_rounding_1 : decode cX5_rounding 1 = .ok (.iload_n 1, 1) := by decide +kernel
theorem dX5_rounding_2 : decode cX5_rounding 2 = .ok (.invokevirtual 112, 3) := by decide +kernel
theorem dX5_rounding_5 : decode cX5_rounding 5 = .ok (.ifCond .eq 15, 3) := by decide +kernel
theorem dX5_rounding_8 : decode cX5_rounding 8 = .ok (.iload_n 2, 1) := by decide +kernel
theorem dX5_rounding_9 : decode cX5_rounding 9 = .ok (.i2l, 1) := by decide +kernel
theorem dX5_rounding_10 : decode cX5_rounding 10 = .ok (.lconst 0, 1) := by decide +kernel
theorem dX5_rounding_11 : decode cX5_rounding 11 = .ok (.ldc2_w 91, 3) := by decide +kernel
theorem dX5_rounding_14 : decode cX5_rounding 14 = .ok (.invokestatic 72, 3) := by decide +kernel
theorem dX5_rounding_17 : decode cX5_rounding 17 = .ok (.ifCond .ne 6, 3) := by decide +kernel
theorem dX5_rounding_20 : decode cX5_rounding 20 = .ok (.bipush (-2), 2) := by decide +kernel
theorem dX5_rounding_22 : decode cX5_rounding 22 = .ok (.ireturn, 1) := by decide +kernel
theorem dX5_rounding_23 : decode cX5_rounding 23 = .ok (.aload_n 0, 1) := by decide +kernel
theorem dX5_rounding_24 : decode cX5_rounding 24 = .ok (.getfield 32, 3) := by decide +kernel
theorem dX5_rounding_27 : decode cX5_rounding 27 = .ok (.iload_n 1, 1) := by decide +kernel
theorem dX5_rounding_28 : decode cX5_rounding 28 = .ok (.iaload, 1) := by decide +kernel
theorem dX5_rounding_29 : decode cX5_rounding 29 = .ok (.istore_n 3, 1) := by decide +kernel
theorem dX5_rounding_30 : decode cX5_rounding 30 = .ok (.aload_n 0, 1) := by decide +kernel
theorem dX5_rounding_31 : decode cX5_rounding 31 = .ok (.getfield 32, 3) := by decide +kernel
theorem dX5_rounding_34 : decode cX5_rounding 34 = .ok (.iload_n 1, 1) := by decide +kernel
theorem dX5_rounding_35 : decode cX5_rounding 35 = .ok (.iload_n 2, 1) := by decide +kernel
theorem dX5_rounding_36 : decode cX5_rounding 36 = .ok (.iastore, 1) := by decide +kernel
theorem dX5_rounding_37 : decode cX5_rounding 37 = .ok (.iload_n 3, 1) := by decide +kernel
theorem dX5_rounding_38 : decode cX5_rounding 38 = .ok (.ireturn, 1) := by decide +kernel
theorem dX5_weight_0 : decode cX5_weight 0 = .ok (.aload_n 0, 1) := by decide +kernel
theorem dX5_weight_1 : decode cX5_weight 1 = .ok (.iload_n 1, 1) := by decide +kernel
theorem dX5_weight_2 : decode cX5_weight 2 = .ok (.invokevirtual 112, 3) := by decide +kernel
theorem dX5_weight_5 : decode cX5_weight 5 = .ok (.ifCond .eq 15, 3) := by decide +kernel
theorem dX5_weight_8 : decode cX5_weight 8 = .ok (.iload_n 2, 1) := by decide +kernel
theorem dX5_weight_9 : decode cX5_weight 9 = .ok (.i2l, 1) := by decide +kernel
theorem dX5_weight_10 : decode cX5_weight 10 = .ok (.lconst 0, 1) := by decide +kernel
theorem dX5_weight_11 : decode cX5_weight 11 = .ok (.ldc2_w 117, 3) := by decide +kernel
theorem dX5_weight_14 : decode cX5_weight 14 = .ok (.invokestatic 72, 3) := by decide +kernel
theorem dX5_weight_17 : decode cX5_weight 17 = .ok (.ifCond .ne 6, 3) := by decide +kernel
theorem dX5_weight_20 : decode cX5_weight 20 = .ok (.bipush (-2), 2) := by decide +kernel
theorem dX5_weight_22 : decode cX5_weight 22 = .ok (.ireturn, 1) := by decide +kernel
theorem dX5_weight_23 : decode cX5_weight 23 = .ok (.aload_n 0, 1) := by decide +kernel
theorem dX5_weight_24 : decode cX5_weight 24 = .ok (.getfield 35, 3) := by decide +kernel
theorem dX5_weight_27 : decode cX5_weight 27 = .ok (.iload_n 1, 1) := by decide +kernel
theorem dX5_weight_28 : decode cX5_weight 28 = .ok (.iaload, 1) := by decide +kernel
theorem dX5_weight_29 : decode cX5_weight 29 = .ok (.istore_n 3, 1) := by decide +kernel
theorem dX5_weight_30 : decode cX5_weight 30 = .ok (.aload_n 0, 1) := by decide +kernel
theorem dX5_weight_31 : decode cX5_weight 31 = .ok (.getfield 35, 3) := by decide +kernel
theorem dX5_weight_34 : decode cX5_weight 34 = .ok (.iload_n 1, 1) := by decide +kernel
theorem dX5_weight_35 : decode cX5_weight 35 = .ok (.iload_n 2, 1) := by decide +kernel
theorem dX5_weight_36 : decode cX5_weight 36 = .ok (.iastore, 1) := by decide +kernel
theorem dX5_weight_37 : decode cX5_weight 37 = .ok (.iload_n 3, 1) := by decide +kernel
theorem dX5_weight_38 : decode cX5_weight 38 = .ok (.ireturn, 1) := by decide +kernel
theorem dX5_greatest_0 : decode cX5_greatest 0 = .ok (.aload_n 0, 1) := by decide +kernel
theorem dX5_greatest_1 : decode cX5_greatest 1 = .ok (.getfield 22, 3) := by decide +kernel
theorem dX5_greatest_4 : decode cX5_greatest 4 = .ok (.iload_n 1, 1) := by decide +kernel
theorem dX5_greatest_5 : decode cX5_greatest 5 = .ok (.laload, 1) := by decide +kernel
theorem dX5_greatest_6 : decode cX5_greatest 6 = .ok (.invokestatic 104, 3) := by decide +kernel
theorem dX5_greatest_9 : decode cX5_greatest 9 = .ok (.aload_n 0, 1) := by decide +kernel
theorem dX5_greatest_10 : decode cX5_greatest 10 = .ok (.getfield 26, 3) := by decide +kernel
theorem dX5_greatest_13 : decode cX5_greatest 13 = .ok (.iload_n 1, 1) := by decide +kernel
theorem dX5_greatest_14 : decode cX5_greatest 14 = .ok (.laload, 1) := by decide +kernel
theorem dX5_greatest_15 : decode cX5_greatest 15 = .ok (.invokestatic 104, 3) := by decide +kernel
theorem dX5_greatest_18 : decode cX5_greatest 18 = .ok (.invokestatic 95, 3) := by decide +kernel
theorem dX5_greatest_21 : decode cX5_greatest 21 = .ok (.lreturn, 1) := by decide +kernel
theorem dX5_up_0 : decode cX5_up 0 = .ok (.lload_n 0, 1) := by decide +kernel
theorem dX5_up_1 : decode cX5_up 1 = .ok (.ldc2_w 102, 3) := by decide +kernel
theorem dX5_up_4 : decode cX5_up 4 = .ok (.ldiv, 1) := by decide +kernel
theorem dX5_up_5 : decode cX5_up 5 = .ok (.lload_n 0, 1) := by decide +kernel
theorem dX5_up_6 : decode cX5_up 6 = .ok (.ldc2_w 102, 3) := by decide +kernel
theorem dX5_up_9 : decode cX5_up 9 = .ok (.lrem, 1) := by decide +kernel
theorem dX5_up_10 : decode cX5_up 10 = .ok (.lconst 0, 1) := by decide +kernel
theorem dX5_up_11 : decode cX5_up 11 = .ok (.lcmp, 1) := by decide +kernel
theorem dX5_up_12 : decode cX5_up 12 = .ok (.ifCond .le 7, 3) := by decide +kernel
theorem dX5_up_15 : decode cX5_up 15 = .ok (.lconst 1, 1) := by decide +kernel
theorem dX5_up_16 : decode cX5_up 16 = .ok (.goto 4, 3) := by decide +kernel
theorem dX5_up_19 : decode cX5_up 19 = .ok (.lconst 0, 1) := by decide +kernel
theorem dX5_up_20 : decode cX5_up 20 = .ok (.ladd, 1) := by decide +kernel
theorem dX5_up_21 : decode cX5_up 21 = .ok (.lreturn, 1) := by decide +kernel
theorem dX5_bound_0 : decode cX5_bound 0 = .ok (.iconst 0, 1) := by decide +kernel
theorem dX5_bound_1 : decode cX5_bound 1 = .ok (.istore_n 2, 1) := by decide +kernel
theorem dX5_bound_2 : decode cX5_bound 2 = .ok (.iload_n 2, 1) := by decide +kernel
theorem dX5_bound_3 : decode cX5_bound 3 = .ok (.iload_n 1, 1) := by decide +kernel
theorem dX5_bound_4 : decode cX5_bound 4 = .ok (.if_icmp .gt 234, 3) := by decide +kernel
theorem dX5_bound_7 : decode cX5_bound 7 = .ok (.aload_n 0, 1) := by decide +kernel
theorem dX5_bound_8 : decode cX5_bound 8 = .ok (.getfield 7, 3) := by decide +kernel
theorem dX5_bound_11 : decode cX5_bound 11 = .ok (.iload_n 2, 1) := by decide +kernel
theorem dX5_bound_12 : decode cX5_bound 12 = .ok (.iaload, 1) := by decide +kernel
theorem dX5_bound_13 : decode cX5_bound 13 = .ok (.iconst 1, 1) := by decide +kernel
theorem dX5_bound_14 : decode cX5_bound 14 = .ok (.if_icmp .gt 13, 3) := by decide +kernel
theorem dX5_bound_17 : decode cX5_bound 17 = .ok (.aload_n 0, 1) := by decide +kernel
theorem dX5_bound_18 : decode cX5_bound 18 = .ok (.getfield 41, 3) := by decide +kernel
theorem dX5_bound_21 : decode cX5_bound 21 = .ok (.iload_n 2, 1) := by decide +kernel
theorem dX5_bound_22 : decode cX5_bound 22 = .ok (.lconst 0, 1) := by decide +kernel
theorem dX5_bound_23 : decode cX5_bound 23 = .ok (.lastore, 1) := by decide +kernel
theorem dX5_bound_24 : decode cX5_bound 24 = .ok (.goto 208, 3) := by decide +kernel
theorem dX5_bound_27 : decode cX5_bound 27 = .ok (.ldc 119, 2) := by decide +kernel
theorem dX5_bound_29 : decode cX5_bound 29 = .ok (.aload_n 0, 1) := by decide +kernel
theorem dX5_bound_30 : decode cX5_bound 30 = .ok (.getfield 29, 3) := by decide +kernel
theorem dX5_bound_33 : decode cX5_bound 33 = .ok (.iload_n 2, 1) := by decide +kernel
theorem dX5_bound_34 : decode cX5_bound 34 = .ok (.iaload, 1) := by decide +kernel
theorem dX5_bound_35 : decode cX5_bound 35 = .ok (.ishr, 1) := by decide +kernel
theorem dX5_bound_36 : decode cX5_bound 36 = .ok (.istore_n 3, 1) := by decide +kernel
theorem dX5_bound_37 : decode cX5_bound 37 = .ok (.aload_n 0, 1) := by decide +kernel
theorem dX5_bound_38 : decode cX5_bound 38 = .ok (.getfield 32, 3) := by decide +kernel
theorem dX5_bound_41 : decode cX5_bound 41 = .ok (.iload_n 2, 1) := by decide +kernel
theorem dX5_bound_42 : decode cX5_bound 42 = .ok (.iaload, 1) := by decide +kernel
theorem dX5_bound_43 : decode cX5_bound 43 = .ok (.iconst 1, 1) := by decide +kernel
theorem dX5_bound_44 : decode cX5_bound 44 = .ok (.if_icmp .ne 10, 3) := by decide +kernel
theorem dX5_bound_47 : decode cX5_bound 47 = .ok (.iload_n 3, 1) := by decide +kernel
theorem dX5_bound_48 : decode cX5_bound 48 = .ok (.iconst 2, 1) := by decide +kernel
theorem dX5_bound_49 : decode cX5_bound 49 = .ok (.idiv, 1) := by decide +kernel
theorem dX5_bound_50 : decode cX5_bound 50 = .ok (.i2l, 1) := by decide +kernel
theorem dX5_bound_51 : decode cX5_bound 51 = .ok (.goto 7, 3) := by decide +kernel
theorem dX5_bound_54 : decode cX5_bound 54 = .ok (.iload_n 3, 1) := by decide +kernel
theorem dX5_bound_55 : decode cX5_bound 55 = .ok (.iconst 1, 1) := by decide +kernel
theorem dX5_bound_56 : decode cX5_bound 56 = .ok (.isub, 1) := by decide +kernel
theorem dX5_bound_57 : decode cX5_bound 57 = .ok (.i2l, 1) := by decide +kernel
theorem dX5_bound_58 : decode cX5_bound 58 = .ok (.lstore 4, 2) := by decide +kernel
theorem dX5_bound_60 : decode cX5_bound 60 = .ok (.aload_n 0, 1) := by decide +kernel
theorem dX5_bound_61 : decode cX5_bound 61 = .ok (.getfield 41, 3) := by decide +kernel
theorem dX5_bound_64 : decode cX5_bound 64 = .ok (.aload_n 0, 1) := by decide +kernel
theorem dX5_bound_65 : decode cX5_bound 65 = .ok (.getfield 13, 3) := by decide +kernel
theorem dX5_bound_68 : decode cX5_bound 68 = .ok (.iload_n 2, 1) := by decide +kernel
theorem dX5_bound_69 : decode cX5_bound 69 = .ok (.iaload, 1) := by decide +kernel
theorem dX5_bound_70 : decode cX5_bound 70 = .ok (.laload, 1) := by decide +kernel
theorem dX5_bound_71 : decode cX5_bound 71 = .ok (.lstore 6, 2) := by decide +kernel
theorem dX5_bound_73 : decode cX5_bound 73 = .ok (.aload_n 0, 1) := by decide +kernel
theorem dX5_bound_74 : decode cX5_bound 74 = .ok (.getfield 41, 3) := by decide +kernel
theorem dX5_bound_77 : decode cX5_bound 77 = .ok (.aload_n 0, 1) := by decide +kernel
theorem dX5_bound_78 : decode cX5_bound 78 = .ok (.getfield 16, 3) := by decide +kernel
theorem dX5_bound_81 : decode cX5_bound 81 = .ok (.iload_n 2, 1) := by decide +kernel
theorem dX5_bound_82 : decode cX5_bound 82 = .ok (.iaload, 1) := by decide +kernel
theorem dX5_bound_83 : decode cX5_bound 83 = .ok (.laload, 1) := by decide +kernel
theorem dX5_bound_84 : decode cX5_bound 84 = .ok (.lstore 8, 2) := by decide +kernel
theorem dX5_bound_86 : decode cX5_bound 86 = .ok (.aload_n 0, 1) := by decide +kernel
theorem dX5_bound_87 : decode cX5_bound 87 = .ok (.getfield 7, 3) := by decide +kernel
theorem dX5_bound_90 : decode cX5_bound 90 = .ok (.iload_n 2, 1) := by decide +kernel
theorem dX5_bound_91 : decode cX5_bound 91 = .ok (.iaload, 1) := by decide +kernel
theorem dX5_bound_92 : decode cX5_bound 92 = .ok (.tableswitch 119 2 5 #[32, 32, 42, 107], 32) := by decide +kernel
theorem dX5_bound_124 : decode cX5_bound 124 = .ok (.lload 6, 2) := by decide +kernel
theorem dX5_bound_126 : decode cX5_bound 126 = .ok (.lload 8, 2) := by decide +kernel
theorem dX5_bound_128 : decode cX5_bound 128 = .ok (.ladd, 1) := by decide +kernel
theorem dX5_bound_129 : decode cX5_bound 129 = .ok (.lstore 10, 2) := by decide +kernel
theorem dX5_bound_131 : decode cX5_bound 131 = .ok (.goto 84, 3) := by decide +kernel
theorem dX5_bound_134 : decode cX5_bound 134 = .ok (.lload 6, 2) := by decide +kernel
theorem dX5_bound_136 : decode cX5_bound 136 = .ok (.ldc2_w 120, 3) := by decide +kernel
theorem dX5_bound_139 : decode cX5_bound 139 = .ok (.lcmp, 1) := by decide +kernel
theorem dX5_bound_140 : decode cX5_bound 140 = .ok (.ifCond .eq 12, 3) := by decide +kernel
theorem dX5_bound_143 : decode cX5_bound 143 = .ok (.lload 8, 2) := by decide +kernel
theorem dX5_bound_145 : decode cX5_bound 145 = .ok (.ldc2_w 120, 3) := by decide +kernel
theorem dX5_bound_148 : decode cX5_bound 148 = .ok (.lcmp, 1) := by decide +kernel
theorem dX5_bound_149 : decode cX5_bound 149 = .ok (.ifCond .ne 9, 3) := by decide +kernel
theorem dX5_bound_152 : decode cX5_bound 152 = .ok (.ldc2_w 120, 3) := by decide +kernel
theorem dX5_bound_155 : decode cX5_bound 155 = .ok (.goto 39, 3) := by decide +kernel
theorem dX5_bound_158 : decode cX5_bound 158 = .ok (.aload_n 0, 1) := by decide +kernel
theorem dX5_bound_159 : decode cX5_bound 159 = .ok (.aload_n 0, 1) := by decide +kernel
theorem dX5_bound_160 : decode cX5_bound 160 = .ok (.getfield 13, 3) := by decide +kernel
theorem dX5_bound_163 : decode cX5_bound 163 = .ok (.iload_n 2, 1) := by decide +kernel
theorem dX5_bound_164 : decode cX5_bound 164 = .ok (.iaload, 1) := by decide +kernel
theorem dX5_bound_165 : decode cX5_bound 165 = .ok (.invokevirtual 122, 3) := by decide +kernel
theorem dX5_bound_168 : decode cX5_bound 168 = .ok (.lload 8, 2) := by decide +kernel
theorem dX5_bound_170 : decode cX5_bound 170 = .ok (.lmul, 1) := by decide +kernel
theorem dX5_bound_171 : decode cX5_bound 171 = .ok (.aload_n 0, 1) := by decide +kernel
theorem dX5_bound_172 : decode cX5_bound 172 = .ok (.aload_n 0, 1) := by decide +kernel
theorem dX5_bound_173 : decode cX5_bound 173 = .ok (.getfield 16, 3) := by decide +kernel
theorem dX5_bound_176 : decode cX5_bound 176 = .ok (.iload_n 2, 1) := by decide +kernel
theorem dX5_bound_177 : decode cX5_bound 177 = .ok (.iaload, 1) := by decide +kernel
theorem dX5_bound_178 : decode cX5_bound 178 = .ok (.invokevirtual 122, 3) := by decide +kernel
theorem dX5_bound_181 : decode cX5_bound 181 = .ok (.lload 6, 2) := by decide +kernel
theorem dX5_bound_183 : decode cX5_bound 183 = .ok (.lmul, 1) := by decide +kernel
theorem dX5_bound_184 : decode cX5_bound 184 = .ok (.ladd, 1) := by decide +kernel
theorem dX5_bound_185 : decode cX5_bound 185 = .ok (.lload 6, 2) := by decide +kernel
theorem dX5_bound_187 : decode cX5_bound 187 = .ok (.lload 8, 2) := by decide +kernel
theorem dX5_bound_189 : decode cX5_bound 189 = .ok (.lmul, 1) := by decide +kernel
theorem dX5_bound_190 : decode cX5_bound 190 = .ok (.ladd, 1) := by decide +kernel
theorem dX5_bound_191 : decode cX5_bound 191 = .ok (.invokestatic 126, 3) := by decide +kernel
theorem dX5_bound_194 : decode cX5_bound 194 = .ok (.lstore 10, 2) := by decide +kernel
theorem dX5_bound_196 : decode cX5_bound 196 = .ok (.goto 19, 3) := by decide +kernel
theorem dX5_bound_199 : decode cX5_bound 199 = .ok (.lload 6, 2) := by decide +kernel
theorem dX5_bound_201 : decode cX5_bound 201 = .ok (.lload 8, 2) := by decide +kernel
theorem dX5_bound_203 : decode cX5_bound 203 = .ok (.invokestatic 95, 3) := by decide +kernel
theorem dX5_bound_206 : decode cX5_bound 206 = .ok (.lstore 10, 2) := by decide +kernel
theorem dX5_bound_208 : decode cX5_bound 208 = .ok (.goto 7, 3) := by decide +kernel
theorem dX5_bound_211 : decode cX5_bound 211 = .ok (.lload 6, 2) := by decide +kernel
theorem dX5_bound_213 : decode cX5_bound 213 = .ok (.lstore 10, 2) := by decide +kernel
theorem dX5_bound_215 : decode cX5_bound 215 = .ok (.aload_n 0, 1) := by decide +kernel
theorem dX5_bound_216 : decode cX5_bound 216 = .ok (.getfield 41, 3) := by decide +kernel
theorem dX5_bound_219 : decode cX5_bound 219 = .ok (.iload_n 2, 1) := by decide +kernel
theorem dX5_bound_220 : decode cX5_bound 220 = .ok (.ldc2_w 120, 3) := by decide +kernel
theorem dX5_bound_223 : decode cX5_bound 223 = .ok (.lload 10, 2) := by decide +kernel
theorem dX5_bound_225 : decode cX5_bound 225 = .ok (.lload 4, 2) := by decide +kernel
theorem dX5_bound_227 : decode cX5_bound 227 = .ok (.ladd, 1) := by decide +kernel
theorem dX5_bound_228 : decode cX5_bound 228 = .ok (.invokestatic 99, 3) := by decide +kernel
theorem dX5_bound_231 : decode cX5_bound 231 = .ok (.lastore, 1) := by decide +kernel
theorem dX5_bound_232 : decode cX5_bound 232 = .ok (.iinc 2 1, 3) := by decide +kernel
theorem dX5_bound_235 : decode cX5_bound 235 = .ok (.goto (-233), 3) := by decide +kernel
theorem dX5_bound_238 : decode cX5_bound 238 = .ok (.aload_n 0, 1) := by decide +kernel
theorem dX5_bound_239 : decode cX5_bound 239 = .ok (.getfield 41, 3) := by decide +kernel
theorem dX5_bound_242 : decode cX5_bound 242 = .ok (.iload_n 1, 1) := by decide +kernel
