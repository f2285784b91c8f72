theorem dX0_init_0 : decode cX0_init 0 = .ok (.aload_n 0, 1) := by decide +kernel
theorem dX0_init_1 : decode cX0_init 1 = .ok (.invokespecial 3, 3) := by decide +kernel
theorem dX0_init_4 : decode cX0_init 4 = .ok (.aload_n 0, 1) := by decide +kernel
theorem dX0_init_5 : decode cX0_init 5 = .ok (.bipush 16, 2) := by decide +kernel
theorem dX0_init_7 : decode cX0_init 7 = .ok (.anewarray 9, 3) := by decide +kernel
theorem dX0_init_10 : decode cX0_init 10 = .ok (.putfield 11, 3) := by decide +kernel
theorem dX0_init_13 : decode cX0_init 13 = .ok (.iconst 0, 1) := by decide +kernel
theorem dX0_init_14 : decode cX0_init 14 = .ok (.istore_n 1, 1) := by decide +kernel
theorem dX0_init_15 : decode cX0_init 15 = .ok (.iload_n 1, 1) := by decide +kernel
theorem dX0_init_16 : decode cX0_init 16 = .ok (.bipush 16, 2) := by decide +kernel
theorem dX0_init_18 : decode cX0_init 18 = .ok (.if_icmp .ge 22, 3) := by decide +kernel
theorem dX0_init_21 : decode cX0_init 21 = .ok (.aload_n 0, 1) := by decide +kernel
theorem dX0_init_22 : decode cX0_init 22 = .ok (.getfield 11, 3) := by decide +kernel
theorem dX0_init_25 : decode cX0_init 25 = .ok (.iload_n 1, 1) := by decide +kernel
theorem dX0_init_26 : decode cX0_init 26 = .ok (.new 9, 3) := by decide +kernel
theorem dX0_init_29 : decode cX0_init 29 = .ok (.dup, 1) := by decide +kernel
theorem dX0_init_30 : decode cX0_init 30 = .ok (.invokespecial 17, 3) := by decide +kernel
theorem dX0_init_33 : decode cX0_init 33 = .ok (.aastore, 1) := by decide +kernel
theorem dX0_init_34 : decode cX0_init 34 = .ok (.iinc 1 1, 3) := by decide +kernel
theorem dX0_init_37 : decode cX0_init 37 = .ok (.goto (-22), 3) := by decide +kernel
theorem dX0_init_40 : decode cX0_init 40 = .ok (.aload_n 0, 1) := by decide +kernel
theorem dX0_init_41 : decode cX0_init 41 = .ok (.iconst 0, 1) := by decide +kernel
theorem dX0_init_42 : decode cX0_init 42 = .ok (.putfield 18, 3) := by decide +kernel
theorem dX0_init_45 : decode cX0_init 45 = .ok (.return_, 1) := by decide +kernel
theorem dX0_has_0 : decode cX0_has 0 = .ok (.iload_n 1, 1) := by decide +kernel
theorem dX0_has_1 : decode cX0_has 1 = .ok (.ifCond .lt 15, 3) := by decide +kernel
theorem dX0_has_4 : decode cX0_has 4 = .ok (.iload_n 1, 1) := by decide +kernel
theorem dX0_has_5 : decode cX0_has 5 = .ok (.aload_n 0, 1) := by decide +kernel
theorem dX0_has_6 : decode cX0_has 6 = .ok (.getfield 18, 3) := by decide +kernel
theorem dX0_has_9 : decode cX0_has 9 = .ok (.if_icmp .ge 7, 3) := by decide +kernel
theorem dX0_has_12 : decode cX0_has 12 = .ok (.iconst 1, 1) := by decide +kernel
theorem dX0_has_13 : decode cX0_has 13 = .ok (.goto 4, 3) := by decide +kernel
theorem dX0_has_16 : decode cX0_has 16 = .ok (.iconst 0, 1) := by decide +kernel
theorem dX0_has_17 : decode cX0_has 17 = .ok (.ireturn, 1) := by decide +kernel
theorem dX0_isInput_0 : decode cX0_isInput 0 = .ok (.aload_n 0, 1) := by decide +kernel
theorem dX0_isInput_1 : decode cX0_isInput 1 = .ok (.iload_n 1, 1) := by decide +kernel
theorem dX0_isInput_2 : decode cX0_isInput 2 = .ok (.invokevirtual 22, 3) := by decide +kernel
theorem dX0_isInput_5 : decode cX0_isInput 5 = .ok (.ifCond .eq 19, 3) := by decide +kernel
theorem dX0_isInput_8 : decode cX0_isInput 8 = .ok (.aload_n 0, 1) := by decide +kernel
theorem dX0_isInput_9 : decode cX0_isInput 9 = .ok (.getfield 11, 3) := by decide +kernel
theorem dX0_isInput_12 : decode cX0_isInput 12 = .ok (.iload_n 1, 1) := by decide +kernel
theorem dX0_isInput_13 : decode cX0_isInput 13 = .ok (.aaload, 1) := by decide +kernel
theorem dX0_isInput_14 : decode cX0_isInput 14 = .ok (.getfield 26, 3) := by decide +kernel
theorem dX0_isInput_17 : decode cX0_isInput 17 = .ok (.ifCond .ne 7, 3) := by decide +kernel
theorem dX0_isInput_20 : decode cX0_isInput 20 = .ok (.iconst 1, 1) := by decide +kernel
theorem dX0_isInput_21 : decode cX0_isInput 21 = .ok (.goto 4, 3) := by decide +kernel
theorem dX0_isInput_24 : decode cX0_isInput 24 = .ok (.iconst 0, 1) := by decide +kernel
theorem dX0_isInput_25 : decode cX0_isInput 25 = .ok (.ireturn, 1) := by decide +kernel
theorem dX0_isWorked_0 : decode cX0_isWorked 0 = .ok (.aload_n 0, 1) := by decide +kernel
theorem dX0_isWorked_1 : decode cX0_isWorked 1 = .ok (.iload_n 1, 1) := by decide +kernel
theorem dX0_isWorked_2 : decode cX0_isWorked 2 = .ok (.invokevirtual 22, 3) := by decide +kernel
theorem dX0_isWorked_5 : decode cX0_isWorked 5 = .ok (.ifCond .eq 19, 3) := by decide +kernel
theorem dX0_isWorked_8 : decode cX0_isWorked 8 = .ok (.aload_n 0, 1) := by decide +kernel
theorem dX0_isWorked_9 : decode cX0_isWorked 9 = .ok (.getfield 11, 3) := by decide +kernel
theorem dX0_isWorked_12 : decode cX0_isWorked 12 = .ok (.iload_n 1, 1) := by decide +kernel
theorem dX0_isWorked_13 : decode cX0_isWorked 13 = .ok (.aaload, 1) := by decide +kernel
theorem dX0_isWorked_14 : decode cX0_isWorked 14 = .ok (.invokevirtual 29, 3) := by decide +kernel
theorem dX0_isWorked_17 : decode cX0_isWorked 17 = .ok (.ifCond .ne 7, 3) := by decide +kernel
theorem dX0_isWorked_20 : decode cX0_isWorked 20 = .ok (.iconst 1, 1) := by decide +kernel
theorem dX0_isWorked_21 : decode cX0_isWorked 21 = .ok (.goto 4, 3) := by decide +kernel
theorem dX0_isWorked_24 : decode cX0_isWorked 24 = .ok (.iconst 0, 1) := by decide +kernel
theorem dX0_isWorked_25 : decode cX0_isWorked 25 = .ok (.ireturn, 1) := by decide +kernel
theorem dX0_addGiven_0 : decode cX0_addGiven 0 = .ok (.aload_n 0, 1) := by decide +kernel
theorem dX0_addGiven_1 : decode cX0_addGiven 1 = .ok (.getfield 18, 3) := by decide +kernel
theorem dX0_addGiven_4 : decode cX0_addGiven 4 = .ok (.bipush 16, 2) := by decide +kernel
theorem dX0_addGiven_6 : decode cX0_addGiven 6 = .ok (.if_icmp .lt 6, 3) := by decide +kernel
theorem dX0_addGiven_9 : decode cX0_addGiven 9 = .ok (.bipush (-3), 2) := by decide +kernel
theorem dX0_addGiven_11 : decode cX0_addGiven 11 = .ok (.ireturn, 1) := by decide +kernel
theorem dX0_addGiven_12 : decode cX0_addGiven 12 = .ok (.aload_n 0, 1) := by decide +kernel
theorem dX0_addGiven_13 : decode cX0_addGiven 13 = .ok (.getfield 11, 3) := by decide +kernel
theorem dX0_addGiven_16 : decode cX0_addGiven 16 = .ok (.aload_n 0, 1) := by decide +kernel
theorem dX0_addGiven_17 : decode cX0_addGiven 17 = .ok (.getfield 18, 3) := by decide +kernel
theorem dX0_addGiven_20 : decode cX0_addGiven 20 = .ok (.aaload, 1) := by decide +kernel
theorem dX0_addGiven_21 : decode cX0_addGiven 21 = .ok (.astore 4, 2) := by decide +kernel
theorem dX0_addGiven_23 : decode cX0_addGiven 23 = .ok (.aload 4, 2) := by decide +kernel
theorem dX0_addGiven_25 : decode cX0_addGiven 25 = .ok (.iload_n 1, 1) := by decide +kernel
theorem dX0_addGiven_26 : decode cX0_addGiven 26 = .ok (.iload_n 2, 1) := by decide +kernel
theorem dX0_addGiven_27 : decode cX0_addGiven 27 = .ok (.iload_n 3, 1) := by decide +kernel
theorem dX0_addGiven_28 : decode cX0_addGiven 28 = .ok (.invokevirtual 33, 3) := by decide +kernel
theorem dX0_addGiven_31 : decode cX0_addGiven 31 = .ok (.aload 4, 2) := by decide +kernel
theorem dX0_addGiven_33 : decode cX0_addGiven 33 = .ok (.invokevirtual 37, 3) := by decide +kernel
theorem dX0_addGiven_36 : decode cX0_addGiven 36 = .ok (.aload_n 0, 1) := by decide +kernel
theorem dX0_addGiven_37 : decode cX0_addGiven 37 = .ok (.dup, 1) := by decide +kernel
theorem dX0_addGiven_38 : decode cX0_addGiven 38 = .ok (.getfield 18, 3) := by decide +kernel
theorem dX0_addGiven_41 : decode cX0_addGiven 41 = .ok (.dup_x1, 1) := by decide +kernel
theorem dX0_addGiven_42 : decode cX0_addGiven 42 = .ok (.iconst 1, 1) := by decide +kernel
theorem dX0_addGiven_43 : decode cX0_addGiven 43 = .ok (.iadd, 1) := by decide +kernel
theorem dX0_addGiven_44 : decode cX0_addGiven 44 = .ok (.putfield 18, 3) := by decide +kernel
theorem dX0_addGiven_47 : decode cX0_addGiven 47 = .ok (.ireturn, 1) := by decide +kernel
theorem dX0_addWorked_0 : decode cX0_addWorked 0 = .ok (.aload_n 0, 1) := by decide +kernel
theorem dX0_addWorked_1 : decode cX0_addWorked 1 = .ok (.getfield 18, 3) := by decide +kernel
theorem dX0_addWorked_4 : decode cX0_addWorked 4 = .ok (.bipush 16, 2) := by decide +kernel
theorem dX0_addWorked_6 : decode cX0_addWorked 6 = .ok (.if_icmp .lt 6, 3) := by decide +kernel
theorem dX0_addWorked_9 : decode cX0_addWorked 9 = .ok (.bipush (-3), 2) := by decide +kernel
theorem dX0_addWorked_11 : decode cX0_addWorked 11 = .ok (.ireturn, 1) := by decide +kernel
theorem dX0_addWorked_12 : decode cX0_addWorked 12 = .ok (.aload_n 0, 1) := by decide +kernel
theorem dX0_addWorked_13 : decode cX0_addWorked 13 = .ok (.getfield 11, 3) := by decide +kernel
theorem dX0_addWorked_16 : decode cX0_addWorked 16 = .ok (.aload_n 0, 1) := by decide +kernel
theorem dX0_addWorked_17 : decode cX0_addWorked 17 = .ok (.getfield 18, 3) := by decide +kernel
theorem dX0_addWorked_20 : decode cX0_addWorked 20 = .ok (.aaload, 1) := by decide +kernel
theorem dX0_addWorked_21 : decode cX0_addWorked 21 = .ok (.astore 4, 2) := by decide +kernel
theorem dX0_addWorked_23 : decode cX0_addWorked 23 = .ok (.aload 4, 2) := by decide +kernel
theorem dX0_addWorked_25 : decode cX0_addWorked 25 = .ok (.iload_n 1, 1) := by decide +kernel
theorem dX0_addWorked_26 : decode cX0_addWorked 26 = .ok (.iload_n 2, 1) := by decide +kernel
theorem dX0_addWorked_27 : decode cX0_addWorked 27 = .ok (.iload_n 3, 1) := by decide +kernel
theorem dX0_addWorked_28 : decode cX0_addWorked 28 = .ok (.invokevirtual 33, 3) := by decide +kernel
theorem dX0_addWorked_31 : decode cX0_addWorked 31 = .ok (.aload 4, 2) := by decide +kernel
theorem dX0_addWorked_33 : decode cX0_addWorked 33 = .ok (.aload_n 0, 1) := by decide +kernel
theorem dX0_addWorked_34 : decode cX0_addWorked 34 = .ok (.getfield 11, 3) := by decide +kernel
theorem dX0_addWorked_37 : decode cX0_addWorked 37 = .ok (.iload_n 2, 1) := by decide +kernel
theorem dX0_addWorked_38 : decode cX0_addWorked 38 = .ok (.aaload, 1) := by decide +kernel
theorem dX0_addWorked_39 : decode cX0_addWorked 39 = .ok (.aload_n 0, 1) := by decide +kernel
theorem dX0_addWorked_40 : decode cX0_addWorked 40 = .ok (.getfield 11, 3) := by decide +kernel
theorem dX0_addWorked_43 : decode cX0_addWorked 43 = .ok (.iload_n 1, 1) := by decide +kernel
theorem dX0_addWorked_44 : decode cX0_addWorked 44 = .ok (.invokestatic 40, 3) := by decide +kernel
theorem dX0_addWorked_47 : decode cX0_addWorked 47 = .ok (.ifCond .eq 7, 3) := by decide +kernel
theorem dX0_addWorked_50 : decode cX0_addWorked 50 = .ok (.iload_n 3, 1) := by decide +kernel
theorem dX0_addWorked_51 : decode cX0_addWorked 51 = .ok (.goto 4, 3) := by decide +kernel
theorem dX0_addWorked_54 : decode cX0_addWorked 54 = .ok (.iload_n 2, 1) := by decide +kernel
theorem dX0_addWorked_55 : decode cX0_addWorked 55 = .ok (.aaload, 1) := by decide +kernel
theorem dX0_addWorked_56 : decode cX0_addWorked 56 = .ok (.invokevirtual 43, 3) := by decide +kernel
theorem dX0_addWorked_59 : decode cX0_addWorked 59 = .ok (.aload 4, 2) := by decide +kernel
theorem dX0_addWorked_61 : decode cX0_addWorked 61 = .ok (.invokevirtual 47, 3) := by decide +kernel
theorem dX0_addWorked_64 : decode cX0_addWorked 64 = .ok (.ifCond .eq 17, 3) := by decide +kernel
theorem dX0_addWorked_67 : decode cX0_addWorked 67 = .ok (.aload_n 0, 1) := by decide +kernel
theorem dX0_addWorked_68 : decode cX0_addWorked 68 = .ok (.dup, 1) := by decide +kernel
theorem dX0_addWorked_69 : decode cX0_addWorked 69 = .ok (.getfield 18, 3) := by decide +kernel
theorem dX0_addWorked_72 : decode cX0_addWorked 72 = .ok (.dup_x1, 1) := by decide +kernel
theorem dX0_addWorked_73 : decode cX0_addWorked 73 = .ok (.iconst 1, 1) := by decide +kernel
theorem dX0_addWorked_74 : decode cX0_addWorked 74 = .ok (.iadd, 1) := by decide +kernel
theorem dX0_addWorked_75 : decode cX0_addWorked 75 = .ok (.putfield 18, 3) := by decide +kernel
theorem dX0_addWorked_78 : decode cX0_addWorked 78 = .ok (.goto 5, 3) := by decide +kernel
theorem dX0_addWorked_81 : decode cX0_addWorked 81 = .ok (.bipush (-4), 2) := by decide +kernel
theorem dX0_addWorked_83 : decode cX0_addWorked 83 = .ok (.ireturn, 1) := by decide +kernel
theorem dX0_inputs_0 : decode cX0_inputs 0 = .ok (.iconst 0, 1) := by decide +kernel
theorem dX0_inputs_1 : decode cX0_inputs 1 = .ok (.istore_n 1, 1) := by decide +kernel
theorem dX0_inputs_2 : decode cX0_inputs 2 = .ok (.iconst 0, 1) := by decide +kernel
theorem dX0_inputs_3 : decode cX0_inputs 3 = .ok (.istore_n 2, 1) := by decide +kernel
theorem dX0_inputs_4 : decode cX0_inputs 4 = .ok (.iload_n 2, 1) := by decide +kernel
theorem dX0_inputs_5 : decode cX0_inputs 5 = .ok (.aload_n 0, 1) := by decide +kernel
theorem dX0_inputs_6 : decode cX0_inputs 6 = .ok (.getfield 18, 3) := by decide +kernel
theorem dX0_inputs_9 : decode cX0_inputs 9 = .ok (.if_icmp .ge 24, 3) := by decide +kernel
theorem dX0_inputs_12 : decode cX0_inputs 12 = .ok (.aload_n 0, 1) := by decide +kernel
theorem dX0_inputs_13 : decode cX0_inputs 13 = .ok (.getfield 11, 3) := by decide +kernel
theorem dX0_inputs_16 : decode cX0_inputs 16 = .ok (.iload_n 2, 1) := by decide +kernel
theorem dX0_inputs_17 : decode cX0_inputs 17 = .ok (.aaload, 1) := by decide +kernel
theorem dX0_inputs_18 : decode cX0_inputs 18 = .ok (.getfield 26, 3) := by decide +kernel
theorem dX0_inputs_21 : decode cX0_inputs 21 = .ok (.ifCond .ne 6, 3) := by decide +kernel
theorem dX0_inputs_24 : decode cX0_inputs 24 = .ok (.iinc 1 1, 3) := by decide +kernel
theorem dX0_inputs_27 : decode cX0_inputs 27 = .ok (.iinc 2 1, 3) := by decide +kernel
theorem dX0_inputs_30 : decode cX0_inputs 30 = .ok (.goto (-26), 3) := by decide +kernel
theorem dX0_inputs_33 : decode cX0_inputs 33 = .ok (.iload_n 1, 1) := by decide +kernel
theorem dX0_inputs_34 : decode cX0_inputs 34 = .ok (.ireturn, 1) := by decide +kernel
theorem dX0_workedOnes_0 : decode cX0_workedOnes 0 = .ok (.iconst 0, 1) := by decide +kernel
theorem dX0_workedOnes_1 : decode cX0_workedOnes 1 = .ok (.istore_n 1, 1) := by decide +kernel
theorem dX0_workedOnes_2 : decode cX0_workedOnes 2 = .ok (.iconst 0, 1) := by decide +kernel
theorem dX0_workedOnes_3 : decode cX0_workedOnes 3 = .ok (.istore_n 2, 1) := by decide +kernel
theorem dX0_workedOnes_4 : decode cX0_workedOnes 4 = .ok (.iload_n 2, 1) := by decide +kernel
theorem dX0_workedOnes_5 : decode cX0_workedOnes 5 = .ok (.aload_n 0, 1) := by decide +kernel
theorem dX0_workedOnes_6 : decode cX0_workedOnes 6 = .ok (.getfield 18, 3) := by decide +kernel
theorem dX0_workedOnes_9 : decode cX0_workedOnes 9 = .ok (.if_icmp .ge 24, 3) := by decide +kernel
theorem dX0_workedOnes_12 : decode cX0_workedOnes 12 = .ok (.aload_n 0, 1) := by decide +kernel
theorem dX0_workedOnes_13 : decode cX0_workedOnes 13 = .ok (.getfield 11, 3) := by decide +kernel
theorem dX0_workedOnes_16 : decode cX0_workedOnes 16 = .ok (.iload_n 2, 1) := by decide +kernel
theorem dX0_workedOnes_17 : decode cX0_workedOnes 17 = .ok (.aaload, 1) := by decide +kernel
theorem dX0_workedOnes_18 : decode cX0_workedOnes 18 = .ok (.invokevirtual 29, 3) := by decide +kernel
theorem dX0_workedOnes_21 : decode cX0_workedOnes 21 = .ok (.ifCond .ne 6, 3) := by decide +kernel
theorem dX0_workedOnes_24 : decode cX0_workedOnes 24 = .ok (.iinc 1 1, 3) := by decide +kernel
theorem dX0_workedOnes_27 : decode cX0_workedOnes 27 = .ok (.iinc 2 1, 3) := by decide +kernel
theorem dX0_workedOnes_30 : decode cX0_workedOnes 30 = .ok (.goto (-26), 3) := by decide +kernel
theorem dX0_workedOnes_33 : decode cX0_workedOnes 33 = .ok (.iload_n 1, 1) := by decide +kernel
theorem dX0_workedOnes_34 : decode cX0_workedOnes 34 = .ok (.ireturn, 1) := by decide +kernel
theorem dX0_priceInAll_0 : decode cX0_priceInAll 0 = .ok (.iconst 0, 1) := by decide +kernel
theorem dX0_priceInAll_1 : decode cX0_priceInAll 1 = .ok (.istore_n 1, 1) := by decide +kernel
theorem dX0_priceInAll_2 : decode cX0_priceInAll 2 = .ok (.iconst 0, 1) := by decide +kernel
theorem dX0_priceInAll_3 : decode cX0_priceInAll 3 = .ok (.istore_n 2, 1) := by decide +kernel
theorem dX0_priceInAll_4 : decode cX0_priceInAll 4 = .ok (.iload_n 2, 1) := by decide +kernel
theorem dX0_priceInAll_5 : decode cX0_priceInAll 5 = .ok (.aload_n 0, 1) := by decide +kernel
theorem dX0_priceInAll_6 : decode cX0_priceInAll 6 = .ok (.getfield 18, 3) := by decide +kernel
theorem dX0_priceInAll_9 : decode cX0_priceInAll 9 = .ok (.if_icmp .ge 43, 3) := by decide +kernel
theorem dX0_priceInAll_12 : decode cX0_priceInAll 12 = .ok (.aload_n 0, 1) := by decide +kernel
theorem dX0_priceInAll_13 : decode cX0_priceInAll 13 = .ok (.getfield 11, 3) := by decide +kernel
theorem dX0_priceInAll_16 : decode cX0_priceInAll 16 = .ok (.iload_n 2, 1) := by decide +kernel
theorem dX0_priceInAll_17 : decode cX0_priceInAll 17 = .ok (.aaload, 1) := by decide +kernel
theorem dX0_priceInAll_18 : decode cX0_priceInAll 18 = .ok (.invokevirtual 29, 3) := by decide +kernel
theorem dX0_priceInAll_21 : decode cX0_priceInAll 21 = .ok (.ifCond .ne 25, 3) := by decide +kernel
theorem dX0_priceInAll_24 : decode cX0_priceInAll 24 = .ok (.iload_n 1, 1) := by decide +kernel
theorem dX0_priceInAll_25 : decode cX0_priceInAll 25 = .ok (.aload_n 0, 1) := by decide +kernel
theorem dX0_priceInAll_26 : decode cX0_priceInAll 26 = .ok (.getfield 11, 3) := by decide +kernel
theorem dX0_priceInAll_29 : decode cX0_priceInAll 29 = .ok (.iload_n 2, 1) := by decide +kernel
theorem dX0_priceInAll_30 : decode cX0_priceInAll 30 = .ok (.aaload, 1) := by decide +kernel
theorem dX0_priceInAll_31 : decode cX0_priceInAll 31 = .ok (.getfield 50, 3) := by decide +kernel
theorem dX0_priceInAll_34 : decode cX0_priceInAll 34 = .ok (.aload_n 0, 1) := by decide +kernel
theorem dX0_priceInAll_35 : decode cX0_priceInAll 35 = .ok (.getfield 11, 3) := by decide +kernel
theorem dX0_priceInAll_38 : decode cX0_priceInAll 38 = .ok (.iload_n 2, 1) := by decide +kernel
theorem dX0_priceInAll_39 : decode cX0_priceInAll 39 = .ok (.aaload, 1) := by decide +kernel
theorem dX0_priceInAll_40 : decode cX0_priceInAll 40 = .ok (.getfield 53, 3) := by decide +kernel
theorem dX0_priceInAll_43 : decode cX0_priceInAll 43 = .ok (.imul, 1) := by decide +kernel
theorem dX0_priceInAll_44 : decode cX0_priceInAll 44 = .ok (.iadd, 1) := by decide +kernel
theorem dX0_priceInAll_45 : decode cX0_priceInAll 45 = .ok (.istore_n 1, 1) := by decide +kernel
theorem dX0_priceInAll_46 : decode cX0_priceInAll 46 = .ok (.iinc 2 1, 3) := by decide +kernel
theorem dX0_priceInAll_49 : decode cX0_priceInAll 49 = .ok (.goto (-45), 3) := by decide +kernel
theorem dX0_priceInAll_52 : decode cX0_priceInAll 52 = .ok (.iload_n 1, 1) := by decide +kernel
theorem dX0_priceInAll_53 : decode cX0_priceInAll 53 = .ok (.ireturn, 1) := by decide +kernel
theorem dX1_init_0 : decode cX1_init 0 = .ok (.aload_n 0, 1) := by decide +kernel
theorem dX1_init_1 : decode cX1_init 1 = .ok (.invokespecial 3, 3) := by decide +kernel
theorem dX1_init_4 : decode cX1_init 4 = .ok (.aload_n 0, 1) := by decide +kernel
theorem dX1_init_5 : decode cX1_init 5 = .ok (.aload_n 1, 1) := by decide +kernel
theorem dX1_init_6 : decode cX1_init 6 = .ok (.putfield 9, 3) := by decide +kernel
theorem dX1_init_9 : decode cX1_init 9 = .ok (.aload_n 0, 1) := by decide +kernel
theorem dX1_init_10 : decode cX1_init 10 = .ok (.bipush 16, 2) := by decide +kernel
theorem dX1_init_12 : decode cX1_init 12 = .ok (.newarray .int, 2) := by decide +kernel
theorem dX1_init_14 : decode cX1_init 14 = .ok (.putfield 15, 3) := by decide +kernel
theorem dX1_init_17 : decode cX1_init 17 = .ok (.aload_n 0, 1) := by decide +kernel
theorem dX1_init_18 : decode cX1_init 18 = .ok (.bipush 16, 2) := by decide +kernel
theorem dX1_init_20 : decode cX1_init 20 = .ok (.newarray .long, 2) := by decide +kernel
theorem dX1_init_22 : decode cX1_init 22 = .ok (.putfield 19, 3) := by decide +kernel
theorem dX1_init_25 : decode cX1_init 25 = .ok (.aload_n 0, 1) := by decide +kernel
theorem dX1_init_26 : decode cX1_init 26 = .ok (.bipush 16, 2) := by decide +kernel
theorem dX1_init_28 : decode cX1_init 28 = .ok (.newarray .long, 2) := by decide +kernel
theorem dX1_init_30 : decode cX1_init 30 = .ok (.putfield 23, 3) := by decide +kernel
theorem dX1_init_33 : decode cX1_init 33 = .ok (.aload_n 0, 1) := by decide +kernel
theorem dX1_init_34 : decode cX1_init 34 = .ok (.bipush 16, 2) := by decide +kernel
theorem dX1_init_36 : decode cX1_init 36 = .ok (.newarray .int, 2) := by decide +kernel
theorem dX1_init_38 : decode cX1_init 38 = .ok (.putfield 26, 3) := by decide +kernel
theorem dX1_init_41 : decode cX1_init 41 = .ok (.iconst 0, 1) := by decide +kernel
theorem dX1_init_42 : decode cX1_init 42 = .ok (.istore_n 2, 1) := by decide +kernel
theorem dX1_init_43 : decode cX1_init 43 = .ok (.iload_n 2, 1) := by decide +kernel
theorem dX1_init_44 : decode cX1_init 44 = .ok (.bipush 16, 2) := by decide +kernel
theorem dX1_init_46 : decode cX1_init 46 = .ok (.if_icmp .ge 17, 3) := by decide +kernel
theorem dX1_init_49 : decode cX1_init 49 = .ok (.aload_n 0, 1) := by decide +kernel
theorem dX1_init_50 : decode cX1_init 50 = .ok (.getfield 26, 3) := by decide +kernel
theorem dX1_init_53 : decode cX1_init 53 = .ok (.iload_n 2, 1) := by decide +kernel
theorem dX1_init_54 : decode cX1_init 54 = .ok (.bipush (-2), 2) := by decide +kernel
theorem dX1_init_56 : decode cX1_init 56 = .ok (.iastore, 1) := by decide +kernel
theorem dX1_init_57 : decode cX1_init 57 = .ok (.iinc 2 1, 3) := by decide +kernel
theorem dX1_init_60 : decode cX1_init 60 = .ok (.goto (-17), 3) := by decide +kernel
theorem dX1_init_63 : decode cX1_init 63 = .ok (.return_, 1) := by decide +kernel
theorem dX1_workOutAsSet_0 : decode cX1_workOutAsSet 0 = .ok (.iconst 0, 1) := by decide +kernel
theorem dX1_workOutAsSet_1 : decode cX1_workOutAsSet 1 = .ok (.istore_n 2, 1) := by decide +kernel
theorem dX1_workOutAsSet_2 : decode cX1_workOutAsSet 2 = .ok (.iload_n 2, 1) := by decide +kernel
theorem dX1_workOutAsSet_3 : decode cX1_workOutAsSet 3 = .ok (.iload_n 1, 1) := by decide +kernel
theorem dX1_workOutAsSet_4 : decode cX1_workOutAsSet 4 = .ok (.if_icmp .gt 27, 3) := by decide +kernel
theorem dX1_workOutAsSet_7 : decode cX1_workOutAsSet 7 = .ok (.aload_n 0, 1) := by decide +kernel
theorem dX1_workOutAsSet_8 : decode cX1_workOutAsSet 8 = .ok (.getfield 15, 3) := by decide +kernel
theorem dX1_workOutAsSet_11 : decode cX1_workOutAsSet 11 = .ok (.iload_n 2, 1) := by decide +kernel
theorem dX1_workOutAsSet_12 : decode cX1_workOutAsSet 12 = .ok (.aload_n 0, 1) := by decide +kernel
theorem dX1_workOutAsSet_13 : decode cX1_workOutAsSet 13 = .ok (.getfield 9, 3) := by decide +kernel
theorem dX1_workOutAsSet_16 : decode cX1_workOutAsSet 16 = .ok (.getfield 29, 3) := by decide +kernel
theorem dX1_workOutAsSet_19 : decode cX1_workOutAsSet 19 = .ok (.iload_n 2, 1) := by decide +kernel
theorem dX1_workOutAsSet_20 : decode cX1_workOutAsSet 20 = .ok (.aaload, 1) := by decide +kernel
theorem dX1_workOutAsSet_21 : decode cX1_workOutAsSet 21 = .ok (.getfield 35, 3) := by decide +kernel
theorem dX1_workOutAsSet_24 : decode cX1_workOutAsSet 24 = .ok (.iastore, 1) := by decide +kernel
theorem dX1_workOutAsSet_25 : decode cX1_workOutAsSet 25 = .ok (.iinc 2 1, 3) := by decide +kernel
theorem dX1_workOutAsSet_28 : decode cX1_workOutAsSet 28 = .ok (.goto (-26), 3) := by decide +kernel
theorem dX1_workOutAsSet_31 : decode cX1_workOutAsSet 31 = .ok (.aload_n 0, 1) := by decide +kernel
theorem dX1_workOutAsSet_32 : decode cX1_workOutAsSet 32 = .ok (.iload_n 1, 1) := by decide +kernel
theorem dX1_workOutAsSet_33 : decode cX1_workOutAsSet 33 = .ok (.invokevirtual 41, 3) := by decide +kernel
theorem dX1_workOutAsSet_36 : decode cX1_workOutAsSet 36 = .ok (.return_, 1) := by decide +kernel
theorem dX1_missOf_0 : decode cX1_missOf 0 = .ok (.aload_n 0, 1) := by decide +kernel
theorem dX1_missOf_1 : decode cX1_missOf 1 = .ok (.getfield 23, 3) := by decide +kernel
theorem dX1_missOf_4 : decode cX1_missOf 4 = .ok (.iload_n 1, 1) := by decide +kernel
theorem dX1_missOf_5 : decode cX1_missOf 5 = .ok (.laload, 1) := by decide +kernel
theorem dX1_missOf_6 : decode cX1_missOf 6 = .ok (.aload_n 0, 1) := by decide +kernel
theorem dX1_missOf_7 : decode cX1_missOf 7 = .ok (.getfield 19, 3) := by decide +kernel
theorem dX1_missOf_10 : decode cX1_missOf 10 = .ok (.iload_n 1, 1) := by decide +kernel
theorem dX1_missOf_11 : decode cX1_missOf 11 = .ok (.laload, 1) := by decide +kernel
theorem dX1_missOf_12 : decode cX1_missOf 12 = .ok (.lsub, 1) := by decide +kernel
theorem dX1_missOf_13 : decode cX1_missOf 13 = .ok (.invokestatic 45, 3) := by decide +kernel
theorem dX1_missOf_16 : decode cX1_missOf 16 = .ok (.lreturn, 1) := by decide +kernel
theorem dX1_workOut_0 : decode cX1_workOut 0 = .ok (.iconst 0, 1) := by decide +kernel
theorem dX1_workOut_1 : decode cX1_workOut 1 = .ok (.istore_n 2, 1) := by decide +kernel
theorem dX1_workOut_2 : decode cX1_workOut 2 = .ok (.iload_n 2, 1) := by decide +kernel
theorem dX1_workOut_3 : decode cX1_workOut 3 = .ok (.iload_n 1, 1) := by decide +kernel
theorem dX1_workOut_4 : decode cX1_workOut 4 = .ok (.if_icmp .gt 133, 3) := by decide +kernel
theorem dX1_workOut_7 : decode cX1_workOut 7 = .ok (.aload_n 0, 1) := by decide +kernel
theorem dX1_workOut_8 : decode cX1_workOut 8 = .ok (.getfield 9, 3) := by decide +kernel
theorem dX1_workOut_11 : decode cX1_workOut 11 = .ok (.getfield 29, 3) := by decide +kernel
theorem dX1_workOut_14 : decode cX1_workOut 14 = .ok (.iload_n 2, 1) := by decide +kernel
theorem dX1_workOut_15 : decode cX1_workOut 15 = .ok (.aaload, 1) := by decide +kernel
theorem dX1_workOut_16 : decode cX1_workOut 16 = .ok (.astore_n 3, 1) := by decide +kernel
theorem dX1_workOut_17 : decode cX1_workOut 17 = .ok (.aload_n 3, 1) := by decide +kernel
theorem dX1_workOut_18 : decode cX1_workOut 18 = .ok (.invokevirtual 51, 3) := by decide +kernel
theorem dX1_workOut_21 : decode cX1_workOut 21 = .ok (.ifCond .eq 32, 3) := by decide +kernel
theorem dX1_workOut_24 : decode cX1_workOut 24 = .ok (.aload_n 0, 1) := by decide +kernel
theorem dX1_workOut_25 : decode cX1_workOut 25 = .ok (.getfield 19, 3) := by decide +kernel
theorem dX1_workOut_28 : decode cX1_workOut 28 = .ok (.iload_n 2, 1) := by decide +kernel
theorem dX1_workOut_29 : decode cX1_workOut 29 = .ok (.aload_n 0, 1) := by decide +kernel
theorem dX1_workOut_30 : decode cX1_workOut 30 = .ok (.getfield 15, 3) := by decide +kernel
theorem dX1_workOut_33 : decode cX1_workOut 33 = .ok (.iload_n 2, 1) := by decide +kernel
theorem dX1_workOut_34 : decode cX1_workOut 34 = .ok (.iaload, 1) := by decide +kernel
theorem dX1_workOut_35 : decode cX1_workOut 35 = .ok (.i2l, 1) := by decide +kernel
theorem dX1_workOut_36 : decode cX1_workOut 36 = .ok (.lastore, 1) := by decide +kernel
theorem dX1_workOut_37 : decode cX1_workOut 37 = .ok (.aload_n 0, 1) := by decide +kernel
theorem dX1_workOut_38 : decode cX1_workOut 38 = .ok (.getfield 23, 3) := by decide +kernel
theorem dX1_workOut_41 : decode cX1_workOut 41 = .ok (.iload_n 2, 1) := by decide +kernel
theorem dX1_workOut_42 : decode cX1_workOut 42 = .ok (.aload_n 0, 1) := by decide +kernel
theorem dX1_workOut_43 : decode cX1_workOut 43 = .ok (.getfield 15, 3) := by decide +kernel
theorem dX1_workOut_46 : decode cX1_workOut 46 = .ok (.iload_n 2, 1) := by decide +kernel
theorem dX1_workOut_47 : decode cX1_workOut 47 = .ok (.iaload, 1) := by decide +kernel
theorem dX1_workOut_48 : decode cX1_workOut 48 = .ok (.i2l, 1) := by decide +kernel
theorem dX1_workOut_49 : decode cX1_workOut 49 = .ok (.lastore, 1) := by decide +kernel
theorem dX1_workOut_50 : decode cX1_workOut 50 = .ok (.goto 81, 3) := by decide +kernel
theorem dX1_workOut_53 : decode cX1_workOut 53 = .ok (.aload_n 3, 1) := by decide +kernel
theorem dX1_workOut_54 : decode cX1_workOut 54 = .ok (.getfield 55, 3) := by decide +kernel
theorem dX1_workOut_57 : decode cX1_workOut 57 = .ok (.invokestatic 58, 3) := by decide +kernel
theorem dX1_workOut_60 : decode cX1_workOut 60 = .ok (.ifCond .eq 10, 3) := by decide +kernel
theorem dX1_workOut_63 : decode cX1_workOut 63 = .ok (.aload_n 3, 1) := by decide +kernel
theorem dX1_workOut_64 : decode cX1_workOut 64 = .ok (.getfield 62, 3) := by decide +kernel
theorem dX1_workOut_67 : decode cX1_workOut 67 = .ok (.goto 7, 3) := by decide +kernel
theorem dX1_workOut_70 : decode cX1_workOut 70 = .ok (.aload_n 3, 1) := by decide +kernel
theorem dX1_workOut_71 : decode cX1_workOut 71 = .ok (.getfield 65, 3) := by decide +kernel
theorem dX1_workOut_74 : decode cX1_workOut 74 = .ok (.istore 4, 2) := by decide +kernel
theorem dX1_workOut_76 : decode cX1_workOut 76 = .ok (.aload_n 0, 1) := by decide +kernel
theorem dX1_workOut_77 : decode cX1_workOut 77 = .ok (.getfield 19, 3) := by decide +kernel
theorem dX1_workOut_80 : decode cX1_workOut 80 = .ok (.iload_n 2, 1) := by decide +kernel
theorem dX1_workOut_81 : decode cX1_workOut 81 = .ok (.aload_n 3, 1) := by decide +kernel
theorem dX1_workOut_82 : decode cX1_workOut 82 = .ok (.getfield 55, 3) := by decide +kernel
theorem dX1_workOut_85 : decode cX1_workOut 85 = .ok (.aload_n 0, 1) := by decide +kernel
theorem dX1_workOut_86 : decode cX1_workOut 86 = .ok (.getfield 19, 3) := by decide +kernel
theorem dX1_workOut_89 : decode cX1_workOut 89 = .ok (.aload_n 3, 1) := by decide +kernel
theorem dX1_workOut_90 : decode cX1_workOut 90 = .ok (.getfield 65, 3) := by decide +kernel
theorem dX1_workOut_93 : decode cX1_workOut 93 = .ok (.laload, 1) := by decide +kernel
theorem dX1_workOut_94 : decode cX1_workOut 94 = .ok (.aload_n 0, 1) := by decide +kernel
theorem dX1_workOut_95 : decode cX1_workOut 95 = .ok (.getfield 19, 3) := by decide +kernel
theorem dX1_workOut_98 : decode cX1_workOut 98 = .ok (.iload 4, 2) := by decide +kernel
theorem dX1_workOut_100 : decode cX1_workOut 100 = .ok (.laload, 1) := by decide +kernel
theorem dX1_workOut_101 : decode cX1_workOut 101 = .ok (.invokestatic 68, 3) := by decide +kernel
theorem dX1_workOut_104 : decode cX1_workOut 104 = .ok (.lastore, 1) := by decide +kernel
theorem dX1_workOut_105 : decode cX1_workOut 105 = .ok (.aload_n 0, 1) := by decide +kernel
theorem dX1_workOut_106 : decode cX1_workOut 106 = .ok (.getfield 23, 3) := by decide +kernel
theorem dX1_workOut_109 : decode cX1_workOut 109 = .ok (.iload_n 2, 1) := by decide +kernel
theorem dX1_workOut_110 : decode cX1_workOut 110 = .ok (.aload_n 3, 1) := by decide +kernel
theorem dX1_workOut_111 : decode cX1_workOut 111 = .ok (.aload_n 0, 1) := by decide +kernel
theorem dX1_workOut_112 : decode cX1_workOut 112 = .ok (.getfield 23, 3) := by decide +kernel
theorem dX1_workOut_115 : decode cX1_workOut 115 = .ok (.aload_n 3, 1) := by decide +kernel
theorem dX1_workOut_116 : decode cX1_workOut 116 = .ok (.getfield 65, 3) := by decide +kernel
theorem dX1_workOut_119 : decode cX1_workOut 119 = .ok (.laload, 1) := by decide +kernel
theorem dX1_workOut_120 : decode cX1_workOut 120 = .ok (.aload_n 0, 1) := by decide +kernel
theorem dX1_workOut_121 : decode cX1_workOut 121 = .ok (.getfield 23, 3) := by decide +kernel
theorem dX1_workOut_124 : decode cX1_workOut 124 = .ok (.iload 4, 2) := by decide +kernel
theorem dX1_workOut_126 : decode cX1_workOut 126 = .ok (.laload, 1) := by decide +kernel
theorem dX1_workOut_127 : decode cX1_workOut 127 = .ok (.invokestatic 72, 3) := by decide +kernel
theorem dX1_workOut_130 : decode cX1_workOut 130 = .ok (.lastore, 1) := by decide +kernel
theorem dX1_workOut_131 : decode cX1_workOut 131 = .ok (.iinc 2 1, 3) := by decide +kernel
theorem dX1_workOut_134 : decode cX1_workOut 134 = .ok (.goto (-132), 3) := by decide +kernel
theorem dX1_workOut_137 : decode cX1_workOut 137 = .ok (.return_, 1) := by decide +kernel
theorem dX1_exactly_0 : decode cX1_exactly 0 = .ok (.iload_n 0, 1) := by decide +kernel
theorem dX1_exactly_1 : decode cX1_exactly 1 = .ok (.lload_n 1, 1) := by decide +kernel
theorem dX1_exactly_2 : decode cX1_exactly 2 = .ok (.lload_n 3, 1) := by decide +kernel
theorem dX1_exactly_3 : decode cX1_exactly 3 = .ok (.invokestatic 76, 3) := by decide +kernel
theorem dX1_exactly_6 : decode cX1_exactly 6 = .ok (.lstore 5, 2) := by decide +kernel
theorem dX1_exactly_8 : decode cX1_exactly 8 = .ok (.iload_n 0, 1) := by decide +kernel
theorem dX1_exactly_9 : decode cX1_exactly 9 = .ok (.iconst 4, 1) := by decide +kernel
theorem dX1_exactly_10 : decode cX1_exactly 10 = .ok (.if_icmp .ne 11, 3) := by decide +kernel
theorem dX1_exactly_13 : decode cX1_exactly 13 = .ok (.lload 5, 2) := by decide +kernel
theorem dX1_exactly_15 : decode cX1_exactly 15 = .ok (.bipush 16, 2) := by decide +kernel
theorem dX1_exactly_17 : decode cX1_exactly 17 = .ok (.lshr, 1) := by decide +kernel
theorem dX1_exactly_18 : decode cX1_exactly 18 = .ok (.goto 5, 3) := by decide +kernel
theorem dX1_exactly_21 : decode cX1_exactly 21 = .ok (.lload 5, 2) := by decide +kernel
theorem dX1_exactly_23 : decode cX1_exactly 23 = .ok (.lreturn, 1) := by decide +kernel
theorem dX1_tunedTo_0 : decode cX1_tunedTo 0 = .ok (.aload_n 0, 1) := by decide +kernel
theorem dX1_tunedTo_1 : decode cX1_tunedTo 1 = .ok (.getfield 55, 3) := by decide +kernel
theorem dX1_tunedTo_4 : decode cX1_tunedTo 4 = .ok (.iconst 4, 1) := by decide +kernel
theorem dX1_tunedTo_5 : decode cX1_tunedTo 5 = .ok (.if_icmp .ne 8, 3) := by decide +kernel
theorem dX1_tunedTo_8 : decode cX1_tunedTo 8 = .ok (.bipush 16, 2) := by decide +kernel
theorem dX1_tunedTo_10 : decode cX1_tunedTo 10 = .ok (.goto 4, 3) := by decide +kernel
theorem dX1_tunedTo_13 : decode cX1_tunedTo 13 = .ok (.iconst 0, 1) := by decide +kernel
theorem dX1_tunedTo_14 : decode cX1_tunedTo 14 = .ok (.istore 5, 2) := by decide +kernel
theorem dX1_tunedTo_16 : decode cX1_tunedTo 16 = .ok (.iload 5, 2) := by decide +kernel
theorem dX1_tunedTo_18 : decode cX1_tunedTo 18 = .ok (.bipush 16, 2) := by decide +kernel
theorem dX1_tunedTo_20 : decode cX1_tunedTo 20 = .ok (.iadd, 1) := by decide +kernel
theorem dX1_tunedTo_21 : decode cX1_tunedTo 21 = .ok (.aload_n 0, 1) := by decide +kernel
theorem dX1_tunedTo_22 : decode cX1_tunedTo 22 = .ok (.getfield 79, 3) := by decide +kernel
theorem dX1_tunedTo_25 : decode cX1_tunedTo 25 = .ok (.isub, 1) := by decide +kernel
theorem dX1_tunedTo_26 : decode cX1_tunedTo 26 = .ok (.istore 6, 2) := by decide +kernel
theorem dX1_tunedTo_28 : decode cX1_tunedTo 28 = .ok (.aload_n 0, 1) := by decide +kernel
theorem dX1_tunedTo_29 : decode cX1_tunedTo 29 = .ok (.getfield 55, 3) := by decide +kernel
theorem dX1_tunedTo_32 : decode cX1_tunedTo 32 = .ok (.lload_n 1, 1) := by decide +kernel
theorem dX1_tunedTo_33 : decode cX1_tunedTo 33 = .ok (.lload_n 3, 1) := by decide +kernel
theorem dX1_tunedTo_34 : decode cX1_tunedTo 34 = .ok (.invokestatic 76, 3) := by decide +kernel
theorem dX1_tunedTo_37 : decode cX1_tunedTo 37 = .ok (.iload 6, 2) := by decide +kernel
theorem dX1_tunedTo_39 : decode cX1_tunedTo 39 = .ok (.aload_n 0, 1) := by decide +kernel
theorem dX1_tunedTo_40 : decode cX1_tunedTo 40 = .ok (.getfield 82, 3) := by decide +kernel
theorem dX1_tunedTo_43 : decode cX1_tunedTo 43 = .ok (.invokestatic 85, 3) := by decide +kernel
theorem dX1_tunedTo_46 : decode cX1_tunedTo 46 = .ok (.iload 5, 2) := by decide +kernel
theorem dX1_tunedTo_48 : decode cX1_tunedTo 48 = .ok (.lshr, 1) := by decide +kernel
theorem dX1_tunedTo_49 : decode cX1_tunedTo 49 = .ok (.lstore 7, 2) := by decide +kernel
theorem dX1_tunedTo_51 : decode cX1_tunedTo 51 = .ok (.ldc2_w 89, 3) := by decide +kernel
theorem dX1_tunedTo_54 : decode cX1_tunedTo 54 = .ok (.ldc2_w 91, 3) := by decide +kernel
theorem dX1_tunedTo_57 : decode cX1_tunedTo 57 = .ok (.lload 7, 2) := by decide +kernel
theorem dX1_tunedTo_59 : decode cX1_tunedTo 59 = .ok (.invokestatic 93, 3) := by decide +kernel
theorem dX1_tunedTo_62 : decode cX1_tunedTo 62 = .ok (.invokestatic 97, 3) := by decide +kernel
theorem dX1_tunedTo_65 : decode cX1_tunedTo 65 = .ok (.lreturn, 1) := by decide +kernel
theorem dX1_rounded_0 : decode cX1_rounded 0 = .ok (.iload_n 3, 1) := by decide +kernel
theorem dX1_rounded_1 : decode cX1_rounded 1 = .ok (.iconst 2, 1) := by decide +kernel
theorem dX1_rounded_2 : decode cX1_rounded 2 = .ok (.if_icmp .ne 17, 3) := by decide +kernel
theorem dX1_rounded_5 : decode cX1_rounded 5 = .ok (.lload_n 0, 1) := by decide +kernel
theorem dX1_rounded_6 : decode cX1_rounded 6 = .ok (.lconst 0, 1) := by decide +kernel
theorem dX1_rounded_7 : decode cX1_rounded 7 = .ok (.lcmp, 1) := by decide +kernel
theorem dX1_rounded_8 : decode cX1_rounded 8 = .ok (.ifCond .ge 11, 3) := by decide +kernel
theorem dX1_rounded_11 : decode cX1_rounded 11 = .ok (.lload_n 0, 1) := by decide +kernel
theorem dX1_rounded_12 : decode cX1_rounded 12 = .ok (.lneg, 1) := by decide +kernel
theorem dX1_rounded_13 : decode cX1_rounded 13 = .ok (.iload_n 2, 1) := by decide +kernel
theorem dX1_rounded_14 : decode cX1_rounded 14 = .ok (.lshr, 1) := by decide +kernel
theorem dX1_rounded_15 : decode cX1_rounded 15 = .ok (.iload_n 2, 1) := by decide +kernel
theorem dX1_rounded_16 : decode cX1_rounded 16 = .ok (.lshl, 1) := by decide +kernel
theorem dX1_rounded_17 : decode cX1_rounded 17 = .ok (.lneg, 1) := by decide +kernel
theorem dX1_rounded_18 : decode cX1_rounded 18 = .ok (.lreturn, 1) := by decide +kernel
theorem dX1_rounded_19 : decode cX1_rounded 19 = .ok (.iload_n 3, 1) := by decide +kernel
theorem dX1_rounded_20 : decode cX1_rounded 20 = .ok (.iconst 1, 1) := by decide +kernel
theorem dX1_rounded_21 : decode cX1_rounded 21 = .ok (.if_icmp .ne 15, 3) := by decide +kernel
theorem dX1_rounded_24 : decode cX1_rounded 24 = .ok (.iload_n 2, 1) := by decide +kernel
theorem dX1_rounded_25 : decode cX1_rounded 25 = .ok (.ifCond .le 11, 3) := by decide +kernel
theorem dX1_rounded_28 : decode cX1_rounded 28 = .ok (.lconst 1, 1) := by decide +kernel
theorem dX1_rounded_29 : decode cX1_rounded 29 = .ok (.iload_n 2, 1) := by decide +kernel
theorem dX1_rounded_30 : decode cX1_rounded 30 = .ok (.iconst 1, 1) := by decide +kernel
theorem dX1_rounded_31 : decode cX1_rounded 31 = .ok (.isub, 1) := by decide +kernel
theorem dX1_rounded_32 : decode cX1_rounded 32 = .ok (.lshl, 1) := by decide +kernel
theorem dX1_rounded_33 : decode cX1_rounded 33 = .ok (.goto 4, 3) := by decide +kernel
theorem dX1_rounded_36 : decode cX1_rounded 36 = .ok (.lconst 0, 1) := by decide +kernel
theorem dX1_rounded_37 : decode cX1_rounded 37 = .ok (.lstore 4, 2) := by decide +kernel
theorem dX1_rounded_39 : decode cX1_rounded 39 = .ok (.lload_n 0, 1) := by decide +kernel
theorem dX1_rounded_40 : decode cX1_rounded 40 = .ok (.lload 4, 2) := by decide +kernel
theorem dX1_rounded_42 : decode cX1_rounded 42 = .ok (.ladd, 1) := by decide +kernel
theorem dX1_rounded_43 : decode cX1_rounded 43 = .ok (.iload_n 2, 1) := by decide +kernel
theorem dX1_rounded_44 : decode cX1_rounded 44 = .ok (.lshr, 1) := by decide +kernel
theorem dX1_rounded_45 : decode cX1_rounded 45 = .ok (.iload_n 2, 1) := by decide +kernel
theorem dX1_rounded_46 : decode cX1_rounded 46 = .ok (.lshl, 1) := by decide +kernel
theorem dX1_rounded_47 : decode cX1_rounded 47 = .ok (.lreturn, 1) := by decide +kernel
theorem dX1_rowsInAll_0 : decode cX1_rowsInAll 0 = .ok (.lconst 1, 1) := by decide +kernel
theorem dX1_rowsInAll_1 : decode cX1_rowsInAll 1 = .ok (.lstore_n 1, 1) := by decide +kernel
theorem dX1_rowsInAll_2 : decode cX1_rowsInAll 2 = .ok (.iconst 0, 1) := by decide +kernel
theorem dX1_rowsInAll_3 : decode cX1_rowsInAll 3 = .ok (.istore_n 3, 1) := by decide +kernel
theorem dX1_rowsInAll_4 : decode cX1_rowsInAll 4 = .ok (.iload_n 3, 1) := by decide +kernel
theorem dX1_rowsInAll_5 : decode cX1_rowsInAll 5 = .ok (.aload_n 0, 1) := by decide +kernel
theorem dX1_rowsInAll_6 : decode cX1_rowsInAll 6 = .ok (.getfield 9, 3) := by decide +kernel
theorem dX1_rowsInAll_9 : decode cX1_rowsInAll 9 = .ok (.getfield 100, 3) := by decide +kernel
theorem dX1_rowsInAll_12 : decode cX1_rowsInAll 12 = .ok (.if_icmp .ge 56, 3) := by decide +kernel
theorem dX1_rowsInAll_15 : decode cX1_rowsInAll 15 = .ok (.lload_n 1, 1) := by decide +kernel
theorem dX1_rowsInAll_16 : decode cX1_rowsInAll 16 = .ok (.ldc2_w 103, 3) := by decide +kernel
theorem dX1_rowsInAll_19 : decode cX1_rowsInAll 19 = .ok (.lcmp, 1) := by decide +kernel
theorem dX1_rowsInAll_20 : decode cX1_rowsInAll 20 = .ok (.ifCond .ge 48, 3) := by decide +kernel
theorem dX1_rowsInAll_23 : decode cX1_rowsInAll 23 = .ok (.aload_n 0, 1) := by decide +kernel
theorem dX1_rowsInAll_24 : decode cX1_rowsInAll 24 = .ok (.getfield 9, 3) := by decide +kernel
theorem dX1_rowsInAll_27 : decode cX1_rowsInAll 27 = .ok (.getfield 29, 3) := by decide +kernel
theorem dX1_rowsInAll_30 : decode cX1_rowsInAll 30 = .ok (.iload_n 3, 1) := by decide +kernel
theorem dX1_rowsInAll_31 : decode cX1_rowsInAll 31 = .ok (.aaload, 1) := by decide +kernel
theorem dX1_rowsInAll_32 : decode cX1_rowsInAll 32 = .ok (.astore 4, 2) := by decide +kernel
theorem dX1_rowsInAll_34 : decode cX1_rowsInAll 34 = .ok (.aload 4, 2) := by decide +kernel
theorem dX1_rowsInAll_36 : decode cX1_rowsInAll 36 = .ok (.getfield 55, 3) := by decide +kernel
theorem dX1_rowsInAll_39 : decode cX1_rowsInAll 39 = .ok (.ifCond .ne 23, 3) := by decide +kernel
theorem dX1_rowsInAll_42 : decode cX1_rowsInAll 42 = .ok (.lload_n 1, 1) := by decide +kernel
theorem dX1_rowsInAll_43 : decode cX1_rowsInAll 43 = .ok (.aload 4, 2) := by decide +kernel
theorem dX1_rowsInAll_45 : decode cX1_rowsInAll 45 = .ok (.getfield 105, 3) := by decide +kernel
theorem dX1_rowsInAll_48 : decode cX1_rowsInAll 48 = .ok (.aload 4, 2) := by decide +kernel
theorem dX1_rowsInAll_50 : decode cX1_rowsInAll 50 = .ok (.getfield 109, 3) := by decide +kernel
theorem dX1_rowsInAll_53 : decode cX1_rowsInAll 53 = .ok (.lsub, 1) := by decide +kernel
theorem dX1_rowsInAll_54 : decode cX1_rowsInAll 54 = .ok (.ldc2_w 112, 3) := by decide +kernel
theorem dX1_rowsInAll_57 : decode cX1_rowsInAll 57 = .ok (.ldiv, 1) := by decide +kernel
theorem dX1_rowsInAll_58 : decode cX1_rowsInAll 58 = .ok (.lconst 1, 1) := by decide +kernel
theorem dX1_rowsInAll_59 : decode cX1_rowsInAll 59 = .ok (.ladd, 1) := by decide +kernel
theorem dX1_rowsInAll_60 : decode cX1_rowsInAll 60 = .ok (.lmul, 1) := by decide +kernel
theorem dX1_rowsInAll_61 : decode cX1_rowsInAll 61 = .ok (.lstore_n 1, 1) := by decide +kernel
theorem dX1_rowsInAll_62 : decode cX1_rowsInAll 62 = .ok (.iinc 3 1, 3) := by decide +kernel
theorem dX1_rowsInAll_65 : decode cX1_rowsInAll 65 = .ok (.goto (-61), 3) := by decide +kernel
theorem dX1_rowsInAll_68 : decode cX1_rowsInAll 68 = .ok (.lload_n 1, 1) := by decide +kernel
theorem dX1_rowsInAll_69 : decode cX1_rowsInAll 69 = .ok (.ldc2_w 103, 3) := by decide +kernel
theorem dX1_rowsInAll_72 : decode cX1_rowsInAll 72 = .ok (.invokestatic 93, 3) := by decide +kernel
theorem dX1_rowsInAll_75 : decode cX1_rowsInAll 75 = .ok (.l2i, 1) := by decide +kernel
theorem dX1_rowsInAll_76 : decode cX1_rowsInAll 76 = .ok (.ireturn, 1) := by decide +kernel
theorem dX1_areFew_0 : decode cX1_areFew 0 = .ok (.aload_n 0, 1) := by decide +kernel
theorem dX1_areFew_1 : decode cX1_areFew 1 = .ok (.invokevirtual 114, 3) := by decide +kernel
theorem dX1_areFew_4 : decode cX1_areFew 4 = .ok (.sipush 4000, 3) := by decide +kernel
theorem dX1_areFew_7 : decode cX1_areFew 7 = .ok (.if_icmp .gt 7, 3) := by decide +kernel
theorem dX1_areFew_10 : decode cX1_areFew 10 = .ok (.iconst 1, 1) := by decide +kernel
theorem dX1_areFew_11 : decode cX1_areFew 11 = .ok (.goto 4, 3) := by decide +kernel
theorem dX1_areFew_14 : decode cX1_areFew 14 = .ok (.iconst 0, 1) := by decide +kernel
theorem dX1_areFew_15 : decode cX1_areFew 15 = .ok (.ireturn, 1) := by decide +kernel
theorem dX1_greatestMiss_0 : decode cX1_greatestMiss 0 = .ok (.aload_n 0, 1) := by decide +kernel
theorem dX1_greatestMiss_1 : decode cX1_greatestMiss 1 = .ok (.invokevirtual 114, 3) := by decide +kernel
theorem dX1_greatestMiss_4 : decode cX1_greatestMiss 4 = .ok (.istore_n 2, 1) := by decide +kernel
theorem dX1_greatestMiss_5 : decode cX1_greatestMiss 5 = .ok (.ldc2_w 118, 3) := by decide +kernel
theorem dX1_greatestMiss_8 : decode cX1_greatestMiss 8 = .ok (.lstore_n 3, 1) := by decide +kernel
theorem dX1_greatestMiss_9 : decode cX1_greatestMiss 9 = .ok (.aload_n 0, 1) := by decide +kernel
theorem dX1_greatestMiss_10 : decode cX1_greatestMiss 10 = .ok (.invokevirtual 120, 3) := by decide +kernel
theorem dX1_greatestMiss_13 : decode cX1_greatestMiss 13 = .ok (.iload_n 2, 1) := by decide +kernel
theorem dX1_greatestMiss_14 : decode cX1_greatestMiss 14 = .ok (.ifCond .le 39, 3) := by decide +kernel
theorem dX1_greatestMiss_17 : decode cX1_greatestMiss 17 = .ok (.aload_n 0, 1) := by decide +kernel
theorem dX1_greatestMiss_18 : decode cX1_greatestMiss 18 = .ok (.iload_n 1, 1) := by decide +kernel
theorem dX1_greatestMiss_19 : decode cX1_greatestMiss 19 = .ok (.invokevirtual 41, 3) := by decide +kernel
theorem dX1_greatestMiss_22 : decode cX1_greatestMiss 22 = .ok (.aload_n 0, 1) := by decide +kernel
theorem dX1_greatestMiss_23 : decode cX1_greatestMiss 23 = .ok (.iload_n 1, 1) := by decide +kernel
theorem dX1_greatestMiss_24 : decode cX1_greatestMiss 24 = .ok (.invokevirtual 123, 3) := by decide +kernel
theorem dX1_greatestMiss_27 : decode cX1_greatestMiss 27 = .ok (.lstore 5, 2) := by decide +kernel
theorem dX1_greatestMiss_29 : decode cX1_greatestMiss 29 = .ok (.lload 5, 2) := by decide +kernel
theorem dX1_greatestMiss_31 : decode cX1_greatestMiss 31 = .ok (.lload_n 3, 1) := by decide +kernel
theorem dX1_greatestMiss_32 : decode cX1_greatestMiss 32 = .ok (.lcmp, 1) := by decide +kernel
theorem dX1_greatestMiss_33 : decode cX1_greatestMiss 33 = .ok (.ifCond .le 10, 3) := by decide +kernel
theorem dX1_greatestMiss_36 : decode cX1_greatestMiss 36 = .ok (.lload 5, 2) := by decide +kernel
theorem dX1_greatestMiss_38 : decode cX1_greatestMiss 38 = .ok (.lstore_n 3, 1) := by decide +kernel
theorem dX1_greatestMiss_39 : decode cX1_greatestMiss 39 = .ok (.aload_n 0, 1) := by decide +kernel
theorem dX1_greatestMiss_40 : decode cX1_greatestMiss 40 = .ok (.invokevirtual 127, 3) := by decide +kernel
theorem dX1_greatestMiss_43 : decode cX1_greatestMiss 43 = .ok (.aload_n 0, 1) := by decide +kernel
theorem dX1_greatestMiss_44 : decode cX1_greatestMiss 44 = .ok (.invokevirtual 130, 3) := by decide +kernel
theorem dX1_greatestMiss_47 : decode cX1_greatestMiss 47 = .ok (.iinc 2 (-1), 3) := by decide +kernel
theorem dX1_greatestMiss_50 : decode cX1_greatestMiss 50 = .ok (.goto (-37), 3) := by decide +kernel
theorem dX1_greatestMiss_53 : decode cX1_greatestMiss 53 = .ok (.lload_n 3, 1) := by decide +kernel
theorem dX1_greatestMiss_54 : decode cX1_greatestMiss 54 = .ok (.lreturn, 1) := by decide +kernel
theorem dX1_rowsAbove_0 : decode cX1_rowsAbove 0 = .ok (.aload_n 0, 1) := by decide +kernel
theorem dX1_rowsAbove_1 : decode cX1_rowsAbove 1 = .ok (.invokevirtual 114, 3) := by decide +kernel
theorem dX1_rowsAbove_4 : decode cX1_rowsAbove 4 = .ok (.istore 4, 2) := by decide +kernel
theorem dX1_rowsAbove_6 : decode cX1_rowsAbove 6 = .ok (.iconst 0, 1) := by decide +kernel
theorem dX1_rowsAbove_7 : decode cX1_rowsAbove 7 = .ok (.istore 5, 2) := by decide +kernel
theorem dX1_rowsAbove_9 : decode cX1_rowsAbove 9 = .ok (.aload_n 0, 1) := by decide +kernel
theorem dX1_rowsAbove_10 : decode cX1_rowsAbove 10 = .ok (.invokevirtual 120, 3) := by decide +kernel
theorem dX1_rowsAbove_13 : decode cX1_rowsAbove 13 = .ok (.iload 4, 2) := by decide +kernel
theorem dX1_rowsAbove_15 : decode cX1_rowsAbove 15 = .ok (.ifCond .le 31, 3) := by decide +kernel
theorem dX1_rowsAbove_18 : decode cX1_rowsAbove 18 = .ok (.aload_n 0, 1) := by decide +kernel
theorem dX1_rowsAbove_19 : decode cX1_rowsAbove 19 = .ok (.iload_n 1, 1) := by decide +kernel
theorem dX1_rowsAbove_20 : decode cX1_rowsAbove 20 = .ok (.invokevirtual 41, 3) := by decide +kernel
theorem dX1_rowsAbove_23 : decode cX1_rowsAbove 23 = .ok (.aload_n 0, 1) := by decide +kernel
theorem dX1_rowsAbove_24 : decode cX1_rowsAbove 24 = .ok (.iload_n 1, 1) := by decide +kernel
theorem dX1_rowsAbove_25 : decode cX1_rowsAbove 25 = .ok (.invokevirtual 123, 3) := by decide +kernel
theorem dX1_rowsAbove_28 : decode cX1_rowsAbove 28 = .ok (.lload_n 2, 1) := by decide +kernel
theorem dX1_rowsAbove_29 : decode cX1_rowsAbove 29 = .ok (.lcmp, 1) := by decide +kernel
theorem dX1_rowsAbove_30 : decode cX1_rowsAbove 30 = .ok (.ifCond .le 6, 3) := by decide +kernel
theorem dX1_rowsAbove_33 : decode cX1_rowsAbove 33 = .ok (.iinc 5 1, 3) := by decide +kernel
theorem dX1_rowsAbove_36 : decode cX1_rowsAbove 36 = .ok (.aload_n 0, 1) := by decide +kernel
theorem dX1_rowsAbove_37 : decode cX1_rowsAbove 37 = .ok (.invokevirtual 130, 3) := by decide +kernel
theorem dX1_rowsAbove_40 : decode cX1_rowsAbove 40 = .ok (.iinc 4 (-1), 3) := by decide +kernel
theorem dX1_rowsAbove_43 : decode cX1_rowsAbove 43 = .ok (.goto (-30), 3) := by decide +kernel
theorem dX1_rowsAbove_46 : decode cX1_rowsAbove 46 = .ok (.iload 5, 2) := by decide +kernel
theorem dX1_rowsAbove_48 : decode cX1_rowsAbove 48 = .ok (.ireturn, 1) := by decide +kernel
theorem dX1_toFirstRow_0 : decode cX1_toFirstRow 0 = .ok (.iconst 0, 1) := by decide +kernel
theorem dX1_toFirstRow_1 : decode cX1_toFirstRow 1 = .ok (.istore_n 1, 1) := by decide +kernel
theorem dX1_toFirstRow_2 : decode cX1_toFirstRow 2 = .ok (.iload_n 1, 1) := by decide +kernel
theorem dX1_toFirstRow_3 : decode cX1_toFirstRow 3 = .ok (.aload_n 0, 1) := by decide +kernel
theorem dX1_toFirstRow_4 : decode cX1_toFirstRow 4 = .ok (.getfield 9, 3) := by decide +kernel
theorem dX1_toFirstRow_7 : decode cX1_toFirstRow 7 = .ok (.getfield 100, 3) := by decide +kernel
theorem dX1_toFirstRow_10 : decode cX1_toFirstRow 10 = .ok (.if_icmp .ge 27, 3) := by decide +kernel
theorem dX1_toFirstRow_13 : decode cX1_toFirstRow 13 = .ok (.aload_n 0, 1) := by decide +kernel
theorem dX1_toFirstRow_14 : decode cX1_toFirstRow 14 = .ok (.getfield 15, 3) := by decide +kernel
theorem dX1_toFirstRow_17 : decode cX1_toFirstRow 17 = .ok (.iload_n 1, 1) := by decide +kernel
theorem dX1_toFirstRow_18 : decode cX1_toFirstRow 18 = .ok (.aload_n 0, 1) := by decide +kernel
theorem dX1_toFirstRow_19 : decode cX1_toFirstRow 19 = .ok (.getfield 9, 3) := by decide +kernel
theorem dX1_toFirstRow_22 : decode cX1_toFirstRow 22 = .ok (.getfield 29, 3) := by decide +kernel
theorem dX1_toFirstRow_25 : decode cX1_toFirstRow 25 = .ok (.iload_n 1, 1) := by decide +kernel
theorem dX1_toFirstRow_26 : decode cX1_toFirstRow 26 = .ok (.aaload, 1) := by decide +kernel
theorem dX1_toFirstRow_27 : decode cX1_toFirstRow 27 = .ok (.getfield 65, 3) := by decide +kernel
theorem dX1_toFirstRow_30 : decode cX1_toFirstRow 30 = .ok (.iastore, 1) := by decide +kernel
theorem dX1_toFirstRow_31 : decode cX1_toFirstRow 31 = .ok (.iinc 1 1, 3) := by decide +kernel
theorem dX1_toFirstRow_34 : decode cX1_toFirstRow 34 = .ok (.goto (-32), 3) := by decide +kernel
theorem dX1_toFirstRow_37 : decode cX1_toFirstRow 37 = .ok (.return_, 1) := by decide +kernel
theorem dX1_toNextRow_0 : decode cX1_toNextRow 0 = .ok (.aload_n 0, 1) := by decide +kernel
theorem dX1_toNextRow_1 : decode cX1_toNextRow 1 = .ok (.getfield 9, 3) := by decide +kernel
theorem dX1_toNextRow_4 : decode cX1_toNextRow 4 = .ok (.getfield 100, 3) := by decide +kernel
theorem dX1_toNextRow_7 : decode cX1_toNextRow 7 = .ok (.iconst 1, 1) := by decide +kernel
theorem dX1_toNextRow_8 : decode cX1_toNextRow 8 = .ok (.isub, 1) := by decide +kernel
theorem dX1_toNextRow_9 : decode cX1_toNextRow 9 = .ok (.istore_n 1, 1) := by decide +kernel
theorem dX1_toNextRow_10 : decode cX1_toNextRow 10 = .ok (.iload_n 1, 1) := by decide +kernel
theorem dX1_toNextRow_11 : decode cX1_toNextRow 11 = .ok (.ifCond .lt 64, 3) := by decide +kernel
theorem dX1_toNextRow_14 : decode cX1_toNextRow 14 = .ok (.aload_n 0, 1) := by decide +kernel
theorem dX1_toNextRow_15 : decode cX1_toNextRow 15 = .ok (.getfield 9, 3) := by decide +kernel
theorem dX1_toNextRow_18 : decode cX1_toNextRow 18 = .ok (.getfield 29, 3) := by decide +kernel
theorem dX1_toNextRow_21 : decode cX1_toNextRow 21 = .ok (.iload_n 1, 1) := by decide +kernel
theorem dX1_toNextRow_22 : decode cX1_toNextRow 22 = .ok (.aaload, 1) := by decide +kernel
theorem dX1_toNextRow_23 : decode cX1_toNextRow 23 = .ok (.astore_n 2, 1) := by decide +kernel
theorem dX1_toNextRow_24 : decode cX1_toNextRow 24 = .ok (.aload_n 2, 1) := by decide +kernel
theorem dX1_toNextRow_25 : decode cX1_toNextRow 25 = .ok (.getfield 55, 3) := by decide +kernel
theorem dX1_toNextRow_28 : decode cX1_toNextRow 28 = .ok (.ifCond .ne 41, 3) := by decide +kernel
theorem dX1_toNextRow_31 : decode cX1_toNextRow 31 = .ok (.aload_n 0, 1) := by decide +kernel
theorem dX1_toNextRow_32 : decode cX1_toNextRow 32 = .ok (.getfield 15, 3) := by decide +kernel
theorem dX1_toNextRow_35 : decode cX1_toNextRow 35 = .ok (.iload_n 1, 1) := by decide +kernel
theorem dX1_toNextRow_36 : decode cX1_toNextRow 36 = .ok (.iaload, 1) := by decide +kernel
theorem dX1_toNextRow_37 : decode cX1_toNextRow 37 = .ok (.i2l, 1) := by decide +kernel
theorem dX1_toNextRow_38 : decode cX1_toNextRow 38 = .ok (.aload_n 2, 1) := by decide +kernel
theorem dX1_toNextRow_39 : decode cX1_toNextRow 39 = .ok (.getfield 105, 3) := by decide +kernel
theorem dX1_toNextRow_42 : decode cX1_toNextRow 42 = .ok (.lcmp, 1) := by decide +kernel
theorem dX1_toNextRow_43 : decode cX1_toNextRow 43 = .ok (.ifCond .ge 16, 3) := by decide +kernel
theorem dX1_toNextRow_46 : decode cX1_toNextRow 46 = .ok (.aload_n 0, 1) := by decide +kernel
theorem dX1_toNextRow_47 : decode cX1_toNextRow 47 = .ok (.getfield 15, 3) := by decide +kernel
theorem dX1_toNextRow_50 : decode cX1_toNextRow 50 = .ok (.iload_n 1, 1) := by decide +kernel
theorem dX1_toNextRow_51 : decode cX1_toNextRow 51 = .ok (.dup2, 1) := by decide +kernel
theorem dX1_toNextRow_52 : decode cX1_toNextRow 52 = .ok (.iaload, 1) := by decide +kernel
theorem dX1_toNextRow_53 : decode cX1_toNextRow 53 = .ok (.sipush 4096, 3) := by decide +kernel
theorem dX1_toNextRow_56 : decode cX1_toNextRow 56 = .ok (.iadd, 1) := by decide +kernel
theorem dX1_toNextRow_57 : decode cX1_toNextRow 57 = .ok (.iastore, 1) := by decide +kernel
theorem dX1_toNextRow_58 : decode cX1_toNextRow 58 = .ok (.return_, 1) := by decide +kernel
theorem dX1_toNextRow_59 : decode cX1_toNextRow 59 = .ok (.aload_n 0, 1) := by decide +kernel
theorem dX1_toNextRow_60 : decode cX1_toNextRow 60 = .ok (.getfield 15, 3) := by decide +kernel
theorem dX1_toNextRow_63 : decode cX1_toNextRow 63 = .ok (.iload_n 1, 1) := by decide +kernel
theorem dX1_toNextRow_64 : decode cX1_toNextRow 64 = .ok (.aload_n 2, 1) := by decide +kernel
theorem dX1_toNextRow_65 : decode cX1_toNextRow 65 = .ok (.getfield 65, 3) := by decide +kernel
theorem dX1_toNextRow_68 : decode cX1_toNextRow 68 = .ok (.iastore, 1) := by decide +kernel
theorem dX1_toNextRow_69 : decode cX1_toNextRow 69 = .ok (.iinc 1 (-1), 3) := by decide +kernel
theorem dX1_toNextRow_72 : decode cX1_toNextRow 72 = .ok (.goto (-62), 3) := by decide +kernel
theorem dX1_toNextRow_75 : decode cX1_toNextRow 75 = .ok (.return_, 1) := by decide +kernel
theorem dX1_keepRow_0 : decode cX1_keepRow 0 = .ok (.iconst 0, 1) := by decide +kernel
theorem dX1_keepRow_1 : decode cX1_keepRow 1 = .ok (.istore_n 1, 1) := by decide +kernel
theorem dX1_keepRow_2 : decode cX1_keepRow 2 = .ok (.iload_n 1, 1) := by decide +kernel
theorem dX1_keepRow_3 : decode cX1_keepRow 3 = .ok (.bipush 16, 2) := by decide +kernel
theorem dX1_keepRow_5 : decode cX1_keepRow 5 = .ok (.if_icmp .ge 37, 3) := by decide +kernel
theorem dX1_keepRow_8 : decode cX1_keepRow 8 = .ok (.aload_n 0, 1) := by decide +kernel
theorem dX1_keepRow_9 : decode cX1_keepRow 9 = .ok (.getfield 26, 3) := by decide +kernel
theorem dX1_keepRow_12 : decode cX1_keepRow 12 = .ok (.iload_n 1, 1) := by decide +kernel
theorem dX1_keepRow_13 : decode cX1_keepRow 13 = .ok (.aload_n 0, 1) := by decide +kernel
theorem dX1_keepRow_14 : decode cX1_keepRow 14 = .ok (.getfield 9, 3) := by decide +kernel
theorem dX1_keepRow_17 : decode cX1_keepRow 17 = .ok (.iload_n 1, 1) := by decide +kernel
theorem dX1_keepRow_18 : decode cX1_keepRow 18 = .ok (.invokevirtual 133, 3) := by decide +kernel
theorem dX1_keepRow_21 : decode cX1_keepRow 21 = .ok (.ifCond .eq 12, 3) := by decide +kernel
theorem dX1_keepRow_24 : decode cX1_keepRow 24 = .ok (.aload_n 0, 1) := by decide +kernel
theorem dX1_keepRow_25 : decode cX1_keepRow 25 = .ok (.getfield 15, 3) := by decide +kernel
theorem dX1_keepRow_28 : decode cX1_keepRow 28 = .ok (.iload_n 1, 1) := by decide +kernel
theorem dX1_keepRow_29 : decode cX1_keepRow 29 = .ok (.iaload, 1) := by decide +kernel
theorem dX1_keepRow_30 : decode cX1_keepRow 30 = .ok (.goto 5, 3) := by decide +kernel
theorem dX1_keepRow_33 : decode cX1_keepRow 33 = .ok (.bipush (-2), 2) := by decide +kernel
theorem dX1_keepRow_35 : decode cX1_keepRow 35 = .ok (.iastore, 1) := by decide +kernel
theorem dX1_keepRow_36 : decode cX1_keepRow 36 = .ok (.iinc 1 1, 3) := by decide +kernel
theorem dX1_keepRow_39 : decode cX1_keepRow 39 = .ok (.goto (-37), 3) := by decide +kernel
theorem dX1_keepRow_42 : decode cX1_keepRow 42 = .ok (.return_, 1) := by decide +kernel
theorem dX2_init_0 : decode cX2_init 0 = .ok (.aload_n 0, 1) := by decide +kernel
theorem dX2_init_1 : decode cX2_init 1 = .ok (.invokespecial 3, 3) := by decide +kernel
theorem dX2_init_4 : decode cX2_init 4 = .ok (.return_, 1) := by decide +kernel
theorem dX2_isGiven_0 : decode cX2_isGiven 0 = .ok (.aload_n 0, 1) := by decide +kernel
theorem dX2_isGiven_1 : decode cX2_isGiven 1 = .ok (.getfield 9, 3) := by decide +kernel
theorem dX2_isGiven_4 : decode cX2_isGiven 4 = .ok (.ifCond .eq 11, 3) := by decide +kernel
theorem dX2_isGiven_7 : decode cX2_isGiven 7 = .ok (.aload_n 0, 1) := by decide +kernel
theorem dX2_isGiven_8 : decode cX2_isGiven 8 = .ok (.getfield 9, 3) := by decide +kernel
theorem dX2_isGiven_11 : decode cX2_isGiven 11 = .ok (.iconst 1, 1) := by decide +kernel
theorem dX2_isGiven_12 : decode cX2_isGiven 12 = .ok (.if_icmp .ne 7, 3) := by decide +kernel
theorem dX2_isGiven_15 : decode cX2_isGiven 15 = .ok (.iconst 1, 1) := by decide +kernel
theorem dX2_isGiven_16 : decode cX2_isGiven 16 = .ok (.goto 4, 3) := by decide +kernel
theorem dX2_isGiven_19 : decode cX2_isGiven 19 = .ok (.iconst 0, 1) := by decide +kernel
theorem dX2_isGiven_20 : decode cX2_isGiven 20 = .ok (.ireturn, 1) := by decide +kernel
theorem dX2_begin_0 : decode cX2_begin 0 = .ok (.aload_n 0, 1) := by decide +kernel
theorem dX2_begin_1 : decode cX2_begin 1 = .ok (.iload_n 1, 1) := by decide +kernel
theorem dX2_begin_2 : decode cX2_begin 2 = .ok (.putfield 9, 3) := by decide +kernel
theorem dX2_begin_5 : decode cX2_begin 5 = .ok (.aload_n 0, 1) := by decide +kernel
theorem dX2_begin_6 : decode cX2_begin 6 = .ok (.iload_n 2, 1) := by decide +kernel
theorem dX2_begin_7 : decode cX2_begin 7 = .ok (.putfield 15, 3) := by decide +kernel
theorem dX2_begin_10 : decode cX2_begin 10 = .ok (.aload_n 0, 1) := by decide +kernel
theorem dX2_begin_11 : decode cX2_begin 11 = .ok (.iload_n 3, 1) := by decide +kernel
theorem dX2_begin_12 : decode cX2_begin 12 = .ok (.putfield 18, 3) := by decide +kernel
theorem dX2_begin_15 : decode cX2_begin 15 = .ok (.aload_n 0, 1) := by decide +kernel
theorem dX2_begin_16 : decode cX2_begin 16 = .ok (.iconst 1, 1) := by decide +kernel
theorem dX2_begin_17 : decode cX2_begin 17 = .ok (.putfield 21, 3) := by decide +kernel
theorem dX2_begin_20 : decode cX2_begin 20 = .ok (.aload_n 0, 1) := by decide +kernel
theorem dX2_begin_21 : decode cX2_begin 21 = .ok (.bipush 16, 2) := by decide +kernel
theorem dX2_begin_23 : decode cX2_begin 23 = .ok (.putfield 24, 3) := by decide +kernel
theorem dX2_begin_26 : decode cX2_begin 26 = .ok (.aload_n 0, 1) := by decide +kernel
theorem dX2_begin_27 : decode cX2_begin 27 = .ok (.iconst 0, 1) := by decide +kernel
theorem dX2_begin_28 : decode cX2_begin 28 = .ok (.putfield 27, 3) := by decide +kernel
theorem dX2_begin_31 : decode cX2_begin 31 = .ok (.aload_n 0, 1) := by decide +kernel
theorem dX2_begin_32 : decode cX2_begin 32 = .ok (.iconst 1, 1) := by decide +kernel
theorem dX2_begin_33 : decode cX2_begin 33 = .ok (.putfield 30, 3) := by decide +kernel
theorem dX2_begin_36 : decode cX2_begin 36 = .ok (.aload_n 0, 1) := by decide +kernel
theorem dX2_begin_37 : decode cX2_begin 37 = .ok (.iconst 0, 1) := by decide +kernel
theorem dX2_begin_38 : decode cX2_begin 38 = .ok (.putfield 33, 3) := by decide +kernel
theorem dX2_begin_41 : decode cX2_begin 41 = .ok (.return_, 1) := by decide +kernel
theorem dX2_spanGiven_0 : decode cX2_spanGiven 0 = .ok (.aload_n 0, 1) := by decide +kernel
theorem dX2_spanGiven_1 : decode cX2_spanGiven 1 = .ok (.aload_n 0, 1) := by decide +kernel
theorem dX2_spanGiven_2 : decode cX2_spanGiven 2 = .ok (.getfield 15, 3) := by decide +kernel
theorem dX2_spanGiven_5 : decode cX2_spanGiven 5 = .ok (.i2l, 1) := by decide +kernel
theorem dX2_spanGiven_6 : decode cX2_spanGiven 6 = .ok (.putfield 36, 3) := by decide +kernel
theorem dX2_spanGiven_9 : decode cX2_spanGiven 9 = .ok (.aload_n 0, 1) := by decide +kernel
theorem dX2_spanGiven_10 : decode cX2_spanGiven 10 = .ok (.aload_n 0, 1) := by decide +kernel
theorem dX2_spanGiven_11 : decode cX2_spanGiven 11 = .ok (.getfield 9, 3) := by decide +kernel
theorem dX2_spanGiven_14 : decode cX2_spanGiven 14 = .ok (.ifCond .ne 11, 3) := by decide +kernel
theorem dX2_spanGiven_17 : decode cX2_spanGiven 17 = .ok (.aload_n 0, 1) := by decide +kernel
theorem dX2_spanGiven_18 : decode cX2_spanGiven 18 = .ok (.getfield 18, 3) := by decide +kernel
theorem dX2_spanGiven_21 : decode cX2_spanGiven 21 = .ok (.i2l, 1) := by decide +kernel
theorem dX2_spanGiven_22 : decode cX2_spanGiven 22 = .ok (.goto 8, 3) := by decide +kernel
theorem dX2_spanGiven_25 : decode cX2_spanGiven 25 = .ok (.aload_n 0, 1) := by decide +kernel
theorem dX2_spanGiven_26 : decode cX2_spanGiven 26 = .ok (.getfield 15, 3) := by decide +kernel
theorem dX2_spanGiven_29 : decode cX2_spanGiven 29 = .ok (.i2l, 1) := by decide +kernel
theorem dX2_spanGiven_30 : decode cX2_spanGiven 30 = .ok (.putfield 40, 3) := by decide +kernel
theorem dX2_spanGiven_33 : decode cX2_spanGiven 33 = .ok (.aload_n 0, 1) := by decide +kernel
theorem dX2_spanGiven_34 : decode cX2_spanGiven 34 = .ok (.aload_n 0, 1) := by decide +kernel
theorem dX2_spanGiven_35 : decode cX2_spanGiven 35 = .ok (.getfield 36, 3) := by decide +kernel
theorem dX2_spanGiven_38 : decode cX2_spanGiven 38 = .ok (.invokestatic 43, 3) := by decide +kernel
theorem dX2_spanGiven_41 : decode cX2_spanGiven 41 = .ok (.aload_n 0, 1) := by decide +kernel
theorem dX2_spanGiven_42 : decode cX2_spanGiven 42 = .ok (.getfield 40, 3) := by decide +kernel
theorem dX2_spanGiven_45 : decode cX2_spanGiven 45 = .ok (.invokestatic 43, 3) := by decide +kernel
theorem dX2_spanGiven_48 : decode cX2_spanGiven 48 = .ok (.invokestatic 49, 3) := by decide +kernel
theorem dX2_spanGiven_51 : decode cX2_spanGiven 51 = .ok (.putfield 53, 3) := by decide +kernel
theorem dX2_spanGiven_54 : decode cX2_spanGiven 54 = .ok (.aload_n 0, 1) := by decide +kernel
theorem dX2_spanGiven_55 : decode cX2_spanGiven 55 = .ok (.aload_n 0, 1) := by decide +kernel
theorem dX2_spanGiven_56 : decode cX2_spanGiven 56 = .ok (.getfield 15, 3) := by decide +kernel
theorem dX2_spanGiven_59 : decode cX2_spanGiven 59 = .ok (.putfield 33, 3) := by decide +kernel
theorem dX2_spanGiven_62 : decode cX2_spanGiven 62 = .ok (.return_, 1) := by decide +kernel
theorem dX2_spanWorked_0 : decode cX2_spanWorked 0 = .ok (.aload_n 0, 1) := by decide +kernel
theorem dX2_spanWorked_1 : decode cX2_spanWorked 1 = .ok (.aload_n 0, 1) := by decide +kernel
theorem dX2_spanWorked_2 : decode cX2_spanWorked 2 = .ok (.getfield 9, 3) := by decide +kernel
theorem dX2_spanWorked_5 : decode cX2_spanWorked 5 = .ok (.iconst 4, 1) := by decide +kernel
theorem dX2_spanWorked_6 : decode cX2_spanWorked 6 = .ok (.if_icmp .ne 15, 3) := by decide +kernel
theorem dX2_spanWorked_9 : decode cX2_spanWorked 9 = .ok (.aload_n 1, 1) := by decide +kernel
theorem dX2_spanWorked_10 : decode cX2_spanWorked 10 = .ok (.getfield 21, 3) := by decide +kernel
theorem dX2_spanWorked_13 : decode cX2_spanWorked 13 = .ok (.aload_n 2, 1) := by decide +kernel
theorem dX2_spanWorked_14 : decode cX2_spanWorked 14 = .ok (.getfield 21, 3) := by decide +kernel
theorem dX2_spanWorked_17 : decode cX2_spanWorked 17 = .ok (.iadd, 1) := by decide +kernel
theorem dX2_spanWorked_18 : decode cX2_spanWorked 18 = .ok (.goto 14, 3) := by decide +kernel
theorem dX2_spanWorked_21 : decode cX2_spanWorked 21 = .ok (.aload_n 1, 1) := by decide +kernel
theorem dX2_spanWorked_22 : decode cX2_spanWorked 22 = .ok (.getfield 21, 3) := by decide +kernel
theorem dX2_spanWorked_25 : decode cX2_spanWorked 25 = .ok (.aload_n 2, 1) := by decide +kernel
theorem dX2_spanWorked_26 : decode cX2_spanWorked 26 = .ok (.getfield 21, 3) := by decide +kernel
theorem dX2_spanWorked_29 : decode cX2_spanWorked 29 = .ok (.invokestatic 56, 3) := by decide +kernel
theorem dX2_spanWorked_32 : decode cX2_spanWorked 32 = .ok (.putfield 21, 3) := by decide +kernel
theorem dX2_spanWorked_35 : decode cX2_spanWorked 35 = .ok (.aload_n 0, 1) := by decide +kernel
theorem dX2_spanWorked_36 : decode cX2_spanWorked 36 = .ok (.getfield 9, 3) := by decide +kernel
theorem dX2_spanWorked_39 : decode cX2_spanWorked 39 = .ok (.tableswitch 75 3 6 #[29, 58, 75, 67], 29) := by decide +kernel
theorem dX2_spanWorked_68 : decode cX2_spanWorked 68 = .ok (.aload_n 0, 1) := by decide +kernel
theorem dX2_spanWorked_69 : decode cX2_spanWorked 69 = .ok (.aload_n 1, 1) := by decide +kernel
theorem dX2_spanWorked_70 : decode cX2_spanWorked 70 = .ok (.getfield 36, 3) := by decide +kernel
theorem dX2_spanWorked_73 : decode cX2_spanWorked 73 = .ok (.aload_n 2, 1) := by decide +kernel
theorem dX2_spanWorked_74 : decode cX2_spanWorked 74 = .ok (.getfield 40, 3) := by decide +kernel
theorem dX2_spanWorked_77 : decode cX2_spanWorked 77 = .ok (.lsub, 1) := by decide +kernel
theorem dX2_spanWorked_78 : decode cX2_spanWorked 78 = .ok (.putfield 36, 3) := by decide +kernel
theorem dX2_spanWorked_81 : decode cX2_spanWorked 81 = .ok (.aload_n 0, 1) := by decide +kernel
theorem dX2_spanWorked_82 : decode cX2_spanWorked 82 = .ok (.aload_n 1, 1) := by decide +kernel
theorem dX2_spanWorked_83 : decode cX2_spanWorked 83 = .ok (.getfield 40, 3) := by decide +kernel
theorem dX2_spanWorked_86 : decode cX2_spanWorked 86 = .ok (.aload_n 2, 1) := by decide +kernel
theorem dX2_spanWorked_87 : decode cX2_spanWorked 87 = .ok (.getfield 36, 3) := by decide +kernel
theorem dX2_spanWorked_90 : decode cX2_spanWorked 90 = .ok (.lsub, 1) := by decide +kernel
theorem dX2_spanWorked_91 : decode cX2_spanWorked 91 = .ok (.putfield 40, 3) := by decide +kernel
theorem dX2_spanWorked_94 : decode cX2_spanWorked 94 = .ok (.goto 58, 3) := by decide +kernel
theorem dX2_spanWorked_97 : decode cX2_spanWorked 97 = .ok (.aload_n 0, 1) := by decide +kernel
theorem dX2_spanWorked_98 : decode cX2_spanWorked 98 = .ok (.aload_n 1, 1) := by decide +kernel
theorem dX2_spanWorked_99 : decode cX2_spanWorked 99 = .ok (.aload_n 2, 1) := by decide +kernel
theorem dX2_spanWorked_100 : decode cX2_spanWorked 100 = .ok (.invokevirtual 59, 3) := by decide +kernel
theorem dX2_spanWorked_103 : decode cX2_spanWorked 103 = .ok (.goto 49, 3) := by decide +kernel
theorem dX2_spanWorked_106 : decode cX2_spanWorked 106 = .ok (.aload_n 0, 1) := by decide +kernel
theorem dX2_spanWorked_107 : decode cX2_spanWorked 107 = .ok (.aload_n 1, 1) := by decide +kernel
theorem dX2_spanWorked_108 : decode cX2_spanWorked 108 = .ok (.invokevirtual 63, 3) := by decide +kernel
theorem dX2_spanWorked_111 : decode cX2_spanWorked 111 = .ok (.goto 41, 3) := by decide +kernel
theorem dX2_spanWorked_114 : decode cX2_spanWorked 114 = .ok (.aload_n 0, 1) := by decide +kernel
theorem dX2_spanWorked_115 : decode cX2_spanWorked 115 = .ok (.aload_n 0, 1) := by decide +kernel
theorem dX2_spanWorked_116 : decode cX2_spanWorked 116 = .ok (.getfield 9, 3) := by decide +kernel
theorem dX2_spanWorked_119 : decode cX2_spanWorked 119 = .ok (.aload_n 1, 1) := by decide +kernel
theorem dX2_spanWorked_120 : decode cX2_spanWorked 120 = .ok (.getfield 36, 3) := by decide +kernel
theorem dX2_spanWorked_123 : decode cX2_spanWorked 123 = .ok (.aload_n 2, 1) := by decide +kernel
theorem dX2_spanWorked_124 : decode cX2_spanWorked 124 = .ok (.getfield 36, 3) := by decide +kernel
theorem dX2_spanWorked_127 : decode cX2_spanWorked 127 = .ok (.invokestatic 67, 3) := by decide +kernel
theorem dX2_spanWorked_130 : decode cX2_spanWorked 130 = .ok (.putfield 36, 3) := by decide +kernel
theorem dX2_spanWorked_133 : decode cX2_spanWorked 133 = .ok (.aload_n 0, 1) := by decide +kernel
theorem dX2_spanWorked_134 : decode cX2_spanWorked 134 = .ok (.aload_n 0, 1) := by decide +kernel
theorem dX2_spanWorked_135 : decode cX2_spanWorked 135 = .ok (.getfield 9, 3) := by decide +kernel
theorem dX2_spanWorked_138 : decode cX2_spanWorked 138 = .ok (.aload_n 1, 1) := by decide +kernel
theorem dX2_spanWorked_139 : decode cX2_spanWorked 139 = .ok (.getfield 40, 3) := by decide +kernel
theorem dX2_spanWorked_142 : decode cX2_spanWorked 142 = .ok (.aload_n 2, 1) := by decide +kernel
theorem dX2_spanWorked_143 : decode cX2_spanWorked 143 = .ok (.getfield 40, 3) := by decide +kernel
theorem dX2_spanWorked_146 : decode cX2_spanWorked 146 = .ok (.invokestatic 67, 3) := by decide +kernel
theorem dX2_spanWorked_149 : decode cX2_spanWorked 149 = .ok (.putfield 40, 3) := by decide +kernel
theorem dX2_spanWorked_152 : decode cX2_spanWorked 152 = .ok (.aload_n 0, 1) := by decide +kernel
theorem dX2_spanWorked_153 : decode cX2_spanWorked 153 = .ok (.aload_n 0, 1) := by decide +kernel
theorem dX2_spanWorked_154 : decode cX2_spanWorked 154 = .ok (.getfield 36, 3) := by decide +kernel
theorem dX2_spanWorked_157 : decode cX2_spanWorked 157 = .ok (.invokestatic 43, 3) := by decide +kernel
theorem dX2_spanWorked_160 : decode cX2_spanWorked 160 = .ok (.aload_n 0, 1) := by decide +kernel
theorem dX2_spanWorked_161 : decode cX2_spanWorked 161 = .ok (.getfield 40, 3) := by decide +kernel
theorem dX2_spanWorked_164 : decode cX2_spanWorked 164 = .ok (.invokestatic 43, 3) := by decide +kernel
theorem dX2_spanWorked_167 : decode cX2_spanWorked 167 = .ok (.invokestatic 49, 3) := by decide +kernel
theorem dX2_spanWorked_170 : decode cX2_spanWorked 170 = .ok (.putfield 53, 3) := by decide +kernel
theorem dX2_spanWorked_173 : decode cX2_spanWorked 173 = .ok (.return_, 1) := by decide +kernel
theorem dX2_spanProduct_0 : decode cX2_spanProduct 0 = .ok (.aload_n 1, 1) := by decide +kernel
theorem dX2_spanProduct_1 : decode cX2_spanProduct 1 = .ok (.getfield 36, 3) := by decide +kernel
theorem dX2_spanProduct_4 : decode cX2_spanProduct 4 = .ok (.aload_n 2, 1) := by decide +kernel
theorem dX2_spanProduct_5 : decode cX2_spanProduct 5 = .ok (.getfield 36, 3) := by decide +kernel
theorem dX2_spanProduct_8 : decode cX2_spanProduct 8 = .ok (.lmul, 1) := by decide +kernel
theorem dX2_spanProduct_9 : decode cX2_spanProduct 9 = .ok (.lstore_n 3, 1) := by decide +kernel
theorem dX2_spanProduct_10 : decode cX2_spanProduct 10 = .ok (.aload_n 1, 1) := by decide +kernel
theorem dX2_spanProduct_11 : decode cX2_spanProduct 11 = .ok (.getfield 36, 3) := by decide +kernel
theorem dX2_spanProduct_14 : decode cX2_spanProduct 14 = .ok (.aload_n 2, 1) := by decide +kernel
theorem dX2_spanProduct_15 : decode cX2_spanProduct 15 = .ok (.getfield 40, 3) := by decide +kernel
theorem dX2_spanProduct_18 : decode cX2_spanProduct 18 = .ok (.lmul, 1) := by decide +kernel
theorem dX2_spanProduct_19 : decode cX2_spanProduct 19 = .ok (.lstore 5, 2) := by decide +kernel
theorem dX2_spanProduct_21 : decode cX2_spanProduct 21 = .ok (.aload_n 1, 1) := by decide +kernel
theorem dX2_spanProduct_22 : decode cX2_spanProduct 22 = .ok (.getfield 40, 3) := by decide +kernel
theorem dX2_spanProduct_25 : decode cX2_spanProduct 25 = .ok (.aload_n 2, 1) := by decide +kernel
theorem dX2_spanProduct_26 : decode cX2_spanProduct 26 = .ok (.getfield 36, 3) := by decide +kernel
theorem dX2_spanProduct_29 : decode cX2_spanProduct 29 = .ok (.lmul, 1) := by decide +kernel
theorem dX2_spanProduct_30 : decode cX2_spanProduct 30 = .ok (.lstore 7, 2) := by decide +kernel
theorem dX2_spanProduct_32 : decode cX2_spanProduct 32 = .ok (.aload_n 1, 1) := by decide +kernel
theorem dX2_spanProduct_33 : decode cX2_spanProduct 33 = .ok (.getfield 40, 3) := by decide +kernel
theorem dX2_spanProduct_36 : decode cX2_spanProduct 36 = .ok (.aload_n 2, 1) := by decide +kernel
theorem dX2_spanProduct_37 : decode cX2_spanProduct 37 = .ok (.getfield 40, 3) := by decide +kernel
theorem dX2_spanProduct_40 : decode cX2_spanProduct 40 = .ok (.lmul, 1) := by decide +kernel
theorem dX2_spanProduct_41 : decode cX2_spanProduct 41 = .ok (.lstore 9, 2) := by decide +kernel
theorem dX2_spanProduct_43 : decode cX2_spanProduct 43 = .ok (.aload_n 0, 1) := by decide +kernel
theorem dX2_spanProduct_44 : decode cX2_spanProduct 44 = .ok (.lload_n 3, 1) := by decide +kernel
theorem dX2_spanProduct_45 : decode cX2_spanProduct 45 = .ok (.lload 5, 2) := by decide +kernel
theorem dX2_spanProduct_47 : decode cX2_spanProduct 47 = .ok (.invokestatic 71, 3) := by decide +kernel
theorem dX2_spanProduct_50 : decode cX2_spanProduct 50 = .ok (.lload 7, 2) := by decide +kernel
theorem dX2_spanProduct_52 : decode cX2_spanProduct 52 = .ok (.lload 9, 2) := by decide +kernel
theorem dX2_spanProduct_54 : decode cX2_spanProduct 54 = .ok (.invokestatic 71, 3) := by decide +kernel
theorem dX2_spanProduct_57 : decode cX2_spanProduct 57 = .ok (.invokestatic 71, 3) := by decide +kernel
theorem dX2_spanProduct_60 : decode cX2_spanProduct 60 = .ok (.bipush 16, 2) := by decide +kernel
theorem dX2_spanProduct_62 : decode cX2_spanProduct 62 = .ok (.lshr, 1) := by decide +kernel
theorem dX2_spanProduct_63 : decode cX2_spanProduct 63 = .ok (.putfield 36, 3) := by decide +kernel
theorem dX2_spanProduct_66 : decode cX2_spanProduct 66 = .ok (.aload_n 0, 1) := by decide +kernel
theorem dX2_spanProduct_67 : decode cX2_spanProduct 67 = .ok (.lload_n 3, 1) := by decide +kernel
theorem dX2_spanProduct_68 : decode cX2_spanProduct 68 = .ok (.lload 5, 2) := by decide +kernel
theorem dX2_spanProduct_70 : decode cX2_spanProduct 70 = .ok (.invokestatic 49, 3) := by decide +kernel
theorem dX2_spanProduct_73 : decode cX2_spanProduct 73 = .ok (.lload 7, 2) := by decide +kernel
theorem dX2_spanProduct_75 : decode cX2_spanProduct 75 = .ok (.lload 9, 2) := by decide +kernel
theorem dX2_spanProduct_77 : decode cX2_spanProduct 77 = .ok (.invokestatic 49, 3) := by decide +kernel
theorem dX2_spanProduct_80 : decode cX2_spanProduct 80 = .ok (.invokestatic 49, 3) := by decide +kernel
theorem dX2_spanProduct_83 : decode cX2_spanProduct 83 = .ok (.bipush 16, 2) := by decide +kernel
theorem dX2_spanProduct_85 : decode cX2_spanProduct 85 = .ok (.lshr, 1) := by decide +kernel
theorem dX2_spanProduct_86 : decode cX2_spanProduct 86 = .ok (.putfield 40, 3) := by decide +kernel
theorem dX2_spanProduct_89 : decode cX2_spanProduct 89 = .ok (.return_, 1) := by decide +kernel
theorem dX2_spanAmount_0 : decode cX2_spanAmount 0 = .ok (.aload_n 1, 1) := by decide +kernel
theorem dX2_spanAmount_1 : decode cX2_spanAmount 1 = .ok (.getfield 36, 3) := by decide +kernel
theorem dX2_spanAmount_4 : decode cX2_spanAmount 4 = .ok (.lconst 0, 1) := by decide +kernel
theorem dX2_spanAmount_5 : decode cX2_spanAmount 5 = .ok (.lcmp, 1) := by decide +kernel
theorem dX2_spanAmount_6 : decode cX2_spanAmount 6 = .ok (.ifCond .gt 16, 3) := by decide +kernel
theorem dX2_spanAmount_9 : decode cX2_spanAmount 9 = .ok (.aload_n 1, 1) := by decide +kernel
theorem dX2_spanAmount_10 : decode cX2_spanAmount 10 = .ok (.getfield 40, 3) := by decide +kernel
theorem dX2_spanAmount_13 : decode cX2_spanAmount 13 = .ok (.lconst 0, 1) := by decide +kernel
theorem dX2_spanAmount_14 : decode cX2_spanAmount 14 = .ok (.lcmp, 1) := by decide +kernel
theorem dX2_spanAmount_15 : decode cX2_spanAmount 15 = .ok (.ifCond .lt 7, 3) := by decide +kernel
theorem dX2_spanAmount_18 : decode cX2_spanAmount 18 = .ok (.iconst 1, 1) := by decide +kernel
theorem dX2_spanAmount_19 : decode cX2_spanAmount 19 = .ok (.goto 4, 3) := by decide +kernel
theorem dX2_spanAmount_22 : decode cX2_spanAmount 22 = .ok (.iconst 0, 1) := by decide +kernel
theorem dX2_spanAmount_23 : decode cX2_spanAmount 23 = .ok (.istore_n 2, 1) := by decide +kernel
theorem dX2_spanAmount_24 : decode cX2_spanAmount 24 = .ok (.aload_n 0, 1) := by decide +kernel
theorem dX2_spanAmount_25 : decode cX2_spanAmount 25 = .ok (.iload_n 2, 1) := by decide +kernel
theorem dX2_spanAmount_26 : decode cX2_spanAmount 26 = .ok (.ifCond .eq 7, 3) := by decide +kernel
theorem dX2_spanAmount_29 : decode cX2_spanAmount 29 = .ok (.lconst 0, 1) := by decide +kernel
theorem dX2_spanAmount_30 : decode cX2_spanAmount 30 = .ok (.goto 20, 3) := by decide +kernel
theorem dX2_spanAmount_33 : decode cX2_spanAmount 33 = .ok (.aload_n 1, 1) := by decide +kernel
theorem dX2_spanAmount_34 : decode cX2_spanAmount 34 = .ok (.getfield 36, 3) := by decide +kernel
theorem dX2_spanAmount_37 : decode cX2_spanAmount 37 = .ok (.invokestatic 43, 3) := by decide +kernel
theorem dX2_spanAmount_40 : decode cX2_spanAmount 40 = .ok (.aload_n 1, 1) := by decide +kernel
theorem dX2_spanAmount_41 : decode cX2_spanAmount 41 = .ok (.getfield 40, 3) := by decide +kernel
theorem dX2_spanAmount_44 : decode cX2_spanAmount 44 = .ok (.invokestatic 43, 3) := by decide +kernel
theorem dX2_spanAmount_47 : decode cX2_spanAmount 47 = .ok (.invokestatic 71, 3) := by decide +kernel
theorem dX2_spanAmount_50 : decode cX2_spanAmount 50 = .ok (.putfield 36, 3) := by decide +kernel
theorem dX2_spanAmount_53 : decode cX2_spanAmount 53 = .ok (.aload_n 0, 1) := by decide +kernel
theorem dX2_spanAmount_54 : decode cX2_spanAmount 54 = .ok (.aload_n 1, 1) := by decide +kernel
theorem dX2_spanAmount_55 : decode cX2_spanAmount 55 = .ok (.getfield 53, 3) := by decide +kernel
theorem dX2_spanAmount_58 : decode cX2_spanAmount 58 = .ok (.putfield 40, 3) := by decide +kernel
theorem dX2_spanAmount_61 : decode cX2_spanAmount 61 = .ok (.return_, 1) := by decide +kernel
theorem dX2_isWithinLimits_0 : decode cX2_isWithinLimits 0 = .ok (.aload_n 0, 1) := by decide +kernel
theorem dX2_isWithinLimits_1 : decode cX2_isWithinLimits 1 = .ok (.getfield 21, 3) := by decide +kernel
theorem dX2_isWithinLimits_4 : decode cX2_isWithinLimits 4 = .ok (.iconst 4, 1) := by decide +kernel
theorem dX2_isWithinLimits_5 : decode cX2_isWithinLimits 5 = .ok (.if_icmp .gt 18, 3) := by decide +kernel
theorem dX2_isWithinLimits_8 : decode cX2_isWithinLimits 8 = .ok (.aload_n 0, 1) := by decide +kernel
theorem dX2_isWithinLimits_9 : decode cX2_isWithinLimits 9 = .ok (.getfield 53, 3) := by decide +kernel
theorem dX2_isWithinLimits_12 : decode cX2_isWithinLimits 12 = .ok (.ldc2_w 74, 3) := by decide +kernel
theorem dX2_isWithinLimits_15 : decode cX2_isWithinLimits 15 = .ok (.lcmp, 1) := by decide +kernel
theorem dX2_isWithinLimits_16 : decode cX2_isWithinLimits 16 = .ok (.ifCond .gt 7, 3) := by decide +kernel
theorem dX2_isWithinLimits_19 : decode cX2_isWithinLimits 19 = .ok (.iconst 1, 1) := by decide +kernel
theorem dX2_isWithinLimits_20 : decode cX2_isWithinLimits 20 = .ok (.goto 4, 3) := by decide +kernel
theorem dX2_isWithinLimits_23 : decode cX2_isWithinLimits 23 = .ok (.iconst 0, 1) := by decide +kernel
theorem dX2_isWithinLimits_24 : decode cX2_isWithinLimits 24 = .ok (.ireturn, 1) := by decide +kernel
theorem dX3_init_0 : decode cX3_init 0 = .ok (.aload_n 0, 1) := by decide +kernel
theorem dX3_init_1 : decode cX3_init 1 = .ok (.invokespecial 3, 3) := by decide +kernel
theorem dX3_init_4 : decode cX3_init 4 = .ok (.aload_n 0, 1) := by decide +kernel
theorem dX3_init_5 : decode cX3_init 5 = .ok (.aload_n 1, 1) := by decide +kernel
theorem dX3_init_6 : decode cX3_init 6 = .ok (.putfield 9, 3) := by decide +kernel
theorem dX3_init_9 : decode cX3_init 9 = .ok (.aload_n 0, 1) := by decide +kernel
theorem dX3_init_10 : decode cX3_init 10 = .ok (.bipush 16, 2) := by decide +kernel
theorem dX3_init_12 : decode cX3_init 12 = .ok (.newarray .int, 2) := by decide +kernel
theorem dX3_init_14 : decode cX3_init 14 = .ok (.putfield 15, 3) := by decide +kernel
theorem dX3_init_17 : decode cX3_init 17 = .ok (.aload_n 0, 1) := by decide +kernel
theorem dX3_init_18 : decode cX3_init 18 = .ok (.bipush 16, 2) := by decide +kernel
theorem dX3_init_20 : decode cX3_init 20 = .ok (.newarray .long, 2) := by decide +kernel
theorem dX3_init_22 : decode cX3_init 22 = .ok (.putfield 19, 3) := by decide +kernel
theorem dX3_init_25 : decode cX3_init 25 = .ok (.aload_n 0, 1) := by decide +kernel
theorem dX3_init_26 : decode cX3_init 26 = .ok (.bipush 16, 2) := by decide +kernel
theorem dX3_init_28 : decode cX3_init 28 = .ok (.newarray .int, 2) := by decide +kernel
theorem dX3_init_30 : decode cX3_init 30 = .ok (.putfield 23, 3) := by decide +kernel
theorem dX3_init_33 : decode cX3_init 33 = .ok (.aload_n 0, 1) := by decide +kernel
theorem dX3_init_34 : decode cX3_init 34 = .ok (.iconst 0, 1) := by decide +kernel
theorem dX3_init_35 : decode cX3_init 35 = .ok (.putfield 26, 3) := by decide +kernel
theorem dX3_init_38 : decode cX3_init 38 = .ok (.return_, 1) := by decide +kernel
theorem dX3_boundAsTold_0 : decode cX3_boundAsTold 0 = .ok (.aload_n 0, 1) := by decide +kernel
theorem dX3_boundAsTold_1 : decode cX3_boundAsTold 1 = .ok (.invokevirtual 30, 3) := by decide +kernel
theorem dX3_boundAsTold_4 : decode cX3_boundAsTold 4 = .ok (.aload_n 0, 1) := by decide +kernel
theorem dX3_boundAsTold_5 : decode cX3_boundAsTold 5 = .ok (.iload_n 1, 1) := by decide +kernel
theorem dX3_boundAsTold_6 : decode cX3_boundAsTold 6 = .ok (.invokevirtual 33, 3) := by decide +kernel
theorem dX3_boundAsTold_9 : decode cX3_boundAsTold 9 = .ok (.lreturn, 1) := by decide +kernel
theorem dX3_boundAtWidest_0 : decode cX3_boundAtWidest 0 = .ok (.aload_n 0, 1) := by decide +kernel
theorem dX3_boundAtWidest_1 : decode cX3_boundAtWidest 1 = .ok (.invokevirtual 37, 3) := by decide +kernel
theorem dX3_boundAtWidest_4 : decode cX3_boundAtWidest 4 = .ok (.aload_n 0, 1) := by decide +kernel
theorem dX3_boundAtWidest_5 : decode cX3_boundAtWidest 5 = .ok (.iload_n 1, 1) := by decide +kernel
theorem dX3_boundAtWidest_6 : decode cX3_boundAtWidest 6 = .ok (.invokevirtual 33, 3) := by decide +kernel
theorem dX3_boundAtWidest_9 : decode cX3_boundAtWidest 9 = .ok (.lreturn, 1) := by decide +kernel
theorem dX3_gainOf_0 : decode cX3_gainOf 0 = .ok (.aload_n 0, 1) := by decide +kernel
theorem dX3_gainOf_1 : decode cX3_gainOf 1 = .ok (.iload_n 1, 1) := by decide +kernel
theorem dX3_gainOf_2 : decode cX3_gainOf 2 = .ok (.invokevirtual 40, 3) := by decide +kernel
theorem dX3_gainOf_5 : decode cX3_gainOf 5 = .ok (.lstore_n 3, 1) := by decide +kernel
theorem dX3_gainOf_6 : decode cX3_gainOf 6 = .ok (.aload_n 0, 1) := by decide +kernel
theorem dX3_gainOf_7 : decode cX3_gainOf 7 = .ok (.getfield 15, 3) := by decide +kernel
theorem dX3_gainOf_10 : decode cX3_gainOf 10 = .ok (.iload_n 2, 1) := by decide +kernel
theorem dX3_gainOf_11 : decode cX3_gainOf 11 = .ok (.bipush 16, 2) := by decide +kernel
theorem dX3_gainOf_13 : decode cX3_gainOf 13 = .ok (.iastore, 1) := by decide +kernel
theorem dX3_gainOf_14 : decode cX3_gainOf 14 = .ok (.lload_n 3, 1) := by decide +kernel
theorem dX3_gainOf_15 : decode cX3_gainOf 15 = .ok (.aload_n 0, 1) := by decide +kernel
theorem dX3_gainOf_16 : decode cX3_gainOf 16 = .ok (.iload_n 1, 1) := by decide +kernel
