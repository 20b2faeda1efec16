/-! printed names: instructions (those that are used) -/
theorem dX0_init_0 : decode cX0_init 0 = .ok (.aload_n 0, 1) := by decide +kernel
theorem dX0_init_1 : decode cX0_init 1 = .ok (.invokespecial 3, 3) := by decide +kernel
theorem dX0_init_4 : decode cX0_init 4 = .ok (.aload_n 0, 1) := by decide +kernel
theorem dX0_init_5 : decode cX0_init 5 = .ok (.aconst_null, 1) := by decide +kernel
theorem dX0_init_6 : decode cX0_init 6 = .ok (.putfield 9, 3) := by decide +kernel
theorem dX0_init_9 : decode cX0_init 9 = .ok (.aload_n 0, 1) := by decide +kernel
theorem dX0_init_10 : decode cX0_init 10 = .ok (.aconst_null, 1) := by decide +kernel
theorem dX0_init_11 : decode cX0_init 11 = .ok (.putfield 15, 3) := by decide +kernel
theorem dX0_init_14 : decode cX0_init 14 = .ok (.aload_n 0, 1) := by decide +kernel
theorem dX0_init_15 : decode cX0_init 15 = .ok (.iconst 0, 1) := by decide +kernel
theorem dX0_init_16 : decode cX0_init 16 = .ok (.putfield 19, 3) := by decide +kernel
theorem dX0_init_19 : decode cX0_init 19 = .ok (.aload_n 0, 1) := by decide +kernel
theorem dX0_init_20 : decode cX0_init 20 = .ok (.iconst 0, 1) := by decide +kernel
theorem dX0_init_21 : decode cX0_init 21 = .ok (.putfield 23, 3) := by decide +kernel
theorem dX0_init_24 : decode cX0_init 24 = .ok (.aload_n 0, 1) := by decide +kernel
theorem dX0_init_25 : decode cX0_init 25 = .ok (.aconst_null, 1) := by decide +kernel
theorem dX0_init_26 : decode cX0_init 26 = .ok (.putfield 26, 3) := by decide +kernel
theorem dX0_init_29 : decode cX0_init 29 = .ok (.return_, 1) := by decide +kernel
theorem dX0_read_0 : decode cX0_read 0 = .ok (.aload_n 0, 1) := by decide +kernel
theorem dX0_read_1 : decode cX0_read 1 = .ok (.aload_n 1, 1) := by decide +kernel
theorem dX0_read_2 : decode cX0_read 2 = .ok (.putfield 9, 3) := by decide +kernel
theorem dX0_read_5 : decode cX0_read 5 = .ok (.aload_n 0, 1) := by decide +kernel
theorem dX0_read_6 : decode cX0_read 6 = .ok (.aload_n 2, 1) := by decide +kernel
theorem dX0_read_7 : decode cX0_read 7 = .ok (.putfield 15, 3) := by decide +kernel
theorem dX0_read_10 : decode cX0_read 10 = .ok (.aload_n 0, 1) := by decide +kernel
theorem dX0_read_11 : decode cX0_read 11 = .ok (.iconst 0, 1) := by decide +kernel
theorem dX0_read_12 : decode cX0_read 12 = .ok (.putfield 19, 3) := by decide +kernel
theorem dX0_read_15 : decode cX0_read 15 = .ok (.aload_n 0, 1) := by decide +kernel
theorem dX0_read_16 : decode cX0_read 16 = .ok (.iconst 0, 1) := by decide +kernel
theorem dX0_read_17 : decode cX0_read 17 = .ok (.putfield 23, 3) := by decide +kernel
theorem dX0_read_20 : decode cX0_read 20 = .ok (.aload_n 0, 1) := by decide +kernel
theorem dX0_read_21 : decode cX0_read 21 = .ok (.aconst_null, 1) := by decide +kernel
theorem dX0_read_22 : decode cX0_read 22 = .ok (.putfield 26, 3) := by decide +kernel
theorem dX0_read_25 : decode cX0_read 25 = .ok (.aload_n 2, 1) := by decide +kernel
theorem dX0_read_26 : decode cX0_read 26 = .ok (.invokevirtual 30, 3) := by decide +kernel
theorem dX0_read_29 : decode cX0_read 29 = .ok (.aload_n 0, 1) := by decide +kernel
theorem dX0_read_30 : decode cX0_read 30 = .ok (.iconst 0, 1) := by decide +kernel
theorem dX0_read_31 : decode cX0_read 31 = .ok (.invokevirtual 35, 3) := by decide +kernel
theorem dX0_read_34 : decode cX0_read 34 = .ok (.iconst 0, 1) := by decide +kernel
theorem dX0_read_35 : decode cX0_read 35 = .ok (.istore_n 3, 1) := by decide +kernel
theorem dX0_read_36 : decode cX0_read 36 = .ok (.iload_n 3, 1) := by decide +kernel
theorem dX0_read_37 : decode cX0_read 37 = .ok (.sipush 512, 3) := by decide +kernel
theorem dX0_read_40 : decode cX0_read 40 = .ok (.if_icmp .gt 131, 3) := by decide +kernel
theorem dX0_read_43 : decode cX0_read 43 = .ok (.aload_n 0, 1) := by decide +kernel
theorem dX0_read_44 : decode cX0_read 44 = .ok (.bipush 33, 2) := by decide +kernel
theorem dX0_read_46 : decode cX0_read 46 = .ok (.invokevirtual 39, 3) := by decide +kernel
theorem dX0_read_49 : decode cX0_read 49 = .ok (.istore 4, 2) := by decide +kernel
theorem dX0_read_51 : decode cX0_read 51 = .ok (.aload_n 0, 1) := by decide +kernel
theorem dX0_read_52 : decode cX0_read 52 = .ok (.bipush 40, 2) := by decide +kernel
theorem dX0_read_54 : decode cX0_read 54 = .ok (.invokevirtual 39, 3) := by decide +kernel
theorem dX0_read_57 : decode cX0_read 57 = .ok (.ifCond .eq 22, 3) := by decide +kernel
theorem dX0_read_79 : decode cX0_read 79 = .ok (.aload_n 0, 1) := by decide +kernel
theorem dX0_read_80 : decode cX0_read 80 = .ok (.iload 4, 2) := by decide +kernel
theorem dX0_read_82 : decode cX0_read 82 = .ok (.invokevirtual 43, 3) := by decide +kernel
theorem dX0_read_85 : decode cX0_read 85 = .ok (.ifCond .eq 10, 3) := by decide +kernel
theorem dX0_read_95 : decode cX0_read 95 = .ok (.iconst (-1), 1) := by decide +kernel
theorem dX0_read_96 : decode cX0_read 96 = .ok (.aload_n 0, 1) := by decide +kernel
theorem dX0_read_97 : decode cX0_read 97 = .ok (.getfield 19, 3) := by decide +kernel
theorem dX0_read_100 : decode cX0_read 100 = .ok (.isub, 1) := by decide +kernel
theorem dX0_read_101 : decode cX0_read 101 = .ok (.ireturn, 1) := by decide +kernel
theorem dX0_take_0 : decode cX0_take 0 = .ok (.aload_n 0, 1) := by decide +kernel
theorem dX0_take_1 : decode cX0_take 1 = .ok (.getfield 9, 3) := by decide +kernel
theorem dX0_take_4 : decode cX0_take 4 = .ok (.aload_n 0, 1) := by decide +kernel
theorem dX0_take_5 : decode cX0_take 5 = .ok (.getfield 19, 3) := by decide +kernel
theorem dX0_take_8 : decode cX0_take 8 = .ok (.invokevirtual 71, 3) := by decide +kernel
theorem dX0_take_11 : decode cX0_take 11 = .ok (.iload_n 1, 1) := by decide +kernel
theorem dX0_take_12 : decode cX0_take 12 = .ok (.if_icmp .ne 7, 3) := by decide +kernel
theorem dX0_take_19 : decode cX0_take 19 = .ok (.iconst 0, 1) := by decide +kernel
theorem dX0_take_20 : decode cX0_take 20 = .ok (.istore_n 2, 1) := by decide +kernel
theorem dX0_take_21 : decode cX0_take 21 = .ok (.iload_n 2, 1) := by decide +kernel
theorem dX0_take_22 : decode cX0_take 22 = .ok (.ifCond .eq 13, 3) := by decide +kernel
theorem dX0_take_35 : decode cX0_take 35 = .ok (.iload_n 2, 1) := by decide +kernel
theorem dX0_take_36 : decode cX0_take 36 = .ok (.ireturn, 1) := by decide +kernel
theorem dX0_open_0 : decode cX0_open 0 = .ok (.aload_n 0, 1) := by decide +kernel
theorem dX0_open_1 : decode cX0_open 1 = .ok (.getfield 15, 3) := by decide +kernel
theorem dX0_open_4 : decode cX0_open 4 = .ok (.bipush 7, 2) := by decide +kernel
theorem dX0_open_6 : decode cX0_open 6 = .ok (.invokevirtual 77, 3) := by decide +kernel
theorem dX0_open_9 : decode cX0_open 9 = .ok (.astore_n 2, 1) := by decide +kernel
theorem dX0_open_10 : decode cX0_open 10 = .ok (.aload_n 2, 1) := by decide +kernel
theorem dX0_open_11 : decode cX0_open 11 = .ok (.iload_n 1, 1) := by decide +kernel
theorem dX0_open_12 : decode cX0_open 12 = .ok (.putfield 81, 3) := by decide +kernel
theorem dX0_open_15 : decode cX0_open 15 = .ok (.aload_n 2, 1) := by decide +kernel
theorem dX0_open_16 : decode cX0_open 16 = .ok (.aload_n 0, 1) := by decide +kernel
theorem dX0_open_17 : decode cX0_open 17 = .ok (.getfield 26, 3) := by decide +kernel
theorem dX0_open_20 : decode cX0_open 20 = .ok (.putfield 85, 3) := by decide +kernel
theorem dX0_open_23 : decode cX0_open 23 = .ok (.aload_n 0, 1) := by decide +kernel
theorem dX0_open_24 : decode cX0_open 24 = .ok (.aload_n 2, 1) := by decide +kernel
theorem dX0_open_25 : decode cX0_open 25 = .ok (.invokevirtual 88, 3) := by decide +kernel
theorem dX0_open_28 : decode cX0_open 28 = .ok (.return_, 1) := by decide +kernel
theorem dX0_beginTerms_0 : decode cX0_beginTerms 0 = .ok (.aload_n 0, 1) := by decide +kernel
theorem dX0_beginTerms_1 : decode cX0_beginTerms 1 = .ok (.aload_n 0, 1) := by decide +kernel
theorem dX0_beginTerms_2 : decode cX0_beginTerms 2 = .ok (.getfield 15, 3) := by decide +kernel
theorem dX0_beginTerms_5 : decode cX0_beginTerms 5 = .ok (.bipush 6, 2) := by decide +kernel
theorem dX0_beginTerms_7 : decode cX0_beginTerms 7 = .ok (.invokevirtual 77, 3) := by decide +kernel
theorem dX0_beginTerms_10 : decode cX0_beginTerms 10 = .ok (.putfield 26, 3) := by decide +kernel
theorem dX0_beginTerms_13 : decode cX0_beginTerms 13 = .ok (.aload_n 0, 1) := by decide +kernel
theorem dX0_beginTerms_14 : decode cX0_beginTerms 14 = .ok (.getfield 26, 3) := by decide +kernel
theorem dX0_beginTerms_17 : decode cX0_beginTerms 17 = .ok (.aload_n 1, 1) := by decide +kernel
theorem dX0_beginTerms_18 : decode cX0_beginTerms 18 = .ok (.putfield 85, 3) := by decide +kernel
theorem dX0_beginTerms_21 : decode cX0_beginTerms 21 = .ok (.return_, 1) := by decide +kernel
theorem dX0_readTerm_0 : decode cX0_readTerm 0 = .ok (.aload_n 0, 1) := by decide +kernel
theorem dX0_readTerm_1 : decode cX0_readTerm 1 = .ok (.getfield 15, 3) := by decide +kernel
theorem dX0_readTerm_4 : decode cX0_readTerm 4 = .ok (.iconst 0, 1) := by decide +kernel
theorem dX0_readTerm_5 : decode cX0_readTerm 5 = .ok (.invokevirtual 77, 3) := by decide +kernel
theorem dX0_readTerm_8 : decode cX0_readTerm 8 = .ok (.astore_n 2, 1) := by decide +kernel
theorem dX0_readTerm_9 : decode cX0_readTerm 9 = .ok (.aload_n 2, 1) := by decide +kernel
theorem dX0_readTerm_10 : decode cX0_readTerm 10 = .ok (.iload_n 1, 1) := by decide +kernel
theorem dX0_readTerm_11 : decode cX0_readTerm 11 = .ok (.putfield 81, 3) := by decide +kernel
theorem dX0_readTerm_14 : decode cX0_readTerm 14 = .ok (.aload_n 0, 1) := by decide +kernel
theorem dX0_readTerm_15 : decode cX0_readTerm 15 = .ok (.aload_n 2, 1) := by decide +kernel
theorem dX0_readTerm_16 : decode cX0_readTerm 16 = .ok (.invokevirtual 109, 3) := by decide +kernel
theorem dX0_readTerm_19 : decode cX0_readTerm 19 = .ok (.ifCond .eq 11, 3) := by decide +kernel
theorem dX0_readTerm_30 : decode cX0_readTerm 30 = .ok (.iconst 0, 1) := by decide +kernel
theorem dX0_readTerm_31 : decode cX0_readTerm 31 = .ok (.ireturn, 1) := by decide +kernel
theorem dX0_readUnit_0 : decode cX0_readUnit 0 = .ok (.aload_n 0, 1) := by decide +kernel
theorem dX0_readUnit_1 : decode cX0_readUnit 1 = .ok (.bipush 91, 2) := by decide +kernel
theorem dX0_readUnit_3 : decode cX0_readUnit 3 = .ok (.invokevirtual 39, 3) := by decide +kernel
theorem dX0_readUnit_6 : decode cX0_readUnit 6 = .ok (.ifCond .eq 9, 3) := by decide +kernel
theorem dX0_readUnit_15 : decode cX0_readUnit 15 = .ok (.aload_n 0, 1) := by decide +kernel
theorem dX0_readUnit_16 : decode cX0_readUnit 16 = .ok (.bipush 60, 2) := by decide +kernel
theorem dX0_readUnit_18 : decode cX0_readUnit 18 = .ok (.invokevirtual 39, 3) := by decide +kernel
theorem dX0_readUnit_21 : decode cX0_readUnit 21 = .ok (.ifCond .eq 11, 3) := by decide +kernel
theorem dX0_readUnit_32 : decode cX0_readUnit 32 = .ok (.aload_n 0, 1) := by decide +kernel
theorem dX0_readUnit_33 : decode cX0_readUnit 33 = .ok (.bipush 62, 2) := by decide +kernel
theorem dX0_readUnit_35 : decode cX0_readUnit 35 = .ok (.invokevirtual 39, 3) := by decide +kernel
theorem dX0_readUnit_38 : decode cX0_readUnit 38 = .ok (.ifCond .eq 8, 3) := by decide +kernel
theorem dX0_readUnit_46 : decode cX0_readUnit 46 = .ok (.aload_n 0, 1) := by decide +kernel
theorem dX0_readUnit_47 : decode cX0_readUnit 47 = .ok (.bipush 34, 2) := by decide +kernel
theorem dX0_readUnit_49 : decode cX0_readUnit 49 = .ok (.invokevirtual 39, 3) := by decide +kernel
theorem dX0_readUnit_52 : decode cX0_readUnit 52 = .ok (.ifCond .eq 9, 3) := by decide +kernel
theorem dX0_readUnit_61 : decode cX0_readUnit 61 = .ok (.aload_n 0, 1) := by decide +kernel
theorem dX0_readUnit_62 : decode cX0_readUnit 62 = .ok (.bipush 123, 2) := by decide +kernel
theorem dX0_readUnit_64 : decode cX0_readUnit 64 = .ok (.invokevirtual 39, 3) := by decide +kernel
theorem dX0_readUnit_67 : decode cX0_readUnit 67 = .ok (.ifCond .eq 11, 3) := by decide +kernel
theorem dX0_readUnit_78 : decode cX0_readUnit 78 = .ok (.aload_n 0, 1) := by decide +kernel
theorem dX0_readUnit_79 : decode cX0_readUnit 79 = .ok (.aload_n 1, 1) := by decide +kernel
theorem dX0_readUnit_80 : decode cX0_readUnit 80 = .ok (.invokevirtual 124, 3) := by decide +kernel
theorem dX0_readUnit_83 : decode cX0_readUnit 83 = .ok (.ireturn, 1) := by decide +kernel
theorem dX0_readWordUnit_0 : decode cX0_readWordUnit 0 = .ok (.aload_n 0, 1) := by decide +kernel
theorem dX0_readWordUnit_1 : decode cX0_readWordUnit 1 = .ok (.invokevirtual 139, 3) := by decide +kernel
theorem dX0_readWordUnit_4 : decode cX0_readWordUnit 4 = .ok (.lstore_n 2, 1) := by decide +kernel
theorem dX0_readWordUnit_5 : decode cX0_readWordUnit 5 = .ok (.lload_n 2, 1) := by decide +kernel
theorem dX0_readWordUnit_6 : decode cX0_readWordUnit 6 = .ok (.lconst 0, 1) := by decide +kernel
theorem dX0_readWordUnit_7 : decode cX0_readWordUnit 7 = .ok (.lcmp, 1) := by decide +kernel
theorem dX0_readWordUnit_8 : decode cX0_readWordUnit 8 = .ok (.ifCond .ne 5, 3) := by decide +kernel
theorem dX0_readWordUnit_11 : decode cX0_readWordUnit 11 = .ok (.iconst 0, 1) := by decide +kernel
theorem dX0_readWordUnit_12 : decode cX0_readWordUnit 12 = .ok (.ireturn, 1) := by decide +kernel
theorem dX0_readWord_0 : decode cX0_readWord 0 = .ok (.aload_n 0, 1) := by decide +kernel
theorem dX0_readWord_1 : decode cX0_readWord 1 = .ok (.getfield 19, 3) := by decide +kernel
theorem dX0_readWord_4 : decode cX0_readWord 4 = .ok (.istore_n 1, 1) := by decide +kernel
theorem dX0_readWord_5 : decode cX0_readWord 5 = .ok (.aload_n 0, 1) := by decide +kernel
theorem dX0_readWord_6 : decode cX0_readWord 6 = .ok (.getfield 9, 3) := by decide +kernel
theorem dX0_readWord_9 : decode cX0_readWord 9 = .ok (.iload_n 1, 1) := by decide +kernel
theorem dX0_readWord_10 : decode cX0_readWord 10 = .ok (.invokevirtual 159, 3) := by decide +kernel
theorem dX0_readWord_13 : decode cX0_readWord 13 = .ok (.istore_n 2, 1) := by decide +kernel
theorem dX0_readWord_14 : decode cX0_readWord 14 = .ok (.aload_n 0, 1) := by decide +kernel
theorem dX0_readWord_15 : decode cX0_readWord 15 = .ok (.iload_n 2, 1) := by decide +kernel
theorem dX0_readWord_16 : decode cX0_readWord 16 = .ok (.iload_n 1, 1) := by decide +kernel
theorem dX0_readWord_17 : decode cX0_readWord 17 = .ok (.isub, 1) := by decide +kernel
theorem dX0_readWord_18 : decode cX0_readWord 18 = .ok (.bipush 12, 2) := by decide +kernel
theorem dX0_readWord_20 : decode cX0_readWord 20 = .ok (.if_icmp .le 10, 3) := by decide +kernel
theorem dX0_readWord_30 : decode cX0_readWord 30 = .ok (.iload_n 2, 1) := by decide +kernel
theorem dX0_readWord_31 : decode cX0_readWord 31 = .ok (.putfield 19, 3) := by decide +kernel
theorem dX0_readWord_34 : decode cX0_readWord 34 = .ok (.aload_n 0, 1) := by decide +kernel
theorem dX0_readWord_35 : decode cX0_readWord 35 = .ok (.getfield 9, 3) := by decide +kernel
theorem dX0_readWord_38 : decode cX0_readWord 38 = .ok (.iload_n 1, 1) := by decide +kernel
theorem dX0_readWord_39 : decode cX0_readWord 39 = .ok (.aload_n 0, 1) := by decide +kernel
theorem dX0_readWord_40 : decode cX0_readWord 40 = .ok (.getfield 19, 3) := by decide +kernel
theorem dX0_readWord_43 : decode cX0_readWord 43 = .ok (.invokevirtual 163, 3) := by decide +kernel
theorem dX0_readWord_46 : decode cX0_readWord 46 = .ok (.lreturn, 1) := by decide +kernel
theorem dX1_init_0 : decode cX1_init 0 = .ok (.aload_n 0, 1) := by decide +kernel
theorem dX1_init_1 : decode cX1_init 1 = .ok (.invokespecial 1, 3) := by decide +kernel
theorem dX1_init_4 : decode cX1_init 4 = .ok (.aload_n 0, 1) := by decide +kernel
theorem dX1_init_5 : decode cX1_init 5 = .ok (.bipush 16, 2) := by decide +kernel
theorem dX1_init_7 : decode cX1_init 7 = .ok (.newarray .long, 2) := by decide +kernel
theorem dX1_init_9 : decode cX1_init 9 = .ok (.putfield 9, 3) := by decide +kernel
theorem dX1_init_12 : decode cX1_init 12 = .ok (.return_, 1) := by decide +kernel
theorem dX2_init_0 : decode cX2_init 0 = .ok (.aload_n 0, 1) := by decide +kernel
theorem dX2_init_1 : decode cX2_init 1 = .ok (.invokespecial 1, 3) := by decide +kernel
theorem dX2_init_4 : decode cX2_init 4 = .ok (.aload_n 0, 1) := by decide +kernel
theorem dX2_init_5 : decode cX2_init 5 = .ok (.bipush 16, 2) := by decide +kernel
theorem dX2_init_7 : decode cX2_init 7 = .ok (.newarray .int, 2) := by decide +kernel
theorem dX2_init_9 : decode cX2_init 9 = .ok (.putfield 7, 3) := by decide +kernel
theorem dX2_init_12 : decode cX2_init 12 = .ok (.aload_n 0, 1) := by decide +kernel
theorem dX2_init_13 : decode cX2_init 13 = .ok (.iconst 0, 1) := by decide +kernel
theorem dX2_init_14 : decode cX2_init 14 = .ok (.putfield 13, 3) := by decide +kernel
theorem dX2_init_17 : decode cX2_init 17 = .ok (.aload_n 0, 1) := by decide +kernel
theorem dX2_init_18 : decode cX2_init 18 = .ok (.iconst 0, 1) := by decide +kernel
theorem dX2_init_19 : decode cX2_init 19 = .ok (.putfield 17, 3) := by decide +kernel
theorem dX2_init_22 : decode cX2_init 22 = .ok (.return_, 1) := by decide +kernel
theorem dX2_size_0 : decode cX2_size 0 = .ok (.aload_n 0, 1) := by decide +kernel
theorem dX2_size_1 : decode cX2_size 1 = .ok (.getfield 13, 3) := by decide +kernel
theorem dX2_size_4 : decode cX2_size 4 = .ok (.ireturn, 1) := by decide +kernel
theorem dX2_clear_0 : decode cX2_clear 0 = .ok (.aload_n 0, 1) := by decide +kernel
theorem dX2_clear_1 : decode cX2_clear 1 = .ok (.iconst 0, 1) := by decide +kernel
theorem dX2_clear_2 : decode cX2_clear 2 = .ok (.putfield 13, 3) := by decide +kernel
theorem dX2_clear_5 : decode cX2_clear 5 = .ok (.aload_n 0, 1) := by decide +kernel
theorem dX2_clear_6 : decode cX2_clear 6 = .ok (.iconst 0, 1) := by decide +kernel
theorem dX2_clear_7 : decode cX2_clear 7 = .ok (.putfield 17, 3) := by decide +kernel
theorem dX2_clear_10 : decode cX2_clear 10 = .ok (.return_, 1) := by decide +kernel
theorem dX3_init_0 : decode cX3_init 0 = .ok (.aload_n 0, 1) := by decide +kernel
theorem dX3_init_1 : decode cX3_init 1 = .ok (.invokespecial 3, 3) := by decide +kernel
theorem dX3_init_4 : decode cX3_init 4 = .ok (.aload_n 0, 1) := by decide +kernel
theorem dX3_init_5 : decode cX3_init 5 = .ok (.bipush 24, 2) := by decide +kernel
theorem dX3_init_7 : decode cX3_init 7 = .ok (.anewarray 9, 3) := by decide +kernel
theorem dX3_init_10 : decode cX3_init 10 = .ok (.putfield 11, 3) := by decide +kernel
theorem dX3_init_13 : decode cX3_init 13 = .ok (.aload_n 0, 1) := by decide +kernel
theorem dX3_init_14 : decode cX3_init 14 = .ok (.bipush 24, 2) := by decide +kernel
theorem dX3_init_16 : decode cX3_init 16 = .ok (.newarray .int, 2) := by decide +kernel
theorem dX3_init_18 : decode cX3_init 18 = .ok (.putfield 17, 3) := by decide +kernel
theorem dX3_init_21 : decode cX3_init 21 = .ok (.aload_n 0, 1) := by decide +kernel
theorem dX3_init_22 : decode cX3_init 22 = .ok (.bipush 24, 2) := by decide +kernel
theorem dX3_init_24 : decode cX3_init 24 = .ok (.newarray .int, 2) := by decide +kernel
theorem dX3_init_26 : decode cX3_init 26 = .ok (.putfield 21, 3) := by decide +kernel
theorem dX3_init_29 : decode cX3_init 29 = .ok (.aload_n 0, 1) := by decide +kernel
theorem dX3_init_30 : decode cX3_init 30 = .ok (.bipush 10, 2) := by decide +kernel
theorem dX3_init_32 : decode cX3_init 32 = .ok (.newarray .int, 2) := by decide +kernel
theorem dX3_init_34 : decode cX3_init 34 = .ok (.putfield 24, 3) := by decide +kernel
theorem dX3_init_37 : decode cX3_init 37 = .ok (.aload_n 0, 1) := by decide +kernel
theorem dX3_init_38 : decode cX3_init 38 = .ok (.iconst 0, 1) := by decide +kernel
theorem dX3_init_39 : decode cX3_init 39 = .ok (.putfield 27, 3) := by decide +kernel
theorem dX3_init_42 : decode cX3_init 42 = .ok (.aload_n 0, 1) := by decide +kernel
theorem dX3_init_43 : decode cX3_init 43 = .ok (.new 9, 3) := by decide +kernel
theorem dX3_init_46 : decode cX3_init 46 = .ok (.dup, 1) := by decide +kernel
theorem dX3_init_47 : decode cX3_init 47 = .ok (.invokespecial 31, 3) := by decide +kernel
theorem dX3_init_50 : decode cX3_init 50 = .ok (.putfield 32, 3) := by decide +kernel
theorem dX3_init_53 : decode cX3_init 53 = .ok (.aload_n 0, 1) := by decide +kernel
theorem dX3_init_54 : decode cX3_init 54 = .ok (.new 9, 3) := by decide +kernel
theorem dX3_init_57 : decode cX3_init 57 = .ok (.dup, 1) := by decide +kernel
theorem dX3_init_58 : decode cX3_init 58 = .ok (.invokespecial 31, 3) := by decide +kernel
theorem dX3_init_61 : decode cX3_init 61 = .ok (.putfield 36, 3) := by decide +kernel
theorem dX3_init_64 : decode cX3_init 64 = .ok (.aload_n 0, 1) := by decide +kernel
theorem dX3_init_65 : decode cX3_init 65 = .ok (.new 9, 3) := by decide +kernel
theorem dX3_init_68 : decode cX3_init 68 = .ok (.dup, 1) := by decide +kernel
theorem dX3_init_69 : decode cX3_init 69 = .ok (.invokespecial 31, 3) := by decide +kernel
theorem dX3_init_72 : decode cX3_init 72 = .ok (.putfield 39, 3) := by decide +kernel
theorem dX3_init_75 : decode cX3_init 75 = .ok (.aload_n 0, 1) := by decide +kernel
theorem dX3_init_76 : decode cX3_init 76 = .ok (.iconst 0, 1) := by decide +kernel
theorem dX3_init_77 : decode cX3_init 77 = .ok (.putfield 42, 3) := by decide +kernel
theorem dX3_init_80 : decode cX3_init 80 = .ok (.aload_n 0, 1) := by decide +kernel
theorem dX3_init_81 : decode cX3_init 81 = .ok (.iconst 0, 1) := by decide +kernel
theorem dX3_init_82 : decode cX3_init 82 = .ok (.putfield 45, 3) := by decide +kernel
theorem dX3_init_85 : decode cX3_init 85 = .ok (.iconst 0, 1) := by decide +kernel
theorem dX3_init_86 : decode cX3_init 86 = .ok (.istore_n 1, 1) := by decide +kernel
theorem dX3_init_87 : decode cX3_init 87 = .ok (.iload_n 1, 1) := by decide +kernel
theorem dX3_init_88 : decode cX3_init 88 = .ok (.aload_n 0, 1) := by decide +kernel
theorem dX3_init_89 : decode cX3_init 89 = .ok (.getfield 11, 3) := by decide +kernel
theorem dX3_init_92 : decode cX3_init 92 = .ok (.arraylength, 1) := by decide +kernel
theorem dX3_init_93 : decode cX3_init 93 = .ok (.if_icmp .ge 22, 3) := by decide +kernel
theorem dX3_init_96 : decode cX3_init 96 = .ok (.aload_n 0, 1) := by decide +kernel
theorem dX3_init_97 : decode cX3_init 97 = .ok (.getfield 11, 3) := by decide +kernel
theorem dX3_init_100 : decode cX3_init 100 = .ok (.iload_n 1, 1) := by decide +kernel
theorem dX3_init_101 : decode cX3_init 101 = .ok (.new 9, 3) := by decide +kernel
theorem dX3_init_104 : decode cX3_init 104 = .ok (.dup, 1) := by decide +kernel
theorem dX3_init_105 : decode cX3_init 105 = .ok (.invokespecial 31, 3) := by decide +kernel
theorem dX3_init_108 : decode cX3_init 108 = .ok (.aastore, 1) := by decide +kernel
theorem dX3_init_109 : decode cX3_init 109 = .ok (.iinc 1 1, 3) := by decide +kernel
theorem dX3_init_112 : decode cX3_init 112 = .ok (.goto (-25), 3) := by decide +kernel
theorem dX3_init_115 : decode cX3_init 115 = .ok (.return_, 1) := by decide +kernel
theorem dX4_init_0 : decode cX4_init 0 = .ok (.aload_n 0, 1) := by decide +kernel
theorem dX4_init_1 : decode cX4_init 1 = .ok (.invokespecial 3, 3) := by decide +kernel
theorem dX4_init_4 : decode cX4_init 4 = .ok (.aload_n 0, 1) := by decide +kernel
theorem dX4_init_5 : decode cX4_init 5 = .ok (.sipush 512, 3) := by decide +kernel
theorem dX4_init_8 : decode cX4_init 8 = .ok (.newarray .char, 2) := by decide +kernel
theorem dX4_init_10 : decode cX4_init 10 = .ok (.putfield 9, 3) := by decide +kernel
theorem dX4_init_13 : decode cX4_init 13 = .ok (.aload_n 0, 1) := by decide +kernel
theorem dX4_init_14 : decode cX4_init 14 = .ok (.iconst 0, 1) := by decide +kernel
theorem dX4_init_15 : decode cX4_init 15 = .ok (.putfield 15, 3) := by decide +kernel
theorem dX4_init_18 : decode cX4_init 18 = .ok (.return_, 1) := by decide +kernel
theorem dX4_size_0 : decode cX4_size 0 = .ok (.aload_n 0, 1) := by decide +kernel
theorem dX4_size_1 : decode cX4_size 1 = .ok (.getfield 15, 3) := by decide +kernel
theorem dX4_size_4 : decode cX4_size 4 = .ok (.ireturn, 1) := by decide +kernel
theorem dX4_clear_0 : decode cX4_clear 0 = .ok (.aload_n 0, 1) := by decide +kernel
theorem dX4_clear_1 : decode cX4_clear 1 = .ok (.iconst 0, 1) := by decide +kernel
theorem dX4_clear_2 : decode cX4_clear 2 = .ok (.putfield 15, 3) := by decide +kernel
theorem dX4_clear_5 : decode cX4_clear 5 = .ok (.return_, 1) := by decide +kernel
theorem dX4_at_0 : decode cX4_at 0 = .ok (.iload_n 1, 1) := by decide +kernel
theorem dX4_at_1 : decode cX4_at 1 = .ok (.ifCond .lt 29, 3) := by decide +kernel
theorem dX4_at_4 : decode cX4_at 4 = .ok (.iload_n 1, 1) := by decide +kernel
theorem dX4_at_5 : decode cX4_at 5 = .ok (.aload_n 0, 1) := by decide +kernel
theorem dX4_at_6 : decode cX4_at 6 = .ok (.getfield 15, 3) := by decide +kernel
theorem dX4_at_9 : decode cX4_at 9 = .ok (.if_icmp .ge 21, 3) := by decide +kernel
theorem dX4_at_30 : decode cX4_at 30 = .ok (.iconst 0, 1) := by decide +kernel
theorem dX4_at_31 : decode cX4_at 31 = .ok (.ireturn, 1) := by decide +kernel
theorem dX4_put_0 : decode cX4_put 0 = .ok (.aload_n 0, 1) := by decide +kernel
theorem dX4_put_1 : decode cX4_put 1 = .ok (.getfield 15, 3) := by decide +kernel
theorem dX4_put_4 : decode cX4_put 4 = .ok (.ifCond .lt 35, 3) := by decide +kernel
theorem dX4_put_7 : decode cX4_put 7 = .ok (.aload_n 0, 1) := by decide +kernel
theorem dX4_put_8 : decode cX4_put 8 = .ok (.getfield 15, 3) := by decide +kernel
theorem dX4_put_11 : decode cX4_put 11 = .ok (.aload_n 0, 1) := by decide +kernel
theorem dX4_put_12 : decode cX4_put 12 = .ok (.getfield 9, 3) := by decide +kernel
theorem dX4_put_15 : decode cX4_put 15 = .ok (.arraylength, 1) := by decide +kernel
theorem dX4_put_16 : decode cX4_put 16 = .ok (.if_icmp .ge 23, 3) := by decide +kernel
theorem dX4_put_19 : decode cX4_put 19 = .ok (.aload_n 0, 1) := by decide +kernel
theorem dX4_put_20 : decode cX4_put 20 = .ok (.getfield 9, 3) := by decide +kernel
theorem dX4_put_23 : decode cX4_put 23 = .ok (.aload_n 0, 1) := by decide +kernel
theorem dX4_put_24 : decode cX4_put 24 = .ok (.getfield 15, 3) := by decide +kernel
theorem dX4_put_27 : decode cX4_put 27 = .ok (.iload_n 1, 1) := by decide +kernel
theorem dX4_put_28 : decode cX4_put 28 = .ok (.castore, 1) := by decide +kernel
theorem dX4_put_29 : decode cX4_put 29 = .ok (.aload_n 0, 1) := by decide +kernel
theorem dX4_put_30 : decode cX4_put 30 = .ok (.dup, 1) := by decide +kernel
theorem dX4_put_31 : decode cX4_put 31 = .ok (.getfield 15, 3) := by decide +kernel
theorem dX4_put_34 : decode cX4_put 34 = .ok (.iconst 1, 1) := by decide +kernel
theorem dX4_put_35 : decode cX4_put 35 = .ok (.iadd, 1) := by decide +kernel
theorem dX4_put_36 : decode cX4_put 36 = .ok (.putfield 15, 3) := by decide +kernel
theorem dX4_put_39 : decode cX4_put 39 = .ok (.return_, 1) := by decide +kernel
theorem dX4_wordEnd_0 : decode cX4_wordEnd 0 = .ok (.iload_n 1, 1) := by decide +kernel
theorem dX4_wordEnd_1 : decode cX4_wordEnd 1 = .ok (.istore_n 2, 1) := by decide +kernel
theorem dX4_wordEnd_2 : decode cX4_wordEnd 2 = .ok (.iload_n 2, 1) := by decide +kernel
theorem dX4_wordEnd_3 : decode cX4_wordEnd 3 = .ok (.aload_n 0, 1) := by decide +kernel
theorem dX4_wordEnd_4 : decode cX4_wordEnd 4 = .ok (.getfield 15, 3) := by decide +kernel
theorem dX4_wordEnd_7 : decode cX4_wordEnd 7 = .ok (.if_icmp .ge 20, 3) := by decide +kernel
theorem dX4_wordEnd_27 : decode cX4_wordEnd 27 = .ok (.iload_n 2, 1) := by decide +kernel
theorem dX4_wordEnd_28 : decode cX4_wordEnd 28 = .ok (.ireturn, 1) := by decide +kernel
theorem dX4_wordAt_0 : decode cX4_wordAt 0 = .ok (.lconst 0, 1) := by decide +kernel
theorem dX4_wordAt_1 : decode cX4_wordAt 1 = .ok (.lstore_n 3, 1) := by decide +kernel
theorem dX4_wordAt_2 : decode cX4_wordAt 2 = .ok (.iconst 0, 1) := by decide +kernel
theorem dX4_wordAt_3 : decode cX4_wordAt 3 = .ok (.istore 5, 2) := by decide +kernel
theorem dX4_wordAt_5 : decode cX4_wordAt 5 = .ok (.iload 5, 2) := by decide +kernel
theorem dX4_wordAt_7 : decode cX4_wordAt 7 = .ok (.bipush 12, 2) := by decide +kernel
theorem dX4_wordAt_9 : decode cX4_wordAt 9 = .ok (.if_icmp .ge 35, 3) := by decide +kernel
theorem dX4_wordAt_12 : decode cX4_wordAt 12 = .ok (.iload 5, 2) := by decide +kernel
theorem dX4_wordAt_14 : decode cX4_wordAt 14 = .ok (.iload_n 2, 1) := by decide +kernel
theorem dX4_wordAt_15 : decode cX4_wordAt 15 = .ok (.iload_n 1, 1) := by decide +kernel
theorem dX4_wordAt_16 : decode cX4_wordAt 16 = .ok (.isub, 1) := by decide +kernel
theorem dX4_wordAt_17 : decode cX4_wordAt 17 = .ok (.if_icmp .ge 27, 3) := by decide +kernel
theorem dX4_wordAt_44 : decode cX4_wordAt 44 = .ok (.lload_n 3, 1) := by decide +kernel
theorem dX4_wordAt_45 : decode cX4_wordAt 45 = .ok (.lreturn, 1) := by decide +kernel
theorem dX4_onlyWord_0 : decode cX4_onlyWord 0 = .ok (.aload_n 0, 1) := by decide +kernel
theorem dX4_onlyWord_1 : decode cX4_onlyWord 1 = .ok (.iconst 0, 1) := by decide +kernel
theorem dX4_onlyWord_2 : decode cX4_onlyWord 2 = .ok (.invokevirtual 50, 3) := by decide +kernel
theorem dX4_onlyWord_5 : decode cX4_onlyWord 5 = .ok (.aload_n 0, 1) := by decide +kernel
theorem dX4_onlyWord_6 : decode cX4_onlyWord 6 = .ok (.getfield 15, 3) := by decide +kernel
theorem dX4_onlyWord_9 : decode cX4_onlyWord 9 = .ok (.if_icmp .ne 15, 3) := by decide +kernel
theorem dX4_onlyWord_12 : decode cX4_onlyWord 12 = .ok (.aload_n 0, 1) := by decide +kernel
theorem dX4_onlyWord_13 : decode cX4_onlyWord 13 = .ok (.iconst 0, 1) := by decide +kernel
theorem dX4_onlyWord_14 : decode cX4_onlyWord 14 = .ok (.aload_n 0, 1) := by decide +kernel
theorem dX4_onlyWord_15 : decode cX4_onlyWord 15 = .ok (.getfield 15, 3) := by decide +kernel
theorem dX4_onlyWord_18 : decode cX4_onlyWord 18 = .ok (.invokevirtual 54, 3) := by decide +kernel
theorem dX4_onlyWord_21 : decode cX4_onlyWord 21 = .ok (.goto 4, 3) := by decide +kernel
theorem dX4_onlyWord_25 : decode cX4_onlyWord 25 = .ok (.lreturn, 1) := by decide +kernel
theorem dX4_placeOf_0 : decode cX4_placeOf 0 = .ok (.iconst 0, 1) := by decide +kernel
theorem dX4_placeOf_1 : decode cX4_placeOf 1 = .ok (.istore_n 2, 1) := by decide +kernel
theorem dX4_placeOf_2 : decode cX4_placeOf 2 = .ok (.iload_n 2, 1) := by decide +kernel
theorem dX4_placeOf_3 : decode cX4_placeOf 3 = .ok (.aload_n 0, 1) := by decide +kernel
theorem dX4_placeOf_4 : decode cX4_placeOf 4 = .ok (.getfield 15, 3) := by decide +kernel
theorem dX4_placeOf_7 : decode cX4_placeOf 7 = .ok (.if_icmp .ge 20, 3) := by decide +kernel
theorem dX4_placeOf_27 : decode cX4_placeOf 27 = .ok (.iconst (-1), 1) := by decide +kernel
theorem dX4_placeOf_28 : decode cX4_placeOf 28 = .ok (.ireturn, 1) := by decide +kernel
theorem dX5_init_0 : decode cX5_init 0 = .ok (.aload_n 0, 1) := by decide +kernel
theorem dX5_init_1 : decode cX5_init 1 = .ok (.invokespecial 1, 3) := by decide +kernel
theorem dX5_init_4 : decode cX5_init 4 = .ok (.aload_n 0, 1) := by decide +kernel
theorem dX5_init_5 : decode cX5_init 5 = .ok (.iconst 0, 1) := by decide +kernel
theorem dX5_init_6 : decode cX5_init 6 = .ok (.putfield 9, 3) := by decide +kernel
theorem dX5_init_9 : decode cX5_init 9 = .ok (.aload_n 0, 1) := by decide +kernel
theorem dX5_init_10 : decode cX5_init 10 = .ok (.iconst 0, 1) := by decide +kernel
theorem dX5_init_11 : decode cX5_init 11 = .ok (.putfield 13, 3) := by decide +kernel
theorem dX5_init_14 : decode cX5_init 14 = .ok (.aload_n 0, 1) := by decide +kernel
theorem dX5_init_15 : decode cX5_init 15 = .ok (.iconst 1, 1) := by decide +kernel
theorem dX5_init_16 : decode cX5_init 16 = .ok (.putfield 17, 3) := by decide +kernel
theorem dX5_init_19 : decode cX5_init 19 = .ok (.aload_n 0, 1) := by decide +kernel
theorem dX5_init_20 : decode cX5_init 20 = .ok (.iconst 0, 1) := by decide +kernel
theorem dX5_init_21 : decode cX5_init 21 = .ok (.putfield 20, 3) := by decide +kernel
theorem dX5_init_24 : decode cX5_init 24 = .ok (.aload_n 0, 1) := by decide +kernel
theorem dX5_init_25 : decode cX5_init 25 = .ok (.iconst 0, 1) := by decide +kernel
theorem dX5_init_26 : decode cX5_init 26 = .ok (.putfield 23, 3) := by decide +kernel
theorem dX5_init_29 : decode cX5_init 29 = .ok (.aload_n 0, 1) := by decide +kernel
theorem dX5_init_30 : decode cX5_init 30 = .ok (.iconst 0, 1) := by decide +kernel
theorem dX5_init_31 : decode cX5_init 31 = .ok (.putfield 26, 3) := by decide +kernel
theorem dX5_init_34 : decode cX5_init 34 = .ok (.aload_n 0, 1) := by decide +kernel
theorem dX5_init_35 : decode cX5_init 35 = .ok (.new 29, 3) := by decide +kernel
theorem dX5_init_38 : decode cX5_init 38 = .ok (.dup, 1) := by decide +kernel
theorem dX5_init_39 : decode cX5_init 39 = .ok (.invokespecial 31, 3) := by decide +kernel
theorem dX5_init_42 : decode cX5_init 42 = .ok (.putfield 32, 3) := by decide +kernel
theorem dX5_init_45 : decode cX5_init 45 = .ok (.aload_n 0, 1) := by decide +kernel
theorem dX5_init_46 : decode cX5_init 46 = .ok (.aconst_null, 1) := by decide +kernel
theorem dX5_init_47 : decode cX5_init 47 = .ok (.putfield 36, 3) := by decide +kernel
theorem dX5_init_50 : decode cX5_init 50 = .ok (.aload_n 0, 1) := by decide +kernel
theorem dX5_init_51 : decode cX5_init 51 = .ok (.aconst_null, 1) := by decide +kernel
theorem dX5_init_52 : decode cX5_init 52 = .ok (.putfield 40, 3) := by decide +kernel
theorem dX5_init_55 : decode cX5_init 55 = .ok (.aload_n 0, 1) := by decide +kernel
theorem dX5_init_56 : decode cX5_init 56 = .ok (.aconst_null, 1) := by decide +kernel
theorem dX5_init_57 : decode cX5_init 57 = .ok (.putfield 43, 3) := by decide +kernel
theorem dX5_init_60 : decode cX5_init 60 = .ok (.aload_n 0, 1) := by decide +kernel
theorem dX5_init_61 : decode cX5_init 61 = .ok (.aconst_null, 1) := by decide +kernel
theorem dX5_init_62 : decode cX5_init 62 = .ok (.putfield 46, 3) := by decide +kernel
theorem dX5_init_65 : decode cX5_init 65 = .ok (.aload_n 0, 1) := by decide +kernel
theorem dX5_init_66 : decode cX5_init 66 = .ok (.iconst 0, 1) := by decide +kernel
theorem dX5_init_67 : decode cX5_init 67 = .ok (.putfield 49, 3) := by decide +kernel
theorem dX5_init_70 : decode cX5_init 70 = .ok (.aload_n 0, 1) := by decide +kernel
theorem dX5_init_71 : decode cX5_init 71 = .ok (.iconst 0, 1) := by decide +kernel
theorem dX5_init_72 : decode cX5_init 72 = .ok (.putfield 52, 3) := by decide +kernel
theorem dX5_init_75 : decode cX5_init 75 = .ok (.aload_n 0, 1) := by decide +kernel
theorem dX5_init_76 : decode cX5_init 76 = .ok (.iconst 0, 1) := by decide +kernel
theorem dX5_init_77 : decode cX5_init 77 = .ok (.putfield 55, 3) := by decide +kernel
theorem dX5_init_80 : decode cX5_init 80 = .ok (.aload_n 0, 1) := by decide +kernel
theorem dX5_init_81 : decode cX5_init 81 = .ok (.iconst 0, 1) := by decide +kernel
theorem dX5_init_82 : decode cX5_init 82 = .ok (.putfield 58, 3) := by decide +kernel
theorem dX5_init_85 : decode cX5_init 85 = .ok (.aload_n 0, 1) := by decide +kernel
theorem dX5_init_86 : decode cX5_init 86 = .ok (.aconst_null, 1) := by decide +kernel
theorem dX5_init_87 : decode cX5_init 87 = .ok (.putfield 61, 3) := by decide +kernel
theorem dX5_init_90 : decode cX5_init 90 = .ok (.aload_n 0, 1) := by decide +kernel
theorem dX5_init_91 : decode cX5_init 91 = .ok (.aconst_null, 1) := by decide +kernel
theorem dX5_init_92 : decode cX5_init 92 = .ok (.putfield 64, 3) := by decide +kernel
theorem dX5_init_95 : decode cX5_init 95 = .ok (.return_, 1) := by decide +kernel
theorem dX5_reset_0 : decode cX5_reset 0 = .ok (.aload_n 0, 1) := by decide +kernel
theorem dX5_reset_1 : decode cX5_reset 1 = .ok (.iload_n 1, 1) := by decide +kernel
theorem dX5_reset_2 : decode cX5_reset 2 = .ok (.putfield 9, 3) := by decide +kernel
theorem dX5_reset_5 : decode cX5_reset 5 = .ok (.aload_n 0, 1) := by decide +kernel
theorem dX5_reset_6 : decode cX5_reset 6 = .ok (.iconst 0, 1) := by decide +kernel
theorem dX5_reset_7 : decode cX5_reset 7 = .ok (.putfield 13, 3) := by decide +kernel
theorem dX5_reset_10 : decode cX5_reset 10 = .ok (.aload_n 0, 1) := by decide +kernel
theorem dX5_reset_11 : decode cX5_reset 11 = .ok (.iconst 1, 1) := by decide +kernel
theorem dX5_reset_12 : decode cX5_reset 12 = .ok (.putfield 17, 3) := by decide +kernel
theorem dX5_reset_15 : decode cX5_reset 15 = .ok (.aload_n 0, 1) := by decide +kernel
theorem dX5_reset_16 : decode cX5_reset 16 = .ok (.iconst 0, 1) := by decide +kernel
theorem dX5_reset_17 : decode cX5_reset 17 = .ok (.putfield 20, 3) := by decide +kernel
theorem dX5_reset_20 : decode cX5_reset 20 = .ok (.aload_n 0, 1) := by decide +kernel
theorem dX5_reset_21 : decode cX5_reset 21 = .ok (.iconst 0, 1) := by decide +kernel
theorem dX5_reset_22 : decode cX5_reset 22 = .ok (.putfield 23, 3) := by decide +kernel
theorem dX5_reset_25 : decode cX5_reset 25 = .ok (.aload_n 0, 1) := by decide +kernel
theorem dX5_reset_26 : decode cX5_reset 26 = .ok (.iconst 0, 1) := by decide +kernel
theorem dX5_reset_27 : decode cX5_reset 27 = .ok (.putfield 26, 3) := by decide +kernel
theorem dX5_reset_30 : decode cX5_reset 30 = .ok (.aload_n 0, 1) := by decide +kernel
theorem dX5_reset_31 : decode cX5_reset 31 = .ok (.getfield 32, 3) := by decide +kernel
theorem dX5_reset_34 : decode cX5_reset 34 = .ok (.invokevirtual 67, 3) := by decide +kernel
theorem dX5_reset_37 : decode cX5_reset 37 = .ok (.aload_n 0, 1) := by decide +kernel
theorem dX5_reset_38 : decode cX5_reset 38 = .ok (.aconst_null, 1) := by decide +kernel
theorem dX5_reset_39 : decode cX5_reset 39 = .ok (.putfield 36, 3) := by decide +kernel
theorem dX5_reset_42 : decode cX5_reset 42 = .ok (.aload_n 0, 1) := by decide +kernel
theorem dX5_reset_43 : decode cX5_reset 43 = .ok (.aconst_null, 1) := by decide +kernel
theorem dX5_reset_44 : decode cX5_reset 44 = .ok (.putfield 40, 3) := by decide +kernel
theorem dX5_reset_47 : decode cX5_reset 47 = .ok (.aload_n 0, 1) := by decide +kernel
theorem dX5_reset_48 : decode cX5_reset 48 = .ok (.invokevirtual 70, 3) := by decide +kernel
theorem dX5_reset_51 : decode cX5_reset 51 = .ok (.return_, 1) := by decide +kernel
theorem dX5_empty_0 : decode cX5_empty 0 = .ok (.aload_n 0, 1) := by decide +kernel
theorem dX5_empty_1 : decode cX5_empty 1 = .ok (.aconst_null, 1) := by decide +kernel
theorem dX5_empty_2 : decode cX5_empty 2 = .ok (.putfield 43, 3) := by decide +kernel
theorem dX5_empty_5 : decode cX5_empty 5 = .ok (.aload_n 0, 1) := by decide +kernel
theorem dX5_empty_6 : decode cX5_empty 6 = .ok (.aconst_null, 1) := by decide +kernel
theorem dX5_empty_7 : decode cX5_empty 7 = .ok (.putfield 46, 3) := by decide +kernel
theorem dX5_empty_10 : decode cX5_empty 10 = .ok (.aload_n 0, 1) := by decide +kernel
theorem dX5_empty_11 : decode cX5_empty 11 = .ok (.iconst 0, 1) := by decide +kernel
theorem dX5_empty_12 : decode cX5_empty 12 = .ok (.putfield 49, 3) := by decide +kernel
theorem dX5_empty_15 : decode cX5_empty 15 = .ok (.return_, 1) := by decide +kernel
theorem dX6_init_0 : decode cX6_init 0 = .ok (.aload_n 0, 1) := by decide +kernel
theorem dX6_init_1 : decode cX6_init 1 = .ok (.invokespecial 1, 3) := by decide +kernel
theorem dX6_init_4 : decode cX6_init 4 = .ok (.aload_n 0, 1) := by decide +kernel
theorem dX6_init_5 : decode cX6_init 5 = .ok (.new 7, 3) := by decide +kernel
theorem dX6_init_8 : decode cX6_init 8 = .ok (.dup, 1) := by decide +kernel
theorem dX6_init_9 : decode cX6_init 9 = .ok (.invokespecial 9, 3) := by decide +kernel
theorem dX6_init_12 : decode cX6_init 12 = .ok (.putfield 10, 3) := by decide +kernel
theorem dX6_init_15 : decode cX6_init 15 = .ok (.aload_n 0, 1) := by decide +kernel
theorem dX6_init_16 : decode cX6_init 16 = .ok (.aload_n 0, 1) := by decide +kernel
theorem dX6_init_17 : decode cX6_init 17 = .ok (.getfield 10, 3) := by decide +kernel
theorem dX6_init_20 : decode cX6_init 20 = .ok (.putfield 16, 3) := by decide +kernel
theorem dX6_init_23 : decode cX6_init 23 = .ok (.aload_n 0, 1) := by decide +kernel
theorem dX6_init_24 : decode cX6_init 24 = .ok (.aconst_null, 1) := by decide +kernel
theorem dX6_init_25 : decode cX6_init 25 = .ok (.putfield 19, 3) := by decide +kernel
theorem dX6_init_28 : decode cX6_init 28 = .ok (.return_, 1) := by decide +kernel
theorem dX6_isEmpty_0 : decode cX6_isEmpty 0 = .ok (.aload_n 0, 1) := by decide +kernel
theorem dX6_isEmpty_1 : decode cX6_isEmpty 1 = .ok (.getfield 19, 3) := by decide +kernel
theorem dX6_isEmpty_4 : decode cX6_isEmpty 4 = .ok (.ifnonnull 7, 3) := by decide +kernel
theorem dX6_isEmpty_7 : decode cX6_isEmpty 7 = .ok (.iconst 1, 1) := by decide +kernel
theorem dX6_isEmpty_8 : decode cX6_isEmpty 8 = .ok (.goto 4, 3) := by decide +kernel
theorem dX6_isEmpty_12 : decode cX6_isEmpty 12 = .ok (.ireturn, 1) := by decide +kernel
theorem dX6_clear_0 : decode cX6_clear 0 = .ok (.aload_n 0, 1) := by decide +kernel
theorem dX6_clear_1 : decode cX6_clear 1 = .ok (.aload_n 0, 1) := by decide +kernel
theorem dX6_clear_2 : decode cX6_clear 2 = .ok (.getfield 10, 3) := by decide +kernel
theorem dX6_clear_5 : decode cX6_clear 5 = .ok (.putfield 16, 3) := by decide +kernel
theorem dX6_clear_8 : decode cX6_clear 8 = .ok (.aload_n 0, 1) := by decide +kernel
theorem dX6_clear_9 : decode cX6_clear 9 = .ok (.aconst_null, 1) := by decide +kernel
theorem dX6_clear_10 : decode cX6_clear 10 = .ok (.putfield 19, 3) := by decide +kernel
theorem dX6_clear_13 : decode cX6_clear 13 = .ok (.return_, 1) := by decide +kernel
theorem dX6_fresh_0 : decode cX6_fresh 0 = .ok (.aload_n 0, 1) := by decide +kernel
theorem dX6_fresh_1 : decode cX6_fresh 1 = .ok (.getfield 16, 3) := by decide +kernel
theorem dX6_fresh_4 : decode cX6_fresh 4 = .ok (.getfield 22, 3) := by decide +kernel
theorem dX6_fresh_7 : decode cX6_fresh 7 = .ok (.ifnonnull 17, 3) := by decide +kernel
theorem dX6_fresh_10 : decode cX6_fresh 10 = .ok (.aload_n 0, 1) := by decide +kernel
theorem dX6_fresh_11 : decode cX6_fresh 11 = .ok (.getfield 16, 3) := by decide +kernel
theorem dX6_fresh_14 : decode cX6_fresh 14 = .ok (.new 7, 3) := by decide +kernel
theorem dX6_fresh_17 : decode cX6_fresh 17 = .ok (.dup, 1) := by decide +kernel
theorem dX6_fresh_18 : decode cX6_fresh 18 = .ok (.invokespecial 9, 3) := by decide +kernel
theorem dX6_fresh_21 : decode cX6_fresh 21 = .ok (.putfield 22, 3) := by decide +kernel
theorem dX6_fresh_24 : decode cX6_fresh 24 = .ok (.aload_n 0, 1) := by decide +kernel
theorem dX6_fresh_25 : decode cX6_fresh 25 = .ok (.aload_n 0, 1) := by decide +kernel
theorem dX6_fresh_26 : decode cX6_fresh 26 = .ok (.getfield 16, 3) := by decide +kernel
theorem dX6_fresh_29 : decode cX6_fresh 29 = .ok (.getfield 22, 3) := by decide +kernel
theorem dX6_fresh_32 : decode cX6_fresh 32 = .ok (.putfield 16, 3) := by decide +kernel
theorem dX6_fresh_35 : decode cX6_fresh 35 = .ok (.aload_n 0, 1) := by decide +kernel
theorem dX6_fresh_36 : decode cX6_fresh 36 = .ok (.getfield 16, 3) := by decide +kernel
theorem dX6_fresh_39 : decode cX6_fresh 39 = .ok (.iload_n 1, 1) := by decide +kernel
theorem dX6_fresh_40 : decode cX6_fresh 40 = .ok (.invokevirtual 25, 3) := by decide +kernel
theorem dX6_fresh_43 : decode cX6_fresh 43 = .ok (.aload_n 0, 1) := by decide +kernel
theorem dX6_fresh_44 : decode cX6_fresh 44 = .ok (.getfield 16, 3) := by decide +kernel
theorem dX6_fresh_47 : decode cX6_fresh 47 = .ok (.areturn, 1) := by decide +kernel
theorem dX7_init_0 : decode cX7_init 0 = .ok (.aload_n 0, 1) := by decide +kernel
theorem dX7_init_1 : decode cX7_init 1 = .ok (.invokespecial 3, 3) := by decide +kernel
theorem dX7_init_4 : decode cX7_init 4 = .ok (.aload_n 0, 1) := by decide +kernel
theorem dX7_init_5 : decode cX7_init 5 = .ok (.iconst 4, 1) := by decide +kernel
theorem dX7_init_6 : decode cX7_init 6 = .ok (.newarray .long, 2) := by decide +kernel
theorem dX7_init_8 : decode cX7_init 8 = .ok (.putfield 9, 3) := by decide +kernel
theorem dX7_init_11 : decode cX7_init 11 = .ok (.aload_n 0, 1) := by decide +kernel
theorem dX7_init_12 : decode cX7_init 12 = .ok (.iconst 0, 1) := by decide +kernel
theorem dX7_init_13 : decode cX7_init 13 = .ok (.putfield 15, 3) := by decide +kernel
theorem dX7_init_16 : decode cX7_init 16 = .ok (.return_, 1) := by decide +kernel
theorem dX7_size_0 : decode cX7_size 0 = .ok (.aload_n 0, 1) := by decide +kernel
theorem dX7_size_1 : decode cX7_size 1 = .ok (.getfield 15, 3) := by decide +kernel
theorem dX7_size_4 : decode cX7_size 4 = .ok (.ireturn, 1) := by decide +kernel
theorem dX7_clear_0 : decode cX7_clear 0 = .ok (.aload_n 0, 1) := by decide +kernel
theorem dX7_clear_1 : decode cX7_clear 1 = .ok (.iconst 0, 1) := by decide +kernel
theorem dX7_clear_2 : decode cX7_clear 2 = .ok (.putfield 15, 3) := by decide +kernel
theorem dX7_clear_5 : decode cX7_clear 5 = .ok (.return_, 1) := by decide +kernel
theorem dX7_read_0 : decode cX7_read 0 = .ok (.aload_n 0, 1) := by decide +kernel
theorem dX7_read_1 : decode cX7_read 1 = .ok (.invokevirtual 41, 3) := by decide +kernel
theorem dX7_read_4 : decode cX7_read 4 = .ok (.iload_n 2, 1) := by decide +kernel
theorem dX7_read_5 : decode cX7_read 5 = .ok (.istore 4, 2) := by decide +kernel
theorem dX7_read_7 : decode cX7_read 7 = .ok (.iload 4, 2) := by decide +kernel
theorem dX7_read_9 : decode cX7_read 9 = .ok (.iload_n 3, 1) := by decide +kernel
theorem dX7_read_10 : decode cX7_read 10 = .ok (.if_icmp .ge 43, 3) := by decide +kernel
theorem dX7_read_53 : decode cX7_read 53 = .ok (.return_, 1) := by decide +kernel
theorem dX8_init_0 : decode cX8_init 0 = .ok (.aload_n 0, 1) := by decide +kernel
theorem dX8_init_1 : decode cX8_init 1 = .ok (.invokespecial 3, 3) := by decide +kernel
theorem dX8_init_4 : decode cX8_init 4 = .ok (.aload_n 0, 1) := by decide +kernel
theorem dX8_init_5 : decode cX8_init 5 = .ok (.bipush 24, 2) := by decide +kernel
theorem dX8_init_7 : decode cX8_init 7 = .ok (.anewarray 9, 3) := by decide +kernel
theorem dX8_init_10 : decode cX8_init 10 = .ok (.putfield 11, 3) := by decide +kernel
theorem dX8_init_13 : decode cX8_init 13 = .ok (.aload_n 0, 1) := by decide +kernel
theorem dX8_init_14 : decode cX8_init 14 = .ok (.iconst 0, 1) := by decide +kernel
theorem dX8_init_15 : decode cX8_init 15 = .ok (.putfield 17, 3) := by decide +kernel
theorem dX8_init_18 : decode cX8_init 18 = .ok (.aload_n 0, 1) := by decide +kernel
theorem dX8_init_19 : decode cX8_init 19 = .ok (.iconst 1, 1) := by decide +kernel
theorem dX8_init_20 : decode cX8_init 20 = .ok (.putfield 21, 3) := by decide +kernel
theorem dX8_init_23 : decode cX8_init 23 = .ok (.return_, 1) := by decide +kernel
theorem dX8_came_0 : decode cX8_came 0 = .ok (.aload_n 0, 1) := by decide +kernel
theorem dX8_came_1 : decode cX8_came 1 = .ok (.getfield 17, 3) := by decide +kernel
theorem dX8_came_4 : decode cX8_came 4 = .ok (.ireturn, 1) := by decide +kernel
theorem dX8_partCount_0 : decode cX8_partCount 0 = .ok (.aload_n 0, 1) := by decide +kernel
theorem dX8_partCount_1 : decode cX8_partCount 1 = .ok (.getfield 21, 3) := by decide +kernel
theorem dX8_partCount_4 : decode cX8_partCount 4 = .ok (.ireturn, 1) := by decide +kernel
theorem dX8_at_0 : decode cX8_at 0 = .ok (.iload_n 1, 1) := by decide +kernel
theorem dX8_at_1 : decode cX8_at 1 = .ok (.ifCond .lt 20, 3) := by decide +kernel
theorem dX8_at_4 : decode cX8_at 4 = .ok (.iload_n 1, 1) := by decide +kernel
theorem dX8_at_5 : decode cX8_at 5 = .ok (.aload_n 0, 1) := by decide +kernel
theorem dX8_at_6 : decode cX8_at 6 = .ok (.getfield 17, 3) := by decide +kernel
theorem dX8_at_9 : decode cX8_at 9 = .ok (.if_icmp .ge 12, 3) := by decide +kernel
theorem dX8_at_21 : decode cX8_at 21 = .ok (.aconst_null, 1) := by decide +kernel
theorem dX8_at_22 : decode cX8_at 22 = .ok (.areturn, 1) := by decide +kernel
theorem dX8_place_0 : decode cX8_place 0 = .ok (.iload_n 1, 1) := by decide +kernel
theorem dX8_place_1 : decode cX8_place 1 = .ok (.ifCond .lt 12, 3) := by decide +kernel
theorem dX8_place_4 : decode cX8_place 4 = .ok (.iload_n 1, 1) := by decide +kernel
theorem dX8_place_5 : decode cX8_place 5 = .ok (.aload_n 0, 1) := by decide +kernel
theorem dX8_place_6 : decode cX8_place 6 = .ok (.getfield 11, 3) := by decide +kernel
theorem dX8_place_9 : decode cX8_place 9 = .ok (.arraylength, 1) := by decide +kernel
theorem dX8_place_10 : decode cX8_place 10 = .ok (.if_icmp .lt 5, 3) := by decide +kernel
theorem dX8_place_15 : decode cX8_place 15 = .ok (.aload_n 0, 1) := by decide +kernel
theorem dX8_place_16 : decode cX8_place 16 = .ok (.getfield 11, 3) := by decide +kernel
theorem dX8_place_19 : decode cX8_place 19 = .ok (.iload_n 1, 1) := by decide +kernel
theorem dX8_place_20 : decode cX8_place 20 = .ok (.aaload, 1) := by decide +kernel
theorem dX8_place_21 : decode cX8_place 21 = .ok (.ifnonnull 16, 3) := by decide +kernel
theorem dX8_place_24 : decode cX8_place 24 = .ok (.aload_n 0, 1) := by decide +kernel
theorem dX8_place_25 : decode cX8_place 25 = .ok (.getfield 11, 3) := by decide +kernel
theorem dX8_place_28 : decode cX8_place 28 = .ok (.iload_n 1, 1) := by decide +kernel
theorem dX8_place_29 : decode cX8_place 29 = .ok (.new 9, 3) := by decide +kernel
theorem dX8_place_32 : decode cX8_place 32 = .ok (.dup, 1) := by decide +kernel
theorem dX8_place_33 : decode cX8_place 33 = .ok (.invokespecial 28, 3) := by decide +kernel
theorem dX8_place_36 : decode cX8_place 36 = .ok (.aastore, 1) := by decide +kernel
theorem dX8_place_37 : decode cX8_place 37 = .ok (.aload_n 0, 1) := by decide +kernel
theorem dX8_place_38 : decode cX8_place 38 = .ok (.getfield 11, 3) := by decide +kernel
theorem dX8_place_41 : decode cX8_place 41 = .ok (.iload_n 1, 1) := by decide +kernel
theorem dX8_place_42 : decode cX8_place 42 = .ok (.aaload, 1) := by decide +kernel
theorem dX8_place_43 : decode cX8_place 43 = .ok (.astore_n 2, 1) := by decide +kernel
theorem dX8_place_44 : decode cX8_place 44 = .ok (.aload_n 2, 1) := by decide +kernel
theorem dX8_place_45 : decode cX8_place 45 = .ok (.aload_n 0, 1) := by decide +kernel
theorem dX8_place_46 : decode cX8_place 46 = .ok (.getfield 21, 3) := by decide +kernel
theorem dX8_place_49 : decode cX8_place 49 = .ok (.iconst 1, 1) := by decide +kernel
theorem dX8_place_50 : decode cX8_place 50 = .ok (.isub, 1) := by decide +kernel
theorem dX8_place_51 : decode cX8_place 51 = .ok (.putfield 29, 3) := by decide +kernel
theorem dX8_place_54 : decode cX8_place 54 = .ok (.aload_n 2, 1) := by decide +kernel
theorem dX8_place_55 : decode cX8_place 55 = .ok (.iconst 1, 1) := by decide +kernel
theorem dX8_place_56 : decode cX8_place 56 = .ok (.putfield 24, 3) := by decide +kernel
theorem dX8_place_59 : decode cX8_place 59 = .ok (.aload_n 2, 1) := by decide +kernel
theorem dX8_place_60 : decode cX8_place 60 = .ok (.areturn, 1) := by decide +kernel
theorem dX8_come_0 : decode cX8_come 0 = .ok (.aload_n 0, 1) := by decide +kernel
theorem dX8_come_1 : decode cX8_come 1 = .ok (.aload_n 0, 1) := by decide +kernel
theorem dX8_come_2 : decode cX8_come 2 = .ok (.getfield 17, 3) := by decide +kernel
theorem dX8_come_5 : decode cX8_come 5 = .ok (.invokevirtual 32, 3) := by decide +kernel
theorem dX8_come_8 : decode cX8_come 8 = .ok (.astore 4, 2) := by decide +kernel
theorem dX8_come_10 : decode cX8_come 10 = .ok (.aload 4, 2) := by decide +kernel
theorem dX8_come_12 : decode cX8_come 12 = .ok (.ifnonnull 8, 3) := by decide +kernel
theorem dX8_come_20 : decode cX8_come 20 = .ok (.aload_n 0, 1) := by decide +kernel
theorem dX8_come_21 : decode cX8_come 21 = .ok (.dup, 1) := by decide +kernel
theorem dX8_come_22 : decode cX8_come 22 = .ok (.getfield 17, 3) := by decide +kernel
theorem dX8_come_25 : decode cX8_come 25 = .ok (.iconst 1, 1) := by decide +kernel
theorem dX8_come_26 : decode cX8_come 26 = .ok (.iadd, 1) := by decide +kernel
theorem dX8_come_27 : decode cX8_come 27 = .ok (.putfield 17, 3) := by decide +kernel
theorem dX8_come_30 : decode cX8_come 30 = .ok (.aload 4, 2) := by decide +kernel
theorem dX8_come_32 : decode cX8_come 32 = .ok (.iload_n 2, 1) := by decide +kernel
theorem dX8_come_33 : decode cX8_come 33 = .ok (.putfield 36, 3) := by decide +kernel
theorem dX8_come_36 : decode cX8_come 36 = .ok (.aload 4, 2) := by decide +kernel
theorem dX8_come_38 : decode cX8_come 38 = .ok (.iload_n 3, 1) := by decide +kernel
theorem dX8_come_39 : decode cX8_come 39 = .ok (.putfield 39, 3) := by decide +kernel
theorem dX8_come_42 : decode cX8_come 42 = .ok (.aload 4, 2) := by decide +kernel
theorem dX8_come_44 : decode cX8_come 44 = .ok (.aload_n 1, 1) := by decide +kernel
theorem dX8_come_45 : decode cX8_come 45 = .ok (.invokevirtual 43, 3) := by decide +kernel
theorem dX8_come_48 : decode cX8_come 48 = .ok (.aload_n 0, 1) := by decide +kernel
theorem dX8_come_49 : decode cX8_come 49 = .ok (.getfield 17, 3) := by decide +kernel
theorem dX8_come_52 : decode cX8_come 52 = .ok (.iconst 1, 1) := by decide +kernel
theorem dX8_come_53 : decode cX8_come 53 = .ok (.isub, 1) := by decide +kernel
theorem dX8_come_54 : decode cX8_come 54 = .ok (.ireturn, 1) := by decide +kernel
theorem dX8_count_0 : decode cX8_count 0 = .ok (.iconst 0, 1) := by decide +kernel
theorem dX8_count_1 : decode cX8_count 1 = .ok (.istore_n 1, 1) := by decide +kernel
theorem dX8_count_2 : decode cX8_count 2 = .ok (.iconst 0, 1) := by decide +kernel
theorem dX8_count_3 : decode cX8_count 3 = .ok (.istore_n 2, 1) := by decide +kernel
theorem dX8_count_4 : decode cX8_count 4 = .ok (.iload_n 2, 1) := by decide +kernel
theorem dX8_count_5 : decode cX8_count 5 = .ok (.aload_n 0, 1) := by decide +kernel
theorem dX8_count_6 : decode cX8_count 6 = .ok (.getfield 17, 3) := by decide +kernel
theorem dX8_count_9 : decode cX8_count 9 = .ok (.if_icmp .ge 20, 3) := by decide +kernel
theorem dX8_count_29 : decode cX8_count 29 = .ok (.iload_n 1, 1) := by decide +kernel
theorem dX8_count_30 : decode cX8_count 30 = .ok (.ireturn, 1) := by decide +kernel
theorem dX8_countIn_0 : decode cX8_countIn 0 = .ok (.iconst 0, 1) := by decide +kernel
theorem dX8_countIn_1 : decode cX8_countIn 1 = .ok (.istore_n 2, 1) := by decide +kernel
theorem dX8_countIn_2 : decode cX8_countIn 2 = .ok (.iconst 0, 1) := by decide +kernel
theorem dX8_countIn_3 : decode cX8_countIn 3 = .ok (.istore_n 3, 1) := by decide +kernel
theorem dX8_countIn_4 : decode cX8_countIn 4 = .ok (.iload_n 3, 1) := by decide +kernel
theorem dX8_countIn_5 : decode cX8_countIn 5 = .ok (.aload_n 0, 1) := by decide +kernel
theorem dX8_countIn_6 : decode cX8_countIn 6 = .ok (.getfield 17, 3) := by decide +kernel
theorem dX8_countIn_9 : decode cX8_countIn 9 = .ok (.if_icmp .ge 33, 3) := by decide +kernel
theorem dX8_countIn_42 : decode cX8_countIn 42 = .ok (.iload_n 2, 1) := by decide +kernel
theorem dX8_countIn_43 : decode cX8_countIn 43 = .ok (.ireturn, 1) := by decide +kernel
theorem dX8_collect_0 : decode cX8_collect 0 = .ok (.aload_n 1, 1) := by decide +kernel
theorem dX8_collect_1 : decode cX8_collect 1 = .ok (.invokevirtual 54, 3) := by decide +kernel
theorem dX8_collect_4 : decode cX8_collect 4 = .ok (.iconst 0, 1) := by decide +kernel
theorem dX8_collect_5 : decode cX8_collect 5 = .ok (.istore_n 2, 1) := by decide +kernel
theorem dX8_collect_6 : decode cX8_collect 6 = .ok (.iload_n 2, 1) := by decide +kernel
theorem dX8_collect_7 : decode cX8_collect 7 = .ok (.aload_n 0, 1) := by decide +kernel
theorem dX8_collect_8 : decode cX8_collect 8 = .ok (.getfield 17, 3) := by decide +kernel
theorem dX8_collect_11 : decode cX8_collect 11 = .ok (.if_icmp .ge 87, 3) := by decide +kernel
theorem dX8_collect_98 : decode cX8_collect 98 = .ok (.return_, 1) := by decide +kernel
theorem dX8_takeFrame_0 : decode cX8_takeFrame 0 = .ok (.aload_n 0, 1) := by decide +kernel
theorem dX8_takeFrame_1 : decode cX8_takeFrame 1 = .ok (.aload_n 1, 1) := by decide +kernel
theorem dX8_takeFrame_2 : decode cX8_takeFrame 2 = .ok (.getfield 17, 3) := by decide +kernel
theorem dX8_takeFrame_5 : decode cX8_takeFrame 5 = .ok (.putfield 17, 3) := by decide +kernel
theorem dX8_takeFrame_8 : decode cX8_takeFrame 8 = .ok (.aload_n 0, 1) := by decide +kernel
theorem dX8_takeFrame_9 : decode cX8_takeFrame 9 = .ok (.aload_n 1, 1) := by decide +kernel
theorem dX8_takeFrame_10 : decode cX8_takeFrame 10 = .ok (.getfield 21, 3) := by decide +kernel
theorem dX8_takeFrame_13 : decode cX8_takeFrame 13 = .ok (.putfield 21, 3) := by decide +kernel
theorem dX8_takeFrame_16 : decode cX8_takeFrame 16 = .ok (.iconst 0, 1) := by decide +kernel
theorem dX8_takeFrame_17 : decode cX8_takeFrame 17 = .ok (.istore_n 2, 1) := by decide +kernel
theorem dX8_takeFrame_18 : decode cX8_takeFrame 18 = .ok (.iload_n 2, 1) := by decide +kernel
theorem dX8_takeFrame_19 : decode cX8_takeFrame 19 = .ok (.aload_n 0, 1) := by decide +kernel
theorem dX8_takeFrame_20 : decode cX8_takeFrame 20 = .ok (.getfield 17, 3) := by decide +kernel
theorem dX8_takeFrame_23 : decode cX8_takeFrame 23 = .ok (.if_icmp .ge 88, 3) := by decide +kernel
theorem dX8_takeFrame_111 : decode cX8_takeFrame 111 = .ok (.return_, 1) := by decide +kernel
theorem dX8_isLike_0 : decode cX8_isLike 0 = .ok (.iconst 0, 1) := by decide +kernel
theorem dX8_isLike_1 : decode cX8_isLike 1 = .ok (.istore_n 2, 1) := by decide +kernel
theorem dX8_isLike_2 : decode cX8_isLike 2 = .ok (.iload_n 2, 1) := by decide +kernel
theorem dX8_isLike_3 : decode cX8_isLike 3 = .ok (.aload_n 0, 1) := by decide +kernel
theorem dX8_isLike_4 : decode cX8_isLike 4 = .ok (.getfield 17, 3) := by decide +kernel
theorem dX8_isLike_7 : decode cX8_isLike 7 = .ok (.if_icmp .ge 63, 3) := by decide +kernel
theorem dX8_isLike_70 : decode cX8_isLike 70 = .ok (.iconst 1, 1) := by decide +kernel
theorem dX8_isLike_71 : decode cX8_isLike 71 = .ok (.ireturn, 1) := by decide +kernel
theorem dX8_writeInto_0 : decode cX8_writeInto 0 = .ok (.aload_n 1, 1) := by decide +kernel
theorem dX8_writeInto_1 : decode cX8_writeInto 1 = .ok (.invokevirtual 77, 3) := by decide +kernel
theorem dX8_writeInto_4 : decode cX8_writeInto 4 = .ok (.iconst 0, 1) := by decide +kernel
theorem dX8_writeInto_5 : decode cX8_writeInto 5 = .ok (.istore_n 2, 1) := by decide +kernel
theorem dX8_writeInto_6 : decode cX8_writeInto 6 = .ok (.iload_n 2, 1) := by decide +kernel
theorem dX8_writeInto_7 : decode cX8_writeInto 7 = .ok (.aload_n 0, 1) := by decide +kernel
theorem dX8_writeInto_8 : decode cX8_writeInto 8 = .ok (.getfield 17, 3) := by decide +kernel
theorem dX8_writeInto_11 : decode cX8_writeInto 11 = .ok (.if_icmp .ge 59, 3) := by decide +kernel
theorem dX8_writeInto_70 : decode cX8_writeInto 70 = .ok (.return_, 1) := by decide +kernel
theorem dX8_sum_0 : decode cX8_sum 0 = .ok (.lload_n 1, 1) := by decide +kernel
theorem dX8_sum_1 : decode cX8_sum 1 = .ok (.lstore_n 3, 1) := by decide +kernel
theorem dX8_sum_2 : decode cX8_sum 2 = .ok (.iconst 0, 1) := by decide +kernel
theorem dX8_sum_3 : decode cX8_sum 3 = .ok (.istore 5, 2) := by decide +kernel
theorem dX8_sum_5 : decode cX8_sum 5 = .ok (.iload 5, 2) := by decide +kernel
theorem dX8_sum_7 : decode cX8_sum 7 = .ok (.aload_n 0, 1) := by decide +kernel
theorem dX8_sum_8 : decode cX8_sum 8 = .ok (.getfield 17, 3) := by decide +kernel
theorem dX8_sum_11 : decode cX8_sum 11 = .ok (.if_icmp .ge 78, 3) := by decide +kernel
theorem dX8_sum_89 : decode cX8_sum 89 = .ok (.iconst 0, 1) := by decide +kernel
theorem dX8_sum_90 : decode cX8_sum 90 = .ok (.istore 5, 2) := by decide +kernel
theorem dX8_sum_92 : decode cX8_sum 92 = .ok (.iload 5, 2) := by decide +kernel
theorem dX8_sum_94 : decode cX8_sum 94 = .ok (.aload_n 0, 1) := by decide +kernel
theorem dX8_sum_95 : decode cX8_sum 95 = .ok (.getfield 21, 3) := by decide +kernel
theorem dX8_sum_98 : decode cX8_sum 98 = .ok (.if_icmp .ge 23, 3) := by decide +kernel
theorem dX8_sum_101 : decode cX8_sum 101 = .ok (.ldc2_w 112, 3) := by decide +kernel
theorem dX8_sum_104 : decode cX8_sum 104 = .ok (.lload_n 3, 1) := by decide +kernel
theorem dX8_sum_105 : decode cX8_sum 105 = .ok (.lmul, 1) := by decide +kernel
theorem dX8_sum_106 : decode cX8_sum 106 = .ok (.aload_n 0, 1) := by decide +kernel
theorem dX8_sum_107 : decode cX8_sum 107 = .ok (.iload 5, 2) := by decide +kernel
theorem dX8_sum_109 : decode cX8_sum 109 = .ok (.invokevirtual 118, 3) := by decide +kernel
theorem dX8_sum_112 : decode cX8_sum 112 = .ok (.i2l, 1) := by decide +kernel
theorem dX8_sum_113 : decode cX8_sum 113 = .ok (.ladd, 1) := by decide +kernel
theorem dX8_sum_114 : decode cX8_sum 114 = .ok (.lstore_n 3, 1) := by decide +kernel
theorem dX8_sum_115 : decode cX8_sum 115 = .ok (.iinc 5 1, 3) := by decide +kernel
theorem dX8_sum_118 : decode cX8_sum 118 = .ok (.goto (-26), 3) := by decide +kernel
theorem dX8_sum_121 : decode cX8_sum 121 = .ok (.lload_n 3, 1) := by decide +kernel
theorem dX8_sum_122 : decode cX8_sum 122 = .ok (.lreturn, 1) := by decide +kernel
theorem dX9_init_0 : decode cX9_init 0 = .ok (.aload_n 0, 1) := by decide +kernel
theorem dX9_init_1 : decode cX9_init 1 = .ok (.invokespecial 1, 3) := by decide +kernel
theorem dX9_init_4 : decode cX9_init 4 = .ok (.aload_n 0, 1) := by decide +kernel
theorem dX9_init_5 : decode cX9_init 5 = .ok (.new 7, 3) := by decide +kernel
theorem dX9_init_8 : decode cX9_init 8 = .ok (.dup, 1) := by decide +kernel
theorem dX9_init_9 : decode cX9_init 9 = .ok (.invokespecial 9, 3) := by decide +kernel
theorem dX9_init_12 : decode cX9_init 12 = .ok (.putfield 10, 3) := by decide +kernel
theorem dX9_init_15 : decode cX9_init 15 = .ok (.aload_n 0, 1) := by decide +kernel
theorem dX9_init_16 : decode cX9_init 16 = .ok (.new 7, 3) := by decide +kernel
theorem dX9_init_19 : decode cX9_init 19 = .ok (.dup, 1) := by decide +kernel
theorem dX9_init_20 : decode cX9_init 20 = .ok (.invokespecial 9, 3) := by decide +kernel
theorem dX9_init_23 : decode cX9_init 23 = .ok (.putfield 16, 3) := by decide +kernel
theorem dX9_init_26 : decode cX9_init 26 = .ok (.aload_n 0, 1) := by decide +kernel
theorem dX9_init_27 : decode cX9_init 27 = .ok (.iconst 0, 1) := by decide +kernel
theorem dX9_init_28 : decode cX9_init 28 = .ok (.putfield 19, 3) := by decide +kernel
theorem dX9_init_31 : decode cX9_init 31 = .ok (.aload_n 0, 1) := by decide +kernel
theorem dX9_init_32 : decode cX9_init 32 = .ok (.bipush 97, 2) := by decide +kernel
theorem dX9_init_34 : decode cX9_init 34 = .ok (.putfield 23, 3) := by decide +kernel
theorem dX9_init_37 : decode cX9_init 37 = .ok (.aload_n 0, 1) := by decide +kernel
theorem dX9_init_38 : decode cX9_init 38 = .ok (.iconst 0, 1) := by decide +kernel
theorem dX9_init_39 : decode cX9_init 39 = .ok (.putfield 27, 3) := by decide +kernel
theorem dX9_init_42 : decode cX9_init 42 = .ok (.aload_n 0, 1) := by decide +kernel
theorem dX9_init_43 : decode cX9_init 43 = .ok (.iconst 0, 1) := by decide +kernel
theorem dX9_init_44 : decode cX9_init 44 = .ok (.putfield 30, 3) := by decide +kernel
theorem dX9_init_47 : decode cX9_init 47 = .ok (.return_, 1) := by decide +kernel
theorem dX9_read_0 : decode cX9_read 0 = .ok (.aload_n 1, 1) := by decide +kernel
theorem dX9_read_1 : decode cX9_read 1 = .ok (.bipush 124, 2) := by decide +kernel
theorem dX9_read_3 : decode cX9_read 3 = .ok (.invokevirtual 38, 3) := by decide +kernel
theorem dX9_read_6 : decode cX9_read 6 = .ok (.istore_n 2, 1) := by decide +kernel
theorem dX9_read_7 : decode cX9_read 7 = .ok (.aload_n 0, 1) := by decide +kernel
theorem dX9_read_8 : decode cX9_read 8 = .ok (.getfield 10, 3) := by decide +kernel
theorem dX9_read_11 : decode cX9_read 11 = .ok (.aload_n 1, 1) := by decide +kernel
theorem dX9_read_12 : decode cX9_read 12 = .ok (.iconst 0, 1) := by decide +kernel
theorem dX9_read_13 : decode cX9_read 13 = .ok (.iload_n 2, 1) := by decide +kernel
theorem dX9_read_14 : decode cX9_read 14 = .ok (.invokevirtual 44, 3) := by decide +kernel
theorem dX9_read_17 : decode cX9_read 17 = .ok (.aload_n 0, 1) := by decide +kernel
theorem dX9_read_18 : decode cX9_read 18 = .ok (.getfield 16, 3) := by decide +kernel
theorem dX9_read_21 : decode cX9_read 21 = .ok (.aload_n 1, 1) := by decide +kernel
theorem dX9_read_22 : decode cX9_read 22 = .ok (.iload_n 2, 1) := by decide +kernel
theorem dX9_read_23 : decode cX9_read 23 = .ok (.iconst 1, 1) := by decide +kernel
theorem dX9_read_24 : decode cX9_read 24 = .ok (.iadd, 1) := by decide +kernel
theorem dX9_read_25 : decode cX9_read 25 = .ok (.aload_n 1, 1) := by decide +kernel
theorem dX9_read_26 : decode cX9_read 26 = .ok (.invokevirtual 48, 3) := by decide +kernel
theorem dX9_read_29 : decode cX9_read 29 = .ok (.invokevirtual 44, 3) := by decide +kernel
theorem dX9_read_32 : decode cX9_read 32 = .ok (.return_, 1) := by decide +kernel
theorem dX11_init_0 : decode cX11_init 0 = .ok (.aload_n 0, 1) := by decide +kernel
theorem dX11_init_1 : decode cX11_init 1 = .ok (.invokespecial 1, 3) := by decide +kernel
theorem dX11_init_4 : decode cX11_init 4 = .ok (.aload_n 0, 1) := by decide +kernel
theorem dX11_init_5 : decode cX11_init 5 = .ok (.new 7, 3) := by decide +kernel
theorem dX11_init_8 : decode cX11_init 8 = .ok (.dup, 1) := by decide +kernel
theorem dX11_init_9 : decode cX11_init 9 = .ok (.invokespecial 9, 3) := by decide +kernel
theorem dX11_init_12 : decode cX11_init 12 = .ok (.putfield 10, 3) := by decide +kernel
theorem dX11_init_15 : decode cX11_init 15 = .ok (.aload_n 0, 1) := by decide +kernel
theorem dX11_init_16 : decode cX11_init 16 = .ok (.new 16, 3) := by decide +kernel
theorem dX11_init_19 : decode cX11_init 19 = .ok (.dup, 1) := by decide +kernel
theorem dX11_init_20 : decode cX11_init 20 = .ok (.invokespecial 18, 3) := by decide +kernel
theorem dX11_init_23 : decode cX11_init 23 = .ok (.putfield 19, 3) := by decide +kernel
theorem dX11_init_26 : decode cX11_init 26 = .ok (.aload_n 0, 1) := by decide +kernel
theorem dX11_init_27 : decode cX11_init 27 = .ok (.new 16, 3) := by decide +kernel
theorem dX11_init_30 : decode cX11_init 30 = .ok (.dup, 1) := by decide +kernel
theorem dX11_init_31 : decode cX11_init 31 = .ok (.invokespecial 18, 3) := by decide +kernel
theorem dX11_init_34 : decode cX11_init 34 = .ok (.putfield 23, 3) := by decide +kernel
theorem dX11_init_37 : decode cX11_init 37 = .ok (.aload_n 0, 1) := by decide +kernel
theorem dX11_init_38 : decode cX11_init 38 = .ok (.new 26, 3) := by decide +kernel
theorem dX11_init_41 : decode cX11_init 41 = .ok (.dup, 1) := by decide +kernel
theorem dX11_init_42 : decode cX11_init 42 = .ok (.invokespecial 28, 3) := by decide +kernel
theorem dX11_init_45 : decode cX11_init 45 = .ok (.putfield 29, 3) := by decide +kernel
theorem dX11_init_48 : decode cX11_init 48 = .ok (.aload_n 0, 1) := by decide +kernel
theorem dX11_init_49 : decode cX11_init 49 = .ok (.new 33, 3) := by decide +kernel
theorem dX11_init_52 : decode cX11_init 52 = .ok (.dup, 1) := by decide +kernel
theorem dX11_init_53 : decode cX11_init 53 = .ok (.invokespecial 35, 3) := by decide +kernel
theorem dX11_init_56 : decode cX11_init 56 = .ok (.putfield 36, 3) := by decide +kernel
theorem dX11_init_59 : decode cX11_init 59 = .ok (.aload_n 0, 1) := by decide +kernel
theorem dX11_init_60 : decode cX11_init 60 = .ok (.new 33, 3) := by decide +kernel
theorem dX11_init_63 : decode cX11_init 63 = .ok (.dup, 1) := by decide +kernel
theorem dX11_init_64 : decode cX11_init 64 = .ok (.invokespecial 35, 3) := by decide +kernel
theorem dX11_init_67 : decode cX11_init 67 = .ok (.putfield 40, 3) := by decide +kernel
theorem dX11_init_70 : decode cX11_init 70 = .ok (.aload_n 0, 1) := by decide +kernel
theorem dX11_init_71 : decode cX11_init 71 = .ok (.new 33, 3) := by decide +kernel
theorem dX11_init_74 : decode cX11_init 74 = .ok (.dup, 1) := by decide +kernel
theorem dX11_init_75 : decode cX11_init 75 = .ok (.invokespecial 35, 3) := by decide +kernel
theorem dX11_init_78 : decode cX11_init 78 = .ok (.putfield 43, 3) := by decide +kernel
theorem dX11_init_81 : decode cX11_init 81 = .ok (.aload_n 0, 1) := by decide +kernel
theorem dX11_init_82 : decode cX11_init 82 = .ok (.new 33, 3) := by decide +kernel
theorem dX11_init_85 : decode cX11_init 85 = .ok (.dup, 1) := by decide +kernel
theorem dX11_init_86 : decode cX11_init 86 = .ok (.invokespecial 35, 3) := by decide +kernel
theorem dX11_init_89 : decode cX11_init 89 = .ok (.putfield 46, 3) := by decide +kernel
theorem dX11_init_92 : decode cX11_init 92 = .ok (.aload_n 0, 1) := by decide +kernel
theorem dX11_init_93 : decode cX11_init 93 = .ok (.iconst 0, 1) := by decide +kernel
theorem dX11_init_94 : decode cX11_init 94 = .ok (.putfield 49, 3) := by decide +kernel
theorem dX11_init_97 : decode cX11_init 97 = .ok (.aload_n 0, 1) := by decide +kernel
theorem dX11_init_98 : decode cX11_init 98 = .ok (.new 53, 3) := by decide +kernel
theorem dX11_init_101 : decode cX11_init 101 = .ok (.dup, 1) := by decide +kernel
theorem dX11_init_102 : decode cX11_init 102 = .ok (.invokespecial 55, 3) := by decide +kernel
theorem dX11_init_105 : decode cX11_init 105 = .ok (.putfield 56, 3) := by decide +kernel
theorem dX11_init_108 : decode cX11_init 108 = .ok (.aload_n 0, 1) := by decide +kernel
theorem dX11_init_109 : decode cX11_init 109 = .ok (.new 53, 3) := by decide +kernel
theorem dX11_init_112 : decode cX11_init 112 = .ok (.dup, 1) := by decide +kernel
theorem dX11_init_113 : decode cX11_init 113 = .ok (.invokespecial 55, 3) := by decide +kernel
theorem dX11_init_116 : decode cX11_init 116 = .ok (.putfield 60, 3) := by decide +kernel
theorem dX11_init_119 : decode cX11_init 119 = .ok (.aload_n 0, 1) := by decide +kernel
theorem dX11_init_120 : decode cX11_init 120 = .ok (.iconst 4, 1) := by decide +kernel
theorem dX11_init_121 : decode cX11_init 121 = .ok (.anewarray 53, 3) := by decide +kernel
theorem dX11_init_124 : decode cX11_init 124 = .ok (.putfield 63, 3) := by decide +kernel
theorem dX11_init_127 : decode cX11_init 127 = .ok (.aload_n 0, 1) := by decide +kernel
theorem dX11_init_128 : decode cX11_init 128 = .ok (.new 67, 3) := by decide +kernel
theorem dX11_init_131 : decode cX11_init 131 = .ok (.dup, 1) := by decide +kernel
theorem dX11_init_132 : decode cX11_init 132 = .ok (.invokespecial 69, 3) := by decide +kernel
theorem dX11_init_135 : decode cX11_init 135 = .ok (.putfield 70, 3) := by decide +kernel
theorem dX11_init_138 : decode cX11_init 138 = .ok (.aload_n 0, 1) := by decide +kernel
theorem dX11_init_139 : decode cX11_init 139 = .ok (.new 74, 3) := by decide +kernel
theorem dX11_init_142 : decode cX11_init 142 = .ok (.dup, 1) := by decide +kernel
theorem dX11_init_143 : decode cX11_init 143 = .ok (.invokespecial 76, 3) := by decide +kernel
theorem dX11_init_146 : decode cX11_init 146 = .ok (.putfield 77, 3) := by decide +kernel
theorem dX11_init_149 : decode cX11_init 149 = .ok (.return_, 1) := by decide +kernel
theorem dX11_type_0 : decode cX11_type 0 = .ok (.iload_n 1, 1) := by decide +kernel
theorem dX11_type_1 : decode cX11_type 1 = .ok (.bipush 32, 2) := by decide +kernel
theorem dX11_type_3 : decode cX11_type 3 = .ok (.if_icmp .lt 9, 3) := by decide +kernel
theorem dX11_type_6 : decode cX11_type 6 = .ok (.iload_n 1, 1) := by decide +kernel
theorem dX11_type_7 : decode cX11_type 7 = .ok (.bipush 126, 2) := by decide +kernel
theorem dX11_type_9 : decode cX11_type 9 = .ok (.if_icmp .le 13, 3) := by decide +kernel
theorem dX11_type_12 : decode cX11_type 12 = .ok (.new 81, 3) := by decide +kernel
theorem dX11_type_15 : decode cX11_type 15 = .ok (.dup, 1) := by decide +kernel
theorem dX11_type_16 : decode cX11_type 16 = .ok (.ldc 83, 2) := by decide +kernel
theorem dX11_type_18 : decode cX11_type 18 = .ok (.invokespecial 85, 3) := by decide +kernel
theorem dX11_type_21 : decode cX11_type 21 = .ok (.athrow, 1) := by decide +kernel
theorem dX11_type_22 : decode cX11_type 22 = .ok (.aload_n 0, 1) := by decide +kernel
theorem dX11_type_23 : decode cX11_type 23 = .ok (.getfield 10, 3) := by decide +kernel
theorem dX11_type_26 : decode cX11_type 26 = .ok (.invokevirtual 88, 3) := by decide +kernel
theorem dX11_type_29 : decode cX11_type 29 = .ok (.sipush 160, 3) := by decide +kernel
theorem dX11_type_32 : decode cX11_type 32 = .ok (.if_icmp .lt 13, 3) := by decide +kernel
theorem dX11_type_45 : decode cX11_type 45 = .ok (.aload_n 0, 1) := by decide +kernel
theorem dX11_type_46 : decode cX11_type 46 = .ok (.getfield 10, 3) := by decide +kernel
theorem dX11_type_49 : decode cX11_type 49 = .ok (.iload_n 1, 1) := by decide +kernel
theorem dX11_type_50 : decode cX11_type 50 = .ok (.invokevirtual 97, 3) := by decide +kernel
theorem dX11_type_53 : decode cX11_type 53 = .ok (.aload_n 0, 1) := by decide +kernel
theorem dX11_type_54 : decode cX11_type 54 = .ok (.getfield 10, 3) := by decide +kernel
theorem dX11_type_57 : decode cX11_type 57 = .ok (.invokevirtual 88, 3) := by decide +kernel
theorem dX11_type_60 : decode cX11_type 60 = .ok (.ireturn, 1) := by decide +kernel
theorem dX11_erase_0 : decode cX11_erase 0 = .ok (.aload_n 0, 1) := by decide +kernel
theorem dX11_erase_1 : decode cX11_erase 1 = .ok (.getfield 10, 3) := by decide +kernel
theorem dX11_erase_4 : decode cX11_erase 4 = .ok (.invokevirtual 88, 3) := by decide +kernel
theorem dX11_erase_7 : decode cX11_erase 7 = .ok (.istore_n 1, 1) := by decide +kernel
theorem dX11_erase_8 : decode cX11_erase 8 = .ok (.aload_n 0, 1) := by decide +kernel
theorem dX11_erase_9 : decode cX11_erase 9 = .ok (.getfield 10, 3) := by decide +kernel
theorem dX11_erase_12 : decode cX11_erase 12 = .ok (.invokevirtual 101, 3) := by decide +kernel
theorem dX11_erase_15 : decode cX11_erase 15 = .ok (.iload_n 1, 1) := by decide +kernel
theorem dX11_erase_16 : decode cX11_erase 16 = .ok (.ireturn, 1) := by decide +kernel
theorem dX11_signAt_0 : decode cX11_signAt 0 = .ok (.iload_n 1, 1) := by decide +kernel
theorem dX11_signAt_1 : decode cX11_signAt 1 = .ok (.ifCond .lt 14, 3) := by decide +kernel
theorem dX11_signAt_4 : decode cX11_signAt 4 = .ok (.iload_n 1, 1) := by decide +kernel
theorem dX11_signAt_5 : decode cX11_signAt 5 = .ok (.aload_n 0, 1) := by decide +kernel
theorem dX11_signAt_6 : decode cX11_signAt 6 = .ok (.getfield 10, 3) := by decide +kernel
theorem dX11_signAt_9 : decode cX11_signAt 9 = .ok (.invokevirtual 88, 3) := by decide +kernel
theorem dX11_signAt_12 : decode cX11_signAt 12 = .ok (.if_icmp .lt 13, 3) := by decide +kernel
theorem dX11_signAt_15 : decode cX11_signAt 15 = .ok (.new 104, 3) := by decide +kernel
theorem dX11_signAt_18 : decode cX11_signAt 18 = .ok (.dup, 1) := by decide +kernel
theorem dX11_signAt_19 : decode cX11_signAt 19 = .ok (.ldc 106, 2) := by decide +kernel
theorem dX11_signAt_21 : decode cX11_signAt 21 = .ok (.invokespecial 108, 3) := by decide +kernel
theorem dX11_signAt_24 : decode cX11_signAt 24 = .ok (.athrow, 1) := by decide +kernel
theorem dX11_add_0 : decode cX11_add 0 = .ok (.iload_n 1, 1) := by decide +kernel
theorem dX11_add_1 : decode cX11_add 1 = .ok (.ifCond .lt 17, 3) := by decide +kernel
theorem dX11_add_4 : decode cX11_add 4 = .ok (.iload_n 1, 1) := by decide +kernel
theorem dX11_add_5 : decode cX11_add 5 = .ok (.sipush 999, 3) := by decide +kernel
theorem dX11_add_8 : decode cX11_add 8 = .ok (.if_icmp .gt 10, 3) := by decide +kernel
theorem dX11_add_11 : decode cX11_add 11 = .ok (.iload_n 2, 1) := by decide +kernel
theorem dX11_add_12 : decode cX11_add 12 = .ok (.invokestatic 113, 3) := by decide +kernel
theorem dX11_add_15 : decode cX11_add 15 = .ok (.ifCond .ne 13, 3) := by decide +kernel
theorem dX11_add_18 : decode cX11_add 18 = .ok (.new 81, 3) := by decide +kernel
theorem dX11_add_21 : decode cX11_add 21 = .ok (.dup, 1) := by decide +kernel
theorem dX11_add_22 : decode cX11_add 22 = .ok (.ldc 117, 2) := by decide +kernel
theorem dX11_add_24 : decode cX11_add 24 = .ok (.invokespecial 85, 3) := by decide +kernel
theorem dX11_add_27 : decode cX11_add 27 = .ok (.athrow, 1) := by decide +kernel
theorem dX11_add_28 : decode cX11_add 28 = .ok (.aload_n 0, 1) := by decide +kernel
theorem dX11_add_29 : decode cX11_add 29 = .ok (.getfield 19, 3) := by decide +kernel
theorem dX11_add_32 : decode cX11_add 32 = .ok (.invokevirtual 119, 3) := by decide +kernel
theorem dX11_add_35 : decode cX11_add 35 = .ok (.bipush 24, 2) := by decide +kernel
theorem dX11_add_37 : decode cX11_add 37 = .ok (.if_icmp .lt 13, 3) := by decide +kernel
theorem dX11_add_50 : decode cX11_add 50 = .ok (.aload_n 0, 1) := by decide +kernel
theorem dX11_add_51 : decode cX11_add 51 = .ok (.getfield 19, 3) := by decide +kernel
theorem dX11_add_54 : decode cX11_add 54 = .ok (.aload_n 0, 1) := by decide +kernel
theorem dX11_add_55 : decode cX11_add 55 = .ok (.getfield 10, 3) := by decide +kernel
theorem dX11_add_58 : decode cX11_add 58 = .ok (.iload_n 1, 1) := by decide +kernel
theorem dX11_add_59 : decode cX11_add 59 = .ok (.iload_n 2, 1) := by decide +kernel
theorem dX11_add_60 : decode cX11_add 60 = .ok (.invokevirtual 124, 3) := by decide +kernel
theorem dX11_add_63 : decode cX11_add 63 = .ok (.istore_n 3, 1) := by decide +kernel
theorem dX11_add_64 : decode cX11_add 64 = .ok (.aload_n 0, 1) := by decide +kernel
theorem dX11_add_65 : decode cX11_add 65 = .ok (.getfield 10, 3) := by decide +kernel
theorem dX11_add_68 : decode cX11_add 68 = .ok (.invokevirtual 101, 3) := by decide +kernel
theorem dX11_add_71 : decode cX11_add 71 = .ok (.iload_n 3, 1) := by decide +kernel
theorem dX11_add_72 : decode cX11_add 72 = .ok (.ireturn, 1) := by decide +kernel
theorem dX11_revise_0 : decode cX11_revise 0 = .ok (.aload_n 0, 1) := by decide +kernel
theorem dX11_revise_1 : decode cX11_revise 1 = .ok (.iload_n 1, 1) := by decide +kernel
theorem dX11_revise_2 : decode cX11_revise 2 = .ok (.invokevirtual 128, 3) := by decide +kernel
theorem dX11_drop_0 : decode cX11_drop 0 = .ok (.aload_n 0, 1) := by decide +kernel
theorem dX11_drop_1 : decode cX11_drop 1 = .ok (.iload_n 1, 1) := by decide +kernel
theorem dX11_drop_2 : decode cX11_drop 2 = .ok (.invokevirtual 128, 3) := by decide +kernel
theorem dX11_texts_0 : decode cX11_texts 0 = .ok (.aload_n 0, 1) := by decide +kernel
theorem dX11_texts_1 : decode cX11_texts 1 = .ok (.getfield 19, 3) := by decide +kernel
theorem dX11_texts_4 : decode cX11_texts 4 = .ok (.invokevirtual 142, 3) := by decide +kernel
theorem dX11_texts_7 : decode cX11_texts 7 = .ok (.ireturn, 1) := by decide +kernel
theorem dX11_isThere_0 : decode cX11_isThere 0 = .ok (.aload_n 0, 1) := by decide +kernel
theorem dX11_isThere_1 : decode cX11_isThere 1 = .ok (.getfield 19, 3) := by decide +kernel
theorem dX11_isThere_4 : decode cX11_isThere 4 = .ok (.iload_n 1, 1) := by decide +kernel
theorem dX11_isThere_5 : decode cX11_isThere 5 = .ok (.invokevirtual 145, 3) := by decide +kernel
theorem dX11_isThere_8 : decode cX11_isThere 8 = .ok (.ifnull 7, 3) := by decide +kernel
theorem dX11_isThere_15 : decode cX11_isThere 15 = .ok (.iconst 0, 1) := by decide +kernel
theorem dX11_isThere_16 : decode cX11_isThere 16 = .ok (.ireturn, 1) := by decide +kernel
theorem dX11_length_0 : decode cX11_length 0 = .ok (.aload_n 0, 1) := by decide +kernel
theorem dX11_length_1 : decode cX11_length 1 = .ok (.iload_n 1, 1) := by decide +kernel
theorem dX11_length_2 : decode cX11_length 2 = .ok (.invokevirtual 128, 3) := by decide +kernel
theorem dX11_tellWord_0 : decode cX11_tellWord 0 = .ok (.aload_n 0, 1) := by decide +kernel
theorem dX11_tellWord_1 : decode cX11_tellWord 1 = .ok (.iload_n 1, 1) := by decide +kernel
theorem dX11_tellWord_2 : decode cX11_tellWord 2 = .ok (.invokevirtual 128, 3) := by decide +kernel
theorem dX11_value_0 : decode cX11_value 0 = .ok (.aload_n 0, 1) := by decide +kernel
theorem dX11_value_1 : decode cX11_value 1 = .ok (.iload_n 1, 1) := by decide +kernel
theorem dX11_value_2 : decode cX11_value 2 = .ok (.invokevirtual 128, 3) := by decide +kernel
theorem dX11_tag_0 : decode cX11_tag 0 = .ok (.aload_n 0, 1) := by decide +kernel
theorem dX11_tag_1 : decode cX11_tag 1 = .ok (.iload_n 1, 1) := by decide +kernel
theorem dX11_tag_2 : decode cX11_tag 2 = .ok (.invokevirtual 128, 3) := by decide +kernel
theorem dX11_words_0 : decode cX11_words 0 = .ok (.aload_n 0, 1) := by decide +kernel
theorem dX11_words_1 : decode cX11_words 1 = .ok (.getfield 19, 3) := by decide +kernel
theorem dX11_words_4 : decode cX11_words 4 = .ok (.aload_n 0, 1) := by decide +kernel
theorem dX11_words_5 : decode cX11_words 5 = .ok (.getfield 29, 3) := by decide +kernel
theorem dX11_words_8 : decode cX11_words 8 = .ok (.invokevirtual 169, 3) := by decide +kernel
theorem dX11_words_11 : decode cX11_words 11 = .ok (.aload_n 0, 1) := by decide +kernel
theorem dX11_words_12 : decode cX11_words 12 = .ok (.getfield 29, 3) := by decide +kernel
theorem dX11_words_15 : decode cX11_words 15 = .ok (.invokevirtual 153, 3) := by decide +kernel
theorem dX11_words_18 : decode cX11_words 18 = .ok (.ireturn, 1) := by decide +kernel
theorem dX11_tellOf_0 : decode cX11_tellOf 0 = .ok (.aload_n 0, 1) := by decide +kernel
theorem dX11_tellOf_1 : decode cX11_tellOf 1 = .ok (.getfield 19, 3) := by decide +kernel
theorem dX11_tellOf_4 : decode cX11_tellOf 4 = .ok (.aload_n 0, 1) := by decide +kernel
theorem dX11_tellOf_5 : decode cX11_tellOf 5 = .ok (.getfield 29, 3) := by decide +kernel
theorem dX11_tellOf_8 : decode cX11_tellOf 8 = .ok (.invokevirtual 169, 3) := by decide +kernel
theorem dX11_tellOf_11 : decode cX11_tellOf 11 = .ok (.iload_n 1, 1) := by decide +kernel
theorem dX11_tellOf_12 : decode cX11_tellOf 12 = .ok (.ifCond .lt 14, 3) := by decide +kernel
theorem dX11_tellOf_15 : decode cX11_tellOf 15 = .ok (.iload_n 1, 1) := by decide +kernel
theorem dX11_tellOf_16 : decode cX11_tellOf 16 = .ok (.aload_n 0, 1) := by decide +kernel
theorem dX11_tellOf_17 : decode cX11_tellOf 17 = .ok (.getfield 29, 3) := by decide +kernel
theorem dX11_tellOf_20 : decode cX11_tellOf 20 = .ok (.invokevirtual 153, 3) := by decide +kernel
theorem dX11_tellOf_23 : decode cX11_tellOf 23 = .ok (.if_icmp .lt 13, 3) := by decide +kernel
theorem dX11_tellOf_26 : decode cX11_tellOf 26 = .ok (.new 104, 3) := by decide +kernel
theorem dX11_tellOf_29 : decode cX11_tellOf 29 = .ok (.dup, 1) := by decide +kernel
theorem dX11_tellOf_30 : decode cX11_tellOf 30 = .ok (.ldc 173, 2) := by decide +kernel
theorem dX11_tellOf_32 : decode cX11_tellOf 32 = .ok (.invokespecial 108, 3) := by decide +kernel
theorem dX11_tellOf_35 : decode cX11_tellOf 35 = .ok (.athrow, 1) := by decide +kernel
theorem dX11_having_0 : decode cX11_having 0 = .ok (.aload_n 0, 1) := by decide +kernel
theorem dX11_having_1 : decode cX11_having 1 = .ok (.invokevirtual 175, 3) := by decide +kernel
theorem dX11_beginning_0 : decode cX11_beginning 0 = .ok (.aload_n 0, 1) := by decide +kernel
theorem dX11_beginning_1 : decode cX11_beginning 1 = .ok (.invokevirtual 175, 3) := by decide +kernel
theorem dX11_slips_0 : decode cX11_slips 0 = .ok (.aload_n 0, 1) := by decide +kernel
theorem dX11_slips_1 : decode cX11_slips 1 = .ok (.invokevirtual 175, 3) := by decide +kernel
theorem dX11_suggest_0 : decode cX11_suggest 0 = .ok (.aload_n 0, 1) := by decide +kernel
theorem dX11_suggest_1 : decode cX11_suggest 1 = .ok (.invokevirtual 175, 3) := by decide +kernel
theorem dX11_parts_0 : decode cX11_parts 0 = .ok (.aload_n 0, 1) := by decide +kernel
theorem dX11_parts_1 : decode cX11_parts 1 = .ok (.getfield 19, 3) := by decide +kernel
theorem dX11_parts_4 : decode cX11_parts 4 = .ok (.invokevirtual 198, 3) := by decide +kernel
theorem dX11_parts_7 : decode cX11_parts 7 = .ok (.ireturn, 1) := by decide +kernel
theorem dX11_partSize_0 : decode cX11_partSize 0 = .ok (.aload_n 0, 1) := by decide +kernel
theorem dX11_partSize_1 : decode cX11_partSize 1 = .ok (.iload_n 1, 1) := by decide +kernel
theorem dX11_partSize_2 : decode cX11_partSize 2 = .ok (.invokevirtual 201, 3) := by decide +kernel
theorem dX11_partSize_5 : decode cX11_partSize 5 = .ok (.aload_n 0, 1) := by decide +kernel
theorem dX11_partSize_6 : decode cX11_partSize 6 = .ok (.getfield 19, 3) := by decide +kernel
theorem dX11_partSize_9 : decode cX11_partSize 9 = .ok (.iload_n 1, 1) := by decide +kernel
theorem dX11_partSize_10 : decode cX11_partSize 10 = .ok (.invokevirtual 205, 3) := by decide +kernel
theorem dX11_partSize_13 : decode cX11_partSize 13 = .ok (.ireturn, 1) := by decide +kernel
theorem dX11_seal_0 : decode cX11_seal 0 = .ok (.aload_n 0, 1) := by decide +kernel
theorem dX11_seal_1 : decode cX11_seal 1 = .ok (.getfield 19, 3) := by decide +kernel
theorem dX11_seal_4 : decode cX11_seal 4 = .ok (.aload_n 0, 1) := by decide +kernel
theorem dX11_seal_5 : decode cX11_seal 5 = .ok (.getfield 19, 3) := by decide +kernel
theorem dX11_seal_8 : decode cX11_seal 8 = .ok (.invokevirtual 198, 3) := by decide +kernel
theorem dX11_seal_11 : decode cX11_seal 11 = .ok (.iconst 1, 1) := by decide +kernel
theorem dX11_seal_12 : decode cX11_seal 12 = .ok (.isub, 1) := by decide +kernel
theorem dX11_seal_13 : decode cX11_seal 13 = .ok (.invokevirtual 205, 3) := by decide +kernel
theorem dX11_seal_16 : decode cX11_seal 16 = .ok (.ifCond .ne 13, 3) := by decide +kernel
theorem dX11_seal_19 : decode cX11_seal 19 = .ok (.new 209, 3) := by decide +kernel
theorem dX11_seal_22 : decode cX11_seal 22 = .ok (.dup, 1) := by decide +kernel
theorem dX11_seal_23 : decode cX11_seal 23 = .ok (.ldc 211, 2) := by decide +kernel
theorem dX11_seal_25 : decode cX11_seal 25 = .ok (.invokespecial 213, 3) := by decide +kernel
theorem dX11_seal_28 : decode cX11_seal 28 = .ok (.athrow, 1) := by decide +kernel
theorem dX11_join_0 : decode cX11_join 0 = .ok (.iload_n 1, 1) := by decide +kernel
theorem dX11_join_1 : decode cX11_join 1 = .ok (.ifCond .lt 16, 3) := by decide +kernel
theorem dX11_join_4 : decode cX11_join 4 = .ok (.iload_n 1, 1) := by decide +kernel
theorem dX11_join_5 : decode cX11_join 5 = .ok (.aload_n 0, 1) := by decide +kernel
theorem dX11_join_6 : decode cX11_join 6 = .ok (.getfield 19, 3) := by decide +kernel
theorem dX11_join_9 : decode cX11_join 9 = .ok (.invokevirtual 198, 3) := by decide +kernel
theorem dX11_join_12 : decode cX11_join 12 = .ok (.iconst 1, 1) := by decide +kernel
theorem dX11_join_13 : decode cX11_join 13 = .ok (.isub, 1) := by decide +kernel
theorem dX11_join_14 : decode cX11_join 14 = .ok (.if_icmp .lt 13, 3) := by decide +kernel
theorem dX11_join_17 : decode cX11_join 17 = .ok (.new 104, 3) := by decide +kernel
theorem dX11_join_20 : decode cX11_join 20 = .ok (.dup, 1) := by decide +kernel
theorem dX11_join_21 : decode cX11_join 21 = .ok (.ldc 219, 2) := by decide +kernel
theorem dX11_join_23 : decode cX11_join 23 = .ok (.invokespecial 108, 3) := by decide +kernel
theorem dX11_join_26 : decode cX11_join 26 = .ok (.athrow, 1) := by decide +kernel
theorem dX11_packed_0 : decode cX11_packed 0 = .ok (.aload_n 0, 1) := by decide +kernel
theorem dX11_packed_1 : decode cX11_packed 1 = .ok (.iload_n 1, 1) := by decide +kernel
theorem dX11_packed_2 : decode cX11_packed 2 = .ok (.invokevirtual 201, 3) := by decide +kernel
theorem dX11_packed_5 : decode cX11_packed 5 = .ok (.aload_n 0, 1) := by decide +kernel
theorem dX11_packed_6 : decode cX11_packed 6 = .ok (.invokevirtual 175, 3) := by decide +kernel
theorem dX11_byteAt_0 : decode cX11_byteAt 0 = .ok (.iload_n 1, 1) := by decide +kernel
theorem dX11_byteAt_1 : decode cX11_byteAt 1 = .ok (.ifCond .lt 14, 3) := by decide +kernel
theorem dX11_byteAt_4 : decode cX11_byteAt 4 = .ok (.iload_n 1, 1) := by decide +kernel
theorem dX11_byteAt_5 : decode cX11_byteAt 5 = .ok (.aload_n 0, 1) := by decide +kernel
theorem dX11_byteAt_6 : decode cX11_byteAt 6 = .ok (.getfield 36, 3) := by decide +kernel
theorem dX11_byteAt_9 : decode cX11_byteAt 9 = .ok (.invokevirtual 228, 3) := by decide +kernel
theorem dX11_byteAt_12 : decode cX11_byteAt 12 = .ok (.if_icmp .lt 13, 3) := by decide +kernel
theorem dX11_byteAt_15 : decode cX11_byteAt 15 = .ok (.new 104, 3) := by decide +kernel
theorem dX11_byteAt_18 : decode cX11_byteAt 18 = .ok (.dup, 1) := by decide +kernel
theorem dX11_byteAt_19 : decode cX11_byteAt 19 = .ok (.ldc 229, 2) := by decide +kernel
theorem dX11_byteAt_21 : decode cX11_byteAt 21 = .ok (.invokespecial 108, 3) := by decide +kernel
theorem dX11_byteAt_24 : decode cX11_byteAt 24 = .ok (.athrow, 1) := by decide +kernel
theorem dX11_ask_0 : decode cX11_ask 0 = .ok (.aload_n 0, 1) := by decide +kernel
theorem dX11_ask_1 : decode cX11_ask 1 = .ok (.getfield 70, 3) := by decide +kernel
theorem dX11_ask_4 : decode cX11_ask 4 = .ok (.aload_n 0, 1) := by decide +kernel
theorem dX11_ask_5 : decode cX11_ask 5 = .ok (.getfield 10, 3) := by decide +kernel
theorem dX11_ask_8 : decode cX11_ask 8 = .ok (.aload_n 0, 1) := by decide +kernel
theorem dX11_ask_9 : decode cX11_ask 9 = .ok (.getfield 60, 3) := by decide +kernel
theorem dX11_ask_12 : decode cX11_ask 12 = .ok (.invokevirtual 233, 3) := by decide +kernel
theorem dX11_ask_15 : decode cX11_ask 15 = .ok (.istore_n 1, 1) := by decide +kernel
theorem dX11_ask_16 : decode cX11_ask 16 = .ok (.aload_n 0, 1) := by decide +kernel
theorem dX11_ask_17 : decode cX11_ask 17 = .ok (.getfield 10, 3) := by decide +kernel
theorem dX11_ask_20 : decode cX11_ask 20 = .ok (.invokevirtual 101, 3) := by decide +kernel
theorem dX11_ask_23 : decode cX11_ask 23 = .ok (.iload_n 1, 1) := by decide +kernel
theorem dX11_ask_24 : decode cX11_ask 24 = .ok (.ifCond .lt 21, 3) := by decide +kernel
theorem dX11_ask_45 : decode cX11_ask 45 = .ok (.iload_n 1, 1) := by decide +kernel
theorem dX11_ask_46 : decode cX11_ask 46 = .ok (.ireturn, 1) := by decide +kernel
theorem dX11_simplify_0 : decode cX11_simplify 0 = .ok (.aload_n 0, 1) := by decide +kernel
theorem dX11_simplify_1 : decode cX11_simplify 1 = .ok (.invokevirtual 237, 3) := by decide +kernel
theorem dX11_tellQuestion_0 : decode cX11_tellQuestion 0 = .ok (.aload_n 0, 1) := by decide +kernel
theorem dX11_tellQuestion_1 : decode cX11_tellQuestion 1 = .ok (.invokevirtual 237, 3) := by decide +kernel
theorem dX11_fits_0 : decode cX11_fits 0 = .ok (.aload_n 0, 1) := by decide +kernel
theorem dX11_fits_1 : decode cX11_fits 1 = .ok (.invokevirtual 237, 3) := by decide +kernel
theorem dX11_hits_0 : decode cX11_hits 0 = .ok (.aload_n 0, 1) := by decide +kernel
theorem dX11_hits_1 : decode cX11_hits 1 = .ok (.invokevirtual 237, 3) := by decide +kernel
theorem dX11_hitAt_0 : decode cX11_hitAt 0 = .ok (.aload_n 0, 1) := by decide +kernel
theorem dX11_hitAt_1 : decode cX11_hitAt 1 = .ok (.invokevirtual 237, 3) := by decide +kernel
theorem dX11_top_0 : decode cX11_top 0 = .ok (.aload_n 0, 1) := by decide +kernel
theorem dX11_top_1 : decode cX11_top 1 = .ok (.invokevirtual 237, 3) := by decide +kernel
theorem dX11_tellWorth_0 : decode cX11_tellWorth 0 = .ok (.aload_n 0, 1) := by decide +kernel
theorem dX11_tellWorth_1 : decode cX11_tellWorth 1 = .ok (.invokevirtual 237, 3) := by decide +kernel
theorem dX11_tagged_0 : decode cX11_tagged 0 = .ok (.aload_n 0, 1) := by decide +kernel
theorem dX11_tagged_1 : decode cX11_tagged 1 = .ok (.invokevirtual 237, 3) := by decide +kernel
theorem dX11_valued_0 : decode cX11_valued 0 = .ok (.aload_n 0, 1) := by decide +kernel
theorem dX11_valued_1 : decode cX11_valued 1 = .ok (.invokevirtual 237, 3) := by decide +kernel
theorem dX11_spanBegin_0 : decode cX11_spanBegin 0 = .ok (.aload_n 0, 1) := by decide +kernel
theorem dX11_spanBegin_1 : decode cX11_spanBegin 1 = .ok (.iload_n 1, 1) := by decide +kernel
theorem dX11_spanBegin_2 : decode cX11_spanBegin 2 = .ok (.invokevirtual 272, 3) := by decide +kernel
theorem dX11_spanLength_0 : decode cX11_spanLength 0 = .ok (.aload_n 0, 1) := by decide +kernel
theorem dX11_spanLength_1 : decode cX11_spanLength 1 = .ok (.iload_n 1, 1) := by decide +kernel
theorem dX11_spanLength_2 : decode cX11_spanLength 2 = .ok (.invokevirtual 272, 3) := by decide +kernel
theorem dX11_save_0 : decode cX11_save 0 = .ok (.aload_n 0, 1) := by decide +kernel
theorem dX11_save_1 : decode cX11_save 1 = .ok (.invokevirtual 237, 3) := by decide +kernel
theorem dX11_news_0 : decode cX11_news 0 = .ok (.aload_n 0, 1) := by decide +kernel
theorem dX11_news_1 : decode cX11_news 1 = .ok (.iload_n 1, 1) := by decide +kernel
theorem dX11_news_2 : decode cX11_news 2 = .ok (.invokevirtual 128, 3) := by decide +kernel
theorem dX11_likeness_0 : decode cX11_likeness 0 = .ok (.aload_n 0, 1) := by decide +kernel
theorem dX11_likeness_1 : decode cX11_likeness 1 = .ok (.iload_n 1, 1) := by decide +kernel
theorem dX11_likeness_2 : decode cX11_likeness 2 = .ok (.invokevirtual 128, 3) := by decide +kernel
theorem dX11_write_0 : decode cX11_write 0 = .ok (.aload_n 0, 1) := by decide +kernel
theorem dX11_write_1 : decode cX11_write 1 = .ok (.getfield 19, 3) := by decide +kernel
theorem dX11_write_4 : decode cX11_write 4 = .ok (.aload_n 0, 1) := by decide +kernel
theorem dX11_write_5 : decode cX11_write 5 = .ok (.getfield 46, 3) := by decide +kernel
theorem dX11_write_8 : decode cX11_write 8 = .ok (.invokevirtual 296, 3) := by decide +kernel
theorem dX11_write_11 : decode cX11_write 11 = .ok (.aload_n 0, 1) := by decide +kernel
theorem dX11_write_12 : decode cX11_write 12 = .ok (.iconst 1, 1) := by decide +kernel
theorem dX11_write_13 : decode cX11_write 13 = .ok (.putfield 49, 3) := by decide +kernel
theorem dX11_write_16 : decode cX11_write 16 = .ok (.aload_n 0, 1) := by decide +kernel
theorem dX11_write_17 : decode cX11_write 17 = .ok (.getfield 46, 3) := by decide +kernel
theorem dX11_write_20 : decode cX11_write 20 = .ok (.invokevirtual 228, 3) := by decide +kernel
theorem dX11_write_23 : decode cX11_write 23 = .ok (.ireturn, 1) := by decide +kernel
theorem dX11_writtenAt_0 : decode cX11_writtenAt 0 = .ok (.iload_n 1, 1) := by decide +kernel
theorem dX11_writtenAt_1 : decode cX11_writtenAt 1 = .ok (.ifCond .lt 14, 3) := by decide +kernel
theorem dX11_writtenAt_4 : decode cX11_writtenAt 4 = .ok (.iload_n 1, 1) := by decide +kernel
theorem dX11_writtenAt_5 : decode cX11_writtenAt 5 = .ok (.aload_n 0, 1) := by decide +kernel
theorem dX11_writtenAt_6 : decode cX11_writtenAt 6 = .ok (.getfield 46, 3) := by decide +kernel
theorem dX11_writtenAt_9 : decode cX11_writtenAt 9 = .ok (.invokevirtual 228, 3) := by decide +kernel
theorem dX11_writtenAt_12 : decode cX11_writtenAt 12 = .ok (.if_icmp .lt 14, 3) := by decide +kernel
theorem dX11_writtenAt_15 : decode cX11_writtenAt 15 = .ok (.new 104, 3) := by decide +kernel
theorem dX11_writtenAt_18 : decode cX11_writtenAt 18 = .ok (.dup, 1) := by decide +kernel
theorem dX11_writtenAt_19 : decode cX11_writtenAt 19 = .ok (.ldc_w 300, 3) := by decide +kernel
theorem dX11_writtenAt_22 : decode cX11_writtenAt 22 = .ok (.invokespecial 108, 3) := by decide +kernel
theorem dX11_writtenAt_25 : decode cX11_writtenAt 25 = .ok (.athrow, 1) := by decide +kernel
theorem dX11_reread_0 : decode cX11_reread 0 = .ok (.aload_n 0, 1) := by decide +kernel
theorem dX11_reread_1 : decode cX11_reread 1 = .ok (.getfield 49, 3) := by decide +kernel
theorem dX11_reread_4 : decode cX11_reread 4 = .ok (.ifCond .ne 14, 3) := by decide +kernel
theorem dX11_reread_7 : decode cX11_reread 7 = .ok (.new 195, 3) := by decide +kernel
theorem dX11_reread_10 : decode cX11_reread 10 = .ok (.dup, 1) := by decide +kernel
theorem dX11_reread_11 : decode cX11_reread 11 = .ok (.ldc_w 302, 3) := by decide +kernel
theorem dX11_reread_14 : decode cX11_reread 14 = .ok (.invokespecial 197, 3) := by decide +kernel
theorem dX11_reread_17 : decode cX11_reread 17 = .ok (.athrow, 1) := by decide +kernel
theorem dX11_checksum_0 : decode cX11_checksum 0 = .ok (.aload_n 0, 1) := by decide +kernel
theorem dX11_checksum_1 : decode cX11_checksum 1 = .ok (.getfield 19, 3) := by decide +kernel
theorem dX11_checksum_4 : decode cX11_checksum 4 = .ok (.ldc2_w 307, 3) := by decide +kernel
theorem dX11_checksum_7 : decode cX11_checksum 7 = .ok (.invokevirtual 309, 3) := by decide +kernel
theorem dX11_checksum_10 : decode cX11_checksum 10 = .ok (.lstore_n 1, 1) := by decide +kernel
theorem dX11_checksum_11 : decode cX11_checksum 11 = .ok (.iconst 0, 1) := by decide +kernel
theorem dX11_checksum_12 : decode cX11_checksum 12 = .ok (.istore_n 3, 1) := by decide +kernel
theorem dX11_checksum_13 : decode cX11_checksum 13 = .ok (.iload_n 3, 1) := by decide +kernel
theorem dX11_checksum_14 : decode cX11_checksum 14 = .ok (.aload_n 0, 1) := by decide +kernel
theorem dX11_checksum_15 : decode cX11_checksum 15 = .ok (.getfield 10, 3) := by decide +kernel
theorem dX11_checksum_18 : decode cX11_checksum 18 = .ok (.invokevirtual 88, 3) := by decide +kernel
theorem dX11_checksum_21 : decode cX11_checksum 21 = .ok (.if_icmp .ge 25, 3) := by decide +kernel
theorem dX11_checksum_46 : decode cX11_checksum 46 = .ok (.lload_n 1, 1) := by decide +kernel
theorem dX11_checksum_47 : decode cX11_checksum 47 = .ok (.lreturn, 1) := by decide +kernel
theorem dX11_isSound_0 : decode cX11_isSound 0 = .ok (.aload_n 0, 1) := by decide +kernel
theorem dX11_isSound_1 : decode cX11_isSound 1 = .ok (.invokevirtual 314, 3) := by decide +kernel
theorem dX11_isSound_4 : decode cX11_isSound 4 = .ok (.ifCond .ne 5, 3) := by decide +kernel
theorem dX11_isSound_9 : decode cX11_isSound 9 = .ok (.aload_n 0, 1) := by decide +kernel
theorem dX11_isSound_10 : decode cX11_isSound 10 = .ok (.getfield 56, 3) := by decide +kernel
theorem dX11_isSound_13 : decode cX11_isSound 13 = .ok (.invokevirtual 318, 3) := by decide +kernel
theorem dX11_isSound_16 : decode cX11_isSound 16 = .ok (.ifCond .eq 5, 3) := by decide +kernel
theorem dX11_isSound_19 : decode cX11_isSound 19 = .ok (.iconst 1, 1) := by decide +kernel
theorem dX11_isSound_20 : decode cX11_isSound 20 = .ok (.ireturn, 1) := by decide +kernel
theorem dX11_isTag_0 : decode cX11_isTag 0 = .ok (.iload_n 0, 1) := by decide +kernel
theorem dX11_isTag_1 : decode cX11_isTag 1 = .ok (.bipush 97, 2) := by decide +kernel
theorem dX11_isTag_3 : decode cX11_isTag 3 = .ok (.if_icmp .lt 13, 3) := by decide +kernel
theorem dX11_isTag_6 : decode cX11_isTag 6 = .ok (.iload_n 0, 1) := by decide +kernel
theorem dX11_isTag_7 : decode cX11_isTag 7 = .ok (.bipush 122, 2) := by decide +kernel
theorem dX11_isTag_9 : decode cX11_isTag 9 = .ok (.if_icmp .gt 7, 3) := by decide +kernel
theorem dX11_isTag_12 : decode cX11_isTag 12 = .ok (.iconst 1, 1) := by decide +kernel
theorem dX11_isTag_13 : decode cX11_isTag 13 = .ok (.goto 4, 3) := by decide +kernel
theorem dX11_isTag_16 : decode cX11_isTag 16 = .ok (.iconst 0, 1) := by decide +kernel
theorem dX11_isTag_17 : decode cX11_isTag 17 = .ok (.ireturn, 1) := by decide +kernel
theorem dX11_textOf_0 : decode cX11_textOf 0 = .ok (.aload_n 0, 1) := by decide +kernel
theorem dX11_textOf_1 : decode cX11_textOf 1 = .ok (.getfield 19, 3) := by decide +kernel
theorem dX11_textOf_4 : decode cX11_textOf 4 = .ok (.iload_n 1, 1) := by decide +kernel
theorem dX11_textOf_5 : decode cX11_textOf 5 = .ok (.invokevirtual 145, 3) := by decide +kernel
theorem dX11_textOf_8 : decode cX11_textOf 8 = .ok (.astore_n 2, 1) := by decide +kernel
theorem dX11_textOf_9 : decode cX11_textOf 9 = .ok (.aload_n 2, 1) := by decide +kernel
theorem dX11_textOf_10 : decode cX11_textOf 10 = .ok (.ifnonnull 14, 3) := by decide +kernel
theorem dX11_textOf_13 : decode cX11_textOf 13 = .ok (.new 195, 3) := by decide +kernel
theorem dX11_textOf_16 : decode cX11_textOf 16 = .ok (.dup, 1) := by decide +kernel
theorem dX11_textOf_17 : decode cX11_textOf 17 = .ok (.ldc_w 329, 3) := by decide +kernel
theorem dX11_textOf_20 : decode cX11_textOf 20 = .ok (.invokespecial 197, 3) := by decide +kernel
theorem dX11_textOf_23 : decode cX11_textOf 23 = .ok (.athrow, 1) := by decide +kernel
theorem dX11_needPart_0 : decode cX11_needPart 0 = .ok (.iload_n 1, 1) := by decide +kernel
theorem dX11_needPart_1 : decode cX11_needPart 1 = .ok (.ifCond .lt 14, 3) := by decide +kernel
theorem dX11_needPart_4 : decode cX11_needPart 4 = .ok (.iload_n 1, 1) := by decide +kernel
theorem dX11_needPart_5 : decode cX11_needPart 5 = .ok (.aload_n 0, 1) := by decide +kernel
theorem dX11_needPart_6 : decode cX11_needPart 6 = .ok (.getfield 19, 3) := by decide +kernel
theorem dX11_needPart_9 : decode cX11_needPart 9 = .ok (.invokevirtual 198, 3) := by decide +kernel
theorem dX11_needPart_12 : decode cX11_needPart 12 = .ok (.if_icmp .lt 14, 3) := by decide +kernel
theorem dX11_needPart_15 : decode cX11_needPart 15 = .ok (.new 104, 3) := by decide +kernel
theorem dX11_needPart_18 : decode cX11_needPart 18 = .ok (.dup, 1) := by decide +kernel
theorem dX11_needPart_19 : decode cX11_needPart 19 = .ok (.ldc_w 331, 3) := by decide +kernel
theorem dX11_needPart_22 : decode cX11_needPart 22 = .ok (.invokespecial 108, 3) := by decide +kernel
theorem dX11_needPart_25 : decode cX11_needPart 25 = .ok (.athrow, 1) := by decide +kernel
theorem dX11_needPart_26 : decode cX11_needPart 26 = .ok (.return_, 1) := by decide +kernel
theorem dX11_needQuestion_0 : decode cX11_needQuestion 0 = .ok (.aload_n 0, 1) := by decide +kernel
theorem dX11_needQuestion_1 : decode cX11_needQuestion 1 = .ok (.getfield 56, 3) := by decide +kernel
theorem dX11_needQuestion_4 : decode cX11_needQuestion 4 = .ok (.invokevirtual 318, 3) := by decide +kernel
theorem dX11_needQuestion_7 : decode cX11_needQuestion 7 = .ok (.ifCond .eq 14, 3) := by decide +kernel
theorem dX11_needQuestion_10 : decode cX11_needQuestion 10 = .ok (.new 92, 3) := by decide +kernel
theorem dX11_needQuestion_13 : decode cX11_needQuestion 13 = .ok (.dup, 1) := by decide +kernel
theorem dX11_needQuestion_14 : decode cX11_needQuestion 14 = .ok (.ldc_w 333, 3) := by decide +kernel
theorem dX11_needQuestion_17 : decode cX11_needQuestion 17 = .ok (.invokespecial 96, 3) := by decide +kernel
theorem dX11_needQuestion_20 : decode cX11_needQuestion 20 = .ok (.athrow, 1) := by decide +kernel
theorem dX11_needSpan_0 : decode cX11_needSpan 0 = .ok (.aload_n 0, 1) := by decide +kernel
theorem dX11_needSpan_1 : decode cX11_needSpan 1 = .ok (.invokevirtual 237, 3) := by decide +kernel
theorem dX11_onlyWord_0 : decode cX11_onlyWord 0 = .ok (.aload_n 0, 1) := by decide +kernel
theorem dX11_onlyWord_1 : decode cX11_onlyWord 1 = .ok (.getfield 10, 3) := by decide +kernel
theorem dX11_onlyWord_4 : decode cX11_onlyWord 4 = .ok (.invokevirtual 343, 3) := by decide +kernel
theorem dX11_onlyWord_7 : decode cX11_onlyWord 7 = .ok (.lstore_n 1, 1) := by decide +kernel
theorem dX11_onlyWord_8 : decode cX11_onlyWord 8 = .ok (.lload_n 1, 1) := by decide +kernel
theorem dX11_onlyWord_9 : decode cX11_onlyWord 9 = .ok (.lconst 0, 1) := by decide +kernel
theorem dX11_onlyWord_10 : decode cX11_onlyWord 10 = .ok (.lcmp, 1) := by decide +kernel
theorem dX11_onlyWord_11 : decode cX11_onlyWord 11 = .ok (.ifCond .ne 14, 3) := by decide +kernel
theorem dX11_onlyWord_14 : decode cX11_onlyWord 14 = .ok (.new 81, 3) := by decide +kernel
theorem dX11_onlyWord_17 : decode cX11_onlyWord 17 = .ok (.dup, 1) := by decide +kernel
theorem dX11_onlyWord_18 : decode cX11_onlyWord 18 = .ok (.ldc_w 344, 3) := by decide +kernel
theorem dX11_onlyWord_21 : decode cX11_onlyWord 21 = .ok (.invokespecial 85, 3) := by decide +kernel
theorem dX11_onlyWord_24 : decode cX11_onlyWord 24 = .ok (.athrow, 1) := by decide +kernel
theorem dX11_areRowsSound_0 : decode cX11_areRowsSound 0 = .ok (.aload_n 0, 1) := by decide +kernel
theorem dX11_areRowsSound_1 : decode cX11_areRowsSound 1 = .ok (.getfield 19, 3) := by decide +kernel
theorem dX11_areRowsSound_4 : decode cX11_areRowsSound 4 = .ok (.aload_n 0, 1) := by decide +kernel
theorem dX11_areRowsSound_5 : decode cX11_areRowsSound 5 = .ok (.getfield 29, 3) := by decide +kernel
theorem dX11_areRowsSound_8 : decode cX11_areRowsSound 8 = .ok (.invokevirtual 169, 3) := by decide +kernel
theorem dX11_areRowsSound_11 : decode cX11_areRowsSound 11 = .ok (.aload_n 0, 1) := by decide +kernel
theorem dX11_areRowsSound_12 : decode cX11_areRowsSound 12 = .ok (.getfield 23, 3) := by decide +kernel
theorem dX11_areRowsSound_15 : decode cX11_areRowsSound 15 = .ok (.aload_n 0, 1) := by decide +kernel
theorem dX11_areRowsSound_16 : decode cX11_areRowsSound 16 = .ok (.getfield 19, 3) := by decide +kernel
theorem dX11_areRowsSound_19 : decode cX11_areRowsSound 19 = .ok (.invokevirtual 358, 3) := by decide +kernel
theorem dX11_areRowsSound_22 : decode cX11_areRowsSound 22 = .ok (.iconst 0, 1) := by decide +kernel
theorem dX11_areRowsSound_23 : decode cX11_areRowsSound 23 = .ok (.istore_n 1, 1) := by decide +kernel
theorem dX11_areRowsSound_24 : decode cX11_areRowsSound 24 = .ok (.iload_n 1, 1) := by decide +kernel
theorem dX11_areRowsSound_25 : decode cX11_areRowsSound 25 = .ok (.aload_n 0, 1) := by decide +kernel
theorem dX11_areRowsSound_26 : decode cX11_areRowsSound 26 = .ok (.getfield 19, 3) := by decide +kernel
theorem dX11_areRowsSound_29 : decode cX11_areRowsSound 29 = .ok (.invokevirtual 198, 3) := by decide +kernel
theorem dX11_areRowsSound_32 : decode cX11_areRowsSound 32 = .ok (.if_icmp .ge 96, 3) := by decide +kernel
theorem dX11_areRowsSound_35 : decode cX11_areRowsSound 35 = .ok (.iconst 0, 1) := by decide +kernel
theorem dX11_areRowsSound_36 : decode cX11_areRowsSound 36 = .ok (.istore_n 2, 1) := by decide +kernel
theorem dX11_areRowsSound_37 : decode cX11_areRowsSound 37 = .ok (.iload_n 2, 1) := by decide +kernel
theorem dX11_areRowsSound_38 : decode cX11_areRowsSound 38 = .ok (.aload_n 0, 1) := by decide +kernel
theorem dX11_areRowsSound_39 : decode cX11_areRowsSound 39 = .ok (.getfield 29, 3) := by decide +kernel
theorem dX11_areRowsSound_42 : decode cX11_areRowsSound 42 = .ok (.invokevirtual 153, 3) := by decide +kernel
theorem dX11_areRowsSound_45 : decode cX11_areRowsSound 45 = .ok (.if_icmp .ge 77, 3) := by decide +kernel
theorem dX11_areRowsSound_122 : decode cX11_areRowsSound 122 = .ok (.iinc 1 1, 3) := by decide +kernel
theorem dX11_areRowsSound_125 : decode cX11_areRowsSound 125 = .ok (.goto (-101), 3) := by decide +kernel
theorem dX11_areRowsSound_128 : decode cX11_areRowsSound 128 = .ok (.aload_n 0, 1) := by decide +kernel
theorem dX11_areRowsSound_129 : decode cX11_areRowsSound 129 = .ok (.getfield 23, 3) := by decide +kernel
theorem dX11_areRowsSound_132 : decode cX11_areRowsSound 132 = .ok (.aload_n 0, 1) := by decide +kernel
theorem dX11_areRowsSound_133 : decode cX11_areRowsSound 133 = .ok (.getfield 19, 3) := by decide +kernel
theorem dX11_areRowsSound_136 : decode cX11_areRowsSound 136 = .ok (.invokevirtual 370, 3) := by decide +kernel
theorem dX11_areRowsSound_139 : decode cX11_areRowsSound 139 = .ok (.ireturn, 1) := by decide +kernel
theorem dX12_init_0 : decode cX12_init 0 = .ok (.aload_n 0, 1) := by decide +kernel
theorem dX12_init_1 : decode cX12_init 1 = .ok (.invokespecial 1, 3) := by decide +kernel
theorem dX12_init_4 : decode cX12_init 4 = .ok (.aload_n 0, 1) := by decide +kernel
theorem dX12_init_5 : decode cX12_init 5 = .ok (.iconst 1, 1) := by decide +kernel
theorem dX12_init_6 : decode cX12_init 6 = .ok (.putfield 7, 3) := by decide +kernel
theorem dX12_init_9 : decode cX12_init 9 = .ok (.aload_n 0, 1) := by decide +kernel
theorem dX12_init_10 : decode cX12_init 10 = .ok (.iconst 0, 1) := by decide +kernel
theorem dX12_init_11 : decode cX12_init 11 = .ok (.anewarray 8, 3) := by decide +kernel
theorem dX12_init_14 : decode cX12_init 14 = .ok (.putfield 13, 3) := by decide +kernel
theorem dX12_init_17 : decode cX12_init 17 = .ok (.aload_n 0, 1) := by decide +kernel
theorem dX12_init_18 : decode cX12_init 18 = .ok (.bipush 97, 2) := by decide +kernel
theorem dX12_init_20 : decode cX12_init 20 = .ok (.putfield 17, 3) := by decide +kernel
theorem dX12_init_23 : decode cX12_init 23 = .ok (.aload_n 0, 1) := by decide +kernel
theorem dX12_init_24 : decode cX12_init 24 = .ok (.iconst 0, 1) := by decide +kernel
theorem dX12_init_25 : decode cX12_init 25 = .ok (.newarray .long, 2) := by decide +kernel
theorem dX12_init_27 : decode cX12_init 27 = .ok (.putfield 21, 3) := by decide +kernel
theorem dX12_init_30 : decode cX12_init 30 = .ok (.aload_n 0, 1) := by decide +kernel
theorem dX12_init_31 : decode cX12_init 31 = .ok (.iload_n 1, 1) := by decide +kernel
theorem dX12_init_32 : decode cX12_init 32 = .ok (.putfield 25, 3) := by decide +kernel
theorem dX12_init_35 : decode cX12_init 35 = .ok (.return_, 1) := by decide +kernel
theorem dX12_gets_0 : decode cX12_gets 0 = .ok (.aload_n 0, 1) := by decide +kernel
theorem dX12_gets_1 : decode cX12_gets 1 = .ok (.getfield 13, 3) := by decide +kernel
theorem dX12_gets_4 : decode cX12_gets 4 = .ok (.arraylength, 1) := by decide +kernel
theorem dX12_gets_5 : decode cX12_gets 5 = .ok (.iconst 1, 1) := by decide +kernel
theorem dX12_gets_6 : decode cX12_gets 6 = .ok (.iadd, 1) := by decide +kernel
theorem dX12_gets_7 : decode cX12_gets 7 = .ok (.anewarray 8, 3) := by decide +kernel
theorem dX12_gets_10 : decode cX12_gets 10 = .ok (.astore_n 2, 1) := by decide +kernel
theorem dX12_gets_11 : decode cX12_gets 11 = .ok (.iconst 0, 1) := by decide +kernel
theorem dX12_gets_12 : decode cX12_gets 12 = .ok (.istore_n 3, 1) := by decide +kernel
theorem dX12_gets_13 : decode cX12_gets 13 = .ok (.iload_n 3, 1) := by decide +kernel
theorem dX12_gets_14 : decode cX12_gets 14 = .ok (.aload_n 0, 1) := by decide +kernel
theorem dX12_gets_15 : decode cX12_gets 15 = .ok (.getfield 13, 3) := by decide +kernel
theorem dX12_gets_18 : decode cX12_gets 18 = .ok (.arraylength, 1) := by decide +kernel
theorem dX12_gets_19 : decode cX12_gets 19 = .ok (.if_icmp .ge 18, 3) := by decide +kernel
theorem dX12_gets_37 : decode cX12_gets 37 = .ok (.aload_n 2, 1) := by decide +kernel
theorem dX12_gets_38 : decode cX12_gets 38 = .ok (.aload_n 0, 1) := by decide +kernel
theorem dX12_gets_39 : decode cX12_gets 39 = .ok (.getfield 13, 3) := by decide +kernel
theorem dX12_gets_42 : decode cX12_gets 42 = .ok (.arraylength, 1) := by decide +kernel
theorem dX12_gets_43 : decode cX12_gets 43 = .ok (.aload_n 1, 1) := by decide +kernel
theorem dX12_gets_44 : decode cX12_gets 44 = .ok (.aastore, 1) := by decide +kernel
theorem dX12_gets_45 : decode cX12_gets 45 = .ok (.aload_n 0, 1) := by decide +kernel
theorem dX12_gets_46 : decode cX12_gets 46 = .ok (.aload_n 2, 1) := by decide +kernel
theorem dX12_gets_47 : decode cX12_gets 47 = .ok (.putfield 13, 3) := by decide +kernel
theorem dX12_gets_50 : decode cX12_gets 50 = .ok (.return_, 1) := by decide +kernel
theorem dX12_hears_0 : decode cX12_hears 0 = .ok (.aload_n 0, 1) := by decide +kernel
theorem dX12_hears_1 : decode cX12_hears 1 = .ok (.getfield 21, 3) := by decide +kernel
theorem dX12_hears_4 : decode cX12_hears 4 = .ok (.arraylength, 1) := by decide +kernel
theorem dX12_hears_5 : decode cX12_hears 5 = .ok (.iconst 1, 1) := by decide +kernel
theorem dX12_hears_6 : decode cX12_hears 6 = .ok (.iadd, 1) := by decide +kernel
theorem dX12_hears_7 : decode cX12_hears 7 = .ok (.newarray .long, 2) := by decide +kernel
theorem dX12_hears_9 : decode cX12_hears 9 = .ok (.astore_n 3, 1) := by decide +kernel
theorem dX12_hears_10 : decode cX12_hears 10 = .ok (.iconst 0, 1) := by decide +kernel
theorem dX12_hears_11 : decode cX12_hears 11 = .ok (.istore 4, 2) := by decide +kernel
theorem dX12_hears_13 : decode cX12_hears 13 = .ok (.iload 4, 2) := by decide +kernel
theorem dX12_hears_15 : decode cX12_hears 15 = .ok (.aload_n 0, 1) := by decide +kernel
theorem dX12_hears_16 : decode cX12_hears 16 = .ok (.getfield 21, 3) := by decide +kernel
theorem dX12_hears_19 : decode cX12_hears 19 = .ok (.arraylength, 1) := by decide +kernel
theorem dX12_hears_20 : decode cX12_hears 20 = .ok (.if_icmp .ge 20, 3) := by decide +kernel
theorem dX12_hears_40 : decode cX12_hears 40 = .ok (.aload_n 3, 1) := by decide +kernel
theorem dX12_hears_41 : decode cX12_hears 41 = .ok (.aload_n 0, 1) := by decide +kernel
theorem dX12_hears_42 : decode cX12_hears 42 = .ok (.getfield 21, 3) := by decide +kernel
theorem dX12_hears_45 : decode cX12_hears 45 = .ok (.arraylength, 1) := by decide +kernel
theorem dX12_hears_46 : decode cX12_hears 46 = .ok (.lload_n 1, 1) := by decide +kernel
theorem dX12_hears_47 : decode cX12_hears 47 = .ok (.lastore, 1) := by decide +kernel
theorem dX12_hears_48 : decode cX12_hears 48 = .ok (.aload_n 0, 1) := by decide +kernel
theorem dX12_hears_49 : decode cX12_hears 49 = .ok (.aload_n 3, 1) := by decide +kernel
theorem dX12_hears_50 : decode cX12_hears 50 = .ok (.putfield 21, 3) := by decide +kernel
theorem dX12_hears_53 : decode cX12_hears 53 = .ok (.return_, 1) := by decide +kernel
theorem dX13_init_0 : decode cX13_init 0 = .ok (.aload_n 0, 1) := by decide +kernel
theorem dX13_init_1 : decode cX13_init 1 = .ok (.invokespecial 1, 3) := by decide +kernel
theorem dX13_init_4 : decode cX13_init 4 = .ok (.aload_n 0, 1) := by decide +kernel
theorem dX13_init_5 : decode cX13_init 5 = .ok (.bipush 24, 2) := by decide +kernel
theorem dX13_init_7 : decode cX13_init 7 = .ok (.newarray .boolean, 2) := by decide +kernel
theorem dX13_init_9 : decode cX13_init 9 = .ok (.putfield 9, 3) := by decide +kernel
theorem dX13_init_12 : decode cX13_init 12 = .ok (.aload_n 0, 1) := by decide +kernel
theorem dX13_init_13 : decode cX13_init 13 = .ok (.bipush 24, 2) := by decide +kernel
theorem dX13_init_15 : decode cX13_init 15 = .ok (.newarray .int, 2) := by decide +kernel
theorem dX13_init_17 : decode cX13_init 17 = .ok (.putfield 13, 3) := by decide +kernel
theorem dX13_init_20 : decode cX13_init 20 = .ok (.aload_n 0, 1) := by decide +kernel
theorem dX13_init_21 : decode cX13_init 21 = .ok (.bipush 24, 2) := by decide +kernel
theorem dX13_init_23 : decode cX13_init 23 = .ok (.newarray .int, 2) := by decide +kernel
theorem dX13_init_25 : decode cX13_init 25 = .ok (.putfield 17, 3) := by decide +kernel
theorem dX13_init_28 : decode cX13_init 28 = .ok (.aload_n 0, 1) := by decide +kernel
theorem dX13_init_29 : decode cX13_init 29 = .ok (.bipush 24, 2) := by decide +kernel
theorem dX13_init_31 : decode cX13_init 31 = .ok (.newarray .char, 2) := by decide +kernel
theorem dX13_init_33 : decode cX13_init 33 = .ok (.putfield 20, 3) := by decide +kernel
theorem dX13_init_36 : decode cX13_init 36 = .ok (.aload_n 0, 1) := by decide +kernel
theorem dX13_init_37 : decode cX13_init 37 = .ok (.bipush 24, 2) := by decide +kernel
theorem dX13_init_39 : decode cX13_init 39 = .ok (.anewarray 24, 3) := by decide +kernel
theorem dX13_init_42 : decode cX13_init 42 = .ok (.putfield 26, 3) := by decide +kernel
theorem dX13_init_45 : decode cX13_init 45 = .ok (.aload_n 0, 1) := by decide +kernel
theorem dX13_init_46 : decode cX13_init 46 = .ok (.bipush 24, 2) := by decide +kernel
theorem dX13_init_48 : decode cX13_init 48 = .ok (.anewarray 24, 3) := by decide +kernel
theorem dX13_init_51 : decode cX13_init 51 = .ok (.putfield 30, 3) := by decide +kernel
theorem dX13_init_54 : decode cX13_init 54 = .ok (.aload_n 0, 1) := by decide +kernel
theorem dX13_init_55 : decode cX13_init 55 = .ok (.iconst 1, 1) := by decide +kernel
theorem dX13_init_56 : decode cX13_init 56 = .ok (.putfield 33, 3) := by decide +kernel
theorem dX13_init_59 : decode cX13_init 59 = .ok (.aload_n 0, 1) := by decide +kernel
theorem dX13_init_60 : decode cX13_init 60 = .ok (.sipush 4000, 3) := by decide +kernel
theorem dX13_init_63 : decode cX13_init 63 = .ok (.newarray .int, 2) := by decide +kernel
theorem dX13_init_65 : decode cX13_init 65 = .ok (.putfield 37, 3) := by decide +kernel
theorem dX13_init_68 : decode cX13_init 68 = .ok (.aload_n 0, 1) := by decide +kernel
theorem dX13_init_69 : decode cX13_init 69 = .ok (.iconst 0, 1) := by decide +kernel
theorem dX13_init_70 : decode cX13_init 70 = .ok (.newarray .int, 2) := by decide +kernel
theorem dX13_init_72 : decode cX13_init 72 = .ok (.putfield 40, 3) := by decide +kernel
theorem dX13_init_75 : decode cX13_init 75 = .ok (.aload_n 0, 1) := by decide +kernel
theorem dX13_init_76 : decode cX13_init 76 = .ok (.iconst 4, 1) := by decide +kernel
theorem dX13_init_77 : decode cX13_init 77 = .ok (.anewarray 43, 3) := by decide +kernel
theorem dX13_init_80 : decode cX13_init 80 = .ok (.putfield 45, 3) := by decide +kernel
theorem dX13_init_83 : decode cX13_init 83 = .ok (.aload_n 0, 1) := by decide +kernel
theorem dX13_init_84 : decode cX13_init 84 = .ok (.bipush 24, 2) := by decide +kernel
theorem dX13_init_86 : decode cX13_init 86 = .ok (.newarray .boolean, 2) := by decide +kernel
theorem dX13_init_88 : decode cX13_init 88 = .ok (.putfield 49, 3) := by decide +kernel
theorem dX13_init_91 : decode cX13_init 91 = .ok (.aload_n 0, 1) := by decide +kernel
theorem dX13_init_92 : decode cX13_init 92 = .ok (.bipush 24, 2) := by decide +kernel
theorem dX13_init_94 : decode cX13_init 94 = .ok (.newarray .int, 2) := by decide +kernel
theorem dX13_init_96 : decode cX13_init 96 = .ok (.putfield 52, 3) := by decide +kernel
theorem dX13_init_99 : decode cX13_init 99 = .ok (.aload_n 0, 1) := by decide +kernel
theorem dX13_init_100 : decode cX13_init 100 = .ok (.bipush 24, 2) := by decide +kernel
theorem dX13_init_102 : decode cX13_init 102 = .ok (.newarray .char, 2) := by decide +kernel
theorem dX13_init_104 : decode cX13_init 104 = .ok (.putfield 55, 3) := by decide +kernel
theorem dX13_init_107 : decode cX13_init 107 = .ok (.aload_n 0, 1) := by decide +kernel
theorem dX13_init_108 : decode cX13_init 108 = .ok (.bipush 24, 2) := by decide +kernel
theorem dX13_init_110 : decode cX13_init 110 = .ok (.anewarray 24, 3) := by decide +kernel
theorem dX13_init_113 : decode cX13_init 113 = .ok (.putfield 58, 3) := by decide +kernel
theorem dX13_init_116 : decode cX13_init 116 = .ok (.aload_n 0, 1) := by decide +kernel
theorem dX13_init_117 : decode cX13_init 117 = .ok (.bipush 24, 2) := by decide +kernel
theorem dX13_init_119 : decode cX13_init 119 = .ok (.anewarray 24, 3) := by decide +kernel
theorem dX13_init_122 : decode cX13_init 122 = .ok (.putfield 61, 3) := by decide +kernel
theorem dX13_init_125 : decode cX13_init 125 = .ok (.aload_n 0, 1) := by decide +kernel
theorem dX13_init_126 : decode cX13_init 126 = .ok (.bipush 16, 2) := by decide +kernel
theorem dX13_init_128 : decode cX13_init 128 = .ok (.anewarray 64, 3) := by decide +kernel
theorem dX13_init_131 : decode cX13_init 131 = .ok (.putfield 65, 3) := by decide +kernel
theorem dX13_init_134 : decode cX13_init 134 = .ok (.aload_n 0, 1) := by decide +kernel
theorem dX13_init_135 : decode cX13_init 135 = .ok (.bipush 24, 2) := by decide +kernel
theorem dX13_init_137 : decode cX13_init 137 = .ok (.bipush 40, 2) := by decide +kernel
theorem dX13_init_139 : decode cX13_init 139 = .ok (.multianewarray 69 2, 4) := by decide +kernel
theorem dX13_init_143 : decode cX13_init 143 = .ok (.putfield 70, 3) := by decide +kernel
theorem dX13_init_146 : decode cX13_init 146 = .ok (.aload_n 0, 1) := by decide +kernel
theorem dX13_init_147 : decode cX13_init 147 = .ok (.bipush 40, 2) := by decide +kernel
theorem dX13_init_149 : decode cX13_init 149 = .ok (.newarray .int, 2) := by decide +kernel
theorem dX13_init_151 : decode cX13_init 151 = .ok (.putfield 73, 3) := by decide +kernel
theorem dX13_init_154 : decode cX13_init 154 = .ok (.aload_n 0, 1) := by decide +kernel
theorem dX13_init_155 : decode cX13_init 155 = .ok (.bipush 40, 2) := by decide +kernel
theorem dX13_init_157 : decode cX13_init 157 = .ok (.newarray .int, 2) := by decide +kernel
theorem dX13_init_159 : decode cX13_init 159 = .ok (.putfield 76, 3) := by decide +kernel
theorem dX13_init_162 : decode cX13_init 162 = .ok (.aload_n 0, 1) := by decide +kernel
theorem dX13_init_163 : decode cX13_init 163 = .ok (.bipush 40, 2) := by decide +kernel
theorem dX13_init_165 : decode cX13_init 165 = .ok (.newarray .int, 2) := by decide +kernel
theorem dX13_init_167 : decode cX13_init 167 = .ok (.putfield 79, 3) := by decide +kernel
theorem dX13_init_170 : decode cX13_init 170 = .ok (.return_, 1) := by decide +kernel
theorem dX13_thrown_0 : decode cX13_thrown 0 = .ok (.aload_n 0, 1) := by decide +kernel
theorem dX13_thrown_1 : decode cX13_thrown 1 = .ok (.getfield 82, 3) := by decide +kernel
theorem dX13_thrown_4 : decode cX13_thrown 4 = .ok (.ireturn, 1) := by decide +kernel
theorem dX13_no_0 : decode cX13_no 0 = .ok (.aload_n 0, 1) := by decide +kernel
theorem dX13_no_1 : decode cX13_no 1 = .ok (.iload_n 1, 1) := by decide +kernel
theorem dX13_no_2 : decode cX13_no 2 = .ok (.ifCond .eq 7, 3) := by decide +kernel
theorem dX13_no_5 : decode cX13_no 5 = .ok (.iconst 0, 1) := by decide +kernel
theorem dX13_no_6 : decode cX13_no 6 = .ok (.goto 4, 3) := by decide +kernel
theorem dX13_no_9 : decode cX13_no 9 = .ok (.iload_n 2, 1) := by decide +kernel
theorem dX13_no_10 : decode cX13_no 10 = .ok (.putfield 82, 3) := by decide +kernel
theorem dX13_no_13 : decode cX13_no 13 = .ok (.iload_n 1, 1) := by decide +kernel
theorem dX13_no_14 : decode cX13_no 14 = .ok (.ifCond .ne 7, 3) := by decide +kernel
theorem dX13_no_17 : decode cX13_no 17 = .ok (.iconst 1, 1) := by decide +kernel
theorem dX13_no_18 : decode cX13_no 18 = .ok (.goto 4, 3) := by decide +kernel
theorem dX13_no_21 : decode cX13_no 21 = .ok (.iconst 0, 1) := by decide +kernel
theorem dX13_no_22 : decode cX13_no 22 = .ok (.ireturn, 1) := by decide +kernel
theorem dX13_in_0 : decode cX13_in 0 = .ok (.iload_n 0, 1) := by decide +kernel
theorem dX13_in_1 : decode cX13_in 1 = .ok (.iload_n 1, 1) := by decide +kernel
theorem dX13_in_2 : decode cX13_in 2 = .ok (.if_icmp .lt 12, 3) := by decide +kernel
theorem dX13_in_5 : decode cX13_in 5 = .ok (.iload_n 0, 1) := by decide +kernel
theorem dX13_in_6 : decode cX13_in 6 = .ok (.iload_n 2, 1) := by decide +kernel
theorem dX13_in_7 : decode cX13_in 7 = .ok (.if_icmp .gt 7, 3) := by decide +kernel
theorem dX13_in_10 : decode cX13_in 10 = .ok (.iconst 1, 1) := by decide +kernel
theorem dX13_in_11 : decode cX13_in 11 = .ok (.goto 4, 3) := by decide +kernel
theorem dX13_in_14 : decode cX13_in 14 = .ok (.iconst 0, 1) := by decide +kernel
theorem dX13_in_15 : decode cX13_in 15 = .ok (.ireturn, 1) := by decide +kernel
theorem dX13_isText_0 : decode cX13_isText 0 = .ok (.iload_n 1, 1) := by decide +kernel
theorem dX13_isText_1 : decode cX13_isText 1 = .ok (.iconst 0, 1) := by decide +kernel
theorem dX13_isText_2 : decode cX13_isText 2 = .ok (.aload_n 0, 1) := by decide +kernel
theorem dX13_isText_3 : decode cX13_isText 3 = .ok (.getfield 85, 3) := by decide +kernel
theorem dX13_isText_6 : decode cX13_isText 6 = .ok (.iconst 1, 1) := by decide +kernel
theorem dX13_isText_7 : decode cX13_isText 7 = .ok (.isub, 1) := by decide +kernel
theorem dX13_isText_8 : decode cX13_isText 8 = .ok (.invokestatic 88, 3) := by decide +kernel
theorem dX13_isText_11 : decode cX13_isText 11 = .ok (.ifCond .eq 16, 3) := by decide +kernel
theorem dX13_isText_27 : decode cX13_isText 27 = .ok (.iconst 0, 1) := by decide +kernel
theorem dX13_isText_28 : decode cX13_isText 28 = .ok (.ireturn, 1) := by decide +kernel
theorem dX13_word_0 : decode cX13_word 0 = .ok (.lconst 0, 1) := by decide +kernel
theorem dX13_word_1 : decode cX13_word 1 = .ok (.lstore_n 2, 1) := by decide +kernel
theorem dX13_word_2 : decode cX13_word 2 = .ok (.iconst 0, 1) := by decide +kernel
theorem dX13_word_3 : decode cX13_word 3 = .ok (.istore 4, 2) := by decide +kernel
theorem dX13_word_5 : decode cX13_word 5 = .ok (.iload 4, 2) := by decide +kernel
theorem dX13_word_7 : decode cX13_word 7 = .ok (.bipush 12, 2) := by decide +kernel
theorem dX13_word_9 : decode cX13_word 9 = .ok (.if_icmp .ge 37, 3) := by decide +kernel
theorem dX13_word_12 : decode cX13_word 12 = .ok (.ldc2_w 92, 3) := by decide +kernel
theorem dX13_word_15 : decode cX13_word 15 = .ok (.lload_n 2, 1) := by decide +kernel
theorem dX13_word_16 : decode cX13_word 16 = .ok (.lmul, 1) := by decide +kernel
theorem dX13_word_17 : decode cX13_word 17 = .ok (.iload 4, 2) := by decide +kernel
theorem dX13_word_19 : decode cX13_word 19 = .ok (.iload_n 1, 1) := by decide +kernel
theorem dX13_word_20 : decode cX13_word 20 = .ok (.if_icmp .ge 16, 3) := by decide +kernel
theorem dX13_word_36 : decode cX13_word 36 = .ok (.iconst 0, 1) := by decide +kernel
theorem dX13_word_37 : decode cX13_word 37 = .ok (.i2l, 1) := by decide +kernel
theorem dX13_word_38 : decode cX13_word 38 = .ok (.ladd, 1) := by decide +kernel
theorem dX13_word_39 : decode cX13_word 39 = .ok (.lstore_n 2, 1) := by decide +kernel
theorem dX13_word_40 : decode cX13_word 40 = .ok (.iinc 4 1, 3) := by decide +kernel
theorem dX13_word_43 : decode cX13_word 43 = .ok (.goto (-38), 3) := by decide +kernel
theorem dX13_word_46 : decode cX13_word 46 = .ok (.lload_n 2, 1) := by decide +kernel
theorem dX13_word_47 : decode cX13_word 47 = .ok (.lreturn, 1) := by decide +kernel
theorem dX13_wordsOf_0 : decode cX13_wordsOf 0 = .ok (.sipush 4000, 3) := by decide +kernel
theorem dX13_wordsOf_3 : decode cX13_wordsOf 3 = .ok (.newarray .long, 2) := by decide +kernel
theorem dX13_wordsOf_5 : decode cX13_wordsOf 5 = .ok (.astore_n 3, 1) := by decide +kernel
theorem dX13_wordsOf_6 : decode cX13_wordsOf 6 = .ok (.iconst 0, 1) := by decide +kernel
theorem dX13_wordsOf_7 : decode cX13_wordsOf 7 = .ok (.istore 4, 2) := by decide +kernel
theorem dX13_wordsOf_9 : decode cX13_wordsOf 9 = .ok (.bipush 12, 2) := by decide +kernel
theorem dX13_wordsOf_11 : decode cX13_wordsOf 11 = .ok (.newarray .int, 2) := by decide +kernel
theorem dX13_wordsOf_13 : decode cX13_wordsOf 13 = .ok (.astore 5, 2) := by decide +kernel
theorem dX13_wordsOf_15 : decode cX13_wordsOf 15 = .ok (.iconst 0, 1) := by decide +kernel
theorem dX13_wordsOf_16 : decode cX13_wordsOf 16 = .ok (.istore 6, 2) := by decide +kernel
theorem dX13_wordsOf_18 : decode cX13_wordsOf 18 = .ok (.iload_n 1, 1) := by decide +kernel
theorem dX13_wordsOf_19 : decode cX13_wordsOf 19 = .ok (.istore 7, 2) := by decide +kernel
theorem dX13_wordsOf_21 : decode cX13_wordsOf 21 = .ok (.iload 7, 2) := by decide +kernel
theorem dX13_wordsOf_23 : decode cX13_wordsOf 23 = .ok (.iload_n 2, 1) := by decide +kernel
theorem dX13_wordsOf_24 : decode cX13_wordsOf 24 = .ok (.if_icmp .gt 113, 3) := by decide +kernel
theorem dX13_wordsOf_27 : decode cX13_wordsOf 27 = .ok (.iload 7, 2) := by decide +kernel
theorem dX13_wordsOf_29 : decode cX13_wordsOf 29 = .ok (.iload_n 2, 1) := by decide +kernel
theorem dX13_wordsOf_30 : decode cX13_wordsOf 30 = .ok (.if_icmp .ge 20, 3) := by decide +kernel
theorem dX13_wordsOf_50 : decode cX13_wordsOf 50 = .ok (.iconst 0, 1) := by decide +kernel
theorem dX13_wordsOf_51 : decode cX13_wordsOf 51 = .ok (.istore 8, 2) := by decide +kernel
theorem dX13_wordsOf_53 : decode cX13_wordsOf 53 = .ok (.iload 8, 2) := by decide +kernel
theorem dX13_wordsOf_55 : decode cX13_wordsOf 55 = .ok (.ifCond .eq 22, 3) := by decide +kernel
theorem dX13_wordsOf_77 : decode cX13_wordsOf 77 = .ok (.iload 8, 2) := by decide +kernel
theorem dX13_wordsOf_79 : decode cX13_wordsOf 79 = .ok (.ifCond .ne 37, 3) := by decide +kernel
theorem dX13_wordsOf_82 : decode cX13_wordsOf 82 = .ok (.iload 6, 2) := by decide +kernel
theorem dX13_wordsOf_84 : decode cX13_wordsOf 84 = .ok (.ifCond .le 32, 3) := by decide +kernel
theorem dX13_wordsOf_116 : decode cX13_wordsOf 116 = .ok (.iload 8, 2) := by decide +kernel
theorem dX13_wordsOf_118 : decode cX13_wordsOf 118 = .ok (.ifCond .eq 10, 3) := by decide +kernel
theorem dX13_wordsOf_128 : decode cX13_wordsOf 128 = .ok (.iconst 0, 1) := by decide +kernel
theorem dX13_wordsOf_129 : decode cX13_wordsOf 129 = .ok (.istore 6, 2) := by decide +kernel
theorem dX13_wordsOf_131 : decode cX13_wordsOf 131 = .ok (.iinc 7 1, 3) := by decide +kernel
theorem dX13_wordsOf_134 : decode cX13_wordsOf 134 = .ok (.goto (-113), 3) := by decide +kernel
theorem dX13_wordsOf_137 : decode cX13_wordsOf 137 = .ok (.aload_n 3, 1) := by decide +kernel
theorem dX13_wordsOf_138 : decode cX13_wordsOf 138 = .ok (.iload 4, 2) := by decide +kernel
theorem dX13_wordsOf_140 : decode cX13_wordsOf 140 = .ok (.invokestatic 128, 3) := by decide +kernel
theorem dX13_wordsOf_143 : decode cX13_wordsOf 143 = .ok (.areturn, 1) := by decide +kernel
theorem dX13_head_0 : decode cX13_head 0 = .ok (.iload_n 1, 1) := by decide +kernel
theorem dX13_head_1 : decode cX13_head 1 = .ok (.newarray .long, 2) := by decide +kernel
theorem dX13_head_3 : decode cX13_head 3 = .ok (.astore_n 2, 1) := by decide +kernel
theorem dX13_head_4 : decode cX13_head 4 = .ok (.iconst 0, 1) := by decide +kernel
theorem dX13_head_5 : decode cX13_head 5 = .ok (.istore_n 3, 1) := by decide +kernel
theorem dX13_head_6 : decode cX13_head 6 = .ok (.iload_n 3, 1) := by decide +kernel
theorem dX13_head_7 : decode cX13_head 7 = .ok (.iload_n 1, 1) := by decide +kernel
theorem dX13_head_8 : decode cX13_head 8 = .ok (.if_icmp .ge 15, 3) := by decide +kernel
theorem dX13_head_23 : decode cX13_head 23 = .ok (.aload_n 2, 1) := by decide +kernel
theorem dX13_head_24 : decode cX13_head 24 = .ok (.areturn, 1) := by decide +kernel
theorem dX13_isWord_0 : decode cX13_isWord 0 = .ok (.aload_n 0, 1) := by decide +kernel
theorem dX13_isWord_1 : decode cX13_isWord 1 = .ok (.getfield 132, 3) := by decide +kernel
theorem dX13_isWord_4 : decode cX13_isWord 4 = .ok (.ifCond .le 7, 3) := by decide +kernel
theorem dX13_isWord_11 : decode cX13_isWord 11 = .ok (.iconst 0, 1) := by decide +kernel
theorem dX13_isWord_12 : decode cX13_isWord 12 = .ok (.istore_n 1, 1) := by decide +kernel
theorem dX13_isWord_13 : decode cX13_isWord 13 = .ok (.iconst 0, 1) := by decide +kernel
theorem dX13_isWord_14 : decode cX13_isWord 14 = .ok (.istore_n 2, 1) := by decide +kernel
theorem dX13_isWord_15 : decode cX13_isWord 15 = .ok (.iload_n 2, 1) := by decide +kernel
theorem dX13_isWord_16 : decode cX13_isWord 16 = .ok (.aload_n 0, 1) := by decide +kernel
theorem dX13_isWord_17 : decode cX13_isWord 17 = .ok (.getfield 132, 3) := by decide +kernel
theorem dX13_isWord_20 : decode cX13_isWord 20 = .ok (.if_icmp .ge 31, 3) := by decide +kernel
theorem dX13_isWord_51 : decode cX13_isWord 51 = .ok (.iload_n 1, 1) := by decide +kernel
theorem dX13_isWord_52 : decode cX13_isWord 52 = .ok (.ireturn, 1) := by decide +kernel
theorem dX13_all_0 : decode cX13_all 0 = .ok (.sipush 3840, 3) := by decide +kernel
theorem dX13_all_3 : decode cX13_all 3 = .ok (.newarray .long, 2) := by decide +kernel
theorem dX13_all_5 : decode cX13_all 5 = .ok (.astore_n 1, 1) := by decide +kernel
theorem dX13_all_6 : decode cX13_all 6 = .ok (.iconst 0, 1) := by decide +kernel
theorem dX13_all_7 : decode cX13_all 7 = .ok (.istore_n 2, 1) := by decide +kernel
theorem dX13_all_8 : decode cX13_all 8 = .ok (.iconst 0, 1) := by decide +kernel
theorem dX13_all_9 : decode cX13_all 9 = .ok (.istore_n 3, 1) := by decide +kernel
theorem dX13_all_10 : decode cX13_all 10 = .ok (.iload_n 3, 1) := by decide +kernel
theorem dX13_all_11 : decode cX13_all 11 = .ok (.aload_n 0, 1) := by decide +kernel
theorem dX13_all_12 : decode cX13_all 12 = .ok (.getfield 85, 3) := by decide +kernel
theorem dX13_all_15 : decode cX13_all 15 = .ok (.if_icmp .ge 161, 3) := by decide +kernel
theorem dX13_all_176 : decode cX13_all 176 = .ok (.aload_n 1, 1) := by decide +kernel
theorem dX13_all_177 : decode cX13_all 177 = .ok (.iload_n 2, 1) := by decide +kernel
theorem dX13_all_178 : decode cX13_all 178 = .ok (.invokestatic 128, 3) := by decide +kernel
theorem dX13_all_181 : decode cX13_all 181 = .ok (.areturn, 1) := by decide +kernel
theorem dX13_adds_0 : decode cX13_adds 0 = .ok (.aload_n 0, 1) := by decide +kernel
theorem dX13_adds_1 : decode cX13_adds 1 = .ok (.getfield 37, 3) := by decide +kernel
theorem dX13_adds_4 : decode cX13_adds 4 = .ok (.aload_n 0, 1) := by decide +kernel
theorem dX13_adds_5 : decode cX13_adds 5 = .ok (.getfield 132, 3) := by decide +kernel
theorem dX13_adds_8 : decode cX13_adds 8 = .ok (.iload_n 1, 1) := by decide +kernel
theorem dX13_adds_9 : decode cX13_adds 9 = .ok (.iastore, 1) := by decide +kernel
theorem dX13_adds_10 : decode cX13_adds 10 = .ok (.aload_n 0, 1) := by decide +kernel
theorem dX13_adds_11 : decode cX13_adds 11 = .ok (.dup, 1) := by decide +kernel
theorem dX13_adds_12 : decode cX13_adds 12 = .ok (.getfield 132, 3) := by decide +kernel
theorem dX13_adds_15 : decode cX13_adds 15 = .ok (.iconst 1, 1) := by decide +kernel
theorem dX13_adds_16 : decode cX13_adds 16 = .ok (.iadd, 1) := by decide +kernel
theorem dX13_adds_17 : decode cX13_adds 17 = .ok (.putfield 132, 3) := by decide +kernel
theorem dX13_adds_20 : decode cX13_adds 20 = .ok (.return_, 1) := by decide +kernel
theorem dX13_type_0 : decode cX13_type 0 = .ok (.aload_n 0, 1) := by decide +kernel
theorem dX13_type_1 : decode cX13_type 1 = .ok (.iload_n 1, 1) := by decide +kernel
theorem dX13_type_2 : decode cX13_type 2 = .ok (.bipush 32, 2) := by decide +kernel
theorem dX13_type_4 : decode cX13_type 4 = .ok (.bipush 126, 2) := by decide +kernel
theorem dX13_type_6 : decode cX13_type 6 = .ok (.invokestatic 88, 3) := by decide +kernel
theorem dX13_type_9 : decode cX13_type 9 = .ok (.iconst 1, 1) := by decide +kernel
theorem dX13_type_10 : decode cX13_type 10 = .ok (.invokevirtual 139, 3) := by decide +kernel
theorem dX13_type_13 : decode cX13_type 13 = .ok (.ifCond .ne 26, 3) := by decide +kernel
theorem dX13_type_16 : decode cX13_type 16 = .ok (.aload_n 0, 1) := by decide +kernel
theorem dX13_type_17 : decode cX13_type 17 = .ok (.aload_n 0, 1) := by decide +kernel
theorem dX13_type_18 : decode cX13_type 18 = .ok (.getfield 132, 3) := by decide +kernel
theorem dX13_type_21 : decode cX13_type 21 = .ok (.sipush 160, 3) := by decide +kernel
theorem dX13_type_24 : decode cX13_type 24 = .ok (.if_icmp .ge 7, 3) := by decide +kernel
theorem dX13_type_27 : decode cX13_type 27 = .ok (.iconst 1, 1) := by decide +kernel
theorem dX13_type_28 : decode cX13_type 28 = .ok (.goto 4, 3) := by decide +kernel
theorem dX13_type_32 : decode cX13_type 32 = .ok (.iconst 2, 1) := by decide +kernel
theorem dX13_type_33 : decode cX13_type 33 = .ok (.invokevirtual 139, 3) := by decide +kernel
theorem dX13_type_36 : decode cX13_type 36 = .ok (.ifCond .eq 5, 3) := by decide +kernel
theorem dX13_type_39 : decode cX13_type 39 = .ok (.iconst 0, 1) := by decide +kernel
theorem dX13_type_40 : decode cX13_type 40 = .ok (.ireturn, 1) := by decide +kernel
theorem dX13_type_41 : decode cX13_type 41 = .ok (.aload_n 0, 1) := by decide +kernel
theorem dX13_type_42 : decode cX13_type 42 = .ok (.iload_n 1, 1) := by decide +kernel
theorem dX13_type_43 : decode cX13_type 43 = .ok (.invokevirtual 143, 3) := by decide +kernel
theorem dX13_type_46 : decode cX13_type 46 = .ok (.aload_n 0, 1) := by decide +kernel
theorem dX13_type_47 : decode cX13_type 47 = .ok (.getfield 132, 3) := by decide +kernel
theorem dX13_type_50 : decode cX13_type 50 = .ok (.ireturn, 1) := by decide +kernel
theorem dX13_erase_0 : decode cX13_erase 0 = .ok (.aload_n 0, 1) := by decide +kernel
theorem dX13_erase_1 : decode cX13_erase 1 = .ok (.iconst 0, 1) := by decide +kernel
theorem dX13_erase_2 : decode cX13_erase 2 = .ok (.putfield 82, 3) := by decide +kernel
theorem dX13_erase_5 : decode cX13_erase 5 = .ok (.aload_n 0, 1) := by decide +kernel
theorem dX13_erase_6 : decode cX13_erase 6 = .ok (.getfield 132, 3) := by decide +kernel
theorem dX13_erase_9 : decode cX13_erase 9 = .ok (.istore_n 1, 1) := by decide +kernel
theorem dX13_erase_10 : decode cX13_erase 10 = .ok (.aload_n 0, 1) := by decide +kernel
theorem dX13_erase_11 : decode cX13_erase 11 = .ok (.iconst 0, 1) := by decide +kernel
theorem dX13_erase_12 : decode cX13_erase 12 = .ok (.putfield 132, 3) := by decide +kernel
theorem dX13_erase_15 : decode cX13_erase 15 = .ok (.iload_n 1, 1) := by decide +kernel
theorem dX13_erase_16 : decode cX13_erase 16 = .ok (.ireturn, 1) := by decide +kernel
theorem dX13_signAt_0 : decode cX13_signAt 0 = .ok (.aload_n 0, 1) := by decide +kernel
theorem dX13_signAt_1 : decode cX13_signAt 1 = .ok (.iload_n 1, 1) := by decide +kernel
theorem dX13_signAt_2 : decode cX13_signAt 2 = .ok (.iconst 0, 1) := by decide +kernel
theorem dX13_signAt_3 : decode cX13_signAt 3 = .ok (.aload_n 0, 1) := by decide +kernel
theorem dX13_signAt_4 : decode cX13_signAt 4 = .ok (.getfield 132, 3) := by decide +kernel
theorem dX13_signAt_7 : decode cX13_signAt 7 = .ok (.iconst 1, 1) := by decide +kernel
theorem dX13_signAt_8 : decode cX13_signAt 8 = .ok (.isub, 1) := by decide +kernel
theorem dX13_signAt_9 : decode cX13_signAt 9 = .ok (.invokestatic 88, 3) := by decide +kernel
theorem dX13_signAt_12 : decode cX13_signAt 12 = .ok (.iconst 1, 1) := by decide +kernel
theorem dX13_signAt_13 : decode cX13_signAt 13 = .ok (.invokevirtual 139, 3) := by decide +kernel
theorem dX13_signAt_16 : decode cX13_signAt 16 = .ok (.ifCond .eq 8, 3) := by decide +kernel
theorem dX13_signAt_19 : decode cX13_signAt 19 = .ok (.bipush 32, 2) := by decide +kernel
theorem dX13_signAt_21 : decode cX13_signAt 21 = .ok (.goto 10, 3) := by decide +kernel
theorem dX13_signAt_31 : decode cX13_signAt 31 = .ok (.ireturn, 1) := by decide +kernel
theorem dX13_reads_0 : decode cX13_reads 0 = .ok (.iconst 0, 1) := by decide +kernel
theorem dX13_reads_1 : decode cX13_reads 1 = .ok (.istore_n 2, 1) := by decide +kernel
theorem dX13_reads_2 : decode cX13_reads 2 = .ok (.iload_n 2, 1) := by decide +kernel
theorem dX13_reads_3 : decode cX13_reads 3 = .ok (.aload_n 0, 1) := by decide +kernel
theorem dX13_reads_4 : decode cX13_reads 4 = .ok (.getfield 132, 3) := by decide +kernel
theorem dX13_reads_7 : decode cX13_reads 7 = .ok (.if_icmp .ge 20, 3) := by decide +kernel
theorem dX13_reads_27 : decode cX13_reads 27 = .ok (.aload_n 0, 1) := by decide +kernel
theorem dX13_reads_28 : decode cX13_reads 28 = .ok (.getfield 26, 3) := by decide +kernel
theorem dX13_reads_31 : decode cX13_reads 31 = .ok (.iload_n 1, 1) := by decide +kernel
theorem dX13_reads_32 : decode cX13_reads 32 = .ok (.iload_n 2, 1) := by decide +kernel
theorem dX13_reads_33 : decode cX13_reads 33 = .ok (.aload_n 0, 1) := by decide +kernel
theorem dX13_reads_34 : decode cX13_reads 34 = .ok (.getfield 132, 3) := by decide +kernel
theorem dX13_reads_37 : decode cX13_reads 37 = .ok (.if_icmp .ge 12, 3) := by decide +kernel
theorem dX13_reads_49 : decode cX13_reads 49 = .ok (.iconst 0, 1) := by decide +kernel
theorem dX13_reads_50 : decode cX13_reads 50 = .ok (.newarray .long, 2) := by decide +kernel
theorem dX13_reads_52 : decode cX13_reads 52 = .ok (.aastore, 1) := by decide +kernel
theorem dX13_reads_53 : decode cX13_reads 53 = .ok (.aload_n 0, 1) := by decide +kernel
theorem dX13_reads_54 : decode cX13_reads 54 = .ok (.getfield 30, 3) := by decide +kernel
theorem dX13_reads_57 : decode cX13_reads 57 = .ok (.iload_n 1, 1) := by decide +kernel
theorem dX13_reads_58 : decode cX13_reads 58 = .ok (.iload_n 2, 1) := by decide +kernel
theorem dX13_reads_59 : decode cX13_reads 59 = .ok (.aload_n 0, 1) := by decide +kernel
theorem dX13_reads_60 : decode cX13_reads 60 = .ok (.getfield 132, 3) := by decide +kernel
theorem dX13_reads_63 : decode cX13_reads 63 = .ok (.if_icmp .ge 17, 3) := by decide +kernel
theorem dX13_reads_80 : decode cX13_reads 80 = .ok (.aload_n 0, 1) := by decide +kernel
theorem dX13_reads_81 : decode cX13_reads 81 = .ok (.iconst 0, 1) := by decide +kernel
theorem dX13_reads_82 : decode cX13_reads 82 = .ok (.aload_n 0, 1) := by decide +kernel
theorem dX13_reads_83 : decode cX13_reads 83 = .ok (.getfield 132, 3) := by decide +kernel
theorem dX13_reads_86 : decode cX13_reads 86 = .ok (.invokevirtual 154, 3) := by decide +kernel
theorem dX13_reads_89 : decode cX13_reads 89 = .ok (.aastore, 1) := by decide +kernel
theorem dX13_reads_90 : decode cX13_reads 90 = .ok (.aload_n 0, 1) := by decide +kernel
theorem dX13_reads_91 : decode cX13_reads 91 = .ok (.getfield 17, 3) := by decide +kernel
theorem dX13_reads_94 : decode cX13_reads 94 = .ok (.iload_n 1, 1) := by decide +kernel
theorem dX13_reads_95 : decode cX13_reads 95 = .ok (.aload_n 0, 1) := by decide +kernel
theorem dX13_reads_96 : decode cX13_reads 96 = .ok (.getfield 33, 3) := by decide +kernel
theorem dX13_reads_99 : decode cX13_reads 99 = .ok (.iconst 1, 1) := by decide +kernel
theorem dX13_reads_100 : decode cX13_reads 100 = .ok (.isub, 1) := by decide +kernel
theorem dX13_reads_101 : decode cX13_reads 101 = .ok (.iastore, 1) := by decide +kernel
theorem dX13_reads_102 : decode cX13_reads 102 = .ok (.aload_n 0, 1) := by decide +kernel
theorem dX13_reads_103 : decode cX13_reads 103 = .ok (.iconst 0, 1) := by decide +kernel
theorem dX13_reads_104 : decode cX13_reads 104 = .ok (.putfield 132, 3) := by decide +kernel
theorem dX13_reads_107 : decode cX13_reads 107 = .ok (.return_, 1) := by decide +kernel
theorem dX13_add_0 : decode cX13_add 0 = .ok (.aload_n 0, 1) := by decide +kernel
theorem dX13_add_1 : decode cX13_add 1 = .ok (.iload_n 1, 1) := by decide +kernel
theorem dX13_add_2 : decode cX13_add 2 = .ok (.iconst 0, 1) := by decide +kernel
theorem dX13_add_3 : decode cX13_add 3 = .ok (.sipush 999, 3) := by decide +kernel
theorem dX13_add_6 : decode cX13_add 6 = .ok (.invokestatic 88, 3) := by decide +kernel
theorem dX13_add_9 : decode cX13_add 9 = .ok (.ifCond .eq 18, 3) := by decide +kernel
theorem dX13_add_12 : decode cX13_add 12 = .ok (.iload_n 2, 1) := by decide +kernel
theorem dX13_add_13 : decode cX13_add 13 = .ok (.bipush 97, 2) := by decide +kernel
theorem dX13_add_15 : decode cX13_add 15 = .ok (.bipush 122, 2) := by decide +kernel
theorem dX13_add_17 : decode cX13_add 17 = .ok (.invokestatic 88, 3) := by decide +kernel
theorem dX13_add_20 : decode cX13_add 20 = .ok (.ifCond .eq 7, 3) := by decide +kernel
theorem dX13_add_23 : decode cX13_add 23 = .ok (.iconst 1, 1) := by decide +kernel
theorem dX13_add_24 : decode cX13_add 24 = .ok (.goto 4, 3) := by decide +kernel
theorem dX13_add_27 : decode cX13_add 27 = .ok (.iconst 0, 1) := by decide +kernel
theorem dX13_add_28 : decode cX13_add 28 = .ok (.iconst 1, 1) := by decide +kernel
theorem dX13_add_29 : decode cX13_add 29 = .ok (.invokevirtual 139, 3) := by decide +kernel
theorem dX13_add_32 : decode cX13_add 32 = .ok (.ifCond .ne 25, 3) := by decide +kernel
theorem dX13_add_35 : decode cX13_add 35 = .ok (.aload_n 0, 1) := by decide +kernel
theorem dX13_add_36 : decode cX13_add 36 = .ok (.aload_n 0, 1) := by decide +kernel
theorem dX13_add_37 : decode cX13_add 37 = .ok (.getfield 85, 3) := by decide +kernel
theorem dX13_add_40 : decode cX13_add 40 = .ok (.bipush 24, 2) := by decide +kernel
theorem dX13_add_42 : decode cX13_add 42 = .ok (.if_icmp .ge 7, 3) := by decide +kernel
theorem dX13_add_45 : decode cX13_add 45 = .ok (.iconst 1, 1) := by decide +kernel
theorem dX13_add_46 : decode cX13_add 46 = .ok (.goto 4, 3) := by decide +kernel
theorem dX13_add_50 : decode cX13_add 50 = .ok (.iconst 2, 1) := by decide +kernel
theorem dX13_add_51 : decode cX13_add 51 = .ok (.invokevirtual 139, 3) := by decide +kernel
theorem dX13_add_54 : decode cX13_add 54 = .ok (.ifCond .eq 5, 3) := by decide +kernel
theorem dX13_add_57 : decode cX13_add 57 = .ok (.iconst 0, 1) := by decide +kernel
theorem dX13_add_58 : decode cX13_add 58 = .ok (.ireturn, 1) := by decide +kernel
theorem dX13_add_59 : decode cX13_add 59 = .ok (.aload_n 0, 1) := by decide +kernel
theorem dX13_add_60 : decode cX13_add 60 = .ok (.getfield 9, 3) := by decide +kernel
theorem dX13_add_63 : decode cX13_add 63 = .ok (.aload_n 0, 1) := by decide +kernel
theorem dX13_add_64 : decode cX13_add 64 = .ok (.getfield 85, 3) := by decide +kernel
theorem dX13_add_67 : decode cX13_add 67 = .ok (.iconst 1, 1) := by decide +kernel
theorem dX13_add_68 : decode cX13_add 68 = .ok (.bastore, 1) := by decide +kernel
theorem dX13_add_69 : decode cX13_add 69 = .ok (.aload_n 0, 1) := by decide +kernel
theorem dX13_add_70 : decode cX13_add 70 = .ok (.getfield 13, 3) := by decide +kernel
theorem dX13_add_73 : decode cX13_add 73 = .ok (.aload_n 0, 1) := by decide +kernel
theorem dX13_add_74 : decode cX13_add 74 = .ok (.getfield 85, 3) := by decide +kernel
theorem dX13_add_77 : decode cX13_add 77 = .ok (.iload_n 1, 1) := by decide +kernel
theorem dX13_add_78 : decode cX13_add 78 = .ok (.iastore, 1) := by decide +kernel
theorem dX13_add_79 : decode cX13_add 79 = .ok (.aload_n 0, 1) := by decide +kernel
theorem dX13_add_80 : decode cX13_add 80 = .ok (.getfield 20, 3) := by decide +kernel
theorem dX13_add_83 : decode cX13_add 83 = .ok (.aload_n 0, 1) := by decide +kernel
theorem dX13_add_84 : decode cX13_add 84 = .ok (.getfield 85, 3) := by decide +kernel
theorem dX13_add_87 : decode cX13_add 87 = .ok (.iload_n 2, 1) := by decide +kernel
theorem dX13_add_88 : decode cX13_add 88 = .ok (.castore, 1) := by decide +kernel
theorem dX13_add_89 : decode cX13_add 89 = .ok (.aload_n 0, 1) := by decide +kernel
theorem dX13_add_90 : decode cX13_add 90 = .ok (.aload_n 0, 1) := by decide +kernel
theorem dX13_add_91 : decode cX13_add 91 = .ok (.getfield 85, 3) := by decide +kernel
theorem dX13_add_94 : decode cX13_add 94 = .ok (.invokevirtual 158, 3) := by decide +kernel
theorem dX13_add_97 : decode cX13_add 97 = .ok (.aload_n 0, 1) := by decide +kernel
theorem dX13_add_98 : decode cX13_add 98 = .ok (.dup, 1) := by decide +kernel
theorem dX13_add_99 : decode cX13_add 99 = .ok (.getfield 85, 3) := by decide +kernel
theorem dX13_add_102 : decode cX13_add 102 = .ok (.iconst 1, 1) := by decide +kernel
theorem dX13_add_103 : decode cX13_add 103 = .ok (.iadd, 1) := by decide +kernel
theorem dX13_add_104 : decode cX13_add 104 = .ok (.putfield 85, 3) := by decide +kernel
theorem dX13_add_107 : decode cX13_add 107 = .ok (.aload_n 0, 1) := by decide +kernel
theorem dX13_add_108 : decode cX13_add 108 = .ok (.getfield 85, 3) := by decide +kernel
theorem dX13_add_111 : decode cX13_add 111 = .ok (.iconst 1, 1) := by decide +kernel
theorem dX13_add_112 : decode cX13_add 112 = .ok (.isub, 1) := by decide +kernel
theorem dX13_add_113 : decode cX13_add 113 = .ok (.ireturn, 1) := by decide +kernel
theorem dX13_revise_0 : decode cX13_revise 0 = .ok (.aload_n 0, 1) := by decide +kernel
theorem dX13_revise_1 : decode cX13_revise 1 = .ok (.aload_n 0, 1) := by decide +kernel
theorem dX13_revise_2 : decode cX13_revise 2 = .ok (.iload_n 1, 1) := by decide +kernel
theorem dX13_revise_3 : decode cX13_revise 3 = .ok (.invokevirtual 161, 3) := by decide +kernel
theorem dX13_revise_6 : decode cX13_revise 6 = .ok (.iconst 1, 1) := by decide +kernel
theorem dX13_revise_7 : decode cX13_revise 7 = .ok (.invokevirtual 139, 3) := by decide +kernel
theorem dX13_revise_10 : decode cX13_revise 10 = .ok (.ifCond .eq 5, 3) := by decide +kernel
theorem dX13_revise_13 : decode cX13_revise 13 = .ok (.iconst 0, 1) := by decide +kernel
theorem dX13_revise_14 : decode cX13_revise 14 = .ok (.ireturn, 1) := by decide +kernel
theorem dX13_many_0 : decode cX13_many 0 = .ok (.iconst 0, 1) := by decide +kernel
theorem dX13_many_1 : decode cX13_many 1 = .ok (.istore_n 1, 1) := by decide +kernel
theorem dX13_many_2 : decode cX13_many 2 = .ok (.aload_n 0, 1) := by decide +kernel
theorem dX13_many_3 : decode cX13_many 3 = .ok (.getfield 9, 3) := by decide +kernel
theorem dX13_many_6 : decode cX13_many 6 = .ok (.astore_n 2, 1) := by decide +kernel
theorem dX13_many_7 : decode cX13_many 7 = .ok (.aload_n 2, 1) := by decide +kernel
theorem dX13_many_8 : decode cX13_many 8 = .ok (.arraylength, 1) := by decide +kernel
theorem dX13_many_9 : decode cX13_many 9 = .ok (.istore_n 3, 1) := by decide +kernel
theorem dX13_many_10 : decode cX13_many 10 = .ok (.iconst 0, 1) := by decide +kernel
theorem dX13_many_11 : decode cX13_many 11 = .ok (.istore 4, 2) := by decide +kernel
theorem dX13_many_13 : decode cX13_many 13 = .ok (.iload 4, 2) := by decide +kernel
theorem dX13_many_15 : decode cX13_many 15 = .ok (.iload_n 3, 1) := by decide +kernel
theorem dX13_many_16 : decode cX13_many 16 = .ok (.if_icmp .ge 28, 3) := by decide +kernel
theorem dX13_many_19 : decode cX13_many 19 = .ok (.aload_n 2, 1) := by decide +kernel
theorem dX13_many_20 : decode cX13_many 20 = .ok (.iload 4, 2) := by decide +kernel
theorem dX13_many_22 : decode cX13_many 22 = .ok (.baload, 1) := by decide +kernel
theorem dX13_many_23 : decode cX13_many 23 = .ok (.istore 5, 2) := by decide +kernel
theorem dX13_many_25 : decode cX13_many 25 = .ok (.iload_n 1, 1) := by decide +kernel
theorem dX13_many_26 : decode cX13_many 26 = .ok (.iload 5, 2) := by decide +kernel
theorem dX13_many_28 : decode cX13_many 28 = .ok (.ifCond .eq 7, 3) := by decide +kernel
theorem dX13_many_35 : decode cX13_many 35 = .ok (.iconst 0, 1) := by decide +kernel
theorem dX13_many_36 : decode cX13_many 36 = .ok (.iadd, 1) := by decide +kernel
theorem dX13_many_37 : decode cX13_many 37 = .ok (.istore_n 1, 1) := by decide +kernel
theorem dX13_many_38 : decode cX13_many 38 = .ok (.iinc 4 1, 3) := by decide +kernel
theorem dX13_many_41 : decode cX13_many 41 = .ok (.goto (-28), 3) := by decide +kernel
theorem dX13_many_44 : decode cX13_many 44 = .ok (.iload_n 1, 1) := by decide +kernel
theorem dX13_many_45 : decode cX13_many 45 = .ok (.ireturn, 1) := by decide +kernel
theorem dX13_drop_0 : decode cX13_drop 0 = .ok (.aload_n 0, 1) := by decide +kernel
theorem dX13_drop_1 : decode cX13_drop 1 = .ok (.aload_n 0, 1) := by decide +kernel
theorem dX13_drop_2 : decode cX13_drop 2 = .ok (.iload_n 1, 1) := by decide +kernel
theorem dX13_drop_3 : decode cX13_drop 3 = .ok (.invokevirtual 161, 3) := by decide +kernel
theorem dX13_drop_6 : decode cX13_drop 6 = .ok (.iconst 1, 1) := by decide +kernel
theorem dX13_drop_7 : decode cX13_drop 7 = .ok (.invokevirtual 139, 3) := by decide +kernel
theorem dX13_drop_10 : decode cX13_drop 10 = .ok (.ifCond .eq 5, 3) := by decide +kernel
theorem dX13_drop_13 : decode cX13_drop 13 = .ok (.iconst 0, 1) := by decide +kernel
theorem dX13_drop_14 : decode cX13_drop 14 = .ok (.ireturn, 1) := by decide +kernel
theorem dX13_texts_0 : decode cX13_texts 0 = .ok (.aload_n 0, 1) := by decide +kernel
theorem dX13_texts_1 : decode cX13_texts 1 = .ok (.iconst 0, 1) := by decide +kernel
theorem dX13_texts_2 : decode cX13_texts 2 = .ok (.putfield 82, 3) := by decide +kernel
theorem dX13_texts_5 : decode cX13_texts 5 = .ok (.aload_n 0, 1) := by decide +kernel
theorem dX13_texts_6 : decode cX13_texts 6 = .ok (.invokevirtual 167, 3) := by decide +kernel
theorem dX13_texts_9 : decode cX13_texts 9 = .ok (.ireturn, 1) := by decide +kernel
theorem dX13_isThere_0 : decode cX13_isThere 0 = .ok (.aload_n 0, 1) := by decide +kernel
theorem dX13_isThere_1 : decode cX13_isThere 1 = .ok (.iconst 0, 1) := by decide +kernel
theorem dX13_isThere_2 : decode cX13_isThere 2 = .ok (.putfield 82, 3) := by decide +kernel
theorem dX13_isThere_5 : decode cX13_isThere 5 = .ok (.aload_n 0, 1) := by decide +kernel
theorem dX13_isThere_6 : decode cX13_isThere 6 = .ok (.iload_n 1, 1) := by decide +kernel
theorem dX13_isThere_7 : decode cX13_isThere 7 = .ok (.invokevirtual 161, 3) := by decide +kernel
theorem dX13_isThere_10 : decode cX13_isThere 10 = .ok (.ireturn, 1) := by decide +kernel
theorem dX13_length_0 : decode cX13_length 0 = .ok (.aload_n 0, 1) := by decide +kernel
theorem dX13_length_1 : decode cX13_length 1 = .ok (.aload_n 0, 1) := by decide +kernel
theorem dX13_length_2 : decode cX13_length 2 = .ok (.iload_n 1, 1) := by decide +kernel
theorem dX13_length_3 : decode cX13_length 3 = .ok (.invokevirtual 161, 3) := by decide +kernel
theorem dX13_length_6 : decode cX13_length 6 = .ok (.iconst 1, 1) := by decide +kernel
theorem dX13_length_7 : decode cX13_length 7 = .ok (.invokevirtual 139, 3) := by decide +kernel
theorem dX13_length_10 : decode cX13_length 10 = .ok (.ifCond .eq 7, 3) := by decide +kernel
theorem dX13_length_13 : decode cX13_length 13 = .ok (.iconst 0, 1) := by decide +kernel
theorem dX13_length_14 : decode cX13_length 14 = .ok (.goto 8, 3) := by decide +kernel
theorem dX13_length_22 : decode cX13_length 22 = .ok (.ireturn, 1) := by decide +kernel
theorem dX13_tellWord_0 : decode cX13_tellWord 0 = .ok (.aload_n 0, 1) := by decide +kernel
theorem dX13_tellWord_1 : decode cX13_tellWord 1 = .ok (.aload_n 0, 1) := by decide +kernel
theorem dX13_tellWord_2 : decode cX13_tellWord 2 = .ok (.iload_n 1, 1) := by decide +kernel
theorem dX13_tellWord_3 : decode cX13_tellWord 3 = .ok (.invokevirtual 161, 3) := by decide +kernel
theorem dX13_tellWord_6 : decode cX13_tellWord 6 = .ok (.iconst 1, 1) := by decide +kernel
theorem dX13_tellWord_7 : decode cX13_tellWord 7 = .ok (.invokevirtual 139, 3) := by decide +kernel
theorem dX13_tellWord_10 : decode cX13_tellWord 10 = .ok (.ifCond .eq 5, 3) := by decide +kernel
theorem dX13_tellWord_13 : decode cX13_tellWord 13 = .ok (.iconst 0, 1) := by decide +kernel
theorem dX13_tellWord_14 : decode cX13_tellWord 14 = .ok (.ireturn, 1) := by decide +kernel
theorem dX13_value_0 : decode cX13_value 0 = .ok (.aload_n 0, 1) := by decide +kernel
theorem dX13_value_1 : decode cX13_value 1 = .ok (.aload_n 0, 1) := by decide +kernel
theorem dX13_value_2 : decode cX13_value 2 = .ok (.iload_n 1, 1) := by decide +kernel
theorem dX13_value_3 : decode cX13_value 3 = .ok (.invokevirtual 161, 3) := by decide +kernel
theorem dX13_value_6 : decode cX13_value 6 = .ok (.iconst 1, 1) := by decide +kernel
theorem dX13_value_7 : decode cX13_value 7 = .ok (.invokevirtual 139, 3) := by decide +kernel
theorem dX13_value_10 : decode cX13_value 10 = .ok (.ifCond .eq 7, 3) := by decide +kernel
theorem dX13_value_13 : decode cX13_value 13 = .ok (.iconst 0, 1) := by decide +kernel
theorem dX13_value_14 : decode cX13_value 14 = .ok (.goto 9, 3) := by decide +kernel
theorem dX13_value_23 : decode cX13_value 23 = .ok (.ireturn, 1) := by decide +kernel
theorem dX13_tag_0 : decode cX13_tag 0 = .ok (.aload_n 0, 1) := by decide +kernel
theorem dX13_tag_1 : decode cX13_tag 1 = .ok (.aload_n 0, 1) := by decide +kernel
theorem dX13_tag_2 : decode cX13_tag 2 = .ok (.iload_n 1, 1) := by decide +kernel
theorem dX13_tag_3 : decode cX13_tag 3 = .ok (.invokevirtual 161, 3) := by decide +kernel
theorem dX13_tag_6 : decode cX13_tag 6 = .ok (.iconst 1, 1) := by decide +kernel
theorem dX13_tag_7 : decode cX13_tag 7 = .ok (.invokevirtual 139, 3) := by decide +kernel
theorem dX13_tag_10 : decode cX13_tag 10 = .ok (.ifCond .eq 8, 3) := by decide +kernel
theorem dX13_tag_13 : decode cX13_tag 13 = .ok (.bipush 97, 2) := by decide +kernel
theorem dX13_tag_15 : decode cX13_tag 15 = .ok (.goto 9, 3) := by decide +kernel
theorem dX13_tag_24 : decode cX13_tag 24 = .ok (.ireturn, 1) := by decide +kernel
theorem dX13_words_0 : decode cX13_words 0 = .ok (.aload_n 0, 1) := by decide +kernel
theorem dX13_words_1 : decode cX13_words 1 = .ok (.iconst 0, 1) := by decide +kernel
theorem dX13_words_2 : decode cX13_words 2 = .ok (.putfield 82, 3) := by decide +kernel
theorem dX13_words_5 : decode cX13_words 5 = .ok (.aload_n 0, 1) := by decide +kernel
theorem dX13_words_6 : decode cX13_words 6 = .ok (.invokevirtual 174, 3) := by decide +kernel
theorem dX13_words_9 : decode cX13_words 9 = .ok (.arraylength, 1) := by decide +kernel
theorem dX13_words_10 : decode cX13_words 10 = .ok (.ireturn, 1) := by decide +kernel
theorem dX13_tellOf_0 : decode cX13_tellOf 0 = .ok (.aload_n 0, 1) := by decide +kernel
theorem dX13_tellOf_1 : decode cX13_tellOf 1 = .ok (.invokevirtual 174, 3) := by decide +kernel
theorem dX13_tellOf_4 : decode cX13_tellOf 4 = .ok (.astore_n 2, 1) := by decide +kernel
theorem dX13_tellOf_5 : decode cX13_tellOf 5 = .ok (.aload_n 0, 1) := by decide +kernel
theorem dX13_tellOf_6 : decode cX13_tellOf 6 = .ok (.iload_n 1, 1) := by decide +kernel
theorem dX13_tellOf_7 : decode cX13_tellOf 7 = .ok (.iconst 0, 1) := by decide +kernel
theorem dX13_tellOf_8 : decode cX13_tellOf 8 = .ok (.aload_n 2, 1) := by decide +kernel
theorem dX13_tellOf_9 : decode cX13_tellOf 9 = .ok (.arraylength, 1) := by decide +kernel
theorem dX13_tellOf_10 : decode cX13_tellOf 10 = .ok (.iconst 1, 1) := by decide +kernel
theorem dX13_tellOf_11 : decode cX13_tellOf 11 = .ok (.isub, 1) := by decide +kernel
theorem dX13_tellOf_12 : decode cX13_tellOf 12 = .ok (.invokestatic 88, 3) := by decide +kernel
theorem dX13_tellOf_15 : decode cX13_tellOf 15 = .ok (.iconst 1, 1) := by decide +kernel
theorem dX13_tellOf_16 : decode cX13_tellOf 16 = .ok (.invokevirtual 139, 3) := by decide +kernel
theorem dX13_tellOf_19 : decode cX13_tellOf 19 = .ok (.ifCond .eq 7, 3) := by decide +kernel
theorem dX13_tellOf_22 : decode cX13_tellOf 22 = .ok (.iconst 0, 1) := by decide +kernel
theorem dX13_tellOf_23 : decode cX13_tellOf 23 = .ok (.goto 10, 3) := by decide +kernel
theorem dX13_tellOf_33 : decode cX13_tellOf 33 = .ok (.ireturn, 1) := by decide +kernel
theorem dX13_having_0 : decode cX13_having 0 = .ok (.aload_n 0, 1) := by decide +kernel
theorem dX13_having_1 : decode cX13_having 1 = .ok (.aload_n 0, 1) := by decide +kernel
theorem dX13_having_2 : decode cX13_having 2 = .ok (.invokevirtual 178, 3) := by decide +kernel
theorem dX13_having_5 : decode cX13_having 5 = .ok (.iconst 1, 1) := by decide +kernel
theorem dX13_having_6 : decode cX13_having 6 = .ok (.invokevirtual 139, 3) := by decide +kernel
theorem dX13_having_9 : decode cX13_having 9 = .ok (.ifCond .eq 7, 3) := by decide +kernel
theorem dX13_having_12 : decode cX13_having 12 = .ok (.iconst 0, 1) := by decide +kernel
theorem dX13_having_13 : decode cX13_having 13 = .ok (.goto 14, 3) := by decide +kernel
theorem dX13_having_27 : decode cX13_having 27 = .ok (.ireturn, 1) := by decide +kernel
theorem dX13_beginning_0 : decode cX13_beginning 0 = .ok (.aload_n 0, 1) := by decide +kernel
theorem dX13_beginning_1 : decode cX13_beginning 1 = .ok (.aload_n 0, 1) := by decide +kernel
theorem dX13_beginning_2 : decode cX13_beginning 2 = .ok (.invokevirtual 178, 3) := by decide +kernel
theorem dX13_beginning_5 : decode cX13_beginning 5 = .ok (.iconst 1, 1) := by decide +kernel
theorem dX13_beginning_6 : decode cX13_beginning 6 = .ok (.invokevirtual 139, 3) := by decide +kernel
theorem dX13_beginning_9 : decode cX13_beginning 9 = .ok (.ifCond .eq 5, 3) := by decide +kernel
theorem dX13_beginning_12 : decode cX13_beginning 12 = .ok (.iconst 0, 1) := by decide +kernel
theorem dX13_beginning_13 : decode cX13_beginning 13 = .ok (.ireturn, 1) := by decide +kernel
theorem dX13_slips_0 : decode cX13_slips 0 = .ok (.aload_n 0, 1) := by decide +kernel
theorem dX13_slips_1 : decode cX13_slips 1 = .ok (.aload_n 0, 1) := by decide +kernel
theorem dX13_slips_2 : decode cX13_slips 2 = .ok (.invokevirtual 178, 3) := by decide +kernel
theorem dX13_slips_5 : decode cX13_slips 5 = .ok (.iconst 1, 1) := by decide +kernel
theorem dX13_slips_6 : decode cX13_slips 6 = .ok (.invokevirtual 139, 3) := by decide +kernel
theorem dX13_slips_9 : decode cX13_slips 9 = .ok (.ifCond .eq 5, 3) := by decide +kernel
theorem dX13_slips_12 : decode cX13_slips 12 = .ok (.iconst 0, 1) := by decide +kernel
theorem dX13_slips_13 : decode cX13_slips 13 = .ok (.ireturn, 1) := by decide +kernel
theorem dX13_suggest_0 : decode cX13_suggest 0 = .ok (.aload_n 0, 1) := by decide +kernel
theorem dX13_suggest_1 : decode cX13_suggest 1 = .ok (.aload_n 0, 1) := by decide +kernel
theorem dX13_suggest_2 : decode cX13_suggest 2 = .ok (.invokevirtual 178, 3) := by decide +kernel
theorem dX13_suggest_5 : decode cX13_suggest 5 = .ok (.iconst 1, 1) := by decide +kernel
theorem dX13_suggest_6 : decode cX13_suggest 6 = .ok (.invokevirtual 139, 3) := by decide +kernel
theorem dX13_suggest_9 : decode cX13_suggest 9 = .ok (.ifCond .eq 5, 3) := by decide +kernel
theorem dX13_suggest_12 : decode cX13_suggest 12 = .ok (.iconst 0, 1) := by decide +kernel
theorem dX13_suggest_13 : decode cX13_suggest 13 = .ok (.ireturn, 1) := by decide +kernel
theorem dX13_parts_0 : decode cX13_parts 0 = .ok (.aload_n 0, 1) := by decide +kernel
theorem dX13_parts_1 : decode cX13_parts 1 = .ok (.iconst 0, 1) := by decide +kernel
theorem dX13_parts_2 : decode cX13_parts 2 = .ok (.putfield 82, 3) := by decide +kernel
theorem dX13_parts_5 : decode cX13_parts 5 = .ok (.aload_n 0, 1) := by decide +kernel
theorem dX13_parts_6 : decode cX13_parts 6 = .ok (.getfield 33, 3) := by decide +kernel
theorem dX13_parts_9 : decode cX13_parts 9 = .ok (.ireturn, 1) := by decide +kernel
theorem dX13_sizeOf_0 : decode cX13_sizeOf 0 = .ok (.iconst 0, 1) := by decide +kernel
theorem dX13_sizeOf_1 : decode cX13_sizeOf 1 = .ok (.istore_n 2, 1) := by decide +kernel
theorem dX13_sizeOf_2 : decode cX13_sizeOf 2 = .ok (.iconst 0, 1) := by decide +kernel
theorem dX13_sizeOf_3 : decode cX13_sizeOf 3 = .ok (.istore_n 3, 1) := by decide +kernel
theorem dX13_sizeOf_4 : decode cX13_sizeOf 4 = .ok (.iload_n 3, 1) := by decide +kernel
theorem dX13_sizeOf_5 : decode cX13_sizeOf 5 = .ok (.aload_n 0, 1) := by decide +kernel
theorem dX13_sizeOf_6 : decode cX13_sizeOf 6 = .ok (.getfield 85, 3) := by decide +kernel
theorem dX13_sizeOf_9 : decode cX13_sizeOf 9 = .ok (.if_icmp .ge 36, 3) := by decide +kernel
theorem dX13_sizeOf_45 : decode cX13_sizeOf 45 = .ok (.iload_n 2, 1) := by decide +kernel
theorem dX13_sizeOf_46 : decode cX13_sizeOf 46 = .ok (.ireturn, 1) := by decide +kernel
theorem dX13_partSize_0 : decode cX13_partSize 0 = .ok (.aload_n 0, 1) := by decide +kernel
theorem dX13_partSize_1 : decode cX13_partSize 1 = .ok (.iload_n 1, 1) := by decide +kernel
theorem dX13_partSize_2 : decode cX13_partSize 2 = .ok (.iconst 0, 1) := by decide +kernel
theorem dX13_partSize_3 : decode cX13_partSize 3 = .ok (.aload_n 0, 1) := by decide +kernel
theorem dX13_partSize_4 : decode cX13_partSize 4 = .ok (.getfield 33, 3) := by decide +kernel
theorem dX13_partSize_7 : decode cX13_partSize 7 = .ok (.iconst 1, 1) := by decide +kernel
theorem dX13_partSize_8 : decode cX13_partSize 8 = .ok (.isub, 1) := by decide +kernel
theorem dX13_partSize_9 : decode cX13_partSize 9 = .ok (.invokestatic 88, 3) := by decide +kernel
theorem dX13_partSize_12 : decode cX13_partSize 12 = .ok (.iconst 1, 1) := by decide +kernel
theorem dX13_partSize_13 : decode cX13_partSize 13 = .ok (.invokevirtual 139, 3) := by decide +kernel
theorem dX13_partSize_16 : decode cX13_partSize 16 = .ok (.ifCond .eq 7, 3) := by decide +kernel
theorem dX13_partSize_19 : decode cX13_partSize 19 = .ok (.iconst 0, 1) := by decide +kernel
theorem dX13_partSize_20 : decode cX13_partSize 20 = .ok (.goto 8, 3) := by decide +kernel
theorem dX13_partSize_23 : decode cX13_partSize 23 = .ok (.aload_n 0, 1) := by decide +kernel
theorem dX13_partSize_24 : decode cX13_partSize 24 = .ok (.iload_n 1, 1) := by decide +kernel
theorem dX13_partSize_25 : decode cX13_partSize 25 = .ok (.invokevirtual 196, 3) := by decide +kernel
theorem dX13_partSize_28 : decode cX13_partSize 28 = .ok (.ireturn, 1) := by decide +kernel
theorem dX13_seal_0 : decode cX13_seal 0 = .ok (.aload_n 0, 1) := by decide +kernel
theorem dX13_seal_1 : decode cX13_seal 1 = .ok (.aload_n 0, 1) := by decide +kernel
theorem dX13_seal_2 : decode cX13_seal 2 = .ok (.aload_n 0, 1) := by decide +kernel
theorem dX13_seal_3 : decode cX13_seal 3 = .ok (.getfield 33, 3) := by decide +kernel
theorem dX13_seal_6 : decode cX13_seal 6 = .ok (.iconst 1, 1) := by decide +kernel
theorem dX13_seal_7 : decode cX13_seal 7 = .ok (.isub, 1) := by decide +kernel
theorem dX13_seal_8 : decode cX13_seal 8 = .ok (.invokevirtual 196, 3) := by decide +kernel
theorem dX13_seal_11 : decode cX13_seal 11 = .ok (.ifCond .le 7, 3) := by decide +kernel
theorem dX13_seal_18 : decode cX13_seal 18 = .ok (.iconst 0, 1) := by decide +kernel
theorem dX13_seal_19 : decode cX13_seal 19 = .ok (.iconst 1, 1) := by decide +kernel
theorem dX13_seal_20 : decode cX13_seal 20 = .ok (.invokevirtual 139, 3) := by decide +kernel
theorem dX13_seal_23 : decode cX13_seal 23 = .ok (.ifCond .ne 25, 3) := by decide +kernel
theorem dX13_seal_48 : decode cX13_seal 48 = .ok (.iconst 0, 1) := by decide +kernel
theorem dX13_seal_49 : decode cX13_seal 49 = .ok (.ireturn, 1) := by decide +kernel
theorem dX13_join_0 : decode cX13_join 0 = .ok (.aload_n 0, 1) := by decide +kernel
theorem dX13_join_1 : decode cX13_join 1 = .ok (.iload_n 1, 1) := by decide +kernel
theorem dX13_join_2 : decode cX13_join 2 = .ok (.iconst 0, 1) := by decide +kernel
theorem dX13_join_3 : decode cX13_join 3 = .ok (.aload_n 0, 1) := by decide +kernel
theorem dX13_join_4 : decode cX13_join 4 = .ok (.getfield 33, 3) := by decide +kernel
theorem dX13_join_7 : decode cX13_join 7 = .ok (.iconst 2, 1) := by decide +kernel
theorem dX13_join_8 : decode cX13_join 8 = .ok (.isub, 1) := by decide +kernel
theorem dX13_join_9 : decode cX13_join 9 = .ok (.invokestatic 88, 3) := by decide +kernel
theorem dX13_join_12 : decode cX13_join 12 = .ok (.iconst 1, 1) := by decide +kernel
theorem dX13_join_13 : decode cX13_join 13 = .ok (.invokevirtual 139, 3) := by decide +kernel
theorem dX13_join_16 : decode cX13_join 16 = .ok (.ifCond .eq 5, 3) := by decide +kernel
theorem dX13_join_19 : decode cX13_join 19 = .ok (.iconst 0, 1) := by decide +kernel
theorem dX13_join_20 : decode cX13_join 20 = .ok (.ireturn, 1) := by decide +kernel
theorem dX13_head__0 : decode cX13_head_ 0 = .ok (.iload_n 1, 1) := by decide +kernel
theorem dX13_head__1 : decode cX13_head_ 1 = .ok (.newarray .int, 2) := by decide +kernel
theorem dX13_head__3 : decode cX13_head_ 3 = .ok (.astore_n 2, 1) := by decide +kernel
theorem dX13_head__4 : decode cX13_head_ 4 = .ok (.iconst 0, 1) := by decide +kernel
theorem dX13_head__5 : decode cX13_head_ 5 = .ok (.istore_n 3, 1) := by decide +kernel
theorem dX13_head__6 : decode cX13_head_ 6 = .ok (.iload_n 3, 1) := by decide +kernel
theorem dX13_head__7 : decode cX13_head_ 7 = .ok (.iload_n 1, 1) := by decide +kernel
theorem dX13_head__8 : decode cX13_head_ 8 = .ok (.if_icmp .ge 15, 3) := by decide +kernel
theorem dX13_head__23 : decode cX13_head_ 23 = .ok (.aload_n 2, 1) := by decide +kernel
theorem dX13_head__24 : decode cX13_head_ 24 = .ok (.areturn, 1) := by decide +kernel
theorem dX13_packed_0 : decode cX13_packed 0 = .ok (.aload_n 0, 1) := by decide +kernel
theorem dX13_packed_1 : decode cX13_packed 1 = .ok (.iload_n 1, 1) := by decide +kernel
theorem dX13_packed_2 : decode cX13_packed 2 = .ok (.iconst 0, 1) := by decide +kernel
theorem dX13_packed_3 : decode cX13_packed 3 = .ok (.aload_n 0, 1) := by decide +kernel
theorem dX13_packed_4 : decode cX13_packed 4 = .ok (.getfield 33, 3) := by decide +kernel
theorem dX13_packed_7 : decode cX13_packed 7 = .ok (.iconst 1, 1) := by decide +kernel
theorem dX13_packed_8 : decode cX13_packed 8 = .ok (.isub, 1) := by decide +kernel
theorem dX13_packed_9 : decode cX13_packed 9 = .ok (.invokestatic 88, 3) := by decide +kernel
theorem dX13_packed_12 : decode cX13_packed 12 = .ok (.iconst 1, 1) := by decide +kernel
theorem dX13_packed_13 : decode cX13_packed 13 = .ok (.invokevirtual 139, 3) := by decide +kernel
theorem dX13_packed_16 : decode cX13_packed 16 = .ok (.ifCond .ne 15, 3) := by decide +kernel
theorem dX13_packed_19 : decode cX13_packed 19 = .ok (.aload_n 0, 1) := by decide +kernel
theorem dX13_packed_20 : decode cX13_packed 20 = .ok (.aload_n 0, 1) := by decide +kernel
theorem dX13_packed_21 : decode cX13_packed 21 = .ok (.invokevirtual 178, 3) := by decide +kernel
theorem dX13_packed_24 : decode cX13_packed 24 = .ok (.iconst 2, 1) := by decide +kernel
theorem dX13_packed_25 : decode cX13_packed 25 = .ok (.invokevirtual 139, 3) := by decide +kernel
theorem dX13_packed_28 : decode cX13_packed 28 = .ok (.ifCond .eq 5, 3) := by decide +kernel
theorem dX13_packed_31 : decode cX13_packed 31 = .ok (.iconst 0, 1) := by decide +kernel
theorem dX13_packed_32 : decode cX13_packed 32 = .ok (.ireturn, 1) := by decide +kernel
theorem dX13_byteAt_0 : decode cX13_byteAt 0 = .ok (.aload_n 0, 1) := by decide +kernel
theorem dX13_byteAt_1 : decode cX13_byteAt 1 = .ok (.iload_n 1, 1) := by decide +kernel
theorem dX13_byteAt_2 : decode cX13_byteAt 2 = .ok (.iconst 0, 1) := by decide +kernel
theorem dX13_byteAt_3 : decode cX13_byteAt 3 = .ok (.aload_n 0, 1) := by decide +kernel
theorem dX13_byteAt_4 : decode cX13_byteAt 4 = .ok (.getfield 40, 3) := by decide +kernel
theorem dX13_byteAt_7 : decode cX13_byteAt 7 = .ok (.arraylength, 1) := by decide +kernel
theorem dX13_byteAt_8 : decode cX13_byteAt 8 = .ok (.iconst 1, 1) := by decide +kernel
theorem dX13_byteAt_9 : decode cX13_byteAt 9 = .ok (.isub, 1) := by decide +kernel
theorem dX13_byteAt_10 : decode cX13_byteAt 10 = .ok (.invokestatic 88, 3) := by decide +kernel
theorem dX13_byteAt_13 : decode cX13_byteAt 13 = .ok (.iconst 1, 1) := by decide +kernel
theorem dX13_byteAt_14 : decode cX13_byteAt 14 = .ok (.invokevirtual 139, 3) := by decide +kernel
theorem dX13_byteAt_17 : decode cX13_byteAt 17 = .ok (.ifCond .eq 7, 3) := by decide +kernel
theorem dX13_byteAt_20 : decode cX13_byteAt 20 = .ok (.iconst 0, 1) := by decide +kernel
theorem dX13_byteAt_21 : decode cX13_byteAt 21 = .ok (.goto 9, 3) := by decide +kernel
theorem dX13_byteAt_30 : decode cX13_byteAt 30 = .ok (.ireturn, 1) := by decide +kernel
theorem dX13_is_0 : decode cX13_is 0 = .ok (.aload_n 0, 1) := by decide +kernel
theorem dX13_is_1 : decode cX13_is 1 = .ok (.getfield 210, 3) := by decide +kernel
theorem dX13_is_4 : decode cX13_is 4 = .ok (.aload_n 0, 1) := by decide +kernel
theorem dX13_is_5 : decode cX13_is 5 = .ok (.getfield 132, 3) := by decide +kernel
theorem dX13_is_8 : decode cX13_is 8 = .ok (.if_icmp .ge 20, 3) := by decide +kernel
theorem dX13_is_28 : decode cX13_is 28 = .ok (.iconst 0, 1) := by decide +kernel
theorem dX13_is_29 : decode cX13_is 29 = .ok (.ireturn, 1) := by decide +kernel
theorem dX13_rowOf_0 : decode cX13_rowOf 0 = .ok (.new 43, 3) := by decide +kernel
theorem dX13_rowOf_3 : decode cX13_rowOf 3 = .ok (.dup, 1) := by decide +kernel
theorem dX13_rowOf_4 : decode cX13_rowOf 4 = .ok (.iload_n 1, 1) := by decide +kernel
theorem dX13_rowOf_5 : decode cX13_rowOf 5 = .ok (.invokespecial 219, 3) := by decide +kernel
theorem dX13_rowOf_8 : decode cX13_rowOf 8 = .ok (.astore_n 2, 1) := by decide +kernel
theorem dX13_rowOf_9 : decode cX13_rowOf 9 = .ok (.aload_n 2, 1) := by decide +kernel
theorem dX13_rowOf_10 : decode cX13_rowOf 10 = .ok (.iload_n 1, 1) := by decide +kernel
theorem dX13_rowOf_11 : decode cX13_rowOf 11 = .ok (.bipush 124, 2) := by decide +kernel
theorem dX13_rowOf_13 : decode cX13_rowOf 13 = .ok (.if_icmp .ne 12, 3) := by decide +kernel
theorem dX13_rowOf_16 : decode cX13_rowOf 16 = .ok (.aload_n 0, 1) := by decide +kernel
theorem dX13_rowOf_17 : decode cX13_rowOf 17 = .ok (.bipush 38, 2) := by decide +kernel
theorem dX13_rowOf_19 : decode cX13_rowOf 19 = .ok (.invokevirtual 222, 3) := by decide +kernel
theorem dX13_rowOf_22 : decode cX13_rowOf 22 = .ok (.goto 7, 3) := by decide +kernel
theorem dX13_rowOf_25 : decode cX13_rowOf 25 = .ok (.aload_n 0, 1) := by decide +kernel
theorem dX13_rowOf_26 : decode cX13_rowOf 26 = .ok (.invokevirtual 226, 3) := by decide +kernel
theorem dX13_rowOf_29 : decode cX13_rowOf 29 = .ok (.invokevirtual 230, 3) := by decide +kernel
theorem dX13_rowOf_32 : decode cX13_rowOf 32 = .ok (.aload_n 0, 1) := by decide +kernel
theorem dX13_rowOf_33 : decode cX13_rowOf 33 = .ok (.getfield 216, 3) := by decide +kernel
theorem dX13_rowOf_36 : decode cX13_rowOf 36 = .ok (.ifCond .ge 47, 3) := by decide +kernel
theorem dX13_rowOf_83 : decode cX13_rowOf 83 = .ok (.aload_n 2, 1) := by decide +kernel
theorem dX13_rowOf_84 : decode cX13_rowOf 84 = .ok (.getfield 234, 3) := by decide +kernel
theorem dX13_rowOf_87 : decode cX13_rowOf 87 = .ok (.arraylength, 1) := by decide +kernel
theorem dX13_rowOf_88 : decode cX13_rowOf 88 = .ok (.iconst 1, 1) := by decide +kernel
theorem dX13_rowOf_89 : decode cX13_rowOf 89 = .ok (.if_icmp .ne 12, 3) := by decide +kernel
theorem dX13_rowOf_92 : decode cX13_rowOf 92 = .ok (.aload_n 2, 1) := by decide +kernel
theorem dX13_rowOf_93 : decode cX13_rowOf 93 = .ok (.getfield 234, 3) := by decide +kernel
theorem dX13_rowOf_96 : decode cX13_rowOf 96 = .ok (.iconst 0, 1) := by decide +kernel
theorem dX13_rowOf_97 : decode cX13_rowOf 97 = .ok (.aaload, 1) := by decide +kernel
theorem dX13_rowOf_98 : decode cX13_rowOf 98 = .ok (.goto 4, 3) := by decide +kernel
theorem dX13_rowOf_102 : decode cX13_rowOf 102 = .ok (.areturn, 1) := by decide +kernel
theorem dX13_term_0 : decode cX13_term 0 = .ok (.aload_n 0, 1) := by decide +kernel
theorem dX13_term_1 : decode cX13_term 1 = .ok (.bipush 33, 2) := by decide +kernel
theorem dX13_term_3 : decode cX13_term 3 = .ok (.invokevirtual 213, 3) := by decide +kernel
theorem dX13_term_6 : decode cX13_term 6 = .ok (.istore_n 1, 1) := by decide +kernel
theorem dX13_term_7 : decode cX13_term 7 = .ok (.aload_n 0, 1) := by decide +kernel
theorem dX13_term_8 : decode cX13_term 8 = .ok (.dup, 1) := by decide +kernel
theorem dX13_term_9 : decode cX13_term 9 = .ok (.getfield 210, 3) := by decide +kernel
theorem dX13_term_12 : decode cX13_term 12 = .ok (.iload_n 1, 1) := by decide +kernel
theorem dX13_term_13 : decode cX13_term 13 = .ok (.ifCond .eq 7, 3) := by decide +kernel
theorem dX13_term_20 : decode cX13_term 20 = .ok (.iconst 0, 1) := by decide +kernel
theorem dX13_term_21 : decode cX13_term 21 = .ok (.iadd, 1) := by decide +kernel
theorem dX13_term_22 : decode cX13_term 22 = .ok (.putfield 210, 3) := by decide +kernel
theorem dX13_term_25 : decode cX13_term 25 = .ok (.aload_n 0, 1) := by decide +kernel
theorem dX13_term_26 : decode cX13_term 26 = .ok (.bipush 40, 2) := by decide +kernel
theorem dX13_term_28 : decode cX13_term 28 = .ok (.invokevirtual 213, 3) := by decide +kernel
theorem dX13_term_31 : decode cX13_term 31 = .ok (.istore_n 2, 1) := by decide +kernel
theorem dX13_term_32 : decode cX13_term 32 = .ok (.iload_n 2, 1) := by decide +kernel
theorem dX13_term_33 : decode cX13_term 33 = .ok (.ifCond .eq 10, 3) := by decide +kernel
theorem dX13_term_43 : decode cX13_term 43 = .ok (.aload_n 0, 1) := by decide +kernel
theorem dX13_term_44 : decode cX13_term 44 = .ok (.invokevirtual 240, 3) := by decide +kernel
theorem dX13_term_47 : decode cX13_term 47 = .ok (.astore_n 3, 1) := by decide +kernel
theorem dX13_term_48 : decode cX13_term 48 = .ok (.iconst 1, 1) := by decide +kernel
theorem dX13_term_49 : decode cX13_term 49 = .ok (.istore 4, 2) := by decide +kernel
theorem dX13_term_51 : decode cX13_term 51 = .ok (.aload_n 0, 1) := by decide +kernel
theorem dX13_term_52 : decode cX13_term 52 = .ok (.getfield 216, 3) := by decide +kernel
theorem dX13_term_55 : decode cX13_term 55 = .ok (.ifCond .ge 87, 3) := by decide +kernel
theorem dX13_term_142 : decode cX13_term 142 = .ok (.iload_n 2, 1) := by decide +kernel
theorem dX13_term_143 : decode cX13_term 143 = .ok (.ifCond .eq 15, 3) := by decide +kernel
theorem dX13_term_158 : decode cX13_term 158 = .ok (.aload_n 3, 1) := by decide +kernel
theorem dX13_term_159 : decode cX13_term 159 = .ok (.astore 5, 2) := by decide +kernel
theorem dX13_term_161 : decode cX13_term 161 = .ok (.iload_n 2, 1) := by decide +kernel
theorem dX13_term_162 : decode cX13_term 162 = .ok (.ifCond .eq 20, 3) := by decide +kernel
theorem dX13_term_182 : decode cX13_term 182 = .ok (.aload 5, 2) := by decide +kernel
theorem dX13_term_184 : decode cX13_term 184 = .ok (.iload_n 1, 1) := by decide +kernel
theorem dX13_term_185 : decode cX13_term 185 = .ok (.putfield 243, 3) := by decide +kernel
theorem dX13_term_188 : decode cX13_term 188 = .ok (.aload 5, 2) := by decide +kernel
theorem dX13_term_190 : decode cX13_term 190 = .ok (.iload 4, 2) := by decide +kernel
theorem dX13_term_192 : decode cX13_term 192 = .ok (.putfield 247, 3) := by decide +kernel
theorem dX13_term_195 : decode cX13_term 195 = .ok (.aload 5, 2) := by decide +kernel
theorem dX13_term_197 : decode cX13_term 197 = .ok (.areturn, 1) := by decide +kernel
theorem dX13_wordAt_0 : decode cX13_wordAt 0 = .ok (.bipush 12, 2) := by decide +kernel
theorem dX13_wordAt_2 : decode cX13_wordAt 2 = .ok (.newarray .int, 2) := by decide +kernel
theorem dX13_wordAt_4 : decode cX13_wordAt 4 = .ok (.astore_n 1, 1) := by decide +kernel
theorem dX13_wordAt_5 : decode cX13_wordAt 5 = .ok (.iconst 0, 1) := by decide +kernel
theorem dX13_wordAt_6 : decode cX13_wordAt 6 = .ok (.istore_n 2, 1) := by decide +kernel
theorem dX13_wordAt_7 : decode cX13_wordAt 7 = .ok (.aload_n 0, 1) := by decide +kernel
theorem dX13_wordAt_8 : decode cX13_wordAt 8 = .ok (.getfield 210, 3) := by decide +kernel
theorem dX13_wordAt_11 : decode cX13_wordAt 11 = .ok (.aload_n 0, 1) := by decide +kernel
theorem dX13_wordAt_12 : decode cX13_wordAt 12 = .ok (.getfield 132, 3) := by decide +kernel
theorem dX13_wordAt_15 : decode cX13_wordAt 15 = .ok (.if_icmp .ge 52, 3) := by decide +kernel
theorem dX13_wordAt_67 : decode cX13_wordAt 67 = .ok (.aload_n 0, 1) := by decide +kernel
theorem dX13_wordAt_68 : decode cX13_wordAt 68 = .ok (.getfield 216, 3) := by decide +kernel
theorem dX13_wordAt_71 : decode cX13_wordAt 71 = .ok (.ifCond .ge 41, 3) := by decide +kernel
theorem dX13_wordAt_74 : decode cX13_wordAt 74 = .ok (.iload_n 2, 1) := by decide +kernel
theorem dX13_wordAt_75 : decode cX13_wordAt 75 = .ok (.ifCond .eq 29, 3) := by decide +kernel
theorem dX13_wordAt_104 : decode cX13_wordAt 104 = .ok (.aload_n 0, 1) := by decide +kernel
theorem dX13_wordAt_105 : decode cX13_wordAt 105 = .ok (.aload_n 0, 1) := by decide +kernel
theorem dX13_wordAt_106 : decode cX13_wordAt 106 = .ok (.getfield 210, 3) := by decide +kernel
theorem dX13_wordAt_109 : decode cX13_wordAt 109 = .ok (.putfield 216, 3) := by decide +kernel
theorem dX13_wordAt_112 : decode cX13_wordAt 112 = .ok (.aload_n 1, 1) := by decide +kernel
theorem dX13_wordAt_113 : decode cX13_wordAt 113 = .ok (.iload_n 2, 1) := by decide +kernel
theorem dX13_wordAt_114 : decode cX13_wordAt 114 = .ok (.invokestatic 116, 3) := by decide +kernel
theorem dX13_wordAt_117 : decode cX13_wordAt 117 = .ok (.lreturn, 1) := by decide +kernel
theorem dX13_unit_0 : decode cX13_unit 0 = .ok (.aload_n 0, 1) := by decide +kernel
theorem dX13_unit_1 : decode cX13_unit 1 = .ok (.bipush 60, 2) := by decide +kernel
theorem dX13_unit_3 : decode cX13_unit 3 = .ok (.invokevirtual 213, 3) := by decide +kernel
theorem dX13_unit_6 : decode cX13_unit 6 = .ok (.ifCond .eq 8, 3) := by decide +kernel
theorem dX13_unit_14 : decode cX13_unit 14 = .ok (.aload_n 0, 1) := by decide +kernel
theorem dX13_unit_15 : decode cX13_unit 15 = .ok (.bipush 62, 2) := by decide +kernel
theorem dX13_unit_17 : decode cX13_unit 17 = .ok (.invokevirtual 213, 3) := by decide +kernel
theorem dX13_unit_20 : decode cX13_unit 20 = .ok (.ifCond .eq 8, 3) := by decide +kernel
theorem dX13_unit_28 : decode cX13_unit 28 = .ok (.bipush 97, 2) := by decide +kernel
theorem dX13_unit_30 : decode cX13_unit 30 = .ok (.istore_n 1, 1) := by decide +kernel
theorem dX13_unit_31 : decode cX13_unit 31 = .ok (.aload_n 0, 1) := by decide +kernel
theorem dX13_unit_32 : decode cX13_unit 32 = .ok (.dup, 1) := by decide +kernel
theorem dX13_unit_33 : decode cX13_unit 33 = .ok (.getfield 210, 3) := by decide +kernel
theorem dX13_unit_36 : decode cX13_unit 36 = .ok (.iload_n 1, 1) := by decide +kernel
theorem dX13_unit_37 : decode cX13_unit 37 = .ok (.bipush 97, 2) := by decide +kernel
theorem dX13_unit_39 : decode cX13_unit 39 = .ok (.if_icmp .ne 7, 3) := by decide +kernel
theorem dX13_unit_42 : decode cX13_unit 42 = .ok (.iconst 0, 1) := by decide +kernel
theorem dX13_unit_43 : decode cX13_unit 43 = .ok (.goto 4, 3) := by decide +kernel
theorem dX13_unit_47 : decode cX13_unit 47 = .ok (.iadd, 1) := by decide +kernel
theorem dX13_unit_48 : decode cX13_unit 48 = .ok (.putfield 210, 3) := by decide +kernel
theorem dX13_unit_51 : decode cX13_unit 51 = .ok (.aload_n 0, 1) := by decide +kernel
theorem dX13_unit_52 : decode cX13_unit 52 = .ok (.bipush 34, 2) := by decide +kernel
theorem dX13_unit_54 : decode cX13_unit 54 = .ok (.invokevirtual 213, 3) := by decide +kernel
theorem dX13_unit_57 : decode cX13_unit 57 = .ok (.ifCond .eq 99, 3) := by decide +kernel
theorem dX13_unit_156 : decode cX13_unit 156 = .ok (.aload_n 0, 1) := by decide +kernel
theorem dX13_unit_157 : decode cX13_unit 157 = .ok (.bipush 123, 2) := by decide +kernel
theorem dX13_unit_159 : decode cX13_unit 159 = .ok (.invokevirtual 213, 3) := by decide +kernel
theorem dX13_unit_162 : decode cX13_unit 162 = .ok (.ifCond .eq 172, 3) := by decide +kernel
theorem dX13_unit_334 : decode cX13_unit 334 = .ok (.aload_n 0, 1) := by decide +kernel
theorem dX13_unit_335 : decode cX13_unit 335 = .ok (.bipush 91, 2) := by decide +kernel
theorem dX13_unit_337 : decode cX13_unit 337 = .ok (.invokevirtual 213, 3) := by decide +kernel
theorem dX13_unit_340 : decode cX13_unit 340 = .ok (.ifCond .eq 103, 3) := by decide +kernel
theorem dX13_unit_443 : decode cX13_unit 443 = .ok (.aload_n 0, 1) := by decide +kernel
theorem dX13_unit_444 : decode cX13_unit 444 = .ok (.invokevirtual 253, 3) := by decide +kernel
theorem dX13_unit_447 : decode cX13_unit 447 = .ok (.lstore_n 3, 1) := by decide +kernel
theorem dX13_unit_448 : decode cX13_unit 448 = .ok (.aload_n 0, 1) := by decide +kernel
theorem dX13_unit_449 : decode cX13_unit 449 = .ok (.getfield 216, 3) := by decide +kernel
theorem dX13_unit_452 : decode cX13_unit 452 = .ok (.ifCond .lt 8, 3) := by decide +kernel
theorem dX13_unit_455 : decode cX13_unit 455 = .ok (.bipush 119, 2) := by decide +kernel
theorem dX13_unit_457 : decode cX13_unit 457 = .ok (.goto 33, 3) := by decide +kernel
theorem dX13_unit_490 : decode cX13_unit 490 = .ok (.istore 5, 2) := by decide +kernel
theorem dX13_unit_492 : decode cX13_unit 492 = .ok (.aload_n 0, 1) := by decide +kernel
theorem dX13_unit_493 : decode cX13_unit 493 = .ok (.dup, 1) := by decide +kernel
theorem dX13_unit_494 : decode cX13_unit 494 = .ok (.getfield 210, 3) := by decide +kernel
theorem dX13_unit_497 : decode cX13_unit 497 = .ok (.iload 5, 2) := by decide +kernel
theorem dX13_unit_499 : decode cX13_unit 499 = .ok (.bipush 119, 2) := by decide +kernel
theorem dX13_unit_501 : decode cX13_unit 501 = .ok (.if_icmp .ne 7, 3) := by decide +kernel
theorem dX13_unit_504 : decode cX13_unit 504 = .ok (.iconst 0, 1) := by decide +kernel
theorem dX13_unit_505 : decode cX13_unit 505 = .ok (.goto 4, 3) := by decide +kernel
theorem dX13_unit_509 : decode cX13_unit 509 = .ok (.iadd, 1) := by decide +kernel
theorem dX13_unit_510 : decode cX13_unit 510 = .ok (.putfield 210, 3) := by decide +kernel
theorem dX13_unit_513 : decode cX13_unit 513 = .ok (.new 43, 3) := by decide +kernel
theorem dX13_unit_516 : decode cX13_unit 516 = .ok (.dup, 1) := by decide +kernel
theorem dX13_unit_517 : decode cX13_unit 517 = .ok (.iload 5, 2) := by decide +kernel
theorem dX13_unit_519 : decode cX13_unit 519 = .ok (.invokespecial 219, 3) := by decide +kernel
theorem dX13_unit_522 : decode cX13_unit 522 = .ok (.astore_n 2, 1) := by decide +kernel
theorem dX13_unit_523 : decode cX13_unit 523 = .ok (.aload_n 2, 1) := by decide +kernel
theorem dX13_unit_524 : decode cX13_unit 524 = .ok (.iload 5, 2) := by decide +kernel
theorem dX13_unit_526 : decode cX13_unit 526 = .ok (.bipush 119, 2) := by decide +kernel
theorem dX13_unit_528 : decode cX13_unit 528 = .ok (.if_icmp .ne 17, 3) := by decide +kernel
theorem dX13_unit_531 : decode cX13_unit 531 = .ok (.aload_n 0, 1) := by decide +kernel
theorem dX13_unit_532 : decode cX13_unit 532 = .ok (.getfield 216, 3) := by decide +kernel
theorem dX13_unit_535 : decode cX13_unit 535 = .ok (.ifCond .ge 10, 3) := by decide +kernel
theorem dX13_unit_545 : decode cX13_unit 545 = .ok (.lload_n 3, 1) := by decide +kernel
theorem dX13_unit_546 : decode cX13_unit 546 = .ok (.invokevirtual 256, 3) := by decide +kernel
theorem dX13_unit_549 : decode cX13_unit 549 = .ok (.aload_n 2, 1) := by decide +kernel
theorem dX13_unit_550 : decode cX13_unit 550 = .ok (.iload_n 1, 1) := by decide +kernel
theorem dX13_unit_551 : decode cX13_unit 551 = .ok (.putfield 271, 3) := by decide +kernel
theorem dX13_unit_554 : decode cX13_unit 554 = .ok (.aload_n 2, 1) := by decide +kernel
theorem dX13_unit_555 : decode cX13_unit 555 = .ok (.areturn, 1) := by decide +kernel
theorem dX13_ask_0 : decode cX13_ask 0 = .ok (.aload_n 0, 1) := by decide +kernel
theorem dX13_ask_1 : decode cX13_ask 1 = .ok (.iconst 0, 1) := by decide +kernel
theorem dX13_ask_2 : decode cX13_ask 2 = .ok (.putfield 82, 3) := by decide +kernel
theorem dX13_ask_5 : decode cX13_ask 5 = .ok (.aload_n 0, 1) := by decide +kernel
theorem dX13_ask_6 : decode cX13_ask 6 = .ok (.iconst 0, 1) := by decide +kernel
theorem dX13_ask_7 : decode cX13_ask 7 = .ok (.putfield 210, 3) := by decide +kernel
theorem dX13_ask_10 : decode cX13_ask 10 = .ok (.aload_n 0, 1) := by decide +kernel
theorem dX13_ask_11 : decode cX13_ask 11 = .ok (.iconst (-1), 1) := by decide +kernel
theorem dX13_ask_12 : decode cX13_ask 12 = .ok (.putfield 216, 3) := by decide +kernel
theorem dX13_ask_15 : decode cX13_ask 15 = .ok (.aload_n 0, 1) := by decide +kernel
theorem dX13_ask_16 : decode cX13_ask 16 = .ok (.bipush 124, 2) := by decide +kernel
theorem dX13_ask_18 : decode cX13_ask 18 = .ok (.invokevirtual 222, 3) := by decide +kernel
theorem dX13_ask_21 : decode cX13_ask 21 = .ok (.astore_n 1, 1) := by decide +kernel
theorem dX13_ask_22 : decode cX13_ask 22 = .ok (.aload_n 0, 1) := by decide +kernel
theorem dX13_ask_23 : decode cX13_ask 23 = .ok (.getfield 216, 3) := by decide +kernel
theorem dX13_ask_26 : decode cX13_ask 26 = .ok (.ifCond .ge 22, 3) := by decide +kernel
theorem dX13_ask_48 : decode cX13_ask 48 = .ok (.aload_n 0, 1) := by decide +kernel
theorem dX13_ask_49 : decode cX13_ask 49 = .ok (.iconst 0, 1) := by decide +kernel
theorem dX13_ask_50 : decode cX13_ask 50 = .ok (.putfield 132, 3) := by decide +kernel
theorem dX13_ask_53 : decode cX13_ask 53 = .ok (.aload_n 0, 1) := by decide +kernel
theorem dX13_ask_54 : decode cX13_ask 54 = .ok (.getfield 216, 3) := by decide +kernel
theorem dX13_ask_57 : decode cX13_ask 57 = .ok (.ifCond .lt 10, 3) := by decide +kernel
theorem dX13_ask_60 : decode cX13_ask 60 = .ok (.iconst (-1), 1) := by decide +kernel
theorem dX13_ask_61 : decode cX13_ask 61 = .ok (.aload_n 0, 1) := by decide +kernel
theorem dX13_ask_62 : decode cX13_ask 62 = .ok (.getfield 216, 3) := by decide +kernel
theorem dX13_ask_65 : decode cX13_ask 65 = .ok (.isub, 1) := by decide +kernel
theorem dX13_ask_66 : decode cX13_ask 66 = .ok (.ireturn, 1) := by decide +kernel
theorem dX13_tellQuestion_0 : decode cX13_tellQuestion 0 = .ok (.aload_n 0, 1) := by decide +kernel
theorem dX13_tellQuestion_1 : decode cX13_tellQuestion 1 = .ok (.aload_n 0, 1) := by decide +kernel
theorem dX13_tellQuestion_2 : decode cX13_tellQuestion 2 = .ok (.getfield 275, 3) := by decide +kernel
theorem dX13_tellQuestion_5 : decode cX13_tellQuestion 5 = .ok (.ifnull 7, 3) := by decide +kernel
theorem dX13_tellQuestion_12 : decode cX13_tellQuestion 12 = .ok (.iconst 0, 1) := by decide +kernel
theorem dX13_tellQuestion_13 : decode cX13_tellQuestion 13 = .ok (.iconst 1, 1) := by decide +kernel
theorem dX13_tellQuestion_14 : decode cX13_tellQuestion 14 = .ok (.invokevirtual 139, 3) := by decide +kernel
theorem dX13_tellQuestion_17 : decode cX13_tellQuestion 17 = .ok (.ifCond .eq 5, 3) := by decide +kernel
theorem dX13_tellQuestion_20 : decode cX13_tellQuestion 20 = .ok (.iconst 0, 1) := by decide +kernel
theorem dX13_tellQuestion_21 : decode cX13_tellQuestion 21 = .ok (.ireturn, 1) := by decide +kernel
theorem dX13_simplify_0 : decode cX13_simplify 0 = .ok (.aload_n 0, 1) := by decide +kernel
theorem dX13_simplify_1 : decode cX13_simplify 1 = .ok (.aload_n 0, 1) := by decide +kernel
theorem dX13_simplify_2 : decode cX13_simplify 2 = .ok (.getfield 275, 3) := by decide +kernel
theorem dX13_simplify_5 : decode cX13_simplify 5 = .ok (.ifnull 7, 3) := by decide +kernel
theorem dX13_simplify_12 : decode cX13_simplify 12 = .ok (.iconst 0, 1) := by decide +kernel
theorem dX13_simplify_13 : decode cX13_simplify 13 = .ok (.iconst 1, 1) := by decide +kernel
theorem dX13_simplify_14 : decode cX13_simplify 14 = .ok (.invokevirtual 139, 3) := by decide +kernel
theorem dX13_simplify_17 : decode cX13_simplify 17 = .ok (.ifCond .eq 5, 3) := by decide +kernel
theorem dX13_simplify_20 : decode cX13_simplify 20 = .ok (.iconst 0, 1) := by decide +kernel
theorem dX13_simplify_21 : decode cX13_simplify 21 = .ok (.ireturn, 1) := by decide +kernel
theorem dX13_fits_0 : decode cX13_fits 0 = .ok (.aload_n 0, 1) := by decide +kernel
theorem dX13_fits_1 : decode cX13_fits 1 = .ok (.aload_n 0, 1) := by decide +kernel
theorem dX13_fits_2 : decode cX13_fits 2 = .ok (.getfield 275, 3) := by decide +kernel
theorem dX13_fits_5 : decode cX13_fits 5 = .ok (.ifnull 7, 3) := by decide +kernel
theorem dX13_fits_12 : decode cX13_fits 12 = .ok (.iconst 0, 1) := by decide +kernel
theorem dX13_fits_13 : decode cX13_fits 13 = .ok (.iconst 1, 1) := by decide +kernel
theorem dX13_fits_14 : decode cX13_fits 14 = .ok (.invokevirtual 139, 3) := by decide +kernel
theorem dX13_fits_17 : decode cX13_fits 17 = .ok (.ifCond .ne 32, 3) := by decide +kernel
theorem dX13_fits_49 : decode cX13_fits 49 = .ok (.iconst 0, 1) := by decide +kernel
theorem dX13_fits_50 : decode cX13_fits 50 = .ok (.ireturn, 1) := by decide +kernel
theorem dX13_hits_0 : decode cX13_hits 0 = .ok (.aload_n 0, 1) := by decide +kernel
theorem dX13_hits_1 : decode cX13_hits 1 = .ok (.aload_n 0, 1) := by decide +kernel
theorem dX13_hits_2 : decode cX13_hits 2 = .ok (.getfield 275, 3) := by decide +kernel
theorem dX13_hits_5 : decode cX13_hits 5 = .ok (.ifnull 7, 3) := by decide +kernel
theorem dX13_hits_12 : decode cX13_hits 12 = .ok (.iconst 0, 1) := by decide +kernel
theorem dX13_hits_13 : decode cX13_hits 13 = .ok (.iconst 1, 1) := by decide +kernel
theorem dX13_hits_14 : decode cX13_hits 14 = .ok (.invokevirtual 139, 3) := by decide +kernel
theorem dX13_hits_17 : decode cX13_hits 17 = .ok (.ifCond .eq 7, 3) := by decide +kernel
theorem dX13_hits_20 : decode cX13_hits 20 = .ok (.iconst 0, 1) := by decide +kernel
theorem dX13_hits_21 : decode cX13_hits 21 = .ok (.goto 7, 3) := by decide +kernel
theorem dX13_hits_28 : decode cX13_hits 28 = .ok (.ireturn, 1) := by decide +kernel
theorem dX13_hitAt_0 : decode cX13_hitAt 0 = .ok (.aload_n 0, 1) := by decide +kernel
theorem dX13_hitAt_1 : decode cX13_hitAt 1 = .ok (.aload_n 0, 1) := by decide +kernel
theorem dX13_hitAt_2 : decode cX13_hitAt 2 = .ok (.getfield 275, 3) := by decide +kernel
theorem dX13_hitAt_5 : decode cX13_hitAt 5 = .ok (.ifnull 7, 3) := by decide +kernel
theorem dX13_hitAt_12 : decode cX13_hitAt 12 = .ok (.iconst 0, 1) := by decide +kernel
theorem dX13_hitAt_13 : decode cX13_hitAt 13 = .ok (.iconst 1, 1) := by decide +kernel
theorem dX13_hitAt_14 : decode cX13_hitAt 14 = .ok (.invokevirtual 139, 3) := by decide +kernel
theorem dX13_hitAt_17 : decode cX13_hitAt 17 = .ok (.ifCond .eq 5, 3) := by decide +kernel
theorem dX13_hitAt_20 : decode cX13_hitAt 20 = .ok (.iconst 0, 1) := by decide +kernel
theorem dX13_hitAt_21 : decode cX13_hitAt 21 = .ok (.ireturn, 1) := by decide +kernel
theorem dX13_top_0 : decode cX13_top 0 = .ok (.aload_n 0, 1) := by decide +kernel
theorem dX13_top_1 : decode cX13_top 1 = .ok (.aload_n 0, 1) := by decide +kernel
theorem dX13_top_2 : decode cX13_top 2 = .ok (.getfield 275, 3) := by decide +kernel
theorem dX13_top_5 : decode cX13_top 5 = .ok (.ifnull 7, 3) := by decide +kernel
theorem dX13_top_12 : decode cX13_top 12 = .ok (.iconst 0, 1) := by decide +kernel
theorem dX13_top_13 : decode cX13_top 13 = .ok (.iconst 1, 1) := by decide +kernel
theorem dX13_top_14 : decode cX13_top 14 = .ok (.invokevirtual 139, 3) := by decide +kernel
theorem dX13_top_17 : decode cX13_top 17 = .ok (.ifCond .ne 18, 3) := by decide +kernel
theorem dX13_top_35 : decode cX13_top 35 = .ok (.iconst 0, 1) := by decide +kernel
theorem dX13_top_36 : decode cX13_top 36 = .ok (.ireturn, 1) := by decide +kernel
theorem dX13_tellWorth_0 : decode cX13_tellWorth 0 = .ok (.aload_n 0, 1) := by decide +kernel
theorem dX13_tellWorth_1 : decode cX13_tellWorth 1 = .ok (.aload_n 0, 1) := by decide +kernel
theorem dX13_tellWorth_2 : decode cX13_tellWorth 2 = .ok (.getfield 275, 3) := by decide +kernel
theorem dX13_tellWorth_5 : decode cX13_tellWorth 5 = .ok (.ifnull 7, 3) := by decide +kernel
theorem dX13_tellWorth_12 : decode cX13_tellWorth 12 = .ok (.iconst 0, 1) := by decide +kernel
theorem dX13_tellWorth_13 : decode cX13_tellWorth 13 = .ok (.iconst 1, 1) := by decide +kernel
theorem dX13_tellWorth_14 : decode cX13_tellWorth 14 = .ok (.invokevirtual 139, 3) := by decide +kernel
theorem dX13_tellWorth_17 : decode cX13_tellWorth 17 = .ok (.ifCond .ne 16, 3) := by decide +kernel
theorem dX13_tellWorth_33 : decode cX13_tellWorth 33 = .ok (.iconst 0, 1) := by decide +kernel
theorem dX13_tellWorth_34 : decode cX13_tellWorth 34 = .ok (.ireturn, 1) := by decide +kernel
theorem dX13_tagged_0 : decode cX13_tagged 0 = .ok (.aload_n 0, 1) := by decide +kernel
theorem dX13_tagged_1 : decode cX13_tagged 1 = .ok (.aload_n 0, 1) := by decide +kernel
theorem dX13_tagged_2 : decode cX13_tagged 2 = .ok (.getfield 275, 3) := by decide +kernel
theorem dX13_tagged_5 : decode cX13_tagged 5 = .ok (.ifnull 7, 3) := by decide +kernel
theorem dX13_tagged_12 : decode cX13_tagged 12 = .ok (.iconst 0, 1) := by decide +kernel
theorem dX13_tagged_13 : decode cX13_tagged 13 = .ok (.iconst 1, 1) := by decide +kernel
theorem dX13_tagged_14 : decode cX13_tagged 14 = .ok (.invokevirtual 139, 3) := by decide +kernel
theorem dX13_tagged_17 : decode cX13_tagged 17 = .ok (.ifCond .ne 19, 3) := by decide +kernel
theorem dX13_tagged_36 : decode cX13_tagged 36 = .ok (.iconst 0, 1) := by decide +kernel
theorem dX13_tagged_37 : decode cX13_tagged 37 = .ok (.ireturn, 1) := by decide +kernel
theorem dX13_valued_0 : decode cX13_valued 0 = .ok (.aload_n 0, 1) := by decide +kernel
theorem dX13_valued_1 : decode cX13_valued 1 = .ok (.aload_n 0, 1) := by decide +kernel
theorem dX13_valued_2 : decode cX13_valued 2 = .ok (.getfield 275, 3) := by decide +kernel
theorem dX13_valued_5 : decode cX13_valued 5 = .ok (.ifnull 7, 3) := by decide +kernel
theorem dX13_valued_12 : decode cX13_valued 12 = .ok (.iconst 0, 1) := by decide +kernel
theorem dX13_valued_13 : decode cX13_valued 13 = .ok (.iconst 1, 1) := by decide +kernel
theorem dX13_valued_14 : decode cX13_valued 14 = .ok (.invokevirtual 139, 3) := by decide +kernel
theorem dX13_valued_17 : decode cX13_valued 17 = .ok (.ifCond .eq 5, 3) := by decide +kernel
theorem dX13_valued_20 : decode cX13_valued 20 = .ok (.iconst 0, 1) := by decide +kernel
theorem dX13_valued_21 : decode cX13_valued 21 = .ok (.ireturn, 1) := by decide +kernel
theorem dX13_lacksSpan_0 : decode cX13_lacksSpan 0 = .ok (.aload_n 0, 1) := by decide +kernel
theorem dX13_lacksSpan_1 : decode cX13_lacksSpan 1 = .ok (.aload_n 0, 1) := by decide +kernel
theorem dX13_lacksSpan_2 : decode cX13_lacksSpan 2 = .ok (.getfield 275, 3) := by decide +kernel
theorem dX13_lacksSpan_5 : decode cX13_lacksSpan 5 = .ok (.ifnull 7, 3) := by decide +kernel
theorem dX13_lacksSpan_12 : decode cX13_lacksSpan 12 = .ok (.iconst 0, 1) := by decide +kernel
theorem dX13_lacksSpan_13 : decode cX13_lacksSpan 13 = .ok (.iconst 1, 1) := by decide +kernel
theorem dX13_lacksSpan_14 : decode cX13_lacksSpan 14 = .ok (.invokevirtual 139, 3) := by decide +kernel
theorem dX13_lacksSpan_17 : decode cX13_lacksSpan 17 = .ok (.ifCond .ne 57, 3) := by decide +kernel
theorem dX13_lacksSpan_74 : decode cX13_lacksSpan 74 = .ok (.iconst 1, 1) := by decide +kernel
theorem dX13_lacksSpan_75 : decode cX13_lacksSpan 75 = .ok (.goto 4, 3) := by decide +kernel
theorem dX13_lacksSpan_79 : decode cX13_lacksSpan 79 = .ok (.ireturn, 1) := by decide +kernel
theorem dX13_spanBegin_0 : decode cX13_spanBegin 0 = .ok (.aload_n 0, 1) := by decide +kernel
theorem dX13_spanBegin_1 : decode cX13_spanBegin 1 = .ok (.iload_n 1, 1) := by decide +kernel
theorem dX13_spanBegin_2 : decode cX13_spanBegin 2 = .ok (.invokevirtual 415, 3) := by decide +kernel
theorem dX13_spanBegin_5 : decode cX13_spanBegin 5 = .ok (.ifCond .eq 7, 3) := by decide +kernel
theorem dX13_spanBegin_8 : decode cX13_spanBegin 8 = .ok (.iconst 0, 1) := by decide +kernel
theorem dX13_spanBegin_9 : decode cX13_spanBegin 9 = .ok (.goto 10, 3) := by decide +kernel
theorem dX13_spanBegin_19 : decode cX13_spanBegin 19 = .ok (.ireturn, 1) := by decide +kernel
theorem dX13_spanLength_0 : decode cX13_spanLength 0 = .ok (.aload_n 0, 1) := by decide +kernel
theorem dX13_spanLength_1 : decode cX13_spanLength 1 = .ok (.iload_n 1, 1) := by decide +kernel
theorem dX13_spanLength_2 : decode cX13_spanLength 2 = .ok (.invokevirtual 415, 3) := by decide +kernel
theorem dX13_spanLength_5 : decode cX13_spanLength 5 = .ok (.ifCond .eq 7, 3) := by decide +kernel
theorem dX13_spanLength_8 : decode cX13_spanLength 8 = .ok (.iconst 0, 1) := by decide +kernel
theorem dX13_spanLength_9 : decode cX13_spanLength 9 = .ok (.goto 10, 3) := by decide +kernel
theorem dX13_spanLength_19 : decode cX13_spanLength 19 = .ok (.ireturn, 1) := by decide +kernel
theorem dX13_save_0 : decode cX13_save 0 = .ok (.aload_n 0, 1) := by decide +kernel
theorem dX13_save_1 : decode cX13_save 1 = .ok (.aload_n 0, 1) := by decide +kernel
theorem dX13_save_2 : decode cX13_save 2 = .ok (.getfield 275, 3) := by decide +kernel
theorem dX13_save_5 : decode cX13_save 5 = .ok (.ifnull 7, 3) := by decide +kernel
theorem dX13_save_12 : decode cX13_save 12 = .ok (.iconst 0, 1) := by decide +kernel
theorem dX13_save_13 : decode cX13_save 13 = .ok (.iconst 1, 1) := by decide +kernel
theorem dX13_save_14 : decode cX13_save 14 = .ok (.invokevirtual 139, 3) := by decide +kernel
theorem dX13_save_17 : decode cX13_save 17 = .ok (.ifCond .ne 17, 3) := by decide +kernel
theorem dX13_save_34 : decode cX13_save 34 = .ok (.iconst 0, 1) := by decide +kernel
theorem dX13_save_35 : decode cX13_save 35 = .ok (.ireturn, 1) := by decide +kernel
theorem dX13_news_0 : decode cX13_news 0 = .ok (.aload_n 0, 1) := by decide +kernel
theorem dX13_news_1 : decode cX13_news 1 = .ok (.aload_n 0, 1) := by decide +kernel
theorem dX13_news_2 : decode cX13_news 2 = .ok (.iload_n 1, 1) := by decide +kernel
theorem dX13_news_3 : decode cX13_news 3 = .ok (.invokevirtual 161, 3) := by decide +kernel
theorem dX13_news_6 : decode cX13_news 6 = .ok (.iconst 1, 1) := by decide +kernel
theorem dX13_news_7 : decode cX13_news 7 = .ok (.invokevirtual 139, 3) := by decide +kernel
theorem dX13_news_10 : decode cX13_news 10 = .ok (.ifCond .eq 5, 3) := by decide +kernel
theorem dX13_news_13 : decode cX13_news 13 = .ok (.iconst 0, 1) := by decide +kernel
theorem dX13_news_14 : decode cX13_news 14 = .ok (.ireturn, 1) := by decide +kernel
theorem dX13_likeness_0 : decode cX13_likeness 0 = .ok (.aload_n 0, 1) := by decide +kernel
theorem dX13_likeness_1 : decode cX13_likeness 1 = .ok (.aload_n 0, 1) := by decide +kernel
theorem dX13_likeness_2 : decode cX13_likeness 2 = .ok (.iload_n 1, 1) := by decide +kernel
theorem dX13_likeness_3 : decode cX13_likeness 3 = .ok (.invokevirtual 161, 3) := by decide +kernel
theorem dX13_likeness_6 : decode cX13_likeness 6 = .ok (.ifCond .eq 15, 3) := by decide +kernel
theorem dX13_likeness_21 : decode cX13_likeness 21 = .ok (.iconst 0, 1) := by decide +kernel
theorem dX13_likeness_22 : decode cX13_likeness 22 = .ok (.iconst 1, 1) := by decide +kernel
theorem dX13_likeness_23 : decode cX13_likeness 23 = .ok (.invokevirtual 139, 3) := by decide +kernel
theorem dX13_likeness_26 : decode cX13_likeness 26 = .ok (.ifCond .eq 5, 3) := by decide +kernel
theorem dX13_likeness_29 : decode cX13_likeness 29 = .ok (.iconst 0, 1) := by decide +kernel
theorem dX13_likeness_30 : decode cX13_likeness 30 = .ok (.ireturn, 1) := by decide +kernel
theorem dX13_write_0 : decode cX13_write 0 = .ok (.aload_n 0, 1) := by decide +kernel
theorem dX13_write_1 : decode cX13_write 1 = .ok (.iconst 0, 1) := by decide +kernel
theorem dX13_write_2 : decode cX13_write 2 = .ok (.putfield 82, 3) := by decide +kernel
theorem dX13_write_5 : decode cX13_write 5 = .ok (.sipush 15360, 3) := by decide +kernel
theorem dX13_write_8 : decode cX13_write 8 = .ok (.newarray .int, 2) := by decide +kernel
theorem dX13_write_10 : decode cX13_write 10 = .ok (.astore_n 1, 1) := by decide +kernel
theorem dX13_write_11 : decode cX13_write 11 = .ok (.iconst 0, 1) := by decide +kernel
theorem dX13_write_12 : decode cX13_write 12 = .ok (.istore_n 2, 1) := by decide +kernel
theorem dX13_write_13 : decode cX13_write 13 = .ok (.iconst 0, 1) := by decide +kernel
theorem dX13_write_14 : decode cX13_write 14 = .ok (.istore_n 3, 1) := by decide +kernel
theorem dX13_write_15 : decode cX13_write 15 = .ok (.iload_n 3, 1) := by decide +kernel
theorem dX13_write_16 : decode cX13_write 16 = .ok (.bipush 24, 2) := by decide +kernel
theorem dX13_write_18 : decode cX13_write 18 = .ok (.if_icmp .ge 136, 3) := by decide +kernel
theorem dX13_write_21 : decode cX13_write 21 = .ok (.aload_n 0, 1) := by decide +kernel
theorem dX13_write_22 : decode cX13_write 22 = .ok (.getfield 49, 3) := by decide +kernel
theorem dX13_write_25 : decode cX13_write 25 = .ok (.iload_n 3, 1) := by decide +kernel
theorem dX13_write_26 : decode cX13_write 26 = .ok (.aload_n 0, 1) := by decide +kernel
theorem dX13_write_27 : decode cX13_write 27 = .ok (.getfield 9, 3) := by decide +kernel
theorem dX13_write_30 : decode cX13_write 30 = .ok (.iload_n 3, 1) := by decide +kernel
theorem dX13_write_31 : decode cX13_write 31 = .ok (.baload, 1) := by decide +kernel
theorem dX13_write_32 : decode cX13_write 32 = .ok (.bastore, 1) := by decide +kernel
theorem dX13_write_33 : decode cX13_write 33 = .ok (.aload_n 0, 1) := by decide +kernel
theorem dX13_write_34 : decode cX13_write 34 = .ok (.getfield 9, 3) := by decide +kernel
theorem dX13_write_37 : decode cX13_write 37 = .ok (.iload_n 3, 1) := by decide +kernel
theorem dX13_write_38 : decode cX13_write 38 = .ok (.baload, 1) := by decide +kernel
theorem dX13_write_39 : decode cX13_write 39 = .ok (.ifCond .eq 109, 3) := by decide +kernel
theorem dX13_write_148 : decode cX13_write 148 = .ok (.iinc 3 1, 3) := by decide +kernel
theorem dX13_write_151 : decode cX13_write 151 = .ok (.goto (-136), 3) := by decide +kernel
theorem dX13_write_154 : decode cX13_write 154 = .ok (.aload_n 0, 1) := by decide +kernel
theorem dX13_write_155 : decode cX13_write 155 = .ok (.aload_n 1, 1) := by decide +kernel
theorem dX13_write_156 : decode cX13_write 156 = .ok (.iload_n 2, 1) := by decide +kernel
theorem dX13_write_157 : decode cX13_write 157 = .ok (.invokestatic 207, 3) := by decide +kernel
theorem dX13_write_160 : decode cX13_write 160 = .ok (.putfield 426, 3) := by decide +kernel
theorem dX13_write_163 : decode cX13_write 163 = .ok (.iload_n 2, 1) := by decide +kernel
theorem dX13_write_164 : decode cX13_write 164 = .ok (.ireturn, 1) := by decide +kernel
theorem dX13_writtenAt_0 : decode cX13_writtenAt 0 = .ok (.aload_n 0, 1) := by decide +kernel
theorem dX13_writtenAt_1 : decode cX13_writtenAt 1 = .ok (.aload_n 0, 1) := by decide +kernel
theorem dX13_writtenAt_2 : decode cX13_writtenAt 2 = .ok (.getfield 426, 3) := by decide +kernel
theorem dX13_writtenAt_5 : decode cX13_writtenAt 5 = .ok (.ifnull 22, 3) := by decide +kernel
theorem dX13_writtenAt_27 : decode cX13_writtenAt 27 = .ok (.iconst 0, 1) := by decide +kernel
theorem dX13_writtenAt_28 : decode cX13_writtenAt 28 = .ok (.iconst 1, 1) := by decide +kernel
theorem dX13_writtenAt_29 : decode cX13_writtenAt 29 = .ok (.invokevirtual 139, 3) := by decide +kernel
theorem dX13_writtenAt_32 : decode cX13_writtenAt 32 = .ok (.ifCond .eq 7, 3) := by decide +kernel
