/-! printed names: instructions (those that are used) -/
theorem dX0_init_0 : decode cX0_init 0 = .ok (.aload_n 0, 1) := by decide +kernel
theorem dX0_init_1 : decode cX0_init 1 = .ok (.invokespecial 3, 3) := by decide +kernel
theorem dX0_init_4 : decode cX0_init 4 = .ok (.aload_n 0, 1) := by decide +kernel
theorem dX0_init_5 : decode cX0_init 5 = .ok (.aconst_null, 1) := by decide +kernel
theorem dX0_init_6 : decode cX0_init 6 = .ok (.putfield 9, 3) := by decide +kernel
theorem dX0_init_9 : decode cX0_init 9 = .ok (.aload_n 0, 1) := by decide +kernel
theorem dX0_init_10 : decode cX0_init 10 = .ok (.aconst_null, 1) := by decide +kernel
theorem dX0_init_11 : decode cX0_init 11 = .ok (.putfield 15, 3) := by decide +kernel
theorem dX0_init_14 : decode cX0_init 14 = .ok (.aload_n 0, 1) := by decide +kernel
theorem dX0_init_15 : decode cX0_init 15 = .ok (.iconst 0, 1) := by decide +kernel
theorem dX0_init_16 : decode cX0_init 16 = .ok (.putfield 19, 3) := by decide +kernel
theorem dX0_init_19 : decode cX0_init 19 = .ok (.aload_n 0, 1) := by decide +kernel
theorem dX0_init_20 : decode cX0_init 20 = .ok (.iconst 0, 1) := by decide +kernel
theorem dX0_init_21 : decode cX0_init 21 = .ok (.putfield 23, 3) := by decide +kernel
theorem dX0_init_24 : decode cX0_init 24 = .ok (.aload_n 0, 1) := by decide +kernel
theorem dX0_init_25 : decode cX0_init 25 = .ok (.aconst_null, 1) := by decide +kernel
theorem dX0_init_26 : decode cX0_init 26 = .ok (.putfield 26, 3) := by decide +kernel
theorem dX0_init_29 : decode cX0_init 29 = .ok (.return_, 1) := by decide +kernel
theorem dX0_read_0 : decode cX0_read 0 = .ok (.aload_n 0, 1) := by decide +kernel
theorem dX0_read_1 : decode cX0_read 1 = .ok (.aload_n 1, 1) := by decide +kernel
theorem dX0_read_2 : decode cX0_read 2 = .ok (.putfield 9, 3) := by decide +kernel
theorem dX0_read_5 : decode cX0_read 5 = .ok (.aload_n 0, 1) := by decide +kernel
theorem dX0_read_6 : decode cX0_read 6 = .ok (.aload_n 2, 1) := by decide +kernel
theorem dX0_read_7 : decode cX0_read 7 = .ok (.putfield 15, 3) := by decide +kernel
theorem dX0_read_10 : decode cX0_read 10 = .ok (.aload_n 0, 1) := by decide +kernel
theorem dX0_read_11 : decode cX0_read 11 = .ok (.iconst 0, 1) := by decide +kernel
theorem dX0_read_12 : decode cX0_read 12 = .ok (.putfield 19, 3) := by decide +kernel
theorem dX0_read_15 : decode cX0_read 15 = .ok (.aload_n 0, 1) := by decide +kernel
theorem dX0_read_16 : decode cX0_read 16 = .ok (.iconst 0, 1) := by decide +kernel
theorem dX0_read_17 : decode cX0_read 17 = .ok (.putfield 23, 3) := by decide +kernel
theorem dX0_read_20 : decode cX0_read 20 = .ok (.aload_n 0, 1) := by decide +kernel
theorem dX0_read_21 : decode cX0_read 21 = .ok (.aconst_null, 1) := by decide +kernel
theorem dX0_read_22 : decode cX0_read 22 = .ok (.putfield 26, 3) := by decide +kernel
theorem dX0_read_25 : decode cX0_read 25 = .ok (.aload_n 2, 1) := by decide +kernel
theorem dX0_read_26 : decode cX0_read 26 = .ok (.invokevirtual 30, 3) := by decide +kernel
theorem dX0_read_29 : decode cX0_read 29 = .ok (.aload_n 0, 1) := by decide +kernel
theorem dX0_read_30 : decode cX0_read 30 = .ok (.iconst 0, 1) := by decide +kernel
theorem dX0_read_31 : decode cX0_read 31 = .ok (.invokevirtual 35, 3) := by decide +kernel
theorem dX0_read_34 : decode cX0_read 34 = .ok (.iconst 0, 1) := by decide +kernel
theorem dX0_read_35 : decode cX0_read 35 = .ok (.istore_n 3, 1) := by decide +kernel
theorem dX0_read_36 : decode cX0_read 36 = .ok (.iload_n 3, 1) := by decide +kernel
theorem dX0_read_37 : decode cX0_read 37 = .ok (.sipush 512, 3) := by decide +kernel
theorem dX0_read_40 : decode cX0_read 40 = .ok (.if_icmp .gt 131, 3) := by decide +kernel
theorem dX0_read_43 : decode cX0_read 43 = .ok (.aload_n 0, 1) := by decide +kernel
theorem dX0_read_44 : decode cX0_read 44 = .ok (.bipush 33, 2) := by decide +kernel
theorem dX0_read_46 : decode cX0_read 46 = .ok (.invokevirtual 39, 3) := by decide +kernel
theorem dX0_read_49 : decode cX0_read 49 = .ok (.istore 4, 2) := by decide +kernel
theorem dX0_read_51 : decode cX0_read 51 = .ok (.aload_n 0, 1) := by decide +kernel
theorem dX0_read_52 : decode cX0_read 52 = .ok (.bipush 40, 2) := by decide +kernel
theorem dX0_read_54 : decode cX0_read 54 = .ok (.invokevirtual 39, 3) := by decide +kernel
theorem dX0_read_57 : decode cX0_read 57 = .ok (.ifCond .eq 22, 3) := by decide +kernel
theorem dX0_read_79 : decode cX0_read 79 = .ok (.aload_n 0, 1) := by decide +kernel
theorem dX0_read_80 : decode cX0_read 80 = .ok (.iload 4, 2) := by decide +kernel
theorem dX0_read_82 : decode cX0_read 82 = .ok (.invokevirtual 43, 3) := by decide +kernel
theorem dX0_read_85 : decode cX0_read 85 = .ok (.ifCond .eq 10, 3) := by decide +kernel
theorem dX0_read_95 : decode cX0_read 95 = .ok (.iconst (-1), 1) := by decide +kernel
theorem dX0_read_96 : decode cX0_read 96 = .ok (.aload_n 0, 1) := by decide +kernel
theorem dX0_read_97 : decode cX0_read 97 = .ok (.getfield 19, 3) := by decide +kernel
theorem dX0_read_100 : decode cX0_read 100 = .ok (.isub, 1) := by decide +kernel
theorem dX0_read_101 : decode cX0_read 101 = .ok (.ireturn, 1) := by decide +kernel
theorem dX0_take_0 : decode cX0_take 0 = .ok (.aload_n 0, 1) := by decide +kernel
theorem dX0_take_1 : decode cX0_take 1 = .ok (.getfield 9, 3) := by decide +kernel
theorem dX0_take_4 : decode cX0_take 4 = .ok (.aload_n 0, 1) := by decide +kernel
theorem dX0_take_5 : decode cX0_take 5 = .ok (.getfield 19, 3) := by decide +kernel
theorem dX0_take_8 : decode cX0_take 8 = .ok (.invokevirtual 71, 3) := by decide +kernel
theorem dX0_take_11 : decode cX0_take 11 = .ok (.iload_n 1, 1) := by decide +kernel
theorem dX0_take_12 : decode cX0_take 12 = .ok (.if_icmp .ne 7, 3) := by decide +kernel
theorem dX0_take_19 : decode cX0_take 19 = .ok (.iconst 0, 1) := by decide +kernel
theorem dX0_take_20 : decode cX0_take 20 = .ok (.istore_n 2, 1) := by decide +kernel
theorem dX0_take_21 : decode cX0_take 21 = .ok (.iload_n 2, 1) := by decide +kernel
theorem dX0_take_22 : decode cX0_take 22 = .ok (.ifCond .eq 13, 3) := by decide +kernel
theorem dX0_take_35 : decode cX0_take 35 = .ok (.iload_n 2, 1) := by decide +kernel
theorem dX0_take_36 : decode cX0_take 36 = .ok (.ireturn, 1) := by decide +kernel
theorem dX0_open_0 : decode cX0_open 0 = .ok (.aload_n 0, 1) := by decide +kernel
theorem dX0_open_1 : decode cX0_open 1 = .ok (.getfield 15, 3) := by decide +kernel
theorem dX0_open_4 : decode cX0_open 4 = .ok (.bipush 7, 2) := by decide +kernel
theorem dX0_open_6 : decode cX0_open 6 = .ok (.invokevirtual 77, 3) := by decide +kernel
theorem dX0_open_9 : decode cX0_open 9 = .ok (.astore_n 2, 1) := by decide +kernel
theorem dX0_open_10 : decode cX0_open 10 = .ok (.aload_n 2, 1) := by decide +kernel
theorem dX0_open_11 : decode cX0_open 11 = .ok (.iload_n 1, 1) := by decide +kernel
theorem dX0_open_12 : decode cX0_open 12 = .ok (.putfield 81, 3) := by decide +kernel
theorem dX0_open_15 : decode cX0_open 15 = .ok (.aload_n 2, 1) := by decide +kernel
theorem dX0_open_16 : decode cX0_open 16 = .ok (.aload_n 0, 1) := by decide +kernel
theorem dX0_open_17 : decode cX0_open 17 = .ok (.getfield 26, 3) := by decide +kernel
theorem dX0_open_20 : decode cX0_open 20 = .ok (.putfield 85, 3) := by decide +kernel
theorem dX0_open_23 : decode cX0_open 23 = .ok (.aload_n 0, 1) := by decide +kernel
theorem dX0_open_24 : decode cX0_open 24 = .ok (.aload_n 2, 1) := by decide +kernel
theorem dX0_open_25 : decode cX0_open 25 = .ok (.invokevirtual 88, 3) := by decide +kernel
theorem dX0_open_28 : decode cX0_open 28 = .ok (.return_, 1) := by decide +kernel
theorem dX0_beginTerms_0 : decode cX0_beginTerms 0 = .ok (.aload_n 0, 1) := by decide +kernel
theorem dX0_beginTerms_1 : decode cX0_beginTerms 1 = .ok (.aload_n 0, 1) := by decide +kernel
theorem dX0_beginTerms_2 : decode cX0_beginTerms 2 = .ok (.getfield 15, 3) := by decide +kernel
theorem dX0_beginTerms_5 : decode cX0_beginTerms 5 = .ok (.bipush 6, 2) := by decide +kernel
theorem dX0_beginTerms_7 : decode cX0_beginTerms 7 = .ok (.invokevirtual 77, 3) := by decide +kernel
theorem dX0_beginTerms_10 : decode cX0_beginTerms 10 = .ok (.putfield 26, 3) := by decide +kernel
theorem dX0_beginTerms_13 : decode cX0_beginTerms 13 = .ok (.aload_n 0, 1) := by decide +kernel
theorem dX0_beginTerms_14 : decode cX0_beginTerms 14 = .ok (.getfield 26, 3) := by decide +kernel
theorem dX0_beginTerms_17 : decode cX0_beginTerms 17 = .ok (.aload_n 1, 1) := by decide +kernel
theorem dX0_beginTerms_18 : decode cX0_beginTerms 18 = .ok (.putfield 85, 3) := by decide +kernel
theorem dX0_beginTerms_21 : decode cX0_beginTerms 21 = .ok (.return_, 1) := by decide +kernel
theorem dX0_readTerm_0 : decode cX0_readTerm 0 = .ok (.aload_n 0, 1) := by decide +kernel
theorem dX0_readTerm_1 : decode cX0_readTerm 1 = .ok (.getfield 15, 3) := by decide +kernel
theorem dX0_readTerm_4 : decode cX0_readTerm 4 = .ok (.iconst 0, 1) := by decide +kernel
theorem dX0_readTerm_5 : decode cX0_readTerm 5 = .ok (.invokevirtual 77, 3) := by decide +kernel
theorem dX0_readTerm_8 : decode cX0_readTerm 8 = .ok (.astore_n 2, 1) := by decide +kernel
theorem dX0_readTerm_9 : decode cX0_readTerm 9 = .ok (.aload_n 2, 1) := by decide +kernel
theorem dX0_readTerm_10 : decode cX0_readTerm 10 = .ok (.iload_n 1, 1) := by decide +kernel
theorem dX0_readTerm_11 : decode cX0_readTerm 11 = .ok (.putfield 81, 3) := by decide +kernel
theorem dX0_readTerm_14 : decode cX0_readTerm 14 = .ok (.aload_n 0, 1) := by decide +kernel
theorem dX0_readTerm_15 : decode cX0_readTerm 15 = .ok (.aload_n 2, 1) := by decide +kernel
theorem dX0_readTerm_16 : decode cX0_readTerm 16 = .ok (.invokevirtual 112, 3) := by decide +kernel
theorem dX0_readTerm_19 : decode cX0_readTerm 19 = .ok (.ifCond .eq 11, 3) := by decide +kernel
theorem dX0_readTerm_30 : decode cX0_readTerm 30 = .ok (.iconst 0, 1) := by decide +kernel
theorem dX0_readTerm_31 : decode cX0_readTerm 31 = .ok (.ireturn, 1) := by decide +kernel
theorem dX0_readUnit_0 : decode cX0_readUnit 0 = .ok (.aload_n 0, 1) := by decide +kernel
theorem dX0_readUnit_1 : decode cX0_readUnit 1 = .ok (.bipush 91, 2) := by decide +kernel
theorem dX0_readUnit_3 : decode cX0_readUnit 3 = .ok (.invokevirtual 39, 3) := by decide +kernel
theorem dX0_readUnit_6 : decode cX0_readUnit 6 = .ok (.ifCond .eq 9, 3) := by decide +kernel
theorem dX0_readUnit_15 : decode cX0_readUnit 15 = .ok (.aload_n 0, 1) := by decide +kernel
theorem dX0_readUnit_16 : decode cX0_readUnit 16 = .ok (.bipush 60, 2) := by decide +kernel
theorem dX0_readUnit_18 : decode cX0_readUnit 18 = .ok (.invokevirtual 39, 3) := by decide +kernel
theorem dX0_readUnit_21 : decode cX0_readUnit 21 = .ok (.ifCond .eq 11, 3) := by decide +kernel
theorem dX0_readUnit_32 : decode cX0_readUnit 32 = .ok (.aload_n 0, 1) := by decide +kernel
theorem dX0_readUnit_33 : decode cX0_readUnit 33 = .ok (.bipush 62, 2) := by decide +kernel
theorem dX0_readUnit_35 : decode cX0_readUnit 35 = .ok (.invokevirtual 39, 3) := by decide +kernel
theorem dX0_readUnit_38 : decode cX0_readUnit 38 = .ok (.ifCond .eq 8, 3) := by decide +kernel
theorem dX0_readUnit_46 : decode cX0_readUnit 46 = .ok (.aload_n 0, 1) := by decide +kernel
theorem dX0_readUnit_47 : decode cX0_readUnit 47 = .ok (.bipush 34, 2) := by decide +kernel
theorem dX0_readUnit_49 : decode cX0_readUnit 49 = .ok (.invokevirtual 39, 3) := by decide +kernel
theorem dX0_readUnit_52 : decode cX0_readUnit 52 = .ok (.ifCond .eq 9, 3) := by decide +kernel
theorem dX0_readUnit_61 : decode cX0_readUnit 61 = .ok (.aload_n 0, 1) := by decide +kernel
theorem dX0_readUnit_62 : decode cX0_readUnit 62 = .ok (.bipush 123, 2) := by decide +kernel
theorem dX0_readUnit_64 : decode cX0_readUnit 64 = .ok (.invokevirtual 39, 3) := by decide +kernel
theorem dX0_readUnit_67 : decode cX0_readUnit 67 = .ok (.ifCond .eq 11, 3) := by decide +kernel
theorem dX0_readUnit_78 : decode cX0_readUnit 78 = .ok (.aload_n 0, 1) := by decide +kernel
theorem dX0_readUnit_79 : decode cX0_readUnit 79 = .ok (.aload_n 1, 1) := by decide +kernel
theorem dX0_readUnit_80 : decode cX0_readUnit 80 = .ok (.invokevirtual 127, 3) := by decide +kernel
theorem dX0_readUnit_83 : decode cX0_readUnit 83 = .ok (.ireturn, 1) := by decide +kernel
theorem dX0_readWordUnit_0 : decode cX0_readWordUnit 0 = .ok (.aload_n 0, 1) := by decide +kernel
theorem dX0_readWordUnit_1 : decode cX0_readWordUnit 1 = .ok (.invokevirtual 139, 3) := by decide +kernel
theorem dX0_readWordUnit_4 : decode cX0_readWordUnit 4 = .ok (.lstore_n 2, 1) := by decide +kernel
theorem dX0_readWordUnit_5 : decode cX0_readWordUnit 5 = .ok (.lload_n 2, 1) := by decide +kernel
theorem dX0_readWordUnit_6 : decode cX0_readWordUnit 6 = .ok (.lconst 0, 1) := by decide +kernel
theorem dX0_readWordUnit_7 : decode cX0_readWordUnit 7 = .ok (.lcmp, 1) := by decide +kernel
theorem dX0_readWordUnit_8 : decode cX0_readWordUnit 8 = .ok (.ifCond .ne 5, 3) := by decide +kernel
theorem dX0_readWordUnit_11 : decode cX0_readWordUnit 11 = .ok (.iconst 0, 1) := by decide +kernel
theorem dX0_readWordUnit_12 : decode cX0_readWordUnit 12 = .ok (.ireturn, 1) := by decide +kernel
theorem dX0_readWord_0 : decode cX0_readWord 0 = .ok (.aload_n 0, 1) := by decide +kernel
theorem dX0_readWord_1 : decode cX0_readWord 1 = .ok (.getfield 19, 3) := by decide +kernel
theorem dX0_readWord_4 : decode cX0_readWord 4 = .ok (.istore_n 1, 1) := by decide +kernel
theorem dX0_readWord_5 : decode cX0_readWord 5 = .ok (.aload_n 0, 1) := by decide +kernel
theorem dX0_readWord_6 : decode cX0_readWord 6 = .ok (.getfield 9, 3) := by decide +kernel
theorem dX0_readWord_9 : decode cX0_readWord 9 = .ok (.iload_n 1, 1) := by decide +kernel
theorem dX0_readWord_10 : decode cX0_readWord 10 = .ok (.invokevirtual 159, 3) := by decide +kernel
theorem dX0_readWord_13 : decode cX0_readWord 13 = .ok (.istore_n 2, 1) := by decide +kernel
theorem dX0_readWord_14 : decode cX0_readWord 14 = .ok (.aload_n 0, 1) := by decide +kernel
theorem dX0_readWord_15 : decode cX0_readWord 15 = .ok (.iload_n 2, 1) := by decide +kernel
theorem dX0_readWord_16 : decode cX0_readWord 16 = .ok (.iload_n 1, 1) := by decide +kernel
theorem dX0_readWord_17 : decode cX0_readWord 17 = .ok (.isub, 1) := by decide +kernel
theorem dX0_readWord_18 : decode cX0_readWord 18 = .ok (.bipush 12, 2) := by decide +kernel
theorem dX0_readWord_20 : decode cX0_readWord 20 = .ok (.if_icmp .le 10, 3) := by decide +kernel
theorem dX0_readWord_30 : decode cX0_readWord 30 = .ok (.iload_n 2, 1) := by decide +kernel
theorem dX0_readWord_31 : decode cX0_readWord 31 = .ok (.putfield 19, 3) := by decide +kernel
theorem dX0_readWord_34 : decode cX0_readWord 34 = .ok (.aload_n 0, 1) := by decide +kernel
theorem dX0_readWord_35 : decode cX0_readWord 35 = .ok (.getfield 9, 3) := by decide +kernel
theorem dX0_readWord_38 : decode cX0_readWord 38 = .ok (.iload_n 1, 1) := by decide +kernel
theorem dX0_readWord_39 : decode cX0_readWord 39 = .ok (.aload_n 0, 1) := by decide +kernel
theorem dX0_readWord_40 : decode cX0_readWord 40 = .ok (.getfield 19, 3) := by decide +kernel
theorem dX0_readWord_43 : decode cX0_readWord 43 = .ok (.invokevirtual 163, 3) := by decide +kernel
theorem dX0_readWord_46 : decode cX0_readWord 46 = .ok (.lreturn, 1) := by decide +kernel
theorem dX1_init_0 : decode cX1_init 0 = .ok (.aload_n 0, 1) := by decide +kernel
theorem dX1_init_1 : decode cX1_init 1 = .ok (.invokespecial 1, 3) := by decide +kernel
theorem dX1_init_4 : decode cX1_init 4 = .ok (.aload_n 0, 1) := by decide +kernel
theorem dX1_init_5 : decode cX1_init 5 = .ok (.bipush 16, 2) := by decide +kernel
theorem dX1_init_7 : decode cX1_init 7 = .ok (.newarray .long, 2) := by decide +kernel
theorem dX1_init_9 : decode cX1_init 9 = .ok (.putfield 9, 3) := by decide +kernel
theorem dX1_init_12 : decode cX1_init 12 = .ok (.return_, 1) := by decide +kernel
theorem dX2_init_0 : decode cX2_init 0 = .ok (.aload_n 0, 1) := by decide +kernel
theorem dX2_init_1 : decode cX2_init 1 = .ok (.invokespecial 1, 3) := by decide +kernel
theorem dX2_init_4 : decode cX2_init 4 = .ok (.aload_n 0, 1) := by decide +kernel
theorem dX2_init_5 : decode cX2_init 5 = .ok (.bipush 16, 2) := by decide +kernel
theorem dX2_init_7 : decode cX2_init 7 = .ok (.newarray .int, 2) := by decide +kernel
theorem dX2_init_9 : decode cX2_init 9 = .ok (.putfield 7, 3) := by decide +kernel
theorem dX2_init_12 : decode cX2_init 12 = .ok (.aload_n 0, 1) := by decide +kernel
theorem dX2_init_13 : decode cX2_init 13 = .ok (.iconst 0, 1) := by decide +kernel
theorem dX2_init_14 : decode cX2_init 14 = .ok (.putfield 13, 3) := by decide +kernel
theorem dX2_init_17 : decode cX2_init 17 = .ok (.aload_n 0, 1) := by decide +kernel
theorem dX2_init_18 : decode cX2_init 18 = .ok (.iconst 0, 1) := by decide +kernel
theorem dX2_init_19 : decode cX2_init 19 = .ok (.putfield 17, 3) := by decide +kernel
theorem dX2_init_22 : decode cX2_init 22 = .ok (.return_, 1) := by decide +kernel
theorem dX2_size_0 : decode cX2_size 0 = .ok (.aload_n 0, 1) := by decide +kernel
theorem dX2_size_1 : decode cX2_size 1 = .ok (.getfield 13, 3) := by decide +kernel
theorem dX2_size_4 : decode cX2_size 4 = .ok (.ireturn, 1) := by decide +kernel
theorem dX2_clear_0 : decode cX2_clear 0 = .ok (.aload_n 0, 1) := by decide +kernel
theorem dX2_clear_1 : decode cX2_clear 1 = .ok (.iconst 0, 1) := by decide +kernel
theorem dX2_clear_2 : decode cX2_clear 2 = .ok (.putfield 13, 3) := by decide +kernel
theorem dX2_clear_5 : decode cX2_clear 5 = .ok (.aload_n 0, 1) := by decide +kernel
theorem dX2_clear_6 : decode cX2_clear 6 = .ok (.iconst 0, 1) := by decide +kernel
theorem dX2_clear_7 : decode cX2_clear 7 = .ok (.putfield 17, 3) := by decide +kernel
theorem dX2_clear_10 : decode cX2_clear 10 = .ok (.return_, 1) := by decide +kernel
theorem dX3_init_0 : decode cX3_init 0 = .ok (.aload_n 0, 1) := by decide +kernel
theorem dX3_init_1 : decode cX3_init 1 = .ok (.invokespecial 3, 3) := by decide +kernel
theorem dX3_init_4 : decode cX3_init 4 = .ok (.aload_n 0, 1) := by decide +kernel
theorem dX3_init_5 : decode cX3_init 5 = .ok (.bipush 24, 2) := by decide +kernel
theorem dX3_init_7 : decode cX3_init 7 = .ok (.anewarray 9, 3) := by decide +kernel
theorem dX3_init_10 : decode cX3_init 10 = .ok (.putfield 11, 3) := by decide +kernel
theorem dX3_init_13 : decode cX3_init 13 = .ok (.aload_n 0, 1) := by decide +kernel
theorem dX3_init_14 : decode cX3_init 14 = .ok (.bipush 24, 2) := by decide +kernel
theorem dX3_init_16 : decode cX3_init 16 = .ok (.newarray .int, 2) := by decide +kernel
theorem dX3_init_18 : decode cX3_init 18 = .ok (.putfield 17, 3) := by decide +kernel
theorem dX3_init_21 : decode cX3_init 21 = .ok (.aload_n 0, 1) := by decide +kernel
theorem dX3_init_22 : decode cX3_init 22 = .ok (.bipush 24, 2) := by decide +kernel
theorem dX3_init_24 : decode cX3_init 24 = .ok (.newarray .int, 2) := by decide +kernel
theorem dX3_init_26 : decode cX3_init 26 = .ok (.putfield 21, 3) := by decide +kernel
theorem dX3_init_29 : decode cX3_init 29 = .ok (.aload_n 0, 1) := by decide +kernel
theorem dX3_init_30 : decode cX3_init 30 = .ok (.bipush 10, 2) := by decide +kernel
theorem dX3_init_32 : decode cX3_init 32 = .ok (.newarray .int, 2) := by decide +kernel
theorem dX3_init_34 : decode cX3_init 34 = .ok (.putfield 24, 3) := by decide +kernel
theorem dX3_init_37 : decode cX3_init 37 = .ok (.aload_n 0, 1) := by decide +kernel
theorem dX3_init_38 : decode cX3_init 38 = .ok (.iconst 0, 1) := by decide +kernel
theorem dX3_init_39 : decode cX3_init 39 = .ok (.putfield 27, 3) := by decide +kernel
theorem dX3_init_42 : decode cX3_init 42 = .ok (.aload_n 0, 1) := by decide +kernel
theorem dX3_init_43 : decode cX3_init 43 = .ok (.new 9, 3) := by decide +kernel
theorem dX3_init_46 : decode cX3_init 46 = .ok (.dup, 1) := by decide +kernel
theorem dX3_init_47 : decode cX3_init 47 = .ok (.invokespecial 31, 3) := by decide +kernel
theorem dX3_init_50 : decode cX3_init 50 = .ok (.putfield 32, 3) := by decide +kernel
theorem dX3_init_53 : decode cX3_init 53 = .ok (.aload_n 0, 1) := by decide +kernel
theorem dX3_init_54 : decode cX3_init 54 = .ok (.new 9, 3) := by decide +kernel
theorem dX3_init_57 : decode cX3_init 57 = .ok (.dup, 1) := by decide +kernel
theorem dX3_init_58 : decode cX3_init 58 = .ok (.invokespecial 31, 3) := by decide +kernel
theorem dX3_init_61 : decode cX3_init 61 = .ok (.putfield 36, 3) := by decide +kernel
theorem dX3_init_64 : decode cX3_init 64 = .ok (.aload_n 0, 1) := by decide +kernel
theorem dX3_init_65 : decode cX3_init 65 = .ok (.new 9, 3) := by decide +kernel
theorem dX3_init_68 : decode cX3_init 68 = .ok (.dup, 1) := by decide +kernel
theorem dX3_init_69 : decode cX3_init 69 = .ok (.invokespecial 31, 3) := by decide +kernel
theorem dX3_init_72 : decode cX3_init 72 = .ok (.putfield 39, 3) := by decide +kernel
theorem dX3_init_75 : decode cX3_init 75 = .ok (.aload_n 0, 1) := by decide +kernel
theorem dX3_init_76 : decode cX3_init 76 = .ok (.iconst 0, 1) := by decide +kernel
theorem dX3_init_77 : decode cX3_init 77 = .ok (.putfield 42, 3) := by decide +kernel
theorem dX3_init_80 : decode cX3_init 80 = .ok (.aload_n 0, 1) := by decide +kernel
theorem dX3_init_81 : decode cX3_init 81 = .ok (.iconst 0, 1) := by decide +kernel
theorem dX3_init_82 : decode cX3_init 82 = .ok (.putfield 45, 3) := by decide +kernel
theorem dX3_init_85 : decode cX3_init 85 = .ok (.iconst 0, 1) := by decide +kernel
theorem dX3_init_86 : decode cX3_init 86 = .ok (.istore_n 1, 1) := by decide +kernel
theorem dX3_init_87 : decode cX3_init 87 = .ok (.iload_n 1, 1) := by decide +kernel
theorem dX3_init_88 : decode cX3_init 88 = .ok (.aload_n 0, 1) := by decide +kernel
theorem dX3_init_89 : decode cX3_init 89 = .ok (.getfield 11, 3) := by decide +kernel
theorem dX3_init_92 : decode cX3_init 92 = .ok (.arraylength, 1) := by decide +kernel
theorem dX3_init_93 : decode cX3_init 93 = .ok (.if_icmp .ge 22, 3) := by decide +kernel
theorem dX3_init_96 : decode cX3_init 96 = .ok (.aload_n 0, 1) := by decide +kernel
theorem dX3_init_97 : decode cX3_init 97 = .ok (.getfield 11, 3) := by decide +kernel
theorem dX3_init_100 : decode cX3_init 100 = .ok (.iload_n 1, 1) := by decide +kernel
theorem dX3_init_101 : decode cX3_init 101 = .ok (.new 9, 3) := by decide +kernel
theorem dX3_init_104 : decode cX3_init 104 = .ok (.dup, 1) := by decide +kernel
theorem dX3_init_105 : decode cX3_init 105 = .ok (.invokespecial 31, 3) := by decide +kernel
theorem dX3_init_108 : decode cX3_init 108 = .ok (.aastore, 1) := by decide +kernel
theorem dX3_init_109 : decode cX3_init 109 = .ok (.iinc 1 1, 3) := by decide +kernel
theorem dX3_init_112 : decode cX3_init 112 = .ok (.goto (-25), 3) := by decide +kernel
theorem dX3_init_115 : decode cX3_init 115 = .ok (.return_, 1) := by decide +kernel
theorem dX4_init_0 : decode cX4_init 0 = .ok (.aload_n 0, 1) := by decide +kernel
theorem dX4_init_1 : decode cX4_init 1 = .ok (.invokespecial 3, 3) := by decide +kernel
theorem dX4_init_4 : decode cX4_init 4 = .ok (.aload_n 0, 1) := by decide +kernel
theorem dX4_init_5 : decode cX4_init 5 = .ok (.sipush 512, 3) := by decide +kernel
theorem dX4_init_8 : decode cX4_init 8 = .ok (.newarray .char, 2) := by decide +kernel
theorem dX4_init_10 : decode cX4_init 10 = .ok (.putfield 9, 3) := by decide +kernel
theorem dX4_init_13 : decode cX4_init 13 = .ok (.aload_n 0, 1) := by decide +kernel
theorem dX4_init_14 : decode cX4_init 14 = .ok (.iconst 0, 1) := by decide +kernel
theorem dX4_init_15 : decode cX4_init 15 = .ok (.putfield 15, 3) := by decide +kernel
theorem dX4_init_18 : decode cX4_init 18 = .ok (.return_, 1) := by decide +kernel
theorem dX4_size_0 : decode cX4_size 0 = .ok (.aload_n 0, 1) := by decide +kernel
theorem dX4_size_1 : decode cX4_size 1 = .ok (.getfield 15, 3) := by decide +kernel
theorem dX4_size_4 : decode cX4_size 4 = .ok (.ireturn, 1) := by decide +kernel
theorem dX4_clear_0 : decode cX4_clear 0 = .ok (.aload_n 0, 1) := by decide +kernel
theorem dX4_clear_1 : decode cX4_clear 1 = .ok (.iconst 0, 1) := by decide +kernel
theorem dX4_clear_2 : decode cX4_clear 2 = .ok (.putfield 15, 3) := by decide +kernel
theorem dX4_clear_5 : decode cX4_clear 5 = .ok (.return_, 1) := by decide +kernel
theorem dX4_at_0 : decode cX4_at 0 = .ok (.iload_n 1, 1) := by decide +kernel
theorem dX4_at_1 : decode cX4_at 1 = .ok (.ifCond .lt 29, 3) := by decide +kernel
theorem dX4_at_4 : decode cX4_at 4 = .ok (.iload_n 1, 1) := by decide +kernel
theorem dX4_at_5 : decode cX4_at 5 = .ok (.aload_n 0, 1) := by decide +kernel
theorem dX4_at_6 : decode cX4_at 6 = .ok (.getfield 15, 3) := by decide +kernel
theorem dX4_at_9 : decode cX4_at 9 = .ok (.if_icmp .ge 21, 3) := by decide +kernel
theorem dX4_at_30 : decode cX4_at 30 = .ok (.iconst 0, 1) := by decide +kernel
theorem dX4_at_31 : decode cX4_at 31 = .ok (.ireturn, 1) := by decide +kernel
theorem dX4_put_0 : decode cX4_put 0 = .ok (.aload_n 0, 1) := by decide +kernel
theorem dX4_put_1 : decode cX4_put 1 = .ok (.getfield 15, 3) := by decide +kernel
theorem dX4_put_4 : decode cX4_put 4 = .ok (.ifCond .lt 35, 3) := by decide +kernel
theorem dX4_put_7 : decode cX4_put 7 = .ok (.aload_n 0, 1) := by decide +kernel
theorem dX4_put_8 : decode cX4_put 8 = .ok (.getfield 15, 3) := by decide +kernel
theorem dX4_put_11 : decode cX4_put 11 = .ok (.aload_n 0, 1) := by decide +kernel
theorem dX4_put_12 : decode cX4_put 12 = .ok (.getfield 9, 3) := by decide +kernel
theorem dX4_put_15 : decode cX4_put 15 = .ok (.arraylength, 1) := by decide +kernel
theorem dX4_put_16 : decode cX4_put 16 = .ok (.if_icmp .ge 23, 3) := by decide +kernel
theorem dX4_put_19 : decode cX4_put 19 = .ok (.aload_n 0, 1) := by decide +kernel
theorem dX4_put_20 : decode cX4_put 20 = .ok (.getfield 9, 3) := by decide +kernel
theorem dX4_put_23 : decode cX4_put 23 = .ok (.aload_n 0, 1) := by decide +kernel
theorem dX4_put_24 : decode cX4_put 24 = .ok (.getfield 15, 3) := by decide +kernel
theorem dX4_put_27 : decode cX4_put 27 = .ok (.iload_n 1, 1) := by decide +kernel
theorem dX4_put_28 : decode cX4_put 28 = .ok (.castore, 1) := by decide +kernel
theorem dX4_put_29 : decode cX4_put 29 = .ok (.aload_n 0, 1) := by decide +kernel
theorem dX4_put_30 : decode cX4_put 30 = .ok (.dup, 1) := by decide +kernel
theorem dX4_put_31 : decode cX4_put 31 = .ok (.getfield 15, 3) := by decide +kernel
theorem dX4_put_34 : decode cX4_put 34 = .ok (.iconst 1, 1) := by decide +kernel
theorem dX4_put_35 : decode cX4_put 35 = .ok (.iadd, 1) := by decide +kernel
theorem dX4_put_36 : decode cX4_put 36 = .ok (.putfield 15, 3) := by decide +kernel
theorem dX4_put_39 : decode cX4_put 39 = .ok (.return_, 1) := by decide +kernel
theorem dX4_wordEnd_0 : decode cX4_wordEnd 0 = .ok (.iload_n 1, 1) := by decide +kernel
theorem dX4_wordEnd_1 : decode cX4_wordEnd 1 = .ok (.istore_n 2, 1) := by decide +kernel
theorem dX4_wordEnd_2 : decode cX4_wordEnd 2 = .ok (.iload_n 2, 1) := by decide +kernel
theorem dX4_wordEnd_3 : decode cX4_wordEnd 3 = .ok (.aload_n 0, 1) := by decide +kernel
theorem dX4_wordEnd_4 : decode cX4_wordEnd 4 = .ok (.getfield 15, 3) := by decide +kernel
theorem dX4_wordEnd_7 : decode cX4_wordEnd 7 = .ok (.if_icmp .ge 20, 3) := by decide +kernel
theorem dX4_wordEnd_27 : decode cX4_wordEnd 27 = .ok (.iload_n 2, 1) := by decide +kernel
theorem dX4_wordEnd_28 : decode cX4_wordEnd 28 = .ok (.ireturn, 1) := by decide +kernel
theorem dX4_wordAt_0 : decode cX4_wordAt 0 = .ok (.lconst 0, 1) := by decide +kernel
theorem dX4_wordAt_1 : decode cX4_wordAt 1 = .ok (.lstore_n 3, 1) := by decide +kernel
theorem dX4_wordAt_2 : decode cX4_wordAt 2 = .ok (.iconst 0, 1) := by decide +kernel
theorem dX4_wordAt_3 : decode cX4_wordAt 3 = .ok (.istore 5, 2) := by decide +kernel
theorem dX4_wordAt_5 : decode cX4_wordAt 5 = .ok (.iload 5, 2) := by decide +kernel
theorem dX4_wordAt_7 : decode cX4_wordAt 7 = .ok (.bipush 12, 2) := by decide +kernel
theorem dX4_wordAt_9 : decode cX4_wordAt 9 = .ok (.if_icmp .ge 35, 3) := by decide +kernel
theorem dX4_wordAt_12 : decode cX4_wordAt 12 = .ok (.iload 5, 2) := by decide +kernel
theorem dX4_wordAt_14 : decode cX4_wordAt 14 = .ok (.iload_n 2, 1) := by decide +kernel
theorem dX4_wordAt_15 : decode cX4_wordAt 15 = .ok (.iload_n 1, 1) := by decide +kernel
theorem dX4_wordAt_16 : decode cX4_wordAt 16 = .ok (.isub, 1) := by decide +kernel
theorem dX4_wordAt_17 : decode cX4_wordAt 17 = .ok (.if_icmp .ge 27, 3) := by decide +kernel
theorem dX4_wordAt_44 : decode cX4_wordAt 44 = .ok (.lload_n 3, 1) := by decide +kernel
theorem dX4_wordAt_45 : decode cX4_wordAt 45 = .ok (.lreturn, 1) := by decide +kernel
theorem dX4_onlyWord_0 : decode cX4_onlyWord 0 = .ok (.aload_n 0, 1) := by decide +kernel
theorem dX4_onlyWord_1 : decode cX4_onlyWord 1 = .ok (.iconst 0, 1) := by decide +kernel
theorem dX4_onlyWord_2 : decode cX4_onlyWord 2 = .ok (.invokevirtual 50, 3) := by decide +kernel
theorem dX4_onlyWord_5 : decode cX4_onlyWord 5 = .ok (.aload_n 0, 1) := by decide +kernel
theorem dX4_onlyWord_6 : decode cX4_onlyWord 6 = .ok (.getfield 15, 3) := by decide +kernel
theorem dX4_onlyWord_9 : decode cX4_onlyWord 9 = .ok (.if_icmp .ne 15, 3) := by decide +kernel
theorem dX4_onlyWord_12 : decode cX4_onlyWord 12 = .ok (.aload_n 0, 1) := by decide +kernel
theorem dX4_onlyWord_13 : decode cX4_onlyWord 13 = .ok (.iconst 0, 1) := by decide +kernel
theorem dX4_onlyWord_14 : decode cX4_onlyWord 14 = .ok (.aload_n 0, 1) := by decide +kernel
theorem dX4_onlyWord_15 : decode cX4_onlyWord 15 = .ok (.getfield 15, 3) := by decide +kernel
theorem dX4_onlyWord_18 : decode cX4_onlyWord 18 = .ok (.invokevirtual 54, 3) := by decide +kernel
theorem dX4_onlyWord_21 : decode cX4_onlyWord 21 = .ok (.goto 4, 3) := by decide +kernel
theorem dX4_onlyWord_25 : decode cX4_onlyWord 25 = .ok (.lreturn, 1) := by decide +kernel
theorem dX4_placeOf_0 : decode cX4_placeOf 0 = .ok (.iconst 0, 1) := by decide +kernel
theorem dX4_placeOf_1 : decode cX4_placeOf 1 = .ok (.istore_n 2, 1) := by decide +kernel
theorem dX4_placeOf_2 : decode cX4_placeOf 2 = .ok (.iload_n 2, 1) := by decide +kernel
theorem dX4_placeOf_3 : decode cX4_placeOf 3 = .ok (.aload_n 0, 1) := by decide +kernel
theorem dX4_placeOf_4 : decode cX4_placeOf 4 = .ok (.getfield 15, 3) := by decide +kernel
theorem dX4_placeOf_7 : decode cX4_placeOf 7 = .ok (.if_icmp .ge 20, 3) := by decide +kernel
theorem dX4_placeOf_27 : decode cX4_placeOf 27 = .ok (.iconst (-1), 1) := by decide +kernel
theorem dX4_placeOf_28 : decode cX4_placeOf 28 = .ok (.ireturn, 1) := by decide +kernel
theorem dX5_init_0 : decode cX5_init 0 = .ok (.aload_n 0, 1) := by decide +kernel
theorem dX5_init_1 : decode cX5_init 1 = .ok (.invokespecial 1, 3) := by decide +kernel
theorem dX5_init_4 : decode cX5_init 4 = .ok (.aload_n 0, 1) := by decide +kernel
theorem dX5_init_5 : decode cX5_init 5 = .ok (.iconst 0, 1) := by decide +kernel
theorem dX5_init_6 : decode cX5_init 6 = .ok (.putfield 9, 3) := by decide +kernel
theorem dX5_init_9 : decode cX5_init 9 = .ok (.aload_n 0, 1) := by decide +kernel
theorem dX5_init_10 : decode cX5_init 10 = .ok (.iconst 0, 1) := by decide +kernel
theorem dX5_init_11 : decode cX5_init 11 = .ok (.putfield 13, 3) := by decide +kernel
theorem dX5_init_14 : decode cX5_init 14 = .ok (.aload_n 0, 1) := by decide +kernel
theorem dX5_init_15 : decode cX5_init 15 = .ok (.iconst 1, 1) := by decide +kernel
theorem dX5_init_16 : decode cX5_init 16 = .ok (.putfield 17, 3) := by decide +kernel
theorem dX5_init_19 : decode cX5_init 19 = .ok (.aload_n 0, 1) := by decide +kernel
theorem dX5_init_20 : decode cX5_init 20 = .ok (.iconst 0, 1) := by decide +kernel
theorem dX5_init_21 : decode cX5_init 21 = .ok (.putfield 20, 3) := by decide +kernel
theorem dX5_init_24 : decode cX5_init 24 = .ok (.aload_n 0, 1) := by decide +kernel
theorem dX5_init_25 : decode cX5_init 25 = .ok (.iconst 0, 1) := by decide +kernel
theorem dX5_init_26 : decode cX5_init 26 = .ok (.putfield 23, 3) := by decide +kernel
theorem dX5_init_29 : decode cX5_init 29 = .ok (.aload_n 0, 1) := by decide +kernel
theorem dX5_init_30 : decode cX5_init 30 = .ok (.iconst 0, 1) := by decide +kernel
theorem dX5_init_31 : decode cX5_init 31 = .ok (.putfield 26, 3) := by decide +kernel
theorem dX5_init_34 : decode cX5_init 34 = .ok (.aload_n 0, 1) := by decide +kernel
theorem dX5_init_35 : decode cX5_init 35 = .ok (.new 29, 3) := by decide +kernel
theorem dX5_init_38 : decode cX5_init 38 = .ok (.dup, 1) := by decide +kernel
theorem dX5_init_39 : decode cX5_init 39 = .ok (.invokespecial 31, 3) := by decide +kernel
theorem dX5_init_42 : decode cX5_init 42 = .ok (.putfield 32, 3) := by decide +kernel
theorem dX5_init_45 : decode cX5_init 45 = .ok (.aload_n 0, 1) := by decide +kernel
theorem dX5_init_46 : decode cX5_init 46 = .ok (.aconst_null, 1) := by decide +kernel
theorem dX5_init_47 : decode cX5_init 47 = .ok (.putfield 36, 3) := by decide +kernel
theorem dX5_init_50 : decode cX5_init 50 = .ok (.aload_n 0, 1) := by decide +kernel
theorem dX5_init_51 : decode cX5_init 51 = .ok (.aconst_null, 1) := by decide +kernel
theorem dX5_init_52 : decode cX5_init 52 = .ok (.putfield 40, 3) := by decide +kernel
theorem dX5_init_55 : decode cX5_init 55 = .ok (.aload_n 0, 1) := by decide +kernel
theorem dX5_init_56 : decode cX5_init 56 = .ok (.aconst_null, 1) := by decide +kernel
theorem dX5_init_57 : decode cX5_init 57 = .ok (.putfield 43, 3) := by decide +kernel
theorem dX5_init_60 : decode cX5_init 60 = .ok (.aload_n 0, 1) := by decide +kernel
theorem dX5_init_61 : decode cX5_init 61 = .ok (.aconst_null, 1) := by decide +kernel
theorem dX5_init_62 : decode cX5_init 62 = .ok (.putfield 46, 3) := by decide +kernel
theorem dX5_init_65 : decode cX5_init 65 = .ok (.aload_n 0, 1) := by decide +kernel
theorem dX5_init_66 : decode cX5_init 66 = .ok (.iconst 0, 1) := by decide +kernel
theorem dX5_init_67 : decode cX5_init 67 = .ok (.putfield 49, 3) := by decide +kernel
theorem dX5_init_70 : decode cX5_init 70 = .ok (.aload_n 0, 1) := by decide +kernel
theorem dX5_init_71 : decode cX5_init 71 = .ok (.iconst 0, 1) := by decide +kernel
theorem dX5_init_72 : decode cX5_init 72 = .ok (.putfield 52, 3) := by decide +kernel
theorem dX5_init_75 : decode cX5_init 75 = .ok (.aload_n 0, 1) := by decide +kernel
theorem dX5_init_76 : decode cX5_init 76 = .ok (.iconst 0, 1) := by decide +kernel
theorem dX5_init_77 : decode cX5_init 77 = .ok (.putfield 55, 3) := by decide +kernel
theorem dX5_init_80 : decode cX5_init 80 = .ok (.aload_n 0, 1) := by decide +kernel
theorem dX5_init_81 : decode cX5_init 81 = .ok (.iconst 0, 1) := by decide +kernel
theorem dX5_init_82 : decode cX5_init 82 = .ok (.putfield 58, 3) := by decide +kernel
theorem dX5_init_85 : decode cX5_init 85 = .ok (.aload_n 0, 1) := by decide +kernel
theorem dX5_init_86 : decode cX5_init 86 = .ok (.aconst_null, 1) := by decide +kernel
theorem dX5_init_87 : decode cX5_init 87 = .ok (.putfield 61, 3) := by decide +kernel
theorem dX5_init_90 : decode cX5_init 90 = .ok (.aload_n 0, 1) := by decide +kernel
theorem dX5_init_91 : decode cX5_init 91 = .ok (.aconst_null, 1) := by decide +kernel
theorem dX5_init_92 : decode cX5_init 92 = .ok (.putfield 64, 3) := by decide +kernel
theorem dX5_init_95 : decode cX5_init 95 = .ok (.return_, 1) := by decide +kernel
theorem dX5_reset_0 : decode cX5_reset 0 = .ok (.aload_n 0, 1) := by decide +kernel
theorem dX5_reset_1 : decode cX5_reset 1 = .ok (.iload_n 1, 1) := by decide +kernel
theorem dX5_reset_2 : decode cX5_reset 2 = .ok (.putfield 9, 3) := by decide +kernel
theorem dX5_reset_5 : decode cX5_reset 5 = .ok (.aload_n 0, 1) := by decide +kernel
theorem dX5_reset_6 : decode cX5_reset 6 = .ok (.iconst 0, 1) := by decide +kernel
theorem dX5_reset_7 : decode cX5_reset 7 = .ok (.putfield 13, 3) := by decide +kernel
theorem dX5_reset_10 : decode cX5_reset 10 = .ok (.aload_n 0, 1) := by decide +kernel
theorem dX5_reset_11 : decode cX5_reset 11 = .ok (.iconst 1, 1) := by decide +kernel
theorem dX5_reset_12 : decode cX5_reset 12 = .ok (.putfield 17, 3) := by decide +kernel
theorem dX5_reset_15 : decode cX5_reset 15 = .ok (.aload_n 0, 1) := by decide +kernel
theorem dX5_reset_16 : decode cX5_reset 16 = .ok (.iconst 0, 1) := by decide +kernel
theorem dX5_reset_17 : decode cX5_reset 17 = .ok (.putfield 20, 3) := by decide +kernel
theorem dX5_reset_20 : decode cX5_reset 20 = .ok (.aload_n 0, 1) := by decide +kernel
theorem dX5_reset_21 : decode cX5_reset 21 = .ok (.iconst 0, 1) := by decide +kernel
theorem dX5_reset_22 : decode cX5_reset 22 = .ok (.putfield 23, 3) := by decide +kernel
theorem dX5_reset_25 : decode cX5_reset 25 = .ok (.aload_n 0, 1) := by decide +kernel
theorem dX5_reset_26 : decode cX5_reset 26 = .ok (.iconst 0, 1) := by decide +kernel
theorem dX5_reset_27 : decode cX5_reset 27 = .ok (.putfield 26, 3) := by decide +kernel
theorem dX5_reset_30 : decode cX5_reset 30 = .ok (.aload_n 0, 1) := by decide +kernel
theorem dX5_reset_31 : decode cX5_reset 31 = .ok (.getfield 32, 3) := by decide +kernel
theorem dX5_reset_34 : decode cX5_reset 34 = .ok (.invokevirtual 67, 3) := by decide +kernel
theorem dX5_reset_37 : decode cX5_reset 37 = .ok (.aload_n 0, 1) := by decide +kernel
theorem dX5_reset_38 : decode cX5_reset 38 = .ok (.aconst_null, 1) := by decide +kernel
theorem dX5_reset_39 : decode cX5_reset 39 = .ok (.putfield 36, 3) := by decide +kernel
theorem dX5_reset_42 : decode cX5_reset 42 = .ok (.aload_n 0, 1) := by decide +kernel
theorem dX5_reset_43 : decode cX5_reset 43 = .ok (.aconst_null, 1) := by decide +kernel
theorem dX5_reset_44 : decode cX5_reset 44 = .ok (.putfield 40, 3) := by decide +kernel
theorem dX5_reset_47 : decode cX5_reset 47 = .ok (.aload_n 0, 1) := by decide +kernel
theorem dX5_reset_48 : decode cX5_reset 48 = .ok (.invokevirtual 70, 3) := by decide +kernel
theorem dX5_reset_51 : decode cX5_reset 51 = .ok (.return_, 1) := by decide +kernel
theorem dX5_empty_0 : decode cX5_empty 0 = .ok (.aload_n 0, 1) := by decide +kernel
theorem dX5_empty_1 : decode cX5_empty 1 = .ok (.aconst_null, 1) := by decide +kernel
theorem dX5_empty_2 : decode cX5_empty 2 = .ok (.putfield 43, 3) := by decide +kernel
theorem dX5_empty_5 : decode cX5_empty 5 = .ok (.aload_n 0, 1) := by decide +kernel
theorem dX5_empty_6 : decode cX5_empty 6 = .ok (.aconst_null, 1) := by decide +kernel
theorem dX5_empty_7 : decode cX5_empty 7 = .ok (.putfield 46, 3) := by decide +kernel
theorem dX5_empty_10 : decode cX5_empty 10 = .ok (.aload_n 0, 1) := by decide +kernel
theorem dX5_empty_11 : decode cX5_empty 11 = .ok (.iconst 0, 1) := by decide +kernel
theorem dX5_empty_12 : decode cX5_empty 12 = .ok (.putfield 49, 3) := by decide +kernel
theorem dX5_empty_15 : decode cX5_empty 15 = .ok (.return_, 1) := by decide +kernel
theorem dX6_init_0 : decode cX6_init 0 = .ok (.aload_n 0, 1) := by decide +kernel
theorem dX6_init_1 : decode cX6_init 1 = .ok (.invokespecial 1, 3) := by decide +kernel
theorem dX6_init_4 : decode cX6_init 4 = .ok (.aload_n 0, 1) := by decide +kernel
theorem dX6_init_5 : decode cX6_init 5 = .ok (.new 7, 3) := by decide +kernel
theorem dX6_init_8 : decode cX6_init 8 = .ok (.dup, 1) := by decide +kernel
theorem dX6_init_9 : decode cX6_init 9 = .ok (.invokespecial 9, 3) := by decide +kernel
theorem dX6_init_12 : decode cX6_init 12 = .ok (.putfield 10, 3) := by decide +kernel
theorem dX6_init_15 : decode cX6_init 15 = .ok (.aload_n 0, 1) := by decide +kernel
theorem dX6_init_16 : decode cX6_init 16 = .ok (.aload_n 0, 1) := by decide +kernel
theorem dX6_init_17 : decode cX6_init 17 = .ok (.getfield 10, 3) := by decide +kernel
theorem dX6_init_20 : decode cX6_init 20 = .ok (.putfield 16, 3) := by decide +kernel
theorem dX6_init_23 : decode cX6_init 23 = .ok (.aload_n 0, 1) := by decide +kernel
theorem dX6_init_24 : decode cX6_init 24 = .ok (.aconst_null, 1) := by decide +kernel
theorem dX6_init_25 : decode cX6_init 25 = .ok (.putfield 19, 3) := by decide +kernel
theorem dX6_init_28 : decode cX6_init 28 = .ok (.return_, 1) := by decide +kernel
theorem dX6_isEmpty_0 : decode cX6_isEmpty 0 = .ok (.aload_n 0, 1) := by decide +kernel
theorem dX6_isEmpty_1 : decode cX6_isEmpty 1 = .ok (.getfield 19, 3) := by decide +kernel
theorem dX6_isEmpty_4 : decode cX6_isEmpty 4 = .ok (.ifnonnull 7, 3) := by decide +kernel
theorem dX6_isEmpty_7 : decode cX6_isEmpty 7 = .ok (.iconst 1, 1) := by decide +kernel
theorem dX6_isEmpty_8 : decode cX6_isEmpty 8 = .ok (.goto 4, 3) := by decide +kernel
theorem dX6_isEmpty_12 : decode cX6_isEmpty 12 = .ok (.ireturn, 1) := by decide +kernel
theorem dX6_clear_0 : decode cX6_clear 0 = .ok (.aload_n 0, 1) := by decide +kernel
theorem dX6_clear_1 : decode cX6_clear 1 = .ok (.aload_n 0, 1) := by decide +kernel
theorem dX6_clear_2 : decode cX6_clear 2 = .ok (.getfield 10, 3) := by decide +kernel
theorem dX6_clear_5 : decode cX6_clear 5 = .ok (.putfield 16, 3) := by decide +kernel
theorem dX6_clear_8 : decode cX6_clear 8 = .ok (.aload_n 0, 1) := by decide +kernel
theorem dX6_clear_9 : decode cX6_clear 9 = .ok (.aconst_null, 1) := by decide +kernel
theorem dX6_clear_10 : decode cX6_clear 10 = .ok (.putfield 19, 3) := by decide +kernel
theorem dX6_clear_13 : decode cX6_clear 13 = .ok (.return_, 1) := by decide +kernel
theorem dX6_fresh_0 : decode cX6_fresh 0 = .ok (.aload_n 0, 1) := by decide +kernel
theorem dX6_fresh_1 : decode cX6_fresh 1 = .ok (.getfield 16, 3) := by decide +kernel
theorem dX6_fresh_4 : decode cX6_fresh 4 = .ok (.getfield 22, 3) := by decide +kernel
theorem dX6_fresh_7 : decode cX6_fresh 7 = .ok (.ifnonnull 17, 3) := by decide +kernel
theorem dX6_fresh_10 : decode cX6_fresh 10 = .ok (.aload_n 0, 1) := by decide +kernel
theorem dX6_fresh_11 : decode cX6_fresh 11 = .ok (.getfield 16, 3) := by decide +kernel
theorem dX6_fresh_14 : decode cX6_fresh 14 = .ok (.new 7, 3) := by decide +kernel
theorem dX6_fresh_17 : decode cX6_fresh 17 = .ok (.dup, 1) := by decide +kernel
theorem dX6_fresh_18 : decode cX6_fresh 18 = .ok (.invokespecial 9, 3) := by decide +kernel
theorem dX6_fresh_21 : decode cX6_fresh 21 = .ok (.putfield 22, 3) := by decide +kernel
theorem dX6_fresh_24 : decode cX6_fresh 24 = .ok (.aload_n 0, 1) := by decide +kernel
theorem dX6_fresh_25 : decode cX6_fresh 25 = .ok (.aload_n 0, 1) := by decide +kernel
theorem dX6_fresh_26 : decode cX6_fresh 26 = .ok (.getfield 16, 3) := by decide +kernel
theorem dX6_fresh_29 : decode cX6_fresh 29 = .ok (.getfield 22, 3) := by decide +kernel
theorem dX6_fresh_32 : decode cX6_fresh 32 = .ok (.putfield 16, 3) := by decide +kernel
theorem dX6_fresh_35 : decode cX6_fresh 35 = .ok (.aload_n 0, 1) := by decide +kernel
theorem dX6_fresh_36 : decode cX6_fresh 36 = .ok (.getfield 16, 3) := by decide +kernel
theorem dX6_fresh_39 : decode cX6_fresh 39 = .ok (.iload_n 1, 1) := by decide +kernel
theorem dX6_fresh_40 : decode cX6_fresh 40 = .ok (.invokevirtual 25, 3) := by decide +kernel
theorem dX6_fresh_43 : decode cX6_fresh 43 = .ok (.aload_n 0, 1) := by decide +kernel
theorem dX6_fresh_44 : decode cX6_fresh 44 = .ok (.getfield 16, 3) := by decide +kernel
theorem dX6_fresh_47 : decode cX6_fresh 47 = .ok (.areturn, 1) := by decide +kernel
theorem dX7_init_0 : decode cX7_init 0 = .ok (.aload_n 0, 1) := by decide +kernel
theorem dX7_init_1 : decode cX7_init 1 = .ok (.invokespecial 3, 3) := by decide +kernel
theorem dX7_init_4 : decode cX7_init 4 = .ok (.aload_n 0, 1) := by decide +kernel
theorem dX7_init_5 : decode cX7_init 5 = .ok (.iconst 4, 1) := by decide +kernel
theorem dX7_init_6 : decode cX7_init 6 = .ok (.newarray .long, 2) := by decide +kernel
theorem dX7_init_8 : decode cX7_init 8 = .ok (.putfield 9, 3) := by decide +kernel
theorem dX7_init_11 : decode cX7_init 11 = .ok (.aload_n 0, 1) := by decide +kernel
theorem dX7_init_12 : decode cX7_init 12 = .ok (.iconst 0, 1) := by decide +kernel
theorem dX7_init_13 : decode cX7_init 13 = .ok (.putfield 15, 3) := by decide +kernel
theorem dX7_init_16 : decode cX7_init 16 = .ok (.return_, 1) := by decide +kernel
theorem dX7_size_0 : decode cX7_size 0 = .ok (.aload_n 0, 1) := by decide +kernel
theorem dX7_size_1 : decode cX7_size 1 = .ok (.getfield 15, 3) := by decide +kernel
theorem dX7_size_4 : decode cX7_size 4 = .ok (.ireturn, 1) := by decide +kernel
theorem dX7_clear_0 : decode cX7_clear 0 = .ok (.aload_n 0, 1) := by decide +kernel
theorem dX7_clear_1 : decode cX7_clear 1 = .ok (.iconst 0, 1) := by decide +kernel
theorem dX7_clear_2 : decode cX7_clear 2 = .ok (.putfield 15, 3) := by decide +kernel
theorem dX7_clear_5 : decode cX7_clear 5 = .ok (.return_, 1) := by decide +kernel
theorem dX7_read_0 : decode cX7_read 0 = .ok (.aload_n 0, 1) := by decide +kernel
theorem dX7_read_1 : decode cX7_read 1 = .ok (.invokevirtual 41, 3) := by decide +kernel
theorem dX7_read_4 : decode cX7_read 4 = .ok (.iload_n 2, 1) := by decide +kernel
theorem dX7_read_5 : decode cX7_read 5 = .ok (.istore 4, 2) := by decide +kernel
theorem dX7_read_7 : decode cX7_read 7 = .ok (.iload 4, 2) := by decide +kernel
theorem dX7_read_9 : decode cX7_read 9 = .ok (.iload_n 3, 1) := by decide +kernel
theorem dX7_read_10 : decode cX7_read 10 = .ok (.if_icmp .ge 43, 3) := by decide +kernel
theorem dX7_read_53 : decode cX7_read 53 = .ok (.return_, 1) := by decide +kernel
theorem dX8_init_0 : decode cX8_init 0 = .ok (.aload_n 0, 1) := by decide +kernel
theorem dX8_init_1 : decode cX8_init 1 = .ok (.invokespecial 3, 3) := by decide +kernel
theorem dX8_init_4 : decode cX8_init 4 = .ok (.aload_n 0, 1) := by decide +kernel
theorem dX8_init_5 : decode cX8_init 5 = .ok (.bipush 24, 2) := by decide +kernel
theorem dX8_init_7 : decode cX8_init 7 = .ok (.anewarray 9, 3) := by decide +kernel
theorem dX8_init_10 : decode cX8_init 10 = .ok (.putfield 11, 3) := by decide +kernel
theorem dX8_init_13 : decode cX8_init 13 = .ok (.aload_n 0, 1) := by decide +kernel
theorem dX8_init_14 : decode cX8_init 14 = .ok (.iconst 0, 1) := by decide +kernel
theorem dX8_init_15 : decode cX8_init 15 = .ok (.putfield 17, 3) := by decide +kernel
theorem dX8_init_18 : decode cX8_init 18 = .ok (.aload_n 0, 1) := by decide +kernel
theorem dX8_init_19 : decode cX8_init 19 = .ok (.iconst 1, 1) := by decide +kernel
theorem dX8_init_20 : decode cX8_init 20 = .ok (.putfield 21, 3) := by decide +kernel
theorem dX8_init_23 : decode cX8_init 23 = .ok (.return_, 1) := by decide +kernel
theorem dX8_came_0 : decode cX8_came 0 = .ok (.aload_n 0, 1) := by decide +kernel
theorem dX8_came_1 : decode cX8_came 1 = .ok (.getfield 17, 3) := by decide +kernel
theorem dX8_came_4 : decode cX8_came 4 = .ok (.ireturn, 1) := by decide +kernel
theorem dX8_partCount_0 : decode cX8_partCount 0 = .ok (.aload_n 0, 1) := by decide +kernel
theorem dX8_partCount_1 : decode cX8_partCount 1 = .ok (.getfield 21, 3) := by decide +kernel
theorem dX8_partCount_4 : decode cX8_partCount 4 = .ok (.ireturn, 1) := by decide +kernel
theorem dX8_at_0 : decode cX8_at 0 = .ok (.iload_n 1, 1) := by decide +kernel
theorem dX8_at_1 : decode cX8_at 1 = .ok (.ifCond .lt 20, 3) := by decide +kernel
theorem dX8_at_4 : decode cX8_at 4 = .ok (.iload_n 1, 1) := by decide +kernel
theorem dX8_at_5 : decode cX8_at 5 = .ok (.aload_n 0, 1) := by decide +kernel
theorem dX8_at_6 : decode cX8_at 6 = .ok (.getfield 17, 3) := by decide +kernel
theorem dX8_at_9 : decode cX8_at 9 = .ok (.if_icmp .ge 12, 3) := by decide +kernel
theorem dX8_at_21 : decode cX8_at 21 = .ok (.aconst_null, 1) := by decide +kernel
theorem dX8_at_22 : decode cX8_at 22 = .ok (.areturn, 1) := by decide +kernel
theorem dX8_place_0 : decode cX8_place 0 = .ok (.iload_n 1, 1) := by decide +kernel
theorem dX8_place_1 : decode cX8_place 1 = .ok (.ifCond .lt 12, 3) := by decide +kernel
theorem dX8_place_4 : decode cX8_place 4 = .ok (.iload_n 1, 1) := by decide +kernel
theorem dX8_place_5 : decode cX8_place 5 = .ok (.aload_n 0, 1) := by decide +kernel
theorem dX8_place_6 : decode cX8_place 6 = .ok (.getfield 11, 3) := by decide +kernel
theorem dX8_place_9 : decode cX8_place 9 = .ok (.arraylength, 1) := by decide +kernel
theorem dX8_place_10 : decode cX8_place 10 = .ok (.if_icmp .lt 5, 3) := by decide +kernel
theorem dX8_place_15 : decode cX8_place 15 = .ok (.aload_n 0, 1) := by decide +kernel
theorem dX8_place_16 : decode cX8_place 16 = .ok (.getfield 11, 3) := by decide +kernel
theorem dX8_place_19 : decode cX8_place 19 = .ok (.iload_n 1, 1) := by decide +kernel
theorem dX8_place_20 : decode cX8_place 20 = .ok (.aaload, 1) := by decide +kernel
theorem dX8_place_21 : decode cX8_place 21 = .ok (.ifnonnull 16, 3) := by decide +kernel
theorem dX8_place_24 : decode cX8_place 24 = .ok (.aload_n 0, 1) := by decide +kernel
theorem dX8_place_25 : decode cX8_place 25 = .ok (.getfield 11, 3) := by decide +kernel
theorem dX8_place_28 : decode cX8_place 28 = .ok (.iload_n 1, 1) := by decide +kernel
theorem dX8_place_29 : decode cX8_place 29 = .ok (.new 9, 3) := by decide +kernel
theorem dX8_place_32 : decode cX8_place 32 = .ok (.dup, 1) := by decide +kernel
theorem dX8_place_33 : decode cX8_place 33 = .ok (.invokespecial 28, 3) := by decide +kernel
theorem dX8_place_36 : decode cX8_place 36 = .ok (.aastore, 1) := by decide +kernel
theorem dX8_place_37 : decode cX8_place 37 = .ok (.aload_n 0, 1) := by decide +kernel
theorem dX8_place_38 : decode cX8_place 38 = .ok (.getfield 11, 3) := by decide +kernel
theorem dX8_place_41 : decode cX8_place 41 = .ok (.iload_n 1, 1) := by decide +kernel
theorem dX8_place_42 : decode cX8_place 42 = .ok (.aaload, 1) := by decide +kernel
theorem dX8_place_43 : decode cX8_place 43 = .ok (.astore_n 2, 1) := by decide +kernel
theorem dX8_place_44 : decode cX8_place 44 = .ok (.aload_n 2, 1) := by decide +kernel
theorem dX8_place_45 : decode cX8_place 45 = .ok (.aload_n 0, 1) := by decide +kernel
theorem dX8_place_46 : decode cX8_place 46 = .ok (.getfield 21, 3) := by decide +kernel
theorem dX8_place_49 : decode cX8_place 49 = .ok (.iconst 1, 1) := by decide +kernel
theorem dX8_place_50 : decode cX8_place 50 = .ok (.isub, 1) := by decide +kernel
theorem dX8_place_51 : decode cX8_place 51 = .ok (.putfield 29, 3) := by decide +kernel
theorem dX8_place_54 : decode cX8_place 54 = .ok (.aload_n 2, 1) := by decide +kernel
theorem dX8_place_55 : decode cX8_place 55 = .ok (.iconst 1, 1) := by decide +kernel
theorem dX8_place_56 : decode cX8_place 56 = .ok (.putfield 24, 3) := by decide +kernel
theorem dX8_place_59 : decode cX8_place 59 = .ok (.aload_n 2, 1) := by decide +kernel
theorem dX8_place_60 : decode cX8_place 60 = .ok (.areturn, 1) := by decide +kernel
theorem dX8_come_0 : decode cX8_come 0 = .ok (.aload_n 0, 1) := by decide +kernel
theorem dX8_come_1 : decode cX8_come 1 = .ok (.aload_n 0, 1) := by decide +kernel
theorem dX8_come_2 : decode cX8_come 2 = .ok (.getfield 17, 3) := by decide +kernel
theorem dX8_come_5 : decode cX8_come 5 = .ok (.invokevirtual 32, 3) := by decide +kernel
theorem dX8_come_8 : decode cX8_come 8 = .ok (.astore 4, 2) := by decide +kernel
theorem dX8_come_10 : decode cX8_come 10 = .ok (.aload 4, 2) := by decide +kernel
theorem dX8_come_12 : decode cX8_come 12 = .ok (.ifnonnull 8, 3) := by decide +kernel
theorem dX8_come_20 : decode cX8_come 20 = .ok (.aload_n 0, 1) := by decide +kernel
theorem dX8_come_21 : decode cX8_come 21 = .ok (.dup, 1) := by decide +kernel
theorem dX8_come_22 : decode cX8_come 22 = .ok (.getfield 17, 3) := by decide +kernel
theorem dX8_come_25 : decode cX8_come 25 = .ok (.iconst 1, 1) := by decide +kernel
theorem dX8_come_26 : decode cX8_come 26 = .ok (.iadd, 1) := by decide +kernel
theorem dX8_come_27 : decode cX8_come 27 = .ok (.putfield 17, 3) := by decide +kernel
theorem dX8_come_30 : decode cX8_come 30 = .ok (.aload 4, 2) := by decide +kernel
theorem dX8_come_32 : decode cX8_come 32 = .ok (.iload_n 2, 1) := by decide +kernel
theorem dX8_come_33 : decode cX8_come 33 = .ok (.putfield 36, 3) := by decide +kernel
theorem dX8_come_36 : decode cX8_come 36 = .ok (.aload 4, 2) := by decide +kernel
theorem dX8_come_38 : decode cX8_come 38 = .ok (.iload_n 3, 1) := by decide +kernel
theorem dX8_come_39 : decode cX8_come 39 = .ok (.putfield 39, 3) := by decide +kernel
theorem dX8_come_42 : decode cX8_come 42 = .ok (.aload 4, 2) := by decide +kernel
theorem dX8_come_44 : decode cX8_come 44 = .ok (.aload_n 1, 1) := by decide +kernel
theorem dX8_come_45 : decode cX8_come 45 = .ok (.invokevirtual 43, 3) := by decide +kernel
theorem dX8_come_48 : decode cX8_come 48 = .ok (.aload_n 0, 1) := by decide +kernel
theorem dX8_come_49 : decode cX8_come 49 = .ok (.getfield 17, 3) := by decide +kernel
theorem dX8_come_52 : decode cX8_come 52 = .ok (.iconst 1, 1) := by decide +kernel
theorem dX8_come_53 : decode cX8_come 53 = .ok (.isub, 1) := by decide +kernel
theorem dX8_come_54 : decode cX8_come 54 = .ok (.ireturn, 1) := by decide +kernel
theorem dX8_count_0 : decode cX8_count 0 = .ok (.iconst 0, 1) := by decide +kernel
theorem dX8_count_1 : decode cX8_count 1 = .ok (.istore_n 1, 1) := by decide +kernel
theorem dX8_count_2 : decode cX8_count 2 = .ok (.iconst 0, 1) := by decide +kernel
theorem dX8_count_3 : decode cX8_count 3 = .ok (.istore_n 2, 1) := by decide +kernel
theorem dX8_count_4 : decode cX8_count 4 = .ok (.iload_n 2, 1) := by decide +kernel
theorem dX8_count_5 : decode cX8_count 5 = .ok (.aload_n 0, 1) := by decide +kernel
theorem dX8_count_6 : decode cX8_count 6 = .ok (.getfield 17, 3) := by decide +kernel
theorem dX8_count_9 : decode cX8_count 9 = .ok (.if_icmp .ge 20, 3) := by decide +kernel
theorem dX8_count_29 : decode cX8_count 29 = .ok (.iload_n 1, 1) := by decide +kernel
theorem dX8_count_30 : decode cX8_count 30 = .ok (.ireturn, 1) := by decide +kernel
theorem dX8_countIn_0 : decode cX8_countIn 0 = .ok (.iconst 0, 1) := by decide +kernel
theorem dX8_countIn_1 : decode cX8_countIn 1 = .ok (.istore_n 2, 1) := by decide +kernel
theorem dX8_countIn_2 : decode cX8_countIn 2 = .ok (.iconst 0, 1) := by decide +kernel
theorem dX8_countIn_3 : decode cX8_countIn 3 = .ok (.istore_n 3, 1) := by decide +kernel
theorem dX8_countIn_4 : decode cX8_countIn 4 = .ok (.iload_n 3, 1) := by decide +kernel
theorem dX8_countIn_5 : decode cX8_countIn 5 = .ok (.aload_n 0, 1) := by decide +kernel
theorem dX8_countIn_6 : decode cX8_countIn 6 = .ok (.getfield 17, 3) := by decide +kernel
theorem dX8_countIn_9 : decode cX8_countIn 9 = .ok (.if_icmp .ge 33, 3) := by decide +kernel
theorem dX8_countIn_42 : decode cX8_countIn 42 = .ok (.iload_n 2, 1) := by decide +kernel
theorem dX8_countIn_43 : decode cX8_countIn 43 = .ok (.ireturn, 1) := by decide +kernel
theorem dX8_collect_0 : decode cX8_collect 0 = .ok (.aload_n 1, 1) := by decide +kernel
theorem dX8_collect_1 : decode cX8_collect 1 = .ok (.invokevirtual 54, 3) := by decide +kernel
theorem dX8_collect_4 : decode cX8_collect 4 = .ok (.iconst 0, 1) := by decide +kernel
theorem dX8_collect_5 : decode cX8_collect 5 = .ok (.istore_n 2, 1) := by decide +kernel
theorem dX8_collect_6 : decode cX8_collect 6 = .ok (.iload_n 2, 1) := by decide +kernel
theorem dX8_collect_7 : decode cX8_collect 7 = .ok (.aload_n 0, 1) := by decide +kernel
theorem dX8_collect_8 : decode cX8_collect 8 = .ok (.getfield 17, 3) := by decide +kernel
theorem dX8_collect_11 : decode cX8_collect 11 = .ok (.if_icmp .ge 87, 3) := by decide +kernel
theorem dX8_collect_98 : decode cX8_collect 98 = .ok (.return_, 1) := by decide +kernel
theorem dX8_takeFrame_0 : decode cX8_takeFrame 0 = .ok (.aload_n 0, 1) := by decide +kernel
theorem dX8_takeFrame_1 : decode cX8_takeFrame 1 = .ok (.aload_n 1, 1) := by decide +kernel
theorem dX8_takeFrame_2 : decode cX8_takeFrame 2 = .ok (.getfield 17, 3) := by decide +kernel
theorem dX8_takeFrame_5 : decode cX8_takeFrame 5 = .ok (.putfield 17, 3) := by decide +kernel
theorem dX8_takeFrame_8 : decode cX8_takeFrame 8 = .ok (.aload_n 0, 1) := by decide +kernel
theorem dX8_takeFrame_9 : decode cX8_takeFrame 9 = .ok (.aload_n 1, 1) := by decide +kernel
theorem dX8_takeFrame_10 : decode cX8_takeFrame 10 = .ok (.getfield 21, 3) := by decide +kernel
theorem dX8_takeFrame_13 : decode cX8_takeFrame 13 = .ok (.putfield 21, 3) := by decide +kernel
theorem dX8_takeFrame_16 : decode cX8_takeFrame 16 = .ok (.iconst 0, 1) := by decide +kernel
theorem dX8_takeFrame_17 : decode cX8_takeFrame 17 = .ok (.istore_n 2, 1) := by decide +kernel
theorem dX8_takeFrame_18 : decode cX8_takeFrame 18 = .ok (.iload_n 2, 1) := by decide +kernel
theorem dX8_takeFrame_19 : decode cX8_takeFrame 19 = .ok (.aload_n 0, 1) := by decide +kernel
theorem dX8_takeFrame_20 : decode cX8_takeFrame 20 = .ok (.getfield 17, 3) := by decide +kernel
theorem dX8_takeFrame_23 : decode cX8_takeFrame 23 = .ok (.if_icmp .ge 88, 3) := by decide +kernel
theorem dX8_takeFrame_111 : decode cX8_takeFrame 111 = .ok (.return_, 1) := by decide +kernel
theorem dX8_isLike_0 : decode cX8_isLike 0 = .ok (.iconst 0, 1) := by decide +kernel
theorem dX8_isLike_1 : decode cX8_isLike 1 = .ok (.istore_n 2, 1) := by decide +kernel
theorem dX8_isLike_2 : decode cX8_isLike 2 = .ok (.iload_n 2, 1) := by decide +kernel
theorem dX8_isLike_3 : decode cX8_isLike 3 = .ok (.aload_n 0, 1) := by decide +kernel
theorem dX8_isLike_4 : decode cX8_isLike 4 = .ok (.getfield 17, 3) := by decide +kernel
theorem dX8_isLike_7 : decode cX8_isLike 7 = .ok (.if_icmp .ge 63, 3) := by decide +kernel
theorem dX8_isLike_70 : decode cX8_isLike 70 = .ok (.iconst 1, 1) := by decide +kernel
theorem dX8_isLike_71 : decode cX8_isLike 71 = .ok (.ireturn, 1) := by decide +kernel
theorem dX8_writeInto_0 : decode cX8_writeInto 0 = .ok (.aload_n 1, 1) := by decide +kernel
theorem dX8_writeInto_1 : decode cX8_writeInto 1 = .ok (.invokevirtual 77, 3) := by decide +kernel
theorem dX8_writeInto_4 : decode cX8_writeInto 4 = .ok (.iconst 0, 1) := by decide +kernel
theorem dX8_writeInto_5 : decode cX8_writeInto 5 = .ok (.istore_n 2, 1) := by decide +kernel
theorem dX8_writeInto_6 : decode cX8_writeInto 6 = .ok (.iload_n 2, 1) := by decide +kernel
theorem dX8_writeInto_7 : decode cX8_writeInto 7 = .ok (.aload_n 0, 1) := by decide +kernel
theorem dX8_writeInto_8 : decode cX8_writeInto 8 = .ok (.getfield 17, 3) := by decide +kernel
theorem dX8_writeInto_11 : decode cX8_writeInto 11 = .ok (.if_icmp .ge 59, 3) := by decide +kernel
theorem dX8_writeInto_70 : decode cX8_writeInto 70 = .ok (.return_, 1) := by decide +kernel
theorem dX8_sum_0 : decode cX8_sum 0 = .ok (.lload_n 1, 1) := by decide +kernel
theorem dX8_sum_1 : decode cX8_sum 1 = .ok (.lstore_n 3, 1) := by decide +kernel
theorem dX8_sum_2 : decode cX8_sum 2 = .ok (.iconst 0, 1) := by decide +kernel
theorem dX8_sum_3 : decode cX8_sum 3 = .ok (.istore 5, 2) := by decide +kernel
theorem dX8_sum_5 : decode cX8_sum 5 = .ok (.iload 5, 2) := by decide +kernel
theorem dX8_sum_7 : decode cX8_sum 7 = .ok (.aload_n 0, 1) := by decide +kernel
theorem dX8_sum_8 : decode cX8_sum 8 = .ok (.getfield 17, 3) := by decide +kernel
theorem dX8_sum_11 : decode cX8_sum 11 = .ok (.if_icmp .ge 78, 3) := by decide +kernel
theorem dX8_sum_89 : decode cX8_sum 89 = .ok (.iconst 0, 1) := by decide +kernel
theorem dX8_sum_90 : decode cX8_sum 90 = .ok (.istore 5, 2) := by decide +kernel
theorem dX8_sum_92 : decode cX8_sum 92 = .ok (.iload 5, 2) := by decide +kernel
theorem dX8_sum_94 : decode cX8_sum 94 = .ok (.aload_n 0, 1) := by decide +kernel
theorem dX8_sum_95 : decode cX8_sum 95 = .ok (.getfield 21, 3) := by decide +kernel
theorem dX8_sum_98 : decode cX8_sum 98 = .ok (.if_icmp .ge 23, 3) := by decide +kernel
theorem dX8_sum_101 : decode cX8_sum 101 = .ok (.ldc2_w 112, 3) := by decide +kernel
theorem dX8_sum_104 : decode cX8_sum 104 = .ok (.lload_n 3, 1) := by decide +kernel
theorem dX8_sum_105 : decode cX8_sum 105 = .ok (.lmul, 1) := by decide +kernel
theorem dX8_sum_106 : decode cX8_sum 106 = .ok (.aload_n 0, 1) := by decide +kernel
theorem dX8_sum_107 : decode cX8_sum 107 = .ok (.iload 5, 2) := by decide +kernel
theorem dX8_sum_109 : decode cX8_sum 109 = .ok (.invokevirtual 118, 3) := by decide +kernel
theorem dX8_sum_112 : decode cX8_sum 112 = .ok (.i2l, 1) := by decide +kernel
theorem dX8_sum_113 : decode cX8_sum 113 = .ok (.ladd, 1) := by decide +kernel
theorem dX8_sum_114 : decode cX8_sum 114 = .ok (.lstore_n 3, 1) := by decide +kernel
theorem dX8_sum_115 : decode cX8_sum 115 = .ok (.iinc 5 1, 3) := by decide +kernel
theorem dX8_sum_118 : decode cX8_sum 118 = .ok (.goto (-26), 3) := by decide +kernel
theorem dX8_sum_121 : decode cX8_sum 121 = .ok (.lload_n 3, 1) := by decide +kernel
theorem dX8_sum_122 : decode cX8_sum 122 = .ok (.lreturn, 1) := by decide +kernel
theorem dX9_init_0 : decode cX9_init 0 = .ok (.aload_n 0, 1) := by decide +kernel
theorem dX9_init_1 : decode cX9_init 1 = .ok (.invokespecial 1, 3) := by decide +kernel
theorem dX9_init_4 : decode cX9_init 4 = .ok (.aload_n 0, 1) := by decide +kernel
theorem dX9_init_5 : decode cX9_init 5 = .ok (.new 7, 3) := by decide +kernel
theorem dX9_init_8 : decode cX9_init 8 = .ok (.dup, 1) := by decide +kernel
theorem dX9_init_9 : decode cX9_init 9 = .ok (.invokespecial 9, 3) := by decide +kernel
theorem dX9_init_12 : decode cX9_init 12 = .ok (.putfield 10, 3) := by decide +kernel
theorem dX9_init_15 : decode cX9_init 15 = .ok (.aload_n 0, 1) := by decide +kernel
theorem dX9_init_16 : decode cX9_init 16 = .ok (.new 7, 3) := by decide +kernel
theorem dX9_init_19 : decode cX9_init 19 = .ok (.dup, 1) := by decide +kernel
theorem dX9_init_20 : decode cX9_init 20 = .ok (.invokespecial 9, 3) := by decide +kernel
theorem dX9_init_23 : decode cX9_init 23 = .ok (.putfield 16, 3) := by decide +kernel
theorem dX9_init_26 : decode cX9_init 26 = .ok (.aload_n 0, 1) := by decide +kernel
theorem dX9_init_27 : decode cX9_init 27 = .ok (.iconst 0, 1) := by decide +kernel
theorem dX9_init_28 : decode cX9_init 28 = .ok (.putfield 19, 3) := by decide +kernel
theorem dX9_init_31 : decode cX9_init 31 = .ok (.aload_n 0, 1) := by decide +kernel
theorem dX9_init_32 : decode cX9_init 32 = .ok (.bipush 97, 2) := by decide +kernel
theorem dX9_init_34 : decode cX9_init 34 = .ok (.putfield 23, 3) := by decide +kernel
theorem dX9_init_37 : decode cX9_init 37 = .ok (.aload_n 0, 1) := by decide +kernel
theorem dX9_init_38 : decode cX9_init 38 = .ok (.iconst 0, 1) := by decide +kernel
theorem dX9_init_39 : decode cX9_init 39 = .ok (.putfield 27, 3) := by decide +kernel
theorem dX9_init_42 : decode cX9_init 42 = .ok (.aload_n 0, 1) := by decide +kernel
theorem dX9_init_43 : decode cX9_init 43 = .ok (.iconst 0, 1) := by decide +kernel
theorem dX9_init_44 : decode cX9_init 44 = .ok (.putfield 30, 3) := by decide +kernel
theorem dX9_init_47 : decode cX9_init 47 = .ok (.return_, 1) := by decide +kernel
theorem dX9_read_0 : decode cX9_read 0 = .ok (.aload_n 1, 1) := by decide +kernel
theorem dX9_read_1 : decode cX9_read 1 = .ok (.bipush 124, 2) := by decide +kernel
theorem dX9_read_3 : decode cX9_read 3 = .ok (.invokevirtual 38, 3) := by decide +kernel
theorem dX9_read_6 : decode cX9_read 6 = .ok (.istore_n 2, 1) := by decide +kernel
theorem dX9_read_7 : decode cX9_read 7 = .ok (.aload_n 0, 1) := by decide +kernel
theorem dX9_read_8 : decode cX9_read 8 = .ok (.getfield 10, 3) := by decide +kernel
theorem dX9_read_11 : decode cX9_read 11 = .ok (.aload_n 1, 1) := by decide +kernel
theorem dX9_read_12 : decode cX9_read 12 = .ok (.iconst 0, 1) := by decide +kernel
theorem dX9_read_13 : decode cX9_read 13 = .ok (.iload_n 2, 1) := by decide +kernel
theorem dX9_read_14 : decode cX9_read 14 = .ok (.invokevirtual 44, 3) := by decide +kernel
theorem dX9_read_17 : decode cX9_read 17 = .ok (.aload_n 0, 1) := by decide +kernel
theorem dX9_read_18 : decode cX9_read 18 = .ok (.getfield 16, 3) := by decide +kernel
theorem dX9_read_21 : decode cX9_read 21 = .ok (.aload_n 1, 1) := by decide +kernel
theorem dX9_read_22 : decode cX9_read 22 = .ok (.iload_n 2, 1) := by decide +kernel
theorem dX9_read_23 : decode cX9_read 23 = .ok (.iconst 1, 1) := by decide +kernel
theorem dX9_read_24 : decode cX9_read 24 = .ok (.iadd, 1) := by decide +kernel
theorem dX9_read_25 : decode cX9_read 25 = .ok (.aload_n 1, 1) := by decide +kernel
theorem dX9_read_26 : decode cX9_read 26 = .ok (.invokevirtual 48, 3) := by decide +kernel
theorem dX9_read_29 : decode cX9_read 29 = .ok (.invokevirtual 44, 3) := by decide +kernel
theorem dX9_read_32 : decode cX9_read 32 = .ok (.return_, 1) := by decide +kernel
theorem dX11_init_0 : decode cX11_init 0 = .ok (.aload_n 0, 1) := by decide +kernel
theorem dX11_init_1 : decode cX11_init 1 = .ok (.invokespecial 1, 3) := by decide +kernel
theorem dX11_init_4 : decode cX11_init 4 = .ok (.aload_n 0, 1) := by decide +kernel
theorem dX11_init_5 : decode cX11_init 5 = .ok (.new 7, 3) := by decide +kernel
theorem dX11_init_8 : decode cX11_init 8 = .ok (.dup, 1) := by decide +kernel
theorem dX11_init_9 : decode cX11_init 9 = .ok (.invokespecial 9, 3) := by decide +kernel
theorem dX11_init_12 : decode cX11_init 12 = .ok (.putfield 10, 3) := by decide +kernel
theorem dX11_init_15 : decode cX11_init 15 = .ok (.aload_n 0, 1) := by decide +kernel
theorem dX11_init_16 : decode cX11_init 16 = .ok (.new 16, 3) := by decide +kernel
theorem dX11_init_19 : decode cX11_init 19 = .ok (.dup, 1) := by decide +kernel
theorem dX11_init_20 : decode cX11_init 20 = .ok (.invokespecial 18, 3) := by decide +kernel
theorem dX11_init_23 : decode cX11_init 23 = .ok (.putfield 19, 3) := by decide +kernel
theorem dX11_init_26 : decode cX11_init 26 = .ok (.aload_n 0, 1) := by decide +kernel
theorem dX11_init_27 : decode cX11_init 27 = .ok (.new 16, 3) := by decide +kernel
theorem dX11_init_30 : decode cX11_init 30 = .ok (.dup, 1) := by decide +kernel
theorem dX11_init_31 : decode cX11_init 31 = .ok (.invokespecial 18, 3) := by decide +kernel
theorem dX11_init_34 : decode cX11_init 34 = .ok (.putfield 23, 3) := by decide +kernel
theorem dX11_init_37 : decode cX11_init 37 = .ok (.aload_n 0, 1) := by decide +kernel
theorem dX11_init_38 : decode cX11_init 38 = .ok (.new 26, 3) := by decide +kernel
theorem dX11_init_41 : decode cX11_init 41 = .ok (.dup, 1) := by decide +kernel
theorem dX11_init_42 : decode cX11_init 42 = .ok (.invokespecial 28, 3) := by decide +kernel
theorem dX11_init_45 : decode cX11_init 45 = .ok (.putfield 29, 3) := by decide +kernel
theorem dX11_init_48 : decode cX11_init 48 = .ok (.aload_n 0, 1) := by decide +kernel
theorem dX11_init_49 : decode cX11_init 49 = .ok (.new 33, 3) := by decide +kernel
theorem dX11_init_52 : decode cX11_init 52 = .ok (.dup, 1) := by decide +kernel
theorem dX11_init_53 : decode cX11_init 53 = .ok (.invokespecial 35, 3) := by decide +kernel
theorem dX11_init_56 : decode cX11_init 56 = .ok (.putfield 36, 3) := by decide +kernel
theorem dX11_init_59 : decode cX11_init 59 = .ok (.aload_n 0, 1) := by decide +kernel
theorem dX11_init_60 : decode cX11_init 60 = .ok (.new 33, 3) := by decide +kernel
theorem dX11_init_63 : decode cX11_init 63 = .ok (.dup, 1) := by decide +kernel
theorem dX11_init_64 : decode cX11_init 64 = .ok (.invokespecial 35, 3) := by decide +kernel
theorem dX11_init_67 : decode cX11_init 67 = .ok (.putfield 40, 3) := by decide +kernel
theorem dX11_init_70 : decode cX11_init 70 = .ok (.aload_n 0, 1) := by decide +kernel
theorem dX11_init_71 : decode cX11_init 71 = .ok (.new 33, 3) := by decide +kernel
theorem dX11_init_74 : decode cX11_init 74 = .ok (.dup, 1) := by decide +kernel
theorem dX11_init_75 : decode cX11_init 75 = .ok (.invokespecial 35, 3) := by decide +kernel
theorem dX11_init_78 : decode cX11_init 78 = .ok (.putfield 43, 3) := by decide +kernel
theorem dX11_init_81 : decode cX11_init 81 = .ok (.aload_n 0, 1) := by decide +kernel
theorem dX11_init_82 : decode cX11_init 82 = .ok (.new 33, 3) := by decide +kernel
theorem dX11_init_85 : decode cX11_init 85 = .ok (.dup, 1) := by decide +kernel
theorem dX11_init_86 : decode cX11_init 86 = .ok (.invokespecial 35, 3) := by decide +kernel
theorem dX11_init_89 : decode cX11_init 89 = .ok (.putfield 46, 3) := by decide +kernel
theorem dX11_init_92 : decode cX11_init 92 = .ok (.aload_n 0, 1) := by decide +kernel
theorem dX11_init_93 : decode cX11_init 93 = .ok (.iconst 0, 1) := by decide +kernel
theorem dX11_init_94 : decode cX11_init 94 = .ok (.putfield 49, 3) := by decide +kernel
theorem dX11_init_97 : decode cX11_init 97 = .ok (.aload_n 0, 1) := by decide +kernel
theorem dX11_init_98 : decode cX11_init 98 = .ok (.new 53, 3) := by decide +kernel
theorem dX11_init_101 : decode cX11_init 101 = .ok (.dup, 1) := by decide +kernel
theorem dX11_init_102 : decode cX11_init 102 = .ok (.invokespecial 55, 3) := by decide +kernel
theorem dX11_init_105 : decode cX11_init 105 = .ok (.putfield 56, 3) := by decide +kernel
theorem dX11_init_108 : decode cX11_init 108 = .ok (.aload_n 0, 1) := by decide +kernel
theorem dX11_init_109 : decode cX11_init 109 = .ok (.new 53, 3) := by decide +kernel
theorem dX11_init_112 : decode cX11_init 112 = .ok (.dup, 1) := by decide +kernel
theorem dX11_init_113 : decode cX11_init 113 = .ok (.invokespecial 55, 3) := by decide +kernel
theorem dX11_init_116 : decode cX11_init 116 = .ok (.putfield 60, 3) := by decide +kernel
theorem dX11_init_119 : decode cX11_init 119 = .ok (.aload_n 0, 1) := by decide +kernel
theorem dX11_init_120 : decode cX11_init 120 = .ok (.iconst 4, 1) := by decide +kernel
theorem dX11_init_121 : decode cX11_init 121 = .ok (.anewarray 53, 3) := by decide +kernel
theorem dX11_init_124 : decode cX11_init 124 = .ok (.putfield 63, 3) := by decide +kernel
theorem dX11_init_127 : decode cX11_init 127 = .ok (.aload_n 0, 1) := by decide +kernel
theorem dX11_init_128 : decode cX11_init 128 = .ok (.new 67, 3) := by decide +kernel
theorem dX11_init_131 : decode cX11_init 131 = .ok (.dup, 1) := by decide +kernel
theorem dX11_init_132 : decode cX11_init 132 = .ok (.invokespecial 69, 3) := by decide +kernel
theorem dX11_init_135 : decode cX11_init 135 = .ok (.putfield 70, 3) := by decide +kernel
theorem dX11_init_138 : decode cX11_init 138 = .ok (.aload_n 0, 1) := by decide +kernel
theorem dX11_init_139 : decode cX11_init 139 = .ok (.new 74, 3) := by decide +kernel
theorem dX11_init_142 : decode cX11_init 142 = .ok (.dup, 1) := by decide +kernel
theorem dX11_init_143 : decode cX11_init 143 = .ok (.invokespecial 76, 3) := by decide +kernel
theorem dX11_init_146 : decode cX11_init 146 = .ok (.putfield 77, 3) := by decide +kernel
theorem dX11_init_149 : decode cX11_init 149 = .ok (.return_, 1) := by decide +kernel
theorem dX11_type_0 : decode cX11_type 0 = .ok (.iload_n 1, 1) := by decide +kernel
theorem dX11_type_1 : decode cX11_type 1 = .ok (.bipush 32, 2) := by decide +kernel
theorem dX11_type_3 : decode cX11_type 3 = .ok (.if_icmp .lt 9, 3) := by decide +kernel
theorem dX11_type_6 : decode cX11_type 6 = .ok (.iload_n 1, 1) := by decide +kernel
theorem dX11_type_7 : decode cX11_type 7 = .ok (.bipush 126, 2) := by decide +kernel
theorem dX11_type_9 : decode cX11_type 9 = .ok (.if_icmp .le 13, 3) := by decide +kernel
theorem dX11_type_12 : decode cX11_type 12 = .ok (.new 81, 3) := by decide +kernel
theorem dX11_type_15 : decode cX11_type 15 = .ok (.dup, 1) := by decide +kernel
theorem dX11_type_16 : decode cX11_type 16 = .ok (.ldc 83, 2) := by decide +kernel
theorem dX11_type_18 : decode cX11_type 18 = .ok (.invokespecial 85, 3) := by decide +kernel
theorem dX11_type_21 : decode cX11_type 21 = .ok (.athrow, 1) := by decide +kernel
theorem dX11_type_22 : decode cX11_type 22 = .ok (.aload_n 0, 1) := by decide +kernel
theorem dX11_type_23 : decode cX11_type 23 = .ok (.getfield 10, 3) := by decide +kernel
theorem dX11_type_26 : decode cX11_type 26 = .ok (.invokevirtual 88, 3) := by decide +kernel
theorem dX11_type_29 : decode cX11_type 29 = .ok (.sipush 160, 3) := by decide +kernel
theorem dX11_type_32 : decode cX11_type 32 = .ok (.if_icmp .lt 13, 3) := by decide +kernel
theorem dX11_type_45 : decode cX11_type 45 = .ok (.aload_n 0, 1) := by decide +kernel
theorem dX11_type_46 : decode cX11_type 46 = .ok (.getfield 10, 3) := by decide +kernel
theorem dX11_type_49 : decode cX11_type 49 = .ok (.iload_n 1, 1) := by decide +kernel
theorem dX11_type_50 : decode cX11_type 50 = .ok (.invokevirtual 97, 3) := by decide +kernel
theorem dX11_type_53 : decode cX11_type 53 = .ok (.aload_n 0, 1) := by decide +kernel
theorem dX11_type_54 : decode cX11_type 54 = .ok (.getfield 10, 3) := by decide +kernel
theorem dX11_type_57 : decode cX11_type 57 = .ok (.invokevirtual 88, 3) := by decide +kernel
theorem dX11_type_60 : decode cX11_type 60 = .ok (.ireturn, 1) := by decide +kernel
theorem dX11_erase_0 : decode cX11_erase 0 = .ok (.aload_n 0, 1) := by decide +kernel
theorem dX11_erase_1 : decode cX11_erase 1 = .ok (.getfield 10, 3) := by decide +kernel
theorem dX11_erase_4 : decode cX11_erase 4 = .ok (.invokevirtual 88, 3) := by decide +kernel
theorem dX11_erase_7 : decode cX11_erase 7 = .ok (.istore_n 1, 1) := by decide +kernel
theorem dX11_erase_8 : decode cX11_erase 8 = .ok (.aload_n 0, 1) := by decide +kernel
theorem dX11_erase_9 : decode cX11_erase 9 = .ok (.getfield 10, 3) := by decide +kernel
theorem dX11_erase_12 : decode cX11_erase 12 = .ok (.invokevirtual 101, 3) := by decide +kernel
theorem dX11_erase_15 : decode cX11_erase 15 = .ok (.iload_n 1, 1) := by decide +kernel
theorem dX11_erase_16 : decode cX11_erase 16 = .ok (.ireturn, 1) := by decide +kernel
theorem dX11_signAt_0 : decode cX11_signAt 0 = .ok (.iload_n 1, 1) := by decide +kernel
theorem dX11_signAt_1 : decode cX11_signAt 1 = .ok (.ifCond .lt 14, 3) := by decide +kernel
theorem dX11_signAt_4 : decode cX11_signAt 4 = .ok (.iload_n 1, 1) := by decide +kernel
theorem dX11_signAt_5 : decode cX11_signAt 5 = .ok (.aload_n 0, 1) := by decide +kernel
theorem dX11_signAt_6 : decode cX11_signAt 6 = .ok (.getfield 10, 3) := by decide +kernel
theorem dX11_signAt_9 : decode cX11_signAt 9 = .ok (.invokevirtual 88, 3) := by decide +kernel
theorem dX11_signAt_12 : decode cX11_signAt 12 = .ok (.if_icmp .lt 13, 3) := by decide +kernel
theorem dX11_signAt_15 : decode cX11_signAt 15 = .ok (.new 104, 3) := by decide +kernel
theorem dX11_signAt_18 : decode cX11_signAt 18 = .ok (.dup, 1) := by decide +kernel
theorem dX11_signAt_19 : decode cX11_signAt 19 = .ok (.ldc 106, 2) := by decide +kernel
theorem dX11_signAt_21 : decode cX11_signAt 21 = .ok (.invokespecial 108, 3) := by decide +kernel
theorem dX11_signAt_24 : decode cX11_signAt 24 = .ok (.athrow, 1) := by decide +kernel
theorem dX11_add_0 : decode cX11_add 0 = .ok (.iload_n 1, 1) := by decide +kernel
theorem dX11_add_1 : decode cX11_add 1 = .ok (.ifCond .lt 17, 3) := by decide +kernel
theorem dX11_add_4 : decode cX11_add 4 = .ok (.iload_n 1, 1) := by decide +kernel
theorem dX11_add_5 : decode cX11_add 5 = .ok (.sipush 999, 3) := by decide +kernel
theorem dX11_add_8 : decode cX11_add 8 = .ok (.if_icmp .gt 10, 3) := by decide +kernel
theorem dX11_add_11 : decode cX11_add 11 = .ok (.iload_n 2, 1) := by decide +kernel
theorem dX11_add_12 : decode cX11_add 12 = .ok (.invokestatic 113, 3) := by decide +kernel
theorem dX11_add_15 : decode cX11_add 15 = .ok (.ifCond .ne 13, 3) := by decide +kernel
theorem dX11_add_18 : decode cX11_add 18 = .ok (.new 81, 3) := by decide +kernel
theorem dX11_add_21 : decode cX11_add 21 = .ok (.dup, 1) := by decide +kernel
theorem dX11_add_22 : decode cX11_add 22 = .ok (.ldc 117, 2) := by decide +kernel
theorem dX11_add_24 : decode cX11_add 24 = .ok (.invokespecial 85, 3) := by decide +kernel
theorem dX11_add_27 : decode cX11_add 27 = .ok (.athrow, 1) := by decide +kernel
theorem dX11_add_28 : decode cX11_add 28 = .ok (.aload_n 0, 1) := by decide +kernel
theorem dX11_add_29 : decode cX11_add 29 = .ok (.getfield 19, 3) := by decide +kernel
theorem dX11_add_32 : decode cX11_add 32 = .ok (.invokevirtual 119, 3) := by decide +kernel
theorem dX11_add_35 : decode cX11_add 35 = .ok (.bipush 24, 2) := by decide +kernel
theorem dX11_add_37 : decode cX11_add 37 = .ok (.if_icmp .lt 13, 3) := by decide +kernel
theorem dX11_add_50 : decode cX11_add 50 = .ok (.aload_n 0, 1) := by decide +kernel
theorem dX11_add_51 : decode cX11_add 51 = .ok (.getfield 19, 3) := by decide +kernel
theorem dX11_add_54 : decode cX11_add 54 = .ok (.aload_n 0, 1) := by decide +kernel
theorem dX11_add_55 : decode cX11_add 55 = .ok (.getfield 10, 3) := by decide +kernel
theorem dX11_add_58 : decode cX11_add 58 = .ok (.iload_n 1, 1) := by decide +kernel
theorem dX11_add_59 : decode cX11_add 59 = .ok (.iload_n 2, 1) := by decide +kernel
theorem dX11_add_60 : decode cX11_add 60 = .ok (.invokevirtual 124, 3) := by decide +kernel
theorem dX11_add_63 : decode cX11_add 63 = .ok (.istore_n 3, 1) := by decide +kernel
theorem dX11_add_64 : decode cX11_add 64 = .ok (.aload_n 0, 1) := by decide +kernel
theorem dX11_add_65 : decode cX11_add 65 = .ok (.getfield 10, 3) := by decide +kernel
theorem dX11_add_68 : decode cX11_add 68 = .ok (.invokevirtual 101, 3) := by decide +kernel
theorem dX11_add_71 : decode cX11_add 71 = .ok (.iload_n 3, 1) := by decide +kernel
theorem dX11_add_72 : decode cX11_add 72 = .ok (.ireturn, 1) := by decide +kernel
theorem dX11_revise_0 : decode cX11_revise 0 = .ok (.aload_n 0, 1) := by decide +kernel
theorem dX11_revise_1 : decode cX11_revise 1 = .ok (.iload_n 1, 1) := by decide +kernel
theorem dX11_revise_2 : decode cX11_revise 2 = .ok (.invokevirtual 128, 3) := by decide +kernel
theorem dX11_drop_0 : decode cX11_drop 0 = .ok (.aload_n 0, 1) := by decide +kernel
theorem dX11_drop_1 : decode cX11_drop 1 = .ok (.iload_n 1, 1) := by decide +kernel
theorem dX11_drop_2 : decode cX11_drop 2 = .ok (.invokevirtual 128, 3) := by decide +kernel
theorem dX11_texts_0 : decode cX11_texts 0 = .ok (.aload_n 0, 1) := by decide +kernel
theorem dX11_texts_1 : decode cX11_texts 1 = .ok (.getfield 19, 3) := by decide +kernel
theorem dX11_texts_4 : decode cX11_texts 4 = .ok (.invokevirtual 142, 3) := by decide +kernel
theorem dX11_texts_7 : decode cX11_texts 7 = .ok (.ireturn, 1) := by decide +kernel
theorem dX11_isThere_0 : decode cX11_isThere 0 = .ok (.aload_n 0, 1) := by decide +kernel
theorem dX11_isThere_1 : decode cX11_isThere 1 = .ok (.getfield 19, 3) := by decide +kernel
theorem dX11_isThere_4 : decode cX11_isThere 4 = .ok (.iload_n 1, 1) := by decide +kernel
theorem dX11_isThere_5 : decode cX11_isThere 5 = .ok (.invokevirtual 145, 3) := by decide +kernel
theorem dX11_isThere_8 : decode cX11_isThere 8 = .ok (.ifnull 7, 3) := by decide +kernel
theorem dX11_isThere_15 : decode cX11_isThere 15 = .ok (.iconst 0, 1) := by decide +kernel
theorem dX11_isThere_16 : decode cX11_isThere 16 = .ok (.ireturn, 1) := by decide +kernel
theorem dX11_length_0 : decode cX11_length 0 = .ok (.aload_n 0, 1) := by decide +kernel
theorem dX11_length_1 : decode cX11_length 1 = .ok (.iload_n 1, 1) := by decide +kernel
theorem dX11_length_2 : decode cX11_length 2 = .ok (.invokevirtual 128, 3) := by decide +kernel
theorem dX11_tellWord_0 : decode cX11_tellWord 0 = .ok (.aload_n 0, 1) := by decide +kernel
theorem dX11_tellWord_1 : decode cX11_tellWord 1 = .ok (.iload_n 1, 1) := by decide +kernel
theorem dX11_tellWord_2 : decode cX11_tellWord 2 = .ok (.invokevirtual 128, 3) := by decide +kernel
theorem dX11_value_0 : decode cX11_value 0 = .ok (.aload_n 0, 1) := by decide +kernel
theorem dX11_value_1 : decode cX11_value 1 = .ok (.iload_n 1, 1) := by decide +kernel
theorem dX11_value_2 : decode cX11_value 2 = .ok (.invokevirtual 128, 3) := by decide +kernel
theorem dX11_tag_0 : decode cX11_tag 0 = .ok (.aload_n 0, 1) := by decide +kernel
theorem dX11_tag_1 : decode cX11_tag 1 = .ok (.iload_n 1, 1) := by decide +kernel
theorem dX11_tag_2 : decode cX11_tag 2 = .ok (.invokevirtual 128, 3) := by decide +kernel
theorem dX11_words_0 : decode cX11_words 0 = .ok (.aload_n 0, 1) := by decide +kernel
theorem dX11_words_1 : decode cX11_words 1 = .ok (.getfield 19, 3) := by decide +kernel
theorem dX11_words_4 : decode cX11_words 4 = .ok (.aload_n 0, 1) := by decide +kernel
theorem dX11_words_5 : decode cX11_words 5 = .ok (.getfield 29, 3) := by decide +kernel
theorem dX11_words_8 : decode cX11_words 8 = .ok (.invokevirtual 169, 3) := by decide +kernel
theorem dX11_words_11 : decode cX11_words 11 = .ok (.aload_n 0, 1) := by decide +kernel
theorem dX11_words_12 : decode cX11_words 12 = .ok (.getfield 29, 3) := by decide +kernel
theorem dX11_words_15 : decode cX11_words 15 = .ok (.invokevirtual 153, 3) := by decide +kernel
theorem dX11_words_18 : decode cX11_words 18 = .ok (.ireturn, 1) := by decide +kernel
theorem dX11_tellOf_0 : decode cX11_tellOf 0 = .ok (.aload_n 0, 1) := by decide +kernel
theorem dX11_tellOf_1 : decode cX11_tellOf 1 = .ok (.getfield 19, 3) := by decide +kernel
theorem dX11_tellOf_4 : decode cX11_tellOf 4 = .ok (.aload_n 0, 1) := by decide +kernel
theorem dX11_tellOf_5 : decode cX11_tellOf 5 = .ok (.getfield 29, 3) := by decide +kernel
theorem dX11_tellOf_8 : decode cX11_tellOf 8 = .ok (.invokevirtual 169, 3) := by decide +kernel
theorem dX11_tellOf_11 : decode cX11_tellOf 11 = .ok (.iload_n 1, 1) := by decide +kernel
theorem dX11_tellOf_12 : decode cX11_tellOf 12 = .ok (.ifCond .lt 14, 3) := by decide +kernel
theorem dX11_tellOf_15 : decode cX11_tellOf 15 = .ok (.iload_n 1, 1) := by decide +kernel
theorem dX11_tellOf_16 : decode cX11_tellOf 16 = .ok (.aload_n 0, 1) := by decide +kernel
theorem dX11_tellOf_17 : decode cX11_tellOf 17 = .ok (.getfield 29, 3) := by decide +kernel
theorem dX11_tellOf_20 : decode cX11_tellOf 20 = .ok (.invokevirtual 153, 3) := by decide +kernel
theorem dX11_tellOf_23 : decode cX11_tellOf 23 = .ok (.if_icmp .lt 13, 3) := by decide +kernel
theorem dX11_tellOf_26 : decode cX11_tellOf 26 = .ok (.new 104, 3) := by decide +kernel
theorem dX11_tellOf_29 : decode cX11_tellOf 29 = .ok (.dup, 1) := by decide +kernel
theorem dX11_tellOf_30 : decode cX11_tellOf 30 = .ok (.ldc 173, 2) := by decide +kernel
theorem dX11_tellOf_32 : decode cX11_tellOf 32 = .ok (.invokespecial 108, 3) := by decide +kernel
theorem dX11_tellOf_35 : decode cX11_tellOf 35 = .ok (.athrow, 1) := by decide +kernel
theorem dX11_having_0 : decode cX11_having 0 = .ok (.aload_n 0, 1) := by decide +kernel
theorem dX11_having_1 : decode cX11_having 1 = .ok (.invokevirtual 175, 3) := by decide +kernel
theorem dX11_beginning_0 : decode cX11_beginning 0 = .ok (.aload_n 0, 1) := by decide +kernel
theorem dX11_beginning_1 : decode cX11_beginning 1 = .ok (.invokevirtual 175, 3) := by decide +kernel
theorem dX11_slips_0 : decode cX11_slips 0 = .ok (.aload_n 0, 1) := by decide +kernel
theorem dX11_slips_1 : decode cX11_slips 1 = .ok (.invokevirtual 175, 3) := by decide +kernel
theorem dX11_suggest_0 : decode cX11_suggest 0 = .ok (.aload_n 0, 1) := by decide +kernel
theorem dX11_suggest_1 : decode cX11_suggest 1 = .ok (.invokevirtual 175, 3) := by decide +kernel
theorem dX11_parts_0 : decode cX11_parts 0 = .ok (.aload_n 0, 1) := by decide +kernel
theorem dX11_parts_1 : decode cX11_parts 1 = .ok (.getfield 19, 3) := by decide +kernel
theorem dX11_parts_4 : decode cX11_parts 4 = .ok (.invokevirtual 198, 3) := by decide +kernel
theorem dX11_parts_7 : decode cX11_parts 7 = .ok (.ireturn, 1) := by decide +kernel
theorem dX11_partSize_0 : decode cX11_partSize 0 = .ok (.aload_n 0, 1) := by decide +kernel
theorem dX11_partSize_1 : decode cX11_partSize 1 = .ok (.iload_n 1, 1) := by decide +kernel
theorem dX11_partSize_2 : decode cX11_partSize 2 = .ok (.invokevirtual 201, 3) := by decide +kernel
theorem dX11_partSize_5 : decode cX11_partSize 5 = .ok (.aload_n 0, 1) := by decide +kernel
theorem dX11_partSize_6 : decode cX11_partSize 6 = .ok (.getfield 19, 3) := by decide +kernel
theorem dX11_partSize_9 : decode cX11_partSize 9 = .ok (.iload_n 1, 1) := by decide +kernel
theorem dX11_partSize_10 : decode cX11_partSize 10 = .ok (.invokevirtual 205, 3) := by decide +kernel
theorem dX11_partSize_13 : decode cX11_partSize 13 = .ok (.ireturn, 1) := by decide +kernel
theorem dX11_seal_0 : decode cX11_seal 0 = .ok (.aload_n 0, 1) := by decide +kernel
theorem dX11_seal_1 : decode cX11_seal 1 = .ok (.getfield 19, 3) := by decide +kernel
theorem dX11_seal_4 : decode cX11_seal 4 = .ok (.aload_n 0, 1) := by decide +kernel
theorem dX11_seal_5 : decode cX11_seal 5 = .ok (.getfield 19, 3) := by decide +kernel
theorem dX11_seal_8 : decode cX11_seal 8 = .ok (.invokevirtual 198, 3) := by decide +kernel
theorem dX11_seal_11 : decode cX11_seal 11 = .ok (.iconst 1, 1) := by decide +kernel
theorem dX11_seal_12 : decode cX11_seal 12 = .ok (.isub, 1) := by decide +kernel
theorem dX11_seal_13 : decode cX11_seal 13 = .ok (.invokevirtual 205, 3) := by decide +kernel
theorem dX11_seal_16 : decode cX11_seal 16 = .ok (.ifCond .ne 13, 3) := by decide +kernel
theorem dX11_seal_19 : decode cX11_seal 19 = .ok (.new 209, 3) := by decide +kernel
theorem dX11_seal_22 : decode cX11_seal 22 = .ok (.dup, 1) := by decide +kernel
theorem dX11_seal_23 : decode cX11_seal 23 = .ok (.ldc 211, 2) := by decide +kernel
theorem dX11_seal_25 : decode cX11_seal 25 = .ok (.invokespecial 213, 3) := by decide +kernel
theorem dX11_seal_28 : decode cX11_seal 28 = .ok (.athrow, 1) := by decide +kernel
theorem dX11_join_0 : decode cX11_join 0 = .ok (.iload_n 1, 1) := by decide +kernel
theorem dX11_join_1 : decode cX11_join 1 = .ok (.ifCond .lt 16, 3) := by decide +kernel
theorem dX11_join_4 : decode cX11_join 4 = .ok (.iload_n 1, 1) := by decide +kernel
theorem dX11_join_5 : decode cX11_join 5 = .ok (.aload_n 0, 1) := by decide +kernel
theorem dX11_join_6 : decode cX11_join 6 = .ok (.getfield 19, 3) := by decide +kernel
theorem dX11_join_9 : decode cX11_join 9 = .ok (.invokevirtual 198, 3) := by decide +kernel
theorem dX11_join_12 : decode cX11_join 12 = .ok (.iconst 1, 1) := by decide +kernel
theorem dX11_join_13 : decode cX11_join 13 = .ok (.isub, 1) := by decide +kernel
theorem dX11_join_14 : decode cX11_join 14 = .ok (.if_icmp .lt 13, 3) := by decide +kernel
theorem dX11_join_17 : decode cX11_join 17 = .ok (.new 104, 3) := by decide +kernel
theorem dX11_join_20 : decode cX11_join 20 = .ok (.dup, 1) := by decide +kernel
theorem dX11_join_21 : decode cX11_join 21 = .ok (.ldc 219, 2) := by decide +kernel
theorem dX11_join_23 : decode cX11_join 23 = .ok (.invokespecial 108, 3) := by decide +kernel
theorem dX11_join_26 : decode cX11_join 26 = .ok (.athrow, 1) := by decide +kernel
theorem dX11_packed_0 : decode cX11_packed 0 = .ok (.aload_n 0, 1) := by decide +kernel
theorem dX11_packed_1 : decode cX11_packed 1 = .ok (.iload_n 1, 1) := by decide +kernel
theorem dX11_packed_2 : decode cX11_packed 2 = .ok (.invokevirtual 201, 3) := by decide +kernel
theorem dX11_packed_5 : decode cX11_packed 5 = .ok (.aload_n 0, 1) := by decide +kernel
theorem dX11_packed_6 : decode cX11_packed 6 = .ok (.invokevirtual 175, 3) := by decide +kernel
theorem dX11_byteAt_0 : decode cX11_byteAt 0 = .ok (.iload_n 1, 1) := by decide +kernel
theorem dX11_byteAt_1 : decode cX11_byteAt 1 = .ok (.ifCond .lt 14, 3) := by decide +kernel
theorem dX11_byteAt_4 : decode cX11_byteAt 4 = .ok (.iload_n 1, 1) := by decide +kernel
theorem dX11_byteAt_5 : decode cX11_byteAt 5 = .ok (.aload_n 0, 1) := by decide +kernel
theorem dX11_byteAt_6 : decode cX11_byteAt 6 = .ok (.getfield 36, 3) := by decide +kernel
theorem dX11_byteAt_9 : decode cX11_byteAt 9 = .ok (.invokevirtual 228, 3) := by decide +kernel
theorem dX11_byteAt_12 : decode cX11_byteAt 12 = .ok (.if_icmp .lt 13, 3) := by decide +kernel
theorem dX11_byteAt_15 : decode cX11_byteAt 15 = .ok (.new 104, 3) := by decide +kernel
theorem dX11_byteAt_18 : decode cX11_byteAt 18 = .ok (.dup, 1) := by decide +kernel
theorem dX11_byteAt_19 : decode cX11_byteAt 19 = .ok (.ldc 229, 2) := by decide +kernel
theorem dX11_byteAt_21 : decode cX11_byteAt 21 = .ok (.invokespecial 108, 3) := by decide +kernel
theorem dX11_byteAt_24 : decode cX11_byteAt 24 = .ok (.athrow, 1) := by decide +kernel
theorem dX11_ask_0 : decode cX11_ask 0 = .ok (.aload_n 0, 1) := by decide +kernel
theorem dX11_ask_1 : decode cX11_ask 1 = .ok (.getfield 70, 3) := by decide +kernel
theorem dX11_ask_4 : decode cX11_ask 4 = .ok (.aload_n 0, 1) := by decide +kernel
theorem dX11_ask_5 : decode cX11_ask 5 = .ok (.getfield 10, 3) := by decide +kernel
theorem dX11_ask_8 : decode cX11_ask 8 = .ok (.aload_n 0, 1) := by decide +kernel
theorem dX11_ask_9 : decode cX11_ask 9 = .ok (.getfield 60, 3) := by decide +kernel
theorem dX11_ask_12 : decode cX11_ask 12 = .ok (.invokevirtual 233, 3) := by decide +kernel
theorem dX11_ask_15 : decode cX11_ask 15 = .ok (.istore_n 1, 1) := by decide +kernel
theorem dX11_ask_16 : decode cX11_ask 16 = .ok (.aload_n 0, 1) := by decide +kernel
theorem dX11_ask_17 : decode cX11_ask 17 = .ok (.getfield 10, 3) := by decide +kernel
theorem dX11_ask_20 : decode cX11_ask 20 = .ok (.invokevirtual 101, 3) := by decide +kernel
theorem dX11_ask_23 : decode cX11_ask 23 = .ok (.iload_n 1, 1) := by decide +kernel
theorem dX11_ask_24 : decode cX11_ask 24 = .ok (.ifCond .lt 21, 3) := by decide +kernel
theorem dX11_ask_45 : decode cX11_ask 45 = .ok (.iload_n 1, 1) := by decide +kernel
theorem dX11_ask_46 : decode cX11_ask 46 = .ok (.ireturn, 1) := by decide +kernel
theorem dX11_simplify_0 : decode cX11_simplify 0 = .ok (.aload_n 0, 1) := by decide +kernel
theorem dX11_simplify_1 : decode cX11_simplify 1 = .ok (.invokevirtual 237, 3) := by decide +kernel
theorem dX11_tellQuestion_0 : decode cX11_tellQuestion 0 = .ok (.aload_n 0, 1) := by decide +kernel
theorem dX11_tellQuestion_1 : decode cX11_tellQuestion 1 = .ok (.invokevirtual 237, 3) := by decide +kernel
theorem dX11_fits_0 : decode cX11_fits 0 = .ok (.aload_n 0, 1) := by decide +kernel
theorem dX11_fits_1 : decode cX11_fits 1 = .ok (.invokevirtual 237, 3) := by decide +kernel
theorem dX11_hits_0 : decode cX11_hits 0 = .ok (.aload_n 0, 1) := by decide +kernel
theorem dX11_hits_1 : decode cX11_hits 1 = .ok (.invokevirtual 237, 3) := by decide +kernel
theorem dX11_hitAt_0 : decode cX11_hitAt 0 = .ok (.aload_n 0, 1) := by decide +kernel
theorem dX11_hitAt_1 : decode cX11_hitAt 1 = .ok (.invokevirtual 237, 3) := by decide +kernel
theorem dX11_top_0 : decode cX11_top 0 = .ok (.aload_n 0, 1) := by decide +kernel
theorem dX11_top_1 : decode cX11_top 1 = .ok (.invokevirtual 237, 3) := by decide +kernel
theorem dX11_tellWorth_0 : decode cX11_tellWorth 0 = .ok (.aload_n 0, 1) := by decide +kernel
theorem dX11_tellWorth_1 : decode cX11_tellWorth 1 = .ok (.invokevirtual 237, 3) := by decide +kernel
theorem dX11_tagged_0 : decode cX11_tagged 0 = .ok (.aload_n 0, 1) := by decide +kernel
theorem dX11_tagged_1 : decode cX11_tagged 1 = .ok (.invokevirtual 237, 3) := by decide +kernel
theorem dX11_valued_0 : decode cX11_valued 0 = .ok (.aload_n 0, 1) := by decide +kernel
theorem dX11_valued_1 : decode cX11_valued 1 = .ok (.invokevirtual 237, 3) := by decide +kernel
theorem dX11_spanBegin_0 : decode cX11_spanBegin 0 = .ok (.aload_n 0, 1) := by decide +kernel
theorem dX11_spanBegin_1 : decode cX11_spanBegin 1 = .ok (.iload_n 1, 1) := by decide +kernel
theorem dX11_spanBegin_2 : decode cX11_spanBegin 2 = .ok (.invokevirtual 272, 3) := by decide +kernel
theorem dX11_spanLength_0 : decode cX11_spanLength 0 = .ok (.aload_n 0, 1) := by decide +kernel
theorem dX11_spanLength_1 : decode cX11_spanLength 1 = .ok (.iload_n 1, 1) := by decide +kernel
theorem dX11_spanLength_2 : decode cX11_spanLength 2 = .ok (.invokevirtual 272, 3) := by decide +kernel
theorem dX11_save_0 : decode cX11_save 0 = .ok (.aload_n 0, 1) := by decide +kernel
theorem dX11_save_1 : decode cX11_save 1 = .ok (.invokevirtual 237, 3) := by decide +kernel
theorem dX11_news_0 : decode cX11_news 0 = .ok (.aload_n 0, 1) := by decide +kernel
theorem dX11_news_1 : decode cX11_news 1 = .ok (.iload_n 1, 1) := by decide +kernel
theorem dX11_news_2 : decode cX11_news 2 = .ok (.invokevirtual 128, 3) := by decide +kernel
theorem dX11_likeness_0 : decode cX11_likeness 0 = .ok (.aload_n 0, 1) := by decide +kernel
theorem dX11_likeness_1 : decode cX11_likeness 1 = .ok (.iload_n 1, 1) := by decide +kernel
theorem dX11_likeness_2 : decode cX11_likeness 2 = .ok (.invokevirtual 128, 3) := by decide +kernel
theorem dX11_write_0 : decode cX11_write 0 = .ok (.aload_n 0, 1) := by decide +kernel
theorem dX11_write_1 : decode cX11_write 1 = .ok (.getfield 19, 3) := by decide +kernel
theorem dX11_write_4 : decode cX11_write 4 = .ok (.aload_n 0, 1) := by decide +kernel
theorem dX11_write_5 : decode cX11_write 5 = .ok (.getfield 46, 3) := by decide +kernel
theorem dX11_write_8 : decode cX11_write 8 = .ok (.invokevirtual 296, 3) := by decide +kernel
theorem dX11_write_11 : decode cX11_write 11 = .ok (.aload_n 0, 1) := by decide +kernel
theorem dX11_write_12 : decode cX11_write 12 = .ok (.iconst 1, 1) := by decide +kernel
theorem dX11_write_13 : decode cX11_write 13 = .ok (.putfield 49, 3) := by decide +kernel
theorem dX11_write_16 : decode cX11_write 16 = .ok (.aload_n 0, 1) := by decide +kernel
theorem dX11_write_17 : decode cX11_write 17 = .ok (.getfield 46, 3) := by decide +kernel
theorem dX11_write_20 : decode cX11_write 20 = .ok (.invokevirtual 228, 3) := by decide +kernel
theorem dX11_write_23 : decode cX11_write 23 = .ok (.ireturn, 1) := by decide +kernel
theorem dX11_writtenAt_0 : decode cX11_writtenAt 0 = .ok (.iload_n 1, 1) := by decide +kernel
theorem dX11_writtenAt_1 : decode cX11_writtenAt 1 = .ok (.ifCond .lt 14, 3) := by decide +kernel
theorem dX11_writtenAt_4 : decode cX11_writtenAt 4 = .ok (.iload_n 1, 1) := by decide +kernel
theorem dX11_writtenAt_5 : decode cX11_writtenAt 5 = .ok (.aload_n 0, 1) := by decide +kernel
theorem dX11_writtenAt_6 : decode cX11_writtenAt 6 = .ok (.getfield 46, 3) := by decide +kernel
theorem dX11_writtenAt_9 : decode cX11_writtenAt 9 = .ok (.invokevirtual 228, 3) := by decide +kernel
theorem dX11_writtenAt_12 : decode cX11_writtenAt 12 = .ok (.if_icmp .lt 14, 3) := by decide +kernel
theorem dX11_writtenAt_15 : decode cX11_writtenAt 15 = .ok (.new 104, 3) := by decide +kernel
theorem dX11_writtenAt_18 : decode cX11_writtenAt 18 = .ok (.dup, 1) := by decide +kernel
theorem dX11_writtenAt_19 : decode cX11_writtenAt 19 = .ok (.ldc_w 300, 3) := by decide +kernel
theorem dX11_writtenAt_22 : decode cX11_writtenAt 22 = .ok (.invokespecial 108, 3) := by decide +kernel
theorem dX11_writtenAt_25 : decode cX11_writtenAt 25 = .ok (.athrow, 1) := by decide +kernel
theorem dX11_reread_0 : decode cX11_reread 0 = .ok (.aload_n 0, 1) := by decide +kernel
theorem dX11_reread_1 : decode cX11_reread 1 = .ok (.getfield 49, 3) := by decide +kernel
theorem dX11_reread_4 : decode cX11_reread 4 = .ok (.ifCond .ne 14, 3) := by decide +kernel
theorem dX11_reread_7 : decode cX11_reread 7 = .ok (.new 195, 3) := by decide +kernel
theorem dX11_reread_10 : decode cX11_reread 10 = .ok (.dup, 1) := by decide +kernel
theorem dX11_reread_11 : decode cX11_reread 11 = .ok (.ldc_w 302, 3) := by decide +kernel
theorem dX11_reread_14 : decode cX11_reread 14 = .ok (.invokespecial 197, 3) := by decide +kernel
theorem dX11_reread_17 : decode cX11_reread 17 = .ok (.athrow, 1) := by decide +kernel
theorem dX11_checksum_0 : decode cX11_checksum 0 = .ok (.aload_n 0, 1) := by decide +kernel
theorem dX11_checksum_1 : decode cX11_checksum 1 = .ok (.getfield 19, 3) := by decide +kernel
theorem dX11_checksum_4 : decode cX11_checksum 4 = .ok (.ldc2_w 307, 3) := by decide +kernel
theorem dX11_checksum_7 : decode cX11_checksum 7 = .ok (.invokevirtual 309, 3) := by decide +kernel
theorem dX11_checksum_10 : decode cX11_checksum 10 = .ok (.lstore_n 1, 1) := by decide +kernel
theorem dX11_checksum_11 : decode cX11_checksum 11 = .ok (.iconst 0, 1) := by decide +kernel
theorem dX11_checksum_12 : decode cX11_checksum 12 = .ok (.istore_n 3, 1) := by decide +kernel
theorem dX11_checksum_13 : decode cX11_checksum 13 = .ok (.iload_n 3, 1) := by decide +kernel
theorem dX11_checksum_14 : decode cX11_checksum 14 = .ok (.aload_n 0, 1) := by decide +kernel
theorem dX11_checksum_15 : decode cX11_checksum 15 = .ok (.getfield 10, 3) := by decide +kernel
theorem dX11_checksum_18 : decode cX11_checksum 18 = .ok (.invokevirtual 88, 3) := by decide +kernel
theorem dX11_checksum_21 : decode cX11_checksum 21 = .ok (.if_icmp .ge 25, 3) := by decide +kernel
theorem dX11_checksum_46 : decode cX11_checksum 46 = .ok (.lload_n 1, 1) := by decide +kernel
theorem dX11_checksum_47 : decode cX11_checksum 47 = .ok (.lreturn, 1) := by decide +kernel
theorem dX11_isSound_0 : decode cX11_isSound 0 = .ok (.aload_n 0, 1) := by decide +kernel
theorem dX11_isSound_1 : decode cX11_isSound 1 = .ok (.invokevirtual 314, 3) := by decide +kernel
theorem dX11_isSound_4 : decode cX11_isSound 4 = .ok (.ifCond .ne 5, 3) := by decide +kernel
theorem dX11_isSound_9 : decode cX11_isSound 9 = .ok (.aload_n 0, 1) := by decide +kernel
theorem dX11_isSound_10 : decode cX11_isSound 10 = .ok (.getfield 56, 3) := by decide +kernel
theorem dX11_isSound_13 : decode cX11_isSound 13 = .ok (.invokevirtual 318, 3) := by decide +kernel
theorem dX11_isSound_16 : decode cX11_isSound 16 = .ok (.ifCond .eq 5, 3) := by decide +kernel
theorem dX11_isSound_19 : decode cX11_isSound 19 = .ok (.iconst 1, 1) := by decide +kernel
theorem dX11_isSound_20 : decode cX11_isSound 20 = .ok (.ireturn, 1) := by decide +kernel
theorem dX11_isTag_0 : decode cX11_isTag 0 = .ok (.iload_n 0, 1) := by decide +kernel
theorem dX11_isTag_1 : decode cX11_isTag 1 = .ok (.bipush 97, 2) := by decide +kernel
theorem dX11_isTag_3 : decode cX11_isTag 3 = .ok (.if_icmp .lt 13, 3) := by decide +kernel
theorem dX11_isTag_6 : decode cX11_isTag 6 = .ok (.iload_n 0, 1) := by decide +kernel
theorem dX11_isTag_7 : decode cX11_isTag 7 = .ok (.bipush 122, 2) := by decide +kernel
theorem dX11_isTag_9 : decode cX11_isTag 9 = .ok (.if_icmp .gt 7, 3) := by decide +kernel
theorem dX11_isTag_12 : decode cX11_isTag 12 = .ok (.iconst 1, 1) := by decide +kernel
theorem dX11_isTag_13 : decode cX11_isTag 13 = .ok (.goto 4, 3) := by decide +kernel
theorem dX11_isTag_16 : decode cX11_isTag 16 = .ok (.iconst 0, 1) := by decide +kernel
theorem dX11_isTag_17 : decode cX11_isTag 17 = .ok (.ireturn, 1) := by decide +kernel
theorem dX11_textOf_0 : decode cX11_textOf 0 = .ok (.aload_n 0, 1) := by decide +kernel
theorem dX11_textOf_1 : decode cX11_textOf 1 = .ok (.getfield 19, 3) := by decide +kernel
theorem dX11_textOf_4 : decode cX11_textOf 4 = .ok (.iload_n 1, 1) := by decide +kernel
theorem dX11_textOf_5 : decode cX11_textOf 5 = .ok (.invokevirtual 145, 3) := by decide +kernel
theorem dX11_textOf_8 : decode cX11_textOf 8 = .ok (.astore_n 2, 1) := by decide +kernel
theorem dX11_textOf_9 : decode cX11_textOf 9 = .ok (.aload_n 2, 1) := by decide +kernel
theorem dX11_textOf_10 : decode cX11_textOf 10 = .ok (.ifnonnull 14, 3) := by decide +kernel
theorem dX11_textOf_13 : decode cX11_textOf 13 = .ok (.new 195, 3) := by decide +kernel
theorem dX11_textOf_16 : decode cX11_textOf 16 = .ok (.dup, 1) := by decide +kernel
theorem dX11_textOf_17 : decode cX11_textOf 17 = .ok (.ldc_w 329, 3) := by decide +kernel
theorem dX11_textOf_20 : decode cX11_textOf 20 = .ok (.invokespecial 197, 3) := by decide +kernel
theorem dX11_textOf_23 : decode cX11_textOf 23 = .ok (.athrow, 1) := by decide +kernel
theorem dX11_needPart_0 : decode cX11_needPart 0 = .ok (.iload_n 1, 1) := by decide +kernel
theorem dX11_needPart_1 : decode cX11_needPart 1 = .ok (.ifCond .lt 14, 3) := by decide +kernel
theorem dX11_needPart_4 : decode cX11_needPart 4 = .ok (.iload_n 1, 1) := by decide +kernel
theorem dX11_needPart_5 : decode cX11_needPart 5 = .ok (.aload_n 0, 1) := by decide +kernel
theorem dX11_needPart_6 : decode cX11_needPart 6 = .ok (.getfield 19, 3) := by decide +kernel
theorem dX11_needPart_9 : decode cX11_needPart 9 = .ok (.invokevirtual 198, 3) := by decide +kernel
theorem dX11_needPart_12 : decode cX11_needPart 12 = .ok (.if_icmp .lt 14, 3) := by decide +kernel
theorem dX11_needPart_15 : decode cX11_needPart 15 = .ok (.new 104, 3) := by decide +kernel
theorem dX11_needPart_18 : decode cX11_needPart 18 = .ok (.dup, 1) := by decide +kernel
theorem dX11_needPart_19 : decode cX11_needPart 19 = .ok (.ldc_w 331, 3) := by decide +kernel
theorem dX11_needPart_22 : decode cX11_needPart 22 = .ok (.invokespecial 108, 3) := by decide +kernel
theorem dX11_needPart_25 : decode cX11_needPart 25 = .ok (.athrow, 1) := by decide +kernel
theorem dX11_needPart_26 : decode cX11_needPart 26 = .ok (.return_, 1) := by decide +kernel
theorem dX11_needQuestion_0 : decode cX11_needQuestion 0 = .ok (.aload_n 0, 1) := by decide +kernel
theorem dX11_needQuestion_1 : decode cX11_needQuestion 1 = .ok (.getfield 56, 3) := by decide +kernel
theorem dX11_needQuestion_4 : decode cX11_needQuestion 4 = .ok (.invokevirtual 318, 3) := by decide +kernel
theorem dX11_needQuestion_7 : decode cX11_needQuestion 7 = .ok (.ifCond .eq 14, 3) := by decide +kernel
theorem dX11_needQuestion_10 : decode cX11_needQuestion 10 = .ok (.new 92, 3) := by decide +kernel
theorem dX11_needQuestion_13 : decode cX11_needQuestion 13 = .ok (.dup, 1) := by decide +kernel
theorem dX11_needQuestion_14 : decode cX11_needQuestion 14 = .ok (.ldc_w 333, 3) := by decide +kernel
theorem dX11_needQuestion_17 : decode cX11_needQuestion 17 = .ok (.invokespecial 96, 3) := by decide +kernel
theorem dX11_needQuestion_20 : decode cX11_needQuestion 20 = .ok (.athrow, 1) := by decide +kernel
theorem dX11_needSpan_0 : decode cX11_needSpan 0 = .ok (.aload_n 0, 1) := by decide +kernel
theorem dX11_needSpan_1 : decode cX11_needSpan 1 = .ok (.invokevirtual 237, 3) := by decide +kernel
theorem dX11_onlyWord_0 : decode cX11_onlyWord 0 = .ok (.aload_n 0, 1) := by decide +kernel
theorem dX11_onlyWord_1 : decode cX11_onlyWord 1 = .ok (.getfield 10, 3) := by decide +kernel
theorem dX11_onlyWord_4 : decode cX11_onlyWord 4 = .ok (.invokevirtual 343, 3) := by decide +kernel
theorem dX11_onlyWord_7 : decode cX11_onlyWord 7 = .ok (.lstore_n 1, 1) := by decide +kernel
theorem dX11_onlyWord_8 : decode cX11_onlyWord 8 = .ok (.lload_n 1, 1) := by decide +kernel
theorem dX11_onlyWord_9 : decode cX11_onlyWord 9 = .ok (.lconst 0, 1) := by decide +kernel
theorem dX11_onlyWord_10 : decode cX11_onlyWord 10 = .ok (.lcmp, 1) := by decide +kernel
theorem dX11_onlyWord_11 : decode cX11_onlyWord 11 = .ok (.ifCond .ne 14, 3) := by decide +kernel
theorem dX11_onlyWord_14 : decode cX11_onlyWord 14 = .ok (.new 81, 3) := by decide +kernel
theorem dX11_onlyWord_17 : decode cX11_onlyWord 17 = .ok (.dup, 1) := by decide +kernel
theorem dX11_onlyWord_18 : decode cX11_onlyWord 18 = .ok (.ldc_w 344, 3) := by decide +kernel
theorem dX11_onlyWord_21 : decode cX11_onlyWord 21 = .ok (.invokespecial 85, 3) := by decide +kernel
theorem dX11_onlyWord_24 : decode cX11_onlyWord 24 = .ok (.athrow, 1) := by decide +kernel
theorem dX11_areRowsSound_0 : decode cX11_areRowsSound 0 = .ok (.aload_n 0, 1) := by decide +kernel
theorem dX11_areRowsSound_1 : decode cX11_areRowsSound 1 = .ok (.getfield 19, 3) := by decide +kernel
theorem dX11_areRowsSound_4 : decode cX11_areRowsSound 4 = .ok (.aload_n 0, 1) := by decide +kernel
theorem dX11_areRowsSound_5 : decode cX11_areRowsSound 5 = .ok (.getfield 29, 3) := by decide +kernel
theorem dX11_areRowsSound_8 : decode cX11_areRowsSound 8 = .ok (.invokevirtual 169, 3) := by decide +kernel
theorem dX11_areRowsSound_11 : decode cX11_areRowsSound 11 = .ok (.aload_n 0, 1) := by decide +kernel
theorem dX11_areRowsSound_12 : decode cX11_areRowsSound 12 = .ok (.getfield 23, 3) := by decide +kernel
theorem dX11_areRowsSound_15 : decode cX11_areRowsSound 15 = .ok (.aload_n 0, 1) := by decide +kernel
theorem dX11_areRowsSound_16 : decode cX11_areRowsSound 16 = .ok (.getfield 19, 3) := by decide +kernel
theorem dX11_areRowsSound_19 : decode cX11_areRowsSound 19 = .ok (.invokevirtual 358, 3) := by decide +kernel
theorem dX11_areRowsSound_22 : decode cX11_areRowsSound 22 = .ok (.iconst 0, 1) := by decide +kernel
theorem dX11_areRowsSound_23 : decode cX11_areRowsSound 23 = .ok (.istore_n 1, 1) := by decide +kernel
theorem dX11_areRowsSound_24 : decode cX11_areRowsSound 24 = .ok (.iload_n 1, 1) := by decide +kernel
theorem dX11_areRowsSound_25 : decode cX11_areRowsSound 25 = .ok (.aload_n 0, 1) := by decide +kernel
theorem dX11_areRowsSound_26 : decode cX11_areRowsSound 26 = .ok (.getfield 19, 3) := by decide +kernel
theorem dX11_areRowsSound_29 : decode cX11_areRowsSound 29 = .ok (.invokevirtual 198, 3) := by decide +kernel
theorem dX11_areRowsSound_32 : decode cX11_areRowsSound 32 = .ok (.if_icmp .ge 96, 3) := by decide +kernel
theorem dX11_areRowsSound_35 : decode cX11_areRowsSound 35 = .ok (.iconst 0, 1) := by decide +kernel
theorem dX11_areRowsSound_36 : decode cX11_areRowsSound 36 = .ok (.istore_n 2, 1) := by decide +kernel
theorem dX11_areRowsSound_37 : decode cX11_areRowsSound 37 = .ok (.iload_n 2, 1) := by decide +kernel
theorem dX11_areRowsSound_38 : decode cX11_areRowsSound 38 = .ok (.aload_n 0, 1) := by decide +kernel
theorem dX11_areRowsSound_39 : decode cX11_areRowsSound 39 = .ok (.getfield 29, 3) := by decide +kernel
theorem dX11_areRowsSound_42 : decode cX11_areRowsSound 42 = .ok (.invokevirtual 153, 3) := by decide +kernel
theorem dX11_areRowsSound_45 : decode cX11_areRowsSound 45 = .ok (.if_icmp .ge 77, 3) := by decide +kernel
theorem dX11_areRowsSound_122 : decode cX11_areRowsSound 122 = .ok (.iinc 1 1, 3) := by decide +kernel
theorem dX11_areRowsSound_125 : decode cX11_areRowsSound 125 = .ok (.goto (-101), 3) := by decide +kernel
theorem dX11_areRowsSound_128 : decode cX11_areRowsSound 128 = .ok (.aload_n 0, 1) := by decide +kernel
theorem dX11_areRowsSound_129 : decode cX11_areRowsSound 129 = .ok (.getfield 23, 3) := by decide +kernel
theorem dX11_areRowsSound_132 : decode cX11_areRowsSound 132 = .ok (.aload_n 0, 1) := by decide +kernel
theorem dX11_areRowsSound_133 : decode cX11_areRowsSound 133 = .ok (.getfield 19, 3) := by decide +kernel
theorem dX11_areRowsSound_136 : decode cX11_areRowsSound 136 = .ok (.invokevirtual 370, 3) := by decide +kernel
theorem dX11_areRowsSound_139 : decode cX11_areRowsSound 139 = .ok (.ireturn, 1) := by decide +kernel
theorem dX12_init_0 : decode cX12_init 0 = .ok (.aload_n 0, 1) := by decide +kernel
theorem dX12_init_1 : decode cX12_init 1 = .ok (.invokespecial 1, 3) := by decide +kernel
theorem dX12_init_4 : decode cX12_init 4 = .ok (.aload_n 0, 1) := by decide +kernel
theorem dX12_init_5 : decode cX12_init 5 = .ok (.iconst 1, 1) := by decide +kernel
theorem dX12_init_6 : decode cX12_init 6 = .ok (.putfield 7, 3) := by decide +kernel
theorem dX12_init_9 : decode cX12_init 9 = .ok (.aload_n 0, 1) := by decide +kernel
theorem dX12_init_10 : decode cX12_init 10 = .ok (.iconst 0, 1) := by decide +kernel
theorem dX12_init_11 : decode cX12_init 11 = .ok (.anewarray 8, 3) := by decide +kernel
theorem dX12_init_14 : decode cX12_init 14 = .ok (.putfield 13, 3) := by decide +kernel
theorem dX12_init_17 : decode cX12_init 17 = .ok (.aload_n 0, 1) := by decide +kernel
theorem dX12_init_18 : decode cX12_init 18 = .ok (.bipush 97, 2) := by decide +kernel
theorem dX12_init_20 : decode cX12_init 20 = .ok (.putfield 17, 3) := by decide +kernel
theorem dX12_init_23 : decode cX12_init 23 = .ok (.aload_n 0, 1) := by decide +kernel
theorem dX12_init_24 : decode cX12_init 24 = .ok (.iconst 0, 1) := by decide +kernel
theorem dX12_init_25 : decode cX12_init 25 = .ok (.newarray .long, 2) := by decide +kernel
theorem dX12_init_27 : decode cX12_init 27 = .ok (.putfield 21, 3) := by decide +kernel
theorem dX12_init_30 : decode cX12_init 30 = .ok (.aload_n 0, 1) := by decide +kernel
theorem dX12_init_31 : decode cX12_init 31 = .ok (.iload_n 1, 1) := by decide +kernel
theorem dX12_init_32 : decode cX12_init 32 = .ok (.putfield 25, 3) := by decide +kernel
theorem dX12_init_35 : decode cX12_init 35 = .ok (.return_, 1) := by decide +kernel
theorem dX12_gets_0 : decode cX12_gets 0 = .ok (.aload_n 0, 1) := by decide +kernel
theorem dX12_gets_1 : decode cX12_gets 1 = .ok (.getfield 13, 3) := by decide +kernel
theorem dX12_gets_4 : decode cX12_gets 4 = .ok (.arraylength, 1) := by decide +kernel
theorem dX12_gets_5 : decode cX12_gets 5 = .ok (.iconst 1, 1) := by decide +kernel
theorem dX12_gets_6 : decode cX12_gets 6 = .ok (.iadd, 1) := by decide +kernel
theorem dX12_gets_7 : decode cX12_gets 7 = .ok (.anewarray 8, 3) := by decide +kernel
theorem dX12_gets_10 : decode cX12_gets 10 = .ok (.astore_n 2, 1) := by decide +kernel
theorem dX12_gets_11 : decode cX12_gets 11 = .ok (.iconst 0, 1) := by decide +kernel
theorem dX12_gets_12 : decode cX12_gets 12 = .ok (.istore_n 3, 1) := by decide +kernel
theorem dX12_gets_13 : decode cX12_gets 13 = .ok (.iload_n 3, 1) := by decide +kernel
theorem dX12_gets_14 : decode cX12_gets 14 = .ok (.aload_n 0, 1) := by decide +kernel
theorem dX12_gets_15 : decode cX12_gets 15 = .ok (.getfield 13, 3) := by decide +kernel
theorem dX12_gets_18 : decode cX12_gets 18 = .ok (.arraylength, 1) := by decide +kernel
theorem dX12_gets_19 : decode cX12_gets 19 = .ok (.if_icmp .ge 18, 3) := by decide +kernel
theorem dX12_gets_37 : decode cX12_gets 37 = .ok (.aload_n 2, 1) := by decide +kernel
theorem dX12_gets_38 : decode cX12_gets 38 = .ok (.aload_n 0, 1) := by decide +kernel
theorem dX12_gets_39 : decode cX12_gets 39 = .ok (.getfield 13, 3) := by decide +kernel
theorem dX12_gets_42 : decode cX12_gets 42 = .ok (.arraylength, 1) := by decide +kernel
theorem dX12_gets_43 : decode cX12_gets 43 = .ok (.aload_n 1, 1) := by decide +kernel
theorem dX12_gets_44 : decode cX12_gets 44 = .ok (.aastore, 1) := by decide +kernel
theorem dX12_gets_45 : decode cX12_gets 45 = .ok (.aload_n 0, 1) := by decide +kernel
theorem dX12_gets_46 : decode cX12_gets 46 = .ok (.aload_n 2, 1) := by decide +kernel
theorem dX12_gets_47 : decode cX12_gets 47 = .ok (.putfield 13, 3) := by decide +kernel
theorem dX12_gets_50 : decode cX12_gets 50 = .ok (.return_, 1) := by decide +kernel
theorem dX12_hears_0 : decode cX12_hears 0 = .ok (.aload_n 0, 1) := by decide +kernel
theorem dX12_hears_1 : decode cX12_hears 1 = .ok (.getfield 21, 3) := by decide +kernel
theorem dX12_hears_4 : decode cX12_hears 4 = .ok (.arraylength, 1) := by decide +kernel
theorem dX12_hears_5 : decode cX12_hears 5 = .ok (.iconst 1, 1) := by decide +kernel
theorem dX12_hears_6 : decode cX12_hears 6 = .ok (.iadd, 1) := by decide +kernel
theorem dX12_hears_7 : decode cX12_hears 7 = .ok (.newarray .long, 2) := by decide +kernel
theorem dX12_hears_9 : decode cX12_hears 9 = .ok (.astore_n 3, 1) := by decide +kernel
theorem dX12_hears_10 : decode cX12_hears 10 = .ok (.iconst 0, 1) := by decide +kernel
theorem dX12_hears_11 : decode cX12_hears 11 = .ok (.istore 4, 2) := by decide +kernel
theorem dX12_hears_13 : decode cX12_hears 13 = .ok (.iload 4, 2) := by decide +kernel
theorem dX12_hears_15 : decode cX12_hears 15 = .ok (.aload_n 0, 1) := by decide +kernel
theorem dX12_hears_16 : decode cX12_hears 16 = .ok (.getfield 21, 3) := by decide +kernel
theorem dX12_hears_19 : decode cX12_hears 19 = .ok (.arraylength, 1) := by decide +kernel
theorem dX12_hears_20 : decode cX12_hears 20 = .ok (.if_icmp .ge 20, 3) := by decide +kernel
theorem dX12_hears_40 : decode cX12_hears 40 = .ok (.aload_n 3, 1) := by decide +kernel
theorem dX12_hears_41 : decode cX12_hears 41 = .ok (.aload_n 0, 1) := by decide +kernel
theorem dX12_hears_42 : decode cX12_hears 42 = .ok (.getfield 21, 3) := by decide +kernel
theorem dX12_hears_45 : decode cX12_hears 45 = .ok (.arraylength, 1) := by decide +kernel
theorem dX12_hears_46 : decode cX12_hears 46 = .ok (.lload_n 1, 1) := by decide +kernel
theorem dX12_hears_47 : decode cX12_hears 47 = .ok (.lastore, 1) := by decide +kernel
theorem dX12_hears_48 : decode cX12_hears 48 = .ok (.aload_n 0, 1) := by decide +kernel
theorem dX12_hears_49 : decode cX12_hears 49 = .ok (.aload_n 3, 1) := by decide +kernel
theorem dX12_hears_50 : decode cX12_hears 50 = .ok (.putfield 21, 3) := by decide +kernel
theorem dX12_hears_53 : decode cX12_hears 53 = .ok (.return_, 1) := by decide +kernel
theorem dX13_init_0 : decode cX13_init 0 = .ok (.aload_n 0, 1) := by decide +kernel
theorem dX13_init_1 : decode cX13_init 1 = .ok (.invokespecial 1, 3) := by decide +kernel
theorem dX13_init_4 : decode cX13_init 4 = .ok (.aload_n 0, 1) := by decide +kernel
theorem dX13_init_5 : decode cX13_init 5 = .ok (.bipush 24, 2) := by decide +kernel
theorem dX13_init_7 : decode cX13_init 7 = .ok (.newarray .boolean, 2) := by decide +kernel
theorem dX13_init_9 : decode cX13_init 9 = .ok (.putfield 9, 3) := by decide +kernel
theorem dX13_init_12 : decode cX13_init 12 = .ok (.aload_n 0, 1) := by decide +kernel
theorem dX13_init_13 : decode cX13_init 13 = .ok (.bipush 24, 2) := by decide +kernel
theorem dX13_init_15 : decode cX13_init 15 = .ok (.newarray .int, 2) := by decide +kernel
theorem dX13_init_17 : decode cX13_init 17 = .ok (.putfield 13, 3) := by decide +kernel
theorem dX13_init_20 : decode cX13_init 20 = .ok (.aload_n 0, 1) := by decide +kernel
theorem dX13_init_21 : decode cX13_init 21 = .ok (.bipush 24, 2) := by decide +kernel
theorem dX13_init_23 : decode cX13_init 23 = .ok (.newarray .int, 2) := by decide +kernel
theorem dX13_init_25 : decode cX13_init 25 = .ok (.putfield 17, 3) := by decide +kernel
theorem dX13_init_28 : decode cX13_init 28 = .ok (.aload_n 0, 1) := by decide +kernel
theorem dX13_init_29 : decode cX13_init 29 = .ok (.bipush 24, 2) := by decide +kernel
theorem dX13_init_31 : decode cX13_init 31 = .ok (.newarray .char, 2) := by decide +kernel
theorem dX13_init_33 : decode cX13_init 33 = .ok (.putfield 20, 3) := by decide +kernel
theorem dX13_init_36 : decode cX13_init 36 = .ok (.aload_n 0, 1) := by decide +kernel
theorem dX13_init_37 : decode cX13_init 37 = .ok (.bipush 24, 2) := by decide +kernel
theorem dX13_init_39 : decode cX13_init 39 = .ok (.anewarray 24, 3) := by decide +kernel
theorem dX13_init_42 : decode cX13_init 42 = .ok (.putfield 26, 3) := by decide +kernel
theorem dX13_init_45 : decode cX13_init 45 = .ok (.aload_n 0, 1) := by decide +kernel
theorem dX13_init_46 : decode cX13_init 46 = .ok (.bipush 24, 2) := by decide +kernel
theorem dX13_init_48 : decode cX13_init 48 = .ok (.anewarray 24, 3) := by decide +kernel
theorem dX13_init_51 : decode cX13_init 51 = .ok (.putfield 30, 3) := by decide +kernel
theorem dX13_init_54 : decode cX13_init 54 = .ok (.aload_n 0, 1) := by decide +kernel
theorem dX13_init_55 : decode cX13_init 55 = .ok (.iconst 1, 1) := by decide +kernel
theorem dX13_init_56 : decode cX13_init 56 = .ok (.putfield 33, 3) := by decide +kernel
theorem dX13_init_59 : decode cX13_init 59 = .ok (.aload_n 0, 1) := by decide +kernel
theorem dX13_init_60 : decode cX13_init 60 = .ok (.sipush 4000, 3) := by decide +kernel
theorem dX13_init_63 : decode cX13_init 63 = .ok (.newarray .int, 2) := by decide +kernel
theorem dX13_init_65 : decode cX13_init 65 = .ok (.putfield 37, 3) := by decide +kernel
theorem dX13_init_68 : decode cX13_init 68 = .ok (.aload_n 0, 1) := by decide +kernel
theorem dX13_init_69 : decode cX13_init 69 = .ok (.iconst 0, 1) := by decide +kernel
theorem dX13_init_70 : decode cX13_init 70 = .ok (.newarray .int, 2) := by decide +kernel
theorem dX13_init_72 : decode cX13_init 72 = .ok (.putfield 40, 3) := by decide +kernel
theorem dX13_init_75 : decode cX13_init 75 = .ok (.aload_n 0, 1) := by decide +kernel
theorem dX13_init_76 : decode cX13_init 76 = .ok (.iconst 4, 1) := by decide +kernel
theorem dX13_init_77 : decode cX13_init 77 = .ok (.anewarray 43, 3) := by decide +kernel
theorem dX13_init_80 : decode cX13_init 80 = .ok (.putfield 45, 3) := by decide +kernel
theorem dX13_init_83 : decode cX13_init 83 = .ok (.aload_n 0, 1) := by decide +kernel
theorem dX13_init_84 : decode cX13_init 84 = .ok (.bipush 24, 2) := by decide +kernel
theorem dX13_init_86 : decode cX13_init 86 = .ok (.newarray .boolean, 2) := by decide +kernel
theorem dX13_init_88 : decode cX13_init 88 = .ok (.putfield 49, 3) := by decide +kernel
theorem dX13_init_91 : decode cX13_init 91 = .ok (.aload_n 0, 1) := by decide +kernel
theorem dX13_init_92 : decode cX13_init 92 = .ok (.bipush 24, 2) := by decide +kernel
theorem dX13_init_94 : decode cX13_init 94 = .ok (.newarray .int, 2) := by decide +kernel
theorem dX13_init_96 : decode cX13_init 96 = .ok (.putfield 52, 3) := by decide +kernel
theorem dX13_init_99 : decode cX13_init 99 = .ok (.aload_n 0, 1) := by decide +kernel
theorem dX13_init_100 : decode cX13_init 100 = .ok (.bipush 24, 2) := by decide +kernel
theorem dX13_init_102 : decode cX13_init 102 = .ok (.newarray .char, 2) := by decide +kernel
theorem dX13_init_104 : decode cX13_init 104 = .ok (.putfield 55, 3) := by decide +kernel
theorem dX13_init_107 : decode cX13_init 107 = .ok (.aload_n 0, 1) := by decide +kernel
theorem dX13_init_108 : decode cX13_init 108 = .ok (.bipush 24, 2) := by decide +kernel
theorem dX13_init_110 : decode cX13_init 110 = .ok (.anewarray 24, 3) := by decide +kernel
theorem dX13_init_113 : decode cX13_init 113 = .ok (.putfield 58, 3) := by decide +kernel
theorem dX13_init_116 : decode cX13_init 116 = .ok (.aload_n 0, 1) := by decide +kernel
theorem dX13_init_117 : decode cX13_init 117 = .ok (.bipush 24, 2) := by decide +kernel
theorem dX13_init_119 : decode cX13_init 119 = .ok (.anewarray 24, 3) := by decide +kernel
theorem dX13_init_122 : decode cX13_init 122 = .ok (.putfield 61, 3) := by decide +kernel
theorem dX13_init_125 : decode cX13_init 125 = .ok (.aload_n 0, 1) := by decide +kernel
theorem dX13_init_126 : decode cX13_init 126 = .ok (.bipush 16, 2) := by decide +kernel
theorem dX13_init_128 : decode cX13_init 128 = .ok (.anewarray 64, 3) := by decide +kernel
theorem dX13_init_131 : decode cX13_init 131 = .ok (.putfield 65, 3) := by decide +kernel
theorem dX13_init_134 : decode cX13_init 134 = .ok (.aload_n 0, 1) := by decide +kernel
theorem dX13_init_135 : decode cX13_init 135 = .ok (.bipush 24, 2) := by decide +kernel
theorem dX13_init_137 : decode cX13_init 137 = .ok (.bipush 40, 2) := by decide +kernel
theorem dX13_init_139 : decode cX13_init 139 = .ok (.multianewarray 69 2, 4) := by decide +kernel
theorem dX13_init_143 : decode cX13_init 143 = .ok (.putfield 70, 3) := by decide +kernel
theorem dX13_init_146 : decode cX13_init 146 = .ok (.aload_n 0, 1) := by decide +kernel
theorem dX13_init_147 : decode cX13_init 147 = .ok (.bipush 40, 2) := by decide +kernel
theorem dX13_init_149 : decode cX13_init 149 = .ok (.newarray .int, 2) := by decide +kernel
theorem dX13_init_151 : decode cX13_init 151 = .ok (.putfield 73, 3) := by decide +kernel
theorem dX13_init_154 : decode cX13_init 154 = .ok (.aload_n 0, 1) := by decide +kernel
theorem dX13_init_155 : decode cX13_init 155 = .ok (.bipush 40, 2) := by decide +kernel
theorem dX13_init_157 : decode cX13_init 157 = .ok (.newarray .int, 2) := by decide +kernel
theorem dX13_init_159 : decode cX13_init 159 = .ok (.putfield 76, 3) := by decide +kernel
theorem dX13_init_162 : decode cX13_init 162 = .ok (.aload_n 0, 1) := by decide +kernel
theorem dX13_init_163 : decode cX13_init 163 = .ok (.bipush 40, 2) := by decide +kernel
theorem dX13_init_165 : decode cX13_init 165 = .ok (.newarray .int, 2) := by decide +kernel
theorem dX13_init_167 : decode cX13_init 167 = .ok (.putfield 79, 3) := by decide +kernel
theorem dX13_init_170 : decode cX13_init 170 = .ok (.return_, 1) := by decide +kernel
theorem dX13_thrown_0 : decode cX13_thrown 0 = .ok (.aload_n 0, 1) := by decide +kernel
theorem dX13_thrown_1 : decode cX13_thrown 1 = .ok (.getfield 82, 3) := by decide +kernel
theorem dX13_thrown_4 : decode cX13_thrown 4 = .ok (.ireturn, 1) := by decide +kernel
theorem dX13_no_0 : decode cX13_no 0 = .ok (.aload_n 0, 1) := by decide +kernel
theorem dX13_no_1 : decode cX13_no 1 = .ok (.iload_n 1, 1) := by decide +kernel
theorem dX13_no_2 : decode cX13_no 2 = .ok (.ifCond .eq 7, 3) := by decide +kernel
theorem dX13_no_5 : decode cX13_no 5 = .ok (.iconst 0, 1) := by decide +kernel
theorem dX13_no_6 : decode cX13_no 6 = .ok (.goto 4, 3) := by decide +kernel
theorem dX13_no_9 : decode cX13_no 9 = .ok (.iload_n 2, 1) := by decide +kernel
theorem dX13_no_10 : decode cX13_no 10 = .ok (.putfield 82, 3) := by decide +kernel
theorem dX13_no_13 : decode cX13_no 13 = .ok (.iload_n 1, 1) := by decide +kernel
theorem dX13_no_14 : decode cX13_no 14 = .ok (.ifCond .ne 7, 3) := by decide +kernel
theorem dX13_no_17 : decode cX13_no 17 = .ok (.iconst 1, 1) := by decide +kernel
theorem dX13_no_18 : decode cX13_no 18 = .ok (.goto 4, 3) := by decide +kernel
theorem dX13_no_21 : decode cX13_no 21 = .ok (.iconst 0, 1) := by decide +kernel
theorem dX13_no_22 : decode cX13_no 22 = .ok (.ireturn, 1) := by decide +kernel
theorem dX13_in_0 : decode cX13_in 0 = .ok (.iload_n 0, 1) := by decide +kernel
theorem dX13_in_1 : decode cX13_in 1 = .ok (.iload_n 1, 1) := by decide +kernel
theorem dX13_in_2 : decode cX13_in 2 = .ok (.if_icmp .lt 12, 3) := by decide +kernel
theorem dX13_in_5 : decode cX13_in 5 = .ok (.iload_n 0, 1) := by decide +kernel
theorem dX13_in_6 : decode cX13_in 6 = .ok (.iload_n 2, 1) := by decide +kernel
theorem dX13_in_7 : decode cX13_in 7 = .ok (.if_icmp .gt 7, 3) := by decide +kernel
theorem dX13_in_10 : decode cX13_in 10 = .ok (.iconst 1, 1) := by decide +kernel
theorem dX13_in_11 : decode cX13_in 11 = .ok (.goto 4, 3) := by decide +kernel
theorem dX13_in_14 : decode cX13_in 14 = .ok (.iconst 0, 1) := by decide +kernel
theorem dX13_in_15 : decode cX13_in 15 = .ok (.ireturn, 1) := by decide +kernel
theorem dX13_isText_0 : decode cX13_isText 0 = .ok (.iload_n 1, 1) := by decide +kernel
theorem dX13_isText_1 : decode cX13_isText 1 = .ok (.iconst 0, 1) := by decide +kernel
theorem dX13_isText_2 : decode cX13_isText 2 = .ok (.aload_n 0, 1) := by decide +kernel
theorem dX13_isText_3 : decode cX13_isText 3 = .ok (.getfield 85, 3) := by decide +kernel
theorem dX13_isText_6 : decode cX13_isText 6 = .ok (.iconst 1, 1) := by decide +kernel
theorem dX13_isText_7 : decode cX13_isText 7 = .ok (.isub, 1) := by decide +kernel
theorem dX13_isText_8 : decode cX13_isText 8 = .ok (.invokestatic 88, 3) := by decide +kernel
theorem dX13_isText_11 : decode cX13_isText 11 = .ok (.ifCond .eq 16, 3) := by decide +kernel
theorem dX13_isText_27 : decode cX13_isText 27 = .ok (.iconst 0, 1) := by decide +kernel
theorem dX13_isText_28 : decode cX13_isText 28 = .ok (.ireturn, 1) := by decide +kernel
theorem dX13_word_0 : decode cX13_word 0 = .ok (.lconst 0, 1) := by decide +kernel
theorem dX13_word_1 : decode cX13_word 1 = .ok (.lstore_n 2, 1) := by decide +kernel
theorem dX13_word_2 : decode cX13_word 2 = .ok (.iconst 0, 1) := by decide +kernel
theorem dX13_word_3 : decode cX13_word 3 = .ok (.istore 4, 2) := by decide +kernel
theorem dX13_word_5 : decode cX13_word 5 = .ok (.iload 4, 2) := by decide +kernel
theorem dX13_word_7 : decode cX13_word 7 = .ok (.bipush 12, 2) := by decide +kernel
theorem dX13_word_9 : decode cX13_word 9 = .ok (.if_icmp .ge 37, 3) := by decide +kernel
theorem dX13_word_12 : decode cX13_word 12 = .ok (.ldc2_w 92, 3) := by decide +kernel
theorem dX13_word_15 : decode cX13_word 15 = .ok (.lload_n 2, 1) := by decide +kernel
theorem dX13_word_16 : decode cX13_word 16 = .ok (.lmul, 1) := by decide +kernel
theorem dX13_word_17 : decode cX13_word 17 = .ok (.iload 4, 2) := by decide +kernel
theorem dX13_word_19 : decode cX13_word 19 = .ok (.iload_n 1, 1) := by decide +kernel
theorem dX13_word_20 : decode cX13_word 20 = .ok (.if_icmp .ge 16, 3) := by decide +kernel
theorem dX13_word_36 : decode cX13_word 36 = .ok (.iconst 0, 1) := by decide +kernel
theorem dX13_word_37 : decode cX13_word 37 = .ok (.i2l, 1) := by decide +kernel
theorem dX13_word_38 : decode cX13_word 38 = .ok (.ladd, 1) := by decide +kernel
theorem dX13_word_39 : decode cX13_word 39 = .ok (.lstore_n 2, 1) := by decide +kernel
theorem dX13_word_40 : decode cX13_word 40 = .ok (.iinc 4 1, 3) := by decide +kernel
theorem dX13_word_43 : decode cX13_word 43 = .ok (.goto (-38), 3) := by decide +kernel
theorem dX13_word_46 : decode cX13_word 46 = .ok (.lload_n 2, 1) := by decide +kernel
theorem dX13_word_47 : decode cX13_word 47 = .ok (.lreturn, 1) := by decide +kernel
theorem dX13_wordsOf_0 : decode cX13_wordsOf 0 = .ok (.sipush 4000, 3) := by decide +kernel
theorem dX13_wordsOf_3 : decode cX13_wordsOf 3 = .ok (.newarray .long, 2) := by decide +kernel
theorem dX13_wordsOf_5 : decode cX13_wordsOf 5 = .ok (.astore_n 3, 1) := by decide +kernel
theorem dX13_wordsOf_6 : decode cX13_wordsOf 6 = .ok (.iconst 0, 1) := by decide +kernel
theorem dX13_wordsOf_7 : decode cX13_wordsOf 7 = .ok (.istore 4, 2) := by decide +kernel
theorem dX13_wordsOf_9 : decode cX13_wordsOf 9 = .ok (.bipush 12, 2) := by decide +kernel
theorem dX13_wordsOf_11 : decode cX13_wordsOf 11 = .ok (.newarray .int, 2) := by decide +kernel
theorem dX13_wordsOf_13 : decode cX13_wordsOf 13 = .ok (.astore 5, 2) := by decide +kernel
theorem dX13_wordsOf_15 : decode cX13_wordsOf 15 = .ok (.iconst 0, 1) := by decide +kernel
theorem dX13_wordsOf_16 : decode cX13_wordsOf 16 = .ok (.istore 6, 2) := by decide +kernel
theorem dX13_wordsOf_18 : decode cX13_wordsOf 18 = .ok (.iload_n 1, 1) := by decide +kernel
theorem dX13_wordsOf_19 : decode cX13_wordsOf 19 = .ok (.istore 7, 2) := by decide +kernel
theorem dX13_wordsOf_21 : decode cX13_wordsOf 21 = .ok (.iload 7, 2) := by decide +kernel
theorem dX13_wordsOf_23 : decode cX13_wordsOf 23 = .ok (.iload_n 2, 1) := by decide +kernel
theorem dX13_wordsOf_24 : decode cX13_wordsOf 24 = .ok (.if_icmp .gt 113, 3) := by decide +kernel
theorem dX13_wordsOf_27 : decode cX13_wordsOf 27 = .ok (.iload 7, 2) := by decide +kernel
theorem dX13_wordsOf_29 : decode cX13_wordsOf 29 = .ok (.iload_n 2, 1) := by decide +kernel
theorem dX13_wordsOf_30 : decode cX13_wordsOf 30 = .ok (.if_icmp .ge 20, 3) := by decide +kernel
theorem dX13_wordsOf_50 : decode cX13_wordsOf 50 = .ok (.iconst 0, 1) := by decide +kernel
theorem dX13_wordsOf_51 : decode cX13_wordsOf 51 = .ok (.istore 8, 2) := by decide +kernel
theorem dX13_wordsOf_53 : decode cX13_wordsOf 53 = .ok (.iload 8, 2) := by decide +kernel
theorem dX13_wordsOf_55 : decode cX13_wordsOf 55 = .ok (.ifCond .eq 22, 3) := by decide +kernel
theorem dX13_wordsOf_77 : decode cX13_wordsOf 77 = .ok (.iload 8, 2) := by decide +kernel
theorem dX13_wordsOf_79 : decode cX13_wordsOf 79 = .ok (.ifCond .ne 37, 3) := by decide +kernel
theorem dX13_wordsOf_82 : decode cX13_wordsOf 82 = .ok (.iload 6, 2) := by decide +kernel
theorem dX13_wordsOf_84 : decode cX13_wordsOf 84 = .ok (.ifCond .le 32, 3) := by decide +kernel
theorem dX13_wordsOf_116 : decode cX13_wordsOf 116 = .ok (.iload 8, 2) := by decide +kernel
theorem dX13_wordsOf_118 : decode cX13_wordsOf 118 = .ok (.ifCond .eq 10, 3) := by decide +kernel
theorem dX13_wordsOf_128 : decode cX13_wordsOf 128 = .ok (.iconst 0, 1) := by decide +kernel
theorem dX13_wordsOf_129 : decode cX13_wordsOf 129 = .ok (.istore 6, 2) := by decide +kernel
theorem dX13_wordsOf_131 : decode cX13_wordsOf 131 = .ok (.iinc 7 1, 3) := by decide +kernel
theorem dX13_wordsOf_134 : decode cX13_wordsOf 134 = .ok (.goto (-113), 3) := by decide +kernel
theorem dX13_wordsOf_137 : decode cX13_wordsOf 137 = .ok (.aload_n 3, 1) := by decide +kernel
theorem dX13_wordsOf_138 : decode cX13_wordsOf 138 = .ok (.iload 4, 2) := by decide +kernel
theorem dX13_wordsOf_140 : decode cX13_wordsOf 140 = .ok (.invokestatic 128, 3) := by decide +kernel
theorem dX13_wordsOf_143 : decode cX13_wordsOf 143 = .ok (.areturn, 1) := by decide +kernel
theorem dX13_head_0 : decode cX13_head 0 = .ok (.iload_n 1, 1) := by decide +kernel
theorem dX13_head_1 : decode cX13_head 1 = .ok (.newarray .long, 2) := by decide +kernel
theorem dX13_head_3 : decode cX13_head 3 = .ok (.astore_n 2, 1) := by decide +kernel
theorem dX13_head_4 : decode cX13_head 4 = .ok (.iconst 0, 1) := by decide +kernel
theorem dX13_head_5 : decode cX13_head 5 = .ok (.istore_n 3, 1) := by decide +kernel
theorem dX13_head_6 : decode cX13_head 6 = .ok (.iload_n 3, 1) := by decide +kernel
theorem dX13_head_7 : decode cX13_head 7 = .ok (.iload_n 1, 1) := by decide +kernel
theorem dX13_head_8 : decode cX13_head 8 = .ok (.if_icmp .ge 15, 3) := by decide +kernel
theorem dX13_head_23 : decode cX13_head 23 = .ok (.aload_n 2, 1) := by decide +kernel
theorem dX13_head_24 : decode cX13_head 24 = .ok (.areturn, 1) := by decide +kernel
theorem dX13_isWord_0 : decode cX13_isWord 0 = .ok (.aload_n 0, 1) := by decide +kernel
theorem dX13_isWord_1 : decode cX13_isWord 1 = .ok (.getfield 132, 3) := by decide +kernel
theorem dX13_isWord_4 : decode cX13_isWord 4 = .ok (.ifCond .le 7, 3) := by decide +kernel
theorem dX13_isWord_11 : decode cX13_isWord 11 = .ok (.iconst 0, 1) := by decide +kernel
theorem dX13_isWord_12 : decode cX13_isWord 12 = .ok (.istore_n 1, 1) := by decide +kernel
theorem dX13_isWord_13 : decode cX13_isWord 13 = .ok (.iconst 0, 1) := by decide +kernel
theorem dX13_isWord_14 : decode cX13_isWord 14 = .ok (.istore_n 2, 1) := by decide +kernel
theorem dX13_isWord_15 : decode cX13_isWord 15 = .ok (.iload_n 2, 1) := by decide +kernel
theorem dX13_isWord_16 : decode cX13_isWord 16 = .ok (.aload_n 0, 1) := by decide +kernel
theorem dX13_isWord_17 : decode cX13_isWord 17 = .ok (.getfield 132, 3) := by decide +kernel
theorem dX13_isWord_20 : decode cX13_isWord 20 = .ok (.if_icmp .ge 31, 3) := by decide +kernel
theorem dX13_isWord_51 : decode cX13_isWord 51 = .ok (.iload_n 1, 1) := by decide +kernel
theorem dX13_isWord_52 : decode cX13_isWord 52 = .ok (.ireturn, 1) := by decide +kernel
theorem dX13_all_0 : decode cX13_all 0 = .ok (.sipush 3840, 3) := by decide +kernel
theorem dX13_all_3 : decode cX13_all 3 = .ok (.newarray .long, 2) := by decide +kernel
theorem dX13_all_5 : decode cX13_all 5 = .ok (.astore_n 1, 1) := by decide +kernel
theorem dX13_all_6 : decode cX13_all 6 = .ok (.iconst 0, 1) := by decide +kernel
theorem dX13_all_7 : decode cX13_all 7 = .ok (.istore_n 2, 1) := by decide +kernel
theorem dX13_all_8 : decode cX13_all 8 = .ok (.iconst 0, 1) := by decide +kernel
theorem dX13_all_9 : decode cX13_all 9 = .ok (.istore_n 3, 1) := by decide +kernel
theorem dX13_all_10 : decode cX13_all 10 = .ok (.iload_n 3, 1) := by decide +kernel
theorem dX13_all_11 : decode cX13_all 11 = .ok (.aload_n 0, 1) := by decide +kernel
theorem dX13_all_12 : decode cX13_all 12 = .ok (.getfield 85, 3) := by decide +kernel
theorem dX13_all_15 : decode cX13_all 15 = .ok (.if_icmp .ge 161, 3) := by decide +kernel
theorem dX13_all_176 : decode cX13_all 176 = .ok (.aload_n 1, 1) := by decide +kernel
theorem dX13_all_177 : decode cX13_all 177 = .ok (.iload_n 2, 1) := by decide +kernel
theorem dX13_all_178 : decode cX13_all 178 = .ok (.invokestatic 128, 3) := by decide +kernel
theorem dX13_all_181 : decode cX13_all 181 = .ok (.areturn, 1) := by decide +kernel
theorem dX13_adds_0 : decode cX13_adds 0 = .ok (.aload_n 0, 1) := by decide +kernel
theorem dX13_adds_1 : decode cX13_adds 1 = .ok (.getfield 37, 3) := by decide +kernel
theorem dX13_adds_4 : decode cX13_adds 4 = .ok (.aload_n 0, 1) := by decide +kernel
theorem dX13_adds_5 : decode cX13_adds 5 = .ok (.getfield 132, 3) := by decide +kernel
theorem dX13_adds_8 : decode cX13_adds 8 = .ok (.iload_n 1, 1) := by decide +kernel
theorem dX13_adds_9 : decode cX13_adds 9 = .ok (.iastore, 1) := by decide +kernel
theorem dX13_adds_10 : decode cX13_adds 10 = .ok (.aload_n 0, 1) := by decide +kernel
theorem dX13_adds_11 : decode cX13_adds 11 = .ok (.dup, 1) := by decide +kernel
theorem dX13_adds_12 : decode cX13_adds 12 = .ok (.getfield 132, 3) := by decide +kernel
theorem dX13_adds_15 : decode cX13_adds 15 = .ok (.iconst 1, 1) := by decide +kernel
theorem dX13_adds_16 : decode cX13_adds 16 = .ok (.iadd, 1) := by decide +kernel
theorem dX13_adds_17 : decode cX13_adds 17 = .ok (.putfield 132, 3) := by decide +kernel
theorem dX13_adds_20 : decode cX13_adds 20 = .ok (.return_, 1) := by decide +kernel
theorem dX13_type_0 : decode cX13_type 0 = .ok (.aload_n 0, 1) := by decide +kernel
theorem dX13_type_1 : decode cX13_type 1 = .ok (.iload_n 1, 1) := by decide +kernel
theorem dX13_type_2 : decode cX13_type 2 = .ok (.bipush 32, 2) := by decide +kernel
theorem dX13_type_4 : decode cX13_type 4 = .ok (.bipush 126, 2) := by decide +kernel
theorem dX13_type_6 : decode cX13_type 6 = .ok (.invokestatic 88, 3) := by decide +kernel
theorem dX13_type_9 : decode cX13_type 9 = .ok (.iconst 1, 1) := by decide +kernel
theorem dX13_type_10 : decode cX13_type 10 = .ok (.invokevirtual 139, 3) := by decide +kernel
theorem dX13_type_13 : decode cX13_type 13 = .ok (.ifCond .ne 26, 3) := by decide +kernel
theorem dX13_type_16 : decode cX13_type 16 = .ok (.aload_n 0, 1) := by decide +kernel
theorem dX13_type_17 : decode cX13_type 17 = .ok (.aload_n 0, 1) := by decide +kernel
theorem dX13_type_18 : decode cX13_type 18 = .ok (.getfield 132, 3) := by decide +kernel
theorem dX13_type_21 : decode cX13_type 21 = .ok (.sipush 160, 3) := by decide +kernel
theorem dX13_type_24 : decode cX13_type 24 = .ok (.if_icmp .ge 7, 3) := by decide +kernel
theorem dX13_type_27 : decode cX13_type 27 = .ok (.iconst 1, 1) := by decide +kernel
theorem dX13_type_28 : decode cX13_type 28 = .ok (.goto 4, 3) := by decide +kernel
theorem dX13_type_32 : decode cX13_type 32 = .ok (.iconst 2, 1) := by decide +kernel
theorem dX13_type_33 : decode cX13_type 33 = .ok (.invokevirtual 139, 3) := by decide +kernel
theorem dX13_type_36 : decode cX13_type 36 = .ok (.ifCond .eq 5, 3) := by decide +kernel
theorem dX13_type_39 : decode cX13_type 39 = .ok (.iconst 0, 1) := by decide +kernel
theorem dX13_type_40 : decode cX13_type 40 = .ok (.ireturn, 1) := by decide +kernel
theorem dX13_type_41 : decode cX13_type 41 = .ok (.aload_n 0, 1) := by decide +kernel
theorem dX13_type_42 : decode cX13_type 42 = .ok (.iload_n 1, 1) := by decide +kernel
theorem dX13_type_43 : decode cX13_type 43 = .ok (.invokevirtual 143, 3) := by decide +kernel
theorem dX13_type_46 : decode cX13_type 46 = .ok (.aload_n 0, 1) := by decide +kernel
theorem dX13_type_47 : decode cX13_type 47 = .ok (.getfield 132, 3) := by decide +kernel
theorem dX13_type_50 : decode cX13_type 50 = .ok (.ireturn, 1) := by decide +kernel
theorem dX13_erase_0 : decode cX13_erase 0 = .ok (.aload_n 0, 1) := by decide +kernel
theorem dX13_erase_1 : decode cX13_erase 1 = .ok (.iconst 0, 1) := by decide +kernel
theorem dX13_erase_2 : decode cX13_erase 2 = .ok (.putfield 82, 3) := by decide +kernel
theorem dX13_erase_5 : decode cX13_erase 5 = .ok (.aload_n 0, 1) := by decide +kernel
theorem dX13_erase_6 : decode cX13_erase 6 = .ok (.getfield 132, 3) := by decide +kernel
theorem dX13_erase_9 : decode cX13_erase 9 = .ok (.istore_n 1, 1) := by decide +kernel
theorem dX13_erase_10 : decode cX13_erase 10 = .ok (.aload_n 0, 1) := by decide +kernel
theorem dX13_erase_11 : decode cX13_erase 11 = .ok (.iconst 0, 1) := by decide +kernel
theorem dX13_erase_12 : decode cX13_erase 12 = .ok (.putfield 132, 3) := by decide +kernel
theorem dX13_erase_15 : decode cX13_erase 15 = .ok (.iload_n 1, 1) := by decide +kernel
theorem dX13_erase_16 : decode cX13_erase 16 = .ok (.ireturn, 1) := by decide +kernel
theorem dX13_signAt_0 : decode cX13_signAt 0 = .ok (.aload_n 0, 1) := by decide +kernel
theorem dX13_signAt_1 : decode cX13_signAt 1 = .ok (.iload_n 1, 1) := by decide +kernel
theorem dX13_signAt_2 : decode cX13_signAt 2 = .ok (.iconst 0, 1) := by decide +kernel
theorem dX13_signAt_3 : decode cX13_signAt 3 = .ok (.aload_n 0, 1) := by decide +kernel
theorem dX13_signAt_4 : decode cX13_signAt 4 = .ok (.getfield 132, 3) := by decide +kernel
theorem dX13_signAt_7 : decode cX13_signAt 7 = .ok (.iconst 1, 1) := by decide +kernel
theorem dX13_signAt_8 : decode cX13_signAt 8 = .ok (.isub, 1) := by decide +kernel
theorem dX13_signAt_9 : decode cX13_signAt 9 = .ok (.invokestatic 88, 3) := by decide +kernel
theorem dX13_signAt_12 : decode cX13_signAt 12 = .ok (.iconst 1, 1) := by decide +kernel
theorem dX13_signAt_13 : decode cX13_signAt 13 = .ok (.invokevirtual 139, 3) := by decide +kernel
theorem dX13_signAt_16 : decode cX13_signAt 16 = .ok (.ifCond .eq 8, 3) := by decide +kernel
theorem dX13_signAt_19 : decode cX13_signAt 19 = .ok (.bipush 32, 2) := by decide +kernel
theorem dX13_signAt_21 : decode cX13_signAt 21 = .ok (.goto 10, 3) := by decide +kernel
theorem dX13_signAt_31 : decode cX13_signAt 31 = .ok (.ireturn, 1) := by decide +kernel
theorem dX13_reads_0 : decode cX13_reads 0 = .ok (.iconst 0, 1) := by decide +kernel
theorem dX13_reads_1 : decode cX13_reads 1 = .ok (.istore_n 2, 1) := by decide +kernel
theorem dX13_reads_2 : decode cX13_reads 2 = .ok (.iload_n 2, 1) := by decide +kernel
theorem dX13_reads_3 : decode cX13_reads 3 = .ok (.aload_n 0, 1) := by decide +kernel
theorem dX13_reads_4 : decode cX13_reads 4 = .ok (.getfield 132, 3) := by decide +kernel
theorem dX13_reads_7 : decode cX13_reads 7 = .ok (.if_icmp .ge 20, 3) := by decide +kernel
theorem dX13_reads_27 : decode cX13_reads 27 = .ok (.aload_n 0, 1) := by decide +kernel
theorem dX13_reads_28 : decode cX13_reads 28 = .ok (.getfield 26, 3) := by decide +kernel
theorem dX13_reads_31 : decode cX13_reads 31 = .ok (.iload_n 1, 1) := by decide +kernel
theorem dX13_reads_32 : decode cX13_reads 32 = .ok (.iload_n 2, 1) := by decide +kernel
theorem dX13_reads_33 : decode cX13_reads 33 = .ok (.aload_n 0, 1) := by decide +kernel
theorem dX13_reads_34 : decode cX13_reads 34 = .ok (.getfield 132, 3) := by decide +kernel
theorem dX13_reads_37 : decode cX13_reads 37 = .ok (.if_icmp .ge 12, 3) := by decide +kernel
theorem dX13_reads_49 : decode cX13_reads 49 = .ok (.iconst 0, 1) := by decide +kernel
theorem dX13_reads_50 : decode cX13_reads 50 = .ok (.newarray .long, 2) := by decide +kernel
theorem dX13_reads_52 : decode cX13_reads 52 = .ok (.aastore, 1) := by decide +kernel
theorem dX13_reads_53 : decode cX13_reads 53 = .ok (.aload_n 0, 1) := by decide +kernel
theorem dX13_reads_54 : decode cX13_reads 54 = .ok (.getfield 30, 3) := by decide +kernel
theorem dX13_reads_57 : decode cX13_reads 57 = .ok (.iload_n 1, 1) := by decide +kernel
theorem dX13_reads_58 : decode cX13_reads 58 = .ok (.iload_n 2, 1) := by decide +kernel
theorem dX13_reads_59 : decode cX13_reads 59 = .ok (.aload_n 0, 1) := by decide +kernel
theorem dX13_reads_60 : decode cX13_reads 60 = .ok (.getfield 132, 3) := by decide +kernel
theorem dX13_reads_63 : decode cX13_reads 63 = .ok (.if_icmp .ge 17, 3) := by decide +kernel
theorem dX13_reads_80 : decode cX13_reads 80 = .ok (.aload_n 0, 1) := by decide +kernel
theorem dX13_reads_81 : decode cX13_reads 81 = .ok (.iconst 0, 1) := by decide +kernel
theorem dX13_reads_82 : decode cX13_reads 82 = .ok (.aload_n 0, 1) := by decide +kernel
theorem dX13_reads_83 : decode cX13_reads 83 = .ok (.getfield 132, 3) := by decide +kernel
theorem dX13_reads_86 : decode cX13_reads 86 = .ok (.invokevirtual 154, 3) := by decide +kernel
theorem dX13_reads_89 : decode cX13_reads 89 = .ok (.aastore, 1) := by decide +kernel
theorem dX13_reads_90 : decode cX13_reads 90 = .ok (.aload_n 0, 1) := by decide +kernel
theorem dX13_reads_91 : decode cX13_reads 91 = .ok (.getfield 17, 3) := by decide +kernel
theorem dX13_reads_94 : decode cX13_reads 94 = .ok (.iload_n 1, 1) := by decide +kernel
theorem dX13_reads_95 : decode cX13_reads 95 = .ok (.aload_n 0, 1) := by decide +kernel
theorem dX13_reads_96 : decode cX13_reads 96 = .ok (.getfield 33, 3) := by decide +kernel
theorem dX13_reads_99 : decode cX13_reads 99 = .ok (.iconst 1, 1) := by decide +kernel
theorem dX13_reads_100 : decode cX13_reads 100 = .ok (.isub, 1) := by decide +kernel
theorem dX13_reads_101 : decode cX13_reads 101 = .ok (.iastore, 1) := by decide +kernel
theorem dX13_reads_102 : decode cX13_reads 102 = .ok (.aload_n 0, 1) := by decide +kernel
theorem dX13_reads_103 : decode cX13_reads 103 = .ok (.iconst 0, 1) := by decide +kernel
theorem dX13_reads_104 : decode cX13_reads 104 = .ok (.putfield 132, 3) := by decide +kernel
theorem dX13_reads_107 : decode cX13_reads 107 = .ok (.return_, 1) := by decide +kernel
theorem dX13_add_0 : decode cX13_add 0 = .ok (.aload_n 0, 1) := by decide +kernel
theorem dX13_add_1 : decode cX13_add 1 = .ok (.iload_n 1, 1) := by decide +kernel
theorem dX13_add_2 : decode cX13_add 2 = .ok (.iconst 0, 1) := by decide +kernel
theorem dX13_add_3 : decode cX13_add 3 = .ok (.sipush 999, 3) := by decide +kernel
theorem dX13_add_6 : decode cX13_add 6 = .ok (.invokestatic 88, 3) := by decide +kernel
theorem dX13_add_9 : decode cX13_add 9 = .ok (.ifCond .eq 18, 3) := by decide +kernel
theorem dX13_add_12 : decode cX13_add 12 = .ok (.iload_n 2, 1) := by decide +kernel
theorem dX13_add_13 : decode cX13_add 13 = .ok (.bipush 97, 2) := by decide +kernel
theorem dX13_add_15 : decode cX13_add 15 = .ok (.bipush 122, 2) := by decide +kernel
theorem dX13_add_17 : decode cX13_add 17 = .ok (.invokestatic 88, 3) := by decide +kernel
theorem dX13_add_20 : decode cX13_add 20 = .ok (.ifCond .eq 7, 3) := by decide +kernel
theorem dX13_add_23 : decode cX13_add 23 = .ok (.iconst 1, 1) := by decide +kernel
theorem dX13_add_24 : decode cX13_add 24 = .ok (.goto 4, 3) := by decide +kernel
theorem dX13_add_27 : decode cX13_add 27 = .ok (.iconst 0, 1) := by decide +kernel
theorem dX13_add_28 : decode cX13_add 28 = .ok (.iconst 1, 1) := by decide +kernel
theorem dX13_add_29 : decode cX13_add 29 = .ok (.invokevirtual 139, 3) := by decide +kernel
theorem dX13_add_32 : decode cX13_add 32 = .ok (.ifCond .ne 25, 3) := by decide +kernel
theorem dX13_add_35 : decode cX13_add 35 = .ok (.aload_n 0, 1) := by decide +kernel
theorem dX13_add_36 : decode cX13_add 36 = .ok (.aload_n 0, 1) := by decide +kernel
theorem dX13_add_37 : decode cX13_add 37 = .ok (.getfield 85, 3) := by decide +kernel
theorem dX13_add_40 : decode cX13_add 40 = .ok (.bipush 24, 2) := by decide +kernel
theorem dX13_add_42 : decode cX13_add 42 = .ok (.if_icmp .ge 7, 3) := by decide +kernel
theorem dX13_add_45 : decode cX13_add 45 = .ok (.iconst 1, 1) := by decide +kernel
theorem dX13_add_46 : decode cX13_add 46 = .ok (.goto 4, 3) := by decide +kernel
theorem dX13_add_50 : decode cX13_add 50 = .ok (.iconst 2, 1) := by decide +kernel
theorem dX13_add_51 : decode cX13_add 51 = .ok (.invokevirtual 139, 3) := by decide +kernel
theorem dX13_add_54 : decode cX13_add 54 = .ok (.ifCond .eq 5, 3) := by decide +kernel
theorem dX13_add_57 : decode cX13_add 57 = .ok (.iconst 0, 1) := by decide +kernel
theorem dX13_add_58 : decode cX13_add 58 = .ok (.ireturn, 1) := by decide +kernel
theorem dX13_add_59 : decode cX13_add 59 = .ok (.aload_n 0, 1) := by decide +kernel
theorem dX13_add_60 : decode cX13_add 60 = .ok (.getfield 9, 3) := by decide +kernel
theorem dX13_add_63 : decode cX13_add 63 = .ok (.aload_n 0, 1) := by decide +kernel
theorem dX13_add_64 : decode cX13_add 64 = .ok (.getfield 85, 3) := by decide +kernel
theorem dX13_add_67 : decode cX13_add 67 = .ok (.iconst 1, 1) := by decide +kernel
theorem dX13_add_68 : decode cX13_add 68 = .ok (.bastore, 1) := by decide +kernel
theorem dX13_add_69 : decode cX13_add 69 = .ok (.aload_n 0, 1) := by decide +kernel
theorem dX13_add_70 : decode cX13_add 70 = .ok (.getfield 13, 3) := by decide +kernel
theorem dX13_add_73 : decode cX13_add 73 = .ok (.aload_n 0, 1) := by decide +kernel
theorem dX13_add_74 : decode cX13_add 74 = .ok (.getfield 85, 3) := by decide +kernel
theorem dX13_add_77 : decode cX13_add 77 = .ok (.iload_n 1, 1) := by decide +kernel
theorem dX13_add_78 : decode cX13_add 78 = .ok (.iastore, 1) := by decide +kernel
theorem dX13_add_79 : decode cX13_add 79 = .ok (.aload_n 0, 1) := by decide +kernel
theorem dX13_add_80 : decode cX13_add 80 = .ok (.getfield 20, 3) := by decide +kernel
theorem dX13_add_83 : decode cX13_add 83 = .ok (.aload_n 0, 1) := by decide +kernel
theorem dX13_add_84 : decode cX13_add 84 = .ok (.getfield 85, 3) := by decide +kernel
theorem dX13_add_87 : decode cX13_add 87 = .ok (.iload_n 2, 1) := by decide +kernel
theorem dX13_add_88 : decode cX13_add 88 = .ok (.castore, 1) := by decide +kernel
theorem dX13_add_89 : decode cX13_add 89 = .ok (.aload_n 0, 1) := by decide +kernel
theorem dX13_add_90 : decode cX13_add 90 = .ok (.aload_n 0, 1) := by decide +kernel
theorem dX13_add_91 : decode cX13_add 91 = .ok (.getfield 85, 3) := by decide +kernel
theorem dX13_add_94 : decode cX13_add 94 = .ok (.invokevirtual 158, 3) := by decide +kernel
theorem dX13_add_97 : decode cX13_add 97 = .ok (.aload_n 0, 1) := by decide +kernel
theorem dX13_add_98 : decode cX13_add 98 = .ok (.dup, 1) := by decide +kernel
theorem dX13_add_99 : decode cX13_add 99 = .ok (.getfield 85, 3) := by decide +kernel
theorem dX13_add_102 : decode cX13_add 102 = .ok (.iconst 1, 1) := by decide +kernel
theorem dX13_add_103 : decode cX13_add 103 = .ok (.iadd, 1) := by decide +kernel
theorem dX13_add_104 : decode cX13_add 104 = .ok (.putfield 85, 3) := by decide +kernel
theorem dX13_add_107 : decode cX13_add 107 = .ok (.aload_n 0, 1) := by decide +kernel
theorem dX13_add_108 : decode cX13_add 108 = .ok (.getfield 85, 3) := by decide +kernel
theorem dX13_add_111 : decode cX13_add 111 = .ok (.iconst 1, 1) := by decide +kernel
theorem dX13_add_112 : decode cX13_add 112 = .ok (.isub, 1) := by decide +kernel
theorem dX13_add_113 : decode cX13_add 113 = .ok (.ireturn, 1) := by decide +kernel
theorem dX13_revise_0 : decode cX13_revise 0 = .ok (.aload_n 0, 1) := by decide +kernel
theorem dX13_revise_1 : decode cX13_revise 1 = .ok (.aload_n 0, 1) := by decide +kernel
theorem dX13_revise_2 : decode cX13_revise 2 = .ok (.iload_n 1, 1) := by decide +kernel
theorem dX13_revise_3 : decode cX13_revise 3 = .ok (.invokevirtual 161, 3) := by decide +kernel
theorem dX13_revise_6 : decode cX13_revise 6 = .ok (.iconst 1, 1) := by decide +kernel
theorem dX13_revise_7 : decode cX13_revise 7 = .ok (.invokevirtual 139, 3) := by decide +kernel
theorem dX13_revise_10 : decode cX13_revise 10 = .ok (.ifCond .eq 5, 3) := by decide +kernel
theorem dX13_revise_13 : decode cX13_revise 13 = .ok (.iconst 0, 1) := by decide +kernel
theorem dX13_revise_14 : decode cX13_revise 14 = .ok (.ireturn, 1) := by decide +kernel
theorem dX13_many_0 : decode cX13_many 0 = .ok (.iconst 0, 1) := by decide +kernel
theorem dX13_many_1 : decode cX13_many 1 = .ok (.istore_n 1, 1) := by decide +kernel
theorem dX13_many_2 : decode cX13_many 2 = .ok (.aload_n 0, 1) := by decide +kernel
theorem dX13_many_3 : decode cX13_many 3 = .ok (.getfield 9, 3) := by decide +kernel
theorem dX13_many_6 : decode cX13_many 6 = .ok (.astore_n 2, 1) := by decide +kernel
theorem dX13_many_7 : decode cX13_many 7 = .ok (.aload_n 2, 1) := by decide +kernel
theorem dX13_many_8 : decode cX13_many 8 = .ok (.arraylength, 1) := by decide +kernel
theorem dX13_many_9 : decode cX13_many 9 = .ok (.istore_n 3, 1) := by decide +kernel
theorem dX13_many_10 : decode cX13_many 10 = .ok (.iconst 0, 1) := by decide +kernel
theorem dX13_many_11 : decode cX13_many 11 = .ok (.istore 4, 2) := by decide +kernel
theorem dX13_many_13 : decode cX13_many 13 = .ok (.iload 4, 2) := by decide +kernel
theorem dX13_many_15 : decode cX13_many 15 = .ok (.iload_n 3, 1) := by decide +kernel
theorem dX13_many_16 : decode cX13_many 16 = .ok (.if_icmp .ge 28, 3) := by decide +kernel
theorem dX13_many_19 : decode cX13_many 19 = .ok (.aload_n 2, 1) := by decide +kernel
theorem dX13_many_20 : decode cX13_many 20 = .ok (.iload 4, 2) := by decide +kernel
theorem dX13_many_22 : decode cX13_many 22 = .ok (.baload, 1) := by decide +kernel
theorem dX13_many_23 : decode cX13_many 23 = .ok (.istore 5, 2) := by decide +kernel
theorem dX13_many_25 : decode cX13_many 25 = .ok (.iload_n 1, 1) := by decide +kernel
theorem dX13_many_26 : decode cX13_many 26 = .ok (.iload 5, 2) := by decide +kernel
theorem dX13_many_28 : decode cX13_many 28 = .ok (.ifCond .eq 7, 3) := by decide +kernel
theorem dX13_many_35 : decode cX13_many 35 = .ok (.iconst 0, 1) := by decide +kernel
theorem dX13_many_36 : decode cX13_many 36 = .ok (.iadd, 1) := by decide +kernel
theorem dX13_many_37 : decode cX13_many 37 = .ok (.istore_n 1, 1) := by decide +kernel
theorem dX13_many_38 : decode cX13_many 38 = .ok (.iinc 4 1, 3) := by decide +kernel
theorem dX13_many_41 : decode cX13_many 41 = .ok (.goto (-28), 3) := by decide +kernel
theorem dX13_many_44 : decode cX13_many 44 = .ok (.iload_n 1, 1) := by decide +kernel
theorem dX13_many_45 : decode cX13_many 45 = .ok (.ireturn, 1) := by decide +kernel
theorem dX13_drop_0 : decode cX13_drop 0 = .ok (.aload_n 0, 1) := by decide +kernel
theorem dX13_drop_1 : decode cX13_drop 1 = .ok (.aload_n 0, 1) := by decide +kernel
theorem dX13_drop_2 : decode cX13_drop 2 = .ok (.iload_n 1, 1) := by decide +kernel
theorem dX13_drop_3 : decode cX13_drop 3 = .ok (.invokevirtual 161, 3) := by decide +kernel
theorem dX13_drop_6 : decode cX13_drop 6 = .ok (.iconst 1, 1) := by decide +kernel
theorem dX13_drop_7 : decode cX13_drop 7 = .ok (.invokevirtual 139, 3) := by decide +kernel
theorem dX13_drop_10 : decode cX13_drop 10 = .ok (.ifCond .eq 5, 3) := by decide +kernel
theorem dX13_drop_13 : decode cX13_drop 13 = .ok (.iconst 0, 1) := by decide +kernel
theorem dX13_drop_14 : decode cX13_drop 14 = .ok (.ireturn, 1) := by decide +kernel
theorem dX13_texts_0 : decode cX13_texts 0 = .ok (.aload_n 0, 1) := by decide +kernel
theorem dX13_texts_1 : decode cX13_texts 1 = .ok (.iconst 0, 1) := by decide +kernel
theorem dX13_texts_2 : decode cX13_texts 2 = .ok (.putfield 82, 3) := by decide +kernel
theorem dX13_texts_5 : decode cX13_texts 5 = .ok (.aload_n 0, 1) := by decide +kernel
theorem dX13_texts_6 : decode cX13_texts 6 = .ok (.invokevirtual 167, 3) := by decide +kernel
theorem dX13_texts_9 : decode cX13_texts 9 = .ok (.ireturn, 1) := by decide +kernel
theorem dX13_isThere_0 : decode cX13_isThere 0 = .ok (.aload_n 0, 1) := by decide +kernel
theorem dX13_isThere_1 : decode cX13_isThere 1 = .ok (.iconst 0, 1) := by decide +kernel
theorem dX13_isThere_2 : decode cX13_isThere 2 = .ok (.putfield 82, 3) := by decide +kernel
theorem dX13_isThere_5 : decode cX13_isThere 5 = .ok (.aload_n 0, 1) := by decide +kernel
theorem dX13_isThere_6 : decode cX13_isThere 6 = .ok (.iload_n 1, 1) := by decide +kernel
theorem dX13_isThere_7 : decode cX13_isThere 7 = .ok (.invokevirtual 161, 3) := by decide +kernel
theorem dX13_isThere_10 : decode cX13_isThere 10 = .ok (.ireturn, 1) := by decide +kernel
theorem dX13_length_0 : decode cX13_length 0 = .ok (.aload_n 0, 1) := by decide +kernel
theorem dX13_length_1 : decode cX13_length 1 = .ok (.aload_n 0, 1) := by decide +kernel
theorem dX13_length_2 : decode cX13_length 2 = .ok (.iload_n 1, 1) := by decide +kernel
theorem dX13_length_3 : decode cX13_length 3 = .ok (.invokevirtual 161, 3) := by decide +kernel
theorem dX13_length_6 : decode cX13_length 6 = .ok (.iconst 1, 1) := by decide +kernel
theorem dX13_length_7 : decode cX13_length 7 = .ok (.invokevirtual 139, 3) := by decide +kernel
theorem dX13_length_10 : decode cX13_length 10 = .ok (.ifCond .eq 7, 3) := by decide +kernel
theorem dX13_length_13 : decode cX13_length 13 = .ok (.iconst 0, 1) := by decide +kernel
theorem dX13_length_14 : decode cX13_length 14 = .ok (.goto 8, 3) := by decide +kernel
theorem dX13_length_22 : decode cX13_length 22 = .ok (.ireturn, 1) := by decide +kernel
theorem dX13_tellWord_0 : decode cX13_tellWord 0 = .ok (.aload_n 0, 1) := by decide +kernel
theorem dX13_tellWord_1 : decode cX13_tellWord 1 = .ok (.aload_n 0, 1) := by decide +kernel
theorem dX13_tellWord_2 : decode cX13_tellWord 2 = .ok (.iload_n 1, 1) := by decide +kernel
theorem dX13_tellWord_3 : decode cX13_tellWord 3 = .ok (.invokevirtual 161, 3) := by decide +kernel
theorem dX13_tellWord_6 : decode cX13_tellWord 6 = .ok (.iconst 1, 1) := by decide +kernel
theorem dX13_tellWord_7 : decode cX13_tellWord 7 = .ok (.invokevirtual 139, 3) := by decide +kernel
theorem dX13_tellWord_10 : decode cX13_tellWord 10 = .ok (.ifCond .eq 5, 3) := by decide +kernel
theorem dX13_tellWord_13 : decode cX13_tellWord 13 = .ok (.iconst 0, 1) := by decide +kernel
theorem dX13_tellWord_14 : decode cX13_tellWord 14 = .ok (.ireturn, 1) := by decide +kernel
theorem dX13_value_0 : decode cX13_value 0 = .ok (.aload_n 0, 1) := by decide +kernel
theorem dX13_value_1 : decode cX13_value 1 = .ok (.aload_n 0, 1) := by decide +kernel
theorem dX13_value_2 : decode cX13_value 2 = .ok (.iload_n 1, 1) := by decide +kernel
theorem dX13_value_3 : decode cX13_value 3 = .ok (.invokevirtual 161, 3) := by decide +kernel
theorem dX13_value_6 : decode cX13_value 6 = .ok (.iconst 1, 1) := by decide +kernel
theorem dX13_value_7 : decode cX13_value 7 = .ok (.invokevirtual 139, 3) := by decide +kernel
theorem dX13_value_10 : decode cX13_value 10 = .ok (.ifCond .eq 7, 3) := by decide +kernel
theorem dX13_value_13 : decode cX13_value 13 = .ok (.iconst 0, 1) := by decide +kernel
theorem dX13_value_14 : decode cX13_value 14 = .ok (.goto 9, 3) := by decide +kernel
theorem dX13_value_23 : decode cX13_value 23 = .ok (.ireturn, 1) := by decide +kernel
theorem dX13_tag_0 : decode cX13_tag 0 = .ok (.aload_n 0, 1) := by decide +kernel
theorem dX13_tag_1 : decode cX13_tag 1 = .ok (.aload_n 0, 1) := by decide +kernel
theorem dX13_tag_2 : decode cX13_tag 2 = .ok (.iload_n 1, 1) := by decide +kernel
theorem dX13_tag_3 : decode cX13_tag 3 = .ok (.invokevirtual 161, 3) := by decide +kernel
theorem dX13_tag_6 : decode cX13_tag 6 = .ok (.iconst 1, 1) := by decide +kernel
theorem dX13_tag_7 : decode cX13_tag 7 = .ok (.invokevirtual 139, 3) := by decide +kernel
theorem dX13_tag_10 : decode cX13_tag 10 = .ok (.ifCond .eq 8, 3) := by decide +kernel
theorem dX13_tag_13 : decode cX13_tag 13 = .ok (.bipush 97, 2) := by decide +kernel
theorem dX13_tag_15 : decode cX13_tag 15 = .ok (.goto 9, 3) := by decide +kernel
theorem dX13_tag_24 : decode cX13_tag 24 = .ok (.ireturn, 1) := by decide +kernel
theorem dX13_words_0 : decode cX13_words 0 = .ok (.aload_n 0, 1) := by decide +kernel
theorem dX13_words_1 : decode cX13_words 1 = .ok (.iconst 0, 1) := by decide +kernel
theorem dX13_words_2 : decode cX13_words 2 = .ok (.putfield 82, 3) := by decide +kernel
theorem dX13_words_5 : decode cX13_words 5 = .ok (.aload_n 0, 1) := by decide +kernel
theorem dX13_words_6 : decode cX13_words 6 = .ok (.invokevirtual 174, 3) := by decide +kernel
theorem dX13_words_9 : decode cX13_words 9 = .ok (.arraylength, 1) := by decide +kernel
theorem dX13_words_10 : decode cX13_words 10 = .ok (.ireturn, 1) := by decide +kernel
theorem dX13_tellOf_0 : decode cX13_tellOf 0 = .ok (.aload_n 0, 1) := by decide +kernel
theorem dX13_tellOf_1 : decode cX13_tellOf 1 = .ok (.invokevirtual 174, 3) := by decide +kernel
theorem dX13_tellOf_4 : decode cX13_tellOf 4 = .ok (.astore_n 2, 1) := by decide +kernel
theorem dX13_tellOf_5 : decode cX13_tellOf 5 = .ok (.aload_n 0, 1) := by decide +kernel
theorem dX13_tellOf_6 : decode cX13_tellOf 6 = .ok (.iload_n 1, 1) := by decide +kernel
theorem dX13_tellOf_7 : decode cX13_tellOf 7 = .ok (.iconst 0, 1) := by decide +kernel
theorem dX13_tellOf_8 : decode cX13_tellOf 8 = .ok (.aload_n 2, 1) := by decide +kernel
theorem dX13_tellOf_9 : decode cX13_tellOf 9 = .ok (.arraylength, 1) := by decide +kernel
theorem dX13_tellOf_10 : decode cX13_tellOf 10 = .ok (.iconst 1, 1) := by decide +kernel
theorem dX13_tellOf_11 : decode cX13_tellOf 11 = .ok (.isub, 1) := by decide +kernel
theorem dX13_tellOf_12 : decode cX13_tellOf 12 = .ok (.invokestatic 88, 3) := by decide +kernel
theorem dX13_tellOf_15 : decode cX13_tellOf 15 = .ok (.iconst 1, 1) := by decide +kernel
theorem dX13_tellOf_16 : decode cX13_tellOf 16 = .ok (.invokevirtual 139, 3) := by decide +kernel
theorem dX13_tellOf_19 : decode cX13_tellOf 19 = .ok (.ifCond .eq 7, 3) := by decide +kernel
theorem dX13_tellOf_22 : decode cX13_tellOf 22 = .ok (.iconst 0, 1) := by decide +kernel
theorem dX13_tellOf_23 : decode cX13_tellOf 23 = .ok (.goto 10, 3) := by decide +kernel
theorem dX13_tellOf_33 : decode cX13_tellOf 33 = .ok (.ireturn, 1) := by decide +kernel
theorem dX13_having_0 : decode cX13_having 0 = .ok (.aload_n 0, 1) := by decide +kernel
theorem dX13_having_1 : decode cX13_having 1 = .ok (.aload_n 0, 1) := by decide +kernel
theorem dX13_having_2 : decode cX13_having 2 = .ok (.invokevirtual 178, 3) := by decide +kernel
theorem dX13_having_5 : decode cX13_having 5 = .ok (.iconst 1, 1) := by decide +kernel
theorem dX13_having_6 : decode cX13_having 6 = .ok (.invokevirtual 139, 3) := by decide +kernel
theorem dX13_having_9 : decode cX13_having 9 = .ok (.ifCond .eq 7, 3) := by decide +kernel
theorem dX13_having_12 : decode cX13_having 12 = .ok (.iconst 0, 1) := by decide +kernel
theorem dX13_having_13 : decode cX13_having 13 = .ok (.goto 14, 3) := by decide +kernel
theorem dX13_having_27 : decode cX13_having 27 = .ok (.ireturn, 1) := by decide +kernel
theorem dX13_beginning_0 : decode cX13_beginning 0 = .ok (.aload_n 0, 1) := by decide +kernel
theorem dX13_beginning_1 : decode cX13_beginning 1 = .ok (.aload_n 0, 1) := by decide +kernel
theorem dX13_beginning_2 : decode cX13_beginning 2 = .ok (.invokevirtual 178, 3) := by decide +kernel
theorem dX13_beginning_5 : decode cX13_beginning 5 = .ok (.iconst 1, 1) := by decide +kernel
theorem dX13_beginning_6 : decode cX13_beginning 6 = .ok (.invokevirtual 139, 3) := by decide +kernel
theorem dX13_beginning_9 : decode cX13_beginning 9 = .ok (.ifCond .eq 5, 3) := by decide +kernel
theorem dX13_beginning_12 : decode cX13_beginning 12 = .ok (.iconst 0, 1) := by decide +kernel
theorem dX13_beginning_13 : decode cX13_beginning 13 = .ok (.ireturn, 1) := by decide +kernel
theorem dX13_slips_0 : decode cX13_slips 0 = .ok (.aload_n 0, 1) := by decide +kernel
theorem dX13_slips_1 : decode cX13_slips 1 = .ok (.aload_n 0, 1) := by decide +kernel
theorem dX13_slips_2 : decode cX13_slips 2 = .ok (.invokevirtual 178, 3) := by decide +kernel
theorem dX13_slips_5 : decode cX13_slips 5 = .ok (.iconst 1, 1) := by decide +kernel
theorem dX13_slips_6 : decode cX13_slips 6 = .ok (.invokevirtual 139, 3) := by decide +kernel
theorem dX13_slips_9 : decode cX13_slips 9 = .ok (.ifCond .eq 5, 3) := by decide +kernel
theorem dX13_slips_12 : decode cX13_slips 12 = .ok (.iconst 0, 1) := by decide +kernel
theorem dX13_slips_13 : decode cX13_slips 13 = .ok (.ireturn, 1) := by decide +kernel
theorem dX13_suggest_0 : decode cX13_suggest 0 = .ok (.aload_n 0, 1) := by decide +kernel
theorem dX13_suggest_1 : decode cX13_suggest 1 = .ok (.aload_n 0, 1) := by decide +kernel
theorem dX13_suggest_2 : decode cX13_suggest 2 = .ok (.invokevirtual 178, 3) := by decide +kernel
theorem dX13_suggest_5 : decode cX13_suggest 5 = .ok (.iconst 1, 1) := by decide +kernel
theorem dX13_suggest_6 : decode cX13_suggest 6 = .ok (.invokevirtual 139, 3) := by decide +kernel
theorem dX13_suggest_9 : decode cX13_suggest 9 = .ok (.ifCond .eq 5, 3) := by decide +kernel
theorem dX13_suggest_12 : decode cX13_suggest 12 = .ok (.iconst 0, 1) := by decide +kernel
theorem dX13_suggest_13 : decode cX13_suggest 13 = .ok (.ireturn, 1) := by decide +kernel
theorem dX13_parts_0 : decode cX13_parts 0 = .ok (.aload_n 0, 1) := by decide +kernel
theorem dX13_parts_1 : decode cX13_parts 1 = .ok (.iconst 0, 1) := by decide +kernel
theorem dX13_parts_2 : decode cX13_parts 2 = .ok (.putfield 82, 3) := by decide +kernel
theorem dX13_parts_5 : decode cX13_parts 5 = .ok (.aload_n 0, 1) := by decide +kernel
theorem dX13_parts_6 : decode cX13_parts 6 = .ok (.getfield 33, 3) := by decide +kernel
theorem dX13_parts_9 : decode cX13_parts 9 = .ok (.ireturn, 1) := by decide +kernel
theorem dX13_sizeOf_0 : decode cX13_sizeOf 0 = .ok (.iconst 0, 1) := by decide +kernel
theorem dX13_sizeOf_1 : decode cX13_sizeOf 1 = .ok (.istore_n 2, 1) := by decide +kernel
theorem dX13_sizeOf_2 : decode cX13_sizeOf 2 = .ok (.iconst 0, 1) := by decide +kernel
theorem dX13_sizeOf_3 : decode cX13_sizeOf 3 = .ok (.istore_n 3, 1) := by decide +kernel
theorem dX13_sizeOf_4 : decode cX13_sizeOf 4 = .ok (.iload_n 3, 1) := by decide +kernel
theorem dX13_sizeOf_5 : decode cX13_sizeOf 5 = .ok (.aload_n 0, 1) := by decide +kernel
theorem dX13_sizeOf_6 : decode cX13_sizeOf 6 = .ok (.getfield 85, 3) := by decide +kernel
theorem dX13_sizeOf_9 : decode cX13_sizeOf 9 = .ok (.if_icmp .ge 36, 3) := by decide +kernel
theorem dX13_sizeOf_45 : decode cX13_sizeOf 45 = .ok (.iload_n 2, 1) := by decide +kernel
theorem dX13_sizeOf_46 : decode cX13_sizeOf 46 = .ok (.ireturn, 1) := by decide +kernel
theorem dX13_partSize_0 : decode cX13_partSize 0 = .ok (.aload_n 0, 1) := by decide +kernel
theorem dX13_partSize_1 : decode cX13_partSize 1 = .ok (.iload_n 1, 1) := by decide +kernel
theorem dX13_partSize_2 : decode cX13_partSize 2 = .ok (.iconst 0, 1) := by decide +kernel
theorem dX13_partSize_3 : decode cX13_partSize 3 = .ok (.aload_n 0, 1) := by decide +kernel
theorem dX13_partSize_4 : decode cX13_partSize 4 = .ok (.getfield 33, 3) := by decide +kernel
theorem dX13_partSize_7 : decode cX13_partSize 7 = .ok (.iconst 1, 1) := by decide +kernel
theorem dX13_partSize_8 : decode cX13_partSize 8 = .ok (.isub, 1) := by decide +kernel
theorem dX13_partSize_9 : decode cX13_partSize 9 = .ok (.invokestatic 88, 3) := by decide +kernel
theorem dX13_partSize_12 : decode cX13_partSize 12 = .ok (.iconst 1, 1) := by decide +kernel
theorem dX13_partSize_13 : decode cX13_partSize 13 = .ok (.invokevirtual 139, 3) := by decide +kernel
theorem dX13_partSize_16 : decode cX13_partSize 16 = .ok (.ifCond .eq 7, 3) := by decide +kernel
theorem dX13_partSize_19 : decode cX13_partSize 19 = .ok (.iconst 0, 1) := by decide +kernel
theorem dX13_partSize_20 : decode cX13_partSize 20 = .ok (.goto 8, 3) := by decide +kernel
theorem dX13_partSize_23 : decode cX13_partSize 23 = .ok (.aload_n 0, 1) := by decide +kernel
theorem dX13_partSize_24 : decode cX13_partSize 24 = .ok (.iload_n 1, 1) := by decide +kernel
theorem dX13_partSize_25 : decode cX13_partSize 25 = .ok (.invokevirtual 196, 3) := by decide +kernel
theorem dX13_partSize_28 : decode cX13_partSize 28 = .ok (.ireturn, 1) := by decide +kernel
theorem dX13_seal_0 : decode cX13_seal 0 = .ok (.aload_n 0, 1) := by decide +kernel
theorem dX13_seal_1 : decode cX13_seal 1 = .ok (.aload_n 0, 1) := by decide +kernel
theorem dX13_seal_2 : decode cX13_seal 2 = .ok (.aload_n 0, 1) := by decide +kernel
theorem dX13_seal_3 : decode cX13_seal 3 = .ok (.getfield 33, 3) := by decide +kernel
theorem dX13_seal_6 : decode cX13_seal 6 = .ok (.iconst 1, 1) := by decide +kernel
theorem dX13_seal_7 : decode cX13_seal 7 = .ok (.isub, 1) := by decide +kernel
theorem dX13_seal_8 : decode cX13_seal 8 = .ok (.invokevirtual 196, 3) := by decide +kernel
theorem dX13_seal_11 : decode cX13_seal 11 = .ok (.ifCond .le 7, 3) := by decide +kernel
theorem dX13_seal_18 : decode cX13_seal 18 = .ok (.iconst 0, 1) := by decide +kernel
theorem dX13_seal_19 : decode cX13_seal 19 = .ok (.iconst 1, 1) := by decide +kernel
theorem dX13_seal_20 : decode cX13_seal 20 = .ok (.invokevirtual 139, 3) := by decide +kernel
theorem dX13_seal_23 : decode cX13_seal 23 = .ok (.ifCond .ne 25, 3) := by decide +kernel
theorem dX13_seal_48 : decode cX13_seal 48 = .ok (.iconst 0, 1) := by decide +kernel
theorem dX13_seal_49 : decode cX13_seal 49 = .ok (.ireturn, 1) := by decide +kernel
theorem dX13_join_0 : decode cX13_join 0 = .ok (.aload_n 0, 1) := by decide +kernel
theorem dX13_join_1 : decode cX13_join 1 = .ok (.iload_n 1, 1) := by decide +kernel
theorem dX13_join_2 : decode cX13_join 2 = .ok (.iconst 0, 1) := by decide +kernel
theorem dX13_join_3 : decode cX13_join 3 = .ok (.aload_n 0, 1) := by decide +kernel
theorem dX13_join_4 : decode cX13_join 4 = .ok (.getfield 33, 3) := by decide +kernel
theorem dX13_join_7 : decode cX13_join 7 = .ok (.iconst 2, 1) := by decide +kernel
theorem dX13_join_8 : decode cX13_join 8 = .ok (.isub, 1) := by decide +kernel
theorem dX13_join_9 : decode cX13_join 9 = .ok (.invokestatic 88, 3) := by decide +kernel
theorem dX13_join_12 : decode cX13_join 12 = .ok (.iconst 1, 1) := by decide +kernel
theorem dX13_join_13 : decode cX13_join 13 = .ok (.invokevirtual 139, 3) := by decide +kernel
theorem dX13_join_16 : decode cX13_join 16 = .ok (.ifCond .eq 5, 3) := by decide +kernel
theorem dX13_join_19 : decode cX13_join 19 = .ok (.iconst 0, 1) := by decide +kernel
theorem dX13_join_20 : decode cX13_join 20 = .ok (.ireturn, 1) := by decide +kernel
theorem dX13_head__0 : decode cX13_head_ 0 = .ok (.iload_n 1, 1) := by decide +kernel
theorem dX13_head__1 : decode cX13_head_ 1 = .ok (.newarray .int, 2) := by decide +kernel
theorem dX13_head__3 : decode cX13_head_ 3 = .ok (.astore_n 2, 1) := by decide +kernel
theorem dX13_head__4 : decode cX13_head_ 4 = .ok (.iconst 0, 1) := by decide +kernel
theorem dX13_head__5 : decode cX13_head_ 5 = .ok (.istore_n 3, 1) := by decide +kernel
theorem dX13_head__6 : decode cX13_head_ 6 = .ok (.iload_n 3, 1) := by decide +kernel
theorem dX13_head__7 : decode cX13_head_ 7 = .ok (.iload_n 1, 1) := by decide +kernel
theorem dX13_head__8 : decode cX13_head_ 8 = .ok (.if_icmp .ge 15, 3) := by decide +kernel
theorem dX13_head__23 : decode cX13_head_ 23 = .ok (.aload_n 2, 1) := by decide +kernel
theorem dX13_head__24 : decode cX13_head_ 24 = .ok (.areturn, 1) := by decide +kernel
theorem dX13_packed_0 : decode cX13_packed 0 = .ok (.aload_n 0, 1) := by decide +kernel
theorem dX13_packed_1 : decode cX13_packed 1 = .ok (.iload_n 1, 1) := by decide +kernel
theorem dX13_packed_2 : decode cX13_packed 2 = .ok (.iconst 0, 1) := by decide +kernel
theorem dX13_packed_3 : decode cX13_packed 3 = .ok (.aload_n 0, 1) := by decide +kernel
theorem dX13_packed_4 : decode cX13_packed 4 = .ok (.getfield 33, 3) := by decide +kernel
theorem dX13_packed_7 : decode cX13_packed 7 = .ok (.iconst 1, 1) := by decide +kernel
theorem dX13_packed_8 : decode cX13_packed 8 = .ok (.isub, 1) := by decide +kernel
theorem dX13_packed_9 : decode cX13_packed 9 = .ok (.invokestatic 88, 3) := by decide +kernel
theorem dX13_packed_12 : decode cX13_packed 12 = .ok (.iconst 1, 1) := by decide +kernel
theorem dX13_packed_13 : decode cX13_packed 13 = .ok (.invokevirtual 139, 3) := by decide +kernel
theorem dX13_packed_16 : decode cX13_packed 16 = .ok (.ifCond .ne 15, 3) := by decide +kernel
theorem dX13_packed_19 : decode cX13_packed 19 = .ok (.aload_n 0, 1) := by decide +kernel
theorem dX13_packed_20 : decode cX13_packed 20 = .ok (.aload_n 0, 1) := by decide +kernel
theorem dX13_packed_21 : decode cX13_packed 21 = .ok (.invokevirtual 178, 3) := by decide +kernel
theorem dX13_packed_24 : decode cX13_packed 24 = .ok (.iconst 2, 1) := by decide +kernel
theorem dX13_packed_25 : decode cX13_packed 25 = .ok (.invokevirtual 139, 3) := by decide +kernel
theorem dX13_packed_28 : decode cX13_packed 28 = .ok (.ifCond .eq 5, 3) := by decide +kernel
theorem dX13_packed_31 : decode cX13_packed 31 = .ok (.iconst 0, 1) := by decide +kernel
theorem dX13_packed_32 : decode cX13_packed 32 = .ok (.ireturn, 1) := by decide +kernel
theorem dX13_byteAt_0 : decode cX13_byteAt 0 = .ok (.aload_n 0, 1) := by decide +kernel
theorem dX13_byteAt_1 : decode cX13_byteAt 1 = .ok (.iload_n 1, 1) := by decide +kernel
theorem dX13_byteAt_2 : decode cX13_byteAt 2 = .ok (.iconst 0, 1) := by decide +kernel
theorem dX13_byteAt_3 : decode cX13_byteAt 3 = .ok (.aload_n 0, 1) := by decide +kernel
theorem dX13_byteAt_4 : decode cX13_byteAt 4 = .ok (.getfield 40, 3) := by decide +kernel
theorem dX13_byteAt_7 : decode cX13_byteAt 7 = .ok (.arraylength, 1) := by decide +kernel
theorem dX13_byteAt_8 : decode cX13_byteAt 8 = .ok (.iconst 1, 1) := by decide +kernel
theorem dX13_byteAt_9 : decode cX13_byteAt 9 = .ok (.isub, 1) := by decide +kernel
theorem dX13_byteAt_10 : decode cX13_byteAt 10 = .ok (.invokestatic 88, 3) := by decide +kernel
theorem dX13_byteAt_13 : decode cX13_byteAt 13 = .ok (.iconst 1, 1) := by decide +kernel
theorem dX13_byteAt_14 : decode cX13_byteAt 14 = .ok (.invokevirtual 139, 3) := by decide +kernel
theorem dX13_byteAt_17 : decode cX13_byteAt 17 = .ok (.ifCond .eq 7, 3) := by decide +kernel
theorem dX13_byteAt_20 : decode cX13_byteAt 20 = .ok (.iconst 0, 1) := by decide +kernel
theorem dX13_byteAt_21 : decode cX13_byteAt 21 = .ok (.goto 9, 3) := by decide +kernel
theorem dX13_byteAt_30 : decode cX13_byteAt 30 = .ok (.ireturn, 1) := by decide +kernel
theorem dX13_is_0 : decode cX13_is 0 = .ok (.aload_n 0, 1) := by decide +kernel
theorem dX13_is_1 : decode cX13_is 1 = .ok (.getfield 210, 3) := by decide +kernel
theorem dX13_is_4 : decode cX13_is 4 = .ok (.aload_n 0, 1) := by decide +kernel
theorem dX13_is_5 : decode cX13_is 5 = .ok (.getfield 132, 3) := by decide +kernel
theorem dX13_is_8 : decode cX13_is 8 = .ok (.if_icmp .ge 20, 3) := by decide +kernel
theorem dX13_is_28 : decode cX13_is 28 = .ok (.iconst 0, 1) := by decide +kernel
theorem dX13_is_29 : decode cX13_is 29 = .ok (.ireturn, 1) := by decide +kernel
theorem dX13_rowOf_0 : decode cX13_rowOf 0 = .ok (.new 43, 3) := by decide +kernel
theorem dX13_rowOf_3 : decode cX13_rowOf 3 = .ok (.dup, 1) := by decide +kernel
theorem dX13_rowOf_4 : decode cX13_rowOf 4 = .ok (.iload_n 1, 1) := by decide +kernel
theorem dX13_rowOf_5 : decode cX13_rowOf 5 = .ok (.invokespecial 219, 3) := by decide +kernel
theorem dX13_rowOf_8 : decode cX13_rowOf 8 = .ok (.astore_n 2, 1) := by decide +kernel
theorem dX13_rowOf_9 : decode cX13_rowOf 9 = .ok (.aload_n 2, 1) := by decide +kernel
theorem dX13_rowOf_10 : decode cX13_rowOf 10 = .ok (.iload_n 1, 1) := by decide +kernel
theorem dX13_rowOf_11 : decode cX13_rowOf 11 = .ok (.bipush 124, 2) := by decide +kernel
theorem dX13_rowOf_13 : decode cX13_rowOf 13 = .ok (.if_icmp .ne 12, 3) := by decide +kernel
theorem dX13_rowOf_16 : decode cX13_rowOf 16 = .ok (.aload_n 0, 1) := by decide +kernel
theorem dX13_rowOf_17 : decode cX13_rowOf 17 = .ok (.bipush 38, 2) := by decide +kernel
theorem dX13_rowOf_19 : decode cX13_rowOf 19 = .ok (.invokevirtual 222, 3) := by decide +kernel
theorem dX13_rowOf_22 : decode cX13_rowOf 22 = .ok (.goto 7, 3) := by decide +kernel
theorem dX13_rowOf_25 : decode cX13_rowOf 25 = .ok (.aload_n 0, 1) := by decide +kernel
theorem dX13_rowOf_26 : decode cX13_rowOf 26 = .ok (.invokevirtual 226, 3) := by decide +kernel
theorem dX13_rowOf_29 : decode cX13_rowOf 29 = .ok (.invokevirtual 230, 3) := by decide +kernel
theorem dX13_rowOf_32 : decode cX13_rowOf 32 = .ok (.aload_n 0, 1) := by decide +kernel
theorem dX13_rowOf_33 : decode cX13_rowOf 33 = .ok (.getfield 216, 3) := by decide +kernel
theorem dX13_rowOf_36 : decode cX13_rowOf 36 = .ok (.ifCond .ge 47, 3) := by decide +kernel
theorem dX13_rowOf_83 : decode cX13_rowOf 83 = .ok (.aload_n 2, 1) := by decide +kernel
theorem dX13_rowOf_84 : decode cX13_rowOf 84 = .ok (.getfield 234, 3) := by decide +kernel
theorem dX13_rowOf_87 : decode cX13_rowOf 87 = .ok (.arraylength, 1) := by decide +kernel
theorem dX13_rowOf_88 : decode cX13_rowOf 88 = .ok (.iconst 1, 1) := by decide +kernel
theorem dX13_rowOf_89 : decode cX13_rowOf 89 = .ok (.if_icmp .ne 12, 3) := by decide +kernel
theorem dX13_rowOf_92 : decode cX13_rowOf 92 = .ok (.aload_n 2, 1) := by decide +kernel
theorem dX13_rowOf_93 : decode cX13_rowOf 93 = .ok (.getfield 234, 3) := by decide +kernel
theorem dX13_rowOf_96 : decode cX13_rowOf 96 = .ok (.iconst 0, 1) := by decide +kernel
theorem dX13_rowOf_97 : decode cX13_rowOf 97 = .ok (.aaload, 1) := by decide +kernel
theorem dX13_rowOf_98 : decode cX13_rowOf 98 = .ok (.goto 4, 3) := by decide +kernel
theorem dX13_rowOf_102 : decode cX13_rowOf 102 = .ok (.areturn, 1) := by decide +kernel
theorem dX13_term_0 : decode cX13_term 0 = .ok (.aload_n 0, 1) := by decide +kernel
theorem dX13_term_1 : decode cX13_term 1 = .ok (.bipush 33, 2) := by decide +kernel
theorem dX13_term_3 : decode cX13_term 3 = .ok (.invokevirtual 213, 3) := by decide +kernel
theorem dX13_term_6 : decode cX13_term 6 = .ok (.istore_n 1, 1) := by decide +kernel
theorem dX13_term_7 : decode cX13_term 7 = .ok (.aload_n 0, 1) := by decide +kernel
theorem dX13_term_8 : decode cX13_term 8 = .ok (.dup, 1) := by decide +kernel
theorem dX13_term_9 : decode cX13_term 9 = .ok (.getfield 210, 3) := by decide +kernel
theorem dX13_term_12 : decode cX13_term 12 = .ok (.iload_n 1, 1) := by decide +kernel
theorem dX13_term_13 : decode cX13_term 13 = .ok (.ifCond .eq 7, 3) := by decide +kernel
theorem dX13_term_20 : decode cX13_term 20 = .ok (.iconst 0, 1) := by decide +kernel
theorem dX13_term_21 : decode cX13_term 21 = .ok (.iadd, 1) := by decide +kernel
theorem dX13_term_22 : decode cX13_term 22 = .ok (.putfield 210, 3) := by decide +kernel
theorem dX13_term_25 : decode cX13_term 25 = .ok (.aload_n 0, 1) := by decide +kernel
theorem dX13_term_26 : decode cX13_term 26 = .ok (.bipush 40, 2) := by decide +kernel
theorem dX13_term_28 : decode cX13_term 28 = .ok (.invokevirtual 213, 3) := by decide +kernel
theorem dX13_term_31 : decode cX13_term 31 = .ok (.istore_n 2, 1) := by decide +kernel
theorem dX13_term_32 : decode cX13_term 32 = .ok (.iload_n 2, 1) := by decide +kernel
theorem dX13_term_33 : decode cX13_term 33 = .ok (.ifCond .eq 10, 3) := by decide +kernel
theorem dX13_term_43 : decode cX13_term 43 = .ok (.aload_n 0, 1) := by decide +kernel
theorem dX13_term_44 : decode cX13_term 44 = .ok (.invokevirtual 240, 3) := by decide +kernel
theorem dX13_term_47 : decode cX13_term 47 = .ok (.astore_n 3, 1) := by decide +kernel
theorem dX13_term_48 : decode cX13_term 48 = .ok (.iconst 1, 1) := by decide +kernel
theorem dX13_term_49 : decode cX13_term 49 = .ok (.istore 4, 2) := by decide +kernel
theorem dX13_term_51 : decode cX13_term 51 = .ok (.aload_n 0, 1) := by decide +kernel
theorem dX13_term_52 : decode cX13_term 52 = .ok (.getfield 216, 3) := by decide +kernel
theorem dX13_term_55 : decode cX13_term 55 = .ok (.ifCond .ge 87, 3) := by decide +kernel
theorem dX13_term_142 : decode cX13_term 142 = .ok (.iload_n 2, 1) := by decide +kernel
theorem dX13_term_143 : decode cX13_term 143 = .ok (.ifCond .eq 15, 3) := by decide +kernel
theorem dX13_term_158 : decode cX13_term 158 = .ok (.aload_n 3, 1) := by decide +kernel
theorem dX13_term_159 : decode cX13_term 159 = .ok (.astore 5, 2) := by decide +kernel
theorem dX13_term_161 : decode cX13_term 161 = .ok (.iload_n 2, 1) := by decide +kernel
theorem dX13_term_162 : decode cX13_term 162 = .ok (.ifCond .eq 20, 3) := by decide +kernel
theorem dX13_term_182 : decode cX13_term 182 = .ok (.aload 5, 2) := by decide +kernel
theorem dX13_term_184 : decode cX13_term 184 = .ok (.iload_n 1, 1) := by decide +kernel
theorem dX13_term_185 : decode cX13_term 185 = .ok (.putfield 243, 3) := by decide +kernel
theorem dX13_term_188 : decode cX13_term 188 = .ok (.aload 5, 2) := by decide +kernel
theorem dX13_term_190 : decode cX13_term 190 = .ok (.iload 4, 2) := by decide +kernel
theorem dX13_term_192 : decode cX13_term 192 = .ok (.putfield 247, 3) := by decide +kernel
theorem dX13_term_195 : decode cX13_term 195 = .ok (.aload 5, 2) := by decide +kernel
theorem dX13_term_197 : decode cX13_term 197 = .ok (.areturn, 1) := by decide +kernel
theorem dX13_wordAt_0 : decode cX13_wordAt 0 = .ok (.bipush 12, 2) := by decide +kernel
theorem dX13_wordAt_2 : decode cX13_wordAt 2 = .ok (.newarray .int, 2) := by decide +kernel
theorem dX13_wordAt_4 : decode cX13_wordAt 4 = .ok (.astore_n 1, 1) := by decide +kernel
theorem dX13_wordAt_5 : decode cX13_wordAt 5 = .ok (.iconst 0, 1) := by decide +kernel
theorem dX13_wordAt_6 : decode cX13_wordAt 6 = .ok (.istore_n 2, 1) := by decide +kernel
theorem dX13_wordAt_7 : decode cX13_wordAt 7 = .ok (.aload_n 0, 1) := by decide +kernel
theorem dX13_wordAt_8 : decode cX13_wordAt 8 = .ok (.getfield 210, 3) := by decide +kernel
theorem dX13_wordAt_11 : decode cX13_wordAt 11 = .ok (.aload_n 0, 1) := by decide +kernel
theorem dX13_wordAt_12 : decode cX13_wordAt 12 = .ok (.getfield 132, 3) := by decide +kernel
theorem dX13_wordAt_15 : decode cX13_wordAt 15 = .ok (.if_icmp .ge 52, 3) := by decide +kernel
theorem dX13_wordAt_67 : decode cX13_wordAt 67 = .ok (.aload_n 0, 1) := by decide +kernel
theorem dX13_wordAt_68 : decode cX13_wordAt 68 = .ok (.getfield 216, 3) := by decide +kernel
theorem dX13_wordAt_71 : decode cX13_wordAt 71 = .ok (.ifCond .ge 41, 3) := by decide +kernel
theorem dX13_wordAt_74 : decode cX13_wordAt 74 = .ok (.iload_n 2, 1) := by decide +kernel
theorem dX13_wordAt_75 : decode cX13_wordAt 75 = .ok (.ifCond .eq 29, 3) := by decide +kernel
theorem dX13_wordAt_104 : decode cX13_wordAt 104 = .ok (.aload_n 0, 1) := by decide +kernel
theorem dX13_wordAt_105 : decode cX13_wordAt 105 = .ok (.aload_n 0, 1) := by decide +kernel
theorem dX13_wordAt_106 : decode cX13_wordAt 106 = .ok (.getfield 210, 3) := by decide +kernel
theorem dX13_wordAt_109 : decode cX13_wordAt 109 = .ok (.putfield 216, 3) := by decide +kernel
theorem dX13_wordAt_112 : decode cX13_wordAt 112 = .ok (.aload_n 1, 1) := by decide +kernel
theorem dX13_wordAt_113 : decode cX13_wordAt 113 = .ok (.iload_n 2, 1) := by decide +kernel
theorem dX13_wordAt_114 : decode cX13_wordAt 114 = .ok (.invokestatic 116, 3) := by decide +kernel
theorem dX13_wordAt_117 : decode cX13_wordAt 117 = .ok (.lreturn, 1) := by decide +kernel
theorem dX13_unit_0 : decode cX13_unit 0 = .ok (.aload_n 0, 1) := by decide +kernel
theorem dX13_unit_1 : decode cX13_unit 1 = .ok (.bipush 60, 2) := by decide +kernel
theorem dX13_unit_3 : decode cX13_unit 3 = .ok (.invokevirtual 213, 3) := by decide +kernel
theorem dX13_unit_6 : decode cX13_unit 6 = .ok (.ifCond .eq 8, 3) := by decide +kernel
theorem dX13_unit_14 : decode cX13_unit 14 = .ok (.aload_n 0, 1) := by decide +kernel
theorem dX13_unit_15 : decode cX13_unit 15 = .ok (.bipush 62, 2) := by decide +kernel
theorem dX13_unit_17 : decode cX13_unit 17 = .ok (.invokevirtual 213, 3) := by decide +kernel
theorem dX13_unit_20 : decode cX13_unit 20 = .ok (.ifCond .eq 8, 3) := by decide +kernel
theorem dX13_unit_28 : decode cX13_unit 28 = .ok (.bipush 97, 2) := by decide +kernel
theorem dX13_unit_30 : decode cX13_unit 30 = .ok (.istore_n 1, 1) := by decide +kernel
theorem dX13_unit_31 : decode cX13_unit 31 = .ok (.aload_n 0, 1) := by decide +kernel
theorem dX13_unit_32 : decode cX13_unit 32 = .ok (.dup, 1) := by decide +kernel
theorem dX13_unit_33 : decode cX13_unit 33 = .ok (.getfield 210, 3) := by decide +kernel
theorem dX13_unit_36 : decode cX13_unit 36 = .ok (.iload_n 1, 1) := by decide +kernel
theorem dX13_unit_37 : decode cX13_unit 37 = .ok (.bipush 97, 2) := by decide +kernel
theorem dX13_unit_39 : decode cX13_unit 39 = .ok (.if_icmp .ne 7, 3) := by decide +kernel
theorem dX13_unit_42 : decode cX13_unit 42 = .ok (.iconst 0, 1) := by decide +kernel
theorem dX13_unit_43 : decode cX13_unit 43 = .ok (.goto 4, 3) := by decide +kernel
theorem dX13_unit_47 : decode cX13_unit 47 = .ok (.iadd, 1) := by decide +kernel
theorem dX13_unit_48 : decode cX13_unit 48 = .ok (.putfield 210, 3) := by decide +kernel
theorem dX13_unit_51 : decode cX13_unit 51 = .ok (.aload_n 0, 1) := by decide +kernel
theorem dX13_unit_52 : decode cX13_unit 52 = .ok (.bipush 34, 2) := by decide +kernel
theorem dX13_unit_54 : decode cX13_unit 54 = .ok (.invokevirtual 213, 3) := by decide +kernel
theorem dX13_unit_57 : decode cX13_unit 57 = .ok (.ifCond .eq 99, 3) := by decide +kernel
theorem dX13_unit_156 : decode cX13_unit 156 = .ok (.aload_n 0, 1) := by decide +kernel
theorem dX13_unit_157 : decode cX13_unit 157 = .ok (.bipush 123, 2) := by decide +kernel
theorem dX13_unit_159 : decode cX13_unit 159 = .ok (.invokevirtual 213, 3) := by decide +kernel
theorem dX13_unit_162 : decode cX13_unit 162 = .ok (.ifCond .eq 172, 3) := by decide +kernel
theorem dX13_unit_334 : decode cX13_unit 334 = .ok (.aload_n 0, 1) := by decide +kernel
theorem dX13_unit_335 : decode cX13_unit 335 = .ok (.bipush 91, 2) := by decide +kernel
theorem dX13_unit_337 : decode cX13_unit 337 = .ok (.invokevirtual 213, 3) := by decide +kernel
theorem dX13_unit_340 : decode cX13_unit 340 = .ok (.ifCond .eq 103, 3) := by decide +kernel
theorem dX13_unit_443 : decode cX13_unit 443 = .ok (.aload_n 0, 1) := by decide +kernel
theorem dX13_unit_444 : decode cX13_unit 444 = .ok (.invokevirtual 253, 3) := by decide +kernel
theorem dX13_unit_447 : decode cX13_unit 447 = .ok (.lstore_n 3, 1) := by decide +kernel
theorem dX13_unit_448 : decode cX13_unit 448 = .ok (.aload_n 0, 1) := by decide +kernel
theorem dX13_unit_449 : decode cX13_unit 449 = .ok (.getfield 216, 3) := by decide +kernel
theorem dX13_unit_452 : decode cX13_unit 452 = .ok (.ifCond .lt 8, 3) := by decide +kernel
theorem dX13_unit_455 : decode cX13_unit 455 = .ok (.bipush 119, 2) := by decide +kernel
theorem dX13_unit_457 : decode cX13_unit 457 = .ok (.goto 33, 3) := by decide +kernel
theorem dX13_unit_490 : decode cX13_unit 490 = .ok (.istore 5, 2) := by decide +kernel
theorem dX13_unit_492 : decode cX13_unit 492 = .ok (.aload_n 0, 1) := by decide +kernel
theorem dX13_unit_493 : decode cX13_unit 493 = .ok (.dup, 1) := by decide +kernel
theorem dX13_unit_494 : decode cX13_unit 494 = .ok (.getfield 210, 3) := by decide +kernel
theorem dX13_unit_497 : decode cX13_unit 497 = .ok (.iload 5, 2) := by decide +kernel
theorem dX13_unit_499 : decode cX13_unit 499 = .ok (.bipush 119, 2) := by decide +kernel
theorem dX13_unit_501 : decode cX13_unit 501 = .ok (.if_icmp .ne 7, 3) := by decide +kernel
theorem dX13_unit_504 : decode cX13_unit 504 = .ok (.iconst 0, 1) := by decide +kernel
theorem dX13_unit_505 : decode cX13_unit 505 = .ok (.goto 4, 3) := by decide +kernel
theorem dX13_unit_509 : decode cX13_unit 509 = .ok (.iadd, 1) := by decide +kernel
theorem dX13_unit_510 : decode cX13_unit 510 = .ok (.putfield 210, 3) := by decide +kernel
theorem dX13_unit_513 : decode cX13_unit 513 = .ok (.new 43, 3) := by decide +kernel
theorem dX13_unit_516 : decode cX13_unit 516 = .ok (.dup, 1) := by decide +kernel
theorem dX13_unit_517 : decode cX13_unit 517 = .ok (.iload 5, 2) := by decide +kernel
theorem dX13_unit_519 : decode cX13_unit 519 = .ok (.invokespecial 219, 3) := by decide +kernel
theorem dX13_unit_522 : decode cX13_unit 522 = .ok (.astore_n 2, 1) := by decide +kernel
theorem dX13_unit_523 : decode cX13_unit 523 = .ok (.aload_n 2, 1) := by decide +kernel
theorem dX13_unit_524 : decode cX13_unit 524 = .ok (.iload 5, 2) := by decide +kernel
theorem dX13_unit_526 : decode cX13_unit 526 = .ok (.bipush 119, 2) := by decide +kernel
theorem dX13_unit_528 : decode cX13_unit 528 = .ok (.if_icmp .ne 17, 3) := by decide +kernel
theorem dX13_unit_531 : decode cX13_unit 531 = .ok (.aload_n 0, 1) := by decide +kernel
theorem dX13_unit_532 : decode cX13_unit 532 = .ok (.getfield 216, 3) := by decide +kernel
theorem dX13_unit_535 : decode cX13_unit 535 = .ok (.ifCond .ge 10, 3) := by decide +kernel
theorem dX13_unit_545 : decode cX13_unit 545 = .ok (.lload_n 3, 1) := by decide +kernel
theorem dX13_unit_546 : decode cX13_unit 546 = .ok (.invokevirtual 256, 3) := by decide +kernel
theorem dX13_unit_549 : decode cX13_unit 549 = .ok (.aload_n 2, 1) := by decide +kernel
theorem dX13_unit_550 : decode cX13_unit 550 = .ok (.iload_n 1, 1) := by decide +kernel
theorem dX13_unit_551 : decode cX13_unit 551 = .ok (.putfield 271, 3) := by decide +kernel
theorem dX13_unit_554 : decode cX13_unit 554 = .ok (.aload_n 2, 1) := by decide +kernel
theorem dX13_unit_555 : decode cX13_unit 555 = .ok (.areturn, 1) := by decide +kernel
theorem dX13_ask_0 : decode cX13_ask 0 = .ok (.aload_n 0, 1) := by decide +kernel
theorem dX13_ask_1 : decode cX13_ask 1 = .ok (.iconst 0, 1) := by decide +kernel
theorem dX13_ask_2 : decode cX13_ask 2 = .ok (.putfield 82, 3) := by decide +kernel
theorem dX13_ask_5 : decode cX13_ask 5 = .ok (.aload_n 0, 1) := by decide +kernel
theorem dX13_ask_6 : decode cX13_ask 6 = .ok (.iconst 0, 1) := by decide +kernel
theorem dX13_ask_7 : decode cX13_ask 7 = .ok (.putfield 210, 3) := by decide +kernel
theorem dX13_ask_10 : decode cX13_ask 10 = .ok (.aload_n 0, 1) := by decide +kernel
theorem dX13_ask_11 : decode cX13_ask 11 = .ok (.iconst (-1), 1) := by decide +kernel
theorem dX13_ask_12 : decode cX13_ask 12 = .ok (.putfield 216, 3) := by decide +kernel
theorem dX13_ask_15 : decode cX13_ask 15 = .ok (.aload_n 0, 1) := by decide +kernel
theorem dX13_ask_16 : decode cX13_ask 16 = .ok (.bipush 124, 2) := by decide +kernel
theorem dX13_ask_18 : decode cX13_ask 18 = .ok (.invokevirtual 222, 3) := by decide +kernel
theorem dX13_ask_21 : decode cX13_ask 21 = .ok (.astore_n 1, 1) := by decide +kernel
theorem dX13_ask_22 : decode cX13_ask 22 = .ok (.aload_n 0, 1) := by decide +kernel
theorem dX13_ask_23 : decode cX13_ask 23 = .ok (.getfield 216, 3) := by decide +kernel
theorem dX13_ask_26 : decode cX13_ask 26 = .ok (.ifCond .ge 22, 3) := by decide +kernel
theorem dX13_ask_48 : decode cX13_ask 48 = .ok (.aload_n 0, 1) := by decide +kernel
theorem dX13_ask_49 : decode cX13_ask 49 = .ok (.iconst 0, 1) := by decide +kernel
theorem dX13_ask_50 : decode cX13_ask 50 = .ok (.putfield 132, 3) := by decide +kernel
theorem dX13_ask_53 : decode cX13_ask 53 = .ok (.aload_n 0, 1) := by decide +kernel
theorem dX13_ask_54 : decode cX13_ask 54 = .ok (.getfield 216, 3) := by decide +kernel
theorem dX13_ask_57 : decode cX13_ask 57 = .ok (.ifCond .lt 10, 3) := by decide +kernel
theorem dX13_ask_60 : decode cX13_ask 60 = .ok (.iconst (-1), 1) := by decide +kernel
theorem dX13_ask_61 : decode cX13_ask 61 = .ok (.aload_n 0, 1) := by decide +kernel
theorem dX13_ask_62 : decode cX13_ask 62 = .ok (.getfield 216, 3) := by decide +kernel
theorem dX13_ask_65 : decode cX13_ask 65 = .ok (.isub, 1) := by decide +kernel
theorem dX13_ask_66 : decode cX13_ask 66 = .ok (.ireturn, 1) := by decide +kernel
theorem dX13_tellQuestion_0 : decode cX13_tellQuestion 0 = .ok (.aload_n 0, 1) := by decide +kernel
theorem dX13_tellQuestion_1 : decode cX13_tellQuestion 1 = .ok (.aload_n 0, 1) := by decide +kernel
theorem dX13_tellQuestion_2 : decode cX13_tellQuestion 2 = .ok (.getfield 275, 3) := by decide +kernel
theorem dX13_tellQuestion_5 : decode cX13_tellQuestion 5 = .ok (.ifnull 7, 3) := by decide +kernel
theorem dX13_tellQuestion_12 : decode cX13_tellQuestion 12 = .ok (.iconst 0, 1) := by decide +kernel
theorem dX13_tellQuestion_13 : decode cX13_tellQuestion 13 = .ok (.iconst 1, 1) := by decide +kernel
theorem dX13_tellQuestion_14 : decode cX13_tellQuestion 14 = .ok (.invokevirtual 139, 3) := by decide +kernel
theorem dX13_tellQuestion_17 : decode cX13_tellQuestion 17 = .ok (.ifCond .eq 5, 3) := by decide +kernel
theorem dX13_tellQuestion_20 : decode cX13_tellQuestion 20 = .ok (.iconst 0, 1) := by decide +kernel
theorem dX13_tellQuestion_21 : decode cX13_tellQuestion 21 = .ok (.ireturn, 1) := by decide +kernel
theorem dX13_simplify_0 : decode cX13_simplify 0 = .ok (.aload_n 0, 1) := by decide +kernel
theorem dX13_simplify_1 : decode cX13_simplify 1 = .ok (.aload_n 0, 1) := by decide +kernel
theorem dX13_simplify_2 : decode cX13_simplify 2 = .ok (.getfield 275, 3) := by decide +kernel
theorem dX13_simplify_5 : decode cX13_simplify 5 = .ok (.ifnull 7, 3) := by decide +kernel
theorem dX13_simplify_12 : decode cX13_simplify 12 = .ok (.iconst 0, 1) := by decide +kernel
theorem dX13_simplify_13 : decode cX13_simplify 13 = .ok (.iconst 1, 1) := by decide +kernel
theorem dX13_simplify_14 : decode cX13_simplify 14 = .ok (.invokevirtual 139, 3) := by decide +kernel
theorem dX13_simplify_17 : decode cX13_simplify 17 = .ok (.ifCond .eq 5, 3) := by decide +kernel
theorem dX13_simplify_20 : decode cX13_simplify 20 = .ok (.iconst 0, 1) := by decide +kernel
theorem dX13_simplify_21 : decode cX13_simplify 21 = .ok (.ireturn, 1) := by decide +kernel
theorem dX13_fits_0 : decode cX13_fits 0 = .ok (.aload_n 0, 1) := by decide +kernel
theorem dX13_fits_1 : decode cX13_fits 1 = .ok (.aload_n 0, 1) := by decide +kernel
theorem dX13_fits_2 : decode cX13_fits 2 = .ok (.getfield 275, 3) := by decide +kernel
theorem dX13_fits_5 : decode cX13_fits 5 = .ok (.ifnull 7, 3) := by decide +kernel
theorem dX13_fits_12 : decode cX13_fits 12 = .ok (.iconst 0, 1) := by decide +kernel
theorem dX13_fits_13 : decode cX13_fits 13 = .ok (.iconst 1, 1) := by decide +kernel
theorem dX13_fits_14 : decode cX13_fits 14 = .ok (.invokevirtual 139, 3) := by decide +kernel
theorem dX13_fits_17 : decode cX13_fits 17 = .ok (.ifCond .ne 32, 3) := by decide +kernel
theorem dX13_fits_49 : decode cX13_fits 49 = .ok (.iconst 0, 1) := by decide +kernel
theorem dX13_fits_50 : decode cX13_fits 50 = .ok (.ireturn, 1) := by decide +kernel
theorem dX13_hits_0 : decode cX13_hits 0 = .ok (.aload_n 0, 1) := by decide +kernel
theorem dX13_hits_1 : decode cX13_hits 1 = .ok (.aload_n 0, 1) := by decide +kernel
theorem dX13_hits_2 : decode cX13_hits 2 = .ok (.getfield 275, 3) := by decide +kernel
theorem dX13_hits_5 : decode cX13_hits 5 = .ok (.ifnull 7, 3) := by decide +kernel
theorem dX13_hits_12 : decode cX13_hits 12 = .ok (.iconst 0, 1) := by decide +kernel
theorem dX13_hits_13 : decode cX13_hits 13 = .ok (.iconst 1, 1) := by decide +kernel
theorem dX13_hits_14 : decode cX13_hits 14 = .ok (.invokevirtual 139, 3) := by decide +kernel
theorem dX13_hits_17 : decode cX13_hits 17 = .ok (.ifCond .eq 7, 3) := by decide +kernel
theorem dX13_hits_20 : decode cX13_hits 20 = .ok (.iconst 0, 1) := by decide +kernel
theorem dX13_hits_21 : decode cX13_hits 21 = .ok (.goto 7, 3) := by decide +kernel
theorem dX13_hits_28 : decode cX13_hits 28 = .ok (.ireturn, 1) := by decide +kernel
theorem dX13_hitAt_0 : decode cX13_hitAt 0 = .ok (.aload_n 0, 1) := by decide +kernel
theorem dX13_hitAt_1 : decode cX13_hitAt 1 = .ok (.aload_n 0, 1) := by decide +kernel
theorem dX13_hitAt_2 : decode cX13_hitAt 2 = .ok (.getfield 275, 3) := by decide +kernel
theorem dX13_hitAt_5 : decode cX13_hitAt 5 = .ok (.ifnull 7, 3) := by decide +kernel
theorem dX13_hitAt_12 : decode cX13_hitAt 12 = .ok (.iconst 0, 1) := by decide +kernel
theorem dX13_hitAt_13 : decode cX13_hitAt 13 = .ok (.iconst 1, 1) := by decide +kernel
theorem dX13_hitAt_14 : decode cX13_hitAt 14 = .ok (.invokevirtual 139, 3) := by decide +kernel
theorem dX13_hitAt_17 : decode cX13_hitAt 17 = .ok (.ifCond .eq 5, 3) := by decide +kernel
theorem dX13_hitAt_20 : decode cX13_hitAt 20 = .ok (.iconst 0, 1) := by decide +kernel
theorem dX13_hitAt_21 : decode cX13_hitAt 21 = .ok (.ireturn, 1) := by decide +kernel
theorem dX13_top_0 : decode cX13_top 0 = .ok (.aload_n 0, 1) := by decide +kernel
theorem dX13_top_1 : decode cX13_top 1 = .ok (.aload_n 0, 1) := by decide +kernel
theorem dX13_top_2 : decode cX13_top 2 = .ok (.getfield 275, 3) := by decide +kernel
theorem dX13_top_5 : decode cX13_top 5 = .ok (.ifnull 7, 3) := by decide +kernel
theorem dX13_top_12 : decode cX13_top 12 = .ok (.iconst 0, 1) := by decide +kernel
theorem dX13_top_13 : decode cX13_top 13 = .ok (.iconst 1, 1) := by decide +kernel
theorem dX13_top_14 : decode cX13_top 14 = .ok (.invokevirtual 139, 3) := by decide +kernel
theorem dX13_top_17 : decode cX13_top 17 = .ok (.ifCond .ne 18, 3) := by decide +kernel
theorem dX13_top_35 : decode cX13_top 35 = .ok (.iconst 0, 1) := by decide +kernel
theorem dX13_top_36 : decode cX13_top 36 = .ok (.ireturn, 1) := by decide +kernel
theorem dX13_tellWorth_0 : decode cX13_tellWorth 0 = .ok (.aload_n 0, 1) := by decide +kernel
theorem dX13_tellWorth_1 : decode cX13_tellWorth 1 = .ok (.aload_n 0, 1) := by decide +kernel
theorem dX13_tellWorth_2 : decode cX13_tellWorth 2 = .ok (.getfield 275, 3) := by decide +kernel
theorem dX13_tellWorth_5 : decode cX13_tellWorth 5 = .ok (.ifnull 7, 3) := by decide +kernel
theorem dX13_tellWorth_12 : decode cX13_tellWorth 12 = .ok (.iconst 0, 1) := by decide +kernel
theorem dX13_tellWorth_13 : decode cX13_tellWorth 13 = .ok (.iconst 1, 1) := by decide +kernel
theorem dX13_tellWorth_14 : decode cX13_tellWorth 14 = .ok (.invokevirtual 139, 3) := by decide +kernel
theorem dX13_tellWorth_17 : decode cX13_tellWorth 17 = .ok (.ifCond .ne 16, 3) := by decide +kernel
theorem dX13_tellWorth_33 : decode cX13_tellWorth 33 = .ok (.iconst 0, 1) := by decide +kernel
theorem dX13_tellWorth_34 : decode cX13_tellWorth 34 = .ok (.ireturn, 1) := by decide +kernel
theorem dX13_tagged_0 : decode cX13_tagged 0 = .ok (.aload_n 0, 1) := by decide +kernel
theorem dX13_tagged_1 : decode cX13_tagged 1 = .ok (.aload_n 0, 1) := by decide +kernel
theorem dX13_tagged_2 : decode cX13_tagged 2 = .ok (.getfield 275, 3) := by decide +kernel
theorem dX13_tagged_5 : decode cX13_tagged 5 = .ok (.ifnull 7, 3) := by decide +kernel
theorem dX13_tagged_12 : decode cX13_tagged 12 = .ok (.iconst 0, 1) := by decide +kernel
theorem dX13_tagged_13 : decode cX13_tagged 13 = .ok (.iconst 1, 1) := by decide +kernel
theorem dX13_tagged_14 : decode cX13_tagged 14 = .ok (.invokevirtual 139, 3) := by decide +kernel
theorem dX13_tagged_17 : decode cX13_tagged 17 = .ok (.ifCond .ne 19, 3) := by decide +kernel
theorem dX13_tagged_36 : decode cX13_tagged 36 = .ok (.iconst 0, 1) := by decide +kernel
theorem dX13_tagged_37 : decode cX13_tagged 37 = .ok (.ireturn, 1) := by decide +kernel
theorem dX13_valued_0 : decode cX13_valued 0 = .ok (.aload_n 0, 1) := by decide +kernel
theorem dX13_valued_1 : decode cX13_valued 1 = .ok (.aload_n 0, 1) := by decide +kernel
theorem dX13_valued_2 : decode cX13_valued 2 = .ok (.getfield 275, 3) := by decide +kernel
theorem dX13_valued_5 : decode cX13_valued 5 = .ok (.ifnull 7, 3) := by decide +kernel
theorem dX13_valued_12 : decode cX13_valued 12 = .ok (.iconst 0, 1) := by decide +kernel
theorem dX13_valued_13 : decode cX13_valued 13 = .ok (.iconst 1, 1) := by decide +kernel
theorem dX13_valued_14 : decode cX13_valued 14 = .ok (.invokevirtual 139, 3) := by decide +kernel
theorem dX13_valued_17 : decode cX13_valued 17 = .ok (.ifCond .eq 5, 3) := by decide +kernel
theorem dX13_valued_20 : decode cX13_valued 20 = .ok (.iconst 0, 1) := by decide +kernel
theorem dX13_valued_21 : decode cX13_valued 21 = .ok (.ireturn, 1) := by decide +kernel
theorem dX13_lacksSpan_0 : decode cX13_lacksSpan 0 = .ok (.aload_n 0, 1) := by decide +kernel
theorem dX13_lacksSpan_1 : decode cX13_lacksSpan 1 = .ok (.aload_n 0, 1) := by decide +kernel
theorem dX13_lacksSpan_2 : decode cX13_lacksSpan 2 = .ok (.getfield 275, 3) := by decide +kernel
theorem dX13_lacksSpan_5 : decode cX13_lacksSpan 5 = .ok (.ifnull 7, 3) := by decide +kernel
theorem dX13_lacksSpan_12 : decode cX13_lacksSpan 12 = .ok (.iconst 0, 1) := by decide +kernel
theorem dX13_lacksSpan_13 : decode cX13_lacksSpan 13 = .ok (.iconst 1, 1) := by decide +kernel
theorem dX13_lacksSpan_14 : decode cX13_lacksSpan 14 = .ok (.invokevirtual 139, 3) := by decide +kernel
theorem dX13_lacksSpan_17 : decode cX13_lacksSpan 17 = .ok (.ifCond .ne 57, 3) := by decide +kernel
theorem dX13_lacksSpan_74 : decode cX13_lacksSpan 74 = .ok (.iconst 1, 1) := by decide +kernel
theorem dX13_lacksSpan_75 : decode cX13_lacksSpan 75 = .ok (.goto 4, 3) := by decide +kernel
theorem dX13_lacksSpan_79 : decode cX13_lacksSpan 79 = .ok (.ireturn, 1) := by decide +kernel
theorem dX13_spanBegin_0 : decode cX13_spanBegin 0 = .ok (.aload_n 0, 1) := by decide +kernel
theorem dX13_spanBegin_1 : decode cX13_spanBegin 1 = .ok (.iload_n 1, 1) := by decide +kernel
theorem dX13_spanBegin_2 : decode cX13_spanBegin 2 = .ok (.invokevirtual 415, 3) := by decide +kernel
theorem dX13_spanBegin_5 : decode cX13_spanBegin 5 = .ok (.ifCond .eq 7, 3) := by decide +kernel
theorem dX13_spanBegin_8 : decode cX13_spanBegin 8 = .ok (.iconst 0, 1) := by decide +kernel
theorem dX13_spanBegin_9 : decode cX13_spanBegin 9 = .ok (.goto 10, 3) := by decide +kernel
theorem dX13_spanBegin_19 : decode cX13_spanBegin 19 = .ok (.ireturn, 1) := by decide +kernel
theorem dX13_spanLength_0 : decode cX13_spanLength 0 = .ok (.aload_n 0, 1) := by decide +kernel
theorem dX13_spanLength_1 : decode cX13_spanLength 1 = .ok (.iload_n 1, 1) := by decide +kernel
theorem dX13_spanLength_2 : decode cX13_spanLength 2 = .ok (.invokevirtual 415, 3) := by decide +kernel
theorem dX13_spanLength_5 : decode cX13_spanLength 5 = .ok (.ifCond .eq 7, 3) := by decide +kernel
theorem dX13_spanLength_8 : decode cX13_spanLength 8 = .ok (.iconst 0, 1) := by decide +kernel
theorem dX13_spanLength_9 : decode cX13_spanLength 9 = .ok (.goto 10, 3) := by decide +kernel
theorem dX13_spanLength_19 : decode cX13_spanLength 19 = .ok (.ireturn, 1) := by decide +kernel
theorem dX13_save_0 : decode cX13_save 0 = .ok (.aload_n 0, 1) := by decide +kernel
theorem dX13_save_1 : decode cX13_save 1 = .ok (.aload_n 0, 1) := by decide +kernel
theorem dX13_save_2 : decode cX13_save 2 = .ok (.getfield 275, 3) := by decide +kernel
theorem dX13_save_5 : decode cX13_save 5 = .ok (.ifnull 7, 3) := by decide +kernel
theorem dX13_save_12 : decode cX13_save 12 = .ok (.iconst 0, 1) := by decide +kernel
theorem dX13_save_13 : decode cX13_save 13 = .ok (.iconst 1, 1) := by decide +kernel
theorem dX13_save_14 : decode cX13_save 14 = .ok (.invokevirtual 139, 3) := by decide +kernel
theorem dX13_save_17 : decode cX13_save 17 = .ok (.ifCond .ne 17, 3) := by decide +kernel
theorem dX13_save_34 : decode cX13_save 34 = .ok (.iconst 0, 1) := by decide +kernel
theorem dX13_save_35 : decode cX13_save 35 = .ok (.ireturn, 1) := by decide +kernel
theorem dX13_news_0 : decode cX13_news 0 = .ok (.aload_n 0, 1) := by decide +kernel
theorem dX13_news_1 : decode cX13_news 1 = .ok (.aload_n 0, 1) := by decide +kernel
theorem dX13_news_2 : decode cX13_news 2 = .ok (.iload_n 1, 1) := by decide +kernel
theorem dX13_news_3 : decode cX13_news 3 = .ok (.invokevirtual 161, 3) := by decide +kernel
theorem dX13_news_6 : decode cX13_news 6 = .ok (.iconst 1, 1) := by decide +kernel
theorem dX13_news_7 : decode cX13_news 7 = .ok (.invokevirtual 139, 3) := by decide +kernel
theorem dX13_news_10 : decode cX13_news 10 = .ok (.ifCond .eq 5, 3) := by decide +kernel
theorem dX13_news_13 : decode cX13_news 13 = .ok (.iconst 0, 1) := by decide +kernel
theorem dX13_news_14 : decode cX13_news 14 = .ok (.ireturn, 1) := by decide +kernel
theorem dX13_likeness_0 : decode cX13_likeness 0 = .ok (.aload_n 0, 1) := by decide +kernel
theorem dX13_likeness_1 : decode cX13_likeness 1 = .ok (.aload_n 0, 1) := by decide +kernel
theorem dX13_likeness_2 : decode cX13_likeness 2 = .ok (.iload_n 1, 1) := by decide +kernel
theorem dX13_likeness_3 : decode cX13_likeness 3 = .ok (.invokevirtual 161, 3) := by decide +kernel
theorem dX13_likeness_6 : decode cX13_likeness 6 = .ok (.ifCond .eq 15, 3) := by decide +kernel
theorem dX13_likeness_21 : decode cX13_likeness 21 = .ok (.iconst 0, 1) := by decide +kernel
theorem dX13_likeness_22 : decode cX13_likeness 22 = .ok (.iconst 1, 1) := by decide +kernel
theorem dX13_likeness_23 : decode cX13_likeness 23 = .ok (.invokevirtual 139, 3) := by decide +kernel
theorem dX13_likeness_26 : decode cX13_likeness 26 = .ok (.ifCond .eq 5, 3) := by decide +kernel
theorem dX13_likeness_29 : decode cX13_likeness 29 = .ok (.iconst 0, 1) := by decide +kernel
theorem dX13_likeness_30 : decode cX13_likeness 30 = .ok (.ireturn, 1) := by decide +kernel
theorem dX13_write_0 : decode cX13_write 0 = .ok (.aload_n 0, 1) := by decide +kernel
theorem dX13_write_1 : decode cX13_write 1 = .ok (.iconst 0, 1) := by decide +kernel
theorem dX13_write_2 : decode cX13_write 2 = .ok (.putfield 82, 3) := by decide +kernel
theorem dX13_write_5 : decode cX13_write 5 = .ok (.sipush 15360, 3) := by decide +kernel
theorem dX13_write_8 : decode cX13_write 8 = .ok (.newarray .int, 2) := by decide +kernel
theorem dX13_write_10 : decode cX13_write 10 = .ok (.astore_n 1, 1) := by decide +kernel
theorem dX13_write_11 : decode cX13_write 11 = .ok (.iconst 0, 1) := by decide +kernel
theorem dX13_write_12 : decode cX13_write 12 = .ok (.istore_n 2, 1) := by decide +kernel
theorem dX13_write_13 : decode cX13_write 13 = .ok (.iconst 0, 1) := by decide +kernel
theorem dX13_write_14 : decode cX13_write 14 = .ok (.istore_n 3, 1) := by decide +kernel
theorem dX13_write_15 : decode cX13_write 15 = .ok (.iload_n 3, 1) := by decide +kernel
theorem dX13_write_16 : decode cX13_write 16 = .ok (.bipush 24, 2) := by decide +kernel
theorem dX13_write_18 : decode cX13_write 18 = .ok (.if_icmp .ge 136, 3) := by decide +kernel
theorem dX13_write_21 : decode cX13_write 21 = .ok (.aload_n 0, 1) := by decide +kernel
theorem dX13_write_22 : decode cX13_write 22 = .ok (.getfield 49, 3) := by decide +kernel
theorem dX13_write_25 : decode cX13_write 25 = .ok (.iload_n 3, 1) := by decide +kernel
theorem dX13_write_26 : decode cX13_write 26 = .ok (.aload_n 0, 1) := by decide +kernel
theorem dX13_write_27 : decode cX13_write 27 = .ok (.getfield 9, 3) := by decide +kernel
theorem dX13_write_30 : decode cX13_write 30 = .ok (.iload_n 3, 1) := by decide +kernel
theorem dX13_write_31 : decode cX13_write 31 = .ok (.baload, 1) := by decide +kernel
theorem dX13_write_32 : decode cX13_write 32 = .ok (.bastore, 1) := by decide +kernel
theorem dX13_write_33 : decode cX13_write 33 = .ok (.aload_n 0, 1) := by decide +kernel
theorem dX13_write_34 : decode cX13_write 34 = .ok (.getfield 9, 3) := by decide +kernel
theorem dX13_write_37 : decode cX13_write 37 = .ok (.iload_n 3, 1) := by decide +kernel
theorem dX13_write_38 : decode cX13_write 38 = .ok (.baload, 1) := by decide +kernel
theorem dX13_write_39 : decode cX13_write 39 = .ok (.ifCond .eq 109, 3) := by decide +kernel
theorem dX13_write_148 : decode cX13_write 148 = .ok (.iinc 3 1, 3) := by decide +kernel
theorem dX13_write_151 : decode cX13_write 151 = .ok (.goto (-136), 3) := by decide +kernel
theorem dX13_write_154 : decode cX13_write 154 = .ok (.aload_n 0, 1) := by decide +kernel
theorem dX13_write_155 : decode cX13_write 155 = .ok (.aload_n 1, 1) := by decide +kernel
theorem dX13_write_156 : decode cX13_write 156 = .ok (.iload_n 2, 1) := by decide +kernel
theorem dX13_write_157 : decode cX13_write 157 = .ok (.invokestatic 207, 3) := by decide +kernel
theorem dX13_write_160 : decode cX13_write 160 = .ok (.putfield 426, 3) := by decide +kernel
theorem dX13_write_163 : decode cX13_write 163 = .ok (.iload_n 2, 1) := by decide +kernel
theorem dX13_write_164 : decode cX13_write 164 = .ok (.ireturn, 1) := by decide +kernel
theorem dX13_writtenAt_0 : decode cX13_writtenAt 0 = .ok (.aload_n 0, 1) := by decide +kernel
theorem dX13_writtenAt_1 : decode cX13_writtenAt 1 = .ok (.aload_n 0, 1) := by decide +kernel
theorem dX13_writtenAt_2 : decode cX13_writtenAt 2 = .ok (.getfield 426, 3) := by decide +kernel
theorem dX13_writtenAt_5 : decode cX13_writtenAt 5 = .ok (.ifnull 22, 3) := by decide +kernel
theorem dX13_writtenAt_27 : decode cX13_writtenAt 27 = .ok (.iconst 0, 1) := by decide +kernel
theorem dX13_writtenAt_28 : decode cX13_writtenAt 28 = .ok (.iconst 1, 1) := by decide +kernel
theorem dX13_writtenAt_29 : decode cX13_writtenAt 29 = .ok (.invokevirtual 139, 3) := by decide +kernel
theorem dX13_writtenAt_32 : decode cX13_writtenAt 32 = .ok (.ifCond .eq 7, 3) := by decide +kernel
theorem dX13_writtenAt_35 : decode cX13_writtenAt 35 = .ok (.iconst 0, 1) := by decide +kernel
theorem dX13_writtenAt_36 : decode cX13_writtenAt 36 = .ok (.goto 9, 3) := by decide +kernel
theorem dX13_writtenAt_45 : decode cX13_writtenAt 45 = .ok (.ireturn, 1) := by decide +kernel
theorem dX13_reread_0 : decode cX13_reread 0 = .ok (.aload_n 0, 1) := by decide +kernel
theorem dX13_reread_1 : decode cX13_reread 1 = .ok (.aload_n 0, 1) := by decide +kernel
theorem dX13_reread_2 : decode cX13_reread 2 = .ok (.getfield 426, 3) := by decide +kernel
theorem dX13_reread_5 : decode cX13_reread 5 = .ok (.ifnull 7, 3) := by decide +kernel
theorem dX13_reread_12 : decode cX13_reread 12 = .ok (.iconst 0, 1) := by decide +kernel
theorem dX13_reread_13 : decode cX13_reread 13 = .ok (.iconst 1, 1) := by decide +kernel
theorem dX13_reread_14 : decode cX13_reread 14 = .ok (.invokevirtual 139, 3) := by decide +kernel
theorem dX13_reread_17 : decode cX13_reread 17 = .ok (.ifCond .eq 5, 3) := by decide +kernel
theorem dX13_reread_20 : decode cX13_reread 20 = .ok (.iconst 0, 1) := by decide +kernel
theorem dX13_reread_21 : decode cX13_reread 21 = .ok (.ireturn, 1) := by decide +kernel
theorem dX13_checksum_0 : decode cX13_checksum 0 = .ok (.aload_n 0, 1) := by decide +kernel
theorem dX13_checksum_1 : decode cX13_checksum 1 = .ok (.iconst 0, 1) := by decide +kernel
theorem dX13_checksum_2 : decode cX13_checksum 2 = .ok (.putfield 82, 3) := by decide +kernel
theorem dX13_checksum_5 : decode cX13_checksum 5 = .ok (.ldc2_w 431, 3) := by decide +kernel
theorem dX13_checksum_8 : decode cX13_checksum 8 = .ok (.lstore_n 1, 1) := by decide +kernel
theorem dX13_checksum_9 : decode cX13_checksum 9 = .ok (.iconst 0, 1) := by decide +kernel
theorem dX13_checksum_10 : decode cX13_checksum 10 = .ok (.istore_n 3, 1) := by decide +kernel
theorem dX13_checksum_11 : decode cX13_checksum 11 = .ok (.iload_n 3, 1) := by decide +kernel
theorem dX13_checksum_12 : decode cX13_checksum 12 = .ok (.aload_n 0, 1) := by decide +kernel
theorem dX13_checksum_13 : decode cX13_checksum 13 = .ok (.getfield 85, 3) := by decide +kernel
theorem dX13_checksum_16 : decode cX13_checksum 16 = .ok (.if_icmp .ge 77, 3) := by decide +kernel
theorem dX13_checksum_93 : decode cX13_checksum 93 = .ok (.iconst 0, 1) := by decide +kernel
theorem dX13_checksum_94 : decode cX13_checksum 94 = .ok (.istore_n 3, 1) := by decide +kernel
theorem dX13_checksum_95 : decode cX13_checksum 95 = .ok (.iload_n 3, 1) := by decide +kernel
theorem dX13_checksum_96 : decode cX13_checksum 96 = .ok (.aload_n 0, 1) := by decide +kernel
theorem dX13_checksum_97 : decode cX13_checksum 97 = .ok (.getfield 33, 3) := by decide +kernel
theorem dX13_checksum_100 : decode cX13_checksum 100 = .ok (.if_icmp .ge 22, 3) := by decide +kernel
theorem dX13_checksum_103 : decode cX13_checksum 103 = .ok (.ldc2_w 429, 3) := by decide +kernel
theorem dX13_checksum_106 : decode cX13_checksum 106 = .ok (.lload_n 1, 1) := by decide +kernel
theorem dX13_checksum_107 : decode cX13_checksum 107 = .ok (.lmul, 1) := by decide +kernel
theorem dX13_checksum_108 : decode cX13_checksum 108 = .ok (.aload_n 0, 1) := by decide +kernel
theorem dX13_checksum_109 : decode cX13_checksum 109 = .ok (.iload_n 3, 1) := by decide +kernel
theorem dX13_checksum_110 : decode cX13_checksum 110 = .ok (.invokevirtual 196, 3) := by decide +kernel
theorem dX13_checksum_113 : decode cX13_checksum 113 = .ok (.i2l, 1) := by decide +kernel
theorem dX13_checksum_114 : decode cX13_checksum 114 = .ok (.ladd, 1) := by decide +kernel
theorem dX13_checksum_115 : decode cX13_checksum 115 = .ok (.lstore_n 1, 1) := by decide +kernel
theorem dX13_checksum_116 : decode cX13_checksum 116 = .ok (.iinc 3 1, 3) := by decide +kernel
theorem dX13_checksum_119 : decode cX13_checksum 119 = .ok (.goto (-24), 3) := by decide +kernel
theorem dX13_checksum_122 : decode cX13_checksum 122 = .ok (.iconst 0, 1) := by decide +kernel
theorem dX13_checksum_123 : decode cX13_checksum 123 = .ok (.istore_n 3, 1) := by decide +kernel
theorem dX13_checksum_124 : decode cX13_checksum 124 = .ok (.iload_n 3, 1) := by decide +kernel
theorem dX13_checksum_125 : decode cX13_checksum 125 = .ok (.aload_n 0, 1) := by decide +kernel
theorem dX13_checksum_126 : decode cX13_checksum 126 = .ok (.getfield 132, 3) := by decide +kernel
theorem dX13_checksum_129 : decode cX13_checksum 129 = .ok (.if_icmp .ge 23, 3) := by decide +kernel
theorem dX13_checksum_152 : decode cX13_checksum 152 = .ok (.lload_n 1, 1) := by decide +kernel
theorem dX13_checksum_153 : decode cX13_checksum 153 = .ok (.lreturn, 1) := by decide +kernel
theorem dX13_isSound_0 : decode cX13_isSound 0 = .ok (.aload_n 0, 1) := by decide +kernel
theorem dX13_isSound_1 : decode cX13_isSound 1 = .ok (.iconst 0, 1) := by decide +kernel
theorem dX13_isSound_2 : decode cX13_isSound 2 = .ok (.putfield 82, 3) := by decide +kernel
theorem dX13_isSound_5 : decode cX13_isSound 5 = .ok (.aload_n 0, 1) := by decide +kernel
theorem dX13_isSound_6 : decode cX13_isSound 6 = .ok (.getfield 275, 3) := by decide +kernel
theorem dX13_isSound_9 : decode cX13_isSound 9 = .ok (.ifnonnull 5, 3) := by decide +kernel
theorem dX13_isSound_12 : decode cX13_isSound 12 = .ok (.iconst 1, 1) := by decide +kernel
theorem dX13_isSound_13 : decode cX13_isSound 13 = .ok (.ireturn, 1) := by decide +kernel
theorem dL_type_0 : decode cL_type 0 = .ok (.aload_n 2, 1) := by decide +kernel
theorem dL_type_1 : decode cL_type 1 = .ok (.iconst 0, 1) := by decide +kernel
theorem dL_type_2 : decode cL_type 2 = .ok (.aload_n 0, 1) := by decide +kernel
theorem dL_type_3 : decode cL_type 3 = .ok (.iload_n 1, 1) := by decide +kernel
theorem dL_type_4 : decode cL_type 4 = .ok (.invokevirtual 7, 3) := by decide +kernel
theorem dL_type_7 : decode cL_type 7 = .ok (.i2l, 1) := by decide +kernel
theorem dL_type_8 : decode cL_type 8 = .ok (.lastore, 1) := by decide +kernel
theorem dL_type_9 : decode cL_type 9 = .ok (.goto 9, 3) := by decide +kernel
theorem dL_type_12 : decode cL_type 12 = .ok (.astore_n 3, 1) := by decide +kernel
theorem dL_type_13 : decode cL_type 13 = .ok (.iconst 1, 1) := by decide +kernel
theorem dL_type_14 : decode cL_type 14 = .ok (.ireturn, 1) := by decide +kernel
theorem dL_type_18 : decode cL_type 18 = .ok (.iconst 0, 1) := by decide +kernel
theorem dL_type_19 : decode cL_type 19 = .ok (.ireturn, 1) := by decide +kernel
theorem dL_signAt_0 : decode cL_signAt 0 = .ok (.aload_n 2, 1) := by decide +kernel
theorem dL_signAt_1 : decode cL_signAt 1 = .ok (.iconst 0, 1) := by decide +kernel
theorem dL_signAt_2 : decode cL_signAt 2 = .ok (.aload_n 0, 1) := by decide +kernel
theorem dL_signAt_3 : decode cL_signAt 3 = .ok (.iload_n 1, 1) := by decide +kernel
theorem dL_signAt_4 : decode cL_signAt 4 = .ok (.invokevirtual 17, 3) := by decide +kernel
theorem dL_signAt_12 : decode cL_signAt 12 = .ok (.astore_n 3, 1) := by decide +kernel
theorem dL_signAt_13 : decode cL_signAt 13 = .ok (.iconst 1, 1) := by decide +kernel
theorem dL_signAt_14 : decode cL_signAt 14 = .ok (.ireturn, 1) := by decide +kernel
theorem dL_add_0 : decode cL_add 0 = .ok (.aload_n 3, 1) := by decide +kernel
theorem dL_add_1 : decode cL_add 1 = .ok (.iconst 0, 1) := by decide +kernel
theorem dL_add_2 : decode cL_add 2 = .ok (.aload_n 0, 1) := by decide +kernel
theorem dL_add_3 : decode cL_add 3 = .ok (.iload_n 1, 1) := by decide +kernel
theorem dL_add_4 : decode cL_add 4 = .ok (.iload_n 2, 1) := by decide +kernel
theorem dL_add_5 : decode cL_add 5 = .ok (.invokevirtual 23, 3) := by decide +kernel
theorem dL_add_8 : decode cL_add 8 = .ok (.i2l, 1) := by decide +kernel
theorem dL_add_9 : decode cL_add 9 = .ok (.lastore, 1) := by decide +kernel
theorem dL_add_10 : decode cL_add 10 = .ok (.goto 11, 3) := by decide +kernel
theorem dL_add_13 : decode cL_add 13 = .ok (.astore 4, 2) := by decide +kernel
theorem dL_add_15 : decode cL_add 15 = .ok (.iconst 1, 1) := by decide +kernel
theorem dL_add_16 : decode cL_add 16 = .ok (.ireturn, 1) := by decide +kernel
theorem dL_add_21 : decode cL_add 21 = .ok (.iconst 0, 1) := by decide +kernel
theorem dL_add_22 : decode cL_add 22 = .ok (.ireturn, 1) := by decide +kernel
theorem dL_revise_0 : decode cL_revise 0 = .ok (.aload_n 2, 1) := by decide +kernel
theorem dL_revise_1 : decode cL_revise 1 = .ok (.iconst 0, 1) := by decide +kernel
theorem dL_revise_2 : decode cL_revise 2 = .ok (.aload_n 0, 1) := by decide +kernel
theorem dL_revise_3 : decode cL_revise 3 = .ok (.iload_n 1, 1) := by decide +kernel
theorem dL_revise_4 : decode cL_revise 4 = .ok (.invokevirtual 27, 3) := by decide +kernel
theorem dL_revise_12 : decode cL_revise 12 = .ok (.astore_n 3, 1) := by decide +kernel
theorem dL_revise_13 : decode cL_revise 13 = .ok (.iconst 1, 1) := by decide +kernel
theorem dL_revise_14 : decode cL_revise 14 = .ok (.ireturn, 1) := by decide +kernel
theorem dL_drop_0 : decode cL_drop 0 = .ok (.aload_n 2, 1) := by decide +kernel
theorem dL_drop_1 : decode cL_drop 1 = .ok (.iconst 0, 1) := by decide +kernel
theorem dL_drop_2 : decode cL_drop 2 = .ok (.aload_n 0, 1) := by decide +kernel
theorem dL_drop_3 : decode cL_drop 3 = .ok (.iload_n 1, 1) := by decide +kernel
theorem dL_drop_4 : decode cL_drop 4 = .ok (.invokevirtual 33, 3) := by decide +kernel
theorem dL_drop_12 : decode cL_drop 12 = .ok (.astore_n 3, 1) := by decide +kernel
theorem dL_drop_13 : decode cL_drop 13 = .ok (.iconst 1, 1) := by decide +kernel
theorem dL_drop_14 : decode cL_drop 14 = .ok (.ireturn, 1) := by decide +kernel
theorem dL_length_0 : decode cL_length 0 = .ok (.aload_n 2, 1) := by decide +kernel
theorem dL_length_1 : decode cL_length 1 = .ok (.iconst 0, 1) := by decide +kernel
theorem dL_length_2 : decode cL_length 2 = .ok (.aload_n 0, 1) := by decide +kernel
theorem dL_length_3 : decode cL_length 3 = .ok (.iload_n 1, 1) := by decide +kernel
theorem dL_length_4 : decode cL_length 4 = .ok (.invokevirtual 36, 3) := by decide +kernel
theorem dL_length_12 : decode cL_length 12 = .ok (.astore_n 3, 1) := by decide +kernel
theorem dL_length_13 : decode cL_length 13 = .ok (.iconst 1, 1) := by decide +kernel
theorem dL_length_14 : decode cL_length 14 = .ok (.ireturn, 1) := by decide +kernel
theorem dL_tellWord_0 : decode cL_tellWord 0 = .ok (.aload 4, 2) := by decide +kernel
theorem dL_tellWord_2 : decode cL_tellWord 2 = .ok (.iconst 0, 1) := by decide +kernel
theorem dL_tellWord_3 : decode cL_tellWord 3 = .ok (.aload_n 0, 1) := by decide +kernel
theorem dL_tellWord_4 : decode cL_tellWord 4 = .ok (.iload_n 1, 1) := by decide +kernel
theorem dL_tellWord_5 : decode cL_tellWord 5 = .ok (.iload_n 2, 1) := by decide +kernel
theorem dL_tellWord_6 : decode cL_tellWord 6 = .ok (.iload_n 3, 1) := by decide +kernel
theorem dL_tellWord_7 : decode cL_tellWord 7 = .ok (.invokevirtual 39, 3) := by decide +kernel
theorem dL_tellWord_15 : decode cL_tellWord 15 = .ok (.astore 5, 2) := by decide +kernel
theorem dL_tellWord_17 : decode cL_tellWord 17 = .ok (.iconst 1, 1) := by decide +kernel
theorem dL_tellWord_18 : decode cL_tellWord 18 = .ok (.ireturn, 1) := by decide +kernel
theorem dL_value_0 : decode cL_value 0 = .ok (.aload_n 2, 1) := by decide +kernel
theorem dL_value_1 : decode cL_value 1 = .ok (.iconst 0, 1) := by decide +kernel
theorem dL_value_2 : decode cL_value 2 = .ok (.aload_n 0, 1) := by decide +kernel
theorem dL_value_3 : decode cL_value 3 = .ok (.iload_n 1, 1) := by decide +kernel
theorem dL_value_4 : decode cL_value 4 = .ok (.invokevirtual 43, 3) := by decide +kernel
theorem dL_value_12 : decode cL_value 12 = .ok (.astore_n 3, 1) := by decide +kernel
theorem dL_value_13 : decode cL_value 13 = .ok (.iconst 1, 1) := by decide +kernel
theorem dL_value_14 : decode cL_value 14 = .ok (.ireturn, 1) := by decide +kernel
theorem dL_tag_0 : decode cL_tag 0 = .ok (.aload_n 2, 1) := by decide +kernel
theorem dL_tag_1 : decode cL_tag 1 = .ok (.iconst 0, 1) := by decide +kernel
theorem dL_tag_2 : decode cL_tag 2 = .ok (.aload_n 0, 1) := by decide +kernel
theorem dL_tag_3 : decode cL_tag 3 = .ok (.iload_n 1, 1) := by decide +kernel
theorem dL_tag_4 : decode cL_tag 4 = .ok (.invokevirtual 46, 3) := by decide +kernel
theorem dL_tag_12 : decode cL_tag 12 = .ok (.astore_n 3, 1) := by decide +kernel
theorem dL_tag_13 : decode cL_tag 13 = .ok (.iconst 1, 1) := by decide +kernel
theorem dL_tag_14 : decode cL_tag 14 = .ok (.ireturn, 1) := by decide +kernel
theorem dL_tellOf_0 : decode cL_tellOf 0 = .ok (.aload_n 2, 1) := by decide +kernel
theorem dL_tellOf_1 : decode cL_tellOf 1 = .ok (.iconst 0, 1) := by decide +kernel
theorem dL_tellOf_2 : decode cL_tellOf 2 = .ok (.aload_n 0, 1) := by decide +kernel
theorem dL_tellOf_3 : decode cL_tellOf 3 = .ok (.iload_n 1, 1) := by decide +kernel
theorem dL_tellOf_4 : decode cL_tellOf 4 = .ok (.invokevirtual 49, 3) := by decide +kernel
theorem dL_tellOf_12 : decode cL_tellOf 12 = .ok (.astore_n 3, 1) := by decide +kernel
theorem dL_tellOf_13 : decode cL_tellOf 13 = .ok (.iconst 1, 1) := by decide +kernel
theorem dL_tellOf_14 : decode cL_tellOf 14 = .ok (.ireturn, 1) := by decide +kernel
theorem dL_having_0 : decode cL_having 0 = .ok (.aload_n 1, 1) := by decide +kernel
theorem dL_having_1 : decode cL_having 1 = .ok (.iconst 0, 1) := by decide +kernel
theorem dL_having_2 : decode cL_having 2 = .ok (.aload_n 0, 1) := by decide +kernel
theorem dL_having_3 : decode cL_having 3 = .ok (.invokevirtual 52, 3) := by decide +kernel
theorem dL_having_11 : decode cL_having 11 = .ok (.astore_n 2, 1) := by decide +kernel
theorem dL_having_12 : decode cL_having 12 = .ok (.iconst 1, 1) := by decide +kernel
theorem dL_having_13 : decode cL_having 13 = .ok (.ireturn, 1) := by decide +kernel
theorem dL_beginning_0 : decode cL_beginning 0 = .ok (.aload_n 1, 1) := by decide +kernel
theorem dL_beginning_1 : decode cL_beginning 1 = .ok (.iconst 0, 1) := by decide +kernel
theorem dL_beginning_2 : decode cL_beginning 2 = .ok (.aload_n 0, 1) := by decide +kernel
theorem dL_beginning_3 : decode cL_beginning 3 = .ok (.invokevirtual 56, 3) := by decide +kernel
theorem dL_beginning_11 : decode cL_beginning 11 = .ok (.astore_n 2, 1) := by decide +kernel
theorem dL_beginning_12 : decode cL_beginning 12 = .ok (.iconst 1, 1) := by decide +kernel
theorem dL_beginning_13 : decode cL_beginning 13 = .ok (.ireturn, 1) := by decide +kernel
theorem dL_slips_0 : decode cL_slips 0 = .ok (.aload_n 1, 1) := by decide +kernel
theorem dL_slips_1 : decode cL_slips 1 = .ok (.iconst 0, 1) := by decide +kernel
theorem dL_slips_2 : decode cL_slips 2 = .ok (.aload_n 0, 1) := by decide +kernel
theorem dL_slips_3 : decode cL_slips 3 = .ok (.invokevirtual 59, 3) := by decide +kernel
theorem dL_slips_11 : decode cL_slips 11 = .ok (.astore_n 2, 1) := by decide +kernel
theorem dL_slips_12 : decode cL_slips 12 = .ok (.iconst 1, 1) := by decide +kernel
theorem dL_slips_13 : decode cL_slips 13 = .ok (.ireturn, 1) := by decide +kernel
theorem dL_suggest_0 : decode cL_suggest 0 = .ok (.aload_n 1, 1) := by decide +kernel
theorem dL_suggest_1 : decode cL_suggest 1 = .ok (.iconst 0, 1) := by decide +kernel
theorem dL_suggest_2 : decode cL_suggest 2 = .ok (.aload_n 0, 1) := by decide +kernel
theorem dL_suggest_3 : decode cL_suggest 3 = .ok (.invokevirtual 62, 3) := by decide +kernel
theorem dL_suggest_11 : decode cL_suggest 11 = .ok (.astore_n 2, 1) := by decide +kernel
theorem dL_suggest_12 : decode cL_suggest 12 = .ok (.iconst 1, 1) := by decide +kernel
theorem dL_suggest_13 : decode cL_suggest 13 = .ok (.ireturn, 1) := by decide +kernel
theorem dL_partSize_0 : decode cL_partSize 0 = .ok (.aload_n 2, 1) := by decide +kernel
theorem dL_partSize_1 : decode cL_partSize 1 = .ok (.iconst 0, 1) := by decide +kernel
theorem dL_partSize_2 : decode cL_partSize 2 = .ok (.aload_n 0, 1) := by decide +kernel
theorem dL_partSize_3 : decode cL_partSize 3 = .ok (.iload_n 1, 1) := by decide +kernel
theorem dL_partSize_4 : decode cL_partSize 4 = .ok (.invokevirtual 65, 3) := by decide +kernel
theorem dL_partSize_7 : decode cL_partSize 7 = .ok (.i2l, 1) := by decide +kernel
theorem dL_partSize_8 : decode cL_partSize 8 = .ok (.lastore, 1) := by decide +kernel
theorem dL_partSize_9 : decode cL_partSize 9 = .ok (.goto 6, 3) := by decide +kernel
theorem dL_partSize_12 : decode cL_partSize 12 = .ok (.astore_n 3, 1) := by decide +kernel
theorem dL_partSize_13 : decode cL_partSize 13 = .ok (.iconst 1, 1) := by decide +kernel
theorem dL_partSize_14 : decode cL_partSize 14 = .ok (.ireturn, 1) := by decide +kernel
theorem dL_partSize_15 : decode cL_partSize 15 = .ok (.iconst 0, 1) := by decide +kernel
theorem dL_partSize_16 : decode cL_partSize 16 = .ok (.ireturn, 1) := by decide +kernel
theorem dL_seal_0 : decode cL_seal 0 = .ok (.aload_n 1, 1) := by decide +kernel
theorem dL_seal_1 : decode cL_seal 1 = .ok (.iconst 0, 1) := by decide +kernel
theorem dL_seal_2 : decode cL_seal 2 = .ok (.aload_n 0, 1) := by decide +kernel
theorem dL_seal_3 : decode cL_seal 3 = .ok (.invokevirtual 68, 3) := by decide +kernel
theorem dL_seal_11 : decode cL_seal 11 = .ok (.astore_n 2, 1) := by decide +kernel
theorem dL_seal_12 : decode cL_seal 12 = .ok (.iconst 1, 1) := by decide +kernel
theorem dL_seal_13 : decode cL_seal 13 = .ok (.ireturn, 1) := by decide +kernel
theorem dL_join_0 : decode cL_join 0 = .ok (.aload_n 2, 1) := by decide +kernel
theorem dL_join_1 : decode cL_join 1 = .ok (.iconst 0, 1) := by decide +kernel
theorem dL_join_2 : decode cL_join 2 = .ok (.aload_n 0, 1) := by decide +kernel
theorem dL_join_3 : decode cL_join 3 = .ok (.iload_n 1, 1) := by decide +kernel
theorem dL_join_4 : decode cL_join 4 = .ok (.invokevirtual 73, 3) := by decide +kernel
theorem dL_join_12 : decode cL_join 12 = .ok (.astore_n 3, 1) := by decide +kernel
theorem dL_join_13 : decode cL_join 13 = .ok (.iconst 1, 1) := by decide +kernel
theorem dL_join_14 : decode cL_join 14 = .ok (.ireturn, 1) := by decide +kernel
theorem dL_packed_0 : decode cL_packed 0 = .ok (.aload_n 2, 1) := by decide +kernel
theorem dL_packed_1 : decode cL_packed 1 = .ok (.iconst 0, 1) := by decide +kernel
theorem dL_packed_2 : decode cL_packed 2 = .ok (.aload_n 0, 1) := by decide +kernel
theorem dL_packed_3 : decode cL_packed 3 = .ok (.iload_n 1, 1) := by decide +kernel
theorem dL_packed_4 : decode cL_packed 4 = .ok (.invokevirtual 76, 3) := by decide +kernel
theorem dL_packed_12 : decode cL_packed 12 = .ok (.astore_n 3, 1) := by decide +kernel
theorem dL_packed_13 : decode cL_packed 13 = .ok (.iconst 1, 1) := by decide +kernel
theorem dL_packed_14 : decode cL_packed 14 = .ok (.ireturn, 1) := by decide +kernel
theorem dL_packed_15 : decode cL_packed 15 = .ok (.astore_n 3, 1) := by decide +kernel
theorem dL_packed_16 : decode cL_packed 16 = .ok (.iconst 2, 1) := by decide +kernel
theorem dL_packed_17 : decode cL_packed 17 = .ok (.ireturn, 1) := by decide +kernel
theorem dL_byteAt_0 : decode cL_byteAt 0 = .ok (.aload_n 2, 1) := by decide +kernel
theorem dL_byteAt_1 : decode cL_byteAt 1 = .ok (.iconst 0, 1) := by decide +kernel
theorem dL_byteAt_2 : decode cL_byteAt 2 = .ok (.aload_n 0, 1) := by decide +kernel
theorem dL_byteAt_3 : decode cL_byteAt 3 = .ok (.iload_n 1, 1) := by decide +kernel
theorem dL_byteAt_4 : decode cL_byteAt 4 = .ok (.invokevirtual 79, 3) := by decide +kernel
theorem dL_byteAt_12 : decode cL_byteAt 12 = .ok (.astore_n 3, 1) := by decide +kernel
theorem dL_byteAt_13 : decode cL_byteAt 13 = .ok (.iconst 1, 1) := by decide +kernel
theorem dL_byteAt_14 : decode cL_byteAt 14 = .ok (.ireturn, 1) := by decide +kernel
theorem dL_simplify_0 : decode cL_simplify 0 = .ok (.aload_n 1, 1) := by decide +kernel
theorem dL_simplify_1 : decode cL_simplify 1 = .ok (.iconst 0, 1) := by decide +kernel
theorem dL_simplify_2 : decode cL_simplify 2 = .ok (.aload_n 0, 1) := by decide +kernel
theorem dL_simplify_3 : decode cL_simplify 3 = .ok (.invokevirtual 82, 3) := by decide +kernel
theorem dL_simplify_11 : decode cL_simplify 11 = .ok (.astore_n 2, 1) := by decide +kernel
theorem dL_simplify_12 : decode cL_simplify 12 = .ok (.iconst 1, 1) := by decide +kernel
theorem dL_simplify_13 : decode cL_simplify 13 = .ok (.ireturn, 1) := by decide +kernel
theorem dL_tellQuestion_0 : decode cL_tellQuestion 0 = .ok (.aload_n 1, 1) := by decide +kernel
theorem dL_tellQuestion_1 : decode cL_tellQuestion 1 = .ok (.iconst 0, 1) := by decide +kernel
theorem dL_tellQuestion_2 : decode cL_tellQuestion 2 = .ok (.aload_n 0, 1) := by decide +kernel
theorem dL_tellQuestion_3 : decode cL_tellQuestion 3 = .ok (.invokevirtual 85, 3) := by decide +kernel
theorem dL_tellQuestion_11 : decode cL_tellQuestion 11 = .ok (.astore_n 2, 1) := by decide +kernel
theorem dL_tellQuestion_12 : decode cL_tellQuestion 12 = .ok (.iconst 1, 1) := by decide +kernel
theorem dL_tellQuestion_13 : decode cL_tellQuestion 13 = .ok (.ireturn, 1) := by decide +kernel
theorem dL_fits_0 : decode cL_fits 0 = .ok (.aload_n 2, 1) := by decide +kernel
theorem dL_fits_1 : decode cL_fits 1 = .ok (.iconst 0, 1) := by decide +kernel
theorem dL_fits_2 : decode cL_fits 2 = .ok (.aload_n 0, 1) := by decide +kernel
theorem dL_fits_3 : decode cL_fits 3 = .ok (.iload_n 1, 1) := by decide +kernel
theorem dL_fits_4 : decode cL_fits 4 = .ok (.invokevirtual 88, 3) := by decide +kernel
theorem dL_fits_19 : decode cL_fits 19 = .ok (.astore_n 3, 1) := by decide +kernel
theorem dL_fits_20 : decode cL_fits 20 = .ok (.iconst 1, 1) := by decide +kernel
theorem dL_fits_21 : decode cL_fits 21 = .ok (.ireturn, 1) := by decide +kernel
theorem dL_hits_0 : decode cL_hits 0 = .ok (.aload_n 1, 1) := by decide +kernel
theorem dL_hits_1 : decode cL_hits 1 = .ok (.iconst 0, 1) := by decide +kernel
theorem dL_hits_2 : decode cL_hits 2 = .ok (.aload_n 0, 1) := by decide +kernel
theorem dL_hits_3 : decode cL_hits 3 = .ok (.invokevirtual 92, 3) := by decide +kernel
theorem dL_hits_11 : decode cL_hits 11 = .ok (.astore_n 2, 1) := by decide +kernel
theorem dL_hits_12 : decode cL_hits 12 = .ok (.iconst 1, 1) := by decide +kernel
theorem dL_hits_13 : decode cL_hits 13 = .ok (.ireturn, 1) := by decide +kernel
theorem dL_hitAt_0 : decode cL_hitAt 0 = .ok (.aload_n 2, 1) := by decide +kernel
theorem dL_hitAt_1 : decode cL_hitAt 1 = .ok (.iconst 0, 1) := by decide +kernel
theorem dL_hitAt_2 : decode cL_hitAt 2 = .ok (.aload_n 0, 1) := by decide +kernel
theorem dL_hitAt_3 : decode cL_hitAt 3 = .ok (.iload_n 1, 1) := by decide +kernel
theorem dL_hitAt_4 : decode cL_hitAt 4 = .ok (.invokevirtual 95, 3) := by decide +kernel
theorem dL_hitAt_12 : decode cL_hitAt 12 = .ok (.astore_n 3, 1) := by decide +kernel
theorem dL_hitAt_13 : decode cL_hitAt 13 = .ok (.iconst 1, 1) := by decide +kernel
theorem dL_hitAt_14 : decode cL_hitAt 14 = .ok (.ireturn, 1) := by decide +kernel
theorem dL_top_0 : decode cL_top 0 = .ok (.aload_n 3, 1) := by decide +kernel
theorem dL_top_1 : decode cL_top 1 = .ok (.iconst 0, 1) := by decide +kernel
theorem dL_top_2 : decode cL_top 2 = .ok (.aload_n 0, 1) := by decide +kernel
theorem dL_top_3 : decode cL_top 3 = .ok (.iload_n 1, 1) := by decide +kernel
theorem dL_top_4 : decode cL_top 4 = .ok (.iload_n 2, 1) := by decide +kernel
theorem dL_top_5 : decode cL_top 5 = .ok (.invokevirtual 98, 3) := by decide +kernel
theorem dL_top_13 : decode cL_top 13 = .ok (.astore 4, 2) := by decide +kernel
theorem dL_top_15 : decode cL_top 15 = .ok (.iconst 1, 1) := by decide +kernel
theorem dL_top_16 : decode cL_top 16 = .ok (.ireturn, 1) := by decide +kernel
theorem dL_tellWorth_0 : decode cL_tellWorth 0 = .ok (.aload_n 2, 1) := by decide +kernel
theorem dL_tellWorth_1 : decode cL_tellWorth 1 = .ok (.iconst 0, 1) := by decide +kernel
theorem dL_tellWorth_2 : decode cL_tellWorth 2 = .ok (.aload_n 0, 1) := by decide +kernel
theorem dL_tellWorth_3 : decode cL_tellWorth 3 = .ok (.iload_n 1, 1) := by decide +kernel
theorem dL_tellWorth_4 : decode cL_tellWorth 4 = .ok (.invokevirtual 102, 3) := by decide +kernel
theorem dL_tellWorth_12 : decode cL_tellWorth 12 = .ok (.astore_n 3, 1) := by decide +kernel
theorem dL_tellWorth_13 : decode cL_tellWorth 13 = .ok (.iconst 1, 1) := by decide +kernel
theorem dL_tellWorth_14 : decode cL_tellWorth 14 = .ok (.ireturn, 1) := by decide +kernel
theorem dL_tagged_0 : decode cL_tagged 0 = .ok (.aload_n 2, 1) := by decide +kernel
theorem dL_tagged_1 : decode cL_tagged 1 = .ok (.iconst 0, 1) := by decide +kernel
theorem dL_tagged_2 : decode cL_tagged 2 = .ok (.aload_n 0, 1) := by decide +kernel
theorem dL_tagged_3 : decode cL_tagged 3 = .ok (.iload_n 1, 1) := by decide +kernel
theorem dL_tagged_4 : decode cL_tagged 4 = .ok (.invokevirtual 105, 3) := by decide +kernel
theorem dL_tagged_12 : decode cL_tagged 12 = .ok (.astore_n 3, 1) := by decide +kernel
theorem dL_tagged_13 : decode cL_tagged 13 = .ok (.iconst 1, 1) := by decide +kernel
theorem dL_tagged_14 : decode cL_tagged 14 = .ok (.ireturn, 1) := by decide +kernel
theorem dL_valued_0 : decode cL_valued 0 = .ok (.aload_n 3, 1) := by decide +kernel
theorem dL_valued_1 : decode cL_valued 1 = .ok (.iconst 0, 1) := by decide +kernel
theorem dL_valued_2 : decode cL_valued 2 = .ok (.aload_n 0, 1) := by decide +kernel
theorem dL_valued_3 : decode cL_valued 3 = .ok (.iload_n 1, 1) := by decide +kernel
theorem dL_valued_4 : decode cL_valued 4 = .ok (.iload_n 2, 1) := by decide +kernel
theorem dL_valued_5 : decode cL_valued 5 = .ok (.invokevirtual 108, 3) := by decide +kernel
theorem dL_valued_13 : decode cL_valued 13 = .ok (.astore 4, 2) := by decide +kernel
theorem dL_valued_15 : decode cL_valued 15 = .ok (.iconst 1, 1) := by decide +kernel
theorem dL_valued_16 : decode cL_valued 16 = .ok (.ireturn, 1) := by decide +kernel
theorem dL_spanBegin_0 : decode cL_spanBegin 0 = .ok (.aload_n 2, 1) := by decide +kernel
theorem dL_spanBegin_1 : decode cL_spanBegin 1 = .ok (.iconst 0, 1) := by decide +kernel
theorem dL_spanBegin_2 : decode cL_spanBegin 2 = .ok (.aload_n 0, 1) := by decide +kernel
theorem dL_spanBegin_3 : decode cL_spanBegin 3 = .ok (.iload_n 1, 1) := by decide +kernel
theorem dL_spanBegin_4 : decode cL_spanBegin 4 = .ok (.invokevirtual 111, 3) := by decide +kernel
theorem dL_spanBegin_12 : decode cL_spanBegin 12 = .ok (.astore_n 3, 1) := by decide +kernel
theorem dL_spanBegin_13 : decode cL_spanBegin 13 = .ok (.iconst 1, 1) := by decide +kernel
theorem dL_spanBegin_14 : decode cL_spanBegin 14 = .ok (.ireturn, 1) := by decide +kernel
theorem dL_spanLength_0 : decode cL_spanLength 0 = .ok (.aload_n 2, 1) := by decide +kernel
theorem dL_spanLength_1 : decode cL_spanLength 1 = .ok (.iconst 0, 1) := by decide +kernel
theorem dL_spanLength_2 : decode cL_spanLength 2 = .ok (.aload_n 0, 1) := by decide +kernel
theorem dL_spanLength_3 : decode cL_spanLength 3 = .ok (.iload_n 1, 1) := by decide +kernel
theorem dL_spanLength_4 : decode cL_spanLength 4 = .ok (.invokevirtual 114, 3) := by decide +kernel
theorem dL_spanLength_12 : decode cL_spanLength 12 = .ok (.astore_n 3, 1) := by decide +kernel
theorem dL_spanLength_13 : decode cL_spanLength 13 = .ok (.iconst 1, 1) := by decide +kernel
theorem dL_spanLength_14 : decode cL_spanLength 14 = .ok (.ireturn, 1) := by decide +kernel
theorem dL_save_0 : decode cL_save 0 = .ok (.aload_n 2, 1) := by decide +kernel
theorem dL_save_1 : decode cL_save 1 = .ok (.iconst 0, 1) := by decide +kernel
theorem dL_save_2 : decode cL_save 2 = .ok (.aload_n 0, 1) := by decide +kernel
theorem dL_save_3 : decode cL_save 3 = .ok (.iload_n 1, 1) := by decide +kernel
theorem dL_save_4 : decode cL_save 4 = .ok (.invokevirtual 117, 3) := by decide +kernel
theorem dL_save_12 : decode cL_save 12 = .ok (.astore_n 3, 1) := by decide +kernel
theorem dL_save_13 : decode cL_save 13 = .ok (.iconst 1, 1) := by decide +kernel
theorem dL_save_14 : decode cL_save 14 = .ok (.ireturn, 1) := by decide +kernel
theorem dL_news_0 : decode cL_news 0 = .ok (.aload_n 2, 1) := by decide +kernel
theorem dL_news_1 : decode cL_news 1 = .ok (.iconst 0, 1) := by decide +kernel
theorem dL_news_2 : decode cL_news 2 = .ok (.aload_n 0, 1) := by decide +kernel
theorem dL_news_3 : decode cL_news 3 = .ok (.iload_n 1, 1) := by decide +kernel
theorem dL_news_4 : decode cL_news 4 = .ok (.invokevirtual 120, 3) := by decide +kernel
theorem dL_news_12 : decode cL_news 12 = .ok (.astore_n 3, 1) := by decide +kernel
theorem dL_news_13 : decode cL_news 13 = .ok (.iconst 1, 1) := by decide +kernel
theorem dL_news_14 : decode cL_news 14 = .ok (.ireturn, 1) := by decide +kernel
theorem dL_likeness_0 : decode cL_likeness 0 = .ok (.aload_n 3, 1) := by decide +kernel
theorem dL_likeness_1 : decode cL_likeness 1 = .ok (.iconst 0, 1) := by decide +kernel
theorem dL_likeness_2 : decode cL_likeness 2 = .ok (.aload_n 0, 1) := by decide +kernel
theorem dL_likeness_3 : decode cL_likeness 3 = .ok (.iload_n 1, 1) := by decide +kernel
theorem dL_likeness_4 : decode cL_likeness 4 = .ok (.iload_n 2, 1) := by decide +kernel
theorem dL_likeness_5 : decode cL_likeness 5 = .ok (.invokevirtual 123, 3) := by decide +kernel
theorem dL_likeness_13 : decode cL_likeness 13 = .ok (.astore 4, 2) := by decide +kernel
theorem dL_likeness_15 : decode cL_likeness 15 = .ok (.iconst 1, 1) := by decide +kernel
theorem dL_likeness_16 : decode cL_likeness 16 = .ok (.ireturn, 1) := by decide +kernel
theorem dL_writtenAt_0 : decode cL_writtenAt 0 = .ok (.aload_n 2, 1) := by decide +kernel
theorem dL_writtenAt_1 : decode cL_writtenAt 1 = .ok (.iconst 0, 1) := by decide +kernel
theorem dL_writtenAt_2 : decode cL_writtenAt 2 = .ok (.aload_n 0, 1) := by decide +kernel
theorem dL_writtenAt_3 : decode cL_writtenAt 3 = .ok (.iload_n 1, 1) := by decide +kernel
theorem dL_writtenAt_4 : decode cL_writtenAt 4 = .ok (.invokevirtual 128, 3) := by decide +kernel
theorem dL_writtenAt_12 : decode cL_writtenAt 12 = .ok (.astore_n 3, 1) := by decide +kernel
theorem dL_writtenAt_13 : decode cL_writtenAt 13 = .ok (.iconst 1, 1) := by decide +kernel
theorem dL_writtenAt_14 : decode cL_writtenAt 14 = .ok (.ireturn, 1) := by decide +kernel
theorem dL_reread_0 : decode cL_reread 0 = .ok (.aload_n 1, 1) := by decide +kernel
theorem dL_reread_1 : decode cL_reread 1 = .ok (.iconst 0, 1) := by decide +kernel
theorem dL_reread_2 : decode cL_reread 2 = .ok (.aload_n 0, 1) := by decide +kernel
theorem dL_reread_3 : decode cL_reread 3 = .ok (.invokevirtual 131, 3) := by decide +kernel
theorem dL_reread_11 : decode cL_reread 11 = .ok (.astore_n 2, 1) := by decide +kernel
theorem dL_reread_12 : decode cL_reread 12 = .ok (.iconst 1, 1) := by decide +kernel
theorem dL_reread_13 : decode cL_reread 13 = .ok (.ireturn, 1) := by decide +kernel
theorem dL_law_0 : decode cL_law 0 = .ok (.new 8, 3) := by decide +kernel
theorem dL_law_3 : decode cL_law 3 = .ok (.dup, 1) := by decide +kernel
theorem dL_law_4 : decode cL_law 4 = .ok (.invokespecial 134, 3) := by decide +kernel
theorem dL_law_7 : decode cL_law 7 = .ok (.astore_n 1, 1) := by decide +kernel
theorem dL_law_8 : decode cL_law 8 = .ok (.new 135, 3) := by decide +kernel
theorem dL_law_11 : decode cL_law 11 = .ok (.dup, 1) := by decide +kernel
theorem dL_law_12 : decode cL_law 12 = .ok (.invokespecial 137, 3) := by decide +kernel
theorem dL_law_15 : decode cL_law 15 = .ok (.astore_n 2, 1) := by decide +kernel
theorem dL_law_16 : decode cL_law 16 = .ok (.iconst 1, 1) := by decide +kernel
theorem dL_law_17 : decode cL_law 17 = .ok (.newarray .long, 2) := by decide +kernel
theorem dL_law_19 : decode cL_law 19 = .ok (.astore_n 3, 1) := by decide +kernel
theorem dL_law_20 : decode cL_law 20 = .ok (.iconst 0, 1) := by decide +kernel
theorem dL_law_21 : decode cL_law 21 = .ok (.istore 4, 2) := by decide +kernel
theorem dL_law_23 : decode cL_law 23 = .ok (.iload 4, 2) := by decide +kernel
theorem dL_law_25 : decode cL_law 25 = .ok (.aload_n 0, 1) := by decide +kernel
theorem dL_law_26 : decode cL_law 26 = .ok (.arraylength, 1) := by decide +kernel
theorem dL_law_27 : decode cL_law 27 = .ok (.iconst 4, 1) := by decide +kernel
theorem dL_law_28 : decode cL_law 28 = .ok (.isub, 1) := by decide +kernel
theorem dL_law_29 : decode cL_law 29 = .ok (.if_icmp .gt 2288, 3) := by decide +kernel
theorem dL_law_32 : decode cL_law 32 = .ok (.aload_n 0, 1) := by decide +kernel
theorem dL_law_33 : decode cL_law 33 = .ok (.iload 4, 2) := by decide +kernel
theorem dL_law_35 : decode cL_law 35 = .ok (.iaload, 1) := by decide +kernel
theorem dL_law_36 : decode cL_law 36 = .ok (.bipush 63, 2) := by decide +kernel
theorem dL_law_38 : decode cL_law 38 = .ok (.iand, 1) := by decide +kernel
theorem dL_law_39 : decode cL_law 39 = .ok (.tableswitch 2272 0 43 #[189, 247, 260, 316, 386, 442, 498, 511, 536, 592, 688, 744, 800, 813, 869, 913, 957, 1001, 1045, 1058, 1114, 1158, 1214, 1270, 1326, 1339, 1383, 1427, 1490, 1534, 1590, 1658, 1714, 1772, 1840, 1896, 1952, 2008, 2064, 2132, 2145, 2201, 2245, 2259], 189) := by decide +kernel
theorem dL_law_228 : decode cL_law 228 = .ok (.aload_n 1, 1) := by decide +kernel
theorem dL_law_229 : decode cL_law 229 = .ok (.aload_n 0, 1) := by decide +kernel
theorem dL_law_230 : decode cL_law 230 = .ok (.iload 4, 2) := by decide +kernel
theorem dL_law_232 : decode cL_law 232 = .ok (.iconst 1, 1) := by decide +kernel
theorem dL_law_233 : decode cL_law 233 = .ok (.iadd, 1) := by decide +kernel
theorem dL_law_234 : decode cL_law 234 = .ok (.iaload, 1) := by decide +kernel
theorem dL_law_235 : decode cL_law 235 = .ok (.i2c, 1) := by decide +kernel
theorem dL_law_236 : decode cL_law 236 = .ok (.aload_n 3, 1) := by decide +kernel
theorem dL_law_237 : decode cL_law 237 = .ok (.invokestatic 138, 3) := by decide +kernel
theorem dL_law_240 : decode cL_law 240 = .ok (.istore 5, 2) := by decide +kernel
theorem dL_law_242 : decode cL_law 242 = .ok (.aload_n 2, 1) := by decide +kernel
theorem dL_law_243 : decode cL_law 243 = .ok (.aload_n 0, 1) := by decide +kernel
theorem dL_law_244 : decode cL_law 244 = .ok (.iload 4, 2) := by decide +kernel
theorem dL_law_246 : decode cL_law 246 = .ok (.iconst 1, 1) := by decide +kernel
theorem dL_law_247 : decode cL_law 247 = .ok (.iadd, 1) := by decide +kernel
theorem dL_law_248 : decode cL_law 248 = .ok (.iaload, 1) := by decide +kernel
theorem dL_law_249 : decode cL_law 249 = .ok (.i2c, 1) := by decide +kernel
theorem dL_law_250 : decode cL_law 250 = .ok (.invokevirtual 143, 3) := by decide +kernel
theorem dL_law_253 : decode cL_law 253 = .ok (.istore 6, 2) := by decide +kernel
theorem dL_law_255 : decode cL_law 255 = .ok (.aload_n 2, 1) := by decide +kernel
theorem dL_law_256 : decode cL_law 256 = .ok (.invokevirtual 144, 3) := by decide +kernel
theorem dL_law_259 : decode cL_law 259 = .ok (.iload 5, 2) := by decide +kernel
theorem dL_law_261 : decode cL_law 261 = .ok (.if_icmp .eq 5, 3) := by decide +kernel
theorem dL_law_266 : decode cL_law 266 = .ok (.iload 5, 2) := by decide +kernel
theorem dL_law_268 : decode cL_law 268 = .ok (.ifCond .ne 15, 3) := by decide +kernel
theorem dL_law_271 : decode cL_law 271 = .ok (.aload_n 3, 1) := by decide +kernel
theorem dL_law_272 : decode cL_law 272 = .ok (.iconst 0, 1) := by decide +kernel
theorem dL_law_273 : decode cL_law 273 = .ok (.laload, 1) := by decide +kernel
theorem dL_law_274 : decode cL_law 274 = .ok (.iload 6, 2) := by decide +kernel
theorem dL_law_276 : decode cL_law 276 = .ok (.i2l, 1) := by decide +kernel
theorem dL_law_277 : decode cL_law 277 = .ok (.lcmp, 1) := by decide +kernel
theorem dL_law_278 : decode cL_law 278 = .ok (.ifCond .eq 5, 3) := by decide +kernel
theorem dL_law_283 : decode cL_law 283 = .ok (.goto 2028, 3) := by decide +kernel
theorem dL_law_286 : decode cL_law 286 = .ok (.aload_n 1, 1) := by decide +kernel
theorem dL_law_287 : decode cL_law 287 = .ok (.invokevirtual 147, 3) := by decide +kernel
theorem dL_law_290 : decode cL_law 290 = .ok (.aload_n 2, 1) := by decide +kernel
theorem dL_law_291 : decode cL_law 291 = .ok (.invokevirtual 150, 3) := by decide +kernel
theorem dL_law_294 : decode cL_law 294 = .ok (.if_icmp .eq 2017, 3) := by decide +kernel
theorem dL_law_299 : decode cL_law 299 = .ok (.aload_n 1, 1) := by decide +kernel
theorem dL_law_300 : decode cL_law 300 = .ok (.aload_n 0, 1) := by decide +kernel
theorem dL_law_301 : decode cL_law 301 = .ok (.iload 4, 2) := by decide +kernel
theorem dL_law_303 : decode cL_law 303 = .ok (.iconst 1, 1) := by decide +kernel
theorem dL_law_304 : decode cL_law 304 = .ok (.iadd, 1) := by decide +kernel
theorem dL_law_305 : decode cL_law 305 = .ok (.iaload, 1) := by decide +kernel
theorem dL_law_306 : decode cL_law 306 = .ok (.aload_n 3, 1) := by decide +kernel
theorem dL_law_307 : decode cL_law 307 = .ok (.invokestatic 151, 3) := by decide +kernel
theorem dL_law_310 : decode cL_law 310 = .ok (.istore 5, 2) := by decide +kernel
theorem dL_law_312 : decode cL_law 312 = .ok (.aload_n 2, 1) := by decide +kernel
theorem dL_law_313 : decode cL_law 313 = .ok (.aload_n 0, 1) := by decide +kernel
theorem dL_law_314 : decode cL_law 314 = .ok (.iload 4, 2) := by decide +kernel
theorem dL_law_316 : decode cL_law 316 = .ok (.iconst 1, 1) := by decide +kernel
theorem dL_law_317 : decode cL_law 317 = .ok (.iadd, 1) := by decide +kernel
theorem dL_law_318 : decode cL_law 318 = .ok (.iaload, 1) := by decide +kernel
theorem dL_law_319 : decode cL_law 319 = .ok (.invokevirtual 154, 3) := by decide +kernel
theorem dL_law_322 : decode cL_law 322 = .ok (.istore 6, 2) := by decide +kernel
theorem dL_law_324 : decode cL_law 324 = .ok (.aload_n 2, 1) := by decide +kernel
theorem dL_law_325 : decode cL_law 325 = .ok (.invokevirtual 144, 3) := by decide +kernel
theorem dL_law_328 : decode cL_law 328 = .ok (.iload 5, 2) := by decide +kernel
theorem dL_law_330 : decode cL_law 330 = .ok (.if_icmp .eq 5, 3) := by decide +kernel
theorem dL_law_335 : decode cL_law 335 = .ok (.iload 5, 2) := by decide +kernel
theorem dL_law_337 : decode cL_law 337 = .ok (.ifCond .ne 15, 3) := by decide +kernel
theorem dL_law_352 : decode cL_law 352 = .ok (.goto 1959, 3) := by decide +kernel
theorem dL_law_355 : decode cL_law 355 = .ok (.aload_n 1, 1) := by decide +kernel
theorem dL_law_356 : decode cL_law 356 = .ok (.aload_n 0, 1) := by decide +kernel
theorem dL_law_357 : decode cL_law 357 = .ok (.iload 4, 2) := by decide +kernel
theorem dL_law_359 : decode cL_law 359 = .ok (.iconst 1, 1) := by decide +kernel
theorem dL_law_360 : decode cL_law 360 = .ok (.iadd, 1) := by decide +kernel
theorem dL_law_361 : decode cL_law 361 = .ok (.iaload, 1) := by decide +kernel
theorem dL_law_362 : decode cL_law 362 = .ok (.aload_n 0, 1) := by decide +kernel
theorem dL_law_363 : decode cL_law 363 = .ok (.iload 4, 2) := by decide +kernel
theorem dL_law_365 : decode cL_law 365 = .ok (.iconst 2, 1) := by decide +kernel
theorem dL_law_366 : decode cL_law 366 = .ok (.iadd, 1) := by decide +kernel
theorem dL_law_367 : decode cL_law 367 = .ok (.iaload, 1) := by decide +kernel
theorem dL_law_368 : decode cL_law 368 = .ok (.i2c, 1) := by decide +kernel
theorem dL_law_369 : decode cL_law 369 = .ok (.aload_n 3, 1) := by decide +kernel
theorem dL_law_370 : decode cL_law 370 = .ok (.invokestatic 155, 3) := by decide +kernel
theorem dL_law_373 : decode cL_law 373 = .ok (.istore 5, 2) := by decide +kernel
theorem dL_law_375 : decode cL_law 375 = .ok (.aload_n 2, 1) := by decide +kernel
theorem dL_law_376 : decode cL_law 376 = .ok (.aload_n 0, 1) := by decide +kernel
theorem dL_law_377 : decode cL_law 377 = .ok (.iload 4, 2) := by decide +kernel
theorem dL_law_379 : decode cL_law 379 = .ok (.iconst 1, 1) := by decide +kernel
theorem dL_law_380 : decode cL_law 380 = .ok (.iadd, 1) := by decide +kernel
theorem dL_law_381 : decode cL_law 381 = .ok (.iaload, 1) := by decide +kernel
theorem dL_law_382 : decode cL_law 382 = .ok (.aload_n 0, 1) := by decide +kernel
theorem dL_law_383 : decode cL_law 383 = .ok (.iload 4, 2) := by decide +kernel
theorem dL_law_385 : decode cL_law 385 = .ok (.iconst 2, 1) := by decide +kernel
theorem dL_law_386 : decode cL_law 386 = .ok (.iadd, 1) := by decide +kernel
theorem dL_law_387 : decode cL_law 387 = .ok (.iaload, 1) := by decide +kernel
theorem dL_law_388 : decode cL_law 388 = .ok (.i2c, 1) := by decide +kernel
theorem dL_law_389 : decode cL_law 389 = .ok (.invokevirtual 158, 3) := by decide +kernel
theorem dL_law_392 : decode cL_law 392 = .ok (.istore 6, 2) := by decide +kernel
theorem dL_law_394 : decode cL_law 394 = .ok (.aload_n 2, 1) := by decide +kernel
theorem dL_law_395 : decode cL_law 395 = .ok (.invokevirtual 144, 3) := by decide +kernel
theorem dL_law_398 : decode cL_law 398 = .ok (.iload 5, 2) := by decide +kernel
theorem dL_law_400 : decode cL_law 400 = .ok (.if_icmp .eq 5, 3) := by decide +kernel
theorem dL_law_405 : decode cL_law 405 = .ok (.iload 5, 2) := by decide +kernel
theorem dL_law_407 : decode cL_law 407 = .ok (.ifCond .ne 15, 3) := by decide +kernel
theorem dL_law_410 : decode cL_law 410 = .ok (.aload_n 3, 1) := by decide +kernel
theorem dL_law_411 : decode cL_law 411 = .ok (.iconst 0, 1) := by decide +kernel
theorem dL_law_412 : decode cL_law 412 = .ok (.laload, 1) := by decide +kernel
theorem dL_law_413 : decode cL_law 413 = .ok (.iload 6, 2) := by decide +kernel
theorem dL_law_415 : decode cL_law 415 = .ok (.i2l, 1) := by decide +kernel
theorem dL_law_416 : decode cL_law 416 = .ok (.lcmp, 1) := by decide +kernel
theorem dL_law_417 : decode cL_law 417 = .ok (.ifCond .eq 5, 3) := by decide +kernel
theorem dL_law_422 : decode cL_law 422 = .ok (.goto 1889, 3) := by decide +kernel
theorem dL_law_425 : decode cL_law 425 = .ok (.aload_n 1, 1) := by decide +kernel
theorem dL_law_426 : decode cL_law 426 = .ok (.aload_n 0, 1) := by decide +kernel
theorem dL_law_427 : decode cL_law 427 = .ok (.iload 4, 2) := by decide +kernel
theorem dL_law_429 : decode cL_law 429 = .ok (.iconst 1, 1) := by decide +kernel
theorem dL_law_430 : decode cL_law 430 = .ok (.iadd, 1) := by decide +kernel
theorem dL_law_431 : decode cL_law 431 = .ok (.iaload, 1) := by decide +kernel
theorem dL_law_432 : decode cL_law 432 = .ok (.aload_n 3, 1) := by decide +kernel
theorem dL_law_433 : decode cL_law 433 = .ok (.invokestatic 159, 3) := by decide +kernel
theorem dL_law_436 : decode cL_law 436 = .ok (.istore 5, 2) := by decide +kernel
theorem dL_law_438 : decode cL_law 438 = .ok (.aload_n 2, 1) := by decide +kernel
theorem dL_law_439 : decode cL_law 439 = .ok (.aload_n 0, 1) := by decide +kernel
theorem dL_law_440 : decode cL_law 440 = .ok (.iload 4, 2) := by decide +kernel
theorem dL_law_442 : decode cL_law 442 = .ok (.iconst 1, 1) := by decide +kernel
theorem dL_law_443 : decode cL_law 443 = .ok (.iadd, 1) := by decide +kernel
theorem dL_law_444 : decode cL_law 444 = .ok (.iaload, 1) := by decide +kernel
theorem dL_law_445 : decode cL_law 445 = .ok (.invokevirtual 161, 3) := by decide +kernel
theorem dL_law_448 : decode cL_law 448 = .ok (.istore 6, 2) := by decide +kernel
theorem dL_law_450 : decode cL_law 450 = .ok (.aload_n 2, 1) := by decide +kernel
theorem dL_law_451 : decode cL_law 451 = .ok (.invokevirtual 144, 3) := by decide +kernel
theorem dL_law_454 : decode cL_law 454 = .ok (.iload 5, 2) := by decide +kernel
theorem dL_law_456 : decode cL_law 456 = .ok (.if_icmp .eq 5, 3) := by decide +kernel
theorem dL_law_461 : decode cL_law 461 = .ok (.iload 5, 2) := by decide +kernel
theorem dL_law_463 : decode cL_law 463 = .ok (.ifCond .ne 15, 3) := by decide +kernel
theorem dL_law_478 : decode cL_law 478 = .ok (.goto 1833, 3) := by decide +kernel
theorem dL_law_481 : decode cL_law 481 = .ok (.aload_n 1, 1) := by decide +kernel
theorem dL_law_482 : decode cL_law 482 = .ok (.aload_n 0, 1) := by decide +kernel
theorem dL_law_483 : decode cL_law 483 = .ok (.iload 4, 2) := by decide +kernel
theorem dL_law_485 : decode cL_law 485 = .ok (.iconst 1, 1) := by decide +kernel
theorem dL_law_486 : decode cL_law 486 = .ok (.iadd, 1) := by decide +kernel
theorem dL_law_487 : decode cL_law 487 = .ok (.iaload, 1) := by decide +kernel
theorem dL_law_488 : decode cL_law 488 = .ok (.aload_n 3, 1) := by decide +kernel
theorem dL_law_489 : decode cL_law 489 = .ok (.invokestatic 162, 3) := by decide +kernel
theorem dL_law_492 : decode cL_law 492 = .ok (.istore 5, 2) := by decide +kernel
theorem dL_law_494 : decode cL_law 494 = .ok (.aload_n 2, 1) := by decide +kernel
theorem dL_law_495 : decode cL_law 495 = .ok (.aload_n 0, 1) := by decide +kernel
theorem dL_law_496 : decode cL_law 496 = .ok (.iload 4, 2) := by decide +kernel
theorem dL_law_498 : decode cL_law 498 = .ok (.iconst 1, 1) := by decide +kernel
theorem dL_law_499 : decode cL_law 499 = .ok (.iadd, 1) := by decide +kernel
theorem dL_law_500 : decode cL_law 500 = .ok (.iaload, 1) := by decide +kernel
theorem dL_law_501 : decode cL_law 501 = .ok (.invokevirtual 164, 3) := by decide +kernel
theorem dL_law_504 : decode cL_law 504 = .ok (.istore 6, 2) := by decide +kernel
theorem dL_law_506 : decode cL_law 506 = .ok (.aload_n 2, 1) := by decide +kernel
theorem dL_law_507 : decode cL_law 507 = .ok (.invokevirtual 144, 3) := by decide +kernel
theorem dL_law_510 : decode cL_law 510 = .ok (.iload 5, 2) := by decide +kernel
theorem dL_law_512 : decode cL_law 512 = .ok (.if_icmp .eq 5, 3) := by decide +kernel
theorem dL_law_517 : decode cL_law 517 = .ok (.iload 5, 2) := by decide +kernel
theorem dL_law_519 : decode cL_law 519 = .ok (.ifCond .ne 15, 3) := by decide +kernel
theorem dL_law_534 : decode cL_law 534 = .ok (.goto 1777, 3) := by decide +kernel
theorem dL_law_537 : decode cL_law 537 = .ok (.aload_n 1, 1) := by decide +kernel
theorem dL_law_538 : decode cL_law 538 = .ok (.invokevirtual 165, 3) := by decide +kernel
theorem dL_law_541 : decode cL_law 541 = .ok (.aload_n 2, 1) := by decide +kernel
theorem dL_law_542 : decode cL_law 542 = .ok (.invokevirtual 168, 3) := by decide +kernel
theorem dL_law_545 : decode cL_law 545 = .ok (.if_icmp .eq 1766, 3) := by decide +kernel
theorem dL_law_550 : decode cL_law 550 = .ok (.aload_n 1, 1) := by decide +kernel
theorem dL_law_551 : decode cL_law 551 = .ok (.aload_n 0, 1) := by decide +kernel
theorem dL_law_552 : decode cL_law 552 = .ok (.iload 4, 2) := by decide +kernel
theorem dL_law_554 : decode cL_law 554 = .ok (.iconst 1, 1) := by decide +kernel
theorem dL_law_555 : decode cL_law 555 = .ok (.iadd, 1) := by decide +kernel
theorem dL_law_556 : decode cL_law 556 = .ok (.iaload, 1) := by decide +kernel
theorem dL_law_557 : decode cL_law 557 = .ok (.invokevirtual 169, 3) := by decide +kernel
theorem dL_law_560 : decode cL_law 560 = .ok (.aload_n 2, 1) := by decide +kernel
theorem dL_law_561 : decode cL_law 561 = .ok (.aload_n 0, 1) := by decide +kernel
theorem dL_law_562 : decode cL_law 562 = .ok (.iload 4, 2) := by decide +kernel
theorem dL_law_564 : decode cL_law 564 = .ok (.iconst 1, 1) := by decide +kernel
theorem dL_law_565 : decode cL_law 565 = .ok (.iadd, 1) := by decide +kernel
theorem dL_law_566 : decode cL_law 566 = .ok (.iaload, 1) := by decide +kernel
theorem dL_law_567 : decode cL_law 567 = .ok (.invokevirtual 172, 3) := by decide +kernel
theorem dL_law_570 : decode cL_law 570 = .ok (.if_icmp .eq 1741, 3) := by decide +kernel
theorem dL_law_575 : decode cL_law 575 = .ok (.aload_n 1, 1) := by decide +kernel
theorem dL_law_576 : decode cL_law 576 = .ok (.aload_n 0, 1) := by decide +kernel
theorem dL_law_577 : decode cL_law 577 = .ok (.iload 4, 2) := by decide +kernel
theorem dL_law_579 : decode cL_law 579 = .ok (.iconst 1, 1) := by decide +kernel
theorem dL_law_580 : decode cL_law 580 = .ok (.iadd, 1) := by decide +kernel
theorem dL_law_581 : decode cL_law 581 = .ok (.iaload, 1) := by decide +kernel
theorem dL_law_582 : decode cL_law 582 = .ok (.aload_n 3, 1) := by decide +kernel
theorem dL_law_583 : decode cL_law 583 = .ok (.invokestatic 173, 3) := by decide +kernel
theorem dL_law_586 : decode cL_law 586 = .ok (.istore 5, 2) := by decide +kernel
theorem dL_law_588 : decode cL_law 588 = .ok (.aload_n 2, 1) := by decide +kernel
theorem dL_law_589 : decode cL_law 589 = .ok (.aload_n 0, 1) := by decide +kernel
theorem dL_law_590 : decode cL_law 590 = .ok (.iload 4, 2) := by decide +kernel
theorem dL_law_592 : decode cL_law 592 = .ok (.iconst 1, 1) := by decide +kernel
theorem dL_law_593 : decode cL_law 593 = .ok (.iadd, 1) := by decide +kernel
theorem dL_law_594 : decode cL_law 594 = .ok (.iaload, 1) := by decide +kernel
theorem dL_law_595 : decode cL_law 595 = .ok (.invokevirtual 175, 3) := by decide +kernel
theorem dL_law_598 : decode cL_law 598 = .ok (.istore 6, 2) := by decide +kernel
theorem dL_law_600 : decode cL_law 600 = .ok (.aload_n 2, 1) := by decide +kernel
theorem dL_law_601 : decode cL_law 601 = .ok (.invokevirtual 144, 3) := by decide +kernel
theorem dL_law_604 : decode cL_law 604 = .ok (.iload 5, 2) := by decide +kernel
theorem dL_law_606 : decode cL_law 606 = .ok (.if_icmp .eq 5, 3) := by decide +kernel
theorem dL_law_611 : decode cL_law 611 = .ok (.iload 5, 2) := by decide +kernel
theorem dL_law_613 : decode cL_law 613 = .ok (.ifCond .ne 15, 3) := by decide +kernel
theorem dL_law_628 : decode cL_law 628 = .ok (.goto 1683, 3) := by decide +kernel
theorem dL_law_631 : decode cL_law 631 = .ok (.aload_n 1, 1) := by decide +kernel
theorem dL_law_632 : decode cL_law 632 = .ok (.aload_n 0, 1) := by decide +kernel
theorem dL_law_633 : decode cL_law 633 = .ok (.iload 4, 2) := by decide +kernel
theorem dL_law_635 : decode cL_law 635 = .ok (.iconst 1, 1) := by decide +kernel
theorem dL_law_636 : decode cL_law 636 = .ok (.iadd, 1) := by decide +kernel
theorem dL_law_637 : decode cL_law 637 = .ok (.iaload, 1) := by decide +kernel
theorem dL_law_638 : decode cL_law 638 = .ok (.aload_n 0, 1) := by decide +kernel
theorem dL_law_639 : decode cL_law 639 = .ok (.iload 4, 2) := by decide +kernel
theorem dL_law_641 : decode cL_law 641 = .ok (.iconst 2, 1) := by decide +kernel
theorem dL_law_642 : decode cL_law 642 = .ok (.iadd, 1) := by decide +kernel
theorem dL_law_643 : decode cL_law 643 = .ok (.iaload, 1) := by decide +kernel
theorem dL_law_644 : decode cL_law 644 = .ok (.ifCond .eq 7, 3) := by decide +kernel
theorem dL_law_647 : decode cL_law 647 = .ok (.iconst 1, 1) := by decide +kernel
theorem dL_law_648 : decode cL_law 648 = .ok (.goto 4, 3) := by decide +kernel
theorem dL_law_651 : decode cL_law 651 = .ok (.iconst 0, 1) := by decide +kernel
theorem dL_law_652 : decode cL_law 652 = .ok (.aload_n 0, 1) := by decide +kernel
theorem dL_law_653 : decode cL_law 653 = .ok (.iload 4, 2) := by decide +kernel
theorem dL_law_655 : decode cL_law 655 = .ok (.iconst 3, 1) := by decide +kernel
theorem dL_law_656 : decode cL_law 656 = .ok (.iadd, 1) := by decide +kernel
theorem dL_law_657 : decode cL_law 657 = .ok (.iaload, 1) := by decide +kernel
theorem dL_law_658 : decode cL_law 658 = .ok (.aload_n 3, 1) := by decide +kernel
theorem dL_law_659 : decode cL_law 659 = .ok (.invokestatic 176, 3) := by decide +kernel
theorem dL_law_662 : decode cL_law 662 = .ok (.istore 5, 2) := by decide +kernel
theorem dL_law_664 : decode cL_law 664 = .ok (.aload_n 2, 1) := by decide +kernel
theorem dL_law_665 : decode cL_law 665 = .ok (.aload_n 0, 1) := by decide +kernel
theorem dL_law_666 : decode cL_law 666 = .ok (.iload 4, 2) := by decide +kernel
theorem dL_law_668 : decode cL_law 668 = .ok (.iconst 1, 1) := by decide +kernel
theorem dL_law_669 : decode cL_law 669 = .ok (.iadd, 1) := by decide +kernel
theorem dL_law_670 : decode cL_law 670 = .ok (.iaload, 1) := by decide +kernel
theorem dL_law_671 : decode cL_law 671 = .ok (.aload_n 0, 1) := by decide +kernel
theorem dL_law_672 : decode cL_law 672 = .ok (.iload 4, 2) := by decide +kernel
theorem dL_law_674 : decode cL_law 674 = .ok (.iconst 2, 1) := by decide +kernel
theorem dL_law_675 : decode cL_law 675 = .ok (.iadd, 1) := by decide +kernel
theorem dL_law_676 : decode cL_law 676 = .ok (.iaload, 1) := by decide +kernel
theorem dL_law_677 : decode cL_law 677 = .ok (.ifCond .eq 7, 3) := by decide +kernel
theorem dL_law_680 : decode cL_law 680 = .ok (.iconst 1, 1) := by decide +kernel
theorem dL_law_681 : decode cL_law 681 = .ok (.goto 4, 3) := by decide +kernel
theorem dL_law_684 : decode cL_law 684 = .ok (.iconst 0, 1) := by decide +kernel
theorem dL_law_685 : decode cL_law 685 = .ok (.aload_n 0, 1) := by decide +kernel
theorem dL_law_686 : decode cL_law 686 = .ok (.iload 4, 2) := by decide +kernel
theorem dL_law_688 : decode cL_law 688 = .ok (.iconst 3, 1) := by decide +kernel
theorem dL_law_689 : decode cL_law 689 = .ok (.iadd, 1) := by decide +kernel
theorem dL_law_690 : decode cL_law 690 = .ok (.iaload, 1) := by decide +kernel
theorem dL_law_691 : decode cL_law 691 = .ok (.invokevirtual 179, 3) := by decide +kernel
theorem dL_law_694 : decode cL_law 694 = .ok (.istore 6, 2) := by decide +kernel
theorem dL_law_696 : decode cL_law 696 = .ok (.aload_n 2, 1) := by decide +kernel
theorem dL_law_697 : decode cL_law 697 = .ok (.invokevirtual 144, 3) := by decide +kernel
theorem dL_law_700 : decode cL_law 700 = .ok (.iload 5, 2) := by decide +kernel
theorem dL_law_702 : decode cL_law 702 = .ok (.if_icmp .eq 5, 3) := by decide +kernel
theorem dL_law_707 : decode cL_law 707 = .ok (.iload 5, 2) := by decide +kernel
theorem dL_law_709 : decode cL_law 709 = .ok (.ifCond .ne 15, 3) := by decide +kernel
theorem dL_law_724 : decode cL_law 724 = .ok (.goto 1587, 3) := by decide +kernel
theorem dL_law_727 : decode cL_law 727 = .ok (.aload_n 1, 1) := by decide +kernel
theorem dL_law_728 : decode cL_law 728 = .ok (.aload_n 0, 1) := by decide +kernel
theorem dL_law_729 : decode cL_law 729 = .ok (.iload 4, 2) := by decide +kernel
theorem dL_law_731 : decode cL_law 731 = .ok (.iconst 1, 1) := by decide +kernel
theorem dL_law_732 : decode cL_law 732 = .ok (.iadd, 1) := by decide +kernel
theorem dL_law_733 : decode cL_law 733 = .ok (.iaload, 1) := by decide +kernel
theorem dL_law_734 : decode cL_law 734 = .ok (.aload_n 3, 1) := by decide +kernel
theorem dL_law_735 : decode cL_law 735 = .ok (.invokestatic 180, 3) := by decide +kernel
theorem dL_law_738 : decode cL_law 738 = .ok (.istore 5, 2) := by decide +kernel
theorem dL_law_740 : decode cL_law 740 = .ok (.aload_n 2, 1) := by decide +kernel
theorem dL_law_741 : decode cL_law 741 = .ok (.aload_n 0, 1) := by decide +kernel
theorem dL_law_742 : decode cL_law 742 = .ok (.iload 4, 2) := by decide +kernel
theorem dL_law_744 : decode cL_law 744 = .ok (.iconst 1, 1) := by decide +kernel
theorem dL_law_745 : decode cL_law 745 = .ok (.iadd, 1) := by decide +kernel
theorem dL_law_746 : decode cL_law 746 = .ok (.iaload, 1) := by decide +kernel
theorem dL_law_747 : decode cL_law 747 = .ok (.invokevirtual 182, 3) := by decide +kernel
theorem dL_law_750 : decode cL_law 750 = .ok (.istore 6, 2) := by decide +kernel
theorem dL_law_752 : decode cL_law 752 = .ok (.aload_n 2, 1) := by decide +kernel
theorem dL_law_753 : decode cL_law 753 = .ok (.invokevirtual 144, 3) := by decide +kernel
theorem dL_law_756 : decode cL_law 756 = .ok (.iload 5, 2) := by decide +kernel
theorem dL_law_758 : decode cL_law 758 = .ok (.if_icmp .eq 5, 3) := by decide +kernel
theorem dL_law_763 : decode cL_law 763 = .ok (.iload 5, 2) := by decide +kernel
theorem dL_law_765 : decode cL_law 765 = .ok (.ifCond .ne 15, 3) := by decide +kernel
theorem dL_law_780 : decode cL_law 780 = .ok (.goto 1531, 3) := by decide +kernel
theorem dL_law_783 : decode cL_law 783 = .ok (.aload_n 1, 1) := by decide +kernel
theorem dL_law_784 : decode cL_law 784 = .ok (.aload_n 0, 1) := by decide +kernel
theorem dL_law_785 : decode cL_law 785 = .ok (.iload 4, 2) := by decide +kernel
theorem dL_law_787 : decode cL_law 787 = .ok (.iconst 1, 1) := by decide +kernel
theorem dL_law_788 : decode cL_law 788 = .ok (.iadd, 1) := by decide +kernel
theorem dL_law_789 : decode cL_law 789 = .ok (.iaload, 1) := by decide +kernel
theorem dL_law_790 : decode cL_law 790 = .ok (.aload_n 3, 1) := by decide +kernel
theorem dL_law_791 : decode cL_law 791 = .ok (.invokestatic 183, 3) := by decide +kernel
theorem dL_law_794 : decode cL_law 794 = .ok (.istore 5, 2) := by decide +kernel
theorem dL_law_796 : decode cL_law 796 = .ok (.aload_n 2, 1) := by decide +kernel
theorem dL_law_797 : decode cL_law 797 = .ok (.aload_n 0, 1) := by decide +kernel
theorem dL_law_798 : decode cL_law 798 = .ok (.iload 4, 2) := by decide +kernel
theorem dL_law_800 : decode cL_law 800 = .ok (.iconst 1, 1) := by decide +kernel
theorem dL_law_801 : decode cL_law 801 = .ok (.iadd, 1) := by decide +kernel
theorem dL_law_802 : decode cL_law 802 = .ok (.iaload, 1) := by decide +kernel
theorem dL_law_803 : decode cL_law 803 = .ok (.invokevirtual 185, 3) := by decide +kernel
theorem dL_law_806 : decode cL_law 806 = .ok (.istore 6, 2) := by decide +kernel
theorem dL_law_808 : decode cL_law 808 = .ok (.aload_n 2, 1) := by decide +kernel
theorem dL_law_809 : decode cL_law 809 = .ok (.invokevirtual 144, 3) := by decide +kernel
theorem dL_law_812 : decode cL_law 812 = .ok (.iload 5, 2) := by decide +kernel
theorem dL_law_814 : decode cL_law 814 = .ok (.if_icmp .eq 5, 3) := by decide +kernel
theorem dL_law_819 : decode cL_law 819 = .ok (.iload 5, 2) := by decide +kernel
theorem dL_law_821 : decode cL_law 821 = .ok (.ifCond .ne 15, 3) := by decide +kernel
theorem dL_law_836 : decode cL_law 836 = .ok (.goto 1475, 3) := by decide +kernel
theorem dL_law_839 : decode cL_law 839 = .ok (.aload_n 1, 1) := by decide +kernel
theorem dL_law_840 : decode cL_law 840 = .ok (.invokevirtual 186, 3) := by decide +kernel
theorem dL_law_843 : decode cL_law 843 = .ok (.aload_n 2, 1) := by decide +kernel
theorem dL_law_844 : decode cL_law 844 = .ok (.invokevirtual 189, 3) := by decide +kernel
theorem dL_law_847 : decode cL_law 847 = .ok (.if_icmp .eq 1464, 3) := by decide +kernel
theorem dL_law_852 : decode cL_law 852 = .ok (.aload_n 1, 1) := by decide +kernel
theorem dL_law_853 : decode cL_law 853 = .ok (.aload_n 0, 1) := by decide +kernel
theorem dL_law_854 : decode cL_law 854 = .ok (.iload 4, 2) := by decide +kernel
theorem dL_law_856 : decode cL_law 856 = .ok (.iconst 1, 1) := by decide +kernel
theorem dL_law_857 : decode cL_law 857 = .ok (.iadd, 1) := by decide +kernel
theorem dL_law_858 : decode cL_law 858 = .ok (.iaload, 1) := by decide +kernel
theorem dL_law_859 : decode cL_law 859 = .ok (.aload_n 3, 1) := by decide +kernel
theorem dL_law_860 : decode cL_law 860 = .ok (.invokestatic 190, 3) := by decide +kernel
theorem dL_law_863 : decode cL_law 863 = .ok (.istore 5, 2) := by decide +kernel
theorem dL_law_865 : decode cL_law 865 = .ok (.aload_n 2, 1) := by decide +kernel
theorem dL_law_866 : decode cL_law 866 = .ok (.aload_n 0, 1) := by decide +kernel
theorem dL_law_867 : decode cL_law 867 = .ok (.iload 4, 2) := by decide +kernel
theorem dL_law_869 : decode cL_law 869 = .ok (.iconst 1, 1) := by decide +kernel
theorem dL_law_870 : decode cL_law 870 = .ok (.iadd, 1) := by decide +kernel
theorem dL_law_871 : decode cL_law 871 = .ok (.iaload, 1) := by decide +kernel
theorem dL_law_872 : decode cL_law 872 = .ok (.invokevirtual 192, 3) := by decide +kernel
theorem dL_law_875 : decode cL_law 875 = .ok (.istore 6, 2) := by decide +kernel
theorem dL_law_877 : decode cL_law 877 = .ok (.aload_n 2, 1) := by decide +kernel
theorem dL_law_878 : decode cL_law 878 = .ok (.invokevirtual 144, 3) := by decide +kernel
theorem dL_law_881 : decode cL_law 881 = .ok (.iload 5, 2) := by decide +kernel
theorem dL_law_883 : decode cL_law 883 = .ok (.if_icmp .eq 5, 3) := by decide +kernel
theorem dL_law_888 : decode cL_law 888 = .ok (.iload 5, 2) := by decide +kernel
theorem dL_law_890 : decode cL_law 890 = .ok (.ifCond .ne 15, 3) := by decide +kernel
theorem dL_law_905 : decode cL_law 905 = .ok (.goto 1406, 3) := by decide +kernel
theorem dL_law_908 : decode cL_law 908 = .ok (.aload_n 1, 1) := by decide +kernel
theorem dL_law_909 : decode cL_law 909 = .ok (.aload_n 3, 1) := by decide +kernel
theorem dL_law_910 : decode cL_law 910 = .ok (.invokestatic 193, 3) := by decide +kernel
theorem dL_law_913 : decode cL_law 913 = .ok (.istore 5, 2) := by decide +kernel
theorem dL_law_915 : decode cL_law 915 = .ok (.aload_n 2, 1) := by decide +kernel
theorem dL_law_916 : decode cL_law 916 = .ok (.invokevirtual 196, 3) := by decide +kernel
theorem dL_law_919 : decode cL_law 919 = .ok (.istore 6, 2) := by decide +kernel
theorem dL_law_921 : decode cL_law 921 = .ok (.aload_n 2, 1) := by decide +kernel
theorem dL_law_922 : decode cL_law 922 = .ok (.invokevirtual 144, 3) := by decide +kernel
theorem dL_law_925 : decode cL_law 925 = .ok (.iload 5, 2) := by decide +kernel
theorem dL_law_927 : decode cL_law 927 = .ok (.if_icmp .eq 5, 3) := by decide +kernel
theorem dL_law_932 : decode cL_law 932 = .ok (.iload 5, 2) := by decide +kernel
theorem dL_law_934 : decode cL_law 934 = .ok (.ifCond .ne 15, 3) := by decide +kernel
theorem dL_law_949 : decode cL_law 949 = .ok (.goto 1362, 3) := by decide +kernel
theorem dL_law_952 : decode cL_law 952 = .ok (.aload_n 1, 1) := by decide +kernel
theorem dL_law_953 : decode cL_law 953 = .ok (.aload_n 3, 1) := by decide +kernel
theorem dL_law_954 : decode cL_law 954 = .ok (.invokestatic 197, 3) := by decide +kernel
theorem dL_law_957 : decode cL_law 957 = .ok (.istore 5, 2) := by decide +kernel
theorem dL_law_959 : decode cL_law 959 = .ok (.aload_n 2, 1) := by decide +kernel
theorem dL_law_960 : decode cL_law 960 = .ok (.invokevirtual 199, 3) := by decide +kernel
theorem dL_law_963 : decode cL_law 963 = .ok (.istore 6, 2) := by decide +kernel
theorem dL_law_965 : decode cL_law 965 = .ok (.aload_n 2, 1) := by decide +kernel
theorem dL_law_966 : decode cL_law 966 = .ok (.invokevirtual 144, 3) := by decide +kernel
theorem dL_law_969 : decode cL_law 969 = .ok (.iload 5, 2) := by decide +kernel
theorem dL_law_971 : decode cL_law 971 = .ok (.if_icmp .eq 5, 3) := by decide +kernel
theorem dL_law_976 : decode cL_law 976 = .ok (.iload 5, 2) := by decide +kernel
theorem dL_law_978 : decode cL_law 978 = .ok (.ifCond .ne 15, 3) := by decide +kernel
theorem dL_law_993 : decode cL_law 993 = .ok (.goto 1318, 3) := by decide +kernel
theorem dL_law_996 : decode cL_law 996 = .ok (.aload_n 1, 1) := by decide +kernel
theorem dL_law_997 : decode cL_law 997 = .ok (.aload_n 3, 1) := by decide +kernel
theorem dL_law_998 : decode cL_law 998 = .ok (.invokestatic 200, 3) := by decide +kernel
theorem dL_law_1001 : decode cL_law 1001 = .ok (.istore 5, 2) := by decide +kernel
theorem dL_law_1003 : decode cL_law 1003 = .ok (.aload_n 2, 1) := by decide +kernel
theorem dL_law_1004 : decode cL_law 1004 = .ok (.invokevirtual 202, 3) := by decide +kernel
theorem dL_law_1007 : decode cL_law 1007 = .ok (.istore 6, 2) := by decide +kernel
theorem dL_law_1009 : decode cL_law 1009 = .ok (.aload_n 2, 1) := by decide +kernel
theorem dL_law_1010 : decode cL_law 1010 = .ok (.invokevirtual 144, 3) := by decide +kernel
theorem dL_law_1013 : decode cL_law 1013 = .ok (.iload 5, 2) := by decide +kernel
theorem dL_law_1015 : decode cL_law 1015 = .ok (.if_icmp .eq 5, 3) := by decide +kernel
theorem dL_law_1020 : decode cL_law 1020 = .ok (.iload 5, 2) := by decide +kernel
theorem dL_law_1022 : decode cL_law 1022 = .ok (.ifCond .ne 15, 3) := by decide +kernel
theorem dL_law_1037 : decode cL_law 1037 = .ok (.goto 1274, 3) := by decide +kernel
theorem dL_law_1040 : decode cL_law 1040 = .ok (.aload_n 1, 1) := by decide +kernel
theorem dL_law_1041 : decode cL_law 1041 = .ok (.aload_n 3, 1) := by decide +kernel
theorem dL_law_1042 : decode cL_law 1042 = .ok (.invokestatic 203, 3) := by decide +kernel
theorem dL_law_1045 : decode cL_law 1045 = .ok (.istore 5, 2) := by decide +kernel
theorem dL_law_1047 : decode cL_law 1047 = .ok (.aload_n 2, 1) := by decide +kernel
theorem dL_law_1048 : decode cL_law 1048 = .ok (.invokevirtual 205, 3) := by decide +kernel
theorem dL_law_1051 : decode cL_law 1051 = .ok (.istore 6, 2) := by decide +kernel
theorem dL_law_1053 : decode cL_law 1053 = .ok (.aload_n 2, 1) := by decide +kernel
theorem dL_law_1054 : decode cL_law 1054 = .ok (.invokevirtual 144, 3) := by decide +kernel
theorem dL_law_1057 : decode cL_law 1057 = .ok (.iload 5, 2) := by decide +kernel
theorem dL_law_1059 : decode cL_law 1059 = .ok (.if_icmp .eq 5, 3) := by decide +kernel
theorem dL_law_1064 : decode cL_law 1064 = .ok (.iload 5, 2) := by decide +kernel
theorem dL_law_1066 : decode cL_law 1066 = .ok (.ifCond .ne 15, 3) := by decide +kernel
theorem dL_law_1081 : decode cL_law 1081 = .ok (.goto 1230, 3) := by decide +kernel
theorem dL_law_1084 : decode cL_law 1084 = .ok (.aload_n 1, 1) := by decide +kernel
theorem dL_law_1085 : decode cL_law 1085 = .ok (.invokevirtual 206, 3) := by decide +kernel
theorem dL_law_1088 : decode cL_law 1088 = .ok (.aload_n 2, 1) := by decide +kernel
theorem dL_law_1089 : decode cL_law 1089 = .ok (.invokevirtual 209, 3) := by decide +kernel
theorem dL_law_1092 : decode cL_law 1092 = .ok (.if_icmp .eq 1219, 3) := by decide +kernel
theorem dL_law_1097 : decode cL_law 1097 = .ok (.aload_n 1, 1) := by decide +kernel
theorem dL_law_1098 : decode cL_law 1098 = .ok (.aload_n 0, 1) := by decide +kernel
theorem dL_law_1099 : decode cL_law 1099 = .ok (.iload 4, 2) := by decide +kernel
theorem dL_law_1101 : decode cL_law 1101 = .ok (.iconst 1, 1) := by decide +kernel
theorem dL_law_1102 : decode cL_law 1102 = .ok (.iadd, 1) := by decide +kernel
theorem dL_law_1103 : decode cL_law 1103 = .ok (.iaload, 1) := by decide +kernel
theorem dL_law_1104 : decode cL_law 1104 = .ok (.aload_n 3, 1) := by decide +kernel
theorem dL_law_1105 : decode cL_law 1105 = .ok (.invokestatic 210, 3) := by decide +kernel
theorem dL_law_1108 : decode cL_law 1108 = .ok (.istore 5, 2) := by decide +kernel
theorem dL_law_1110 : decode cL_law 1110 = .ok (.aload_n 2, 1) := by decide +kernel
theorem dL_law_1111 : decode cL_law 1111 = .ok (.aload_n 0, 1) := by decide +kernel
theorem dL_law_1112 : decode cL_law 1112 = .ok (.iload 4, 2) := by decide +kernel
theorem dL_law_1114 : decode cL_law 1114 = .ok (.iconst 1, 1) := by decide +kernel
theorem dL_law_1115 : decode cL_law 1115 = .ok (.iadd, 1) := by decide +kernel
theorem dL_law_1116 : decode cL_law 1116 = .ok (.iaload, 1) := by decide +kernel
theorem dL_law_1117 : decode cL_law 1117 = .ok (.invokevirtual 212, 3) := by decide +kernel
theorem dL_law_1120 : decode cL_law 1120 = .ok (.istore 6, 2) := by decide +kernel
theorem dL_law_1122 : decode cL_law 1122 = .ok (.aload_n 2, 1) := by decide +kernel
theorem dL_law_1123 : decode cL_law 1123 = .ok (.invokevirtual 144, 3) := by decide +kernel
theorem dL_law_1126 : decode cL_law 1126 = .ok (.iload 5, 2) := by decide +kernel
theorem dL_law_1128 : decode cL_law 1128 = .ok (.if_icmp .eq 5, 3) := by decide +kernel
theorem dL_law_1133 : decode cL_law 1133 = .ok (.iload 5, 2) := by decide +kernel
theorem dL_law_1135 : decode cL_law 1135 = .ok (.ifCond .ne 15, 3) := by decide +kernel
theorem dL_law_1138 : decode cL_law 1138 = .ok (.aload_n 3, 1) := by decide +kernel
theorem dL_law_1139 : decode cL_law 1139 = .ok (.iconst 0, 1) := by decide +kernel
theorem dL_law_1140 : decode cL_law 1140 = .ok (.laload, 1) := by decide +kernel
theorem dL_law_1141 : decode cL_law 1141 = .ok (.iload 6, 2) := by decide +kernel
theorem dL_law_1143 : decode cL_law 1143 = .ok (.i2l, 1) := by decide +kernel
theorem dL_law_1144 : decode cL_law 1144 = .ok (.lcmp, 1) := by decide +kernel
theorem dL_law_1145 : decode cL_law 1145 = .ok (.ifCond .eq 5, 3) := by decide +kernel
theorem dL_law_1150 : decode cL_law 1150 = .ok (.goto 1161, 3) := by decide +kernel
theorem dL_law_1153 : decode cL_law 1153 = .ok (.aload_n 1, 1) := by decide +kernel
theorem dL_law_1154 : decode cL_law 1154 = .ok (.aload_n 3, 1) := by decide +kernel
theorem dL_law_1155 : decode cL_law 1155 = .ok (.invokestatic 213, 3) := by decide +kernel
theorem dL_law_1158 : decode cL_law 1158 = .ok (.istore 5, 2) := by decide +kernel
theorem dL_law_1160 : decode cL_law 1160 = .ok (.aload_n 2, 1) := by decide +kernel
theorem dL_law_1161 : decode cL_law 1161 = .ok (.invokevirtual 215, 3) := by decide +kernel
theorem dL_law_1164 : decode cL_law 1164 = .ok (.istore 6, 2) := by decide +kernel
theorem dL_law_1166 : decode cL_law 1166 = .ok (.aload_n 2, 1) := by decide +kernel
theorem dL_law_1167 : decode cL_law 1167 = .ok (.invokevirtual 144, 3) := by decide +kernel
theorem dL_law_1170 : decode cL_law 1170 = .ok (.iload 5, 2) := by decide +kernel
theorem dL_law_1172 : decode cL_law 1172 = .ok (.if_icmp .eq 5, 3) := by decide +kernel
theorem dL_law_1177 : decode cL_law 1177 = .ok (.iload 5, 2) := by decide +kernel
theorem dL_law_1179 : decode cL_law 1179 = .ok (.ifCond .ne 15, 3) := by decide +kernel
theorem dL_law_1194 : decode cL_law 1194 = .ok (.goto 1117, 3) := by decide +kernel
theorem dL_law_1197 : decode cL_law 1197 = .ok (.aload_n 1, 1) := by decide +kernel
theorem dL_law_1198 : decode cL_law 1198 = .ok (.aload_n 0, 1) := by decide +kernel
theorem dL_law_1199 : decode cL_law 1199 = .ok (.iload 4, 2) := by decide +kernel
theorem dL_law_1201 : decode cL_law 1201 = .ok (.iconst 1, 1) := by decide +kernel
theorem dL_law_1202 : decode cL_law 1202 = .ok (.iadd, 1) := by decide +kernel
theorem dL_law_1203 : decode cL_law 1203 = .ok (.iaload, 1) := by decide +kernel
theorem dL_law_1204 : decode cL_law 1204 = .ok (.aload_n 3, 1) := by decide +kernel
theorem dL_law_1205 : decode cL_law 1205 = .ok (.invokestatic 216, 3) := by decide +kernel
theorem dL_law_1208 : decode cL_law 1208 = .ok (.istore 5, 2) := by decide +kernel
theorem dL_law_1210 : decode cL_law 1210 = .ok (.aload_n 2, 1) := by decide +kernel
theorem dL_law_1211 : decode cL_law 1211 = .ok (.aload_n 0, 1) := by decide +kernel
theorem dL_law_1212 : decode cL_law 1212 = .ok (.iload 4, 2) := by decide +kernel
theorem dL_law_1214 : decode cL_law 1214 = .ok (.iconst 1, 1) := by decide +kernel
theorem dL_law_1215 : decode cL_law 1215 = .ok (.iadd, 1) := by decide +kernel
theorem dL_law_1216 : decode cL_law 1216 = .ok (.iaload, 1) := by decide +kernel
theorem dL_law_1217 : decode cL_law 1217 = .ok (.invokevirtual 218, 3) := by decide +kernel
theorem dL_law_1220 : decode cL_law 1220 = .ok (.istore 6, 2) := by decide +kernel
theorem dL_law_1222 : decode cL_law 1222 = .ok (.aload_n 2, 1) := by decide +kernel
theorem dL_law_1223 : decode cL_law 1223 = .ok (.invokevirtual 144, 3) := by decide +kernel
theorem dL_law_1226 : decode cL_law 1226 = .ok (.iload 5, 2) := by decide +kernel
theorem dL_law_1228 : decode cL_law 1228 = .ok (.if_icmp .eq 5, 3) := by decide +kernel
theorem dL_law_1233 : decode cL_law 1233 = .ok (.iload 5, 2) := by decide +kernel
theorem dL_law_1235 : decode cL_law 1235 = .ok (.ifCond .ne 15, 3) := by decide +kernel
theorem dL_law_1250 : decode cL_law 1250 = .ok (.goto 1061, 3) := by decide +kernel
theorem dL_law_1253 : decode cL_law 1253 = .ok (.aload_n 1, 1) := by decide +kernel
theorem dL_law_1254 : decode cL_law 1254 = .ok (.aload_n 0, 1) := by decide +kernel
theorem dL_law_1255 : decode cL_law 1255 = .ok (.iload 4, 2) := by decide +kernel
theorem dL_law_1257 : decode cL_law 1257 = .ok (.iconst 1, 1) := by decide +kernel
theorem dL_law_1258 : decode cL_law 1258 = .ok (.iadd, 1) := by decide +kernel
theorem dL_law_1259 : decode cL_law 1259 = .ok (.iaload, 1) := by decide +kernel
theorem dL_law_1260 : decode cL_law 1260 = .ok (.aload_n 3, 1) := by decide +kernel
theorem dL_law_1261 : decode cL_law 1261 = .ok (.invokestatic 219, 3) := by decide +kernel
theorem dL_law_1264 : decode cL_law 1264 = .ok (.istore 5, 2) := by decide +kernel
theorem dL_law_1266 : decode cL_law 1266 = .ok (.aload_n 2, 1) := by decide +kernel
theorem dL_law_1267 : decode cL_law 1267 = .ok (.aload_n 0, 1) := by decide +kernel
theorem dL_law_1268 : decode cL_law 1268 = .ok (.iload 4, 2) := by decide +kernel
theorem dL_law_1270 : decode cL_law 1270 = .ok (.iconst 1, 1) := by decide +kernel
theorem dL_law_1271 : decode cL_law 1271 = .ok (.iadd, 1) := by decide +kernel
theorem dL_law_1272 : decode cL_law 1272 = .ok (.iaload, 1) := by decide +kernel
theorem dL_law_1273 : decode cL_law 1273 = .ok (.invokevirtual 221, 3) := by decide +kernel
theorem dL_law_1276 : decode cL_law 1276 = .ok (.istore 6, 2) := by decide +kernel
theorem dL_law_1278 : decode cL_law 1278 = .ok (.aload_n 2, 1) := by decide +kernel
theorem dL_law_1279 : decode cL_law 1279 = .ok (.invokevirtual 144, 3) := by decide +kernel
theorem dL_law_1282 : decode cL_law 1282 = .ok (.iload 5, 2) := by decide +kernel
theorem dL_law_1284 : decode cL_law 1284 = .ok (.if_icmp .eq 5, 3) := by decide +kernel
theorem dL_law_1289 : decode cL_law 1289 = .ok (.iload 5, 2) := by decide +kernel
theorem dL_law_1291 : decode cL_law 1291 = .ok (.ifCond .ne 15, 3) := by decide +kernel
theorem dL_law_1306 : decode cL_law 1306 = .ok (.goto 1005, 3) := by decide +kernel
theorem dL_law_1309 : decode cL_law 1309 = .ok (.aload_n 1, 1) := by decide +kernel
theorem dL_law_1310 : decode cL_law 1310 = .ok (.aload_n 0, 1) := by decide +kernel
theorem dL_law_1311 : decode cL_law 1311 = .ok (.iload 4, 2) := by decide +kernel
theorem dL_law_1313 : decode cL_law 1313 = .ok (.iconst 1, 1) := by decide +kernel
theorem dL_law_1314 : decode cL_law 1314 = .ok (.iadd, 1) := by decide +kernel
theorem dL_law_1315 : decode cL_law 1315 = .ok (.iaload, 1) := by decide +kernel
theorem dL_law_1316 : decode cL_law 1316 = .ok (.aload_n 3, 1) := by decide +kernel
theorem dL_law_1317 : decode cL_law 1317 = .ok (.invokestatic 222, 3) := by decide +kernel
theorem dL_law_1320 : decode cL_law 1320 = .ok (.istore 5, 2) := by decide +kernel
theorem dL_law_1322 : decode cL_law 1322 = .ok (.aload_n 2, 1) := by decide +kernel
theorem dL_law_1323 : decode cL_law 1323 = .ok (.aload_n 0, 1) := by decide +kernel
theorem dL_law_1324 : decode cL_law 1324 = .ok (.iload 4, 2) := by decide +kernel
theorem dL_law_1326 : decode cL_law 1326 = .ok (.iconst 1, 1) := by decide +kernel
theorem dL_law_1327 : decode cL_law 1327 = .ok (.iadd, 1) := by decide +kernel
theorem dL_law_1328 : decode cL_law 1328 = .ok (.iaload, 1) := by decide +kernel
theorem dL_law_1329 : decode cL_law 1329 = .ok (.invokevirtual 224, 3) := by decide +kernel
theorem dL_law_1332 : decode cL_law 1332 = .ok (.istore 6, 2) := by decide +kernel
theorem dL_law_1334 : decode cL_law 1334 = .ok (.aload_n 2, 1) := by decide +kernel
theorem dL_law_1335 : decode cL_law 1335 = .ok (.invokevirtual 144, 3) := by decide +kernel
theorem dL_law_1338 : decode cL_law 1338 = .ok (.iload 5, 2) := by decide +kernel
theorem dL_law_1340 : decode cL_law 1340 = .ok (.if_icmp .eq 5, 3) := by decide +kernel
theorem dL_law_1345 : decode cL_law 1345 = .ok (.iload 5, 2) := by decide +kernel
theorem dL_law_1347 : decode cL_law 1347 = .ok (.ifCond .ne 15, 3) := by decide +kernel
theorem dL_law_1362 : decode cL_law 1362 = .ok (.goto 949, 3) := by decide +kernel
theorem dL_law_1365 : decode cL_law 1365 = .ok (.aload_n 1, 1) := by decide +kernel
theorem dL_law_1366 : decode cL_law 1366 = .ok (.invokevirtual 225, 3) := by decide +kernel
theorem dL_law_1369 : decode cL_law 1369 = .ok (.aload_n 2, 1) := by decide +kernel
theorem dL_law_1370 : decode cL_law 1370 = .ok (.invokevirtual 228, 3) := by decide +kernel
theorem dL_law_1373 : decode cL_law 1373 = .ok (.if_icmp .eq 938, 3) := by decide +kernel
theorem dL_law_1378 : decode cL_law 1378 = .ok (.aload_n 1, 1) := by decide +kernel
theorem dL_law_1379 : decode cL_law 1379 = .ok (.aload_n 3, 1) := by decide +kernel
theorem dL_law_1380 : decode cL_law 1380 = .ok (.invokestatic 229, 3) := by decide +kernel
theorem dL_law_1383 : decode cL_law 1383 = .ok (.istore 5, 2) := by decide +kernel
theorem dL_law_1385 : decode cL_law 1385 = .ok (.aload_n 2, 1) := by decide +kernel
theorem dL_law_1386 : decode cL_law 1386 = .ok (.invokevirtual 231, 3) := by decide +kernel
theorem dL_law_1389 : decode cL_law 1389 = .ok (.istore 6, 2) := by decide +kernel
theorem dL_law_1391 : decode cL_law 1391 = .ok (.aload_n 2, 1) := by decide +kernel
theorem dL_law_1392 : decode cL_law 1392 = .ok (.invokevirtual 144, 3) := by decide +kernel
theorem dL_law_1395 : decode cL_law 1395 = .ok (.iload 5, 2) := by decide +kernel
theorem dL_law_1397 : decode cL_law 1397 = .ok (.if_icmp .eq 5, 3) := by decide +kernel
theorem dL_law_1402 : decode cL_law 1402 = .ok (.iload 5, 2) := by decide +kernel
theorem dL_law_1404 : decode cL_law 1404 = .ok (.ifCond .ne 15, 3) := by decide +kernel
theorem dL_law_1419 : decode cL_law 1419 = .ok (.goto 892, 3) := by decide +kernel
theorem dL_law_1422 : decode cL_law 1422 = .ok (.aload_n 1, 1) := by decide +kernel
theorem dL_law_1423 : decode cL_law 1423 = .ok (.aload_n 3, 1) := by decide +kernel
theorem dL_law_1424 : decode cL_law 1424 = .ok (.invokestatic 232, 3) := by decide +kernel
theorem dL_law_1427 : decode cL_law 1427 = .ok (.istore 5, 2) := by decide +kernel
theorem dL_law_1429 : decode cL_law 1429 = .ok (.aload_n 2, 1) := by decide +kernel
theorem dL_law_1430 : decode cL_law 1430 = .ok (.invokevirtual 234, 3) := by decide +kernel
theorem dL_law_1433 : decode cL_law 1433 = .ok (.istore 6, 2) := by decide +kernel
theorem dL_law_1435 : decode cL_law 1435 = .ok (.aload_n 2, 1) := by decide +kernel
theorem dL_law_1436 : decode cL_law 1436 = .ok (.invokevirtual 144, 3) := by decide +kernel
theorem dL_law_1439 : decode cL_law 1439 = .ok (.iload 5, 2) := by decide +kernel
theorem dL_law_1441 : decode cL_law 1441 = .ok (.if_icmp .eq 5, 3) := by decide +kernel
theorem dL_law_1446 : decode cL_law 1446 = .ok (.iload 5, 2) := by decide +kernel
theorem dL_law_1448 : decode cL_law 1448 = .ok (.ifCond .ne 15, 3) := by decide +kernel
theorem dL_law_1463 : decode cL_law 1463 = .ok (.goto 848, 3) := by decide +kernel
theorem dL_law_1466 : decode cL_law 1466 = .ok (.aload_n 1, 1) := by decide +kernel
theorem dL_law_1467 : decode cL_law 1467 = .ok (.aload_n 0, 1) := by decide +kernel
theorem dL_law_1468 : decode cL_law 1468 = .ok (.iload 4, 2) := by decide +kernel
theorem dL_law_1470 : decode cL_law 1470 = .ok (.iconst 1, 1) := by decide +kernel
theorem dL_law_1471 : decode cL_law 1471 = .ok (.iadd, 1) := by decide +kernel
theorem dL_law_1472 : decode cL_law 1472 = .ok (.iaload, 1) := by decide +kernel
theorem dL_law_1473 : decode cL_law 1473 = .ok (.aload_n 3, 1) := by decide +kernel
theorem dL_law_1474 : decode cL_law 1474 = .ok (.invokestatic 235, 3) := by decide +kernel
theorem dL_law_1477 : decode cL_law 1477 = .ok (.istore 5, 2) := by decide +kernel
theorem dL_law_1479 : decode cL_law 1479 = .ok (.aload_n 2, 1) := by decide +kernel
theorem dL_law_1480 : decode cL_law 1480 = .ok (.aload_n 0, 1) := by decide +kernel
theorem dL_law_1481 : decode cL_law 1481 = .ok (.iload 4, 2) := by decide +kernel
theorem dL_law_1483 : decode cL_law 1483 = .ok (.iconst 1, 1) := by decide +kernel
theorem dL_law_1484 : decode cL_law 1484 = .ok (.iadd, 1) := by decide +kernel
theorem dL_law_1485 : decode cL_law 1485 = .ok (.iaload, 1) := by decide +kernel
theorem dL_law_1486 : decode cL_law 1486 = .ok (.invokevirtual 237, 3) := by decide +kernel
theorem dL_law_1489 : decode cL_law 1489 = .ok (.istore 6, 2) := by decide +kernel
theorem dL_law_1491 : decode cL_law 1491 = .ok (.aload_n 2, 1) := by decide +kernel
theorem dL_law_1492 : decode cL_law 1492 = .ok (.invokevirtual 144, 3) := by decide +kernel
theorem dL_law_1495 : decode cL_law 1495 = .ok (.iload 5, 2) := by decide +kernel
theorem dL_law_1497 : decode cL_law 1497 = .ok (.if_icmp .eq 5, 3) := by decide +kernel
theorem dL_law_1502 : decode cL_law 1502 = .ok (.iload 5, 2) := by decide +kernel
theorem dL_law_1504 : decode cL_law 1504 = .ok (.ifCond .ne 22, 3) := by decide +kernel
theorem dL_law_1526 : decode cL_law 1526 = .ok (.goto 785, 3) := by decide +kernel
theorem dL_law_1529 : decode cL_law 1529 = .ok (.aload_n 1, 1) := by decide +kernel
theorem dL_law_1530 : decode cL_law 1530 = .ok (.aload_n 3, 1) := by decide +kernel
theorem dL_law_1531 : decode cL_law 1531 = .ok (.invokestatic 238, 3) := by decide +kernel
theorem dL_law_1534 : decode cL_law 1534 = .ok (.istore 5, 2) := by decide +kernel
theorem dL_law_1536 : decode cL_law 1536 = .ok (.aload_n 2, 1) := by decide +kernel
theorem dL_law_1537 : decode cL_law 1537 = .ok (.invokevirtual 240, 3) := by decide +kernel
theorem dL_law_1540 : decode cL_law 1540 = .ok (.istore 6, 2) := by decide +kernel
theorem dL_law_1542 : decode cL_law 1542 = .ok (.aload_n 2, 1) := by decide +kernel
theorem dL_law_1543 : decode cL_law 1543 = .ok (.invokevirtual 144, 3) := by decide +kernel
theorem dL_law_1546 : decode cL_law 1546 = .ok (.iload 5, 2) := by decide +kernel
theorem dL_law_1548 : decode cL_law 1548 = .ok (.if_icmp .eq 5, 3) := by decide +kernel
theorem dL_law_1553 : decode cL_law 1553 = .ok (.iload 5, 2) := by decide +kernel
theorem dL_law_1555 : decode cL_law 1555 = .ok (.ifCond .ne 15, 3) := by decide +kernel
theorem dL_law_1570 : decode cL_law 1570 = .ok (.goto 741, 3) := by decide +kernel
theorem dL_law_1573 : decode cL_law 1573 = .ok (.aload_n 1, 1) := by decide +kernel
theorem dL_law_1574 : decode cL_law 1574 = .ok (.aload_n 0, 1) := by decide +kernel
theorem dL_law_1575 : decode cL_law 1575 = .ok (.iload 4, 2) := by decide +kernel
theorem dL_law_1577 : decode cL_law 1577 = .ok (.iconst 1, 1) := by decide +kernel
theorem dL_law_1578 : decode cL_law 1578 = .ok (.iadd, 1) := by decide +kernel
theorem dL_law_1579 : decode cL_law 1579 = .ok (.iaload, 1) := by decide +kernel
theorem dL_law_1580 : decode cL_law 1580 = .ok (.aload_n 3, 1) := by decide +kernel
theorem dL_law_1581 : decode cL_law 1581 = .ok (.invokestatic 241, 3) := by decide +kernel
theorem dL_law_1584 : decode cL_law 1584 = .ok (.istore 5, 2) := by decide +kernel
theorem dL_law_1586 : decode cL_law 1586 = .ok (.aload_n 2, 1) := by decide +kernel
theorem dL_law_1587 : decode cL_law 1587 = .ok (.aload_n 0, 1) := by decide +kernel
theorem dL_law_1588 : decode cL_law 1588 = .ok (.iload 4, 2) := by decide +kernel
theorem dL_law_1590 : decode cL_law 1590 = .ok (.iconst 1, 1) := by decide +kernel
theorem dL_law_1591 : decode cL_law 1591 = .ok (.iadd, 1) := by decide +kernel
theorem dL_law_1592 : decode cL_law 1592 = .ok (.iaload, 1) := by decide +kernel
theorem dL_law_1593 : decode cL_law 1593 = .ok (.invokevirtual 243, 3) := by decide +kernel
theorem dL_law_1596 : decode cL_law 1596 = .ok (.istore 6, 2) := by decide +kernel
theorem dL_law_1598 : decode cL_law 1598 = .ok (.aload_n 2, 1) := by decide +kernel
theorem dL_law_1599 : decode cL_law 1599 = .ok (.invokevirtual 144, 3) := by decide +kernel
theorem dL_law_1602 : decode cL_law 1602 = .ok (.iload 5, 2) := by decide +kernel
theorem dL_law_1604 : decode cL_law 1604 = .ok (.if_icmp .eq 5, 3) := by decide +kernel
theorem dL_law_1609 : decode cL_law 1609 = .ok (.iload 5, 2) := by decide +kernel
theorem dL_law_1611 : decode cL_law 1611 = .ok (.ifCond .ne 15, 3) := by decide +kernel
theorem dL_law_1626 : decode cL_law 1626 = .ok (.goto 685, 3) := by decide +kernel
theorem dL_law_1629 : decode cL_law 1629 = .ok (.aload_n 1, 1) := by decide +kernel
theorem dL_law_1630 : decode cL_law 1630 = .ok (.aload_n 0, 1) := by decide +kernel
theorem dL_law_1631 : decode cL_law 1631 = .ok (.iload 4, 2) := by decide +kernel
theorem dL_law_1633 : decode cL_law 1633 = .ok (.iconst 1, 1) := by decide +kernel
theorem dL_law_1634 : decode cL_law 1634 = .ok (.iadd, 1) := by decide +kernel
theorem dL_law_1635 : decode cL_law 1635 = .ok (.iaload, 1) := by decide +kernel
theorem dL_law_1636 : decode cL_law 1636 = .ok (.aload_n 0, 1) := by decide +kernel
theorem dL_law_1637 : decode cL_law 1637 = .ok (.iload 4, 2) := by decide +kernel
theorem dL_law_1639 : decode cL_law 1639 = .ok (.iconst 2, 1) := by decide +kernel
theorem dL_law_1640 : decode cL_law 1640 = .ok (.iadd, 1) := by decide +kernel
theorem dL_law_1641 : decode cL_law 1641 = .ok (.iaload, 1) := by decide +kernel
theorem dL_law_1642 : decode cL_law 1642 = .ok (.aload_n 3, 1) := by decide +kernel
theorem dL_law_1643 : decode cL_law 1643 = .ok (.invokestatic 244, 3) := by decide +kernel
theorem dL_law_1646 : decode cL_law 1646 = .ok (.istore 5, 2) := by decide +kernel
theorem dL_law_1648 : decode cL_law 1648 = .ok (.aload_n 2, 1) := by decide +kernel
theorem dL_law_1649 : decode cL_law 1649 = .ok (.aload_n 0, 1) := by decide +kernel
theorem dL_law_1650 : decode cL_law 1650 = .ok (.iload 4, 2) := by decide +kernel
theorem dL_law_1652 : decode cL_law 1652 = .ok (.iconst 1, 1) := by decide +kernel
theorem dL_law_1653 : decode cL_law 1653 = .ok (.iadd, 1) := by decide +kernel
theorem dL_law_1654 : decode cL_law 1654 = .ok (.iaload, 1) := by decide +kernel
theorem dL_law_1655 : decode cL_law 1655 = .ok (.aload_n 0, 1) := by decide +kernel
theorem dL_law_1656 : decode cL_law 1656 = .ok (.iload 4, 2) := by decide +kernel
theorem dL_law_1658 : decode cL_law 1658 = .ok (.iconst 2, 1) := by decide +kernel
theorem dL_law_1659 : decode cL_law 1659 = .ok (.iadd, 1) := by decide +kernel
theorem dL_law_1660 : decode cL_law 1660 = .ok (.iaload, 1) := by decide +kernel
theorem dL_law_1661 : decode cL_law 1661 = .ok (.invokevirtual 247, 3) := by decide +kernel
theorem dL_law_1664 : decode cL_law 1664 = .ok (.istore 6, 2) := by decide +kernel
theorem dL_law_1666 : decode cL_law 1666 = .ok (.aload_n 2, 1) := by decide +kernel
theorem dL_law_1667 : decode cL_law 1667 = .ok (.invokevirtual 144, 3) := by decide +kernel
theorem dL_law_1670 : decode cL_law 1670 = .ok (.iload 5, 2) := by decide +kernel
theorem dL_law_1672 : decode cL_law 1672 = .ok (.if_icmp .eq 5, 3) := by decide +kernel
theorem dL_law_1677 : decode cL_law 1677 = .ok (.iload 5, 2) := by decide +kernel
theorem dL_law_1679 : decode cL_law 1679 = .ok (.ifCond .ne 15, 3) := by decide +kernel
theorem dL_law_1694 : decode cL_law 1694 = .ok (.goto 617, 3) := by decide +kernel
theorem dL_law_1697 : decode cL_law 1697 = .ok (.aload_n 1, 1) := by decide +kernel
theorem dL_law_1698 : decode cL_law 1698 = .ok (.aload_n 0, 1) := by decide +kernel
theorem dL_law_1699 : decode cL_law 1699 = .ok (.iload 4, 2) := by decide +kernel
theorem dL_law_1701 : decode cL_law 1701 = .ok (.iconst 1, 1) := by decide +kernel
theorem dL_law_1702 : decode cL_law 1702 = .ok (.iadd, 1) := by decide +kernel
theorem dL_law_1703 : decode cL_law 1703 = .ok (.iaload, 1) := by decide +kernel
theorem dL_law_1704 : decode cL_law 1704 = .ok (.aload_n 3, 1) := by decide +kernel
theorem dL_law_1705 : decode cL_law 1705 = .ok (.invokestatic 248, 3) := by decide +kernel
theorem dL_law_1708 : decode cL_law 1708 = .ok (.istore 5, 2) := by decide +kernel
theorem dL_law_1710 : decode cL_law 1710 = .ok (.aload_n 2, 1) := by decide +kernel
theorem dL_law_1711 : decode cL_law 1711 = .ok (.aload_n 0, 1) := by decide +kernel
theorem dL_law_1712 : decode cL_law 1712 = .ok (.iload 4, 2) := by decide +kernel
theorem dL_law_1714 : decode cL_law 1714 = .ok (.iconst 1, 1) := by decide +kernel
theorem dL_law_1715 : decode cL_law 1715 = .ok (.iadd, 1) := by decide +kernel
theorem dL_law_1716 : decode cL_law 1716 = .ok (.iaload, 1) := by decide +kernel
theorem dL_law_1717 : decode cL_law 1717 = .ok (.invokevirtual 250, 3) := by decide +kernel
theorem dL_law_1720 : decode cL_law 1720 = .ok (.istore 6, 2) := by decide +kernel
theorem dL_law_1722 : decode cL_law 1722 = .ok (.aload_n 2, 1) := by decide +kernel
theorem dL_law_1723 : decode cL_law 1723 = .ok (.invokevirtual 144, 3) := by decide +kernel
theorem dL_law_1726 : decode cL_law 1726 = .ok (.iload 5, 2) := by decide +kernel
theorem dL_law_1728 : decode cL_law 1728 = .ok (.if_icmp .eq 5, 3) := by decide +kernel
theorem dL_law_1733 : decode cL_law 1733 = .ok (.iload 5, 2) := by decide +kernel
theorem dL_law_1735 : decode cL_law 1735 = .ok (.ifCond .ne 15, 3) := by decide +kernel
theorem dL_law_1750 : decode cL_law 1750 = .ok (.goto 561, 3) := by decide +kernel
theorem dL_law_1753 : decode cL_law 1753 = .ok (.aload_n 1, 1) := by decide +kernel
theorem dL_law_1754 : decode cL_law 1754 = .ok (.aload_n 0, 1) := by decide +kernel
theorem dL_law_1755 : decode cL_law 1755 = .ok (.iload 4, 2) := by decide +kernel
theorem dL_law_1757 : decode cL_law 1757 = .ok (.iconst 1, 1) := by decide +kernel
theorem dL_law_1758 : decode cL_law 1758 = .ok (.iadd, 1) := by decide +kernel
theorem dL_law_1759 : decode cL_law 1759 = .ok (.iaload, 1) := by decide +kernel
theorem dL_law_1760 : decode cL_law 1760 = .ok (.i2c, 1) := by decide +kernel
theorem dL_law_1761 : decode cL_law 1761 = .ok (.aload_n 3, 1) := by decide +kernel
theorem dL_law_1762 : decode cL_law 1762 = .ok (.invokestatic 251, 3) := by decide +kernel
theorem dL_law_1765 : decode cL_law 1765 = .ok (.istore 5, 2) := by decide +kernel
theorem dL_law_1767 : decode cL_law 1767 = .ok (.aload_n 2, 1) := by decide +kernel
theorem dL_law_1768 : decode cL_law 1768 = .ok (.aload_n 0, 1) := by decide +kernel
theorem dL_law_1769 : decode cL_law 1769 = .ok (.iload 4, 2) := by decide +kernel
theorem dL_law_1771 : decode cL_law 1771 = .ok (.iconst 1, 1) := by decide +kernel
theorem dL_law_1772 : decode cL_law 1772 = .ok (.iadd, 1) := by decide +kernel
theorem dL_law_1773 : decode cL_law 1773 = .ok (.iaload, 1) := by decide +kernel
theorem dL_law_1774 : decode cL_law 1774 = .ok (.i2c, 1) := by decide +kernel
theorem dL_law_1775 : decode cL_law 1775 = .ok (.invokevirtual 253, 3) := by decide +kernel
theorem dL_law_1778 : decode cL_law 1778 = .ok (.istore 6, 2) := by decide +kernel
theorem dL_law_1780 : decode cL_law 1780 = .ok (.aload_n 2, 1) := by decide +kernel
theorem dL_law_1781 : decode cL_law 1781 = .ok (.invokevirtual 144, 3) := by decide +kernel
theorem dL_law_1784 : decode cL_law 1784 = .ok (.iload 5, 2) := by decide +kernel
theorem dL_law_1786 : decode cL_law 1786 = .ok (.if_icmp .eq 5, 3) := by decide +kernel
theorem dL_law_1791 : decode cL_law 1791 = .ok (.iload 5, 2) := by decide +kernel
theorem dL_law_1793 : decode cL_law 1793 = .ok (.ifCond .ne 15, 3) := by decide +kernel
theorem dL_law_1808 : decode cL_law 1808 = .ok (.goto 503, 3) := by decide +kernel
theorem dL_law_1811 : decode cL_law 1811 = .ok (.aload_n 1, 1) := by decide +kernel
theorem dL_law_1812 : decode cL_law 1812 = .ok (.aload_n 0, 1) := by decide +kernel
theorem dL_law_1813 : decode cL_law 1813 = .ok (.iload 4, 2) := by decide +kernel
theorem dL_law_1815 : decode cL_law 1815 = .ok (.iconst 1, 1) := by decide +kernel
theorem dL_law_1816 : decode cL_law 1816 = .ok (.iadd, 1) := by decide +kernel
theorem dL_law_1817 : decode cL_law 1817 = .ok (.iaload, 1) := by decide +kernel
theorem dL_law_1818 : decode cL_law 1818 = .ok (.aload_n 0, 1) := by decide +kernel
theorem dL_law_1819 : decode cL_law 1819 = .ok (.iload 4, 2) := by decide +kernel
theorem dL_law_1821 : decode cL_law 1821 = .ok (.iconst 2, 1) := by decide +kernel
theorem dL_law_1822 : decode cL_law 1822 = .ok (.iadd, 1) := by decide +kernel
theorem dL_law_1823 : decode cL_law 1823 = .ok (.iaload, 1) := by decide +kernel
theorem dL_law_1824 : decode cL_law 1824 = .ok (.aload_n 3, 1) := by decide +kernel
theorem dL_law_1825 : decode cL_law 1825 = .ok (.invokestatic 254, 3) := by decide +kernel
theorem dL_law_1828 : decode cL_law 1828 = .ok (.istore 5, 2) := by decide +kernel
theorem dL_law_1830 : decode cL_law 1830 = .ok (.aload_n 2, 1) := by decide +kernel
theorem dL_law_1831 : decode cL_law 1831 = .ok (.aload_n 0, 1) := by decide +kernel
theorem dL_law_1832 : decode cL_law 1832 = .ok (.iload 4, 2) := by decide +kernel
theorem dL_law_1834 : decode cL_law 1834 = .ok (.iconst 1, 1) := by decide +kernel
theorem dL_law_1835 : decode cL_law 1835 = .ok (.iadd, 1) := by decide +kernel
theorem dL_law_1836 : decode cL_law 1836 = .ok (.iaload, 1) := by decide +kernel
theorem dL_law_1837 : decode cL_law 1837 = .ok (.aload_n 0, 1) := by decide +kernel
theorem dL_law_1838 : decode cL_law 1838 = .ok (.iload 4, 2) := by decide +kernel
theorem dL_law_1840 : decode cL_law 1840 = .ok (.iconst 2, 1) := by decide +kernel
theorem dL_law_1841 : decode cL_law 1841 = .ok (.iadd, 1) := by decide +kernel
theorem dL_law_1842 : decode cL_law 1842 = .ok (.iaload, 1) := by decide +kernel
theorem dL_law_1843 : decode cL_law 1843 = .ok (.invokevirtual 256, 3) := by decide +kernel
theorem dL_law_1846 : decode cL_law 1846 = .ok (.istore 6, 2) := by decide +kernel
theorem dL_law_1848 : decode cL_law 1848 = .ok (.aload_n 2, 1) := by decide +kernel
theorem dL_law_1849 : decode cL_law 1849 = .ok (.invokevirtual 144, 3) := by decide +kernel
theorem dL_law_1852 : decode cL_law 1852 = .ok (.iload 5, 2) := by decide +kernel
theorem dL_law_1854 : decode cL_law 1854 = .ok (.if_icmp .eq 5, 3) := by decide +kernel
theorem dL_law_1859 : decode cL_law 1859 = .ok (.iload 5, 2) := by decide +kernel
theorem dL_law_1861 : decode cL_law 1861 = .ok (.ifCond .ne 15, 3) := by decide +kernel
theorem dL_law_1876 : decode cL_law 1876 = .ok (.goto 435, 3) := by decide +kernel
theorem dL_law_1879 : decode cL_law 1879 = .ok (.aload_n 1, 1) := by decide +kernel
theorem dL_law_1880 : decode cL_law 1880 = .ok (.aload_n 0, 1) := by decide +kernel
theorem dL_law_1881 : decode cL_law 1881 = .ok (.iload 4, 2) := by decide +kernel
theorem dL_law_1883 : decode cL_law 1883 = .ok (.iconst 1, 1) := by decide +kernel
theorem dL_law_1884 : decode cL_law 1884 = .ok (.iadd, 1) := by decide +kernel
theorem dL_law_1885 : decode cL_law 1885 = .ok (.iaload, 1) := by decide +kernel
theorem dL_law_1886 : decode cL_law 1886 = .ok (.aload_n 3, 1) := by decide +kernel
theorem dL_law_1887 : decode cL_law 1887 = .ok (.invokestatic 257, 3) := by decide +kernel
theorem dL_law_1890 : decode cL_law 1890 = .ok (.istore 5, 2) := by decide +kernel
theorem dL_law_1892 : decode cL_law 1892 = .ok (.aload_n 2, 1) := by decide +kernel
theorem dL_law_1893 : decode cL_law 1893 = .ok (.aload_n 0, 1) := by decide +kernel
theorem dL_law_1894 : decode cL_law 1894 = .ok (.iload 4, 2) := by decide +kernel
theorem dL_law_1896 : decode cL_law 1896 = .ok (.iconst 1, 1) := by decide +kernel
theorem dL_law_1897 : decode cL_law 1897 = .ok (.iadd, 1) := by decide +kernel
theorem dL_law_1898 : decode cL_law 1898 = .ok (.iaload, 1) := by decide +kernel
theorem dL_law_1899 : decode cL_law 1899 = .ok (.invokevirtual 259, 3) := by decide +kernel
theorem dL_law_1902 : decode cL_law 1902 = .ok (.istore 6, 2) := by decide +kernel
theorem dL_law_1904 : decode cL_law 1904 = .ok (.aload_n 2, 1) := by decide +kernel
theorem dL_law_1905 : decode cL_law 1905 = .ok (.invokevirtual 144, 3) := by decide +kernel
theorem dL_law_1908 : decode cL_law 1908 = .ok (.iload 5, 2) := by decide +kernel
theorem dL_law_1910 : decode cL_law 1910 = .ok (.if_icmp .eq 5, 3) := by decide +kernel
theorem dL_law_1915 : decode cL_law 1915 = .ok (.iload 5, 2) := by decide +kernel
theorem dL_law_1917 : decode cL_law 1917 = .ok (.ifCond .ne 15, 3) := by decide +kernel
theorem dL_law_1932 : decode cL_law 1932 = .ok (.goto 379, 3) := by decide +kernel
theorem dL_law_1935 : decode cL_law 1935 = .ok (.aload_n 1, 1) := by decide +kernel
theorem dL_law_1936 : decode cL_law 1936 = .ok (.aload_n 0, 1) := by decide +kernel
theorem dL_law_1937 : decode cL_law 1937 = .ok (.iload 4, 2) := by decide +kernel
theorem dL_law_1939 : decode cL_law 1939 = .ok (.iconst 1, 1) := by decide +kernel
theorem dL_law_1940 : decode cL_law 1940 = .ok (.iadd, 1) := by decide +kernel
theorem dL_law_1941 : decode cL_law 1941 = .ok (.iaload, 1) := by decide +kernel
theorem dL_law_1942 : decode cL_law 1942 = .ok (.aload_n 3, 1) := by decide +kernel
theorem dL_law_1943 : decode cL_law 1943 = .ok (.invokestatic 260, 3) := by decide +kernel
theorem dL_law_1946 : decode cL_law 1946 = .ok (.istore 5, 2) := by decide +kernel
theorem dL_law_1948 : decode cL_law 1948 = .ok (.aload_n 2, 1) := by decide +kernel
theorem dL_law_1949 : decode cL_law 1949 = .ok (.aload_n 0, 1) := by decide +kernel
theorem dL_law_1950 : decode cL_law 1950 = .ok (.iload 4, 2) := by decide +kernel
theorem dL_law_1952 : decode cL_law 1952 = .ok (.iconst 1, 1) := by decide +kernel
theorem dL_law_1953 : decode cL_law 1953 = .ok (.iadd, 1) := by decide +kernel
theorem dL_law_1954 : decode cL_law 1954 = .ok (.iaload, 1) := by decide +kernel
theorem dL_law_1955 : decode cL_law 1955 = .ok (.invokevirtual 262, 3) := by decide +kernel
theorem dL_law_1958 : decode cL_law 1958 = .ok (.istore 6, 2) := by decide +kernel
theorem dL_law_1960 : decode cL_law 1960 = .ok (.aload_n 2, 1) := by decide +kernel
theorem dL_law_1961 : decode cL_law 1961 = .ok (.invokevirtual 144, 3) := by decide +kernel
theorem dL_law_1964 : decode cL_law 1964 = .ok (.iload 5, 2) := by decide +kernel
theorem dL_law_1966 : decode cL_law 1966 = .ok (.if_icmp .eq 5, 3) := by decide +kernel
theorem dL_law_1971 : decode cL_law 1971 = .ok (.iload 5, 2) := by decide +kernel
theorem dL_law_1973 : decode cL_law 1973 = .ok (.ifCond .ne 15, 3) := by decide +kernel
theorem dL_law_1988 : decode cL_law 1988 = .ok (.goto 323, 3) := by decide +kernel
theorem dL_law_1991 : decode cL_law 1991 = .ok (.aload_n 1, 1) := by decide +kernel
theorem dL_law_1992 : decode cL_law 1992 = .ok (.aload_n 0, 1) := by decide +kernel
theorem dL_law_1993 : decode cL_law 1993 = .ok (.iload 4, 2) := by decide +kernel
theorem dL_law_1995 : decode cL_law 1995 = .ok (.iconst 1, 1) := by decide +kernel
theorem dL_law_1996 : decode cL_law 1996 = .ok (.iadd, 1) := by decide +kernel
theorem dL_law_1997 : decode cL_law 1997 = .ok (.iaload, 1) := by decide +kernel
theorem dL_law_1998 : decode cL_law 1998 = .ok (.aload_n 3, 1) := by decide +kernel
theorem dL_law_1999 : decode cL_law 1999 = .ok (.invokestatic 263, 3) := by decide +kernel
theorem dL_law_2002 : decode cL_law 2002 = .ok (.istore 5, 2) := by decide +kernel
theorem dL_law_2004 : decode cL_law 2004 = .ok (.aload_n 2, 1) := by decide +kernel
theorem dL_law_2005 : decode cL_law 2005 = .ok (.aload_n 0, 1) := by decide +kernel
theorem dL_law_2006 : decode cL_law 2006 = .ok (.iload 4, 2) := by decide +kernel
theorem dL_law_2008 : decode cL_law 2008 = .ok (.iconst 1, 1) := by decide +kernel
theorem dL_law_2009 : decode cL_law 2009 = .ok (.iadd, 1) := by decide +kernel
theorem dL_law_2010 : decode cL_law 2010 = .ok (.iaload, 1) := by decide +kernel
theorem dL_law_2011 : decode cL_law 2011 = .ok (.invokevirtual 265, 3) := by decide +kernel
theorem dL_law_2014 : decode cL_law 2014 = .ok (.istore 6, 2) := by decide +kernel
theorem dL_law_2016 : decode cL_law 2016 = .ok (.aload_n 2, 1) := by decide +kernel
theorem dL_law_2017 : decode cL_law 2017 = .ok (.invokevirtual 144, 3) := by decide +kernel
theorem dL_law_2020 : decode cL_law 2020 = .ok (.iload 5, 2) := by decide +kernel
theorem dL_law_2022 : decode cL_law 2022 = .ok (.if_icmp .eq 5, 3) := by decide +kernel
theorem dL_law_2027 : decode cL_law 2027 = .ok (.iload 5, 2) := by decide +kernel
theorem dL_law_2029 : decode cL_law 2029 = .ok (.ifCond .ne 15, 3) := by decide +kernel
theorem dL_law_2044 : decode cL_law 2044 = .ok (.goto 267, 3) := by decide +kernel
theorem dL_law_2047 : decode cL_law 2047 = .ok (.aload_n 1, 1) := by decide +kernel
theorem dL_law_2048 : decode cL_law 2048 = .ok (.aload_n 0, 1) := by decide +kernel
theorem dL_law_2049 : decode cL_law 2049 = .ok (.iload 4, 2) := by decide +kernel
theorem dL_law_2051 : decode cL_law 2051 = .ok (.iconst 1, 1) := by decide +kernel
theorem dL_law_2052 : decode cL_law 2052 = .ok (.iadd, 1) := by decide +kernel
theorem dL_law_2053 : decode cL_law 2053 = .ok (.iaload, 1) := by decide +kernel
theorem dL_law_2054 : decode cL_law 2054 = .ok (.aload_n 3, 1) := by decide +kernel
theorem dL_law_2055 : decode cL_law 2055 = .ok (.invokestatic 266, 3) := by decide +kernel
theorem dL_law_2058 : decode cL_law 2058 = .ok (.istore 5, 2) := by decide +kernel
theorem dL_law_2060 : decode cL_law 2060 = .ok (.aload_n 2, 1) := by decide +kernel
theorem dL_law_2061 : decode cL_law 2061 = .ok (.aload_n 0, 1) := by decide +kernel
theorem dL_law_2062 : decode cL_law 2062 = .ok (.iload 4, 2) := by decide +kernel
theorem dL_law_2064 : decode cL_law 2064 = .ok (.iconst 1, 1) := by decide +kernel
theorem dL_law_2065 : decode cL_law 2065 = .ok (.iadd, 1) := by decide +kernel
theorem dL_law_2066 : decode cL_law 2066 = .ok (.iaload, 1) := by decide +kernel
theorem dL_law_2067 : decode cL_law 2067 = .ok (.invokevirtual 268, 3) := by decide +kernel
theorem dL_law_2070 : decode cL_law 2070 = .ok (.istore 6, 2) := by decide +kernel
theorem dL_law_2072 : decode cL_law 2072 = .ok (.aload_n 2, 1) := by decide +kernel
theorem dL_law_2073 : decode cL_law 2073 = .ok (.invokevirtual 144, 3) := by decide +kernel
theorem dL_law_2076 : decode cL_law 2076 = .ok (.iload 5, 2) := by decide +kernel
theorem dL_law_2078 : decode cL_law 2078 = .ok (.if_icmp .eq 5, 3) := by decide +kernel
theorem dL_law_2083 : decode cL_law 2083 = .ok (.iload 5, 2) := by decide +kernel
theorem dL_law_2085 : decode cL_law 2085 = .ok (.ifCond .ne 15, 3) := by decide +kernel
theorem dL_law_2100 : decode cL_law 2100 = .ok (.goto 211, 3) := by decide +kernel
theorem dL_law_2103 : decode cL_law 2103 = .ok (.aload_n 1, 1) := by decide +kernel
theorem dL_law_2104 : decode cL_law 2104 = .ok (.aload_n 0, 1) := by decide +kernel
theorem dL_law_2105 : decode cL_law 2105 = .ok (.iload 4, 2) := by decide +kernel
theorem dL_law_2107 : decode cL_law 2107 = .ok (.iconst 1, 1) := by decide +kernel
theorem dL_law_2108 : decode cL_law 2108 = .ok (.iadd, 1) := by decide +kernel
theorem dL_law_2109 : decode cL_law 2109 = .ok (.iaload, 1) := by decide +kernel
theorem dL_law_2110 : decode cL_law 2110 = .ok (.aload_n 0, 1) := by decide +kernel
theorem dL_law_2111 : decode cL_law 2111 = .ok (.iload 4, 2) := by decide +kernel
theorem dL_law_2113 : decode cL_law 2113 = .ok (.iconst 2, 1) := by decide +kernel
theorem dL_law_2114 : decode cL_law 2114 = .ok (.iadd, 1) := by decide +kernel
theorem dL_law_2115 : decode cL_law 2115 = .ok (.iaload, 1) := by decide +kernel
theorem dL_law_2116 : decode cL_law 2116 = .ok (.aload_n 3, 1) := by decide +kernel
theorem dL_law_2117 : decode cL_law 2117 = .ok (.invokestatic 269, 3) := by decide +kernel
theorem dL_law_2120 : decode cL_law 2120 = .ok (.istore 5, 2) := by decide +kernel
theorem dL_law_2122 : decode cL_law 2122 = .ok (.aload_n 2, 1) := by decide +kernel
theorem dL_law_2123 : decode cL_law 2123 = .ok (.aload_n 0, 1) := by decide +kernel
theorem dL_law_2124 : decode cL_law 2124 = .ok (.iload 4, 2) := by decide +kernel
theorem dL_law_2126 : decode cL_law 2126 = .ok (.iconst 1, 1) := by decide +kernel
theorem dL_law_2127 : decode cL_law 2127 = .ok (.iadd, 1) := by decide +kernel
theorem dL_law_2128 : decode cL_law 2128 = .ok (.iaload, 1) := by decide +kernel
theorem dL_law_2129 : decode cL_law 2129 = .ok (.aload_n 0, 1) := by decide +kernel
theorem dL_law_2130 : decode cL_law 2130 = .ok (.iload 4, 2) := by decide +kernel
theorem dL_law_2132 : decode cL_law 2132 = .ok (.iconst 2, 1) := by decide +kernel
theorem dL_law_2133 : decode cL_law 2133 = .ok (.iadd, 1) := by decide +kernel
theorem dL_law_2134 : decode cL_law 2134 = .ok (.iaload, 1) := by decide +kernel
theorem dL_law_2135 : decode cL_law 2135 = .ok (.invokevirtual 271, 3) := by decide +kernel
theorem dL_law_2138 : decode cL_law 2138 = .ok (.istore 6, 2) := by decide +kernel
theorem dL_law_2140 : decode cL_law 2140 = .ok (.aload_n 2, 1) := by decide +kernel
theorem dL_law_2141 : decode cL_law 2141 = .ok (.invokevirtual 144, 3) := by decide +kernel
theorem dL_law_2144 : decode cL_law 2144 = .ok (.iload 5, 2) := by decide +kernel
theorem dL_law_2146 : decode cL_law 2146 = .ok (.if_icmp .eq 5, 3) := by decide +kernel
theorem dL_law_2151 : decode cL_law 2151 = .ok (.iload 5, 2) := by decide +kernel
theorem dL_law_2153 : decode cL_law 2153 = .ok (.ifCond .ne 15, 3) := by decide +kernel
theorem dL_law_2168 : decode cL_law 2168 = .ok (.goto 143, 3) := by decide +kernel
theorem dL_law_2171 : decode cL_law 2171 = .ok (.aload_n 1, 1) := by decide +kernel
theorem dL_law_2172 : decode cL_law 2172 = .ok (.invokevirtual 272, 3) := by decide +kernel
theorem dL_law_2175 : decode cL_law 2175 = .ok (.aload_n 2, 1) := by decide +kernel
theorem dL_law_2176 : decode cL_law 2176 = .ok (.invokevirtual 275, 3) := by decide +kernel
theorem dL_law_2179 : decode cL_law 2179 = .ok (.if_icmp .eq 132, 3) := by decide +kernel
theorem dL_law_2184 : decode cL_law 2184 = .ok (.aload_n 1, 1) := by decide +kernel
theorem dL_law_2185 : decode cL_law 2185 = .ok (.aload_n 0, 1) := by decide +kernel
theorem dL_law_2186 : decode cL_law 2186 = .ok (.iload 4, 2) := by decide +kernel
theorem dL_law_2188 : decode cL_law 2188 = .ok (.iconst 1, 1) := by decide +kernel
theorem dL_law_2189 : decode cL_law 2189 = .ok (.iadd, 1) := by decide +kernel
theorem dL_law_2190 : decode cL_law 2190 = .ok (.iaload, 1) := by decide +kernel
theorem dL_law_2191 : decode cL_law 2191 = .ok (.aload_n 3, 1) := by decide +kernel
theorem dL_law_2192 : decode cL_law 2192 = .ok (.invokestatic 276, 3) := by decide +kernel
theorem dL_law_2195 : decode cL_law 2195 = .ok (.istore 5, 2) := by decide +kernel
theorem dL_law_2197 : decode cL_law 2197 = .ok (.aload_n 2, 1) := by decide +kernel
theorem dL_law_2198 : decode cL_law 2198 = .ok (.aload_n 0, 1) := by decide +kernel
theorem dL_law_2199 : decode cL_law 2199 = .ok (.iload 4, 2) := by decide +kernel
theorem dL_law_2201 : decode cL_law 2201 = .ok (.iconst 1, 1) := by decide +kernel
theorem dL_law_2202 : decode cL_law 2202 = .ok (.iadd, 1) := by decide +kernel
theorem dL_law_2203 : decode cL_law 2203 = .ok (.iaload, 1) := by decide +kernel
theorem dL_law_2204 : decode cL_law 2204 = .ok (.invokevirtual 278, 3) := by decide +kernel
theorem dL_law_2207 : decode cL_law 2207 = .ok (.istore 6, 2) := by decide +kernel
theorem dL_law_2209 : decode cL_law 2209 = .ok (.aload_n 2, 1) := by decide +kernel
theorem dL_law_2210 : decode cL_law 2210 = .ok (.invokevirtual 144, 3) := by decide +kernel
theorem dL_law_2213 : decode cL_law 2213 = .ok (.iload 5, 2) := by decide +kernel
theorem dL_law_2215 : decode cL_law 2215 = .ok (.if_icmp .eq 5, 3) := by decide +kernel
theorem dL_law_2220 : decode cL_law 2220 = .ok (.iload 5, 2) := by decide +kernel
theorem dL_law_2222 : decode cL_law 2222 = .ok (.ifCond .ne 15, 3) := by decide +kernel
theorem dL_law_2237 : decode cL_law 2237 = .ok (.goto 74, 3) := by decide +kernel
theorem dL_law_2240 : decode cL_law 2240 = .ok (.aload_n 1, 1) := by decide +kernel
theorem dL_law_2241 : decode cL_law 2241 = .ok (.aload_n 3, 1) := by decide +kernel
theorem dL_law_2242 : decode cL_law 2242 = .ok (.invokestatic 279, 3) := by decide +kernel
theorem dL_law_2245 : decode cL_law 2245 = .ok (.istore 5, 2) := by decide +kernel
theorem dL_law_2247 : decode cL_law 2247 = .ok (.aload_n 2, 1) := by decide +kernel
theorem dL_law_2248 : decode cL_law 2248 = .ok (.invokevirtual 281, 3) := by decide +kernel
theorem dL_law_2251 : decode cL_law 2251 = .ok (.istore 6, 2) := by decide +kernel
theorem dL_law_2253 : decode cL_law 2253 = .ok (.aload_n 2, 1) := by decide +kernel
theorem dL_law_2254 : decode cL_law 2254 = .ok (.invokevirtual 144, 3) := by decide +kernel
theorem dL_law_2257 : decode cL_law 2257 = .ok (.iload 5, 2) := by decide +kernel
theorem dL_law_2259 : decode cL_law 2259 = .ok (.if_icmp .eq 5, 3) := by decide +kernel
theorem dL_law_2264 : decode cL_law 2264 = .ok (.iload 5, 2) := by decide +kernel
theorem dL_law_2266 : decode cL_law 2266 = .ok (.ifCond .ne 15, 3) := by decide +kernel
theorem dL_law_2281 : decode cL_law 2281 = .ok (.goto 30, 3) := by decide +kernel
theorem dL_law_2284 : decode cL_law 2284 = .ok (.aload_n 1, 1) := by decide +kernel
theorem dL_law_2285 : decode cL_law 2285 = .ok (.invokevirtual 282, 3) := by decide +kernel
theorem dL_law_2288 : decode cL_law 2288 = .ok (.aload_n 2, 1) := by decide +kernel
theorem dL_law_2289 : decode cL_law 2289 = .ok (.invokevirtual 286, 3) := by decide +kernel
theorem dL_law_2292 : decode cL_law 2292 = .ok (.lcmp, 1) := by decide +kernel
theorem dL_law_2293 : decode cL_law 2293 = .ok (.ifCond .eq 18, 3) := by decide +kernel
theorem dL_law_2298 : decode cL_law 2298 = .ok (.aload_n 1, 1) := by decide +kernel
theorem dL_law_2299 : decode cL_law 2299 = .ok (.invokevirtual 287, 3) := by decide +kernel
theorem dL_law_2302 : decode cL_law 2302 = .ok (.aload_n 2, 1) := by decide +kernel
theorem dL_law_2303 : decode cL_law 2303 = .ok (.invokevirtual 291, 3) := by decide +kernel
theorem dL_law_2306 : decode cL_law 2306 = .ok (.if_icmp .eq 5, 3) := by decide +kernel
theorem dL_law_2309 : decode cL_law 2309 = .ok (.iconst 0, 1) := by decide +kernel
theorem dL_law_2310 : decode cL_law 2310 = .ok (.ireturn, 1) := by decide +kernel
theorem dL_law_2311 : decode cL_law 2311 = .ok (.iinc 4 4, 3) := by decide +kernel
theorem dL_law_2314 : decode cL_law 2314 = .ok (.goto (-2291), 3) := by decide +kernel
theorem dL_law_2317 : decode cL_law 2317 = .ok (.iconst 1, 1) := by decide +kernel
theorem dL_law_2318 : decode cL_law 2318 = .ok (.ireturn, 1) := by decide +kernel
