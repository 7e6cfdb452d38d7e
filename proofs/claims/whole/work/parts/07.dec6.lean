theorem dX6_init_0 : decode cX6_init 0 = .ok (.aload_n 0, 1) := by decide +kernel
theorem dX6_init_1 : decode cX6_init 1 = .ok (.invokespecial 1, 3) := by decide +kernel
theorem dX6_init_4 : decode cX6_init 4 = .ok (.aload_n 0, 1) := by decide +kernel
theorem dX6_init_5 : decode cX6_init 5 = .ok (.sipush 3463, 3) := by decide +kernel
theorem dX6_init_8 : decode cX6_init 8 = .ok (.newarray .int, 2) := by decide +kernel
theorem dX6_init_10 : decode cX6_init 10 = .ok (.putfield 7, 3) := by decide +kernel
theorem dX6_init_13 : decode cX6_init 13 = .ok (.aload_n 0, 1) := by decide +kernel
theorem dX6_init_14 : decode cX6_init 14 = .ok (.sipush 13852, 3) := by decide +kernel
theorem dX6_init_17 : decode cX6_init 17 = .ok (.newarray .int, 2) := by decide +kernel
theorem dX6_init_19 : decode cX6_init 19 = .ok (.putfield 13, 3) := by decide +kernel
theorem dX6_init_22 : decode cX6_init 22 = .ok (.aload_n 0, 1) := by decide +kernel
theorem dX6_init_23 : decode cX6_init 23 = .ok (.iconst 0, 1) := by decide +kernel
theorem dX6_init_24 : decode cX6_init 24 = .ok (.putfield 16, 3) := by decide +kernel
theorem dX6_init_27 : decode cX6_init 27 = .ok (.return_, 1) := by decide +kernel
theorem dX6_thrown_0 : decode cX6_thrown 0 = .ok (.aload_n 0, 1) := by decide +kernel
theorem dX6_thrown_1 : decode cX6_thrown 1 = .ok (.getfield 20, 3) := by decide +kernel
theorem dX6_thrown_4 : decode cX6_thrown 4 = .ok (.ireturn, 1) := by decide +kernel
theorem dX6_in_0 : decode cX6_in 0 = .ok (.iload_n 0, 1) := by decide +kernel
theorem dX6_in_1 : decode cX6_in 1 = .ok (.iload_n 1, 1) := by decide +kernel
theorem dX6_in_2 : decode cX6_in 2 = .ok (.if_icmp .lt 12, 3) := by decide +kernel
theorem dX6_in_5 : decode cX6_in 5 = .ok (.iload_n 0, 1) := by decide +kernel
theorem dX6_in_6 : decode cX6_in 6 = .ok (.iload_n 2, 1) := by decide +kernel
theorem dX6_in_7 : decode cX6_in 7 = .ok (.if_icmp .gt 7, 3) := by decide +kernel
theorem dX6_in_10 : decode cX6_in 10 = .ok (.iconst 1, 1) := by decide +kernel
theorem dX6_in_11 : decode cX6_in 11 = .ok (.goto 4, 3) := by decide +kernel
theorem dX6_in_14 : decode cX6_in 14 = .ok (.iconst 0, 1) := by decide +kernel
theorem dX6_in_15 : decode cX6_in 15 = .ok (.ireturn, 1) := by decide +kernel
theorem dX6_has_0 : decode cX6_has 0 = .ok (.iload_n 0, 1) := by decide +kernel
theorem dX6_has_1 : decode cX6_has 1 = .ok (.iload_n 1, 1) := by decide +kernel
theorem dX6_has_2 : decode cX6_has 2 = .ok (.ishr, 1) := by decide +kernel
theorem dX6_has_3 : decode cX6_has 3 = .ok (.iconst 1, 1) := by decide +kernel
theorem dX6_has_4 : decode cX6_has 4 = .ok (.iand, 1) := by decide +kernel
theorem dX6_has_5 : decode cX6_has 5 = .ok (.iconst 1, 1) := by decide +kernel
theorem dX6_has_6 : decode cX6_has 6 = .ok (.if_icmp .ne 7, 3) := by decide +kernel
theorem dX6_has_9 : decode cX6_has 9 = .ok (.iconst 1, 1) := by decide +kernel
theorem dX6_has_10 : decode cX6_has 10 = .ok (.goto 4, 3) := by decide +kernel
theorem dX6_has_13 : decode cX6_has 13 = .ok (.iconst 0, 1) := by decide +kernel
theorem dX6_has_14 : decode cX6_has 14 = .ok (.ireturn, 1) := by decide +kernel
theorem dX6_count_0 : decode cX6_count 0 = .ok (.iconst 0, 1) := by decide +kernel
theorem dX6_count_1 : decode cX6_count 1 = .ok (.istore_n 1, 1) := by decide +kernel
theorem dX6_count_2 : decode cX6_count 2 = .ok (.iconst 0, 1) := by decide +kernel
theorem dX6_count_3 : decode cX6_count 3 = .ok (.istore_n 2, 1) := by decide +kernel
theorem dX6_count_4 : decode cX6_count 4 = .ok (.iload_n 2, 1) := by decide +kernel
theorem dX6_count_5 : decode cX6_count 5 = .ok (.bipush 8, 2) := by decide +kernel
theorem dX6_count_7 : decode cX6_count 7 = .ok (.if_icmp .ge 17, 3) := by decide +kernel
theorem dX6_count_10 : decode cX6_count 10 = .ok (.iload_n 1, 1) := by decide +kernel
theorem dX6_count_11 : decode cX6_count 11 = .ok (.iload_n 0, 1) := by decide +kernel
theorem dX6_count_12 : decode cX6_count 12 = .ok (.iload_n 2, 1) := by decide +kernel
theorem dX6_count_13 : decode cX6_count 13 = .ok (.ishr, 1) := by decide +kernel
theorem dX6_count_14 : decode cX6_count 14 = .ok (.iconst 1, 1) := by decide +kernel
theorem dX6_count_15 : decode cX6_count 15 = .ok (.iand, 1) := by decide +kernel
theorem dX6_count_16 : decode cX6_count 16 = .ok (.iadd, 1) := by decide +kernel
theorem dX6_count_17 : decode cX6_count 17 = .ok (.istore_n 1, 1) := by decide +kernel
theorem dX6_count_18 : decode cX6_count 18 = .ok (.iinc 2 1, 3) := by decide +kernel
theorem dX6_count_21 : decode cX6_count 21 = .ok (.goto (-17), 3) := by decide +kernel
theorem dX6_count_24 : decode cX6_count 24 = .ok (.iload_n 1, 1) := by decide +kernel
theorem dX6_count_25 : decode cX6_count 25 = .ok (.ireturn, 1) := by decide +kernel
theorem dX6_isFine_0 : decode cX6_isFine 0 = .ok (.aload_n 0, 1) := by decide +kernel
theorem dX6_isFine_1 : decode cX6_isFine 1 = .ok (.iload_n 1, 1) := by decide +kernel
theorem dX6_isFine_2 : decode cX6_isFine 2 = .ok (.ifCond .ne 7, 3) := by decide +kernel
theorem dX6_isFine_5 : decode cX6_isFine 5 = .ok (.iconst 1, 1) := by decide +kernel
theorem dX6_isFine_6 : decode cX6_isFine 6 = .ok (.goto 12, 3) := by decide +kernel
theorem dX6_isFine_9 : decode cX6_isFine 9 = .ok (.iload_n 2, 1) := by decide +kernel
theorem dX6_isFine_10 : decode cX6_isFine 10 = .ok (.ifCond .ne 7, 3) := by decide +kernel
theorem dX6_isFine_13 : decode cX6_isFine 13 = .ok (.iconst 2, 1) := by decide +kernel
theorem dX6_isFine_14 : decode cX6_isFine 14 = .ok (.goto 4, 3) := by decide +kernel
theorem dX6_isFine_17 : decode cX6_isFine 17 = .ok (.iconst 0, 1) := by decide +kernel
theorem dX6_isFine_18 : decode cX6_isFine 18 = .ok (.putfield 20, 3) := by decide +kernel
theorem dX6_isFine_21 : decode cX6_isFine 21 = .ok (.aload_n 0, 1) := by decide +kernel
theorem dX6_isFine_22 : decode cX6_isFine 22 = .ok (.getfield 20, 3) := by decide +kernel
theorem dX6_isFine_25 : decode cX6_isFine 25 = .ok (.ifCond .ne 7, 3) := by decide +kernel
theorem dX6_isFine_28 : decode cX6_isFine 28 = .ok (.iconst 1, 1) := by decide +kernel
theorem dX6_isFine_29 : decode cX6_isFine 29 = .ok (.goto 4, 3) := by decide +kernel
theorem dX6_isFine_32 : decode cX6_isFine 32 = .ok (.iconst 0, 1) := by decide +kernel
theorem dX6_isFine_33 : decode cX6_isFine 33 = .ok (.ireturn, 1) := by decide +kernel
theorem dX6_note_0 : decode cX6_note 0 = .ok (.aload_n 0, 1) := by decide +kernel
theorem dX6_note_1 : decode cX6_note 1 = .ok (.getfield 16, 3) := by decide +kernel
theorem dX6_note_4 : decode cX6_note 4 = .ok (.iconst 4, 1) := by decide +kernel
theorem dX6_note_5 : decode cX6_note 5 = .ok (.if_icmp .ne 44, 3) := by decide +kernel
theorem dX6_note_8 : decode cX6_note 8 = .ok (.iconst 0, 1) := by decide +kernel
theorem dX6_note_9 : decode cX6_note 9 = .ok (.istore_n 1, 1) := by decide +kernel
theorem dX6_note_10 : decode cX6_note 10 = .ok (.iload_n 1, 1) := by decide +kernel
theorem dX6_note_11 : decode cX6_note 11 = .ok (.sipush 10389, 3) := by decide +kernel
theorem dX6_note_14 : decode cX6_note 14 = .ok (.if_icmp .ge 25, 3) := by decide +kernel
theorem dX6_note_17 : decode cX6_note 17 = .ok (.aload_n 0, 1) := by decide +kernel
theorem dX6_note_18 : decode cX6_note 18 = .ok (.getfield 13, 3) := by decide +kernel
theorem dX6_note_21 : decode cX6_note 21 = .ok (.iload_n 1, 1) := by decide +kernel
theorem dX6_note_22 : decode cX6_note 22 = .ok (.aload_n 0, 1) := by decide +kernel
theorem dX6_note_23 : decode cX6_note 23 = .ok (.getfield 13, 3) := by decide +kernel
theorem dX6_note_26 : decode cX6_note 26 = .ok (.iload_n 1, 1) := by decide +kernel
theorem dX6_note_27 : decode cX6_note 27 = .ok (.sipush 3463, 3) := by decide +kernel
theorem dX6_note_30 : decode cX6_note 30 = .ok (.iadd, 1) := by decide +kernel
theorem dX6_note_31 : decode cX6_note 31 = .ok (.iaload, 1) := by decide +kernel
theorem dX6_note_32 : decode cX6_note 32 = .ok (.iastore, 1) := by decide +kernel
theorem dX6_note_33 : decode cX6_note 33 = .ok (.iinc 1 1, 3) := by decide +kernel
theorem dX6_note_36 : decode cX6_note 36 = .ok (.goto (-26), 3) := by decide +kernel
theorem dX6_note_39 : decode cX6_note 39 = .ok (.aload_n 0, 1) := by decide +kernel
theorem dX6_note_40 : decode cX6_note 40 = .ok (.dup, 1) := by decide +kernel
theorem dX6_note_41 : decode cX6_note 41 = .ok (.getfield 16, 3) := by decide +kernel
theorem dX6_note_44 : decode cX6_note 44 = .ok (.iconst 1, 1) := by decide +kernel
theorem dX6_note_45 : decode cX6_note 45 = .ok (.isub, 1) := by decide +kernel
theorem dX6_note_46 : decode cX6_note 46 = .ok (.putfield 16, 3) := by decide +kernel
theorem dX6_note_49 : decode cX6_note 49 = .ok (.iconst 0, 1) := by decide +kernel
theorem dX6_note_50 : decode cX6_note 50 = .ok (.istore_n 1, 1) := by decide +kernel
theorem dX6_note_51 : decode cX6_note 51 = .ok (.iload_n 1, 1) := by decide +kernel
theorem dX6_note_52 : decode cX6_note 52 = .ok (.sipush 3463, 3) := by decide +kernel
theorem dX6_note_55 : decode cX6_note 55 = .ok (.if_icmp .ge 30, 3) := by decide +kernel
theorem dX6_note_58 : decode cX6_note 58 = .ok (.aload_n 0, 1) := by decide +kernel
theorem dX6_note_59 : decode cX6_note 59 = .ok (.getfield 13, 3) := by decide +kernel
theorem dX6_note_62 : decode cX6_note 62 = .ok (.sipush 3463, 3) := by decide +kernel
theorem dX6_note_65 : decode cX6_note 65 = .ok (.aload_n 0, 1) := by decide +kernel
theorem dX6_note_66 : decode cX6_note 66 = .ok (.getfield 16, 3) := by decide +kernel
theorem dX6_note_69 : decode cX6_note 69 = .ok (.imul, 1) := by decide +kernel
theorem dX6_note_70 : decode cX6_note 70 = .ok (.iload_n 1, 1) := by decide +kernel
theorem dX6_note_71 : decode cX6_note 71 = .ok (.iadd, 1) := by decide +kernel
theorem dX6_note_72 : decode cX6_note 72 = .ok (.aload_n 0, 1) := by decide +kernel
theorem dX6_note_73 : decode cX6_note 73 = .ok (.getfield 7, 3) := by decide +kernel
theorem dX6_note_76 : decode cX6_note 76 = .ok (.iload_n 1, 1) := by decide +kernel
theorem dX6_note_77 : decode cX6_note 77 = .ok (.iaload, 1) := by decide +kernel
theorem dX6_note_78 : decode cX6_note 78 = .ok (.iastore, 1) := by decide +kernel
theorem dX6_note_79 : decode cX6_note 79 = .ok (.iinc 1 1, 3) := by decide +kernel
theorem dX6_note_82 : decode cX6_note 82 = .ok (.goto (-31), 3) := by decide +kernel
theorem dX6_note_85 : decode cX6_note 85 = .ok (.aload_n 0, 1) := by decide +kernel
theorem dX6_note_86 : decode cX6_note 86 = .ok (.dup, 1) := by decide +kernel
theorem dX6_note_87 : decode cX6_note 87 = .ok (.getfield 16, 3) := by decide +kernel
theorem dX6_note_90 : decode cX6_note 90 = .ok (.iconst 1, 1) := by decide +kernel
theorem dX6_note_91 : decode cX6_note 91 = .ok (.iadd, 1) := by decide +kernel
theorem dX6_note_92 : decode cX6_note 92 = .ok (.putfield 16, 3) := by decide +kernel
theorem dX6_note_95 : decode cX6_note 95 = .ok (.return_, 1) := by decide +kernel
theorem dX6_isNode_0 : decode cX6_isNode 0 = .ok (.iload_n 1, 1) := by decide +kernel
theorem dX6_isNode_1 : decode cX6_isNode 1 = .ok (.iconst 0, 1) := by decide +kernel
theorem dX6_isNode_2 : decode cX6_isNode 2 = .ok (.aload_n 0, 1) := by decide +kernel
theorem dX6_isNode_3 : decode cX6_isNode 3 = .ok (.getfield 7, 3) := by decide +kernel
theorem dX6_isNode_6 : decode cX6_isNode 6 = .ok (.iconst 0, 1) := by decide +kernel
theorem dX6_isNode_7 : decode cX6_isNode 7 = .ok (.iaload, 1) := by decide +kernel
theorem dX6_isNode_8 : decode cX6_isNode 8 = .ok (.iconst 1, 1) := by decide +kernel
theorem dX6_isNode_9 : decode cX6_isNode 9 = .ok (.isub, 1) := by decide +kernel
theorem dX6_isNode_10 : decode cX6_isNode 10 = .ok (.invokestatic 23, 3) := by decide +kernel
theorem dX6_isNode_13 : decode cX6_isNode 13 = .ok (.ireturn, 1) := by decide +kernel
theorem dX6_isLedger_0 : decode cX6_isLedger 0 = .ok (.iload_n 1, 1) := by decide +kernel
theorem dX6_isLedger_1 : decode cX6_isLedger 1 = .ok (.iconst 0, 1) := by decide +kernel
theorem dX6_isLedger_2 : decode cX6_isLedger 2 = .ok (.aload_n 0, 1) := by decide +kernel
theorem dX6_isLedger_3 : decode cX6_isLedger 3 = .ok (.getfield 7, 3) := by decide +kernel
theorem dX6_isLedger_6 : decode cX6_isLedger 6 = .ok (.iconst 1, 1) := by decide +kernel
theorem dX6_isLedger_7 : decode cX6_isLedger 7 = .ok (.iaload, 1) := by decide +kernel
theorem dX6_isLedger_8 : decode cX6_isLedger 8 = .ok (.iconst 1, 1) := by decide +kernel
theorem dX6_isLedger_9 : decode cX6_isLedger 9 = .ok (.isub, 1) := by decide +kernel
theorem dX6_isLedger_10 : decode cX6_isLedger 10 = .ok (.invokestatic 23, 3) := by decide +kernel
theorem dX6_isLedger_13 : decode cX6_isLedger 13 = .ok (.ireturn, 1) := by decide +kernel
theorem dX6_isUp_0 : decode cX6_isUp 0 = .ok (.aload_n 0, 1) := by decide +kernel
theorem dX6_isUp_1 : decode cX6_isUp 1 = .ok (.getfield 7, 3) := by decide +kernel
theorem dX6_isUp_4 : decode cX6_isUp 4 = .ok (.iconst 3, 1) := by decide +kernel
theorem dX6_isUp_5 : decode cX6_isUp 5 = .ok (.iload_n 1, 1) := by decide +kernel
theorem dX6_isUp_6 : decode cX6_isUp 6 = .ok (.iadd, 1) := by decide +kernel
theorem dX6_isUp_7 : decode cX6_isUp 7 = .ok (.iaload, 1) := by decide +kernel
theorem dX6_isUp_8 : decode cX6_isUp 8 = .ok (.iconst 1, 1) := by decide +kernel
theorem dX6_isUp_9 : decode cX6_isUp 9 = .ok (.if_icmp .ne 7, 3) := by decide +kernel
theorem dX6_isUp_12 : decode cX6_isUp 12 = .ok (.iconst 1, 1) := by decide +kernel
theorem dX6_isUp_13 : decode cX6_isUp 13 = .ok (.goto 4, 3) := by decide +kernel
theorem dX6_isUp_16 : decode cX6_isUp 16 = .ok (.iconst 0, 1) := by decide +kernel
theorem dX6_isUp_17 : decode cX6_isUp 17 = .ok (.ireturn, 1) := by decide +kernel
theorem dX6_of_0 : decode cX6_of 0 = .ok (.aload_n 0, 1) := by decide +kernel
theorem dX6_of_1 : decode cX6_of 1 = .ok (.getfield 7, 3) := by decide +kernel
theorem dX6_of_4 : decode cX6_of 4 = .ok (.sipush 2131, 3) := by decide +kernel
theorem dX6_of_7 : decode cX6_of 7 = .ok (.sipush 333, 3) := by decide +kernel
theorem dX6_of_10 : decode cX6_of 10 = .ok (.iload_n 1, 1) := by decide +kernel
theorem dX6_of_11 : decode cX6_of 11 = .ok (.imul, 1) := by decide +kernel
theorem dX6_of_12 : decode cX6_of 12 = .ok (.iadd, 1) := by decide +kernel
theorem dX6_of_13 : decode cX6_of 13 = .ok (.iload_n 2, 1) := by decide +kernel
theorem dX6_of_14 : decode cX6_of 14 = .ok (.iadd, 1) := by decide +kernel
theorem dX6_of_15 : decode cX6_of 15 = .ok (.iaload, 1) := by decide +kernel
theorem dX6_of_16 : decode cX6_of 16 = .ok (.ireturn, 1) := by decide +kernel
theorem dX6_set_0 : decode cX6_set 0 = .ok (.aload_n 0, 1) := by decide +kernel
theorem dX6_set_1 : decode cX6_set 1 = .ok (.getfield 7, 3) := by decide +kernel
theorem dX6_set_4 : decode cX6_set 4 = .ok (.sipush 2131, 3) := by decide +kernel
theorem dX6_set_7 : decode cX6_set 7 = .ok (.sipush 333, 3) := by decide +kernel
theorem dX6_set_10 : decode cX6_set 10 = .ok (.iload_n 1, 1) := by decide +kernel
theorem dX6_set_11 : decode cX6_set 11 = .ok (.imul, 1) := by decide +kernel
theorem dX6_set_12 : decode cX6_set 12 = .ok (.iadd, 1) := by decide +kernel
theorem dX6_set_13 : decode cX6_set 13 = .ok (.iload_n 2, 1) := by decide +kernel
theorem dX6_set_14 : decode cX6_set 14 = .ok (.iadd, 1) := by decide +kernel
theorem dX6_set_15 : decode cX6_set 15 = .ok (.iload_n 3, 1) := by decide +kernel
theorem dX6_set_16 : decode cX6_set 16 = .ok (.iastore, 1) := by decide +kernel
theorem dX6_set_17 : decode cX6_set 17 = .ok (.return_, 1) := by decide +kernel
theorem dX6_storedAt_0 : decode cX6_storedAt 0 = .ok (.sipush 819, 3) := by decide +kernel
theorem dX6_storedAt_3 : decode cX6_storedAt 3 = .ok (.sipush 160, 3) := by decide +kernel
theorem dX6_storedAt_6 : decode cX6_storedAt 6 = .ok (.iload_n 0, 1) := by decide +kernel
theorem dX6_storedAt_7 : decode cX6_storedAt 7 = .ok (.imul, 1) := by decide +kernel
theorem dX6_storedAt_8 : decode cX6_storedAt 8 = .ok (.iadd, 1) := by decide +kernel
theorem dX6_storedAt_9 : decode cX6_storedAt 9 = .ok (.bipush 40, 2) := by decide +kernel
theorem dX6_storedAt_11 : decode cX6_storedAt 11 = .ok (.iload_n 1, 1) := by decide +kernel
theorem dX6_storedAt_12 : decode cX6_storedAt 12 = .ok (.imul, 1) := by decide +kernel
theorem dX6_storedAt_13 : decode cX6_storedAt 13 = .ok (.iadd, 1) := by decide +kernel
theorem dX6_storedAt_14 : decode cX6_storedAt 14 = .ok (.iload_n 2, 1) := by decide +kernel
theorem dX6_storedAt_15 : decode cX6_storedAt 15 = .ok (.iadd, 1) := by decide +kernel
theorem dX6_storedAt_16 : decode cX6_storedAt 16 = .ok (.ireturn, 1) := by decide +kernel
theorem dX6_stores_0 : decode cX6_stores 0 = .ok (.aload_n 0, 1) := by decide +kernel
theorem dX6_stores_1 : decode cX6_stores 1 = .ok (.getfield 7, 3) := by decide +kernel
theorem dX6_stores_4 : decode cX6_stores 4 = .ok (.iload_n 1, 1) := by decide +kernel
theorem dX6_stores_5 : decode cX6_stores 5 = .ok (.iload_n 2, 1) := by decide +kernel
theorem dX6_stores_6 : decode cX6_stores 6 = .ok (.iload_n 3, 1) := by decide +kernel
theorem dX6_stores_7 : decode cX6_stores 7 = .ok (.invokestatic 27, 3) := by decide +kernel
theorem dX6_stores_10 : decode cX6_stores 10 = .ok (.iaload, 1) := by decide +kernel
theorem dX6_stores_11 : decode cX6_stores 11 = .ok (.ifCond .eq 7, 3) := by decide +kernel
theorem dX6_stores_14 : decode cX6_stores 14 = .ok (.iconst 1, 1) := by decide +kernel
theorem dX6_stores_15 : decode cX6_stores 15 = .ok (.goto 4, 3) := by decide +kernel
theorem dX6_stores_18 : decode cX6_stores 18 = .ok (.iconst 0, 1) := by decide +kernel
theorem dX6_stores_19 : decode cX6_stores 19 = .ok (.ireturn, 1) := by decide +kernel
theorem dX6_store_0 : decode cX6_store 0 = .ok (.aload_n 0, 1) := by decide +kernel
theorem dX6_store_1 : decode cX6_store 1 = .ok (.getfield 7, 3) := by decide +kernel
theorem dX6_store_4 : decode cX6_store 4 = .ok (.iload_n 1, 1) := by decide +kernel
theorem dX6_store_5 : decode cX6_store 5 = .ok (.iload_n 2, 1) := by decide +kernel
theorem dX6_store_6 : decode cX6_store 6 = .ok (.iload_n 3, 1) := by decide +kernel
theorem dX6_store_7 : decode cX6_store 7 = .ok (.invokestatic 27, 3) := by decide +kernel
theorem dX6_store_10 : decode cX6_store 10 = .ok (.bipush 64, 2) := by decide +kernel
theorem dX6_store_12 : decode cX6_store 12 = .ok (.iload 4, 2) := by decide +kernel
theorem dX6_store_14 : decode cX6_store 14 = .ok (.iconst 1, 1) := by decide +kernel
theorem dX6_store_15 : decode cX6_store 15 = .ok (.iadd, 1) := by decide +kernel
theorem dX6_store_16 : decode cX6_store 16 = .ok (.imul, 1) := by decide +kernel
theorem dX6_store_17 : decode cX6_store 17 = .ok (.iload 5, 2) := by decide +kernel
theorem dX6_store_19 : decode cX6_store 19 = .ok (.iadd, 1) := by decide +kernel
theorem dX6_store_20 : decode cX6_store 20 = .ok (.iconst 1, 1) := by decide +kernel
theorem dX6_store_21 : decode cX6_store 21 = .ok (.iadd, 1) := by decide +kernel
theorem dX6_store_22 : decode cX6_store 22 = .ok (.iastore, 1) := by decide +kernel
theorem dX6_store_23 : decode cX6_store 23 = .ok (.return_, 1) := by decide +kernel
theorem dX6_payloadAt_0 : decode cX6_payloadAt 0 = .ok (.aload_n 0, 1) := by decide +kernel
theorem dX6_payloadAt_1 : decode cX6_payloadAt 1 = .ok (.getfield 7, 3) := by decide +kernel
theorem dX6_payloadAt_4 : decode cX6_payloadAt 4 = .ok (.iload_n 1, 1) := by decide +kernel
theorem dX6_payloadAt_5 : decode cX6_payloadAt 5 = .ok (.iload_n 2, 1) := by decide +kernel
theorem dX6_payloadAt_6 : decode cX6_payloadAt 6 = .ok (.iload_n 3, 1) := by decide +kernel
theorem dX6_payloadAt_7 : decode cX6_payloadAt 7 = .ok (.invokestatic 27, 3) := by decide +kernel
theorem dX6_payloadAt_10 : decode cX6_payloadAt 10 = .ok (.iaload, 1) := by decide +kernel
theorem dX6_payloadAt_11 : decode cX6_payloadAt 11 = .ok (.bipush 64, 2) := by decide +kernel
theorem dX6_payloadAt_13 : decode cX6_payloadAt 13 = .ok (.idiv, 1) := by decide +kernel
theorem dX6_payloadAt_14 : decode cX6_payloadAt 14 = .ok (.iconst 1, 1) := by decide +kernel
theorem dX6_payloadAt_15 : decode cX6_payloadAt 15 = .ok (.isub, 1) := by decide +kernel
theorem dX6_payloadAt_16 : decode cX6_payloadAt 16 = .ok (.ireturn, 1) := by decide +kernel
theorem dX6_confirmedAt_0 : decode cX6_confirmedAt 0 = .ok (.aload_n 0, 1) := by decide +kernel
theorem dX6_confirmedAt_1 : decode cX6_confirmedAt 1 = .ok (.getfield 7, 3) := by decide +kernel
theorem dX6_confirmedAt_4 : decode cX6_confirmedAt 4 = .ok (.iload_n 1, 1) := by decide +kernel
theorem dX6_confirmedAt_5 : decode cX6_confirmedAt 5 = .ok (.iload_n 2, 1) := by decide +kernel
theorem dX6_confirmedAt_6 : decode cX6_confirmedAt 6 = .ok (.iload_n 3, 1) := by decide +kernel
theorem dX6_confirmedAt_7 : decode cX6_confirmedAt 7 = .ok (.invokestatic 27, 3) := by decide +kernel
theorem dX6_confirmedAt_10 : decode cX6_confirmedAt 10 = .ok (.iaload, 1) := by decide +kernel
theorem dX6_confirmedAt_11 : decode cX6_confirmedAt 11 = .ok (.bipush 64, 2) := by decide +kernel
theorem dX6_confirmedAt_13 : decode cX6_confirmedAt 13 = .ok (.irem, 1) := by decide +kernel
theorem dX6_confirmedAt_14 : decode cX6_confirmedAt 14 = .ok (.iconst 1, 1) := by decide +kernel
theorem dX6_confirmedAt_15 : decode cX6_confirmedAt 15 = .ok (.isub, 1) := by decide +kernel
theorem dX6_confirmedAt_16 : decode cX6_confirmedAt 16 = .ok (.ireturn, 1) := by decide +kernel
theorem dX6_weightOf_0 : decode cX6_weightOf 0 = .ok (.iconst 0, 1) := by decide +kernel
theorem dX6_weightOf_1 : decode cX6_weightOf 1 = .ok (.istore_n 2, 1) := by decide +kernel
theorem dX6_weightOf_2 : decode cX6_weightOf 2 = .ok (.iconst 0, 1) := by decide +kernel
theorem dX6_weightOf_3 : decode cX6_weightOf 3 = .ok (.istore_n 3, 1) := by decide +kernel
theorem dX6_weightOf_4 : decode cX6_weightOf 4 = .ok (.iload_n 3, 1) := by decide +kernel
theorem dX6_weightOf_5 : decode cX6_weightOf 5 = .ok (.sipush 160, 3) := by decide +kernel
theorem dX6_weightOf_8 : decode cX6_weightOf 8 = .ok (.if_icmp .ge 36, 3) := by decide +kernel
theorem dX6_weightOf_11 : decode cX6_weightOf 11 = .ok (.iload_n 2, 1) := by decide +kernel
theorem dX6_weightOf_12 : decode cX6_weightOf 12 = .ok (.aload_n 0, 1) := by decide +kernel
theorem dX6_weightOf_13 : decode cX6_weightOf 13 = .ok (.getfield 7, 3) := by decide +kernel
theorem dX6_weightOf_16 : decode cX6_weightOf 16 = .ok (.sipush 819, 3) := by decide +kernel
theorem dX6_weightOf_19 : decode cX6_weightOf 19 = .ok (.sipush 160, 3) := by decide +kernel
theorem dX6_weightOf_22 : decode cX6_weightOf 22 = .ok (.iload_n 1, 1) := by decide +kernel
theorem dX6_weightOf_23 : decode cX6_weightOf 23 = .ok (.imul, 1) := by decide +kernel
theorem dX6_weightOf_24 : decode cX6_weightOf 24 = .ok (.iadd, 1) := by decide +kernel
theorem dX6_weightOf_25 : decode cX6_weightOf 25 = .ok (.iload_n 3, 1) := by decide +kernel
theorem dX6_weightOf_26 : decode cX6_weightOf 26 = .ok (.iadd, 1) := by decide +kernel
theorem dX6_weightOf_27 : decode cX6_weightOf 27 = .ok (.iaload, 1) := by decide +kernel
theorem dX6_weightOf_28 : decode cX6_weightOf 28 = .ok (.ifCond .eq 7, 3) := by decide +kernel
theorem dX6_weightOf_31 : decode cX6_weightOf 31 = .ok (.iconst 1, 1) := by decide +kernel
theorem dX6_weightOf_32 : decode cX6_weightOf 32 = .ok (.goto 4, 3) := by decide +kernel
theorem dX6_weightOf_35 : decode cX6_weightOf 35 = .ok (.iconst 0, 1) := by decide +kernel
theorem dX6_weightOf_36 : decode cX6_weightOf 36 = .ok (.iadd, 1) := by decide +kernel
theorem dX6_weightOf_37 : decode cX6_weightOf 37 = .ok (.istore_n 2, 1) := by decide +kernel
theorem dX6_weightOf_38 : decode cX6_weightOf 38 = .ok (.iinc 3 1, 3) := by decide +kernel
theorem dX6_weightOf_41 : decode cX6_weightOf 41 = .ok (.goto (-37), 3) := by decide +kernel
theorem dX6_weightOf_44 : decode cX6_weightOf 44 = .ok (.iload_n 2, 1) := by decide +kernel
theorem dX6_weightOf_45 : decode cX6_weightOf 45 = .ok (.ireturn, 1) := by decide +kernel
theorem dX6_fragmentOf_0 : decode cX6_fragmentOf 0 = .ok (.iconst 0, 1) := by decide +kernel
theorem dX6_fragmentOf_1 : decode cX6_fragmentOf 1 = .ok (.istore_n 3, 1) := by decide +kernel
theorem dX6_fragmentOf_2 : decode cX6_fragmentOf 2 = .ok (.iload_n 3, 1) := by decide +kernel
theorem dX6_fragmentOf_3 : decode cX6_fragmentOf 3 = .ok (.iconst 1, 1) := by decide +kernel
theorem dX6_fragmentOf_4 : decode cX6_fragmentOf 4 = .ok (.iadd, 1) := by decide +kernel
theorem dX6_fragmentOf_5 : decode cX6_fragmentOf 5 = .ok (.aload_n 0, 1) := by decide +kernel
theorem dX6_fragmentOf_6 : decode cX6_fragmentOf 6 = .ok (.iload_n 1, 1) := by decide +kernel
theorem dX6_fragmentOf_7 : decode cX6_fragmentOf 7 = .ok (.bipush 6, 2) := by decide +kernel
theorem dX6_fragmentOf_9 : decode cX6_fragmentOf 9 = .ok (.invokevirtual 31, 3) := by decide +kernel
theorem dX6_fragmentOf_12 : decode cX6_fragmentOf 12 = .ok (.if_icmp .ge 24, 3) := by decide +kernel
theorem dX6_fragmentOf_15 : decode cX6_fragmentOf 15 = .ok (.aload_n 0, 1) := by decide +kernel
theorem dX6_fragmentOf_16 : decode cX6_fragmentOf 16 = .ok (.iload_n 1, 1) := by decide +kernel
theorem dX6_fragmentOf_17 : decode cX6_fragmentOf 17 = .ok (.bipush 87, 2) := by decide +kernel
theorem dX6_fragmentOf_19 : decode cX6_fragmentOf 19 = .ok (.iload_n 3, 1) := by decide +kernel
theorem dX6_fragmentOf_20 : decode cX6_fragmentOf 20 = .ok (.iadd, 1) := by decide +kernel
theorem dX6_fragmentOf_21 : decode cX6_fragmentOf 21 = .ok (.iconst 1, 1) := by decide +kernel
theorem dX6_fragmentOf_22 : decode cX6_fragmentOf 22 = .ok (.iadd, 1) := by decide +kernel
theorem dX6_fragmentOf_23 : decode cX6_fragmentOf 23 = .ok (.invokevirtual 31, 3) := by decide +kernel
theorem dX6_fragmentOf_26 : decode cX6_fragmentOf 26 = .ok (.iload_n 2, 1) := by decide +kernel
theorem dX6_fragmentOf_27 : decode cX6_fragmentOf 27 = .ok (.if_icmp .gt 9, 3) := by decide +kernel
theorem dX6_fragmentOf_30 : decode cX6_fragmentOf 30 = .ok (.iinc 3 1, 3) := by decide +kernel
theorem dX6_fragmentOf_33 : decode cX6_fragmentOf 33 = .ok (.goto (-31), 3) := by decide +kernel
theorem dX6_fragmentOf_36 : decode cX6_fragmentOf 36 = .ok (.iload_n 3, 1) := by decide +kernel
theorem dX6_fragmentOf_37 : decode cX6_fragmentOf 37 = .ok (.ireturn, 1) := by decide +kernel
theorem dX6_memberOf_0 : decode cX6_memberOf 0 = .ok (.aload_n 0, 1) := by decide +kernel
theorem dX6_memberOf_1 : decode cX6_memberOf 1 = .ok (.iload_n 1, 1) := by decide +kernel
theorem dX6_memberOf_2 : decode cX6_memberOf 2 = .ok (.sipush 128, 3) := by decide +kernel
theorem dX6_memberOf_5 : decode cX6_memberOf 5 = .ok (.iconst 5, 1) := by decide +kernel
theorem dX6_memberOf_6 : decode cX6_memberOf 6 = .ok (.iload_n 2, 1) := by decide +kernel
theorem dX6_memberOf_7 : decode cX6_memberOf 7 = .ok (.imul, 1) := by decide +kernel
theorem dX6_memberOf_8 : decode cX6_memberOf 8 = .ok (.iadd, 1) := by decide +kernel
theorem dX6_memberOf_9 : decode cX6_memberOf 9 = .ok (.iload_n 3, 1) := by decide +kernel
theorem dX6_memberOf_10 : decode cX6_memberOf 10 = .ok (.iadd, 1) := by decide +kernel
theorem dX6_memberOf_11 : decode cX6_memberOf 11 = .ok (.invokevirtual 31, 3) := by decide +kernel
theorem dX6_memberOf_14 : decode cX6_memberOf 14 = .ok (.ireturn, 1) := by decide +kernel
theorem dX6_writer_0 : decode cX6_writer 0 = .ok (.aload_n 0, 1) := by decide +kernel
theorem dX6_writer_1 : decode cX6_writer 1 = .ok (.iload_n 1, 1) := by decide +kernel
theorem dX6_writer_2 : decode cX6_writer 2 = .ok (.iload_n 2, 1) := by decide +kernel
theorem dX6_writer_3 : decode cX6_writer 3 = .ok (.iload_n 3, 1) := by decide +kernel
theorem dX6_writer_4 : decode cX6_writer 4 = .ok (.iload 4, 2) := by decide +kernel
theorem dX6_writer_6 : decode cX6_writer 6 = .ok (.iadd, 1) := by decide +kernel
theorem dX6_writer_7 : decode cX6_writer 7 = .ok (.aload_n 0, 1) := by decide +kernel
theorem dX6_writer_8 : decode cX6_writer 8 = .ok (.iload_n 1, 1) := by decide +kernel
theorem dX6_writer_9 : decode cX6_writer 9 = .ok (.iconst 0, 1) := by decide +kernel
theorem dX6_writer_10 : decode cX6_writer 10 = .ok (.invokevirtual 31, 3) := by decide +kernel
theorem dX6_writer_13 : decode cX6_writer 13 = .ok (.irem, 1) := by decide +kernel
theorem dX6_writer_14 : decode cX6_writer 14 = .ok (.invokevirtual 35, 3) := by decide +kernel
theorem dX6_writer_17 : decode cX6_writer 17 = .ok (.ireturn, 1) := by decide +kernel
theorem dX6_ensemble_0 : decode cX6_ensemble 0 = .ok (.iconst 0, 1) := by decide +kernel
theorem dX6_ensemble_1 : decode cX6_ensemble 1 = .ok (.istore_n 3, 1) := by decide +kernel
theorem dX6_ensemble_2 : decode cX6_ensemble 2 = .ok (.iconst 0, 1) := by decide +kernel
theorem dX6_ensemble_3 : decode cX6_ensemble 3 = .ok (.istore 4, 2) := by decide +kernel
theorem dX6_ensemble_5 : decode cX6_ensemble 5 = .ok (.iload 4, 2) := by decide +kernel
theorem dX6_ensemble_7 : decode cX6_ensemble 7 = .ok (.aload_n 0, 1) := by decide +kernel
theorem dX6_ensemble_8 : decode cX6_ensemble 8 = .ok (.iload_n 1, 1) := by decide +kernel
theorem dX6_ensemble_9 : decode cX6_ensemble 9 = .ok (.iconst 0, 1) := by decide +kernel
theorem dX6_ensemble_10 : decode cX6_ensemble 10 = .ok (.invokevirtual 31, 3) := by decide +kernel
theorem dX6_ensemble_13 : decode cX6_ensemble 13 = .ok (.if_icmp .ge 22, 3) := by decide +kernel
theorem dX6_ensemble_16 : decode cX6_ensemble 16 = .ok (.iload_n 3, 1) := by decide +kernel
theorem dX6_ensemble_17 : decode cX6_ensemble 17 = .ok (.iconst 1, 1) := by decide +kernel
theorem dX6_ensemble_18 : decode cX6_ensemble 18 = .ok (.aload_n 0, 1) := by decide +kernel
theorem dX6_ensemble_19 : decode cX6_ensemble 19 = .ok (.iload_n 1, 1) := by decide +kernel
theorem dX6_ensemble_20 : decode cX6_ensemble 20 = .ok (.iload_n 2, 1) := by decide +kernel
theorem dX6_ensemble_21 : decode cX6_ensemble 21 = .ok (.iload 4, 2) := by decide +kernel
theorem dX6_ensemble_23 : decode cX6_ensemble 23 = .ok (.invokevirtual 35, 3) := by decide +kernel
theorem dX6_ensemble_26 : decode cX6_ensemble 26 = .ok (.ishl, 1) := by decide +kernel
theorem dX6_ensemble_27 : decode cX6_ensemble 27 = .ok (.ior, 1) := by decide +kernel
theorem dX6_ensemble_28 : decode cX6_ensemble 28 = .ok (.istore_n 3, 1) := by decide +kernel
theorem dX6_ensemble_29 : decode cX6_ensemble 29 = .ok (.iinc 4 1, 3) := by decide +kernel
theorem dX6_ensemble_32 : decode cX6_ensemble 32 = .ok (.goto (-27), 3) := by decide +kernel
theorem dX6_ensemble_35 : decode cX6_ensemble 35 = .ok (.iload_n 3, 1) := by decide +kernel
theorem dX6_ensemble_36 : decode cX6_ensemble 36 = .ok (.ireturn, 1) := by decide +kernel
theorem dX6_isWriter_0 : decode cX6_isWriter 0 = .ok (.iconst 0, 1) := by decide +kernel
theorem dX6_isWriter_1 : decode cX6_isWriter 1 = .ok (.istore 4, 2) := by decide +kernel
theorem dX6_isWriter_3 : decode cX6_isWriter 3 = .ok (.iconst 0, 1) := by decide +kernel
theorem dX6_isWriter_4 : decode cX6_isWriter 4 = .ok (.istore 5, 2) := by decide +kernel
theorem dX6_isWriter_6 : decode cX6_isWriter 6 = .ok (.iload 5, 2) := by decide +kernel
theorem dX6_isWriter_8 : decode cX6_isWriter 8 = .ok (.aload_n 0, 1) := by decide +kernel
theorem dX6_isWriter_9 : decode cX6_isWriter 9 = .ok (.iload_n 1, 1) := by decide +kernel
theorem dX6_isWriter_10 : decode cX6_isWriter 10 = .ok (.iconst 1, 1) := by decide +kernel
theorem dX6_isWriter_11 : decode cX6_isWriter 11 = .ok (.invokevirtual 31, 3) := by decide +kernel
theorem dX6_isWriter_14 : decode cX6_isWriter 14 = .ok (.if_icmp .ge 39, 3) := by decide +kernel
theorem dX6_isWriter_17 : decode cX6_isWriter 17 = .ok (.iload 4, 2) := by decide +kernel
theorem dX6_isWriter_19 : decode cX6_isWriter 19 = .ok (.ifCond .ne 21, 3) := by decide +kernel
theorem dX6_isWriter_22 : decode cX6_isWriter 22 = .ok (.aload_n 0, 1) := by decide +kernel
theorem dX6_isWriter_23 : decode cX6_isWriter 23 = .ok (.iload_n 1, 1) := by decide +kernel
theorem dX6_isWriter_24 : decode cX6_isWriter 24 = .ok (.aload_n 0, 1) := by decide +kernel
theorem dX6_isWriter_25 : decode cX6_isWriter 25 = .ok (.iload_n 1, 1) := by decide +kernel
theorem dX6_isWriter_26 : decode cX6_isWriter 26 = .ok (.iload_n 2, 1) := by decide +kernel
theorem dX6_isWriter_27 : decode cX6_isWriter 27 = .ok (.invokevirtual 38, 3) := by decide +kernel
theorem dX6_isWriter_30 : decode cX6_isWriter 30 = .ok (.iload_n 2, 1) := by decide +kernel
theorem dX6_isWriter_31 : decode cX6_isWriter 31 = .ok (.iload 5, 2) := by decide +kernel
theorem dX6_isWriter_33 : decode cX6_isWriter 33 = .ok (.invokevirtual 41, 3) := by decide +kernel
theorem dX6_isWriter_36 : decode cX6_isWriter 36 = .ok (.iload_n 3, 1) := by decide +kernel
theorem dX6_isWriter_37 : decode cX6_isWriter 37 = .ok (.if_icmp .ne 7, 3) := by decide +kernel
theorem dX6_isWriter_40 : decode cX6_isWriter 40 = .ok (.iconst 1, 1) := by decide +kernel
theorem dX6_isWriter_41 : decode cX6_isWriter 41 = .ok (.goto 4, 3) := by decide +kernel
theorem dX6_isWriter_44 : decode cX6_isWriter 44 = .ok (.iconst 0, 1) := by decide +kernel
theorem dX6_isWriter_45 : decode cX6_isWriter 45 = .ok (.istore 4, 2) := by decide +kernel
theorem dX6_isWriter_47 : decode cX6_isWriter 47 = .ok (.iinc 5 1, 3) := by decide +kernel
theorem dX6_isWriter_50 : decode cX6_isWriter 50 = .ok (.goto (-44), 3) := by decide +kernel
theorem dX6_isWriter_53 : decode cX6_isWriter 53 = .ok (.iload 4, 2) := by decide +kernel
theorem dX6_isWriter_55 : decode cX6_isWriter 55 = .ok (.ireturn, 1) := by decide +kernel
theorem dX6_choose_0 : decode cX6_choose 0 = .ok (.iconst (-1), 1) := by decide +kernel
theorem dX6_choose_1 : decode cX6_choose 1 = .ok (.istore_n 2, 1) := by decide +kernel
theorem dX6_choose_2 : decode cX6_choose 2 = .ok (.iconst 0, 1) := by decide +kernel
theorem dX6_choose_3 : decode cX6_choose 3 = .ok (.istore_n 3, 1) := by decide +kernel
theorem dX6_choose_4 : decode cX6_choose 4 = .ok (.iload_n 3, 1) := by decide +kernel
theorem dX6_choose_5 : decode cX6_choose 5 = .ok (.aload_n 0, 1) := by decide +kernel
theorem dX6_choose_6 : decode cX6_choose 6 = .ok (.getfield 7, 3) := by decide +kernel
theorem dX6_choose_9 : decode cX6_choose 9 = .ok (.iconst 0, 1) := by decide +kernel
theorem dX6_choose_10 : decode cX6_choose 10 = .ok (.iaload, 1) := by decide +kernel
theorem dX6_choose_11 : decode cX6_choose 11 = .ok (.if_icmp .ge 61, 3) := by decide +kernel
theorem dX6_choose_14 : decode cX6_choose 14 = .ok (.aload_n 0, 1) := by decide +kernel
theorem dX6_choose_15 : decode cX6_choose 15 = .ok (.iload_n 3, 1) := by decide +kernel
theorem dX6_choose_16 : decode cX6_choose 16 = .ok (.invokevirtual 45, 3) := by decide +kernel
theorem dX6_choose_19 : decode cX6_choose 19 = .ok (.ifCond .eq 33, 3) := by decide +kernel
theorem dX6_choose_22 : decode cX6_choose 22 = .ok (.iload_n 1, 1) := by decide +kernel
theorem dX6_choose_23 : decode cX6_choose 23 = .ok (.iload_n 3, 1) := by decide +kernel
theorem dX6_choose_24 : decode cX6_choose 24 = .ok (.invokestatic 49, 3) := by decide +kernel
theorem dX6_choose_27 : decode cX6_choose 27 = .ok (.ifCond .ne 25, 3) := by decide +kernel
theorem dX6_choose_30 : decode cX6_choose 30 = .ok (.iload_n 2, 1) := by decide +kernel
theorem dX6_choose_31 : decode cX6_choose 31 = .ok (.iconst (-1), 1) := by decide +kernel
theorem dX6_choose_32 : decode cX6_choose 32 = .ok (.if_icmp .eq 16, 3) := by decide +kernel
theorem dX6_choose_35 : decode cX6_choose 35 = .ok (.aload_n 0, 1) := by decide +kernel
theorem dX6_choose_36 : decode cX6_choose 36 = .ok (.iload_n 3, 1) := by decide +kernel
theorem dX6_choose_37 : decode cX6_choose 37 = .ok (.invokevirtual 53, 3) := by decide +kernel
theorem dX6_choose_40 : decode cX6_choose 40 = .ok (.aload_n 0, 1) := by decide +kernel
theorem dX6_choose_41 : decode cX6_choose 41 = .ok (.iload_n 2, 1) := by decide +kernel
theorem dX6_choose_42 : decode cX6_choose 42 = .ok (.invokevirtual 53, 3) := by decide +kernel
theorem dX6_choose_45 : decode cX6_choose 45 = .ok (.if_icmp .ge 7, 3) := by decide +kernel
theorem dX6_choose_48 : decode cX6_choose 48 = .ok (.iconst 1, 1) := by decide +kernel
theorem dX6_choose_49 : decode cX6_choose 49 = .ok (.goto 4, 3) := by decide +kernel
theorem dX6_choose_52 : decode cX6_choose 52 = .ok (.iconst 0, 1) := by decide +kernel
theorem dX6_choose_53 : decode cX6_choose 53 = .ok (.istore 4, 2) := by decide +kernel
theorem dX6_choose_55 : decode cX6_choose 55 = .ok (.iload 4, 2) := by decide +kernel
theorem dX6_choose_57 : decode cX6_choose 57 = .ok (.ifCond .eq 7, 3) := by decide +kernel
theorem dX6_choose_60 : decode cX6_choose 60 = .ok (.iload_n 3, 1) := by decide +kernel
theorem dX6_choose_61 : decode cX6_choose 61 = .ok (.goto 4, 3) := by decide +kernel
theorem dX6_choose_64 : decode cX6_choose 64 = .ok (.iload_n 2, 1) := by decide +kernel
theorem dX6_choose_65 : decode cX6_choose 65 = .ok (.istore_n 2, 1) := by decide +kernel
theorem dX6_choose_66 : decode cX6_choose 66 = .ok (.iinc 3 1, 3) := by decide +kernel
theorem dX6_choose_69 : decode cX6_choose 69 = .ok (.goto (-65), 3) := by decide +kernel
theorem dX6_choose_72 : decode cX6_choose 72 = .ok (.iload_n 2, 1) := by decide +kernel
theorem dX6_choose_73 : decode cX6_choose 73 = .ok (.ireturn, 1) := by decide +kernel
theorem dX6_confirmed_0 : decode cX6_confirmed 0 = .ok (.iconst 0, 1) := by decide +kernel
theorem dX6_confirmed_1 : decode cX6_confirmed 1 = .ok (.istore_n 2, 1) := by decide +kernel
theorem dX6_confirmed_2 : decode cX6_confirmed 2 = .ok (.iload_n 2, 1) := by decide +kernel
theorem dX6_confirmed_3 : decode cX6_confirmed 3 = .ok (.aload_n 0, 1) := by decide +kernel
theorem dX6_confirmed_4 : decode cX6_confirmed 4 = .ok (.iload_n 1, 1) := by decide +kernel
theorem dX6_confirmed_5 : decode cX6_confirmed 5 = .ok (.iconst 4, 1) := by decide +kernel
theorem dX6_confirmed_6 : decode cX6_confirmed 6 = .ok (.invokevirtual 31, 3) := by decide +kernel
theorem dX6_confirmed_9 : decode cX6_confirmed 9 = .ok (.if_icmp .ge 30, 3) := by decide +kernel
theorem dX6_confirmed_12 : decode cX6_confirmed 12 = .ok (.aload_n 0, 1) := by decide +kernel
theorem dX6_confirmed_13 : decode cX6_confirmed 13 = .ok (.iload_n 1, 1) := by decide +kernel
theorem dX6_confirmed_14 : decode cX6_confirmed 14 = .ok (.bipush 47, 2) := by decide +kernel
theorem dX6_confirmed_16 : decode cX6_confirmed 16 = .ok (.iload_n 2, 1) := by decide +kernel
theorem dX6_confirmed_17 : decode cX6_confirmed 17 = .ok (.iadd, 1) := by decide +kernel
theorem dX6_confirmed_18 : decode cX6_confirmed 18 = .ok (.invokevirtual 31, 3) := by decide +kernel
theorem dX6_confirmed_21 : decode cX6_confirmed 21 = .ok (.invokestatic 57, 3) := by decide +kernel
theorem dX6_confirmed_24 : decode cX6_confirmed 24 = .ok (.aload_n 0, 1) := by decide +kernel
theorem dX6_confirmed_25 : decode cX6_confirmed 25 = .ok (.iload_n 1, 1) := by decide +kernel
theorem dX6_confirmed_26 : decode cX6_confirmed 26 = .ok (.iconst 2, 1) := by decide +kernel
theorem dX6_confirmed_27 : decode cX6_confirmed 27 = .ok (.invokevirtual 31, 3) := by decide +kernel
theorem dX6_confirmed_30 : decode cX6_confirmed 30 = .ok (.if_icmp .lt 9, 3) := by decide +kernel
theorem dX6_confirmed_33 : decode cX6_confirmed 33 = .ok (.iinc 2 1, 3) := by decide +kernel
theorem dX6_confirmed_36 : decode cX6_confirmed 36 = .ok (.goto (-34), 3) := by decide +kernel
theorem dX6_confirmed_39 : decode cX6_confirmed 39 = .ok (.iload_n 2, 1) := by decide +kernel
theorem dX6_confirmed_40 : decode cX6_confirmed 40 = .ok (.iconst 1, 1) := by decide +kernel
theorem dX6_confirmed_41 : decode cX6_confirmed 41 = .ok (.isub, 1) := by decide +kernel
theorem dX6_confirmed_42 : decode cX6_confirmed 42 = .ok (.ireturn, 1) := by decide +kernel
theorem dX6_readable_0 : decode cX6_readable 0 = .ok (.aload_n 0, 1) := by decide +kernel
theorem dX6_readable_1 : decode cX6_readable 1 = .ok (.iload_n 1, 1) := by decide +kernel
theorem dX6_readable_2 : decode cX6_readable 2 = .ok (.iconst 3, 1) := by decide +kernel
theorem dX6_readable_3 : decode cX6_readable 3 = .ok (.invokevirtual 31, 3) := by decide +kernel
theorem dX6_readable_6 : decode cX6_readable 6 = .ok (.istore_n 2, 1) := by decide +kernel
theorem dX6_readable_7 : decode cX6_readable 7 = .ok (.iload_n 2, 1) := by decide +kernel
theorem dX6_readable_8 : decode cX6_readable 8 = .ok (.ifCond .ne 11, 3) := by decide +kernel
theorem dX6_readable_11 : decode cX6_readable 11 = .ok (.aload_n 0, 1) := by decide +kernel
theorem dX6_readable_12 : decode cX6_readable 12 = .ok (.iload_n 1, 1) := by decide +kernel
theorem dX6_readable_13 : decode cX6_readable 13 = .ok (.invokevirtual 60, 3) := by decide +kernel
theorem dX6_readable_16 : decode cX6_readable 16 = .ok (.goto 18, 3) := by decide +kernel
theorem dX6_readable_19 : decode cX6_readable 19 = .ok (.iload_n 2, 1) := by decide +kernel
theorem dX6_readable_20 : decode cX6_readable 20 = .ok (.iconst 2, 1) := by decide +kernel
theorem dX6_readable_21 : decode cX6_readable 21 = .ok (.if_icmp .ne 12, 3) := by decide +kernel
theorem dX6_readable_24 : decode cX6_readable 24 = .ok (.aload_n 0, 1) := by decide +kernel
theorem dX6_readable_25 : decode cX6_readable 25 = .ok (.iload_n 1, 1) := by decide +kernel
theorem dX6_readable_26 : decode cX6_readable 26 = .ok (.iconst 5, 1) := by decide +kernel
theorem dX6_readable_27 : decode cX6_readable 27 = .ok (.invokevirtual 31, 3) := by decide +kernel
theorem dX6_readable_30 : decode cX6_readable 30 = .ok (.goto 4, 3) := by decide +kernel
theorem dX6_readable_33 : decode cX6_readable 33 = .ok (.iconst (-1), 1) := by decide +kernel
theorem dX6_readable_34 : decode cX6_readable 34 = .ok (.ireturn, 1) := by decide +kernel
theorem dX6_addNode_0 : decode cX6_addNode 0 = .ok (.aload_n 0, 1) := by decide +kernel
theorem dX6_addNode_1 : decode cX6_addNode 1 = .ok (.aload_n 0, 1) := by decide +kernel
theorem dX6_addNode_2 : decode cX6_addNode 2 = .ok (.getfield 7, 3) := by decide +kernel
theorem dX6_addNode_5 : decode cX6_addNode 5 = .ok (.iconst 0, 1) := by decide +kernel
theorem dX6_addNode_6 : decode cX6_addNode 6 = .ok (.iaload, 1) := by decide +kernel
theorem dX6_addNode_7 : decode cX6_addNode 7 = .ok (.bipush 8, 2) := by decide +kernel
theorem dX6_addNode_9 : decode cX6_addNode 9 = .ok (.if_icmp .ne 7, 3) := by decide +kernel
theorem dX6_addNode_12 : decode cX6_addNode 12 = .ok (.iconst 1, 1) := by decide +kernel
theorem dX6_addNode_13 : decode cX6_addNode 13 = .ok (.goto 4, 3) := by decide +kernel
theorem dX6_addNode_16 : decode cX6_addNode 16 = .ok (.iconst 0, 1) := by decide +kernel
theorem dX6_addNode_17 : decode cX6_addNode 17 = .ok (.putfield 20, 3) := by decide +kernel
theorem dX6_addNode_20 : decode cX6_addNode 20 = .ok (.aload_n 0, 1) := by decide +kernel
theorem dX6_addNode_21 : decode cX6_addNode 21 = .ok (.getfield 20, 3) := by decide +kernel
theorem dX6_addNode_24 : decode cX6_addNode 24 = .ok (.ifCond .le 5, 3) := by decide +kernel
theorem dX6_addNode_27 : decode cX6_addNode 27 = .ok (.iconst 0, 1) := by decide +kernel
theorem dX6_addNode_28 : decode cX6_addNode 28 = .ok (.ireturn, 1) := by decide +kernel
theorem dX6_addNode_29 : decode cX6_addNode 29 = .ok (.aload_n 0, 1) := by decide +kernel
theorem dX6_addNode_30 : decode cX6_addNode 30 = .ok (.invokevirtual 63, 3) := by decide +kernel
theorem dX6_addNode_33 : decode cX6_addNode 33 = .ok (.aload_n 0, 1) := by decide +kernel
theorem dX6_addNode_34 : decode cX6_addNode 34 = .ok (.getfield 7, 3) := by decide +kernel
theorem dX6_addNode_37 : decode cX6_addNode 37 = .ok (.iconst 3, 1) := by decide +kernel
theorem dX6_addNode_38 : decode cX6_addNode 38 = .ok (.aload_n 0, 1) := by decide +kernel
theorem dX6_addNode_39 : decode cX6_addNode 39 = .ok (.getfield 7, 3) := by decide +kernel
theorem dX6_addNode_42 : decode cX6_addNode 42 = .ok (.iconst 0, 1) := by decide +kernel
theorem dX6_addNode_43 : decode cX6_addNode 43 = .ok (.iaload, 1) := by decide +kernel
theorem dX6_addNode_44 : decode cX6_addNode 44 = .ok (.iadd, 1) := by decide +kernel
theorem dX6_addNode_45 : decode cX6_addNode 45 = .ok (.iconst 1, 1) := by decide +kernel
theorem dX6_addNode_46 : decode cX6_addNode 46 = .ok (.iastore, 1) := by decide +kernel
theorem dX6_addNode_47 : decode cX6_addNode 47 = .ok (.aload_n 0, 1) := by decide +kernel
theorem dX6_addNode_48 : decode cX6_addNode 48 = .ok (.getfield 7, 3) := by decide +kernel
theorem dX6_addNode_51 : decode cX6_addNode 51 = .ok (.iconst 0, 1) := by decide +kernel
theorem dX6_addNode_52 : decode cX6_addNode 52 = .ok (.dup2, 1) := by decide +kernel
theorem dX6_addNode_53 : decode cX6_addNode 53 = .ok (.iaload, 1) := by decide +kernel
theorem dX6_addNode_54 : decode cX6_addNode 54 = .ok (.iconst 1, 1) := by decide +kernel
theorem dX6_addNode_55 : decode cX6_addNode 55 = .ok (.iadd, 1) := by decide +kernel
theorem dX6_addNode_56 : decode cX6_addNode 56 = .ok (.iastore, 1) := by decide +kernel
theorem dX6_addNode_57 : decode cX6_addNode 57 = .ok (.aload_n 0, 1) := by decide +kernel
theorem dX6_addNode_58 : decode cX6_addNode 58 = .ok (.getfield 7, 3) := by decide +kernel
theorem dX6_addNode_61 : decode cX6_addNode 61 = .ok (.iconst 0, 1) := by decide +kernel
theorem dX6_addNode_62 : decode cX6_addNode 62 = .ok (.iaload, 1) := by decide +kernel
theorem dX6_addNode_63 : decode cX6_addNode 63 = .ok (.iconst 1, 1) := by decide +kernel
theorem dX6_addNode_64 : decode cX6_addNode 64 = .ok (.isub, 1) := by decide +kernel
theorem dX6_addNode_65 : decode cX6_addNode 65 = .ok (.ireturn, 1) := by decide +kernel
theorem dX6_crash_0 : decode cX6_crash 0 = .ok (.aload_n 0, 1) := by decide +kernel
theorem dX6_crash_1 : decode cX6_crash 1 = .ok (.aload_n 0, 1) := by decide +kernel
theorem dX6_crash_2 : decode cX6_crash 2 = .ok (.iload_n 1, 1) := by decide +kernel
theorem dX6_crash_3 : decode cX6_crash 3 = .ok (.invokevirtual 66, 3) := by decide +kernel
theorem dX6_crash_6 : decode cX6_crash 6 = .ok (.aload_n 0, 1) := by decide +kernel
theorem dX6_crash_7 : decode cX6_crash 7 = .ok (.iload_n 1, 1) := by decide +kernel
theorem dX6_crash_8 : decode cX6_crash 8 = .ok (.invokevirtual 66, 3) := by decide +kernel
theorem dX6_crash_11 : decode cX6_crash 11 = .ok (.ifCond .eq 15, 3) := by decide +kernel
theorem dX6_crash_14 : decode cX6_crash 14 = .ok (.aload_n 0, 1) := by decide +kernel
theorem dX6_crash_15 : decode cX6_crash 15 = .ok (.iload_n 1, 1) := by decide +kernel
theorem dX6_crash_16 : decode cX6_crash 16 = .ok (.invokevirtual 45, 3) := by decide +kernel
theorem dX6_crash_19 : decode cX6_crash 19 = .ok (.ifCond .eq 7, 3) := by decide +kernel
theorem dX6_crash_22 : decode cX6_crash 22 = .ok (.iconst 1, 1) := by decide +kernel
theorem dX6_crash_23 : decode cX6_crash 23 = .ok (.goto 4, 3) := by decide +kernel
theorem dX6_crash_26 : decode cX6_crash 26 = .ok (.iconst 0, 1) := by decide +kernel
theorem dX6_crash_27 : decode cX6_crash 27 = .ok (.invokevirtual 69, 3) := by decide +kernel
theorem dX6_crash_30 : decode cX6_crash 30 = .ok (.ifCond .ne 5, 3) := by decide +kernel
theorem dX6_crash_33 : decode cX6_crash 33 = .ok (.iconst 0, 1) := by decide +kernel
theorem dX6_crash_34 : decode cX6_crash 34 = .ok (.ireturn, 1) := by decide +kernel
theorem dX6_crash_35 : decode cX6_crash 35 = .ok (.aload_n 0, 1) := by decide +kernel
theorem dX6_crash_36 : decode cX6_crash 36 = .ok (.invokevirtual 63, 3) := by decide +kernel
theorem dX6_crash_39 : decode cX6_crash 39 = .ok (.aload_n 0, 1) := by decide +kernel
theorem dX6_crash_40 : decode cX6_crash 40 = .ok (.getfield 7, 3) := by decide +kernel
theorem dX6_crash_43 : decode cX6_crash 43 = .ok (.bipush 11, 2) := by decide +kernel
theorem dX6_crash_45 : decode cX6_crash 45 = .ok (.iload_n 1, 1) := by decide +kernel
theorem dX6_crash_46 : decode cX6_crash 46 = .ok (.iadd, 1) := by decide +kernel
theorem dX6_crash_47 : decode cX6_crash 47 = .ok (.iaload, 1) := by decide +kernel
theorem dX6_crash_48 : decode cX6_crash 48 = .ok (.istore_n 2, 1) := by decide +kernel
theorem dX6_crash_49 : decode cX6_crash 49 = .ok (.aload_n 0, 1) := by decide +kernel
theorem dX6_crash_50 : decode cX6_crash 50 = .ok (.iload_n 1, 1) := by decide +kernel
theorem dX6_crash_51 : decode cX6_crash 51 = .ok (.invokevirtual 73, 3) := by decide +kernel
theorem dX6_crash_54 : decode cX6_crash 54 = .ok (.aload_n 0, 1) := by decide +kernel
theorem dX6_crash_55 : decode cX6_crash 55 = .ok (.getfield 7, 3) := by decide +kernel
theorem dX6_crash_58 : decode cX6_crash 58 = .ok (.iconst 3, 1) := by decide +kernel
theorem dX6_crash_59 : decode cX6_crash 59 = .ok (.iload_n 1, 1) := by decide +kernel
theorem dX6_crash_60 : decode cX6_crash 60 = .ok (.iadd, 1) := by decide +kernel
theorem dX6_crash_61 : decode cX6_crash 61 = .ok (.iconst 0, 1) := by decide +kernel
theorem dX6_crash_62 : decode cX6_crash 62 = .ok (.iastore, 1) := by decide +kernel
theorem dX6_crash_63 : decode cX6_crash 63 = .ok (.iload_n 2, 1) := by decide +kernel
theorem dX6_crash_64 : decode cX6_crash 64 = .ok (.ireturn, 1) := by decide +kernel
theorem dX6_empty_0 : decode cX6_empty 0 = .ok (.aload_n 0, 1) := by decide +kernel
theorem dX6_empty_1 : decode cX6_empty 1 = .ok (.getfield 7, 3) := by decide +kernel
theorem dX6_empty_4 : decode cX6_empty 4 = .ok (.bipush 11, 2) := by decide +kernel
theorem dX6_empty_6 : decode cX6_empty 6 = .ok (.iload_n 1, 1) := by decide +kernel
theorem dX6_empty_7 : decode cX6_empty 7 = .ok (.iadd, 1) := by decide +kernel
theorem dX6_empty_8 : decode cX6_empty 8 = .ok (.iconst 0, 1) := by decide +kernel
theorem dX6_empty_9 : decode cX6_empty 9 = .ok (.iastore, 1) := by decide +kernel
theorem dX6_empty_10 : decode cX6_empty 10 = .ok (.iconst 0, 1) := by decide +kernel
theorem dX6_empty_11 : decode cX6_empty 11 = .ok (.istore_n 2, 1) := by decide +kernel
theorem dX6_empty_12 : decode cX6_empty 12 = .ok (.iload_n 2, 1) := by decide +kernel
theorem dX6_empty_13 : decode cX6_empty 13 = .ok (.bipush 100, 2) := by decide +kernel
theorem dX6_empty_15 : decode cX6_empty 15 = .ok (.if_icmp .ge 24, 3) := by decide +kernel
theorem dX6_empty_18 : decode cX6_empty 18 = .ok (.aload_n 0, 1) := by decide +kernel
theorem dX6_empty_19 : decode cX6_empty 19 = .ok (.getfield 7, 3) := by decide +kernel
theorem dX6_empty_22 : decode cX6_empty 22 = .ok (.bipush 19, 2) := by decide +kernel
theorem dX6_empty_24 : decode cX6_empty 24 = .ok (.bipush 100, 2) := by decide +kernel
theorem dX6_empty_26 : decode cX6_empty 26 = .ok (.iload_n 1, 1) := by decide +kernel
theorem dX6_empty_27 : decode cX6_empty 27 = .ok (.imul, 1) := by decide +kernel
theorem dX6_empty_28 : decode cX6_empty 28 = .ok (.iadd, 1) := by decide +kernel
theorem dX6_empty_29 : decode cX6_empty 29 = .ok (.iload_n 2, 1) := by decide +kernel
theorem dX6_empty_30 : decode cX6_empty 30 = .ok (.iadd, 1) := by decide +kernel
theorem dX6_empty_31 : decode cX6_empty 31 = .ok (.iconst 0, 1) := by decide +kernel
theorem dX6_empty_32 : decode cX6_empty 32 = .ok (.iastore, 1) := by decide +kernel
theorem dX6_empty_33 : decode cX6_empty 33 = .ok (.iinc 2 1, 3) := by decide +kernel
theorem dX6_empty_36 : decode cX6_empty 36 = .ok (.goto (-24), 3) := by decide +kernel
theorem dX6_empty_39 : decode cX6_empty 39 = .ok (.return_, 1) := by decide +kernel
theorem dX6_restart_0 : decode cX6_restart 0 = .ok (.aload_n 0, 1) := by decide +kernel
theorem dX6_restart_1 : decode cX6_restart 1 = .ok (.aload_n 0, 1) := by decide +kernel
theorem dX6_restart_2 : decode cX6_restart 2 = .ok (.iload_n 1, 1) := by decide +kernel
theorem dX6_restart_3 : decode cX6_restart 3 = .ok (.invokevirtual 66, 3) := by decide +kernel
theorem dX6_restart_6 : decode cX6_restart 6 = .ok (.aload_n 0, 1) := by decide +kernel
theorem dX6_restart_7 : decode cX6_restart 7 = .ok (.iload_n 1, 1) := by decide +kernel
theorem dX6_restart_8 : decode cX6_restart 8 = .ok (.invokevirtual 66, 3) := by decide +kernel
theorem dX6_restart_11 : decode cX6_restart 11 = .ok (.ifCond .eq 15, 3) := by decide +kernel
theorem dX6_restart_14 : decode cX6_restart 14 = .ok (.aload_n 0, 1) := by decide +kernel
theorem dX6_restart_15 : decode cX6_restart 15 = .ok (.iload_n 1, 1) := by decide +kernel
theorem dX6_restart_16 : decode cX6_restart 16 = .ok (.invokevirtual 45, 3) := by decide +kernel
theorem dX6_restart_19 : decode cX6_restart 19 = .ok (.ifCond .ne 7, 3) := by decide +kernel
theorem dX6_restart_22 : decode cX6_restart 22 = .ok (.iconst 1, 1) := by decide +kernel
theorem dX6_restart_23 : decode cX6_restart 23 = .ok (.goto 4, 3) := by decide +kernel
theorem dX6_restart_26 : decode cX6_restart 26 = .ok (.iconst 0, 1) := by decide +kernel
theorem dX6_restart_27 : decode cX6_restart 27 = .ok (.invokevirtual 69, 3) := by decide +kernel
theorem dX6_restart_30 : decode cX6_restart 30 = .ok (.ifCond .ne 5, 3) := by decide +kernel
theorem dX6_restart_33 : decode cX6_restart 33 = .ok (.iconst 0, 1) := by decide +kernel
theorem dX6_restart_34 : decode cX6_restart 34 = .ok (.ireturn, 1) := by decide +kernel
theorem dX6_restart_35 : decode cX6_restart 35 = .ok (.aload_n 0, 1) := by decide +kernel
theorem dX6_restart_36 : decode cX6_restart 36 = .ok (.invokevirtual 63, 3) := by decide +kernel
theorem dX6_restart_39 : decode cX6_restart 39 = .ok (.aload_n 0, 1) := by decide +kernel
theorem dX6_restart_40 : decode cX6_restart 40 = .ok (.getfield 7, 3) := by decide +kernel
theorem dX6_restart_43 : decode cX6_restart 43 = .ok (.iconst 3, 1) := by decide +kernel
theorem dX6_restart_44 : decode cX6_restart 44 = .ok (.iload_n 1, 1) := by decide +kernel
theorem dX6_restart_45 : decode cX6_restart 45 = .ok (.iadd, 1) := by decide +kernel
theorem dX6_restart_46 : decode cX6_restart 46 = .ok (.iconst 1, 1) := by decide +kernel
theorem dX6_restart_47 : decode cX6_restart 47 = .ok (.iastore, 1) := by decide +kernel
theorem dX6_restart_48 : decode cX6_restart 48 = .ok (.aload_n 0, 1) := by decide +kernel
theorem dX6_restart_49 : decode cX6_restart 49 = .ok (.iload_n 1, 1) := by decide +kernel
theorem dX6_restart_50 : decode cX6_restart 50 = .ok (.invokevirtual 53, 3) := by decide +kernel
theorem dX6_restart_53 : decode cX6_restart 53 = .ok (.ireturn, 1) := by decide +kernel
theorem dX6_send_0 : decode cX6_send 0 = .ok (.aload_n 0, 1) := by decide +kernel
theorem dX6_send_1 : decode cX6_send 1 = .ok (.iload_n 1, 1) := by decide +kernel
theorem dX6_send_2 : decode cX6_send 2 = .ok (.invokevirtual 45, 3) := by decide +kernel
theorem dX6_send_5 : decode cX6_send 5 = .ok (.ifCond .eq 84, 3) := by decide +kernel
theorem dX6_send_8 : decode cX6_send 8 = .ok (.aload_n 0, 1) := by decide +kernel
theorem dX6_send_9 : decode cX6_send 9 = .ok (.getfield 7, 3) := by decide +kernel
theorem dX6_send_12 : decode cX6_send 12 = .ok (.bipush 11, 2) := by decide +kernel
theorem dX6_send_14 : decode cX6_send 14 = .ok (.iload_n 1, 1) := by decide +kernel
theorem dX6_send_15 : decode cX6_send 15 = .ok (.iadd, 1) := by decide +kernel
theorem dX6_send_16 : decode cX6_send 16 = .ok (.iaload, 1) := by decide +kernel
theorem dX6_send_17 : decode cX6_send 17 = .ok (.bipush 100, 2) := by decide +kernel
theorem dX6_send_19 : decode cX6_send 19 = .ok (.if_icmp .ge 70, 3) := by decide +kernel
theorem dX6_send_22 : decode cX6_send 22 = .ok (.iload_n 2, 1) := by decide +kernel
theorem dX6_send_23 : decode cX6_send 23 = .ok (.iconst 4, 1) := by decide +kernel
theorem dX6_send_24 : decode cX6_send 24 = .ok (.iload_n 3, 1) := by decide +kernel
theorem dX6_send_25 : decode cX6_send 25 = .ok (.imul, 1) := by decide +kernel
theorem dX6_send_26 : decode cX6_send 26 = .ok (.iadd, 1) := by decide +kernel
theorem dX6_send_27 : decode cX6_send 27 = .ok (.sipush 256, 3) := by decide +kernel
theorem dX6_send_30 : decode cX6_send 30 = .ok (.iload 4, 2) := by decide +kernel
theorem dX6_send_32 : decode cX6_send 32 = .ok (.iconst 1, 1) := by decide +kernel
theorem dX6_send_33 : decode cX6_send 33 = .ok (.iadd, 1) := by decide +kernel
theorem dX6_send_34 : decode cX6_send 34 = .ok (.imul, 1) := by decide +kernel
theorem dX6_send_35 : decode cX6_send 35 = .ok (.iadd, 1) := by decide +kernel
theorem dX6_send_36 : decode cX6_send 36 = .ok (.sipush 16384, 3) := by decide +kernel
theorem dX6_send_39 : decode cX6_send 39 = .ok (.aload_n 0, 1) := by decide +kernel
theorem dX6_send_40 : decode cX6_send 40 = .ok (.iload_n 2, 1) := by decide +kernel
theorem dX6_send_41 : decode cX6_send 41 = .ok (.bipush 7, 2) := by decide +kernel
theorem dX6_send_43 : decode cX6_send 43 = .ok (.iload_n 3, 1) := by decide +kernel
theorem dX6_send_44 : decode cX6_send 44 = .ok (.iadd, 1) := by decide +kernel
theorem dX6_send_45 : decode cX6_send 45 = .ok (.invokevirtual 31, 3) := by decide +kernel
theorem dX6_send_48 : decode cX6_send 48 = .ok (.imul, 1) := by decide +kernel
theorem dX6_send_49 : decode cX6_send 49 = .ok (.iadd, 1) := by decide +kernel
theorem dX6_send_50 : decode cX6_send 50 = .ok (.istore 5, 2) := by decide +kernel
theorem dX6_send_52 : decode cX6_send 52 = .ok (.aload_n 0, 1) := by decide +kernel
theorem dX6_send_53 : decode cX6_send 53 = .ok (.getfield 7, 3) := by decide +kernel
theorem dX6_send_56 : decode cX6_send 56 = .ok (.bipush 19, 2) := by decide +kernel
theorem dX6_send_58 : decode cX6_send 58 = .ok (.bipush 100, 2) := by decide +kernel
theorem dX6_send_60 : decode cX6_send 60 = .ok (.iload_n 1, 1) := by decide +kernel
theorem dX6_send_61 : decode cX6_send 61 = .ok (.imul, 1) := by decide +kernel
theorem dX6_send_62 : decode cX6_send 62 = .ok (.iadd, 1) := by decide +kernel
theorem dX6_send_63 : decode cX6_send 63 = .ok (.aload_n 0, 1) := by decide +kernel
theorem dX6_send_64 : decode cX6_send 64 = .ok (.getfield 7, 3) := by decide +kernel
theorem dX6_send_67 : decode cX6_send 67 = .ok (.bipush 11, 2) := by decide +kernel
theorem dX6_send_69 : decode cX6_send 69 = .ok (.iload_n 1, 1) := by decide +kernel
theorem dX6_send_70 : decode cX6_send 70 = .ok (.iadd, 1) := by decide +kernel
theorem dX6_send_71 : decode cX6_send 71 = .ok (.iaload, 1) := by decide +kernel
theorem dX6_send_72 : decode cX6_send 72 = .ok (.iadd, 1) := by decide +kernel
theorem dX6_send_73 : decode cX6_send 73 = .ok (.iload 5, 2) := by decide +kernel
theorem dX6_send_75 : decode cX6_send 75 = .ok (.iastore, 1) := by decide +kernel
theorem dX6_send_76 : decode cX6_send 76 = .ok (.aload_n 0, 1) := by decide +kernel
theorem dX6_send_77 : decode cX6_send 77 = .ok (.getfield 7, 3) := by decide +kernel
theorem dX6_send_80 : decode cX6_send 80 = .ok (.bipush 11, 2) := by decide +kernel
theorem dX6_send_82 : decode cX6_send 82 = .ok (.iload_n 1, 1) := by decide +kernel
theorem dX6_send_83 : decode cX6_send 83 = .ok (.iadd, 1) := by decide +kernel
theorem dX6_send_84 : decode cX6_send 84 = .ok (.dup2, 1) := by decide +kernel
theorem dX6_send_85 : decode cX6_send 85 = .ok (.iaload, 1) := by decide +kernel
theorem dX6_send_86 : decode cX6_send 86 = .ok (.iconst 1, 1) := by decide +kernel
theorem dX6_send_87 : decode cX6_send 87 = .ok (.iadd, 1) := by decide +kernel
theorem dX6_send_88 : decode cX6_send 88 = .ok (.iastore, 1) := by decide +kernel
theorem dX6_send_89 : decode cX6_send 89 = .ok (.return_, 1) := by decide +kernel
theorem dX6_process_0 : decode cX6_process 0 = .ok (.aload_n 0, 1) := by decide +kernel
theorem dX6_process_1 : decode cX6_process 1 = .ok (.getfield 7, 3) := by decide +kernel
theorem dX6_process_4 : decode cX6_process 4 = .ok (.bipush 19, 2) := by decide +kernel
theorem dX6_process_6 : decode cX6_process 6 = .ok (.bipush 100, 2) := by decide +kernel
theorem dX6_process_8 : decode cX6_process 8 = .ok (.iload_n 1, 1) := by decide +kernel
theorem dX6_process_9 : decode cX6_process 9 = .ok (.imul, 1) := by decide +kernel
theorem dX6_process_10 : decode cX6_process 10 = .ok (.iadd, 1) := by decide +kernel
theorem dX6_process_11 : decode cX6_process 11 = .ok (.iaload, 1) := by decide +kernel
theorem dX6_process_12 : decode cX6_process 12 = .ok (.istore_n 2, 1) := by decide +kernel
theorem dX6_process_13 : decode cX6_process 13 = .ok (.iconst 0, 1) := by decide +kernel
theorem dX6_process_14 : decode cX6_process 14 = .ok (.istore_n 3, 1) := by decide +kernel
theorem dX6_process_15 : decode cX6_process 15 = .ok (.iload_n 3, 1) := by decide +kernel
theorem dX6_process_16 : decode cX6_process 16 = .ok (.iconst 1, 1) := by decide +kernel
theorem dX6_process_17 : decode cX6_process 17 = .ok (.iadd, 1) := by decide +kernel
theorem dX6_process_18 : decode cX6_process 18 = .ok (.bipush 100, 2) := by decide +kernel
theorem dX6_process_20 : decode cX6_process 20 = .ok (.if_icmp .ge 39, 3) := by decide +kernel
theorem dX6_process_23 : decode cX6_process 23 = .ok (.aload_n 0, 1) := by decide +kernel
theorem dX6_process_24 : decode cX6_process 24 = .ok (.getfield 7, 3) := by decide +kernel
theorem dX6_process_27 : decode cX6_process 27 = .ok (.bipush 19, 2) := by decide +kernel
theorem dX6_process_29 : decode cX6_process 29 = .ok (.bipush 100, 2) := by decide +kernel
theorem dX6_process_31 : decode cX6_process 31 = .ok (.iload_n 1, 1) := by decide +kernel
theorem dX6_process_32 : decode cX6_process 32 = .ok (.imul, 1) := by decide +kernel
theorem dX6_process_33 : decode cX6_process 33 = .ok (.iadd, 1) := by decide +kernel
theorem dX6_process_34 : decode cX6_process 34 = .ok (.iload_n 3, 1) := by decide +kernel
theorem dX6_process_35 : decode cX6_process 35 = .ok (.iadd, 1) := by decide +kernel
theorem dX6_process_36 : decode cX6_process 36 = .ok (.aload_n 0, 1) := by decide +kernel
theorem dX6_process_37 : decode cX6_process 37 = .ok (.getfield 7, 3) := by decide +kernel
theorem dX6_process_40 : decode cX6_process 40 = .ok (.bipush 19, 2) := by decide +kernel
theorem dX6_process_42 : decode cX6_process 42 = .ok (.bipush 100, 2) := by decide +kernel
theorem dX6_process_44 : decode cX6_process 44 = .ok (.iload_n 1, 1) := by decide +kernel
theorem dX6_process_45 : decode cX6_process 45 = .ok (.imul, 1) := by decide +kernel
theorem dX6_process_46 : decode cX6_process 46 = .ok (.iadd, 1) := by decide +kernel
theorem dX6_process_47 : decode cX6_process 47 = .ok (.iload_n 3, 1) := by decide +kernel
theorem dX6_process_48 : decode cX6_process 48 = .ok (.iadd, 1) := by decide +kernel
theorem dX6_process_49 : decode cX6_process 49 = .ok (.iconst 1, 1) := by decide +kernel
theorem dX6_process_50 : decode cX6_process 50 = .ok (.iadd, 1) := by decide +kernel
theorem dX6_process_51 : decode cX6_process 51 = .ok (.iaload, 1) := by decide +kernel
theorem dX6_process_52 : decode cX6_process 52 = .ok (.iastore, 1) := by decide +kernel
theorem dX6_process_53 : decode cX6_process 53 = .ok (.iinc 3 1, 3) := by decide +kernel
theorem dX6_process_56 : decode cX6_process 56 = .ok (.goto (-41), 3) := by decide +kernel
theorem dX6_process_59 : decode cX6_process 59 = .ok (.aload_n 0, 1) := by decide +kernel
theorem dX6_process_60 : decode cX6_process 60 = .ok (.getfield 7, 3) := by decide +kernel
theorem dX6_process_63 : decode cX6_process 63 = .ok (.bipush 19, 2) := by decide +kernel
theorem dX6_process_65 : decode cX6_process 65 = .ok (.bipush 100, 2) := by decide +kernel
theorem dX6_process_67 : decode cX6_process 67 = .ok (.iload_n 1, 1) := by decide +kernel
theorem dX6_process_68 : decode cX6_process 68 = .ok (.imul, 1) := by decide +kernel
theorem dX6_process_69 : decode cX6_process 69 = .ok (.iadd, 1) := by decide +kernel
theorem dX6_process_70 : decode cX6_process 70 = .ok (.bipush 100, 2) := by decide +kernel
theorem dX6_process_72 : decode cX6_process 72 = .ok (.iadd, 1) := by decide +kernel
theorem dX6_process_73 : decode cX6_process 73 = .ok (.iconst 1, 1) := by decide +kernel
theorem dX6_process_74 : decode cX6_process 74 = .ok (.isub, 1) := by decide +kernel
theorem dX6_process_75 : decode cX6_process 75 = .ok (.iconst 0, 1) := by decide +kernel
theorem dX6_process_76 : decode cX6_process 76 = .ok (.iastore, 1) := by decide +kernel
theorem dX6_process_77 : decode cX6_process 77 = .ok (.aload_n 0, 1) := by decide +kernel
theorem dX6_process_78 : decode cX6_process 78 = .ok (.getfield 7, 3) := by decide +kernel
theorem dX6_process_81 : decode cX6_process 81 = .ok (.bipush 11, 2) := by decide +kernel
theorem dX6_process_83 : decode cX6_process 83 = .ok (.iload_n 1, 1) := by decide +kernel
theorem dX6_process_84 : decode cX6_process 84 = .ok (.iadd, 1) := by decide +kernel
theorem dX6_process_85 : decode cX6_process 85 = .ok (.dup2, 1) := by decide +kernel
theorem dX6_process_86 : decode cX6_process 86 = .ok (.iaload, 1) := by decide +kernel
theorem dX6_process_87 : decode cX6_process 87 = .ok (.iconst 1, 1) := by decide +kernel
theorem dX6_process_88 : decode cX6_process 88 = .ok (.isub, 1) := by decide +kernel
theorem dX6_process_89 : decode cX6_process 89 = .ok (.iastore, 1) := by decide +kernel
theorem dX6_process_90 : decode cX6_process 90 = .ok (.iload_n 2, 1) := by decide +kernel
theorem dX6_process_91 : decode cX6_process 91 = .ok (.iconst 4, 1) := by decide +kernel
theorem dX6_process_92 : decode cX6_process 92 = .ok (.irem, 1) := by decide +kernel
theorem dX6_process_93 : decode cX6_process 93 = .ok (.istore_n 3, 1) := by decide +kernel
theorem dX6_process_94 : decode cX6_process 94 = .ok (.iload_n 2, 1) := by decide +kernel
theorem dX6_process_95 : decode cX6_process 95 = .ok (.iconst 4, 1) := by decide +kernel
theorem dX6_process_96 : decode cX6_process 96 = .ok (.idiv, 1) := by decide +kernel
theorem dX6_process_97 : decode cX6_process 97 = .ok (.bipush 64, 2) := by decide +kernel
theorem dX6_process_99 : decode cX6_process 99 = .ok (.irem, 1) := by decide +kernel
theorem dX6_process_100 : decode cX6_process 100 = .ok (.istore 4, 2) := by decide +kernel
theorem dX6_process_102 : decode cX6_process 102 = .ok (.aload_n 0, 1) := by decide +kernel
theorem dX6_process_103 : decode cX6_process 103 = .ok (.getfield 7, 3) := by decide +kernel
theorem dX6_process_106 : decode cX6_process 106 = .ok (.sipush 2099, 3) := by decide +kernel
theorem dX6_process_109 : decode cX6_process 109 = .ok (.iconst 4, 1) := by decide +kernel
theorem dX6_process_110 : decode cX6_process 110 = .ok (.iload_n 1, 1) := by decide +kernel
theorem dX6_process_111 : decode cX6_process 111 = .ok (.imul, 1) := by decide +kernel
theorem dX6_process_112 : decode cX6_process 112 = .ok (.iadd, 1) := by decide +kernel
theorem dX6_process_113 : decode cX6_process 113 = .ok (.iload_n 3, 1) := by decide +kernel
theorem dX6_process_114 : decode cX6_process 114 = .ok (.iadd, 1) := by decide +kernel
theorem dX6_process_115 : decode cX6_process 115 = .ok (.iaload, 1) := by decide +kernel
theorem dX6_process_116 : decode cX6_process 116 = .ok (.iconst 1, 1) := by decide +kernel
theorem dX6_process_117 : decode cX6_process 117 = .ok (.if_icmp .ne 15, 3) := by decide +kernel
theorem dX6_process_120 : decode cX6_process 120 = .ok (.aload_n 0, 1) := by decide +kernel
theorem dX6_process_121 : decode cX6_process 121 = .ok (.getfield 7, 3) := by decide +kernel
theorem dX6_process_124 : decode cX6_process 124 = .ok (.iconst 2, 1) := by decide +kernel
theorem dX6_process_125 : decode cX6_process 125 = .ok (.dup2, 1) := by decide +kernel
theorem dX6_process_126 : decode cX6_process 126 = .ok (.iaload, 1) := by decide +kernel
theorem dX6_process_127 : decode cX6_process 127 = .ok (.iconst 1, 1) := by decide +kernel
theorem dX6_process_128 : decode cX6_process 128 = .ok (.iadd, 1) := by decide +kernel
theorem dX6_process_129 : decode cX6_process 129 = .ok (.iastore, 1) := by decide +kernel
theorem dX6_process_130 : decode cX6_process 130 = .ok (.iconst 0, 1) := by decide +kernel
theorem dX6_process_131 : decode cX6_process 131 = .ok (.ireturn, 1) := by decide +kernel
theorem dX6_process_132 : decode cX6_process 132 = .ok (.aload_n 0, 1) := by decide +kernel
theorem dX6_process_133 : decode cX6_process 133 = .ok (.iload_n 1, 1) := by decide +kernel
theorem dX6_process_134 : decode cX6_process 134 = .ok (.iload_n 3, 1) := by decide +kernel
theorem dX6_process_135 : decode cX6_process 135 = .ok (.iload 4, 2) := by decide +kernel
theorem dX6_process_137 : decode cX6_process 137 = .ok (.iload_n 2, 1) := by decide +kernel
theorem dX6_process_138 : decode cX6_process 138 = .ok (.sipush 16384, 3) := by decide +kernel
theorem dX6_process_141 : decode cX6_process 141 = .ok (.idiv, 1) := by decide +kernel
theorem dX6_process_142 : decode cX6_process 142 = .ok (.iload_n 2, 1) := by decide +kernel
theorem dX6_process_143 : decode cX6_process 143 = .ok (.sipush 256, 3) := by decide +kernel
theorem dX6_process_146 : decode cX6_process 146 = .ok (.idiv, 1) := by decide +kernel
theorem dX6_process_147 : decode cX6_process 147 = .ok (.bipush 64, 2) := by decide +kernel
theorem dX6_process_149 : decode cX6_process 149 = .ok (.irem, 1) := by decide +kernel
theorem dX6_process_150 : decode cX6_process 150 = .ok (.iconst 1, 1) := by decide +kernel
theorem dX6_process_151 : decode cX6_process 151 = .ok (.isub, 1) := by decide +kernel
theorem dX6_process_152 : decode cX6_process 152 = .ok (.invokevirtual 77, 3) := by decide +kernel
theorem dX6_process_155 : decode cX6_process 155 = .ok (.aload_n 0, 1) := by decide +kernel
theorem dX6_process_156 : decode cX6_process 156 = .ok (.iload_n 3, 1) := by decide +kernel
theorem dX6_process_157 : decode cX6_process 157 = .ok (.iconst 3, 1) := by decide +kernel
theorem dX6_process_158 : decode cX6_process 158 = .ok (.invokevirtual 31, 3) := by decide +kernel
theorem dX6_process_161 : decode cX6_process 161 = .ok (.ifCond .ne 38, 3) := by decide +kernel
theorem dX6_process_164 : decode cX6_process 164 = .ok (.aload_n 0, 1) := by decide +kernel
theorem dX6_process_165 : decode cX6_process 165 = .ok (.iload_n 3, 1) := by decide +kernel
theorem dX6_process_166 : decode cX6_process 166 = .ok (.iload 4, 2) := by decide +kernel
theorem dX6_process_168 : decode cX6_process 168 = .ok (.iload_n 1, 1) := by decide +kernel
theorem dX6_process_169 : decode cX6_process 169 = .ok (.invokevirtual 81, 3) := by decide +kernel
theorem dX6_process_172 : decode cX6_process 172 = .ok (.ifCond .eq 27, 3) := by decide +kernel
theorem dX6_process_175 : decode cX6_process 175 = .ok (.aload_n 0, 1) := by decide +kernel
theorem dX6_process_176 : decode cX6_process 176 = .ok (.iload_n 3, 1) := by decide +kernel
theorem dX6_process_177 : decode cX6_process 177 = .ok (.bipush 47, 2) := by decide +kernel
theorem dX6_process_179 : decode cX6_process 179 = .ok (.iload 4, 2) := by decide +kernel
theorem dX6_process_181 : decode cX6_process 181 = .ok (.iadd, 1) := by decide +kernel
theorem dX6_process_182 : decode cX6_process 182 = .ok (.aload_n 0, 1) := by decide +kernel
theorem dX6_process_183 : decode cX6_process 183 = .ok (.iload_n 3, 1) := by decide +kernel
theorem dX6_process_184 : decode cX6_process 184 = .ok (.bipush 47, 2) := by decide +kernel
theorem dX6_process_186 : decode cX6_process 186 = .ok (.iload 4, 2) := by decide +kernel
theorem dX6_process_188 : decode cX6_process 188 = .ok (.iadd, 1) := by decide +kernel
theorem dX6_process_189 : decode cX6_process 189 = .ok (.invokevirtual 31, 3) := by decide +kernel
theorem dX6_process_192 : decode cX6_process 192 = .ok (.iconst 1, 1) := by decide +kernel
theorem dX6_process_193 : decode cX6_process 193 = .ok (.iload_n 1, 1) := by decide +kernel
theorem dX6_process_194 : decode cX6_process 194 = .ok (.ishl, 1) := by decide +kernel
theorem dX6_process_195 : decode cX6_process 195 = .ok (.ior, 1) := by decide +kernel
theorem dX6_process_196 : decode cX6_process 196 = .ok (.invokevirtual 84, 3) := by decide +kernel
theorem dX6_process_199 : decode cX6_process 199 = .ok (.iconst 1, 1) := by decide +kernel
theorem dX6_process_200 : decode cX6_process 200 = .ok (.ireturn, 1) := by decide +kernel
theorem dX6_deliver_0 : decode cX6_deliver 0 = .ok (.aload_n 0, 1) := by decide +kernel
theorem dX6_deliver_1 : decode cX6_deliver 1 = .ok (.aload_n 0, 1) := by decide +kernel
theorem dX6_deliver_2 : decode cX6_deliver 2 = .ok (.iload_n 1, 1) := by decide +kernel
theorem dX6_deliver_3 : decode cX6_deliver 3 = .ok (.invokevirtual 66, 3) := by decide +kernel
theorem dX6_deliver_6 : decode cX6_deliver 6 = .ok (.aload_n 0, 1) := by decide +kernel
theorem dX6_deliver_7 : decode cX6_deliver 7 = .ok (.iload_n 1, 1) := by decide +kernel
theorem dX6_deliver_8 : decode cX6_deliver 8 = .ok (.invokevirtual 66, 3) := by decide +kernel
theorem dX6_deliver_11 : decode cX6_deliver 11 = .ok (.ifCond .eq 15, 3) := by decide +kernel
theorem dX6_deliver_14 : decode cX6_deliver 14 = .ok (.aload_n 0, 1) := by decide +kernel
theorem dX6_deliver_15 : decode cX6_deliver 15 = .ok (.iload_n 1, 1) := by decide +kernel
theorem dX6_deliver_16 : decode cX6_deliver 16 = .ok (.invokevirtual 45, 3) := by decide +kernel
theorem dX6_deliver_19 : decode cX6_deliver 19 = .ok (.ifCond .eq 7, 3) := by decide +kernel
theorem dX6_deliver_22 : decode cX6_deliver 22 = .ok (.iconst 1, 1) := by decide +kernel
theorem dX6_deliver_23 : decode cX6_deliver 23 = .ok (.goto 4, 3) := by decide +kernel
theorem dX6_deliver_26 : decode cX6_deliver 26 = .ok (.iconst 0, 1) := by decide +kernel
theorem dX6_deliver_27 : decode cX6_deliver 27 = .ok (.invokevirtual 69, 3) := by decide +kernel
theorem dX6_deliver_30 : decode cX6_deliver 30 = .ok (.ifCond .ne 5, 3) := by decide +kernel
theorem dX6_deliver_33 : decode cX6_deliver 33 = .ok (.iconst 0, 1) := by decide +kernel
theorem dX6_deliver_34 : decode cX6_deliver 34 = .ok (.ireturn, 1) := by decide +kernel
theorem dX6_deliver_35 : decode cX6_deliver 35 = .ok (.aload_n 0, 1) := by decide +kernel
theorem dX6_deliver_36 : decode cX6_deliver 36 = .ok (.invokevirtual 63, 3) := by decide +kernel
theorem dX6_deliver_39 : decode cX6_deliver 39 = .ok (.aload_n 0, 1) := by decide +kernel
theorem dX6_deliver_40 : decode cX6_deliver 40 = .ok (.getfield 7, 3) := by decide +kernel
theorem dX6_deliver_43 : decode cX6_deliver 43 = .ok (.bipush 11, 2) := by decide +kernel
theorem dX6_deliver_45 : decode cX6_deliver 45 = .ok (.iload_n 1, 1) := by decide +kernel
theorem dX6_deliver_46 : decode cX6_deliver 46 = .ok (.iadd, 1) := by decide +kernel
theorem dX6_deliver_47 : decode cX6_deliver 47 = .ok (.iaload, 1) := by decide +kernel
theorem dX6_deliver_48 : decode cX6_deliver 48 = .ok (.ifCond .ne 7, 3) := by decide +kernel
theorem dX6_deliver_51 : decode cX6_deliver 51 = .ok (.iconst (-1), 1) := by decide +kernel
theorem dX6_deliver_52 : decode cX6_deliver 52 = .ok (.goto 8, 3) := by decide +kernel
theorem dX6_deliver_55 : decode cX6_deliver 55 = .ok (.aload_n 0, 1) := by decide +kernel
theorem dX6_deliver_56 : decode cX6_deliver 56 = .ok (.iload_n 1, 1) := by decide +kernel
theorem dX6_deliver_57 : decode cX6_deliver 57 = .ok (.invokevirtual 88, 3) := by decide +kernel
theorem dX6_deliver_60 : decode cX6_deliver 60 = .ok (.ireturn, 1) := by decide +kernel
theorem dX6_deliverAll_0 : decode cX6_deliverAll 0 = .ok (.aload_n 0, 1) := by decide +kernel
theorem dX6_deliverAll_1 : decode cX6_deliverAll 1 = .ok (.iconst 0, 1) := by decide +kernel
theorem dX6_deliverAll_2 : decode cX6_deliverAll 2 = .ok (.putfield 20, 3) := by decide +kernel
theorem dX6_deliverAll_5 : decode cX6_deliverAll 5 = .ok (.aload_n 0, 1) := by decide +kernel
theorem dX6_deliverAll_6 : decode cX6_deliverAll 6 = .ok (.invokevirtual 63, 3) := by decide +kernel
theorem dX6_deliverAll_9 : decode cX6_deliverAll 9 = .ok (.iconst 0, 1) := by decide +kernel
theorem dX6_deliverAll_10 : decode cX6_deliverAll 10 = .ok (.istore_n 1, 1) := by decide +kernel
theorem dX6_deliverAll_11 : decode cX6_deliverAll 11 = .ok (.iconst 1, 1) := by decide +kernel
theorem dX6_deliverAll_12 : decode cX6_deliverAll 12 = .ok (.istore_n 2, 1) := by decide +kernel
theorem dX6_deliverAll_13 : decode cX6_deliverAll 13 = .ok (.iload_n 2, 1) := by decide +kernel
theorem dX6_deliverAll_14 : decode cX6_deliverAll 14 = .ok (.ifCond .eq 56, 3) := by decide +kernel
theorem dX6_deliverAll_17 : decode cX6_deliverAll 17 = .ok (.iconst 0, 1) := by decide +kernel
theorem dX6_deliverAll_18 : decode cX6_deliverAll 18 = .ok (.istore_n 2, 1) := by decide +kernel
theorem dX6_deliverAll_19 : decode cX6_deliverAll 19 = .ok (.iconst 0, 1) := by decide +kernel
theorem dX6_deliverAll_20 : decode cX6_deliverAll 20 = .ok (.istore_n 3, 1) := by decide +kernel
theorem dX6_deliverAll_21 : decode cX6_deliverAll 21 = .ok (.iload_n 3, 1) := by decide +kernel
theorem dX6_deliverAll_22 : decode cX6_deliverAll 22 = .ok (.aload_n 0, 1) := by decide +kernel
theorem dX6_deliverAll_23 : decode cX6_deliverAll 23 = .ok (.getfield 7, 3) := by decide +kernel
theorem dX6_deliverAll_26 : decode cX6_deliverAll 26 = .ok (.iconst 0, 1) := by decide +kernel
theorem dX6_deliverAll_27 : decode cX6_deliverAll 27 = .ok (.iaload, 1) := by decide +kernel
theorem dX6_deliverAll_28 : decode cX6_deliverAll 28 = .ok (.if_icmp .ge 39, 3) := by decide +kernel
theorem dX6_deliverAll_31 : decode cX6_deliverAll 31 = .ok (.aload_n 0, 1) := by decide +kernel
theorem dX6_deliverAll_32 : decode cX6_deliverAll 32 = .ok (.iload_n 3, 1) := by decide +kernel
theorem dX6_deliverAll_33 : decode cX6_deliverAll 33 = .ok (.invokevirtual 45, 3) := by decide +kernel
theorem dX6_deliverAll_36 : decode cX6_deliverAll 36 = .ok (.ifCond .eq 25, 3) := by decide +kernel
theorem dX6_deliverAll_39 : decode cX6_deliverAll 39 = .ok (.aload_n 0, 1) := by decide +kernel
theorem dX6_deliverAll_40 : decode cX6_deliverAll 40 = .ok (.getfield 7, 3) := by decide +kernel
theorem dX6_deliverAll_43 : decode cX6_deliverAll 43 = .ok (.bipush 11, 2) := by decide +kernel
theorem dX6_deliverAll_45 : decode cX6_deliverAll 45 = .ok (.iload_n 3, 1) := by decide +kernel
theorem dX6_deliverAll_46 : decode cX6_deliverAll 46 = .ok (.iadd, 1) := by decide +kernel
theorem dX6_deliverAll_47 : decode cX6_deliverAll 47 = .ok (.iaload, 1) := by decide +kernel
theorem dX6_deliverAll_48 : decode cX6_deliverAll 48 = .ok (.ifCond .le 13, 3) := by decide +kernel
theorem dX6_deliverAll_51 : decode cX6_deliverAll 51 = .ok (.iload_n 1, 1) := by decide +kernel
theorem dX6_deliverAll_52 : decode cX6_deliverAll 52 = .ok (.aload_n 0, 1) := by decide +kernel
theorem dX6_deliverAll_53 : decode cX6_deliverAll 53 = .ok (.iload_n 3, 1) := by decide +kernel
theorem dX6_deliverAll_54 : decode cX6_deliverAll 54 = .ok (.invokevirtual 88, 3) := by decide +kernel
theorem dX6_deliverAll_57 : decode cX6_deliverAll 57 = .ok (.iadd, 1) := by decide +kernel
theorem dX6_deliverAll_58 : decode cX6_deliverAll 58 = .ok (.istore_n 1, 1) := by decide +kernel
theorem dX6_deliverAll_59 : decode cX6_deliverAll 59 = .ok (.iconst 1, 1) := by decide +kernel
theorem dX6_deliverAll_60 : decode cX6_deliverAll 60 = .ok (.istore_n 2, 1) := by decide +kernel
theorem dX6_deliverAll_61 : decode cX6_deliverAll 61 = .ok (.iinc 3 1, 3) := by decide +kernel
theorem dX6_deliverAll_64 : decode cX6_deliverAll 64 = .ok (.goto (-43), 3) := by decide +kernel
theorem dX6_deliverAll_67 : decode cX6_deliverAll 67 = .ok (.goto (-54), 3) := by decide +kernel
theorem dX6_deliverAll_70 : decode cX6_deliverAll 70 = .ok (.iload_n 1, 1) := by decide +kernel
theorem dX6_deliverAll_71 : decode cX6_deliverAll 71 = .ok (.ireturn, 1) := by decide +kernel
theorem dX6_inboxLength_0 : decode cX6_inboxLength 0 = .ok (.aload_n 0, 1) := by decide +kernel
theorem dX6_inboxLength_1 : decode cX6_inboxLength 1 = .ok (.aload_n 0, 1) := by decide +kernel
theorem dX6_inboxLength_2 : decode cX6_inboxLength 2 = .ok (.iload_n 1, 1) := by decide +kernel
theorem dX6_inboxLength_3 : decode cX6_inboxLength 3 = .ok (.invokevirtual 66, 3) := by decide +kernel
theorem dX6_inboxLength_6 : decode cX6_inboxLength 6 = .ok (.iconst 1, 1) := by decide +kernel
theorem dX6_inboxLength_7 : decode cX6_inboxLength 7 = .ok (.invokevirtual 69, 3) := by decide +kernel
theorem dX6_inboxLength_10 : decode cX6_inboxLength 10 = .ok (.ifCond .eq 15, 3) := by decide +kernel
theorem dX6_inboxLength_13 : decode cX6_inboxLength 13 = .ok (.aload_n 0, 1) := by decide +kernel
theorem dX6_inboxLength_14 : decode cX6_inboxLength 14 = .ok (.getfield 7, 3) := by decide +kernel
theorem dX6_inboxLength_17 : decode cX6_inboxLength 17 = .ok (.bipush 11, 2) := by decide +kernel
theorem dX6_inboxLength_19 : decode cX6_inboxLength 19 = .ok (.iload_n 1, 1) := by decide +kernel
theorem dX6_inboxLength_20 : decode cX6_inboxLength 20 = .ok (.iadd, 1) := by decide +kernel
theorem dX6_inboxLength_21 : decode cX6_inboxLength 21 = .ok (.iaload, 1) := by decide +kernel
theorem dX6_inboxLength_22 : decode cX6_inboxLength 22 = .ok (.goto 4, 3) := by decide +kernel
theorem dX6_inboxLength_25 : decode cX6_inboxLength 25 = .ok (.iconst 0, 1) := by decide +kernel
theorem dX6_inboxLength_26 : decode cX6_inboxLength 26 = .ok (.ireturn, 1) := by decide +kernel
theorem dX6_weight_0 : decode cX6_weight 0 = .ok (.aload_n 0, 1) := by decide +kernel
theorem dX6_weight_1 : decode cX6_weight 1 = .ok (.aload_n 0, 1) := by decide +kernel
theorem dX6_weight_2 : decode cX6_weight 2 = .ok (.iload_n 1, 1) := by decide +kernel
theorem dX6_weight_3 : decode cX6_weight 3 = .ok (.invokevirtual 66, 3) := by decide +kernel
theorem dX6_weight_6 : decode cX6_weight 6 = .ok (.iconst 1, 1) := by decide +kernel
theorem dX6_weight_7 : decode cX6_weight 7 = .ok (.invokevirtual 69, 3) := by decide +kernel
theorem dX6_weight_10 : decode cX6_weight 10 = .ok (.ifCond .eq 11, 3) := by decide +kernel
theorem dX6_weight_13 : decode cX6_weight 13 = .ok (.aload_n 0, 1) := by decide +kernel
theorem dX6_weight_14 : decode cX6_weight 14 = .ok (.iload_n 1, 1) := by decide +kernel
theorem dX6_weight_15 : decode cX6_weight 15 = .ok (.invokevirtual 53, 3) := by decide +kernel
theorem dX6_weight_18 : decode cX6_weight 18 = .ok (.goto 4, 3) := by decide +kernel
theorem dX6_weight_21 : decode cX6_weight 21 = .ok (.iconst 0, 1) := by decide +kernel
theorem dX6_weight_22 : decode cX6_weight 22 = .ok (.ireturn, 1) := by decide +kernel
theorem dX6_shareOf_0 : decode cX6_shareOf 0 = .ok (.iconst 0, 1) := by decide +kernel
theorem dX6_shareOf_1 : decode cX6_shareOf 1 = .ok (.istore_n 2, 1) := by decide +kernel
theorem dX6_shareOf_2 : decode cX6_shareOf 2 = .ok (.iconst 0, 1) := by decide +kernel
theorem dX6_shareOf_3 : decode cX6_shareOf 3 = .ok (.istore_n 3, 1) := by decide +kernel
theorem dX6_shareOf_4 : decode cX6_shareOf 4 = .ok (.iload_n 3, 1) := by decide +kernel
theorem dX6_shareOf_5 : decode cX6_shareOf 5 = .ok (.aload_n 0, 1) := by decide +kernel
theorem dX6_shareOf_6 : decode cX6_shareOf 6 = .ok (.getfield 7, 3) := by decide +kernel
theorem dX6_shareOf_9 : decode cX6_shareOf 9 = .ok (.iconst 0, 1) := by decide +kernel
theorem dX6_shareOf_10 : decode cX6_shareOf 10 = .ok (.iaload, 1) := by decide +kernel
theorem dX6_shareOf_11 : decode cX6_shareOf 11 = .ok (.if_icmp .ge 17, 3) := by decide +kernel
theorem dX6_shareOf_14 : decode cX6_shareOf 14 = .ok (.iload_n 2, 1) := by decide +kernel
theorem dX6_shareOf_15 : decode cX6_shareOf 15 = .ok (.aload_n 0, 1) := by decide +kernel
theorem dX6_shareOf_16 : decode cX6_shareOf 16 = .ok (.iload_n 3, 1) := by decide +kernel
theorem dX6_shareOf_17 : decode cX6_shareOf 17 = .ok (.invokevirtual 53, 3) := by decide +kernel
theorem dX6_shareOf_20 : decode cX6_shareOf 20 = .ok (.iadd, 1) := by decide +kernel
theorem dX6_shareOf_21 : decode cX6_shareOf 21 = .ok (.istore_n 2, 1) := by decide +kernel
theorem dX6_shareOf_22 : decode cX6_shareOf 22 = .ok (.iinc 3 1, 3) := by decide +kernel
theorem dX6_shareOf_25 : decode cX6_shareOf 25 = .ok (.goto (-21), 3) := by decide +kernel
theorem dX6_shareOf_28 : decode cX6_shareOf 28 = .ok (.iload_n 2, 1) := by decide +kernel
theorem dX6_shareOf_29 : decode cX6_shareOf 29 = .ok (.ifCond .ne 7, 3) := by decide +kernel
theorem dX6_shareOf_32 : decode cX6_shareOf 32 = .ok (.fconst 0, 1) := by decide +kernel
theorem dX6_shareOf_33 : decode cX6_shareOf 33 = .ok (.goto 12, 3) := by decide +kernel
theorem dX6_shareOf_36 : decode cX6_shareOf 36 = .ok (.aload_n 0, 1) := by decide +kernel
theorem dX6_shareOf_37 : decode cX6_shareOf 37 = .ok (.iload_n 1, 1) := by decide +kernel
theorem dX6_shareOf_38 : decode cX6_shareOf 38 = .ok (.invokevirtual 53, 3) := by decide +kernel
theorem dX6_shareOf_41 : decode cX6_shareOf 41 = .ok (.i2f, 1) := by decide +kernel
theorem dX6_shareOf_42 : decode cX6_shareOf 42 = .ok (.iload_n 2, 1) := by decide +kernel
theorem dX6_shareOf_43 : decode cX6_shareOf 43 = .ok (.i2f, 1) := by decide +kernel
theorem dX6_shareOf_44 : decode cX6_shareOf 44 = .ok (.fdiv, 1) := by decide +kernel
theorem dX6_shareOf_45 : decode cX6_shareOf 45 = .ok (.freturn, 1) := by decide +kernel
theorem dX6_share_0 : decode cX6_share 0 = .ok (.aload_n 0, 1) := by decide +kernel
theorem dX6_share_1 : decode cX6_share 1 = .ok (.aload_n 0, 1) := by decide +kernel
theorem dX6_share_2 : decode cX6_share 2 = .ok (.iload_n 1, 1) := by decide +kernel
theorem dX6_share_3 : decode cX6_share 3 = .ok (.invokevirtual 66, 3) := by decide +kernel
theorem dX6_share_6 : decode cX6_share 6 = .ok (.iconst 1, 1) := by decide +kernel
theorem dX6_share_7 : decode cX6_share 7 = .ok (.invokevirtual 69, 3) := by decide +kernel
theorem dX6_share_10 : decode cX6_share 10 = .ok (.ifCond .eq 11, 3) := by decide +kernel
theorem dX6_share_13 : decode cX6_share 13 = .ok (.aload_n 0, 1) := by decide +kernel
theorem dX6_share_14 : decode cX6_share 14 = .ok (.iload_n 1, 1) := by decide +kernel
theorem dX6_share_15 : decode cX6_share 15 = .ok (.invokevirtual 91, 3) := by decide +kernel
theorem dX6_share_18 : decode cX6_share 18 = .ok (.goto 4, 3) := by decide +kernel
theorem dX6_share_21 : decode cX6_share 21 = .ok (.fconst 0, 1) := by decide +kernel
theorem dX6_share_22 : decode cX6_share 22 = .ok (.freturn, 1) := by decide +kernel
theorem dX6_isFenced_0 : decode cX6_isFenced 0 = .ok (.aload_n 0, 1) := by decide +kernel
theorem dX6_isFenced_1 : decode cX6_isFenced 1 = .ok (.aload_n 0, 1) := by decide +kernel
theorem dX6_isFenced_2 : decode cX6_isFenced 2 = .ok (.iload_n 1, 1) := by decide +kernel
theorem dX6_isFenced_3 : decode cX6_isFenced 3 = .ok (.invokevirtual 66, 3) := by decide +kernel
theorem dX6_isFenced_6 : decode cX6_isFenced 6 = .ok (.ifCond .eq 15, 3) := by decide +kernel
theorem dX6_isFenced_9 : decode cX6_isFenced 9 = .ok (.aload_n 0, 1) := by decide +kernel
theorem dX6_isFenced_10 : decode cX6_isFenced 10 = .ok (.iload_n 2, 1) := by decide +kernel
theorem dX6_isFenced_11 : decode cX6_isFenced 11 = .ok (.invokevirtual 95, 3) := by decide +kernel
theorem dX6_isFenced_14 : decode cX6_isFenced 14 = .ok (.ifCond .eq 7, 3) := by decide +kernel
theorem dX6_isFenced_17 : decode cX6_isFenced 17 = .ok (.iconst 1, 1) := by decide +kernel
theorem dX6_isFenced_18 : decode cX6_isFenced 18 = .ok (.goto 4, 3) := by decide +kernel
theorem dX6_isFenced_21 : decode cX6_isFenced 21 = .ok (.iconst 0, 1) := by decide +kernel
theorem dX6_isFenced_22 : decode cX6_isFenced 22 = .ok (.iconst 1, 1) := by decide +kernel
theorem dX6_isFenced_23 : decode cX6_isFenced 23 = .ok (.invokevirtual 69, 3) := by decide +kernel
theorem dX6_isFenced_26 : decode cX6_isFenced 26 = .ok (.ifCond .eq 25, 3) := by decide +kernel
theorem dX6_isFenced_29 : decode cX6_isFenced 29 = .ok (.aload_n 0, 1) := by decide +kernel
theorem dX6_isFenced_30 : decode cX6_isFenced 30 = .ok (.getfield 7, 3) := by decide +kernel
theorem dX6_isFenced_33 : decode cX6_isFenced 33 = .ok (.sipush 2099, 3) := by decide +kernel
theorem dX6_isFenced_36 : decode cX6_isFenced 36 = .ok (.iconst 4, 1) := by decide +kernel
theorem dX6_isFenced_37 : decode cX6_isFenced 37 = .ok (.iload_n 1, 1) := by decide +kernel
theorem dX6_isFenced_38 : decode cX6_isFenced 38 = .ok (.imul, 1) := by decide +kernel
theorem dX6_isFenced_39 : decode cX6_isFenced 39 = .ok (.iadd, 1) := by decide +kernel
theorem dX6_isFenced_40 : decode cX6_isFenced 40 = .ok (.iload_n 2, 1) := by decide +kernel
theorem dX6_isFenced_41 : decode cX6_isFenced 41 = .ok (.iadd, 1) := by decide +kernel
theorem dX6_isFenced_42 : decode cX6_isFenced 42 = .ok (.iaload, 1) := by decide +kernel
theorem dX6_isFenced_43 : decode cX6_isFenced 43 = .ok (.iconst 1, 1) := by decide +kernel
theorem dX6_isFenced_44 : decode cX6_isFenced 44 = .ok (.if_icmp .ne 7, 3) := by decide +kernel
theorem dX6_isFenced_47 : decode cX6_isFenced 47 = .ok (.iconst 1, 1) := by decide +kernel
theorem dX6_isFenced_48 : decode cX6_isFenced 48 = .ok (.goto 4, 3) := by decide +kernel
theorem dX6_isFenced_51 : decode cX6_isFenced 51 = .ok (.iconst 0, 1) := by decide +kernel
theorem dX6_isFenced_52 : decode cX6_isFenced 52 = .ok (.ireturn, 1) := by decide +kernel
theorem dX6_rejections_0 : decode cX6_rejections 0 = .ok (.aload_n 0, 1) := by decide +kernel
theorem dX6_rejections_1 : decode cX6_rejections 1 = .ok (.iconst 0, 1) := by decide +kernel
theorem dX6_rejections_2 : decode cX6_rejections 2 = .ok (.putfield 20, 3) := by decide +kernel
theorem dX6_rejections_5 : decode cX6_rejections 5 = .ok (.aload_n 0, 1) := by decide +kernel
theorem dX6_rejections_6 : decode cX6_rejections 6 = .ok (.getfield 7, 3) := by decide +kernel
theorem dX6_rejections_9 : decode cX6_rejections 9 = .ok (.iconst 2, 1) := by decide +kernel
theorem dX6_rejections_10 : decode cX6_rejections 10 = .ok (.iaload, 1) := by decide +kernel
theorem dX6_rejections_11 : decode cX6_rejections 11 = .ok (.ireturn, 1) := by decide +kernel
theorem dX6_ups_0 : decode cX6_ups 0 = .ok (.iconst 0, 1) := by decide +kernel
theorem dX6_ups_1 : decode cX6_ups 1 = .ok (.istore_n 1, 1) := by decide +kernel
theorem dX6_ups_2 : decode cX6_ups 2 = .ok (.iconst 0, 1) := by decide +kernel
theorem dX6_ups_3 : decode cX6_ups 3 = .ok (.istore_n 2, 1) := by decide +kernel
theorem dX6_ups_4 : decode cX6_ups 4 = .ok (.iload_n 2, 1) := by decide +kernel
theorem dX6_ups_5 : decode cX6_ups 5 = .ok (.aload_n 0, 1) := by decide +kernel
theorem dX6_ups_6 : decode cX6_ups 6 = .ok (.getfield 7, 3) := by decide +kernel
theorem dX6_ups_9 : decode cX6_ups 9 = .ok (.iconst 0, 1) := by decide +kernel
theorem dX6_ups_10 : decode cX6_ups 10 = .ok (.iaload, 1) := by decide +kernel
theorem dX6_ups_11 : decode cX6_ups 11 = .ok (.if_icmp .ge 20, 3) := by decide +kernel
theorem dX6_ups_14 : decode cX6_ups 14 = .ok (.iload_n 1, 1) := by decide +kernel
theorem dX6_ups_15 : decode cX6_ups 15 = .ok (.aload_n 0, 1) := by decide +kernel
theorem dX6_ups_16 : decode cX6_ups 16 = .ok (.getfield 7, 3) := by decide +kernel
theorem dX6_ups_19 : decode cX6_ups 19 = .ok (.iconst 3, 1) := by decide +kernel
theorem dX6_ups_20 : decode cX6_ups 20 = .ok (.iload_n 2, 1) := by decide +kernel
theorem dX6_ups_21 : decode cX6_ups 21 = .ok (.iadd, 1) := by decide +kernel
theorem dX6_ups_22 : decode cX6_ups 22 = .ok (.iaload, 1) := by decide +kernel
theorem dX6_ups_23 : decode cX6_ups 23 = .ok (.iadd, 1) := by decide +kernel
theorem dX6_ups_24 : decode cX6_ups 24 = .ok (.istore_n 1, 1) := by decide +kernel
theorem dX6_ups_25 : decode cX6_ups 25 = .ok (.iinc 2 1, 3) := by decide +kernel
theorem dX6_ups_28 : decode cX6_ups 28 = .ok (.goto (-24), 3) := by decide +kernel
theorem dX6_ups_31 : decode cX6_ups 31 = .ok (.iload_n 1, 1) := by decide +kernel
theorem dX6_ups_32 : decode cX6_ups 32 = .ok (.ireturn, 1) := by decide +kernel
theorem dX6_createLedger_0 : decode cX6_createLedger 0 = .ok (.iload_n 1, 1) := by decide +kernel
theorem dX6_createLedger_1 : decode cX6_createLedger 1 = .ok (.iconst 1, 1) := by decide +kernel
theorem dX6_createLedger_2 : decode cX6_createLedger 2 = .ok (.iconst 5, 1) := by decide +kernel
theorem dX6_createLedger_3 : decode cX6_createLedger 3 = .ok (.invokestatic 23, 3) := by decide +kernel
theorem dX6_createLedger_6 : decode cX6_createLedger 6 = .ok (.ifCond .eq 25, 3) := by decide +kernel
theorem dX6_createLedger_9 : decode cX6_createLedger 9 = .ok (.iload_n 2, 1) := by decide +kernel
theorem dX6_createLedger_10 : decode cX6_createLedger 10 = .ok (.iconst 1, 1) := by decide +kernel
theorem dX6_createLedger_11 : decode cX6_createLedger 11 = .ok (.iload_n 1, 1) := by decide +kernel
theorem dX6_createLedger_12 : decode cX6_createLedger 12 = .ok (.invokestatic 23, 3) := by decide +kernel
theorem dX6_createLedger_15 : decode cX6_createLedger 15 = .ok (.ifCond .eq 16, 3) := by decide +kernel
theorem dX6_createLedger_18 : decode cX6_createLedger 18 = .ok (.iload_n 3, 1) := by decide +kernel
theorem dX6_createLedger_19 : decode cX6_createLedger 19 = .ok (.iconst 1, 1) := by decide +kernel
theorem dX6_createLedger_20 : decode cX6_createLedger 20 = .ok (.iload_n 2, 1) := by decide +kernel
theorem dX6_createLedger_21 : decode cX6_createLedger 21 = .ok (.invokestatic 23, 3) := by decide +kernel
theorem dX6_createLedger_24 : decode cX6_createLedger 24 = .ok (.ifCond .eq 7, 3) := by decide +kernel
theorem dX6_createLedger_27 : decode cX6_createLedger 27 = .ok (.iconst 1, 1) := by decide +kernel
theorem dX6_createLedger_28 : decode cX6_createLedger 28 = .ok (.goto 4, 3) := by decide +kernel
theorem dX6_createLedger_31 : decode cX6_createLedger 31 = .ok (.iconst 0, 1) := by decide +kernel
theorem dX6_createLedger_32 : decode cX6_createLedger 32 = .ok (.istore 4, 2) := by decide +kernel
theorem dX6_createLedger_34 : decode cX6_createLedger 34 = .ok (.aload_n 0, 1) := by decide +kernel
theorem dX6_createLedger_35 : decode cX6_createLedger 35 = .ok (.iload 4, 2) := by decide +kernel
theorem dX6_createLedger_37 : decode cX6_createLedger 37 = .ok (.aload_n 0, 1) := by decide +kernel
theorem dX6_createLedger_38 : decode cX6_createLedger 38 = .ok (.getfield 7, 3) := by decide +kernel
theorem dX6_createLedger_41 : decode cX6_createLedger 41 = .ok (.iconst 1, 1) := by decide +kernel
theorem dX6_createLedger_42 : decode cX6_createLedger 42 = .ok (.iaload, 1) := by decide +kernel
theorem dX6_createLedger_43 : decode cX6_createLedger 43 = .ok (.iconst 4, 1) := by decide +kernel
theorem dX6_createLedger_44 : decode cX6_createLedger 44 = .ok (.if_icmp .ge 15, 3) := by decide +kernel
theorem dX6_createLedger_47 : decode cX6_createLedger 47 = .ok (.aload_n 0, 1) := by decide +kernel
theorem dX6_createLedger_48 : decode cX6_createLedger 48 = .ok (.invokevirtual 98, 3) := by decide +kernel
theorem dX6_createLedger_51 : decode cX6_createLedger 51 = .ok (.iload_n 1, 1) := by decide +kernel
theorem dX6_createLedger_52 : decode cX6_createLedger 52 = .ok (.if_icmp .lt 7, 3) := by decide +kernel
theorem dX6_createLedger_55 : decode cX6_createLedger 55 = .ok (.iconst 1, 1) := by decide +kernel
theorem dX6_createLedger_56 : decode cX6_createLedger 56 = .ok (.goto 4, 3) := by decide +kernel
theorem dX6_createLedger_59 : decode cX6_createLedger 59 = .ok (.iconst 0, 1) := by decide +kernel
theorem dX6_createLedger_60 : decode cX6_createLedger 60 = .ok (.invokevirtual 69, 3) := by decide +kernel
theorem dX6_createLedger_63 : decode cX6_createLedger 63 = .ok (.ifCond .ne 5, 3) := by decide +kernel
theorem dX6_createLedger_66 : decode cX6_createLedger 66 = .ok (.iconst 0, 1) := by decide +kernel
theorem dX6_createLedger_67 : decode cX6_createLedger 67 = .ok (.ireturn, 1) := by decide +kernel
theorem dX6_createLedger_68 : decode cX6_createLedger 68 = .ok (.aload_n 0, 1) := by decide +kernel
theorem dX6_createLedger_69 : decode cX6_createLedger 69 = .ok (.invokevirtual 63, 3) := by decide +kernel
theorem dX6_createLedger_72 : decode cX6_createLedger 72 = .ok (.aload_n 0, 1) := by decide +kernel
theorem dX6_createLedger_73 : decode cX6_createLedger 73 = .ok (.getfield 7, 3) := by decide +kernel
theorem dX6_createLedger_76 : decode cX6_createLedger 76 = .ok (.iconst 1, 1) := by decide +kernel
theorem dX6_createLedger_77 : decode cX6_createLedger 77 = .ok (.iaload, 1) := by decide +kernel
theorem dX6_createLedger_78 : decode cX6_createLedger 78 = .ok (.istore 5, 2) := by decide +kernel
theorem dX6_createLedger_80 : decode cX6_createLedger 80 = .ok (.aload_n 0, 1) := by decide +kernel
theorem dX6_createLedger_81 : decode cX6_createLedger 81 = .ok (.getfield 7, 3) := by decide +kernel
theorem dX6_createLedger_84 : decode cX6_createLedger 84 = .ok (.iconst 1, 1) := by decide +kernel
theorem dX6_createLedger_85 : decode cX6_createLedger 85 = .ok (.dup2, 1) := by decide +kernel
theorem dX6_createLedger_86 : decode cX6_createLedger 86 = .ok (.iaload, 1) := by decide +kernel
theorem dX6_createLedger_87 : decode cX6_createLedger 87 = .ok (.iconst 1, 1) := by decide +kernel
theorem dX6_createLedger_88 : decode cX6_createLedger 88 = .ok (.iadd, 1) := by decide +kernel
theorem dX6_createLedger_89 : decode cX6_createLedger 89 = .ok (.iastore, 1) := by decide +kernel
theorem dX6_createLedger_90 : decode cX6_createLedger 90 = .ok (.aload_n 0, 1) := by decide +kernel
theorem dX6_createLedger_91 : decode cX6_createLedger 91 = .ok (.iload 5, 2) := by decide +kernel
theorem dX6_createLedger_93 : decode cX6_createLedger 93 = .ok (.iconst 0, 1) := by decide +kernel
theorem dX6_createLedger_94 : decode cX6_createLedger 94 = .ok (.iload_n 1, 1) := by decide +kernel
theorem dX6_createLedger_95 : decode cX6_createLedger 95 = .ok (.invokevirtual 84, 3) := by decide +kernel
theorem dX6_createLedger_98 : decode cX6_createLedger 98 = .ok (.aload_n 0, 1) := by decide +kernel
theorem dX6_createLedger_99 : decode cX6_createLedger 99 = .ok (.iload 5, 2) := by decide +kernel
theorem dX6_createLedger_101 : decode cX6_createLedger 101 = .ok (.iconst 1, 1) := by decide +kernel
theorem dX6_createLedger_102 : decode cX6_createLedger 102 = .ok (.iload_n 2, 1) := by decide +kernel
theorem dX6_createLedger_103 : decode cX6_createLedger 103 = .ok (.invokevirtual 84, 3) := by decide +kernel
theorem dX6_createLedger_106 : decode cX6_createLedger 106 = .ok (.aload_n 0, 1) := by decide +kernel
theorem dX6_createLedger_107 : decode cX6_createLedger 107 = .ok (.iload 5, 2) := by decide +kernel
theorem dX6_createLedger_109 : decode cX6_createLedger 109 = .ok (.iconst 2, 1) := by decide +kernel
theorem dX6_createLedger_110 : decode cX6_createLedger 110 = .ok (.iload_n 3, 1) := by decide +kernel
theorem dX6_createLedger_111 : decode cX6_createLedger 111 = .ok (.invokevirtual 84, 3) := by decide +kernel
theorem dX6_createLedger_114 : decode cX6_createLedger 114 = .ok (.aload_n 0, 1) := by decide +kernel
theorem dX6_createLedger_115 : decode cX6_createLedger 115 = .ok (.iload 5, 2) := by decide +kernel
theorem dX6_createLedger_117 : decode cX6_createLedger 117 = .ok (.iconst 5, 1) := by decide +kernel
theorem dX6_createLedger_118 : decode cX6_createLedger 118 = .ok (.iconst (-1), 1) := by decide +kernel
theorem dX6_createLedger_119 : decode cX6_createLedger 119 = .ok (.invokevirtual 84, 3) := by decide +kernel
theorem dX6_createLedger_122 : decode cX6_createLedger 122 = .ok (.aload_n 0, 1) := by decide +kernel
theorem dX6_createLedger_123 : decode cX6_createLedger 123 = .ok (.iload 5, 2) := by decide +kernel
theorem dX6_createLedger_125 : decode cX6_createLedger 125 = .ok (.bipush 6, 2) := by decide +kernel
theorem dX6_createLedger_127 : decode cX6_createLedger 127 = .ok (.iconst 1, 1) := by decide +kernel
theorem dX6_createLedger_128 : decode cX6_createLedger 128 = .ok (.invokevirtual 84, 3) := by decide +kernel
theorem dX6_createLedger_131 : decode cX6_createLedger 131 = .ok (.iconst 0, 1) := by decide +kernel
theorem dX6_createLedger_132 : decode cX6_createLedger 132 = .ok (.istore 6, 2) := by decide +kernel
theorem dX6_createLedger_134 : decode cX6_createLedger 134 = .ok (.iconst 0, 1) := by decide +kernel
theorem dX6_createLedger_135 : decode cX6_createLedger 135 = .ok (.istore 7, 2) := by decide +kernel
theorem dX6_createLedger_137 : decode cX6_createLedger 137 = .ok (.iload 7, 2) := by decide +kernel
theorem dX6_createLedger_139 : decode cX6_createLedger 139 = .ok (.iload_n 1, 1) := by decide +kernel
theorem dX6_createLedger_140 : decode cX6_createLedger 140 = .ok (.if_icmp .ge 40, 3) := by decide +kernel
theorem dX6_createLedger_143 : decode cX6_createLedger 143 = .ok (.aload_n 0, 1) := by decide +kernel
theorem dX6_createLedger_144 : decode cX6_createLedger 144 = .ok (.iload 6, 2) := by decide +kernel
theorem dX6_createLedger_146 : decode cX6_createLedger 146 = .ok (.invokevirtual 102, 3) := by decide +kernel
theorem dX6_createLedger_149 : decode cX6_createLedger 149 = .ok (.istore 8, 2) := by decide +kernel
theorem dX6_createLedger_151 : decode cX6_createLedger 151 = .ok (.aload_n 0, 1) := by decide +kernel
theorem dX6_createLedger_152 : decode cX6_createLedger 152 = .ok (.iload 5, 2) := by decide +kernel
theorem dX6_createLedger_154 : decode cX6_createLedger 154 = .ok (.sipush 128, 3) := by decide +kernel
theorem dX6_createLedger_157 : decode cX6_createLedger 157 = .ok (.iload 7, 2) := by decide +kernel
theorem dX6_createLedger_159 : decode cX6_createLedger 159 = .ok (.iadd, 1) := by decide +kernel
theorem dX6_createLedger_160 : decode cX6_createLedger 160 = .ok (.iload 8, 2) := by decide +kernel
theorem dX6_createLedger_162 : decode cX6_createLedger 162 = .ok (.invokevirtual 84, 3) := by decide +kernel
theorem dX6_createLedger_165 : decode cX6_createLedger 165 = .ok (.iload 6, 2) := by decide +kernel
theorem dX6_createLedger_167 : decode cX6_createLedger 167 = .ok (.iconst 1, 1) := by decide +kernel
theorem dX6_createLedger_168 : decode cX6_createLedger 168 = .ok (.iload 8, 2) := by decide +kernel
theorem dX6_createLedger_170 : decode cX6_createLedger 170 = .ok (.ishl, 1) := by decide +kernel
theorem dX6_createLedger_171 : decode cX6_createLedger 171 = .ok (.ior, 1) := by decide +kernel
theorem dX6_createLedger_172 : decode cX6_createLedger 172 = .ok (.istore 6, 2) := by decide +kernel
theorem dX6_createLedger_174 : decode cX6_createLedger 174 = .ok (.iinc 7 1, 3) := by decide +kernel
theorem dX6_createLedger_177 : decode cX6_createLedger 177 = .ok (.goto (-40), 3) := by decide +kernel
theorem dX6_createLedger_180 : decode cX6_createLedger 180 = .ok (.iload 5, 2) := by decide +kernel
theorem dX6_createLedger_182 : decode cX6_createLedger 182 = .ok (.ireturn, 1) := by decide +kernel
theorem dX6_append_0 : decode cX6_append 0 = .ok (.aload_n 0, 1) := by decide +kernel
theorem dX6_append_1 : decode cX6_append 1 = .ok (.iload_n 1, 1) := by decide +kernel
theorem dX6_append_2 : decode cX6_append 2 = .ok (.invokevirtual 95, 3) := by decide +kernel
theorem dX6_append_5 : decode cX6_append 5 = .ok (.ifCond .eq 18, 3) := by decide +kernel
theorem dX6_append_8 : decode cX6_append 8 = .ok (.iload_n 2, 1) := by decide +kernel
theorem dX6_append_9 : decode cX6_append 9 = .ok (.iconst 0, 1) := by decide +kernel
theorem dX6_append_10 : decode cX6_append 10 = .ok (.sipush 999, 3) := by decide +kernel
theorem dX6_append_13 : decode cX6_append 13 = .ok (.invokestatic 23, 3) := by decide +kernel
theorem dX6_append_16 : decode cX6_append 16 = .ok (.ifCond .eq 7, 3) := by decide +kernel
theorem dX6_append_19 : decode cX6_append 19 = .ok (.iconst 1, 1) := by decide +kernel
theorem dX6_append_20 : decode cX6_append 20 = .ok (.goto 4, 3) := by decide +kernel
theorem dX6_append_23 : decode cX6_append 23 = .ok (.iconst 0, 1) := by decide +kernel
theorem dX6_append_24 : decode cX6_append 24 = .ok (.istore_n 3, 1) := by decide +kernel
theorem dX6_append_25 : decode cX6_append 25 = .ok (.aload_n 0, 1) := by decide +kernel
theorem dX6_append_26 : decode cX6_append 26 = .ok (.iload_n 3, 1) := by decide +kernel
theorem dX6_append_27 : decode cX6_append 27 = .ok (.iload_n 3, 1) := by decide +kernel
theorem dX6_append_28 : decode cX6_append 28 = .ok (.ifCond .eq 27, 3) := by decide +kernel
theorem dX6_append_31 : decode cX6_append 31 = .ok (.aload_n 0, 1) := by decide +kernel
theorem dX6_append_32 : decode cX6_append 32 = .ok (.iload_n 1, 1) := by decide +kernel
theorem dX6_append_33 : decode cX6_append 33 = .ok (.iconst 3, 1) := by decide +kernel
theorem dX6_append_34 : decode cX6_append 34 = .ok (.invokevirtual 31, 3) := by decide +kernel
theorem dX6_append_37 : decode cX6_append 37 = .ok (.ifCond .ne 18, 3) := by decide +kernel
theorem dX6_append_40 : decode cX6_append 40 = .ok (.aload_n 0, 1) := by decide +kernel
theorem dX6_append_41 : decode cX6_append 41 = .ok (.iload_n 1, 1) := by decide +kernel
theorem dX6_append_42 : decode cX6_append 42 = .ok (.iconst 4, 1) := by decide +kernel
theorem dX6_append_43 : decode cX6_append 43 = .ok (.invokevirtual 31, 3) := by decide +kernel
theorem dX6_append_46 : decode cX6_append 46 = .ok (.bipush 40, 2) := by decide +kernel
theorem dX6_append_48 : decode cX6_append 48 = .ok (.if_icmp .ge 7, 3) := by decide +kernel
theorem dX6_append_51 : decode cX6_append 51 = .ok (.iconst 1, 1) := by decide +kernel
theorem dX6_append_52 : decode cX6_append 52 = .ok (.goto 4, 3) := by decide +kernel
theorem dX6_append_55 : decode cX6_append 55 = .ok (.iconst 0, 1) := by decide +kernel
theorem dX6_append_56 : decode cX6_append 56 = .ok (.invokevirtual 69, 3) := by decide +kernel
theorem dX6_append_59 : decode cX6_append 59 = .ok (.ifCond .ne 5, 3) := by decide +kernel
theorem dX6_append_62 : decode cX6_append 62 = .ok (.iconst 0, 1) := by decide +kernel
theorem dX6_append_63 : decode cX6_append 63 = .ok (.ireturn, 1) := by decide +kernel
theorem dX6_append_64 : decode cX6_append 64 = .ok (.aload_n 0, 1) := by decide +kernel
theorem dX6_append_65 : decode cX6_append 65 = .ok (.invokevirtual 63, 3) := by decide +kernel
theorem dX6_append_68 : decode cX6_append 68 = .ok (.aload_n 0, 1) := by decide +kernel
theorem dX6_append_69 : decode cX6_append 69 = .ok (.iload_n 1, 1) := by decide +kernel
theorem dX6_append_70 : decode cX6_append 70 = .ok (.iconst 4, 1) := by decide +kernel
theorem dX6_append_71 : decode cX6_append 71 = .ok (.invokevirtual 31, 3) := by decide +kernel
theorem dX6_append_74 : decode cX6_append 74 = .ok (.istore 4, 2) := by decide +kernel
theorem dX6_append_76 : decode cX6_append 76 = .ok (.aload_n 0, 1) := by decide +kernel
theorem dX6_append_77 : decode cX6_append 77 = .ok (.iload_n 1, 1) := by decide +kernel
theorem dX6_append_78 : decode cX6_append 78 = .ok (.invokevirtual 60, 3) := by decide +kernel
theorem dX6_append_81 : decode cX6_append 81 = .ok (.istore 5, 2) := by decide +kernel
theorem dX6_append_83 : decode cX6_append 83 = .ok (.aload_n 0, 1) := by decide +kernel
theorem dX6_append_84 : decode cX6_append 84 = .ok (.iload_n 1, 1) := by decide +kernel
theorem dX6_append_85 : decode cX6_append 85 = .ok (.bipush 7, 2) := by decide +kernel
theorem dX6_append_87 : decode cX6_append 87 = .ok (.iload 4, 2) := by decide +kernel
theorem dX6_append_89 : decode cX6_append 89 = .ok (.iadd, 1) := by decide +kernel
theorem dX6_append_90 : decode cX6_append 90 = .ok (.iload_n 2, 1) := by decide +kernel
theorem dX6_append_91 : decode cX6_append 91 = .ok (.invokevirtual 84, 3) := by decide +kernel
theorem dX6_append_94 : decode cX6_append 94 = .ok (.aload_n 0, 1) := by decide +kernel
theorem dX6_append_95 : decode cX6_append 95 = .ok (.iload_n 1, 1) := by decide +kernel
theorem dX6_append_96 : decode cX6_append 96 = .ok (.bipush 47, 2) := by decide +kernel
theorem dX6_append_98 : decode cX6_append 98 = .ok (.iload 4, 2) := by decide +kernel
theorem dX6_append_100 : decode cX6_append 100 = .ok (.iadd, 1) := by decide +kernel
theorem dX6_append_101 : decode cX6_append 101 = .ok (.iconst 0, 1) := by decide +kernel
theorem dX6_append_102 : decode cX6_append 102 = .ok (.invokevirtual 84, 3) := by decide +kernel
theorem dX6_append_105 : decode cX6_append 105 = .ok (.aload_n 0, 1) := by decide +kernel
theorem dX6_append_106 : decode cX6_append 106 = .ok (.iload_n 1, 1) := by decide +kernel
theorem dX6_append_107 : decode cX6_append 107 = .ok (.iconst 4, 1) := by decide +kernel
theorem dX6_append_108 : decode cX6_append 108 = .ok (.iload 4, 2) := by decide +kernel
theorem dX6_append_110 : decode cX6_append 110 = .ok (.iconst 1, 1) := by decide +kernel
theorem dX6_append_111 : decode cX6_append 111 = .ok (.iadd, 1) := by decide +kernel
theorem dX6_append_112 : decode cX6_append 112 = .ok (.invokevirtual 84, 3) := by decide +kernel
theorem dX6_append_115 : decode cX6_append 115 = .ok (.iconst 0, 1) := by decide +kernel
theorem dX6_append_116 : decode cX6_append 116 = .ok (.istore 6, 2) := by decide +kernel
theorem dX6_append_118 : decode cX6_append 118 = .ok (.iload 6, 2) := by decide +kernel
theorem dX6_append_120 : decode cX6_append 120 = .ok (.aload_n 0, 1) := by decide +kernel
theorem dX6_append_121 : decode cX6_append 121 = .ok (.iload_n 1, 1) := by decide +kernel
theorem dX6_append_122 : decode cX6_append 122 = .ok (.iconst 1, 1) := by decide +kernel
theorem dX6_append_123 : decode cX6_append 123 = .ok (.invokevirtual 31, 3) := by decide +kernel
theorem dX6_append_126 : decode cX6_append 126 = .ok (.if_icmp .ge 34, 3) := by decide +kernel
theorem dX6_append_129 : decode cX6_append 129 = .ok (.aload_n 0, 1) := by decide +kernel
theorem dX6_append_130 : decode cX6_append 130 = .ok (.aload_n 0, 1) := by decide +kernel
theorem dX6_append_131 : decode cX6_append 131 = .ok (.iload_n 1, 1) := by decide +kernel
theorem dX6_append_132 : decode cX6_append 132 = .ok (.aload_n 0, 1) := by decide +kernel
theorem dX6_append_133 : decode cX6_append 133 = .ok (.iload_n 1, 1) := by decide +kernel
theorem dX6_append_134 : decode cX6_append 134 = .ok (.iload 4, 2) := by decide +kernel
theorem dX6_append_136 : decode cX6_append 136 = .ok (.invokevirtual 38, 3) := by decide +kernel
theorem dX6_append_139 : decode cX6_append 139 = .ok (.iload 4, 2) := by decide +kernel
theorem dX6_append_141 : decode cX6_append 141 = .ok (.iload 6, 2) := by decide +kernel
theorem dX6_append_143 : decode cX6_append 143 = .ok (.invokevirtual 41, 3) := by decide +kernel
theorem dX6_append_146 : decode cX6_append 146 = .ok (.iload_n 1, 1) := by decide +kernel
theorem dX6_append_147 : decode cX6_append 147 = .ok (.iload 4, 2) := by decide +kernel
theorem dX6_append_149 : decode cX6_append 149 = .ok (.iload 5, 2) := by decide +kernel
theorem dX6_append_151 : decode cX6_append 151 = .ok (.invokevirtual 105, 3) := by decide +kernel
theorem dX6_append_154 : decode cX6_append 154 = .ok (.iinc 6 1, 3) := by decide +kernel
theorem dX6_append_157 : decode cX6_append 157 = .ok (.goto (-39), 3) := by decide +kernel
theorem dX6_append_160 : decode cX6_append 160 = .ok (.iload 4, 2) := by decide +kernel
theorem dX6_append_162 : decode cX6_append 162 = .ok (.ireturn, 1) := by decide +kernel
theorem dX6_replace_0 : decode cX6_replace 0 = .ok (.aload_n 0, 1) := by decide +kernel
theorem dX6_replace_1 : decode cX6_replace 1 = .ok (.iload_n 1, 1) := by decide +kernel
theorem dX6_replace_2 : decode cX6_replace 2 = .ok (.invokevirtual 95, 3) := by decide +kernel
theorem dX6_replace_5 : decode cX6_replace 5 = .ok (.ifCond .eq 23, 3) := by decide +kernel
theorem dX6_replace_8 : decode cX6_replace 8 = .ok (.iload_n 2, 1) := by decide +kernel
theorem dX6_replace_9 : decode cX6_replace 9 = .ok (.iconst 0, 1) := by decide +kernel
theorem dX6_replace_10 : decode cX6_replace 10 = .ok (.aload_n 0, 1) := by decide +kernel
theorem dX6_replace_11 : decode cX6_replace 11 = .ok (.iload_n 1, 1) := by decide +kernel
theorem dX6_replace_12 : decode cX6_replace 12 = .ok (.iconst 0, 1) := by decide +kernel
theorem dX6_replace_13 : decode cX6_replace 13 = .ok (.invokevirtual 31, 3) := by decide +kernel
theorem dX6_replace_16 : decode cX6_replace 16 = .ok (.iconst 1, 1) := by decide +kernel
theorem dX6_replace_17 : decode cX6_replace 17 = .ok (.isub, 1) := by decide +kernel
theorem dX6_replace_18 : decode cX6_replace 18 = .ok (.invokestatic 23, 3) := by decide +kernel
theorem dX6_replace_21 : decode cX6_replace 21 = .ok (.ifCond .eq 7, 3) := by decide +kernel
theorem dX6_replace_24 : decode cX6_replace 24 = .ok (.iconst 1, 1) := by decide +kernel
theorem dX6_replace_25 : decode cX6_replace 25 = .ok (.goto 4, 3) := by decide +kernel
theorem dX6_replace_28 : decode cX6_replace 28 = .ok (.iconst 0, 1) := by decide +kernel
theorem dX6_replace_29 : decode cX6_replace 29 = .ok (.istore_n 3, 1) := by decide +kernel
theorem dX6_replace_30 : decode cX6_replace 30 = .ok (.iload_n 3, 1) := by decide +kernel
theorem dX6_replace_31 : decode cX6_replace 31 = .ok (.ifCond .eq 15, 3) := by decide +kernel
theorem dX6_replace_34 : decode cX6_replace 34 = .ok (.aload_n 0, 1) := by decide +kernel
theorem dX6_replace_35 : decode cX6_replace 35 = .ok (.iload_n 1, 1) := by decide +kernel
theorem dX6_replace_36 : decode cX6_replace 36 = .ok (.bipush 6, 2) := by decide +kernel
theorem dX6_replace_38 : decode cX6_replace 38 = .ok (.invokevirtual 31, 3) := by decide +kernel
theorem dX6_replace_41 : decode cX6_replace 41 = .ok (.iconst 1, 1) := by decide +kernel
theorem dX6_replace_42 : decode cX6_replace 42 = .ok (.isub, 1) := by decide +kernel
theorem dX6_replace_43 : decode cX6_replace 43 = .ok (.goto 4, 3) := by decide +kernel
theorem dX6_replace_46 : decode cX6_replace 46 = .ok (.iconst 0, 1) := by decide +kernel
theorem dX6_replace_47 : decode cX6_replace 47 = .ok (.istore 4, 2) := by decide +kernel
theorem dX6_replace_49 : decode cX6_replace 49 = .ok (.iload_n 3, 1) := by decide +kernel
theorem dX6_replace_50 : decode cX6_replace 50 = .ok (.ifCond .eq 17, 3) := by decide +kernel
theorem dX6_replace_53 : decode cX6_replace 53 = .ok (.aload_n 0, 1) := by decide +kernel
theorem dX6_replace_54 : decode cX6_replace 54 = .ok (.aload_n 0, 1) := by decide +kernel
theorem dX6_replace_55 : decode cX6_replace 55 = .ok (.iload_n 1, 1) := by decide +kernel
theorem dX6_replace_56 : decode cX6_replace 56 = .ok (.iload 4, 2) := by decide +kernel
theorem dX6_replace_58 : decode cX6_replace 58 = .ok (.invokevirtual 109, 3) := by decide +kernel
theorem dX6_replace_61 : decode cX6_replace 61 = .ok (.invokevirtual 102, 3) := by decide +kernel
theorem dX6_replace_64 : decode cX6_replace 64 = .ok (.goto 4, 3) := by decide +kernel
theorem dX6_replace_67 : decode cX6_replace 67 = .ok (.iconst (-1), 1) := by decide +kernel
theorem dX6_replace_68 : decode cX6_replace 68 = .ok (.istore 5, 2) := by decide +kernel
theorem dX6_replace_70 : decode cX6_replace 70 = .ok (.aload_n 0, 1) := by decide +kernel
theorem dX6_replace_71 : decode cX6_replace 71 = .ok (.iload_n 3, 1) := by decide +kernel
theorem dX6_replace_72 : decode cX6_replace 72 = .ok (.iload_n 3, 1) := by decide +kernel
theorem dX6_replace_73 : decode cX6_replace 73 = .ok (.ifCond .eq 22, 3) := by decide +kernel
theorem dX6_replace_76 : decode cX6_replace 76 = .ok (.aload_n 0, 1) := by decide +kernel
theorem dX6_replace_77 : decode cX6_replace 77 = .ok (.iload_n 1, 1) := by decide +kernel
theorem dX6_replace_78 : decode cX6_replace 78 = .ok (.iconst 3, 1) := by decide +kernel
theorem dX6_replace_79 : decode cX6_replace 79 = .ok (.invokevirtual 31, 3) := by decide +kernel
theorem dX6_replace_82 : decode cX6_replace 82 = .ok (.ifCond .ne 13, 3) := by decide +kernel
theorem dX6_replace_85 : decode cX6_replace 85 = .ok (.iload 5, 2) := by decide +kernel
theorem dX6_replace_87 : decode cX6_replace 87 = .ok (.iconst (-1), 1) := by decide +kernel
theorem dX6_replace_88 : decode cX6_replace 88 = .ok (.if_icmp .eq 7, 3) := by decide +kernel
theorem dX6_replace_91 : decode cX6_replace 91 = .ok (.iconst 1, 1) := by decide +kernel
theorem dX6_replace_92 : decode cX6_replace 92 = .ok (.goto 4, 3) := by decide +kernel
theorem dX6_replace_95 : decode cX6_replace 95 = .ok (.iconst 0, 1) := by decide +kernel
theorem dX6_replace_96 : decode cX6_replace 96 = .ok (.invokevirtual 69, 3) := by decide +kernel
theorem dX6_replace_99 : decode cX6_replace 99 = .ok (.ifCond .ne 5, 3) := by decide +kernel
theorem dX6_replace_102 : decode cX6_replace 102 = .ok (.iconst 0, 1) := by decide +kernel
theorem dX6_replace_103 : decode cX6_replace 103 = .ok (.ireturn, 1) := by decide +kernel
theorem dX6_replace_104 : decode cX6_replace 104 = .ok (.aload_n 0, 1) := by decide +kernel
theorem dX6_replace_105 : decode cX6_replace 105 = .ok (.invokevirtual 63, 3) := by decide +kernel
theorem dX6_replace_108 : decode cX6_replace 108 = .ok (.aload_n 0, 1) := by decide +kernel
theorem dX6_replace_109 : decode cX6_replace 109 = .ok (.iload_n 1, 1) := by decide +kernel
theorem dX6_replace_110 : decode cX6_replace 110 = .ok (.invokevirtual 60, 3) := by decide +kernel
theorem dX6_replace_113 : decode cX6_replace 113 = .ok (.istore 6, 2) := by decide +kernel
theorem dX6_replace_115 : decode cX6_replace 115 = .ok (.iload 6, 2) := by decide +kernel
theorem dX6_replace_117 : decode cX6_replace 117 = .ok (.iconst 1, 1) := by decide +kernel
theorem dX6_replace_118 : decode cX6_replace 118 = .ok (.iadd, 1) := by decide +kernel
theorem dX6_replace_119 : decode cX6_replace 119 = .ok (.istore 7, 2) := by decide +kernel
theorem dX6_replace_121 : decode cX6_replace 121 = .ok (.aload_n 0, 1) := by decide +kernel
theorem dX6_replace_122 : decode cX6_replace 122 = .ok (.iload_n 1, 1) := by decide +kernel
theorem dX6_replace_123 : decode cX6_replace 123 = .ok (.iload 4, 2) := by decide +kernel
theorem dX6_replace_125 : decode cX6_replace 125 = .ok (.iload_n 2, 1) := by decide +kernel
theorem dX6_replace_126 : decode cX6_replace 126 = .ok (.invokevirtual 35, 3) := by decide +kernel
theorem dX6_replace_129 : decode cX6_replace 129 = .ok (.istore 8, 2) := by decide +kernel
theorem dX6_replace_131 : decode cX6_replace 131 = .ok (.aload_n 0, 1) := by decide +kernel
theorem dX6_replace_132 : decode cX6_replace 132 = .ok (.iload_n 1, 1) := by decide +kernel
theorem dX6_replace_133 : decode cX6_replace 133 = .ok (.bipush 87, 2) := by decide +kernel
theorem dX6_replace_135 : decode cX6_replace 135 = .ok (.iload 4, 2) := by decide +kernel
theorem dX6_replace_137 : decode cX6_replace 137 = .ok (.iadd, 1) := by decide +kernel
theorem dX6_replace_138 : decode cX6_replace 138 = .ok (.invokevirtual 31, 3) := by decide +kernel
theorem dX6_replace_141 : decode cX6_replace 141 = .ok (.iload 7, 2) := by decide +kernel
theorem dX6_replace_143 : decode cX6_replace 143 = .ok (.if_icmp .eq 71, 3) := by decide +kernel
theorem dX6_replace_146 : decode cX6_replace 146 = .ok (.iconst 0, 1) := by decide +kernel
theorem dX6_replace_147 : decode cX6_replace 147 = .ok (.istore 9, 2) := by decide +kernel
theorem dX6_replace_149 : decode cX6_replace 149 = .ok (.iload 9, 2) := by decide +kernel
theorem dX6_replace_151 : decode cX6_replace 151 = .ok (.iconst 5, 1) := by decide +kernel
theorem dX6_replace_152 : decode cX6_replace 152 = .ok (.if_icmp .ge 36, 3) := by decide +kernel
theorem dX6_replace_155 : decode cX6_replace 155 = .ok (.aload_n 0, 1) := by decide +kernel
theorem dX6_replace_156 : decode cX6_replace 156 = .ok (.iload_n 1, 1) := by decide +kernel
theorem dX6_replace_157 : decode cX6_replace 157 = .ok (.sipush 128, 3) := by decide +kernel
theorem dX6_replace_160 : decode cX6_replace 160 = .ok (.iconst 5, 1) := by decide +kernel
theorem dX6_replace_161 : decode cX6_replace 161 = .ok (.iload 4, 2) := by decide +kernel
theorem dX6_replace_163 : decode cX6_replace 163 = .ok (.iconst 1, 1) := by decide +kernel
theorem dX6_replace_164 : decode cX6_replace 164 = .ok (.iadd, 1) := by decide +kernel
theorem dX6_replace_165 : decode cX6_replace 165 = .ok (.imul, 1) := by decide +kernel
theorem dX6_replace_166 : decode cX6_replace 166 = .ok (.iadd, 1) := by decide +kernel
theorem dX6_replace_167 : decode cX6_replace 167 = .ok (.iload 9, 2) := by decide +kernel
theorem dX6_replace_169 : decode cX6_replace 169 = .ok (.iadd, 1) := by decide +kernel
theorem dX6_replace_170 : decode cX6_replace 170 = .ok (.aload_n 0, 1) := by decide +kernel
theorem dX6_replace_171 : decode cX6_replace 171 = .ok (.iload_n 1, 1) := by decide +kernel
theorem dX6_replace_172 : decode cX6_replace 172 = .ok (.iload 4, 2) := by decide +kernel
theorem dX6_replace_174 : decode cX6_replace 174 = .ok (.iload 9, 2) := by decide +kernel
theorem dX6_replace_176 : decode cX6_replace 176 = .ok (.invokevirtual 35, 3) := by decide +kernel
theorem dX6_replace_179 : decode cX6_replace 179 = .ok (.invokevirtual 84, 3) := by decide +kernel
theorem dX6_replace_182 : decode cX6_replace 182 = .ok (.iinc 9 1, 3) := by decide +kernel
theorem dX6_replace_185 : decode cX6_replace 185 = .ok (.goto (-36), 3) := by decide +kernel
theorem dX6_replace_188 : decode cX6_replace 188 = .ok (.iinc 4 1, 3) := by decide +kernel
theorem dX6_replace_191 : decode cX6_replace 191 = .ok (.aload_n 0, 1) := by decide +kernel
theorem dX6_replace_192 : decode cX6_replace 192 = .ok (.iload_n 1, 1) := by decide +kernel
theorem dX6_replace_193 : decode cX6_replace 193 = .ok (.bipush 87, 2) := by decide +kernel
theorem dX6_replace_195 : decode cX6_replace 195 = .ok (.iload 4, 2) := by decide +kernel
theorem dX6_replace_197 : decode cX6_replace 197 = .ok (.iadd, 1) := by decide +kernel
theorem dX6_replace_198 : decode cX6_replace 198 = .ok (.iload 7, 2) := by decide +kernel
theorem dX6_replace_200 : decode cX6_replace 200 = .ok (.invokevirtual 84, 3) := by decide +kernel
theorem dX6_replace_203 : decode cX6_replace 203 = .ok (.aload_n 0, 1) := by decide +kernel
theorem dX6_replace_204 : decode cX6_replace 204 = .ok (.iload_n 1, 1) := by decide +kernel
theorem dX6_replace_205 : decode cX6_replace 205 = .ok (.bipush 6, 2) := by decide +kernel
theorem dX6_replace_207 : decode cX6_replace 207 = .ok (.iload 4, 2) := by decide +kernel
theorem dX6_replace_209 : decode cX6_replace 209 = .ok (.iconst 1, 1) := by decide +kernel
theorem dX6_replace_210 : decode cX6_replace 210 = .ok (.iadd, 1) := by decide +kernel
theorem dX6_replace_211 : decode cX6_replace 211 = .ok (.invokevirtual 84, 3) := by decide +kernel
theorem dX6_replace_214 : decode cX6_replace 214 = .ok (.aload_n 0, 1) := by decide +kernel
theorem dX6_replace_215 : decode cX6_replace 215 = .ok (.iload_n 1, 1) := by decide +kernel
theorem dX6_replace_216 : decode cX6_replace 216 = .ok (.sipush 128, 3) := by decide +kernel
theorem dX6_replace_219 : decode cX6_replace 219 = .ok (.iconst 5, 1) := by decide +kernel
theorem dX6_replace_220 : decode cX6_replace 220 = .ok (.iload 4, 2) := by decide +kernel
theorem dX6_replace_222 : decode cX6_replace 222 = .ok (.imul, 1) := by decide +kernel
theorem dX6_replace_223 : decode cX6_replace 223 = .ok (.iadd, 1) := by decide +kernel
theorem dX6_replace_224 : decode cX6_replace 224 = .ok (.iload_n 2, 1) := by decide +kernel
theorem dX6_replace_225 : decode cX6_replace 225 = .ok (.iadd, 1) := by decide +kernel
theorem dX6_replace_226 : decode cX6_replace 226 = .ok (.iload 5, 2) := by decide +kernel
theorem dX6_replace_228 : decode cX6_replace 228 = .ok (.invokevirtual 84, 3) := by decide +kernel
theorem dX6_replace_231 : decode cX6_replace 231 = .ok (.iload 7, 2) := by decide +kernel
theorem dX6_replace_233 : decode cX6_replace 233 = .ok (.istore 9, 2) := by decide +kernel
theorem dX6_replace_235 : decode cX6_replace 235 = .ok (.iload 9, 2) := by decide +kernel
theorem dX6_replace_237 : decode cX6_replace 237 = .ok (.aload_n 0, 1) := by decide +kernel
theorem dX6_replace_238 : decode cX6_replace 238 = .ok (.iload_n 1, 1) := by decide +kernel
theorem dX6_replace_239 : decode cX6_replace 239 = .ok (.iconst 4, 1) := by decide +kernel
theorem dX6_replace_240 : decode cX6_replace 240 = .ok (.invokevirtual 31, 3) := by decide +kernel
theorem dX6_replace_243 : decode cX6_replace 243 = .ok (.if_icmp .ge 36, 3) := by decide +kernel
theorem dX6_replace_246 : decode cX6_replace 246 = .ok (.aload_n 0, 1) := by decide +kernel
theorem dX6_replace_247 : decode cX6_replace 247 = .ok (.iload_n 1, 1) := by decide +kernel
theorem dX6_replace_248 : decode cX6_replace 248 = .ok (.bipush 47, 2) := by decide +kernel
theorem dX6_replace_250 : decode cX6_replace 250 = .ok (.iload 9, 2) := by decide +kernel
theorem dX6_replace_252 : decode cX6_replace 252 = .ok (.iadd, 1) := by decide +kernel
theorem dX6_replace_253 : decode cX6_replace 253 = .ok (.aload_n 0, 1) := by decide +kernel
theorem dX6_replace_254 : decode cX6_replace 254 = .ok (.iload_n 1, 1) := by decide +kernel
theorem dX6_replace_255 : decode cX6_replace 255 = .ok (.bipush 47, 2) := by decide +kernel
theorem dX6_replace_257 : decode cX6_replace 257 = .ok (.iload 9, 2) := by decide +kernel
theorem dX6_replace_259 : decode cX6_replace 259 = .ok (.iadd, 1) := by decide +kernel
theorem dX6_replace_260 : decode cX6_replace 260 = .ok (.invokevirtual 31, 3) := by decide +kernel
theorem dX6_replace_263 : decode cX6_replace 263 = .ok (.iconst 1, 1) := by decide +kernel
theorem dX6_replace_264 : decode cX6_replace 264 = .ok (.iload 8, 2) := by decide +kernel
theorem dX6_replace_266 : decode cX6_replace 266 = .ok (.ishl, 1) := by decide +kernel
theorem dX6_replace_267 : decode cX6_replace 267 = .ok (.iconst (-1), 1) := by decide +kernel
theorem dX6_replace_268 : decode cX6_replace 268 = .ok (.ixor, 1) := by decide +kernel
theorem dX6_replace_269 : decode cX6_replace 269 = .ok (.iand, 1) := by decide +kernel
theorem dX6_replace_270 : decode cX6_replace 270 = .ok (.invokevirtual 84, 3) := by decide +kernel
theorem dX6_replace_273 : decode cX6_replace 273 = .ok (.iinc 9 1, 3) := by decide +kernel
theorem dX6_replace_276 : decode cX6_replace 276 = .ok (.goto (-41), 3) := by decide +kernel
theorem dX6_replace_279 : decode cX6_replace 279 = .ok (.iload 7, 2) := by decide +kernel
theorem dX6_replace_281 : decode cX6_replace 281 = .ok (.istore 9, 2) := by decide +kernel
theorem dX6_replace_283 : decode cX6_replace 283 = .ok (.iload 9, 2) := by decide +kernel
theorem dX6_replace_285 : decode cX6_replace 285 = .ok (.aload_n 0, 1) := by decide +kernel
theorem dX6_replace_286 : decode cX6_replace 286 = .ok (.iload_n 1, 1) := by decide +kernel
theorem dX6_replace_287 : decode cX6_replace 287 = .ok (.iconst 4, 1) := by decide +kernel
theorem dX6_replace_288 : decode cX6_replace 288 = .ok (.invokevirtual 31, 3) := by decide +kernel
theorem dX6_replace_291 : decode cX6_replace 291 = .ok (.if_icmp .ge 32, 3) := by decide +kernel
theorem dX6_replace_294 : decode cX6_replace 294 = .ok (.aload_n 0, 1) := by decide +kernel
theorem dX6_replace_295 : decode cX6_replace 295 = .ok (.iload_n 1, 1) := by decide +kernel
theorem dX6_replace_296 : decode cX6_replace 296 = .ok (.iload 9, 2) := by decide +kernel
theorem dX6_replace_298 : decode cX6_replace 298 = .ok (.iload 5, 2) := by decide +kernel
theorem dX6_replace_300 : decode cX6_replace 300 = .ok (.invokevirtual 81, 3) := by decide +kernel
theorem dX6_replace_303 : decode cX6_replace 303 = .ok (.ifCond .eq 14, 3) := by decide +kernel
theorem dX6_replace_306 : decode cX6_replace 306 = .ok (.aload_n 0, 1) := by decide +kernel
theorem dX6_replace_307 : decode cX6_replace 307 = .ok (.iload 5, 2) := by decide +kernel
theorem dX6_replace_309 : decode cX6_replace 309 = .ok (.iload_n 1, 1) := by decide +kernel
theorem dX6_replace_310 : decode cX6_replace 310 = .ok (.iload 9, 2) := by decide +kernel
theorem dX6_replace_312 : decode cX6_replace 312 = .ok (.iload 6, 2) := by decide +kernel
theorem dX6_replace_314 : decode cX6_replace 314 = .ok (.invokevirtual 105, 3) := by decide +kernel
theorem dX6_replace_317 : decode cX6_replace 317 = .ok (.iinc 9 1, 3) := by decide +kernel
theorem dX6_replace_320 : decode cX6_replace 320 = .ok (.goto (-37), 3) := by decide +kernel
theorem dX6_replace_323 : decode cX6_replace 323 = .ok (.iload 5, 2) := by decide +kernel
theorem dX6_replace_325 : decode cX6_replace 325 = .ok (.ireturn, 1) := by decide +kernel
theorem dX6_isUndecided_0 : decode cX6_isUndecided 0 = .ok (.iconst 0, 1) := by decide +kernel
theorem dX6_isUndecided_1 : decode cX6_isUndecided 1 = .ok (.istore_n 3, 1) := by decide +kernel
theorem dX6_isUndecided_2 : decode cX6_isUndecided 2 = .ok (.iconst 0, 1) := by decide +kernel
theorem dX6_isUndecided_3 : decode cX6_isUndecided 3 = .ok (.istore 4, 2) := by decide +kernel
theorem dX6_isUndecided_5 : decode cX6_isUndecided 5 = .ok (.iload 4, 2) := by decide +kernel
theorem dX6_isUndecided_7 : decode cX6_isUndecided 7 = .ok (.aload_n 0, 1) := by decide +kernel
theorem dX6_isUndecided_8 : decode cX6_isUndecided 8 = .ok (.iload_n 1, 1) := by decide +kernel
theorem dX6_isUndecided_9 : decode cX6_isUndecided 9 = .ok (.iconst 0, 1) := by decide +kernel
theorem dX6_isUndecided_10 : decode cX6_isUndecided 10 = .ok (.invokevirtual 31, 3) := by decide +kernel
theorem dX6_isUndecided_13 : decode cX6_isUndecided 13 = .ok (.if_icmp .ge 80, 3) := by decide +kernel
theorem dX6_isUndecided_16 : decode cX6_isUndecided 16 = .ok (.iconst 0, 1) := by decide +kernel
theorem dX6_isUndecided_17 : decode cX6_isUndecided 17 = .ok (.istore 5, 2) := by decide +kernel
theorem dX6_isUndecided_19 : decode cX6_isUndecided 19 = .ok (.iconst 0, 1) := by decide +kernel
theorem dX6_isUndecided_20 : decode cX6_isUndecided 20 = .ok (.istore 6, 2) := by decide +kernel
theorem dX6_isUndecided_22 : decode cX6_isUndecided 22 = .ok (.iload 6, 2) := by decide +kernel
theorem dX6_isUndecided_24 : decode cX6_isUndecided 24 = .ok (.aload_n 0, 1) := by decide +kernel
theorem dX6_isUndecided_25 : decode cX6_isUndecided 25 = .ok (.iload_n 1, 1) := by decide +kernel
theorem dX6_isUndecided_26 : decode cX6_isUndecided 26 = .ok (.iconst 1, 1) := by decide +kernel
theorem dX6_isUndecided_27 : decode cX6_isUndecided 27 = .ok (.invokevirtual 31, 3) := by decide +kernel
theorem dX6_isUndecided_30 : decode cX6_isUndecided 30 = .ok (.if_icmp .ge 36, 3) := by decide +kernel
theorem dX6_isUndecided_33 : decode cX6_isUndecided 33 = .ok (.iload 5, 2) := by decide +kernel
theorem dX6_isUndecided_35 : decode cX6_isUndecided 35 = .ok (.aload_n 0, 1) := by decide +kernel
theorem dX6_isUndecided_36 : decode cX6_isUndecided 36 = .ok (.aload_n 0, 1) := by decide +kernel
theorem dX6_isUndecided_37 : decode cX6_isUndecided 37 = .ok (.iload_n 1, 1) := by decide +kernel
theorem dX6_isUndecided_38 : decode cX6_isUndecided 38 = .ok (.iload_n 2, 1) := by decide +kernel
theorem dX6_isUndecided_39 : decode cX6_isUndecided 39 = .ok (.iload 4, 2) := by decide +kernel
theorem dX6_isUndecided_41 : decode cX6_isUndecided 41 = .ok (.iload 6, 2) := by decide +kernel
theorem dX6_isUndecided_43 : decode cX6_isUndecided 43 = .ok (.invokevirtual 41, 3) := by decide +kernel
theorem dX6_isUndecided_46 : decode cX6_isUndecided 46 = .ok (.invokevirtual 45, 3) := by decide +kernel
theorem dX6_isUndecided_49 : decode cX6_isUndecided 49 = .ok (.ifCond .eq 7, 3) := by decide +kernel
theorem dX6_isUndecided_52 : decode cX6_isUndecided 52 = .ok (.iconst 0, 1) := by decide +kernel
theorem dX6_isUndecided_53 : decode cX6_isUndecided 53 = .ok (.goto 4, 3) := by decide +kernel
theorem dX6_isUndecided_56 : decode cX6_isUndecided 56 = .ok (.iconst 1, 1) := by decide +kernel
theorem dX6_isUndecided_57 : decode cX6_isUndecided 57 = .ok (.iadd, 1) := by decide +kernel
theorem dX6_isUndecided_58 : decode cX6_isUndecided 58 = .ok (.istore 5, 2) := by decide +kernel
theorem dX6_isUndecided_60 : decode cX6_isUndecided 60 = .ok (.iinc 6 1, 3) := by decide +kernel
theorem dX6_isUndecided_63 : decode cX6_isUndecided 63 = .ok (.goto (-41), 3) := by decide +kernel
theorem dX6_isUndecided_66 : decode cX6_isUndecided 66 = .ok (.iload_n 3, 1) := by decide +kernel
theorem dX6_isUndecided_67 : decode cX6_isUndecided 67 = .ok (.ifCond .ne 14, 3) := by decide +kernel
theorem dX6_isUndecided_70 : decode cX6_isUndecided 70 = .ok (.iload 5, 2) := by decide +kernel
theorem dX6_isUndecided_72 : decode cX6_isUndecided 72 = .ok (.aload_n 0, 1) := by decide +kernel
theorem dX6_isUndecided_73 : decode cX6_isUndecided 73 = .ok (.iload_n 1, 1) := by decide +kernel
theorem dX6_isUndecided_74 : decode cX6_isUndecided 74 = .ok (.iconst 2, 1) := by decide +kernel
theorem dX6_isUndecided_75 : decode cX6_isUndecided 75 = .ok (.invokevirtual 31, 3) := by decide +kernel
theorem dX6_isUndecided_78 : decode cX6_isUndecided 78 = .ok (.if_icmp .lt 7, 3) := by decide +kernel
theorem dX6_isUndecided_81 : decode cX6_isUndecided 81 = .ok (.iconst 1, 1) := by decide +kernel
theorem dX6_isUndecided_82 : decode cX6_isUndecided 82 = .ok (.goto 4, 3) := by decide +kernel
theorem dX6_isUndecided_85 : decode cX6_isUndecided 85 = .ok (.iconst 0, 1) := by decide +kernel
theorem dX6_isUndecided_86 : decode cX6_isUndecided 86 = .ok (.istore_n 3, 1) := by decide +kernel
theorem dX6_isUndecided_87 : decode cX6_isUndecided 87 = .ok (.iinc 4 1, 3) := by decide +kernel
theorem dX6_isUndecided_90 : decode cX6_isUndecided 90 = .ok (.goto (-85), 3) := by decide +kernel
theorem dX6_isUndecided_93 : decode cX6_isUndecided 93 = .ok (.iload_n 3, 1) := by decide +kernel
theorem dX6_isUndecided_94 : decode cX6_isUndecided 94 = .ok (.ireturn, 1) := by decide +kernel
theorem dX6_storedConfirmed_0 : decode cX6_storedConfirmed 0 = .ok (.aload_n 0, 1) := by decide +kernel
theorem dX6_storedConfirmed_1 : decode cX6_storedConfirmed 1 = .ok (.iload_n 1, 1) := by decide +kernel
theorem dX6_storedConfirmed_2 : decode cX6_storedConfirmed 2 = .ok (.bipush 87, 2) := by decide +kernel
theorem dX6_storedConfirmed_4 : decode cX6_storedConfirmed 4 = .ok (.iload_n 2, 1) := by decide +kernel
theorem dX6_storedConfirmed_5 : decode cX6_storedConfirmed 5 = .ok (.iadd, 1) := by decide +kernel
theorem dX6_storedConfirmed_6 : decode cX6_storedConfirmed 6 = .ok (.invokevirtual 31, 3) := by decide +kernel
theorem dX6_storedConfirmed_9 : decode cX6_storedConfirmed 9 = .ok (.iconst 1, 1) := by decide +kernel
theorem dX6_storedConfirmed_10 : decode cX6_storedConfirmed 10 = .ok (.isub, 1) := by decide +kernel
theorem dX6_storedConfirmed_11 : decode cX6_storedConfirmed 11 = .ok (.istore_n 3, 1) := by decide +kernel
theorem dX6_storedConfirmed_12 : decode cX6_storedConfirmed 12 = .ok (.iconst 0, 1) := by decide +kernel
theorem dX6_storedConfirmed_13 : decode cX6_storedConfirmed 13 = .ok (.istore 4, 2) := by decide +kernel
theorem dX6_storedConfirmed_15 : decode cX6_storedConfirmed 15 = .ok (.iload 4, 2) := by decide +kernel
theorem dX6_storedConfirmed_17 : decode cX6_storedConfirmed 17 = .ok (.aload_n 0, 1) := by decide +kernel
theorem dX6_storedConfirmed_18 : decode cX6_storedConfirmed 18 = .ok (.iload_n 1, 1) := by decide +kernel
theorem dX6_storedConfirmed_19 : decode cX6_storedConfirmed 19 = .ok (.iconst 0, 1) := by decide +kernel
theorem dX6_storedConfirmed_20 : decode cX6_storedConfirmed 20 = .ok (.invokevirtual 31, 3) := by decide +kernel
theorem dX6_storedConfirmed_23 : decode cX6_storedConfirmed 23 = .ok (.if_icmp .ge 84, 3) := by decide +kernel
theorem dX6_storedConfirmed_26 : decode cX6_storedConfirmed 26 = .ok (.aload_n 0, 1) := by decide +kernel
theorem dX6_storedConfirmed_27 : decode cX6_storedConfirmed 27 = .ok (.iload_n 1, 1) := by decide +kernel
theorem dX6_storedConfirmed_28 : decode cX6_storedConfirmed 28 = .ok (.iload_n 2, 1) := by decide +kernel
theorem dX6_storedConfirmed_29 : decode cX6_storedConfirmed 29 = .ok (.iload 4, 2) := by decide +kernel
theorem dX6_storedConfirmed_31 : decode cX6_storedConfirmed 31 = .ok (.invokevirtual 35, 3) := by decide +kernel
theorem dX6_storedConfirmed_34 : decode cX6_storedConfirmed 34 = .ok (.istore 5, 2) := by decide +kernel
theorem dX6_storedConfirmed_36 : decode cX6_storedConfirmed 36 = .ok (.iconst 0, 1) := by decide +kernel
theorem dX6_storedConfirmed_37 : decode cX6_storedConfirmed 37 = .ok (.istore 6, 2) := by decide +kernel
theorem dX6_storedConfirmed_39 : decode cX6_storedConfirmed 39 = .ok (.iload 6, 2) := by decide +kernel
theorem dX6_storedConfirmed_41 : decode cX6_storedConfirmed 41 = .ok (.bipush 40, 2) := by decide +kernel
theorem dX6_storedConfirmed_43 : decode cX6_storedConfirmed 43 = .ok (.if_icmp .ge 58, 3) := by decide +kernel
theorem dX6_storedConfirmed_46 : decode cX6_storedConfirmed 46 = .ok (.aload_n 0, 1) := by decide +kernel
theorem dX6_storedConfirmed_47 : decode cX6_storedConfirmed 47 = .ok (.iload 5, 2) := by decide +kernel
theorem dX6_storedConfirmed_49 : decode cX6_storedConfirmed 49 = .ok (.invokevirtual 45, 3) := by decide +kernel
theorem dX6_storedConfirmed_52 : decode cX6_storedConfirmed 52 = .ok (.ifCond .eq 27, 3) := by decide +kernel
theorem dX6_storedConfirmed_55 : decode cX6_storedConfirmed 55 = .ok (.aload_n 0, 1) := by decide +kernel
theorem dX6_storedConfirmed_56 : decode cX6_storedConfirmed 56 = .ok (.iload 5, 2) := by decide +kernel
theorem dX6_storedConfirmed_58 : decode cX6_storedConfirmed 58 = .ok (.iload_n 1, 1) := by decide +kernel
theorem dX6_storedConfirmed_59 : decode cX6_storedConfirmed 59 = .ok (.iload 6, 2) := by decide +kernel
theorem dX6_storedConfirmed_61 : decode cX6_storedConfirmed 61 = .ok (.invokevirtual 112, 3) := by decide +kernel
theorem dX6_storedConfirmed_64 : decode cX6_storedConfirmed 64 = .ok (.ifCond .eq 15, 3) := by decide +kernel
theorem dX6_storedConfirmed_67 : decode cX6_storedConfirmed 67 = .ok (.aload_n 0, 1) := by decide +kernel
theorem dX6_storedConfirmed_68 : decode cX6_storedConfirmed 68 = .ok (.iload 5, 2) := by decide +kernel
theorem dX6_storedConfirmed_70 : decode cX6_storedConfirmed 70 = .ok (.iload_n 1, 1) := by decide +kernel
theorem dX6_storedConfirmed_71 : decode cX6_storedConfirmed 71 = .ok (.iload 6, 2) := by decide +kernel
theorem dX6_storedConfirmed_73 : decode cX6_storedConfirmed 73 = .ok (.invokevirtual 115, 3) := by decide +kernel
theorem dX6_storedConfirmed_76 : decode cX6_storedConfirmed 76 = .ok (.goto 4, 3) := by decide +kernel
theorem dX6_storedConfirmed_79 : decode cX6_storedConfirmed 79 = .ok (.iconst (-1), 1) := by decide +kernel
theorem dX6_storedConfirmed_80 : decode cX6_storedConfirmed 80 = .ok (.istore 7, 2) := by decide +kernel
theorem dX6_storedConfirmed_82 : decode cX6_storedConfirmed 82 = .ok (.iload 7, 2) := by decide +kernel
theorem dX6_storedConfirmed_84 : decode cX6_storedConfirmed 84 = .ok (.iload_n 3, 1) := by decide +kernel
theorem dX6_storedConfirmed_85 : decode cX6_storedConfirmed 85 = .ok (.if_icmp .le 8, 3) := by decide +kernel
theorem dX6_storedConfirmed_88 : decode cX6_storedConfirmed 88 = .ok (.iload 7, 2) := by decide +kernel
theorem dX6_storedConfirmed_90 : decode cX6_storedConfirmed 90 = .ok (.goto 4, 3) := by decide +kernel
theorem dX6_storedConfirmed_93 : decode cX6_storedConfirmed 93 = .ok (.iload_n 3, 1) := by decide +kernel
theorem dX6_storedConfirmed_94 : decode cX6_storedConfirmed 94 = .ok (.istore_n 3, 1) := by decide +kernel
theorem dX6_storedConfirmed_95 : decode cX6_storedConfirmed 95 = .ok (.iinc 6 1, 3) := by decide +kernel
theorem dX6_storedConfirmed_98 : decode cX6_storedConfirmed 98 = .ok (.goto (-59), 3) := by decide +kernel
theorem dX6_storedConfirmed_101 : decode cX6_storedConfirmed 101 = .ok (.iinc 4 1, 3) := by decide +kernel
theorem dX6_storedConfirmed_104 : decode cX6_storedConfirmed 104 = .ok (.goto (-89), 3) := by decide +kernel
theorem dX6_storedConfirmed_107 : decode cX6_storedConfirmed 107 = .ok (.iload_n 3, 1) := by decide +kernel
theorem dX6_storedConfirmed_108 : decode cX6_storedConfirmed 108 = .ok (.ireturn, 1) := by decide +kernel
theorem dX6_source_0 : decode cX6_source 0 = .ok (.aload_n 0, 1) := by decide +kernel
theorem dX6_source_1 : decode cX6_source 1 = .ok (.iload_n 1, 1) := by decide +kernel
theorem dX6_source_2 : decode cX6_source 2 = .ok (.iload_n 2, 1) := by decide +kernel
theorem dX6_source_3 : decode cX6_source 3 = .ok (.invokevirtual 38, 3) := by decide +kernel
theorem dX6_source_6 : decode cX6_source 6 = .ok (.istore_n 3, 1) := by decide +kernel
theorem dX6_source_7 : decode cX6_source 7 = .ok (.iconst 0, 1) := by decide +kernel
theorem dX6_source_8 : decode cX6_source 8 = .ok (.istore 4, 2) := by decide +kernel
theorem dX6_source_10 : decode cX6_source 10 = .ok (.iload 4, 2) := by decide +kernel
theorem dX6_source_12 : decode cX6_source 12 = .ok (.aload_n 0, 1) := by decide +kernel
theorem dX6_source_13 : decode cX6_source 13 = .ok (.iload_n 1, 1) := by decide +kernel
theorem dX6_source_14 : decode cX6_source 14 = .ok (.iconst 1, 1) := by decide +kernel
theorem dX6_source_15 : decode cX6_source 15 = .ok (.invokevirtual 31, 3) := by decide +kernel
theorem dX6_source_18 : decode cX6_source 18 = .ok (.if_icmp .ge 43, 3) := by decide +kernel
theorem dX6_source_21 : decode cX6_source 21 = .ok (.aload_n 0, 1) := by decide +kernel
theorem dX6_source_22 : decode cX6_source 22 = .ok (.iload_n 1, 1) := by decide +kernel
theorem dX6_source_23 : decode cX6_source 23 = .ok (.iload_n 3, 1) := by decide +kernel
theorem dX6_source_24 : decode cX6_source 24 = .ok (.iload_n 2, 1) := by decide +kernel
theorem dX6_source_25 : decode cX6_source 25 = .ok (.iload 4, 2) := by decide +kernel
theorem dX6_source_27 : decode cX6_source 27 = .ok (.invokevirtual 41, 3) := by decide +kernel
theorem dX6_source_30 : decode cX6_source 30 = .ok (.istore 5, 2) := by decide +kernel
theorem dX6_source_32 : decode cX6_source 32 = .ok (.aload_n 0, 1) := by decide +kernel
theorem dX6_source_33 : decode cX6_source 33 = .ok (.iload 5, 2) := by decide +kernel
theorem dX6_source_35 : decode cX6_source 35 = .ok (.invokevirtual 45, 3) := by decide +kernel
theorem dX6_source_38 : decode cX6_source 38 = .ok (.ifCond .eq 17, 3) := by decide +kernel
theorem dX6_source_41 : decode cX6_source 41 = .ok (.aload_n 0, 1) := by decide +kernel
theorem dX6_source_42 : decode cX6_source 42 = .ok (.iload 5, 2) := by decide +kernel
theorem dX6_source_44 : decode cX6_source 44 = .ok (.iload_n 1, 1) := by decide +kernel
theorem dX6_source_45 : decode cX6_source 45 = .ok (.iload_n 2, 1) := by decide +kernel
theorem dX6_source_46 : decode cX6_source 46 = .ok (.invokevirtual 112, 3) := by decide +kernel
theorem dX6_source_49 : decode cX6_source 49 = .ok (.ifCond .eq 6, 3) := by decide +kernel
theorem dX6_source_52 : decode cX6_source 52 = .ok (.iload 5, 2) := by decide +kernel
theorem dX6_source_54 : decode cX6_source 54 = .ok (.ireturn, 1) := by decide +kernel
theorem dX6_source_55 : decode cX6_source 55 = .ok (.iinc 4 1, 3) := by decide +kernel
theorem dX6_source_58 : decode cX6_source 58 = .ok (.goto (-48), 3) := by decide +kernel
theorem dX6_source_61 : decode cX6_source 61 = .ok (.iconst (-1), 1) := by decide +kernel
theorem dX6_source_62 : decode cX6_source 62 = .ok (.ireturn, 1) := by decide +kernel
theorem dX6_recoverEntry_0 : decode cX6_recoverEntry 0 = .ok (.aload_n 0, 1) := by decide +kernel
theorem dX6_recoverEntry_1 : decode cX6_recoverEntry 1 = .ok (.iload_n 1, 1) := by decide +kernel
theorem dX6_recoverEntry_2 : decode cX6_recoverEntry 2 = .ok (.iload_n 2, 1) := by decide +kernel
theorem dX6_recoverEntry_3 : decode cX6_recoverEntry 3 = .ok (.invokevirtual 38, 3) := by decide +kernel
theorem dX6_recoverEntry_6 : decode cX6_recoverEntry 6 = .ok (.istore 4, 2) := by decide +kernel
theorem dX6_recoverEntry_8 : decode cX6_recoverEntry 8 = .ok (.iconst 0, 1) := by decide +kernel
theorem dX6_recoverEntry_9 : decode cX6_recoverEntry 9 = .ok (.istore 5, 2) := by decide +kernel
theorem dX6_recoverEntry_11 : decode cX6_recoverEntry 11 = .ok (.iload 5, 2) := by decide +kernel
theorem dX6_recoverEntry_13 : decode cX6_recoverEntry 13 = .ok (.aload_n 0, 1) := by decide +kernel
theorem dX6_recoverEntry_14 : decode cX6_recoverEntry 14 = .ok (.iload_n 1, 1) := by decide +kernel
theorem dX6_recoverEntry_15 : decode cX6_recoverEntry 15 = .ok (.iconst 1, 1) := by decide +kernel
theorem dX6_recoverEntry_16 : decode cX6_recoverEntry 16 = .ok (.invokevirtual 31, 3) := by decide +kernel
theorem dX6_recoverEntry_19 : decode cX6_recoverEntry 19 = .ok (.if_icmp .ge 53, 3) := by decide +kernel
theorem dX6_recoverEntry_22 : decode cX6_recoverEntry 22 = .ok (.aload_n 0, 1) := by decide +kernel
theorem dX6_recoverEntry_23 : decode cX6_recoverEntry 23 = .ok (.iload_n 1, 1) := by decide +kernel
theorem dX6_recoverEntry_24 : decode cX6_recoverEntry 24 = .ok (.iload 4, 2) := by decide +kernel
theorem dX6_recoverEntry_26 : decode cX6_recoverEntry 26 = .ok (.iload_n 2, 1) := by decide +kernel
theorem dX6_recoverEntry_27 : decode cX6_recoverEntry 27 = .ok (.iload 5, 2) := by decide +kernel
theorem dX6_recoverEntry_29 : decode cX6_recoverEntry 29 = .ok (.invokevirtual 41, 3) := by decide +kernel
theorem dX6_recoverEntry_32 : decode cX6_recoverEntry 32 = .ok (.istore 6, 2) := by decide +kernel
theorem dX6_recoverEntry_34 : decode cX6_recoverEntry 34 = .ok (.aload_n 0, 1) := by decide +kernel
theorem dX6_recoverEntry_35 : decode cX6_recoverEntry 35 = .ok (.iload 6, 2) := by decide +kernel
theorem dX6_recoverEntry_37 : decode cX6_recoverEntry 37 = .ok (.invokevirtual 45, 3) := by decide +kernel
theorem dX6_recoverEntry_40 : decode cX6_recoverEntry 40 = .ok (.ifCond .eq 26, 3) := by decide +kernel
theorem dX6_recoverEntry_43 : decode cX6_recoverEntry 43 = .ok (.aload_n 0, 1) := by decide +kernel
theorem dX6_recoverEntry_44 : decode cX6_recoverEntry 44 = .ok (.iload 6, 2) := by decide +kernel
theorem dX6_recoverEntry_46 : decode cX6_recoverEntry 46 = .ok (.iload_n 1, 1) := by decide +kernel
theorem dX6_recoverEntry_47 : decode cX6_recoverEntry 47 = .ok (.iload_n 2, 1) := by decide +kernel
theorem dX6_recoverEntry_48 : decode cX6_recoverEntry 48 = .ok (.invokevirtual 112, 3) := by decide +kernel
theorem dX6_recoverEntry_51 : decode cX6_recoverEntry 51 = .ok (.ifCond .ne 15, 3) := by decide +kernel
theorem dX6_recoverEntry_54 : decode cX6_recoverEntry 54 = .ok (.aload_n 0, 1) := by decide +kernel
theorem dX6_recoverEntry_55 : decode cX6_recoverEntry 55 = .ok (.iload 6, 2) := by decide +kernel
theorem dX6_recoverEntry_57 : decode cX6_recoverEntry 57 = .ok (.iload_n 1, 1) := by decide +kernel
theorem dX6_recoverEntry_58 : decode cX6_recoverEntry 58 = .ok (.iload_n 2, 1) := by decide +kernel
theorem dX6_recoverEntry_59 : decode cX6_recoverEntry 59 = .ok (.iload_n 3, 1) := by decide +kernel
theorem dX6_recoverEntry_60 : decode cX6_recoverEntry 60 = .ok (.iload_n 2, 1) := by decide +kernel
theorem dX6_recoverEntry_61 : decode cX6_recoverEntry 61 = .ok (.iconst 1, 1) := by decide +kernel
theorem dX6_recoverEntry_62 : decode cX6_recoverEntry 62 = .ok (.isub, 1) := by decide +kernel
theorem dX6_recoverEntry_63 : decode cX6_recoverEntry 63 = .ok (.invokevirtual 77, 3) := by decide +kernel
theorem dX6_recoverEntry_66 : decode cX6_recoverEntry 66 = .ok (.iinc 5 1, 3) := by decide +kernel
theorem dX6_recoverEntry_69 : decode cX6_recoverEntry 69 = .ok (.goto (-58), 3) := by decide +kernel
theorem dX6_recoverEntry_72 : decode cX6_recoverEntry 72 = .ok (.return_, 1) := by decide +kernel
theorem dX6_recover_0 : decode cX6_recover 0 = .ok (.aload_n 0, 1) := by decide +kernel
theorem dX6_recover_1 : decode cX6_recover 1 = .ok (.aload_n 0, 1) := by decide +kernel
theorem dX6_recover_2 : decode cX6_recover 2 = .ok (.iload_n 1, 1) := by decide +kernel
theorem dX6_recover_3 : decode cX6_recover 3 = .ok (.invokevirtual 95, 3) := by decide +kernel
theorem dX6_recover_6 : decode cX6_recover 6 = .ok (.aload_n 0, 1) := by decide +kernel
theorem dX6_recover_7 : decode cX6_recover 7 = .ok (.iload_n 1, 1) := by decide +kernel
theorem dX6_recover_8 : decode cX6_recover 8 = .ok (.invokevirtual 95, 3) := by decide +kernel
theorem dX6_recover_11 : decode cX6_recover 11 = .ok (.ifCond .eq 17, 3) := by decide +kernel
theorem dX6_recover_14 : decode cX6_recover 14 = .ok (.aload_n 0, 1) := by decide +kernel
theorem dX6_recover_15 : decode cX6_recover 15 = .ok (.iload_n 1, 1) := by decide +kernel
theorem dX6_recover_16 : decode cX6_recover 16 = .ok (.iconst 3, 1) := by decide +kernel
theorem dX6_recover_17 : decode cX6_recover 17 = .ok (.invokevirtual 31, 3) := by decide +kernel
theorem dX6_recover_20 : decode cX6_recover 20 = .ok (.iconst 2, 1) := by decide +kernel
theorem dX6_recover_21 : decode cX6_recover 21 = .ok (.if_icmp .eq 7, 3) := by decide +kernel
theorem dX6_recover_24 : decode cX6_recover 24 = .ok (.iconst 1, 1) := by decide +kernel
theorem dX6_recover_25 : decode cX6_recover 25 = .ok (.goto 4, 3) := by decide +kernel
theorem dX6_recover_28 : decode cX6_recover 28 = .ok (.iconst 0, 1) := by decide +kernel
theorem dX6_recover_29 : decode cX6_recover 29 = .ok (.invokevirtual 69, 3) := by decide +kernel
theorem dX6_recover_32 : decode cX6_recover 32 = .ok (.ifCond .ne 5, 3) := by decide +kernel
theorem dX6_recover_35 : decode cX6_recover 35 = .ok (.iconst 0, 1) := by decide +kernel
theorem dX6_recover_36 : decode cX6_recover 36 = .ok (.ireturn, 1) := by decide +kernel
theorem dX6_recover_37 : decode cX6_recover 37 = .ok (.aload_n 0, 1) := by decide +kernel
theorem dX6_recover_38 : decode cX6_recover 38 = .ok (.invokevirtual 63, 3) := by decide +kernel
theorem dX6_recover_41 : decode cX6_recover 41 = .ok (.aload_n 0, 1) := by decide +kernel
theorem dX6_recover_42 : decode cX6_recover 42 = .ok (.iload_n 1, 1) := by decide +kernel
theorem dX6_recover_43 : decode cX6_recover 43 = .ok (.iconst 3, 1) := by decide +kernel
theorem dX6_recover_44 : decode cX6_recover 44 = .ok (.iconst 1, 1) := by decide +kernel
theorem dX6_recover_45 : decode cX6_recover 45 = .ok (.invokevirtual 84, 3) := by decide +kernel
theorem dX6_recover_48 : decode cX6_recover 48 = .ok (.aload_n 0, 1) := by decide +kernel
theorem dX6_recover_49 : decode cX6_recover 49 = .ok (.iload_n 1, 1) := by decide +kernel
theorem dX6_recover_50 : decode cX6_recover 50 = .ok (.bipush 6, 2) := by decide +kernel
theorem dX6_recover_52 : decode cX6_recover 52 = .ok (.invokevirtual 31, 3) := by decide +kernel
theorem dX6_recover_55 : decode cX6_recover 55 = .ok (.iconst 1, 1) := by decide +kernel
theorem dX6_recover_56 : decode cX6_recover 56 = .ok (.isub, 1) := by decide +kernel
theorem dX6_recover_57 : decode cX6_recover 57 = .ok (.istore_n 2, 1) := by decide +kernel
theorem dX6_recover_58 : decode cX6_recover 58 = .ok (.iconst 0, 1) := by decide +kernel
theorem dX6_recover_59 : decode cX6_recover 59 = .ok (.istore_n 3, 1) := by decide +kernel
theorem dX6_recover_60 : decode cX6_recover 60 = .ok (.iload_n 3, 1) := by decide +kernel
theorem dX6_recover_61 : decode cX6_recover 61 = .ok (.aload_n 0, 1) := by decide +kernel
theorem dX6_recover_62 : decode cX6_recover 62 = .ok (.iload_n 1, 1) := by decide +kernel
theorem dX6_recover_63 : decode cX6_recover 63 = .ok (.iconst 0, 1) := by decide +kernel
theorem dX6_recover_64 : decode cX6_recover 64 = .ok (.invokevirtual 31, 3) := by decide +kernel
theorem dX6_recover_67 : decode cX6_recover 67 = .ok (.if_icmp .ge 45, 3) := by decide +kernel
theorem dX6_recover_70 : decode cX6_recover 70 = .ok (.aload_n 0, 1) := by decide +kernel
theorem dX6_recover_71 : decode cX6_recover 71 = .ok (.iload_n 1, 1) := by decide +kernel
theorem dX6_recover_72 : decode cX6_recover 72 = .ok (.iload_n 2, 1) := by decide +kernel
theorem dX6_recover_73 : decode cX6_recover 73 = .ok (.iload_n 3, 1) := by decide +kernel
theorem dX6_recover_74 : decode cX6_recover 74 = .ok (.invokevirtual 35, 3) := by decide +kernel
theorem dX6_recover_77 : decode cX6_recover 77 = .ok (.istore 4, 2) := by decide +kernel
theorem dX6_recover_79 : decode cX6_recover 79 = .ok (.aload_n 0, 1) := by decide +kernel
theorem dX6_recover_80 : decode cX6_recover 80 = .ok (.getfield 7, 3) := by decide +kernel
theorem dX6_recover_83 : decode cX6_recover 83 = .ok (.sipush 2099, 3) := by decide +kernel
theorem dX6_recover_86 : decode cX6_recover 86 = .ok (.iconst 4, 1) := by decide +kernel
theorem dX6_recover_87 : decode cX6_recover 87 = .ok (.iload 4, 2) := by decide +kernel
theorem dX6_recover_89 : decode cX6_recover 89 = .ok (.imul, 1) := by decide +kernel
theorem dX6_recover_90 : decode cX6_recover 90 = .ok (.iadd, 1) := by decide +kernel
theorem dX6_recover_91 : decode cX6_recover 91 = .ok (.iload_n 1, 1) := by decide +kernel
theorem dX6_recover_92 : decode cX6_recover 92 = .ok (.iadd, 1) := by decide +kernel
theorem dX6_recover_93 : decode cX6_recover 93 = .ok (.dup2, 1) := by decide +kernel
theorem dX6_recover_94 : decode cX6_recover 94 = .ok (.iaload, 1) := by decide +kernel
theorem dX6_recover_95 : decode cX6_recover 95 = .ok (.aload_n 0, 1) := by decide +kernel
theorem dX6_recover_96 : decode cX6_recover 96 = .ok (.getfield 7, 3) := by decide +kernel
theorem dX6_recover_99 : decode cX6_recover 99 = .ok (.iconst 3, 1) := by decide +kernel
theorem dX6_recover_100 : decode cX6_recover 100 = .ok (.iload 4, 2) := by decide +kernel
theorem dX6_recover_102 : decode cX6_recover 102 = .ok (.iadd, 1) := by decide +kernel
theorem dX6_recover_103 : decode cX6_recover 103 = .ok (.iaload, 1) := by decide +kernel
theorem dX6_recover_104 : decode cX6_recover 104 = .ok (.ior, 1) := by decide +kernel
theorem dX6_recover_105 : decode cX6_recover 105 = .ok (.iastore, 1) := by decide +kernel
theorem dX6_recover_106 : decode cX6_recover 106 = .ok (.iinc 3 1, 3) := by decide +kernel
theorem dX6_recover_109 : decode cX6_recover 109 = .ok (.goto (-49), 3) := by decide +kernel
theorem dX6_recover_112 : decode cX6_recover 112 = .ok (.aload_n 0, 1) := by decide +kernel
theorem dX6_recover_113 : decode cX6_recover 113 = .ok (.iload_n 1, 1) := by decide +kernel
theorem dX6_recover_114 : decode cX6_recover 114 = .ok (.iload_n 2, 1) := by decide +kernel
theorem dX6_recover_115 : decode cX6_recover 115 = .ok (.invokevirtual 118, 3) := by decide +kernel
theorem dX6_recover_118 : decode cX6_recover 118 = .ok (.ifCond .eq 6, 3) := by decide +kernel
theorem dX6_recover_121 : decode cX6_recover 121 = .ok (.bipush (-2), 2) := by decide +kernel
theorem dX6_recover_123 : decode cX6_recover 123 = .ok (.ireturn, 1) := by decide +kernel
theorem dX6_recover_124 : decode cX6_recover 124 = .ok (.aload_n 0, 1) := by decide +kernel
theorem dX6_recover_125 : decode cX6_recover 125 = .ok (.iload_n 1, 1) := by decide +kernel
theorem dX6_recover_126 : decode cX6_recover 126 = .ok (.iload_n 2, 1) := by decide +kernel
theorem dX6_recover_127 : decode cX6_recover 127 = .ok (.invokevirtual 121, 3) := by decide +kernel
theorem dX6_recover_130 : decode cX6_recover 130 = .ok (.iconst 1, 1) := by decide +kernel
theorem dX6_recover_131 : decode cX6_recover 131 = .ok (.iadd, 1) := by decide +kernel
theorem dX6_recover_132 : decode cX6_recover 132 = .ok (.istore_n 3, 1) := by decide +kernel
theorem dX6_recover_133 : decode cX6_recover 133 = .ok (.iload_n 3, 1) := by decide +kernel
theorem dX6_recover_134 : decode cX6_recover 134 = .ok (.bipush 40, 2) := by decide +kernel
theorem dX6_recover_136 : decode cX6_recover 136 = .ok (.if_icmp .ge 12, 3) := by decide +kernel
theorem dX6_recover_139 : decode cX6_recover 139 = .ok (.aload_n 0, 1) := by decide +kernel
theorem dX6_recover_140 : decode cX6_recover 140 = .ok (.iload_n 1, 1) := by decide +kernel
theorem dX6_recover_141 : decode cX6_recover 141 = .ok (.iload_n 3, 1) := by decide +kernel
theorem dX6_recover_142 : decode cX6_recover 142 = .ok (.invokevirtual 124, 3) := by decide +kernel
theorem dX6_recover_145 : decode cX6_recover 145 = .ok (.goto 4, 3) := by decide +kernel
theorem dX6_recover_148 : decode cX6_recover 148 = .ok (.iconst (-1), 1) := by decide +kernel
theorem dX6_recover_149 : decode cX6_recover 149 = .ok (.istore 4, 2) := by decide +kernel
theorem dX6_recover_151 : decode cX6_recover 151 = .ok (.iload 4, 2) := by decide +kernel
theorem dX6_recover_153 : decode cX6_recover 153 = .ok (.iconst (-1), 1) := by decide +kernel
theorem dX6_recover_154 : decode cX6_recover 154 = .ok (.if_icmp .eq 41, 3) := by decide +kernel
theorem dX6_recover_157 : decode cX6_recover 157 = .ok (.aload_n 0, 1) := by decide +kernel
theorem dX6_recover_158 : decode cX6_recover 158 = .ok (.iload_n 1, 1) := by decide +kernel
theorem dX6_recover_159 : decode cX6_recover 159 = .ok (.iload_n 3, 1) := by decide +kernel
theorem dX6_recover_160 : decode cX6_recover 160 = .ok (.aload_n 0, 1) := by decide +kernel
theorem dX6_recover_161 : decode cX6_recover 161 = .ok (.iload 4, 2) := by decide +kernel
theorem dX6_recover_163 : decode cX6_recover 163 = .ok (.iload_n 1, 1) := by decide +kernel
theorem dX6_recover_164 : decode cX6_recover 164 = .ok (.iload_n 3, 1) := by decide +kernel
theorem dX6_recover_165 : decode cX6_recover 165 = .ok (.invokevirtual 127, 3) := by decide +kernel
theorem dX6_recover_168 : decode cX6_recover 168 = .ok (.invokevirtual 130, 3) := by decide +kernel
theorem dX6_recover_171 : decode cX6_recover 171 = .ok (.iinc 3 1, 3) := by decide +kernel
theorem dX6_recover_174 : decode cX6_recover 174 = .ok (.iload_n 3, 1) := by decide +kernel
theorem dX6_recover_175 : decode cX6_recover 175 = .ok (.bipush 40, 2) := by decide +kernel
theorem dX6_recover_177 : decode cX6_recover 177 = .ok (.if_icmp .ge 12, 3) := by decide +kernel
theorem dX6_recover_180 : decode cX6_recover 180 = .ok (.aload_n 0, 1) := by decide +kernel
theorem dX6_recover_181 : decode cX6_recover 181 = .ok (.iload_n 1, 1) := by decide +kernel
theorem dX6_recover_182 : decode cX6_recover 182 = .ok (.iload_n 3, 1) := by decide +kernel
theorem dX6_recover_183 : decode cX6_recover 183 = .ok (.invokevirtual 124, 3) := by decide +kernel
theorem dX6_recover_186 : decode cX6_recover 186 = .ok (.goto 4, 3) := by decide +kernel
theorem dX6_recover_189 : decode cX6_recover 189 = .ok (.iconst (-1), 1) := by decide +kernel
theorem dX6_recover_190 : decode cX6_recover 190 = .ok (.istore 4, 2) := by decide +kernel
theorem dX6_recover_192 : decode cX6_recover 192 = .ok (.goto (-41), 3) := by decide +kernel
theorem dX6_recover_195 : decode cX6_recover 195 = .ok (.aload_n 0, 1) := by decide +kernel
theorem dX6_recover_196 : decode cX6_recover 196 = .ok (.iload_n 1, 1) := by decide +kernel
theorem dX6_recover_197 : decode cX6_recover 197 = .ok (.iconst 3, 1) := by decide +kernel
theorem dX6_recover_198 : decode cX6_recover 198 = .ok (.iconst 2, 1) := by decide +kernel
theorem dX6_recover_199 : decode cX6_recover 199 = .ok (.invokevirtual 84, 3) := by decide +kernel
theorem dX6_recover_202 : decode cX6_recover 202 = .ok (.aload_n 0, 1) := by decide +kernel
theorem dX6_recover_203 : decode cX6_recover 203 = .ok (.iload_n 1, 1) := by decide +kernel
theorem dX6_recover_204 : decode cX6_recover 204 = .ok (.iconst 5, 1) := by decide +kernel
theorem dX6_recover_205 : decode cX6_recover 205 = .ok (.iload_n 3, 1) := by decide +kernel
theorem dX6_recover_206 : decode cX6_recover 206 = .ok (.iconst 1, 1) := by decide +kernel
theorem dX6_recover_207 : decode cX6_recover 207 = .ok (.isub, 1) := by decide +kernel
theorem dX6_recover_208 : decode cX6_recover 208 = .ok (.invokevirtual 84, 3) := by decide +kernel
theorem dX6_recover_211 : decode cX6_recover 211 = .ok (.iload_n 3, 1) := by decide +kernel
theorem dX6_recover_212 : decode cX6_recover 212 = .ok (.iconst 1, 1) := by decide +kernel
theorem dX6_recover_213 : decode cX6_recover 213 = .ok (.isub, 1) := by decide +kernel
theorem dX6_recover_214 : decode cX6_recover 214 = .ok (.ireturn, 1) := by decide +kernel
theorem dX6_replaceDowns_0 : decode cX6_replaceDowns 0 = .ok (.iconst 0, 1) := by decide +kernel
theorem dX6_replaceDowns_1 : decode cX6_replaceDowns 1 = .ok (.istore_n 2, 1) := by decide +kernel
theorem dX6_replaceDowns_2 : decode cX6_replaceDowns 2 = .ok (.iload_n 2, 1) := by decide +kernel
theorem dX6_replaceDowns_3 : decode cX6_replaceDowns 3 = .ok (.aload_n 0, 1) := by decide +kernel
theorem dX6_replaceDowns_4 : decode cX6_replaceDowns 4 = .ok (.iload_n 1, 1) := by decide +kernel
theorem dX6_replaceDowns_5 : decode cX6_replaceDowns 5 = .ok (.bipush 6, 2) := by decide +kernel
theorem dX6_replaceDowns_7 : decode cX6_replaceDowns 7 = .ok (.invokevirtual 31, 3) := by decide +kernel
theorem dX6_replaceDowns_10 : decode cX6_replaceDowns 10 = .ok (.if_icmp .ge 79, 3) := by decide +kernel
theorem dX6_replaceDowns_13 : decode cX6_replaceDowns 13 = .ok (.iconst 0, 1) := by decide +kernel
theorem dX6_replaceDowns_14 : decode cX6_replaceDowns 14 = .ok (.istore_n 3, 1) := by decide +kernel
theorem dX6_replaceDowns_15 : decode cX6_replaceDowns 15 = .ok (.iload_n 3, 1) := by decide +kernel
theorem dX6_replaceDowns_16 : decode cX6_replaceDowns 16 = .ok (.aload_n 0, 1) := by decide +kernel
theorem dX6_replaceDowns_17 : decode cX6_replaceDowns 17 = .ok (.iload_n 1, 1) := by decide +kernel
theorem dX6_replaceDowns_18 : decode cX6_replaceDowns 18 = .ok (.iconst 0, 1) := by decide +kernel
theorem dX6_replaceDowns_19 : decode cX6_replaceDowns 19 = .ok (.invokevirtual 31, 3) := by decide +kernel
theorem dX6_replaceDowns_22 : decode cX6_replaceDowns 22 = .ok (.if_icmp .ge 61, 3) := by decide +kernel
theorem dX6_replaceDowns_25 : decode cX6_replaceDowns 25 = .ok (.aload_n 0, 1) := by decide +kernel
theorem dX6_replaceDowns_26 : decode cX6_replaceDowns 26 = .ok (.aload_n 0, 1) := by decide +kernel
theorem dX6_replaceDowns_27 : decode cX6_replaceDowns 27 = .ok (.iload_n 1, 1) := by decide +kernel
theorem dX6_replaceDowns_28 : decode cX6_replaceDowns 28 = .ok (.iload_n 2, 1) := by decide +kernel
theorem dX6_replaceDowns_29 : decode cX6_replaceDowns 29 = .ok (.iload_n 3, 1) := by decide +kernel
theorem dX6_replaceDowns_30 : decode cX6_replaceDowns 30 = .ok (.invokevirtual 35, 3) := by decide +kernel
theorem dX6_replaceDowns_33 : decode cX6_replaceDowns 33 = .ok (.invokevirtual 45, 3) := by decide +kernel
theorem dX6_replaceDowns_36 : decode cX6_replaceDowns 36 = .ok (.ifCond .eq 7, 3) := by decide +kernel
theorem dX6_replaceDowns_39 : decode cX6_replaceDowns 39 = .ok (.iconst (-1), 1) := by decide +kernel
theorem dX6_replaceDowns_40 : decode cX6_replaceDowns 40 = .ok (.goto 13, 3) := by decide +kernel
theorem dX6_replaceDowns_43 : decode cX6_replaceDowns 43 = .ok (.aload_n 0, 1) := by decide +kernel
theorem dX6_replaceDowns_44 : decode cX6_replaceDowns 44 = .ok (.aload_n 0, 1) := by decide +kernel
theorem dX6_replaceDowns_45 : decode cX6_replaceDowns 45 = .ok (.iload_n 1, 1) := by decide +kernel
theorem dX6_replaceDowns_46 : decode cX6_replaceDowns 46 = .ok (.iload_n 2, 1) := by decide +kernel
theorem dX6_replaceDowns_47 : decode cX6_replaceDowns 47 = .ok (.invokevirtual 109, 3) := by decide +kernel
theorem dX6_replaceDowns_50 : decode cX6_replaceDowns 50 = .ok (.invokevirtual 102, 3) := by decide +kernel
theorem dX6_replaceDowns_53 : decode cX6_replaceDowns 53 = .ok (.istore 4, 2) := by decide +kernel
theorem dX6_replaceDowns_55 : decode cX6_replaceDowns 55 = .ok (.iload 4, 2) := by decide +kernel
theorem dX6_replaceDowns_57 : decode cX6_replaceDowns 57 = .ok (.iconst (-1), 1) := by decide +kernel
theorem dX6_replaceDowns_58 : decode cX6_replaceDowns 58 = .ok (.if_icmp .eq 19, 3) := by decide +kernel
theorem dX6_replaceDowns_61 : decode cX6_replaceDowns 61 = .ok (.aload_n 0, 1) := by decide +kernel
theorem dX6_replaceDowns_62 : decode cX6_replaceDowns 62 = .ok (.iload_n 1, 1) := by decide +kernel
theorem dX6_replaceDowns_63 : decode cX6_replaceDowns 63 = .ok (.sipush 128, 3) := by decide +kernel
theorem dX6_replaceDowns_66 : decode cX6_replaceDowns 66 = .ok (.iconst 5, 1) := by decide +kernel
theorem dX6_replaceDowns_67 : decode cX6_replaceDowns 67 = .ok (.iload_n 2, 1) := by decide +kernel
theorem dX6_replaceDowns_68 : decode cX6_replaceDowns 68 = .ok (.imul, 1) := by decide +kernel
theorem dX6_replaceDowns_69 : decode cX6_replaceDowns 69 = .ok (.iadd, 1) := by decide +kernel
theorem dX6_replaceDowns_70 : decode cX6_replaceDowns 70 = .ok (.iload_n 3, 1) := by decide +kernel
theorem dX6_replaceDowns_71 : decode cX6_replaceDowns 71 = .ok (.iadd, 1) := by decide +kernel
theorem dX6_replaceDowns_72 : decode cX6_replaceDowns 72 = .ok (.iload 4, 2) := by decide +kernel
theorem dX6_replaceDowns_74 : decode cX6_replaceDowns 74 = .ok (.invokevirtual 84, 3) := by decide +kernel
theorem dX6_replaceDowns_77 : decode cX6_replaceDowns 77 = .ok (.iinc 3 1, 3) := by decide +kernel
theorem dX6_replaceDowns_80 : decode cX6_replaceDowns 80 = .ok (.goto (-65), 3) := by decide +kernel
theorem dX6_replaceDowns_83 : decode cX6_replaceDowns 83 = .ok (.iinc 2 1, 3) := by decide +kernel
theorem dX6_replaceDowns_86 : decode cX6_replaceDowns 86 = .ok (.goto (-84), 3) := by decide +kernel
theorem dX6_replaceDowns_89 : decode cX6_replaceDowns 89 = .ok (.return_, 1) := by decide +kernel
theorem dX6_copies_0 : decode cX6_copies 0 = .ok (.iconst 0, 1) := by decide +kernel
theorem dX6_copies_1 : decode cX6_copies 1 = .ok (.istore_n 3, 1) := by decide +kernel
theorem dX6_copies_2 : decode cX6_copies 2 = .ok (.aload_n 0, 1) := by decide +kernel
theorem dX6_copies_3 : decode cX6_copies 3 = .ok (.iload_n 1, 1) := by decide +kernel
theorem dX6_copies_4 : decode cX6_copies 4 = .ok (.iload_n 2, 1) := by decide +kernel
theorem dX6_copies_5 : decode cX6_copies 5 = .ok (.invokevirtual 38, 3) := by decide +kernel
theorem dX6_copies_8 : decode cX6_copies 8 = .ok (.istore 4, 2) := by decide +kernel
theorem dX6_copies_10 : decode cX6_copies 10 = .ok (.iconst 0, 1) := by decide +kernel
theorem dX6_copies_11 : decode cX6_copies 11 = .ok (.istore 5, 2) := by decide +kernel
theorem dX6_copies_13 : decode cX6_copies 13 = .ok (.iload 5, 2) := by decide +kernel
theorem dX6_copies_15 : decode cX6_copies 15 = .ok (.aload_n 0, 1) := by decide +kernel
theorem dX6_copies_16 : decode cX6_copies 16 = .ok (.iload_n 1, 1) := by decide +kernel
theorem dX6_copies_17 : decode cX6_copies 17 = .ok (.iconst 1, 1) := by decide +kernel
theorem dX6_copies_18 : decode cX6_copies 18 = .ok (.invokevirtual 31, 3) := by decide +kernel
theorem dX6_copies_21 : decode cX6_copies 21 = .ok (.if_icmp .ge 82, 3) := by decide +kernel
theorem dX6_copies_24 : decode cX6_copies 24 = .ok (.aload_n 0, 1) := by decide +kernel
theorem dX6_copies_25 : decode cX6_copies 25 = .ok (.iload_n 1, 1) := by decide +kernel
theorem dX6_copies_26 : decode cX6_copies 26 = .ok (.iload 4, 2) := by decide +kernel
theorem dX6_copies_28 : decode cX6_copies 28 = .ok (.iload_n 2, 1) := by decide +kernel
theorem dX6_copies_29 : decode cX6_copies 29 = .ok (.iload 5, 2) := by decide +kernel
theorem dX6_copies_31 : decode cX6_copies 31 = .ok (.invokevirtual 41, 3) := by decide +kernel
theorem dX6_copies_34 : decode cX6_copies 34 = .ok (.istore 6, 2) := by decide +kernel
theorem dX6_copies_36 : decode cX6_copies 36 = .ok (.aload_n 0, 1) := by decide +kernel
theorem dX6_copies_37 : decode cX6_copies 37 = .ok (.iload_n 1, 1) := by decide +kernel
theorem dX6_copies_38 : decode cX6_copies 38 = .ok (.iload_n 2, 1) := by decide +kernel
theorem dX6_copies_39 : decode cX6_copies 39 = .ok (.invokevirtual 124, 3) := by decide +kernel
theorem dX6_copies_42 : decode cX6_copies 42 = .ok (.istore 7, 2) := by decide +kernel
theorem dX6_copies_44 : decode cX6_copies 44 = .ok (.iload 7, 2) := by decide +kernel
theorem dX6_copies_46 : decode cX6_copies 46 = .ok (.iconst (-1), 1) := by decide +kernel
theorem dX6_copies_47 : decode cX6_copies 47 = .ok (.if_icmp .eq 50, 3) := by decide +kernel
theorem dX6_copies_50 : decode cX6_copies 50 = .ok (.aload_n 0, 1) := by decide +kernel
theorem dX6_copies_51 : decode cX6_copies 51 = .ok (.iload 6, 2) := by decide +kernel
theorem dX6_copies_53 : decode cX6_copies 53 = .ok (.invokevirtual 45, 3) := by decide +kernel
theorem dX6_copies_56 : decode cX6_copies 56 = .ok (.ifCond .eq 41, 3) := by decide +kernel
theorem dX6_copies_59 : decode cX6_copies 59 = .ok (.aload_n 0, 1) := by decide +kernel
theorem dX6_copies_60 : decode cX6_copies 60 = .ok (.iload 6, 2) := by decide +kernel
theorem dX6_copies_62 : decode cX6_copies 62 = .ok (.iload_n 1, 1) := by decide +kernel
theorem dX6_copies_63 : decode cX6_copies 63 = .ok (.iload_n 2, 1) := by decide +kernel
theorem dX6_copies_64 : decode cX6_copies 64 = .ok (.invokevirtual 112, 3) := by decide +kernel
theorem dX6_copies_67 : decode cX6_copies 67 = .ok (.ifCond .ne 30, 3) := by decide +kernel
theorem dX6_copies_70 : decode cX6_copies 70 = .ok (.aload_n 0, 1) := by decide +kernel
theorem dX6_copies_71 : decode cX6_copies 71 = .ok (.iload 6, 2) := by decide +kernel
theorem dX6_copies_73 : decode cX6_copies 73 = .ok (.iload_n 1, 1) := by decide +kernel
theorem dX6_copies_74 : decode cX6_copies 74 = .ok (.iload_n 2, 1) := by decide +kernel
theorem dX6_copies_75 : decode cX6_copies 75 = .ok (.aload_n 0, 1) := by decide +kernel
theorem dX6_copies_76 : decode cX6_copies 76 = .ok (.iload 7, 2) := by decide +kernel
theorem dX6_copies_78 : decode cX6_copies 78 = .ok (.iload_n 1, 1) := by decide +kernel
theorem dX6_copies_79 : decode cX6_copies 79 = .ok (.iload_n 2, 1) := by decide +kernel
theorem dX6_copies_80 : decode cX6_copies 80 = .ok (.invokevirtual 127, 3) := by decide +kernel
theorem dX6_copies_83 : decode cX6_copies 83 = .ok (.aload_n 0, 1) := by decide +kernel
theorem dX6_copies_84 : decode cX6_copies 84 = .ok (.iload 7, 2) := by decide +kernel
theorem dX6_copies_86 : decode cX6_copies 86 = .ok (.iload_n 1, 1) := by decide +kernel
theorem dX6_copies_87 : decode cX6_copies 87 = .ok (.iload_n 2, 1) := by decide +kernel
theorem dX6_copies_88 : decode cX6_copies 88 = .ok (.invokevirtual 115, 3) := by decide +kernel
theorem dX6_copies_91 : decode cX6_copies 91 = .ok (.invokevirtual 77, 3) := by decide +kernel
theorem dX6_copies_94 : decode cX6_copies 94 = .ok (.iinc 3 1, 3) := by decide +kernel
theorem dX6_copies_97 : decode cX6_copies 97 = .ok (.iinc 5 1, 3) := by decide +kernel
theorem dX6_copies_100 : decode cX6_copies 100 = .ok (.goto (-87), 3) := by decide +kernel
theorem dX6_copies_103 : decode cX6_copies 103 = .ok (.iload_n 3, 1) := by decide +kernel
theorem dX6_copies_104 : decode cX6_copies 104 = .ok (.ireturn, 1) := by decide +kernel
theorem dX6_repair_0 : decode cX6_repair 0 = .ok (.aload_n 0, 1) := by decide +kernel
theorem dX6_repair_1 : decode cX6_repair 1 = .ok (.aload_n 0, 1) := by decide +kernel
theorem dX6_repair_2 : decode cX6_repair 2 = .ok (.iload_n 1, 1) := by decide +kernel
theorem dX6_repair_3 : decode cX6_repair 3 = .ok (.invokevirtual 95, 3) := by decide +kernel
theorem dX6_repair_6 : decode cX6_repair 6 = .ok (.aload_n 0, 1) := by decide +kernel
theorem dX6_repair_7 : decode cX6_repair 7 = .ok (.iload_n 1, 1) := by decide +kernel
theorem dX6_repair_8 : decode cX6_repair 8 = .ok (.invokevirtual 95, 3) := by decide +kernel
theorem dX6_repair_11 : decode cX6_repair 11 = .ok (.ifCond .eq 17, 3) := by decide +kernel
theorem dX6_repair_14 : decode cX6_repair 14 = .ok (.aload_n 0, 1) := by decide +kernel
theorem dX6_repair_15 : decode cX6_repair 15 = .ok (.iload_n 1, 1) := by decide +kernel
theorem dX6_repair_16 : decode cX6_repair 16 = .ok (.iconst 3, 1) := by decide +kernel
theorem dX6_repair_17 : decode cX6_repair 17 = .ok (.invokevirtual 31, 3) := by decide +kernel
theorem dX6_repair_20 : decode cX6_repair 20 = .ok (.iconst 2, 1) := by decide +kernel
theorem dX6_repair_21 : decode cX6_repair 21 = .ok (.if_icmp .ne 7, 3) := by decide +kernel
theorem dX6_repair_24 : decode cX6_repair 24 = .ok (.iconst 1, 1) := by decide +kernel
theorem dX6_repair_25 : decode cX6_repair 25 = .ok (.goto 4, 3) := by decide +kernel
theorem dX6_repair_28 : decode cX6_repair 28 = .ok (.iconst 0, 1) := by decide +kernel
theorem dX6_repair_29 : decode cX6_repair 29 = .ok (.invokevirtual 69, 3) := by decide +kernel
theorem dX6_repair_32 : decode cX6_repair 32 = .ok (.ifCond .ne 5, 3) := by decide +kernel
theorem dX6_repair_35 : decode cX6_repair 35 = .ok (.iconst 0, 1) := by decide +kernel
theorem dX6_repair_36 : decode cX6_repair 36 = .ok (.ireturn, 1) := by decide +kernel
theorem dX6_repair_37 : decode cX6_repair 37 = .ok (.aload_n 0, 1) := by decide +kernel
theorem dX6_repair_38 : decode cX6_repair 38 = .ok (.invokevirtual 63, 3) := by decide +kernel
theorem dX6_repair_41 : decode cX6_repair 41 = .ok (.aload_n 0, 1) := by decide +kernel
theorem dX6_repair_42 : decode cX6_repair 42 = .ok (.iload_n 1, 1) := by decide +kernel
theorem dX6_repair_43 : decode cX6_repair 43 = .ok (.invokevirtual 133, 3) := by decide +kernel
theorem dX6_repair_46 : decode cX6_repair 46 = .ok (.iconst 0, 1) := by decide +kernel
theorem dX6_repair_47 : decode cX6_repair 47 = .ok (.istore_n 2, 1) := by decide +kernel
theorem dX6_repair_48 : decode cX6_repair 48 = .ok (.iconst 0, 1) := by decide +kernel
theorem dX6_repair_49 : decode cX6_repair 49 = .ok (.istore_n 3, 1) := by decide +kernel
theorem dX6_repair_50 : decode cX6_repair 50 = .ok (.iload_n 3, 1) := by decide +kernel
theorem dX6_repair_51 : decode cX6_repair 51 = .ok (.aload_n 0, 1) := by decide +kernel
theorem dX6_repair_52 : decode cX6_repair 52 = .ok (.iload_n 1, 1) := by decide +kernel
theorem dX6_repair_53 : decode cX6_repair 53 = .ok (.iconst 5, 1) := by decide +kernel
theorem dX6_repair_54 : decode cX6_repair 54 = .ok (.invokevirtual 31, 3) := by decide +kernel
theorem dX6_repair_57 : decode cX6_repair 57 = .ok (.if_icmp .gt 18, 3) := by decide +kernel
theorem dX6_repair_60 : decode cX6_repair 60 = .ok (.iload_n 2, 1) := by decide +kernel
theorem dX6_repair_61 : decode cX6_repair 61 = .ok (.aload_n 0, 1) := by decide +kernel
theorem dX6_repair_62 : decode cX6_repair 62 = .ok (.iload_n 1, 1) := by decide +kernel
theorem dX6_repair_63 : decode cX6_repair 63 = .ok (.iload_n 3, 1) := by decide +kernel
theorem dX6_repair_64 : decode cX6_repair 64 = .ok (.invokevirtual 136, 3) := by decide +kernel
theorem dX6_repair_67 : decode cX6_repair 67 = .ok (.iadd, 1) := by decide +kernel
theorem dX6_repair_68 : decode cX6_repair 68 = .ok (.istore_n 2, 1) := by decide +kernel
theorem dX6_repair_69 : decode cX6_repair 69 = .ok (.iinc 3 1, 3) := by decide +kernel
theorem dX6_repair_72 : decode cX6_repair 72 = .ok (.goto (-22), 3) := by decide +kernel
theorem dX6_repair_75 : decode cX6_repair 75 = .ok (.iload_n 2, 1) := by decide +kernel
theorem dX6_repair_76 : decode cX6_repair 76 = .ok (.ireturn, 1) := by decide +kernel
theorem dX6_read_0 : decode cX6_read 0 = .ok (.aload_n 0, 1) := by decide +kernel
theorem dX6_read_1 : decode cX6_read 1 = .ok (.iload_n 1, 1) := by decide +kernel
theorem dX6_read_2 : decode cX6_read 2 = .ok (.invokevirtual 95, 3) := by decide +kernel
theorem dX6_read_5 : decode cX6_read 5 = .ok (.ifCond .eq 11, 3) := by decide +kernel
theorem dX6_read_8 : decode cX6_read 8 = .ok (.iload_n 2, 1) := by decide +kernel
theorem dX6_read_9 : decode cX6_read 9 = .ok (.ifCond .lt 7, 3) := by decide +kernel
theorem dX6_read_12 : decode cX6_read 12 = .ok (.iconst 1, 1) := by decide +kernel
theorem dX6_read_13 : decode cX6_read 13 = .ok (.goto 4, 3) := by decide +kernel
theorem dX6_read_16 : decode cX6_read 16 = .ok (.iconst 0, 1) := by decide +kernel
theorem dX6_read_17 : decode cX6_read 17 = .ok (.istore_n 3, 1) := by decide +kernel
theorem dX6_read_18 : decode cX6_read 18 = .ok (.aload_n 0, 1) := by decide +kernel
theorem dX6_read_19 : decode cX6_read 19 = .ok (.iload_n 3, 1) := by decide +kernel
theorem dX6_read_20 : decode cX6_read 20 = .ok (.iload_n 3, 1) := by decide +kernel
theorem dX6_read_21 : decode cX6_read 21 = .ok (.ifCond .eq 16, 3) := by decide +kernel
theorem dX6_read_24 : decode cX6_read 24 = .ok (.iload_n 2, 1) := by decide +kernel
theorem dX6_read_25 : decode cX6_read 25 = .ok (.aload_n 0, 1) := by decide +kernel
theorem dX6_read_26 : decode cX6_read 26 = .ok (.iload_n 1, 1) := by decide +kernel
theorem dX6_read_27 : decode cX6_read 27 = .ok (.invokevirtual 139, 3) := by decide +kernel
theorem dX6_read_30 : decode cX6_read 30 = .ok (.if_icmp .gt 7, 3) := by decide +kernel
theorem dX6_read_33 : decode cX6_read 33 = .ok (.iconst 1, 1) := by decide +kernel
theorem dX6_read_34 : decode cX6_read 34 = .ok (.goto 4, 3) := by decide +kernel
theorem dX6_read_37 : decode cX6_read 37 = .ok (.iconst 0, 1) := by decide +kernel
theorem dX6_read_38 : decode cX6_read 38 = .ok (.invokevirtual 69, 3) := by decide +kernel
theorem dX6_read_41 : decode cX6_read 41 = .ok (.ifCond .ne 5, 3) := by decide +kernel
theorem dX6_read_44 : decode cX6_read 44 = .ok (.iconst 0, 1) := by decide +kernel
theorem dX6_read_45 : decode cX6_read 45 = .ok (.ireturn, 1) := by decide +kernel
theorem dX6_read_46 : decode cX6_read 46 = .ok (.aload_n 0, 1) := by decide +kernel
theorem dX6_read_47 : decode cX6_read 47 = .ok (.iload_n 1, 1) := by decide +kernel
theorem dX6_read_48 : decode cX6_read 48 = .ok (.iload_n 2, 1) := by decide +kernel
theorem dX6_read_49 : decode cX6_read 49 = .ok (.invokevirtual 124, 3) := by decide +kernel
theorem dX6_read_52 : decode cX6_read 52 = .ok (.istore 4, 2) := by decide +kernel
theorem dX6_read_54 : decode cX6_read 54 = .ok (.iload 4, 2) := by decide +kernel
theorem dX6_read_56 : decode cX6_read 56 = .ok (.iconst (-1), 1) := by decide +kernel
theorem dX6_read_57 : decode cX6_read 57 = .ok (.if_icmp .ne 7, 3) := by decide +kernel
theorem dX6_read_60 : decode cX6_read 60 = .ok (.iconst (-1), 1) := by decide +kernel
theorem dX6_read_61 : decode cX6_read 61 = .ok (.goto 11, 3) := by decide +kernel
theorem dX6_read_64 : decode cX6_read 64 = .ok (.aload_n 0, 1) := by decide +kernel
theorem dX6_read_65 : decode cX6_read 65 = .ok (.iload 4, 2) := by decide +kernel
theorem dX6_read_67 : decode cX6_read 67 = .ok (.iload_n 1, 1) := by decide +kernel
theorem dX6_read_68 : decode cX6_read 68 = .ok (.iload_n 2, 1) := by decide +kernel
theorem dX6_read_69 : decode cX6_read 69 = .ok (.invokevirtual 127, 3) := by decide +kernel
theorem dX6_read_72 : decode cX6_read 72 = .ok (.ireturn, 1) := by decide +kernel
theorem dX6_state_0 : decode cX6_state 0 = .ok (.aload_n 0, 1) := by decide +kernel
theorem dX6_state_1 : decode cX6_state 1 = .ok (.aload_n 0, 1) := by decide +kernel
theorem dX6_state_2 : decode cX6_state 2 = .ok (.iload_n 1, 1) := by decide +kernel
theorem dX6_state_3 : decode cX6_state 3 = .ok (.invokevirtual 95, 3) := by decide +kernel
theorem dX6_state_6 : decode cX6_state 6 = .ok (.iconst 1, 1) := by decide +kernel
theorem dX6_state_7 : decode cX6_state 7 = .ok (.invokevirtual 69, 3) := by decide +kernel
theorem dX6_state_10 : decode cX6_state 10 = .ok (.ifCond .eq 12, 3) := by decide +kernel
theorem dX6_state_13 : decode cX6_state 13 = .ok (.aload_n 0, 1) := by decide +kernel
theorem dX6_state_14 : decode cX6_state 14 = .ok (.iload_n 1, 1) := by decide +kernel
theorem dX6_state_15 : decode cX6_state 15 = .ok (.iconst 3, 1) := by decide +kernel
theorem dX6_state_16 : decode cX6_state 16 = .ok (.invokevirtual 31, 3) := by decide +kernel
theorem dX6_state_19 : decode cX6_state 19 = .ok (.goto 4, 3) := by decide +kernel
theorem dX6_state_22 : decode cX6_state 22 = .ok (.iconst 0, 1) := by decide +kernel
theorem dX6_state_23 : decode cX6_state 23 = .ok (.ireturn, 1) := by decide +kernel
theorem dX6_lastReadable_0 : decode cX6_lastReadable 0 = .ok (.aload_n 0, 1) := by decide +kernel
theorem dX6_lastReadable_1 : decode cX6_lastReadable 1 = .ok (.aload_n 0, 1) := by decide +kernel
theorem dX6_lastReadable_2 : decode cX6_lastReadable 2 = .ok (.iload_n 1, 1) := by decide +kernel
theorem dX6_lastReadable_3 : decode cX6_lastReadable 3 = .ok (.invokevirtual 95, 3) := by decide +kernel
theorem dX6_lastReadable_6 : decode cX6_lastReadable 6 = .ok (.iconst 1, 1) := by decide +kernel
theorem dX6_lastReadable_7 : decode cX6_lastReadable 7 = .ok (.invokevirtual 69, 3) := by decide +kernel
theorem dX6_lastReadable_10 : decode cX6_lastReadable 10 = .ok (.ifCond .eq 11, 3) := by decide +kernel
theorem dX6_lastReadable_13 : decode cX6_lastReadable 13 = .ok (.aload_n 0, 1) := by decide +kernel
theorem dX6_lastReadable_14 : decode cX6_lastReadable 14 = .ok (.iload_n 1, 1) := by decide +kernel
theorem dX6_lastReadable_15 : decode cX6_lastReadable 15 = .ok (.invokevirtual 139, 3) := by decide +kernel
theorem dX6_lastReadable_18 : decode cX6_lastReadable 18 = .ok (.goto 4, 3) := by decide +kernel
theorem dX6_lastReadable_21 : decode cX6_lastReadable 21 = .ok (.iconst 0, 1) := by decide +kernel
theorem dX6_lastReadable_22 : decode cX6_lastReadable 22 = .ok (.ireturn, 1) := by decide +kernel
theorem dX6_appended_0 : decode cX6_appended 0 = .ok (.aload_n 0, 1) := by decide +kernel
theorem dX6_appended_1 : decode cX6_appended 1 = .ok (.aload_n 0, 1) := by decide +kernel
theorem dX6_appended_2 : decode cX6_appended 2 = .ok (.iload_n 1, 1) := by decide +kernel
theorem dX6_appended_3 : decode cX6_appended 3 = .ok (.invokevirtual 95, 3) := by decide +kernel
theorem dX6_appended_6 : decode cX6_appended 6 = .ok (.iconst 1, 1) := by decide +kernel
theorem dX6_appended_7 : decode cX6_appended 7 = .ok (.invokevirtual 69, 3) := by decide +kernel
theorem dX6_appended_10 : decode cX6_appended 10 = .ok (.ifCond .eq 12, 3) := by decide +kernel
theorem dX6_appended_13 : decode cX6_appended 13 = .ok (.aload_n 0, 1) := by decide +kernel
theorem dX6_appended_14 : decode cX6_appended 14 = .ok (.iload_n 1, 1) := by decide +kernel
theorem dX6_appended_15 : decode cX6_appended 15 = .ok (.iconst 4, 1) := by decide +kernel
theorem dX6_appended_16 : decode cX6_appended 16 = .ok (.invokevirtual 31, 3) := by decide +kernel
theorem dX6_appended_19 : decode cX6_appended 19 = .ok (.goto 4, 3) := by decide +kernel
theorem dX6_appended_22 : decode cX6_appended 22 = .ok (.iconst 0, 1) := by decide +kernel
theorem dX6_appended_23 : decode cX6_appended 23 = .ok (.ireturn, 1) := by decide +kernel
theorem dX6_isEntry_0 : decode cX6_isEntry 0 = .ok (.aload_n 0, 1) := by decide +kernel
theorem dX6_isEntry_1 : decode cX6_isEntry 1 = .ok (.iload_n 1, 1) := by decide +kernel
theorem dX6_isEntry_2 : decode cX6_isEntry 2 = .ok (.invokevirtual 95, 3) := by decide +kernel
theorem dX6_isEntry_5 : decode cX6_isEntry 5 = .ok (.ifCond .eq 23, 3) := by decide +kernel
theorem dX6_isEntry_8 : decode cX6_isEntry 8 = .ok (.iload_n 2, 1) := by decide +kernel
theorem dX6_isEntry_9 : decode cX6_isEntry 9 = .ok (.iconst 0, 1) := by decide +kernel
theorem dX6_isEntry_10 : decode cX6_isEntry 10 = .ok (.aload_n 0, 1) := by decide +kernel
theorem dX6_isEntry_11 : decode cX6_isEntry 11 = .ok (.iload_n 1, 1) := by decide +kernel
theorem dX6_isEntry_12 : decode cX6_isEntry 12 = .ok (.iconst 4, 1) := by decide +kernel
theorem dX6_isEntry_13 : decode cX6_isEntry 13 = .ok (.invokevirtual 31, 3) := by decide +kernel
theorem dX6_isEntry_16 : decode cX6_isEntry 16 = .ok (.iconst 1, 1) := by decide +kernel
theorem dX6_isEntry_17 : decode cX6_isEntry 17 = .ok (.isub, 1) := by decide +kernel
theorem dX6_isEntry_18 : decode cX6_isEntry 18 = .ok (.invokestatic 23, 3) := by decide +kernel
theorem dX6_isEntry_21 : decode cX6_isEntry 21 = .ok (.ifCond .eq 7, 3) := by decide +kernel
theorem dX6_isEntry_24 : decode cX6_isEntry 24 = .ok (.iconst 1, 1) := by decide +kernel
theorem dX6_isEntry_25 : decode cX6_isEntry 25 = .ok (.goto 4, 3) := by decide +kernel
theorem dX6_isEntry_28 : decode cX6_isEntry 28 = .ok (.iconst 0, 1) := by decide +kernel
theorem dX6_isEntry_29 : decode cX6_isEntry 29 = .ok (.ireturn, 1) := by decide +kernel
theorem dX6_acknowledgements_0 : decode cX6_acknowledgements 0 = .ok (.aload_n 0, 1) := by decide +kernel
theorem dX6_acknowledgements_1 : decode cX6_acknowledgements 1 = .ok (.aload_n 0, 1) := by decide +kernel
theorem dX6_acknowledgements_2 : decode cX6_acknowledgements 2 = .ok (.iload_n 1, 1) := by decide +kernel
theorem dX6_acknowledgements_3 : decode cX6_acknowledgements 3 = .ok (.iload_n 2, 1) := by decide +kernel
theorem dX6_acknowledgements_4 : decode cX6_acknowledgements 4 = .ok (.invokevirtual 142, 3) := by decide +kernel
theorem dX6_acknowledgements_7 : decode cX6_acknowledgements 7 = .ok (.iconst 1, 1) := by decide +kernel
theorem dX6_acknowledgements_8 : decode cX6_acknowledgements 8 = .ok (.invokevirtual 69, 3) := by decide +kernel
theorem dX6_acknowledgements_11 : decode cX6_acknowledgements 11 = .ok (.ifCond .eq 18, 3) := by decide +kernel
theorem dX6_acknowledgements_14 : decode cX6_acknowledgements 14 = .ok (.aload_n 0, 1) := by decide +kernel
theorem dX6_acknowledgements_15 : decode cX6_acknowledgements 15 = .ok (.iload_n 1, 1) := by decide +kernel
theorem dX6_acknowledgements_16 : decode cX6_acknowledgements 16 = .ok (.bipush 47, 2) := by decide +kernel
theorem dX6_acknowledgements_18 : decode cX6_acknowledgements 18 = .ok (.iload_n 2, 1) := by decide +kernel
theorem dX6_acknowledgements_19 : decode cX6_acknowledgements 19 = .ok (.iadd, 1) := by decide +kernel
theorem dX6_acknowledgements_20 : decode cX6_acknowledgements 20 = .ok (.invokevirtual 31, 3) := by decide +kernel
theorem dX6_acknowledgements_23 : decode cX6_acknowledgements 23 = .ok (.invokestatic 57, 3) := by decide +kernel
theorem dX6_acknowledgements_26 : decode cX6_acknowledgements 26 = .ok (.goto 4, 3) := by decide +kernel
theorem dX6_acknowledgements_29 : decode cX6_acknowledgements 29 = .ok (.iconst 0, 1) := by decide +kernel
theorem dX6_acknowledgements_30 : decode cX6_acknowledgements 30 = .ok (.ireturn, 1) := by decide +kernel
theorem dX6_holding_0 : decode cX6_holding 0 = .ok (.iconst 0, 1) := by decide +kernel
theorem dX6_holding_1 : decode cX6_holding 1 = .ok (.istore_n 3, 1) := by decide +kernel
theorem dX6_holding_2 : decode cX6_holding 2 = .ok (.iconst 0, 1) := by decide +kernel
theorem dX6_holding_3 : decode cX6_holding 3 = .ok (.istore 4, 2) := by decide +kernel
theorem dX6_holding_5 : decode cX6_holding 5 = .ok (.iload 4, 2) := by decide +kernel
theorem dX6_holding_7 : decode cX6_holding 7 = .ok (.aload_n 0, 1) := by decide +kernel
theorem dX6_holding_8 : decode cX6_holding 8 = .ok (.getfield 7, 3) := by decide +kernel
theorem dX6_holding_11 : decode cX6_holding 11 = .ok (.iconst 0, 1) := by decide +kernel
theorem dX6_holding_12 : decode cX6_holding 12 = .ok (.iaload, 1) := by decide +kernel
theorem dX6_holding_13 : decode cX6_holding 13 = .ok (.if_icmp .ge 31, 3) := by decide +kernel
theorem dX6_holding_16 : decode cX6_holding 16 = .ok (.iload_n 3, 1) := by decide +kernel
theorem dX6_holding_17 : decode cX6_holding 17 = .ok (.aload_n 0, 1) := by decide +kernel
theorem dX6_holding_18 : decode cX6_holding 18 = .ok (.iload 4, 2) := by decide +kernel
theorem dX6_holding_20 : decode cX6_holding 20 = .ok (.iload_n 1, 1) := by decide +kernel
theorem dX6_holding_21 : decode cX6_holding 21 = .ok (.iload_n 2, 1) := by decide +kernel
theorem dX6_holding_22 : decode cX6_holding 22 = .ok (.invokevirtual 112, 3) := by decide +kernel
theorem dX6_holding_25 : decode cX6_holding 25 = .ok (.ifCond .eq 10, 3) := by decide +kernel
theorem dX6_holding_28 : decode cX6_holding 28 = .ok (.iconst 1, 1) := by decide +kernel
theorem dX6_holding_29 : decode cX6_holding 29 = .ok (.iload 4, 2) := by decide +kernel
theorem dX6_holding_31 : decode cX6_holding 31 = .ok (.ishl, 1) := by decide +kernel
theorem dX6_holding_32 : decode cX6_holding 32 = .ok (.goto 4, 3) := by decide +kernel
theorem dX6_holding_35 : decode cX6_holding 35 = .ok (.iconst 0, 1) := by decide +kernel
theorem dX6_holding_36 : decode cX6_holding 36 = .ok (.ior, 1) := by decide +kernel
theorem dX6_holding_37 : decode cX6_holding 37 = .ok (.istore_n 3, 1) := by decide +kernel
theorem dX6_holding_38 : decode cX6_holding 38 = .ok (.iinc 4 1, 3) := by decide +kernel
theorem dX6_holding_41 : decode cX6_holding 41 = .ok (.goto (-36), 3) := by decide +kernel
theorem dX6_holding_44 : decode cX6_holding 44 = .ok (.iload_n 3, 1) := by decide +kernel
theorem dX6_holding_45 : decode cX6_holding 45 = .ok (.ireturn, 1) := by decide +kernel
theorem dX6_holders_0 : decode cX6_holders 0 = .ok (.aload_n 0, 1) := by decide +kernel
theorem dX6_holders_1 : decode cX6_holders 1 = .ok (.aload_n 0, 1) := by decide +kernel
theorem dX6_holders_2 : decode cX6_holders 2 = .ok (.iload_n 1, 1) := by decide +kernel
theorem dX6_holders_3 : decode cX6_holders 3 = .ok (.iload_n 2, 1) := by decide +kernel
theorem dX6_holders_4 : decode cX6_holders 4 = .ok (.invokevirtual 142, 3) := by decide +kernel
theorem dX6_holders_7 : decode cX6_holders 7 = .ok (.iconst 1, 1) := by decide +kernel
theorem dX6_holders_8 : decode cX6_holders 8 = .ok (.invokevirtual 69, 3) := by decide +kernel
theorem dX6_holders_11 : decode cX6_holders 11 = .ok (.ifCond .eq 12, 3) := by decide +kernel
theorem dX6_holders_14 : decode cX6_holders 14 = .ok (.aload_n 0, 1) := by decide +kernel
theorem dX6_holders_15 : decode cX6_holders 15 = .ok (.iload_n 1, 1) := by decide +kernel
theorem dX6_holders_16 : decode cX6_holders 16 = .ok (.iload_n 2, 1) := by decide +kernel
theorem dX6_holders_17 : decode cX6_holders 17 = .ok (.invokevirtual 145, 3) := by decide +kernel
theorem dX6_holders_20 : decode cX6_holders 20 = .ok (.goto 4, 3) := by decide +kernel
theorem dX6_holders_23 : decode cX6_holders 23 = .ok (.iconst 0, 1) := by decide +kernel
theorem dX6_holders_24 : decode cX6_holders 24 = .ok (.ireturn, 1) := by decide +kernel
theorem dX6_fragmentCount_0 : decode cX6_fragmentCount 0 = .ok (.aload_n 0, 1) := by decide +kernel
theorem dX6_fragmentCount_1 : decode cX6_fragmentCount 1 = .ok (.aload_n 0, 1) := by decide +kernel
theorem dX6_fragmentCount_2 : decode cX6_fragmentCount 2 = .ok (.iload_n 1, 1) := by decide +kernel
theorem dX6_fragmentCount_3 : decode cX6_fragmentCount 3 = .ok (.invokevirtual 95, 3) := by decide +kernel
theorem dX6_fragmentCount_6 : decode cX6_fragmentCount 6 = .ok (.iconst 1, 1) := by decide +kernel
theorem dX6_fragmentCount_7 : decode cX6_fragmentCount 7 = .ok (.invokevirtual 69, 3) := by decide +kernel
theorem dX6_fragmentCount_10 : decode cX6_fragmentCount 10 = .ok (.ifCond .eq 13, 3) := by decide +kernel
theorem dX6_fragmentCount_13 : decode cX6_fragmentCount 13 = .ok (.aload_n 0, 1) := by decide +kernel
theorem dX6_fragmentCount_14 : decode cX6_fragmentCount 14 = .ok (.iload_n 1, 1) := by decide +kernel
theorem dX6_fragmentCount_15 : decode cX6_fragmentCount 15 = .ok (.bipush 6, 2) := by decide +kernel
theorem dX6_fragmentCount_17 : decode cX6_fragmentCount 17 = .ok (.invokevirtual 31, 3) := by decide +kernel
theorem dX6_fragmentCount_20 : decode cX6_fragmentCount 20 = .ok (.goto 4, 3) := by decide +kernel
theorem dX6_fragmentCount_23 : decode cX6_fragmentCount 23 = .ok (.iconst 0, 1) := by decide +kernel
theorem dX6_fragmentCount_24 : decode cX6_fragmentCount 24 = .ok (.ireturn, 1) := by decide +kernel
theorem dX6_isFragment_0 : decode cX6_isFragment 0 = .ok (.aload_n 0, 1) := by decide +kernel
theorem dX6_isFragment_1 : decode cX6_isFragment 1 = .ok (.iload_n 1, 1) := by decide +kernel
theorem dX6_isFragment_2 : decode cX6_isFragment 2 = .ok (.invokevirtual 95, 3) := by decide +kernel
theorem dX6_isFragment_5 : decode cX6_isFragment 5 = .ok (.ifCond .eq 24, 3) := by decide +kernel
theorem dX6_isFragment_8 : decode cX6_isFragment 8 = .ok (.iload_n 2, 1) := by decide +kernel
theorem dX6_isFragment_9 : decode cX6_isFragment 9 = .ok (.iconst 0, 1) := by decide +kernel
theorem dX6_isFragment_10 : decode cX6_isFragment 10 = .ok (.aload_n 0, 1) := by decide +kernel
theorem dX6_isFragment_11 : decode cX6_isFragment 11 = .ok (.iload_n 1, 1) := by decide +kernel
theorem dX6_isFragment_12 : decode cX6_isFragment 12 = .ok (.bipush 6, 2) := by decide +kernel
theorem dX6_isFragment_14 : decode cX6_isFragment 14 = .ok (.invokevirtual 31, 3) := by decide +kernel
theorem dX6_isFragment_17 : decode cX6_isFragment 17 = .ok (.iconst 1, 1) := by decide +kernel
theorem dX6_isFragment_18 : decode cX6_isFragment 18 = .ok (.isub, 1) := by decide +kernel
theorem dX6_isFragment_19 : decode cX6_isFragment 19 = .ok (.invokestatic 23, 3) := by decide +kernel
theorem dX6_isFragment_22 : decode cX6_isFragment 22 = .ok (.ifCond .eq 7, 3) := by decide +kernel
theorem dX6_isFragment_25 : decode cX6_isFragment 25 = .ok (.iconst 1, 1) := by decide +kernel
theorem dX6_isFragment_26 : decode cX6_isFragment 26 = .ok (.goto 4, 3) := by decide +kernel
theorem dX6_isFragment_29 : decode cX6_isFragment 29 = .ok (.iconst 0, 1) := by decide +kernel
theorem dX6_isFragment_30 : decode cX6_isFragment 30 = .ok (.ireturn, 1) := by decide +kernel
theorem dX6_firstEntry_0 : decode cX6_firstEntry 0 = .ok (.aload_n 0, 1) := by decide +kernel
theorem dX6_firstEntry_1 : decode cX6_firstEntry 1 = .ok (.aload_n 0, 1) := by decide +kernel
theorem dX6_firstEntry_2 : decode cX6_firstEntry 2 = .ok (.iload_n 1, 1) := by decide +kernel
theorem dX6_firstEntry_3 : decode cX6_firstEntry 3 = .ok (.iload_n 2, 1) := by decide +kernel
theorem dX6_firstEntry_4 : decode cX6_firstEntry 4 = .ok (.invokevirtual 148, 3) := by decide +kernel
theorem dX6_firstEntry_7 : decode cX6_firstEntry 7 = .ok (.iconst 1, 1) := by decide +kernel
theorem dX6_firstEntry_8 : decode cX6_firstEntry 8 = .ok (.invokevirtual 69, 3) := by decide +kernel
theorem dX6_firstEntry_11 : decode cX6_firstEntry 11 = .ok (.ifCond .eq 15, 3) := by decide +kernel
theorem dX6_firstEntry_14 : decode cX6_firstEntry 14 = .ok (.aload_n 0, 1) := by decide +kernel
theorem dX6_firstEntry_15 : decode cX6_firstEntry 15 = .ok (.iload_n 1, 1) := by decide +kernel
theorem dX6_firstEntry_16 : decode cX6_firstEntry 16 = .ok (.bipush 87, 2) := by decide +kernel
theorem dX6_firstEntry_18 : decode cX6_firstEntry 18 = .ok (.iload_n 2, 1) := by decide +kernel
theorem dX6_firstEntry_19 : decode cX6_firstEntry 19 = .ok (.iadd, 1) := by decide +kernel
theorem dX6_firstEntry_20 : decode cX6_firstEntry 20 = .ok (.invokevirtual 31, 3) := by decide +kernel
theorem dX6_firstEntry_23 : decode cX6_firstEntry 23 = .ok (.goto 4, 3) := by decide +kernel
theorem dX6_firstEntry_26 : decode cX6_firstEntry 26 = .ok (.iconst 0, 1) := by decide +kernel
theorem dX6_firstEntry_27 : decode cX6_firstEntry 27 = .ok (.ireturn, 1) := by decide +kernel
theorem dX6_member_0 : decode cX6_member 0 = .ok (.aload_n 0, 1) := by decide +kernel
theorem dX6_member_1 : decode cX6_member 1 = .ok (.iload_n 1, 1) := by decide +kernel
theorem dX6_member_2 : decode cX6_member 2 = .ok (.iload_n 2, 1) := by decide +kernel
theorem dX6_member_3 : decode cX6_member 3 = .ok (.invokevirtual 148, 3) := by decide +kernel
theorem dX6_member_6 : decode cX6_member 6 = .ok (.ifCond .eq 23, 3) := by decide +kernel
theorem dX6_member_9 : decode cX6_member 9 = .ok (.iload_n 3, 1) := by decide +kernel
theorem dX6_member_10 : decode cX6_member 10 = .ok (.iconst 0, 1) := by decide +kernel
theorem dX6_member_11 : decode cX6_member 11 = .ok (.aload_n 0, 1) := by decide +kernel
theorem dX6_member_12 : decode cX6_member 12 = .ok (.iload_n 1, 1) := by decide +kernel
theorem dX6_member_13 : decode cX6_member 13 = .ok (.iconst 0, 1) := by decide +kernel
theorem dX6_member_14 : decode cX6_member 14 = .ok (.invokevirtual 31, 3) := by decide +kernel
theorem dX6_member_17 : decode cX6_member 17 = .ok (.iconst 1, 1) := by decide +kernel
theorem dX6_member_18 : decode cX6_member 18 = .ok (.isub, 1) := by decide +kernel
theorem dX6_member_19 : decode cX6_member 19 = .ok (.invokestatic 23, 3) := by decide +kernel
theorem dX6_member_22 : decode cX6_member 22 = .ok (.ifCond .eq 7, 3) := by decide +kernel
theorem dX6_member_25 : decode cX6_member 25 = .ok (.iconst 1, 1) := by decide +kernel
theorem dX6_member_26 : decode cX6_member 26 = .ok (.goto 4, 3) := by decide +kernel
theorem dX6_member_29 : decode cX6_member 29 = .ok (.iconst 0, 1) := by decide +kernel
theorem dX6_member_30 : decode cX6_member 30 = .ok (.istore 4, 2) := by decide +kernel
theorem dX6_member_32 : decode cX6_member 32 = .ok (.aload_n 0, 1) := by decide +kernel
theorem dX6_member_33 : decode cX6_member 33 = .ok (.iload 4, 2) := by decide +kernel
theorem dX6_member_35 : decode cX6_member 35 = .ok (.iconst 1, 1) := by decide +kernel
theorem dX6_member_36 : decode cX6_member 36 = .ok (.invokevirtual 69, 3) := by decide +kernel
theorem dX6_member_39 : decode cX6_member 39 = .ok (.ifCond .eq 13, 3) := by decide +kernel
theorem dX6_member_42 : decode cX6_member 42 = .ok (.aload_n 0, 1) := by decide +kernel
theorem dX6_member_43 : decode cX6_member 43 = .ok (.iload_n 1, 1) := by decide +kernel
theorem dX6_member_44 : decode cX6_member 44 = .ok (.iload_n 2, 1) := by decide +kernel
theorem dX6_member_45 : decode cX6_member 45 = .ok (.iload_n 3, 1) := by decide +kernel
theorem dX6_member_46 : decode cX6_member 46 = .ok (.invokevirtual 35, 3) := by decide +kernel
theorem dX6_member_49 : decode cX6_member 49 = .ok (.goto 4, 3) := by decide +kernel
theorem dX6_member_52 : decode cX6_member 52 = .ok (.iconst 0, 1) := by decide +kernel
theorem dX6_member_53 : decode cX6_member 53 = .ok (.ireturn, 1) := by decide +kernel
theorem dX6_under_0 : decode cX6_under 0 = .ok (.iconst 0, 1) := by decide +kernel
theorem dX6_under_1 : decode cX6_under 1 = .ok (.istore_n 2, 1) := by decide +kernel
theorem dX6_under_2 : decode cX6_under 2 = .ok (.aload_n 0, 1) := by decide +kernel
theorem dX6_under_3 : decode cX6_under 3 = .ok (.iload_n 1, 1) := by decide +kernel
theorem dX6_under_4 : decode cX6_under 4 = .ok (.invokevirtual 139, 3) := by decide +kernel
theorem dX6_under_7 : decode cX6_under 7 = .ok (.istore_n 3, 1) := by decide +kernel
theorem dX6_under_8 : decode cX6_under 8 = .ok (.iconst 0, 1) := by decide +kernel
theorem dX6_under_9 : decode cX6_under 9 = .ok (.istore 4, 2) := by decide +kernel
theorem dX6_under_11 : decode cX6_under 11 = .ok (.iload 4, 2) := by decide +kernel
theorem dX6_under_13 : decode cX6_under 13 = .ok (.iload_n 3, 1) := by decide +kernel
theorem dX6_under_14 : decode cX6_under 14 = .ok (.if_icmp .gt 100, 3) := by decide +kernel
theorem dX6_under_17 : decode cX6_under 17 = .ok (.iconst 0, 1) := by decide +kernel
theorem dX6_under_18 : decode cX6_under 18 = .ok (.istore 5, 2) := by decide +kernel
theorem dX6_under_20 : decode cX6_under 20 = .ok (.iconst 0, 1) := by decide +kernel
theorem dX6_under_21 : decode cX6_under 21 = .ok (.istore 6, 2) := by decide +kernel
theorem dX6_under_23 : decode cX6_under 23 = .ok (.iload 6, 2) := by decide +kernel
theorem dX6_under_25 : decode cX6_under 25 = .ok (.aload_n 0, 1) := by decide +kernel
theorem dX6_under_26 : decode cX6_under 26 = .ok (.iload_n 1, 1) := by decide +kernel
theorem dX6_under_27 : decode cX6_under 27 = .ok (.iconst 1, 1) := by decide +kernel
theorem dX6_under_28 : decode cX6_under 28 = .ok (.invokevirtual 31, 3) := by decide +kernel
theorem dX6_under_31 : decode cX6_under 31 = .ok (.if_icmp .ge 58, 3) := by decide +kernel
theorem dX6_under_34 : decode cX6_under 34 = .ok (.aload_n 0, 1) := by decide +kernel
theorem dX6_under_35 : decode cX6_under 35 = .ok (.iload_n 1, 1) := by decide +kernel
theorem dX6_under_36 : decode cX6_under 36 = .ok (.aload_n 0, 1) := by decide +kernel
theorem dX6_under_37 : decode cX6_under 37 = .ok (.iload_n 1, 1) := by decide +kernel
theorem dX6_under_38 : decode cX6_under 38 = .ok (.iload 4, 2) := by decide +kernel
theorem dX6_under_40 : decode cX6_under 40 = .ok (.invokevirtual 38, 3) := by decide +kernel
theorem dX6_under_43 : decode cX6_under 43 = .ok (.iload 4, 2) := by decide +kernel
theorem dX6_under_45 : decode cX6_under 45 = .ok (.iload 6, 2) := by decide +kernel
theorem dX6_under_47 : decode cX6_under 47 = .ok (.invokevirtual 41, 3) := by decide +kernel
theorem dX6_under_50 : decode cX6_under 50 = .ok (.istore 7, 2) := by decide +kernel
theorem dX6_under_52 : decode cX6_under 52 = .ok (.iload 5, 2) := by decide +kernel
theorem dX6_under_54 : decode cX6_under 54 = .ok (.aload_n 0, 1) := by decide +kernel
theorem dX6_under_55 : decode cX6_under 55 = .ok (.iload 7, 2) := by decide +kernel
theorem dX6_under_57 : decode cX6_under 57 = .ok (.invokevirtual 45, 3) := by decide +kernel
theorem dX6_under_60 : decode cX6_under 60 = .ok (.ifCond .eq 19, 3) := by decide +kernel
theorem dX6_under_63 : decode cX6_under 63 = .ok (.aload_n 0, 1) := by decide +kernel
theorem dX6_under_64 : decode cX6_under 64 = .ok (.iload 7, 2) := by decide +kernel
theorem dX6_under_66 : decode cX6_under 66 = .ok (.iload_n 1, 1) := by decide +kernel
theorem dX6_under_67 : decode cX6_under 67 = .ok (.iload 4, 2) := by decide +kernel
theorem dX6_under_69 : decode cX6_under 69 = .ok (.invokevirtual 112, 3) := by decide +kernel
theorem dX6_under_72 : decode cX6_under 72 = .ok (.ifCond .eq 7, 3) := by decide +kernel
theorem dX6_under_75 : decode cX6_under 75 = .ok (.iconst 1, 1) := by decide +kernel
theorem dX6_under_76 : decode cX6_under 76 = .ok (.goto 4, 3) := by decide +kernel
theorem dX6_under_79 : decode cX6_under 79 = .ok (.iconst 0, 1) := by decide +kernel
theorem dX6_under_80 : decode cX6_under 80 = .ok (.iadd, 1) := by decide +kernel
theorem dX6_under_81 : decode cX6_under 81 = .ok (.istore 5, 2) := by decide +kernel
theorem dX6_under_83 : decode cX6_under 83 = .ok (.iinc 6 1, 3) := by decide +kernel
theorem dX6_under_86 : decode cX6_under 86 = .ok (.goto (-63), 3) := by decide +kernel
theorem dX6_under_89 : decode cX6_under 89 = .ok (.iload_n 2, 1) := by decide +kernel
theorem dX6_under_90 : decode cX6_under 90 = .ok (.iload 5, 2) := by decide +kernel
theorem dX6_under_92 : decode cX6_under 92 = .ok (.aload_n 0, 1) := by decide +kernel
theorem dX6_under_93 : decode cX6_under 93 = .ok (.iload_n 1, 1) := by decide +kernel
theorem dX6_under_94 : decode cX6_under 94 = .ok (.iconst 1, 1) := by decide +kernel
theorem dX6_under_95 : decode cX6_under 95 = .ok (.invokevirtual 31, 3) := by decide +kernel
theorem dX6_under_98 : decode cX6_under 98 = .ok (.if_icmp .ge 7, 3) := by decide +kernel
theorem dX6_under_101 : decode cX6_under 101 = .ok (.iconst 1, 1) := by decide +kernel
theorem dX6_under_102 : decode cX6_under 102 = .ok (.goto 4, 3) := by decide +kernel
theorem dX6_under_105 : decode cX6_under 105 = .ok (.iconst 0, 1) := by decide +kernel
theorem dX6_under_106 : decode cX6_under 106 = .ok (.iadd, 1) := by decide +kernel
theorem dX6_under_107 : decode cX6_under 107 = .ok (.istore_n 2, 1) := by decide +kernel
theorem dX6_under_108 : decode cX6_under 108 = .ok (.iinc 4 1, 3) := by decide +kernel
theorem dX6_under_111 : decode cX6_under 111 = .ok (.goto (-100), 3) := by decide +kernel
theorem dX6_under_114 : decode cX6_under 114 = .ok (.iload_n 2, 1) := by decide +kernel
theorem dX6_under_115 : decode cX6_under 115 = .ok (.ireturn, 1) := by decide +kernel
theorem dX6_underReplicated_0 : decode cX6_underReplicated 0 = .ok (.aload_n 0, 1) := by decide +kernel
theorem dX6_underReplicated_1 : decode cX6_underReplicated 1 = .ok (.aload_n 0, 1) := by decide +kernel
theorem dX6_underReplicated_2 : decode cX6_underReplicated 2 = .ok (.iload_n 1, 1) := by decide +kernel
theorem dX6_underReplicated_3 : decode cX6_underReplicated 3 = .ok (.invokevirtual 95, 3) := by decide +kernel
theorem dX6_underReplicated_6 : decode cX6_underReplicated 6 = .ok (.iconst 1, 1) := by decide +kernel
theorem dX6_underReplicated_7 : decode cX6_underReplicated 7 = .ok (.invokevirtual 69, 3) := by decide +kernel
theorem dX6_underReplicated_10 : decode cX6_underReplicated 10 = .ok (.ifCond .eq 11, 3) := by decide +kernel
theorem dX6_underReplicated_13 : decode cX6_underReplicated 13 = .ok (.aload_n 0, 1) := by decide +kernel
theorem dX6_underReplicated_14 : decode cX6_underReplicated 14 = .ok (.iload_n 1, 1) := by decide +kernel
theorem dX6_underReplicated_15 : decode cX6_underReplicated 15 = .ok (.invokevirtual 151, 3) := by decide +kernel
theorem dX6_underReplicated_18 : decode cX6_underReplicated 18 = .ok (.goto 4, 3) := by decide +kernel
theorem dX6_underReplicated_21 : decode cX6_underReplicated 21 = .ok (.iconst 0, 1) := by decide +kernel
theorem dX6_underReplicated_22 : decode cX6_underReplicated 22 = .ok (.ireturn, 1) := by decide +kernel
theorem dX6_undo_0 : decode cX6_undo 0 = .ok (.aload_n 0, 1) := by decide +kernel
theorem dX6_undo_1 : decode cX6_undo 1 = .ok (.aload_n 0, 1) := by decide +kernel
theorem dX6_undo_2 : decode cX6_undo 2 = .ok (.getfield 16, 3) := by decide +kernel
theorem dX6_undo_5 : decode cX6_undo 5 = .ok (.ifCond .ne 7, 3) := by decide +kernel
theorem dX6_undo_8 : decode cX6_undo 8 = .ok (.iconst 1, 1) := by decide +kernel
theorem dX6_undo_9 : decode cX6_undo 9 = .ok (.goto 4, 3) := by decide +kernel
theorem dX6_undo_12 : decode cX6_undo 12 = .ok (.iconst 0, 1) := by decide +kernel
theorem dX6_undo_13 : decode cX6_undo 13 = .ok (.putfield 20, 3) := by decide +kernel
theorem dX6_undo_16 : decode cX6_undo 16 = .ok (.aload_n 0, 1) := by decide +kernel
theorem dX6_undo_17 : decode cX6_undo 17 = .ok (.getfield 20, 3) := by decide +kernel
theorem dX6_undo_20 : decode cX6_undo 20 = .ok (.ifCond .le 5, 3) := by decide +kernel
theorem dX6_undo_23 : decode cX6_undo 23 = .ok (.iconst 0, 1) := by decide +kernel
theorem dX6_undo_24 : decode cX6_undo 24 = .ok (.ireturn, 1) := by decide +kernel
theorem dX6_undo_25 : decode cX6_undo 25 = .ok (.aload_n 0, 1) := by decide +kernel
theorem dX6_undo_26 : decode cX6_undo 26 = .ok (.dup, 1) := by decide +kernel
theorem dX6_undo_27 : decode cX6_undo 27 = .ok (.getfield 16, 3) := by decide +kernel
theorem dX6_undo_30 : decode cX6_undo 30 = .ok (.iconst 1, 1) := by decide +kernel
theorem dX6_undo_31 : decode cX6_undo 31 = .ok (.isub, 1) := by decide +kernel
theorem dX6_undo_32 : decode cX6_undo 32 = .ok (.putfield 16, 3) := by decide +kernel
theorem dX6_undo_35 : decode cX6_undo 35 = .ok (.iconst 0, 1) := by decide +kernel
theorem dX6_undo_36 : decode cX6_undo 36 = .ok (.istore_n 1, 1) := by decide +kernel
theorem dX6_undo_37 : decode cX6_undo 37 = .ok (.iload_n 1, 1) := by decide +kernel
theorem dX6_undo_38 : decode cX6_undo 38 = .ok (.sipush 3463, 3) := by decide +kernel
theorem dX6_undo_41 : decode cX6_undo 41 = .ok (.if_icmp .ge 30, 3) := by decide +kernel
theorem dX6_undo_44 : decode cX6_undo 44 = .ok (.aload_n 0, 1) := by decide +kernel
theorem dX6_undo_45 : decode cX6_undo 45 = .ok (.getfield 7, 3) := by decide +kernel
theorem dX6_undo_48 : decode cX6_undo 48 = .ok (.iload_n 1, 1) := by decide +kernel
theorem dX6_undo_49 : decode cX6_undo 49 = .ok (.aload_n 0, 1) := by decide +kernel
theorem dX6_undo_50 : decode cX6_undo 50 = .ok (.getfield 13, 3) := by decide +kernel
theorem dX6_undo_53 : decode cX6_undo 53 = .ok (.sipush 3463, 3) := by decide +kernel
theorem dX6_undo_56 : decode cX6_undo 56 = .ok (.aload_n 0, 1) := by decide +kernel
theorem dX6_undo_57 : decode cX6_undo 57 = .ok (.getfield 16, 3) := by decide +kernel
theorem dX6_undo_60 : decode cX6_undo 60 = .ok (.imul, 1) := by decide +kernel
theorem dX6_undo_61 : decode cX6_undo 61 = .ok (.iload_n 1, 1) := by decide +kernel
theorem dX6_undo_62 : decode cX6_undo 62 = .ok (.iadd, 1) := by decide +kernel
theorem dX6_undo_63 : decode cX6_undo 63 = .ok (.iaload, 1) := by decide +kernel
theorem dX6_undo_64 : decode cX6_undo 64 = .ok (.iastore, 1) := by decide +kernel
theorem dX6_undo_65 : decode cX6_undo 65 = .ok (.iinc 1 1, 3) := by decide +kernel
theorem dX6_undo_68 : decode cX6_undo 68 = .ok (.goto (-31), 3) := by decide +kernel
theorem dX6_undo_71 : decode cX6_undo 71 = .ok (.aload_n 0, 1) := by decide +kernel
theorem dX6_undo_72 : decode cX6_undo 72 = .ok (.getfield 16, 3) := by decide +kernel
theorem dX6_undo_75 : decode cX6_undo 75 = .ok (.ireturn, 1) := by decide +kernel
theorem dX6_add_0 : decode cX6_add 0 = .ok (.aload_n 0, 1) := by decide +kernel
theorem dX6_add_1 : decode cX6_add 1 = .ok (.ldc2_w 154, 3) := by decide +kernel
theorem dX6_add_4 : decode cX6_add 4 = .ok (.aload_n 0, 1) := by decide +kernel
theorem dX6_add_5 : decode cX6_add 5 = .ok (.getfield 156, 3) := by decide +kernel
theorem dX6_add_8 : decode cX6_add 8 = .ok (.lmul, 1) := by decide +kernel
theorem dX6_add_9 : decode cX6_add 9 = .ok (.iload_n 1, 1) := by decide +kernel
theorem dX6_add_10 : decode cX6_add 10 = .ok (.i2l, 1) := by decide +kernel
theorem dX6_add_11 : decode cX6_add 11 = .ok (.ladd, 1) := by decide +kernel
theorem dX6_add_12 : decode cX6_add 12 = .ok (.putfield 156, 3) := by decide +kernel
theorem dX6_add_15 : decode cX6_add 15 = .ok (.return_, 1) := by decide +kernel
theorem dX6_addLedger_0 : decode cX6_addLedger 0 = .ok (.aload_n 0, 1) := by decide +kernel
theorem dX6_addLedger_1 : decode cX6_addLedger 1 = .ok (.aload_n 0, 1) := by decide +kernel
theorem dX6_addLedger_2 : decode cX6_addLedger 2 = .ok (.iload_n 1, 1) := by decide +kernel
theorem dX6_addLedger_3 : decode cX6_addLedger 3 = .ok (.iconst 0, 1) := by decide +kernel
theorem dX6_addLedger_4 : decode cX6_addLedger 4 = .ok (.invokevirtual 31, 3) := by decide +kernel
theorem dX6_addLedger_7 : decode cX6_addLedger 7 = .ok (.invokevirtual 160, 3) := by decide +kernel
theorem dX6_addLedger_10 : decode cX6_addLedger 10 = .ok (.aload_n 0, 1) := by decide +kernel
theorem dX6_addLedger_11 : decode cX6_addLedger 11 = .ok (.aload_n 0, 1) := by decide +kernel
theorem dX6_addLedger_12 : decode cX6_addLedger 12 = .ok (.iload_n 1, 1) := by decide +kernel
theorem dX6_addLedger_13 : decode cX6_addLedger 13 = .ok (.iconst 1, 1) := by decide +kernel
theorem dX6_addLedger_14 : decode cX6_addLedger 14 = .ok (.invokevirtual 31, 3) := by decide +kernel
theorem dX6_addLedger_17 : decode cX6_addLedger 17 = .ok (.invokevirtual 160, 3) := by decide +kernel
theorem dX6_addLedger_20 : decode cX6_addLedger 20 = .ok (.aload_n 0, 1) := by decide +kernel
theorem dX6_addLedger_21 : decode cX6_addLedger 21 = .ok (.aload_n 0, 1) := by decide +kernel
theorem dX6_addLedger_22 : decode cX6_addLedger 22 = .ok (.iload_n 1, 1) := by decide +kernel
theorem dX6_addLedger_23 : decode cX6_addLedger 23 = .ok (.iconst 2, 1) := by decide +kernel
theorem dX6_addLedger_24 : decode cX6_addLedger 24 = .ok (.invokevirtual 31, 3) := by decide +kernel
theorem dX6_addLedger_27 : decode cX6_addLedger 27 = .ok (.invokevirtual 160, 3) := by decide +kernel
theorem dX6_addLedger_30 : decode cX6_addLedger 30 = .ok (.aload_n 0, 1) := by decide +kernel
theorem dX6_addLedger_31 : decode cX6_addLedger 31 = .ok (.aload_n 0, 1) := by decide +kernel
theorem dX6_addLedger_32 : decode cX6_addLedger 32 = .ok (.iload_n 1, 1) := by decide +kernel
theorem dX6_addLedger_33 : decode cX6_addLedger 33 = .ok (.iconst 3, 1) := by decide +kernel
theorem dX6_addLedger_34 : decode cX6_addLedger 34 = .ok (.invokevirtual 31, 3) := by decide +kernel
theorem dX6_addLedger_37 : decode cX6_addLedger 37 = .ok (.invokevirtual 160, 3) := by decide +kernel
theorem dX6_addLedger_40 : decode cX6_addLedger 40 = .ok (.aload_n 0, 1) := by decide +kernel
theorem dX6_addLedger_41 : decode cX6_addLedger 41 = .ok (.aload_n 0, 1) := by decide +kernel
theorem dX6_addLedger_42 : decode cX6_addLedger 42 = .ok (.iload_n 1, 1) := by decide +kernel
theorem dX6_addLedger_43 : decode cX6_addLedger 43 = .ok (.invokevirtual 139, 3) := by decide +kernel
theorem dX6_addLedger_46 : decode cX6_addLedger 46 = .ok (.invokevirtual 160, 3) := by decide +kernel
theorem dX6_addLedger_49 : decode cX6_addLedger 49 = .ok (.aload_n 0, 1) := by decide +kernel
theorem dX6_addLedger_50 : decode cX6_addLedger 50 = .ok (.aload_n 0, 1) := by decide +kernel
theorem dX6_addLedger_51 : decode cX6_addLedger 51 = .ok (.iload_n 1, 1) := by decide +kernel
theorem dX6_addLedger_52 : decode cX6_addLedger 52 = .ok (.iconst 4, 1) := by decide +kernel
theorem dX6_addLedger_53 : decode cX6_addLedger 53 = .ok (.invokevirtual 31, 3) := by decide +kernel
theorem dX6_addLedger_56 : decode cX6_addLedger 56 = .ok (.invokevirtual 160, 3) := by decide +kernel
theorem dX6_addLedger_59 : decode cX6_addLedger 59 = .ok (.aload_n 0, 1) := by decide +kernel
theorem dX6_addLedger_60 : decode cX6_addLedger 60 = .ok (.aload_n 0, 1) := by decide +kernel
theorem dX6_addLedger_61 : decode cX6_addLedger 61 = .ok (.iload_n 1, 1) := by decide +kernel
theorem dX6_addLedger_62 : decode cX6_addLedger 62 = .ok (.invokevirtual 151, 3) := by decide +kernel
theorem dX6_addLedger_65 : decode cX6_addLedger 65 = .ok (.invokevirtual 160, 3) := by decide +kernel
theorem dX6_addLedger_68 : decode cX6_addLedger 68 = .ok (.aload_n 0, 1) := by decide +kernel
theorem dX6_addLedger_69 : decode cX6_addLedger 69 = .ok (.aload_n 0, 1) := by decide +kernel
theorem dX6_addLedger_70 : decode cX6_addLedger 70 = .ok (.iload_n 1, 1) := by decide +kernel
theorem dX6_addLedger_71 : decode cX6_addLedger 71 = .ok (.bipush 6, 2) := by decide +kernel
theorem dX6_addLedger_73 : decode cX6_addLedger 73 = .ok (.invokevirtual 31, 3) := by decide +kernel
theorem dX6_addLedger_76 : decode cX6_addLedger 76 = .ok (.invokevirtual 160, 3) := by decide +kernel
theorem dX6_addLedger_79 : decode cX6_addLedger 79 = .ok (.iconst 0, 1) := by decide +kernel
theorem dX6_addLedger_80 : decode cX6_addLedger 80 = .ok (.istore_n 2, 1) := by decide +kernel
theorem dX6_addLedger_81 : decode cX6_addLedger 81 = .ok (.iload_n 2, 1) := by decide +kernel
theorem dX6_addLedger_82 : decode cX6_addLedger 82 = .ok (.aload_n 0, 1) := by decide +kernel
theorem dX6_addLedger_83 : decode cX6_addLedger 83 = .ok (.iload_n 1, 1) := by decide +kernel
theorem dX6_addLedger_84 : decode cX6_addLedger 84 = .ok (.bipush 6, 2) := by decide +kernel
theorem dX6_addLedger_86 : decode cX6_addLedger 86 = .ok (.invokevirtual 31, 3) := by decide +kernel
theorem dX6_addLedger_89 : decode cX6_addLedger 89 = .ok (.if_icmp .ge 51, 3) := by decide +kernel
theorem dX6_addLedger_92 : decode cX6_addLedger 92 = .ok (.aload_n 0, 1) := by decide +kernel
theorem dX6_addLedger_93 : decode cX6_addLedger 93 = .ok (.aload_n 0, 1) := by decide +kernel
theorem dX6_addLedger_94 : decode cX6_addLedger 94 = .ok (.iload_n 1, 1) := by decide +kernel
theorem dX6_addLedger_95 : decode cX6_addLedger 95 = .ok (.bipush 87, 2) := by decide +kernel
theorem dX6_addLedger_97 : decode cX6_addLedger 97 = .ok (.iload_n 2, 1) := by decide +kernel
theorem dX6_addLedger_98 : decode cX6_addLedger 98 = .ok (.iadd, 1) := by decide +kernel
theorem dX6_addLedger_99 : decode cX6_addLedger 99 = .ok (.invokevirtual 31, 3) := by decide +kernel
theorem dX6_addLedger_102 : decode cX6_addLedger 102 = .ok (.invokevirtual 160, 3) := by decide +kernel
theorem dX6_addLedger_105 : decode cX6_addLedger 105 = .ok (.iconst 0, 1) := by decide +kernel
theorem dX6_addLedger_106 : decode cX6_addLedger 106 = .ok (.istore_n 3, 1) := by decide +kernel
theorem dX6_addLedger_107 : decode cX6_addLedger 107 = .ok (.iload_n 3, 1) := by decide +kernel
theorem dX6_addLedger_108 : decode cX6_addLedger 108 = .ok (.aload_n 0, 1) := by decide +kernel
theorem dX6_addLedger_109 : decode cX6_addLedger 109 = .ok (.iload_n 1, 1) := by decide +kernel
theorem dX6_addLedger_110 : decode cX6_addLedger 110 = .ok (.iconst 0, 1) := by decide +kernel
theorem dX6_addLedger_111 : decode cX6_addLedger 111 = .ok (.invokevirtual 31, 3) := by decide +kernel
theorem dX6_addLedger_114 : decode cX6_addLedger 114 = .ok (.if_icmp .ge 20, 3) := by decide +kernel
theorem dX6_addLedger_117 : decode cX6_addLedger 117 = .ok (.aload_n 0, 1) := by decide +kernel
theorem dX6_addLedger_118 : decode cX6_addLedger 118 = .ok (.aload_n 0, 1) := by decide +kernel
theorem dX6_addLedger_119 : decode cX6_addLedger 119 = .ok (.iload_n 1, 1) := by decide +kernel
theorem dX6_addLedger_120 : decode cX6_addLedger 120 = .ok (.iload_n 2, 1) := by decide +kernel
theorem dX6_addLedger_121 : decode cX6_addLedger 121 = .ok (.iload_n 3, 1) := by decide +kernel
theorem dX6_addLedger_122 : decode cX6_addLedger 122 = .ok (.invokevirtual 35, 3) := by decide +kernel
theorem dX6_addLedger_125 : decode cX6_addLedger 125 = .ok (.invokevirtual 160, 3) := by decide +kernel
theorem dX6_addLedger_128 : decode cX6_addLedger 128 = .ok (.iinc 3 1, 3) := by decide +kernel
theorem dX6_addLedger_131 : decode cX6_addLedger 131 = .ok (.goto (-24), 3) := by decide +kernel
theorem dX6_addLedger_134 : decode cX6_addLedger 134 = .ok (.iinc 2 1, 3) := by decide +kernel
theorem dX6_addLedger_137 : decode cX6_addLedger 137 = .ok (.goto (-56), 3) := by decide +kernel
theorem dX6_addLedger_140 : decode cX6_addLedger 140 = .ok (.iconst 0, 1) := by decide +kernel
theorem dX6_addLedger_141 : decode cX6_addLedger 141 = .ok (.istore_n 2, 1) := by decide +kernel
theorem dX6_addLedger_142 : decode cX6_addLedger 142 = .ok (.iload_n 2, 1) := by decide +kernel
theorem dX6_addLedger_143 : decode cX6_addLedger 143 = .ok (.aload_n 0, 1) := by decide +kernel
theorem dX6_addLedger_144 : decode cX6_addLedger 144 = .ok (.iload_n 1, 1) := by decide +kernel
theorem dX6_addLedger_145 : decode cX6_addLedger 145 = .ok (.iconst 4, 1) := by decide +kernel
theorem dX6_addLedger_146 : decode cX6_addLedger 146 = .ok (.invokevirtual 31, 3) := by decide +kernel
theorem dX6_addLedger_149 : decode cX6_addLedger 149 = .ok (.if_icmp .ge 48, 3) := by decide +kernel
theorem dX6_addLedger_152 : decode cX6_addLedger 152 = .ok (.aload_n 0, 1) := by decide +kernel
theorem dX6_addLedger_153 : decode cX6_addLedger 153 = .ok (.aload_n 0, 1) := by decide +kernel
theorem dX6_addLedger_154 : decode cX6_addLedger 154 = .ok (.iload_n 1, 1) := by decide +kernel
theorem dX6_addLedger_155 : decode cX6_addLedger 155 = .ok (.bipush 7, 2) := by decide +kernel
theorem dX6_addLedger_157 : decode cX6_addLedger 157 = .ok (.iload_n 2, 1) := by decide +kernel
theorem dX6_addLedger_158 : decode cX6_addLedger 158 = .ok (.iadd, 1) := by decide +kernel
theorem dX6_addLedger_159 : decode cX6_addLedger 159 = .ok (.invokevirtual 31, 3) := by decide +kernel
theorem dX6_addLedger_162 : decode cX6_addLedger 162 = .ok (.invokevirtual 160, 3) := by decide +kernel
theorem dX6_addLedger_165 : decode cX6_addLedger 165 = .ok (.aload_n 0, 1) := by decide +kernel
theorem dX6_addLedger_166 : decode cX6_addLedger 166 = .ok (.aload_n 0, 1) := by decide +kernel
theorem dX6_addLedger_167 : decode cX6_addLedger 167 = .ok (.iload_n 1, 1) := by decide +kernel
theorem dX6_addLedger_168 : decode cX6_addLedger 168 = .ok (.bipush 47, 2) := by decide +kernel
theorem dX6_addLedger_170 : decode cX6_addLedger 170 = .ok (.iload_n 2, 1) := by decide +kernel
theorem dX6_addLedger_171 : decode cX6_addLedger 171 = .ok (.iadd, 1) := by decide +kernel
theorem dX6_addLedger_172 : decode cX6_addLedger 172 = .ok (.invokevirtual 31, 3) := by decide +kernel
theorem dX6_addLedger_175 : decode cX6_addLedger 175 = .ok (.invokestatic 57, 3) := by decide +kernel
theorem dX6_addLedger_178 : decode cX6_addLedger 178 = .ok (.invokevirtual 160, 3) := by decide +kernel
theorem dX6_addLedger_181 : decode cX6_addLedger 181 = .ok (.aload_n 0, 1) := by decide +kernel
theorem dX6_addLedger_182 : decode cX6_addLedger 182 = .ok (.aload_n 0, 1) := by decide +kernel
theorem dX6_addLedger_183 : decode cX6_addLedger 183 = .ok (.iload_n 1, 1) := by decide +kernel
theorem dX6_addLedger_184 : decode cX6_addLedger 184 = .ok (.iload_n 2, 1) := by decide +kernel
theorem dX6_addLedger_185 : decode cX6_addLedger 185 = .ok (.invokevirtual 145, 3) := by decide +kernel
theorem dX6_addLedger_188 : decode cX6_addLedger 188 = .ok (.invokevirtual 160, 3) := by decide +kernel
theorem dX6_addLedger_191 : decode cX6_addLedger 191 = .ok (.iinc 2 1, 3) := by decide +kernel
theorem dX6_addLedger_194 : decode cX6_addLedger 194 = .ok (.goto (-52), 3) := by decide +kernel
theorem dX6_addLedger_197 : decode cX6_addLedger 197 = .ok (.iconst 0, 1) := by decide +kernel
theorem dX6_addLedger_198 : decode cX6_addLedger 198 = .ok (.istore_n 2, 1) := by decide +kernel
theorem dX6_addLedger_199 : decode cX6_addLedger 199 = .ok (.iload_n 2, 1) := by decide +kernel
theorem dX6_addLedger_200 : decode cX6_addLedger 200 = .ok (.aload_n 0, 1) := by decide +kernel
theorem dX6_addLedger_201 : decode cX6_addLedger 201 = .ok (.getfield 7, 3) := by decide +kernel
theorem dX6_addLedger_204 : decode cX6_addLedger 204 = .ok (.iconst 0, 1) := by decide +kernel
theorem dX6_addLedger_205 : decode cX6_addLedger 205 = .ok (.iaload, 1) := by decide +kernel
theorem dX6_addLedger_206 : decode cX6_addLedger 206 = .ok (.if_icmp .ge 27, 3) := by decide +kernel
theorem dX6_addLedger_209 : decode cX6_addLedger 209 = .ok (.aload_n 0, 1) := by decide +kernel
theorem dX6_addLedger_210 : decode cX6_addLedger 210 = .ok (.aload_n 0, 1) := by decide +kernel
theorem dX6_addLedger_211 : decode cX6_addLedger 211 = .ok (.getfield 7, 3) := by decide +kernel
theorem dX6_addLedger_214 : decode cX6_addLedger 214 = .ok (.sipush 2099, 3) := by decide +kernel
theorem dX6_addLedger_217 : decode cX6_addLedger 217 = .ok (.iconst 4, 1) := by decide +kernel
theorem dX6_addLedger_218 : decode cX6_addLedger 218 = .ok (.iload_n 2, 1) := by decide +kernel
theorem dX6_addLedger_219 : decode cX6_addLedger 219 = .ok (.imul, 1) := by decide +kernel
theorem dX6_addLedger_220 : decode cX6_addLedger 220 = .ok (.iadd, 1) := by decide +kernel
theorem dX6_addLedger_221 : decode cX6_addLedger 221 = .ok (.iload_n 1, 1) := by decide +kernel
theorem dX6_addLedger_222 : decode cX6_addLedger 222 = .ok (.iadd, 1) := by decide +kernel
theorem dX6_addLedger_223 : decode cX6_addLedger 223 = .ok (.iaload, 1) := by decide +kernel
theorem dX6_addLedger_224 : decode cX6_addLedger 224 = .ok (.invokevirtual 160, 3) := by decide +kernel
theorem dX6_addLedger_227 : decode cX6_addLedger 227 = .ok (.iinc 2 1, 3) := by decide +kernel
theorem dX6_addLedger_230 : decode cX6_addLedger 230 = .ok (.goto (-31), 3) := by decide +kernel
theorem dX6_addLedger_233 : decode cX6_addLedger 233 = .ok (.return_, 1) := by decide +kernel
theorem dX6_digest_0 : decode cX6_digest 0 = .ok (.aload_n 0, 1) := by decide +kernel
theorem dX6_digest_1 : decode cX6_digest 1 = .ok (.iconst 0, 1) := by decide +kernel
theorem dX6_digest_2 : decode cX6_digest 2 = .ok (.putfield 20, 3) := by decide +kernel
theorem dX6_digest_5 : decode cX6_digest 5 = .ok (.aload_n 0, 1) := by decide +kernel
theorem dX6_digest_6 : decode cX6_digest 6 = .ok (.ldc2_w 163, 3) := by decide +kernel
theorem dX6_digest_9 : decode cX6_digest 9 = .ok (.putfield 156, 3) := by decide +kernel
theorem dX6_digest_12 : decode cX6_digest 12 = .ok (.aload_n 0, 1) := by decide +kernel
theorem dX6_digest_13 : decode cX6_digest 13 = .ok (.aload_n 0, 1) := by decide +kernel
theorem dX6_digest_14 : decode cX6_digest 14 = .ok (.getfield 16, 3) := by decide +kernel
theorem dX6_digest_17 : decode cX6_digest 17 = .ok (.invokevirtual 160, 3) := by decide +kernel
theorem dX6_digest_20 : decode cX6_digest 20 = .ok (.aload_n 0, 1) := by decide +kernel
theorem dX6_digest_21 : decode cX6_digest 21 = .ok (.aload_n 0, 1) := by decide +kernel
theorem dX6_digest_22 : decode cX6_digest 22 = .ok (.getfield 7, 3) := by decide +kernel
theorem dX6_digest_25 : decode cX6_digest 25 = .ok (.iconst 2, 1) := by decide +kernel
theorem dX6_digest_26 : decode cX6_digest 26 = .ok (.iaload, 1) := by decide +kernel
theorem dX6_digest_27 : decode cX6_digest 27 = .ok (.invokevirtual 160, 3) := by decide +kernel
theorem dX6_digest_30 : decode cX6_digest 30 = .ok (.aload_n 0, 1) := by decide +kernel
theorem dX6_digest_31 : decode cX6_digest 31 = .ok (.aload_n 0, 1) := by decide +kernel
theorem dX6_digest_32 : decode cX6_digest 32 = .ok (.getfield 7, 3) := by decide +kernel
theorem dX6_digest_35 : decode cX6_digest 35 = .ok (.iconst 0, 1) := by decide +kernel
theorem dX6_digest_36 : decode cX6_digest 36 = .ok (.iaload, 1) := by decide +kernel
theorem dX6_digest_37 : decode cX6_digest 37 = .ok (.invokevirtual 160, 3) := by decide +kernel
theorem dX6_digest_40 : decode cX6_digest 40 = .ok (.iconst 0, 1) := by decide +kernel
theorem dX6_digest_41 : decode cX6_digest 41 = .ok (.istore_n 1, 1) := by decide +kernel
theorem dX6_digest_42 : decode cX6_digest 42 = .ok (.iload_n 1, 1) := by decide +kernel
theorem dX6_digest_43 : decode cX6_digest 43 = .ok (.aload_n 0, 1) := by decide +kernel
theorem dX6_digest_44 : decode cX6_digest 44 = .ok (.getfield 7, 3) := by decide +kernel
theorem dX6_digest_47 : decode cX6_digest 47 = .ok (.iconst 0, 1) := by decide +kernel
theorem dX6_digest_48 : decode cX6_digest 48 = .ok (.iaload, 1) := by decide +kernel
theorem dX6_digest_49 : decode cX6_digest 49 = .ok (.if_icmp .ge 55, 3) := by decide +kernel
theorem dX6_digest_52 : decode cX6_digest 52 = .ok (.aload_n 0, 1) := by decide +kernel
theorem dX6_digest_53 : decode cX6_digest 53 = .ok (.aload_n 0, 1) := by decide +kernel
theorem dX6_digest_54 : decode cX6_digest 54 = .ok (.getfield 7, 3) := by decide +kernel
theorem dX6_digest_57 : decode cX6_digest 57 = .ok (.iconst 3, 1) := by decide +kernel
theorem dX6_digest_58 : decode cX6_digest 58 = .ok (.iload_n 1, 1) := by decide +kernel
theorem dX6_digest_59 : decode cX6_digest 59 = .ok (.iadd, 1) := by decide +kernel
theorem dX6_digest_60 : decode cX6_digest 60 = .ok (.iaload, 1) := by decide +kernel
theorem dX6_digest_61 : decode cX6_digest 61 = .ok (.invokevirtual 160, 3) := by decide +kernel
theorem dX6_digest_64 : decode cX6_digest 64 = .ok (.aload_n 0, 1) := by decide +kernel
theorem dX6_digest_65 : decode cX6_digest 65 = .ok (.aload_n 0, 1) := by decide +kernel
theorem dX6_digest_66 : decode cX6_digest 66 = .ok (.getfield 7, 3) := by decide +kernel
theorem dX6_digest_69 : decode cX6_digest 69 = .ok (.bipush 11, 2) := by decide +kernel
theorem dX6_digest_71 : decode cX6_digest 71 = .ok (.iload_n 1, 1) := by decide +kernel
theorem dX6_digest_72 : decode cX6_digest 72 = .ok (.iadd, 1) := by decide +kernel
theorem dX6_digest_73 : decode cX6_digest 73 = .ok (.iaload, 1) := by decide +kernel
theorem dX6_digest_74 : decode cX6_digest 74 = .ok (.invokevirtual 160, 3) := by decide +kernel
theorem dX6_digest_77 : decode cX6_digest 77 = .ok (.aload_n 0, 1) := by decide +kernel
theorem dX6_digest_78 : decode cX6_digest 78 = .ok (.aload_n 0, 1) := by decide +kernel
theorem dX6_digest_79 : decode cX6_digest 79 = .ok (.iload_n 1, 1) := by decide +kernel
theorem dX6_digest_80 : decode cX6_digest 80 = .ok (.invokevirtual 53, 3) := by decide +kernel
theorem dX6_digest_83 : decode cX6_digest 83 = .ok (.invokevirtual 160, 3) := by decide +kernel
theorem dX6_digest_86 : decode cX6_digest 86 = .ok (.aload_n 0, 1) := by decide +kernel
theorem dX6_digest_87 : decode cX6_digest 87 = .ok (.aload_n 0, 1) := by decide +kernel
theorem dX6_digest_88 : decode cX6_digest 88 = .ok (.iload_n 1, 1) := by decide +kernel
theorem dX6_digest_89 : decode cX6_digest 89 = .ok (.invokevirtual 91, 3) := by decide +kernel
theorem dX6_digest_92 : decode cX6_digest 92 = .ok (.invokestatic 165, 3) := by decide +kernel
theorem dX6_digest_95 : decode cX6_digest 95 = .ok (.invokevirtual 160, 3) := by decide +kernel
theorem dX6_digest_98 : decode cX6_digest 98 = .ok (.iinc 1 1, 3) := by decide +kernel
theorem dX6_digest_101 : decode cX6_digest 101 = .ok (.goto (-59), 3) := by decide +kernel
theorem dX6_digest_104 : decode cX6_digest 104 = .ok (.aload_n 0, 1) := by decide +kernel
theorem dX6_digest_105 : decode cX6_digest 105 = .ok (.aload_n 0, 1) := by decide +kernel
theorem dX6_digest_106 : decode cX6_digest 106 = .ok (.getfield 7, 3) := by decide +kernel
theorem dX6_digest_109 : decode cX6_digest 109 = .ok (.iconst 1, 1) := by decide +kernel
theorem dX6_digest_110 : decode cX6_digest 110 = .ok (.iaload, 1) := by decide +kernel
theorem dX6_digest_111 : decode cX6_digest 111 = .ok (.invokevirtual 160, 3) := by decide +kernel
theorem dX6_digest_114 : decode cX6_digest 114 = .ok (.iconst 0, 1) := by decide +kernel
theorem dX6_digest_115 : decode cX6_digest 115 = .ok (.istore_n 1, 1) := by decide +kernel
theorem dX6_digest_116 : decode cX6_digest 116 = .ok (.iload_n 1, 1) := by decide +kernel
theorem dX6_digest_117 : decode cX6_digest 117 = .ok (.aload_n 0, 1) := by decide +kernel
theorem dX6_digest_118 : decode cX6_digest 118 = .ok (.getfield 7, 3) := by decide +kernel
theorem dX6_digest_121 : decode cX6_digest 121 = .ok (.iconst 1, 1) := by decide +kernel
theorem dX6_digest_122 : decode cX6_digest 122 = .ok (.iaload, 1) := by decide +kernel
theorem dX6_digest_123 : decode cX6_digest 123 = .ok (.if_icmp .ge 14, 3) := by decide +kernel
theorem dX6_digest_126 : decode cX6_digest 126 = .ok (.aload_n 0, 1) := by decide +kernel
theorem dX6_digest_127 : decode cX6_digest 127 = .ok (.iload_n 1, 1) := by decide +kernel
theorem dX6_digest_128 : decode cX6_digest 128 = .ok (.invokevirtual 171, 3) := by decide +kernel
theorem dX6_digest_131 : decode cX6_digest 131 = .ok (.iinc 1 1, 3) := by decide +kernel
theorem dX6_digest_134 : decode cX6_digest 134 = .ok (.goto (-18), 3) := by decide +kernel
theorem dX6_digest_137 : decode cX6_digest 137 = .ok (.aload_n 0, 1) := by decide +kernel
theorem dX6_digest_138 : decode cX6_digest 138 = .ok (.getfield 156, 3) := by decide +kernel
theorem dX6_digest_141 : decode cX6_digest 141 = .ok (.lreturn, 1) := by decide +kernel
