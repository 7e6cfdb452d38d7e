theorem dX3_init_0 : decode cX3_init 0 = .ok (.aload_n 0, 1) := by decide +kernel
theorem dX3_init_1 : decode cX3_init 1 = .ok (.invokespecial 3, 3) := by decide +kernel
theorem dX3_init_4 : decode cX3_init 4 = .ok (.aload_n 0, 1) := by decide +kernel
theorem dX3_init_5 : decode cX3_init 5 = .ok (.bipush 8, 2) := by decide +kernel
theorem dX3_init_7 : decode cX3_init 7 = .ok (.anewarray 9, 3) := by decide +kernel
theorem dX3_init_10 : decode cX3_init 10 = .ok (.putfield 11, 3) := by decide +kernel
theorem dX3_init_13 : decode cX3_init 13 = .ok (.aload_n 0, 1) := by decide +kernel
theorem dX3_init_14 : decode cX3_init 14 = .ok (.iconst 4, 1) := by decide +kernel
theorem dX3_init_15 : decode cX3_init 15 = .ok (.anewarray 17, 3) := by decide +kernel
theorem dX3_init_18 : decode cX3_init 18 = .ok (.putfield 19, 3) := by decide +kernel
theorem dX3_init_21 : decode cX3_init 21 = .ok (.iconst 0, 1) := by decide +kernel
theorem dX3_init_22 : decode cX3_init 22 = .ok (.istore_n 1, 1) := by decide +kernel
theorem dX3_init_23 : decode cX3_init 23 = .ok (.iload_n 1, 1) := by decide +kernel
theorem dX3_init_24 : decode cX3_init 24 = .ok (.aload_n 0, 1) := by decide +kernel
theorem dX3_init_25 : decode cX3_init 25 = .ok (.getfield 11, 3) := by decide +kernel
theorem dX3_init_28 : decode cX3_init 28 = .ok (.arraylength, 1) := by decide +kernel
theorem dX3_init_29 : decode cX3_init 29 = .ok (.if_icmp .ge 22, 3) := by decide +kernel
theorem dX3_init_32 : decode cX3_init 32 = .ok (.aload_n 0, 1) := by decide +kernel
theorem dX3_init_33 : decode cX3_init 33 = .ok (.getfield 11, 3) := by decide +kernel
theorem dX3_init_36 : decode cX3_init 36 = .ok (.iload_n 1, 1) := by decide +kernel
theorem dX3_init_37 : decode cX3_init 37 = .ok (.new 9, 3) := by decide +kernel
theorem dX3_init_40 : decode cX3_init 40 = .ok (.dup, 1) := by decide +kernel
theorem dX3_init_41 : decode cX3_init 41 = .ok (.invokespecial 23, 3) := by decide +kernel
theorem dX3_init_44 : decode cX3_init 44 = .ok (.aastore, 1) := by decide +kernel
theorem dX3_init_45 : decode cX3_init 45 = .ok (.iinc 1 1, 3) := by decide +kernel
theorem dX3_init_48 : decode cX3_init 48 = .ok (.goto (-25), 3) := by decide +kernel
theorem dX3_init_51 : decode cX3_init 51 = .ok (.iconst 0, 1) := by decide +kernel
theorem dX3_init_52 : decode cX3_init 52 = .ok (.istore_n 1, 1) := by decide +kernel
theorem dX3_init_53 : decode cX3_init 53 = .ok (.iload_n 1, 1) := by decide +kernel
theorem dX3_init_54 : decode cX3_init 54 = .ok (.aload_n 0, 1) := by decide +kernel
theorem dX3_init_55 : decode cX3_init 55 = .ok (.getfield 19, 3) := by decide +kernel
theorem dX3_init_58 : decode cX3_init 58 = .ok (.arraylength, 1) := by decide +kernel
theorem dX3_init_59 : decode cX3_init 59 = .ok (.if_icmp .ge 23, 3) := by decide +kernel
theorem dX3_init_62 : decode cX3_init 62 = .ok (.aload_n 0, 1) := by decide +kernel
theorem dX3_init_63 : decode cX3_init 63 = .ok (.getfield 19, 3) := by decide +kernel
theorem dX3_init_66 : decode cX3_init 66 = .ok (.iload_n 1, 1) := by decide +kernel
theorem dX3_init_67 : decode cX3_init 67 = .ok (.new 17, 3) := by decide +kernel
theorem dX3_init_70 : decode cX3_init 70 = .ok (.dup, 1) := by decide +kernel
theorem dX3_init_71 : decode cX3_init 71 = .ok (.iload_n 1, 1) := by decide +kernel
theorem dX3_init_72 : decode cX3_init 72 = .ok (.invokespecial 24, 3) := by decide +kernel
theorem dX3_init_75 : decode cX3_init 75 = .ok (.aastore, 1) := by decide +kernel
theorem dX3_init_76 : decode cX3_init 76 = .ok (.iinc 1 1, 3) := by decide +kernel
theorem dX3_init_79 : decode cX3_init 79 = .ok (.goto (-26), 3) := by decide +kernel
theorem dX3_init_82 : decode cX3_init 82 = .ok (.return_, 1) := by decide +kernel
theorem dX3_takeOver_0 : decode cX3_takeOver 0 = .ok (.aload_n 0, 1) := by decide +kernel
theorem dX3_takeOver_1 : decode cX3_takeOver 1 = .ok (.aload_n 1, 1) := by decide +kernel
theorem dX3_takeOver_2 : decode cX3_takeOver 2 = .ok (.getfield 27, 3) := by decide +kernel
theorem dX3_takeOver_5 : decode cX3_takeOver 5 = .ok (.putfield 27, 3) := by decide +kernel
theorem dX3_takeOver_8 : decode cX3_takeOver 8 = .ok (.aload_n 0, 1) := by decide +kernel
theorem dX3_takeOver_9 : decode cX3_takeOver 9 = .ok (.aload_n 1, 1) := by decide +kernel
theorem dX3_takeOver_10 : decode cX3_takeOver 10 = .ok (.getfield 31, 3) := by decide +kernel
theorem dX3_takeOver_13 : decode cX3_takeOver 13 = .ok (.putfield 31, 3) := by decide +kernel
theorem dX3_takeOver_16 : decode cX3_takeOver 16 = .ok (.aload_n 0, 1) := by decide +kernel
theorem dX3_takeOver_17 : decode cX3_takeOver 17 = .ok (.aload_n 1, 1) := by decide +kernel
theorem dX3_takeOver_18 : decode cX3_takeOver 18 = .ok (.getfield 34, 3) := by decide +kernel
theorem dX3_takeOver_21 : decode cX3_takeOver 21 = .ok (.putfield 34, 3) := by decide +kernel
theorem dX3_takeOver_24 : decode cX3_takeOver 24 = .ok (.iconst 0, 1) := by decide +kernel
theorem dX3_takeOver_25 : decode cX3_takeOver 25 = .ok (.istore_n 2, 1) := by decide +kernel
theorem dX3_takeOver_26 : decode cX3_takeOver 26 = .ok (.iload_n 2, 1) := by decide +kernel
theorem dX3_takeOver_27 : decode cX3_takeOver 27 = .ok (.aload_n 0, 1) := by decide +kernel
theorem dX3_takeOver_28 : decode cX3_takeOver 28 = .ok (.getfield 27, 3) := by decide +kernel
theorem dX3_takeOver_31 : decode cX3_takeOver 31 = .ok (.if_icmp .ge 37, 3) := by decide +kernel
theorem dX3_takeOver_34 : decode cX3_takeOver 34 = .ok (.aload_n 1, 1) := by decide +kernel
theorem dX3_takeOver_35 : decode cX3_takeOver 35 = .ok (.iload_n 2, 1) := by decide +kernel
theorem dX3_takeOver_36 : decode cX3_takeOver 36 = .ok (.invokevirtual 37, 3) := by decide +kernel
theorem dX3_takeOver_39 : decode cX3_takeOver 39 = .ok (.astore_n 3, 1) := by decide +kernel
theorem dX3_takeOver_40 : decode cX3_takeOver 40 = .ok (.aload_n 0, 1) := by decide +kernel
theorem dX3_takeOver_41 : decode cX3_takeOver 41 = .ok (.iload_n 2, 1) := by decide +kernel
theorem dX3_takeOver_42 : decode cX3_takeOver 42 = .ok (.invokevirtual 37, 3) := by decide +kernel
theorem dX3_takeOver_45 : decode cX3_takeOver 45 = .ok (.astore 4, 2) := by decide +kernel
theorem dX3_takeOver_47 : decode cX3_takeOver 47 = .ok (.aload_n 3, 1) := by decide +kernel
theorem dX3_takeOver_48 : decode cX3_takeOver 48 = .ok (.ifnull 14, 3) := by decide +kernel
theorem dX3_takeOver_51 : decode cX3_takeOver 51 = .ok (.aload 4, 2) := by decide +kernel
theorem dX3_takeOver_53 : decode cX3_takeOver 53 = .ok (.ifnull 9, 3) := by decide +kernel
theorem dX3_takeOver_56 : decode cX3_takeOver 56 = .ok (.aload 4, 2) := by decide +kernel
theorem dX3_takeOver_58 : decode cX3_takeOver 58 = .ok (.aload_n 3, 1) := by decide +kernel
theorem dX3_takeOver_59 : decode cX3_takeOver 59 = .ok (.invokevirtual 41, 3) := by decide +kernel
theorem dX3_takeOver_62 : decode cX3_takeOver 62 = .ok (.iinc 2 1, 3) := by decide +kernel
theorem dX3_takeOver_65 : decode cX3_takeOver 65 = .ok (.goto (-39), 3) := by decide +kernel
theorem dX3_takeOver_68 : decode cX3_takeOver 68 = .ok (.iconst 0, 1) := by decide +kernel
theorem dX3_takeOver_69 : decode cX3_takeOver 69 = .ok (.istore_n 2, 1) := by decide +kernel
theorem dX3_takeOver_70 : decode cX3_takeOver 70 = .ok (.iload_n 2, 1) := by decide +kernel
theorem dX3_takeOver_71 : decode cX3_takeOver 71 = .ok (.aload_n 0, 1) := by decide +kernel
theorem dX3_takeOver_72 : decode cX3_takeOver 72 = .ok (.getfield 31, 3) := by decide +kernel
theorem dX3_takeOver_75 : decode cX3_takeOver 75 = .ok (.if_icmp .ge 37, 3) := by decide +kernel
theorem dX3_takeOver_78 : decode cX3_takeOver 78 = .ok (.aload_n 1, 1) := by decide +kernel
theorem dX3_takeOver_79 : decode cX3_takeOver 79 = .ok (.iload_n 2, 1) := by decide +kernel
theorem dX3_takeOver_80 : decode cX3_takeOver 80 = .ok (.invokevirtual 45, 3) := by decide +kernel
theorem dX3_takeOver_83 : decode cX3_takeOver 83 = .ok (.astore_n 3, 1) := by decide +kernel
theorem dX3_takeOver_84 : decode cX3_takeOver 84 = .ok (.aload_n 0, 1) := by decide +kernel
theorem dX3_takeOver_85 : decode cX3_takeOver 85 = .ok (.iload_n 2, 1) := by decide +kernel
theorem dX3_takeOver_86 : decode cX3_takeOver 86 = .ok (.invokevirtual 45, 3) := by decide +kernel
theorem dX3_takeOver_89 : decode cX3_takeOver 89 = .ok (.astore 4, 2) := by decide +kernel
theorem dX3_takeOver_91 : decode cX3_takeOver 91 = .ok (.aload_n 3, 1) := by decide +kernel
theorem dX3_takeOver_92 : decode cX3_takeOver 92 = .ok (.ifnull 14, 3) := by decide +kernel
theorem dX3_takeOver_95 : decode cX3_takeOver 95 = .ok (.aload 4, 2) := by decide +kernel
theorem dX3_takeOver_97 : decode cX3_takeOver 97 = .ok (.ifnull 9, 3) := by decide +kernel
theorem dX3_takeOver_100 : decode cX3_takeOver 100 = .ok (.aload 4, 2) := by decide +kernel
theorem dX3_takeOver_102 : decode cX3_takeOver 102 = .ok (.aload_n 3, 1) := by decide +kernel
theorem dX3_takeOver_103 : decode cX3_takeOver 103 = .ok (.invokevirtual 49, 3) := by decide +kernel
theorem dX3_takeOver_106 : decode cX3_takeOver 106 = .ok (.iinc 2 1, 3) := by decide +kernel
theorem dX3_takeOver_109 : decode cX3_takeOver 109 = .ok (.goto (-39), 3) := by decide +kernel
theorem dX3_takeOver_112 : decode cX3_takeOver 112 = .ok (.return_, 1) := by decide +kernel
theorem dX3_node_0 : decode cX3_node 0 = .ok (.iload_n 1, 1) := by decide +kernel
theorem dX3_node_1 : decode cX3_node 1 = .ok (.ifCond .lt 20, 3) := by decide +kernel
theorem dX3_node_4 : decode cX3_node 4 = .ok (.iload_n 1, 1) := by decide +kernel
theorem dX3_node_5 : decode cX3_node 5 = .ok (.aload_n 0, 1) := by decide +kernel
theorem dX3_node_6 : decode cX3_node 6 = .ok (.getfield 27, 3) := by decide +kernel
theorem dX3_node_9 : decode cX3_node 9 = .ok (.if_icmp .ge 12, 3) := by decide +kernel
theorem dX3_node_12 : decode cX3_node 12 = .ok (.iload_n 1, 1) := by decide +kernel
theorem dX3_node_13 : decode cX3_node 13 = .ok (.aload_n 0, 1) := by decide +kernel
theorem dX3_node_14 : decode cX3_node 14 = .ok (.getfield 11, 3) := by decide +kernel
theorem dX3_node_17 : decode cX3_node 17 = .ok (.arraylength, 1) := by decide +kernel
theorem dX3_node_18 : decode cX3_node 18 = .ok (.if_icmp .lt 7, 3) := by decide +kernel
theorem dX3_node_21 : decode cX3_node 21 = .ok (.aconst_null, 1) := by decide +kernel
theorem dX3_node_22 : decode cX3_node 22 = .ok (.goto 9, 3) := by decide +kernel
theorem dX3_node_25 : decode cX3_node 25 = .ok (.aload_n 0, 1) := by decide +kernel
theorem dX3_node_26 : decode cX3_node 26 = .ok (.getfield 11, 3) := by decide +kernel
theorem dX3_node_29 : decode cX3_node 29 = .ok (.iload_n 1, 1) := by decide +kernel
theorem dX3_node_30 : decode cX3_node 30 = .ok (.aaload, 1) := by decide +kernel
theorem dX3_node_31 : decode cX3_node 31 = .ok (.areturn, 1) := by decide +kernel
theorem dX3_ledger_0 : decode cX3_ledger 0 = .ok (.iload_n 1, 1) := by decide +kernel
theorem dX3_ledger_1 : decode cX3_ledger 1 = .ok (.ifCond .lt 20, 3) := by decide +kernel
theorem dX3_ledger_4 : decode cX3_ledger 4 = .ok (.iload_n 1, 1) := by decide +kernel
theorem dX3_ledger_5 : decode cX3_ledger 5 = .ok (.aload_n 0, 1) := by decide +kernel
theorem dX3_ledger_6 : decode cX3_ledger 6 = .ok (.getfield 31, 3) := by decide +kernel
theorem dX3_ledger_9 : decode cX3_ledger 9 = .ok (.if_icmp .ge 12, 3) := by decide +kernel
theorem dX3_ledger_12 : decode cX3_ledger 12 = .ok (.iload_n 1, 1) := by decide +kernel
theorem dX3_ledger_13 : decode cX3_ledger 13 = .ok (.aload_n 0, 1) := by decide +kernel
theorem dX3_ledger_14 : decode cX3_ledger 14 = .ok (.getfield 19, 3) := by decide +kernel
theorem dX3_ledger_17 : decode cX3_ledger 17 = .ok (.arraylength, 1) := by decide +kernel
theorem dX3_ledger_18 : decode cX3_ledger 18 = .ok (.if_icmp .lt 7, 3) := by decide +kernel
theorem dX3_ledger_21 : decode cX3_ledger 21 = .ok (.aconst_null, 1) := by decide +kernel
theorem dX3_ledger_22 : decode cX3_ledger 22 = .ok (.goto 9, 3) := by decide +kernel
theorem dX3_ledger_25 : decode cX3_ledger 25 = .ok (.aload_n 0, 1) := by decide +kernel
theorem dX3_ledger_26 : decode cX3_ledger 26 = .ok (.getfield 19, 3) := by decide +kernel
theorem dX3_ledger_29 : decode cX3_ledger 29 = .ok (.iload_n 1, 1) := by decide +kernel
theorem dX3_ledger_30 : decode cX3_ledger 30 = .ok (.aaload, 1) := by decide +kernel
theorem dX3_ledger_31 : decode cX3_ledger 31 = .ok (.areturn, 1) := by decide +kernel
theorem dX3_beginNode_0 : decode cX3_beginNode 0 = .ok (.aload_n 0, 1) := by decide +kernel
theorem dX3_beginNode_1 : decode cX3_beginNode 1 = .ok (.getfield 27, 3) := by decide +kernel
theorem dX3_beginNode_4 : decode cX3_beginNode 4 = .ok (.istore_n 1, 1) := by decide +kernel
theorem dX3_beginNode_5 : decode cX3_beginNode 5 = .ok (.aload_n 0, 1) := by decide +kernel
theorem dX3_beginNode_6 : decode cX3_beginNode 6 = .ok (.dup, 1) := by decide +kernel
theorem dX3_beginNode_7 : decode cX3_beginNode 7 = .ok (.getfield 27, 3) := by decide +kernel
theorem dX3_beginNode_10 : decode cX3_beginNode 10 = .ok (.iconst 1, 1) := by decide +kernel
theorem dX3_beginNode_11 : decode cX3_beginNode 11 = .ok (.iadd, 1) := by decide +kernel
theorem dX3_beginNode_12 : decode cX3_beginNode 12 = .ok (.putfield 27, 3) := by decide +kernel
theorem dX3_beginNode_15 : decode cX3_beginNode 15 = .ok (.aload_n 0, 1) := by decide +kernel
theorem dX3_beginNode_16 : decode cX3_beginNode 16 = .ok (.iload_n 1, 1) := by decide +kernel
theorem dX3_beginNode_17 : decode cX3_beginNode 17 = .ok (.invokevirtual 37, 3) := by decide +kernel
theorem dX3_beginNode_20 : decode cX3_beginNode 20 = .ok (.astore_n 2, 1) := by decide +kernel
theorem dX3_beginNode_21 : decode cX3_beginNode 21 = .ok (.aload_n 2, 1) := by decide +kernel
theorem dX3_beginNode_22 : decode cX3_beginNode 22 = .ok (.ifnull 7, 3) := by decide +kernel
theorem dX3_beginNode_25 : decode cX3_beginNode 25 = .ok (.aload_n 2, 1) := by decide +kernel
theorem dX3_beginNode_26 : decode cX3_beginNode 26 = .ok (.invokevirtual 52, 3) := by decide +kernel
theorem dX3_beginNode_29 : decode cX3_beginNode 29 = .ok (.iload_n 1, 1) := by decide +kernel
theorem dX3_beginNode_30 : decode cX3_beginNode 30 = .ok (.ireturn, 1) := by decide +kernel
theorem dX3_beginLedger_0 : decode cX3_beginLedger 0 = .ok (.aload_n 0, 1) := by decide +kernel
theorem dX3_beginLedger_1 : decode cX3_beginLedger 1 = .ok (.getfield 31, 3) := by decide +kernel
theorem dX3_beginLedger_4 : decode cX3_beginLedger 4 = .ok (.istore 4, 2) := by decide +kernel
theorem dX3_beginLedger_6 : decode cX3_beginLedger 6 = .ok (.aload_n 0, 1) := by decide +kernel
theorem dX3_beginLedger_7 : decode cX3_beginLedger 7 = .ok (.dup, 1) := by decide +kernel
theorem dX3_beginLedger_8 : decode cX3_beginLedger 8 = .ok (.getfield 31, 3) := by decide +kernel
theorem dX3_beginLedger_11 : decode cX3_beginLedger 11 = .ok (.iconst 1, 1) := by decide +kernel
theorem dX3_beginLedger_12 : decode cX3_beginLedger 12 = .ok (.iadd, 1) := by decide +kernel
theorem dX3_beginLedger_13 : decode cX3_beginLedger 13 = .ok (.putfield 31, 3) := by decide +kernel
theorem dX3_beginLedger_16 : decode cX3_beginLedger 16 = .ok (.aload_n 0, 1) := by decide +kernel
theorem dX3_beginLedger_17 : decode cX3_beginLedger 17 = .ok (.iload 4, 2) := by decide +kernel
theorem dX3_beginLedger_19 : decode cX3_beginLedger 19 = .ok (.invokevirtual 45, 3) := by decide +kernel
theorem dX3_beginLedger_22 : decode cX3_beginLedger 22 = .ok (.astore 5, 2) := by decide +kernel
theorem dX3_beginLedger_24 : decode cX3_beginLedger 24 = .ok (.aload 5, 2) := by decide +kernel
theorem dX3_beginLedger_26 : decode cX3_beginLedger 26 = .ok (.ifnull 44, 3) := by decide +kernel
theorem dX3_beginLedger_29 : decode cX3_beginLedger 29 = .ok (.aload 5, 2) := by decide +kernel
theorem dX3_beginLedger_31 : decode cX3_beginLedger 31 = .ok (.iload_n 1, 1) := by decide +kernel
theorem dX3_beginLedger_32 : decode cX3_beginLedger 32 = .ok (.iload_n 2, 1) := by decide +kernel
theorem dX3_beginLedger_33 : decode cX3_beginLedger 33 = .ok (.iload_n 3, 1) := by decide +kernel
theorem dX3_beginLedger_34 : decode cX3_beginLedger 34 = .ok (.invokevirtual 55, 3) := by decide +kernel
theorem dX3_beginLedger_37 : decode cX3_beginLedger 37 = .ok (.iconst 0, 1) := by decide +kernel
theorem dX3_beginLedger_38 : decode cX3_beginLedger 38 = .ok (.istore 6, 2) := by decide +kernel
theorem dX3_beginLedger_40 : decode cX3_beginLedger 40 = .ok (.iload 6, 2) := by decide +kernel
theorem dX3_beginLedger_42 : decode cX3_beginLedger 42 = .ok (.iload_n 1, 1) := by decide +kernel
theorem dX3_beginLedger_43 : decode cX3_beginLedger 43 = .ok (.if_icmp .ge 27, 3) := by decide +kernel
theorem dX3_beginLedger_46 : decode cX3_beginLedger 46 = .ok (.aload 5, 2) := by decide +kernel
theorem dX3_beginLedger_48 : decode cX3_beginLedger 48 = .ok (.iconst 0, 1) := by decide +kernel
theorem dX3_beginLedger_49 : decode cX3_beginLedger 49 = .ok (.iload 6, 2) := by decide +kernel
theorem dX3_beginLedger_51 : decode cX3_beginLedger 51 = .ok (.aload_n 0, 1) := by decide +kernel
theorem dX3_beginLedger_52 : decode cX3_beginLedger 52 = .ok (.aload 5, 2) := by decide +kernel
theorem dX3_beginLedger_54 : decode cX3_beginLedger 54 = .ok (.iconst 0, 1) := by decide +kernel
theorem dX3_beginLedger_55 : decode cX3_beginLedger 55 = .ok (.invokevirtual 58, 3) := by decide +kernel
theorem dX3_beginLedger_58 : decode cX3_beginLedger 58 = .ok (.invokevirtual 62, 3) := by decide +kernel
theorem dX3_beginLedger_61 : decode cX3_beginLedger 61 = .ok (.invokevirtual 65, 3) := by decide +kernel
theorem dX3_beginLedger_64 : decode cX3_beginLedger 64 = .ok (.iinc 6 1, 3) := by decide +kernel
theorem dX3_beginLedger_67 : decode cX3_beginLedger 67 = .ok (.goto (-27), 3) := by decide +kernel
theorem dX3_beginLedger_70 : decode cX3_beginLedger 70 = .ok (.iload 4, 2) := by decide +kernel
theorem dX3_beginLedger_72 : decode cX3_beginLedger 72 = .ok (.ireturn, 1) := by decide +kernel
theorem dX3_isUp_0 : decode cX3_isUp 0 = .ok (.aload_n 0, 1) := by decide +kernel
theorem dX3_isUp_1 : decode cX3_isUp 1 = .ok (.iload_n 1, 1) := by decide +kernel
theorem dX3_isUp_2 : decode cX3_isUp 2 = .ok (.invokevirtual 37, 3) := by decide +kernel
theorem dX3_isUp_5 : decode cX3_isUp 5 = .ok (.astore_n 2, 1) := by decide +kernel
theorem dX3_isUp_6 : decode cX3_isUp 6 = .ok (.aload_n 2, 1) := by decide +kernel
theorem dX3_isUp_7 : decode cX3_isUp 7 = .ok (.ifnull 14, 3) := by decide +kernel
theorem dX3_isUp_10 : decode cX3_isUp 10 = .ok (.aload_n 2, 1) := by decide +kernel
theorem dX3_isUp_11 : decode cX3_isUp 11 = .ok (.getfield 68, 3) := by decide +kernel
theorem dX3_isUp_14 : decode cX3_isUp 14 = .ok (.ifCond .eq 7, 3) := by decide +kernel
theorem dX3_isUp_17 : decode cX3_isUp 17 = .ok (.iconst 1, 1) := by decide +kernel
theorem dX3_isUp_18 : decode cX3_isUp 18 = .ok (.goto 4, 3) := by decide +kernel
theorem dX3_isUp_21 : decode cX3_isUp 21 = .ok (.iconst 0, 1) := by decide +kernel
theorem dX3_isUp_22 : decode cX3_isUp 22 = .ok (.ireturn, 1) := by decide +kernel
theorem dX3_upMask_0 : decode cX3_upMask 0 = .ok (.iconst 0, 1) := by decide +kernel
theorem dX3_upMask_1 : decode cX3_upMask 1 = .ok (.istore_n 1, 1) := by decide +kernel
theorem dX3_upMask_2 : decode cX3_upMask 2 = .ok (.iconst 0, 1) := by decide +kernel
theorem dX3_upMask_3 : decode cX3_upMask 3 = .ok (.istore_n 2, 1) := by decide +kernel
theorem dX3_upMask_4 : decode cX3_upMask 4 = .ok (.iload_n 2, 1) := by decide +kernel
theorem dX3_upMask_5 : decode cX3_upMask 5 = .ok (.aload_n 0, 1) := by decide +kernel
theorem dX3_upMask_6 : decode cX3_upMask 6 = .ok (.getfield 27, 3) := by decide +kernel
theorem dX3_upMask_9 : decode cX3_upMask 9 = .ok (.if_icmp .ge 27, 3) := by decide +kernel
theorem dX3_upMask_12 : decode cX3_upMask 12 = .ok (.iload_n 1, 1) := by decide +kernel
theorem dX3_upMask_13 : decode cX3_upMask 13 = .ok (.aload_n 0, 1) := by decide +kernel
theorem dX3_upMask_14 : decode cX3_upMask 14 = .ok (.iload_n 2, 1) := by decide +kernel
theorem dX3_upMask_15 : decode cX3_upMask 15 = .ok (.invokevirtual 72, 3) := by decide +kernel
theorem dX3_upMask_18 : decode cX3_upMask 18 = .ok (.ifCond .eq 9, 3) := by decide +kernel
theorem dX3_upMask_21 : decode cX3_upMask 21 = .ok (.iconst 1, 1) := by decide +kernel
theorem dX3_upMask_22 : decode cX3_upMask 22 = .ok (.iload_n 2, 1) := by decide +kernel
theorem dX3_upMask_23 : decode cX3_upMask 23 = .ok (.ishl, 1) := by decide +kernel
theorem dX3_upMask_24 : decode cX3_upMask 24 = .ok (.goto 4, 3) := by decide +kernel
theorem dX3_upMask_27 : decode cX3_upMask 27 = .ok (.iconst 0, 1) := by decide +kernel
theorem dX3_upMask_28 : decode cX3_upMask 28 = .ok (.ior, 1) := by decide +kernel
theorem dX3_upMask_29 : decode cX3_upMask 29 = .ok (.istore_n 1, 1) := by decide +kernel
theorem dX3_upMask_30 : decode cX3_upMask 30 = .ok (.iinc 2 1, 3) := by decide +kernel
theorem dX3_upMask_33 : decode cX3_upMask 33 = .ok (.goto (-29), 3) := by decide +kernel
theorem dX3_upMask_36 : decode cX3_upMask 36 = .ok (.iload_n 1, 1) := by decide +kernel
theorem dX3_upMask_37 : decode cX3_upMask 37 = .ok (.ireturn, 1) := by decide +kernel
theorem dX3_choose_0 : decode cX3_choose 0 = .ok (.iconst (-1), 1) := by decide +kernel
theorem dX3_choose_1 : decode cX3_choose 1 = .ok (.istore_n 2, 1) := by decide +kernel
theorem dX3_choose_2 : decode cX3_choose 2 = .ok (.iconst 0, 1) := by decide +kernel
theorem dX3_choose_3 : decode cX3_choose 3 = .ok (.istore_n 3, 1) := by decide +kernel
theorem dX3_choose_4 : decode cX3_choose 4 = .ok (.iconst 0, 1) := by decide +kernel
theorem dX3_choose_5 : decode cX3_choose 5 = .ok (.istore 4, 2) := by decide +kernel
theorem dX3_choose_7 : decode cX3_choose 7 = .ok (.iload 4, 2) := by decide +kernel
theorem dX3_choose_9 : decode cX3_choose 9 = .ok (.aload_n 0, 1) := by decide +kernel
theorem dX3_choose_10 : decode cX3_choose 10 = .ok (.getfield 27, 3) := by decide +kernel
theorem dX3_choose_13 : decode cX3_choose 13 = .ok (.if_icmp .ge 65, 3) := by decide +kernel
theorem dX3_choose_16 : decode cX3_choose 16 = .ok (.aload_n 0, 1) := by decide +kernel
theorem dX3_choose_17 : decode cX3_choose 17 = .ok (.iload 4, 2) := by decide +kernel
theorem dX3_choose_19 : decode cX3_choose 19 = .ok (.invokevirtual 37, 3) := by decide +kernel
theorem dX3_choose_22 : decode cX3_choose 22 = .ok (.astore 5, 2) := by decide +kernel
theorem dX3_choose_24 : decode cX3_choose 24 = .ok (.aload 5, 2) := by decide +kernel
theorem dX3_choose_26 : decode cX3_choose 26 = .ok (.ifnull 46, 3) := by decide +kernel
theorem dX3_choose_29 : decode cX3_choose 29 = .ok (.aload 5, 2) := by decide +kernel
theorem dX3_choose_31 : decode cX3_choose 31 = .ok (.getfield 68, 3) := by decide +kernel
theorem dX3_choose_34 : decode cX3_choose 34 = .ok (.ifCond .eq 38, 3) := by decide +kernel
theorem dX3_choose_37 : decode cX3_choose 37 = .ok (.iload_n 1, 1) := by decide +kernel
theorem dX3_choose_38 : decode cX3_choose 38 = .ok (.iload 4, 2) := by decide +kernel
theorem dX3_choose_40 : decode cX3_choose 40 = .ok (.invokestatic 79, 3) := by decide +kernel
theorem dX3_choose_43 : decode cX3_choose 43 = .ok (.ifCond .eq 6, 3) := by decide +kernel
theorem dX3_choose_46 : decode cX3_choose 46 = .ok (.goto 26, 3) := by decide +kernel
theorem dX3_choose_49 : decode cX3_choose 49 = .ok (.iload_n 2, 1) := by decide +kernel
theorem dX3_choose_50 : decode cX3_choose 50 = .ok (.iconst (-1), 1) := by decide +kernel
theorem dX3_choose_51 : decode cX3_choose 51 = .ok (.if_icmp .eq 12, 3) := by decide +kernel
theorem dX3_choose_54 : decode cX3_choose 54 = .ok (.aload 5, 2) := by decide +kernel
theorem dX3_choose_56 : decode cX3_choose 56 = .ok (.getfield 76, 3) := by decide +kernel
theorem dX3_choose_59 : decode cX3_choose 59 = .ok (.iload_n 3, 1) := by decide +kernel
theorem dX3_choose_60 : decode cX3_choose 60 = .ok (.if_icmp .ge 12, 3) := by decide +kernel
theorem dX3_choose_63 : decode cX3_choose 63 = .ok (.iload 4, 2) := by decide +kernel
theorem dX3_choose_65 : decode cX3_choose 65 = .ok (.istore_n 2, 1) := by decide +kernel
theorem dX3_choose_66 : decode cX3_choose 66 = .ok (.aload 5, 2) := by decide +kernel
theorem dX3_choose_68 : decode cX3_choose 68 = .ok (.getfield 76, 3) := by decide +kernel
theorem dX3_choose_71 : decode cX3_choose 71 = .ok (.istore_n 3, 1) := by decide +kernel
theorem dX3_choose_72 : decode cX3_choose 72 = .ok (.iinc 4 1, 3) := by decide +kernel
theorem dX3_choose_75 : decode cX3_choose 75 = .ok (.goto (-68), 3) := by decide +kernel
theorem dX3_choose_78 : decode cX3_choose 78 = .ok (.iload_n 2, 1) := by decide +kernel
theorem dX3_choose_79 : decode cX3_choose 79 = .ok (.ireturn, 1) := by decide +kernel
theorem dX3_send_0 : decode cX3_send 0 = .ok (.aload_n 0, 1) := by decide +kernel
theorem dX3_send_1 : decode cX3_send 1 = .ok (.iload_n 1, 1) := by decide +kernel
theorem dX3_send_2 : decode cX3_send 2 = .ok (.invokevirtual 37, 3) := by decide +kernel
theorem dX3_send_5 : decode cX3_send 5 = .ok (.astore_n 3, 1) := by decide +kernel
theorem dX3_send_6 : decode cX3_send 6 = .ok (.aload_n 3, 1) := by decide +kernel
theorem dX3_send_7 : decode cX3_send 7 = .ok (.ifnull 8, 3) := by decide +kernel
theorem dX3_send_10 : decode cX3_send 10 = .ok (.aload_n 3, 1) := by decide +kernel
theorem dX3_send_11 : decode cX3_send 11 = .ok (.iload_n 2, 1) := by decide +kernel
theorem dX3_send_12 : decode cX3_send 12 = .ok (.invokevirtual 83, 3) := by decide +kernel
theorem dX3_send_15 : decode cX3_send 15 = .ok (.return_, 1) := by decide +kernel
theorem dX3_processOldest_0 : decode cX3_processOldest 0 = .ok (.aload_n 0, 1) := by decide +kernel
theorem dX3_processOldest_1 : decode cX3_processOldest 1 = .ok (.iload_n 1, 1) := by decide +kernel
theorem dX3_processOldest_2 : decode cX3_processOldest 2 = .ok (.invokevirtual 37, 3) := by decide +kernel
theorem dX3_processOldest_5 : decode cX3_processOldest 5 = .ok (.astore_n 2, 1) := by decide +kernel
theorem dX3_processOldest_6 : decode cX3_processOldest 6 = .ok (.aload_n 2, 1) := by decide +kernel
theorem dX3_processOldest_7 : decode cX3_processOldest 7 = .ok (.ifnonnull 5, 3) := by decide +kernel
theorem dX3_processOldest_10 : decode cX3_processOldest 10 = .ok (.iconst (-1), 1) := by decide +kernel
theorem dX3_processOldest_11 : decode cX3_processOldest 11 = .ok (.ireturn, 1) := by decide +kernel
theorem dX3_processOldest_12 : decode cX3_processOldest 12 = .ok (.aload_n 2, 1) := by decide +kernel
theorem dX3_processOldest_13 : decode cX3_processOldest 13 = .ok (.invokevirtual 86, 3) := by decide +kernel
theorem dX3_processOldest_16 : decode cX3_processOldest 16 = .ok (.istore_n 3, 1) := by decide +kernel
theorem dX3_processOldest_17 : decode cX3_processOldest 17 = .ok (.iload_n 3, 1) := by decide +kernel
theorem dX3_processOldest_18 : decode cX3_processOldest 18 = .ok (.iconst (-1), 1) := by decide +kernel
theorem dX3_processOldest_19 : decode cX3_processOldest 19 = .ok (.if_icmp .ne 5, 3) := by decide +kernel
theorem dX3_processOldest_22 : decode cX3_processOldest 22 = .ok (.iconst (-1), 1) := by decide +kernel
theorem dX3_processOldest_23 : decode cX3_processOldest 23 = .ok (.ireturn, 1) := by decide +kernel
theorem dX3_processOldest_24 : decode cX3_processOldest 24 = .ok (.iload_n 3, 1) := by decide +kernel
theorem dX3_processOldest_25 : decode cX3_processOldest 25 = .ok (.invokestatic 90, 3) := by decide +kernel
theorem dX3_processOldest_28 : decode cX3_processOldest 28 = .ok (.istore 4, 2) := by decide +kernel
theorem dX3_processOldest_30 : decode cX3_processOldest 30 = .ok (.aload_n 2, 1) := by decide +kernel
theorem dX3_processOldest_31 : decode cX3_processOldest 31 = .ok (.iload 4, 2) := by decide +kernel
theorem dX3_processOldest_33 : decode cX3_processOldest 33 = .ok (.invokevirtual 95, 3) := by decide +kernel
theorem dX3_processOldest_36 : decode cX3_processOldest 36 = .ok (.ifCond .eq 15, 3) := by decide +kernel
theorem dX3_processOldest_39 : decode cX3_processOldest 39 = .ok (.aload_n 0, 1) := by decide +kernel
theorem dX3_processOldest_40 : decode cX3_processOldest 40 = .ok (.dup, 1) := by decide +kernel
theorem dX3_processOldest_41 : decode cX3_processOldest 41 = .ok (.getfield 34, 3) := by decide +kernel
theorem dX3_processOldest_44 : decode cX3_processOldest 44 = .ok (.iconst 1, 1) := by decide +kernel
theorem dX3_processOldest_45 : decode cX3_processOldest 45 = .ok (.iadd, 1) := by decide +kernel
theorem dX3_processOldest_46 : decode cX3_processOldest 46 = .ok (.putfield 34, 3) := by decide +kernel
theorem dX3_processOldest_49 : decode cX3_processOldest 49 = .ok (.iconst 0, 1) := by decide +kernel
theorem dX3_processOldest_50 : decode cX3_processOldest 50 = .ok (.ireturn, 1) := by decide +kernel
theorem dX3_processOldest_51 : decode cX3_processOldest 51 = .ok (.aload_n 2, 1) := by decide +kernel
theorem dX3_processOldest_52 : decode cX3_processOldest 52 = .ok (.iload_n 3, 1) := by decide +kernel
theorem dX3_processOldest_53 : decode cX3_processOldest 53 = .ok (.invokevirtual 98, 3) := by decide +kernel
theorem dX3_processOldest_56 : decode cX3_processOldest 56 = .ok (.aload_n 0, 1) := by decide +kernel
theorem dX3_processOldest_57 : decode cX3_processOldest 57 = .ok (.iload 4, 2) := by decide +kernel
theorem dX3_processOldest_59 : decode cX3_processOldest 59 = .ok (.invokevirtual 45, 3) := by decide +kernel
theorem dX3_processOldest_62 : decode cX3_processOldest 62 = .ok (.astore 5, 2) := by decide +kernel
theorem dX3_processOldest_64 : decode cX3_processOldest 64 = .ok (.aload 5, 2) := by decide +kernel
theorem dX3_processOldest_66 : decode cX3_processOldest 66 = .ok (.ifnull 13, 3) := by decide +kernel
theorem dX3_processOldest_69 : decode cX3_processOldest 69 = .ok (.aload 5, 2) := by decide +kernel
theorem dX3_processOldest_71 : decode cX3_processOldest 71 = .ok (.iload_n 3, 1) := by decide +kernel
theorem dX3_processOldest_72 : decode cX3_processOldest 72 = .ok (.invokestatic 101, 3) := by decide +kernel
theorem dX3_processOldest_75 : decode cX3_processOldest 75 = .ok (.iload_n 1, 1) := by decide +kernel
theorem dX3_processOldest_76 : decode cX3_processOldest 76 = .ok (.invokevirtual 104, 3) := by decide +kernel
theorem dX3_processOldest_79 : decode cX3_processOldest 79 = .ok (.iconst 1, 1) := by decide +kernel
theorem dX3_processOldest_80 : decode cX3_processOldest 80 = .ok (.ireturn, 1) := by decide +kernel
theorem dX3_anyRequestWaits_0 : decode cX3_anyRequestWaits 0 = .ok (.iconst 0, 1) := by decide +kernel
theorem dX3_anyRequestWaits_1 : decode cX3_anyRequestWaits 1 = .ok (.istore_n 1, 1) := by decide +kernel
theorem dX3_anyRequestWaits_2 : decode cX3_anyRequestWaits 2 = .ok (.iload_n 1, 1) := by decide +kernel
theorem dX3_anyRequestWaits_3 : decode cX3_anyRequestWaits 3 = .ok (.aload_n 0, 1) := by decide +kernel
theorem dX3_anyRequestWaits_4 : decode cX3_anyRequestWaits 4 = .ok (.getfield 27, 3) := by decide +kernel
theorem dX3_anyRequestWaits_7 : decode cX3_anyRequestWaits 7 = .ok (.if_icmp .ge 28, 3) := by decide +kernel
theorem dX3_anyRequestWaits_10 : decode cX3_anyRequestWaits 10 = .ok (.aload_n 0, 1) := by decide +kernel
theorem dX3_anyRequestWaits_11 : decode cX3_anyRequestWaits 11 = .ok (.iload_n 1, 1) := by decide +kernel
theorem dX3_anyRequestWaits_12 : decode cX3_anyRequestWaits 12 = .ok (.invokevirtual 37, 3) := by decide +kernel
theorem dX3_anyRequestWaits_15 : decode cX3_anyRequestWaits 15 = .ok (.astore_n 2, 1) := by decide +kernel
theorem dX3_anyRequestWaits_16 : decode cX3_anyRequestWaits 16 = .ok (.aload_n 2, 1) := by decide +kernel
theorem dX3_anyRequestWaits_17 : decode cX3_anyRequestWaits 17 = .ok (.ifnull 12, 3) := by decide +kernel
theorem dX3_anyRequestWaits_20 : decode cX3_anyRequestWaits 20 = .ok (.aload_n 2, 1) := by decide +kernel
theorem dX3_anyRequestWaits_21 : decode cX3_anyRequestWaits 21 = .ok (.getfield 108, 3) := by decide +kernel
theorem dX3_anyRequestWaits_24 : decode cX3_anyRequestWaits 24 = .ok (.ifCond .le 5, 3) := by decide +kernel
theorem dX3_anyRequestWaits_27 : decode cX3_anyRequestWaits 27 = .ok (.iconst 1, 1) := by decide +kernel
theorem dX3_anyRequestWaits_28 : decode cX3_anyRequestWaits 28 = .ok (.ireturn, 1) := by decide +kernel
theorem dX3_anyRequestWaits_29 : decode cX3_anyRequestWaits 29 = .ok (.iinc 1 1, 3) := by decide +kernel
theorem dX3_anyRequestWaits_32 : decode cX3_anyRequestWaits 32 = .ok (.goto (-30), 3) := by decide +kernel
theorem dX3_anyRequestWaits_35 : decode cX3_anyRequestWaits 35 = .ok (.iconst 0, 1) := by decide +kernel
theorem dX3_anyRequestWaits_36 : decode cX3_anyRequestWaits 36 = .ok (.ireturn, 1) := by decide +kernel
theorem dX3_write_0 : decode cX3_write 0 = .ok (.aload_n 1, 1) := by decide +kernel
theorem dX3_write_1 : decode cX3_write 1 = .ok (.invokevirtual 111, 3) := by decide +kernel
theorem dX3_write_4 : decode cX3_write 4 = .ok (.istore_n 3, 1) := by decide +kernel
theorem dX3_write_5 : decode cX3_write 5 = .ok (.aload_n 1, 1) := by decide +kernel
theorem dX3_write_6 : decode cX3_write 6 = .ok (.iload_n 2, 1) := by decide +kernel
theorem dX3_write_7 : decode cX3_write 7 = .ok (.invokevirtual 114, 3) := by decide +kernel
theorem dX3_write_10 : decode cX3_write 10 = .ok (.istore 4, 2) := by decide +kernel
theorem dX3_write_12 : decode cX3_write 12 = .ok (.aload_n 1, 1) := by decide +kernel
theorem dX3_write_13 : decode cX3_write 13 = .ok (.getfield 117, 3) := by decide +kernel
theorem dX3_write_16 : decode cX3_write 16 = .ok (.iload 4, 2) := by decide +kernel
theorem dX3_write_18 : decode cX3_write 18 = .ok (.iload_n 2, 1) := by decide +kernel
theorem dX3_write_19 : decode cX3_write 19 = .ok (.iload_n 3, 1) := by decide +kernel
theorem dX3_write_20 : decode cX3_write 20 = .ok (.invokestatic 120, 3) := by decide +kernel
theorem dX3_write_23 : decode cX3_write 23 = .ok (.istore 5, 2) := by decide +kernel
theorem dX3_write_25 : decode cX3_write 25 = .ok (.aload_n 1, 1) := by decide +kernel
theorem dX3_write_26 : decode cX3_write 26 = .ok (.iload 4, 2) := by decide +kernel
theorem dX3_write_28 : decode cX3_write 28 = .ok (.invokevirtual 124, 3) := by decide +kernel
theorem dX3_write_31 : decode cX3_write 31 = .ok (.istore 6, 2) := by decide +kernel
theorem dX3_write_33 : decode cX3_write 33 = .ok (.iconst 0, 1) := by decide +kernel
theorem dX3_write_34 : decode cX3_write 34 = .ok (.istore 7, 2) := by decide +kernel
theorem dX3_write_36 : decode cX3_write 36 = .ok (.iload 7, 2) := by decide +kernel
theorem dX3_write_38 : decode cX3_write 38 = .ok (.aload_n 1, 1) := by decide +kernel
theorem dX3_write_39 : decode cX3_write 39 = .ok (.getfield 127, 3) := by decide +kernel
theorem dX3_write_42 : decode cX3_write 42 = .ok (.if_icmp .ge 25, 3) := by decide +kernel
theorem dX3_write_45 : decode cX3_write 45 = .ok (.aload_n 0, 1) := by decide +kernel
theorem dX3_write_46 : decode cX3_write 46 = .ok (.aload_n 1, 1) := by decide +kernel
theorem dX3_write_47 : decode cX3_write 47 = .ok (.iload 6, 2) := by decide +kernel
theorem dX3_write_49 : decode cX3_write 49 = .ok (.iload 4, 2) := by decide +kernel
theorem dX3_write_51 : decode cX3_write 51 = .ok (.iload 7, 2) := by decide +kernel
theorem dX3_write_53 : decode cX3_write 53 = .ok (.invokevirtual 130, 3) := by decide +kernel
theorem dX3_write_56 : decode cX3_write 56 = .ok (.iload 5, 2) := by decide +kernel
theorem dX3_write_58 : decode cX3_write 58 = .ok (.invokevirtual 134, 3) := by decide +kernel
theorem dX3_write_61 : decode cX3_write 61 = .ok (.iinc 7 1, 3) := by decide +kernel
theorem dX3_write_64 : decode cX3_write 64 = .ok (.goto (-28), 3) := by decide +kernel
theorem dX3_write_67 : decode cX3_write 67 = .ok (.iload 4, 2) := by decide +kernel
theorem dX3_write_69 : decode cX3_write 69 = .ok (.ireturn, 1) := by decide +kernel
theorem dX3_changeEnsemble_0 : decode cX3_changeEnsemble 0 = .ok (.aload_n 1, 1) := by decide +kernel
theorem dX3_changeEnsemble_1 : decode cX3_changeEnsemble 1 = .ok (.invokevirtual 111, 3) := by decide +kernel
theorem dX3_changeEnsemble_4 : decode cX3_changeEnsemble 4 = .ok (.istore 4, 2) := by decide +kernel
theorem dX3_changeEnsemble_6 : decode cX3_changeEnsemble 6 = .ok (.iload 4, 2) := by decide +kernel
theorem dX3_changeEnsemble_8 : decode cX3_changeEnsemble 8 = .ok (.iconst 1, 1) := by decide +kernel
theorem dX3_changeEnsemble_9 : decode cX3_changeEnsemble 9 = .ok (.iadd, 1) := by decide +kernel
theorem dX3_changeEnsemble_10 : decode cX3_changeEnsemble 10 = .ok (.istore 5, 2) := by decide +kernel
theorem dX3_changeEnsemble_12 : decode cX3_changeEnsemble 12 = .ok (.aload_n 1, 1) := by decide +kernel
theorem dX3_changeEnsemble_13 : decode cX3_changeEnsemble 13 = .ok (.aload_n 1, 1) := by decide +kernel
theorem dX3_changeEnsemble_14 : decode cX3_changeEnsemble 14 = .ok (.invokevirtual 137, 3) := by decide +kernel
theorem dX3_changeEnsemble_17 : decode cX3_changeEnsemble 17 = .ok (.iload_n 2, 1) := by decide +kernel
theorem dX3_changeEnsemble_18 : decode cX3_changeEnsemble 18 = .ok (.invokevirtual 140, 3) := by decide +kernel
theorem dX3_changeEnsemble_21 : decode cX3_changeEnsemble 21 = .ok (.istore 6, 2) := by decide +kernel
theorem dX3_changeEnsemble_23 : decode cX3_changeEnsemble 23 = .ok (.aload_n 1, 1) := by decide +kernel
theorem dX3_changeEnsemble_24 : decode cX3_changeEnsemble 24 = .ok (.aload_n 1, 1) := by decide +kernel
theorem dX3_changeEnsemble_25 : decode cX3_changeEnsemble 25 = .ok (.invokevirtual 137, 3) := by decide +kernel
theorem dX3_changeEnsemble_28 : decode cX3_changeEnsemble 28 = .ok (.invokevirtual 144, 3) := by decide +kernel
theorem dX3_changeEnsemble_31 : decode cX3_changeEnsemble 31 = .ok (.iload 5, 2) := by decide +kernel
theorem dX3_changeEnsemble_33 : decode cX3_changeEnsemble 33 = .ok (.if_icmp .eq 9, 3) := by decide +kernel
theorem dX3_changeEnsemble_36 : decode cX3_changeEnsemble 36 = .ok (.aload_n 1, 1) := by decide +kernel
theorem dX3_changeEnsemble_37 : decode cX3_changeEnsemble 37 = .ok (.iload 5, 2) := by decide +kernel
theorem dX3_changeEnsemble_39 : decode cX3_changeEnsemble 39 = .ok (.invokevirtual 147, 3) := by decide +kernel
theorem dX3_changeEnsemble_42 : decode cX3_changeEnsemble 42 = .ok (.aload_n 1, 1) := by decide +kernel
theorem dX3_changeEnsemble_43 : decode cX3_changeEnsemble 43 = .ok (.aload_n 1, 1) := by decide +kernel
theorem dX3_changeEnsemble_44 : decode cX3_changeEnsemble 44 = .ok (.invokevirtual 137, 3) := by decide +kernel
theorem dX3_changeEnsemble_47 : decode cX3_changeEnsemble 47 = .ok (.iload_n 2, 1) := by decide +kernel
theorem dX3_changeEnsemble_48 : decode cX3_changeEnsemble 48 = .ok (.iload_n 3, 1) := by decide +kernel
theorem dX3_changeEnsemble_49 : decode cX3_changeEnsemble 49 = .ok (.invokevirtual 65, 3) := by decide +kernel
theorem dX3_changeEnsemble_52 : decode cX3_changeEnsemble 52 = .ok (.aload_n 1, 1) := by decide +kernel
theorem dX3_changeEnsemble_53 : decode cX3_changeEnsemble 53 = .ok (.iload 5, 2) := by decide +kernel
theorem dX3_changeEnsemble_55 : decode cX3_changeEnsemble 55 = .ok (.iload 6, 2) := by decide +kernel
theorem dX3_changeEnsemble_57 : decode cX3_changeEnsemble 57 = .ok (.invokevirtual 150, 3) := by decide +kernel
theorem dX3_changeEnsemble_60 : decode cX3_changeEnsemble 60 = .ok (.iload 5, 2) := by decide +kernel
theorem dX3_changeEnsemble_62 : decode cX3_changeEnsemble 62 = .ok (.istore 7, 2) := by decide +kernel
theorem dX3_changeEnsemble_64 : decode cX3_changeEnsemble 64 = .ok (.iload 7, 2) := by decide +kernel
theorem dX3_changeEnsemble_66 : decode cX3_changeEnsemble 66 = .ok (.aload_n 1, 1) := by decide +kernel
theorem dX3_changeEnsemble_67 : decode cX3_changeEnsemble 67 = .ok (.getfield 153, 3) := by decide +kernel
theorem dX3_changeEnsemble_70 : decode cX3_changeEnsemble 70 = .ok (.if_icmp .ge 48, 3) := by decide +kernel
theorem dX3_changeEnsemble_73 : decode cX3_changeEnsemble 73 = .ok (.aload_n 1, 1) := by decide +kernel
theorem dX3_changeEnsemble_74 : decode cX3_changeEnsemble 74 = .ok (.aload_n 1, 1) := by decide +kernel
theorem dX3_changeEnsemble_75 : decode cX3_changeEnsemble 75 = .ok (.invokevirtual 137, 3) := by decide +kernel
theorem dX3_changeEnsemble_78 : decode cX3_changeEnsemble 78 = .ok (.iload 7, 2) := by decide +kernel
theorem dX3_changeEnsemble_80 : decode cX3_changeEnsemble 80 = .ok (.invokevirtual 156, 3) := by decide +kernel
theorem dX3_changeEnsemble_83 : decode cX3_changeEnsemble 83 = .ok (.iload_n 3, 1) := by decide +kernel
theorem dX3_changeEnsemble_84 : decode cX3_changeEnsemble 84 = .ok (.invokestatic 79, 3) := by decide +kernel
theorem dX3_changeEnsemble_87 : decode cX3_changeEnsemble 87 = .ok (.ifCond .eq 25, 3) := by decide +kernel
theorem dX3_changeEnsemble_90 : decode cX3_changeEnsemble 90 = .ok (.aload_n 0, 1) := by decide +kernel
theorem dX3_changeEnsemble_91 : decode cX3_changeEnsemble 91 = .ok (.iload_n 3, 1) := by decide +kernel
theorem dX3_changeEnsemble_92 : decode cX3_changeEnsemble 92 = .ok (.aload_n 1, 1) := by decide +kernel
theorem dX3_changeEnsemble_93 : decode cX3_changeEnsemble 93 = .ok (.getfield 117, 3) := by decide +kernel
theorem dX3_changeEnsemble_96 : decode cX3_changeEnsemble 96 = .ok (.iload 7, 2) := by decide +kernel
theorem dX3_changeEnsemble_98 : decode cX3_changeEnsemble 98 = .ok (.aload_n 1, 1) := by decide +kernel
theorem dX3_changeEnsemble_99 : decode cX3_changeEnsemble 99 = .ok (.iload 7, 2) := by decide +kernel
theorem dX3_changeEnsemble_101 : decode cX3_changeEnsemble 101 = .ok (.invokevirtual 159, 3) := by decide +kernel
theorem dX3_changeEnsemble_104 : decode cX3_changeEnsemble 104 = .ok (.iload 4, 2) := by decide +kernel
theorem dX3_changeEnsemble_106 : decode cX3_changeEnsemble 106 = .ok (.invokestatic 120, 3) := by decide +kernel
theorem dX3_changeEnsemble_109 : decode cX3_changeEnsemble 109 = .ok (.invokevirtual 134, 3) := by decide +kernel
theorem dX3_changeEnsemble_112 : decode cX3_changeEnsemble 112 = .ok (.iinc 7 1, 3) := by decide +kernel
theorem dX3_changeEnsemble_115 : decode cX3_changeEnsemble 115 = .ok (.goto (-51), 3) := by decide +kernel
theorem dX3_changeEnsemble_118 : decode cX3_changeEnsemble 118 = .ok (.return_, 1) := by decide +kernel
theorem dX3_recoverLedger_0 : decode cX3_recoverLedger 0 = .ok (.aload_n 1, 1) := by decide +kernel
theorem dX3_recoverLedger_1 : decode cX3_recoverLedger 1 = .ok (.iconst 1, 1) := by decide +kernel
theorem dX3_recoverLedger_2 : decode cX3_recoverLedger 2 = .ok (.putfield 162, 3) := by decide +kernel
theorem dX3_recoverLedger_5 : decode cX3_recoverLedger 5 = .ok (.aload_n 0, 1) := by decide +kernel
theorem dX3_recoverLedger_6 : decode cX3_recoverLedger 6 = .ok (.aload_n 1, 1) := by decide +kernel
theorem dX3_recoverLedger_7 : decode cX3_recoverLedger 7 = .ok (.invokevirtual 165, 3) := by decide +kernel
theorem dX3_recoverLedger_10 : decode cX3_recoverLedger 10 = .ok (.aload_n 0, 1) := by decide +kernel
theorem dX3_recoverLedger_11 : decode cX3_recoverLedger 11 = .ok (.aload_n 1, 1) := by decide +kernel
theorem dX3_recoverLedger_12 : decode cX3_recoverLedger 12 = .ok (.invokevirtual 168, 3) := by decide +kernel
theorem dX3_recoverLedger_15 : decode cX3_recoverLedger 15 = .ok (.ifCond .eq 6, 3) := by decide +kernel
theorem dX3_recoverLedger_18 : decode cX3_recoverLedger 18 = .ok (.bipush (-2), 2) := by decide +kernel
theorem dX3_recoverLedger_20 : decode cX3_recoverLedger 20 = .ok (.ireturn, 1) := by decide +kernel
theorem dX3_recoverLedger_21 : decode cX3_recoverLedger 21 = .ok (.aload_n 0, 1) := by decide +kernel
theorem dX3_recoverLedger_22 : decode cX3_recoverLedger 22 = .ok (.aload_n 1, 1) := by decide +kernel
theorem dX3_recoverLedger_23 : decode cX3_recoverLedger 23 = .ok (.invokevirtual 172, 3) := by decide +kernel
theorem dX3_recoverLedger_26 : decode cX3_recoverLedger 26 = .ok (.iconst 1, 1) := by decide +kernel
theorem dX3_recoverLedger_27 : decode cX3_recoverLedger 27 = .ok (.iadd, 1) := by decide +kernel
theorem dX3_recoverLedger_28 : decode cX3_recoverLedger 28 = .ok (.istore_n 2, 1) := by decide +kernel
theorem dX3_recoverLedger_29 : decode cX3_recoverLedger 29 = .ok (.iload_n 2, 1) := by decide +kernel
theorem dX3_recoverLedger_30 : decode cX3_recoverLedger 30 = .ok (.bipush 40, 2) := by decide +kernel
theorem dX3_recoverLedger_32 : decode cX3_recoverLedger 32 = .ok (.if_icmp .ge 18, 3) := by decide +kernel
theorem dX3_recoverLedger_35 : decode cX3_recoverLedger 35 = .ok (.aload_n 0, 1) := by decide +kernel
theorem dX3_recoverLedger_36 : decode cX3_recoverLedger 36 = .ok (.aload_n 1, 1) := by decide +kernel
theorem dX3_recoverLedger_37 : decode cX3_recoverLedger 37 = .ok (.iload_n 2, 1) := by decide +kernel
theorem dX3_recoverLedger_38 : decode cX3_recoverLedger 38 = .ok (.invokevirtual 176, 3) := by decide +kernel
theorem dX3_recoverLedger_41 : decode cX3_recoverLedger 41 = .ok (.ifCond .eq 9, 3) := by decide +kernel
theorem dX3_recoverLedger_44 : decode cX3_recoverLedger 44 = .ok (.iinc 2 1, 3) := by decide +kernel
theorem dX3_recoverLedger_47 : decode cX3_recoverLedger 47 = .ok (.goto (-18), 3) := by decide +kernel
theorem dX3_recoverLedger_50 : decode cX3_recoverLedger 50 = .ok (.aload_n 1, 1) := by decide +kernel
theorem dX3_recoverLedger_51 : decode cX3_recoverLedger 51 = .ok (.iconst 2, 1) := by decide +kernel
theorem dX3_recoverLedger_52 : decode cX3_recoverLedger 52 = .ok (.putfield 162, 3) := by decide +kernel
theorem dX3_recoverLedger_55 : decode cX3_recoverLedger 55 = .ok (.aload_n 1, 1) := by decide +kernel
theorem dX3_recoverLedger_56 : decode cX3_recoverLedger 56 = .ok (.iload_n 2, 1) := by decide +kernel
theorem dX3_recoverLedger_57 : decode cX3_recoverLedger 57 = .ok (.iconst 1, 1) := by decide +kernel
theorem dX3_recoverLedger_58 : decode cX3_recoverLedger 58 = .ok (.isub, 1) := by decide +kernel
theorem dX3_recoverLedger_59 : decode cX3_recoverLedger 59 = .ok (.putfield 180, 3) := by decide +kernel
theorem dX3_recoverLedger_62 : decode cX3_recoverLedger 62 = .ok (.aload_n 1, 1) := by decide +kernel
theorem dX3_recoverLedger_63 : decode cX3_recoverLedger 63 = .ok (.getfield 180, 3) := by decide +kernel
theorem dX3_recoverLedger_66 : decode cX3_recoverLedger 66 = .ok (.ireturn, 1) := by decide +kernel
theorem dX3_fenceLastEnsemble_0 : decode cX3_fenceLastEnsemble 0 = .ok (.iconst 0, 1) := by decide +kernel
theorem dX3_fenceLastEnsemble_1 : decode cX3_fenceLastEnsemble 1 = .ok (.istore_n 2, 1) := by decide +kernel
theorem dX3_fenceLastEnsemble_2 : decode cX3_fenceLastEnsemble 2 = .ok (.iload_n 2, 1) := by decide +kernel
theorem dX3_fenceLastEnsemble_3 : decode cX3_fenceLastEnsemble 3 = .ok (.aload_n 1, 1) := by decide +kernel
theorem dX3_fenceLastEnsemble_4 : decode cX3_fenceLastEnsemble 4 = .ok (.getfield 183, 3) := by decide +kernel
theorem dX3_fenceLastEnsemble_7 : decode cX3_fenceLastEnsemble 7 = .ok (.if_icmp .ge 42, 3) := by decide +kernel
theorem dX3_fenceLastEnsemble_10 : decode cX3_fenceLastEnsemble 10 = .ok (.aload_n 0, 1) := by decide +kernel
theorem dX3_fenceLastEnsemble_11 : decode cX3_fenceLastEnsemble 11 = .ok (.aload_n 1, 1) := by decide +kernel
theorem dX3_fenceLastEnsemble_12 : decode cX3_fenceLastEnsemble 12 = .ok (.aload_n 1, 1) := by decide +kernel
theorem dX3_fenceLastEnsemble_13 : decode cX3_fenceLastEnsemble 13 = .ok (.invokevirtual 137, 3) := by decide +kernel
theorem dX3_fenceLastEnsemble_16 : decode cX3_fenceLastEnsemble 16 = .ok (.iload_n 2, 1) := by decide +kernel
theorem dX3_fenceLastEnsemble_17 : decode cX3_fenceLastEnsemble 17 = .ok (.invokevirtual 140, 3) := by decide +kernel
theorem dX3_fenceLastEnsemble_20 : decode cX3_fenceLastEnsemble 20 = .ok (.invokevirtual 37, 3) := by decide +kernel
theorem dX3_fenceLastEnsemble_23 : decode cX3_fenceLastEnsemble 23 = .ok (.astore_n 3, 1) := by decide +kernel
theorem dX3_fenceLastEnsemble_24 : decode cX3_fenceLastEnsemble 24 = .ok (.aload_n 3, 1) := by decide +kernel
theorem dX3_fenceLastEnsemble_25 : decode cX3_fenceLastEnsemble 25 = .ok (.ifnull 18, 3) := by decide +kernel
theorem dX3_fenceLastEnsemble_28 : decode cX3_fenceLastEnsemble 28 = .ok (.aload_n 3, 1) := by decide +kernel
theorem dX3_fenceLastEnsemble_29 : decode cX3_fenceLastEnsemble 29 = .ok (.getfield 68, 3) := by decide +kernel
theorem dX3_fenceLastEnsemble_32 : decode cX3_fenceLastEnsemble 32 = .ok (.ifCond .eq 11, 3) := by decide +kernel
theorem dX3_fenceLastEnsemble_35 : decode cX3_fenceLastEnsemble 35 = .ok (.aload_n 3, 1) := by decide +kernel
theorem dX3_fenceLastEnsemble_36 : decode cX3_fenceLastEnsemble 36 = .ok (.aload_n 1, 1) := by decide +kernel
theorem dX3_fenceLastEnsemble_37 : decode cX3_fenceLastEnsemble 37 = .ok (.getfield 117, 3) := by decide +kernel
theorem dX3_fenceLastEnsemble_40 : decode cX3_fenceLastEnsemble 40 = .ok (.invokevirtual 186, 3) := by decide +kernel
theorem dX3_fenceLastEnsemble_43 : decode cX3_fenceLastEnsemble 43 = .ok (.iinc 2 1, 3) := by decide +kernel
theorem dX3_fenceLastEnsemble_46 : decode cX3_fenceLastEnsemble 46 = .ok (.goto (-44), 3) := by decide +kernel
theorem dX3_fenceLastEnsemble_49 : decode cX3_fenceLastEnsemble 49 = .ok (.return_, 1) := by decide +kernel
theorem dX3_someQuorumIsDown_0 : decode cX3_someQuorumIsDown 0 = .ok (.aload_n 0, 1) := by decide +kernel
theorem dX3_someQuorumIsDown_1 : decode cX3_someQuorumIsDown 1 = .ok (.invokevirtual 189, 3) := by decide +kernel
theorem dX3_someQuorumIsDown_4 : decode cX3_someQuorumIsDown 4 = .ok (.iconst (-1), 1) := by decide +kernel
theorem dX3_someQuorumIsDown_5 : decode cX3_someQuorumIsDown 5 = .ok (.ixor, 1) := by decide +kernel
theorem dX3_someQuorumIsDown_6 : decode cX3_someQuorumIsDown 6 = .ok (.istore_n 2, 1) := by decide +kernel
theorem dX3_someQuorumIsDown_7 : decode cX3_someQuorumIsDown 7 = .ok (.iconst 0, 1) := by decide +kernel
theorem dX3_someQuorumIsDown_8 : decode cX3_someQuorumIsDown 8 = .ok (.istore_n 3, 1) := by decide +kernel
theorem dX3_someQuorumIsDown_9 : decode cX3_someQuorumIsDown 9 = .ok (.iload_n 3, 1) := by decide +kernel
theorem dX3_someQuorumIsDown_10 : decode cX3_someQuorumIsDown 10 = .ok (.aload_n 1, 1) := by decide +kernel
theorem dX3_someQuorumIsDown_11 : decode cX3_someQuorumIsDown 11 = .ok (.getfield 183, 3) := by decide +kernel
theorem dX3_someQuorumIsDown_14 : decode cX3_someQuorumIsDown 14 = .ok (.if_icmp .ge 36, 3) := by decide +kernel
theorem dX3_someQuorumIsDown_17 : decode cX3_someQuorumIsDown 17 = .ok (.aload_n 1, 1) := by decide +kernel
theorem dX3_someQuorumIsDown_18 : decode cX3_someQuorumIsDown 18 = .ok (.aload_n 1, 1) := by decide +kernel
theorem dX3_someQuorumIsDown_19 : decode cX3_someQuorumIsDown 19 = .ok (.invokevirtual 137, 3) := by decide +kernel
theorem dX3_someQuorumIsDown_22 : decode cX3_someQuorumIsDown 22 = .ok (.iload_n 3, 1) := by decide +kernel
theorem dX3_someQuorumIsDown_23 : decode cX3_someQuorumIsDown 23 = .ok (.invokevirtual 156, 3) := by decide +kernel
theorem dX3_someQuorumIsDown_26 : decode cX3_someQuorumIsDown 26 = .ok (.istore 4, 2) := by decide +kernel
theorem dX3_someQuorumIsDown_28 : decode cX3_someQuorumIsDown 28 = .ok (.iload 4, 2) := by decide +kernel
theorem dX3_someQuorumIsDown_30 : decode cX3_someQuorumIsDown 30 = .ok (.iload_n 2, 1) := by decide +kernel
theorem dX3_someQuorumIsDown_31 : decode cX3_someQuorumIsDown 31 = .ok (.iand, 1) := by decide +kernel
theorem dX3_someQuorumIsDown_32 : decode cX3_someQuorumIsDown 32 = .ok (.invokestatic 192, 3) := by decide +kernel
theorem dX3_someQuorumIsDown_35 : decode cX3_someQuorumIsDown 35 = .ok (.aload_n 1, 1) := by decide +kernel
theorem dX3_someQuorumIsDown_36 : decode cX3_someQuorumIsDown 36 = .ok (.getfield 197, 3) := by decide +kernel
theorem dX3_someQuorumIsDown_39 : decode cX3_someQuorumIsDown 39 = .ok (.if_icmp .lt 5, 3) := by decide +kernel
theorem dX3_someQuorumIsDown_42 : decode cX3_someQuorumIsDown 42 = .ok (.iconst 1, 1) := by decide +kernel
theorem dX3_someQuorumIsDown_43 : decode cX3_someQuorumIsDown 43 = .ok (.ireturn, 1) := by decide +kernel
theorem dX3_someQuorumIsDown_44 : decode cX3_someQuorumIsDown 44 = .ok (.iinc 3 1, 3) := by decide +kernel
theorem dX3_someQuorumIsDown_47 : decode cX3_someQuorumIsDown 47 = .ok (.goto (-38), 3) := by decide +kernel
theorem dX3_someQuorumIsDown_50 : decode cX3_someQuorumIsDown 50 = .ok (.iconst 0, 1) := by decide +kernel
theorem dX3_someQuorumIsDown_51 : decode cX3_someQuorumIsDown 51 = .ok (.ireturn, 1) := by decide +kernel
theorem dX3_lastKnownConfirmed_0 : decode cX3_lastKnownConfirmed 0 = .ok (.aload_n 1, 1) := by decide +kernel
theorem dX3_lastKnownConfirmed_1 : decode cX3_lastKnownConfirmed 1 = .ok (.aload_n 1, 1) := by decide +kernel
theorem dX3_lastKnownConfirmed_2 : decode cX3_lastKnownConfirmed 2 = .ok (.invokevirtual 137, 3) := by decide +kernel
theorem dX3_lastKnownConfirmed_5 : decode cX3_lastKnownConfirmed 5 = .ok (.invokevirtual 144, 3) := by decide +kernel
theorem dX3_lastKnownConfirmed_8 : decode cX3_lastKnownConfirmed 8 = .ok (.iconst 1, 1) := by decide +kernel
theorem dX3_lastKnownConfirmed_9 : decode cX3_lastKnownConfirmed 9 = .ok (.isub, 1) := by decide +kernel
theorem dX3_lastKnownConfirmed_10 : decode cX3_lastKnownConfirmed 10 = .ok (.istore_n 2, 1) := by decide +kernel
theorem dX3_lastKnownConfirmed_11 : decode cX3_lastKnownConfirmed 11 = .ok (.iconst 0, 1) := by decide +kernel
theorem dX3_lastKnownConfirmed_12 : decode cX3_lastKnownConfirmed 12 = .ok (.istore_n 3, 1) := by decide +kernel
theorem dX3_lastKnownConfirmed_13 : decode cX3_lastKnownConfirmed 13 = .ok (.iload_n 3, 1) := by decide +kernel
theorem dX3_lastKnownConfirmed_14 : decode cX3_lastKnownConfirmed 14 = .ok (.aload_n 1, 1) := by decide +kernel
theorem dX3_lastKnownConfirmed_15 : decode cX3_lastKnownConfirmed 15 = .ok (.getfield 183, 3) := by decide +kernel
theorem dX3_lastKnownConfirmed_18 : decode cX3_lastKnownConfirmed 18 = .ok (.if_icmp .ge 51, 3) := by decide +kernel
theorem dX3_lastKnownConfirmed_21 : decode cX3_lastKnownConfirmed 21 = .ok (.aload_n 0, 1) := by decide +kernel
theorem dX3_lastKnownConfirmed_22 : decode cX3_lastKnownConfirmed 22 = .ok (.aload_n 1, 1) := by decide +kernel
theorem dX3_lastKnownConfirmed_23 : decode cX3_lastKnownConfirmed 23 = .ok (.aload_n 1, 1) := by decide +kernel
theorem dX3_lastKnownConfirmed_24 : decode cX3_lastKnownConfirmed 24 = .ok (.invokevirtual 137, 3) := by decide +kernel
theorem dX3_lastKnownConfirmed_27 : decode cX3_lastKnownConfirmed 27 = .ok (.iload_n 3, 1) := by decide +kernel
theorem dX3_lastKnownConfirmed_28 : decode cX3_lastKnownConfirmed 28 = .ok (.invokevirtual 140, 3) := by decide +kernel
theorem dX3_lastKnownConfirmed_31 : decode cX3_lastKnownConfirmed 31 = .ok (.invokevirtual 37, 3) := by decide +kernel
theorem dX3_lastKnownConfirmed_34 : decode cX3_lastKnownConfirmed 34 = .ok (.astore 4, 2) := by decide +kernel
theorem dX3_lastKnownConfirmed_36 : decode cX3_lastKnownConfirmed 36 = .ok (.aload 4, 2) := by decide +kernel
theorem dX3_lastKnownConfirmed_38 : decode cX3_lastKnownConfirmed 38 = .ok (.ifnull 25, 3) := by decide +kernel
theorem dX3_lastKnownConfirmed_41 : decode cX3_lastKnownConfirmed 41 = .ok (.aload 4, 2) := by decide +kernel
theorem dX3_lastKnownConfirmed_43 : decode cX3_lastKnownConfirmed 43 = .ok (.getfield 68, 3) := by decide +kernel
theorem dX3_lastKnownConfirmed_46 : decode cX3_lastKnownConfirmed 46 = .ok (.ifCond .eq 17, 3) := by decide +kernel
theorem dX3_lastKnownConfirmed_49 : decode cX3_lastKnownConfirmed 49 = .ok (.iload_n 2, 1) := by decide +kernel
theorem dX3_lastKnownConfirmed_50 : decode cX3_lastKnownConfirmed 50 = .ok (.aload 4, 2) := by decide +kernel
theorem dX3_lastKnownConfirmed_52 : decode cX3_lastKnownConfirmed 52 = .ok (.aload_n 1, 1) := by decide +kernel
theorem dX3_lastKnownConfirmed_53 : decode cX3_lastKnownConfirmed 53 = .ok (.getfield 117, 3) := by decide +kernel
theorem dX3_lastKnownConfirmed_56 : decode cX3_lastKnownConfirmed 56 = .ok (.invokevirtual 200, 3) := by decide +kernel
theorem dX3_lastKnownConfirmed_59 : decode cX3_lastKnownConfirmed 59 = .ok (.invokestatic 203, 3) := by decide +kernel
theorem dX3_lastKnownConfirmed_62 : decode cX3_lastKnownConfirmed 62 = .ok (.istore_n 2, 1) := by decide +kernel
theorem dX3_lastKnownConfirmed_63 : decode cX3_lastKnownConfirmed 63 = .ok (.iinc 3 1, 3) := by decide +kernel
theorem dX3_lastKnownConfirmed_66 : decode cX3_lastKnownConfirmed 66 = .ok (.goto (-53), 3) := by decide +kernel
theorem dX3_lastKnownConfirmed_69 : decode cX3_lastKnownConfirmed 69 = .ok (.iload_n 2, 1) := by decide +kernel
theorem dX3_lastKnownConfirmed_70 : decode cX3_lastKnownConfirmed 70 = .ok (.ireturn, 1) := by decide +kernel
theorem dX3_recoverEntry_0 : decode cX3_recoverEntry 0 = .ok (.aload_n 0, 1) := by decide +kernel
theorem dX3_recoverEntry_1 : decode cX3_recoverEntry 1 = .ok (.aload_n 1, 1) := by decide +kernel
theorem dX3_recoverEntry_2 : decode cX3_recoverEntry 2 = .ok (.iload_n 2, 1) := by decide +kernel
theorem dX3_recoverEntry_3 : decode cX3_recoverEntry 3 = .ok (.invokevirtual 208, 3) := by decide +kernel
theorem dX3_recoverEntry_6 : decode cX3_recoverEntry 6 = .ok (.istore_n 3, 1) := by decide +kernel
theorem dX3_recoverEntry_7 : decode cX3_recoverEntry 7 = .ok (.iload_n 3, 1) := by decide +kernel
theorem dX3_recoverEntry_8 : decode cX3_recoverEntry 8 = .ok (.iconst (-1), 1) := by decide +kernel
theorem dX3_recoverEntry_9 : decode cX3_recoverEntry 9 = .ok (.if_icmp .ne 5, 3) := by decide +kernel
theorem dX3_recoverEntry_12 : decode cX3_recoverEntry 12 = .ok (.iconst 0, 1) := by decide +kernel
theorem dX3_recoverEntry_13 : decode cX3_recoverEntry 13 = .ok (.ireturn, 1) := by decide +kernel
theorem dX3_recoverEntry_14 : decode cX3_recoverEntry 14 = .ok (.aload_n 0, 1) := by decide +kernel
theorem dX3_recoverEntry_15 : decode cX3_recoverEntry 15 = .ok (.aload_n 1, 1) := by decide +kernel
theorem dX3_recoverEntry_16 : decode cX3_recoverEntry 16 = .ok (.iload_n 2, 1) := by decide +kernel
theorem dX3_recoverEntry_17 : decode cX3_recoverEntry 17 = .ok (.aload_n 1, 1) := by decide +kernel
theorem dX3_recoverEntry_18 : decode cX3_recoverEntry 18 = .ok (.getfield 117, 3) := by decide +kernel
theorem dX3_recoverEntry_21 : decode cX3_recoverEntry 21 = .ok (.iload_n 2, 1) := by decide +kernel
theorem dX3_recoverEntry_22 : decode cX3_recoverEntry 22 = .ok (.iload_n 3, 1) := by decide +kernel
theorem dX3_recoverEntry_23 : decode cX3_recoverEntry 23 = .ok (.invokestatic 212, 3) := by decide +kernel
theorem dX3_recoverEntry_26 : decode cX3_recoverEntry 26 = .ok (.iload_n 2, 1) := by decide +kernel
theorem dX3_recoverEntry_27 : decode cX3_recoverEntry 27 = .ok (.iconst 1, 1) := by decide +kernel
theorem dX3_recoverEntry_28 : decode cX3_recoverEntry 28 = .ok (.isub, 1) := by decide +kernel
theorem dX3_recoverEntry_29 : decode cX3_recoverEntry 29 = .ok (.invokestatic 120, 3) := by decide +kernel
theorem dX3_recoverEntry_32 : decode cX3_recoverEntry 32 = .ok (.invokevirtual 213, 3) := by decide +kernel
theorem dX3_recoverEntry_35 : decode cX3_recoverEntry 35 = .ok (.pop, 1) := by decide +kernel
theorem dX3_recoverEntry_36 : decode cX3_recoverEntry 36 = .ok (.iconst 1, 1) := by decide +kernel
theorem dX3_recoverEntry_37 : decode cX3_recoverEntry 37 = .ok (.ireturn, 1) := by decide +kernel
theorem dX3_firstCopy_0 : decode cX3_firstCopy 0 = .ok (.aload_n 1, 1) := by decide +kernel
theorem dX3_firstCopy_1 : decode cX3_firstCopy 1 = .ok (.iload_n 2, 1) := by decide +kernel
theorem dX3_firstCopy_2 : decode cX3_firstCopy 2 = .ok (.invokevirtual 124, 3) := by decide +kernel
theorem dX3_firstCopy_5 : decode cX3_firstCopy 5 = .ok (.istore_n 3, 1) := by decide +kernel
theorem dX3_firstCopy_6 : decode cX3_firstCopy 6 = .ok (.iconst 0, 1) := by decide +kernel
theorem dX3_firstCopy_7 : decode cX3_firstCopy 7 = .ok (.istore 4, 2) := by decide +kernel
theorem dX3_firstCopy_9 : decode cX3_firstCopy 9 = .ok (.iload 4, 2) := by decide +kernel
theorem dX3_firstCopy_11 : decode cX3_firstCopy 11 = .ok (.aload_n 1, 1) := by decide +kernel
theorem dX3_firstCopy_12 : decode cX3_firstCopy 12 = .ok (.getfield 127, 3) := by decide +kernel
theorem dX3_firstCopy_15 : decode cX3_firstCopy 15 = .ok (.if_icmp .ge 60, 3) := by decide +kernel
theorem dX3_firstCopy_18 : decode cX3_firstCopy 18 = .ok (.aload_n 0, 1) := by decide +kernel
theorem dX3_firstCopy_19 : decode cX3_firstCopy 19 = .ok (.aload_n 1, 1) := by decide +kernel
theorem dX3_firstCopy_20 : decode cX3_firstCopy 20 = .ok (.iload_n 3, 1) := by decide +kernel
theorem dX3_firstCopy_21 : decode cX3_firstCopy 21 = .ok (.iload_n 2, 1) := by decide +kernel
theorem dX3_firstCopy_22 : decode cX3_firstCopy 22 = .ok (.iload 4, 2) := by decide +kernel
theorem dX3_firstCopy_24 : decode cX3_firstCopy 24 = .ok (.invokevirtual 130, 3) := by decide +kernel
theorem dX3_firstCopy_27 : decode cX3_firstCopy 27 = .ok (.invokevirtual 37, 3) := by decide +kernel
theorem dX3_firstCopy_30 : decode cX3_firstCopy 30 = .ok (.astore 5, 2) := by decide +kernel
theorem dX3_firstCopy_32 : decode cX3_firstCopy 32 = .ok (.aload 5, 2) := by decide +kernel
theorem dX3_firstCopy_34 : decode cX3_firstCopy 34 = .ok (.ifnull 35, 3) := by decide +kernel
theorem dX3_firstCopy_37 : decode cX3_firstCopy 37 = .ok (.aload 5, 2) := by decide +kernel
theorem dX3_firstCopy_39 : decode cX3_firstCopy 39 = .ok (.getfield 68, 3) := by decide +kernel
theorem dX3_firstCopy_42 : decode cX3_firstCopy 42 = .ok (.ifCond .eq 27, 3) := by decide +kernel
theorem dX3_firstCopy_45 : decode cX3_firstCopy 45 = .ok (.aload 5, 2) := by decide +kernel
theorem dX3_firstCopy_47 : decode cX3_firstCopy 47 = .ok (.aload_n 1, 1) := by decide +kernel
theorem dX3_firstCopy_48 : decode cX3_firstCopy 48 = .ok (.getfield 117, 3) := by decide +kernel
theorem dX3_firstCopy_51 : decode cX3_firstCopy 51 = .ok (.iload_n 2, 1) := by decide +kernel
theorem dX3_firstCopy_52 : decode cX3_firstCopy 52 = .ok (.invokevirtual 217, 3) := by decide +kernel
theorem dX3_firstCopy_55 : decode cX3_firstCopy 55 = .ok (.ifCond .eq 14, 3) := by decide +kernel
theorem dX3_firstCopy_58 : decode cX3_firstCopy 58 = .ok (.aload 5, 2) := by decide +kernel
theorem dX3_firstCopy_60 : decode cX3_firstCopy 60 = .ok (.aload_n 1, 1) := by decide +kernel
theorem dX3_firstCopy_61 : decode cX3_firstCopy 61 = .ok (.getfield 117, 3) := by decide +kernel
theorem dX3_firstCopy_64 : decode cX3_firstCopy 64 = .ok (.iload_n 2, 1) := by decide +kernel
theorem dX3_firstCopy_65 : decode cX3_firstCopy 65 = .ok (.invokevirtual 220, 3) := by decide +kernel
theorem dX3_firstCopy_68 : decode cX3_firstCopy 68 = .ok (.ireturn, 1) := by decide +kernel
theorem dX3_firstCopy_69 : decode cX3_firstCopy 69 = .ok (.iinc 4 1, 3) := by decide +kernel
theorem dX3_firstCopy_72 : decode cX3_firstCopy 72 = .ok (.goto (-63), 3) := by decide +kernel
theorem dX3_firstCopy_75 : decode cX3_firstCopy 75 = .ok (.iconst (-1), 1) := by decide +kernel
theorem dX3_firstCopy_76 : decode cX3_firstCopy 76 = .ok (.ireturn, 1) := by decide +kernel
theorem dX3_spread_0 : decode cX3_spread 0 = .ok (.iconst 0, 1) := by decide +kernel
theorem dX3_spread_1 : decode cX3_spread 1 = .ok (.istore 4, 2) := by decide +kernel
theorem dX3_spread_3 : decode cX3_spread 3 = .ok (.aload_n 1, 1) := by decide +kernel
theorem dX3_spread_4 : decode cX3_spread 4 = .ok (.iload_n 2, 1) := by decide +kernel
theorem dX3_spread_5 : decode cX3_spread 5 = .ok (.invokevirtual 124, 3) := by decide +kernel
theorem dX3_spread_8 : decode cX3_spread 8 = .ok (.istore 5, 2) := by decide +kernel
theorem dX3_spread_10 : decode cX3_spread 10 = .ok (.iconst 0, 1) := by decide +kernel
theorem dX3_spread_11 : decode cX3_spread 11 = .ok (.istore 6, 2) := by decide +kernel
theorem dX3_spread_13 : decode cX3_spread 13 = .ok (.iload 6, 2) := by decide +kernel
theorem dX3_spread_15 : decode cX3_spread 15 = .ok (.aload_n 1, 1) := by decide +kernel
theorem dX3_spread_16 : decode cX3_spread 16 = .ok (.getfield 127, 3) := by decide +kernel
theorem dX3_spread_19 : decode cX3_spread 19 = .ok (.if_icmp .ge 59, 3) := by decide +kernel
theorem dX3_spread_22 : decode cX3_spread 22 = .ok (.aload_n 0, 1) := by decide +kernel
theorem dX3_spread_23 : decode cX3_spread 23 = .ok (.aload_n 1, 1) := by decide +kernel
theorem dX3_spread_24 : decode cX3_spread 24 = .ok (.iload 5, 2) := by decide +kernel
theorem dX3_spread_26 : decode cX3_spread 26 = .ok (.iload_n 2, 1) := by decide +kernel
theorem dX3_spread_27 : decode cX3_spread 27 = .ok (.iload 6, 2) := by decide +kernel
theorem dX3_spread_29 : decode cX3_spread 29 = .ok (.invokevirtual 130, 3) := by decide +kernel
theorem dX3_spread_32 : decode cX3_spread 32 = .ok (.invokevirtual 37, 3) := by decide +kernel
theorem dX3_spread_35 : decode cX3_spread 35 = .ok (.astore 7, 2) := by decide +kernel
theorem dX3_spread_37 : decode cX3_spread 37 = .ok (.aload 7, 2) := by decide +kernel
theorem dX3_spread_39 : decode cX3_spread 39 = .ok (.ifnull 33, 3) := by decide +kernel
theorem dX3_spread_42 : decode cX3_spread 42 = .ok (.aload 7, 2) := by decide +kernel
theorem dX3_spread_44 : decode cX3_spread 44 = .ok (.getfield 68, 3) := by decide +kernel
theorem dX3_spread_47 : decode cX3_spread 47 = .ok (.ifCond .eq 25, 3) := by decide +kernel
theorem dX3_spread_50 : decode cX3_spread 50 = .ok (.aload 7, 2) := by decide +kernel
theorem dX3_spread_52 : decode cX3_spread 52 = .ok (.aload_n 1, 1) := by decide +kernel
theorem dX3_spread_53 : decode cX3_spread 53 = .ok (.getfield 117, 3) := by decide +kernel
theorem dX3_spread_56 : decode cX3_spread 56 = .ok (.iload_n 2, 1) := by decide +kernel
theorem dX3_spread_57 : decode cX3_spread 57 = .ok (.invokevirtual 217, 3) := by decide +kernel
theorem dX3_spread_60 : decode cX3_spread 60 = .ok (.ifCond .ne 12, 3) := by decide +kernel
theorem dX3_spread_63 : decode cX3_spread 63 = .ok (.aload 7, 2) := by decide +kernel
theorem dX3_spread_65 : decode cX3_spread 65 = .ok (.iload_n 3, 1) := by decide +kernel
theorem dX3_spread_66 : decode cX3_spread 66 = .ok (.invokevirtual 98, 3) := by decide +kernel
theorem dX3_spread_69 : decode cX3_spread 69 = .ok (.iinc 4 1, 3) := by decide +kernel
theorem dX3_spread_72 : decode cX3_spread 72 = .ok (.iinc 6 1, 3) := by decide +kernel
theorem dX3_spread_75 : decode cX3_spread 75 = .ok (.goto (-62), 3) := by decide +kernel
theorem dX3_spread_78 : decode cX3_spread 78 = .ok (.iload 4, 2) := by decide +kernel
theorem dX3_spread_80 : decode cX3_spread 80 = .ok (.ireturn, 1) := by decide +kernel
theorem dX3_replaceDownNodes_0 : decode cX3_replaceDownNodes 0 = .ok (.iconst 0, 1) := by decide +kernel
theorem dX3_replaceDownNodes_1 : decode cX3_replaceDownNodes 1 = .ok (.istore_n 2, 1) := by decide +kernel
theorem dX3_replaceDownNodes_2 : decode cX3_replaceDownNodes 2 = .ok (.iload_n 2, 1) := by decide +kernel
theorem dX3_replaceDownNodes_3 : decode cX3_replaceDownNodes 3 = .ok (.aload_n 1, 1) := by decide +kernel
theorem dX3_replaceDownNodes_4 : decode cX3_replaceDownNodes 4 = .ok (.getfield 223, 3) := by decide +kernel
theorem dX3_replaceDownNodes_7 : decode cX3_replaceDownNodes 7 = .ok (.if_icmp .ge 67, 3) := by decide +kernel
theorem dX3_replaceDownNodes_10 : decode cX3_replaceDownNodes 10 = .ok (.iconst 0, 1) := by decide +kernel
theorem dX3_replaceDownNodes_11 : decode cX3_replaceDownNodes 11 = .ok (.istore_n 3, 1) := by decide +kernel
theorem dX3_replaceDownNodes_12 : decode cX3_replaceDownNodes 12 = .ok (.iload_n 3, 1) := by decide +kernel
theorem dX3_replaceDownNodes_13 : decode cX3_replaceDownNodes 13 = .ok (.aload_n 1, 1) := by decide +kernel
theorem dX3_replaceDownNodes_14 : decode cX3_replaceDownNodes 14 = .ok (.getfield 183, 3) := by decide +kernel
theorem dX3_replaceDownNodes_17 : decode cX3_replaceDownNodes 17 = .ok (.if_icmp .ge 51, 3) := by decide +kernel
theorem dX3_replaceDownNodes_20 : decode cX3_replaceDownNodes 20 = .ok (.aload_n 0, 1) := by decide +kernel
theorem dX3_replaceDownNodes_21 : decode cX3_replaceDownNodes 21 = .ok (.aload_n 1, 1) := by decide +kernel
theorem dX3_replaceDownNodes_22 : decode cX3_replaceDownNodes 22 = .ok (.iload_n 2, 1) := by decide +kernel
theorem dX3_replaceDownNodes_23 : decode cX3_replaceDownNodes 23 = .ok (.iload_n 3, 1) := by decide +kernel
theorem dX3_replaceDownNodes_24 : decode cX3_replaceDownNodes 24 = .ok (.invokevirtual 140, 3) := by decide +kernel
theorem dX3_replaceDownNodes_27 : decode cX3_replaceDownNodes 27 = .ok (.invokevirtual 72, 3) := by decide +kernel
theorem dX3_replaceDownNodes_30 : decode cX3_replaceDownNodes 30 = .ok (.ifCond .eq 7, 3) := by decide +kernel
theorem dX3_replaceDownNodes_33 : decode cX3_replaceDownNodes 33 = .ok (.iconst (-1), 1) := by decide +kernel
theorem dX3_replaceDownNodes_34 : decode cX3_replaceDownNodes 34 = .ok (.goto 12, 3) := by decide +kernel
theorem dX3_replaceDownNodes_37 : decode cX3_replaceDownNodes 37 = .ok (.aload_n 0, 1) := by decide +kernel
theorem dX3_replaceDownNodes_38 : decode cX3_replaceDownNodes 38 = .ok (.aload_n 1, 1) := by decide +kernel
theorem dX3_replaceDownNodes_39 : decode cX3_replaceDownNodes 39 = .ok (.iload_n 2, 1) := by decide +kernel
theorem dX3_replaceDownNodes_40 : decode cX3_replaceDownNodes 40 = .ok (.invokevirtual 58, 3) := by decide +kernel
theorem dX3_replaceDownNodes_43 : decode cX3_replaceDownNodes 43 = .ok (.invokevirtual 62, 3) := by decide +kernel
theorem dX3_replaceDownNodes_46 : decode cX3_replaceDownNodes 46 = .ok (.istore 4, 2) := by decide +kernel
theorem dX3_replaceDownNodes_48 : decode cX3_replaceDownNodes 48 = .ok (.iload 4, 2) := by decide +kernel
theorem dX3_replaceDownNodes_50 : decode cX3_replaceDownNodes 50 = .ok (.iconst (-1), 1) := by decide +kernel
theorem dX3_replaceDownNodes_51 : decode cX3_replaceDownNodes 51 = .ok (.if_icmp .eq 11, 3) := by decide +kernel
theorem dX3_replaceDownNodes_54 : decode cX3_replaceDownNodes 54 = .ok (.aload_n 1, 1) := by decide +kernel
theorem dX3_replaceDownNodes_55 : decode cX3_replaceDownNodes 55 = .ok (.iload_n 2, 1) := by decide +kernel
theorem dX3_replaceDownNodes_56 : decode cX3_replaceDownNodes 56 = .ok (.iload_n 3, 1) := by decide +kernel
theorem dX3_replaceDownNodes_57 : decode cX3_replaceDownNodes 57 = .ok (.iload 4, 2) := by decide +kernel
theorem dX3_replaceDownNodes_59 : decode cX3_replaceDownNodes 59 = .ok (.invokevirtual 65, 3) := by decide +kernel
theorem dX3_replaceDownNodes_62 : decode cX3_replaceDownNodes 62 = .ok (.iinc 3 1, 3) := by decide +kernel
theorem dX3_replaceDownNodes_65 : decode cX3_replaceDownNodes 65 = .ok (.goto (-53), 3) := by decide +kernel
theorem dX3_replaceDownNodes_68 : decode cX3_replaceDownNodes 68 = .ok (.iinc 2 1, 3) := by decide +kernel
theorem dX3_replaceDownNodes_71 : decode cX3_replaceDownNodes 71 = .ok (.goto (-69), 3) := by decide +kernel
theorem dX3_replaceDownNodes_74 : decode cX3_replaceDownNodes 74 = .ok (.return_, 1) := by decide +kernel
theorem dX3_copyMissingEntries_0 : decode cX3_copyMissingEntries 0 = .ok (.iconst 0, 1) := by decide +kernel
theorem dX3_copyMissingEntries_1 : decode cX3_copyMissingEntries 1 = .ok (.istore_n 2, 1) := by decide +kernel
theorem dX3_copyMissingEntries_2 : decode cX3_copyMissingEntries 2 = .ok (.aload_n 1, 1) := by decide +kernel
theorem dX3_copyMissingEntries_3 : decode cX3_copyMissingEntries 3 = .ok (.invokevirtual 226, 3) := by decide +kernel
theorem dX3_copyMissingEntries_6 : decode cX3_copyMissingEntries 6 = .ok (.bipush 39, 2) := by decide +kernel
theorem dX3_copyMissingEntries_8 : decode cX3_copyMissingEntries 8 = .ok (.invokestatic 229, 3) := by decide +kernel
theorem dX3_copyMissingEntries_11 : decode cX3_copyMissingEntries 11 = .ok (.istore_n 3, 1) := by decide +kernel
theorem dX3_copyMissingEntries_12 : decode cX3_copyMissingEntries 12 = .ok (.iconst 0, 1) := by decide +kernel
theorem dX3_copyMissingEntries_13 : decode cX3_copyMissingEntries 13 = .ok (.istore 4, 2) := by decide +kernel
theorem dX3_copyMissingEntries_15 : decode cX3_copyMissingEntries 15 = .ok (.iload 4, 2) := by decide +kernel
theorem dX3_copyMissingEntries_17 : decode cX3_copyMissingEntries 17 = .ok (.iload_n 3, 1) := by decide +kernel
theorem dX3_copyMissingEntries_18 : decode cX3_copyMissingEntries 18 = .ok (.if_icmp .gt 36, 3) := by decide +kernel
theorem dX3_copyMissingEntries_21 : decode cX3_copyMissingEntries 21 = .ok (.aload_n 0, 1) := by decide +kernel
theorem dX3_copyMissingEntries_22 : decode cX3_copyMissingEntries 22 = .ok (.aload_n 1, 1) := by decide +kernel
theorem dX3_copyMissingEntries_23 : decode cX3_copyMissingEntries 23 = .ok (.iload 4, 2) := by decide +kernel
theorem dX3_copyMissingEntries_25 : decode cX3_copyMissingEntries 25 = .ok (.invokevirtual 208, 3) := by decide +kernel
theorem dX3_copyMissingEntries_28 : decode cX3_copyMissingEntries 28 = .ok (.istore 5, 2) := by decide +kernel
theorem dX3_copyMissingEntries_30 : decode cX3_copyMissingEntries 30 = .ok (.iload 5, 2) := by decide +kernel
theorem dX3_copyMissingEntries_32 : decode cX3_copyMissingEntries 32 = .ok (.iconst (-1), 1) := by decide +kernel
theorem dX3_copyMissingEntries_33 : decode cX3_copyMissingEntries 33 = .ok (.if_icmp .eq 15, 3) := by decide +kernel
theorem dX3_copyMissingEntries_36 : decode cX3_copyMissingEntries 36 = .ok (.iload_n 2, 1) := by decide +kernel
theorem dX3_copyMissingEntries_37 : decode cX3_copyMissingEntries 37 = .ok (.aload_n 0, 1) := by decide +kernel
theorem dX3_copyMissingEntries_38 : decode cX3_copyMissingEntries 38 = .ok (.aload_n 1, 1) := by decide +kernel
theorem dX3_copyMissingEntries_39 : decode cX3_copyMissingEntries 39 = .ok (.iload 4, 2) := by decide +kernel
theorem dX3_copyMissingEntries_41 : decode cX3_copyMissingEntries 41 = .ok (.iload 5, 2) := by decide +kernel
theorem dX3_copyMissingEntries_43 : decode cX3_copyMissingEntries 43 = .ok (.invokevirtual 213, 3) := by decide +kernel
theorem dX3_copyMissingEntries_46 : decode cX3_copyMissingEntries 46 = .ok (.iadd, 1) := by decide +kernel
theorem dX3_copyMissingEntries_47 : decode cX3_copyMissingEntries 47 = .ok (.istore_n 2, 1) := by decide +kernel
theorem dX3_copyMissingEntries_48 : decode cX3_copyMissingEntries 48 = .ok (.iinc 4 1, 3) := by decide +kernel
theorem dX3_copyMissingEntries_51 : decode cX3_copyMissingEntries 51 = .ok (.goto (-36), 3) := by decide +kernel
theorem dX3_copyMissingEntries_54 : decode cX3_copyMissingEntries 54 = .ok (.iload_n 2, 1) := by decide +kernel
theorem dX3_copyMissingEntries_55 : decode cX3_copyMissingEntries 55 = .ok (.ireturn, 1) := by decide +kernel
theorem dX3_holderMask_0 : decode cX3_holderMask 0 = .ok (.iconst 0, 1) := by decide +kernel
theorem dX3_holderMask_1 : decode cX3_holderMask 1 = .ok (.istore_n 3, 1) := by decide +kernel
theorem dX3_holderMask_2 : decode cX3_holderMask 2 = .ok (.iconst 0, 1) := by decide +kernel
theorem dX3_holderMask_3 : decode cX3_holderMask 3 = .ok (.istore 4, 2) := by decide +kernel
theorem dX3_holderMask_5 : decode cX3_holderMask 5 = .ok (.iload 4, 2) := by decide +kernel
theorem dX3_holderMask_7 : decode cX3_holderMask 7 = .ok (.aload_n 0, 1) := by decide +kernel
theorem dX3_holderMask_8 : decode cX3_holderMask 8 = .ok (.getfield 27, 3) := by decide +kernel
theorem dX3_holderMask_11 : decode cX3_holderMask 11 = .ok (.if_icmp .ge 46, 3) := by decide +kernel
theorem dX3_holderMask_14 : decode cX3_holderMask 14 = .ok (.aload_n 0, 1) := by decide +kernel
theorem dX3_holderMask_15 : decode cX3_holderMask 15 = .ok (.iload 4, 2) := by decide +kernel
theorem dX3_holderMask_17 : decode cX3_holderMask 17 = .ok (.invokevirtual 37, 3) := by decide +kernel
theorem dX3_holderMask_20 : decode cX3_holderMask 20 = .ok (.astore 5, 2) := by decide +kernel
theorem dX3_holderMask_22 : decode cX3_holderMask 22 = .ok (.iload_n 3, 1) := by decide +kernel
theorem dX3_holderMask_23 : decode cX3_holderMask 23 = .ok (.aload 5, 2) := by decide +kernel
theorem dX3_holderMask_25 : decode cX3_holderMask 25 = .ok (.ifnull 23, 3) := by decide +kernel
theorem dX3_holderMask_28 : decode cX3_holderMask 28 = .ok (.aload 5, 2) := by decide +kernel
theorem dX3_holderMask_30 : decode cX3_holderMask 30 = .ok (.aload_n 1, 1) := by decide +kernel
theorem dX3_holderMask_31 : decode cX3_holderMask 31 = .ok (.getfield 117, 3) := by decide +kernel
theorem dX3_holderMask_34 : decode cX3_holderMask 34 = .ok (.iload_n 2, 1) := by decide +kernel
theorem dX3_holderMask_35 : decode cX3_holderMask 35 = .ok (.invokevirtual 217, 3) := by decide +kernel
theorem dX3_holderMask_38 : decode cX3_holderMask 38 = .ok (.ifCond .eq 10, 3) := by decide +kernel
theorem dX3_holderMask_41 : decode cX3_holderMask 41 = .ok (.iconst 1, 1) := by decide +kernel
theorem dX3_holderMask_42 : decode cX3_holderMask 42 = .ok (.iload 4, 2) := by decide +kernel
theorem dX3_holderMask_44 : decode cX3_holderMask 44 = .ok (.ishl, 1) := by decide +kernel
theorem dX3_holderMask_45 : decode cX3_holderMask 45 = .ok (.goto 4, 3) := by decide +kernel
theorem dX3_holderMask_48 : decode cX3_holderMask 48 = .ok (.iconst 0, 1) := by decide +kernel
theorem dX3_holderMask_49 : decode cX3_holderMask 49 = .ok (.ior, 1) := by decide +kernel
theorem dX3_holderMask_50 : decode cX3_holderMask 50 = .ok (.istore_n 3, 1) := by decide +kernel
theorem dX3_holderMask_51 : decode cX3_holderMask 51 = .ok (.iinc 4 1, 3) := by decide +kernel
theorem dX3_holderMask_54 : decode cX3_holderMask 54 = .ok (.goto (-49), 3) := by decide +kernel
theorem dX3_holderMask_57 : decode cX3_holderMask 57 = .ok (.iload_n 3, 1) := by decide +kernel
theorem dX3_holderMask_58 : decode cX3_holderMask 58 = .ok (.ireturn, 1) := by decide +kernel
theorem dX3_countUnderReplicated_0 : decode cX3_countUnderReplicated 0 = .ok (.iconst 0, 1) := by decide +kernel
theorem dX3_countUnderReplicated_1 : decode cX3_countUnderReplicated 1 = .ok (.istore_n 2, 1) := by decide +kernel
theorem dX3_countUnderReplicated_2 : decode cX3_countUnderReplicated 2 = .ok (.aload_n 0, 1) := by decide +kernel
theorem dX3_countUnderReplicated_3 : decode cX3_countUnderReplicated 3 = .ok (.invokevirtual 189, 3) := by decide +kernel
theorem dX3_countUnderReplicated_6 : decode cX3_countUnderReplicated 6 = .ok (.istore_n 3, 1) := by decide +kernel
theorem dX3_countUnderReplicated_7 : decode cX3_countUnderReplicated 7 = .ok (.aload_n 1, 1) := by decide +kernel
theorem dX3_countUnderReplicated_8 : decode cX3_countUnderReplicated 8 = .ok (.invokevirtual 226, 3) := by decide +kernel
theorem dX3_countUnderReplicated_11 : decode cX3_countUnderReplicated 11 = .ok (.bipush 39, 2) := by decide +kernel
theorem dX3_countUnderReplicated_13 : decode cX3_countUnderReplicated 13 = .ok (.invokestatic 229, 3) := by decide +kernel
theorem dX3_countUnderReplicated_16 : decode cX3_countUnderReplicated 16 = .ok (.istore 4, 2) := by decide +kernel
theorem dX3_countUnderReplicated_18 : decode cX3_countUnderReplicated 18 = .ok (.iconst 0, 1) := by decide +kernel
theorem dX3_countUnderReplicated_19 : decode cX3_countUnderReplicated 19 = .ok (.istore 5, 2) := by decide +kernel
theorem dX3_countUnderReplicated_21 : decode cX3_countUnderReplicated 21 = .ok (.iload 5, 2) := by decide +kernel
theorem dX3_countUnderReplicated_23 : decode cX3_countUnderReplicated 23 = .ok (.iload 4, 2) := by decide +kernel
theorem dX3_countUnderReplicated_25 : decode cX3_countUnderReplicated 25 = .ok (.if_icmp .gt 48, 3) := by decide +kernel
theorem dX3_countUnderReplicated_28 : decode cX3_countUnderReplicated 28 = .ok (.aload_n 1, 1) := by decide +kernel
theorem dX3_countUnderReplicated_29 : decode cX3_countUnderReplicated 29 = .ok (.aload_n 1, 1) := by decide +kernel
theorem dX3_countUnderReplicated_30 : decode cX3_countUnderReplicated 30 = .ok (.iload 5, 2) := by decide +kernel
theorem dX3_countUnderReplicated_32 : decode cX3_countUnderReplicated 32 = .ok (.invokevirtual 124, 3) := by decide +kernel
theorem dX3_countUnderReplicated_35 : decode cX3_countUnderReplicated 35 = .ok (.iload 5, 2) := by decide +kernel
theorem dX3_countUnderReplicated_37 : decode cX3_countUnderReplicated 37 = .ok (.invokevirtual 156, 3) := by decide +kernel
theorem dX3_countUnderReplicated_40 : decode cX3_countUnderReplicated 40 = .ok (.istore 6, 2) := by decide +kernel
theorem dX3_countUnderReplicated_42 : decode cX3_countUnderReplicated 42 = .ok (.iload 6, 2) := by decide +kernel
theorem dX3_countUnderReplicated_44 : decode cX3_countUnderReplicated 44 = .ok (.iload_n 3, 1) := by decide +kernel
theorem dX3_countUnderReplicated_45 : decode cX3_countUnderReplicated 45 = .ok (.iand, 1) := by decide +kernel
theorem dX3_countUnderReplicated_46 : decode cX3_countUnderReplicated 46 = .ok (.aload_n 0, 1) := by decide +kernel
theorem dX3_countUnderReplicated_47 : decode cX3_countUnderReplicated 47 = .ok (.aload_n 1, 1) := by decide +kernel
theorem dX3_countUnderReplicated_48 : decode cX3_countUnderReplicated 48 = .ok (.iload 5, 2) := by decide +kernel
theorem dX3_countUnderReplicated_50 : decode cX3_countUnderReplicated 50 = .ok (.invokevirtual 232, 3) := by decide +kernel
theorem dX3_countUnderReplicated_53 : decode cX3_countUnderReplicated 53 = .ok (.iand, 1) := by decide +kernel
theorem dX3_countUnderReplicated_54 : decode cX3_countUnderReplicated 54 = .ok (.invokestatic 192, 3) := by decide +kernel
theorem dX3_countUnderReplicated_57 : decode cX3_countUnderReplicated 57 = .ok (.aload_n 1, 1) := by decide +kernel
theorem dX3_countUnderReplicated_58 : decode cX3_countUnderReplicated 58 = .ok (.getfield 127, 3) := by decide +kernel
theorem dX3_countUnderReplicated_61 : decode cX3_countUnderReplicated 61 = .ok (.if_icmp .ge 6, 3) := by decide +kernel
theorem dX3_countUnderReplicated_64 : decode cX3_countUnderReplicated 64 = .ok (.iinc 2 1, 3) := by decide +kernel
theorem dX3_countUnderReplicated_67 : decode cX3_countUnderReplicated 67 = .ok (.iinc 5 1, 3) := by decide +kernel
theorem dX3_countUnderReplicated_70 : decode cX3_countUnderReplicated 70 = .ok (.goto (-49), 3) := by decide +kernel
theorem dX3_countUnderReplicated_73 : decode cX3_countUnderReplicated 73 = .ok (.iload_n 2, 1) := by decide +kernel
theorem dX3_countUnderReplicated_74 : decode cX3_countUnderReplicated 74 = .ok (.ireturn, 1) := by decide +kernel
theorem dX4_init_0 : decode cX4_init 0 = .ok (.aload_n 0, 1) := by decide +kernel
theorem dX4_init_1 : decode cX4_init 1 = .ok (.invokespecial 3, 3) := by decide +kernel
theorem dX4_init_4 : decode cX4_init 4 = .ok (.aload_n 0, 1) := by decide +kernel
theorem dX4_init_5 : decode cX4_init 5 = .ok (.iconst 4, 1) := by decide +kernel
theorem dX4_init_6 : decode cX4_init 6 = .ok (.anewarray 9, 3) := by decide +kernel
theorem dX4_init_9 : decode cX4_init 9 = .ok (.putfield 11, 3) := by decide +kernel
theorem dX4_init_12 : decode cX4_init 12 = .ok (.return_, 1) := by decide +kernel
theorem dX4_push_0 : decode cX4_push 0 = .ok (.aload_n 0, 1) := by decide +kernel
theorem dX4_push_1 : decode cX4_push 1 = .ok (.getfield 17, 3) := by decide +kernel
theorem dX4_push_4 : decode cX4_push 4 = .ok (.ifCond .lt 15, 3) := by decide +kernel
theorem dX4_push_7 : decode cX4_push 7 = .ok (.aload_n 0, 1) := by decide +kernel
theorem dX4_push_8 : decode cX4_push 8 = .ok (.getfield 17, 3) := by decide +kernel
theorem dX4_push_11 : decode cX4_push 11 = .ok (.aload_n 0, 1) := by decide +kernel
theorem dX4_push_12 : decode cX4_push 12 = .ok (.getfield 11, 3) := by decide +kernel
theorem dX4_push_15 : decode cX4_push 15 = .ok (.arraylength, 1) := by decide +kernel
theorem dX4_push_16 : decode cX4_push 16 = .ok (.if_icmp .lt 4, 3) := by decide +kernel
theorem dX4_push_19 : decode cX4_push 19 = .ok (.return_, 1) := by decide +kernel
theorem dX4_push_20 : decode cX4_push 20 = .ok (.aload_n 0, 1) := by decide +kernel
theorem dX4_push_21 : decode cX4_push 21 = .ok (.getfield 11, 3) := by decide +kernel
theorem dX4_push_24 : decode cX4_push 24 = .ok (.aload_n 0, 1) := by decide +kernel
theorem dX4_push_25 : decode cX4_push 25 = .ok (.getfield 17, 3) := by decide +kernel
theorem dX4_push_28 : decode cX4_push 28 = .ok (.aaload, 1) := by decide +kernel
theorem dX4_push_29 : decode cX4_push 29 = .ok (.astore_n 2, 1) := by decide +kernel
theorem dX4_push_30 : decode cX4_push 30 = .ok (.aload_n 2, 1) := by decide +kernel
theorem dX4_push_31 : decode cX4_push 31 = .ok (.ifnonnull 21, 3) := by decide +kernel
theorem dX4_push_34 : decode cX4_push 34 = .ok (.new 9, 3) := by decide +kernel
theorem dX4_push_37 : decode cX4_push 37 = .ok (.dup, 1) := by decide +kernel
theorem dX4_push_38 : decode cX4_push 38 = .ok (.invokespecial 21, 3) := by decide +kernel
theorem dX4_push_41 : decode cX4_push 41 = .ok (.astore_n 2, 1) := by decide +kernel
theorem dX4_push_42 : decode cX4_push 42 = .ok (.aload_n 0, 1) := by decide +kernel
theorem dX4_push_43 : decode cX4_push 43 = .ok (.getfield 11, 3) := by decide +kernel
theorem dX4_push_46 : decode cX4_push 46 = .ok (.aload_n 0, 1) := by decide +kernel
theorem dX4_push_47 : decode cX4_push 47 = .ok (.getfield 17, 3) := by decide +kernel
theorem dX4_push_50 : decode cX4_push 50 = .ok (.aload_n 2, 1) := by decide +kernel
theorem dX4_push_51 : decode cX4_push 51 = .ok (.aastore, 1) := by decide +kernel
theorem dX4_push_52 : decode cX4_push 52 = .ok (.aload_n 2, 1) := by decide +kernel
theorem dX4_push_53 : decode cX4_push 53 = .ok (.aload_n 1, 1) := by decide +kernel
theorem dX4_push_54 : decode cX4_push 54 = .ok (.invokevirtual 22, 3) := by decide +kernel
theorem dX4_push_57 : decode cX4_push 57 = .ok (.aload_n 0, 1) := by decide +kernel
theorem dX4_push_58 : decode cX4_push 58 = .ok (.aload_n 0, 1) := by decide +kernel
theorem dX4_push_59 : decode cX4_push 59 = .ok (.getfield 17, 3) := by decide +kernel
theorem dX4_push_62 : decode cX4_push 62 = .ok (.iconst 1, 1) := by decide +kernel
theorem dX4_push_63 : decode cX4_push 63 = .ok (.iadd, 1) := by decide +kernel
theorem dX4_push_64 : decode cX4_push 64 = .ok (.iconst 4, 1) := by decide +kernel
theorem dX4_push_65 : decode cX4_push 65 = .ok (.irem, 1) := by decide +kernel
theorem dX4_push_66 : decode cX4_push 66 = .ok (.putfield 17, 3) := by decide +kernel
theorem dX4_push_69 : decode cX4_push 69 = .ok (.aload_n 0, 1) := by decide +kernel
theorem dX4_push_70 : decode cX4_push 70 = .ok (.aload_n 0, 1) := by decide +kernel
theorem dX4_push_71 : decode cX4_push 71 = .ok (.getfield 26, 3) := by decide +kernel
theorem dX4_push_74 : decode cX4_push 74 = .ok (.iconst 1, 1) := by decide +kernel
theorem dX4_push_75 : decode cX4_push 75 = .ok (.iadd, 1) := by decide +kernel
theorem dX4_push_76 : decode cX4_push 76 = .ok (.iconst 4, 1) := by decide +kernel
theorem dX4_push_77 : decode cX4_push 77 = .ok (.invokestatic 29, 3) := by decide +kernel
theorem dX4_push_80 : decode cX4_push 80 = .ok (.putfield 26, 3) := by decide +kernel
theorem dX4_push_83 : decode cX4_push 83 = .ok (.return_, 1) := by decide +kernel
theorem dX4_popInto_0 : decode cX4_popInto 0 = .ok (.aload_n 0, 1) := by decide +kernel
theorem dX4_popInto_1 : decode cX4_popInto 1 = .ok (.getfield 17, 3) := by decide +kernel
theorem dX4_popInto_4 : decode cX4_popInto 4 = .ok (.iconst 4, 1) := by decide +kernel
theorem dX4_popInto_5 : decode cX4_popInto 5 = .ok (.iadd, 1) := by decide +kernel
theorem dX4_popInto_6 : decode cX4_popInto 6 = .ok (.iconst 1, 1) := by decide +kernel
theorem dX4_popInto_7 : decode cX4_popInto 7 = .ok (.isub, 1) := by decide +kernel
theorem dX4_popInto_8 : decode cX4_popInto 8 = .ok (.iconst 4, 1) := by decide +kernel
theorem dX4_popInto_9 : decode cX4_popInto 9 = .ok (.irem, 1) := by decide +kernel
theorem dX4_popInto_10 : decode cX4_popInto 10 = .ok (.istore_n 2, 1) := by decide +kernel
theorem dX4_popInto_11 : decode cX4_popInto 11 = .ok (.aload_n 0, 1) := by decide +kernel
theorem dX4_popInto_12 : decode cX4_popInto 12 = .ok (.getfield 26, 3) := by decide +kernel
theorem dX4_popInto_15 : decode cX4_popInto 15 = .ok (.iconst 1, 1) := by decide +kernel
theorem dX4_popInto_16 : decode cX4_popInto 16 = .ok (.if_icmp .lt 16, 3) := by decide +kernel
theorem dX4_popInto_19 : decode cX4_popInto 19 = .ok (.iload_n 2, 1) := by decide +kernel
theorem dX4_popInto_20 : decode cX4_popInto 20 = .ok (.ifCond .lt 12, 3) := by decide +kernel
theorem dX4_popInto_23 : decode cX4_popInto 23 = .ok (.iload_n 2, 1) := by decide +kernel
theorem dX4_popInto_24 : decode cX4_popInto 24 = .ok (.aload_n 0, 1) := by decide +kernel
theorem dX4_popInto_25 : decode cX4_popInto 25 = .ok (.getfield 11, 3) := by decide +kernel
theorem dX4_popInto_28 : decode cX4_popInto 28 = .ok (.arraylength, 1) := by decide +kernel
theorem dX4_popInto_29 : decode cX4_popInto 29 = .ok (.if_icmp .lt 4, 3) := by decide +kernel
theorem dX4_popInto_32 : decode cX4_popInto 32 = .ok (.return_, 1) := by decide +kernel
theorem dX4_popInto_33 : decode cX4_popInto 33 = .ok (.aload_n 0, 1) := by decide +kernel
theorem dX4_popInto_34 : decode cX4_popInto 34 = .ok (.getfield 11, 3) := by decide +kernel
theorem dX4_popInto_37 : decode cX4_popInto 37 = .ok (.iload_n 2, 1) := by decide +kernel
theorem dX4_popInto_38 : decode cX4_popInto 38 = .ok (.aaload, 1) := by decide +kernel
theorem dX4_popInto_39 : decode cX4_popInto 39 = .ok (.astore_n 3, 1) := by decide +kernel
theorem dX4_popInto_40 : decode cX4_popInto 40 = .ok (.aload_n 3, 1) := by decide +kernel
theorem dX4_popInto_41 : decode cX4_popInto 41 = .ok (.ifnull 8, 3) := by decide +kernel
theorem dX4_popInto_44 : decode cX4_popInto 44 = .ok (.aload_n 1, 1) := by decide +kernel
theorem dX4_popInto_45 : decode cX4_popInto 45 = .ok (.aload_n 3, 1) := by decide +kernel
theorem dX4_popInto_46 : decode cX4_popInto 46 = .ok (.invokevirtual 22, 3) := by decide +kernel
theorem dX4_popInto_49 : decode cX4_popInto 49 = .ok (.aload_n 0, 1) := by decide +kernel
theorem dX4_popInto_50 : decode cX4_popInto 50 = .ok (.iload_n 2, 1) := by decide +kernel
theorem dX4_popInto_51 : decode cX4_popInto 51 = .ok (.putfield 17, 3) := by decide +kernel
theorem dX4_popInto_54 : decode cX4_popInto 54 = .ok (.aload_n 0, 1) := by decide +kernel
theorem dX4_popInto_55 : decode cX4_popInto 55 = .ok (.dup, 1) := by decide +kernel
theorem dX4_popInto_56 : decode cX4_popInto 56 = .ok (.getfield 26, 3) := by decide +kernel
theorem dX4_popInto_59 : decode cX4_popInto 59 = .ok (.iconst 1, 1) := by decide +kernel
theorem dX4_popInto_60 : decode cX4_popInto 60 = .ok (.isub, 1) := by decide +kernel
theorem dX4_popInto_61 : decode cX4_popInto 61 = .ok (.putfield 26, 3) := by decide +kernel
theorem dX4_popInto_64 : decode cX4_popInto 64 = .ok (.return_, 1) := by decide +kernel
theorem dJ6_bitCount_0f7a4_0 : decode cJ6_bitCount_0f7a4 0 = .ok (.iload_n 0, 1) := by decide +kernel
theorem dJ6_bitCount_0f7a4_1 : decode cJ6_bitCount_0f7a4 1 = .ok (.iload_n 0, 1) := by decide +kernel
theorem dJ6_bitCount_0f7a4_2 : decode cJ6_bitCount_0f7a4 2 = .ok (.iconst 1, 1) := by decide +kernel
theorem dJ6_bitCount_0f7a4_3 : decode cJ6_bitCount_0f7a4 3 = .ok (.iushr, 1) := by decide +kernel
theorem dJ6_bitCount_0f7a4_4 : decode cJ6_bitCount_0f7a4 4 = .ok (.ldc_w 265, 3) := by decide +kernel
theorem dJ6_bitCount_0f7a4_7 : decode cJ6_bitCount_0f7a4 7 = .ok (.iand, 1) := by decide +kernel
theorem dJ6_bitCount_0f7a4_8 : decode cJ6_bitCount_0f7a4 8 = .ok (.isub, 1) := by decide +kernel
theorem dJ6_bitCount_0f7a4_9 : decode cJ6_bitCount_0f7a4 9 = .ok (.istore_n 0, 1) := by decide +kernel
theorem dJ6_bitCount_0f7a4_10 : decode cJ6_bitCount_0f7a4 10 = .ok (.iload_n 0, 1) := by decide +kernel
theorem dJ6_bitCount_0f7a4_11 : decode cJ6_bitCount_0f7a4 11 = .ok (.ldc_w 266, 3) := by decide +kernel
theorem dJ6_bitCount_0f7a4_14 : decode cJ6_bitCount_0f7a4 14 = .ok (.iand, 1) := by decide +kernel
theorem dJ6_bitCount_0f7a4_15 : decode cJ6_bitCount_0f7a4 15 = .ok (.iload_n 0, 1) := by decide +kernel
theorem dJ6_bitCount_0f7a4_16 : decode cJ6_bitCount_0f7a4 16 = .ok (.iconst 2, 1) := by decide +kernel
theorem dJ6_bitCount_0f7a4_17 : decode cJ6_bitCount_0f7a4 17 = .ok (.iushr, 1) := by decide +kernel
theorem dJ6_bitCount_0f7a4_18 : decode cJ6_bitCount_0f7a4 18 = .ok (.ldc_w 266, 3) := by decide +kernel
theorem dJ6_bitCount_0f7a4_21 : decode cJ6_bitCount_0f7a4 21 = .ok (.iand, 1) := by decide +kernel
theorem dJ6_bitCount_0f7a4_22 : decode cJ6_bitCount_0f7a4 22 = .ok (.iadd, 1) := by decide +kernel
theorem dJ6_bitCount_0f7a4_23 : decode cJ6_bitCount_0f7a4 23 = .ok (.istore_n 0, 1) := by decide +kernel
theorem dJ6_bitCount_0f7a4_24 : decode cJ6_bitCount_0f7a4 24 = .ok (.iload_n 0, 1) := by decide +kernel
theorem dJ6_bitCount_0f7a4_25 : decode cJ6_bitCount_0f7a4 25 = .ok (.iload_n 0, 1) := by decide +kernel
theorem dJ6_bitCount_0f7a4_26 : decode cJ6_bitCount_0f7a4 26 = .ok (.iconst 4, 1) := by decide +kernel
theorem dJ6_bitCount_0f7a4_27 : decode cJ6_bitCount_0f7a4 27 = .ok (.iushr, 1) := by decide +kernel
theorem dJ6_bitCount_0f7a4_28 : decode cJ6_bitCount_0f7a4 28 = .ok (.iadd, 1) := by decide +kernel
theorem dJ6_bitCount_0f7a4_29 : decode cJ6_bitCount_0f7a4 29 = .ok (.ldc_w 267, 3) := by decide +kernel
theorem dJ6_bitCount_0f7a4_32 : decode cJ6_bitCount_0f7a4 32 = .ok (.iand, 1) := by decide +kernel
theorem dJ6_bitCount_0f7a4_33 : decode cJ6_bitCount_0f7a4 33 = .ok (.istore_n 0, 1) := by decide +kernel
theorem dJ6_bitCount_0f7a4_34 : decode cJ6_bitCount_0f7a4 34 = .ok (.iload_n 0, 1) := by decide +kernel
theorem dJ6_bitCount_0f7a4_35 : decode cJ6_bitCount_0f7a4 35 = .ok (.iload_n 0, 1) := by decide +kernel
theorem dJ6_bitCount_0f7a4_36 : decode cJ6_bitCount_0f7a4 36 = .ok (.bipush 8, 2) := by decide +kernel
theorem dJ6_bitCount_0f7a4_38 : decode cJ6_bitCount_0f7a4 38 = .ok (.iushr, 1) := by decide +kernel
theorem dJ6_bitCount_0f7a4_39 : decode cJ6_bitCount_0f7a4 39 = .ok (.iadd, 1) := by decide +kernel
theorem dJ6_bitCount_0f7a4_40 : decode cJ6_bitCount_0f7a4 40 = .ok (.istore_n 0, 1) := by decide +kernel
theorem dJ6_bitCount_0f7a4_41 : decode cJ6_bitCount_0f7a4 41 = .ok (.iload_n 0, 1) := by decide +kernel
theorem dJ6_bitCount_0f7a4_42 : decode cJ6_bitCount_0f7a4 42 = .ok (.iload_n 0, 1) := by decide +kernel
theorem dJ6_bitCount_0f7a4_43 : decode cJ6_bitCount_0f7a4 43 = .ok (.bipush 16, 2) := by decide +kernel
theorem dJ6_bitCount_0f7a4_45 : decode cJ6_bitCount_0f7a4 45 = .ok (.iushr, 1) := by decide +kernel
theorem dJ6_bitCount_0f7a4_46 : decode cJ6_bitCount_0f7a4 46 = .ok (.iadd, 1) := by decide +kernel
theorem dJ6_bitCount_0f7a4_47 : decode cJ6_bitCount_0f7a4 47 = .ok (.istore_n 0, 1) := by decide +kernel
theorem dJ6_bitCount_0f7a4_48 : decode cJ6_bitCount_0f7a4 48 = .ok (.iload_n 0, 1) := by decide +kernel
theorem dJ6_bitCount_0f7a4_49 : decode cJ6_bitCount_0f7a4 49 = .ok (.bipush 63, 2) := by decide +kernel
theorem dJ6_bitCount_0f7a4_51 : decode cJ6_bitCount_0f7a4 51 = .ok (.iand, 1) := by decide +kernel
theorem dJ6_bitCount_0f7a4_52 : decode cJ6_bitCount_0f7a4 52 = .ok (.ireturn, 1) := by decide +kernel
theorem dJ9_max_7cf53_0 : decode cJ9_max_7cf53 0 = .ok (.iload_n 0, 1) := by decide +kernel
theorem dJ9_max_7cf53_1 : decode cJ9_max_7cf53 1 = .ok (.iload_n 1, 1) := by decide +kernel
theorem dJ9_max_7cf53_2 : decode cJ9_max_7cf53 2 = .ok (.if_icmp .lt 7, 3) := by decide +kernel
theorem dJ9_max_7cf53_5 : decode cJ9_max_7cf53 5 = .ok (.iload_n 0, 1) := by decide +kernel
theorem dJ9_max_7cf53_6 : decode cJ9_max_7cf53 6 = .ok (.goto 4, 3) := by decide +kernel
theorem dJ9_max_7cf53_9 : decode cJ9_max_7cf53 9 = .ok (.iload_n 1, 1) := by decide +kernel
theorem dJ9_max_7cf53_10 : decode cJ9_max_7cf53 10 = .ok (.ireturn, 1) := by decide +kernel
theorem dJ9_min_7cf53_0 : decode cJ9_min_7cf53 0 = .ok (.iload_n 0, 1) := by decide +kernel
theorem dJ9_min_7cf53_1 : decode cJ9_min_7cf53 1 = .ok (.iload_n 1, 1) := by decide +kernel
theorem dJ9_min_7cf53_2 : decode cJ9_min_7cf53 2 = .ok (.if_icmp .gt 7, 3) := by decide +kernel
theorem dJ9_min_7cf53_5 : decode cJ9_min_7cf53 5 = .ok (.iload_n 0, 1) := by decide +kernel
theorem dJ9_min_7cf53_6 : decode cJ9_min_7cf53 6 = .ok (.goto 4, 3) := by decide +kernel
theorem dJ9_min_7cf53_9 : decode cJ9_min_7cf53 9 = .ok (.iload_n 1, 1) := by decide +kernel
theorem dJ9_min_7cf53_10 : decode cJ9_min_7cf53 10 = .ok (.ireturn, 1) := by decide +kernel
theorem dJ7_fill_53178_0 : decode cJ7_fill_53178 0 = .ok (.iconst 0, 1) := by decide +kernel
theorem dJ7_fill_53178_1 : decode cJ7_fill_53178 1 = .ok (.istore_n 2, 1) := by decide +kernel
theorem dJ7_fill_53178_2 : decode cJ7_fill_53178 2 = .ok (.aload_n 0, 1) := by decide +kernel
theorem dJ7_fill_53178_3 : decode cJ7_fill_53178 3 = .ok (.arraylength, 1) := by decide +kernel
theorem dJ7_fill_53178_4 : decode cJ7_fill_53178 4 = .ok (.istore_n 3, 1) := by decide +kernel
theorem dJ7_fill_53178_5 : decode cJ7_fill_53178 5 = .ok (.iload_n 2, 1) := by decide +kernel
theorem dJ7_fill_53178_6 : decode cJ7_fill_53178 6 = .ok (.iload_n 3, 1) := by decide +kernel
theorem dJ7_fill_53178_7 : decode cJ7_fill_53178 7 = .ok (.if_icmp .ge 13, 3) := by decide +kernel
theorem dJ7_fill_53178_10 : decode cJ7_fill_53178 10 = .ok (.aload_n 0, 1) := by decide +kernel
theorem dJ7_fill_53178_11 : decode cJ7_fill_53178 11 = .ok (.iload_n 2, 1) := by decide +kernel
theorem dJ7_fill_53178_12 : decode cJ7_fill_53178 12 = .ok (.iload_n 1, 1) := by decide +kernel
theorem dJ7_fill_53178_13 : decode cJ7_fill_53178 13 = .ok (.iastore, 1) := by decide +kernel
theorem dJ7_fill_53178_14 : decode cJ7_fill_53178 14 = .ok (.iinc 2 1, 3) := by decide +kernel
theorem dJ7_fill_53178_17 : decode cJ7_fill_53178 17 = .ok (.goto (-12), 3) := by decide +kernel
theorem dJ7_fill_53178_20 : decode cJ7_fill_53178 20 = .ok (.return_, 1) := by decide +kernel
