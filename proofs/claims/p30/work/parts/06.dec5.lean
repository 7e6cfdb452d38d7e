theorem dX5_init_0 : decode cX5_init 0 = .ok (.aload_n 0, 1) := by decide +kernel
theorem dX5_init_1 : decode cX5_init 1 = .ok (.invokespecial 3, 3) := by decide +kernel
theorem dX5_init_4 : decode cX5_init 4 = .ok (.aload_n 0, 1) := by decide +kernel
theorem dX5_init_5 : decode cX5_init 5 = .ok (.new 9, 3) := by decide +kernel
theorem dX5_init_8 : decode cX5_init 8 = .ok (.dup, 1) := by decide +kernel
theorem dX5_init_9 : decode cX5_init 9 = .ok (.invokespecial 11, 3) := by decide +kernel
theorem dX5_init_12 : decode cX5_init 12 = .ok (.putfield 12, 3) := by decide +kernel
theorem dX5_init_15 : decode cX5_init 15 = .ok (.aload_n 0, 1) := by decide +kernel
theorem dX5_init_16 : decode cX5_init 16 = .ok (.new 16, 3) := by decide +kernel
theorem dX5_init_19 : decode cX5_init 19 = .ok (.dup, 1) := by decide +kernel
theorem dX5_init_20 : decode cX5_init 20 = .ok (.invokespecial 18, 3) := by decide +kernel
theorem dX5_init_23 : decode cX5_init 23 = .ok (.putfield 19, 3) := by decide +kernel
theorem dX5_init_26 : decode cX5_init 26 = .ok (.return_, 1) := by decide +kernel
theorem dX5_addNode_0 : decode cX5_addNode 0 = .ok (.aload_n 0, 1) := by decide +kernel
theorem dX5_addNode_1 : decode cX5_addNode 1 = .ok (.getfield 12, 3) := by decide +kernel
theorem dX5_addNode_4 : decode cX5_addNode 4 = .ok (.getfield 23, 3) := by decide +kernel
theorem dX5_addNode_7 : decode cX5_addNode 7 = .ok (.bipush 8, 2) := by decide +kernel
theorem dX5_addNode_9 : decode cX5_addNode 9 = .ok (.if_icmp .lt 13, 3) := by decide +kernel
theorem dX5_addNode_12 : decode cX5_addNode 12 = .ok (.new 27, 3) := by decide +kernel
theorem dX5_addNode_15 : decode cX5_addNode 15 = .ok (.dup, 1) := by decide +kernel
theorem dX5_addNode_16 : decode cX5_addNode 16 = .ok (.ldc 29, 2) := by decide +kernel
theorem dX5_addNode_18 : decode cX5_addNode 18 = .ok (.invokespecial 31, 3) := by decide +kernel
theorem dX5_addNode_21 : decode cX5_addNode 21 = .ok (.athrow, 1) := by decide +kernel
theorem dX5_addNode_22 : decode cX5_addNode 22 = .ok (.aload_n 0, 1) := by decide +kernel
theorem dX5_addNode_23 : decode cX5_addNode 23 = .ok (.getfield 19, 3) := by decide +kernel
theorem dX5_addNode_26 : decode cX5_addNode 26 = .ok (.aload_n 0, 1) := by decide +kernel
theorem dX5_addNode_27 : decode cX5_addNode 27 = .ok (.getfield 12, 3) := by decide +kernel
theorem dX5_addNode_30 : decode cX5_addNode 30 = .ok (.invokevirtual 34, 3) := by decide +kernel
theorem dX5_addNode_33 : decode cX5_addNode 33 = .ok (.aload_n 0, 1) := by decide +kernel
theorem dX5_addNode_34 : decode cX5_addNode 34 = .ok (.getfield 12, 3) := by decide +kernel
theorem dX5_addNode_37 : decode cX5_addNode 37 = .ok (.invokevirtual 38, 3) := by decide +kernel
theorem dX5_addNode_40 : decode cX5_addNode 40 = .ok (.ireturn, 1) := by decide +kernel
theorem dX5_crash_0 : decode cX5_crash 0 = .ok (.aload_n 0, 1) := by decide +kernel
theorem dX5_crash_1 : decode cX5_crash 1 = .ok (.iload_n 1, 1) := by decide +kernel
theorem dX5_crash_2 : decode cX5_crash 2 = .ok (.invokevirtual 42, 3) := by decide +kernel
theorem dX5_crash_5 : decode cX5_crash 5 = .ok (.astore_n 2, 1) := by decide +kernel
theorem dX5_crash_6 : decode cX5_crash 6 = .ok (.aload_n 2, 1) := by decide +kernel
theorem dX5_crash_7 : decode cX5_crash 7 = .ok (.getfield 46, 3) := by decide +kernel
theorem dX5_crash_10 : decode cX5_crash 10 = .ok (.ifCond .ne 13, 3) := by decide +kernel
theorem dX5_crash_13 : decode cX5_crash 13 = .ok (.new 27, 3) := by decide +kernel
theorem dX5_crash_16 : decode cX5_crash 16 = .ok (.dup, 1) := by decide +kernel
theorem dX5_crash_17 : decode cX5_crash 17 = .ok (.ldc 52, 2) := by decide +kernel
theorem dX5_crash_19 : decode cX5_crash 19 = .ok (.invokespecial 31, 3) := by decide +kernel
theorem dX5_crash_22 : decode cX5_crash 22 = .ok (.athrow, 1) := by decide +kernel
theorem dX5_crash_23 : decode cX5_crash 23 = .ok (.aload_n 0, 1) := by decide +kernel
theorem dX5_crash_24 : decode cX5_crash 24 = .ok (.getfield 19, 3) := by decide +kernel
theorem dX5_crash_27 : decode cX5_crash 27 = .ok (.aload_n 0, 1) := by decide +kernel
theorem dX5_crash_28 : decode cX5_crash 28 = .ok (.getfield 12, 3) := by decide +kernel
theorem dX5_crash_31 : decode cX5_crash 31 = .ok (.invokevirtual 34, 3) := by decide +kernel
theorem dX5_crash_34 : decode cX5_crash 34 = .ok (.aload_n 2, 1) := by decide +kernel
theorem dX5_crash_35 : decode cX5_crash 35 = .ok (.getfield 54, 3) := by decide +kernel
theorem dX5_crash_38 : decode cX5_crash 38 = .ok (.istore_n 3, 1) := by decide +kernel
theorem dX5_crash_39 : decode cX5_crash 39 = .ok (.aload_n 2, 1) := by decide +kernel
theorem dX5_crash_40 : decode cX5_crash 40 = .ok (.iconst 0, 1) := by decide +kernel
theorem dX5_crash_41 : decode cX5_crash 41 = .ok (.putfield 46, 3) := by decide +kernel
theorem dX5_crash_44 : decode cX5_crash 44 = .ok (.aload_n 2, 1) := by decide +kernel
theorem dX5_crash_45 : decode cX5_crash 45 = .ok (.iconst 0, 1) := by decide +kernel
theorem dX5_crash_46 : decode cX5_crash 46 = .ok (.putfield 54, 3) := by decide +kernel
theorem dX5_crash_49 : decode cX5_crash 49 = .ok (.iload_n 3, 1) := by decide +kernel
theorem dX5_crash_50 : decode cX5_crash 50 = .ok (.ireturn, 1) := by decide +kernel
theorem dX5_restart_0 : decode cX5_restart 0 = .ok (.aload_n 0, 1) := by decide +kernel
theorem dX5_restart_1 : decode cX5_restart 1 = .ok (.iload_n 1, 1) := by decide +kernel
theorem dX5_restart_2 : decode cX5_restart 2 = .ok (.invokevirtual 42, 3) := by decide +kernel
theorem dX5_restart_5 : decode cX5_restart 5 = .ok (.astore_n 2, 1) := by decide +kernel
theorem dX5_restart_6 : decode cX5_restart 6 = .ok (.aload_n 2, 1) := by decide +kernel
theorem dX5_restart_7 : decode cX5_restart 7 = .ok (.getfield 46, 3) := by decide +kernel
theorem dX5_restart_10 : decode cX5_restart 10 = .ok (.ifCond .eq 13, 3) := by decide +kernel
theorem dX5_restart_13 : decode cX5_restart 13 = .ok (.new 27, 3) := by decide +kernel
theorem dX5_restart_16 : decode cX5_restart 16 = .ok (.dup, 1) := by decide +kernel
theorem dX5_restart_17 : decode cX5_restart 17 = .ok (.ldc 57, 2) := by decide +kernel
theorem dX5_restart_19 : decode cX5_restart 19 = .ok (.invokespecial 31, 3) := by decide +kernel
theorem dX5_restart_22 : decode cX5_restart 22 = .ok (.athrow, 1) := by decide +kernel
theorem dX5_restart_23 : decode cX5_restart 23 = .ok (.aload_n 0, 1) := by decide +kernel
theorem dX5_restart_24 : decode cX5_restart 24 = .ok (.getfield 19, 3) := by decide +kernel
theorem dX5_restart_27 : decode cX5_restart 27 = .ok (.aload_n 0, 1) := by decide +kernel
theorem dX5_restart_28 : decode cX5_restart 28 = .ok (.getfield 12, 3) := by decide +kernel
theorem dX5_restart_31 : decode cX5_restart 31 = .ok (.invokevirtual 34, 3) := by decide +kernel
theorem dX5_restart_34 : decode cX5_restart 34 = .ok (.aload_n 2, 1) := by decide +kernel
theorem dX5_restart_35 : decode cX5_restart 35 = .ok (.iconst 1, 1) := by decide +kernel
theorem dX5_restart_36 : decode cX5_restart 36 = .ok (.putfield 46, 3) := by decide +kernel
theorem dX5_restart_39 : decode cX5_restart 39 = .ok (.aload_n 2, 1) := by decide +kernel
theorem dX5_restart_40 : decode cX5_restart 40 = .ok (.getfield 59, 3) := by decide +kernel
theorem dX5_restart_43 : decode cX5_restart 43 = .ok (.ireturn, 1) := by decide +kernel
theorem dX5_deliver_0 : decode cX5_deliver 0 = .ok (.aload_n 0, 1) := by decide +kernel
theorem dX5_deliver_1 : decode cX5_deliver 1 = .ok (.iload_n 1, 1) := by decide +kernel
theorem dX5_deliver_2 : decode cX5_deliver 2 = .ok (.invokevirtual 42, 3) := by decide +kernel
theorem dX5_deliver_5 : decode cX5_deliver 5 = .ok (.astore_n 2, 1) := by decide +kernel
theorem dX5_deliver_6 : decode cX5_deliver 6 = .ok (.aload_n 2, 1) := by decide +kernel
theorem dX5_deliver_7 : decode cX5_deliver 7 = .ok (.getfield 46, 3) := by decide +kernel
theorem dX5_deliver_10 : decode cX5_deliver 10 = .ok (.ifCond .ne 13, 3) := by decide +kernel
theorem dX5_deliver_13 : decode cX5_deliver 13 = .ok (.new 27, 3) := by decide +kernel
theorem dX5_deliver_16 : decode cX5_deliver 16 = .ok (.dup, 1) := by decide +kernel
theorem dX5_deliver_17 : decode cX5_deliver 17 = .ok (.ldc 62, 2) := by decide +kernel
theorem dX5_deliver_19 : decode cX5_deliver 19 = .ok (.invokespecial 31, 3) := by decide +kernel
theorem dX5_deliver_22 : decode cX5_deliver 22 = .ok (.athrow, 1) := by decide +kernel
theorem dX5_deliver_23 : decode cX5_deliver 23 = .ok (.aload_n 0, 1) := by decide +kernel
theorem dX5_deliver_24 : decode cX5_deliver 24 = .ok (.getfield 19, 3) := by decide +kernel
theorem dX5_deliver_27 : decode cX5_deliver 27 = .ok (.aload_n 0, 1) := by decide +kernel
theorem dX5_deliver_28 : decode cX5_deliver 28 = .ok (.getfield 12, 3) := by decide +kernel
theorem dX5_deliver_31 : decode cX5_deliver 31 = .ok (.invokevirtual 34, 3) := by decide +kernel
theorem dX5_deliver_34 : decode cX5_deliver 34 = .ok (.aload_n 0, 1) := by decide +kernel
theorem dX5_deliver_35 : decode cX5_deliver 35 = .ok (.getfield 12, 3) := by decide +kernel
theorem dX5_deliver_38 : decode cX5_deliver 38 = .ok (.iload_n 1, 1) := by decide +kernel
theorem dX5_deliver_39 : decode cX5_deliver 39 = .ok (.invokevirtual 64, 3) := by decide +kernel
theorem dX5_deliver_42 : decode cX5_deliver 42 = .ok (.ireturn, 1) := by decide +kernel
theorem dX5_deliverAll_0 : decode cX5_deliverAll 0 = .ok (.aload_n 0, 1) := by decide +kernel
theorem dX5_deliverAll_1 : decode cX5_deliverAll 1 = .ok (.getfield 19, 3) := by decide +kernel
theorem dX5_deliverAll_4 : decode cX5_deliverAll 4 = .ok (.aload_n 0, 1) := by decide +kernel
theorem dX5_deliverAll_5 : decode cX5_deliverAll 5 = .ok (.getfield 12, 3) := by decide +kernel
theorem dX5_deliverAll_8 : decode cX5_deliverAll 8 = .ok (.invokevirtual 34, 3) := by decide +kernel
theorem dX5_deliverAll_11 : decode cX5_deliverAll 11 = .ok (.iconst 0, 1) := by decide +kernel
theorem dX5_deliverAll_12 : decode cX5_deliverAll 12 = .ok (.istore_n 1, 1) := by decide +kernel
theorem dX5_deliverAll_13 : decode cX5_deliverAll 13 = .ok (.iconst 0, 1) := by decide +kernel
theorem dX5_deliverAll_14 : decode cX5_deliverAll 14 = .ok (.istore_n 2, 1) := by decide +kernel
theorem dX5_deliverAll_15 : decode cX5_deliverAll 15 = .ok (.iload_n 2, 1) := by decide +kernel
theorem dX5_deliverAll_16 : decode cX5_deliverAll 16 = .ok (.bipush 100, 2) := by decide +kernel
theorem dX5_deliverAll_18 : decode cX5_deliverAll 18 = .ok (.if_icmp .ge 64, 3) := by decide +kernel
theorem dX5_deliverAll_21 : decode cX5_deliverAll 21 = .ok (.aload_n 0, 1) := by decide +kernel
theorem dX5_deliverAll_22 : decode cX5_deliverAll 22 = .ok (.getfield 12, 3) := by decide +kernel
theorem dX5_deliverAll_25 : decode cX5_deliverAll 25 = .ok (.invokevirtual 68, 3) := by decide +kernel
theorem dX5_deliverAll_28 : decode cX5_deliverAll 28 = .ok (.ifCond .eq 54, 3) := by decide +kernel
theorem dX5_deliverAll_31 : decode cX5_deliverAll 31 = .ok (.iconst 0, 1) := by decide +kernel
theorem dX5_deliverAll_32 : decode cX5_deliverAll 32 = .ok (.istore_n 3, 1) := by decide +kernel
theorem dX5_deliverAll_33 : decode cX5_deliverAll 33 = .ok (.iload_n 3, 1) := by decide +kernel
theorem dX5_deliverAll_34 : decode cX5_deliverAll 34 = .ok (.aload_n 0, 1) := by decide +kernel
theorem dX5_deliverAll_35 : decode cX5_deliverAll 35 = .ok (.getfield 12, 3) := by decide +kernel
theorem dX5_deliverAll_38 : decode cX5_deliverAll 38 = .ok (.getfield 23, 3) := by decide +kernel
theorem dX5_deliverAll_41 : decode cX5_deliverAll 41 = .ok (.if_icmp .ge 35, 3) := by decide +kernel
theorem dX5_deliverAll_44 : decode cX5_deliverAll 44 = .ok (.aload_n 0, 1) := by decide +kernel
theorem dX5_deliverAll_45 : decode cX5_deliverAll 45 = .ok (.getfield 12, 3) := by decide +kernel
theorem dX5_deliverAll_48 : decode cX5_deliverAll 48 = .ok (.iload_n 3, 1) := by decide +kernel
theorem dX5_deliverAll_49 : decode cX5_deliverAll 49 = .ok (.invokevirtual 72, 3) := by decide +kernel
theorem dX5_deliverAll_52 : decode cX5_deliverAll 52 = .ok (.ifCond .eq 18, 3) := by decide +kernel
theorem dX5_deliverAll_55 : decode cX5_deliverAll 55 = .ok (.aload_n 0, 1) := by decide +kernel
theorem dX5_deliverAll_56 : decode cX5_deliverAll 56 = .ok (.getfield 12, 3) := by decide +kernel
theorem dX5_deliverAll_59 : decode cX5_deliverAll 59 = .ok (.iload_n 3, 1) := by decide +kernel
theorem dX5_deliverAll_60 : decode cX5_deliverAll 60 = .ok (.invokevirtual 64, 3) := by decide +kernel
theorem dX5_deliverAll_63 : decode cX5_deliverAll 63 = .ok (.iconst 1, 1) := by decide +kernel
theorem dX5_deliverAll_64 : decode cX5_deliverAll 64 = .ok (.if_icmp .ne 6, 3) := by decide +kernel
theorem dX5_deliverAll_67 : decode cX5_deliverAll 67 = .ok (.iinc 1 1, 3) := by decide +kernel
theorem dX5_deliverAll_70 : decode cX5_deliverAll 70 = .ok (.iinc 3 1, 3) := by decide +kernel
theorem dX5_deliverAll_73 : decode cX5_deliverAll 73 = .ok (.goto (-40), 3) := by decide +kernel
theorem dX5_deliverAll_76 : decode cX5_deliverAll 76 = .ok (.iinc 2 1, 3) := by decide +kernel
theorem dX5_deliverAll_79 : decode cX5_deliverAll 79 = .ok (.goto (-64), 3) := by decide +kernel
theorem dX5_deliverAll_82 : decode cX5_deliverAll 82 = .ok (.iload_n 1, 1) := by decide +kernel
theorem dX5_deliverAll_83 : decode cX5_deliverAll 83 = .ok (.ireturn, 1) := by decide +kernel
theorem dX5_inboxLength_0 : decode cX5_inboxLength 0 = .ok (.aload_n 0, 1) := by decide +kernel
theorem dX5_inboxLength_1 : decode cX5_inboxLength 1 = .ok (.iload_n 1, 1) := by decide +kernel
theorem dX5_inboxLength_2 : decode cX5_inboxLength 2 = .ok (.invokevirtual 42, 3) := by decide +kernel
theorem dX5_inboxLength_5 : decode cX5_inboxLength 5 = .ok (.getfield 54, 3) := by decide +kernel
theorem dX5_inboxLength_8 : decode cX5_inboxLength 8 = .ok (.ireturn, 1) := by decide +kernel
theorem dX5_weight_0 : decode cX5_weight 0 = .ok (.aload_n 0, 1) := by decide +kernel
theorem dX5_weight_1 : decode cX5_weight 1 = .ok (.iload_n 1, 1) := by decide +kernel
theorem dX5_weight_2 : decode cX5_weight 2 = .ok (.invokevirtual 42, 3) := by decide +kernel
theorem dX5_weight_5 : decode cX5_weight 5 = .ok (.getfield 59, 3) := by decide +kernel
theorem dX5_weight_8 : decode cX5_weight 8 = .ok (.ireturn, 1) := by decide +kernel
theorem dX5_isFenced_0 : decode cX5_isFenced 0 = .ok (.aload_n 0, 1) := by decide +kernel
theorem dX5_isFenced_1 : decode cX5_isFenced 1 = .ok (.iload_n 1, 1) := by decide +kernel
theorem dX5_isFenced_2 : decode cX5_isFenced 2 = .ok (.invokevirtual 42, 3) := by decide +kernel
theorem dX5_isFenced_5 : decode cX5_isFenced 5 = .ok (.astore_n 3, 1) := by decide +kernel
theorem dX5_isFenced_6 : decode cX5_isFenced 6 = .ok (.aload_n 0, 1) := by decide +kernel
theorem dX5_isFenced_7 : decode cX5_isFenced 7 = .ok (.iload_n 2, 1) := by decide +kernel
theorem dX5_isFenced_8 : decode cX5_isFenced 8 = .ok (.invokevirtual 80, 3) := by decide +kernel
theorem dX5_isFenced_11 : decode cX5_isFenced 11 = .ok (.pop, 1) := by decide +kernel
theorem dX5_isFenced_12 : decode cX5_isFenced 12 = .ok (.aload_n 3, 1) := by decide +kernel
theorem dX5_isFenced_13 : decode cX5_isFenced 13 = .ok (.iload_n 2, 1) := by decide +kernel
theorem dX5_isFenced_14 : decode cX5_isFenced 14 = .ok (.invokevirtual 84, 3) := by decide +kernel
theorem dX5_isFenced_17 : decode cX5_isFenced 17 = .ok (.ireturn, 1) := by decide +kernel
theorem dX5_rejections_0 : decode cX5_rejections 0 = .ok (.aload_n 0, 1) := by decide +kernel
theorem dX5_rejections_1 : decode cX5_rejections 1 = .ok (.getfield 12, 3) := by decide +kernel
theorem dX5_rejections_4 : decode cX5_rejections 4 = .ok (.getfield 87, 3) := by decide +kernel
theorem dX5_rejections_7 : decode cX5_rejections 7 = .ok (.ireturn, 1) := by decide +kernel
theorem dX5_createLedger_0 : decode cX5_createLedger 0 = .ok (.iload_n 1, 1) := by decide +kernel
theorem dX5_createLedger_1 : decode cX5_createLedger 1 = .ok (.iconst 1, 1) := by decide +kernel
theorem dX5_createLedger_2 : decode cX5_createLedger 2 = .ok (.if_icmp .lt 8, 3) := by decide +kernel
theorem dX5_createLedger_5 : decode cX5_createLedger 5 = .ok (.iload_n 1, 1) := by decide +kernel
theorem dX5_createLedger_6 : decode cX5_createLedger 6 = .ok (.iconst 5, 1) := by decide +kernel
theorem dX5_createLedger_7 : decode cX5_createLedger 7 = .ok (.if_icmp .le 13, 3) := by decide +kernel
theorem dX5_createLedger_10 : decode cX5_createLedger 10 = .ok (.new 90, 3) := by decide +kernel
theorem dX5_createLedger_13 : decode cX5_createLedger 13 = .ok (.dup, 1) := by decide +kernel
theorem dX5_createLedger_14 : decode cX5_createLedger 14 = .ok (.ldc 92, 2) := by decide +kernel
theorem dX5_createLedger_16 : decode cX5_createLedger 16 = .ok (.invokespecial 94, 3) := by decide +kernel
theorem dX5_createLedger_19 : decode cX5_createLedger 19 = .ok (.athrow, 1) := by decide +kernel
theorem dX5_createLedger_20 : decode cX5_createLedger 20 = .ok (.iload_n 2, 1) := by decide +kernel
theorem dX5_createLedger_21 : decode cX5_createLedger 21 = .ok (.iconst 1, 1) := by decide +kernel
theorem dX5_createLedger_22 : decode cX5_createLedger 22 = .ok (.if_icmp .lt 8, 3) := by decide +kernel
theorem dX5_createLedger_25 : decode cX5_createLedger 25 = .ok (.iload_n 2, 1) := by decide +kernel
theorem dX5_createLedger_26 : decode cX5_createLedger 26 = .ok (.iload_n 1, 1) := by decide +kernel
theorem dX5_createLedger_27 : decode cX5_createLedger 27 = .ok (.if_icmp .le 13, 3) := by decide +kernel
theorem dX5_createLedger_30 : decode cX5_createLedger 30 = .ok (.new 90, 3) := by decide +kernel
theorem dX5_createLedger_33 : decode cX5_createLedger 33 = .ok (.dup, 1) := by decide +kernel
theorem dX5_createLedger_34 : decode cX5_createLedger 34 = .ok (.ldc 95, 2) := by decide +kernel
theorem dX5_createLedger_36 : decode cX5_createLedger 36 = .ok (.invokespecial 94, 3) := by decide +kernel
theorem dX5_createLedger_39 : decode cX5_createLedger 39 = .ok (.athrow, 1) := by decide +kernel
theorem dX5_createLedger_40 : decode cX5_createLedger 40 = .ok (.iload_n 3, 1) := by decide +kernel
theorem dX5_createLedger_41 : decode cX5_createLedger 41 = .ok (.iconst 1, 1) := by decide +kernel
theorem dX5_createLedger_42 : decode cX5_createLedger 42 = .ok (.if_icmp .lt 8, 3) := by decide +kernel
theorem dX5_createLedger_45 : decode cX5_createLedger 45 = .ok (.iload_n 3, 1) := by decide +kernel
theorem dX5_createLedger_46 : decode cX5_createLedger 46 = .ok (.iload_n 2, 1) := by decide +kernel
theorem dX5_createLedger_47 : decode cX5_createLedger 47 = .ok (.if_icmp .le 13, 3) := by decide +kernel
theorem dX5_createLedger_50 : decode cX5_createLedger 50 = .ok (.new 90, 3) := by decide +kernel
theorem dX5_createLedger_53 : decode cX5_createLedger 53 = .ok (.dup, 1) := by decide +kernel
theorem dX5_createLedger_54 : decode cX5_createLedger 54 = .ok (.ldc 97, 2) := by decide +kernel
theorem dX5_createLedger_56 : decode cX5_createLedger 56 = .ok (.invokespecial 94, 3) := by decide +kernel
theorem dX5_createLedger_59 : decode cX5_createLedger 59 = .ok (.athrow, 1) := by decide +kernel
theorem dX5_createLedger_60 : decode cX5_createLedger 60 = .ok (.aload_n 0, 1) := by decide +kernel
theorem dX5_createLedger_61 : decode cX5_createLedger 61 = .ok (.getfield 12, 3) := by decide +kernel
theorem dX5_createLedger_64 : decode cX5_createLedger 64 = .ok (.getfield 99, 3) := by decide +kernel
theorem dX5_createLedger_67 : decode cX5_createLedger 67 = .ok (.iconst 4, 1) := by decide +kernel
theorem dX5_createLedger_68 : decode cX5_createLedger 68 = .ok (.if_icmp .lt 13, 3) := by decide +kernel
theorem dX5_createLedger_71 : decode cX5_createLedger 71 = .ok (.new 27, 3) := by decide +kernel
theorem dX5_createLedger_74 : decode cX5_createLedger 74 = .ok (.dup, 1) := by decide +kernel
theorem dX5_createLedger_75 : decode cX5_createLedger 75 = .ok (.ldc 102, 2) := by decide +kernel
theorem dX5_createLedger_77 : decode cX5_createLedger 77 = .ok (.invokespecial 31, 3) := by decide +kernel
theorem dX5_createLedger_80 : decode cX5_createLedger 80 = .ok (.athrow, 1) := by decide +kernel
theorem dX5_createLedger_81 : decode cX5_createLedger 81 = .ok (.aload_n 0, 1) := by decide +kernel
theorem dX5_createLedger_82 : decode cX5_createLedger 82 = .ok (.getfield 12, 3) := by decide +kernel
theorem dX5_createLedger_85 : decode cX5_createLedger 85 = .ok (.invokevirtual 104, 3) := by decide +kernel
theorem dX5_createLedger_88 : decode cX5_createLedger 88 = .ok (.invokestatic 107, 3) := by decide +kernel
theorem dX5_createLedger_91 : decode cX5_createLedger 91 = .ok (.iload_n 1, 1) := by decide +kernel
theorem dX5_createLedger_92 : decode cX5_createLedger 92 = .ok (.if_icmp .ge 13, 3) := by decide +kernel
theorem dX5_createLedger_95 : decode cX5_createLedger 95 = .ok (.new 27, 3) := by decide +kernel
theorem dX5_createLedger_98 : decode cX5_createLedger 98 = .ok (.dup, 1) := by decide +kernel
theorem dX5_createLedger_99 : decode cX5_createLedger 99 = .ok (.ldc 112, 2) := by decide +kernel
theorem dX5_createLedger_101 : decode cX5_createLedger 101 = .ok (.invokespecial 31, 3) := by decide +kernel
theorem dX5_createLedger_104 : decode cX5_createLedger 104 = .ok (.athrow, 1) := by decide +kernel
theorem dX5_createLedger_105 : decode cX5_createLedger 105 = .ok (.aload_n 0, 1) := by decide +kernel
theorem dX5_createLedger_106 : decode cX5_createLedger 106 = .ok (.getfield 19, 3) := by decide +kernel
theorem dX5_createLedger_109 : decode cX5_createLedger 109 = .ok (.aload_n 0, 1) := by decide +kernel
theorem dX5_createLedger_110 : decode cX5_createLedger 110 = .ok (.getfield 12, 3) := by decide +kernel
theorem dX5_createLedger_113 : decode cX5_createLedger 113 = .ok (.invokevirtual 34, 3) := by decide +kernel
theorem dX5_createLedger_116 : decode cX5_createLedger 116 = .ok (.aload_n 0, 1) := by decide +kernel
theorem dX5_createLedger_117 : decode cX5_createLedger 117 = .ok (.getfield 12, 3) := by decide +kernel
theorem dX5_createLedger_120 : decode cX5_createLedger 120 = .ok (.iload_n 1, 1) := by decide +kernel
theorem dX5_createLedger_121 : decode cX5_createLedger 121 = .ok (.iload_n 2, 1) := by decide +kernel
theorem dX5_createLedger_122 : decode cX5_createLedger 122 = .ok (.iload_n 3, 1) := by decide +kernel
theorem dX5_createLedger_123 : decode cX5_createLedger 123 = .ok (.invokevirtual 114, 3) := by decide +kernel
theorem dX5_createLedger_126 : decode cX5_createLedger 126 = .ok (.ireturn, 1) := by decide +kernel
theorem dX5_append_0 : decode cX5_append 0 = .ok (.aload_n 0, 1) := by decide +kernel
theorem dX5_append_1 : decode cX5_append 1 = .ok (.iload_n 1, 1) := by decide +kernel
theorem dX5_append_2 : decode cX5_append 2 = .ok (.invokevirtual 80, 3) := by decide +kernel
theorem dX5_append_5 : decode cX5_append 5 = .ok (.astore_n 3, 1) := by decide +kernel
theorem dX5_append_6 : decode cX5_append 6 = .ok (.iload_n 2, 1) := by decide +kernel
theorem dX5_append_7 : decode cX5_append 7 = .ok (.ifCond .lt 10, 3) := by decide +kernel
theorem dX5_append_10 : decode cX5_append 10 = .ok (.iload_n 2, 1) := by decide +kernel
theorem dX5_append_11 : decode cX5_append 11 = .ok (.sipush 999, 3) := by decide +kernel
theorem dX5_append_14 : decode cX5_append 14 = .ok (.if_icmp .le 13, 3) := by decide +kernel
theorem dX5_append_17 : decode cX5_append 17 = .ok (.new 90, 3) := by decide +kernel
theorem dX5_append_20 : decode cX5_append 20 = .ok (.dup, 1) := by decide +kernel
theorem dX5_append_21 : decode cX5_append 21 = .ok (.ldc 118, 2) := by decide +kernel
theorem dX5_append_23 : decode cX5_append 23 = .ok (.invokespecial 94, 3) := by decide +kernel
theorem dX5_append_26 : decode cX5_append 26 = .ok (.athrow, 1) := by decide +kernel
theorem dX5_append_27 : decode cX5_append 27 = .ok (.aload_n 3, 1) := by decide +kernel
theorem dX5_append_28 : decode cX5_append 28 = .ok (.getfield 120, 3) := by decide +kernel
theorem dX5_append_31 : decode cX5_append 31 = .ok (.ifCond .eq 13, 3) := by decide +kernel
theorem dX5_append_34 : decode cX5_append 34 = .ok (.new 27, 3) := by decide +kernel
theorem dX5_append_37 : decode cX5_append 37 = .ok (.dup, 1) := by decide +kernel
theorem dX5_append_38 : decode cX5_append 38 = .ok (.ldc 125, 2) := by decide +kernel
theorem dX5_append_40 : decode cX5_append 40 = .ok (.invokespecial 31, 3) := by decide +kernel
theorem dX5_append_43 : decode cX5_append 43 = .ok (.athrow, 1) := by decide +kernel
theorem dX5_append_44 : decode cX5_append 44 = .ok (.aload_n 3, 1) := by decide +kernel
theorem dX5_append_45 : decode cX5_append 45 = .ok (.getfield 127, 3) := by decide +kernel
theorem dX5_append_48 : decode cX5_append 48 = .ok (.bipush 40, 2) := by decide +kernel
theorem dX5_append_50 : decode cX5_append 50 = .ok (.if_icmp .lt 13, 3) := by decide +kernel
theorem dX5_append_53 : decode cX5_append 53 = .ok (.new 27, 3) := by decide +kernel
theorem dX5_append_56 : decode cX5_append 56 = .ok (.dup, 1) := by decide +kernel
theorem dX5_append_57 : decode cX5_append 57 = .ok (.ldc 130, 2) := by decide +kernel
theorem dX5_append_59 : decode cX5_append 59 = .ok (.invokespecial 31, 3) := by decide +kernel
theorem dX5_append_62 : decode cX5_append 62 = .ok (.athrow, 1) := by decide +kernel
theorem dX5_append_63 : decode cX5_append 63 = .ok (.aload_n 0, 1) := by decide +kernel
theorem dX5_append_64 : decode cX5_append 64 = .ok (.getfield 19, 3) := by decide +kernel
theorem dX5_append_67 : decode cX5_append 67 = .ok (.aload_n 0, 1) := by decide +kernel
theorem dX5_append_68 : decode cX5_append 68 = .ok (.getfield 12, 3) := by decide +kernel
theorem dX5_append_71 : decode cX5_append 71 = .ok (.invokevirtual 34, 3) := by decide +kernel
theorem dX5_append_74 : decode cX5_append 74 = .ok (.aload_n 0, 1) := by decide +kernel
theorem dX5_append_75 : decode cX5_append 75 = .ok (.getfield 12, 3) := by decide +kernel
theorem dX5_append_78 : decode cX5_append 78 = .ok (.aload_n 3, 1) := by decide +kernel
theorem dX5_append_79 : decode cX5_append 79 = .ok (.iload_n 2, 1) := by decide +kernel
theorem dX5_append_80 : decode cX5_append 80 = .ok (.invokevirtual 132, 3) := by decide +kernel
theorem dX5_append_83 : decode cX5_append 83 = .ok (.ireturn, 1) := by decide +kernel
theorem dX5_replace_0 : decode cX5_replace 0 = .ok (.aload_n 0, 1) := by decide +kernel
theorem dX5_replace_1 : decode cX5_replace 1 = .ok (.iload_n 1, 1) := by decide +kernel
theorem dX5_replace_2 : decode cX5_replace 2 = .ok (.invokevirtual 80, 3) := by decide +kernel
theorem dX5_replace_5 : decode cX5_replace 5 = .ok (.astore_n 3, 1) := by decide +kernel
theorem dX5_replace_6 : decode cX5_replace 6 = .ok (.iload_n 2, 1) := by decide +kernel
theorem dX5_replace_7 : decode cX5_replace 7 = .ok (.ifCond .lt 11, 3) := by decide +kernel
theorem dX5_replace_10 : decode cX5_replace 10 = .ok (.iload_n 2, 1) := by decide +kernel
theorem dX5_replace_11 : decode cX5_replace 11 = .ok (.aload_n 3, 1) := by decide +kernel
theorem dX5_replace_12 : decode cX5_replace 12 = .ok (.getfield 136, 3) := by decide +kernel
theorem dX5_replace_15 : decode cX5_replace 15 = .ok (.if_icmp .lt 13, 3) := by decide +kernel
theorem dX5_replace_18 : decode cX5_replace 18 = .ok (.new 90, 3) := by decide +kernel
theorem dX5_replace_21 : decode cX5_replace 21 = .ok (.dup, 1) := by decide +kernel
theorem dX5_replace_22 : decode cX5_replace 22 = .ok (.ldc 139, 2) := by decide +kernel
theorem dX5_replace_24 : decode cX5_replace 24 = .ok (.invokespecial 94, 3) := by decide +kernel
theorem dX5_replace_27 : decode cX5_replace 27 = .ok (.athrow, 1) := by decide +kernel
theorem dX5_replace_28 : decode cX5_replace 28 = .ok (.aload_n 3, 1) := by decide +kernel
theorem dX5_replace_29 : decode cX5_replace 29 = .ok (.getfield 120, 3) := by decide +kernel
theorem dX5_replace_32 : decode cX5_replace 32 = .ok (.ifCond .eq 13, 3) := by decide +kernel
theorem dX5_replace_35 : decode cX5_replace 35 = .ok (.new 27, 3) := by decide +kernel
theorem dX5_replace_38 : decode cX5_replace 38 = .ok (.dup, 1) := by decide +kernel
theorem dX5_replace_39 : decode cX5_replace 39 = .ok (.ldc 125, 2) := by decide +kernel
theorem dX5_replace_41 : decode cX5_replace 41 = .ok (.invokespecial 31, 3) := by decide +kernel
theorem dX5_replace_44 : decode cX5_replace 44 = .ok (.athrow, 1) := by decide +kernel
theorem dX5_replace_45 : decode cX5_replace 45 = .ok (.aload_n 0, 1) := by decide +kernel
theorem dX5_replace_46 : decode cX5_replace 46 = .ok (.getfield 12, 3) := by decide +kernel
theorem dX5_replace_49 : decode cX5_replace 49 = .ok (.aload_n 3, 1) := by decide +kernel
theorem dX5_replace_50 : decode cX5_replace 50 = .ok (.aload_n 3, 1) := by decide +kernel
theorem dX5_replace_51 : decode cX5_replace 51 = .ok (.invokevirtual 141, 3) := by decide +kernel
theorem dX5_replace_54 : decode cX5_replace 54 = .ok (.invokevirtual 144, 3) := by decide +kernel
theorem dX5_replace_57 : decode cX5_replace 57 = .ok (.invokevirtual 147, 3) := by decide +kernel
theorem dX5_replace_60 : decode cX5_replace 60 = .ok (.istore 4, 2) := by decide +kernel
theorem dX5_replace_62 : decode cX5_replace 62 = .ok (.iload 4, 2) := by decide +kernel
theorem dX5_replace_64 : decode cX5_replace 64 = .ok (.iconst (-1), 1) := by decide +kernel
theorem dX5_replace_65 : decode cX5_replace 65 = .ok (.if_icmp .ne 13, 3) := by decide +kernel
theorem dX5_replace_68 : decode cX5_replace 68 = .ok (.new 27, 3) := by decide +kernel
theorem dX5_replace_71 : decode cX5_replace 71 = .ok (.dup, 1) := by decide +kernel
theorem dX5_replace_72 : decode cX5_replace 72 = .ok (.ldc 150, 2) := by decide +kernel
theorem dX5_replace_74 : decode cX5_replace 74 = .ok (.invokespecial 31, 3) := by decide +kernel
theorem dX5_replace_77 : decode cX5_replace 77 = .ok (.athrow, 1) := by decide +kernel
theorem dX5_replace_78 : decode cX5_replace 78 = .ok (.aload_n 0, 1) := by decide +kernel
theorem dX5_replace_79 : decode cX5_replace 79 = .ok (.getfield 19, 3) := by decide +kernel
theorem dX5_replace_82 : decode cX5_replace 82 = .ok (.aload_n 0, 1) := by decide +kernel
theorem dX5_replace_83 : decode cX5_replace 83 = .ok (.getfield 12, 3) := by decide +kernel
theorem dX5_replace_86 : decode cX5_replace 86 = .ok (.invokevirtual 34, 3) := by decide +kernel
theorem dX5_replace_89 : decode cX5_replace 89 = .ok (.aload_n 0, 1) := by decide +kernel
theorem dX5_replace_90 : decode cX5_replace 90 = .ok (.getfield 12, 3) := by decide +kernel
theorem dX5_replace_93 : decode cX5_replace 93 = .ok (.aload_n 3, 1) := by decide +kernel
theorem dX5_replace_94 : decode cX5_replace 94 = .ok (.iload_n 2, 1) := by decide +kernel
theorem dX5_replace_95 : decode cX5_replace 95 = .ok (.iload 4, 2) := by decide +kernel
theorem dX5_replace_97 : decode cX5_replace 97 = .ok (.invokevirtual 152, 3) := by decide +kernel
theorem dX5_replace_100 : decode cX5_replace 100 = .ok (.iload 4, 2) := by decide +kernel
theorem dX5_replace_102 : decode cX5_replace 102 = .ok (.ireturn, 1) := by decide +kernel
theorem dX5_recover_0 : decode cX5_recover 0 = .ok (.aload_n 0, 1) := by decide +kernel
theorem dX5_recover_1 : decode cX5_recover 1 = .ok (.iload_n 1, 1) := by decide +kernel
theorem dX5_recover_2 : decode cX5_recover 2 = .ok (.invokevirtual 80, 3) := by decide +kernel
theorem dX5_recover_5 : decode cX5_recover 5 = .ok (.astore_n 2, 1) := by decide +kernel
theorem dX5_recover_6 : decode cX5_recover 6 = .ok (.aload_n 2, 1) := by decide +kernel
theorem dX5_recover_7 : decode cX5_recover 7 = .ok (.getfield 120, 3) := by decide +kernel
theorem dX5_recover_10 : decode cX5_recover 10 = .ok (.iconst 2, 1) := by decide +kernel
theorem dX5_recover_11 : decode cX5_recover 11 = .ok (.if_icmp .ne 13, 3) := by decide +kernel
theorem dX5_recover_14 : decode cX5_recover 14 = .ok (.new 27, 3) := by decide +kernel
theorem dX5_recover_17 : decode cX5_recover 17 = .ok (.dup, 1) := by decide +kernel
theorem dX5_recover_18 : decode cX5_recover 18 = .ok (.ldc 156, 2) := by decide +kernel
theorem dX5_recover_20 : decode cX5_recover 20 = .ok (.invokespecial 31, 3) := by decide +kernel
theorem dX5_recover_23 : decode cX5_recover 23 = .ok (.athrow, 1) := by decide +kernel
theorem dX5_recover_24 : decode cX5_recover 24 = .ok (.aload_n 0, 1) := by decide +kernel
theorem dX5_recover_25 : decode cX5_recover 25 = .ok (.getfield 19, 3) := by decide +kernel
theorem dX5_recover_28 : decode cX5_recover 28 = .ok (.aload_n 0, 1) := by decide +kernel
theorem dX5_recover_29 : decode cX5_recover 29 = .ok (.getfield 12, 3) := by decide +kernel
theorem dX5_recover_32 : decode cX5_recover 32 = .ok (.invokevirtual 34, 3) := by decide +kernel
theorem dX5_recover_35 : decode cX5_recover 35 = .ok (.aload_n 0, 1) := by decide +kernel
theorem dX5_recover_36 : decode cX5_recover 36 = .ok (.getfield 12, 3) := by decide +kernel
theorem dX5_recover_39 : decode cX5_recover 39 = .ok (.aload_n 2, 1) := by decide +kernel
theorem dX5_recover_40 : decode cX5_recover 40 = .ok (.invokevirtual 158, 3) := by decide +kernel
theorem dX5_recover_43 : decode cX5_recover 43 = .ok (.ireturn, 1) := by decide +kernel
theorem dX5_repair_0 : decode cX5_repair 0 = .ok (.aload_n 0, 1) := by decide +kernel
theorem dX5_repair_1 : decode cX5_repair 1 = .ok (.iload_n 1, 1) := by decide +kernel
theorem dX5_repair_2 : decode cX5_repair 2 = .ok (.invokevirtual 80, 3) := by decide +kernel
theorem dX5_repair_5 : decode cX5_repair 5 = .ok (.astore_n 2, 1) := by decide +kernel
theorem dX5_repair_6 : decode cX5_repair 6 = .ok (.aload_n 2, 1) := by decide +kernel
theorem dX5_repair_7 : decode cX5_repair 7 = .ok (.getfield 120, 3) := by decide +kernel
theorem dX5_repair_10 : decode cX5_repair 10 = .ok (.iconst 2, 1) := by decide +kernel
theorem dX5_repair_11 : decode cX5_repair 11 = .ok (.if_icmp .eq 13, 3) := by decide +kernel
theorem dX5_repair_14 : decode cX5_repair 14 = .ok (.new 27, 3) := by decide +kernel
theorem dX5_repair_17 : decode cX5_repair 17 = .ok (.dup, 1) := by decide +kernel
theorem dX5_repair_18 : decode cX5_repair 18 = .ok (.ldc 162, 2) := by decide +kernel
theorem dX5_repair_20 : decode cX5_repair 20 = .ok (.invokespecial 31, 3) := by decide +kernel
theorem dX5_repair_23 : decode cX5_repair 23 = .ok (.athrow, 1) := by decide +kernel
theorem dX5_repair_24 : decode cX5_repair 24 = .ok (.aload_n 0, 1) := by decide +kernel
theorem dX5_repair_25 : decode cX5_repair 25 = .ok (.getfield 19, 3) := by decide +kernel
theorem dX5_repair_28 : decode cX5_repair 28 = .ok (.aload_n 0, 1) := by decide +kernel
theorem dX5_repair_29 : decode cX5_repair 29 = .ok (.getfield 12, 3) := by decide +kernel
theorem dX5_repair_32 : decode cX5_repair 32 = .ok (.invokevirtual 34, 3) := by decide +kernel
theorem dX5_repair_35 : decode cX5_repair 35 = .ok (.aload_n 0, 1) := by decide +kernel
theorem dX5_repair_36 : decode cX5_repair 36 = .ok (.getfield 12, 3) := by decide +kernel
theorem dX5_repair_39 : decode cX5_repair 39 = .ok (.aload_n 2, 1) := by decide +kernel
theorem dX5_repair_40 : decode cX5_repair 40 = .ok (.invokevirtual 164, 3) := by decide +kernel
theorem dX5_repair_43 : decode cX5_repair 43 = .ok (.aload_n 0, 1) := by decide +kernel
theorem dX5_repair_44 : decode cX5_repair 44 = .ok (.getfield 12, 3) := by decide +kernel
theorem dX5_repair_47 : decode cX5_repair 47 = .ok (.aload_n 2, 1) := by decide +kernel
theorem dX5_repair_48 : decode cX5_repair 48 = .ok (.invokevirtual 168, 3) := by decide +kernel
theorem dX5_repair_51 : decode cX5_repair 51 = .ok (.ireturn, 1) := by decide +kernel
theorem dX5_state_0 : decode cX5_state 0 = .ok (.aload_n 0, 1) := by decide +kernel
theorem dX5_state_1 : decode cX5_state 1 = .ok (.iload_n 1, 1) := by decide +kernel
theorem dX5_state_2 : decode cX5_state 2 = .ok (.invokevirtual 80, 3) := by decide +kernel
theorem dX5_state_5 : decode cX5_state 5 = .ok (.getfield 120, 3) := by decide +kernel
theorem dX5_state_8 : decode cX5_state 8 = .ok (.ireturn, 1) := by decide +kernel
theorem dX5_lastReadable_0 : decode cX5_lastReadable 0 = .ok (.aload_n 0, 1) := by decide +kernel
theorem dX5_lastReadable_1 : decode cX5_lastReadable 1 = .ok (.iload_n 1, 1) := by decide +kernel
theorem dX5_lastReadable_2 : decode cX5_lastReadable 2 = .ok (.invokevirtual 80, 3) := by decide +kernel
theorem dX5_lastReadable_5 : decode cX5_lastReadable 5 = .ok (.invokevirtual 173, 3) := by decide +kernel
theorem dX5_lastReadable_8 : decode cX5_lastReadable 8 = .ok (.ireturn, 1) := by decide +kernel
theorem dX5_appended_0 : decode cX5_appended 0 = .ok (.aload_n 0, 1) := by decide +kernel
theorem dX5_appended_1 : decode cX5_appended 1 = .ok (.iload_n 1, 1) := by decide +kernel
theorem dX5_appended_2 : decode cX5_appended 2 = .ok (.invokevirtual 80, 3) := by decide +kernel
theorem dX5_appended_5 : decode cX5_appended 5 = .ok (.getfield 127, 3) := by decide +kernel
theorem dX5_appended_8 : decode cX5_appended 8 = .ok (.ireturn, 1) := by decide +kernel
theorem dX5_acknowledgements_0 : decode cX5_acknowledgements 0 = .ok (.aload_n 0, 1) := by decide +kernel
theorem dX5_acknowledgements_1 : decode cX5_acknowledgements 1 = .ok (.iload_n 1, 1) := by decide +kernel
theorem dX5_acknowledgements_2 : decode cX5_acknowledgements 2 = .ok (.invokevirtual 80, 3) := by decide +kernel
theorem dX5_acknowledgements_5 : decode cX5_acknowledgements 5 = .ok (.astore_n 3, 1) := by decide +kernel
theorem dX5_acknowledgements_6 : decode cX5_acknowledgements 6 = .ok (.aload_n 3, 1) := by decide +kernel
theorem dX5_acknowledgements_7 : decode cX5_acknowledgements 7 = .ok (.iload_n 2, 1) := by decide +kernel
theorem dX5_acknowledgements_8 : decode cX5_acknowledgements 8 = .ok (.invokestatic 186, 3) := by decide +kernel
theorem dX5_acknowledgements_11 : decode cX5_acknowledgements 11 = .ok (.aload_n 3, 1) := by decide +kernel
theorem dX5_acknowledgements_12 : decode cX5_acknowledgements 12 = .ok (.iload_n 2, 1) := by decide +kernel
theorem dX5_acknowledgements_13 : decode cX5_acknowledgements 13 = .ok (.invokevirtual 190, 3) := by decide +kernel
theorem dX5_acknowledgements_16 : decode cX5_acknowledgements 16 = .ok (.ireturn, 1) := by decide +kernel
theorem dX5_holders_0 : decode cX5_holders 0 = .ok (.aload_n 0, 1) := by decide +kernel
theorem dX5_holders_1 : decode cX5_holders 1 = .ok (.iload_n 1, 1) := by decide +kernel
theorem dX5_holders_2 : decode cX5_holders 2 = .ok (.invokevirtual 80, 3) := by decide +kernel
theorem dX5_holders_5 : decode cX5_holders 5 = .ok (.astore_n 3, 1) := by decide +kernel
theorem dX5_holders_6 : decode cX5_holders 6 = .ok (.aload_n 3, 1) := by decide +kernel
theorem dX5_holders_7 : decode cX5_holders 7 = .ok (.iload_n 2, 1) := by decide +kernel
theorem dX5_holders_8 : decode cX5_holders 8 = .ok (.invokestatic 186, 3) := by decide +kernel
theorem dX5_holders_11 : decode cX5_holders 11 = .ok (.aload_n 0, 1) := by decide +kernel
theorem dX5_holders_12 : decode cX5_holders 12 = .ok (.getfield 12, 3) := by decide +kernel
theorem dX5_holders_15 : decode cX5_holders 15 = .ok (.aload_n 3, 1) := by decide +kernel
theorem dX5_holders_16 : decode cX5_holders 16 = .ok (.iload_n 2, 1) := by decide +kernel
theorem dX5_holders_17 : decode cX5_holders 17 = .ok (.invokevirtual 193, 3) := by decide +kernel
theorem dX5_holders_20 : decode cX5_holders 20 = .ok (.ireturn, 1) := by decide +kernel
theorem dX5_fragmentCount_0 : decode cX5_fragmentCount 0 = .ok (.aload_n 0, 1) := by decide +kernel
theorem dX5_fragmentCount_1 : decode cX5_fragmentCount 1 = .ok (.iload_n 1, 1) := by decide +kernel
theorem dX5_fragmentCount_2 : decode cX5_fragmentCount 2 = .ok (.invokevirtual 80, 3) := by decide +kernel
theorem dX5_fragmentCount_5 : decode cX5_fragmentCount 5 = .ok (.getfield 196, 3) := by decide +kernel
theorem dX5_fragmentCount_8 : decode cX5_fragmentCount 8 = .ok (.ireturn, 1) := by decide +kernel
theorem dX5_member_0 : decode cX5_member 0 = .ok (.aload_n 0, 1) := by decide +kernel
theorem dX5_member_1 : decode cX5_member 1 = .ok (.iload_n 1, 1) := by decide +kernel
theorem dX5_member_2 : decode cX5_member 2 = .ok (.invokevirtual 80, 3) := by decide +kernel
theorem dX5_member_5 : decode cX5_member 5 = .ok (.astore 4, 2) := by decide +kernel
theorem dX5_member_7 : decode cX5_member 7 = .ok (.aload 4, 2) := by decide +kernel
theorem dX5_member_9 : decode cX5_member 9 = .ok (.iload_n 2, 1) := by decide +kernel
theorem dX5_member_10 : decode cX5_member 10 = .ok (.invokestatic 199, 3) := by decide +kernel
theorem dX5_member_13 : decode cX5_member 13 = .ok (.iload_n 3, 1) := by decide +kernel
theorem dX5_member_14 : decode cX5_member 14 = .ok (.ifCond .lt 12, 3) := by decide +kernel
theorem dX5_member_17 : decode cX5_member 17 = .ok (.iload_n 3, 1) := by decide +kernel
theorem dX5_member_18 : decode cX5_member 18 = .ok (.aload 4, 2) := by decide +kernel
theorem dX5_member_20 : decode cX5_member 20 = .ok (.getfield 136, 3) := by decide +kernel
theorem dX5_member_23 : decode cX5_member 23 = .ok (.if_icmp .lt 13, 3) := by decide +kernel
theorem dX5_member_26 : decode cX5_member 26 = .ok (.new 90, 3) := by decide +kernel
theorem dX5_member_29 : decode cX5_member 29 = .ok (.dup, 1) := by decide +kernel
theorem dX5_member_30 : decode cX5_member 30 = .ok (.ldc 139, 2) := by decide +kernel
theorem dX5_member_32 : decode cX5_member 32 = .ok (.invokespecial 94, 3) := by decide +kernel
theorem dX5_member_35 : decode cX5_member 35 = .ok (.athrow, 1) := by decide +kernel
theorem dX5_member_36 : decode cX5_member 36 = .ok (.aload 4, 2) := by decide +kernel
theorem dX5_member_38 : decode cX5_member 38 = .ok (.iload_n 2, 1) := by decide +kernel
theorem dX5_member_39 : decode cX5_member 39 = .ok (.iload_n 3, 1) := by decide +kernel
theorem dX5_member_40 : decode cX5_member 40 = .ok (.invokevirtual 205, 3) := by decide +kernel
theorem dX5_member_43 : decode cX5_member 43 = .ok (.ireturn, 1) := by decide +kernel
theorem dX5_underReplicated_0 : decode cX5_underReplicated 0 = .ok (.aload_n 0, 1) := by decide +kernel
theorem dX5_underReplicated_1 : decode cX5_underReplicated 1 = .ok (.getfield 12, 3) := by decide +kernel
theorem dX5_underReplicated_4 : decode cX5_underReplicated 4 = .ok (.aload_n 0, 1) := by decide +kernel
theorem dX5_underReplicated_5 : decode cX5_underReplicated 5 = .ok (.iload_n 1, 1) := by decide +kernel
theorem dX5_underReplicated_6 : decode cX5_underReplicated 6 = .ok (.invokevirtual 80, 3) := by decide +kernel
theorem dX5_underReplicated_9 : decode cX5_underReplicated 9 = .ok (.invokevirtual 209, 3) := by decide +kernel
theorem dX5_underReplicated_12 : decode cX5_underReplicated 12 = .ok (.ireturn, 1) := by decide +kernel
theorem dX5_undo_0 : decode cX5_undo 0 = .ok (.aload_n 0, 1) := by decide +kernel
theorem dX5_undo_1 : decode cX5_undo 1 = .ok (.getfield 19, 3) := by decide +kernel
theorem dX5_undo_4 : decode cX5_undo 4 = .ok (.getfield 212, 3) := by decide +kernel
theorem dX5_undo_7 : decode cX5_undo 7 = .ok (.iconst 1, 1) := by decide +kernel
theorem dX5_undo_8 : decode cX5_undo 8 = .ok (.if_icmp .ge 13, 3) := by decide +kernel
theorem dX5_undo_11 : decode cX5_undo 11 = .ok (.new 27, 3) := by decide +kernel
theorem dX5_undo_14 : decode cX5_undo 14 = .ok (.dup, 1) := by decide +kernel
theorem dX5_undo_15 : decode cX5_undo 15 = .ok (.ldc 215, 2) := by decide +kernel
theorem dX5_undo_17 : decode cX5_undo 17 = .ok (.invokespecial 31, 3) := by decide +kernel
theorem dX5_undo_20 : decode cX5_undo 20 = .ok (.athrow, 1) := by decide +kernel
theorem dX5_undo_21 : decode cX5_undo 21 = .ok (.aload_n 0, 1) := by decide +kernel
theorem dX5_undo_22 : decode cX5_undo 22 = .ok (.getfield 19, 3) := by decide +kernel
theorem dX5_undo_25 : decode cX5_undo 25 = .ok (.aload_n 0, 1) := by decide +kernel
theorem dX5_undo_26 : decode cX5_undo 26 = .ok (.getfield 12, 3) := by decide +kernel
theorem dX5_undo_29 : decode cX5_undo 29 = .ok (.invokevirtual 217, 3) := by decide +kernel
theorem dX5_undo_32 : decode cX5_undo 32 = .ok (.aload_n 0, 1) := by decide +kernel
theorem dX5_undo_33 : decode cX5_undo 33 = .ok (.getfield 19, 3) := by decide +kernel
theorem dX5_undo_36 : decode cX5_undo 36 = .ok (.getfield 212, 3) := by decide +kernel
theorem dX5_undo_39 : decode cX5_undo 39 = .ok (.ireturn, 1) := by decide +kernel
theorem dX5_existingNode_0 : decode cX5_existingNode 0 = .ok (.aload_n 0, 1) := by decide +kernel
theorem dX5_existingNode_1 : decode cX5_existingNode 1 = .ok (.getfield 12, 3) := by decide +kernel
theorem dX5_existingNode_4 : decode cX5_existingNode 4 = .ok (.iload_n 1, 1) := by decide +kernel
theorem dX5_existingNode_5 : decode cX5_existingNode 5 = .ok (.invokevirtual 224, 3) := by decide +kernel
theorem dX5_existingNode_8 : decode cX5_existingNode 8 = .ok (.astore_n 2, 1) := by decide +kernel
theorem dX5_existingNode_9 : decode cX5_existingNode 9 = .ok (.aload_n 2, 1) := by decide +kernel
theorem dX5_existingNode_10 : decode cX5_existingNode 10 = .ok (.ifnonnull 14, 3) := by decide +kernel
theorem dX5_existingNode_13 : decode cX5_existingNode 13 = .ok (.new 90, 3) := by decide +kernel
theorem dX5_existingNode_16 : decode cX5_existingNode 16 = .ok (.dup, 1) := by decide +kernel
theorem dX5_existingNode_17 : decode cX5_existingNode 17 = .ok (.ldc_w 265, 3) := by decide +kernel
theorem dX5_existingNode_20 : decode cX5_existingNode 20 = .ok (.invokespecial 94, 3) := by decide +kernel
theorem dX5_existingNode_23 : decode cX5_existingNode 23 = .ok (.athrow, 1) := by decide +kernel
theorem dX5_existingNode_24 : decode cX5_existingNode 24 = .ok (.aload_n 2, 1) := by decide +kernel
theorem dX5_existingNode_25 : decode cX5_existingNode 25 = .ok (.areturn, 1) := by decide +kernel
theorem dX5_existingLedger_0 : decode cX5_existingLedger 0 = .ok (.aload_n 0, 1) := by decide +kernel
theorem dX5_existingLedger_1 : decode cX5_existingLedger 1 = .ok (.getfield 12, 3) := by decide +kernel
theorem dX5_existingLedger_4 : decode cX5_existingLedger 4 = .ok (.iload_n 1, 1) := by decide +kernel
theorem dX5_existingLedger_5 : decode cX5_existingLedger 5 = .ok (.invokevirtual 231, 3) := by decide +kernel
theorem dX5_existingLedger_8 : decode cX5_existingLedger 8 = .ok (.astore_n 2, 1) := by decide +kernel
theorem dX5_existingLedger_9 : decode cX5_existingLedger 9 = .ok (.aload_n 2, 1) := by decide +kernel
theorem dX5_existingLedger_10 : decode cX5_existingLedger 10 = .ok (.ifnonnull 14, 3) := by decide +kernel
theorem dX5_existingLedger_13 : decode cX5_existingLedger 13 = .ok (.new 90, 3) := by decide +kernel
theorem dX5_existingLedger_16 : decode cX5_existingLedger 16 = .ok (.dup, 1) := by decide +kernel
theorem dX5_existingLedger_17 : decode cX5_existingLedger 17 = .ok (.ldc_w 267, 3) := by decide +kernel
theorem dX5_existingLedger_20 : decode cX5_existingLedger 20 = .ok (.invokespecial 94, 3) := by decide +kernel
theorem dX5_existingLedger_23 : decode cX5_existingLedger 23 = .ok (.athrow, 1) := by decide +kernel
theorem dX5_existingLedger_24 : decode cX5_existingLedger 24 = .ok (.aload_n 2, 1) := by decide +kernel
theorem dX5_existingLedger_25 : decode cX5_existingLedger 25 = .ok (.areturn, 1) := by decide +kernel
theorem dX5_requireAppended_0 : decode cX5_requireAppended 0 = .ok (.iload_n 1, 1) := by decide +kernel
theorem dX5_requireAppended_1 : decode cX5_requireAppended 1 = .ok (.ifCond .lt 11, 3) := by decide +kernel
theorem dX5_requireAppended_4 : decode cX5_requireAppended 4 = .ok (.iload_n 1, 1) := by decide +kernel
theorem dX5_requireAppended_5 : decode cX5_requireAppended 5 = .ok (.aload_n 0, 1) := by decide +kernel
theorem dX5_requireAppended_6 : decode cX5_requireAppended 6 = .ok (.getfield 127, 3) := by decide +kernel
theorem dX5_requireAppended_9 : decode cX5_requireAppended 9 = .ok (.if_icmp .lt 14, 3) := by decide +kernel
theorem dX5_requireAppended_12 : decode cX5_requireAppended 12 = .ok (.new 90, 3) := by decide +kernel
theorem dX5_requireAppended_15 : decode cX5_requireAppended 15 = .ok (.dup, 1) := by decide +kernel
theorem dX5_requireAppended_16 : decode cX5_requireAppended 16 = .ok (.ldc_w 269, 3) := by decide +kernel
theorem dX5_requireAppended_19 : decode cX5_requireAppended 19 = .ok (.invokespecial 94, 3) := by decide +kernel
theorem dX5_requireAppended_22 : decode cX5_requireAppended 22 = .ok (.athrow, 1) := by decide +kernel
theorem dX5_requireAppended_23 : decode cX5_requireAppended 23 = .ok (.return_, 1) := by decide +kernel
theorem dX5_requireFragment_0 : decode cX5_requireFragment 0 = .ok (.iload_n 1, 1) := by decide +kernel
theorem dX5_requireFragment_1 : decode cX5_requireFragment 1 = .ok (.ifCond .lt 11, 3) := by decide +kernel
theorem dX5_requireFragment_4 : decode cX5_requireFragment 4 = .ok (.iload_n 1, 1) := by decide +kernel
theorem dX5_requireFragment_5 : decode cX5_requireFragment 5 = .ok (.aload_n 0, 1) := by decide +kernel
theorem dX5_requireFragment_6 : decode cX5_requireFragment 6 = .ok (.getfield 196, 3) := by decide +kernel
theorem dX5_requireFragment_9 : decode cX5_requireFragment 9 = .ok (.if_icmp .lt 14, 3) := by decide +kernel
theorem dX5_requireFragment_12 : decode cX5_requireFragment 12 = .ok (.new 90, 3) := by decide +kernel
theorem dX5_requireFragment_15 : decode cX5_requireFragment 15 = .ok (.dup, 1) := by decide +kernel
theorem dX5_requireFragment_16 : decode cX5_requireFragment 16 = .ok (.ldc_w 271, 3) := by decide +kernel
theorem dX5_requireFragment_19 : decode cX5_requireFragment 19 = .ok (.invokespecial 94, 3) := by decide +kernel
theorem dX5_requireFragment_22 : decode cX5_requireFragment 22 = .ok (.athrow, 1) := by decide +kernel
theorem dX5_requireFragment_23 : decode cX5_requireFragment 23 = .ok (.return_, 1) := by decide +kernel
theorem dX5_contains_0 : decode cX5_contains 0 = .ok (.iload_n 1, 1) := by decide +kernel
theorem dX5_contains_1 : decode cX5_contains 1 = .ok (.ifCond .lt 15, 3) := by decide +kernel
theorem dX5_contains_4 : decode cX5_contains 4 = .ok (.iload_n 0, 1) := by decide +kernel
theorem dX5_contains_5 : decode cX5_contains 5 = .ok (.iload_n 1, 1) := by decide +kernel
theorem dX5_contains_6 : decode cX5_contains 6 = .ok (.ishr, 1) := by decide +kernel
theorem dX5_contains_7 : decode cX5_contains 7 = .ok (.iconst 1, 1) := by decide +kernel
theorem dX5_contains_8 : decode cX5_contains 8 = .ok (.iand, 1) := by decide +kernel
theorem dX5_contains_9 : decode cX5_contains 9 = .ok (.ifCond .eq 7, 3) := by decide +kernel
theorem dX5_contains_12 : decode cX5_contains 12 = .ok (.iconst 1, 1) := by decide +kernel
theorem dX5_contains_13 : decode cX5_contains 13 = .ok (.goto 4, 3) := by decide +kernel
theorem dX5_contains_16 : decode cX5_contains 16 = .ok (.iconst 0, 1) := by decide +kernel
theorem dX5_contains_17 : decode cX5_contains 17 = .ok (.ireturn, 1) := by decide +kernel
theorem dX5_copyRow_0 : decode cX5_copyRow 0 = .ok (.aload_n 0, 1) := by decide +kernel
theorem dX5_copyRow_1 : decode cX5_copyRow 1 = .ok (.iconst 0, 1) := by decide +kernel
theorem dX5_copyRow_2 : decode cX5_copyRow 2 = .ok (.aload_n 1, 1) := by decide +kernel
theorem dX5_copyRow_3 : decode cX5_copyRow 3 = .ok (.iconst 0, 1) := by decide +kernel
theorem dX5_copyRow_4 : decode cX5_copyRow 4 = .ok (.aload_n 0, 1) := by decide +kernel
theorem dX5_copyRow_5 : decode cX5_copyRow 5 = .ok (.arraylength, 1) := by decide +kernel
theorem dX5_copyRow_6 : decode cX5_copyRow 6 = .ok (.aload_n 1, 1) := by decide +kernel
theorem dX5_copyRow_7 : decode cX5_copyRow 7 = .ok (.arraylength, 1) := by decide +kernel
theorem dX5_copyRow_8 : decode cX5_copyRow 8 = .ok (.invokestatic 273, 3) := by decide +kernel
theorem dX5_copyRow_11 : decode cX5_copyRow 11 = .ok (.invokestatic 278, 3) := by decide +kernel
theorem dX5_copyRow_14 : decode cX5_copyRow 14 = .ok (.return_, 1) := by decide +kernel
