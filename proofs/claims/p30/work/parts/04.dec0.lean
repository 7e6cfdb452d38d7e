theorem dX0_init_0 : decode cX0_init 0 = .ok (.aload_n 0, 1) := by decide +kernel
theorem dX0_init_1 : decode cX0_init 1 = .ok (.invokespecial 3, 3) := by decide +kernel
theorem dX0_init_4 : decode cX0_init 4 = .ok (.aload_n 0, 1) := by decide +kernel
theorem dX0_init_5 : decode cX0_init 5 = .ok (.bipush 40, 2) := by decide +kernel
theorem dX0_init_7 : decode cX0_init 7 = .ok (.newarray .int, 2) := by decide +kernel
theorem dX0_init_9 : decode cX0_init 9 = .ok (.putfield 9, 3) := by decide +kernel
theorem dX0_init_12 : decode cX0_init 12 = .ok (.aload_n 0, 1) := by decide +kernel
theorem dX0_init_13 : decode cX0_init 13 = .ok (.bipush 40, 2) := by decide +kernel
theorem dX0_init_15 : decode cX0_init 15 = .ok (.newarray .int, 2) := by decide +kernel
theorem dX0_init_17 : decode cX0_init 17 = .ok (.putfield 15, 3) := by decide +kernel
theorem dX0_init_20 : decode cX0_init 20 = .ok (.aload_n 0, 1) := by decide +kernel
theorem dX0_init_21 : decode cX0_init 21 = .ok (.bipush 41, 2) := by decide +kernel
theorem dX0_init_23 : decode cX0_init 23 = .ok (.newarray .int, 2) := by decide +kernel
theorem dX0_init_25 : decode cX0_init 25 = .ok (.putfield 18, 3) := by decide +kernel
theorem dX0_init_28 : decode cX0_init 28 = .ok (.aload_n 0, 1) := by decide +kernel
theorem dX0_init_29 : decode cX0_init 29 = .ok (.sipush 205, 3) := by decide +kernel
theorem dX0_init_32 : decode cX0_init 32 = .ok (.newarray .int, 2) := by decide +kernel
theorem dX0_init_34 : decode cX0_init 34 = .ok (.putfield 21, 3) := by decide +kernel
theorem dX0_init_37 : decode cX0_init 37 = .ok (.aload_n 0, 1) := by decide +kernel
theorem dX0_init_38 : decode cX0_init 38 = .ok (.iload_n 1, 1) := by decide +kernel
theorem dX0_init_39 : decode cX0_init 39 = .ok (.putfield 24, 3) := by decide +kernel
theorem dX0_init_42 : decode cX0_init 42 = .ok (.return_, 1) := by decide +kernel
theorem dX0_begin_0 : decode cX0_begin 0 = .ok (.aload_n 0, 1) := by decide +kernel
theorem dX0_begin_1 : decode cX0_begin 1 = .ok (.iload_n 1, 1) := by decide +kernel
theorem dX0_begin_2 : decode cX0_begin 2 = .ok (.putfield 28, 3) := by decide +kernel
theorem dX0_begin_5 : decode cX0_begin 5 = .ok (.aload_n 0, 1) := by decide +kernel
theorem dX0_begin_6 : decode cX0_begin 6 = .ok (.iload_n 2, 1) := by decide +kernel
theorem dX0_begin_7 : decode cX0_begin 7 = .ok (.putfield 31, 3) := by decide +kernel
theorem dX0_begin_10 : decode cX0_begin 10 = .ok (.aload_n 0, 1) := by decide +kernel
theorem dX0_begin_11 : decode cX0_begin 11 = .ok (.iload_n 3, 1) := by decide +kernel
theorem dX0_begin_12 : decode cX0_begin 12 = .ok (.putfield 34, 3) := by decide +kernel
theorem dX0_begin_15 : decode cX0_begin 15 = .ok (.aload_n 0, 1) := by decide +kernel
theorem dX0_begin_16 : decode cX0_begin 16 = .ok (.iconst 0, 1) := by decide +kernel
theorem dX0_begin_17 : decode cX0_begin 17 = .ok (.putfield 37, 3) := by decide +kernel
theorem dX0_begin_20 : decode cX0_begin 20 = .ok (.aload_n 0, 1) := by decide +kernel
theorem dX0_begin_21 : decode cX0_begin 21 = .ok (.iconst 0, 1) := by decide +kernel
theorem dX0_begin_22 : decode cX0_begin 22 = .ok (.putfield 40, 3) := by decide +kernel
theorem dX0_begin_25 : decode cX0_begin 25 = .ok (.aload_n 0, 1) := by decide +kernel
theorem dX0_begin_26 : decode cX0_begin 26 = .ok (.iconst (-1), 1) := by decide +kernel
theorem dX0_begin_27 : decode cX0_begin 27 = .ok (.putfield 43, 3) := by decide +kernel
theorem dX0_begin_30 : decode cX0_begin 30 = .ok (.aload_n 0, 1) := by decide +kernel
theorem dX0_begin_31 : decode cX0_begin 31 = .ok (.iconst 1, 1) := by decide +kernel
theorem dX0_begin_32 : decode cX0_begin 32 = .ok (.putfield 46, 3) := by decide +kernel
theorem dX0_begin_35 : decode cX0_begin 35 = .ok (.aload_n 0, 1) := by decide +kernel
theorem dX0_begin_36 : decode cX0_begin 36 = .ok (.getfield 18, 3) := by decide +kernel
theorem dX0_begin_39 : decode cX0_begin 39 = .ok (.iconst 0, 1) := by decide +kernel
theorem dX0_begin_40 : decode cX0_begin 40 = .ok (.iconst 0, 1) := by decide +kernel
theorem dX0_begin_41 : decode cX0_begin 41 = .ok (.iastore, 1) := by decide +kernel
theorem dX0_begin_42 : decode cX0_begin 42 = .ok (.iconst 0, 1) := by decide +kernel
theorem dX0_begin_43 : decode cX0_begin 43 = .ok (.istore 4, 2) := by decide +kernel
theorem dX0_begin_45 : decode cX0_begin 45 = .ok (.iload 4, 2) := by decide +kernel
theorem dX0_begin_47 : decode cX0_begin 47 = .ok (.iload_n 1, 1) := by decide +kernel
theorem dX0_begin_48 : decode cX0_begin 48 = .ok (.if_icmp .ge 17, 3) := by decide +kernel
theorem dX0_begin_51 : decode cX0_begin 51 = .ok (.aload_n 0, 1) := by decide +kernel
theorem dX0_begin_52 : decode cX0_begin 52 = .ok (.iconst 0, 1) := by decide +kernel
theorem dX0_begin_53 : decode cX0_begin 53 = .ok (.iload 4, 2) := by decide +kernel
theorem dX0_begin_55 : decode cX0_begin 55 = .ok (.iconst (-1), 1) := by decide +kernel
theorem dX0_begin_56 : decode cX0_begin 56 = .ok (.invokevirtual 49, 3) := by decide +kernel
theorem dX0_begin_59 : decode cX0_begin 59 = .ok (.iinc 4 1, 3) := by decide +kernel
theorem dX0_begin_62 : decode cX0_begin 62 = .ok (.goto (-17), 3) := by decide +kernel
theorem dX0_begin_65 : decode cX0_begin 65 = .ok (.return_, 1) := by decide +kernel
theorem dX0_copyFrom_0 : decode cX0_copyFrom 0 = .ok (.aload_n 0, 1) := by decide +kernel
theorem dX0_copyFrom_1 : decode cX0_copyFrom 1 = .ok (.aload_n 1, 1) := by decide +kernel
theorem dX0_copyFrom_2 : decode cX0_copyFrom 2 = .ok (.getfield 28, 3) := by decide +kernel
theorem dX0_copyFrom_5 : decode cX0_copyFrom 5 = .ok (.putfield 28, 3) := by decide +kernel
theorem dX0_copyFrom_8 : decode cX0_copyFrom 8 = .ok (.aload_n 0, 1) := by decide +kernel
theorem dX0_copyFrom_9 : decode cX0_copyFrom 9 = .ok (.aload_n 1, 1) := by decide +kernel
theorem dX0_copyFrom_10 : decode cX0_copyFrom 10 = .ok (.getfield 31, 3) := by decide +kernel
theorem dX0_copyFrom_13 : decode cX0_copyFrom 13 = .ok (.putfield 31, 3) := by decide +kernel
theorem dX0_copyFrom_16 : decode cX0_copyFrom 16 = .ok (.aload_n 0, 1) := by decide +kernel
theorem dX0_copyFrom_17 : decode cX0_copyFrom 17 = .ok (.aload_n 1, 1) := by decide +kernel
theorem dX0_copyFrom_18 : decode cX0_copyFrom 18 = .ok (.getfield 34, 3) := by decide +kernel
theorem dX0_copyFrom_21 : decode cX0_copyFrom 21 = .ok (.putfield 34, 3) := by decide +kernel
theorem dX0_copyFrom_24 : decode cX0_copyFrom 24 = .ok (.aload_n 0, 1) := by decide +kernel
theorem dX0_copyFrom_25 : decode cX0_copyFrom 25 = .ok (.aload_n 1, 1) := by decide +kernel
theorem dX0_copyFrom_26 : decode cX0_copyFrom 26 = .ok (.getfield 37, 3) := by decide +kernel
theorem dX0_copyFrom_29 : decode cX0_copyFrom 29 = .ok (.putfield 37, 3) := by decide +kernel
theorem dX0_copyFrom_32 : decode cX0_copyFrom 32 = .ok (.aload_n 0, 1) := by decide +kernel
theorem dX0_copyFrom_33 : decode cX0_copyFrom 33 = .ok (.aload_n 1, 1) := by decide +kernel
theorem dX0_copyFrom_34 : decode cX0_copyFrom 34 = .ok (.getfield 40, 3) := by decide +kernel
theorem dX0_copyFrom_37 : decode cX0_copyFrom 37 = .ok (.putfield 40, 3) := by decide +kernel
theorem dX0_copyFrom_40 : decode cX0_copyFrom 40 = .ok (.aload_n 0, 1) := by decide +kernel
theorem dX0_copyFrom_41 : decode cX0_copyFrom 41 = .ok (.aload_n 1, 1) := by decide +kernel
theorem dX0_copyFrom_42 : decode cX0_copyFrom 42 = .ok (.getfield 43, 3) := by decide +kernel
theorem dX0_copyFrom_45 : decode cX0_copyFrom 45 = .ok (.putfield 43, 3) := by decide +kernel
theorem dX0_copyFrom_48 : decode cX0_copyFrom 48 = .ok (.aload_n 0, 1) := by decide +kernel
theorem dX0_copyFrom_49 : decode cX0_copyFrom 49 = .ok (.aload_n 1, 1) := by decide +kernel
theorem dX0_copyFrom_50 : decode cX0_copyFrom 50 = .ok (.getfield 46, 3) := by decide +kernel
theorem dX0_copyFrom_53 : decode cX0_copyFrom 53 = .ok (.putfield 46, 3) := by decide +kernel
theorem dX0_copyFrom_56 : decode cX0_copyFrom 56 = .ok (.aload_n 1, 1) := by decide +kernel
theorem dX0_copyFrom_57 : decode cX0_copyFrom 57 = .ok (.getfield 9, 3) := by decide +kernel
theorem dX0_copyFrom_60 : decode cX0_copyFrom 60 = .ok (.aload_n 0, 1) := by decide +kernel
theorem dX0_copyFrom_61 : decode cX0_copyFrom 61 = .ok (.getfield 9, 3) := by decide +kernel
theorem dX0_copyFrom_64 : decode cX0_copyFrom 64 = .ok (.invokestatic 53, 3) := by decide +kernel
theorem dX0_copyFrom_67 : decode cX0_copyFrom 67 = .ok (.aload_n 1, 1) := by decide +kernel
theorem dX0_copyFrom_68 : decode cX0_copyFrom 68 = .ok (.getfield 15, 3) := by decide +kernel
theorem dX0_copyFrom_71 : decode cX0_copyFrom 71 = .ok (.aload_n 0, 1) := by decide +kernel
theorem dX0_copyFrom_72 : decode cX0_copyFrom 72 = .ok (.getfield 15, 3) := by decide +kernel
theorem dX0_copyFrom_75 : decode cX0_copyFrom 75 = .ok (.invokestatic 53, 3) := by decide +kernel
theorem dX0_copyFrom_78 : decode cX0_copyFrom 78 = .ok (.aload_n 1, 1) := by decide +kernel
theorem dX0_copyFrom_79 : decode cX0_copyFrom 79 = .ok (.getfield 18, 3) := by decide +kernel
theorem dX0_copyFrom_82 : decode cX0_copyFrom 82 = .ok (.aload_n 0, 1) := by decide +kernel
theorem dX0_copyFrom_83 : decode cX0_copyFrom 83 = .ok (.getfield 18, 3) := by decide +kernel
theorem dX0_copyFrom_86 : decode cX0_copyFrom 86 = .ok (.invokestatic 53, 3) := by decide +kernel
theorem dX0_copyFrom_89 : decode cX0_copyFrom 89 = .ok (.aload_n 1, 1) := by decide +kernel
theorem dX0_copyFrom_90 : decode cX0_copyFrom 90 = .ok (.getfield 21, 3) := by decide +kernel
theorem dX0_copyFrom_93 : decode cX0_copyFrom 93 = .ok (.aload_n 0, 1) := by decide +kernel
theorem dX0_copyFrom_94 : decode cX0_copyFrom 94 = .ok (.getfield 21, 3) := by decide +kernel
theorem dX0_copyFrom_97 : decode cX0_copyFrom 97 = .ok (.invokestatic 53, 3) := by decide +kernel
theorem dX0_copyFrom_100 : decode cX0_copyFrom 100 = .ok (.return_, 1) := by decide +kernel
theorem dX0_addEntry_0 : decode cX0_addEntry 0 = .ok (.aload_n 0, 1) := by decide +kernel
theorem dX0_addEntry_1 : decode cX0_addEntry 1 = .ok (.getfield 40, 3) := by decide +kernel
theorem dX0_addEntry_4 : decode cX0_addEntry 4 = .ok (.istore_n 2, 1) := by decide +kernel
theorem dX0_addEntry_5 : decode cX0_addEntry 5 = .ok (.iload_n 2, 1) := by decide +kernel
theorem dX0_addEntry_6 : decode cX0_addEntry 6 = .ok (.ifCond .lt 45, 3) := by decide +kernel
theorem dX0_addEntry_9 : decode cX0_addEntry 9 = .ok (.iload_n 2, 1) := by decide +kernel
theorem dX0_addEntry_10 : decode cX0_addEntry 10 = .ok (.aload_n 0, 1) := by decide +kernel
theorem dX0_addEntry_11 : decode cX0_addEntry 11 = .ok (.getfield 9, 3) := by decide +kernel
theorem dX0_addEntry_14 : decode cX0_addEntry 14 = .ok (.arraylength, 1) := by decide +kernel
theorem dX0_addEntry_15 : decode cX0_addEntry 15 = .ok (.if_icmp .ge 36, 3) := by decide +kernel
theorem dX0_addEntry_18 : decode cX0_addEntry 18 = .ok (.iload_n 2, 1) := by decide +kernel
theorem dX0_addEntry_19 : decode cX0_addEntry 19 = .ok (.aload_n 0, 1) := by decide +kernel
theorem dX0_addEntry_20 : decode cX0_addEntry 20 = .ok (.getfield 15, 3) := by decide +kernel
theorem dX0_addEntry_23 : decode cX0_addEntry 23 = .ok (.arraylength, 1) := by decide +kernel
theorem dX0_addEntry_24 : decode cX0_addEntry 24 = .ok (.if_icmp .ge 27, 3) := by decide +kernel
theorem dX0_addEntry_27 : decode cX0_addEntry 27 = .ok (.aload_n 0, 1) := by decide +kernel
theorem dX0_addEntry_28 : decode cX0_addEntry 28 = .ok (.getfield 9, 3) := by decide +kernel
theorem dX0_addEntry_31 : decode cX0_addEntry 31 = .ok (.iload_n 2, 1) := by decide +kernel
theorem dX0_addEntry_32 : decode cX0_addEntry 32 = .ok (.iload_n 1, 1) := by decide +kernel
theorem dX0_addEntry_33 : decode cX0_addEntry 33 = .ok (.iastore, 1) := by decide +kernel
theorem dX0_addEntry_34 : decode cX0_addEntry 34 = .ok (.aload_n 0, 1) := by decide +kernel
theorem dX0_addEntry_35 : decode cX0_addEntry 35 = .ok (.getfield 15, 3) := by decide +kernel
theorem dX0_addEntry_38 : decode cX0_addEntry 38 = .ok (.iload_n 2, 1) := by decide +kernel
theorem dX0_addEntry_39 : decode cX0_addEntry 39 = .ok (.iconst 0, 1) := by decide +kernel
theorem dX0_addEntry_40 : decode cX0_addEntry 40 = .ok (.iastore, 1) := by decide +kernel
theorem dX0_addEntry_41 : decode cX0_addEntry 41 = .ok (.aload_n 0, 1) := by decide +kernel
theorem dX0_addEntry_42 : decode cX0_addEntry 42 = .ok (.dup, 1) := by decide +kernel
theorem dX0_addEntry_43 : decode cX0_addEntry 43 = .ok (.getfield 40, 3) := by decide +kernel
theorem dX0_addEntry_46 : decode cX0_addEntry 46 = .ok (.iconst 1, 1) := by decide +kernel
theorem dX0_addEntry_47 : decode cX0_addEntry 47 = .ok (.iadd, 1) := by decide +kernel
theorem dX0_addEntry_48 : decode cX0_addEntry 48 = .ok (.putfield 40, 3) := by decide +kernel
theorem dX0_addEntry_51 : decode cX0_addEntry 51 = .ok (.iload_n 2, 1) := by decide +kernel
theorem dX0_addEntry_52 : decode cX0_addEntry 52 = .ok (.ireturn, 1) := by decide +kernel
theorem dX0_payloadOf_0 : decode cX0_payloadOf 0 = .ok (.iload_n 1, 1) := by decide +kernel
theorem dX0_payloadOf_1 : decode cX0_payloadOf 1 = .ok (.ifCond .lt 12, 3) := by decide +kernel
theorem dX0_payloadOf_4 : decode cX0_payloadOf 4 = .ok (.iload_n 1, 1) := by decide +kernel
theorem dX0_payloadOf_5 : decode cX0_payloadOf 5 = .ok (.aload_n 0, 1) := by decide +kernel
theorem dX0_payloadOf_6 : decode cX0_payloadOf 6 = .ok (.getfield 9, 3) := by decide +kernel
theorem dX0_payloadOf_9 : decode cX0_payloadOf 9 = .ok (.arraylength, 1) := by decide +kernel
theorem dX0_payloadOf_10 : decode cX0_payloadOf 10 = .ok (.if_icmp .lt 7, 3) := by decide +kernel
theorem dX0_payloadOf_13 : decode cX0_payloadOf 13 = .ok (.iconst 0, 1) := by decide +kernel
theorem dX0_payloadOf_14 : decode cX0_payloadOf 14 = .ok (.goto 9, 3) := by decide +kernel
theorem dX0_payloadOf_17 : decode cX0_payloadOf 17 = .ok (.aload_n 0, 1) := by decide +kernel
theorem dX0_payloadOf_18 : decode cX0_payloadOf 18 = .ok (.getfield 9, 3) := by decide +kernel
theorem dX0_payloadOf_21 : decode cX0_payloadOf 21 = .ok (.iload_n 1, 1) := by decide +kernel
theorem dX0_payloadOf_22 : decode cX0_payloadOf 22 = .ok (.iaload, 1) := by decide +kernel
theorem dX0_payloadOf_23 : decode cX0_payloadOf 23 = .ok (.ireturn, 1) := by decide +kernel
theorem dX0_countAcknowledgers_0 : decode cX0_countAcknowledgers 0 = .ok (.iload_n 1, 1) := by decide +kernel
theorem dX0_countAcknowledgers_1 : decode cX0_countAcknowledgers 1 = .ok (.ifCond .lt 12, 3) := by decide +kernel
theorem dX0_countAcknowledgers_4 : decode cX0_countAcknowledgers 4 = .ok (.iload_n 1, 1) := by decide +kernel
theorem dX0_countAcknowledgers_5 : decode cX0_countAcknowledgers 5 = .ok (.aload_n 0, 1) := by decide +kernel
theorem dX0_countAcknowledgers_6 : decode cX0_countAcknowledgers 6 = .ok (.getfield 15, 3) := by decide +kernel
theorem dX0_countAcknowledgers_9 : decode cX0_countAcknowledgers 9 = .ok (.arraylength, 1) := by decide +kernel
theorem dX0_countAcknowledgers_10 : decode cX0_countAcknowledgers 10 = .ok (.if_icmp .lt 7, 3) := by decide +kernel
theorem dX0_countAcknowledgers_13 : decode cX0_countAcknowledgers 13 = .ok (.iconst 0, 1) := by decide +kernel
theorem dX0_countAcknowledgers_14 : decode cX0_countAcknowledgers 14 = .ok (.goto 12, 3) := by decide +kernel
theorem dX0_countAcknowledgers_17 : decode cX0_countAcknowledgers 17 = .ok (.aload_n 0, 1) := by decide +kernel
theorem dX0_countAcknowledgers_18 : decode cX0_countAcknowledgers 18 = .ok (.getfield 15, 3) := by decide +kernel
theorem dX0_countAcknowledgers_21 : decode cX0_countAcknowledgers 21 = .ok (.iload_n 1, 1) := by decide +kernel
theorem dX0_countAcknowledgers_22 : decode cX0_countAcknowledgers 22 = .ok (.iaload, 1) := by decide +kernel
theorem dX0_countAcknowledgers_23 : decode cX0_countAcknowledgers 23 = .ok (.invokestatic 57, 3) := by decide +kernel
theorem dX0_countAcknowledgers_26 : decode cX0_countAcknowledgers 26 = .ok (.ireturn, 1) := by decide +kernel
theorem dX0_acknowledge_0 : decode cX0_acknowledge 0 = .ok (.aload_n 0, 1) := by decide +kernel
theorem dX0_acknowledge_1 : decode cX0_acknowledge 1 = .ok (.getfield 37, 3) := by decide +kernel
theorem dX0_acknowledge_4 : decode cX0_acknowledge 4 = .ok (.ifCond .ne 16, 3) := by decide +kernel
theorem dX0_acknowledge_7 : decode cX0_acknowledge 7 = .ok (.iload_n 1, 1) := by decide +kernel
theorem dX0_acknowledge_8 : decode cX0_acknowledge 8 = .ok (.ifCond .lt 12, 3) := by decide +kernel
theorem dX0_acknowledge_11 : decode cX0_acknowledge 11 = .ok (.iload_n 1, 1) := by decide +kernel
theorem dX0_acknowledge_12 : decode cX0_acknowledge 12 = .ok (.aload_n 0, 1) := by decide +kernel
theorem dX0_acknowledge_13 : decode cX0_acknowledge 13 = .ok (.getfield 15, 3) := by decide +kernel
theorem dX0_acknowledge_16 : decode cX0_acknowledge 16 = .ok (.arraylength, 1) := by decide +kernel
theorem dX0_acknowledge_17 : decode cX0_acknowledge 17 = .ok (.if_icmp .lt 4, 3) := by decide +kernel
theorem dX0_acknowledge_20 : decode cX0_acknowledge 20 = .ok (.return_, 1) := by decide +kernel
theorem dX0_acknowledge_21 : decode cX0_acknowledge 21 = .ok (.aload_n 0, 1) := by decide +kernel
theorem dX0_acknowledge_22 : decode cX0_acknowledge 22 = .ok (.aload_n 0, 1) := by decide +kernel
theorem dX0_acknowledge_23 : decode cX0_acknowledge 23 = .ok (.iload_n 1, 1) := by decide +kernel
theorem dX0_acknowledge_24 : decode cX0_acknowledge 24 = .ok (.invokevirtual 63, 3) := by decide +kernel
theorem dX0_acknowledge_27 : decode cX0_acknowledge 27 = .ok (.iload_n 1, 1) := by decide +kernel
theorem dX0_acknowledge_28 : decode cX0_acknowledge 28 = .ok (.invokevirtual 66, 3) := by decide +kernel
theorem dX0_acknowledge_31 : decode cX0_acknowledge 31 = .ok (.iload_n 2, 1) := by decide +kernel
theorem dX0_acknowledge_32 : decode cX0_acknowledge 32 = .ok (.invokestatic 70, 3) := by decide +kernel
theorem dX0_acknowledge_35 : decode cX0_acknowledge 35 = .ok (.ifCond .eq 15, 3) := by decide +kernel
theorem dX0_acknowledge_38 : decode cX0_acknowledge 38 = .ok (.aload_n 0, 1) := by decide +kernel
theorem dX0_acknowledge_39 : decode cX0_acknowledge 39 = .ok (.getfield 15, 3) := by decide +kernel
theorem dX0_acknowledge_42 : decode cX0_acknowledge 42 = .ok (.iload_n 1, 1) := by decide +kernel
theorem dX0_acknowledge_43 : decode cX0_acknowledge 43 = .ok (.dup2, 1) := by decide +kernel
theorem dX0_acknowledge_44 : decode cX0_acknowledge 44 = .ok (.iaload, 1) := by decide +kernel
theorem dX0_acknowledge_45 : decode cX0_acknowledge 45 = .ok (.iconst 1, 1) := by decide +kernel
theorem dX0_acknowledge_46 : decode cX0_acknowledge 46 = .ok (.iload_n 2, 1) := by decide +kernel
theorem dX0_acknowledge_47 : decode cX0_acknowledge 47 = .ok (.ishl, 1) := by decide +kernel
theorem dX0_acknowledge_48 : decode cX0_acknowledge 48 = .ok (.ior, 1) := by decide +kernel
theorem dX0_acknowledge_49 : decode cX0_acknowledge 49 = .ok (.iastore, 1) := by decide +kernel
theorem dX0_acknowledge_50 : decode cX0_acknowledge 50 = .ok (.return_, 1) := by decide +kernel
theorem dX0_forgetAcknowledgements_0 : decode cX0_forgetAcknowledgements 0 = .ok (.iload_n 1, 1) := by decide +kernel
theorem dX0_forgetAcknowledgements_1 : decode cX0_forgetAcknowledgements 1 = .ok (.iconst 0, 1) := by decide +kernel
theorem dX0_forgetAcknowledgements_2 : decode cX0_forgetAcknowledgements 2 = .ok (.invokestatic 74, 3) := by decide +kernel
theorem dX0_forgetAcknowledgements_5 : decode cX0_forgetAcknowledgements 5 = .ok (.istore_n 3, 1) := by decide +kernel
theorem dX0_forgetAcknowledgements_6 : decode cX0_forgetAcknowledgements 6 = .ok (.iload_n 3, 1) := by decide +kernel
theorem dX0_forgetAcknowledgements_7 : decode cX0_forgetAcknowledgements 7 = .ok (.aload_n 0, 1) := by decide +kernel
theorem dX0_forgetAcknowledgements_8 : decode cX0_forgetAcknowledgements 8 = .ok (.getfield 40, 3) := by decide +kernel
theorem dX0_forgetAcknowledgements_11 : decode cX0_forgetAcknowledgements 11 = .ok (.if_icmp .ge 32, 3) := by decide +kernel
theorem dX0_forgetAcknowledgements_14 : decode cX0_forgetAcknowledgements 14 = .ok (.iload_n 3, 1) := by decide +kernel
theorem dX0_forgetAcknowledgements_15 : decode cX0_forgetAcknowledgements 15 = .ok (.aload_n 0, 1) := by decide +kernel
theorem dX0_forgetAcknowledgements_16 : decode cX0_forgetAcknowledgements 16 = .ok (.getfield 15, 3) := by decide +kernel
theorem dX0_forgetAcknowledgements_19 : decode cX0_forgetAcknowledgements 19 = .ok (.arraylength, 1) := by decide +kernel
theorem dX0_forgetAcknowledgements_20 : decode cX0_forgetAcknowledgements 20 = .ok (.if_icmp .ge 23, 3) := by decide +kernel
theorem dX0_forgetAcknowledgements_23 : decode cX0_forgetAcknowledgements 23 = .ok (.aload_n 0, 1) := by decide +kernel
theorem dX0_forgetAcknowledgements_24 : decode cX0_forgetAcknowledgements 24 = .ok (.getfield 15, 3) := by decide +kernel
theorem dX0_forgetAcknowledgements_27 : decode cX0_forgetAcknowledgements 27 = .ok (.iload_n 3, 1) := by decide +kernel
theorem dX0_forgetAcknowledgements_28 : decode cX0_forgetAcknowledgements 28 = .ok (.dup2, 1) := by decide +kernel
theorem dX0_forgetAcknowledgements_29 : decode cX0_forgetAcknowledgements 29 = .ok (.iaload, 1) := by decide +kernel
theorem dX0_forgetAcknowledgements_30 : decode cX0_forgetAcknowledgements 30 = .ok (.iconst 1, 1) := by decide +kernel
theorem dX0_forgetAcknowledgements_31 : decode cX0_forgetAcknowledgements 31 = .ok (.iload_n 2, 1) := by decide +kernel
theorem dX0_forgetAcknowledgements_32 : decode cX0_forgetAcknowledgements 32 = .ok (.ishl, 1) := by decide +kernel
theorem dX0_forgetAcknowledgements_33 : decode cX0_forgetAcknowledgements 33 = .ok (.iconst (-1), 1) := by decide +kernel
theorem dX0_forgetAcknowledgements_34 : decode cX0_forgetAcknowledgements 34 = .ok (.ixor, 1) := by decide +kernel
theorem dX0_forgetAcknowledgements_35 : decode cX0_forgetAcknowledgements 35 = .ok (.iand, 1) := by decide +kernel
theorem dX0_forgetAcknowledgements_36 : decode cX0_forgetAcknowledgements 36 = .ok (.iastore, 1) := by decide +kernel
theorem dX0_forgetAcknowledgements_37 : decode cX0_forgetAcknowledgements 37 = .ok (.iinc 3 1, 3) := by decide +kernel
theorem dX0_forgetAcknowledgements_40 : decode cX0_forgetAcknowledgements 40 = .ok (.goto (-34), 3) := by decide +kernel
theorem dX0_forgetAcknowledgements_43 : decode cX0_forgetAcknowledgements 43 = .ok (.return_, 1) := by decide +kernel
theorem dX0_lastConfirmed_0 : decode cX0_lastConfirmed 0 = .ok (.iconst 0, 1) := by decide +kernel
theorem dX0_lastConfirmed_1 : decode cX0_lastConfirmed 1 = .ok (.istore_n 1, 1) := by decide +kernel
theorem dX0_lastConfirmed_2 : decode cX0_lastConfirmed 2 = .ok (.iload_n 1, 1) := by decide +kernel
theorem dX0_lastConfirmed_3 : decode cX0_lastConfirmed 3 = .ok (.aload_n 0, 1) := by decide +kernel
theorem dX0_lastConfirmed_4 : decode cX0_lastConfirmed 4 = .ok (.getfield 40, 3) := by decide +kernel
theorem dX0_lastConfirmed_7 : decode cX0_lastConfirmed 7 = .ok (.if_icmp .ge 21, 3) := by decide +kernel
theorem dX0_lastConfirmed_10 : decode cX0_lastConfirmed 10 = .ok (.aload_n 0, 1) := by decide +kernel
theorem dX0_lastConfirmed_11 : decode cX0_lastConfirmed 11 = .ok (.iload_n 1, 1) := by decide +kernel
theorem dX0_lastConfirmed_12 : decode cX0_lastConfirmed 12 = .ok (.invokevirtual 79, 3) := by decide +kernel
theorem dX0_lastConfirmed_15 : decode cX0_lastConfirmed 15 = .ok (.aload_n 0, 1) := by decide +kernel
theorem dX0_lastConfirmed_16 : decode cX0_lastConfirmed 16 = .ok (.getfield 34, 3) := by decide +kernel
theorem dX0_lastConfirmed_19 : decode cX0_lastConfirmed 19 = .ok (.if_icmp .lt 9, 3) := by decide +kernel
theorem dX0_lastConfirmed_22 : decode cX0_lastConfirmed 22 = .ok (.iinc 1 1, 3) := by decide +kernel
theorem dX0_lastConfirmed_25 : decode cX0_lastConfirmed 25 = .ok (.goto (-23), 3) := by decide +kernel
theorem dX0_lastConfirmed_28 : decode cX0_lastConfirmed 28 = .ok (.iload_n 1, 1) := by decide +kernel
theorem dX0_lastConfirmed_29 : decode cX0_lastConfirmed 29 = .ok (.iconst 1, 1) := by decide +kernel
theorem dX0_lastConfirmed_30 : decode cX0_lastConfirmed 30 = .ok (.isub, 1) := by decide +kernel
theorem dX0_lastConfirmed_31 : decode cX0_lastConfirmed 31 = .ok (.ireturn, 1) := by decide +kernel
theorem dX0_lastToRead_0 : decode cX0_lastToRead 0 = .ok (.aload_n 0, 1) := by decide +kernel
theorem dX0_lastToRead_1 : decode cX0_lastToRead 1 = .ok (.getfield 37, 3) := by decide +kernel
theorem dX0_lastToRead_4 : decode cX0_lastToRead 4 = .ok (.ifCond .ne 10, 3) := by decide +kernel
theorem dX0_lastToRead_7 : decode cX0_lastToRead 7 = .ok (.aload_n 0, 1) := by decide +kernel
theorem dX0_lastToRead_8 : decode cX0_lastToRead 8 = .ok (.invokevirtual 82, 3) := by decide +kernel
theorem dX0_lastToRead_11 : decode cX0_lastToRead 11 = .ok (.goto 19, 3) := by decide +kernel
theorem dX0_lastToRead_14 : decode cX0_lastToRead 14 = .ok (.aload_n 0, 1) := by decide +kernel
theorem dX0_lastToRead_15 : decode cX0_lastToRead 15 = .ok (.getfield 37, 3) := by decide +kernel
theorem dX0_lastToRead_18 : decode cX0_lastToRead 18 = .ok (.iconst 2, 1) := by decide +kernel
theorem dX0_lastToRead_19 : decode cX0_lastToRead 19 = .ok (.if_icmp .ne 10, 3) := by decide +kernel
theorem dX0_lastToRead_22 : decode cX0_lastToRead 22 = .ok (.aload_n 0, 1) := by decide +kernel
theorem dX0_lastToRead_23 : decode cX0_lastToRead 23 = .ok (.getfield 43, 3) := by decide +kernel
theorem dX0_lastToRead_26 : decode cX0_lastToRead 26 = .ok (.goto 4, 3) := by decide +kernel
theorem dX0_lastToRead_29 : decode cX0_lastToRead 29 = .ok (.iconst (-1), 1) := by decide +kernel
theorem dX0_lastToRead_30 : decode cX0_lastToRead 30 = .ok (.ireturn, 1) := by decide +kernel
theorem dX0_lastFragment_0 : decode cX0_lastFragment 0 = .ok (.aload_n 0, 1) := by decide +kernel
theorem dX0_lastFragment_1 : decode cX0_lastFragment 1 = .ok (.getfield 46, 3) := by decide +kernel
theorem dX0_lastFragment_4 : decode cX0_lastFragment 4 = .ok (.iconst 1, 1) := by decide +kernel
theorem dX0_lastFragment_5 : decode cX0_lastFragment 5 = .ok (.isub, 1) := by decide +kernel
theorem dX0_lastFragment_6 : decode cX0_lastFragment 6 = .ok (.ireturn, 1) := by decide +kernel
theorem dX0_startOf_0 : decode cX0_startOf 0 = .ok (.iload_n 1, 1) := by decide +kernel
theorem dX0_startOf_1 : decode cX0_startOf 1 = .ok (.ifCond .lt 12, 3) := by decide +kernel
theorem dX0_startOf_4 : decode cX0_startOf 4 = .ok (.iload_n 1, 1) := by decide +kernel
theorem dX0_startOf_5 : decode cX0_startOf 5 = .ok (.aload_n 0, 1) := by decide +kernel
theorem dX0_startOf_6 : decode cX0_startOf 6 = .ok (.getfield 18, 3) := by decide +kernel
theorem dX0_startOf_9 : decode cX0_startOf 9 = .ok (.arraylength, 1) := by decide +kernel
theorem dX0_startOf_10 : decode cX0_startOf 10 = .ok (.if_icmp .lt 7, 3) := by decide +kernel
theorem dX0_startOf_13 : decode cX0_startOf 13 = .ok (.iconst 0, 1) := by decide +kernel
theorem dX0_startOf_14 : decode cX0_startOf 14 = .ok (.goto 9, 3) := by decide +kernel
theorem dX0_startOf_17 : decode cX0_startOf 17 = .ok (.aload_n 0, 1) := by decide +kernel
theorem dX0_startOf_18 : decode cX0_startOf 18 = .ok (.getfield 18, 3) := by decide +kernel
theorem dX0_startOf_21 : decode cX0_startOf 21 = .ok (.iload_n 1, 1) := by decide +kernel
theorem dX0_startOf_22 : decode cX0_startOf 22 = .ok (.iaload, 1) := by decide +kernel
theorem dX0_startOf_23 : decode cX0_startOf 23 = .ok (.ireturn, 1) := by decide +kernel
theorem dX0_fragmentOf_0 : decode cX0_fragmentOf 0 = .ok (.iconst 0, 1) := by decide +kernel
theorem dX0_fragmentOf_1 : decode cX0_fragmentOf 1 = .ok (.istore_n 2, 1) := by decide +kernel
theorem dX0_fragmentOf_2 : decode cX0_fragmentOf 2 = .ok (.iconst 1, 1) := by decide +kernel
theorem dX0_fragmentOf_3 : decode cX0_fragmentOf 3 = .ok (.istore_n 3, 1) := by decide +kernel
theorem dX0_fragmentOf_4 : decode cX0_fragmentOf 4 = .ok (.iload_n 3, 1) := by decide +kernel
theorem dX0_fragmentOf_5 : decode cX0_fragmentOf 5 = .ok (.aload_n 0, 1) := by decide +kernel
theorem dX0_fragmentOf_6 : decode cX0_fragmentOf 6 = .ok (.getfield 46, 3) := by decide +kernel
theorem dX0_fragmentOf_9 : decode cX0_fragmentOf 9 = .ok (.if_icmp .ge 20, 3) := by decide +kernel
theorem dX0_fragmentOf_12 : decode cX0_fragmentOf 12 = .ok (.aload_n 0, 1) := by decide +kernel
theorem dX0_fragmentOf_13 : decode cX0_fragmentOf 13 = .ok (.iload_n 3, 1) := by decide +kernel
theorem dX0_fragmentOf_14 : decode cX0_fragmentOf 14 = .ok (.invokevirtual 86, 3) := by decide +kernel
theorem dX0_fragmentOf_17 : decode cX0_fragmentOf 17 = .ok (.iload_n 1, 1) := by decide +kernel
theorem dX0_fragmentOf_18 : decode cX0_fragmentOf 18 = .ok (.if_icmp .gt 5, 3) := by decide +kernel
theorem dX0_fragmentOf_21 : decode cX0_fragmentOf 21 = .ok (.iload_n 3, 1) := by decide +kernel
theorem dX0_fragmentOf_22 : decode cX0_fragmentOf 22 = .ok (.istore_n 2, 1) := by decide +kernel
theorem dX0_fragmentOf_23 : decode cX0_fragmentOf 23 = .ok (.iinc 3 1, 3) := by decide +kernel
theorem dX0_fragmentOf_26 : decode cX0_fragmentOf 26 = .ok (.goto (-22), 3) := by decide +kernel
theorem dX0_fragmentOf_29 : decode cX0_fragmentOf 29 = .ok (.iload_n 2, 1) := by decide +kernel
theorem dX0_fragmentOf_30 : decode cX0_fragmentOf 30 = .ok (.ireturn, 1) := by decide +kernel
theorem dX0_nodeAt_0 : decode cX0_nodeAt 0 = .ok (.iload_n 1, 1) := by decide +kernel
theorem dX0_nodeAt_1 : decode cX0_nodeAt 1 = .ok (.iload_n 2, 1) := by decide +kernel
theorem dX0_nodeAt_2 : decode cX0_nodeAt 2 = .ok (.invokestatic 89, 3) := by decide +kernel
theorem dX0_nodeAt_5 : decode cX0_nodeAt 5 = .ok (.istore_n 3, 1) := by decide +kernel
theorem dX0_nodeAt_6 : decode cX0_nodeAt 6 = .ok (.iload_n 3, 1) := by decide +kernel
theorem dX0_nodeAt_7 : decode cX0_nodeAt 7 = .ok (.ifCond .lt 12, 3) := by decide +kernel
theorem dX0_nodeAt_10 : decode cX0_nodeAt 10 = .ok (.iload_n 3, 1) := by decide +kernel
theorem dX0_nodeAt_11 : decode cX0_nodeAt 11 = .ok (.aload_n 0, 1) := by decide +kernel
theorem dX0_nodeAt_12 : decode cX0_nodeAt 12 = .ok (.getfield 21, 3) := by decide +kernel
theorem dX0_nodeAt_15 : decode cX0_nodeAt 15 = .ok (.arraylength, 1) := by decide +kernel
theorem dX0_nodeAt_16 : decode cX0_nodeAt 16 = .ok (.if_icmp .lt 7, 3) := by decide +kernel
theorem dX0_nodeAt_19 : decode cX0_nodeAt 19 = .ok (.iconst (-1), 1) := by decide +kernel
theorem dX0_nodeAt_20 : decode cX0_nodeAt 20 = .ok (.goto 9, 3) := by decide +kernel
theorem dX0_nodeAt_23 : decode cX0_nodeAt 23 = .ok (.aload_n 0, 1) := by decide +kernel
theorem dX0_nodeAt_24 : decode cX0_nodeAt 24 = .ok (.getfield 21, 3) := by decide +kernel
theorem dX0_nodeAt_27 : decode cX0_nodeAt 27 = .ok (.iload_n 3, 1) := by decide +kernel
theorem dX0_nodeAt_28 : decode cX0_nodeAt 28 = .ok (.iaload, 1) := by decide +kernel
theorem dX0_nodeAt_29 : decode cX0_nodeAt 29 = .ok (.ireturn, 1) := by decide +kernel
theorem dX0_setNode_0 : decode cX0_setNode 0 = .ok (.iload_n 1, 1) := by decide +kernel
theorem dX0_setNode_1 : decode cX0_setNode 1 = .ok (.iload_n 2, 1) := by decide +kernel
theorem dX0_setNode_2 : decode cX0_setNode 2 = .ok (.invokestatic 89, 3) := by decide +kernel
theorem dX0_setNode_5 : decode cX0_setNode 5 = .ok (.istore 4, 2) := by decide +kernel
theorem dX0_setNode_7 : decode cX0_setNode 7 = .ok (.iload 4, 2) := by decide +kernel
theorem dX0_setNode_9 : decode cX0_setNode 9 = .ok (.ifCond .lt 21, 3) := by decide +kernel
theorem dX0_setNode_12 : decode cX0_setNode 12 = .ok (.iload 4, 2) := by decide +kernel
theorem dX0_setNode_14 : decode cX0_setNode 14 = .ok (.aload_n 0, 1) := by decide +kernel
theorem dX0_setNode_15 : decode cX0_setNode 15 = .ok (.getfield 21, 3) := by decide +kernel
theorem dX0_setNode_18 : decode cX0_setNode 18 = .ok (.arraylength, 1) := by decide +kernel
theorem dX0_setNode_19 : decode cX0_setNode 19 = .ok (.if_icmp .ge 11, 3) := by decide +kernel
theorem dX0_setNode_22 : decode cX0_setNode 22 = .ok (.aload_n 0, 1) := by decide +kernel
theorem dX0_setNode_23 : decode cX0_setNode 23 = .ok (.getfield 21, 3) := by decide +kernel
theorem dX0_setNode_26 : decode cX0_setNode 26 = .ok (.iload 4, 2) := by decide +kernel
theorem dX0_setNode_28 : decode cX0_setNode 28 = .ok (.iload_n 3, 1) := by decide +kernel
theorem dX0_setNode_29 : decode cX0_setNode 29 = .ok (.iastore, 1) := by decide +kernel
theorem dX0_setNode_30 : decode cX0_setNode 30 = .ok (.return_, 1) := by decide +kernel
theorem dX0_addFragment_0 : decode cX0_addFragment 0 = .ok (.aload_n 0, 1) := by decide +kernel
theorem dX0_addFragment_1 : decode cX0_addFragment 1 = .ok (.getfield 46, 3) := by decide +kernel
theorem dX0_addFragment_4 : decode cX0_addFragment 4 = .ok (.istore_n 2, 1) := by decide +kernel
theorem dX0_addFragment_5 : decode cX0_addFragment 5 = .ok (.iload_n 2, 1) := by decide +kernel
theorem dX0_addFragment_6 : decode cX0_addFragment 6 = .ok (.iconst 1, 1) := by decide +kernel
theorem dX0_addFragment_7 : decode cX0_addFragment 7 = .ok (.if_icmp .lt 12, 3) := by decide +kernel
theorem dX0_addFragment_10 : decode cX0_addFragment 10 = .ok (.iload_n 2, 1) := by decide +kernel
theorem dX0_addFragment_11 : decode cX0_addFragment 11 = .ok (.aload_n 0, 1) := by decide +kernel
theorem dX0_addFragment_12 : decode cX0_addFragment 12 = .ok (.getfield 18, 3) := by decide +kernel
theorem dX0_addFragment_15 : decode cX0_addFragment 15 = .ok (.arraylength, 1) := by decide +kernel
theorem dX0_addFragment_16 : decode cX0_addFragment 16 = .ok (.if_icmp .lt 4, 3) := by decide +kernel
theorem dX0_addFragment_19 : decode cX0_addFragment 19 = .ok (.return_, 1) := by decide +kernel
theorem dX0_addFragment_20 : decode cX0_addFragment 20 = .ok (.aload_n 0, 1) := by decide +kernel
theorem dX0_addFragment_21 : decode cX0_addFragment 21 = .ok (.getfield 18, 3) := by decide +kernel
theorem dX0_addFragment_24 : decode cX0_addFragment 24 = .ok (.iload_n 2, 1) := by decide +kernel
theorem dX0_addFragment_25 : decode cX0_addFragment 25 = .ok (.iload_n 1, 1) := by decide +kernel
theorem dX0_addFragment_26 : decode cX0_addFragment 26 = .ok (.iastore, 1) := by decide +kernel
theorem dX0_addFragment_27 : decode cX0_addFragment 27 = .ok (.iconst 0, 1) := by decide +kernel
theorem dX0_addFragment_28 : decode cX0_addFragment 28 = .ok (.istore_n 3, 1) := by decide +kernel
theorem dX0_addFragment_29 : decode cX0_addFragment 29 = .ok (.iload_n 3, 1) := by decide +kernel
theorem dX0_addFragment_30 : decode cX0_addFragment 30 = .ok (.aload_n 0, 1) := by decide +kernel
theorem dX0_addFragment_31 : decode cX0_addFragment 31 = .ok (.getfield 28, 3) := by decide +kernel
theorem dX0_addFragment_34 : decode cX0_addFragment 34 = .ok (.if_icmp .ge 23, 3) := by decide +kernel
theorem dX0_addFragment_37 : decode cX0_addFragment 37 = .ok (.aload_n 0, 1) := by decide +kernel
theorem dX0_addFragment_38 : decode cX0_addFragment 38 = .ok (.iload_n 2, 1) := by decide +kernel
theorem dX0_addFragment_39 : decode cX0_addFragment 39 = .ok (.iload_n 3, 1) := by decide +kernel
theorem dX0_addFragment_40 : decode cX0_addFragment 40 = .ok (.aload_n 0, 1) := by decide +kernel
theorem dX0_addFragment_41 : decode cX0_addFragment 41 = .ok (.iload_n 2, 1) := by decide +kernel
theorem dX0_addFragment_42 : decode cX0_addFragment 42 = .ok (.iconst 1, 1) := by decide +kernel
theorem dX0_addFragment_43 : decode cX0_addFragment 43 = .ok (.isub, 1) := by decide +kernel
theorem dX0_addFragment_44 : decode cX0_addFragment 44 = .ok (.iload_n 3, 1) := by decide +kernel
theorem dX0_addFragment_45 : decode cX0_addFragment 45 = .ok (.invokevirtual 92, 3) := by decide +kernel
theorem dX0_addFragment_48 : decode cX0_addFragment 48 = .ok (.invokevirtual 49, 3) := by decide +kernel
theorem dX0_addFragment_51 : decode cX0_addFragment 51 = .ok (.iinc 3 1, 3) := by decide +kernel
theorem dX0_addFragment_54 : decode cX0_addFragment 54 = .ok (.goto (-25), 3) := by decide +kernel
theorem dX0_addFragment_57 : decode cX0_addFragment 57 = .ok (.aload_n 0, 1) := by decide +kernel
theorem dX0_addFragment_58 : decode cX0_addFragment 58 = .ok (.dup, 1) := by decide +kernel
theorem dX0_addFragment_59 : decode cX0_addFragment 59 = .ok (.getfield 46, 3) := by decide +kernel
theorem dX0_addFragment_62 : decode cX0_addFragment 62 = .ok (.iconst 1, 1) := by decide +kernel
theorem dX0_addFragment_63 : decode cX0_addFragment 63 = .ok (.iadd, 1) := by decide +kernel
theorem dX0_addFragment_64 : decode cX0_addFragment 64 = .ok (.putfield 46, 3) := by decide +kernel
theorem dX0_addFragment_67 : decode cX0_addFragment 67 = .ok (.return_, 1) := by decide +kernel
theorem dX0_ensembleMask_0 : decode cX0_ensembleMask 0 = .ok (.iconst 0, 1) := by decide +kernel
theorem dX0_ensembleMask_1 : decode cX0_ensembleMask 1 = .ok (.istore_n 2, 1) := by decide +kernel
theorem dX0_ensembleMask_2 : decode cX0_ensembleMask 2 = .ok (.iconst 0, 1) := by decide +kernel
theorem dX0_ensembleMask_3 : decode cX0_ensembleMask 3 = .ok (.istore_n 3, 1) := by decide +kernel
theorem dX0_ensembleMask_4 : decode cX0_ensembleMask 4 = .ok (.iload_n 3, 1) := by decide +kernel
theorem dX0_ensembleMask_5 : decode cX0_ensembleMask 5 = .ok (.aload_n 0, 1) := by decide +kernel
theorem dX0_ensembleMask_6 : decode cX0_ensembleMask 6 = .ok (.getfield 28, 3) := by decide +kernel
theorem dX0_ensembleMask_9 : decode cX0_ensembleMask 9 = .ok (.if_icmp .ge 21, 3) := by decide +kernel
theorem dX0_ensembleMask_12 : decode cX0_ensembleMask 12 = .ok (.iload_n 2, 1) := by decide +kernel
theorem dX0_ensembleMask_13 : decode cX0_ensembleMask 13 = .ok (.aload_n 0, 1) := by decide +kernel
theorem dX0_ensembleMask_14 : decode cX0_ensembleMask 14 = .ok (.iload_n 1, 1) := by decide +kernel
theorem dX0_ensembleMask_15 : decode cX0_ensembleMask 15 = .ok (.iload_n 3, 1) := by decide +kernel
theorem dX0_ensembleMask_16 : decode cX0_ensembleMask 16 = .ok (.invokevirtual 92, 3) := by decide +kernel
theorem dX0_ensembleMask_19 : decode cX0_ensembleMask 19 = .ok (.invokestatic 95, 3) := by decide +kernel
theorem dX0_ensembleMask_22 : decode cX0_ensembleMask 22 = .ok (.ior, 1) := by decide +kernel
theorem dX0_ensembleMask_23 : decode cX0_ensembleMask 23 = .ok (.istore_n 2, 1) := by decide +kernel
theorem dX0_ensembleMask_24 : decode cX0_ensembleMask 24 = .ok (.iinc 3 1, 3) := by decide +kernel
theorem dX0_ensembleMask_27 : decode cX0_ensembleMask 27 = .ok (.goto (-23), 3) := by decide +kernel
theorem dX0_ensembleMask_30 : decode cX0_ensembleMask 30 = .ok (.iload_n 2, 1) := by decide +kernel
theorem dX0_ensembleMask_31 : decode cX0_ensembleMask 31 = .ok (.ireturn, 1) := by decide +kernel
theorem dX0_writeSetNode_0 : decode cX0_writeSetNode 0 = .ok (.aload_n 0, 1) := by decide +kernel
theorem dX0_writeSetNode_1 : decode cX0_writeSetNode 1 = .ok (.getfield 28, 3) := by decide +kernel
theorem dX0_writeSetNode_4 : decode cX0_writeSetNode 4 = .ok (.iconst 1, 1) := by decide +kernel
theorem dX0_writeSetNode_5 : decode cX0_writeSetNode 5 = .ok (.if_icmp .lt 11, 3) := by decide +kernel
theorem dX0_writeSetNode_8 : decode cX0_writeSetNode 8 = .ok (.iload_n 2, 1) := by decide +kernel
theorem dX0_writeSetNode_9 : decode cX0_writeSetNode 9 = .ok (.ifCond .lt 7, 3) := by decide +kernel
theorem dX0_writeSetNode_12 : decode cX0_writeSetNode 12 = .ok (.iload_n 3, 1) := by decide +kernel
theorem dX0_writeSetNode_13 : decode cX0_writeSetNode 13 = .ok (.ifCond .ge 5, 3) := by decide +kernel
theorem dX0_writeSetNode_16 : decode cX0_writeSetNode 16 = .ok (.iconst (-1), 1) := by decide +kernel
theorem dX0_writeSetNode_17 : decode cX0_writeSetNode 17 = .ok (.ireturn, 1) := by decide +kernel
theorem dX0_writeSetNode_18 : decode cX0_writeSetNode 18 = .ok (.aload_n 0, 1) := by decide +kernel
theorem dX0_writeSetNode_19 : decode cX0_writeSetNode 19 = .ok (.iload_n 1, 1) := by decide +kernel
theorem dX0_writeSetNode_20 : decode cX0_writeSetNode 20 = .ok (.iload_n 2, 1) := by decide +kernel
theorem dX0_writeSetNode_21 : decode cX0_writeSetNode 21 = .ok (.iload_n 3, 1) := by decide +kernel
theorem dX0_writeSetNode_22 : decode cX0_writeSetNode 22 = .ok (.iadd, 1) := by decide +kernel
theorem dX0_writeSetNode_23 : decode cX0_writeSetNode 23 = .ok (.aload_n 0, 1) := by decide +kernel
theorem dX0_writeSetNode_24 : decode cX0_writeSetNode 24 = .ok (.getfield 28, 3) := by decide +kernel
theorem dX0_writeSetNode_27 : decode cX0_writeSetNode 27 = .ok (.irem, 1) := by decide +kernel
theorem dX0_writeSetNode_28 : decode cX0_writeSetNode 28 = .ok (.invokevirtual 92, 3) := by decide +kernel
theorem dX0_writeSetNode_31 : decode cX0_writeSetNode 31 = .ok (.ireturn, 1) := by decide +kernel
theorem dX0_writeSetMask_0 : decode cX0_writeSetMask 0 = .ok (.iconst 0, 1) := by decide +kernel
theorem dX0_writeSetMask_1 : decode cX0_writeSetMask 1 = .ok (.istore_n 3, 1) := by decide +kernel
theorem dX0_writeSetMask_2 : decode cX0_writeSetMask 2 = .ok (.iconst 0, 1) := by decide +kernel
theorem dX0_writeSetMask_3 : decode cX0_writeSetMask 3 = .ok (.istore 4, 2) := by decide +kernel
theorem dX0_writeSetMask_5 : decode cX0_writeSetMask 5 = .ok (.iload 4, 2) := by decide +kernel
theorem dX0_writeSetMask_7 : decode cX0_writeSetMask 7 = .ok (.aload_n 0, 1) := by decide +kernel
theorem dX0_writeSetMask_8 : decode cX0_writeSetMask 8 = .ok (.getfield 31, 3) := by decide +kernel
theorem dX0_writeSetMask_11 : decode cX0_writeSetMask 11 = .ok (.if_icmp .ge 23, 3) := by decide +kernel
theorem dX0_writeSetMask_14 : decode cX0_writeSetMask 14 = .ok (.iload_n 3, 1) := by decide +kernel
theorem dX0_writeSetMask_15 : decode cX0_writeSetMask 15 = .ok (.aload_n 0, 1) := by decide +kernel
theorem dX0_writeSetMask_16 : decode cX0_writeSetMask 16 = .ok (.iload_n 1, 1) := by decide +kernel
theorem dX0_writeSetMask_17 : decode cX0_writeSetMask 17 = .ok (.iload_n 2, 1) := by decide +kernel
theorem dX0_writeSetMask_18 : decode cX0_writeSetMask 18 = .ok (.iload 4, 2) := by decide +kernel
theorem dX0_writeSetMask_20 : decode cX0_writeSetMask 20 = .ok (.invokevirtual 98, 3) := by decide +kernel
theorem dX0_writeSetMask_23 : decode cX0_writeSetMask 23 = .ok (.invokestatic 95, 3) := by decide +kernel
theorem dX0_writeSetMask_26 : decode cX0_writeSetMask 26 = .ok (.ior, 1) := by decide +kernel
theorem dX0_writeSetMask_27 : decode cX0_writeSetMask 27 = .ok (.istore_n 3, 1) := by decide +kernel
theorem dX0_writeSetMask_28 : decode cX0_writeSetMask 28 = .ok (.iinc 4 1, 3) := by decide +kernel
theorem dX0_writeSetMask_31 : decode cX0_writeSetMask 31 = .ok (.goto (-26), 3) := by decide +kernel
theorem dX0_writeSetMask_34 : decode cX0_writeSetMask 34 = .ok (.iload_n 3, 1) := by decide +kernel
theorem dX0_writeSetMask_35 : decode cX0_writeSetMask 35 = .ok (.ireturn, 1) := by decide +kernel
theorem dX0_maskOf_0 : decode cX0_maskOf 0 = .ok (.iload_n 0, 1) := by decide +kernel
theorem dX0_maskOf_1 : decode cX0_maskOf 1 = .ok (.ifCond .ge 7, 3) := by decide +kernel
theorem dX0_maskOf_4 : decode cX0_maskOf 4 = .ok (.iconst 0, 1) := by decide +kernel
theorem dX0_maskOf_5 : decode cX0_maskOf 5 = .ok (.goto 6, 3) := by decide +kernel
theorem dX0_maskOf_8 : decode cX0_maskOf 8 = .ok (.iconst 1, 1) := by decide +kernel
theorem dX0_maskOf_9 : decode cX0_maskOf 9 = .ok (.iload_n 0, 1) := by decide +kernel
theorem dX0_maskOf_10 : decode cX0_maskOf 10 = .ok (.ishl, 1) := by decide +kernel
theorem dX0_maskOf_11 : decode cX0_maskOf 11 = .ok (.ireturn, 1) := by decide +kernel
theorem dX0_placeOf_0 : decode cX0_placeOf 0 = .ok (.iload_n 0, 1) := by decide +kernel
theorem dX0_placeOf_1 : decode cX0_placeOf 1 = .ok (.ifCond .lt 22, 3) := by decide +kernel
theorem dX0_placeOf_4 : decode cX0_placeOf 4 = .ok (.iload_n 0, 1) := by decide +kernel
theorem dX0_placeOf_5 : decode cX0_placeOf 5 = .ok (.bipush 41, 2) := by decide +kernel
theorem dX0_placeOf_7 : decode cX0_placeOf 7 = .ok (.if_icmp .ge 16, 3) := by decide +kernel
theorem dX0_placeOf_10 : decode cX0_placeOf 10 = .ok (.iload_n 1, 1) := by decide +kernel
theorem dX0_placeOf_11 : decode cX0_placeOf 11 = .ok (.ifCond .lt 12, 3) := by decide +kernel
theorem dX0_placeOf_14 : decode cX0_placeOf 14 = .ok (.iload_n 1, 1) := by decide +kernel
theorem dX0_placeOf_15 : decode cX0_placeOf 15 = .ok (.iconst 5, 1) := by decide +kernel
theorem dX0_placeOf_16 : decode cX0_placeOf 16 = .ok (.if_icmp .ge 7, 3) := by decide +kernel
theorem dX0_placeOf_19 : decode cX0_placeOf 19 = .ok (.iconst 1, 1) := by decide +kernel
theorem dX0_placeOf_20 : decode cX0_placeOf 20 = .ok (.goto 4, 3) := by decide +kernel
theorem dX0_placeOf_23 : decode cX0_placeOf 23 = .ok (.iconst 0, 1) := by decide +kernel
theorem dX0_placeOf_24 : decode cX0_placeOf 24 = .ok (.istore_n 2, 1) := by decide +kernel
theorem dX0_placeOf_25 : decode cX0_placeOf 25 = .ok (.iload_n 2, 1) := by decide +kernel
theorem dX0_placeOf_26 : decode cX0_placeOf 26 = .ok (.ifCond .eq 11, 3) := by decide +kernel
theorem dX0_placeOf_29 : decode cX0_placeOf 29 = .ok (.iload_n 0, 1) := by decide +kernel
theorem dX0_placeOf_30 : decode cX0_placeOf 30 = .ok (.iconst 5, 1) := by decide +kernel
theorem dX0_placeOf_31 : decode cX0_placeOf 31 = .ok (.imul, 1) := by decide +kernel
theorem dX0_placeOf_32 : decode cX0_placeOf 32 = .ok (.iload_n 1, 1) := by decide +kernel
theorem dX0_placeOf_33 : decode cX0_placeOf 33 = .ok (.iadd, 1) := by decide +kernel
theorem dX0_placeOf_34 : decode cX0_placeOf 34 = .ok (.goto 4, 3) := by decide +kernel
theorem dX0_placeOf_37 : decode cX0_placeOf 37 = .ok (.iconst (-1), 1) := by decide +kernel
theorem dX0_placeOf_38 : decode cX0_placeOf 38 = .ok (.ireturn, 1) := by decide +kernel
theorem dX1_init_0 : decode cX1_init 0 = .ok (.aload_n 0, 1) := by decide +kernel
theorem dX1_init_1 : decode cX1_init 1 = .ok (.invokespecial 3, 3) := by decide +kernel
theorem dX1_init_4 : decode cX1_init 4 = .ok (.aload_n 0, 1) := by decide +kernel
theorem dX1_init_5 : decode cX1_init 5 = .ok (.sipush 160, 3) := by decide +kernel
theorem dX1_init_8 : decode cX1_init 8 = .ok (.newarray .int, 2) := by decide +kernel
theorem dX1_init_10 : decode cX1_init 10 = .ok (.putfield 9, 3) := by decide +kernel
theorem dX1_init_13 : decode cX1_init 13 = .ok (.aload_n 0, 1) := by decide +kernel
theorem dX1_init_14 : decode cX1_init 14 = .ok (.bipush 100, 2) := by decide +kernel
theorem dX1_init_16 : decode cX1_init 16 = .ok (.newarray .int, 2) := by decide +kernel
theorem dX1_init_18 : decode cX1_init 18 = .ok (.putfield 15, 3) := by decide +kernel
theorem dX1_init_21 : decode cX1_init 21 = .ok (.return_, 1) := by decide +kernel
theorem dX1_begin_0 : decode cX1_begin 0 = .ok (.aload_n 0, 1) := by decide +kernel
theorem dX1_begin_1 : decode cX1_begin 1 = .ok (.iconst 1, 1) := by decide +kernel
theorem dX1_begin_2 : decode cX1_begin 2 = .ok (.putfield 18, 3) := by decide +kernel
theorem dX1_begin_5 : decode cX1_begin 5 = .ok (.aload_n 0, 1) := by decide +kernel
theorem dX1_begin_6 : decode cX1_begin 6 = .ok (.iconst 0, 1) := by decide +kernel
theorem dX1_begin_7 : decode cX1_begin 7 = .ok (.putfield 22, 3) := by decide +kernel
theorem dX1_begin_10 : decode cX1_begin 10 = .ok (.aload_n 0, 1) := by decide +kernel
theorem dX1_begin_11 : decode cX1_begin 11 = .ok (.iconst 0, 1) := by decide +kernel
theorem dX1_begin_12 : decode cX1_begin 12 = .ok (.putfield 26, 3) := by decide +kernel
theorem dX1_begin_15 : decode cX1_begin 15 = .ok (.aload_n 0, 1) := by decide +kernel
theorem dX1_begin_16 : decode cX1_begin 16 = .ok (.iconst 0, 1) := by decide +kernel
theorem dX1_begin_17 : decode cX1_begin 17 = .ok (.putfield 29, 3) := by decide +kernel
theorem dX1_begin_20 : decode cX1_begin 20 = .ok (.aload_n 0, 1) := by decide +kernel
theorem dX1_begin_21 : decode cX1_begin 21 = .ok (.getfield 9, 3) := by decide +kernel
theorem dX1_begin_24 : decode cX1_begin 24 = .ok (.iconst (-1), 1) := by decide +kernel
theorem dX1_begin_25 : decode cX1_begin 25 = .ok (.invokestatic 32, 3) := by decide +kernel
theorem dX1_begin_28 : decode cX1_begin 28 = .ok (.return_, 1) := by decide +kernel
theorem dX1_copyFrom_0 : decode cX1_copyFrom 0 = .ok (.aload_n 0, 1) := by decide +kernel
theorem dX1_copyFrom_1 : decode cX1_copyFrom 1 = .ok (.aload_n 1, 1) := by decide +kernel
theorem dX1_copyFrom_2 : decode cX1_copyFrom 2 = .ok (.getfield 18, 3) := by decide +kernel
theorem dX1_copyFrom_5 : decode cX1_copyFrom 5 = .ok (.putfield 18, 3) := by decide +kernel
theorem dX1_copyFrom_8 : decode cX1_copyFrom 8 = .ok (.aload_n 0, 1) := by decide +kernel
theorem dX1_copyFrom_9 : decode cX1_copyFrom 9 = .ok (.aload_n 1, 1) := by decide +kernel
theorem dX1_copyFrom_10 : decode cX1_copyFrom 10 = .ok (.getfield 22, 3) := by decide +kernel
theorem dX1_copyFrom_13 : decode cX1_copyFrom 13 = .ok (.putfield 22, 3) := by decide +kernel
theorem dX1_copyFrom_16 : decode cX1_copyFrom 16 = .ok (.aload_n 0, 1) := by decide +kernel
theorem dX1_copyFrom_17 : decode cX1_copyFrom 17 = .ok (.aload_n 1, 1) := by decide +kernel
theorem dX1_copyFrom_18 : decode cX1_copyFrom 18 = .ok (.getfield 26, 3) := by decide +kernel
theorem dX1_copyFrom_21 : decode cX1_copyFrom 21 = .ok (.putfield 26, 3) := by decide +kernel
theorem dX1_copyFrom_24 : decode cX1_copyFrom 24 = .ok (.aload_n 0, 1) := by decide +kernel
theorem dX1_copyFrom_25 : decode cX1_copyFrom 25 = .ok (.aload_n 1, 1) := by decide +kernel
theorem dX1_copyFrom_26 : decode cX1_copyFrom 26 = .ok (.getfield 29, 3) := by decide +kernel
theorem dX1_copyFrom_29 : decode cX1_copyFrom 29 = .ok (.putfield 29, 3) := by decide +kernel
theorem dX1_copyFrom_32 : decode cX1_copyFrom 32 = .ok (.aload_n 1, 1) := by decide +kernel
theorem dX1_copyFrom_33 : decode cX1_copyFrom 33 = .ok (.getfield 9, 3) := by decide +kernel
theorem dX1_copyFrom_36 : decode cX1_copyFrom 36 = .ok (.aload_n 0, 1) := by decide +kernel
theorem dX1_copyFrom_37 : decode cX1_copyFrom 37 = .ok (.getfield 9, 3) := by decide +kernel
theorem dX1_copyFrom_40 : decode cX1_copyFrom 40 = .ok (.invokestatic 38, 3) := by decide +kernel
theorem dX1_copyFrom_43 : decode cX1_copyFrom 43 = .ok (.aload_n 1, 1) := by decide +kernel
theorem dX1_copyFrom_44 : decode cX1_copyFrom 44 = .ok (.getfield 15, 3) := by decide +kernel
theorem dX1_copyFrom_47 : decode cX1_copyFrom 47 = .ok (.aload_n 0, 1) := by decide +kernel
theorem dX1_copyFrom_48 : decode cX1_copyFrom 48 = .ok (.getfield 15, 3) := by decide +kernel
theorem dX1_copyFrom_51 : decode cX1_copyFrom 51 = .ok (.invokestatic 38, 3) := by decide +kernel
theorem dX1_copyFrom_54 : decode cX1_copyFrom 54 = .ok (.return_, 1) := by decide +kernel
theorem dX1_isFencedFor_0 : decode cX1_isFencedFor 0 = .ok (.aload_n 0, 1) := by decide +kernel
theorem dX1_isFencedFor_1 : decode cX1_isFencedFor 1 = .ok (.getfield 22, 3) := by decide +kernel
theorem dX1_isFencedFor_4 : decode cX1_isFencedFor 4 = .ok (.iload_n 1, 1) := by decide +kernel
theorem dX1_isFencedFor_5 : decode cX1_isFencedFor 5 = .ok (.invokestatic 42, 3) := by decide +kernel
theorem dX1_isFencedFor_8 : decode cX1_isFencedFor 8 = .ok (.ireturn, 1) := by decide +kernel
theorem dX1_fenceFor_0 : decode cX1_fenceFor 0 = .ok (.aload_n 0, 1) := by decide +kernel
theorem dX1_fenceFor_1 : decode cX1_fenceFor 1 = .ok (.dup, 1) := by decide +kernel
theorem dX1_fenceFor_2 : decode cX1_fenceFor 2 = .ok (.getfield 22, 3) := by decide +kernel
theorem dX1_fenceFor_5 : decode cX1_fenceFor 5 = .ok (.iconst 1, 1) := by decide +kernel
theorem dX1_fenceFor_6 : decode cX1_fenceFor 6 = .ok (.iload_n 1, 1) := by decide +kernel
theorem dX1_fenceFor_7 : decode cX1_fenceFor 7 = .ok (.ishl, 1) := by decide +kernel
theorem dX1_fenceFor_8 : decode cX1_fenceFor 8 = .ok (.ior, 1) := by decide +kernel
theorem dX1_fenceFor_9 : decode cX1_fenceFor 9 = .ok (.putfield 22, 3) := by decide +kernel
theorem dX1_fenceFor_12 : decode cX1_fenceFor 12 = .ok (.return_, 1) := by decide +kernel
theorem dX1_receive_0 : decode cX1_receive 0 = .ok (.aload_n 0, 1) := by decide +kernel
theorem dX1_receive_1 : decode cX1_receive 1 = .ok (.getfield 18, 3) := by decide +kernel
theorem dX1_receive_4 : decode cX1_receive 4 = .ok (.ifCond .eq 42, 3) := by decide +kernel
theorem dX1_receive_7 : decode cX1_receive 7 = .ok (.aload_n 0, 1) := by decide +kernel
theorem dX1_receive_8 : decode cX1_receive 8 = .ok (.getfield 29, 3) := by decide +kernel
theorem dX1_receive_11 : decode cX1_receive 11 = .ok (.ifCond .lt 35, 3) := by decide +kernel
theorem dX1_receive_14 : decode cX1_receive 14 = .ok (.aload_n 0, 1) := by decide +kernel
theorem dX1_receive_15 : decode cX1_receive 15 = .ok (.getfield 29, 3) := by decide +kernel
theorem dX1_receive_18 : decode cX1_receive 18 = .ok (.aload_n 0, 1) := by decide +kernel
theorem dX1_receive_19 : decode cX1_receive 19 = .ok (.getfield 15, 3) := by decide +kernel
theorem dX1_receive_22 : decode cX1_receive 22 = .ok (.arraylength, 1) := by decide +kernel
theorem dX1_receive_23 : decode cX1_receive 23 = .ok (.if_icmp .ge 23, 3) := by decide +kernel
theorem dX1_receive_26 : decode cX1_receive 26 = .ok (.aload_n 0, 1) := by decide +kernel
theorem dX1_receive_27 : decode cX1_receive 27 = .ok (.getfield 15, 3) := by decide +kernel
theorem dX1_receive_30 : decode cX1_receive 30 = .ok (.aload_n 0, 1) := by decide +kernel
theorem dX1_receive_31 : decode cX1_receive 31 = .ok (.getfield 29, 3) := by decide +kernel
theorem dX1_receive_34 : decode cX1_receive 34 = .ok (.iload_n 1, 1) := by decide +kernel
theorem dX1_receive_35 : decode cX1_receive 35 = .ok (.iastore, 1) := by decide +kernel
theorem dX1_receive_36 : decode cX1_receive 36 = .ok (.aload_n 0, 1) := by decide +kernel
theorem dX1_receive_37 : decode cX1_receive 37 = .ok (.dup, 1) := by decide +kernel
theorem dX1_receive_38 : decode cX1_receive 38 = .ok (.getfield 29, 3) := by decide +kernel
theorem dX1_receive_41 : decode cX1_receive 41 = .ok (.iconst 1, 1) := by decide +kernel
theorem dX1_receive_42 : decode cX1_receive 42 = .ok (.iadd, 1) := by decide +kernel
theorem dX1_receive_43 : decode cX1_receive 43 = .ok (.putfield 29, 3) := by decide +kernel
theorem dX1_receive_46 : decode cX1_receive 46 = .ok (.return_, 1) := by decide +kernel
theorem dX1_takeOldest_0 : decode cX1_takeOldest 0 = .ok (.aload_n 0, 1) := by decide +kernel
theorem dX1_takeOldest_1 : decode cX1_takeOldest 1 = .ok (.getfield 29, 3) := by decide +kernel
theorem dX1_takeOldest_4 : decode cX1_takeOldest 4 = .ok (.iconst 1, 1) := by decide +kernel
theorem dX1_takeOldest_5 : decode cX1_takeOldest 5 = .ok (.if_icmp .lt 15, 3) := by decide +kernel
theorem dX1_takeOldest_8 : decode cX1_takeOldest 8 = .ok (.aload_n 0, 1) := by decide +kernel
theorem dX1_takeOldest_9 : decode cX1_takeOldest 9 = .ok (.getfield 29, 3) := by decide +kernel
theorem dX1_takeOldest_12 : decode cX1_takeOldest 12 = .ok (.aload_n 0, 1) := by decide +kernel
theorem dX1_takeOldest_13 : decode cX1_takeOldest 13 = .ok (.getfield 15, 3) := by decide +kernel
theorem dX1_takeOldest_16 : decode cX1_takeOldest 16 = .ok (.arraylength, 1) := by decide +kernel
theorem dX1_takeOldest_17 : decode cX1_takeOldest 17 = .ok (.if_icmp .le 5, 3) := by decide +kernel
theorem dX1_takeOldest_20 : decode cX1_takeOldest 20 = .ok (.iconst (-1), 1) := by decide +kernel
theorem dX1_takeOldest_21 : decode cX1_takeOldest 21 = .ok (.ireturn, 1) := by decide +kernel
theorem dX1_takeOldest_22 : decode cX1_takeOldest 22 = .ok (.aload_n 0, 1) := by decide +kernel
theorem dX1_takeOldest_23 : decode cX1_takeOldest 23 = .ok (.getfield 15, 3) := by decide +kernel
theorem dX1_takeOldest_26 : decode cX1_takeOldest 26 = .ok (.iconst 0, 1) := by decide +kernel
theorem dX1_takeOldest_27 : decode cX1_takeOldest 27 = .ok (.iaload, 1) := by decide +kernel
theorem dX1_takeOldest_28 : decode cX1_takeOldest 28 = .ok (.istore_n 1, 1) := by decide +kernel
theorem dX1_takeOldest_29 : decode cX1_takeOldest 29 = .ok (.aload_n 0, 1) := by decide +kernel
theorem dX1_takeOldest_30 : decode cX1_takeOldest 30 = .ok (.dup, 1) := by decide +kernel
theorem dX1_takeOldest_31 : decode cX1_takeOldest 31 = .ok (.getfield 29, 3) := by decide +kernel
theorem dX1_takeOldest_34 : decode cX1_takeOldest 34 = .ok (.iconst 1, 1) := by decide +kernel
theorem dX1_takeOldest_35 : decode cX1_takeOldest 35 = .ok (.isub, 1) := by decide +kernel
theorem dX1_takeOldest_36 : decode cX1_takeOldest 36 = .ok (.putfield 29, 3) := by decide +kernel
theorem dX1_takeOldest_39 : decode cX1_takeOldest 39 = .ok (.aload_n 0, 1) := by decide +kernel
theorem dX1_takeOldest_40 : decode cX1_takeOldest 40 = .ok (.getfield 15, 3) := by decide +kernel
theorem dX1_takeOldest_43 : decode cX1_takeOldest 43 = .ok (.iconst 1, 1) := by decide +kernel
theorem dX1_takeOldest_44 : decode cX1_takeOldest 44 = .ok (.aload_n 0, 1) := by decide +kernel
theorem dX1_takeOldest_45 : decode cX1_takeOldest 45 = .ok (.getfield 15, 3) := by decide +kernel
theorem dX1_takeOldest_48 : decode cX1_takeOldest 48 = .ok (.iconst 0, 1) := by decide +kernel
theorem dX1_takeOldest_49 : decode cX1_takeOldest 49 = .ok (.aload_n 0, 1) := by decide +kernel
theorem dX1_takeOldest_50 : decode cX1_takeOldest 50 = .ok (.getfield 29, 3) := by decide +kernel
theorem dX1_takeOldest_53 : decode cX1_takeOldest 53 = .ok (.invokestatic 46, 3) := by decide +kernel
theorem dX1_takeOldest_56 : decode cX1_takeOldest 56 = .ok (.iload_n 1, 1) := by decide +kernel
theorem dX1_takeOldest_57 : decode cX1_takeOldest 57 = .ok (.ireturn, 1) := by decide +kernel
theorem dX1_keep_0 : decode cX1_keep 0 = .ok (.iload_n 1, 1) := by decide +kernel
theorem dX1_keep_1 : decode cX1_keep 1 = .ok (.invokestatic 52, 3) := by decide +kernel
theorem dX1_keep_4 : decode cX1_keep 4 = .ok (.iload_n 1, 1) := by decide +kernel
theorem dX1_keep_5 : decode cX1_keep 5 = .ok (.invokestatic 58, 3) := by decide +kernel
theorem dX1_keep_8 : decode cX1_keep 8 = .ok (.invokestatic 61, 3) := by decide +kernel
theorem dX1_keep_11 : decode cX1_keep 11 = .ok (.istore_n 2, 1) := by decide +kernel
theorem dX1_keep_12 : decode cX1_keep 12 = .ok (.iload_n 2, 1) := by decide +kernel
theorem dX1_keep_13 : decode cX1_keep 13 = .ok (.ifCond .lt 12, 3) := by decide +kernel
theorem dX1_keep_16 : decode cX1_keep 16 = .ok (.iload_n 2, 1) := by decide +kernel
theorem dX1_keep_17 : decode cX1_keep 17 = .ok (.aload_n 0, 1) := by decide +kernel
theorem dX1_keep_18 : decode cX1_keep 18 = .ok (.getfield 9, 3) := by decide +kernel
theorem dX1_keep_21 : decode cX1_keep 21 = .ok (.arraylength, 1) := by decide +kernel
theorem dX1_keep_22 : decode cX1_keep 22 = .ok (.if_icmp .lt 4, 3) := by decide +kernel
theorem dX1_keep_25 : decode cX1_keep 25 = .ok (.return_, 1) := by decide +kernel
theorem dX1_keep_26 : decode cX1_keep 26 = .ok (.aload_n 0, 1) := by decide +kernel
theorem dX1_keep_27 : decode cX1_keep 27 = .ok (.getfield 9, 3) := by decide +kernel
theorem dX1_keep_30 : decode cX1_keep 30 = .ok (.iload_n 2, 1) := by decide +kernel
theorem dX1_keep_31 : decode cX1_keep 31 = .ok (.iaload, 1) := by decide +kernel
theorem dX1_keep_32 : decode cX1_keep 32 = .ok (.iconst (-1), 1) := by decide +kernel
theorem dX1_keep_33 : decode cX1_keep 33 = .ok (.if_icmp .ne 13, 3) := by decide +kernel
theorem dX1_keep_36 : decode cX1_keep 36 = .ok (.aload_n 0, 1) := by decide +kernel
theorem dX1_keep_37 : decode cX1_keep 37 = .ok (.dup, 1) := by decide +kernel
theorem dX1_keep_38 : decode cX1_keep 38 = .ok (.getfield 26, 3) := by decide +kernel
theorem dX1_keep_41 : decode cX1_keep 41 = .ok (.iconst 1, 1) := by decide +kernel
theorem dX1_keep_42 : decode cX1_keep 42 = .ok (.iadd, 1) := by decide +kernel
theorem dX1_keep_43 : decode cX1_keep 43 = .ok (.putfield 26, 3) := by decide +kernel
theorem dX1_keep_46 : decode cX1_keep 46 = .ok (.aload_n 0, 1) := by decide +kernel
theorem dX1_keep_47 : decode cX1_keep 47 = .ok (.getfield 9, 3) := by decide +kernel
theorem dX1_keep_50 : decode cX1_keep 50 = .ok (.iload_n 2, 1) := by decide +kernel
theorem dX1_keep_51 : decode cX1_keep 51 = .ok (.iload_n 1, 1) := by decide +kernel
theorem dX1_keep_52 : decode cX1_keep 52 = .ok (.iastore, 1) := by decide +kernel
theorem dX1_keep_53 : decode cX1_keep 53 = .ok (.return_, 1) := by decide +kernel
theorem dX1_storedParcel_0 : decode cX1_storedParcel 0 = .ok (.iload_n 1, 1) := by decide +kernel
theorem dX1_storedParcel_1 : decode cX1_storedParcel 1 = .ok (.iload_n 2, 1) := by decide +kernel
theorem dX1_storedParcel_2 : decode cX1_storedParcel 2 = .ok (.invokestatic 61, 3) := by decide +kernel
theorem dX1_storedParcel_5 : decode cX1_storedParcel 5 = .ok (.istore_n 3, 1) := by decide +kernel
theorem dX1_storedParcel_6 : decode cX1_storedParcel 6 = .ok (.iload_n 3, 1) := by decide +kernel
theorem dX1_storedParcel_7 : decode cX1_storedParcel 7 = .ok (.ifCond .lt 12, 3) := by decide +kernel
theorem dX1_storedParcel_10 : decode cX1_storedParcel 10 = .ok (.iload_n 3, 1) := by decide +kernel
theorem dX1_storedParcel_11 : decode cX1_storedParcel 11 = .ok (.aload_n 0, 1) := by decide +kernel
theorem dX1_storedParcel_12 : decode cX1_storedParcel 12 = .ok (.getfield 9, 3) := by decide +kernel
theorem dX1_storedParcel_15 : decode cX1_storedParcel 15 = .ok (.arraylength, 1) := by decide +kernel
theorem dX1_storedParcel_16 : decode cX1_storedParcel 16 = .ok (.if_icmp .lt 7, 3) := by decide +kernel
theorem dX1_storedParcel_19 : decode cX1_storedParcel 19 = .ok (.iconst (-1), 1) := by decide +kernel
theorem dX1_storedParcel_20 : decode cX1_storedParcel 20 = .ok (.goto 9, 3) := by decide +kernel
theorem dX1_storedParcel_23 : decode cX1_storedParcel 23 = .ok (.aload_n 0, 1) := by decide +kernel
theorem dX1_storedParcel_24 : decode cX1_storedParcel 24 = .ok (.getfield 9, 3) := by decide +kernel
theorem dX1_storedParcel_27 : decode cX1_storedParcel 27 = .ok (.iload_n 3, 1) := by decide +kernel
theorem dX1_storedParcel_28 : decode cX1_storedParcel 28 = .ok (.iaload, 1) := by decide +kernel
theorem dX1_storedParcel_29 : decode cX1_storedParcel 29 = .ok (.ireturn, 1) := by decide +kernel
theorem dX1_holds_0 : decode cX1_holds 0 = .ok (.aload_n 0, 1) := by decide +kernel
theorem dX1_holds_1 : decode cX1_holds 1 = .ok (.iload_n 1, 1) := by decide +kernel
theorem dX1_holds_2 : decode cX1_holds 2 = .ok (.iload_n 2, 1) := by decide +kernel
theorem dX1_holds_3 : decode cX1_holds 3 = .ok (.invokevirtual 65, 3) := by decide +kernel
theorem dX1_holds_6 : decode cX1_holds 6 = .ok (.iconst (-1), 1) := by decide +kernel
theorem dX1_holds_7 : decode cX1_holds 7 = .ok (.if_icmp .eq 7, 3) := by decide +kernel
theorem dX1_holds_10 : decode cX1_holds 10 = .ok (.iconst 1, 1) := by decide +kernel
theorem dX1_holds_11 : decode cX1_holds 11 = .ok (.goto 4, 3) := by decide +kernel
theorem dX1_holds_14 : decode cX1_holds 14 = .ok (.iconst 0, 1) := by decide +kernel
theorem dX1_holds_15 : decode cX1_holds 15 = .ok (.ireturn, 1) := by decide +kernel
theorem dX1_greatestConfirmed_0 : decode cX1_greatestConfirmed 0 = .ok (.iconst (-1), 1) := by decide +kernel
theorem dX1_greatestConfirmed_1 : decode cX1_greatestConfirmed 1 = .ok (.istore_n 2, 1) := by decide +kernel
theorem dX1_greatestConfirmed_2 : decode cX1_greatestConfirmed 2 = .ok (.iconst 0, 1) := by decide +kernel
theorem dX1_greatestConfirmed_3 : decode cX1_greatestConfirmed 3 = .ok (.istore_n 3, 1) := by decide +kernel
theorem dX1_greatestConfirmed_4 : decode cX1_greatestConfirmed 4 = .ok (.iload_n 3, 1) := by decide +kernel
theorem dX1_greatestConfirmed_5 : decode cX1_greatestConfirmed 5 = .ok (.bipush 40, 2) := by decide +kernel
theorem dX1_greatestConfirmed_7 : decode cX1_greatestConfirmed 7 = .ok (.if_icmp .ge 33, 3) := by decide +kernel
theorem dX1_greatestConfirmed_10 : decode cX1_greatestConfirmed 10 = .ok (.aload_n 0, 1) := by decide +kernel
theorem dX1_greatestConfirmed_11 : decode cX1_greatestConfirmed 11 = .ok (.iload_n 1, 1) := by decide +kernel
theorem dX1_greatestConfirmed_12 : decode cX1_greatestConfirmed 12 = .ok (.iload_n 3, 1) := by decide +kernel
theorem dX1_greatestConfirmed_13 : decode cX1_greatestConfirmed 13 = .ok (.invokevirtual 65, 3) := by decide +kernel
theorem dX1_greatestConfirmed_16 : decode cX1_greatestConfirmed 16 = .ok (.istore 4, 2) := by decide +kernel
theorem dX1_greatestConfirmed_18 : decode cX1_greatestConfirmed 18 = .ok (.iload 4, 2) := by decide +kernel
theorem dX1_greatestConfirmed_20 : decode cX1_greatestConfirmed 20 = .ok (.iconst (-1), 1) := by decide +kernel
theorem dX1_greatestConfirmed_21 : decode cX1_greatestConfirmed 21 = .ok (.if_icmp .eq 13, 3) := by decide +kernel
theorem dX1_greatestConfirmed_24 : decode cX1_greatestConfirmed 24 = .ok (.iload_n 2, 1) := by decide +kernel
theorem dX1_greatestConfirmed_25 : decode cX1_greatestConfirmed 25 = .ok (.iload 4, 2) := by decide +kernel
theorem dX1_greatestConfirmed_27 : decode cX1_greatestConfirmed 27 = .ok (.invokestatic 68, 3) := by decide +kernel
theorem dX1_greatestConfirmed_30 : decode cX1_greatestConfirmed 30 = .ok (.invokestatic 71, 3) := by decide +kernel
theorem dX1_greatestConfirmed_33 : decode cX1_greatestConfirmed 33 = .ok (.istore_n 2, 1) := by decide +kernel
theorem dX1_greatestConfirmed_34 : decode cX1_greatestConfirmed 34 = .ok (.iinc 3 1, 3) := by decide +kernel
theorem dX1_greatestConfirmed_37 : decode cX1_greatestConfirmed 37 = .ok (.goto (-33), 3) := by decide +kernel
theorem dX1_greatestConfirmed_40 : decode cX1_greatestConfirmed 40 = .ok (.iload_n 2, 1) := by decide +kernel
theorem dX1_greatestConfirmed_41 : decode cX1_greatestConfirmed 41 = .ok (.ireturn, 1) := by decide +kernel
theorem dX1_slotOf_0 : decode cX1_slotOf 0 = .ok (.iload_n 0, 1) := by decide +kernel
theorem dX1_slotOf_1 : decode cX1_slotOf 1 = .ok (.ifCond .lt 22, 3) := by decide +kernel
theorem dX1_slotOf_4 : decode cX1_slotOf 4 = .ok (.iload_n 0, 1) := by decide +kernel
theorem dX1_slotOf_5 : decode cX1_slotOf 5 = .ok (.iconst 4, 1) := by decide +kernel
theorem dX1_slotOf_6 : decode cX1_slotOf 6 = .ok (.if_icmp .ge 17, 3) := by decide +kernel
theorem dX1_slotOf_9 : decode cX1_slotOf 9 = .ok (.iload_n 1, 1) := by decide +kernel
theorem dX1_slotOf_10 : decode cX1_slotOf 10 = .ok (.ifCond .lt 13, 3) := by decide +kernel
theorem dX1_slotOf_13 : decode cX1_slotOf 13 = .ok (.iload_n 1, 1) := by decide +kernel
theorem dX1_slotOf_14 : decode cX1_slotOf 14 = .ok (.bipush 40, 2) := by decide +kernel
theorem dX1_slotOf_16 : decode cX1_slotOf 16 = .ok (.if_icmp .ge 7, 3) := by decide +kernel
theorem dX1_slotOf_19 : decode cX1_slotOf 19 = .ok (.iconst 1, 1) := by decide +kernel
theorem dX1_slotOf_20 : decode cX1_slotOf 20 = .ok (.goto 4, 3) := by decide +kernel
theorem dX1_slotOf_23 : decode cX1_slotOf 23 = .ok (.iconst 0, 1) := by decide +kernel
theorem dX1_slotOf_24 : decode cX1_slotOf 24 = .ok (.istore_n 2, 1) := by decide +kernel
theorem dX1_slotOf_25 : decode cX1_slotOf 25 = .ok (.iload_n 2, 1) := by decide +kernel
theorem dX1_slotOf_26 : decode cX1_slotOf 26 = .ok (.ifCond .eq 12, 3) := by decide +kernel
theorem dX1_slotOf_29 : decode cX1_slotOf 29 = .ok (.iload_n 0, 1) := by decide +kernel
theorem dX1_slotOf_30 : decode cX1_slotOf 30 = .ok (.bipush 40, 2) := by decide +kernel
theorem dX1_slotOf_32 : decode cX1_slotOf 32 = .ok (.imul, 1) := by decide +kernel
theorem dX1_slotOf_33 : decode cX1_slotOf 33 = .ok (.iload_n 1, 1) := by decide +kernel
theorem dX1_slotOf_34 : decode cX1_slotOf 34 = .ok (.iadd, 1) := by decide +kernel
theorem dX1_slotOf_35 : decode cX1_slotOf 35 = .ok (.goto 4, 3) := by decide +kernel
theorem dX1_slotOf_38 : decode cX1_slotOf 38 = .ok (.iconst (-1), 1) := by decide +kernel
theorem dX1_slotOf_39 : decode cX1_slotOf 39 = .ok (.ireturn, 1) := by decide +kernel
theorem dX2_of_0 : decode cX2_of 0 = .ok (.iload_n 0, 1) := by decide +kernel
theorem dX2_of_1 : decode cX2_of 1 = .ok (.iconst 3, 1) := by decide +kernel
theorem dX2_of_2 : decode cX2_of 2 = .ok (.iand, 1) := by decide +kernel
theorem dX2_of_3 : decode cX2_of 3 = .ok (.bipush 22, 2) := by decide +kernel
theorem dX2_of_5 : decode cX2_of 5 = .ok (.ishl, 1) := by decide +kernel
theorem dX2_of_6 : decode cX2_of 6 = .ok (.iload_n 1, 1) := by decide +kernel
theorem dX2_of_7 : decode cX2_of 7 = .ok (.bipush 63, 2) := by decide +kernel
theorem dX2_of_9 : decode cX2_of 9 = .ok (.iand, 1) := by decide +kernel
theorem dX2_of_10 : decode cX2_of 10 = .ok (.bipush 16, 2) := by decide +kernel
theorem dX2_of_12 : decode cX2_of 12 = .ok (.ishl, 1) := by decide +kernel
theorem dX2_of_13 : decode cX2_of 13 = .ok (.ior, 1) := by decide +kernel
theorem dX2_of_14 : decode cX2_of 14 = .ok (.iload_n 3, 1) := by decide +kernel
theorem dX2_of_15 : decode cX2_of 15 = .ok (.iconst 1, 1) := by decide +kernel
theorem dX2_of_16 : decode cX2_of 16 = .ok (.iadd, 1) := by decide +kernel
theorem dX2_of_17 : decode cX2_of 17 = .ok (.bipush 63, 2) := by decide +kernel
theorem dX2_of_19 : decode cX2_of 19 = .ok (.iand, 1) := by decide +kernel
theorem dX2_of_20 : decode cX2_of 20 = .ok (.bipush 10, 2) := by decide +kernel
theorem dX2_of_22 : decode cX2_of 22 = .ok (.ishl, 1) := by decide +kernel
theorem dX2_of_23 : decode cX2_of 23 = .ok (.ior, 1) := by decide +kernel
theorem dX2_of_24 : decode cX2_of 24 = .ok (.iload_n 2, 1) := by decide +kernel
theorem dX2_of_25 : decode cX2_of 25 = .ok (.sipush 1023, 3) := by decide +kernel
theorem dX2_of_28 : decode cX2_of 28 = .ok (.iand, 1) := by decide +kernel
theorem dX2_of_29 : decode cX2_of 29 = .ok (.ior, 1) := by decide +kernel
theorem dX2_of_30 : decode cX2_of 30 = .ok (.ireturn, 1) := by decide +kernel
theorem dX2_ledgerOf_0 : decode cX2_ledgerOf 0 = .ok (.iload_n 0, 1) := by decide +kernel
theorem dX2_ledgerOf_1 : decode cX2_ledgerOf 1 = .ok (.bipush 22, 2) := by decide +kernel
theorem dX2_ledgerOf_3 : decode cX2_ledgerOf 3 = .ok (.ishr, 1) := by decide +kernel
theorem dX2_ledgerOf_4 : decode cX2_ledgerOf 4 = .ok (.iconst 3, 1) := by decide +kernel
theorem dX2_ledgerOf_5 : decode cX2_ledgerOf 5 = .ok (.iand, 1) := by decide +kernel
theorem dX2_ledgerOf_6 : decode cX2_ledgerOf 6 = .ok (.ireturn, 1) := by decide +kernel
theorem dX2_entryOf_0 : decode cX2_entryOf 0 = .ok (.iload_n 0, 1) := by decide +kernel
theorem dX2_entryOf_1 : decode cX2_entryOf 1 = .ok (.bipush 16, 2) := by decide +kernel
theorem dX2_entryOf_3 : decode cX2_entryOf 3 = .ok (.ishr, 1) := by decide +kernel
theorem dX2_entryOf_4 : decode cX2_entryOf 4 = .ok (.bipush 63, 2) := by decide +kernel
theorem dX2_entryOf_6 : decode cX2_entryOf 6 = .ok (.iand, 1) := by decide +kernel
theorem dX2_entryOf_7 : decode cX2_entryOf 7 = .ok (.ireturn, 1) := by decide +kernel
theorem dX2_confirmedOf_0 : decode cX2_confirmedOf 0 = .ok (.iload_n 0, 1) := by decide +kernel
theorem dX2_confirmedOf_1 : decode cX2_confirmedOf 1 = .ok (.bipush 10, 2) := by decide +kernel
theorem dX2_confirmedOf_3 : decode cX2_confirmedOf 3 = .ok (.ishr, 1) := by decide +kernel
theorem dX2_confirmedOf_4 : decode cX2_confirmedOf 4 = .ok (.bipush 63, 2) := by decide +kernel
theorem dX2_confirmedOf_6 : decode cX2_confirmedOf 6 = .ok (.iand, 1) := by decide +kernel
theorem dX2_confirmedOf_7 : decode cX2_confirmedOf 7 = .ok (.iconst 1, 1) := by decide +kernel
theorem dX2_confirmedOf_8 : decode cX2_confirmedOf 8 = .ok (.isub, 1) := by decide +kernel
theorem dX2_confirmedOf_9 : decode cX2_confirmedOf 9 = .ok (.ireturn, 1) := by decide +kernel
theorem dX2_payloadOf_0 : decode cX2_payloadOf 0 = .ok (.iload_n 0, 1) := by decide +kernel
theorem dX2_payloadOf_1 : decode cX2_payloadOf 1 = .ok (.sipush 1023, 3) := by decide +kernel
theorem dX2_payloadOf_4 : decode cX2_payloadOf 4 = .ok (.iand, 1) := by decide +kernel
theorem dX2_payloadOf_5 : decode cX2_payloadOf 5 = .ok (.ireturn, 1) := by decide +kernel
