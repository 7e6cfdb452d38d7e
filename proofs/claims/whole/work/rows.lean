section
-- ===== PART A: goes FIRST, ahead of the names: the tables' words, and 'selects' of the private methods out of them =====
/-- a private method of a class that the tables say can be made, by its rows of tables_1 -/
def lw_okq (q : MethodName × Nat) : Prop := (q.1.cls ≠ "java/lang/invoke/MethodHandle" ∧ q.1.cls ≠ "java/lang/invoke/VarHandle") ∧ Cond.instantiable q.1.cls q.2 ∈ tables_1 ∧ Cond.privateMethod q.1 ∈ tables_1 ∧ Cond.instanceMethod q.1 ∈ tables_1
theorem lw_p0 : lw_okq (⟨"LedgerStore", "digestNode", "(JLLedgerStore$Node;)J"⟩, 2) := ⟨⟨by decide +kernel, by decide +kernel⟩, List.mem_of_getElem? (i := 20) (by decide +kernel), List.mem_of_getElem? (i := 292) (by decide +kernel), List.mem_of_getElem? (i := 293) (by decide +kernel)⟩
theorem lw_p1 : lw_okq (⟨"LedgerStore", "shareOf", "(LLedgerStore$Node;)F"⟩, 2) := ⟨⟨by decide +kernel, by decide +kernel⟩, List.mem_of_getElem? (i := 20) (by decide +kernel), List.mem_of_getElem? (i := 296) (by decide +kernel), List.mem_of_getElem? (i := 297) (by decide +kernel)⟩
theorem lw_p2 : lw_okq (⟨"LedgerStore", "digestLedger", "(JLLedgerStore$Ledger;)J"⟩, 2) := ⟨⟨by decide +kernel, by decide +kernel⟩, List.mem_of_getElem? (i := 20) (by decide +kernel), List.mem_of_getElem? (i := 309) (by decide +kernel), List.mem_of_getElem? (i := 310) (by decide +kernel)⟩
theorem lw_p3 : lw_okq (⟨"LedgerStore", "digestEntries", "(JLLedgerStore$Ledger;)J"⟩, 2) := ⟨⟨by decide +kernel, by decide +kernel⟩, List.mem_of_getElem? (i := 20) (by decide +kernel), List.mem_of_getElem? (i := 362) (by decide +kernel), List.mem_of_getElem? (i := 363) (by decide +kernel)⟩
theorem lw_p4 : lw_okq (⟨"LedgerStore", "digestFences", "(JLLedgerStore$Ledger;)J"⟩, 2) := ⟨⟨by decide +kernel, by decide +kernel⟩, List.mem_of_getElem? (i := 20) (by decide +kernel), List.mem_of_getElem? (i := 372) (by decide +kernel), List.mem_of_getElem? (i := 373) (by decide +kernel)⟩
theorem lw_p5 : lw_okq (⟨"java/lang/Throwable", "fillInStackTrace", "(I)Ljava/lang/Throwable;"⟩, 6) := ⟨⟨by decide +kernel, by decide +kernel⟩, List.mem_of_getElem? (i := 422) (by decide +kernel), List.mem_of_getElem? (i := 420) (by decide +kernel), List.mem_of_getElem? (i := 421) (by decide +kernel)⟩
theorem lw_p6 : lw_okq (⟨"LedgerStore", "existingNode", "(I)LLedgerStore$Node;"⟩, 2) := ⟨⟨by decide +kernel, by decide +kernel⟩, List.mem_of_getElem? (i := 20) (by decide +kernel), List.mem_of_getElem? (i := 471) (by decide +kernel), List.mem_of_getElem? (i := 472) (by decide +kernel)⟩
theorem lw_p7 : lw_okq (⟨"LedgerStore", "existingLedger", "(I)LLedgerStore$Ledger;"⟩, 2) := ⟨⟨by decide +kernel, by decide +kernel⟩, List.mem_of_getElem? (i := 20) (by decide +kernel), List.mem_of_getElem? (i := 536) (by decide +kernel), List.mem_of_getElem? (i := 537) (by decide +kernel)⟩
theorem lw_p8 : lw_okq (⟨"LedgerStoreModel", "note", "()V"⟩, 5) := ⟨⟨by decide +kernel, by decide +kernel⟩, List.mem_of_getElem? (i := 805) (by decide +kernel), List.mem_of_getElem? (i := 835) (by decide +kernel), List.mem_of_getElem? (i := 836) (by decide +kernel)⟩
theorem lw_p9 : lw_okq (⟨"LedgerStoreModel", "isNode", "(I)Z"⟩, 5) := ⟨⟨by decide +kernel, by decide +kernel⟩, List.mem_of_getElem? (i := 805) (by decide +kernel), List.mem_of_getElem? (i := 843) (by decide +kernel), List.mem_of_getElem? (i := 844) (by decide +kernel)⟩
theorem lw_p10 : lw_okq (⟨"LedgerStoreModel", "isUp", "(I)Z"⟩, 5) := ⟨⟨by decide +kernel, by decide +kernel⟩, List.mem_of_getElem? (i := 805) (by decide +kernel), List.mem_of_getElem? (i := 850) (by decide +kernel), List.mem_of_getElem? (i := 851) (by decide +kernel)⟩
theorem lw_p11 : lw_okq (⟨"LedgerStoreModel", "isFine", "(ZZ)Z"⟩, 5) := ⟨⟨by decide +kernel, by decide +kernel⟩, List.mem_of_getElem? (i := 805) (by decide +kernel), List.mem_of_getElem? (i := 854) (by decide +kernel), List.mem_of_getElem? (i := 855) (by decide +kernel)⟩
theorem lw_p12 : lw_okq (⟨"LedgerStoreModel", "empty", "(I)V"⟩, 5) := ⟨⟨by decide +kernel, by decide +kernel⟩, List.mem_of_getElem? (i := 805) (by decide +kernel), List.mem_of_getElem? (i := 858) (by decide +kernel), List.mem_of_getElem? (i := 859) (by decide +kernel)⟩
theorem lw_p13 : lw_okq (⟨"LedgerStoreModel", "weightOf", "(I)I"⟩, 5) := ⟨⟨by decide +kernel, by decide +kernel⟩, List.mem_of_getElem? (i := 805) (by decide +kernel), List.mem_of_getElem? (i := 866) (by decide +kernel), List.mem_of_getElem? (i := 867) (by decide +kernel)⟩
theorem lw_p14 : lw_okq (⟨"LedgerStoreModel", "process", "(I)I"⟩, 5) := ⟨⟨by decide +kernel, by decide +kernel⟩, List.mem_of_getElem? (i := 805) (by decide +kernel), List.mem_of_getElem? (i := 874) (by decide +kernel), List.mem_of_getElem? (i := 875) (by decide +kernel)⟩
theorem lw_p15 : lw_okq (⟨"LedgerStoreModel", "store", "(IIIII)V"⟩, 5) := ⟨⟨by decide +kernel, by decide +kernel⟩, List.mem_of_getElem? (i := 805) (by decide +kernel), List.mem_of_getElem? (i := 878) (by decide +kernel), List.mem_of_getElem? (i := 879) (by decide +kernel)⟩
def lw_privs_1 : List (MethodName × Nat) := [(⟨"LedgerStore", "digestNode", "(JLLedgerStore$Node;)J"⟩, 2), (⟨"LedgerStore", "shareOf", "(LLedgerStore$Node;)F"⟩, 2), (⟨"LedgerStore", "digestLedger", "(JLLedgerStore$Ledger;)J"⟩, 2), (⟨"LedgerStore", "digestEntries", "(JLLedgerStore$Ledger;)J"⟩, 2), (⟨"LedgerStore", "digestFences", "(JLLedgerStore$Ledger;)J"⟩, 2), (⟨"java/lang/Throwable", "fillInStackTrace", "(I)Ljava/lang/Throwable;"⟩, 6), (⟨"LedgerStore", "existingNode", "(I)LLedgerStore$Node;"⟩, 2), (⟨"LedgerStore", "existingLedger", "(I)LLedgerStore$Ledger;"⟩, 2), (⟨"LedgerStoreModel", "note", "()V"⟩, 5), (⟨"LedgerStoreModel", "isNode", "(I)Z"⟩, 5), (⟨"LedgerStoreModel", "isUp", "(I)Z"⟩, 5), (⟨"LedgerStoreModel", "isFine", "(ZZ)Z"⟩, 5), (⟨"LedgerStoreModel", "empty", "(I)V"⟩, 5), (⟨"LedgerStoreModel", "weightOf", "(I)I"⟩, 5), (⟨"LedgerStoreModel", "process", "(I)I"⟩, 5), (⟨"LedgerStoreModel", "store", "(IIIII)V"⟩, 5)]
theorem lw_r1 : ∀ q ∈ lw_privs_1, lw_okq q := List.forall_mem_cons.mpr ⟨lw_p0, List.forall_mem_cons.mpr ⟨lw_p1, List.forall_mem_cons.mpr ⟨lw_p2, List.forall_mem_cons.mpr ⟨lw_p3, List.forall_mem_cons.mpr ⟨lw_p4, List.forall_mem_cons.mpr ⟨lw_p5, List.forall_mem_cons.mpr ⟨lw_p6, List.forall_mem_cons.mpr ⟨lw_p7, List.forall_mem_cons.mpr ⟨lw_p8, List.forall_mem_cons.mpr ⟨lw_p9, List.forall_mem_cons.mpr ⟨lw_p10, List.forall_mem_cons.mpr ⟨lw_p11, List.forall_mem_cons.mpr ⟨lw_p12, List.forall_mem_cons.mpr ⟨lw_p13, List.forall_mem_cons.mpr ⟨lw_p14, List.forall_mem_cons.mpr ⟨lw_p15, fun _ h => absurd h List.not_mem_nil⟩⟩⟩⟩⟩⟩⟩⟩⟩⟩⟩⟩⟩⟩⟩⟩
theorem lw_p16 : lw_okq (⟨"LedgerStoreModel", "of", "(II)I"⟩, 5) := ⟨⟨by decide +kernel, by decide +kernel⟩, List.mem_of_getElem? (i := 805) (by decide +kernel), List.mem_of_getElem? (i := 885) (by decide +kernel), List.mem_of_getElem? (i := 886) (by decide +kernel)⟩
theorem lw_p17 : lw_okq (⟨"LedgerStoreModel", "isWriter", "(III)Z"⟩, 5) := ⟨⟨by decide +kernel, by decide +kernel⟩, List.mem_of_getElem? (i := 805) (by decide +kernel), List.mem_of_getElem? (i := 889) (by decide +kernel), List.mem_of_getElem? (i := 890) (by decide +kernel)⟩
theorem lw_p18 : lw_okq (⟨"LedgerStoreModel", "fragmentOf", "(II)I"⟩, 5) := ⟨⟨by decide +kernel, by decide +kernel⟩, List.mem_of_getElem? (i := 805) (by decide +kernel), List.mem_of_getElem? (i := 893) (by decide +kernel), List.mem_of_getElem? (i := 894) (by decide +kernel)⟩
theorem lw_p19 : lw_okq (⟨"LedgerStoreModel", "writer", "(IIII)I"⟩, 5) := ⟨⟨by decide +kernel, by decide +kernel⟩, List.mem_of_getElem? (i := 805) (by decide +kernel), List.mem_of_getElem? (i := 897) (by decide +kernel), List.mem_of_getElem? (i := 898) (by decide +kernel)⟩
theorem lw_p20 : lw_okq (⟨"LedgerStoreModel", "memberOf", "(III)I"⟩, 5) := ⟨⟨by decide +kernel, by decide +kernel⟩, List.mem_of_getElem? (i := 805) (by decide +kernel), List.mem_of_getElem? (i := 901) (by decide +kernel), List.mem_of_getElem? (i := 902) (by decide +kernel)⟩
theorem lw_p21 : lw_okq (⟨"LedgerStoreModel", "set", "(III)V"⟩, 5) := ⟨⟨by decide +kernel, by decide +kernel⟩, List.mem_of_getElem? (i := 805) (by decide +kernel), List.mem_of_getElem? (i := 905) (by decide +kernel), List.mem_of_getElem? (i := 906) (by decide +kernel)⟩
theorem lw_p22 : lw_okq (⟨"LedgerStoreModel", "shareOf", "(I)F"⟩, 5) := ⟨⟨by decide +kernel, by decide +kernel⟩, List.mem_of_getElem? (i := 805) (by decide +kernel), List.mem_of_getElem? (i := 925) (by decide +kernel), List.mem_of_getElem? (i := 926) (by decide +kernel)⟩
theorem lw_p23 : lw_okq (⟨"LedgerStoreModel", "isLedger", "(I)Z"⟩, 5) := ⟨⟨by decide +kernel, by decide +kernel⟩, List.mem_of_getElem? (i := 805) (by decide +kernel), List.mem_of_getElem? (i := 933) (by decide +kernel), List.mem_of_getElem? (i := 934) (by decide +kernel)⟩
theorem lw_p24 : lw_okq (⟨"LedgerStoreModel", "ups", "()I"⟩, 5) := ⟨⟨by decide +kernel, by decide +kernel⟩, List.mem_of_getElem? (i := 805) (by decide +kernel), List.mem_of_getElem? (i := 945) (by decide +kernel), List.mem_of_getElem? (i := 946) (by decide +kernel)⟩
theorem lw_p25 : lw_okq (⟨"LedgerStoreModel", "choose", "(I)I"⟩, 5) := ⟨⟨by decide +kernel, by decide +kernel⟩, List.mem_of_getElem? (i := 805) (by decide +kernel), List.mem_of_getElem? (i := 949) (by decide +kernel), List.mem_of_getElem? (i := 950) (by decide +kernel)⟩
theorem lw_p26 : lw_okq (⟨"LedgerStoreModel", "confirmed", "(I)I"⟩, 5) := ⟨⟨by decide +kernel, by decide +kernel⟩, List.mem_of_getElem? (i := 805) (by decide +kernel), List.mem_of_getElem? (i := 960) (by decide +kernel), List.mem_of_getElem? (i := 961) (by decide +kernel)⟩
theorem lw_p27 : lw_okq (⟨"LedgerStoreModel", "send", "(IIII)V"⟩, 5) := ⟨⟨by decide +kernel, by decide +kernel⟩, List.mem_of_getElem? (i := 805) (by decide +kernel), List.mem_of_getElem? (i := 967) (by decide +kernel), List.mem_of_getElem? (i := 968) (by decide +kernel)⟩
theorem lw_p28 : lw_okq (⟨"LedgerStoreModel", "ensemble", "(II)I"⟩, 5) := ⟨⟨by decide +kernel, by decide +kernel⟩, List.mem_of_getElem? (i := 805) (by decide +kernel), List.mem_of_getElem? (i := 975) (by decide +kernel), List.mem_of_getElem? (i := 976) (by decide +kernel)⟩
theorem lw_p29 : lw_okq (⟨"LedgerStoreModel", "isUndecided", "(II)Z"⟩, 5) := ⟨⟨by decide +kernel, by decide +kernel⟩, List.mem_of_getElem? (i := 805) (by decide +kernel), List.mem_of_getElem? (i := 983) (by decide +kernel), List.mem_of_getElem? (i := 984) (by decide +kernel)⟩
theorem lw_p30 : lw_okq (⟨"LedgerStoreModel", "storedConfirmed", "(II)I"⟩, 5) := ⟨⟨by decide +kernel, by decide +kernel⟩, List.mem_of_getElem? (i := 805) (by decide +kernel), List.mem_of_getElem? (i := 987) (by decide +kernel), List.mem_of_getElem? (i := 988) (by decide +kernel)⟩
theorem lw_p31 : lw_okq (⟨"LedgerStoreModel", "stores", "(III)Z"⟩, 5) := ⟨⟨by decide +kernel, by decide +kernel⟩, List.mem_of_getElem? (i := 805) (by decide +kernel), List.mem_of_getElem? (i := 991) (by decide +kernel), List.mem_of_getElem? (i := 992) (by decide +kernel)⟩
def lw_privs_2 : List (MethodName × Nat) := [(⟨"LedgerStoreModel", "of", "(II)I"⟩, 5), (⟨"LedgerStoreModel", "isWriter", "(III)Z"⟩, 5), (⟨"LedgerStoreModel", "fragmentOf", "(II)I"⟩, 5), (⟨"LedgerStoreModel", "writer", "(IIII)I"⟩, 5), (⟨"LedgerStoreModel", "memberOf", "(III)I"⟩, 5), (⟨"LedgerStoreModel", "set", "(III)V"⟩, 5), (⟨"LedgerStoreModel", "shareOf", "(I)F"⟩, 5), (⟨"LedgerStoreModel", "isLedger", "(I)Z"⟩, 5), (⟨"LedgerStoreModel", "ups", "()I"⟩, 5), (⟨"LedgerStoreModel", "choose", "(I)I"⟩, 5), (⟨"LedgerStoreModel", "confirmed", "(I)I"⟩, 5), (⟨"LedgerStoreModel", "send", "(IIII)V"⟩, 5), (⟨"LedgerStoreModel", "ensemble", "(II)I"⟩, 5), (⟨"LedgerStoreModel", "isUndecided", "(II)Z"⟩, 5), (⟨"LedgerStoreModel", "storedConfirmed", "(II)I"⟩, 5), (⟨"LedgerStoreModel", "stores", "(III)Z"⟩, 5)]
theorem lw_r2 : ∀ q ∈ lw_privs_2, lw_okq q := List.forall_mem_cons.mpr ⟨lw_p16, List.forall_mem_cons.mpr ⟨lw_p17, List.forall_mem_cons.mpr ⟨lw_p18, List.forall_mem_cons.mpr ⟨lw_p19, List.forall_mem_cons.mpr ⟨lw_p20, List.forall_mem_cons.mpr ⟨lw_p21, List.forall_mem_cons.mpr ⟨lw_p22, List.forall_mem_cons.mpr ⟨lw_p23, List.forall_mem_cons.mpr ⟨lw_p24, List.forall_mem_cons.mpr ⟨lw_p25, List.forall_mem_cons.mpr ⟨lw_p26, List.forall_mem_cons.mpr ⟨lw_p27, List.forall_mem_cons.mpr ⟨lw_p28, List.forall_mem_cons.mpr ⟨lw_p29, List.forall_mem_cons.mpr ⟨lw_p30, List.forall_mem_cons.mpr ⟨lw_p31, fun _ h => absurd h List.not_mem_nil⟩⟩⟩⟩⟩⟩⟩⟩⟩⟩⟩⟩⟩⟩⟩⟩
theorem lw_p32 : lw_okq (⟨"LedgerStoreModel", "confirmedAt", "(III)I"⟩, 5) := ⟨⟨by decide +kernel, by decide +kernel⟩, List.mem_of_getElem? (i := 805) (by decide +kernel), List.mem_of_getElem? (i := 995) (by decide +kernel), List.mem_of_getElem? (i := 996) (by decide +kernel)⟩
theorem lw_p33 : lw_okq (⟨"LedgerStoreModel", "source", "(II)I"⟩, 5) := ⟨⟨by decide +kernel, by decide +kernel⟩, List.mem_of_getElem? (i := 805) (by decide +kernel), List.mem_of_getElem? (i := 999) (by decide +kernel), List.mem_of_getElem? (i := 1000) (by decide +kernel)⟩
theorem lw_p34 : lw_okq (⟨"LedgerStoreModel", "payloadAt", "(III)I"⟩, 5) := ⟨⟨by decide +kernel, by decide +kernel⟩, List.mem_of_getElem? (i := 805) (by decide +kernel), List.mem_of_getElem? (i := 1003) (by decide +kernel), List.mem_of_getElem? (i := 1004) (by decide +kernel)⟩
theorem lw_p35 : lw_okq (⟨"LedgerStoreModel", "recoverEntry", "(III)V"⟩, 5) := ⟨⟨by decide +kernel, by decide +kernel⟩, List.mem_of_getElem? (i := 805) (by decide +kernel), List.mem_of_getElem? (i := 1007) (by decide +kernel), List.mem_of_getElem? (i := 1008) (by decide +kernel)⟩
theorem lw_p36 : lw_okq (⟨"LedgerStoreModel", "replaceDowns", "(I)V"⟩, 5) := ⟨⟨by decide +kernel, by decide +kernel⟩, List.mem_of_getElem? (i := 805) (by decide +kernel), List.mem_of_getElem? (i := 1015) (by decide +kernel), List.mem_of_getElem? (i := 1016) (by decide +kernel)⟩
theorem lw_p37 : lw_okq (⟨"LedgerStoreModel", "copies", "(II)I"⟩, 5) := ⟨⟨by decide +kernel, by decide +kernel⟩, List.mem_of_getElem? (i := 805) (by decide +kernel), List.mem_of_getElem? (i := 1019) (by decide +kernel), List.mem_of_getElem? (i := 1020) (by decide +kernel)⟩
theorem lw_p38 : lw_okq (⟨"LedgerStoreModel", "readable", "(I)I"⟩, 5) := ⟨⟨by decide +kernel, by decide +kernel⟩, List.mem_of_getElem? (i := 805) (by decide +kernel), List.mem_of_getElem? (i := 1027) (by decide +kernel), List.mem_of_getElem? (i := 1028) (by decide +kernel)⟩
theorem lw_p39 : lw_okq (⟨"LedgerStoreModel", "isEntry", "(II)Z"⟩, 5) := ⟨⟨by decide +kernel, by decide +kernel⟩, List.mem_of_getElem? (i := 805) (by decide +kernel), List.mem_of_getElem? (i := 1047) (by decide +kernel), List.mem_of_getElem? (i := 1048) (by decide +kernel)⟩
theorem lw_p40 : lw_okq (⟨"LedgerStoreModel", "holding", "(II)I"⟩, 5) := ⟨⟨by decide +kernel, by decide +kernel⟩, List.mem_of_getElem? (i := 805) (by decide +kernel), List.mem_of_getElem? (i := 1055) (by decide +kernel), List.mem_of_getElem? (i := 1056) (by decide +kernel)⟩
theorem lw_p41 : lw_okq (⟨"LedgerStoreModel", "isFragment", "(II)Z"⟩, 5) := ⟨⟨by decide +kernel, by decide +kernel⟩, List.mem_of_getElem? (i := 805) (by decide +kernel), List.mem_of_getElem? (i := 1067) (by decide +kernel), List.mem_of_getElem? (i := 1068) (by decide +kernel)⟩
theorem lw_p42 : lw_okq (⟨"LedgerStoreModel", "under", "(I)I"⟩, 5) := ⟨⟨by decide +kernel, by decide +kernel⟩, List.mem_of_getElem? (i := 805) (by decide +kernel), List.mem_of_getElem? (i := 1079) (by decide +kernel), List.mem_of_getElem? (i := 1080) (by decide +kernel)⟩
theorem lw_p43 : lw_okq (⟨"LedgerStoreModel", "add", "(I)V"⟩, 5) := ⟨⟨by decide +kernel, by decide +kernel⟩, List.mem_of_getElem? (i := 805) (by decide +kernel), List.mem_of_getElem? (i := 1092) (by decide +kernel), List.mem_of_getElem? (i := 1093) (by decide +kernel)⟩
theorem lw_p44 : lw_okq (⟨"LedgerStoreModel", "addLedger", "(I)V"⟩, 5) := ⟨⟨by decide +kernel, by decide +kernel⟩, List.mem_of_getElem? (i := 805) (by decide +kernel), List.mem_of_getElem? (i := 1107) (by decide +kernel), List.mem_of_getElem? (i := 1108) (by decide +kernel)⟩
def lw_privs_3 : List (MethodName × Nat) := [(⟨"LedgerStoreModel", "confirmedAt", "(III)I"⟩, 5), (⟨"LedgerStoreModel", "source", "(II)I"⟩, 5), (⟨"LedgerStoreModel", "payloadAt", "(III)I"⟩, 5), (⟨"LedgerStoreModel", "recoverEntry", "(III)V"⟩, 5), (⟨"LedgerStoreModel", "replaceDowns", "(I)V"⟩, 5), (⟨"LedgerStoreModel", "copies", "(II)I"⟩, 5), (⟨"LedgerStoreModel", "readable", "(I)I"⟩, 5), (⟨"LedgerStoreModel", "isEntry", "(II)Z"⟩, 5), (⟨"LedgerStoreModel", "holding", "(II)I"⟩, 5), (⟨"LedgerStoreModel", "isFragment", "(II)Z"⟩, 5), (⟨"LedgerStoreModel", "under", "(I)I"⟩, 5), (⟨"LedgerStoreModel", "add", "(I)V"⟩, 5), (⟨"LedgerStoreModel", "addLedger", "(I)V"⟩, 5)]
theorem lw_r3 : ∀ q ∈ lw_privs_3, lw_okq q := List.forall_mem_cons.mpr ⟨lw_p32, List.forall_mem_cons.mpr ⟨lw_p33, List.forall_mem_cons.mpr ⟨lw_p34, List.forall_mem_cons.mpr ⟨lw_p35, List.forall_mem_cons.mpr ⟨lw_p36, List.forall_mem_cons.mpr ⟨lw_p37, List.forall_mem_cons.mpr ⟨lw_p38, List.forall_mem_cons.mpr ⟨lw_p39, List.forall_mem_cons.mpr ⟨lw_p40, List.forall_mem_cons.mpr ⟨lw_p41, List.forall_mem_cons.mpr ⟨lw_p42, List.forall_mem_cons.mpr ⟨lw_p43, List.forall_mem_cons.mpr ⟨lw_p44, fun _ h => absurd h List.not_mem_nil⟩⟩⟩⟩⟩⟩⟩⟩⟩⟩⟩⟩⟩
def lw_privs : List (MethodName × Nat) := lw_privs_1 ++ (lw_privs_2 ++ (lw_privs_3))
def lw_tbl : List Cond := k2_sels lw_privs ++ tables_1
theorem lw_privs_ok : ∀ q ∈ lw_privs, lw_okq q := by
  show ∀ q ∈ lw_privs_1 ++ (lw_privs_2 ++ (lw_privs_3)), lw_okq q
  exact List.forall_mem_append.mpr ⟨lw_r1, List.forall_mem_append.mpr ⟨lw_r2, lw_r3⟩⟩
/-- the streams that the claim lets the run draw from -/
abbrev lw_cs : List Choice := [Jvm.Choice.named "NaN.bits"]
theorem lw_bits : nanBits ∈ lw_cs := by first | decide | exact List.mem_cons_self | simp [lw_cs, nanBits]
-- ===== end of PART A; then your names; then what follows =====
/-! ===== BEGIN words of one list among another's, by their places ===== -/
theorem goodIn_r {big : List Cond} (ws : List Cond) (ps : List Nat) (hp : ws = ps.filterMap (fun i => big[i]?)) (h : ws.all goodWord = true) : GoodIn big ws := by
  intro w hw
  have h1 := List.all_eq_true.mp h w hw
  rw [hp] at hw
  obtain ⟨i, -, hi⟩ := List.mem_filterMap.mp hw
  have hm : w ∈ big := by first | exact List.mem_of_getElem? hi | exact List.getElem?_mem hi
  exact ⟨hm, good_of_word h1⟩
theorem goodIn_app {big a b : List Cond} (ha : GoodIn big a) (hb : GoodIn big b) : GoodIn big (a ++ b) := fun w h => (List.mem_append.mp h).elim (ha w) (hb w)
theorem goodIn_ca {big a b : List Cond} {c : Cond} (ha : GoodIn big (c :: a)) (hb : GoodIn big b) : GoodIn big (c :: (a ++ b)) := fun w h => (List.mem_cons.mp h).elim (fun e => ha w (List.mem_cons.mpr (Or.inl e))) (fun h => (List.mem_append.mp h).elim (fun h => ha w (List.mem_cons.mpr (Or.inr h))) (hb w))
theorem goodIn_sub {big ws : List Cond} (hm : ∀ w ∈ ws, w ∈ big) (h : ws.all goodWord = true) : GoodIn big ws := fun w hw => ⟨hm w hw, good_of_word (List.all_eq_true.mp h w hw)⟩
/-! ===== END ===== -/

/-! ===== BEGIN exceptions that leave a method, and their catching by the caller (launches without stack traces) ===== -/
section VXA
/-! The laws vx_back, vx_callV, vx_callS, vx_callSW, vx_throw0, vx_throwS follow proofs of the library, with one case more: JvmDerived/Free/Laws.lean (Back.of_free), Shelf42/LK1.lean (callV, callS), Shelf/KitTraced.lean (throwNew0V, throwNewS). -/
/-- where a method has thrown q: the class by its name, the cell, what was written, the world -/
def vx_T (XC : String → State → State → Prop) (st : State) (q : Addr) (t : State) (mc ms : Nat) (free : Addr → Prop) : Prop :=
  ∃ (E : String) (ce : Cell) (L : List Loc), XC E st t ∧ t.heap[q]? = some ce ∧ ce.vm = .none ∧ st.vm.findClass E = some ce.cls ∧ st.WarmedH t.vm ∧ st.sameButNew ({ t with vm := st.vm } : State) L mc ms ∧ ∀ z ∈ L, free z.base
def vx_Q (Qc : Array Value → State → Outcome → State → Prop) (XC : String → State → State → Prop) (mc ms : Nat) (free : Addr → Prop) : Array Value → State → Outcome → State → Prop := fun a st o t =>
  (Qc a st o t ∧ ∃ L, FrameEnd st o t L mc ms ∧ ∀ q ∈ L, free q.base) ∨ ∃ q, o = .threw q ∧ vx_T XC st q t mc ms free
/-- a callee that returns or throws -/
def vx_Met (l : Launch) (y : MethodName) (ws : List Cond) (rm : Room) (Pc : Array Value → State → Prop) (Qc : Array Value → State → Outcome → State → Prop) (XC : String → State → State → Prop) (mc ms : Nat) (free : Addr → Prop) : Prop :=
  MetFree l y (headSpec ws rm) Pc (fun _ _ _ _ _ => True) (vx_Q Qc XC mc ms free)
def vx_Post (XC : String → State → State → Prop) (mc ms : Nat) (free : Addr → Prop) : Pt → Array Value → Addr → Pt → Prop := fun A a q B =>
  ∃ (g : JFrame) (mk : MethodId) (t : State) (L : List Loc) (E : String) (ce : Cell), B.U.heap = t.heap ∧ B.U.vm = t.vm ∧ XC E (A.U.calling g mk a) t ∧ t.heap[q]? = some ce ∧ ce.vm = .none ∧ A.U.vm.findClass E = some ce.cls ∧ B.locs = A.locs ++ L ∧ (∀ z ∈ L, free z.base) ∧ B.cells = A.cells + mc ∧ B.slots = A.slots + ms
def vx_Back (l : Launch) (R : Room) (p : Program) (e : Env) (below : List Frame) (s : State) (sargs : Array Value) (y : MethodName) (len W9 : Nat)
    (Pre : Pt → Array Value → Prop) (Post : Pt → Array Value → Option Value → Pt → Prop) (PostX : Pt → Array Value → Addr → Pt → Prop) : Prop :=
  ∀ (m : MethodId) (meth : Method) (c : Code) (A : Pt) (g : JFrame) (ig : Instr) (mk : MethodId) (a : Array Value),
    Stand p l e R s m sargs below meth c A.U A.locs A.cells A.slots → g.method = m → g.locals.size = c.maxLocals → decode c.code g.pc = .ok (ig, len) →
    2 * g.monitorRoom + (g.stack.map fun v => v.category).sum ≤ W9 → A.U.methodNamed? y = some mk → Pre A a →
    (∃ (v : Option Value) (B : Pt), Stand p l e R s m sargs below meth c B.U B.locs B.cells B.slots ∧ Post A a v B ∧
      Steps p.tables e below (doInvoke e (A.U.setTop g) [] mk a).1 (B.U.setTop { g with pc := g.pc + len, stack := v.toList ++ g.stack })) ∨
    (∃ (q : Addr) (B : Pt), Stand p l e R s m sargs below meth c B.U B.locs B.cells B.slots ∧ PostX A a q B ∧
      Steps p.tables e below (doInvoke e (A.U.setTop g) [] mk a).1 ((B.U.setTop g).pushFrame (.throwing q)))
section Payer
variable {l : Launch} {R : Room} {p : Program} {e : Env} {below : List Frame} {s : State} {sargs : Array Value} {y : MethodName} {len W9 : Nat}
theorem vx_back {ws : List Cond} {rm : Room} {Pc : Array Value → State → Prop} {Qc : Array Value → State → Outcome → State → Prop} {XC : String → State → State → Prop} {mc ms : Nat} {free : Addr → Prop} {bytes : ByteArray} {maxL : Nat} {ret : Option FieldType}
    (hM : vx_Met l y ws rm Pc Qc XC mc ms free) (hblind : FrameBlind Pc) (hrc : rm.cells = mc) (hrs : rm.slots = ms)
    (hframes : rm.frames + 1 ≤ R.frames) (hlocals : W9 + (maxL + 11) + rm.locals ≤ R.locals)
    (hws : ∀ w ∈ ws, ∀ a' U, s.WarmedH U.vm → w.before a' U = true) (hcode : Cond.code y bytes maxL ret ∈ ws) (hinit : ∀ a' U, s.WarmedH U.vm → (Cond.initialized y.cls).before a' U = true) :
    vx_Back l R p e below s sargs y len W9 (PreOf R mc ms Pc) (PostOf Qc mc ms free) (vx_Post XC mc ms free) := by
  intro m meth c A g ig mk a X hg hsize hdg hW hn hp
  have h1 : (headSpec ws rm).pre.before a A.U = true := atoms_intro fun w hw => hws w hw _ _ X.warmed
  have h2 : (Cond.code y bytes maxL ret).before a A.U = true := hws _ hcode _ _ X.warmed
  have h3 : (Cond.initialized y.cls).before a A.U = true := hinit _ _ X.warmed
  have h4 : A.cells + (headSpec ws rm).room.cells ≤ R.cells := by rw [show (headSpec ws rm).room.cells = mc from hrc]; exact hp.1
  have h5 : A.slots + (headSpec ws rm).room.slots ≤ R.slots := by rw [show (headSpec ws rm).room.slots = ms from hrs]; exact hp.2.1
  have hPc : Pc a (A.U.calling g mk a) := hblind _ _ _ _ hp.2.2
  obtain ⟨U, Ls, c0, s0⟩ := A
  dsimp only [Pt.U, Pt.locs, Pt.cells, Pt.slots] at h1 h2 h3 h4 h5 X hn hPc ⊢
  obtain ⟨methY, cY, hmY, hcY, -, hlY, -, -, -, -⟩ := Cond.code_spec hn h2
  obtain ⟨kY, hkY, -⟩ := className_of_methodNamed hn
  have hinitY : kY.init = .initialized := Cond.initialized_spec (findClass_of_methodNamed hn) hkY h3
  have h : At U g.method c below := by rw [hg]; exact X.here
  have hlocals9 : W9 + (maxL + 11) + (headSpec ws rm).room.locals ≤ R.locals := hlocals
  have happ : (headSpec ws rm).appliesLoose y e.platform (U.calling g mk a) = true :=
    Spec.appliesLoose_calling (g := g) h hdg hn hkY hinitY
      (X.room_calling (g := g) (R' := (headSpec ws rm).room) hsize hmY hcY hframes (by rw [hlY]; omega) h4 h5) h1
  obtain ⟨mid, hmid⟩ := h.above
  have hfr : (U.setTop g).frames = (.java g :: mid) ++ below := by rw [State.frames_setTop' g h.top, hmid]; rfl
  obtain ⟨o, s₂, hsteps, -, hend, hq⟩ := Steps.callFree hM p X.admits X.cas X.clock (acts := []) hfr happ hPc trivial
  have hq' : vx_Q Qc XC mc ms free a (U.calling g mk a) o s₂ := hq
  rw [State.frames_setTop' g h.top] at hend
  obtain ⟨g₀, hg0⟩ := Option.isSome_iff_exists.mp h.top
  obtain ⟨r, hr⟩ := State.topJava?_eq_some.mp hg0
  have hr' : (({ U with heap := s₂.heap, slotsUsed := s₂.slotsUsed } : State).setVm s₂.vm).frames = .java g₀ :: r := hr
  rcases hq' with ⟨hqc, L, hfe, hL⟩ | ⟨q, rfl, E, ce, L, hx, hce, hcv, hcl, hW₂, hsm, hL⟩
  · obtain ⟨⟨v, rfl⟩, hW₂, e2, q2, q3, q4, q5, q6⟩ := id hfe
    have e3 : s₂ = ({ (U.calling g mk a).setFrames s₂.frames with heap := s₂.heap, slotsUsed := s₂.slotsUsed } : State).setVm s₂.vm := by
      have : s₂ = ({ s₂ with vm := (U.calling g mk a).vm } : State).setVm s₂.vm := rfl
      rw [e2] at this
      exact this
    obtain ⟨c₂, i₂, len₂, hc₂, hd₂, hf₂⟩ := hend
    have hW' : U.WarmedH s₂.vm := hW₂
    have hcc : c₂ = c := by
      have h1 : s₂.code? g.method = U.code? g.method := by
        rw [State.code?_eq, State.code?_eq, hW'.alike.method?]
      exact Option.some.inj (hc₂.symm.trans (h1.trans h.code))
    subst hcc
    have hlen : len₂ = len := by rw [hdg] at hd₂; cases hd₂; rfl
    subst hlen
    have hs₂ : s₂ = (({ U with heap := s₂.heap, slotsUsed := s₂.slotsUsed } : State).setVm s₂.vm).setTop { g with pc := g.pc + len₂, stack := v.toList ++ g.stack } := by
      refine e3.trans ?_
      rw [hf₂, State.calling_eq h.top, State.setFrames_setFrames, State.setTop_of_frames _ hr', hr]
      rfl
    have hsame : U.sameButNew ({ U with heap := s₂.heap, slotsUsed := s₂.slotsUsed } : State) L mc ms := by
      refine ⟨?_, q2, q3, q4, q5, q6⟩
      obtain ⟨t, ht, -⟩ := State.frames_cons hr
      show ({ U with heap := s₂.heap, slotsUsed := s₂.slotsUsed } : State) = { U.setFrames U.frames with heap := s₂.heap, slotsUsed := s₂.slotsUsed }
      rw [State.setFrames_self ht]
    subst hg
    refine Or.inl ⟨v, ⟨(({ U with heap := s₂.heap, slotsUsed := s₂.slotsUsed } : State).setVm s₂.vm), Ls ++ L, c0 + mc, s0 + ms⟩,
      ⟨X.admits, X.cas, X.clock, X.frames, X.room, X.hears, X.method, X.code, (X.here.setHeapUsed s₂.heap s₂.slotsUsed).setVm hW'.alike, X.tail, State.WarmedH.trans X.warmed hW', X.limits, X.bytes, X.same.trans (hsame.setVm s.vm)⟩,
      ⟨g, mk, s₂, L, rfl, rfl, hqc, rfl, hL, rfl, rfl⟩, ?_⟩
    show Steps p.tables e below _ ((({ U with heap := s₂.heap, slotsUsed := s₂.slotsUsed } : State).setVm s₂.vm).setTop { g with pc := g.pc + len₂, stack := v.toList ++ g.stack })
    rw [← hs₂]
    exact hsteps
  · obtain ⟨e2, q2, q3, q4, q5, q6⟩ := id hsm
    have e3 : s₂ = ({ (U.calling g mk a).setFrames s₂.frames with heap := s₂.heap, slotsUsed := s₂.slotsUsed } : State).setVm s₂.vm := by
      have : s₂ = ({ s₂ with vm := (U.calling g mk a).vm } : State).setVm s₂.vm := rfl
      rw [e2] at this
      exact this
    have hf₂ : s₂.frames = .throwing q :: .java g :: U.frames.tail := hend
    have hW' : U.WarmedH s₂.vm := hW₂
    have hs₂ : s₂ = ((({ U with heap := s₂.heap, slotsUsed := s₂.slotsUsed } : State).setVm s₂.vm).setTop g).pushFrame (.throwing q) := by
      refine e3.trans ?_
      rw [hf₂, State.calling_eq h.top, State.setFrames_setFrames, State.pushFrame, State.frames_setTop _ hr', State.setTop_of_frames _ hr', State.setFrames_setFrames, hr]
      rfl
    have hsame : U.sameButNew ({ U with heap := s₂.heap, slotsUsed := s₂.slotsUsed } : State) L mc ms := by
      refine ⟨?_, q2, q3, q4, q5, q6⟩
      obtain ⟨t, ht, -⟩ := State.frames_cons hr
      show ({ U with heap := s₂.heap, slotsUsed := s₂.slotsUsed } : State) = { U.setFrames U.frames with heap := s₂.heap, slotsUsed := s₂.slotsUsed }
      rw [State.setFrames_self ht]
    subst hg
    refine Or.inr ⟨q, ⟨(({ U with heap := s₂.heap, slotsUsed := s₂.slotsUsed } : State).setVm s₂.vm), Ls ++ L, c0 + mc, s0 + ms⟩,
      ⟨X.admits, X.cas, X.clock, X.frames, X.room, X.hears, X.method, X.code, (X.here.setHeapUsed s₂.heap s₂.slotsUsed).setVm hW'.alike, X.tail, State.WarmedH.trans X.warmed hW', X.limits, X.bytes, X.same.trans (hsame.setVm s.vm)⟩,
      ⟨g, mk, s₂, L, E, ce, rfl, rfl, hx, hce, hcv, hcl, rfl, hL, rfl, rfl⟩, ?_⟩
    show Steps p.tables e below _ (((({ U with heap := s₂.heap, slotsUsed := s₂.slotsUsed } : State).setVm s₂.vm).setTop g).pushFrame (.throwing q))
    rw [← hs₂]
    exact hsteps
end Payer
section Calls
variable {p : Program} {l : Launch} {e : Env} {R : Room} {s : State} {m : MethodId} {args : Array Value} {below : List Frame} {meth : Method} {c : Code} {T : State} {locs : List Loc} {cells slots : Nat}
theorem vx_callV (X : Stand p l e R s m args below meth c T locs cells slots) (hexec : p.tables.exec = Jvm.exec) {own C : String} {index : Nat} {y : MethodName} {bytes : ByteArray} {maxL : Nat} {ret : Option FieldType}
    (hown : s.vm.findClass own = some m.cls) (hlink : (Cond.methodLink own index y).before args s = true) (hinst : (Cond.instanceMethod y).before args s = true) (hsel : (Cond.selects C y y).before args s = true)
    (hcode : (Cond.code y bytes maxL ret).before args s = true) (hy : y.cls ≠ "java/lang/invoke/MethodHandle" ∧ y.cls ≠ "java/lang/invoke/VarHandle")
    {W9 : Nat} {Pre : Pt → Array Value → Prop} {Post : Pt → Array Value → Option Value → Pt → Prop} {PostX : Pt → Array Value → Addr → Pt → Prop} (hK : vx_Back l R p e below s args y 3 W9 Pre Post PostX)
    {b : Addr} {cellB : Cell} (hcell : T.heap[b]? = some cellB) (hobj : cellB.vm.isStatics = false) (hcls : s.vm.findClass C = some cellB.cls)
    {g : JFrame} (hg : g.method = m) (hsize : g.locals.size = c.maxLocals) {argsL rest : List Value} (hlen : ∀ sig, parseMethodDescriptor y.desc = some sig → argsL.length = sig.parameters.length)
    (hstack : g.stack = argsL.reverse ++ .ref b :: rest) (hW : 2 * g.monitorRoom + (rest.map fun v => v.category).sum ≤ W9) (hdg : decode c.code g.pc = .ok (.invokevirtual index, 3))
    (hpre : ∀ vm₁, s.WarmedH vm₁ → Pre ⟨T.setVm vm₁, locs, cells, slots⟩ (Value.ref b :: argsL).toArray) :
    (∃ (v : Option Value) (vm₁ : Vm) (B : Pt), s.WarmedH vm₁ ∧ Stand p l e R s m args below meth c B.U B.locs B.cells B.slots ∧ Post ⟨T.setVm vm₁, locs, cells, slots⟩ (Value.ref b :: argsL).toArray v B ∧
      ∀ target, Steps p.tables e below (B.U.setTop { g with pc := g.pc + 3, stack := v.toList ++ rest }) target → Steps p.tables e below (T.setTop g) target) ∨
    (∃ (q : Addr) (vm₁ : Vm) (B : Pt), s.WarmedH vm₁ ∧ Stand p l e R s m args below meth c B.U B.locs B.cells B.slots ∧ PostX ⟨T.setVm vm₁, locs, cells, slots⟩ (Value.ref b :: argsL).toArray q B ∧
      Steps p.tables e below (T.setTop g) ((B.U.setTop { g with stack := rest }).pushFrame (.throwing q))) := by
  obtain ⟨mk, methM, hnamed, hmethM, hstM, habM⟩ := Cond.instanceMethod_spec hinst
  obtain ⟨methM', cM, hmethM', -, -, -, -, -, -, hsigM⟩ := Cond.code_spec hnamed hcode
  cases hmethM.symm.trans hmethM'
  obtain ⟨c2, r2, m2, q1, q2, q3, q4, kP, hkP, hkPi⟩ := Cond.selects_spec hsel
  cases hcls.symm.trans q1
  cases (State.methodFound?_of_named hnamed hy).symm.trans q2
  cases hnamed.symm.trans q3
  have hselP : selectMethod e.platform s.vm cellB.cls mk = .method mk := by rw [Launch.admits_selectMethod X.admits]; exact q4
  obtain ⟨vm₁, X₁, hstep₁⟩ := X.invokevirtual hexec hown hlink hnamed hmethM hstM hkP hkPi hy (a := b) (cell := cellB) hcell
    (fun z h => by rw [h] at hobj; cases hobj) hselP hmethM habM hkP hkPi (g := g) hg (argsL := argsL) (rest := rest) (hlen _ hsigM) hstack hdg
  rcases hK m meth c ⟨T.setVm vm₁, locs, cells, slots⟩ { g with stack := rest } (.invokevirtual index) mk (Value.ref b :: argsL).toArray X₁ hg hsize hdg hW (X₁.named hnamed) (hpre vm₁ X₁.warmed) with ⟨v, B, X', hpost, hsteps⟩ | ⟨q, B, X', hpost, hsteps⟩
  · exact Or.inl ⟨v, vm₁, B, X₁.warmed, X', hpost, fun target h => hstep₁ _ fun acts => by rw [doInvoke_state]; exact hsteps.trans h⟩
  · exact Or.inr ⟨q, vm₁, B, X₁.warmed, X', hpost, hstep₁ _ fun acts => by rw [doInvoke_state]; exact hsteps⟩
theorem vx_callS (X : Stand p l e R s m args below meth c T locs cells slots) (hexec : p.tables.exec = Jvm.exec) {own : String} {index : Nat} {y : MethodName} {bytes : ByteArray} {maxL : Nat} {ret : Option FieldType}
    (hown : s.vm.findClass own = some m.cls) (hlink : (Cond.methodLink own index y).before args s = true) (hstat : (Cond.static y).before args s = true) (hinit : (Cond.initialized y.cls).before args s = true)
    (hcode : (Cond.code y bytes maxL ret).before args s = true) (hy : y.cls ≠ "java/lang/invoke/MethodHandle" ∧ y.cls ≠ "java/lang/invoke/VarHandle")
    {W9 : Nat} {Pre : Pt → Array Value → Prop} {Post : Pt → Array Value → Option Value → Pt → Prop} {PostX : Pt → Array Value → Addr → Pt → Prop} (hK : vx_Back l R p e below s args y 3 W9 Pre Post PostX)
    {g : JFrame} (hg : g.method = m) (hsize : g.locals.size = c.maxLocals) {argsL rest : List Value} (hlen : ∀ sig, parseMethodDescriptor y.desc = some sig → argsL.length = sig.parameters.length)
    (hstack : g.stack = argsL.reverse ++ rest) (hW : 2 * g.monitorRoom + (rest.map fun v => v.category).sum ≤ W9) (hdg : decode c.code g.pc = .ok (.invokestatic index, 3))
    (hpre : ∀ vm₁, s.WarmedH vm₁ → Pre ⟨T.setVm vm₁, locs, cells, slots⟩ argsL.toArray) :
    (∃ (v : Option Value) (vm₁ : Vm) (B : Pt), s.WarmedH vm₁ ∧ Stand p l e R s m args below meth c B.U B.locs B.cells B.slots ∧ Post ⟨T.setVm vm₁, locs, cells, slots⟩ argsL.toArray v B ∧
      ∀ target, Steps p.tables e below (B.U.setTop { g with pc := g.pc + 3, stack := v.toList ++ rest }) target → Steps p.tables e below (T.setTop g) target) ∨
    (∃ (q : Addr) (vm₁ : Vm) (B : Pt), s.WarmedH vm₁ ∧ Stand p l e R s m args below meth c B.U B.locs B.cells B.slots ∧ PostX ⟨T.setVm vm₁, locs, cells, slots⟩ argsL.toArray q B ∧
      Steps p.tables e below (T.setTop g) ((B.U.setTop { g with stack := rest }).pushFrame (.throwing q))) := by
  obtain ⟨mk, hnamed⟩ := Cond.code_named hcode
  obtain ⟨methM, cM, hmethM, -, -, -, -, -, -, hsigM⟩ := Cond.code_spec hnamed hcode
  have hstatic : methM.isStatic = true := Cond.static_spec hnamed hmethM hstat
  obtain ⟨kP, hkP, -⟩ := className_of_methodNamed hnamed
  have hinitP : kP.init = .initialized := Cond.initialized_spec (findClass_of_methodNamed hnamed) hkP hinit
  obtain ⟨vm₁, X₁, hstep₁⟩ := X.invokestatic hexec hown hlink hnamed hmethM hstatic hkP hinitP hy (g := g) hg (argsL := argsL) (rest := rest) (hlen _ hsigM) hstack hdg
  rcases hK m meth c ⟨T.setVm vm₁, locs, cells, slots⟩ { g with stack := rest } (.invokestatic index) mk argsL.toArray X₁ hg hsize hdg hW (X₁.named hnamed) (hpre vm₁ X₁.warmed) with ⟨v, B, X', hpost, hsteps⟩ | ⟨q, B, X', hpost, hsteps⟩
  · exact Or.inl ⟨v, vm₁, B, X₁.warmed, X', hpost, fun target h => hstep₁ _ fun acts => by rw [doInvoke_state]; exact hsteps.trans h⟩
  · exact Or.inr ⟨q, vm₁, B, X₁.warmed, X', hpost, hstep₁ _ fun acts => by rw [doInvoke_state]; exact hsteps⟩
end Calls
theorem vx_cls {s : State} {T : State} {vm₁ : Vm} {E : String} {k : ClassId} (hW : s.WarmedH vm₁) (h : (T.setVm vm₁).vm.findClass E = some k) : s.vm.findClass E = some k := by
  have h1 : vm₁.findClass E = some k := h
  rw [hW.alike.findClass] at h1
  exact h1
/-- the method's frame g, with q thrown over it -/
def vx_W (p : Program) (l : Launch) (e : Env) (R : Room) (s : State) (m : MethodId) (args : Array Value) (below : List Frame) (meth : Method) (c : Code) (H : Heap) (locs : List Loc) (cells slots : Nat) (Q : State → Prop) (g : JFrame) (q : Addr) : Prop :=
  ∀ T : State, T.heap = H → Stand p l e R s m args below meth c T locs cells slots → ∃ t, Steps p.tables e below ((T.setTop g).pushFrame (.throwing q)) t ∧ Q t
def vx_Run (p : Program) (l : Launch) (e : Env) (R : Room) (s : State) (m : MethodId) (args : Array Value) (below : List Frame) (meth : Method) (c : Code) (H : Heap) (locs : List Loc) (cells slots mc ms : Nat) (g : JFrame) (rest : List Value) (Qa : State → Outcome → State → Prop) (XC : String → State → State → Prop) (free : Addr → Prop) : Prop :=
  ∀ T : State, T.heap = H → Stand p l e R s m args below meth c T locs cells slots →
    (∃ (v : Option Value) (st₀ t T' : State) (L : List Loc), st₀.heap = H ∧ Stand p l e R s m args below meth c T' (locs ++ L) (cells + mc) (slots + ms) ∧ (∀ q ∈ L, free q.base) ∧ T'.heap = t.heap ∧ T'.vm = t.vm ∧ Qa st₀ (.returned v) t ∧
      Goes p e below T g T' { g with pc := g.pc + 3, stack := v.toList ++ rest }) ∨
    (∃ (q : Addr) (st₀ t T' : State) (L : List Loc) (E : String) (ce : Cell), st₀.heap = H ∧ Stand p l e R s m args below meth c T' (locs ++ L) (cells + mc) (slots + ms) ∧ (∀ z ∈ L, free z.base) ∧ T'.heap = t.heap ∧ T'.vm = t.vm ∧ XC E st₀ t ∧ t.heap[q]? = some ce ∧ ce.vm = .none ∧ s.vm.findClass E = some ce.cls ∧
      Steps p.tables e below (T.setTop g) ((T'.setTop { g with stack := rest }).pushFrame (.throwing q)))
def vx_X {S : Type} (px : S → Prop) (B : String → S → State → Prop) (A : Nat → Prop) : String → State → State → Prop := fun E st t => ∃ u : S, px u ∧ B E u t ∧ va_F A st t
section Runs
variable {p : Program} {l : Launch} {e : Env} {R : Room} {s : State} {m : MethodId} {args : Array Value} {below : List Frame} {meth : Method} {c : Code} {H : Heap} {locs : List Loc} {cells slots : Nat}
variable {y : MethodName} {bytes cc : ByteArray} {maxL nL mc ms n index : Nat} {ret : Option FieldType} {ws : List Cond} {rm : Room} {Pc : Array Value → State → Prop} {Qc : Array Value → State → Outcome → State → Prop} {XC : String → State → State → Prop} {free : Addr → Prop} {Ts : List Cond} {own C : String} {b : Addr} {As rest : List Value} {g : JFrame}
theorem vx_callBack (cb : CallB R s args own index y bytes maxL ret ws rm mc ms n) (hM : vx_Met l y ws rm Pc Qc XC mc ms free) (hbl : FrameBlind Pc) : vx_Back l R p e below s args y 3 8 (PreOf R mc ms Pc) (PostOf Qc mc ms free) (vx_Post XC mc ms free) := by
  obtain ⟨hrc, hrs, hfr, hlo, hws, hcw, -, hini, -⟩ := cb
  exact vx_back (bytes := bytes) (maxL := maxL) (ret := ret) hM hbl hrc hrs hfr hlo hws hcw (fun a' U hW => word_at hW (Or.inl (by first | rfl | simp [Cond.onTables, Cond.keeps, Cond.steady])) hini)
theorem vx_runV (S : CallFix p m c cc nL s args Ts own) (hM : vx_Met l y ws rm Pc Qc XC mc ms free) (cw : CallW R s args own C index y bytes maxL ret ws rm mc ms n) (hp : PreV s H C b Pc As)
    (hg : g.method = m) (hn : As.length = n) (hsize : g.locals.size = nL) (hstack : g.stack = As.reverse ++ .ref b :: rest) (hW : 2 * g.monitorRoom + (rest.map fun v => v.category).sum ≤ 8) (hdg : decode cc g.pc = .ok (.invokevirtual index, 3)) (hf : cells + mc ≤ R.cells ∧ slots + ms ≤ R.slots) :
    vx_Run p l e R s m args below meth c H locs cells slots mc ms g rest (Qc (Value.ref b :: As).toArray) XC free := by
  have hK : vx_Back l R p e below s args y 3 8 (PreOf R mc ms Pc) (PostOf Qc mc ms free) (vx_Post XC mc ms free) := vx_callBack cw.1 hM hp.1
  obtain ⟨⟨-, -, -, -, -, -, hcode, -, hy, hlen, hl⟩, hin, hse⟩ := cw
  obtain ⟨hx, hb, hml, ho, -⟩ := S
  obtain ⟨-, ⟨cellB, hcB, hoB, hclB⟩, hPc⟩ := hp
  intro T hT X
  rcases vx_callV X hx (C := C) (bytes := bytes) (maxL := maxL) (ret := ret) ho hl hin hse hcode hy hK (by rw [hT]; exact hcB) hoB hclB hg (hsize.trans hml.symm) (argsL := As) (rest := rest) (fun sig h => hn.trans (hlen sig h)) hstack hW (by rw [hb]; exact hdg)
    (fun vm₁ hW₁ => ⟨hf.1, hf.2, hPc (T.setVm vm₁) hT hW₁⟩) with ⟨v, vm₁, ⟨U', l2, c2, s2⟩, hW₁, X', ⟨g', mk, t, L, e1, e2, hq, h1, hL, h2, h3⟩, st⟩ | ⟨q, vm₁, ⟨U', l2, c2, s2⟩, hW₁, X', ⟨g', mk, t, L, E, ce, e1, e2, hq, hce, hcv, hcl, h1, hL, h2, h3⟩, st⟩
  · dsimp only [Pt.U, Pt.locs, Pt.cells, Pt.slots] at X' e1 e2 h1 h2 h3 st
    subst h1; subst h2; subst h3
    exact Or.inl ⟨v, (T.setVm vm₁).calling g' mk (Value.ref b :: As).toArray, t, U', L, hT, X', hL, e1, e2, hq, st⟩
  · dsimp only [Pt.U, Pt.locs, Pt.cells, Pt.slots] at X' e1 e2 h1 h2 h3 st hcl
    subst h1; subst h2; subst h3
    exact Or.inr ⟨q, (T.setVm vm₁).calling g' mk (Value.ref b :: As).toArray, t, U', L, E, ce, hT, X', hL, e1, e2, hq, hce, hcv, vx_cls hW₁ hcl, st⟩
theorem vx_runS (S : CallFix p m c cc nL s args Ts own) (hM : vx_Met l y ws rm Pc Qc XC mc ms free) (cw : CallB R s args own index y bytes maxL ret ws rm mc ms n ∧ (Cond.static y).before args s = true) (hp : PreS s H Pc As)
    (hg : g.method = m) (hn : As.length = n) (hsize : g.locals.size = nL) (hstack : g.stack = As.reverse ++ rest) (hW : 2 * g.monitorRoom + (rest.map fun v => v.category).sum ≤ 8) (hdg : decode cc g.pc = .ok (.invokestatic index, 3)) (hf : cells + mc ≤ R.cells ∧ slots + ms ≤ R.slots) :
    vx_Run p l e R s m args below meth c H locs cells slots mc ms g rest (Qc As.toArray) XC free := by
  have hK : vx_Back l R p e below s args y 3 8 (PreOf R mc ms Pc) (PostOf Qc mc ms free) (vx_Post XC mc ms free) := vx_callBack cw.1 hM hp.1
  obtain ⟨⟨-, -, -, -, -, -, hcode, hini, hy, hlen, hl⟩, hstt⟩ := cw
  obtain ⟨hx, hb, hml, ho, -⟩ := S
  intro T hT X
  rcases vx_callS X hx (bytes := bytes) (maxL := maxL) (ret := ret) ho hl hstt hini hcode hy hK hg (hsize.trans hml.symm) (argsL := As) (rest := rest) (fun sig h => hn.trans (hlen sig h)) hstack hW (by rw [hb]; exact hdg)
    (fun vm₁ hW₁ => ⟨hf.1, hf.2, hp.2 (T.setVm vm₁) hT hW₁⟩) with ⟨v, vm₁, ⟨U', l2, c2, s2⟩, hW₁, X', ⟨g', mk, t, L, e1, e2, hq, h1, hL, h2, h3⟩, st⟩ | ⟨q, vm₁, ⟨U', l2, c2, s2⟩, hW₁, X', ⟨g', mk, t, L, E, ce, e1, e2, hq, hce, hcv, hcl, h1, hL, h2, h3⟩, st⟩
  · dsimp only [Pt.U, Pt.locs, Pt.cells, Pt.slots] at X' e1 e2 h1 h2 h3 st
    subst h1; subst h2; subst h3
    exact Or.inl ⟨v, (T.setVm vm₁).calling g' mk As.toArray, t, U', L, hT, X', hL, e1, e2, hq, st⟩
  · dsimp only [Pt.U, Pt.locs, Pt.cells, Pt.slots] at X' e1 e2 h1 h2 h3 st hcl
    subst h1; subst h2; subst h3
    exact Or.inr ⟨q, (T.setVm vm₁).calling g' mk As.toArray, t, U', L, E, ce, hT, X', hL, e1, e2, hq, hce, hcv, vx_cls hW₁ hcl, st⟩
end Runs
section Rows
variable {p : Program} {l : Launch} {e : Env} {R : Room} {s : State} {m : MethodId} {args : Array Value} {below : List Frame} {meth : Method} {c : Code} {H : Heap} {locs : List Loc} {cells slots : Nat} {Q : State → Prop}
variable {mc ms : Nat} {free : Addr → Prop} {A0 A1 : Nat → Prop} {H0 : Heap} {a : Array Value} {pc : Nat} {ls : Array Slot} {st0 rest : List Value}
theorem vx_keep {st₀ t T' : State} {L : List Loc} (h0 : st₀.heap = H) (e1 : T'.heap = t.heap) (hS : va_S A0 H0 H locs) (hA : ∀ q, q < H.size → A1 q → A0 q) (hf : ∀ q, free q → A0 q) (hL : ∀ q ∈ L, free q.base) (hF : va_F A1 st₀ t) :
    H.size ≤ T'.heap.size ∧ (∀ q : Nat, q < H.size → ¬ A1 q → T'.heap[q]? = H[q]?) ∧ va_S A0 H0 T'.heap (locs ++ L) := by
  obtain ⟨hz, hk⟩ := hF
  rw [h0] at hz hk
  exact ⟨by rw [e1]; exact hz, fun q h1 h2 => by rw [e1]; exact hk q h1 h2,
    ⟨Nat.le_trans hS.1 (by rw [e1]; exact hz), fun q h1 h2 => by rw [e1, hk q (Nat.lt_of_lt_of_le h1 hS.1) (fun z => h2 (hA q (Nat.lt_of_lt_of_le h1 hS.1) z))]; exact hS.2.1 q h1 h2, fun q hq => by
      rcases List.mem_append.mp hq with h | h
      · exact hS.2.2 q h
      · exact hf _ (hL q h)⟩⟩
theorem vx_calli {S SX : Type} {post : Int32 → S → Prop} {px : SX → Prop} {B : S → State → Prop} {BX : String → SX → State → Prop} {AX : Nat → Prop} (hr : vx_Run p l e R s m args below meth c H locs cells slots mc ms (F0 m pc ls st0) rest (va_Qi post B A1 a) (vx_X px BX AX) free) (hS : va_S A0 H0 H locs) (hA : ∀ q, q < H.size → A1 q → A0 q) (hf : ∀ q, free q → A0 q) (hAX : ∀ q, q < H.size → AX q → A0 q)
    (kx : ∀ (E : String) (ce : Cell) (q9 : Addr) (u : SX) (t : State) (H1 : Heap) (locs1 : List Loc), t.heap = H1 → s.vm.Alike t.vm → px u → BX E u t → H.size ≤ H1.size → (∀ q : Nat, q < H.size → ¬ AX q → H1[q]? = H[q]?) → va_S A0 H0 H1 locs1 → H1[q9]? = some ce → ce.vm = .none → s.vm.findClass E = some ce.cls → vx_W p l e R s m args below meth c H1 locs1 (cells + mc) (slots + ms) Q (F0 m pc ls rest) q9)
    (kk : ∀ (r : Int32) (u : S) (t : State) (H1 : Heap) (locs1 : List Loc), t.heap = H1 → s.vm.Alike t.vm → post r u → B u t → H.size ≤ H1.size → (∀ q : Nat, q < H.size → ¬ A1 q → H1[q]? = H[q]?) → va_S A0 H0 H1 locs1 → W p l e R s m args below meth c H1 locs1 (cells + mc) (slots + ms) Q (F0 m (pc + 3) ls (.int r :: rest))) : W p l e R s m args below meth c H locs cells slots Q (F0 m pc ls st0) := by
  intro T hT X
  rcases hr T hT X with ⟨v, st₀, t, T', L, h0, X', hL, e1, e2, ⟨⟨r, u, hv, hp, hb⟩, hF⟩, st⟩ | ⟨q, st₀, t, T', L, E, ce, h0, X', hL, e1, e2, ⟨u, hp, hb, hF⟩, hce, hcv, hcl, st⟩
  · cases hv
    obtain ⟨k1, k2, k3⟩ := vx_keep h0 e1 hS hA hf hL hF
    obtain ⟨t2, a1, b1⟩ := kk r u t T'.heap (locs ++ L) e1.symm (by rw [← e2]; exact X'.warmed.alike) hp hb k1 k2 k3 T' rfl X'
    exact ⟨t2, st t2 a1, b1⟩
  · obtain ⟨k1, k2, k3⟩ := vx_keep h0 e1 hS hAX hf hL hF
    obtain ⟨t2, a1, b1⟩ := kx E ce q u t T'.heap (locs ++ L) e1.symm (by rw [← e2]; exact X'.warmed.alike) hp hb k1 k2 k3 (by rw [e1]; exact hce) hcv hcl T' rfl X'
    exact ⟨t2, st.trans a1, b1⟩
theorem vx_calll {S SX : Type} {post : Int64 → S → Prop} {px : SX → Prop} {B : S → State → Prop} {BX : String → SX → State → Prop} {AX : Nat → Prop} (hr : vx_Run p l e R s m args below meth c H locs cells slots mc ms (F0 m pc ls st0) rest (va_Ql post B A1 a) (vx_X px BX AX) free) (hS : va_S A0 H0 H locs) (hA : ∀ q, q < H.size → A1 q → A0 q) (hf : ∀ q, free q → A0 q) (hAX : ∀ q, q < H.size → AX q → A0 q)
    (kx : ∀ (E : String) (ce : Cell) (q9 : Addr) (u : SX) (t : State) (H1 : Heap) (locs1 : List Loc), t.heap = H1 → s.vm.Alike t.vm → px u → BX E u t → H.size ≤ H1.size → (∀ q : Nat, q < H.size → ¬ AX q → H1[q]? = H[q]?) → va_S A0 H0 H1 locs1 → H1[q9]? = some ce → ce.vm = .none → s.vm.findClass E = some ce.cls → vx_W p l e R s m args below meth c H1 locs1 (cells + mc) (slots + ms) Q (F0 m pc ls rest) q9)
    (kk : ∀ (r : Int64) (u : S) (t : State) (H1 : Heap) (locs1 : List Loc), t.heap = H1 → s.vm.Alike t.vm → post r u → B u t → H.size ≤ H1.size → (∀ q : Nat, q < H.size → ¬ A1 q → H1[q]? = H[q]?) → va_S A0 H0 H1 locs1 → W p l e R s m args below meth c H1 locs1 (cells + mc) (slots + ms) Q (F0 m (pc + 3) ls (.long r :: rest))) : W p l e R s m args below meth c H locs cells slots Q (F0 m pc ls st0) := by
  intro T hT X
  rcases hr T hT X with ⟨v, st₀, t, T', L, h0, X', hL, e1, e2, ⟨⟨r, u, hv, hp, hb⟩, hF⟩, st⟩ | ⟨q, st₀, t, T', L, E, ce, h0, X', hL, e1, e2, ⟨u, hp, hb, hF⟩, hce, hcv, hcl, st⟩
  · cases hv
    obtain ⟨k1, k2, k3⟩ := vx_keep h0 e1 hS hA hf hL hF
    obtain ⟨t2, a1, b1⟩ := kk r u t T'.heap (locs ++ L) e1.symm (by rw [← e2]; exact X'.warmed.alike) hp hb k1 k2 k3 T' rfl X'
    exact ⟨t2, st t2 a1, b1⟩
  · obtain ⟨k1, k2, k3⟩ := vx_keep h0 e1 hS hAX hf hL hF
    obtain ⟨t2, a1, b1⟩ := kx E ce q u t T'.heap (locs ++ L) e1.symm (by rw [← e2]; exact X'.warmed.alike) hp hb k1 k2 k3 (by rw [e1]; exact hce) hcv hcl T' rfl X'
    exact ⟨t2, st.trans a1, b1⟩
theorem vx_callf {S SX : Type} {post : UInt32 → S → Prop} {px : SX → Prop} {B : S → State → Prop} {BX : String → SX → State → Prop} {AX : Nat → Prop} (hr : vx_Run p l e R s m args below meth c H locs cells slots mc ms (F0 m pc ls st0) rest (va_Qf post B A1 a) (vx_X px BX AX) free) (hS : va_S A0 H0 H locs) (hA : ∀ q, q < H.size → A1 q → A0 q) (hf : ∀ q, free q → A0 q) (hAX : ∀ q, q < H.size → AX q → A0 q)
    (kx : ∀ (E : String) (ce : Cell) (q9 : Addr) (u : SX) (t : State) (H1 : Heap) (locs1 : List Loc), t.heap = H1 → s.vm.Alike t.vm → px u → BX E u t → H.size ≤ H1.size → (∀ q : Nat, q < H.size → ¬ AX q → H1[q]? = H[q]?) → va_S A0 H0 H1 locs1 → H1[q9]? = some ce → ce.vm = .none → s.vm.findClass E = some ce.cls → vx_W p l e R s m args below meth c H1 locs1 (cells + mc) (slots + ms) Q (F0 m pc ls rest) q9)
    (kk : ∀ (r : UInt32) (u : S) (t : State) (H1 : Heap) (locs1 : List Loc), t.heap = H1 → s.vm.Alike t.vm → post r u → B u t → H.size ≤ H1.size → (∀ q : Nat, q < H.size → ¬ A1 q → H1[q]? = H[q]?) → va_S A0 H0 H1 locs1 → W p l e R s m args below meth c H1 locs1 (cells + mc) (slots + ms) Q (F0 m (pc + 3) ls (.float r :: rest))) : W p l e R s m args below meth c H locs cells slots Q (F0 m pc ls st0) := by
  intro T hT X
  rcases hr T hT X with ⟨v, st₀, t, T', L, h0, X', hL, e1, e2, ⟨⟨r, u, hv, hp, hb⟩, hF⟩, st⟩ | ⟨q, st₀, t, T', L, E, ce, h0, X', hL, e1, e2, ⟨u, hp, hb, hF⟩, hce, hcv, hcl, st⟩
  · cases hv
    obtain ⟨k1, k2, k3⟩ := vx_keep h0 e1 hS hA hf hL hF
    obtain ⟨t2, a1, b1⟩ := kk r u t T'.heap (locs ++ L) e1.symm (by rw [← e2]; exact X'.warmed.alike) hp hb k1 k2 k3 T' rfl X'
    exact ⟨t2, st t2 a1, b1⟩
  · obtain ⟨k1, k2, k3⟩ := vx_keep h0 e1 hS hAX hf hL hF
    obtain ⟨t2, a1, b1⟩ := kx E ce q u t T'.heap (locs ++ L) e1.symm (by rw [← e2]; exact X'.warmed.alike) hp hb k1 k2 k3 (by rw [e1]; exact hce) hcv hcl T' rfl X'
    exact ⟨t2, st.trans a1, b1⟩
theorem vx_calld {S SX : Type} {post : UInt64 → S → Prop} {px : SX → Prop} {B : S → State → Prop} {BX : String → SX → State → Prop} {AX : Nat → Prop} (hr : vx_Run p l e R s m args below meth c H locs cells slots mc ms (F0 m pc ls st0) rest (va_Qd post B A1 a) (vx_X px BX AX) free) (hS : va_S A0 H0 H locs) (hA : ∀ q, q < H.size → A1 q → A0 q) (hf : ∀ q, free q → A0 q) (hAX : ∀ q, q < H.size → AX q → A0 q)
    (kx : ∀ (E : String) (ce : Cell) (q9 : Addr) (u : SX) (t : State) (H1 : Heap) (locs1 : List Loc), t.heap = H1 → s.vm.Alike t.vm → px u → BX E u t → H.size ≤ H1.size → (∀ q : Nat, q < H.size → ¬ AX q → H1[q]? = H[q]?) → va_S A0 H0 H1 locs1 → H1[q9]? = some ce → ce.vm = .none → s.vm.findClass E = some ce.cls → vx_W p l e R s m args below meth c H1 locs1 (cells + mc) (slots + ms) Q (F0 m pc ls rest) q9)
    (kk : ∀ (r : UInt64) (u : S) (t : State) (H1 : Heap) (locs1 : List Loc), t.heap = H1 → s.vm.Alike t.vm → post r u → B u t → H.size ≤ H1.size → (∀ q : Nat, q < H.size → ¬ A1 q → H1[q]? = H[q]?) → va_S A0 H0 H1 locs1 → W p l e R s m args below meth c H1 locs1 (cells + mc) (slots + ms) Q (F0 m (pc + 3) ls (.double r :: rest))) : W p l e R s m args below meth c H locs cells slots Q (F0 m pc ls st0) := by
  intro T hT X
  rcases hr T hT X with ⟨v, st₀, t, T', L, h0, X', hL, e1, e2, ⟨⟨r, u, hv, hp, hb⟩, hF⟩, st⟩ | ⟨q, st₀, t, T', L, E, ce, h0, X', hL, e1, e2, ⟨u, hp, hb, hF⟩, hce, hcv, hcl, st⟩
  · cases hv
    obtain ⟨k1, k2, k3⟩ := vx_keep h0 e1 hS hA hf hL hF
    obtain ⟨t2, a1, b1⟩ := kk r u t T'.heap (locs ++ L) e1.symm (by rw [← e2]; exact X'.warmed.alike) hp hb k1 k2 k3 T' rfl X'
    exact ⟨t2, st t2 a1, b1⟩
  · obtain ⟨k1, k2, k3⟩ := vx_keep h0 e1 hS hAX hf hL hF
    obtain ⟨t2, a1, b1⟩ := kx E ce q u t T'.heap (locs ++ L) e1.symm (by rw [← e2]; exact X'.warmed.alike) hp hb k1 k2 k3 (by rw [e1]; exact hce) hcv hcl T' rfl X'
    exact ⟨t2, st.trans a1, b1⟩
theorem vx_callv {S SX : Type} {post : S → Prop} {px : SX → Prop} {B : S → State → Prop} {BX : String → SX → State → Prop} {AX : Nat → Prop} (hr : vx_Run p l e R s m args below meth c H locs cells slots mc ms (F0 m pc ls st0) rest (va_Qv post B A1 a) (vx_X px BX AX) free) (hS : va_S A0 H0 H locs) (hA : ∀ q, q < H.size → A1 q → A0 q) (hf : ∀ q, free q → A0 q) (hAX : ∀ q, q < H.size → AX q → A0 q)
    (kx : ∀ (E : String) (ce : Cell) (q9 : Addr) (u : SX) (t : State) (H1 : Heap) (locs1 : List Loc), t.heap = H1 → s.vm.Alike t.vm → px u → BX E u t → H.size ≤ H1.size → (∀ q : Nat, q < H.size → ¬ AX q → H1[q]? = H[q]?) → va_S A0 H0 H1 locs1 → H1[q9]? = some ce → ce.vm = .none → s.vm.findClass E = some ce.cls → vx_W p l e R s m args below meth c H1 locs1 (cells + mc) (slots + ms) Q (F0 m pc ls rest) q9)
    (kk : ∀ (u : S) (t : State) (H1 : Heap) (locs1 : List Loc), t.heap = H1 → s.vm.Alike t.vm → post u → B u t → H.size ≤ H1.size → (∀ q : Nat, q < H.size → ¬ A1 q → H1[q]? = H[q]?) → va_S A0 H0 H1 locs1 → W p l e R s m args below meth c H1 locs1 (cells + mc) (slots + ms) Q (F0 m (pc + 3) ls (rest))) : W p l e R s m args below meth c H locs cells slots Q (F0 m pc ls st0) := by
  intro T hT X
  rcases hr T hT X with ⟨v, st₀, t, T', L, h0, X', hL, e1, e2, ⟨⟨u, hv, hp, hb⟩, hF⟩, st⟩ | ⟨q, st₀, t, T', L, E, ce, h0, X', hL, e1, e2, ⟨u, hp, hb, hF⟩, hce, hcv, hcl, st⟩
  · cases hv
    obtain ⟨k1, k2, k3⟩ := vx_keep h0 e1 hS hA hf hL hF
    obtain ⟨t2, a1, b1⟩ := kk u t T'.heap (locs ++ L) e1.symm (by rw [← e2]; exact X'.warmed.alike) hp hb k1 k2 k3 T' rfl X'
    exact ⟨t2, st t2 a1, b1⟩
  · obtain ⟨k1, k2, k3⟩ := vx_keep h0 e1 hS hAX hf hL hF
    obtain ⟨t2, a1, b1⟩ := kx E ce q u t T'.heap (locs ++ L) e1.symm (by rw [← e2]; exact X'.warmed.alike) hp hb k1 k2 k3 (by rw [e1]; exact hce) hcv hcl T' rfl X'
    exact ⟨t2, st.trans a1, b1⟩
/-- caught by the row x of this method's table; the rows ahead don't take it -/
theorem vx_catch {own name : String} {E : String} {ce : Cell} {q : Addr} (hown : s.vm.findClass own = some m.cls) (pre : List ExceptionTableEntry) (x : ExceptionTableEntry) (suf : List ExceptionTableEntry) (hsplit : c.exceptionTable.toList = pre ++ x :: suf)
    (hpass : ∀ z ∈ pre, covers z pc = false ∨ (z.catchType ≠ 0 ∧ ∃ nm : String, (Cond.classLink own z.catchType nm).before args s = true ∧ va_Nc E nm s)) (hx : covers x pc = true) (h0 : x.catchType ≠ 0)
    (hlink : (Cond.classLink own x.catchType name).before args s = true) (hcast : (Cond.castable E name).before args s = true) (hcell : H[q]? = some ce) (hv : ce.vm = .none) (hcl : s.vm.findClass E = some ce.cls)
    (kk : W p l e R s m args below meth c H locs cells slots Q (F0 m x.handlerPc ls [.ref q])) : vx_W p l e R s m args below meth c H locs cells slots Q (F0 m pc ls rest) q := by
  intro T hT X
  have hpl : e.platform.magicAccessors = ({} : Platform).magicAccessors := by rw [X.admits.platform]
  obtain ⟨c3, c4, hc3, hc4, hasg⟩ := Cond.castable_spec hcast
  cases Option.some.inj (hc3.symm.trans hcl)
  obtain ⟨c5, hc5, hcl5⟩ := Cond.classLink_spec hown hlink e.platform hpl
  cases Option.some.inj (hc4.symm.trans hc5)
  obtain ⟨vm', X', st⟩ := X.thenCaughtThrough q (g := F0 m pc ls rest) rfl (Steps.refl _) (by rw [hT]; exact hcell) (by rw [hv]; rfl) (by obtain ⟨k9, h9, -⟩ := Vm.findClass_spec hcl; exact ⟨k9, h9⟩) pre x suf hsplit
    (fun z hz => by
      rcases hpass z hz with h | ⟨hz0, nm, hl1, hn1⟩
      · exact Or.inl h
      · obtain ⟨c6, hc6, hcl6⟩ := Cond.classLink_spec hown hl1 e.platform hpl
        obtain ⟨a8, b8, h1, h2, h3⟩ := hn1
        cases Option.some.inj (h1.symm.trans hcl)
        cases Option.some.inj (h2.symm.trans hc6)
        exact Or.inr ⟨hz0, _, hcl6, h3⟩) hx (Or.inr ⟨h0, c4, hcl5, hasg⟩)
  obtain ⟨t, a1, b1⟩ := kk (T.setVm vm') hT X'
  exact ⟨t, st.trans a1, b1⟩
end Rows
section Ends
variable {p : Program} {l : Launch} {e : Env} {R : Room} {s : State} {m : MethodId} {args : Array Value} {below : List Frame} {meth : Method} {c : Code} {H : Heap} {locs : List Loc} {cells slots : Nat} {Q : State → Prop}
variable {mc ms : Nat} {free : Addr → Prop} {A0 A1 : Nat → Prop} {H0 : Heap} {a : Array Value} {ls : Array Slot} {st0 rest : List Value}
variable {Qc : Array Value → State → Outcome → State → Prop} {XC : String → State → State → Prop}
/-- what a body that may throw owes at its end -/
def vx_MQ (below : List Frame) (Qc : Array Value → State → Outcome → State → Prop) (XC : String → State → State → Prop) (a : Array Value) (s : State) (mc ms : Nat) (free : Addr → Prop) : State → Prop := fun t =>
  ∃ o, t.status = .running ∧ Ended t below o ∧ vx_Q Qc XC mc ms free a s o t
theorem vx_ret {g : JFrame} {mc ms : Nat} (k : W p l e R s m args below meth c H locs cells slots (MQ below Qc args s mc ms free) g) : W p l e R s m args below meth c H locs cells slots (vx_MQ below Qc XC args s mc ms free) g := by
  intro T hT X
  obtain ⟨t, a1, o, b1, b2, b3, b4⟩ := k T hT X
  exact ⟨t, a1, o, b1, b2, Or.inl ⟨b3, b4⟩⟩
/-- not caught here: it goes on to the caller -/
theorem vx_widen {g : JFrame} {q : Addr} {k n : Nat} (h1 : cells ≤ k) (h2 : slots ≤ n) (kk : vx_W p l e R s m args below meth c H locs k n Q g q) : vx_W p l e R s m args below meth c H locs cells slots Q g q := fun T hT X => kk T hT (stand_widen X h1 h2)
theorem vx_out {pc : Nat} {E : String} {ce : Cell} {q : Addr} {mc ms : Nat} (hout : ∀ x ∈ c.exceptionTable.toList, covers x pc = false) (hlocks : meth.locks = false) (hcell : H[q]? = some ce) (hv : ce.vm = .none) (hcl : s.vm.findClass E = some ce.cls)
    (hx : ∀ t : State, t.heap = H → s.vm.Alike t.vm → XC E s t) (hf : ∀ z ∈ locs, free z.base) (hc : cells ≤ mc) (hs : slots ≤ ms) :
    vx_W p l e R s m args below meth c H locs cells slots (vx_MQ below Qc XC args s mc ms free) (F0 m pc ls rest) q := by
  intro T hT X
  obtain ⟨st1, hrun, hend, hW, hsm⟩ := X.leaveThrown q (g := F0 m pc ls rest) rfl rfl rfl hout hlocks
  have hcell9 : (T.setFrames (.throwing q :: below)).heap[q]? = some ce := by
    show T.heap[q]? = some ce
    rw [hT]; exact hcell
  exact ⟨_, st1, .threw q, hrun, hend, Or.inr ⟨q, rfl, E, ce, locs, hx _ hT hW.alike, hcell9, hv, hcl, hW, hsm.mono hc hs, hf⟩⟩
theorem vx_frame {U : State} {k n : Nat} (h : s.sameButNew ({ U with vm := s.vm } : State) locs k n) : s.heap.size ≤ U.heap.size ∧ ∀ q : Nat, q < s.heap.size → (∀ z ∈ locs, z.base ≠ q) → U.heap[q]? = s.heap[q]? := by
  obtain ⟨-, h2, -, -, -, h6⟩ := h
  refine ⟨h2, fun q hq hz => ?_⟩
  obtain ⟨c9, e1, e2, e3, e4⟩ := h6 q _ (Array.getElem?_eq_getElem hq)
  have hs : c9.slots = (s.heap[q]).slots := Array.ext_getElem? fun i => e4 i fun hm => hz _ hm rfl
  have h9 : c9 = s.heap[q] := by
    rw [hs] at e2
    exact e2
  have e5 : U.heap[q]? = some c9 := e1
  rw [e5, h9, Array.getElem?_eq_getElem hq]
/-- the words of a throw but the four that speak of the heap -/
def vx_no (w : Cond) : Bool := decide (w ≠ .isRef (.static Bundle.tN "UNASSIGNED_STACK" Bundle.steD)) && decide (w ≠ .isRef (.static Bundle.tN "SUPPRESSED_SENTINEL" Bundle.listD)) && decide (w ≠ .laysStatic Bundle.tN "UNASSIGNED_STACK" Bundle.steD) && decide (w ≠ .laysStatic Bundle.tN "SUPPRESSED_SENTINEL" Bundle.listD)
def vx_at0 (own : String) (ic : Nat) (X : String) (names : List String) : List Cond := (Bundle.ownAtoms0 own ic X names).filter vx_no
def vx_atS (own : String) (ic : Nat) (X : String) (names : List String) : List Cond := (Bundle.ownAtoms own ic X names).filter vx_no
/-- a word that the tables alone decide, or a good one -/
def vx_ot (w : Cond) : Bool := w.onTables || goodWord w
theorem vx_ot_at {args a' : Array Value} {s U : State} {w : Cond} (hW : s.WarmedH U.vm) (hvm : s.vm = U.vm) (hg : vx_ot w = true) (h : w.before args s = true) : w.before a' U = true := by
  simp only [vx_ot, Bool.or_eq_true] at hg
  rcases hg with hg | hg
  · exact va_tabs hg hvm h
  · exact word_at hW (good_of_word hg) h
/-- a list's words: the good ones out of the method's own list, the others by premises of their own -/
theorem vx_hat {args : Array Value} {s : State} {L B : List Cond} (h1 : ∀ w ∈ L.filter goodWord, w.before args s = true) (h2 : ∀ w ∈ L.filter (fun w => !goodWord w), w ∈ B) (h3 : ∀ w ∈ B, w.before args s = true) : ∀ w ∈ L, w.before args s = true := by
  intro w hw
  by_cases g : goodWord w = true
  · exact h1 w (List.mem_filter.mpr ⟨hw, g⟩)
  · refine h3 w (h2 w (List.mem_filter.mpr ⟨hw, ?_⟩))
    show (!goodWord w) = true
    cases hgw : goodWord w
    · rfl
    · exact absurd hgw g
theorem vx_c {args : Array Value} {s : State} {w : Cond} {B : List Cond} (h : w.before args s = true) (t : ∀ w ∈ B, w.before args s = true) : ∀ w' ∈ w :: B, w'.before args s = true := fun w' h' => (List.mem_cons.mp h').elim (fun e => by rw [e]; exact h) (t w')
theorem vx_n {args : Array Value} {s : State} : ∀ w ∈ ([] : List Cond), w.before args s = true := fun _ h => nomatch h
theorem vx_own {args : Array Value} {s : State} {L : List Cond} (h1 : ∀ w ∈ L.filter vx_no, w.before args s = true)
    (hU : (Cond.isRef (.static Bundle.tN "UNASSIGNED_STACK" Bundle.steD)).before args s = true) (hN : (Cond.isRef (.static Bundle.tN "SUPPRESSED_SENTINEL" Bundle.listD)).before args s = true)
    (lU : (Cond.laysStatic Bundle.tN "UNASSIGNED_STACK" Bundle.steD).before args s = true) (lN : (Cond.laysStatic Bundle.tN "SUPPRESSED_SENTINEL" Bundle.listD).before args s = true) : ∀ w ∈ L, w.before args s = true := by
  intro w hw
  by_cases e1 : w = .isRef (.static Bundle.tN "UNASSIGNED_STACK" Bundle.steD)
  · rw [e1]; exact hU
  · by_cases e2 : w = .isRef (.static Bundle.tN "SUPPRESSED_SENTINEL" Bundle.listD)
    · rw [e2]; exact hN
    · by_cases e3 : w = .laysStatic Bundle.tN "UNASSIGNED_STACK" Bundle.steD
      · rw [e3]; exact lU
      · by_cases e4 : w = .laysStatic Bundle.tN "SUPPRESSED_SENTINEL" Bundle.listD
        · rw [e4]; exact lN
        · exact h1 w (List.mem_filter.mpr ⟨hw, by unfold vx_no; rw [decide_eq_true e1, decide_eq_true e2, decide_eq_true e3, decide_eq_true e4]; rfl⟩)
/-- where a static field lies, its class's statics cell in H -/
def vx_L (C n d : String) (A : Nat → Prop) (U : State) (H : Heap) : Prop := ∃ (c : ClassId) (k : Class) (i : Nat) (f : Field) (a : Nat) (cell : Cell), U.vm.findClass C = some c ∧ U.fieldFound? C n d = some (c, k, i, f) ∧ f.isStatic = true ∧ k.statics = some a ∧ H[a]? = some cell ∧ cell.vm.isStatics = true ∧ cell.cls = c ∧ f.slot < cell.slots.size ∧ k.staticTypes[f.slot]? = some f.type ∧ ¬ A a
theorem vx_L.moved {C n d : String} {A : Nat → Prop} {u U : State} {H : Heap} (hvm : u.vm.Alike U.vm) (h : vx_L C n d A u H) : vx_L C n d A U H := by
  obtain ⟨c, k, i, f, a, cell, h1, h2, h3, h4, h5, h6, h7, h8, h9, h10⟩ := h
  obtain ⟨k', hi', he⟩ := State.fieldFound?_setVm hvm h2
  exact ⟨c, k', i, f, a, cell, by rw [hvm.findClass]; exact h1, hi', h3, by rw [he]; exact h4, h5, h6, h7, h8, by rw [he]; exact h9, h10⟩
theorem vx_L.kept {C n d : String} {A : Nat → Prop} {U : State} {H H1 : Heap} (h : vx_L C n d A U H) (hq : ∀ a : Nat, a < H.size → ¬ A a → H1[a]? = H[a]?) : vx_L C n d A U H1 := by
  obtain ⟨c, k, i, f, a, cell, h1, h2, h3, h4, h5, h6, h7, h8, h9, h10⟩ := h
  exact ⟨c, k, i, f, a, cell, h1, h2, h3, h4, by rw [hq a (Array.getElem?_eq_some_iff.mp h5).1 h10]; exact h5, h6, h7, h8, h9, h10⟩
theorem vx_L.narrow {C n d : String} {A B : Nat → Prop} {U : State} {H : Heap} (h : vx_L C n d A U H) (hAB : ∀ q, B q → A q) : vx_L C n d B U H := by
  obtain ⟨c, k, i, f, a, cell, h1, h2, h3, h4, h5, h6, h7, h8, h9, h10⟩ := h
  exact ⟨c, k, i, f, a, cell, h1, h2, h3, h4, h5, h6, h7, h8, h9, fun z => h10 (hAB _ z)⟩
theorem vx_L.word {C n d : String} {A : Nat → Prop} {s : State} {args : Array Value} (h : vx_L C n d A s s.heap) : (Cond.laysStatic C n d).before args s = true := by
  obtain ⟨c, k, i, f, a, cell, h1, h2, h3, h4, h5, h6, h7, h8, h9, -⟩ := h
  show (Cond.laysStatic C n d).holds args s none s [] = true
  exact Cond.laysStatic_of h1 h2 h3 h4 h5 h6 h7 h8 h9
/-- .. and what it holds: null or some reference -/
def vx_Zq (C n d : String) (A : Nat → Prop) (U : State) (H : Heap) : Prop := va_Zq C n d A U H ∧ vx_L C n d A U H
theorem vx_Zq.moved {C n d : String} {A : Nat → Prop} {u U : State} {H : Heap} (hvm : u.vm.Alike U.vm) (h : vx_Zq C n d A u H) : vx_Zq C n d A U H := ⟨va_Zq.moved hvm h.1, vx_L.moved hvm h.2⟩
theorem vx_Zq.kept {C n d : String} {A : Nat → Prop} {U : State} {H H1 : Heap} (h : vx_Zq C n d A U H) (hq : ∀ a : Nat, a < H.size → ¬ A a → H1[a]? = H[a]?) : vx_Zq C n d A U H1 := ⟨va_Zq.kept h.1 hq, vx_L.kept h.2 hq⟩
theorem vx_Zq.narrow {C n d : String} {A B : Nat → Prop} {U : State} {H : Heap} (h : vx_Zq C n d A U H) (hAB : ∀ q, B q → A q) : vx_Zq C n d B U H := ⟨va_Zq.narrow h.1 hAB, vx_L.narrow h.2 hAB⟩
theorem vx_Zqof {args : Array Value} {s : State} {C n d : String} {A : Nat → Prop} (hl : (Cond.laysStatic C n d).before args s = true) (hini : (Cond.initialized C).before args s = true) (h : (Cond.isRef (.static C n d)).before args s = true) (hA : ∀ a : Nat, a < s.heap.size → ¬ A a) : vx_Zq C n d A s s.heap := by
  refine ⟨va_Zqof hl hini h hA, ?_⟩
  obtain ⟨c, k, i, f, a, cell, h1, h2, h3, h4, h5, h6, h7, h8, h9⟩ := Cond.laysStatic_spec hl
  exact ⟨c, k, i, f, a, cell, h1, h2, h3, h4, h5, h6, h7, h8, h9, hA a (Array.getElem?_eq_some_iff.mp h5).1⟩
theorem vx_isRef {C n d : String} {v : Value} {A : Nat → Prop} {s : State} {args : Array Value} (h : va_Z C n d v A s s.heap) (hv : v.isRef = true) : (Cond.isRef (.static C n d)).before args s = true := by
  obtain ⟨cf, kf, fi, f, a, cell, h1, h2, h3, h4, h5, h6, h7, -⟩ := h
  have he : (Term.static C n d).eval args s none [] s = some v := by
    simp [Term.eval, State.fieldNamed?, h1, h2, h4, h5, h6, h7]
  simp only [Cond.before, Cond.holds, Cond.value, he]
  cases v <;> simp_all [Value.isRef]
theorem vx_isRefq {C n d : String} {A : Nat → Prop} {s : State} {args : Array Value} (h : va_Zq C n d A s s.heap) : (Cond.isRef (.static C n d)).before args s = true := by
  rcases h with h | ⟨t, h⟩
  · exact vx_isRef h rfl
  · exact vx_isRef h rfl
/-- the same frame, seen from here: as if the method were called anew in this heap -/
theorem vx_rebase {T : State} (X : Stand p l e R s m args below meth c T locs cells slots) {R' : Room} (hf : R'.frames ≤ R.frames) (hl : R'.locals ≤ R.locals) (hc : cells + R'.cells ≤ R.cells) (hs : slots + R'.slots ≤ R.slots) :
    Stand p l e R' ((T.setVm s.vm).setFrames (.invoking m args :: below)) m args below meth c T [] 0 0 := by
  have htop : (T.setVm s.vm).topJava?.isSome := X.here.top
  have hF : ((T.setVm s.vm).setFrames (.invoking m args :: below)).frames = .invoking m args :: below := State.frames_setFrames _ (State.cur_lt_of_top htop)
  obtain ⟨g₀, hg0⟩ := Option.isSome_iff_exists.mp htop
  obtain ⟨r, hr⟩ := State.topJava?_eq_some.mp hg0
  have hl9 : e.platform.stackLimits (T.setVm s.vm).me = e.platform.stackLimits s.me := X.limits
  have hb9 : (T.setVm s.vm).me.stackBytes = s.me.stackBytes := X.bytes
  refine ⟨X.admits, X.cas, X.clock, hF, ?_, X.hears, X.method, X.code, X.here, X.tail, X.warmed, ?_, ?_, ?_⟩
  · have h := X.room
    have hU : ((T.setVm s.vm).setFrames (.invoking m args :: below)).localsInUse = s.localsInUse := by
      rw [State.localsInUse_invoking hF (meth := meth) (c := c) X.method X.code, State.localsInUse_invoking X.frames X.method X.code]
    simp only [State.hasRoom, Bool.and_eq_true, decide_eq_true_eq] at h ⊢
    obtain ⟨⟨⟨⟨h1, h2, h3, h4, h5, h6⟩, h7⟩, h8⟩, h9⟩ := h
    rw [X.frames, List.length_cons] at h2 h3
    have q1 := X.heapSize
    have q2 := X.used
    simp only [hF, hU, List.length_cons, State.stackLimits_setFrames, State.stackBytes_setFrames, hl9, hb9]
    refine ⟨⟨⟨⟨by omega, by omega, by omega, by omega, by omega, h6⟩, ?_⟩, ?_⟩, X.book⟩
    · show T.heap.size + R'.cells ≤ e.platform.maxCells
      omega
    · show T.slotsUsed + R'.slots ≤ e.platform.maxSlots
      omega
  · rw [State.stackLimits_setFrames]; rfl
  · rw [State.stackBytes_setFrames]; rfl
  · refine ⟨?_, Nat.le_refl _, Nat.le_refl _, ?_, ?_, fun a c9 h9 => ⟨c9, h9, rfl, rfl, fun _ _ => rfl⟩⟩
    · obtain ⟨t, ht, -⟩ := State.frames_cons hr
      show T.setVm s.vm = { ((T.setVm s.vm).setFrames (.invoking m args :: below)).setFrames (T.setVm s.vm).frames with heap := T.heap, slotsUsed := T.slotsUsed }
      rw [State.setFrames_setFrames, State.setFrames_self ht]
      rfl
    · show T.slotsUsed = T.slotsUsed + ((T.heap.toList.drop T.heap.size).map (·.slots.size)).sum
      rw [List.drop_eq_nil_of_le (Nat.le_of_eq Array.length_toList)]
      rfl
    · show ((T.heap.toList.drop T.heap.size).map (·.slots.size)).sum ≤ 0
      rw [List.drop_eq_nil_of_le (Nat.le_of_eq Array.length_toList)]
      exact Nat.le_refl _
/-- 'throw new E()': new; dup; invokespecial; athrow -/
theorem vx_throw0 {cc : ByteArray} {pc : Nat} (hexec : p.tables.exec = Jvm.exec) (hb : c.code = cc) (hl : l.stackTraces = false) {own cls : String} {names : List String} {ik ic mc ms : Nat} {A : Nat → Prop}
    (hown : s.vm.findClass own = some m.cls) (hcls : Bundle.fit cls = true) (hnames : ∀ n ∈ names, Bundle.fit n = true)
    (hk : (Cond.classLink own ik cls).before args s = true) (hini : (Cond.initialized cls).before args s = true) (hat : ∀ w ∈ vx_at0 own ic cls names, w.before args s = true)
    (hgood : ∀ w ∈ Cond.classLink own ik cls :: Cond.initialized cls :: vx_at0 own ic cls names, vx_ot w = true)
    (hU : vx_Zq Bundle.tN "UNASSIGNED_STACK" Bundle.steD A s s.heap) (hN : vx_Zq Bundle.tN "SUPPRESSED_SENTINEL" Bundle.listD A s s.heap) (hS : va_S A s.heap H locs) (hsize : ls.size = c.maxLocals)
    (d0 : decode cc pc = .ok (.new ik, 3)) (d3 : decode cc (pc + 3) = .ok (.dup, 1)) (d4 : decode cc (pc + 4) = .ok (.invokespecial ic, 3)) (d7 : decode cc (pc + 7) = .ok (.athrow, 1))
    (hout : ∀ x ∈ c.exceptionTable.toList, covers x (pc + 7) = false)
    (hRframes : names.length + 3 < R.frames) (hRlocals : (rest.map fun v => v.category).sum + (13 * (names.length + 1) + 42) ≤ R.locals) (hRcells : cells + 1 ≤ R.cells) (hRslots : slots + 6 ≤ R.slots) (hlocks : meth.locks = false)
    (hx : ∀ t : State, s.vm.Alike t.vm → H.size ≤ t.heap.size → (∀ q : Nat, q < H.size → t.heap[q]? = H[q]?) → XC cls s t)
    (hf : ∀ z ∈ locs, free z.base) (hc : cells + 1 ≤ mc) (hs : slots + 6 ≤ ms) :
    W p l e R s m args below meth c H locs cells slots (vx_MQ below Qc XC args s mc ms free) (F0 m pc ls rest) := by
  intro T hT X
  have htr : e.platform.stackTraces = false := (show e.platform.stackTraces = l.stackTraces by rw [X.admits.platform]).trans hl
  have Y := vx_rebase X (R' := { frames := R.frames, locals := R.locals, cells := 1, slots := 6 }) (Nat.le_refl _) (Nat.le_refl _) hRcells hRslots
  obtain ⟨s', hA⟩ : ∃ z, z = (T.setVm s.vm).setFrames (.invoking m args :: below) := ⟨_, rfl⟩
  rw [← hA] at Y
  have hvm : s'.vm = s.vm := by rw [hA]; rfl
  have hhp : s'.heap = H := by rw [hA]; exact hT
  have hW0 : s.WarmedH s'.vm := by rw [hvm]; exact State.WarmedH.refl s
  have hat' : ∀ w ∈ vx_at0 own ic cls names, w.before args s' = true := fun w hw => vx_ot_at hW0 hvm.symm (hgood w (List.mem_cons_of_mem _ (List.mem_cons_of_mem _ hw))) (hat w hw)
  have hk' : (Cond.classLink own ik cls).before args s' = true := vx_ot_at hW0 hvm.symm (hgood _ List.mem_cons_self) hk
  have hini' : (Cond.initialized cls).before args s' = true := vx_ot_at hW0 hvm.symm (hgood _ (List.mem_cons_of_mem _ List.mem_cons_self)) hini
  have hU' : vx_Zq Bundle.tN "UNASSIGNED_STACK" Bundle.steD A s' s'.heap := by rw [hhp]; exact vx_Zq.moved hW0.alike (hU.kept hS.2.1)
  have hN' : vx_Zq Bundle.tN "SUPPRESSED_SENTINEL" Bundle.listD A s' s'.heap := by rw [hhp]; exact vx_Zq.moved hW0.alike (hN.kept hS.2.1)
  have h : ∀ w ∈ Bundle.ownAtoms0 own ic cls names, w.before args s' = true := vx_own hat' (vx_isRefq hU'.1) (vx_isRefq hN'.1) hU'.2.word hN'.2.word
  have hown' : s'.vm.findClass own = some m.cls := by rw [hvm]; exact hown
  have hins : (Cond.instantiable cls 6).before args s' = true := h _ (by simp [Bundle.ownAtoms0])
  obtain ⟨vm₁, cX, kX, hfX, hkX, -, -, X₁, st1⟩ := Y.newCold hexec (own := own) (C := cls) (index := ik) (n := 6) hown' hk' hins hini'
    (g := F0 m pc ls rest) rfl (by rw [hb]; exact d0) (Nat.le_refl _) (Nat.le_refl _)
  generalize hT1 : (T.setVm vm₁).pushCell { cls := cX, slots := kX.instanceTypes.map defaultValue, vm := .none } = T1 at X₁ st1
  have hcat : (Value.ref T.heap.size).category = 1 := rfl
  have hcellA : T1.heap[T.heap.size]? = some (freshCell cX kX) := by rw [← hT1]; exact State.heap_pushCell_size _ _
  have d3' : decode c.code (pc + 3) = .ok (.dup, 1) := by rw [hb]; exact d3
  obtain ⟨U, hsteps, hrun, hend, hW, hsame, ce, hce, hO⟩ := X₁.ctorThrow0 hexec htr (own := own) (cls := cls) (names := names) (ic := ic) hown' hcls hnames h (fun x hx => nomatch hx) hfX hkX hcellA (by rw [hhp, hT]; exact Nat.le_refl _)
    (g := { method := m, pc := pc + 4, locals := ls, stack := .ref T.heap.size :: .ref T.heap.size :: rest, locked := none }) rfl hsize rfl rfl (rest := rest) rfl
    (by rw [hb]; exact d4) (by rw [hb]; exact d7) hout hRframes (by simp only [List.map_cons, List.sum_cons, hcat]; omega) hlocks
  obtain ⟨f1, f2⟩ := vx_frame hsame
  rw [hhp] at f1 f2
  have hWs : s.WarmedH U.vm := State.WarmedH.trans hW0 hW
  have hcl : s.vm.findClass cls = some ce.cls := by
    have h9 := hO.cls
    rw [hvm] at h9
    exact h9
  have hall : s.sameButNew ({ U with vm := s.vm } : State) locs mc ms := by
    subst hA
    obtain ⟨e1, e2⟩ := hsame
    rw [State.setFrames_setFrames] at e1
    have h2 : (T.setVm s.vm).sameButNew ({ U with vm := s.vm } : State) [] (0 + 1) (0 + 6) := ⟨e1, e2⟩
    have h3 := X.same.trans h2
    rw [List.append_nil] at h3
    exact h3.mono hc hs
  refine ⟨U, ?_, .threw T.heap.size, hrun, hend, Or.inr ⟨T.heap.size, rfl, cls, ce, locs, hx U hWs.alike f1 (fun q hq => f2 q hq (fun z hz => nomatch hz)), hce, hO.vm, hcl, hWs, hall, hf⟩⟩
  refine st1 _ ?_
  show Steps p.tables e below (T1.setTop { method := m, pc := pc + 3, locals := ls, stack := .ref T.heap.size :: rest, locked := none }) _
  jvm_step X₁.here [X₁.here.top, hexec, d3', Value.category]
  exact hsteps
/-- 'throw new E("text")': new; dup; ldc; invokespecial; athrow -/
theorem vx_throwS {cc : ByteArray} {pc : Nat} (hexec : p.tables.exec = Jvm.exec) (hb : c.code = cc) (hl : l.stackTraces = false) {own cls text : String} {names : List String} {ik is ic mc ms sa : Nat} {A : Nat → Prop}
    (hown : s.vm.findClass own = some m.cls) (hcls : Bundle.fit cls = true) (hnames : ∀ n ∈ names, Bundle.fit n = true)
    (hk : (Cond.classLink own ik cls).before args s = true) (hini : (Cond.initialized cls).before args s = true) (hstr : vk_R own is text sa s) (hat : ∀ w ∈ vx_atS own ic cls names, w.before args s = true)
    (hgood : ∀ w ∈ Cond.classLink own ik cls :: Cond.initialized cls :: vx_atS own ic cls names, vx_ot w = true)
    (hU : vx_Zq Bundle.tN "UNASSIGNED_STACK" Bundle.steD A s s.heap) (hN : vx_Zq Bundle.tN "SUPPRESSED_SENTINEL" Bundle.listD A s s.heap) (hS : va_S A s.heap H locs) (hsize : ls.size = c.maxLocals)
    (d0 : decode cc pc = .ok (.new ik, 3)) (d3 : decode cc (pc + 3) = .ok (.dup, 1)) (d4 : decode cc (pc + 4) = .ok (.ldc is, 2)) (d6 : decode cc (pc + 6) = .ok (.invokespecial ic, 3)) (d9 : decode cc (pc + 9) = .ok (.athrow, 1))
    (hout : ∀ x ∈ c.exceptionTable.toList, covers x (pc + 9) = false)
    (hRframes : names.length + 3 < R.frames) (hRlocals : (rest.map fun v => v.category).sum + (13 * (names.length + 1) + 43) ≤ R.locals) (hRcells : cells + 1 ≤ R.cells) (hRslots : slots + 6 ≤ R.slots) (hlocks : meth.locks = false)
    (hx : ∀ t : State, s.vm.Alike t.vm → H.size ≤ t.heap.size → (∀ q : Nat, q < H.size → t.heap[q]? = H[q]?) → XC cls s t)
    (hf : ∀ z ∈ locs, free z.base) (hc : cells + 1 ≤ mc) (hs : slots + 6 ≤ ms) :
    W p l e R s m args below meth c H locs cells slots (vx_MQ below Qc XC args s mc ms free) (F0 m pc ls rest) := by
  intro T hT X
  have htr : e.platform.stackTraces = false := (show e.platform.stackTraces = l.stackTraces by rw [X.admits.platform]).trans hl
  have Y := vx_rebase X (R' := { frames := R.frames, locals := R.locals, cells := 1, slots := 6 }) (Nat.le_refl _) (Nat.le_refl _) hRcells hRslots
  obtain ⟨s', hA⟩ : ∃ z, z = (T.setVm s.vm).setFrames (.invoking m args :: below) := ⟨_, rfl⟩
  rw [← hA] at Y
  have hvm : s'.vm = s.vm := by rw [hA]; rfl
  have hhp : s'.heap = H := by rw [hA]; exact hT
  have hW0 : s.WarmedH s'.vm := by rw [hvm]; exact State.WarmedH.refl s
  have hat' : ∀ w ∈ vx_atS own ic cls names, w.before args s' = true := fun w hw => vx_ot_at hW0 hvm.symm (hgood w (List.mem_cons_of_mem _ (List.mem_cons_of_mem _ hw))) (hat w hw)
  have hk' : (Cond.classLink own ik cls).before args s' = true := vx_ot_at hW0 hvm.symm (hgood _ List.mem_cons_self) hk
  have hini' : (Cond.initialized cls).before args s' = true := vx_ot_at hW0 hvm.symm (hgood _ (List.mem_cons_of_mem _ List.mem_cons_self)) hini
  have hU' : vx_Zq Bundle.tN "UNASSIGNED_STACK" Bundle.steD A s' s'.heap := by rw [hhp]; exact vx_Zq.moved hW0.alike (hU.kept hS.2.1)
  have hN' : vx_Zq Bundle.tN "SUPPRESSED_SENTINEL" Bundle.listD A s' s'.heap := by rw [hhp]; exact vx_Zq.moved hW0.alike (hN.kept hS.2.1)
  have h : ∀ w ∈ Bundle.ownAtoms own ic cls names, w.before args s' = true := vx_own hat' (vx_isRefq hU'.1) (vx_isRefq hN'.1) hU'.2.word hN'.2.word
  have hown' : s'.vm.findClass own = some m.cls := by rw [hvm]; exact hown
  have hins : (Cond.instantiable cls 6).before args s' = true := h _ (by simp [Bundle.ownAtoms])
  obtain ⟨vm₁, cX, kX, hfX, hkX, -, -, X₁, st1⟩ := Y.newCold hexec (own := own) (C := cls) (index := ik) (n := 6) hown' hk' hins hini'
    (g := F0 m pc ls rest) rfl (by rw [hb]; exact d0) (Nat.le_refl _) (Nat.le_refl _)
  generalize hT1 : (T.setVm vm₁).pushCell { cls := cX, slots := kX.instanceTypes.map defaultValue, vm := .none } = T1 at X₁ st1
  have hcat : (Value.ref T.heap.size).category = 1 := rfl
  have hcellA : T1.heap[T.heap.size]? = some (freshCell cX kX) := by rw [← hT1]; exact State.heap_pushCell_size _ _
  have d3' : decode c.code (pc + 3) = .ok (.dup, 1) := by rw [hb]; exact d3
  have d4' : decode c.code (pc + 4) = .ok (.ldc is, 2) := by rw [hb]; exact d4
  have hstr' : vk_R own is text sa s' := vk_R.warm hW0 hstr
  obtain ⟨U, hsteps, hrun, hend, hW, hsame, ce, hce, hO⟩ := X₁.ctorThrowS hexec htr (own := own) (cls := cls) (names := names) (ic := ic) hown' hcls hnames h (fun x hx => nomatch hx) hfX hkX hcellA (by rw [hhp, hT]; exact Nat.le_refl _) (msg := .ref sa) rfl
    (g := { method := m, pc := pc + 6, locals := ls, stack := .ref sa :: .ref T.heap.size :: .ref T.heap.size :: rest, locked := none }) rfl hsize rfl rfl (rest := rest) rfl
    (by rw [hb]; exact d6) (by rw [hb]; exact d9) hout hRframes (by simp only [List.map_cons, List.sum_cons, hcat]; omega) hlocks
  obtain ⟨f1, f2⟩ := vx_frame hsame
  rw [hhp] at f1 f2
  have hWs : s.WarmedH U.vm := State.WarmedH.trans hW0 hW
  have hcl : s.vm.findClass cls = some ce.cls := by
    have h9 := hO.cls
    rw [hvm] at h9
    exact h9
  have hall : s.sameButNew ({ U with vm := s.vm } : State) locs mc ms := by
    subst hA
    obtain ⟨e1, e2⟩ := hsame
    rw [State.setFrames_setFrames] at e1
    have h2 : (T.setVm s.vm).sameButNew ({ U with vm := s.vm } : State) [] (0 + 1) (0 + 6) := ⟨e1, e2⟩
    have h3 := X.same.trans h2
    rw [List.append_nil] at h3
    exact h3.mono hc hs
  refine ⟨U, ?_, .threw T.heap.size, hrun, hend, Or.inr ⟨T.heap.size, rfl, cls, ce, locs, hx U hWs.alike f1 (fun q hq => f2 q hq (fun z hz => nomatch hz)), hce, hO.vm, hcl, hWs, hall, hf⟩⟩
  refine st1 _ ?_
  show Steps p.tables e below (T1.setTop { method := m, pc := pc + 3, locals := ls, stack := .ref T.heap.size :: rest, locked := none }) _
  jvm_step X₁.here [X₁.here.top, hexec, d3', Value.category]
  exact X₁.ldcString hexec (own := own) (text := text) (index := is) (a := sa) hown' hstr'.1 hstr'.2
    (g := { method := m, pc := pc + 4, locals := ls, stack := .ref T.heap.size :: .ref T.heap.size :: rest, locked := none }) rfl d4' _ hsteps
/-- 'throw new E("text")', the text by a wide index -/
theorem vx_throwSW {cc : ByteArray} {pc : Nat} (hexec : p.tables.exec = Jvm.exec) (hb : c.code = cc) (hl : l.stackTraces = false) {own cls text : String} {names : List String} {ik is ic mc ms sa : Nat} {A : Nat → Prop}
    (hown : s.vm.findClass own = some m.cls) (hcls : Bundle.fit cls = true) (hnames : ∀ n ∈ names, Bundle.fit n = true)
    (hk : (Cond.classLink own ik cls).before args s = true) (hini : (Cond.initialized cls).before args s = true) (hstr : vk_R own is text sa s) (hat : ∀ w ∈ vx_atS own ic cls names, w.before args s = true)
    (hgood : ∀ w ∈ Cond.classLink own ik cls :: Cond.initialized cls :: vx_atS own ic cls names, vx_ot w = true)
    (hU : vx_Zq Bundle.tN "UNASSIGNED_STACK" Bundle.steD A s s.heap) (hN : vx_Zq Bundle.tN "SUPPRESSED_SENTINEL" Bundle.listD A s s.heap) (hS : va_S A s.heap H locs) (hsize : ls.size = c.maxLocals)
    (d0 : decode cc pc = .ok (.new ik, 3)) (d3 : decode cc (pc + 3) = .ok (.dup, 1)) (d4 : decode cc (pc + 4) = .ok (.ldc_w is, 3)) (d7 : decode cc (pc + 7) = .ok (.invokespecial ic, 3)) (d10 : decode cc (pc + 10) = .ok (.athrow, 1))
    (hout : ∀ x ∈ c.exceptionTable.toList, covers x (pc + 10) = false)
    (hRframes : names.length + 3 < R.frames) (hRlocals : (rest.map fun v => v.category).sum + (13 * (names.length + 1) + 43) ≤ R.locals) (hRcells : cells + 1 ≤ R.cells) (hRslots : slots + 6 ≤ R.slots) (hlocks : meth.locks = false)
    (hx : ∀ t : State, s.vm.Alike t.vm → H.size ≤ t.heap.size → (∀ q : Nat, q < H.size → t.heap[q]? = H[q]?) → XC cls s t)
    (hf : ∀ z ∈ locs, free z.base) (hc : cells + 1 ≤ mc) (hs : slots + 6 ≤ ms) :
    W p l e R s m args below meth c H locs cells slots (vx_MQ below Qc XC args s mc ms free) (F0 m pc ls rest) := by
  intro T hT X
  have htr : e.platform.stackTraces = false := (show e.platform.stackTraces = l.stackTraces by rw [X.admits.platform]).trans hl
  have Y := vx_rebase X (R' := { frames := R.frames, locals := R.locals, cells := 1, slots := 6 }) (Nat.le_refl _) (Nat.le_refl _) hRcells hRslots
  obtain ⟨s', hA⟩ : ∃ z, z = (T.setVm s.vm).setFrames (.invoking m args :: below) := ⟨_, rfl⟩
  rw [← hA] at Y
  have hvm : s'.vm = s.vm := by rw [hA]; rfl
  have hhp : s'.heap = H := by rw [hA]; exact hT
  have hW0 : s.WarmedH s'.vm := by rw [hvm]; exact State.WarmedH.refl s
  have hat' : ∀ w ∈ vx_atS own ic cls names, w.before args s' = true := fun w hw => vx_ot_at hW0 hvm.symm (hgood w (List.mem_cons_of_mem _ (List.mem_cons_of_mem _ hw))) (hat w hw)
  have hk' : (Cond.classLink own ik cls).before args s' = true := vx_ot_at hW0 hvm.symm (hgood _ List.mem_cons_self) hk
  have hini' : (Cond.initialized cls).before args s' = true := vx_ot_at hW0 hvm.symm (hgood _ (List.mem_cons_of_mem _ List.mem_cons_self)) hini
  have hU' : vx_Zq Bundle.tN "UNASSIGNED_STACK" Bundle.steD A s' s'.heap := by rw [hhp]; exact vx_Zq.moved hW0.alike (hU.kept hS.2.1)
  have hN' : vx_Zq Bundle.tN "SUPPRESSED_SENTINEL" Bundle.listD A s' s'.heap := by rw [hhp]; exact vx_Zq.moved hW0.alike (hN.kept hS.2.1)
  have h : ∀ w ∈ Bundle.ownAtoms own ic cls names, w.before args s' = true := vx_own hat' (vx_isRefq hU'.1) (vx_isRefq hN'.1) hU'.2.word hN'.2.word
  have hown' : s'.vm.findClass own = some m.cls := by rw [hvm]; exact hown
  have hins : (Cond.instantiable cls 6).before args s' = true := h _ (by simp [Bundle.ownAtoms])
  obtain ⟨vm₁, cX, kX, hfX, hkX, -, -, X₁, st1⟩ := Y.newCold hexec (own := own) (C := cls) (index := ik) (n := 6) hown' hk' hins hini'
    (g := F0 m pc ls rest) rfl (by rw [hb]; exact d0) (Nat.le_refl _) (Nat.le_refl _)
  generalize hT1 : (T.setVm vm₁).pushCell { cls := cX, slots := kX.instanceTypes.map defaultValue, vm := .none } = T1 at X₁ st1
  have hcat : (Value.ref T.heap.size).category = 1 := rfl
  have hcellA : T1.heap[T.heap.size]? = some (freshCell cX kX) := by rw [← hT1]; exact State.heap_pushCell_size _ _
  have d3' : decode c.code (pc + 3) = .ok (.dup, 1) := by rw [hb]; exact d3
  have d4' : decode c.code (pc + 4) = .ok (.ldc_w is, 3) := by rw [hb]; exact d4
  have hstr' : vk_R own is text sa s' := vk_R.warm hW0 hstr
  obtain ⟨U, hsteps, hrun, hend, hW, hsame, ce, hce, hO⟩ := X₁.ctorThrowS hexec htr (own := own) (cls := cls) (names := names) (ic := ic) hown' hcls hnames h (fun x hx => nomatch hx) hfX hkX hcellA (by rw [hhp, hT]; exact Nat.le_refl _) (msg := .ref sa) rfl
    (g := { method := m, pc := pc + 7, locals := ls, stack := .ref sa :: .ref T.heap.size :: .ref T.heap.size :: rest, locked := none }) rfl hsize rfl rfl (rest := rest) rfl
    (by rw [hb]; exact d7) (by rw [hb]; exact d10) hout hRframes (by simp only [List.map_cons, List.sum_cons, hcat]; omega) hlocks
  obtain ⟨f1, f2⟩ := vx_frame hsame
  rw [hhp] at f1 f2
  have hWs : s.WarmedH U.vm := State.WarmedH.trans hW0 hW
  have hcl : s.vm.findClass cls = some ce.cls := by
    have h9 := hO.cls
    rw [hvm] at h9
    exact h9
  have hall : s.sameButNew ({ U with vm := s.vm } : State) locs mc ms := by
    subst hA
    obtain ⟨e1, e2⟩ := hsame
    rw [State.setFrames_setFrames] at e1
    have h2 : (T.setVm s.vm).sameButNew ({ U with vm := s.vm } : State) [] (0 + 1) (0 + 6) := ⟨e1, e2⟩
    have h3 := X.same.trans h2
    rw [List.append_nil] at h3
    exact h3.mono hc hs
  refine ⟨U, ?_, .threw T.heap.size, hrun, hend, Or.inr ⟨T.heap.size, rfl, cls, ce, locs, hx U hWs.alike f1 (fun q hq => f2 q hq (fun z hz => nomatch hz)), hce, hO.vm, hcl, hWs, hall, hf⟩⟩
  refine st1 _ ?_
  show Steps p.tables e below (T1.setTop { method := m, pc := pc + 3, locals := ls, stack := .ref T.heap.size :: rest, locked := none }) _
  jvm_step X₁.here [X₁.here.top, hexec, d3', Value.category]
  exact X₁.ldcStringW hexec (own := own) (text := text) (index := is) (a := sa) hown' hstr'.1 hstr'.2
    (g := { method := m, pc := pc + 4, locals := ls, stack := .ref T.heap.size :: .ref T.heap.size :: rest, locked := none }) rfl d4' _ hsteps
end Ends
section Bodies
variable {l : Launch}
theorem vx_ofW {y : MethodName} {ws ws' : List Cond} {rm : Room} {Pc : Array Value → State → Prop} {Qc : Array Value → State → Outcome → State → Prop} {XC : String → State → State → Prop} {mc ms : Nat} {free : Addr → Prop} {cc : ByteArray} {maxL : Nat} {ret : Option FieldType}
    (hy : plainName y.cls = true) (hw : ws = Cond.code y cc maxL ret :: ws')
    (body : ∀ p e s m args below meth c s₁, BodyLoose p l y (headSpec ws rm) cc maxL ret e s m args below meth c s₁ → c.maxLocals = maxL → (∀ x ∈ c.exceptionTable.toList, False) → Pc args s →
      W p l e (headSpec ws rm).room s m args below meth c s.heap [] 0 0 (vx_MQ below Qc XC args s mc ms free) (entryFrame m args maxL)) : vx_Met l y ws rm Pc Qc XC mc ms free := by
  refine MetFree.of_bodyS (code := cc) (maxLocals := maxL) (ret := ret) hy ?_ ?_
  · intro args s m h hn
    obtain ⟨meth, c, h1, h2, h3, h4, h5, h6, -, -⟩ := Cond.code_spec hn (atoms_spec (ws := ws) h _ (by rw [hw]; exact List.mem_cons_self))
    exact ⟨meth, c, h1, h2, h3, h4, h5, h6⟩
  · intro p e s m args below meth c s₁ B hml hP _
    have hh0 : s₁.heap = s.heap := by rw [B.state]; rfl
    have ht : ∀ x ∈ c.exceptionTable.toList, False := by
      obtain ⟨meth9, c9, h1, h2, -, -, -, -, h7, -⟩ := Cond.code_spec B.named (atoms_spec (ws := ws) B.pre _ (by rw [hw]; exact List.mem_cons_self))
      cases Option.some.inj (h1.symm.trans B.method)
      cases Option.some.inj (h2.symm.trans (Stand.of_body B).code)
      intro x hx
      rw [Array.isEmpty_iff.mp h7] at hx
      cases hx
    obtain ⟨t, a1, o, b1, b2, b3⟩ := body p e s m args below meth c s₁ B hml ht hP s₁ hh0 (Stand.of_body B)
    exact ⟨t, o, a1, b1, b2, b3⟩
/-- the table of a body with handlers -/
theorem vx_table {p : Program} {x y : MethodName} {S : Spec} {cc bytes : ByteArray} {maxL maxL' : Nat} {ret ret' : Option FieldType} {e : Env} {s s₁ : State} {m : MethodId} {args : Array Value} {below : List Frame} {meth : Method} {c : Code} {hh : List (Nat × Nat × Nat × Nat)}
    (B : BodyLoose p l y S cc maxL ret e s m args below meth c s₁) (h : (Cond.codeWith y bytes maxL' ret' hh).before args s = true) : c.exceptionTable.toList = tableOf hh := by
  obtain ⟨m9, meth9, c9, hn9, h1, h2, -, -, h6, -⟩ := Cond.codeWith_spec h
  cases Option.some.inj (hn9.symm.trans B.named)
  cases Option.some.inj (h1.symm.trans B.method)
  cases Option.some.inj (h2.symm.trans (Stand.of_body B).code)
  rw [← h6, table_eq]
end Bodies
end VXA
/-! ===== END ===== -/
/-! ===== BEGIN a static call of a method with an exception table ===== -/
section VXS
variable {p : Program} {l : Launch} {e : Env} {R : Room} {s : State} {m : MethodId} {args : Array Value} {below : List Frame} {meth : Method} {c : Code} {T : State} {H : Heap} {locs : List Loc} {cells slots : Nat}
abbrev vx_CSW (R : Room) (s : State) (args : Array Value) (own : String) (index : Nat) (y : MethodName) (bytes : ByteArray) (maxL : Nat) (ret : Option FieldType) (hh : List (Nat × Nat × Nat × Nat)) (ws : List Cond) (rm : Room) (mc ms n : Nat) : Prop :=
  (rm.cells = mc ∧ rm.slots = ms ∧ rm.frames + 1 ≤ R.frames ∧ 8 + (maxL + 11) + rm.locals ≤ R.locals ∧ (∀ w ∈ ws, ∀ (a' : Array Value) (U : State), s.WarmedH U.vm → w.before a' U = true) ∧ Cond.codeWith y bytes maxL ret hh ∈ ws) ∧
  (Cond.codeWith y bytes maxL ret hh).before args s = true ∧ (Cond.initialized y.cls).before args s = true ∧ (y.cls ≠ "java/lang/invoke/MethodHandle" ∧ y.cls ≠ "java/lang/invoke/VarHandle") ∧
  (∀ sig, parseMethodDescriptor y.desc = some sig → n = sig.parameters.length) ∧ (Cond.methodLink own index y).before args s = true ∧ (Cond.static y).before args s = true
theorem vx_cwSW {own : String} {index maxL mc ms : Nat} {y : MethodName} {bytes : ByteArray} {ret : Option FieldType} {hh : List (Nat × Nat × Nat × Nat)} {Ts ws ws' : List Cond} {rm : Room} (n : Nat) (ht : ∀ w ∈ Ts, w.before args s = true) (hT : GoodIn Ts (va_wsS own index y ws)) (hw : ws = Cond.codeWith y bytes maxL ret hh :: ws') (hrc : rm.cells = mc) (hrs : rm.slots = ms)
    (hd : y.cls ≠ "java/lang/invoke/MethodHandle" ∧ y.cls ≠ "java/lang/invoke/VarHandle" ∧ (parseMethodDescriptor y.desc).map (fun d => d.parameters.length) = some n) (hR : rm.frames + 1 ≤ R.frames ∧ 8 + (maxL + 11) + rm.locals ≤ R.locals) :
    vx_CSW R s args own index y bytes maxL ret hh ws rm mc ms n := by
  have ok : ∀ w ∈ va_wsS own index y ws, w.before args s = true := fun w h => ht w (hT w h).1
  have hG : GoodIn Ts ws := fun w h => hT w (by unfold va_wsS; exact List.mem_append_right _ h)
  have hc : Cond.codeWith y bytes maxL ret hh ∈ ws := by rw [hw]; exact List.mem_cons_self
  refine ⟨⟨hrc, hrs, hR.1, hR.2, pay_in ht hG, hc⟩, ht _ (hG _ hc).1, ok _ (by simp [va_wsS]), ⟨hd.1, hd.2.1⟩, fun sig h => ?_, ok _ (by simp [va_wsS]), ok _ (by simp [va_wsS])⟩
  have h2 := hd.2.2
  rw [h] at h2
  exact (Option.some.inj h2).symm
theorem vx_callSW (X : Stand p l e R s m args below meth c T locs cells slots) (hexec : p.tables.exec = Jvm.exec) {own : String} {index : Nat} {y : MethodName} {bytes : ByteArray} {maxL : Nat} {ret : Option FieldType} {hh : List (Nat × Nat × Nat × Nat)}
    (hown : s.vm.findClass own = some m.cls) (hlink : (Cond.methodLink own index y).before args s = true) (hstat : (Cond.static y).before args s = true) (hinit : (Cond.initialized y.cls).before args s = true)
    (hcode : (Cond.codeWith y bytes maxL ret hh).before args s = true) (hy : y.cls ≠ "java/lang/invoke/MethodHandle" ∧ y.cls ≠ "java/lang/invoke/VarHandle")
    {W9 : Nat} {Pre : Pt → Array Value → Prop} {Post : Pt → Array Value → Option Value → Pt → Prop} (hK : Back l R p e below s args y 3 W9 Pre Post)
    {g : JFrame} (hg : g.method = m) (hsize : g.locals.size = c.maxLocals) {argsL rest : List Value} (hlen : ∀ sig, parseMethodDescriptor y.desc = some sig → argsL.length = sig.parameters.length)
    (hstack : g.stack = argsL.reverse ++ rest) (hW : 2 * g.monitorRoom + (rest.map fun v => v.category).sum ≤ W9) (hdg : decode c.code g.pc = .ok (.invokestatic index, 3))
    (hpre : ∀ vm₁, s.WarmedH vm₁ → Pre ⟨T.setVm vm₁, locs, cells, slots⟩ argsL.toArray) :
    ∃ (v : Option Value) (vm₁ : Vm) (B : Pt), s.WarmedH vm₁ ∧ Stand p l e R s m args below meth c B.U B.locs B.cells B.slots ∧ Post ⟨T.setVm vm₁, locs, cells, slots⟩ argsL.toArray v B ∧
      ∀ target, Steps p.tables e below (B.U.setTop { g with pc := g.pc + 3, stack := v.toList ++ rest }) target → Steps p.tables e below (T.setTop g) target := by
  obtain ⟨mk, methM, cM, hnamed, hmethM, -, -, -, -, -, -, hsigM⟩ := Cond.codeWith_spec hcode
  have hstatic : methM.isStatic = true := Cond.static_spec hnamed hmethM hstat
  obtain ⟨kP, hkP, -⟩ := className_of_methodNamed hnamed
  have hinitP : kP.init = .initialized := Cond.initialized_spec (findClass_of_methodNamed hnamed) hkP hinit
  obtain ⟨vm₁, X₁, hstep₁⟩ := X.invokestatic hexec hown hlink hnamed hmethM hstatic hkP hinitP hy (g := g) hg (argsL := argsL) (rest := rest) (hlen _ hsigM) hstack hdg
  obtain ⟨v, B, X', hpost, hsteps⟩ := hK m meth c ⟨T.setVm vm₁, locs, cells, slots⟩ { g with stack := rest } (.invokestatic index) mk argsL.toArray X₁ hg hsize hdg hW (X₁.named hnamed) (hpre vm₁ X₁.warmed)
  exact ⟨v, vm₁, B, X₁.warmed, X', hpost, fun target h => hstep₁ _ fun acts => by rw [doInvoke_state]; exact hsteps.trans h⟩
theorem vx_runSW {y : MethodName} {bytes cc : ByteArray} {maxL nL mc ms n index : Nat} {ret : Option FieldType} {hh : List (Nat × Nat × Nat × Nat)} {ws : List Cond} {rm : Room} {Pc : Array Value → State → Prop} {Qc : Array Value → State → Outcome → State → Prop} {free : Addr → Prop} {Ts : List Cond} {own : String} {As rest : List Value} {g : JFrame}
    (S : CallFix p m c cc nL s args Ts own) (hM : Met l y ws rm Pc Qc mc ms free) (cw : vx_CSW R s args own index y bytes maxL ret hh ws rm mc ms n) (hp : PreS s H Pc As)
    (hg : g.method = m) (hn : As.length = n) (hsize : g.locals.size = nL) (hstack : g.stack = As.reverse ++ rest) (hW : 2 * g.monitorRoom + (rest.map fun v => v.category).sum ≤ 8) (hdg : decode cc g.pc = .ok (.invokestatic index, 3)) (hf : cells + mc ≤ R.cells ∧ slots + ms ≤ R.slots) :
    va_Run p l e R s m args below meth c H locs cells slots mc ms g rest (Qc As.toArray) (free) := by
  obtain ⟨⟨hrc, hrs, hfr, hlo, hws, hcw⟩, hcode, hini, hy, hlen, hl, hstt⟩ := cw
  have hK : Back l R p e below s args y 3 8 (PreOf R mc ms Pc) (PostOf Qc mc ms free) := va_backW (hh := hh) (bytes := bytes) (maxL := maxL) (ret := ret) hM hp.1 hrc hrs hfr hlo hws hcw (fun a' U hW => word_at hW (Or.inl (by first | rfl | simp [Cond.onTables, Cond.keeps, Cond.steady])) hini)
  obtain ⟨hx, hb, hml, ho, -⟩ := S
  intro T hT X
  obtain ⟨v, vm₁, ⟨U', l2, c2, s2⟩, hW₁, X', ⟨g', mk, t, L, e1, e2, hq, h1, hL, h2, h3⟩, st⟩ := vx_callSW X hx (hh := hh) (bytes := bytes) (maxL := maxL) (ret := ret) ho hl hstt hini hcode hy hK hg (hsize.trans hml.symm) (argsL := As) (rest := rest) (fun sig h => hn.trans (hlen sig h)) hstack hW (by rw [hb]; exact hdg)
    (fun vm₁ hW₁ => ⟨hf.1, hf.2, hp.2 (T.setVm vm₁) hT hW₁⟩)
  dsimp only [Pt.U, Pt.locs, Pt.cells, Pt.slots] at X' e1 e2 h1 h2 h3 st
  subst h1; subst h2; subst h3
  exact ⟨v, (T.setVm vm₁).calling g' mk As.toArray, t, U', L, hT, X', hL, e1, e2, hq, st⟩
/-- not caught here, past rows that name other classes: it goes on to the caller -/
theorem vx_outP {p : Program} {l : Launch} {e : Env} {R : Room} {s : State} {m : MethodId} {args : Array Value} {below : List Frame} {meth : Method} {c : Code} {H : Heap} {locs : List Loc} {cells slots : Nat} {free : Addr → Prop} {ls : Array Slot} {rest : List Value} {Qc : Array Value → State → Outcome → State → Prop} {XC : String → State → State → Prop}
    {pc : Nat} {own E : String} {ce : Cell} {q : Addr} {mc ms : Nat} (hown : s.vm.findClass own = some m.cls) (hlocks : meth.locks = false)
    (hpass : ∀ z ∈ c.exceptionTable.toList, covers z pc = false ∨ (z.catchType ≠ 0 ∧ ∃ nm : String, (Cond.classLink own z.catchType nm).before args s = true ∧ va_Nc E nm s)) (hcell : H[q]? = some ce) (hv : ce.vm = .none) (hcl : s.vm.findClass E = some ce.cls)
    (hx : ∀ t : State, t.heap = H → s.vm.Alike t.vm → XC E s t) (hf : ∀ z ∈ locs, free z.base) (hc : cells ≤ mc) (hs : slots ≤ ms) :
    vx_W p l e R s m args below meth c H locs cells slots (vx_MQ below Qc XC args s mc ms free) (F0 m pc ls rest) q := by
  intro T hT X
  have hpl : e.platform.magicAccessors = ({} : Platform).magicAccessors := by rw [X.admits.platform]
  obtain ⟨vm', hW', X', st⟩ := X.outThrough hlocks q (g := F0 m pc ls rest) rfl rfl rfl (cell := ce) (by rw [hT]; exact hcell) (by rw [hv]; rfl)
    (by obtain ⟨k9, h9, -⟩ := Vm.findClass_spec hcl; exact ⟨k9, h9⟩) (fun z hz => by
      rcases hpass z hz with h | ⟨hz0, nm, hl1, hn1⟩
      · exact Or.inl h
      · obtain ⟨c6, hc6, hcl6⟩ := Cond.classLink_spec hown hl1 e.platform hpl
        obtain ⟨a8, b8, h1, h2, h3⟩ := hn1
        cases Option.some.inj (h1.symm.trans hcl)
        cases Option.some.inj (h2.symm.trans hc6)
        exact Or.inr ⟨hz0, _, hcl6, h3⟩)
  obtain ⟨g₀, hfr⟩ := X'.frames_eq
  have hcell9 : ((T.setVm vm').setFrames (.throwing q :: below)).heap[q]? = some ce := by
    show T.heap[q]? = some ce
    rw [hT]; exact hcell
  have hend : Ended ((T.setVm vm').setFrames (.throwing q :: below)) below (.threw q) := State.frames_setFrames _ (State.cur_lt_of_frames hfr)
  refine ⟨(T.setVm vm').setFrames (.throwing q :: below), ?_, .threw q, X'.here.running, hend, Or.inr ⟨q, rfl, E, ce, locs, hx _ hT (X'.ends _).1.alike, hcell9, hv, hcl, (X'.ends _).1, (X'.ends _).2.mono hc hs, hf⟩⟩
  rw [X.pushThrowing_eq]
  exact st
/-- a thing of a world lies in the heap -/
theorem vx_lt {D : va_G} {cl : List vw_C} {ws : va_W} {H1 : Heap} (h : va_P D cl ws H1) {k : Nat} {q : Nat × va_E} (hk : ws[k]? = some q) : q.1 < H1.size := (h k q hk).lt
end VXS
/-! ===== END ===== -/
/-! ===== BEGIN methods with a table of their own: called by a name, returning or throwing ===== -/
section VXH
/-! vx_backW, vx_callVX, vx_callSX, vx_callVW, vx_runVW, vx_runVX, vx_runSX, vx_ofWH follow the same proofs as their sisters above (Free/Laws.lean, Shelf42/LK1.lean); vx_outP calls Shelf42/NT130.lean (outThrough). -/
section
variable {l : Launch} {R : Room} {p : Program} {e : Env} {below : List Frame} {s : State} {sargs : Array Value} {y : MethodName} {len W9 : Nat}
theorem vx_backW {ws : List Cond} {rm : Room} {Pc : Array Value → State → Prop} {Qc : Array Value → State → Outcome → State → Prop} {XC : String → State → State → Prop} {mc ms : Nat} {free : Addr → Prop} {bytes : ByteArray} {maxL : Nat} {ret : Option FieldType} {hh : List (Nat × Nat × Nat × Nat)}
    (hM : vx_Met l y ws rm Pc Qc XC mc ms free) (hblind : FrameBlind Pc) (hrc : rm.cells = mc) (hrs : rm.slots = ms)
    (hframes : rm.frames + 1 ≤ R.frames) (hlocals : W9 + (maxL + 11) + rm.locals ≤ R.locals)
    (hws : ∀ w ∈ ws, ∀ a' U, s.WarmedH U.vm → w.before a' U = true) (hcode : Cond.codeWith y bytes maxL ret hh ∈ ws) (hinit : ∀ a' U, s.WarmedH U.vm → (Cond.initialized y.cls).before a' U = true) :
    vx_Back l R p e below s sargs y len W9 (PreOf R mc ms Pc) (PostOf Qc mc ms free) (vx_Post XC mc ms free) := by
  intro m meth c A g ig mk a X hg hsize hdg hW hn hp
  have h1 : (headSpec ws rm).pre.before a A.U = true := atoms_intro fun w hw => hws w hw _ _ X.warmed
  have h2 : (Cond.codeWith y bytes maxL ret hh).before a A.U = true := hws _ hcode _ _ X.warmed
  have h3 : (Cond.initialized y.cls).before a A.U = true := hinit _ _ X.warmed
  have h4 : A.cells + (headSpec ws rm).room.cells ≤ R.cells := by rw [show (headSpec ws rm).room.cells = mc from hrc]; exact hp.1
  have h5 : A.slots + (headSpec ws rm).room.slots ≤ R.slots := by rw [show (headSpec ws rm).room.slots = ms from hrs]; exact hp.2.1
  have hPc : Pc a (A.U.calling g mk a) := hblind _ _ _ _ hp.2.2
  obtain ⟨U, Ls, c0, s0⟩ := A
  dsimp only [Pt.U, Pt.locs, Pt.cells, Pt.slots] at h1 h2 h3 h4 h5 X hn hPc ⊢
  obtain ⟨m9, methY, cY, hn9, hmY, hcY, -, hlY, -⟩ := Cond.codeWith_spec h2
  cases Option.some.inj (hn9.symm.trans hn)
  obtain ⟨kY, hkY, -⟩ := className_of_methodNamed hn
  have hinitY : kY.init = .initialized := Cond.initialized_spec (findClass_of_methodNamed hn) hkY h3
  have h : At U g.method c below := by rw [hg]; exact X.here
  have hlocals9 : W9 + (maxL + 11) + (headSpec ws rm).room.locals ≤ R.locals := hlocals
  have happ : (headSpec ws rm).appliesLoose y e.platform (U.calling g mk a) = true :=
    Spec.appliesLoose_calling (g := g) h hdg hn hkY hinitY
      (X.room_calling (g := g) (R' := (headSpec ws rm).room) hsize hmY hcY hframes (by rw [hlY]; omega) h4 h5) h1
  obtain ⟨mid, hmid⟩ := h.above
  have hfr : (U.setTop g).frames = (.java g :: mid) ++ below := by rw [State.frames_setTop' g h.top, hmid]; rfl
  obtain ⟨o, s₂, hsteps, -, hend, hq⟩ := Steps.callFree hM p X.admits X.cas X.clock (acts := []) hfr happ hPc trivial
  have hq' : vx_Q Qc XC mc ms free a (U.calling g mk a) o s₂ := hq
  rw [State.frames_setTop' g h.top] at hend
  obtain ⟨g₀, hg0⟩ := Option.isSome_iff_exists.mp h.top
  obtain ⟨r, hr⟩ := State.topJava?_eq_some.mp hg0
  have hr' : (({ U with heap := s₂.heap, slotsUsed := s₂.slotsUsed } : State).setVm s₂.vm).frames = .java g₀ :: r := hr
  rcases hq' with ⟨hqc, L, hfe, hL⟩ | ⟨q, rfl, E, ce, L, hx, hce, hcv, hcl, hW₂, hsm, hL⟩
  · obtain ⟨⟨v, rfl⟩, hW₂, e2, q2, q3, q4, q5, q6⟩ := id hfe
    have e3 : s₂ = ({ (U.calling g mk a).setFrames s₂.frames with heap := s₂.heap, slotsUsed := s₂.slotsUsed } : State).setVm s₂.vm := by
      have : s₂ = ({ s₂ with vm := (U.calling g mk a).vm } : State).setVm s₂.vm := rfl
      rw [e2] at this
      exact this
    obtain ⟨c₂, i₂, len₂, hc₂, hd₂, hf₂⟩ := hend
    have hW' : U.WarmedH s₂.vm := hW₂
    have hcc : c₂ = c := by
      have h1 : s₂.code? g.method = U.code? g.method := by
        rw [State.code?_eq, State.code?_eq, hW'.alike.method?]
      exact Option.some.inj (hc₂.symm.trans (h1.trans h.code))
    subst hcc
    have hlen : len₂ = len := by rw [hdg] at hd₂; cases hd₂; rfl
    subst hlen
    have hs₂ : s₂ = (({ U with heap := s₂.heap, slotsUsed := s₂.slotsUsed } : State).setVm s₂.vm).setTop { g with pc := g.pc + len₂, stack := v.toList ++ g.stack } := by
      refine e3.trans ?_
      rw [hf₂, State.calling_eq h.top, State.setFrames_setFrames, State.setTop_of_frames _ hr', hr]
      rfl
    have hsame : U.sameButNew ({ U with heap := s₂.heap, slotsUsed := s₂.slotsUsed } : State) L mc ms := by
      refine ⟨?_, q2, q3, q4, q5, q6⟩
      obtain ⟨t, ht, -⟩ := State.frames_cons hr
      show ({ U with heap := s₂.heap, slotsUsed := s₂.slotsUsed } : State) = { U.setFrames U.frames with heap := s₂.heap, slotsUsed := s₂.slotsUsed }
      rw [State.setFrames_self ht]
    subst hg
    refine Or.inl ⟨v, ⟨(({ U with heap := s₂.heap, slotsUsed := s₂.slotsUsed } : State).setVm s₂.vm), Ls ++ L, c0 + mc, s0 + ms⟩,
      ⟨X.admits, X.cas, X.clock, X.frames, X.room, X.hears, X.method, X.code, (X.here.setHeapUsed s₂.heap s₂.slotsUsed).setVm hW'.alike, X.tail, State.WarmedH.trans X.warmed hW', X.limits, X.bytes, X.same.trans (hsame.setVm s.vm)⟩,
      ⟨g, mk, s₂, L, rfl, rfl, hqc, rfl, hL, rfl, rfl⟩, ?_⟩
    show Steps p.tables e below _ ((({ U with heap := s₂.heap, slotsUsed := s₂.slotsUsed } : State).setVm s₂.vm).setTop { g with pc := g.pc + len₂, stack := v.toList ++ g.stack })
    rw [← hs₂]
    exact hsteps
  · obtain ⟨e2, q2, q3, q4, q5, q6⟩ := id hsm
    have e3 : s₂ = ({ (U.calling g mk a).setFrames s₂.frames with heap := s₂.heap, slotsUsed := s₂.slotsUsed } : State).setVm s₂.vm := by
      have : s₂ = ({ s₂ with vm := (U.calling g mk a).vm } : State).setVm s₂.vm := rfl
      rw [e2] at this
      exact this
    have hf₂ : s₂.frames = .throwing q :: .java g :: U.frames.tail := hend
    have hW' : U.WarmedH s₂.vm := hW₂
    have hs₂ : s₂ = ((({ U with heap := s₂.heap, slotsUsed := s₂.slotsUsed } : State).setVm s₂.vm).setTop g).pushFrame (.throwing q) := by
      refine e3.trans ?_
      rw [hf₂, State.calling_eq h.top, State.setFrames_setFrames, State.pushFrame, State.frames_setTop _ hr', State.setTop_of_frames _ hr', State.setFrames_setFrames, hr]
      rfl
    have hsame : U.sameButNew ({ U with heap := s₂.heap, slotsUsed := s₂.slotsUsed } : State) L mc ms := by
      refine ⟨?_, q2, q3, q4, q5, q6⟩
      obtain ⟨t, ht, -⟩ := State.frames_cons hr
      show ({ U with heap := s₂.heap, slotsUsed := s₂.slotsUsed } : State) = { U.setFrames U.frames with heap := s₂.heap, slotsUsed := s₂.slotsUsed }
      rw [State.setFrames_self ht]
    subst hg
    refine Or.inr ⟨q, ⟨(({ U with heap := s₂.heap, slotsUsed := s₂.slotsUsed } : State).setVm s₂.vm), Ls ++ L, c0 + mc, s0 + ms⟩,
      ⟨X.admits, X.cas, X.clock, X.frames, X.room, X.hears, X.method, X.code, (X.here.setHeapUsed s₂.heap s₂.slotsUsed).setVm hW'.alike, X.tail, State.WarmedH.trans X.warmed hW', X.limits, X.bytes, X.same.trans (hsame.setVm s.vm)⟩,
      ⟨g, mk, s₂, L, E, ce, rfl, rfl, hx, hce, hcv, hcl, rfl, hL, rfl, rfl⟩, ?_⟩
    show Steps p.tables e below _ (((({ U with heap := s₂.heap, slotsUsed := s₂.slotsUsed } : State).setVm s₂.vm).setTop g).pushFrame (.throwing q))
    rw [← hs₂]
    exact hsteps
end
variable {p : Program} {l : Launch} {e : Env} {R : Room} {s : State} {m : MethodId} {args : Array Value} {below : List Frame} {meth : Method} {c : Code} {T : State} {H : Heap} {locs : List Loc} {cells slots : Nat}
theorem vx_callVX (X : Stand p l e R s m args below meth c T locs cells slots) (hexec : p.tables.exec = Jvm.exec) {own C : String} {index : Nat} {y : MethodName} {bytes : ByteArray} {maxL : Nat} {ret : Option FieldType} {hh : List (Nat × Nat × Nat × Nat)}
    (hown : s.vm.findClass own = some m.cls) (hlink : (Cond.methodLink own index y).before args s = true) (hinst : (Cond.instanceMethod y).before args s = true) (hsel : (Cond.selects C y y).before args s = true)
    (hcode : (Cond.codeWith y bytes maxL ret hh).before args s = true) (hy : y.cls ≠ "java/lang/invoke/MethodHandle" ∧ y.cls ≠ "java/lang/invoke/VarHandle")
    {W9 : Nat} {Pre : Pt → Array Value → Prop} {Post : Pt → Array Value → Option Value → Pt → Prop} {PostX : Pt → Array Value → Addr → Pt → Prop} (hK : vx_Back l R p e below s args y 3 W9 Pre Post PostX)
    {b : Addr} {cellB : Cell} (hcell : T.heap[b]? = some cellB) (hobj : cellB.vm.isStatics = false) (hcls : s.vm.findClass C = some cellB.cls)
    {g : JFrame} (hg : g.method = m) (hsize : g.locals.size = c.maxLocals) {argsL rest : List Value} (hlen : ∀ sig, parseMethodDescriptor y.desc = some sig → argsL.length = sig.parameters.length)
    (hstack : g.stack = argsL.reverse ++ .ref b :: rest) (hW : 2 * g.monitorRoom + (rest.map fun v => v.category).sum ≤ W9) (hdg : decode c.code g.pc = .ok (.invokevirtual index, 3))
    (hpre : ∀ vm₁, s.WarmedH vm₁ → Pre ⟨T.setVm vm₁, locs, cells, slots⟩ (Value.ref b :: argsL).toArray) :
    (∃ (v : Option Value) (vm₁ : Vm) (B : Pt), s.WarmedH vm₁ ∧ Stand p l e R s m args below meth c B.U B.locs B.cells B.slots ∧ Post ⟨T.setVm vm₁, locs, cells, slots⟩ (Value.ref b :: argsL).toArray v B ∧
      ∀ target, Steps p.tables e below (B.U.setTop { g with pc := g.pc + 3, stack := v.toList ++ rest }) target → Steps p.tables e below (T.setTop g) target) ∨
    (∃ (q : Addr) (vm₁ : Vm) (B : Pt), s.WarmedH vm₁ ∧ Stand p l e R s m args below meth c B.U B.locs B.cells B.slots ∧ PostX ⟨T.setVm vm₁, locs, cells, slots⟩ (Value.ref b :: argsL).toArray q B ∧
      Steps p.tables e below (T.setTop g) ((B.U.setTop { g with stack := rest }).pushFrame (.throwing q))) := by
  obtain ⟨mk, methM, hnamed, hmethM, hstM, habM⟩ := Cond.instanceMethod_spec hinst
  obtain ⟨m8, methM', cM, hn8, hmethM', -, -, -, -, -, -, hsigM⟩ := Cond.codeWith_spec hcode
  cases Option.some.inj (hn8.symm.trans hnamed)
  cases hmethM.symm.trans hmethM'
  obtain ⟨c2, r2, m2, q1, q2, q3, q4, kP, hkP, hkPi⟩ := Cond.selects_spec hsel
  cases hcls.symm.trans q1
  cases (State.methodFound?_of_named hnamed hy).symm.trans q2
  cases hnamed.symm.trans q3
  have hselP : selectMethod e.platform s.vm cellB.cls mk = .method mk := by rw [Launch.admits_selectMethod X.admits]; exact q4
  obtain ⟨vm₁, X₁, hstep₁⟩ := X.invokevirtual hexec hown hlink hnamed hmethM hstM hkP hkPi hy (a := b) (cell := cellB) hcell
    (fun z h => by rw [h] at hobj; cases hobj) hselP hmethM habM hkP hkPi (g := g) hg (argsL := argsL) (rest := rest) (hlen _ hsigM) hstack hdg
  rcases hK m meth c ⟨T.setVm vm₁, locs, cells, slots⟩ { g with stack := rest } (.invokevirtual index) mk (Value.ref b :: argsL).toArray X₁ hg hsize hdg hW (X₁.named hnamed) (hpre vm₁ X₁.warmed) with ⟨v, B, X', hpost, hsteps⟩ | ⟨q, B, X', hpost, hsteps⟩
  · exact Or.inl ⟨v, vm₁, B, X₁.warmed, X', hpost, fun target h => hstep₁ _ fun acts => by rw [doInvoke_state]; exact hsteps.trans h⟩
  · exact Or.inr ⟨q, vm₁, B, X₁.warmed, X', hpost, hstep₁ _ fun acts => by rw [doInvoke_state]; exact hsteps⟩
theorem vx_callSX (X : Stand p l e R s m args below meth c T locs cells slots) (hexec : p.tables.exec = Jvm.exec) {own : String} {index : Nat} {y : MethodName} {bytes : ByteArray} {maxL : Nat} {ret : Option FieldType} {hh : List (Nat × Nat × Nat × Nat)}
    (hown : s.vm.findClass own = some m.cls) (hlink : (Cond.methodLink own index y).before args s = true) (hstat : (Cond.static y).before args s = true) (hinit : (Cond.initialized y.cls).before args s = true)
    (hcode : (Cond.codeWith y bytes maxL ret hh).before args s = true) (hy : y.cls ≠ "java/lang/invoke/MethodHandle" ∧ y.cls ≠ "java/lang/invoke/VarHandle")
    {W9 : Nat} {Pre : Pt → Array Value → Prop} {Post : Pt → Array Value → Option Value → Pt → Prop} {PostX : Pt → Array Value → Addr → Pt → Prop} (hK : vx_Back l R p e below s args y 3 W9 Pre Post PostX)
    {g : JFrame} (hg : g.method = m) (hsize : g.locals.size = c.maxLocals) {argsL rest : List Value} (hlen : ∀ sig, parseMethodDescriptor y.desc = some sig → argsL.length = sig.parameters.length)
    (hstack : g.stack = argsL.reverse ++ rest) (hW : 2 * g.monitorRoom + (rest.map fun v => v.category).sum ≤ W9) (hdg : decode c.code g.pc = .ok (.invokestatic index, 3))
    (hpre : ∀ vm₁, s.WarmedH vm₁ → Pre ⟨T.setVm vm₁, locs, cells, slots⟩ argsL.toArray) :
    (∃ (v : Option Value) (vm₁ : Vm) (B : Pt), s.WarmedH vm₁ ∧ Stand p l e R s m args below meth c B.U B.locs B.cells B.slots ∧ Post ⟨T.setVm vm₁, locs, cells, slots⟩ argsL.toArray v B ∧
      ∀ target, Steps p.tables e below (B.U.setTop { g with pc := g.pc + 3, stack := v.toList ++ rest }) target → Steps p.tables e below (T.setTop g) target) ∨
    (∃ (q : Addr) (vm₁ : Vm) (B : Pt), s.WarmedH vm₁ ∧ Stand p l e R s m args below meth c B.U B.locs B.cells B.slots ∧ PostX ⟨T.setVm vm₁, locs, cells, slots⟩ argsL.toArray q B ∧
      Steps p.tables e below (T.setTop g) ((B.U.setTop { g with stack := rest }).pushFrame (.throwing q))) := by
  obtain ⟨mk, methM, cM, hnamed, hmethM, -, -, -, -, -, -, hsigM⟩ := Cond.codeWith_spec hcode
  have hstatic : methM.isStatic = true := Cond.static_spec hnamed hmethM hstat
  obtain ⟨kP, hkP, -⟩ := className_of_methodNamed hnamed
  have hinitP : kP.init = .initialized := Cond.initialized_spec (findClass_of_methodNamed hnamed) hkP hinit
  obtain ⟨vm₁, X₁, hstep₁⟩ := X.invokestatic hexec hown hlink hnamed hmethM hstatic hkP hinitP hy (g := g) hg (argsL := argsL) (rest := rest) (hlen _ hsigM) hstack hdg
  rcases hK m meth c ⟨T.setVm vm₁, locs, cells, slots⟩ { g with stack := rest } (.invokestatic index) mk argsL.toArray X₁ hg hsize hdg hW (X₁.named hnamed) (hpre vm₁ X₁.warmed) with ⟨v, B, X', hpost, hsteps⟩ | ⟨q, B, X', hpost, hsteps⟩
  · exact Or.inl ⟨v, vm₁, B, X₁.warmed, X', hpost, fun target h => hstep₁ _ fun acts => by rw [doInvoke_state]; exact hsteps.trans h⟩
  · exact Or.inr ⟨q, vm₁, B, X₁.warmed, X', hpost, hstep₁ _ fun acts => by rw [doInvoke_state]; exact hsteps⟩
theorem vx_callVW (X : Stand p l e R s m args below meth c T locs cells slots) (hexec : p.tables.exec = Jvm.exec) {own C : String} {index : Nat} {y : MethodName} {bytes : ByteArray} {maxL : Nat} {ret : Option FieldType} {hh : List (Nat × Nat × Nat × Nat)}
    (hown : s.vm.findClass own = some m.cls) (hlink : (Cond.methodLink own index y).before args s = true) (hinst : (Cond.instanceMethod y).before args s = true) (hsel : (Cond.selects C y y).before args s = true)
    (hcode : (Cond.codeWith y bytes maxL ret hh).before args s = true) (hy : y.cls ≠ "java/lang/invoke/MethodHandle" ∧ y.cls ≠ "java/lang/invoke/VarHandle")
    {W9 : Nat} {Pre : Pt → Array Value → Prop} {Post : Pt → Array Value → Option Value → Pt → Prop} (hK : Back l R p e below s args y 3 W9 Pre Post)
    {b : Addr} {cellB : Cell} (hcell : T.heap[b]? = some cellB) (hobj : cellB.vm.isStatics = false) (hcls : s.vm.findClass C = some cellB.cls)
    {g : JFrame} (hg : g.method = m) (hsize : g.locals.size = c.maxLocals) {argsL rest : List Value} (hlen : ∀ sig, parseMethodDescriptor y.desc = some sig → argsL.length = sig.parameters.length)
    (hstack : g.stack = argsL.reverse ++ .ref b :: rest) (hW : 2 * g.monitorRoom + (rest.map fun v => v.category).sum ≤ W9) (hdg : decode c.code g.pc = .ok (.invokevirtual index, 3))
    (hpre : ∀ vm₁, s.WarmedH vm₁ → Pre ⟨T.setVm vm₁, locs, cells, slots⟩ (Value.ref b :: argsL).toArray) :
    ∃ (v : Option Value) (vm₁ : Vm) (B : Pt), s.WarmedH vm₁ ∧ Stand p l e R s m args below meth c B.U B.locs B.cells B.slots ∧ Post ⟨T.setVm vm₁, locs, cells, slots⟩ (Value.ref b :: argsL).toArray v B ∧
      ∀ target, Steps p.tables e below (B.U.setTop { g with pc := g.pc + 3, stack := v.toList ++ rest }) target → Steps p.tables e below (T.setTop g) target := by
  obtain ⟨mk, methM, hnamed, hmethM, hstM, habM⟩ := Cond.instanceMethod_spec hinst
  obtain ⟨m8, methM', cM, hn8, hmethM', -, -, -, -, -, -, hsigM⟩ := Cond.codeWith_spec hcode
  cases Option.some.inj (hn8.symm.trans hnamed)
  cases hmethM.symm.trans hmethM'
  obtain ⟨c2, r2, m2, q1, q2, q3, q4, kP, hkP, hkPi⟩ := Cond.selects_spec hsel
  cases hcls.symm.trans q1
  cases (State.methodFound?_of_named hnamed hy).symm.trans q2
  cases hnamed.symm.trans q3
  have hselP : selectMethod e.platform s.vm cellB.cls mk = .method mk := by rw [Launch.admits_selectMethod X.admits]; exact q4
  obtain ⟨vm₁, X₁, hstep₁⟩ := X.invokevirtual hexec hown hlink hnamed hmethM hstM hkP hkPi hy (a := b) (cell := cellB) hcell
    (fun z h => by rw [h] at hobj; cases hobj) hselP hmethM habM hkP hkPi (g := g) hg (argsL := argsL) (rest := rest) (hlen _ hsigM) hstack hdg
  obtain ⟨v, B, X', hpost, hsteps⟩ := hK m meth c ⟨T.setVm vm₁, locs, cells, slots⟩ { g with stack := rest } (.invokevirtual index) mk (Value.ref b :: argsL).toArray X₁ hg hsize hdg hW (X₁.named hnamed) (hpre vm₁ X₁.warmed)
  exact ⟨v, vm₁, B, X₁.warmed, X', hpost, fun target h => hstep₁ _ fun acts => by rw [doInvoke_state]; exact hsteps.trans h⟩
abbrev vx_CVW (R : Room) (s : State) (args : Array Value) (own C : String) (index : Nat) (y : MethodName) (bytes : ByteArray) (maxL : Nat) (ret : Option FieldType) (hh : List (Nat × Nat × Nat × Nat)) (ws : List Cond) (rm : Room) (mc ms n : Nat) : Prop :=
  (rm.cells = mc ∧ rm.slots = ms ∧ rm.frames + 1 ≤ R.frames ∧ 8 + (maxL + 11) + rm.locals ≤ R.locals ∧ (∀ w ∈ ws, ∀ (a' : Array Value) (U : State), s.WarmedH U.vm → w.before a' U = true) ∧ Cond.codeWith y bytes maxL ret hh ∈ ws) ∧
  (Cond.codeWith y bytes maxL ret hh).before args s = true ∧ (Cond.initialized y.cls).before args s = true ∧ (y.cls ≠ "java/lang/invoke/MethodHandle" ∧ y.cls ≠ "java/lang/invoke/VarHandle") ∧
  (∀ sig, parseMethodDescriptor y.desc = some sig → n = sig.parameters.length) ∧ (Cond.methodLink own index y).before args s = true ∧ (Cond.instanceMethod y).before args s = true ∧ (Cond.selects C y y).before args s = true
theorem vx_cwVW {own C : String} {index maxL mc ms : Nat} {y : MethodName} {bytes : ByteArray} {ret : Option FieldType} {hh : List (Nat × Nat × Nat × Nat)} {Ts ws ws' : List Cond} {rm : Room} (n : Nat) (ht : ∀ w ∈ Ts, w.before args s = true) (hT : GoodIn Ts (wsV own index C y ws)) (hw : ws = Cond.codeWith y bytes maxL ret hh :: ws') (hrc : rm.cells = mc) (hrs : rm.slots = ms)
    (hd : y.cls = C ∧ y.cls ≠ "java/lang/invoke/MethodHandle" ∧ y.cls ≠ "java/lang/invoke/VarHandle" ∧ (parseMethodDescriptor y.desc).map (fun d => d.parameters.length) = some n) (hR : rm.frames + 1 ≤ R.frames ∧ 8 + (maxL + 11) + rm.locals ≤ R.locals) :
    vx_CVW R s args own C index y bytes maxL ret hh ws rm mc ms n := by
  obtain ⟨hC, hd⟩ := hd
  subst hC
  have ok : ∀ w ∈ wsV own index y.cls y ws, w.before args s = true := fun w h => ht w (hT w h).1
  have hG : GoodIn Ts ws := fun w h => hT w (by unfold wsV; exact List.mem_append_right _ h)
  have hc : Cond.codeWith y bytes maxL ret hh ∈ ws := by rw [hw]; exact List.mem_cons_self
  refine ⟨⟨hrc, hrs, hR.1, hR.2, pay_in ht hG, hc⟩, ht _ (hG _ hc).1, ok _ (by simp [wsV]), ⟨hd.1, hd.2.1⟩, fun sig h => ?_, ok _ (by simp [wsV]), ok _ (by simp [wsV]), ok _ (by simp [wsV])⟩
  have h2 := hd.2.2
  rw [h] at h2
  exact (Option.some.inj h2).symm
theorem vx_runVW {y : MethodName} {bytes cc : ByteArray} {maxL nL mc ms n index : Nat} {ret : Option FieldType} {hh : List (Nat × Nat × Nat × Nat)} {ws : List Cond} {rm : Room} {Pc : Array Value → State → Prop} {Qc : Array Value → State → Outcome → State → Prop} {free : Addr → Prop} {Ts : List Cond} {own C : String} {b : Addr} {As rest : List Value} {g : JFrame}
    (S : CallFix p m c cc nL s args Ts own) (hM : Met l y ws rm Pc Qc mc ms free) (cw : vx_CVW R s args own C index y bytes maxL ret hh ws rm mc ms n) (hp : PreV s H C b Pc As)
    (hg : g.method = m) (hn : As.length = n) (hsize : g.locals.size = nL) (hstack : g.stack = As.reverse ++ .ref b :: rest) (hW : 2 * g.monitorRoom + (rest.map fun v => v.category).sum ≤ 8) (hdg : decode cc g.pc = .ok (.invokevirtual index, 3)) (hf : cells + mc ≤ R.cells ∧ slots + ms ≤ R.slots) :
    va_Run p l e R s m args below meth c H locs cells slots mc ms g rest (Qc (Value.ref b :: As).toArray) free := by
  obtain ⟨⟨hrc, hrs, hfr, hlo, hws, hcw⟩, hcode, hini, hy, hlen, hl, hin, hse⟩ := cw
  have hK : Back l R p e below s args y 3 8 (PreOf R mc ms Pc) (PostOf Qc mc ms free) := va_backW (hh := hh) (bytes := bytes) (maxL := maxL) (ret := ret) hM hp.1 hrc hrs hfr hlo hws hcw (fun a' U hW => word_at hW (Or.inl (by first | rfl | simp [Cond.onTables, Cond.keeps, Cond.steady])) hini)
  obtain ⟨hx, hb, hml, ho, -⟩ := S
  obtain ⟨-, ⟨cellB, hcB, hoB, hclB⟩, hPc⟩ := hp
  intro T hT X
  obtain ⟨v, vm₁, ⟨U', l2, c2, s2⟩, hW₁, X', ⟨g', mk, t, L, e1, e2, hq, h1, hL, h2, h3⟩, st⟩ := vx_callVW X hx (C := C) (hh := hh) (bytes := bytes) (maxL := maxL) (ret := ret) ho hl hin hse hcode hy hK (by rw [hT]; exact hcB) hoB hclB hg (hsize.trans hml.symm) (argsL := As) (rest := rest) (fun sig h => hn.trans (hlen sig h)) hstack hW (by rw [hb]; exact hdg)
    (fun vm₁ hW₁ => ⟨hf.1, hf.2, hPc (T.setVm vm₁) hT hW₁⟩)
  dsimp only [Pt.U, Pt.locs, Pt.cells, Pt.slots] at X' e1 e2 h1 h2 h3 st
  subst h1; subst h2; subst h3
  exact ⟨v, (T.setVm vm₁).calling g' mk (Value.ref b :: As).toArray, t, U', L, hT, X', hL, e1, e2, hq, st⟩
section
variable {y : MethodName} {bytes cc : ByteArray} {maxL nL mc ms n index : Nat} {ret : Option FieldType} {ws : List Cond} {rm : Room} {Pc : Array Value → State → Prop} {Qc : Array Value → State → Outcome → State → Prop} {XC : String → State → State → Prop} {free : Addr → Prop} {Ts : List Cond} {own C : String} {b : Addr} {As rest : List Value} {g : JFrame}
theorem vx_runVX {hh : List (Nat × Nat × Nat × Nat)} (S : CallFix p m c cc nL s args Ts own) (hM : vx_Met l y ws rm Pc Qc XC mc ms free) (cw : vx_CVW R s args own C index y bytes maxL ret hh ws rm mc ms n) (hp : PreV s H C b Pc As)
    (hg : g.method = m) (hn : As.length = n) (hsize : g.locals.size = nL) (hstack : g.stack = As.reverse ++ .ref b :: rest) (hW : 2 * g.monitorRoom + (rest.map fun v => v.category).sum ≤ 8) (hdg : decode cc g.pc = .ok (.invokevirtual index, 3)) (hf : cells + mc ≤ R.cells ∧ slots + ms ≤ R.slots) :
    vx_Run p l e R s m args below meth c H locs cells slots mc ms g rest (Qc (Value.ref b :: As).toArray) XC free := by
  obtain ⟨⟨hrc, hrs, hfr, hlo, hws, hcw⟩, hcode, hini, hy, hlen, hl, hin, hse⟩ := cw
  have hK : vx_Back l R p e below s args y 3 8 (PreOf R mc ms Pc) (PostOf Qc mc ms free) (vx_Post XC mc ms free) := vx_backW (hh := hh) (bytes := bytes) (maxL := maxL) (ret := ret) hM hp.1 hrc hrs hfr hlo hws hcw (fun a' U hW => word_at hW (Or.inl (by first | rfl | simp [Cond.onTables, Cond.keeps, Cond.steady])) hini)
  obtain ⟨hx, hb, hml, ho, -⟩ := S
  obtain ⟨-, ⟨cellB, hcB, hoB, hclB⟩, hPc⟩ := hp
  intro T hT X
  rcases vx_callVX X hx (C := C) (hh := hh) (bytes := bytes) (maxL := maxL) (ret := ret) ho hl hin hse hcode hy hK (by rw [hT]; exact hcB) hoB hclB hg (hsize.trans hml.symm) (argsL := As) (rest := rest) (fun sig h => hn.trans (hlen sig h)) hstack hW (by rw [hb]; exact hdg)
    (fun vm₁ hW₁ => ⟨hf.1, hf.2, hPc (T.setVm vm₁) hT hW₁⟩) with ⟨v, vm₁, ⟨U', l2, c2, s2⟩, hW₁, X', ⟨g', mk, t, L, e1, e2, hq, h1, hL, h2, h3⟩, st⟩ | ⟨q, vm₁, ⟨U', l2, c2, s2⟩, hW₁, X', ⟨g', mk, t, L, E, ce, e1, e2, hq, hce, hcv, hcl, h1, hL, h2, h3⟩, st⟩
  · dsimp only [Pt.U, Pt.locs, Pt.cells, Pt.slots] at X' e1 e2 h1 h2 h3 st
    subst h1; subst h2; subst h3
    exact Or.inl ⟨v, (T.setVm vm₁).calling g' mk (Value.ref b :: As).toArray, t, U', L, hT, X', hL, e1, e2, hq, st⟩
  · dsimp only [Pt.U, Pt.locs, Pt.cells, Pt.slots] at X' e1 e2 h1 h2 h3 st hcl
    subst h1; subst h2; subst h3
    exact Or.inr ⟨q, (T.setVm vm₁).calling g' mk (Value.ref b :: As).toArray, t, U', L, E, ce, hT, X', hL, e1, e2, hq, hce, hcv, vx_cls hW₁ hcl, st⟩
theorem vx_runSX {hh : List (Nat × Nat × Nat × Nat)} (S : CallFix p m c cc nL s args Ts own) (hM : vx_Met l y ws rm Pc Qc XC mc ms free) (cw : vx_CSW R s args own index y bytes maxL ret hh ws rm mc ms n) (hp : PreS s H Pc As)
    (hg : g.method = m) (hn : As.length = n) (hsize : g.locals.size = nL) (hstack : g.stack = As.reverse ++ rest) (hW : 2 * g.monitorRoom + (rest.map fun v => v.category).sum ≤ 8) (hdg : decode cc g.pc = .ok (.invokestatic index, 3)) (hf : cells + mc ≤ R.cells ∧ slots + ms ≤ R.slots) :
    vx_Run p l e R s m args below meth c H locs cells slots mc ms g rest (Qc As.toArray) XC free := by
  obtain ⟨⟨hrc, hrs, hfr, hlo, hws, hcw⟩, hcode, hini, hy, hlen, hl, hstt⟩ := cw
  have hK : vx_Back l R p e below s args y 3 8 (PreOf R mc ms Pc) (PostOf Qc mc ms free) (vx_Post XC mc ms free) := vx_backW (hh := hh) (bytes := bytes) (maxL := maxL) (ret := ret) hM hp.1 hrc hrs hfr hlo hws hcw (fun a' U hW => word_at hW (Or.inl (by first | rfl | simp [Cond.onTables, Cond.keeps, Cond.steady])) hini)
  obtain ⟨hx, hb, hml, ho, -⟩ := S
  intro T hT X
  rcases vx_callSX X hx (hh := hh) (bytes := bytes) (maxL := maxL) (ret := ret) ho hl hstt hini hcode hy hK hg (hsize.trans hml.symm) (argsL := As) (rest := rest) (fun sig h => hn.trans (hlen sig h)) hstack hW (by rw [hb]; exact hdg)
    (fun vm₁ hW₁ => ⟨hf.1, hf.2, hp.2 (T.setVm vm₁) hT hW₁⟩) with ⟨v, vm₁, ⟨U', l2, c2, s2⟩, hW₁, X', ⟨g', mk, t, L, e1, e2, hq, h1, hL, h2, h3⟩, st⟩ | ⟨q, vm₁, ⟨U', l2, c2, s2⟩, hW₁, X', ⟨g', mk, t, L, E, ce, e1, e2, hq, hce, hcv, hcl, h1, hL, h2, h3⟩, st⟩
  · dsimp only [Pt.U, Pt.locs, Pt.cells, Pt.slots] at X' e1 e2 h1 h2 h3 st
    subst h1; subst h2; subst h3
    exact Or.inl ⟨v, (T.setVm vm₁).calling g' mk As.toArray, t, U', L, hT, X', hL, e1, e2, hq, st⟩
  · dsimp only [Pt.U, Pt.locs, Pt.cells, Pt.slots] at X' e1 e2 h1 h2 h3 st hcl
    subst h1; subst h2; subst h3
    exact Or.inr ⟨q, (T.setVm vm₁).calling g' mk As.toArray, t, U', L, E, ce, hT, X', hL, e1, e2, hq, hce, hcv, vx_cls hW₁ hcl, st⟩
end
end VXH
theorem vx_ofWH {l : Launch} {y : MethodName} {ws ws' : List Cond} {rm : Room} {Pc : Array Value → State → Prop} {Qc : Array Value → State → Outcome → State → Prop} {XC : String → State → State → Prop} {mc ms : Nat} {free : Addr → Prop} {cc : ByteArray} {maxL : Nat} {ret : Option FieldType} {hh : List (Nat × Nat × Nat × Nat)}
    (hy : plainName y.cls = true) (hw : ws = Cond.codeWith y cc maxL ret hh :: ws')
    (body : ∀ p e s m args below meth c s₁, BodyLoose p l y (headSpec ws rm) cc maxL ret e s m args below meth c s₁ → c.maxLocals = maxL → Pc args s →
      W p l e (headSpec ws rm).room s m args below meth c s.heap [] 0 0 (vx_MQ below Qc XC args s mc ms free) (entryFrame m args maxL)) : vx_Met l y ws rm Pc Qc XC mc ms free := by
  refine MetFree.of_bodyS (code := cc) (maxLocals := maxL) (ret := ret) hy ?_ ?_
  · intro args s m h hn
    obtain ⟨m9, meth, c, hn9, h1, h2, h3, h4, -, h5, h6, -⟩ := Cond.codeWith_spec (atoms_spec (ws := ws) h _ (by rw [hw]; exact List.mem_cons_self))
    cases hn.symm.trans hn9
    exact ⟨meth, c, h1, h2, h3, h4, h5, h6⟩
  · intro p e s m args below meth c s₁ B hml hP _
    have hh0 : s₁.heap = s.heap := by rw [B.state]; rfl
    obtain ⟨t, a1, o, b1, b2, b3⟩ := body p e s m args below meth c s₁ B hml hP s₁ hh0 (Stand.of_body B)
    exact ⟨t, o, a1, b1, b2, b3⟩
/-! ===== END ===== -/
end
section
def RX0 : String := "LedgerStore$Ledger"
def TX0 : u_T := fun k => match k with
  | 0 => ("LedgerStore$Ledger", "number", "I", true)
  | 1 => ("LedgerStore$Ledger", "ensembleSize", "I", false)
  | 2 => ("LedgerStore$Ledger", "writeQuorum", "I", false)
  | 3 => ("LedgerStore$Ledger", "ackQuorum", "I", false)
  | 4 => ("LedgerStore$Ledger", "phase", "I", false)
  | 5 => ("LedgerStore$Ledger", "entries", "I", false)
  | 6 => ("LedgerStore$Ledger", "lastEntry", "I", false)
  | 7 => ("LedgerStore$Ledger", "fragments", "I", false)
  | 8 => ("LedgerStore$Ledger", "payloads", "[I", true)
  | 9 => ("LedgerStore$Ledger", "acknowledgers", "[I", true)
  | 10 => ("LedgerStore$Ledger", "starts", "[I", true)
  | _ => ("LedgerStore$Ledger", "members", "[I", true)
def tyX0 : Nat → FieldType := fun k => match k with
  | 0 => .int
  | 1 => .int
  | 2 => .int
  | 3 => .int
  | 4 => .int
  | 5 => .int
  | 6 => .int
  | 7 => .int
  | 8 => .array .int
  | 9 => .array .int
  | 10 => .array .int
  | _ => .array .int
abbrev wsX00 : List Cond := u_ws RX0 TX0 12
theorem nmX0 : ∀ a, a < 12 → ∀ b, b < 12 → a ≠ b → (TX0 a).2.1 ≠ (TX0 b).2.1 := by decide +kernel
theorem tyX0_ok : ∀ k, k < 12 → parseFieldDescriptor (TX0 k).2.2.1 = some (tyX0 k) := by decide +kernel
abbrev cX0_init : ByteArray := prog_2_method_1_code
def yX0_init : MethodName := ⟨RX0, "<init>", "(I)V"⟩
abbrev cX0_begin : ByteArray := prog_2_method_2_code
def yX0_begin : MethodName := ⟨RX0, "begin", "(III)V"⟩
abbrev cX0_copyFrom : ByteArray := prog_2_method_3_code
def yX0_copyFrom : MethodName := ⟨RX0, "copyFrom", "(LLedgerStore$Ledger;)V"⟩
abbrev cX0_addEntry : ByteArray := prog_2_method_4_code
def yX0_addEntry : MethodName := ⟨RX0, "addEntry", "(I)I"⟩
abbrev cX0_payloadOf : ByteArray := prog_2_method_5_code
def yX0_payloadOf : MethodName := ⟨RX0, "payloadOf", "(I)I"⟩
abbrev cX0_countAcknowledgers : ByteArray := prog_2_method_6_code
def yX0_countAcknowledgers : MethodName := ⟨RX0, "countAcknowledgers", "(I)I"⟩
abbrev cX0_acknowledge : ByteArray := prog_2_method_7_code
def yX0_acknowledge : MethodName := ⟨RX0, "acknowledge", "(II)V"⟩
abbrev cX0_forgetAcknowledgements : ByteArray := prog_2_method_8_code
def yX0_forgetAcknowledgements : MethodName := ⟨RX0, "forgetAcknowledgements", "(II)V"⟩
abbrev cX0_lastConfirmed : ByteArray := prog_2_method_9_code
def yX0_lastConfirmed : MethodName := ⟨RX0, "lastConfirmed", "()I"⟩
abbrev cX0_lastToRead : ByteArray := prog_2_method_10_code
def yX0_lastToRead : MethodName := ⟨RX0, "lastToRead", "()I"⟩
abbrev cX0_lastFragment : ByteArray := prog_2_method_11_code
def yX0_lastFragment : MethodName := ⟨RX0, "lastFragment", "()I"⟩
abbrev cX0_startOf : ByteArray := prog_2_method_12_code
def yX0_startOf : MethodName := ⟨RX0, "startOf", "(I)I"⟩
abbrev cX0_fragmentOf : ByteArray := prog_2_method_13_code
def yX0_fragmentOf : MethodName := ⟨RX0, "fragmentOf", "(I)I"⟩
abbrev cX0_nodeAt : ByteArray := prog_2_method_14_code
def yX0_nodeAt : MethodName := ⟨RX0, "nodeAt", "(II)I"⟩
abbrev cX0_setNode : ByteArray := prog_2_method_15_code
def yX0_setNode : MethodName := ⟨RX0, "setNode", "(III)V"⟩
abbrev cX0_addFragment : ByteArray := prog_2_method_16_code
def yX0_addFragment : MethodName := ⟨RX0, "addFragment", "(I)V"⟩
abbrev cX0_ensembleMask : ByteArray := prog_2_method_17_code
def yX0_ensembleMask : MethodName := ⟨RX0, "ensembleMask", "(I)I"⟩
abbrev cX0_writeSetNode : ByteArray := prog_2_method_18_code
def yX0_writeSetNode : MethodName := ⟨RX0, "writeSetNode", "(III)I"⟩
abbrev cX0_writeSetMask : ByteArray := prog_2_method_19_code
def yX0_writeSetMask : MethodName := ⟨RX0, "writeSetMask", "(II)I"⟩
abbrev cX0_maskOf : ByteArray := prog_2_method_20_code
def yX0_maskOf : MethodName := ⟨RX0, "maskOf", "(I)I"⟩
abbrev cX0_placeOf : ByteArray := prog_2_method_21_code
def yX0_placeOf : MethodName := ⟨RX0, "placeOf", "(II)I"⟩
def RX1 : String := "LedgerStore$Node"
def TX1 : u_T := fun k => match k with
  | 0 => ("LedgerStore$Node", "up", "Z", false)
  | 1 => ("LedgerStore$Node", "fences", "I", false)
  | 2 => ("LedgerStore$Node", "storedCount", "I", false)
  | 3 => ("LedgerStore$Node", "waiting", "I", false)
  | 4 => ("LedgerStore$Node", "stored", "[I", true)
  | _ => ("LedgerStore$Node", "inbox", "[I", true)
def tyX1 : Nat → FieldType := fun k => match k with
  | 0 => .boolean
  | 1 => .int
  | 2 => .int
  | 3 => .int
  | 4 => .array .int
  | _ => .array .int
abbrev wsX10 : List Cond := u_ws RX1 TX1 6
theorem nmX1 : ∀ a, a < 6 → ∀ b, b < 6 → a ≠ b → (TX1 a).2.1 ≠ (TX1 b).2.1 := by decide +kernel
theorem tyX1_ok : ∀ k, k < 6 → parseFieldDescriptor (TX1 k).2.2.1 = some (tyX1 k) := by decide +kernel
abbrev cX1_init : ByteArray := prog_3_method_1_code
def yX1_init : MethodName := ⟨RX1, "<init>", "()V"⟩
abbrev cX1_begin : ByteArray := prog_3_method_2_code
def yX1_begin : MethodName := ⟨RX1, "begin", "()V"⟩
abbrev cX1_copyFrom : ByteArray := prog_3_method_3_code
def yX1_copyFrom : MethodName := ⟨RX1, "copyFrom", "(LLedgerStore$Node;)V"⟩
abbrev cX1_isFencedFor : ByteArray := prog_3_method_4_code
def yX1_isFencedFor : MethodName := ⟨RX1, "isFencedFor", "(I)Z"⟩
abbrev cX1_fenceFor : ByteArray := prog_3_method_5_code
def yX1_fenceFor : MethodName := ⟨RX1, "fenceFor", "(I)V"⟩
abbrev cX1_receive : ByteArray := prog_3_method_6_code
def yX1_receive : MethodName := ⟨RX1, "receive", "(I)V"⟩
abbrev cX1_takeOldest : ByteArray := prog_3_method_7_code
def yX1_takeOldest : MethodName := ⟨RX1, "takeOldest", "()I"⟩
abbrev cX1_keep : ByteArray := prog_3_method_8_code
def yX1_keep : MethodName := ⟨RX1, "keep", "(I)V"⟩
abbrev cX1_storedParcel : ByteArray := prog_3_method_9_code
def yX1_storedParcel : MethodName := ⟨RX1, "storedParcel", "(II)I"⟩
abbrev cX1_holds : ByteArray := prog_3_method_10_code
def yX1_holds : MethodName := ⟨RX1, "holds", "(II)Z"⟩
abbrev cX1_greatestConfirmed : ByteArray := prog_3_method_11_code
def yX1_greatestConfirmed : MethodName := ⟨RX1, "greatestConfirmed", "(I)I"⟩
abbrev cX1_slotOf : ByteArray := prog_3_method_12_code
def yX1_slotOf : MethodName := ⟨RX1, "slotOf", "(II)I"⟩
def RX2 : String := "LedgerStore$Parcel"
def TX2 : u_T := fun k => match k with
  | _ => ("", "", "", false)
def tyX2 : Nat → FieldType := fun k => match k with
  | _ => .int
abbrev wsX20 : List Cond := u_ws RX2 TX2 0
theorem nmX2 : ∀ a, a < 0 → ∀ b, b < 0 → a ≠ b → (TX2 a).2.1 ≠ (TX2 b).2.1 := by decide +kernel
theorem tyX2_ok : ∀ k, k < 0 → parseFieldDescriptor (TX2 k).2.2.1 = some (tyX2 k) := by decide +kernel
abbrev cX2_of : ByteArray := prog_4_method_2_code
def yX2_of : MethodName := ⟨RX2, "of", "(IIII)I"⟩
abbrev cX2_ledgerOf : ByteArray := prog_4_method_3_code
def yX2_ledgerOf : MethodName := ⟨RX2, "ledgerOf", "(I)I"⟩
abbrev cX2_entryOf : ByteArray := prog_4_method_4_code
def yX2_entryOf : MethodName := ⟨RX2, "entryOf", "(I)I"⟩
abbrev cX2_confirmedOf : ByteArray := prog_4_method_5_code
def yX2_confirmedOf : MethodName := ⟨RX2, "confirmedOf", "(I)I"⟩
abbrev cX2_payloadOf : ByteArray := prog_4_method_6_code
def yX2_payloadOf : MethodName := ⟨RX2, "payloadOf", "(I)I"⟩
def RX3 : String := "LedgerStore$State"
def TX3 : u_T := fun k => match k with
  | 0 => ("LedgerStore$State", "nodeCount", "I", false)
  | 1 => ("LedgerStore$State", "ledgerCount", "I", false)
  | 2 => ("LedgerStore$State", "rejected", "I", false)
  | 3 => ("LedgerStore$State", "nodes", "[LLedgerStore$Node;", true)
  | _ => ("LedgerStore$State", "ledgers", "[LLedgerStore$Ledger;", true)
def tyX3 : Nat → FieldType := fun k => match k with
  | 0 => .int
  | 1 => .int
  | 2 => .int
  | 3 => .array (.object "LedgerStore$Node")
  | _ => .array (.object "LedgerStore$Ledger")
abbrev wsX30 : List Cond := u_ws RX3 TX3 5
theorem nmX3 : ∀ a, a < 5 → ∀ b, b < 5 → a ≠ b → (TX3 a).2.1 ≠ (TX3 b).2.1 := by decide +kernel
theorem tyX3_ok : ∀ k, k < 5 → parseFieldDescriptor (TX3 k).2.2.1 = some (tyX3 k) := by decide +kernel
abbrev cX3_init : ByteArray := prog_5_method_1_code
def yX3_init : MethodName := ⟨RX3, "<init>", "()V"⟩
abbrev cX3_takeOver : ByteArray := prog_5_method_2_code
def yX3_takeOver : MethodName := ⟨RX3, "takeOver", "(LLedgerStore$State;)V"⟩
abbrev cX3_node : ByteArray := prog_5_method_3_code
def yX3_node : MethodName := ⟨RX3, "node", "(I)LLedgerStore$Node;"⟩
abbrev cX3_ledger : ByteArray := prog_5_method_4_code
def yX3_ledger : MethodName := ⟨RX3, "ledger", "(I)LLedgerStore$Ledger;"⟩
abbrev cX3_beginNode : ByteArray := prog_5_method_5_code
def yX3_beginNode : MethodName := ⟨RX3, "beginNode", "()I"⟩
abbrev cX3_beginLedger : ByteArray := prog_5_method_6_code
def yX3_beginLedger : MethodName := ⟨RX3, "beginLedger", "(III)I"⟩
abbrev cX3_isUp : ByteArray := prog_5_method_7_code
def yX3_isUp : MethodName := ⟨RX3, "isUp", "(I)Z"⟩
abbrev cX3_upMask : ByteArray := prog_5_method_8_code
def yX3_upMask : MethodName := ⟨RX3, "upMask", "()I"⟩
abbrev cX3_totalWeight : ByteArray := prog_5_method_9_code
def yX3_totalWeight : MethodName := ⟨RX3, "totalWeight", "()I"⟩
abbrev cX3_choose : ByteArray := prog_5_method_10_code
def yX3_choose : MethodName := ⟨RX3, "choose", "(I)I"⟩
abbrev cX3_send : ByteArray := prog_5_method_11_code
def yX3_send : MethodName := ⟨RX3, "send", "(II)V"⟩
abbrev cX3_processOldest : ByteArray := prog_5_method_12_code
def yX3_processOldest : MethodName := ⟨RX3, "processOldest", "(I)I"⟩
abbrev cX3_anyRequestWaits : ByteArray := prog_5_method_13_code
def yX3_anyRequestWaits : MethodName := ⟨RX3, "anyRequestWaits", "()Z"⟩
abbrev cX3_write : ByteArray := prog_5_method_14_code
def yX3_write : MethodName := ⟨RX3, "write", "(LLedgerStore$Ledger;I)I"⟩
abbrev cX3_changeEnsemble : ByteArray := prog_5_method_15_code
def yX3_changeEnsemble : MethodName := ⟨RX3, "changeEnsemble", "(LLedgerStore$Ledger;II)V"⟩
abbrev cX3_recoverLedger : ByteArray := prog_5_method_16_code
def yX3_recoverLedger : MethodName := ⟨RX3, "recoverLedger", "(LLedgerStore$Ledger;)I"⟩
abbrev cX3_fenceLastEnsemble : ByteArray := prog_5_method_17_code
def yX3_fenceLastEnsemble : MethodName := ⟨RX3, "fenceLastEnsemble", "(LLedgerStore$Ledger;)V"⟩
abbrev cX3_someQuorumIsDown : ByteArray := prog_5_method_18_code
def yX3_someQuorumIsDown : MethodName := ⟨RX3, "someQuorumIsDown", "(LLedgerStore$Ledger;)Z"⟩
abbrev cX3_lastKnownConfirmed : ByteArray := prog_5_method_19_code
def yX3_lastKnownConfirmed : MethodName := ⟨RX3, "lastKnownConfirmed", "(LLedgerStore$Ledger;)I"⟩
abbrev cX3_recoverEntry : ByteArray := prog_5_method_20_code
def yX3_recoverEntry : MethodName := ⟨RX3, "recoverEntry", "(LLedgerStore$Ledger;I)Z"⟩
abbrev cX3_firstCopy : ByteArray := prog_5_method_21_code
def yX3_firstCopy : MethodName := ⟨RX3, "firstCopy", "(LLedgerStore$Ledger;I)I"⟩
abbrev cX3_spread : ByteArray := prog_5_method_22_code
def yX3_spread : MethodName := ⟨RX3, "spread", "(LLedgerStore$Ledger;II)I"⟩
abbrev cX3_replaceDownNodes : ByteArray := prog_5_method_23_code
def yX3_replaceDownNodes : MethodName := ⟨RX3, "replaceDownNodes", "(LLedgerStore$Ledger;)V"⟩
abbrev cX3_copyMissingEntries : ByteArray := prog_5_method_24_code
def yX3_copyMissingEntries : MethodName := ⟨RX3, "copyMissingEntries", "(LLedgerStore$Ledger;)I"⟩
abbrev cX3_holderMask : ByteArray := prog_5_method_25_code
def yX3_holderMask : MethodName := ⟨RX3, "holderMask", "(LLedgerStore$Ledger;I)I"⟩
abbrev cX3_countUnderReplicated : ByteArray := prog_5_method_26_code
def yX3_countUnderReplicated : MethodName := ⟨RX3, "countUnderReplicated", "(LLedgerStore$Ledger;)I"⟩
def RX4 : String := "LedgerStore$UndoStack"
def TX4 : u_T := fun k => match k with
  | 0 => ("LedgerStore$UndoStack", "depth", "I", false)
  | 1 => ("LedgerStore$UndoStack", "next", "I", false)
  | _ => ("LedgerStore$UndoStack", "ring", "[LLedgerStore$State;", true)
def tyX4 : Nat → FieldType := fun k => match k with
  | 0 => .int
  | 1 => .int
  | _ => .array (.object "LedgerStore$State")
abbrev wsX40 : List Cond := u_ws RX4 TX4 3
theorem nmX4 : ∀ a, a < 3 → ∀ b, b < 3 → a ≠ b → (TX4 a).2.1 ≠ (TX4 b).2.1 := by decide +kernel
theorem tyX4_ok : ∀ k, k < 3 → parseFieldDescriptor (TX4 k).2.2.1 = some (tyX4 k) := by decide +kernel
abbrev cX4_init : ByteArray := prog_6_method_1_code
def yX4_init : MethodName := ⟨RX4, "<init>", "()V"⟩
abbrev cX4_push : ByteArray := prog_6_method_2_code
def yX4_push : MethodName := ⟨RX4, "push", "(LLedgerStore$State;)V"⟩
abbrev cX4_popInto : ByteArray := prog_6_method_3_code
def yX4_popInto : MethodName := ⟨RX4, "popInto", "(LLedgerStore$State;)V"⟩
def RX5 : String := "LedgerStore"
def TX5 : u_T := fun k => match k with
  | 0 => ("LedgerStore", "now", "LLedgerStore$State;", true)
  | _ => ("LedgerStore", "past", "LLedgerStore$UndoStack;", true)
def tyX5 : Nat → FieldType := fun k => match k with
  | 0 => .object "LedgerStore$State"
  | _ => .object "LedgerStore$UndoStack"
abbrev wsX50 : List Cond := u_ws RX5 TX5 2
theorem nmX5 : ∀ a, a < 2 → ∀ b, b < 2 → a ≠ b → (TX5 a).2.1 ≠ (TX5 b).2.1 := by decide +kernel
theorem tyX5_ok : ∀ k, k < 2 → parseFieldDescriptor (TX5 k).2.2.1 = some (tyX5 k) := by decide +kernel
abbrev cX5_init : ByteArray := prog_1_method_1_code
def yX5_init : MethodName := ⟨RX5, "<init>", "()V"⟩
abbrev cX5_addNode : ByteArray := prog_1_method_2_code
def yX5_addNode : MethodName := ⟨RX5, "addNode", "()I"⟩
abbrev cX5_crash : ByteArray := prog_1_method_3_code
def yX5_crash : MethodName := ⟨RX5, "crash", "(I)I"⟩
abbrev cX5_restart : ByteArray := prog_1_method_4_code
def yX5_restart : MethodName := ⟨RX5, "restart", "(I)I"⟩
abbrev cX5_deliver : ByteArray := prog_1_method_5_code
def yX5_deliver : MethodName := ⟨RX5, "deliver", "(I)I"⟩
abbrev cX5_deliverAll : ByteArray := prog_1_method_6_code
def yX5_deliverAll : MethodName := ⟨RX5, "deliverAll", "()I"⟩
abbrev cX5_inboxLength : ByteArray := prog_1_method_7_code
def yX5_inboxLength : MethodName := ⟨RX5, "inboxLength", "(I)I"⟩
abbrev cX5_weight : ByteArray := prog_1_method_8_code
def yX5_weight : MethodName := ⟨RX5, "weight", "(I)I"⟩
abbrev cX5_share : ByteArray := prog_1_method_9_code
def yX5_share : MethodName := ⟨RX5, "share", "(I)F"⟩
abbrev cX5_isFenced : ByteArray := prog_1_method_10_code
def yX5_isFenced : MethodName := ⟨RX5, "isFenced", "(II)Z"⟩
abbrev cX5_rejections : ByteArray := prog_1_method_11_code
def yX5_rejections : MethodName := ⟨RX5, "rejections", "()I"⟩
abbrev cX5_createLedger : ByteArray := prog_1_method_12_code
def yX5_createLedger : MethodName := ⟨RX5, "createLedger", "(III)I"⟩
abbrev cX5_append : ByteArray := prog_1_method_13_code
def yX5_append : MethodName := ⟨RX5, "append", "(II)I"⟩
abbrev cX5_replace : ByteArray := prog_1_method_14_code
def yX5_replace : MethodName := ⟨RX5, "replace", "(II)I"⟩
abbrev cX5_recover : ByteArray := prog_1_method_15_code
def yX5_recover : MethodName := ⟨RX5, "recover", "(I)I"⟩
abbrev cX5_repair : ByteArray := prog_1_method_16_code
def yX5_repair : MethodName := ⟨RX5, "repair", "(I)I"⟩
abbrev cX5_read : ByteArray := prog_1_method_17_code
def yX5_read : MethodName := ⟨RX5, "read", "(II)I"⟩
abbrev cX5_state : ByteArray := prog_1_method_18_code
def yX5_state : MethodName := ⟨RX5, "state", "(I)I"⟩
abbrev cX5_lastReadable : ByteArray := prog_1_method_19_code
def yX5_lastReadable : MethodName := ⟨RX5, "lastReadable", "(I)I"⟩
abbrev cX5_appended : ByteArray := prog_1_method_20_code
def yX5_appended : MethodName := ⟨RX5, "appended", "(I)I"⟩
abbrev cX5_acknowledgements : ByteArray := prog_1_method_21_code
def yX5_acknowledgements : MethodName := ⟨RX5, "acknowledgements", "(II)I"⟩
abbrev cX5_holders : ByteArray := prog_1_method_22_code
def yX5_holders : MethodName := ⟨RX5, "holders", "(II)I"⟩
abbrev cX5_fragmentCount : ByteArray := prog_1_method_23_code
def yX5_fragmentCount : MethodName := ⟨RX5, "fragmentCount", "(I)I"⟩
abbrev cX5_firstEntry : ByteArray := prog_1_method_24_code
def yX5_firstEntry : MethodName := ⟨RX5, "firstEntry", "(II)I"⟩
abbrev cX5_member : ByteArray := prog_1_method_25_code
def yX5_member : MethodName := ⟨RX5, "member", "(III)I"⟩
abbrev cX5_underReplicated : ByteArray := prog_1_method_26_code
def yX5_underReplicated : MethodName := ⟨RX5, "underReplicated", "(I)I"⟩
abbrev cX5_undo : ByteArray := prog_1_method_27_code
def yX5_undo : MethodName := ⟨RX5, "undo", "()I"⟩
abbrev cX5_digest : ByteArray := prog_1_method_28_code
def yX5_digest : MethodName := ⟨RX5, "digest", "()J"⟩
abbrev cX5_digestNode : ByteArray := prog_1_method_29_code
def yX5_digestNode : MethodName := ⟨RX5, "digestNode", "(JLLedgerStore$Node;)J"⟩
abbrev cX5_digestLedger : ByteArray := prog_1_method_30_code
def yX5_digestLedger : MethodName := ⟨RX5, "digestLedger", "(JLLedgerStore$Ledger;)J"⟩
abbrev cX5_digestFragments : ByteArray := prog_1_method_31_code
def yX5_digestFragments : MethodName := ⟨RX5, "digestFragments", "(JLLedgerStore$Ledger;)J"⟩
abbrev cX5_digestEntries : ByteArray := prog_1_method_32_code
def yX5_digestEntries : MethodName := ⟨RX5, "digestEntries", "(JLLedgerStore$Ledger;)J"⟩
abbrev cX5_digestFences : ByteArray := prog_1_method_33_code
def yX5_digestFences : MethodName := ⟨RX5, "digestFences", "(JLLedgerStore$Ledger;)J"⟩
abbrev cX5_shareOf : ByteArray := prog_1_method_34_code
def yX5_shareOf : MethodName := ⟨RX5, "shareOf", "(LLedgerStore$Node;)F"⟩
abbrev cX5_bitsOfShare : ByteArray := prog_1_method_35_code
def yX5_bitsOfShare : MethodName := ⟨RX5, "bitsOfShare", "(F)I"⟩
abbrev cX5_existingNode : ByteArray := prog_1_method_36_code
def yX5_existingNode : MethodName := ⟨RX5, "existingNode", "(I)LLedgerStore$Node;"⟩
abbrev cX5_existingLedger : ByteArray := prog_1_method_37_code
def yX5_existingLedger : MethodName := ⟨RX5, "existingLedger", "(I)LLedgerStore$Ledger;"⟩
abbrev cX5_requireAppended : ByteArray := prog_1_method_38_code
def yX5_requireAppended : MethodName := ⟨RX5, "requireAppended", "(LLedgerStore$Ledger;I)V"⟩
abbrev cX5_requireFragment : ByteArray := prog_1_method_39_code
def yX5_requireFragment : MethodName := ⟨RX5, "requireFragment", "(LLedgerStore$Ledger;I)V"⟩
abbrev cX5_contains : ByteArray := prog_1_method_40_code
def yX5_contains : MethodName := ⟨RX5, "contains", "(II)Z"⟩
abbrev cX5_copyRow : ByteArray := prog_1_method_41_code
def yX5_copyRow : MethodName := ⟨RX5, "copyRow", "([I[I)V"⟩
def RX6 : String := "LedgerStoreModel"
def TX6 : u_T := fun k => match k with
  | 0 => ("LedgerStoreModel", "s", "[I", true)
  | 1 => ("LedgerStoreModel", "past", "[I", true)
  | 2 => ("LedgerStoreModel", "pasts", "I", false)
  | 3 => ("LedgerStoreModel", "thrown", "I", false)
  | _ => ("LedgerStoreModel", "hash", "J", false)
def tyX6 : Nat → FieldType := fun k => match k with
  | 0 => .array .int
  | 1 => .array .int
  | 2 => .int
  | 3 => .int
  | _ => .long
abbrev wsX60 : List Cond := u_ws RX6 TX6 5
theorem nmX6 : ∀ a, a < 5 → ∀ b, b < 5 → a ≠ b → (TX6 a).2.1 ≠ (TX6 b).2.1 := by decide +kernel
theorem tyX6_ok : ∀ k, k < 5 → parseFieldDescriptor (TX6 k).2.2.1 = some (tyX6 k) := by decide +kernel
abbrev cX6_init : ByteArray := prog_8_method_1_code
def yX6_init : MethodName := ⟨RX6, "<init>", "()V"⟩
abbrev cX6_thrown : ByteArray := prog_8_method_2_code
def yX6_thrown : MethodName := ⟨RX6, "thrown", "()I"⟩
abbrev cX6_in : ByteArray := prog_8_method_3_code
def yX6_in : MethodName := ⟨RX6, "in", "(III)Z"⟩
abbrev cX6_has : ByteArray := prog_8_method_4_code
def yX6_has : MethodName := ⟨RX6, "has", "(II)Z"⟩
abbrev cX6_count : ByteArray := prog_8_method_5_code
def yX6_count : MethodName := ⟨RX6, "count", "(I)I"⟩
abbrev cX6_isFine : ByteArray := prog_8_method_6_code
def yX6_isFine : MethodName := ⟨RX6, "isFine", "(ZZ)Z"⟩
abbrev cX6_note : ByteArray := prog_8_method_7_code
def yX6_note : MethodName := ⟨RX6, "note", "()V"⟩
abbrev cX6_isNode : ByteArray := prog_8_method_8_code
def yX6_isNode : MethodName := ⟨RX6, "isNode", "(I)Z"⟩
abbrev cX6_isLedger : ByteArray := prog_8_method_9_code
def yX6_isLedger : MethodName := ⟨RX6, "isLedger", "(I)Z"⟩
abbrev cX6_isUp : ByteArray := prog_8_method_10_code
def yX6_isUp : MethodName := ⟨RX6, "isUp", "(I)Z"⟩
abbrev cX6_of : ByteArray := prog_8_method_11_code
def yX6_of : MethodName := ⟨RX6, "of", "(II)I"⟩
abbrev cX6_set : ByteArray := prog_8_method_12_code
def yX6_set : MethodName := ⟨RX6, "set", "(III)V"⟩
abbrev cX6_storedAt : ByteArray := prog_8_method_13_code
def yX6_storedAt : MethodName := ⟨RX6, "storedAt", "(III)I"⟩
abbrev cX6_stores : ByteArray := prog_8_method_14_code
def yX6_stores : MethodName := ⟨RX6, "stores", "(III)Z"⟩
abbrev cX6_store : ByteArray := prog_8_method_15_code
def yX6_store : MethodName := ⟨RX6, "store", "(IIIII)V"⟩
abbrev cX6_payloadAt : ByteArray := prog_8_method_16_code
def yX6_payloadAt : MethodName := ⟨RX6, "payloadAt", "(III)I"⟩
abbrev cX6_confirmedAt : ByteArray := prog_8_method_17_code
def yX6_confirmedAt : MethodName := ⟨RX6, "confirmedAt", "(III)I"⟩
abbrev cX6_weightOf : ByteArray := prog_8_method_18_code
def yX6_weightOf : MethodName := ⟨RX6, "weightOf", "(I)I"⟩
abbrev cX6_fragmentOf : ByteArray := prog_8_method_19_code
def yX6_fragmentOf : MethodName := ⟨RX6, "fragmentOf", "(II)I"⟩
abbrev cX6_memberOf : ByteArray := prog_8_method_20_code
def yX6_memberOf : MethodName := ⟨RX6, "memberOf", "(III)I"⟩
abbrev cX6_writer : ByteArray := prog_8_method_21_code
def yX6_writer : MethodName := ⟨RX6, "writer", "(IIII)I"⟩
abbrev cX6_ensemble : ByteArray := prog_8_method_22_code
def yX6_ensemble : MethodName := ⟨RX6, "ensemble", "(II)I"⟩
abbrev cX6_isWriter : ByteArray := prog_8_method_23_code
def yX6_isWriter : MethodName := ⟨RX6, "isWriter", "(III)Z"⟩
abbrev cX6_choose : ByteArray := prog_8_method_24_code
def yX6_choose : MethodName := ⟨RX6, "choose", "(I)I"⟩
abbrev cX6_confirmed : ByteArray := prog_8_method_25_code
def yX6_confirmed : MethodName := ⟨RX6, "confirmed", "(I)I"⟩
abbrev cX6_readable : ByteArray := prog_8_method_26_code
def yX6_readable : MethodName := ⟨RX6, "readable", "(I)I"⟩
abbrev cX6_addNode : ByteArray := prog_8_method_27_code
def yX6_addNode : MethodName := ⟨RX6, "addNode", "()I"⟩
abbrev cX6_crash : ByteArray := prog_8_method_28_code
def yX6_crash : MethodName := ⟨RX6, "crash", "(I)I"⟩
abbrev cX6_empty : ByteArray := prog_8_method_29_code
def yX6_empty : MethodName := ⟨RX6, "empty", "(I)V"⟩
abbrev cX6_restart : ByteArray := prog_8_method_30_code
def yX6_restart : MethodName := ⟨RX6, "restart", "(I)I"⟩
abbrev cX6_send : ByteArray := prog_8_method_31_code
def yX6_send : MethodName := ⟨RX6, "send", "(IIII)V"⟩
abbrev cX6_process : ByteArray := prog_8_method_32_code
def yX6_process : MethodName := ⟨RX6, "process", "(I)I"⟩
abbrev cX6_deliver : ByteArray := prog_8_method_33_code
def yX6_deliver : MethodName := ⟨RX6, "deliver", "(I)I"⟩
abbrev cX6_deliverAll : ByteArray := prog_8_method_34_code
def yX6_deliverAll : MethodName := ⟨RX6, "deliverAll", "()I"⟩
abbrev cX6_inboxLength : ByteArray := prog_8_method_35_code
def yX6_inboxLength : MethodName := ⟨RX6, "inboxLength", "(I)I"⟩
abbrev cX6_weight : ByteArray := prog_8_method_36_code
def yX6_weight : MethodName := ⟨RX6, "weight", "(I)I"⟩
abbrev cX6_shareOf : ByteArray := prog_8_method_37_code
def yX6_shareOf : MethodName := ⟨RX6, "shareOf", "(I)F"⟩
abbrev cX6_share : ByteArray := prog_8_method_38_code
def yX6_share : MethodName := ⟨RX6, "share", "(I)F"⟩
abbrev cX6_isFenced : ByteArray := prog_8_method_39_code
def yX6_isFenced : MethodName := ⟨RX6, "isFenced", "(II)Z"⟩
abbrev cX6_rejections : ByteArray := prog_8_method_40_code
def yX6_rejections : MethodName := ⟨RX6, "rejections", "()I"⟩
abbrev cX6_ups : ByteArray := prog_8_method_41_code
def yX6_ups : MethodName := ⟨RX6, "ups", "()I"⟩
abbrev cX6_createLedger : ByteArray := prog_8_method_42_code
def yX6_createLedger : MethodName := ⟨RX6, "createLedger", "(III)I"⟩
abbrev cX6_append : ByteArray := prog_8_method_43_code
def yX6_append : MethodName := ⟨RX6, "append", "(II)I"⟩
abbrev cX6_replace : ByteArray := prog_8_method_44_code
def yX6_replace : MethodName := ⟨RX6, "replace", "(II)I"⟩
abbrev cX6_isUndecided : ByteArray := prog_8_method_45_code
def yX6_isUndecided : MethodName := ⟨RX6, "isUndecided", "(II)Z"⟩
abbrev cX6_storedConfirmed : ByteArray := prog_8_method_46_code
def yX6_storedConfirmed : MethodName := ⟨RX6, "storedConfirmed", "(II)I"⟩
abbrev cX6_source : ByteArray := prog_8_method_47_code
def yX6_source : MethodName := ⟨RX6, "source", "(II)I"⟩
abbrev cX6_recoverEntry : ByteArray := prog_8_method_48_code
def yX6_recoverEntry : MethodName := ⟨RX6, "recoverEntry", "(III)V"⟩
abbrev cX6_recover : ByteArray := prog_8_method_49_code
def yX6_recover : MethodName := ⟨RX6, "recover", "(I)I"⟩
abbrev cX6_replaceDowns : ByteArray := prog_8_method_50_code
def yX6_replaceDowns : MethodName := ⟨RX6, "replaceDowns", "(I)V"⟩
abbrev cX6_copies : ByteArray := prog_8_method_51_code
def yX6_copies : MethodName := ⟨RX6, "copies", "(II)I"⟩
abbrev cX6_repair : ByteArray := prog_8_method_52_code
def yX6_repair : MethodName := ⟨RX6, "repair", "(I)I"⟩
abbrev cX6_read : ByteArray := prog_8_method_53_code
def yX6_read : MethodName := ⟨RX6, "read", "(II)I"⟩
abbrev cX6_state : ByteArray := prog_8_method_54_code
def yX6_state : MethodName := ⟨RX6, "state", "(I)I"⟩
abbrev cX6_lastReadable : ByteArray := prog_8_method_55_code
def yX6_lastReadable : MethodName := ⟨RX6, "lastReadable", "(I)I"⟩
abbrev cX6_appended : ByteArray := prog_8_method_56_code
def yX6_appended : MethodName := ⟨RX6, "appended", "(I)I"⟩
abbrev cX6_isEntry : ByteArray := prog_8_method_57_code
def yX6_isEntry : MethodName := ⟨RX6, "isEntry", "(II)Z"⟩
abbrev cX6_acknowledgements : ByteArray := prog_8_method_58_code
def yX6_acknowledgements : MethodName := ⟨RX6, "acknowledgements", "(II)I"⟩
abbrev cX6_holding : ByteArray := prog_8_method_59_code
def yX6_holding : MethodName := ⟨RX6, "holding", "(II)I"⟩
abbrev cX6_holders : ByteArray := prog_8_method_60_code
def yX6_holders : MethodName := ⟨RX6, "holders", "(II)I"⟩
abbrev cX6_fragmentCount : ByteArray := prog_8_method_61_code
def yX6_fragmentCount : MethodName := ⟨RX6, "fragmentCount", "(I)I"⟩
abbrev cX6_isFragment : ByteArray := prog_8_method_62_code
def yX6_isFragment : MethodName := ⟨RX6, "isFragment", "(II)Z"⟩
abbrev cX6_firstEntry : ByteArray := prog_8_method_63_code
def yX6_firstEntry : MethodName := ⟨RX6, "firstEntry", "(II)I"⟩
abbrev cX6_member : ByteArray := prog_8_method_64_code
def yX6_member : MethodName := ⟨RX6, "member", "(III)I"⟩
abbrev cX6_under : ByteArray := prog_8_method_65_code
def yX6_under : MethodName := ⟨RX6, "under", "(I)I"⟩
abbrev cX6_underReplicated : ByteArray := prog_8_method_66_code
def yX6_underReplicated : MethodName := ⟨RX6, "underReplicated", "(I)I"⟩
abbrev cX6_undo : ByteArray := prog_8_method_67_code
def yX6_undo : MethodName := ⟨RX6, "undo", "()I"⟩
abbrev cX6_add : ByteArray := prog_8_method_68_code
def yX6_add : MethodName := ⟨RX6, "add", "(I)V"⟩
abbrev cX6_addLedger : ByteArray := prog_8_method_69_code
def yX6_addLedger : MethodName := ⟨RX6, "addLedger", "(I)V"⟩
abbrev cX6_digest : ByteArray := prog_8_method_70_code
def yX6_digest : MethodName := ⟨RX6, "digest", "()J"⟩
def RJx145de : String := "java/io/Serializable"
def TJx145de : u_T := fun k => match k with
  | _ => ("", "", "", false)
def tyJx145de : Nat → FieldType := fun k => match k with
  | _ => .int
abbrev wsJx145de0 : List Cond := u_ws RJx145de TJx145de 0
theorem nmJx145de : ∀ a, a < 0 → ∀ b, b < 0 → a ≠ b → (TJx145de a).2.1 ≠ (TJx145de b).2.1 := by decide +kernel
theorem tyJx145de_ok : ∀ k, k < 0 → parseFieldDescriptor (TJx145de k).2.2.1 = some (tyJx145de k) := by decide +kernel
def RJxb160c : String := "java/lang/Comparable"
def TJxb160c : u_T := fun k => match k with
  | _ => ("", "", "", false)
def tyJxb160c : Nat → FieldType := fun k => match k with
  | _ => .int
abbrev wsJxb160c0 : List Cond := u_ws RJxb160c TJxb160c 0
theorem nmJxb160c : ∀ a, a < 0 → ∀ b, b < 0 → a ≠ b → (TJxb160c a).2.1 ≠ (TJxb160c b).2.1 := by decide +kernel
theorem tyJxb160c_ok : ∀ k, k < 0 → parseFieldDescriptor (TJxb160c k).2.2.1 = some (tyJxb160c k) := by decide +kernel
def RJxf58ca : String := "java/lang/Float"
def TJxf58ca : u_T := fun k => match k with
  | _ => ("", "", "", false)
def tyJxf58ca : Nat → FieldType := fun k => match k with
  | _ => .int
abbrev wsJxf58ca0 : List Cond := u_ws RJxf58ca TJxf58ca 0
theorem nmJxf58ca : ∀ a, a < 0 → ∀ b, b < 0 → a ≠ b → (TJxf58ca a).2.1 ≠ (TJxf58ca b).2.1 := by decide +kernel
theorem tyJxf58ca_ok : ∀ k, k < 0 → parseFieldDescriptor (TJxf58ca k).2.2.1 = some (tyJxf58ca k) := by decide +kernel
abbrev cJxf58ca_isNaN_12338 : ByteArray := prog_10_method_6_code
def yJxf58ca_isNaN_12338 : MethodName := ⟨RJxf58ca, "isNaN", "(F)Z"⟩
abbrev cJxf58ca_floatToIntBits_5c35a : ByteArray := prog_10_method_24_code
def yJxf58ca_floatToIntBits_5c35a : MethodName := ⟨RJxf58ca, "floatToIntBits", "(F)I"⟩
def RJ6 : String := "java/lang/Integer"
def TJ6 : u_T := fun k => match k with
  | _ => ("", "", "", false)
def tyJ6 : Nat → FieldType := fun k => match k with
  | _ => .int
abbrev wsJ60 : List Cond := u_ws RJ6 TJ6 0
theorem nmJ6 : ∀ a, a < 0 → ∀ b, b < 0 → a ≠ b → (TJ6 a).2.1 ≠ (TJ6 b).2.1 := by decide +kernel
theorem tyJ6_ok : ∀ k, k < 0 → parseFieldDescriptor (TJ6 k).2.2.1 = some (tyJ6 k) := by decide +kernel
abbrev cJ6_bitCount_0f7a4 : ByteArray := prog_13_method_49_code
def yJ6_bitCount_0f7a4 : MethodName := ⟨RJ6, "bitCount", "(I)I"⟩
def RJ9 : String := "java/lang/Math"
def TJ9 : u_T := fun k => match k with
  | _ => ("", "", "", false)
def tyJ9 : Nat → FieldType := fun k => match k with
  | _ => .int
abbrev wsJ90 : List Cond := u_ws RJ9 TJ9 0
theorem nmJ9 : ∀ a, a < 0 → ∀ b, b < 0 → a ≠ b → (TJ9 a).2.1 ≠ (TJ9 b).2.1 := by decide +kernel
theorem tyJ9_ok : ∀ k, k < 0 → parseFieldDescriptor (TJ9 k).2.2.1 = some (tyJ9 k) := by decide +kernel
abbrev cJ9_max_7cf53 : ByteArray := prog_14_method_65_code
def yJ9_max_7cf53 : MethodName := ⟨RJ9, "max", "(II)I"⟩
abbrev cJ9_min_7cf53 : ByteArray := prog_14_method_69_code
def yJ9_min_7cf53 : MethodName := ⟨RJ9, "min", "(II)I"⟩
def RJxd2413 : String := "java/lang/Number"
def TJxd2413 : u_T := fun k => match k with
  | _ => ("", "", "", false)
def tyJxd2413 : Nat → FieldType := fun k => match k with
  | _ => .int
abbrev wsJxd24130 : List Cond := u_ws RJxd2413 TJxd2413 0
theorem nmJxd2413 : ∀ a, a < 0 → ∀ b, b < 0 → a ≠ b → (TJxd2413 a).2.1 ≠ (TJxd2413 b).2.1 := by decide +kernel
theorem tyJxd2413_ok : ∀ k, k < 0 → parseFieldDescriptor (TJxd2413 k).2.2.1 = some (tyJxd2413 k) := by decide +kernel
def RJ0 : String := "java/lang/String"
def TJ0 : u_T := fun k => match k with
  | _ => ("", "", "", false)
def tyJ0 : Nat → FieldType := fun k => match k with
  | _ => .int
abbrev wsJ00 : List Cond := u_ws RJ0 TJ0 0
theorem nmJ0 : ∀ a, a < 0 → ∀ b, b < 0 → a ≠ b → (TJ0 a).2.1 ≠ (TJ0 b).2.1 := by decide +kernel
theorem tyJ0_ok : ∀ k, k < 0 → parseFieldDescriptor (TJ0 k).2.2.1 = some (tyJ0 k) := by decide +kernel
def RJ10 : String := "java/lang/System"
def TJ10 : u_T := fun k => match k with
  | _ => ("", "", "", false)
def tyJ10 : Nat → FieldType := fun k => match k with
  | _ => .int
abbrev wsJ100 : List Cond := u_ws RJ10 TJ10 0
theorem nmJ10 : ∀ a, a < 0 → ∀ b, b < 0 → a ≠ b → (TJ10 a).2.1 ≠ (TJ10 b).2.1 := by decide +kernel
theorem tyJ10_ok : ∀ k, k < 0 → parseFieldDescriptor (TJ10 k).2.2.1 = some (tyJ10 k) := by decide +kernel
def RJxfd54e : String := "java/lang/constant/Constable"
def TJxfd54e : u_T := fun k => match k with
  | _ => ("", "", "", false)
def tyJxfd54e : Nat → FieldType := fun k => match k with
  | _ => .int
abbrev wsJxfd54e0 : List Cond := u_ws RJxfd54e TJxfd54e 0
theorem nmJxfd54e : ∀ a, a < 0 → ∀ b, b < 0 → a ≠ b → (TJxfd54e a).2.1 ≠ (TJxfd54e b).2.1 := by decide +kernel
theorem tyJxfd54e_ok : ∀ k, k < 0 → parseFieldDescriptor (TJxfd54e k).2.2.1 = some (tyJxfd54e k) := by decide +kernel
def RJx3cf43 : String := "java/lang/constant/ConstantDesc"
def TJx3cf43 : u_T := fun k => match k with
  | _ => ("", "", "", false)
def tyJx3cf43 : Nat → FieldType := fun k => match k with
  | _ => .int
abbrev wsJx3cf430 : List Cond := u_ws RJx3cf43 TJx3cf43 0
theorem nmJx3cf43 : ∀ a, a < 0 → ∀ b, b < 0 → a ≠ b → (TJx3cf43 a).2.1 ≠ (TJx3cf43 b).2.1 := by decide +kernel
theorem tyJx3cf43_ok : ∀ k, k < 0 → parseFieldDescriptor (TJx3cf43 k).2.2.1 = some (tyJx3cf43 k) := by decide +kernel
def RJ7 : String := "java/util/Arrays"
def TJ7 : u_T := fun k => match k with
  | _ => ("", "", "", false)
def tyJ7 : Nat → FieldType := fun k => match k with
  | _ => .int
abbrev wsJ70 : List Cond := u_ws RJ7 TJ7 0
theorem nmJ7 : ∀ a, a < 0 → ∀ b, b < 0 → a ≠ b → (TJ7 a).2.1 ≠ (TJ7 b).2.1 := by decide +kernel
theorem tyJ7_ok : ∀ k, k < 0 → parseFieldDescriptor (TJ7 k).2.2.1 = some (tyJ7 k) := by decide +kernel
abbrev cJ7_fill_53178 : ByteArray := prog_20_method_103_code
def yJ7_fill_53178 : MethodName := ⟨RJ7, "fill", "([II)V"⟩
def RL : String := "LedgerStoreLaw"
abbrev cL_addNode : ByteArray := method_3_code
def yL_addNode : MethodName := ⟨RL, "addNode", "(LLedgerStore;[J)I"⟩
abbrev cL_crash : ByteArray := method_4_code
def yL_crash : MethodName := ⟨RL, "crash", "(LLedgerStore;I[J)I"⟩
abbrev cL_restart : ByteArray := method_5_code
def yL_restart : MethodName := ⟨RL, "restart", "(LLedgerStore;I[J)I"⟩
abbrev cL_deliver : ByteArray := method_6_code
def yL_deliver : MethodName := ⟨RL, "deliver", "(LLedgerStore;I[J)I"⟩
abbrev cL_inboxLength : ByteArray := method_7_code
def yL_inboxLength : MethodName := ⟨RL, "inboxLength", "(LLedgerStore;I[J)I"⟩
abbrev cL_weight : ByteArray := method_8_code
def yL_weight : MethodName := ⟨RL, "weight", "(LLedgerStore;I[J)I"⟩
abbrev cL_share : ByteArray := method_9_code
def yL_share : MethodName := ⟨RL, "share", "(LLedgerStore;I[D)I"⟩
abbrev cL_isFenced : ByteArray := method_10_code
def yL_isFenced : MethodName := ⟨RL, "isFenced", "(LLedgerStore;II[J)I"⟩
abbrev cL_createLedger : ByteArray := method_11_code
def yL_createLedger : MethodName := ⟨RL, "createLedger", "(LLedgerStore;III[J)I"⟩
abbrev cL_append : ByteArray := method_12_code
def yL_append : MethodName := ⟨RL, "append", "(LLedgerStore;II[J)I"⟩
abbrev cL_replace : ByteArray := method_13_code
def yL_replace : MethodName := ⟨RL, "replace", "(LLedgerStore;II[J)I"⟩
abbrev cL_recover : ByteArray := method_14_code
def yL_recover : MethodName := ⟨RL, "recover", "(LLedgerStore;I[J)I"⟩
abbrev cL_repair : ByteArray := method_15_code
def yL_repair : MethodName := ⟨RL, "repair", "(LLedgerStore;I[J)I"⟩
abbrev cL_read : ByteArray := method_16_code
def yL_read : MethodName := ⟨RL, "read", "(LLedgerStore;II[J)I"⟩
abbrev cL_state : ByteArray := method_17_code
def yL_state : MethodName := ⟨RL, "state", "(LLedgerStore;I[J)I"⟩
abbrev cL_lastReadable : ByteArray := method_18_code
def yL_lastReadable : MethodName := ⟨RL, "lastReadable", "(LLedgerStore;I[J)I"⟩
abbrev cL_appended : ByteArray := method_19_code
def yL_appended : MethodName := ⟨RL, "appended", "(LLedgerStore;I[J)I"⟩
abbrev cL_acknowledgements : ByteArray := method_20_code
def yL_acknowledgements : MethodName := ⟨RL, "acknowledgements", "(LLedgerStore;II[J)I"⟩
abbrev cL_holders : ByteArray := method_21_code
def yL_holders : MethodName := ⟨RL, "holders", "(LLedgerStore;II[J)I"⟩
abbrev cL_fragmentCount : ByteArray := method_22_code
def yL_fragmentCount : MethodName := ⟨RL, "fragmentCount", "(LLedgerStore;I[J)I"⟩
abbrev cL_firstEntry : ByteArray := method_23_code
def yL_firstEntry : MethodName := ⟨RL, "firstEntry", "(LLedgerStore;II[J)I"⟩
abbrev cL_member : ByteArray := method_24_code
def yL_member : MethodName := ⟨RL, "member", "(LLedgerStore;III[J)I"⟩
abbrev cL_underReplicated : ByteArray := method_25_code
def yL_underReplicated : MethodName := ⟨RL, "underReplicated", "(LLedgerStore;I[J)I"⟩
abbrev cL_undo : ByteArray := method_26_code
def yL_undo : MethodName := ⟨RL, "undo", "(LLedgerStore;[J)I"⟩
abbrev cL_law : ByteArray := code
def yL_law : MethodName := ⟨RL, "law", "([I)Z"⟩
abbrev vwCl : List vw_C := [(RX0, TX0, 12), (RX1, TX1, 6), (RX3, TX3, 5), (RX4, TX4, 3), (RX5, TX5, 2), (RX6, TX6, 5)]
end
section
def LW : List Cond := lw_tbl.filter goodWord
theorem lw_mem {w : Cond} {i : Nat} (h : lw_tbl[i]? = some w) (g : goodWord w = true) : w ∈ LW := List.mem_filter.mpr ⟨List.mem_of_getElem? h, g⟩
theorem lw_sub : ∀ w ∈ LW, w ∈ lw_tbl := fun _ h => (List.mem_filter.mp h).1
theorem lw_good : ∀ w ∈ LW, goodWord w = true := fun _ h => (List.mem_filter.mp h).2
theorem iwX0 : ∀ w ∈ wsX00, w ∈ LW := fun w h => List.mem_filter.mpr ⟨(show ∀ w ∈ wsX00, w ∈ lw_tbl by decide +kernel) w h, List.all_eq_true.mp (show (wsX00).all goodWord = true by decide +kernel) w h⟩
theorem iwX1 : ∀ w ∈ wsX10, w ∈ LW := fun w h => List.mem_filter.mpr ⟨(show ∀ w ∈ wsX10, w ∈ lw_tbl by decide +kernel) w h, List.all_eq_true.mp (show (wsX10).all goodWord = true by decide +kernel) w h⟩
theorem iwX3 : ∀ w ∈ wsX30, w ∈ LW := fun w h => List.mem_filter.mpr ⟨(show ∀ w ∈ wsX30, w ∈ lw_tbl by decide +kernel) w h, List.all_eq_true.mp (show (wsX30).all goodWord = true by decide +kernel) w h⟩
theorem iwX4 : ∀ w ∈ wsX40, w ∈ LW := fun w h => List.mem_filter.mpr ⟨(show ∀ w ∈ wsX40, w ∈ lw_tbl by decide +kernel) w h, List.all_eq_true.mp (show (wsX40).all goodWord = true by decide +kernel) w h⟩
theorem iwX5 : ∀ w ∈ wsX50, w ∈ LW := fun w h => List.mem_filter.mpr ⟨(show ∀ w ∈ wsX50, w ∈ lw_tbl by decide +kernel) w h, List.all_eq_true.mp (show (wsX50).all goodWord = true by decide +kernel) w h⟩
theorem iwX6 : ∀ w ∈ wsX60, w ∈ LW := fun w h => List.mem_filter.mpr ⟨(show ∀ w ∈ wsX60, w ∈ lw_tbl by decide +kernel) w h, List.all_eq_true.mp (show (wsX60).all goodWord = true by decide +kernel) w h⟩
theorem k_cl_RL_8 : (Cond.classLink RL 8 RX5) ∈ LW := lw_mem (i := 64) (by decide +kernel) rfl
theorem k_it_RX5 : (Cond.instantiable RX5 2) ∈ LW := lw_mem (i := 65) (by decide +kernel) rfl
theorem k_in_RX5 : (Cond.initialized RX5) ∈ LW := lw_mem (i := 46) (by decide +kernel) rfl
theorem k_cl_RL_92 : (Cond.classLink RL 92 RX6) ∈ LW := lw_mem (i := 849) (by decide +kernel) rfl
theorem k_it_RX6 : (Cond.instantiable RX6 5) ∈ LW := lw_mem (i := 850) (by decide +kernel) rfl
theorem k_in_RX6 : (Cond.initialized RX6) ∈ LW := lw_mem (i := 51) (by decide +kernel) rfl
theorem k_ac_long : (Cond.arrayClass .long) ∈ LW := lw_mem (i := 1155) (by decide +kernel) rfl
theorem k_ac_double : (Cond.arrayClass .double) ∈ LW := lw_mem (i := 1156) (by decide +kernel) rfl
theorem k_ml_RL_91 : (Cond.methodLink RL 91 yX5_init) ∈ LW := lw_mem (i := 66) (by decide +kernel) rfl
theorem k_im_yX5_init : (Cond.instanceMethod yX5_init) ∈ LW := lw_mem (i := 67) (by decide +kernel) rfl
theorem k_co_yX5_init : (Cond.code yX5_init cX5_init 1 none) ∈ LW := lw_mem (i := 68) (by decide +kernel) rfl
theorem k_ml_RX5_3 : (Cond.methodLink RX5 3 objectInit) ∈ LW := lw_mem (i := 69) (by decide +kernel) rfl
theorem k_im_objectInit : (Cond.instanceMethod objectInit) ∈ LW := lw_mem (i := 70) (by decide +kernel) rfl
theorem k_co_objectInit : (Cond.code objectInit ⟨#[0xb1]⟩ 1 none) ∈ LW := lw_mem (i := 71) (by decide +kernel) rfl
theorem k_cl_RX5_9 : (Cond.classLink RX5 9 RX3) ∈ LW := lw_mem (i := 72) (by decide +kernel) rfl
theorem k_it_RX3 : (Cond.instantiable RX3 5) ∈ LW := lw_mem (i := 73) (by decide +kernel) rfl
theorem k_in_RX3 : (Cond.initialized RX3) ∈ LW := lw_mem (i := 47) (by decide +kernel) rfl
theorem k_fl_RX5_12 : (Cond.fieldLink RX5 12 "LedgerStore" "now" "LLedgerStore$State;") ∈ LW := lw_mem (i := 208) (by decide +kernel) rfl
theorem k_cl_RX5_16 : (Cond.classLink RX5 16 RX4) ∈ LW := lw_mem (i := 189) (by decide +kernel) rfl
theorem k_it_RX4 : (Cond.instantiable RX4 3) ∈ LW := lw_mem (i := 190) (by decide +kernel) rfl
theorem k_in_RX4 : (Cond.initialized RX4) ∈ LW := lw_mem (i := 50) (by decide +kernel) rfl
theorem k_fl_RX5_19 : (Cond.fieldLink RX5 19 "LedgerStore" "past" "LLedgerStore$UndoStack;") ∈ LW := lw_mem (i := 209) (by decide +kernel) rfl
theorem k_ml_RX5_11 : (Cond.methodLink RX5 11 yX3_init) ∈ LW := lw_mem (i := 74) (by decide +kernel) rfl
theorem k_im_yX3_init : (Cond.instanceMethod yX3_init) ∈ LW := lw_mem (i := 75) (by decide +kernel) rfl
theorem k_co_yX3_init : (Cond.code yX3_init cX3_init 2 none) ∈ LW := lw_mem (i := 76) (by decide +kernel) rfl
theorem k_ml_RX3_3 : (Cond.methodLink RX3 3 objectInit) ∈ LW := lw_mem (i := 77) (by decide +kernel) rfl
theorem k_cl_RX3_9 : (Cond.classLink RX3 9 RX1) ∈ LW := lw_mem (i := 78) (by decide +kernel) rfl
theorem k_fl_RX3_11 : (Cond.fieldLink RX3 11 "LedgerStore$State" "nodes" "[LLedgerStore$Node;") ∈ LW := lw_mem (i := 176) (by decide +kernel) rfl
theorem k_cl_RX3_17 : (Cond.classLink RX3 17 RX0) ∈ LW := lw_mem (i := 80) (by decide +kernel) rfl
theorem k_fl_RX3_19 : (Cond.fieldLink RX3 19 "LedgerStore$State" "ledgers" "[LLedgerStore$Ledger;") ∈ LW := lw_mem (i := 177) (by decide +kernel) rfl
theorem k_it_RX1 : (Cond.instantiable RX1 6) ∈ LW := lw_mem (i := 82) (by decide +kernel) rfl
theorem k_in_RX1 : (Cond.initialized RX1) ∈ LW := lw_mem (i := 48) (by decide +kernel) rfl
theorem k_it_RX0 : (Cond.instantiable RX0 12) ∈ LW := lw_mem (i := 113) (by decide +kernel) rfl
theorem k_in_RX0 : (Cond.initialized RX0) ∈ LW := lw_mem (i := 49) (by decide +kernel) rfl
theorem k_im_yX1_init : (Cond.instanceMethod yX1_init) ∈ LW := lw_mem (i := 84) (by decide +kernel) rfl
theorem k_co_yX1_init : (Cond.code yX1_init cX1_init 1 none) ∈ LW := lw_mem (i := 85) (by decide +kernel) rfl
theorem k_ml_RX1_3 : (Cond.methodLink RX1 3 objectInit) ∈ LW := lw_mem (i := 86) (by decide +kernel) rfl
theorem k_ac_int : (Cond.arrayClass .int) ∈ LW := lw_mem (i := 112) (by decide +kernel) rfl
theorem k_fl_RX1_9 : (Cond.fieldLink RX1 9 "LedgerStore$Node" "stored" "[I") ∈ LW := lw_mem (i := 97) (by decide +kernel) rfl
theorem k_fl_RX1_15 : (Cond.fieldLink RX1 15 "LedgerStore$Node" "inbox" "[I") ∈ LW := lw_mem (i := 98) (by decide +kernel) rfl
theorem k_ml_RX3_24 : (Cond.methodLink RX3 24 yX0_init) ∈ LW := lw_mem (i := 114) (by decide +kernel) rfl
theorem k_im_yX0_init : (Cond.instanceMethod yX0_init) ∈ LW := lw_mem (i := 115) (by decide +kernel) rfl
theorem k_co_yX0_init : (Cond.code yX0_init cX0_init 2 none) ∈ LW := lw_mem (i := 116) (by decide +kernel) rfl
theorem k_ml_RX0_3 : (Cond.methodLink RX0 3 objectInit) ∈ LW := lw_mem (i := 117) (by decide +kernel) rfl
theorem k_fl_RX0_9 : (Cond.fieldLink RX0 9 "LedgerStore$Ledger" "payloads" "[I") ∈ LW := lw_mem (i := 141) (by decide +kernel) rfl
theorem k_fl_RX0_15 : (Cond.fieldLink RX0 15 "LedgerStore$Ledger" "acknowledgers" "[I") ∈ LW := lw_mem (i := 142) (by decide +kernel) rfl
theorem k_fl_RX0_18 : (Cond.fieldLink RX0 18 "LedgerStore$Ledger" "starts" "[I") ∈ LW := lw_mem (i := 143) (by decide +kernel) rfl
theorem k_fl_RX0_21 : (Cond.fieldLink RX0 21 "LedgerStore$Ledger" "members" "[I") ∈ LW := lw_mem (i := 144) (by decide +kernel) rfl
theorem k_fl_RX0_24 : (Cond.fieldLink RX0 24 "LedgerStore$Ledger" "number" "I") ∈ LW := lw_mem (i := 118) (by decide +kernel) rfl
theorem k_im_yX4_init : (Cond.instanceMethod yX4_init) ∈ LW := lw_mem (i := 192) (by decide +kernel) rfl
theorem k_co_yX4_init : (Cond.code yX4_init cX4_init 1 none) ∈ LW := lw_mem (i := 193) (by decide +kernel) rfl
theorem k_ml_RX4_3 : (Cond.methodLink RX4 3 objectInit) ∈ LW := lw_mem (i := 194) (by decide +kernel) rfl
theorem k_cl_RX4_9 : (Cond.classLink RX4 9 RX3) ∈ LW := lw_mem (i := 195) (by decide +kernel) rfl
theorem k_fl_RX4_11 : (Cond.fieldLink RX4 11 "LedgerStore$UndoStack" "ring" "[LLedgerStore$State;") ∈ LW := lw_mem (i := 200) (by decide +kernel) rfl
theorem k_ml_RL_94 : (Cond.methodLink RL 94 yX6_init) ∈ LW := lw_mem (i := 851) (by decide +kernel) rfl
theorem k_im_yX6_init : (Cond.instanceMethod yX6_init) ∈ LW := lw_mem (i := 852) (by decide +kernel) rfl
theorem k_co_yX6_init : (Cond.code yX6_init cX6_init 1 none) ∈ LW := lw_mem (i := 853) (by decide +kernel) rfl
theorem k_ml_RX6_1 : (Cond.methodLink RX6 1 objectInit) ∈ LW := lw_mem (i := 854) (by decide +kernel) rfl
theorem k_fl_RX6_7 : (Cond.fieldLink RX6 7 "LedgerStoreModel" "s" "[I") ∈ LW := lw_mem (i := 855) (by decide +kernel) rfl
theorem k_fl_RX6_13 : (Cond.fieldLink RX6 13 "LedgerStoreModel" "past" "[I") ∈ LW := lw_mem (i := 856) (by decide +kernel) rfl
theorem k_fl_RX6_16 : (Cond.fieldLink RX6 16 "LedgerStoreModel" "pasts" "I") ∈ LW := lw_mem (i := 857) (by decide +kernel) rfl
theorem k_ml_RL_95 : (Cond.methodLink RL 95 yL_addNode) ∈ LW := lw_mem (i := 421) (by decide +kernel) rfl
theorem k_st_yL_addNode : (Cond.static yL_addNode) ∈ LW := lw_mem (i := 422) (by decide +kernel) rfl
theorem k_in_RL : (Cond.initialized RL) ∈ LW := lw_mem (i := 45) (by decide +kernel) rfl
theorem k_cw_yL_addNode : (Cond.codeWith yL_addNode cL_addNode 3 (some .int) [(0, 8, 11, 13)]) ∈ LW := lw_mem (i := 423) (by decide +kernel) rfl
theorem k_cl_RL_13 : (Cond.classLink RL 13 "java/lang/IllegalStateException") ∈ LW := lw_mem (i := 424) (by decide +kernel) rfl
theorem k_ml_RL_7 : (Cond.methodLink RL 7 yX5_addNode) ∈ LW := lw_mem (i := 425) (by decide +kernel) rfl
theorem k_im_yX5_addNode : (Cond.instanceMethod yX5_addNode) ∈ LW := lw_mem (i := 426) (by decide +kernel) rfl
theorem k_se_yX5_addNode : (Cond.selects RX5 yX5_addNode yX5_addNode) ∈ LW := lw_mem (i := 427) (by decide +kernel) rfl
theorem k_co_yX5_addNode : (Cond.code yX5_addNode cX5_addNode 1 (some .int)) ∈ LW := lw_mem (i := 428) (by decide +kernel) rfl
theorem k_cl_RX5_27 : (Cond.classLink RX5 27 "java/lang/IllegalStateException") ∈ LW := lw_mem (i := 429) (by decide +kernel) rfl
theorem k_in_J_IllegalStateException : (Cond.initialized "java/lang/IllegalStateException") ∈ LW := lw_mem (i := 55) (by decide +kernel) rfl
theorem k_fl_RX5_23 : (Cond.fieldLink RX5 23 "LedgerStore$State" "nodeCount" "I") ∈ LW := lw_mem (i := 171) (by decide +kernel) rfl
theorem k_ml_RX5_34 : (Cond.methodLink RX5 34 yX4_push) ∈ LW := lw_mem (i := 219) (by decide +kernel) rfl
theorem k_im_yX4_push : (Cond.instanceMethod yX4_push) ∈ LW := lw_mem (i := 220) (by decide +kernel) rfl
theorem k_se_yX4_push : (Cond.selects RX4 yX4_push yX4_push) ∈ LW := lw_mem (i := 221) (by decide +kernel) rfl
theorem k_co_yX4_push : (Cond.code yX4_push cX4_push 3 none) ∈ LW := lw_mem (i := 222) (by decide +kernel) rfl
theorem k_fl_RX4_17 : (Cond.fieldLink RX4 17 "LedgerStore$UndoStack" "next" "I") ∈ LW := lw_mem (i := 199) (by decide +kernel) rfl
theorem k_fl_RX4_26 : (Cond.fieldLink RX4 26 "LedgerStore$UndoStack" "depth" "I") ∈ LW := lw_mem (i := 197) (by decide +kernel) rfl
theorem k_ml_RX4_29 : (Cond.methodLink RX4 29 Lib.Math.min.name) ∈ LW := lw_mem (i := 254) (by decide +kernel) rfl
theorem k_st_Lib_Math_min_name : (Cond.static Lib.Math.min.name) ∈ LW := lw_mem (i := 240) (by decide +kernel) rfl
theorem k_in_J_Math : (Cond.initialized "java/lang/Math") ∈ LW := lw_mem (i := 56) (by decide +kernel) rfl
theorem k_co_Lib_Math_min_name : (Cond.code Lib.Math.min.name Lib.Math.min.code 2 (some .int)) ∈ LW := lw_mem (i := 241) (by decide +kernel) rfl
theorem k_ml_RX4_21 : (Cond.methodLink RX4 21 yX3_init) ∈ LW := lw_mem (i := 223) (by decide +kernel) rfl
theorem k_ml_RX4_22 : (Cond.methodLink RX4 22 yX3_takeOver) ∈ LW := lw_mem (i := 224) (by decide +kernel) rfl
theorem k_im_yX3_takeOver : (Cond.instanceMethod yX3_takeOver) ∈ LW := lw_mem (i := 225) (by decide +kernel) rfl
theorem k_se_yX3_takeOver : (Cond.selects RX3 yX3_takeOver yX3_takeOver) ∈ LW := lw_mem (i := 226) (by decide +kernel) rfl
theorem k_co_yX3_takeOver : (Cond.code yX3_takeOver cX3_takeOver 5 none) ∈ LW := lw_mem (i := 227) (by decide +kernel) rfl
theorem k_fl_RX3_27 : (Cond.fieldLink RX3 27 "LedgerStore$State" "nodeCount" "I") ∈ LW := lw_mem (i := 170) (by decide +kernel) rfl
theorem k_fl_RX3_31 : (Cond.fieldLink RX3 31 "LedgerStore$State" "ledgerCount" "I") ∈ LW := lw_mem (i := 172) (by decide +kernel) rfl
theorem k_fl_RX3_34 : (Cond.fieldLink RX3 34 "LedgerStore$State" "rejected" "I") ∈ LW := lw_mem (i := 174) (by decide +kernel) rfl
theorem k_ml_RX3_37 : (Cond.methodLink RX3 37 yX3_node) ∈ LW := lw_mem (i := 228) (by decide +kernel) rfl
theorem k_im_yX3_node : (Cond.instanceMethod yX3_node) ∈ LW := lw_mem (i := 229) (by decide +kernel) rfl
theorem k_se_yX3_node : (Cond.selects RX3 yX3_node yX3_node) ∈ LW := lw_mem (i := 230) (by decide +kernel) rfl
theorem k_co_yX3_node : (Cond.code yX3_node cX3_node 2 (some (.object "LedgerStore$Node"))) ∈ LW := lw_mem (i := 231) (by decide +kernel) rfl
theorem k_ml_RX3_41 : (Cond.methodLink RX3 41 yX1_copyFrom) ∈ LW := lw_mem (i := 232) (by decide +kernel) rfl
theorem k_im_yX1_copyFrom : (Cond.instanceMethod yX1_copyFrom) ∈ LW := lw_mem (i := 233) (by decide +kernel) rfl
theorem k_se_yX1_copyFrom : (Cond.selects RX1 yX1_copyFrom yX1_copyFrom) ∈ LW := lw_mem (i := 234) (by decide +kernel) rfl
theorem k_co_yX1_copyFrom : (Cond.code yX1_copyFrom cX1_copyFrom 2 none) ∈ LW := lw_mem (i := 235) (by decide +kernel) rfl
theorem k_fl_RX1_18 : (Cond.fieldLink RX1 18 "LedgerStore$Node" "up" "Z") ∈ LW := lw_mem (i := 87) (by decide +kernel) rfl
theorem k_fl_RX1_22 : (Cond.fieldLink RX1 22 "LedgerStore$Node" "fences" "I") ∈ LW := lw_mem (i := 90) (by decide +kernel) rfl
theorem k_fl_RX1_26 : (Cond.fieldLink RX1 26 "LedgerStore$Node" "storedCount" "I") ∈ LW := lw_mem (i := 91) (by decide +kernel) rfl
theorem k_fl_RX1_29 : (Cond.fieldLink RX1 29 "LedgerStore$Node" "waiting" "I") ∈ LW := lw_mem (i := 94) (by decide +kernel) rfl
theorem k_st_yX5_copyRow : (Cond.static yX5_copyRow) ∈ LW := lw_mem (i := 237) (by decide +kernel) rfl
theorem k_co_yX5_copyRow : (Cond.code yX5_copyRow cX5_copyRow 2 none) ∈ LW := lw_mem (i := 238) (by decide +kernel) rfl
theorem k_ml_RX5_273 : (Cond.methodLink RX5 273 Lib.Math.min.name) ∈ LW := lw_mem (i := 239) (by decide +kernel) rfl
theorem k_ml_RX5_278 : (Cond.methodLink RX5 278 arraycopyName) ∈ LW := lw_mem (i := 242) (by decide +kernel) rfl
theorem k_na_arraycopyName : (Cond.native arraycopyName) ∈ LW := lw_mem (i := 244) (by decide +kernel) rfl
theorem k_st_arraycopyName : (Cond.static arraycopyName) ∈ LW := lw_mem (i := 243) (by decide +kernel) rfl
theorem k_in_J_System : (Cond.initialized "java/lang/System") ∈ LW := lw_mem (i := 57) (by decide +kernel) rfl
theorem k_ml_RX3_45 : (Cond.methodLink RX3 45 yX3_ledger) ∈ LW := lw_mem (i := 245) (by decide +kernel) rfl
theorem k_im_yX3_ledger : (Cond.instanceMethod yX3_ledger) ∈ LW := lw_mem (i := 246) (by decide +kernel) rfl
theorem k_se_yX3_ledger : (Cond.selects RX3 yX3_ledger yX3_ledger) ∈ LW := lw_mem (i := 247) (by decide +kernel) rfl
theorem k_co_yX3_ledger : (Cond.code yX3_ledger cX3_ledger 2 (some (.object "LedgerStore$Ledger"))) ∈ LW := lw_mem (i := 248) (by decide +kernel) rfl
theorem k_ml_RX3_49 : (Cond.methodLink RX3 49 yX0_copyFrom) ∈ LW := lw_mem (i := 249) (by decide +kernel) rfl
theorem k_im_yX0_copyFrom : (Cond.instanceMethod yX0_copyFrom) ∈ LW := lw_mem (i := 250) (by decide +kernel) rfl
theorem k_se_yX0_copyFrom : (Cond.selects RX0 yX0_copyFrom yX0_copyFrom) ∈ LW := lw_mem (i := 251) (by decide +kernel) rfl
theorem k_co_yX0_copyFrom : (Cond.code yX0_copyFrom cX0_copyFrom 2 none) ∈ LW := lw_mem (i := 252) (by decide +kernel) rfl
theorem k_fl_RX0_28 : (Cond.fieldLink RX0 28 "LedgerStore$Ledger" "ensembleSize" "I") ∈ LW := lw_mem (i := 121) (by decide +kernel) rfl
theorem k_fl_RX0_31 : (Cond.fieldLink RX0 31 "LedgerStore$Ledger" "writeQuorum" "I") ∈ LW := lw_mem (i := 124) (by decide +kernel) rfl
theorem k_fl_RX0_34 : (Cond.fieldLink RX0 34 "LedgerStore$Ledger" "ackQuorum" "I") ∈ LW := lw_mem (i := 127) (by decide +kernel) rfl
theorem k_fl_RX0_37 : (Cond.fieldLink RX0 37 "LedgerStore$Ledger" "phase" "I") ∈ LW := lw_mem (i := 130) (by decide +kernel) rfl
theorem k_fl_RX0_40 : (Cond.fieldLink RX0 40 "LedgerStore$Ledger" "entries" "I") ∈ LW := lw_mem (i := 133) (by decide +kernel) rfl
theorem k_fl_RX0_43 : (Cond.fieldLink RX0 43 "LedgerStore$Ledger" "lastEntry" "I") ∈ LW := lw_mem (i := 136) (by decide +kernel) rfl
theorem k_fl_RX0_46 : (Cond.fieldLink RX0 46 "LedgerStore$Ledger" "fragments" "I") ∈ LW := lw_mem (i := 138) (by decide +kernel) rfl
theorem k_ml_RX5_38 : (Cond.methodLink RX5 38 yX3_beginNode) ∈ LW := lw_mem (i := 496) (by decide +kernel) rfl
theorem k_im_yX3_beginNode : (Cond.instanceMethod yX3_beginNode) ∈ LW := lw_mem (i := 497) (by decide +kernel) rfl
theorem k_se_yX3_beginNode : (Cond.selects RX3 yX3_beginNode yX3_beginNode) ∈ LW := lw_mem (i := 498) (by decide +kernel) rfl
theorem k_co_yX3_beginNode : (Cond.code yX3_beginNode cX3_beginNode 3 (some .int)) ∈ LW := lw_mem (i := 499) (by decide +kernel) rfl
theorem k_ml_RX3_52 : (Cond.methodLink RX3 52 yX1_begin) ∈ LW := lw_mem (i := 500) (by decide +kernel) rfl
theorem k_im_yX1_begin : (Cond.instanceMethod yX1_begin) ∈ LW := lw_mem (i := 501) (by decide +kernel) rfl
theorem k_se_yX1_begin : (Cond.selects RX1 yX1_begin yX1_begin) ∈ LW := lw_mem (i := 502) (by decide +kernel) rfl
theorem k_co_yX1_begin : (Cond.code yX1_begin cX1_begin 1 none) ∈ LW := lw_mem (i := 503) (by decide +kernel) rfl
theorem k_ml_RX1_32 : (Cond.methodLink RX1 32 yJ7_fill_53178) ∈ LW := lw_mem (i := 504) (by decide +kernel) rfl
theorem k_st_yJ7_fill_53178 : (Cond.static yJ7_fill_53178) ∈ LW := lw_mem (i := 505) (by decide +kernel) rfl
theorem k_in_RJ7 : (Cond.initialized RJ7) ∈ LW := lw_mem (i := 58) (by decide +kernel) rfl
theorem k_co_yJ7_fill_53178 : (Cond.code yJ7_fill_53178 cJ7_fill_53178 4 none) ∈ LW := lw_mem (i := 506) (by decide +kernel) rfl
theorem k_ml_RL_100 : (Cond.methodLink RL 100 yX6_addNode) ∈ LW := lw_mem (i := 875) (by decide +kernel) rfl
theorem k_im_yX6_addNode : (Cond.instanceMethod yX6_addNode) ∈ LW := lw_mem (i := 876) (by decide +kernel) rfl
theorem k_se_yX6_addNode : (Cond.selects RX6 yX6_addNode yX6_addNode) ∈ LW := lw_mem (i := 877) (by decide +kernel) rfl
theorem k_co_yX6_addNode : (Cond.code yX6_addNode cX6_addNode 1 (some .int)) ∈ LW := lw_mem (i := 878) (by decide +kernel) rfl
theorem k_fl_RX6_20 : (Cond.fieldLink RX6 20 "LedgerStoreModel" "thrown" "I") ∈ LW := lw_mem (i := 858) (by decide +kernel) rfl
theorem k_ml_RX6_63 : (Cond.methodLink RX6 63 yX6_note) ∈ LW := lw_mem (i := 879) (by decide +kernel) rfl
theorem k_im_yX6_note : (Cond.instanceMethod yX6_note) ∈ LW := lw_mem (i := 881) (by decide +kernel) rfl
theorem k_se_yX6_note : (Cond.selects RX6 yX6_note yX6_note) ∈ LW := lw_mem (i := 8) (by decide +kernel) rfl
theorem k_co_yX6_note : (Cond.code yX6_note cX6_note 2 none) ∈ LW := lw_mem (i := 882) (by decide +kernel) rfl
theorem k_ml_RL_101 : (Cond.methodLink RL 101 yX6_thrown) ∈ LW := lw_mem (i := 871) (by decide +kernel) rfl
theorem k_im_yX6_thrown : (Cond.instanceMethod yX6_thrown) ∈ LW := lw_mem (i := 872) (by decide +kernel) rfl
theorem k_se_yX6_thrown : (Cond.selects RX6 yX6_thrown yX6_thrown) ∈ LW := lw_mem (i := 873) (by decide +kernel) rfl
theorem k_co_yX6_thrown : (Cond.code yX6_thrown cX6_thrown 1 (some .int)) ∈ LW := lw_mem (i := 874) (by decide +kernel) rfl
theorem k_ml_RL_104 : (Cond.methodLink RL 104 yL_crash) ∈ LW := lw_mem (i := 507) (by decide +kernel) rfl
theorem k_st_yL_crash : (Cond.static yL_crash) ∈ LW := lw_mem (i := 508) (by decide +kernel) rfl
theorem k_cw_yL_crash : (Cond.codeWith yL_crash cL_crash 4 (some .int) [(0, 9, 12, 19), (0, 9, 15, 13)]) ∈ LW := lw_mem (i := 509) (by decide +kernel) rfl
theorem k_cl_RL_19 : (Cond.classLink RL 19 "java/lang/IllegalArgumentException") ∈ LW := lw_mem (i := 510) (by decide +kernel) rfl
theorem k_ml_RL_15 : (Cond.methodLink RL 15 yX5_crash) ∈ LW := lw_mem (i := 511) (by decide +kernel) rfl
theorem k_im_yX5_crash : (Cond.instanceMethod yX5_crash) ∈ LW := lw_mem (i := 512) (by decide +kernel) rfl
theorem k_se_yX5_crash : (Cond.selects RX5 yX5_crash yX5_crash) ∈ LW := lw_mem (i := 513) (by decide +kernel) rfl
theorem k_co_yX5_crash : (Cond.code yX5_crash cX5_crash 4 (some .int)) ∈ LW := lw_mem (i := 514) (by decide +kernel) rfl
theorem k_fl_RX5_46 : (Cond.fieldLink RX5 46 "LedgerStore$Node" "up" "Z") ∈ LW := lw_mem (i := 88) (by decide +kernel) rfl
theorem k_fl_RX5_54 : (Cond.fieldLink RX5 54 "LedgerStore$Node" "waiting" "I") ∈ LW := lw_mem (i := 95) (by decide +kernel) rfl
theorem k_ml_RX5_42 : (Cond.methodLink RX5 42 yX5_existingNode) ∈ LW := lw_mem (i := 515) (by decide +kernel) rfl
theorem k_im_yX5_existingNode : (Cond.instanceMethod yX5_existingNode) ∈ LW := lw_mem (i := 517) (by decide +kernel) rfl
theorem k_se_yX5_existingNode : (Cond.selects RX5 yX5_existingNode yX5_existingNode) ∈ LW := lw_mem (i := 6) (by decide +kernel) rfl
theorem k_co_yX5_existingNode : (Cond.code yX5_existingNode cX5_existingNode 3 (some (.object "LedgerStore$Node"))) ∈ LW := lw_mem (i := 518) (by decide +kernel) rfl
theorem k_cl_RX5_90 : (Cond.classLink RX5 90 "java/lang/IllegalArgumentException") ∈ LW := lw_mem (i := 519) (by decide +kernel) rfl
theorem k_in_J_IllegalArgumentException : (Cond.initialized "java/lang/IllegalArgumentException") ∈ LW := lw_mem (i := 59) (by decide +kernel) rfl
theorem k_ml_RX5_224 : (Cond.methodLink RX5 224 yX3_node) ∈ LW := lw_mem (i := 335) (by decide +kernel) rfl
theorem k_ml_RL_107 : (Cond.methodLink RL 107 yX6_crash) ∈ LW := lw_mem (i := 883) (by decide +kernel) rfl
theorem k_im_yX6_crash : (Cond.instanceMethod yX6_crash) ∈ LW := lw_mem (i := 884) (by decide +kernel) rfl
theorem k_se_yX6_crash : (Cond.selects RX6 yX6_crash yX6_crash) ∈ LW := lw_mem (i := 885) (by decide +kernel) rfl
theorem k_co_yX6_crash : (Cond.code yX6_crash cX6_crash 3 (some .int)) ∈ LW := lw_mem (i := 886) (by decide +kernel) rfl
theorem k_ml_RX6_66 : (Cond.methodLink RX6 66 yX6_isNode) ∈ LW := lw_mem (i := 887) (by decide +kernel) rfl
theorem k_im_yX6_isNode : (Cond.instanceMethod yX6_isNode) ∈ LW := lw_mem (i := 889) (by decide +kernel) rfl
theorem k_se_yX6_isNode : (Cond.selects RX6 yX6_isNode yX6_isNode) ∈ LW := lw_mem (i := 9) (by decide +kernel) rfl
theorem k_co_yX6_isNode : (Cond.code yX6_isNode cX6_isNode 2 (some .boolean)) ∈ LW := lw_mem (i := 890) (by decide +kernel) rfl
theorem k_ml_RX6_23 : (Cond.methodLink RX6 23 yX6_in) ∈ LW := lw_mem (i := 891) (by decide +kernel) rfl
theorem k_st_yX6_in : (Cond.static yX6_in) ∈ LW := lw_mem (i := 892) (by decide +kernel) rfl
theorem k_co_yX6_in : (Cond.code yX6_in cX6_in 3 (some .boolean)) ∈ LW := lw_mem (i := 893) (by decide +kernel) rfl
theorem k_ml_RX6_45 : (Cond.methodLink RX6 45 yX6_isUp) ∈ LW := lw_mem (i := 894) (by decide +kernel) rfl
theorem k_im_yX6_isUp : (Cond.instanceMethod yX6_isUp) ∈ LW := lw_mem (i := 896) (by decide +kernel) rfl
theorem k_se_yX6_isUp : (Cond.selects RX6 yX6_isUp yX6_isUp) ∈ LW := lw_mem (i := 10) (by decide +kernel) rfl
theorem k_co_yX6_isUp : (Cond.code yX6_isUp cX6_isUp 2 (some .boolean)) ∈ LW := lw_mem (i := 897) (by decide +kernel) rfl
theorem k_ml_RX6_69 : (Cond.methodLink RX6 69 yX6_isFine) ∈ LW := lw_mem (i := 898) (by decide +kernel) rfl
theorem k_im_yX6_isFine : (Cond.instanceMethod yX6_isFine) ∈ LW := lw_mem (i := 900) (by decide +kernel) rfl
theorem k_se_yX6_isFine : (Cond.selects RX6 yX6_isFine yX6_isFine) ∈ LW := lw_mem (i := 11) (by decide +kernel) rfl
theorem k_co_yX6_isFine : (Cond.code yX6_isFine cX6_isFine 3 (some .boolean)) ∈ LW := lw_mem (i := 901) (by decide +kernel) rfl
theorem k_ml_RX6_73 : (Cond.methodLink RX6 73 yX6_empty) ∈ LW := lw_mem (i := 902) (by decide +kernel) rfl
theorem k_im_yX6_empty : (Cond.instanceMethod yX6_empty) ∈ LW := lw_mem (i := 904) (by decide +kernel) rfl
theorem k_se_yX6_empty : (Cond.selects RX6 yX6_empty yX6_empty) ∈ LW := lw_mem (i := 12) (by decide +kernel) rfl
theorem k_co_yX6_empty : (Cond.code yX6_empty cX6_empty 3 none) ∈ LW := lw_mem (i := 905) (by decide +kernel) rfl
theorem k_ml_RL_108 : (Cond.methodLink RL 108 yL_restart) ∈ LW := lw_mem (i := 536) (by decide +kernel) rfl
theorem k_st_yL_restart : (Cond.static yL_restart) ∈ LW := lw_mem (i := 537) (by decide +kernel) rfl
theorem k_cw_yL_restart : (Cond.codeWith yL_restart cL_restart 4 (some .int) [(0, 9, 12, 19), (0, 9, 15, 13)]) ∈ LW := lw_mem (i := 538) (by decide +kernel) rfl
theorem k_ml_RL_21 : (Cond.methodLink RL 21 yX5_restart) ∈ LW := lw_mem (i := 539) (by decide +kernel) rfl
theorem k_im_yX5_restart : (Cond.instanceMethod yX5_restart) ∈ LW := lw_mem (i := 540) (by decide +kernel) rfl
theorem k_se_yX5_restart : (Cond.selects RX5 yX5_restart yX5_restart) ∈ LW := lw_mem (i := 541) (by decide +kernel) rfl
theorem k_co_yX5_restart : (Cond.code yX5_restart cX5_restart 3 (some .int)) ∈ LW := lw_mem (i := 542) (by decide +kernel) rfl
theorem k_fl_RX5_59 : (Cond.fieldLink RX5 59 "LedgerStore$Node" "storedCount" "I") ∈ LW := lw_mem (i := 92) (by decide +kernel) rfl
theorem k_ml_RL_110 : (Cond.methodLink RL 110 yX6_restart) ∈ LW := lw_mem (i := 906) (by decide +kernel) rfl
theorem k_im_yX6_restart : (Cond.instanceMethod yX6_restart) ∈ LW := lw_mem (i := 907) (by decide +kernel) rfl
theorem k_se_yX6_restart : (Cond.selects RX6 yX6_restart yX6_restart) ∈ LW := lw_mem (i := 908) (by decide +kernel) rfl
theorem k_co_yX6_restart : (Cond.code yX6_restart cX6_restart 2 (some .int)) ∈ LW := lw_mem (i := 909) (by decide +kernel) rfl
theorem k_ml_RX6_53 : (Cond.methodLink RX6 53 yX6_weightOf) ∈ LW := lw_mem (i := 910) (by decide +kernel) rfl
theorem k_im_yX6_weightOf : (Cond.instanceMethod yX6_weightOf) ∈ LW := lw_mem (i := 912) (by decide +kernel) rfl
theorem k_se_yX6_weightOf : (Cond.selects RX6 yX6_weightOf yX6_weightOf) ∈ LW := lw_mem (i := 13) (by decide +kernel) rfl
theorem k_co_yX6_weightOf : (Cond.code yX6_weightOf cX6_weightOf 4 (some .int)) ∈ LW := lw_mem (i := 913) (by decide +kernel) rfl
theorem k_ml_RL_111 : (Cond.methodLink RL 111 yL_deliver) ∈ LW := lw_mem (i := 544) (by decide +kernel) rfl
theorem k_st_yL_deliver : (Cond.static yL_deliver) ∈ LW := lw_mem (i := 545) (by decide +kernel) rfl
theorem k_cw_yL_deliver : (Cond.codeWith yL_deliver cL_deliver 4 (some .int) [(0, 9, 12, 19), (0, 9, 15, 13)]) ∈ LW := lw_mem (i := 546) (by decide +kernel) rfl
theorem k_ml_RL_24 : (Cond.methodLink RL 24 yX5_deliver) ∈ LW := lw_mem (i := 547) (by decide +kernel) rfl
theorem k_im_yX5_deliver : (Cond.instanceMethod yX5_deliver) ∈ LW := lw_mem (i := 548) (by decide +kernel) rfl
theorem k_se_yX5_deliver : (Cond.selects RX5 yX5_deliver yX5_deliver) ∈ LW := lw_mem (i := 549) (by decide +kernel) rfl
theorem k_co_yX5_deliver : (Cond.code yX5_deliver cX5_deliver 3 (some .int)) ∈ LW := lw_mem (i := 550) (by decide +kernel) rfl
theorem k_ml_RX5_64 : (Cond.methodLink RX5 64 yX3_processOldest) ∈ LW := lw_mem (i := 263) (by decide +kernel) rfl
theorem k_im_yX3_processOldest : (Cond.instanceMethod yX3_processOldest) ∈ LW := lw_mem (i := 264) (by decide +kernel) rfl
theorem k_se_yX3_processOldest : (Cond.selects RX3 yX3_processOldest yX3_processOldest) ∈ LW := lw_mem (i := 265) (by decide +kernel) rfl
theorem k_co_yX3_processOldest : (Cond.code yX3_processOldest cX3_processOldest 6 (some .int)) ∈ LW := lw_mem (i := 266) (by decide +kernel) rfl
theorem k_ml_RX3_86 : (Cond.methodLink RX3 86 yX1_takeOldest) ∈ LW := lw_mem (i := 267) (by decide +kernel) rfl
theorem k_im_yX1_takeOldest : (Cond.instanceMethod yX1_takeOldest) ∈ LW := lw_mem (i := 268) (by decide +kernel) rfl
theorem k_se_yX1_takeOldest : (Cond.selects RX1 yX1_takeOldest yX1_takeOldest) ∈ LW := lw_mem (i := 269) (by decide +kernel) rfl
theorem k_co_yX1_takeOldest : (Cond.code yX1_takeOldest cX1_takeOldest 2 (some .int)) ∈ LW := lw_mem (i := 270) (by decide +kernel) rfl
theorem k_ml_RX1_46 : (Cond.methodLink RX1 46 arraycopyName) ∈ LW := lw_mem (i := 271) (by decide +kernel) rfl
theorem k_ml_RX3_90 : (Cond.methodLink RX3 90 yX2_ledgerOf) ∈ LW := lw_mem (i := 272) (by decide +kernel) rfl
theorem k_st_yX2_ledgerOf : (Cond.static yX2_ledgerOf) ∈ LW := lw_mem (i := 273) (by decide +kernel) rfl
theorem k_in_RX2 : (Cond.initialized RX2) ∈ LW := lw_mem (i := 60) (by decide +kernel) rfl
theorem k_co_yX2_ledgerOf : (Cond.code yX2_ledgerOf cX2_ledgerOf 1 (some .int)) ∈ LW := lw_mem (i := 274) (by decide +kernel) rfl
theorem k_ml_RX3_95 : (Cond.methodLink RX3 95 yX1_isFencedFor) ∈ LW := lw_mem (i := 275) (by decide +kernel) rfl
theorem k_im_yX1_isFencedFor : (Cond.instanceMethod yX1_isFencedFor) ∈ LW := lw_mem (i := 276) (by decide +kernel) rfl
theorem k_se_yX1_isFencedFor : (Cond.selects RX1 yX1_isFencedFor yX1_isFencedFor) ∈ LW := lw_mem (i := 277) (by decide +kernel) rfl
theorem k_co_yX1_isFencedFor : (Cond.code yX1_isFencedFor cX1_isFencedFor 2 (some .boolean)) ∈ LW := lw_mem (i := 278) (by decide +kernel) rfl
theorem k_st_yX5_contains : (Cond.static yX5_contains) ∈ LW := lw_mem (i := 280) (by decide +kernel) rfl
theorem k_co_yX5_contains : (Cond.code yX5_contains cX5_contains 2 (some .boolean)) ∈ LW := lw_mem (i := 281) (by decide +kernel) rfl
theorem k_ml_RX3_98 : (Cond.methodLink RX3 98 yX1_keep) ∈ LW := lw_mem (i := 282) (by decide +kernel) rfl
theorem k_im_yX1_keep : (Cond.instanceMethod yX1_keep) ∈ LW := lw_mem (i := 283) (by decide +kernel) rfl
theorem k_se_yX1_keep : (Cond.selects RX1 yX1_keep yX1_keep) ∈ LW := lw_mem (i := 284) (by decide +kernel) rfl
theorem k_co_yX1_keep : (Cond.code yX1_keep cX1_keep 3 none) ∈ LW := lw_mem (i := 285) (by decide +kernel) rfl
theorem k_ml_RX1_52 : (Cond.methodLink RX1 52 yX2_ledgerOf) ∈ LW := lw_mem (i := 286) (by decide +kernel) rfl
theorem k_ml_RX1_58 : (Cond.methodLink RX1 58 yX2_entryOf) ∈ LW := lw_mem (i := 287) (by decide +kernel) rfl
theorem k_st_yX2_entryOf : (Cond.static yX2_entryOf) ∈ LW := lw_mem (i := 288) (by decide +kernel) rfl
theorem k_co_yX2_entryOf : (Cond.code yX2_entryOf cX2_entryOf 1 (some .int)) ∈ LW := lw_mem (i := 289) (by decide +kernel) rfl
theorem k_ml_RX1_61 : (Cond.methodLink RX1 61 yX1_slotOf) ∈ LW := lw_mem (i := 290) (by decide +kernel) rfl
theorem k_st_yX1_slotOf : (Cond.static yX1_slotOf) ∈ LW := lw_mem (i := 291) (by decide +kernel) rfl
theorem k_co_yX1_slotOf : (Cond.code yX1_slotOf cX1_slotOf 3 (some .int)) ∈ LW := lw_mem (i := 292) (by decide +kernel) rfl
theorem k_ml_RX3_101 : (Cond.methodLink RX3 101 yX2_entryOf) ∈ LW := lw_mem (i := 293) (by decide +kernel) rfl
theorem k_ml_RX3_104 : (Cond.methodLink RX3 104 yX0_acknowledge) ∈ LW := lw_mem (i := 294) (by decide +kernel) rfl
theorem k_im_yX0_acknowledge : (Cond.instanceMethod yX0_acknowledge) ∈ LW := lw_mem (i := 295) (by decide +kernel) rfl
theorem k_se_yX0_acknowledge : (Cond.selects RX0 yX0_acknowledge yX0_acknowledge) ∈ LW := lw_mem (i := 296) (by decide +kernel) rfl
theorem k_co_yX0_acknowledge : (Cond.code yX0_acknowledge cX0_acknowledge 3 none) ∈ LW := lw_mem (i := 297) (by decide +kernel) rfl
theorem k_ml_RX0_63 : (Cond.methodLink RX0 63 yX0_fragmentOf) ∈ LW := lw_mem (i := 298) (by decide +kernel) rfl
theorem k_im_yX0_fragmentOf : (Cond.instanceMethod yX0_fragmentOf) ∈ LW := lw_mem (i := 299) (by decide +kernel) rfl
theorem k_se_yX0_fragmentOf : (Cond.selects RX0 yX0_fragmentOf yX0_fragmentOf) ∈ LW := lw_mem (i := 300) (by decide +kernel) rfl
theorem k_co_yX0_fragmentOf : (Cond.code yX0_fragmentOf cX0_fragmentOf 4 (some .int)) ∈ LW := lw_mem (i := 301) (by decide +kernel) rfl
theorem k_ml_RX0_86 : (Cond.methodLink RX0 86 yX0_startOf) ∈ LW := lw_mem (i := 302) (by decide +kernel) rfl
theorem k_im_yX0_startOf : (Cond.instanceMethod yX0_startOf) ∈ LW := lw_mem (i := 303) (by decide +kernel) rfl
theorem k_se_yX0_startOf : (Cond.selects RX0 yX0_startOf yX0_startOf) ∈ LW := lw_mem (i := 304) (by decide +kernel) rfl
theorem k_co_yX0_startOf : (Cond.code yX0_startOf cX0_startOf 2 (some .int)) ∈ LW := lw_mem (i := 305) (by decide +kernel) rfl
theorem k_ml_RX0_66 : (Cond.methodLink RX0 66 yX0_writeSetMask) ∈ LW := lw_mem (i := 306) (by decide +kernel) rfl
theorem k_im_yX0_writeSetMask : (Cond.instanceMethod yX0_writeSetMask) ∈ LW := lw_mem (i := 307) (by decide +kernel) rfl
theorem k_se_yX0_writeSetMask : (Cond.selects RX0 yX0_writeSetMask yX0_writeSetMask) ∈ LW := lw_mem (i := 308) (by decide +kernel) rfl
theorem k_co_yX0_writeSetMask : (Cond.code yX0_writeSetMask cX0_writeSetMask 5 (some .int)) ∈ LW := lw_mem (i := 309) (by decide +kernel) rfl
theorem k_ml_RX0_98 : (Cond.methodLink RX0 98 yX0_writeSetNode) ∈ LW := lw_mem (i := 310) (by decide +kernel) rfl
theorem k_im_yX0_writeSetNode : (Cond.instanceMethod yX0_writeSetNode) ∈ LW := lw_mem (i := 311) (by decide +kernel) rfl
theorem k_se_yX0_writeSetNode : (Cond.selects RX0 yX0_writeSetNode yX0_writeSetNode) ∈ LW := lw_mem (i := 312) (by decide +kernel) rfl
theorem k_co_yX0_writeSetNode : (Cond.code yX0_writeSetNode cX0_writeSetNode 4 (some .int)) ∈ LW := lw_mem (i := 313) (by decide +kernel) rfl
theorem k_ml_RX0_92 : (Cond.methodLink RX0 92 yX0_nodeAt) ∈ LW := lw_mem (i := 314) (by decide +kernel) rfl
theorem k_im_yX0_nodeAt : (Cond.instanceMethod yX0_nodeAt) ∈ LW := lw_mem (i := 315) (by decide +kernel) rfl
theorem k_se_yX0_nodeAt : (Cond.selects RX0 yX0_nodeAt yX0_nodeAt) ∈ LW := lw_mem (i := 316) (by decide +kernel) rfl
theorem k_co_yX0_nodeAt : (Cond.code yX0_nodeAt cX0_nodeAt 4 (some .int)) ∈ LW := lw_mem (i := 317) (by decide +kernel) rfl
theorem k_ml_RX0_89 : (Cond.methodLink RX0 89 yX0_placeOf) ∈ LW := lw_mem (i := 318) (by decide +kernel) rfl
theorem k_st_yX0_placeOf : (Cond.static yX0_placeOf) ∈ LW := lw_mem (i := 319) (by decide +kernel) rfl
theorem k_co_yX0_placeOf : (Cond.code yX0_placeOf cX0_placeOf 3 (some .int)) ∈ LW := lw_mem (i := 320) (by decide +kernel) rfl
theorem k_ml_RX0_95 : (Cond.methodLink RX0 95 yX0_maskOf) ∈ LW := lw_mem (i := 321) (by decide +kernel) rfl
theorem k_st_yX0_maskOf : (Cond.static yX0_maskOf) ∈ LW := lw_mem (i := 322) (by decide +kernel) rfl
theorem k_co_yX0_maskOf : (Cond.code yX0_maskOf cX0_maskOf 1 (some .int)) ∈ LW := lw_mem (i := 323) (by decide +kernel) rfl
theorem k_ml_RL_113 : (Cond.methodLink RL 113 yX6_deliver) ∈ LW := lw_mem (i := 914) (by decide +kernel) rfl
theorem k_im_yX6_deliver : (Cond.instanceMethod yX6_deliver) ∈ LW := lw_mem (i := 915) (by decide +kernel) rfl
theorem k_se_yX6_deliver : (Cond.selects RX6 yX6_deliver yX6_deliver) ∈ LW := lw_mem (i := 916) (by decide +kernel) rfl
theorem k_co_yX6_deliver : (Cond.code yX6_deliver cX6_deliver 2 (some .int)) ∈ LW := lw_mem (i := 917) (by decide +kernel) rfl
theorem k_ml_RX6_88 : (Cond.methodLink RX6 88 yX6_process) ∈ LW := lw_mem (i := 918) (by decide +kernel) rfl
theorem k_im_yX6_process : (Cond.instanceMethod yX6_process) ∈ LW := lw_mem (i := 920) (by decide +kernel) rfl
theorem k_se_yX6_process : (Cond.selects RX6 yX6_process yX6_process) ∈ LW := lw_mem (i := 14) (by decide +kernel) rfl
theorem k_co_yX6_process : (Cond.code yX6_process cX6_process 5 (some .int)) ∈ LW := lw_mem (i := 921) (by decide +kernel) rfl
theorem k_ml_RX6_77 : (Cond.methodLink RX6 77 yX6_store) ∈ LW := lw_mem (i := 922) (by decide +kernel) rfl
theorem k_im_yX6_store : (Cond.instanceMethod yX6_store) ∈ LW := lw_mem (i := 924) (by decide +kernel) rfl
theorem k_se_yX6_store : (Cond.selects RX6 yX6_store yX6_store) ∈ LW := lw_mem (i := 15) (by decide +kernel) rfl
theorem k_co_yX6_store : (Cond.code yX6_store cX6_store 6 none) ∈ LW := lw_mem (i := 925) (by decide +kernel) rfl
theorem k_ml_RX6_27 : (Cond.methodLink RX6 27 yX6_storedAt) ∈ LW := lw_mem (i := 926) (by decide +kernel) rfl
theorem k_st_yX6_storedAt : (Cond.static yX6_storedAt) ∈ LW := lw_mem (i := 927) (by decide +kernel) rfl
theorem k_co_yX6_storedAt : (Cond.code yX6_storedAt cX6_storedAt 3 (some .int)) ∈ LW := lw_mem (i := 928) (by decide +kernel) rfl
theorem k_ml_RX6_31 : (Cond.methodLink RX6 31 yX6_of) ∈ LW := lw_mem (i := 929) (by decide +kernel) rfl
theorem k_im_yX6_of : (Cond.instanceMethod yX6_of) ∈ LW := lw_mem (i := 931) (by decide +kernel) rfl
theorem k_se_yX6_of : (Cond.selects RX6 yX6_of yX6_of) ∈ LW := lw_mem (i := 16) (by decide +kernel) rfl
theorem k_co_yX6_of : (Cond.code yX6_of cX6_of 3 (some .int)) ∈ LW := lw_mem (i := 932) (by decide +kernel) rfl
theorem k_ml_RX6_81 : (Cond.methodLink RX6 81 yX6_isWriter) ∈ LW := lw_mem (i := 933) (by decide +kernel) rfl
theorem k_im_yX6_isWriter : (Cond.instanceMethod yX6_isWriter) ∈ LW := lw_mem (i := 935) (by decide +kernel) rfl
theorem k_se_yX6_isWriter : (Cond.selects RX6 yX6_isWriter yX6_isWriter) ∈ LW := lw_mem (i := 17) (by decide +kernel) rfl
theorem k_co_yX6_isWriter : (Cond.code yX6_isWriter cX6_isWriter 6 (some .boolean)) ∈ LW := lw_mem (i := 936) (by decide +kernel) rfl
theorem k_ml_RX6_38 : (Cond.methodLink RX6 38 yX6_fragmentOf) ∈ LW := lw_mem (i := 937) (by decide +kernel) rfl
theorem k_im_yX6_fragmentOf : (Cond.instanceMethod yX6_fragmentOf) ∈ LW := lw_mem (i := 939) (by decide +kernel) rfl
theorem k_se_yX6_fragmentOf : (Cond.selects RX6 yX6_fragmentOf yX6_fragmentOf) ∈ LW := lw_mem (i := 18) (by decide +kernel) rfl
theorem k_co_yX6_fragmentOf : (Cond.code yX6_fragmentOf cX6_fragmentOf 4 (some .int)) ∈ LW := lw_mem (i := 940) (by decide +kernel) rfl
theorem k_ml_RX6_41 : (Cond.methodLink RX6 41 yX6_writer) ∈ LW := lw_mem (i := 941) (by decide +kernel) rfl
theorem k_im_yX6_writer : (Cond.instanceMethod yX6_writer) ∈ LW := lw_mem (i := 943) (by decide +kernel) rfl
theorem k_se_yX6_writer : (Cond.selects RX6 yX6_writer yX6_writer) ∈ LW := lw_mem (i := 19) (by decide +kernel) rfl
theorem k_co_yX6_writer : (Cond.code yX6_writer cX6_writer 5 (some .int)) ∈ LW := lw_mem (i := 944) (by decide +kernel) rfl
theorem k_ml_RX6_35 : (Cond.methodLink RX6 35 yX6_memberOf) ∈ LW := lw_mem (i := 945) (by decide +kernel) rfl
theorem k_im_yX6_memberOf : (Cond.instanceMethod yX6_memberOf) ∈ LW := lw_mem (i := 947) (by decide +kernel) rfl
theorem k_se_yX6_memberOf : (Cond.selects RX6 yX6_memberOf yX6_memberOf) ∈ LW := lw_mem (i := 20) (by decide +kernel) rfl
theorem k_co_yX6_memberOf : (Cond.code yX6_memberOf cX6_memberOf 4 (some .int)) ∈ LW := lw_mem (i := 948) (by decide +kernel) rfl
theorem k_ml_RX6_84 : (Cond.methodLink RX6 84 yX6_set) ∈ LW := lw_mem (i := 949) (by decide +kernel) rfl
theorem k_im_yX6_set : (Cond.instanceMethod yX6_set) ∈ LW := lw_mem (i := 951) (by decide +kernel) rfl
theorem k_se_yX6_set : (Cond.selects RX6 yX6_set yX6_set) ∈ LW := lw_mem (i := 21) (by decide +kernel) rfl
theorem k_co_yX6_set : (Cond.code yX6_set cX6_set 4 none) ∈ LW := lw_mem (i := 952) (by decide +kernel) rfl
theorem k_ml_RL_114 : (Cond.methodLink RL 114 yX5_deliverAll) ∈ LW := lw_mem (i := 215) (by decide +kernel) rfl
theorem k_im_yX5_deliverAll : (Cond.instanceMethod yX5_deliverAll) ∈ LW := lw_mem (i := 216) (by decide +kernel) rfl
theorem k_se_yX5_deliverAll : (Cond.selects RX5 yX5_deliverAll yX5_deliverAll) ∈ LW := lw_mem (i := 217) (by decide +kernel) rfl
theorem k_co_yX5_deliverAll : (Cond.code yX5_deliverAll cX5_deliverAll 4 (some .int)) ∈ LW := lw_mem (i := 218) (by decide +kernel) rfl
theorem k_ml_RX5_68 : (Cond.methodLink RX5 68 yX3_anyRequestWaits) ∈ LW := lw_mem (i := 255) (by decide +kernel) rfl
theorem k_im_yX3_anyRequestWaits : (Cond.instanceMethod yX3_anyRequestWaits) ∈ LW := lw_mem (i := 256) (by decide +kernel) rfl
theorem k_se_yX3_anyRequestWaits : (Cond.selects RX3 yX3_anyRequestWaits yX3_anyRequestWaits) ∈ LW := lw_mem (i := 257) (by decide +kernel) rfl
theorem k_co_yX3_anyRequestWaits : (Cond.code yX3_anyRequestWaits cX3_anyRequestWaits 3 (some .boolean)) ∈ LW := lw_mem (i := 258) (by decide +kernel) rfl
theorem k_fl_RX3_108 : (Cond.fieldLink RX3 108 "LedgerStore$Node" "waiting" "I") ∈ LW := lw_mem (i := 96) (by decide +kernel) rfl
theorem k_ml_RX5_72 : (Cond.methodLink RX5 72 yX3_isUp) ∈ LW := lw_mem (i := 259) (by decide +kernel) rfl
theorem k_im_yX3_isUp : (Cond.instanceMethod yX3_isUp) ∈ LW := lw_mem (i := 260) (by decide +kernel) rfl
theorem k_se_yX3_isUp : (Cond.selects RX3 yX3_isUp yX3_isUp) ∈ LW := lw_mem (i := 261) (by decide +kernel) rfl
theorem k_co_yX3_isUp : (Cond.code yX3_isUp cX3_isUp 3 (some .boolean)) ∈ LW := lw_mem (i := 262) (by decide +kernel) rfl
theorem k_fl_RX3_68 : (Cond.fieldLink RX3 68 "LedgerStore$Node" "up" "Z") ∈ LW := lw_mem (i := 89) (by decide +kernel) rfl
theorem k_ml_RL_117 : (Cond.methodLink RL 117 yX6_deliverAll) ∈ LW := lw_mem (i := 953) (by decide +kernel) rfl
theorem k_im_yX6_deliverAll : (Cond.instanceMethod yX6_deliverAll) ∈ LW := lw_mem (i := 954) (by decide +kernel) rfl
theorem k_se_yX6_deliverAll : (Cond.selects RX6 yX6_deliverAll yX6_deliverAll) ∈ LW := lw_mem (i := 955) (by decide +kernel) rfl
theorem k_co_yX6_deliverAll : (Cond.code yX6_deliverAll cX6_deliverAll 4 (some .int)) ∈ LW := lw_mem (i := 956) (by decide +kernel) rfl
theorem k_ml_RL_118 : (Cond.methodLink RL 118 yL_inboxLength) ∈ LW := lw_mem (i := 552) (by decide +kernel) rfl
theorem k_st_yL_inboxLength : (Cond.static yL_inboxLength) ∈ LW := lw_mem (i := 553) (by decide +kernel) rfl
theorem k_cw_yL_inboxLength : (Cond.codeWith yL_inboxLength cL_inboxLength 4 (some .int) [(0, 9, 12, 19)]) ∈ LW := lw_mem (i := 554) (by decide +kernel) rfl
theorem k_ml_RL_27 : (Cond.methodLink RL 27 yX5_inboxLength) ∈ LW := lw_mem (i := 555) (by decide +kernel) rfl
theorem k_im_yX5_inboxLength : (Cond.instanceMethod yX5_inboxLength) ∈ LW := lw_mem (i := 556) (by decide +kernel) rfl
theorem k_se_yX5_inboxLength : (Cond.selects RX5 yX5_inboxLength yX5_inboxLength) ∈ LW := lw_mem (i := 557) (by decide +kernel) rfl
theorem k_co_yX5_inboxLength : (Cond.code yX5_inboxLength cX5_inboxLength 2 (some .int)) ∈ LW := lw_mem (i := 558) (by decide +kernel) rfl
theorem k_ml_RL_120 : (Cond.methodLink RL 120 yX6_inboxLength) ∈ LW := lw_mem (i := 957) (by decide +kernel) rfl
theorem k_im_yX6_inboxLength : (Cond.instanceMethod yX6_inboxLength) ∈ LW := lw_mem (i := 958) (by decide +kernel) rfl
theorem k_se_yX6_inboxLength : (Cond.selects RX6 yX6_inboxLength yX6_inboxLength) ∈ LW := lw_mem (i := 959) (by decide +kernel) rfl
theorem k_co_yX6_inboxLength : (Cond.code yX6_inboxLength cX6_inboxLength 2 (some .int)) ∈ LW := lw_mem (i := 960) (by decide +kernel) rfl
theorem k_ml_RL_121 : (Cond.methodLink RL 121 yL_weight) ∈ LW := lw_mem (i := 559) (by decide +kernel) rfl
theorem k_st_yL_weight : (Cond.static yL_weight) ∈ LW := lw_mem (i := 560) (by decide +kernel) rfl
theorem k_cw_yL_weight : (Cond.codeWith yL_weight cL_weight 4 (some .int) [(0, 9, 12, 19)]) ∈ LW := lw_mem (i := 561) (by decide +kernel) rfl
theorem k_ml_RL_30 : (Cond.methodLink RL 30 yX5_weight) ∈ LW := lw_mem (i := 562) (by decide +kernel) rfl
theorem k_im_yX5_weight : (Cond.instanceMethod yX5_weight) ∈ LW := lw_mem (i := 563) (by decide +kernel) rfl
theorem k_se_yX5_weight : (Cond.selects RX5 yX5_weight yX5_weight) ∈ LW := lw_mem (i := 564) (by decide +kernel) rfl
theorem k_co_yX5_weight : (Cond.code yX5_weight cX5_weight 2 (some .int)) ∈ LW := lw_mem (i := 565) (by decide +kernel) rfl
theorem k_ml_RL_123 : (Cond.methodLink RL 123 yX6_weight) ∈ LW := lw_mem (i := 961) (by decide +kernel) rfl
theorem k_im_yX6_weight : (Cond.instanceMethod yX6_weight) ∈ LW := lw_mem (i := 962) (by decide +kernel) rfl
theorem k_se_yX6_weight : (Cond.selects RX6 yX6_weight yX6_weight) ∈ LW := lw_mem (i := 963) (by decide +kernel) rfl
theorem k_co_yX6_weight : (Cond.code yX6_weight cX6_weight 2 (some .int)) ∈ LW := lw_mem (i := 964) (by decide +kernel) rfl
theorem k_ml_RL_124 : (Cond.methodLink RL 124 yL_share) ∈ LW := lw_mem (i := 566) (by decide +kernel) rfl
theorem k_st_yL_share : (Cond.static yL_share) ∈ LW := lw_mem (i := 567) (by decide +kernel) rfl
theorem k_cw_yL_share : (Cond.codeWith yL_share cL_share 4 (some .int) [(0, 9, 12, 19)]) ∈ LW := lw_mem (i := 568) (by decide +kernel) rfl
theorem k_ml_RL_33 : (Cond.methodLink RL 33 yX5_share) ∈ LW := lw_mem (i := 569) (by decide +kernel) rfl
theorem k_im_yX5_share : (Cond.instanceMethod yX5_share) ∈ LW := lw_mem (i := 570) (by decide +kernel) rfl
theorem k_se_yX5_share : (Cond.selects RX5 yX5_share yX5_share) ∈ LW := lw_mem (i := 571) (by decide +kernel) rfl
theorem k_co_yX5_share : (Cond.code yX5_share cX5_share 2 (some .float)) ∈ LW := lw_mem (i := 572) (by decide +kernel) rfl
theorem k_ml_RX5_76 : (Cond.methodLink RX5 76 yX5_shareOf) ∈ LW := lw_mem (i := 340) (by decide +kernel) rfl
theorem k_im_yX5_shareOf : (Cond.instanceMethod yX5_shareOf) ∈ LW := lw_mem (i := 342) (by decide +kernel) rfl
theorem k_se_yX5_shareOf : (Cond.selects RX5 yX5_shareOf yX5_shareOf) ∈ LW := lw_mem (i := 1) (by decide +kernel) rfl
theorem k_co_yX5_shareOf : (Cond.code yX5_shareOf cX5_shareOf 3 (some .float)) ∈ LW := lw_mem (i := 343) (by decide +kernel) rfl
theorem k_ml_RX5_261 : (Cond.methodLink RX5 261 yX3_totalWeight) ∈ LW := lw_mem (i := 344) (by decide +kernel) rfl
theorem k_im_yX3_totalWeight : (Cond.instanceMethod yX3_totalWeight) ∈ LW := lw_mem (i := 345) (by decide +kernel) rfl
theorem k_se_yX3_totalWeight : (Cond.selects RX3 yX3_totalWeight yX3_totalWeight) ∈ LW := lw_mem (i := 346) (by decide +kernel) rfl
theorem k_co_yX3_totalWeight : (Cond.code yX3_totalWeight cX3_totalWeight 4 (some .int)) ∈ LW := lw_mem (i := 347) (by decide +kernel) rfl
theorem k_fl_RX3_76 : (Cond.fieldLink RX3 76 "LedgerStore$Node" "storedCount" "I") ∈ LW := lw_mem (i := 93) (by decide +kernel) rfl
theorem k_ml_RL_127 : (Cond.methodLink RL 127 yX6_share) ∈ LW := lw_mem (i := 965) (by decide +kernel) rfl
theorem k_im_yX6_share : (Cond.instanceMethod yX6_share) ∈ LW := lw_mem (i := 966) (by decide +kernel) rfl
theorem k_se_yX6_share : (Cond.selects RX6 yX6_share yX6_share) ∈ LW := lw_mem (i := 967) (by decide +kernel) rfl
theorem k_co_yX6_share : (Cond.code yX6_share cX6_share 2 (some .float)) ∈ LW := lw_mem (i := 968) (by decide +kernel) rfl
theorem k_ml_RX6_91 : (Cond.methodLink RX6 91 yX6_shareOf) ∈ LW := lw_mem (i := 969) (by decide +kernel) rfl
theorem k_im_yX6_shareOf : (Cond.instanceMethod yX6_shareOf) ∈ LW := lw_mem (i := 971) (by decide +kernel) rfl
theorem k_se_yX6_shareOf : (Cond.selects RX6 yX6_shareOf yX6_shareOf) ∈ LW := lw_mem (i := 22) (by decide +kernel) rfl
theorem k_co_yX6_shareOf : (Cond.code yX6_shareOf cX6_shareOf 4 (some .float)) ∈ LW := lw_mem (i := 972) (by decide +kernel) rfl
theorem k_ml_RL_128 : (Cond.methodLink RL 128 yL_isFenced) ∈ LW := lw_mem (i := 573) (by decide +kernel) rfl
theorem k_st_yL_isFenced : (Cond.static yL_isFenced) ∈ LW := lw_mem (i := 574) (by decide +kernel) rfl
theorem k_cw_yL_isFenced : (Cond.codeWith yL_isFenced cL_isFenced 5 (some .int) [(0, 17, 20, 19)]) ∈ LW := lw_mem (i := 575) (by decide +kernel) rfl
theorem k_ml_RL_37 : (Cond.methodLink RL 37 yX5_isFenced) ∈ LW := lw_mem (i := 576) (by decide +kernel) rfl
theorem k_im_yX5_isFenced : (Cond.instanceMethod yX5_isFenced) ∈ LW := lw_mem (i := 577) (by decide +kernel) rfl
theorem k_se_yX5_isFenced : (Cond.selects RX5 yX5_isFenced yX5_isFenced) ∈ LW := lw_mem (i := 578) (by decide +kernel) rfl
theorem k_co_yX5_isFenced : (Cond.code yX5_isFenced cX5_isFenced 4 (some .boolean)) ∈ LW := lw_mem (i := 579) (by decide +kernel) rfl
theorem k_ml_RX5_80 : (Cond.methodLink RX5 80 yX5_existingLedger) ∈ LW := lw_mem (i := 580) (by decide +kernel) rfl
theorem k_im_yX5_existingLedger : (Cond.instanceMethod yX5_existingLedger) ∈ LW := lw_mem (i := 582) (by decide +kernel) rfl
theorem k_se_yX5_existingLedger : (Cond.selects RX5 yX5_existingLedger yX5_existingLedger) ∈ LW := lw_mem (i := 7) (by decide +kernel) rfl
theorem k_co_yX5_existingLedger : (Cond.code yX5_existingLedger cX5_existingLedger 3 (some (.object "LedgerStore$Ledger"))) ∈ LW := lw_mem (i := 583) (by decide +kernel) rfl
theorem k_ml_RX5_231 : (Cond.methodLink RX5 231 yX3_ledger) ∈ LW := lw_mem (i := 352) (by decide +kernel) rfl
theorem k_ml_RX5_84 : (Cond.methodLink RX5 84 yX1_isFencedFor) ∈ LW := lw_mem (i := 420) (by decide +kernel) rfl
theorem k_ml_RL_131 : (Cond.methodLink RL 131 yX6_isFenced) ∈ LW := lw_mem (i := 973) (by decide +kernel) rfl
theorem k_im_yX6_isFenced : (Cond.instanceMethod yX6_isFenced) ∈ LW := lw_mem (i := 974) (by decide +kernel) rfl
theorem k_se_yX6_isFenced : (Cond.selects RX6 yX6_isFenced yX6_isFenced) ∈ LW := lw_mem (i := 975) (by decide +kernel) rfl
theorem k_co_yX6_isFenced : (Cond.code yX6_isFenced cX6_isFenced 3 (some .boolean)) ∈ LW := lw_mem (i := 976) (by decide +kernel) rfl
theorem k_ml_RX6_95 : (Cond.methodLink RX6 95 yX6_isLedger) ∈ LW := lw_mem (i := 977) (by decide +kernel) rfl
theorem k_im_yX6_isLedger : (Cond.instanceMethod yX6_isLedger) ∈ LW := lw_mem (i := 979) (by decide +kernel) rfl
theorem k_se_yX6_isLedger : (Cond.selects RX6 yX6_isLedger yX6_isLedger) ∈ LW := lw_mem (i := 23) (by decide +kernel) rfl
theorem k_co_yX6_isLedger : (Cond.code yX6_isLedger cX6_isLedger 2 (some .boolean)) ∈ LW := lw_mem (i := 980) (by decide +kernel) rfl
theorem k_ml_RL_132 : (Cond.methodLink RL 132 yX5_rejections) ∈ LW := lw_mem (i := 325) (by decide +kernel) rfl
theorem k_im_yX5_rejections : (Cond.instanceMethod yX5_rejections) ∈ LW := lw_mem (i := 326) (by decide +kernel) rfl
theorem k_se_yX5_rejections : (Cond.selects RX5 yX5_rejections yX5_rejections) ∈ LW := lw_mem (i := 327) (by decide +kernel) rfl
theorem k_co_yX5_rejections : (Cond.code yX5_rejections cX5_rejections 1 (some .int)) ∈ LW := lw_mem (i := 328) (by decide +kernel) rfl
theorem k_fl_RX5_87 : (Cond.fieldLink RX5 87 "LedgerStore$State" "rejected" "I") ∈ LW := lw_mem (i := 175) (by decide +kernel) rfl
theorem k_ml_RL_135 : (Cond.methodLink RL 135 yX6_rejections) ∈ LW := lw_mem (i := 981) (by decide +kernel) rfl
theorem k_im_yX6_rejections : (Cond.instanceMethod yX6_rejections) ∈ LW := lw_mem (i := 982) (by decide +kernel) rfl
theorem k_se_yX6_rejections : (Cond.selects RX6 yX6_rejections yX6_rejections) ∈ LW := lw_mem (i := 983) (by decide +kernel) rfl
theorem k_co_yX6_rejections : (Cond.code yX6_rejections cX6_rejections 1 (some .int)) ∈ LW := lw_mem (i := 984) (by decide +kernel) rfl
theorem k_ml_RL_136 : (Cond.methodLink RL 136 yL_createLedger) ∈ LW := lw_mem (i := 585) (by decide +kernel) rfl
theorem k_st_yL_createLedger : (Cond.static yL_createLedger) ∈ LW := lw_mem (i := 586) (by decide +kernel) rfl
theorem k_cw_yL_createLedger : (Cond.codeWith yL_createLedger cL_createLedger 6 (some .int) [(0, 12, 15, 19), (0, 12, 19, 13)]) ∈ LW := lw_mem (i := 587) (by decide +kernel) rfl
theorem k_ml_RL_41 : (Cond.methodLink RL 41 yX5_createLedger) ∈ LW := lw_mem (i := 588) (by decide +kernel) rfl
theorem k_im_yX5_createLedger : (Cond.instanceMethod yX5_createLedger) ∈ LW := lw_mem (i := 589) (by decide +kernel) rfl
theorem k_se_yX5_createLedger : (Cond.selects RX5 yX5_createLedger yX5_createLedger) ∈ LW := lw_mem (i := 590) (by decide +kernel) rfl
theorem k_co_yX5_createLedger : (Cond.code yX5_createLedger cX5_createLedger 4 (some .int)) ∈ LW := lw_mem (i := 591) (by decide +kernel) rfl
theorem k_fl_RX5_99 : (Cond.fieldLink RX5 99 "LedgerStore$State" "ledgerCount" "I") ∈ LW := lw_mem (i := 173) (by decide +kernel) rfl
theorem k_ml_RX5_104 : (Cond.methodLink RX5 104 yX3_upMask) ∈ LW := lw_mem (i := 596) (by decide +kernel) rfl
theorem k_im_yX3_upMask : (Cond.instanceMethod yX3_upMask) ∈ LW := lw_mem (i := 380) (by decide +kernel) rfl
theorem k_se_yX3_upMask : (Cond.selects RX3 yX3_upMask yX3_upMask) ∈ LW := lw_mem (i := 381) (by decide +kernel) rfl
theorem k_co_yX3_upMask : (Cond.code yX3_upMask cX3_upMask 3 (some .int)) ∈ LW := lw_mem (i := 382) (by decide +kernel) rfl
theorem k_ml_RX3_72 : (Cond.methodLink RX3 72 yX3_isUp) ∈ LW := lw_mem (i := 383) (by decide +kernel) rfl
theorem k_ml_RX5_107 : (Cond.methodLink RX5 107 yJ6_bitCount_0f7a4) ∈ LW := lw_mem (i := 597) (by decide +kernel) rfl
theorem k_st_yJ6_bitCount_0f7a4 : (Cond.static yJ6_bitCount_0f7a4) ∈ LW := lw_mem (i := 370) (by decide +kernel) rfl
theorem k_in_RJ6 : (Cond.initialized RJ6) ∈ LW := lw_mem (i := 62) (by decide +kernel) rfl
theorem k_co_yJ6_bitCount_0f7a4 : (Cond.code yJ6_bitCount_0f7a4 cJ6_bitCount_0f7a4 1 (some .int)) ∈ LW := lw_mem (i := 371) (by decide +kernel) rfl
theorem k_ct_RJ6_265 : (Cond.constant RJ6 265 (1431655765)) ∈ LW := lw_mem (i := 372) (by decide +kernel) rfl
theorem k_ct_RJ6_266 : (Cond.constant RJ6 266 (858993459)) ∈ LW := lw_mem (i := 373) (by decide +kernel) rfl
theorem k_ct_RJ6_267 : (Cond.constant RJ6 267 (252645135)) ∈ LW := lw_mem (i := 374) (by decide +kernel) rfl
theorem k_ml_RX5_114 : (Cond.methodLink RX5 114 yX3_beginLedger) ∈ LW := lw_mem (i := 599) (by decide +kernel) rfl
theorem k_im_yX3_beginLedger : (Cond.instanceMethod yX3_beginLedger) ∈ LW := lw_mem (i := 600) (by decide +kernel) rfl
theorem k_se_yX3_beginLedger : (Cond.selects RX3 yX3_beginLedger yX3_beginLedger) ∈ LW := lw_mem (i := 601) (by decide +kernel) rfl
theorem k_co_yX3_beginLedger : (Cond.code yX3_beginLedger cX3_beginLedger 7 (some .int)) ∈ LW := lw_mem (i := 602) (by decide +kernel) rfl
theorem k_ml_RX3_55 : (Cond.methodLink RX3 55 yX0_begin) ∈ LW := lw_mem (i := 603) (by decide +kernel) rfl
theorem k_im_yX0_begin : (Cond.instanceMethod yX0_begin) ∈ LW := lw_mem (i := 604) (by decide +kernel) rfl
theorem k_se_yX0_begin : (Cond.selects RX0 yX0_begin yX0_begin) ∈ LW := lw_mem (i := 605) (by decide +kernel) rfl
theorem k_co_yX0_begin : (Cond.code yX0_begin cX0_begin 5 none) ∈ LW := lw_mem (i := 606) (by decide +kernel) rfl
theorem k_ml_RX0_49 : (Cond.methodLink RX0 49 yX0_setNode) ∈ LW := lw_mem (i := 607) (by decide +kernel) rfl
theorem k_im_yX0_setNode : (Cond.instanceMethod yX0_setNode) ∈ LW := lw_mem (i := 608) (by decide +kernel) rfl
theorem k_se_yX0_setNode : (Cond.selects RX0 yX0_setNode yX0_setNode) ∈ LW := lw_mem (i := 609) (by decide +kernel) rfl
theorem k_co_yX0_setNode : (Cond.code yX0_setNode cX0_setNode 5 none) ∈ LW := lw_mem (i := 610) (by decide +kernel) rfl
theorem k_ml_RX3_58 : (Cond.methodLink RX3 58 yX0_ensembleMask) ∈ LW := lw_mem (i := 611) (by decide +kernel) rfl
theorem k_im_yX0_ensembleMask : (Cond.instanceMethod yX0_ensembleMask) ∈ LW := lw_mem (i := 612) (by decide +kernel) rfl
theorem k_se_yX0_ensembleMask : (Cond.selects RX0 yX0_ensembleMask yX0_ensembleMask) ∈ LW := lw_mem (i := 613) (by decide +kernel) rfl
theorem k_co_yX0_ensembleMask : (Cond.code yX0_ensembleMask cX0_ensembleMask 4 (some .int)) ∈ LW := lw_mem (i := 614) (by decide +kernel) rfl
theorem k_ml_RX3_62 : (Cond.methodLink RX3 62 yX3_choose) ∈ LW := lw_mem (i := 615) (by decide +kernel) rfl
theorem k_im_yX3_choose : (Cond.instanceMethod yX3_choose) ∈ LW := lw_mem (i := 616) (by decide +kernel) rfl
theorem k_se_yX3_choose : (Cond.selects RX3 yX3_choose yX3_choose) ∈ LW := lw_mem (i := 617) (by decide +kernel) rfl
theorem k_co_yX3_choose : (Cond.code yX3_choose cX3_choose 6 (some .int)) ∈ LW := lw_mem (i := 618) (by decide +kernel) rfl
theorem k_ml_RX3_65 : (Cond.methodLink RX3 65 yX0_setNode) ∈ LW := lw_mem (i := 620) (by decide +kernel) rfl
theorem k_ml_RL_139 : (Cond.methodLink RL 139 yX6_createLedger) ∈ LW := lw_mem (i := 985) (by decide +kernel) rfl
theorem k_im_yX6_createLedger : (Cond.instanceMethod yX6_createLedger) ∈ LW := lw_mem (i := 986) (by decide +kernel) rfl
theorem k_se_yX6_createLedger : (Cond.selects RX6 yX6_createLedger yX6_createLedger) ∈ LW := lw_mem (i := 987) (by decide +kernel) rfl
theorem k_co_yX6_createLedger : (Cond.code yX6_createLedger cX6_createLedger 9 (some .int)) ∈ LW := lw_mem (i := 988) (by decide +kernel) rfl
theorem k_ml_RX6_98 : (Cond.methodLink RX6 98 yX6_ups) ∈ LW := lw_mem (i := 989) (by decide +kernel) rfl
theorem k_im_yX6_ups : (Cond.instanceMethod yX6_ups) ∈ LW := lw_mem (i := 991) (by decide +kernel) rfl
theorem k_se_yX6_ups : (Cond.selects RX6 yX6_ups yX6_ups) ∈ LW := lw_mem (i := 24) (by decide +kernel) rfl
theorem k_co_yX6_ups : (Cond.code yX6_ups cX6_ups 3 (some .int)) ∈ LW := lw_mem (i := 992) (by decide +kernel) rfl
theorem k_ml_RX6_102 : (Cond.methodLink RX6 102 yX6_choose) ∈ LW := lw_mem (i := 993) (by decide +kernel) rfl
theorem k_im_yX6_choose : (Cond.instanceMethod yX6_choose) ∈ LW := lw_mem (i := 995) (by decide +kernel) rfl
theorem k_se_yX6_choose : (Cond.selects RX6 yX6_choose yX6_choose) ∈ LW := lw_mem (i := 25) (by decide +kernel) rfl
theorem k_co_yX6_choose : (Cond.code yX6_choose cX6_choose 5 (some .int)) ∈ LW := lw_mem (i := 996) (by decide +kernel) rfl
theorem k_ml_RX6_49 : (Cond.methodLink RX6 49 yX6_has) ∈ LW := lw_mem (i := 997) (by decide +kernel) rfl
theorem k_st_yX6_has : (Cond.static yX6_has) ∈ LW := lw_mem (i := 998) (by decide +kernel) rfl
theorem k_co_yX6_has : (Cond.code yX6_has cX6_has 2 (some .boolean)) ∈ LW := lw_mem (i := 999) (by decide +kernel) rfl
theorem k_ml_RL_140 : (Cond.methodLink RL 140 yL_append) ∈ LW := lw_mem (i := 621) (by decide +kernel) rfl
theorem k_st_yL_append : (Cond.static yL_append) ∈ LW := lw_mem (i := 622) (by decide +kernel) rfl
theorem k_cw_yL_append : (Cond.codeWith yL_append cL_append 5 (some .int) [(0, 10, 13, 19), (0, 10, 17, 13)]) ∈ LW := lw_mem (i := 623) (by decide +kernel) rfl
theorem k_ml_RL_45 : (Cond.methodLink RL 45 yX5_append) ∈ LW := lw_mem (i := 624) (by decide +kernel) rfl
theorem k_im_yX5_append : (Cond.instanceMethod yX5_append) ∈ LW := lw_mem (i := 625) (by decide +kernel) rfl
theorem k_se_yX5_append : (Cond.selects RX5 yX5_append yX5_append) ∈ LW := lw_mem (i := 626) (by decide +kernel) rfl
theorem k_co_yX5_append : (Cond.code yX5_append cX5_append 4 (some .int)) ∈ LW := lw_mem (i := 627) (by decide +kernel) rfl
theorem k_fl_RX5_120 : (Cond.fieldLink RX5 120 "LedgerStore$Ledger" "phase" "I") ∈ LW := lw_mem (i := 131) (by decide +kernel) rfl
theorem k_fl_RX5_127 : (Cond.fieldLink RX5 127 "LedgerStore$Ledger" "entries" "I") ∈ LW := lw_mem (i := 134) (by decide +kernel) rfl
theorem k_ml_RX5_132 : (Cond.methodLink RX5 132 yX3_write) ∈ LW := lw_mem (i := 631) (by decide +kernel) rfl
theorem k_im_yX3_write : (Cond.instanceMethod yX3_write) ∈ LW := lw_mem (i := 632) (by decide +kernel) rfl
theorem k_se_yX3_write : (Cond.selects RX3 yX3_write yX3_write) ∈ LW := lw_mem (i := 633) (by decide +kernel) rfl
theorem k_co_yX3_write : (Cond.code yX3_write cX3_write 8 (some .int)) ∈ LW := lw_mem (i := 634) (by decide +kernel) rfl
theorem k_fl_RX3_117 : (Cond.fieldLink RX3 117 "LedgerStore$Ledger" "number" "I") ∈ LW := lw_mem (i := 119) (by decide +kernel) rfl
theorem k_fl_RX3_127 : (Cond.fieldLink RX3 127 "LedgerStore$Ledger" "writeQuorum" "I") ∈ LW := lw_mem (i := 125) (by decide +kernel) rfl
theorem k_ml_RX3_111 : (Cond.methodLink RX3 111 yX0_lastConfirmed) ∈ LW := lw_mem (i := 635) (by decide +kernel) rfl
theorem k_im_yX0_lastConfirmed : (Cond.instanceMethod yX0_lastConfirmed) ∈ LW := lw_mem (i := 362) (by decide +kernel) rfl
theorem k_se_yX0_lastConfirmed : (Cond.selects RX0 yX0_lastConfirmed yX0_lastConfirmed) ∈ LW := lw_mem (i := 363) (by decide +kernel) rfl
theorem k_co_yX0_lastConfirmed : (Cond.code yX0_lastConfirmed cX0_lastConfirmed 2 (some .int)) ∈ LW := lw_mem (i := 364) (by decide +kernel) rfl
theorem k_ml_RX0_79 : (Cond.methodLink RX0 79 yX0_countAcknowledgers) ∈ LW := lw_mem (i := 365) (by decide +kernel) rfl
theorem k_im_yX0_countAcknowledgers : (Cond.instanceMethod yX0_countAcknowledgers) ∈ LW := lw_mem (i := 366) (by decide +kernel) rfl
theorem k_se_yX0_countAcknowledgers : (Cond.selects RX0 yX0_countAcknowledgers yX0_countAcknowledgers) ∈ LW := lw_mem (i := 367) (by decide +kernel) rfl
theorem k_co_yX0_countAcknowledgers : (Cond.code yX0_countAcknowledgers cX0_countAcknowledgers 2 (some .int)) ∈ LW := lw_mem (i := 368) (by decide +kernel) rfl
theorem k_ml_RX0_57 : (Cond.methodLink RX0 57 yJ6_bitCount_0f7a4) ∈ LW := lw_mem (i := 369) (by decide +kernel) rfl
theorem k_ml_RX3_114 : (Cond.methodLink RX3 114 yX0_addEntry) ∈ LW := lw_mem (i := 636) (by decide +kernel) rfl
theorem k_im_yX0_addEntry : (Cond.instanceMethod yX0_addEntry) ∈ LW := lw_mem (i := 637) (by decide +kernel) rfl
theorem k_se_yX0_addEntry : (Cond.selects RX0 yX0_addEntry yX0_addEntry) ∈ LW := lw_mem (i := 638) (by decide +kernel) rfl
theorem k_co_yX0_addEntry : (Cond.code yX0_addEntry cX0_addEntry 3 (some .int)) ∈ LW := lw_mem (i := 639) (by decide +kernel) rfl
theorem k_ml_RX3_120 : (Cond.methodLink RX3 120 yX2_of) ∈ LW := lw_mem (i := 640) (by decide +kernel) rfl
theorem k_st_yX2_of : (Cond.static yX2_of) ∈ LW := lw_mem (i := 641) (by decide +kernel) rfl
theorem k_co_yX2_of : (Cond.code yX2_of cX2_of 4 (some .int)) ∈ LW := lw_mem (i := 642) (by decide +kernel) rfl
theorem k_ml_RX3_124 : (Cond.methodLink RX3 124 yX0_fragmentOf) ∈ LW := lw_mem (i := 386) (by decide +kernel) rfl
theorem k_ml_RX3_130 : (Cond.methodLink RX3 130 yX0_writeSetNode) ∈ LW := lw_mem (i := 643) (by decide +kernel) rfl
theorem k_ml_RX3_134 : (Cond.methodLink RX3 134 yX3_send) ∈ LW := lw_mem (i := 644) (by decide +kernel) rfl
theorem k_im_yX3_send : (Cond.instanceMethod yX3_send) ∈ LW := lw_mem (i := 645) (by decide +kernel) rfl
theorem k_se_yX3_send : (Cond.selects RX3 yX3_send yX3_send) ∈ LW := lw_mem (i := 646) (by decide +kernel) rfl
theorem k_co_yX3_send : (Cond.code yX3_send cX3_send 4 none) ∈ LW := lw_mem (i := 647) (by decide +kernel) rfl
theorem k_ml_RX3_83 : (Cond.methodLink RX3 83 yX1_receive) ∈ LW := lw_mem (i := 648) (by decide +kernel) rfl
theorem k_im_yX1_receive : (Cond.instanceMethod yX1_receive) ∈ LW := lw_mem (i := 649) (by decide +kernel) rfl
theorem k_se_yX1_receive : (Cond.selects RX1 yX1_receive yX1_receive) ∈ LW := lw_mem (i := 650) (by decide +kernel) rfl
theorem k_co_yX1_receive : (Cond.code yX1_receive cX1_receive 2 none) ∈ LW := lw_mem (i := 651) (by decide +kernel) rfl
theorem k_ml_RL_142 : (Cond.methodLink RL 142 yX6_append) ∈ LW := lw_mem (i := 1000) (by decide +kernel) rfl
theorem k_im_yX6_append : (Cond.instanceMethod yX6_append) ∈ LW := lw_mem (i := 1001) (by decide +kernel) rfl
theorem k_se_yX6_append : (Cond.selects RX6 yX6_append yX6_append) ∈ LW := lw_mem (i := 1002) (by decide +kernel) rfl
theorem k_co_yX6_append : (Cond.code yX6_append cX6_append 7 (some .int)) ∈ LW := lw_mem (i := 1003) (by decide +kernel) rfl
theorem k_ml_RX6_60 : (Cond.methodLink RX6 60 yX6_confirmed) ∈ LW := lw_mem (i := 1004) (by decide +kernel) rfl
theorem k_im_yX6_confirmed : (Cond.instanceMethod yX6_confirmed) ∈ LW := lw_mem (i := 1006) (by decide +kernel) rfl
theorem k_se_yX6_confirmed : (Cond.selects RX6 yX6_confirmed yX6_confirmed) ∈ LW := lw_mem (i := 26) (by decide +kernel) rfl
theorem k_co_yX6_confirmed : (Cond.code yX6_confirmed cX6_confirmed 3 (some .int)) ∈ LW := lw_mem (i := 1007) (by decide +kernel) rfl
theorem k_ml_RX6_57 : (Cond.methodLink RX6 57 yX6_count) ∈ LW := lw_mem (i := 1008) (by decide +kernel) rfl
theorem k_st_yX6_count : (Cond.static yX6_count) ∈ LW := lw_mem (i := 1009) (by decide +kernel) rfl
theorem k_co_yX6_count : (Cond.code yX6_count cX6_count 3 (some .int)) ∈ LW := lw_mem (i := 1010) (by decide +kernel) rfl
theorem k_ml_RX6_105 : (Cond.methodLink RX6 105 yX6_send) ∈ LW := lw_mem (i := 1011) (by decide +kernel) rfl
theorem k_im_yX6_send : (Cond.instanceMethod yX6_send) ∈ LW := lw_mem (i := 1013) (by decide +kernel) rfl
theorem k_se_yX6_send : (Cond.selects RX6 yX6_send yX6_send) ∈ LW := lw_mem (i := 27) (by decide +kernel) rfl
theorem k_co_yX6_send : (Cond.code yX6_send cX6_send 6 none) ∈ LW := lw_mem (i := 1014) (by decide +kernel) rfl
theorem k_ml_RL_143 : (Cond.methodLink RL 143 yL_replace) ∈ LW := lw_mem (i := 652) (by decide +kernel) rfl
theorem k_st_yL_replace : (Cond.static yL_replace) ∈ LW := lw_mem (i := 653) (by decide +kernel) rfl
theorem k_cw_yL_replace : (Cond.codeWith yL_replace cL_replace 5 (some .int) [(0, 10, 13, 19), (0, 10, 17, 13)]) ∈ LW := lw_mem (i := 654) (by decide +kernel) rfl
theorem k_ml_RL_49 : (Cond.methodLink RL 49 yX5_replace) ∈ LW := lw_mem (i := 655) (by decide +kernel) rfl
theorem k_im_yX5_replace : (Cond.instanceMethod yX5_replace) ∈ LW := lw_mem (i := 656) (by decide +kernel) rfl
theorem k_se_yX5_replace : (Cond.selects RX5 yX5_replace yX5_replace) ∈ LW := lw_mem (i := 657) (by decide +kernel) rfl
theorem k_co_yX5_replace : (Cond.code yX5_replace cX5_replace 5 (some .int)) ∈ LW := lw_mem (i := 658) (by decide +kernel) rfl
theorem k_fl_RX5_136 : (Cond.fieldLink RX5 136 "LedgerStore$Ledger" "ensembleSize" "I") ∈ LW := lw_mem (i := 122) (by decide +kernel) rfl
theorem k_ml_RX5_141 : (Cond.methodLink RX5 141 yX0_lastFragment) ∈ LW := lw_mem (i := 660) (by decide +kernel) rfl
theorem k_im_yX0_lastFragment : (Cond.instanceMethod yX0_lastFragment) ∈ LW := lw_mem (i := 661) (by decide +kernel) rfl
theorem k_se_yX0_lastFragment : (Cond.selects RX0 yX0_lastFragment yX0_lastFragment) ∈ LW := lw_mem (i := 662) (by decide +kernel) rfl
theorem k_co_yX0_lastFragment : (Cond.code yX0_lastFragment cX0_lastFragment 1 (some .int)) ∈ LW := lw_mem (i := 663) (by decide +kernel) rfl
theorem k_ml_RX5_144 : (Cond.methodLink RX5 144 yX0_ensembleMask) ∈ LW := lw_mem (i := 664) (by decide +kernel) rfl
theorem k_ml_RX5_147 : (Cond.methodLink RX5 147 yX3_choose) ∈ LW := lw_mem (i := 665) (by decide +kernel) rfl
theorem k_ml_RX5_152 : (Cond.methodLink RX5 152 yX3_changeEnsemble) ∈ LW := lw_mem (i := 667) (by decide +kernel) rfl
theorem k_im_yX3_changeEnsemble : (Cond.instanceMethod yX3_changeEnsemble) ∈ LW := lw_mem (i := 668) (by decide +kernel) rfl
theorem k_se_yX3_changeEnsemble : (Cond.selects RX3 yX3_changeEnsemble yX3_changeEnsemble) ∈ LW := lw_mem (i := 669) (by decide +kernel) rfl
theorem k_co_yX3_changeEnsemble : (Cond.code yX3_changeEnsemble cX3_changeEnsemble 8 none) ∈ LW := lw_mem (i := 670) (by decide +kernel) rfl
theorem k_fl_RX3_153 : (Cond.fieldLink RX3 153 "LedgerStore$Ledger" "entries" "I") ∈ LW := lw_mem (i := 135) (by decide +kernel) rfl
theorem k_ml_RX3_137 : (Cond.methodLink RX3 137 yX0_lastFragment) ∈ LW := lw_mem (i := 671) (by decide +kernel) rfl
theorem k_ml_RX3_140 : (Cond.methodLink RX3 140 yX0_nodeAt) ∈ LW := lw_mem (i := 672) (by decide +kernel) rfl
theorem k_ml_RX3_144 : (Cond.methodLink RX3 144 yX0_startOf) ∈ LW := lw_mem (i := 673) (by decide +kernel) rfl
theorem k_ml_RX3_147 : (Cond.methodLink RX3 147 yX0_addFragment) ∈ LW := lw_mem (i := 674) (by decide +kernel) rfl
theorem k_im_yX0_addFragment : (Cond.instanceMethod yX0_addFragment) ∈ LW := lw_mem (i := 675) (by decide +kernel) rfl
theorem k_se_yX0_addFragment : (Cond.selects RX0 yX0_addFragment yX0_addFragment) ∈ LW := lw_mem (i := 676) (by decide +kernel) rfl
theorem k_co_yX0_addFragment : (Cond.code yX0_addFragment cX0_addFragment 4 none) ∈ LW := lw_mem (i := 677) (by decide +kernel) rfl
theorem k_ml_RX3_150 : (Cond.methodLink RX3 150 yX0_forgetAcknowledgements) ∈ LW := lw_mem (i := 678) (by decide +kernel) rfl
theorem k_im_yX0_forgetAcknowledgements : (Cond.instanceMethod yX0_forgetAcknowledgements) ∈ LW := lw_mem (i := 679) (by decide +kernel) rfl
theorem k_se_yX0_forgetAcknowledgements : (Cond.selects RX0 yX0_forgetAcknowledgements yX0_forgetAcknowledgements) ∈ LW := lw_mem (i := 680) (by decide +kernel) rfl
theorem k_co_yX0_forgetAcknowledgements : (Cond.code yX0_forgetAcknowledgements cX0_forgetAcknowledgements 4 none) ∈ LW := lw_mem (i := 681) (by decide +kernel) rfl
theorem k_ml_RX0_74 : (Cond.methodLink RX0 74 Lib.Math.max.name) ∈ LW := lw_mem (i := 682) (by decide +kernel) rfl
theorem k_st_Lib_Math_max_name : (Cond.static Lib.Math.max.name) ∈ LW := lw_mem (i := 683) (by decide +kernel) rfl
theorem k_co_Lib_Math_max_name : (Cond.code Lib.Math.max.name Lib.Math.max.code 2 (some .int)) ∈ LW := lw_mem (i := 684) (by decide +kernel) rfl
theorem k_ml_RX3_156 : (Cond.methodLink RX3 156 yX0_writeSetMask) ∈ LW := lw_mem (i := 387) (by decide +kernel) rfl
theorem k_ml_RX3_159 : (Cond.methodLink RX3 159 yX0_payloadOf) ∈ LW := lw_mem (i := 685) (by decide +kernel) rfl
theorem k_im_yX0_payloadOf : (Cond.instanceMethod yX0_payloadOf) ∈ LW := lw_mem (i := 411) (by decide +kernel) rfl
theorem k_se_yX0_payloadOf : (Cond.selects RX0 yX0_payloadOf yX0_payloadOf) ∈ LW := lw_mem (i := 412) (by decide +kernel) rfl
theorem k_co_yX0_payloadOf : (Cond.code yX0_payloadOf cX0_payloadOf 2 (some .int)) ∈ LW := lw_mem (i := 413) (by decide +kernel) rfl
theorem k_ml_RL_145 : (Cond.methodLink RL 145 yX6_replace) ∈ LW := lw_mem (i := 1015) (by decide +kernel) rfl
theorem k_im_yX6_replace : (Cond.instanceMethod yX6_replace) ∈ LW := lw_mem (i := 1016) (by decide +kernel) rfl
theorem k_se_yX6_replace : (Cond.selects RX6 yX6_replace yX6_replace) ∈ LW := lw_mem (i := 1017) (by decide +kernel) rfl
theorem k_co_yX6_replace : (Cond.code yX6_replace cX6_replace 10 (some .int)) ∈ LW := lw_mem (i := 1018) (by decide +kernel) rfl
theorem k_ml_RX6_109 : (Cond.methodLink RX6 109 yX6_ensemble) ∈ LW := lw_mem (i := 1019) (by decide +kernel) rfl
theorem k_im_yX6_ensemble : (Cond.instanceMethod yX6_ensemble) ∈ LW := lw_mem (i := 1021) (by decide +kernel) rfl
theorem k_se_yX6_ensemble : (Cond.selects RX6 yX6_ensemble yX6_ensemble) ∈ LW := lw_mem (i := 28) (by decide +kernel) rfl
theorem k_co_yX6_ensemble : (Cond.code yX6_ensemble cX6_ensemble 5 (some .int)) ∈ LW := lw_mem (i := 1022) (by decide +kernel) rfl
theorem k_ml_RL_146 : (Cond.methodLink RL 146 yL_recover) ∈ LW := lw_mem (i := 686) (by decide +kernel) rfl
theorem k_st_yL_recover : (Cond.static yL_recover) ∈ LW := lw_mem (i := 687) (by decide +kernel) rfl
theorem k_cw_yL_recover : (Cond.codeWith yL_recover cL_recover 4 (some .int) [(0, 9, 12, 19), (0, 9, 15, 13)]) ∈ LW := lw_mem (i := 688) (by decide +kernel) rfl
theorem k_ml_RL_52 : (Cond.methodLink RL 52 yX5_recover) ∈ LW := lw_mem (i := 689) (by decide +kernel) rfl
theorem k_im_yX5_recover : (Cond.instanceMethod yX5_recover) ∈ LW := lw_mem (i := 690) (by decide +kernel) rfl
theorem k_se_yX5_recover : (Cond.selects RX5 yX5_recover yX5_recover) ∈ LW := lw_mem (i := 691) (by decide +kernel) rfl
theorem k_co_yX5_recover : (Cond.code yX5_recover cX5_recover 3 (some .int)) ∈ LW := lw_mem (i := 692) (by decide +kernel) rfl
theorem k_ml_RX5_158 : (Cond.methodLink RX5 158 yX3_recoverLedger) ∈ LW := lw_mem (i := 694) (by decide +kernel) rfl
theorem k_im_yX3_recoverLedger : (Cond.instanceMethod yX3_recoverLedger) ∈ LW := lw_mem (i := 695) (by decide +kernel) rfl
theorem k_se_yX3_recoverLedger : (Cond.selects RX3 yX3_recoverLedger yX3_recoverLedger) ∈ LW := lw_mem (i := 696) (by decide +kernel) rfl
theorem k_co_yX3_recoverLedger : (Cond.code yX3_recoverLedger cX3_recoverLedger 3 (some .int)) ∈ LW := lw_mem (i := 697) (by decide +kernel) rfl
theorem k_fl_RX3_162 : (Cond.fieldLink RX3 162 "LedgerStore$Ledger" "phase" "I") ∈ LW := lw_mem (i := 132) (by decide +kernel) rfl
theorem k_fl_RX3_180 : (Cond.fieldLink RX3 180 "LedgerStore$Ledger" "lastEntry" "I") ∈ LW := lw_mem (i := 137) (by decide +kernel) rfl
theorem k_ml_RX3_165 : (Cond.methodLink RX3 165 yX3_fenceLastEnsemble) ∈ LW := lw_mem (i := 698) (by decide +kernel) rfl
theorem k_im_yX3_fenceLastEnsemble : (Cond.instanceMethod yX3_fenceLastEnsemble) ∈ LW := lw_mem (i := 699) (by decide +kernel) rfl
theorem k_se_yX3_fenceLastEnsemble : (Cond.selects RX3 yX3_fenceLastEnsemble yX3_fenceLastEnsemble) ∈ LW := lw_mem (i := 700) (by decide +kernel) rfl
theorem k_co_yX3_fenceLastEnsemble : (Cond.code yX3_fenceLastEnsemble cX3_fenceLastEnsemble 4 none) ∈ LW := lw_mem (i := 701) (by decide +kernel) rfl
theorem k_fl_RX3_183 : (Cond.fieldLink RX3 183 "LedgerStore$Ledger" "ensembleSize" "I") ∈ LW := lw_mem (i := 123) (by decide +kernel) rfl
theorem k_ml_RX3_186 : (Cond.methodLink RX3 186 yX1_fenceFor) ∈ LW := lw_mem (i := 702) (by decide +kernel) rfl
theorem k_im_yX1_fenceFor : (Cond.instanceMethod yX1_fenceFor) ∈ LW := lw_mem (i := 703) (by decide +kernel) rfl
theorem k_se_yX1_fenceFor : (Cond.selects RX1 yX1_fenceFor yX1_fenceFor) ∈ LW := lw_mem (i := 704) (by decide +kernel) rfl
theorem k_co_yX1_fenceFor : (Cond.code yX1_fenceFor cX1_fenceFor 2 none) ∈ LW := lw_mem (i := 705) (by decide +kernel) rfl
theorem k_ml_RX3_168 : (Cond.methodLink RX3 168 yX3_someQuorumIsDown) ∈ LW := lw_mem (i := 706) (by decide +kernel) rfl
theorem k_im_yX3_someQuorumIsDown : (Cond.instanceMethod yX3_someQuorumIsDown) ∈ LW := lw_mem (i := 707) (by decide +kernel) rfl
theorem k_se_yX3_someQuorumIsDown : (Cond.selects RX3 yX3_someQuorumIsDown yX3_someQuorumIsDown) ∈ LW := lw_mem (i := 708) (by decide +kernel) rfl
theorem k_co_yX3_someQuorumIsDown : (Cond.code yX3_someQuorumIsDown cX3_someQuorumIsDown 5 (some .boolean)) ∈ LW := lw_mem (i := 709) (by decide +kernel) rfl
theorem k_fl_RX3_197 : (Cond.fieldLink RX3 197 "LedgerStore$Ledger" "ackQuorum" "I") ∈ LW := lw_mem (i := 128) (by decide +kernel) rfl
theorem k_ml_RX3_189 : (Cond.methodLink RX3 189 yX3_upMask) ∈ LW := lw_mem (i := 379) (by decide +kernel) rfl
theorem k_ml_RX3_192 : (Cond.methodLink RX3 192 yJ6_bitCount_0f7a4) ∈ LW := lw_mem (i := 400) (by decide +kernel) rfl
theorem k_ml_RX3_172 : (Cond.methodLink RX3 172 yX3_lastKnownConfirmed) ∈ LW := lw_mem (i := 710) (by decide +kernel) rfl
theorem k_im_yX3_lastKnownConfirmed : (Cond.instanceMethod yX3_lastKnownConfirmed) ∈ LW := lw_mem (i := 711) (by decide +kernel) rfl
theorem k_se_yX3_lastKnownConfirmed : (Cond.selects RX3 yX3_lastKnownConfirmed yX3_lastKnownConfirmed) ∈ LW := lw_mem (i := 712) (by decide +kernel) rfl
theorem k_co_yX3_lastKnownConfirmed : (Cond.code yX3_lastKnownConfirmed cX3_lastKnownConfirmed 5 (some .int)) ∈ LW := lw_mem (i := 713) (by decide +kernel) rfl
theorem k_ml_RX3_203 : (Cond.methodLink RX3 203 Lib.Math.max.name) ∈ LW := lw_mem (i := 722) (by decide +kernel) rfl
theorem k_ml_RX3_200 : (Cond.methodLink RX3 200 yX1_greatestConfirmed) ∈ LW := lw_mem (i := 714) (by decide +kernel) rfl
theorem k_im_yX1_greatestConfirmed : (Cond.instanceMethod yX1_greatestConfirmed) ∈ LW := lw_mem (i := 715) (by decide +kernel) rfl
theorem k_se_yX1_greatestConfirmed : (Cond.selects RX1 yX1_greatestConfirmed yX1_greatestConfirmed) ∈ LW := lw_mem (i := 716) (by decide +kernel) rfl
theorem k_co_yX1_greatestConfirmed : (Cond.code yX1_greatestConfirmed cX1_greatestConfirmed 5 (some .int)) ∈ LW := lw_mem (i := 717) (by decide +kernel) rfl
theorem k_ml_RX1_71 : (Cond.methodLink RX1 71 Lib.Math.max.name) ∈ LW := lw_mem (i := 721) (by decide +kernel) rfl
theorem k_ml_RX1_65 : (Cond.methodLink RX1 65 yX1_storedParcel) ∈ LW := lw_mem (i := 396) (by decide +kernel) rfl
theorem k_im_yX1_storedParcel : (Cond.instanceMethod yX1_storedParcel) ∈ LW := lw_mem (i := 397) (by decide +kernel) rfl
theorem k_se_yX1_storedParcel : (Cond.selects RX1 yX1_storedParcel yX1_storedParcel) ∈ LW := lw_mem (i := 398) (by decide +kernel) rfl
theorem k_co_yX1_storedParcel : (Cond.code yX1_storedParcel cX1_storedParcel 4 (some .int)) ∈ LW := lw_mem (i := 399) (by decide +kernel) rfl
theorem k_ml_RX1_68 : (Cond.methodLink RX1 68 yX2_confirmedOf) ∈ LW := lw_mem (i := 718) (by decide +kernel) rfl
theorem k_st_yX2_confirmedOf : (Cond.static yX2_confirmedOf) ∈ LW := lw_mem (i := 719) (by decide +kernel) rfl
theorem k_co_yX2_confirmedOf : (Cond.code yX2_confirmedOf cX2_confirmedOf 1 (some .int)) ∈ LW := lw_mem (i := 720) (by decide +kernel) rfl
theorem k_ml_RX3_176 : (Cond.methodLink RX3 176 yX3_recoverEntry) ∈ LW := lw_mem (i := 723) (by decide +kernel) rfl
theorem k_im_yX3_recoverEntry : (Cond.instanceMethod yX3_recoverEntry) ∈ LW := lw_mem (i := 724) (by decide +kernel) rfl
theorem k_se_yX3_recoverEntry : (Cond.selects RX3 yX3_recoverEntry yX3_recoverEntry) ∈ LW := lw_mem (i := 725) (by decide +kernel) rfl
theorem k_co_yX3_recoverEntry : (Cond.code yX3_recoverEntry cX3_recoverEntry 4 (some .boolean)) ∈ LW := lw_mem (i := 726) (by decide +kernel) rfl
theorem k_ml_RX3_208 : (Cond.methodLink RX3 208 yX3_firstCopy) ∈ LW := lw_mem (i := 727) (by decide +kernel) rfl
theorem k_im_yX3_firstCopy : (Cond.instanceMethod yX3_firstCopy) ∈ LW := lw_mem (i := 728) (by decide +kernel) rfl
theorem k_se_yX3_firstCopy : (Cond.selects RX3 yX3_firstCopy yX3_firstCopy) ∈ LW := lw_mem (i := 729) (by decide +kernel) rfl
theorem k_co_yX3_firstCopy : (Cond.code yX3_firstCopy cX3_firstCopy 6 (some .int)) ∈ LW := lw_mem (i := 730) (by decide +kernel) rfl
theorem k_ml_RX3_217 : (Cond.methodLink RX3 217 yX1_holds) ∈ LW := lw_mem (i := 392) (by decide +kernel) rfl
theorem k_im_yX1_holds : (Cond.instanceMethod yX1_holds) ∈ LW := lw_mem (i := 393) (by decide +kernel) rfl
theorem k_se_yX1_holds : (Cond.selects RX1 yX1_holds yX1_holds) ∈ LW := lw_mem (i := 394) (by decide +kernel) rfl
theorem k_co_yX1_holds : (Cond.code yX1_holds cX1_holds 3 (some .boolean)) ∈ LW := lw_mem (i := 395) (by decide +kernel) rfl
theorem k_ml_RX3_220 : (Cond.methodLink RX3 220 yX1_storedParcel) ∈ LW := lw_mem (i := 731) (by decide +kernel) rfl
theorem k_ml_RX3_212 : (Cond.methodLink RX3 212 yX2_payloadOf) ∈ LW := lw_mem (i := 732) (by decide +kernel) rfl
theorem k_st_yX2_payloadOf : (Cond.static yX2_payloadOf) ∈ LW := lw_mem (i := 733) (by decide +kernel) rfl
theorem k_co_yX2_payloadOf : (Cond.code yX2_payloadOf cX2_payloadOf 1 (some .int)) ∈ LW := lw_mem (i := 734) (by decide +kernel) rfl
theorem k_ml_RX3_213 : (Cond.methodLink RX3 213 yX3_spread) ∈ LW := lw_mem (i := 735) (by decide +kernel) rfl
theorem k_im_yX3_spread : (Cond.instanceMethod yX3_spread) ∈ LW := lw_mem (i := 736) (by decide +kernel) rfl
theorem k_se_yX3_spread : (Cond.selects RX3 yX3_spread yX3_spread) ∈ LW := lw_mem (i := 737) (by decide +kernel) rfl
theorem k_co_yX3_spread : (Cond.code yX3_spread cX3_spread 8 (some .int)) ∈ LW := lw_mem (i := 738) (by decide +kernel) rfl
theorem k_ml_RL_148 : (Cond.methodLink RL 148 yX6_recover) ∈ LW := lw_mem (i := 1023) (by decide +kernel) rfl
theorem k_im_yX6_recover : (Cond.instanceMethod yX6_recover) ∈ LW := lw_mem (i := 1024) (by decide +kernel) rfl
theorem k_se_yX6_recover : (Cond.selects RX6 yX6_recover yX6_recover) ∈ LW := lw_mem (i := 1025) (by decide +kernel) rfl
theorem k_co_yX6_recover : (Cond.code yX6_recover cX6_recover 5 (some .int)) ∈ LW := lw_mem (i := 1026) (by decide +kernel) rfl
theorem k_ml_RX6_118 : (Cond.methodLink RX6 118 yX6_isUndecided) ∈ LW := lw_mem (i := 1027) (by decide +kernel) rfl
theorem k_im_yX6_isUndecided : (Cond.instanceMethod yX6_isUndecided) ∈ LW := lw_mem (i := 1029) (by decide +kernel) rfl
theorem k_se_yX6_isUndecided : (Cond.selects RX6 yX6_isUndecided yX6_isUndecided) ∈ LW := lw_mem (i := 29) (by decide +kernel) rfl
theorem k_co_yX6_isUndecided : (Cond.code yX6_isUndecided cX6_isUndecided 7 (some .boolean)) ∈ LW := lw_mem (i := 1030) (by decide +kernel) rfl
theorem k_ml_RX6_121 : (Cond.methodLink RX6 121 yX6_storedConfirmed) ∈ LW := lw_mem (i := 1031) (by decide +kernel) rfl
theorem k_im_yX6_storedConfirmed : (Cond.instanceMethod yX6_storedConfirmed) ∈ LW := lw_mem (i := 1033) (by decide +kernel) rfl
theorem k_se_yX6_storedConfirmed : (Cond.selects RX6 yX6_storedConfirmed yX6_storedConfirmed) ∈ LW := lw_mem (i := 30) (by decide +kernel) rfl
theorem k_co_yX6_storedConfirmed : (Cond.code yX6_storedConfirmed cX6_storedConfirmed 8 (some .int)) ∈ LW := lw_mem (i := 1034) (by decide +kernel) rfl
theorem k_ml_RX6_112 : (Cond.methodLink RX6 112 yX6_stores) ∈ LW := lw_mem (i := 1035) (by decide +kernel) rfl
theorem k_im_yX6_stores : (Cond.instanceMethod yX6_stores) ∈ LW := lw_mem (i := 1037) (by decide +kernel) rfl
theorem k_se_yX6_stores : (Cond.selects RX6 yX6_stores yX6_stores) ∈ LW := lw_mem (i := 31) (by decide +kernel) rfl
theorem k_co_yX6_stores : (Cond.code yX6_stores cX6_stores 4 (some .boolean)) ∈ LW := lw_mem (i := 1038) (by decide +kernel) rfl
theorem k_ml_RX6_115 : (Cond.methodLink RX6 115 yX6_confirmedAt) ∈ LW := lw_mem (i := 1039) (by decide +kernel) rfl
theorem k_im_yX6_confirmedAt : (Cond.instanceMethod yX6_confirmedAt) ∈ LW := lw_mem (i := 1041) (by decide +kernel) rfl
theorem k_se_yX6_confirmedAt : (Cond.selects RX6 yX6_confirmedAt yX6_confirmedAt) ∈ LW := lw_mem (i := 32) (by decide +kernel) rfl
theorem k_co_yX6_confirmedAt : (Cond.code yX6_confirmedAt cX6_confirmedAt 4 (some .int)) ∈ LW := lw_mem (i := 1042) (by decide +kernel) rfl
theorem k_ml_RX6_124 : (Cond.methodLink RX6 124 yX6_source) ∈ LW := lw_mem (i := 1043) (by decide +kernel) rfl
theorem k_im_yX6_source : (Cond.instanceMethod yX6_source) ∈ LW := lw_mem (i := 1045) (by decide +kernel) rfl
theorem k_se_yX6_source : (Cond.selects RX6 yX6_source yX6_source) ∈ LW := lw_mem (i := 33) (by decide +kernel) rfl
theorem k_co_yX6_source : (Cond.code yX6_source cX6_source 6 (some .int)) ∈ LW := lw_mem (i := 1046) (by decide +kernel) rfl
theorem k_ml_RX6_127 : (Cond.methodLink RX6 127 yX6_payloadAt) ∈ LW := lw_mem (i := 1047) (by decide +kernel) rfl
theorem k_im_yX6_payloadAt : (Cond.instanceMethod yX6_payloadAt) ∈ LW := lw_mem (i := 1049) (by decide +kernel) rfl
theorem k_se_yX6_payloadAt : (Cond.selects RX6 yX6_payloadAt yX6_payloadAt) ∈ LW := lw_mem (i := 34) (by decide +kernel) rfl
theorem k_co_yX6_payloadAt : (Cond.code yX6_payloadAt cX6_payloadAt 4 (some .int)) ∈ LW := lw_mem (i := 1050) (by decide +kernel) rfl
theorem k_ml_RX6_130 : (Cond.methodLink RX6 130 yX6_recoverEntry) ∈ LW := lw_mem (i := 1051) (by decide +kernel) rfl
theorem k_im_yX6_recoverEntry : (Cond.instanceMethod yX6_recoverEntry) ∈ LW := lw_mem (i := 1053) (by decide +kernel) rfl
theorem k_se_yX6_recoverEntry : (Cond.selects RX6 yX6_recoverEntry yX6_recoverEntry) ∈ LW := lw_mem (i := 35) (by decide +kernel) rfl
theorem k_co_yX6_recoverEntry : (Cond.code yX6_recoverEntry cX6_recoverEntry 7 none) ∈ LW := lw_mem (i := 1054) (by decide +kernel) rfl
theorem k_ml_RL_149 : (Cond.methodLink RL 149 yL_repair) ∈ LW := lw_mem (i := 739) (by decide +kernel) rfl
theorem k_st_yL_repair : (Cond.static yL_repair) ∈ LW := lw_mem (i := 740) (by decide +kernel) rfl
theorem k_cw_yL_repair : (Cond.codeWith yL_repair cL_repair 4 (some .int) [(0, 9, 12, 19), (0, 9, 15, 13)]) ∈ LW := lw_mem (i := 741) (by decide +kernel) rfl
theorem k_ml_RL_55 : (Cond.methodLink RL 55 yX5_repair) ∈ LW := lw_mem (i := 742) (by decide +kernel) rfl
theorem k_im_yX5_repair : (Cond.instanceMethod yX5_repair) ∈ LW := lw_mem (i := 743) (by decide +kernel) rfl
theorem k_se_yX5_repair : (Cond.selects RX5 yX5_repair yX5_repair) ∈ LW := lw_mem (i := 744) (by decide +kernel) rfl
theorem k_co_yX5_repair : (Cond.code yX5_repair cX5_repair 3 (some .int)) ∈ LW := lw_mem (i := 745) (by decide +kernel) rfl
theorem k_ml_RX5_164 : (Cond.methodLink RX5 164 yX3_replaceDownNodes) ∈ LW := lw_mem (i := 747) (by decide +kernel) rfl
theorem k_im_yX3_replaceDownNodes : (Cond.instanceMethod yX3_replaceDownNodes) ∈ LW := lw_mem (i := 748) (by decide +kernel) rfl
theorem k_se_yX3_replaceDownNodes : (Cond.selects RX3 yX3_replaceDownNodes yX3_replaceDownNodes) ∈ LW := lw_mem (i := 749) (by decide +kernel) rfl
theorem k_co_yX3_replaceDownNodes : (Cond.code yX3_replaceDownNodes cX3_replaceDownNodes 5 none) ∈ LW := lw_mem (i := 750) (by decide +kernel) rfl
theorem k_fl_RX3_223 : (Cond.fieldLink RX3 223 "LedgerStore$Ledger" "fragments" "I") ∈ LW := lw_mem (i := 139) (by decide +kernel) rfl
theorem k_ml_RX5_168 : (Cond.methodLink RX5 168 yX3_copyMissingEntries) ∈ LW := lw_mem (i := 751) (by decide +kernel) rfl
theorem k_im_yX3_copyMissingEntries : (Cond.instanceMethod yX3_copyMissingEntries) ∈ LW := lw_mem (i := 752) (by decide +kernel) rfl
theorem k_se_yX3_copyMissingEntries : (Cond.selects RX3 yX3_copyMissingEntries yX3_copyMissingEntries) ∈ LW := lw_mem (i := 753) (by decide +kernel) rfl
theorem k_co_yX3_copyMissingEntries : (Cond.code yX3_copyMissingEntries cX3_copyMissingEntries 6 (some .int)) ∈ LW := lw_mem (i := 754) (by decide +kernel) rfl
theorem k_ml_RX3_229 : (Cond.methodLink RX3 229 Lib.Math.min.name) ∈ LW := lw_mem (i := 385) (by decide +kernel) rfl
theorem k_ml_RX3_226 : (Cond.methodLink RX3 226 yX0_lastToRead) ∈ LW := lw_mem (i := 384) (by decide +kernel) rfl
theorem k_im_yX0_lastToRead : (Cond.instanceMethod yX0_lastToRead) ∈ LW := lw_mem (i := 358) (by decide +kernel) rfl
theorem k_se_yX0_lastToRead : (Cond.selects RX0 yX0_lastToRead yX0_lastToRead) ∈ LW := lw_mem (i := 359) (by decide +kernel) rfl
theorem k_co_yX0_lastToRead : (Cond.code yX0_lastToRead cX0_lastToRead 1 (some .int)) ∈ LW := lw_mem (i := 360) (by decide +kernel) rfl
theorem k_ml_RX0_82 : (Cond.methodLink RX0 82 yX0_lastConfirmed) ∈ LW := lw_mem (i := 361) (by decide +kernel) rfl
theorem k_ml_RL_151 : (Cond.methodLink RL 151 yX6_repair) ∈ LW := lw_mem (i := 1055) (by decide +kernel) rfl
theorem k_im_yX6_repair : (Cond.instanceMethod yX6_repair) ∈ LW := lw_mem (i := 1056) (by decide +kernel) rfl
theorem k_se_yX6_repair : (Cond.selects RX6 yX6_repair yX6_repair) ∈ LW := lw_mem (i := 1057) (by decide +kernel) rfl
theorem k_co_yX6_repair : (Cond.code yX6_repair cX6_repair 4 (some .int)) ∈ LW := lw_mem (i := 1058) (by decide +kernel) rfl
theorem k_ml_RX6_133 : (Cond.methodLink RX6 133 yX6_replaceDowns) ∈ LW := lw_mem (i := 1059) (by decide +kernel) rfl
theorem k_im_yX6_replaceDowns : (Cond.instanceMethod yX6_replaceDowns) ∈ LW := lw_mem (i := 1061) (by decide +kernel) rfl
theorem k_se_yX6_replaceDowns : (Cond.selects RX6 yX6_replaceDowns yX6_replaceDowns) ∈ LW := lw_mem (i := 36) (by decide +kernel) rfl
theorem k_co_yX6_replaceDowns : (Cond.code yX6_replaceDowns cX6_replaceDowns 5 none) ∈ LW := lw_mem (i := 1062) (by decide +kernel) rfl
theorem k_ml_RX6_136 : (Cond.methodLink RX6 136 yX6_copies) ∈ LW := lw_mem (i := 1063) (by decide +kernel) rfl
theorem k_im_yX6_copies : (Cond.instanceMethod yX6_copies) ∈ LW := lw_mem (i := 1065) (by decide +kernel) rfl
theorem k_se_yX6_copies : (Cond.selects RX6 yX6_copies yX6_copies) ∈ LW := lw_mem (i := 37) (by decide +kernel) rfl
theorem k_co_yX6_copies : (Cond.code yX6_copies cX6_copies 8 (some .int)) ∈ LW := lw_mem (i := 1066) (by decide +kernel) rfl
theorem k_ml_RL_152 : (Cond.methodLink RL 152 yL_read) ∈ LW := lw_mem (i := 755) (by decide +kernel) rfl
theorem k_st_yL_read : (Cond.static yL_read) ∈ LW := lw_mem (i := 756) (by decide +kernel) rfl
theorem k_cw_yL_read : (Cond.codeWith yL_read cL_read 5 (some .int) [(0, 10, 13, 19), (0, 10, 17, 13)]) ∈ LW := lw_mem (i := 757) (by decide +kernel) rfl
theorem k_ml_RL_58 : (Cond.methodLink RL 58 yX5_read) ∈ LW := lw_mem (i := 758) (by decide +kernel) rfl
theorem k_im_yX5_read : (Cond.instanceMethod yX5_read) ∈ LW := lw_mem (i := 759) (by decide +kernel) rfl
theorem k_se_yX5_read : (Cond.selects RX5 yX5_read yX5_read) ∈ LW := lw_mem (i := 760) (by decide +kernel) rfl
theorem k_co_yX5_read : (Cond.code yX5_read cX5_read 5 (some .int)) ∈ LW := lw_mem (i := 761) (by decide +kernel) rfl
theorem k_ml_RX5_173 : (Cond.methodLink RX5 173 yX0_lastToRead) ∈ LW := lw_mem (i := 357) (by decide +kernel) rfl
theorem k_ml_RX5_178 : (Cond.methodLink RX5 178 yX3_firstCopy) ∈ LW := lw_mem (i := 764) (by decide +kernel) rfl
theorem k_ml_RX5_181 : (Cond.methodLink RX5 181 yX2_payloadOf) ∈ LW := lw_mem (i := 765) (by decide +kernel) rfl
theorem k_ml_RL_154 : (Cond.methodLink RL 154 yX6_read) ∈ LW := lw_mem (i := 1067) (by decide +kernel) rfl
theorem k_im_yX6_read : (Cond.instanceMethod yX6_read) ∈ LW := lw_mem (i := 1068) (by decide +kernel) rfl
theorem k_se_yX6_read : (Cond.selects RX6 yX6_read yX6_read) ∈ LW := lw_mem (i := 1069) (by decide +kernel) rfl
theorem k_co_yX6_read : (Cond.code yX6_read cX6_read 5 (some .int)) ∈ LW := lw_mem (i := 1070) (by decide +kernel) rfl
theorem k_ml_RX6_139 : (Cond.methodLink RX6 139 yX6_readable) ∈ LW := lw_mem (i := 1071) (by decide +kernel) rfl
theorem k_im_yX6_readable : (Cond.instanceMethod yX6_readable) ∈ LW := lw_mem (i := 1073) (by decide +kernel) rfl
theorem k_se_yX6_readable : (Cond.selects RX6 yX6_readable yX6_readable) ∈ LW := lw_mem (i := 38) (by decide +kernel) rfl
theorem k_co_yX6_readable : (Cond.code yX6_readable cX6_readable 3 (some .int)) ∈ LW := lw_mem (i := 1074) (by decide +kernel) rfl
theorem k_ml_RL_155 : (Cond.methodLink RL 155 yL_state) ∈ LW := lw_mem (i := 766) (by decide +kernel) rfl
theorem k_st_yL_state : (Cond.static yL_state) ∈ LW := lw_mem (i := 767) (by decide +kernel) rfl
theorem k_cw_yL_state : (Cond.codeWith yL_state cL_state 4 (some .int) [(0, 9, 12, 19)]) ∈ LW := lw_mem (i := 768) (by decide +kernel) rfl
theorem k_ml_RL_61 : (Cond.methodLink RL 61 yX5_state) ∈ LW := lw_mem (i := 769) (by decide +kernel) rfl
theorem k_im_yX5_state : (Cond.instanceMethod yX5_state) ∈ LW := lw_mem (i := 770) (by decide +kernel) rfl
theorem k_se_yX5_state : (Cond.selects RX5 yX5_state yX5_state) ∈ LW := lw_mem (i := 771) (by decide +kernel) rfl
theorem k_co_yX5_state : (Cond.code yX5_state cX5_state 2 (some .int)) ∈ LW := lw_mem (i := 772) (by decide +kernel) rfl
theorem k_ml_RL_157 : (Cond.methodLink RL 157 yX6_state) ∈ LW := lw_mem (i := 1075) (by decide +kernel) rfl
theorem k_im_yX6_state : (Cond.instanceMethod yX6_state) ∈ LW := lw_mem (i := 1076) (by decide +kernel) rfl
theorem k_se_yX6_state : (Cond.selects RX6 yX6_state yX6_state) ∈ LW := lw_mem (i := 1077) (by decide +kernel) rfl
theorem k_co_yX6_state : (Cond.code yX6_state cX6_state 2 (some .int)) ∈ LW := lw_mem (i := 1078) (by decide +kernel) rfl
theorem k_ml_RL_158 : (Cond.methodLink RL 158 yL_lastReadable) ∈ LW := lw_mem (i := 773) (by decide +kernel) rfl
theorem k_st_yL_lastReadable : (Cond.static yL_lastReadable) ∈ LW := lw_mem (i := 774) (by decide +kernel) rfl
theorem k_cw_yL_lastReadable : (Cond.codeWith yL_lastReadable cL_lastReadable 4 (some .int) [(0, 9, 12, 19)]) ∈ LW := lw_mem (i := 775) (by decide +kernel) rfl
theorem k_ml_RL_64 : (Cond.methodLink RL 64 yX5_lastReadable) ∈ LW := lw_mem (i := 776) (by decide +kernel) rfl
theorem k_im_yX5_lastReadable : (Cond.instanceMethod yX5_lastReadable) ∈ LW := lw_mem (i := 777) (by decide +kernel) rfl
theorem k_se_yX5_lastReadable : (Cond.selects RX5 yX5_lastReadable yX5_lastReadable) ∈ LW := lw_mem (i := 778) (by decide +kernel) rfl
theorem k_co_yX5_lastReadable : (Cond.code yX5_lastReadable cX5_lastReadable 2 (some .int)) ∈ LW := lw_mem (i := 779) (by decide +kernel) rfl
theorem k_ml_RL_160 : (Cond.methodLink RL 160 yX6_lastReadable) ∈ LW := lw_mem (i := 1079) (by decide +kernel) rfl
theorem k_im_yX6_lastReadable : (Cond.instanceMethod yX6_lastReadable) ∈ LW := lw_mem (i := 1080) (by decide +kernel) rfl
theorem k_se_yX6_lastReadable : (Cond.selects RX6 yX6_lastReadable yX6_lastReadable) ∈ LW := lw_mem (i := 1081) (by decide +kernel) rfl
theorem k_co_yX6_lastReadable : (Cond.code yX6_lastReadable cX6_lastReadable 2 (some .int)) ∈ LW := lw_mem (i := 1082) (by decide +kernel) rfl
theorem k_ml_RL_161 : (Cond.methodLink RL 161 yL_appended) ∈ LW := lw_mem (i := 780) (by decide +kernel) rfl
theorem k_st_yL_appended : (Cond.static yL_appended) ∈ LW := lw_mem (i := 781) (by decide +kernel) rfl
theorem k_cw_yL_appended : (Cond.codeWith yL_appended cL_appended 4 (some .int) [(0, 9, 12, 19)]) ∈ LW := lw_mem (i := 782) (by decide +kernel) rfl
theorem k_ml_RL_67 : (Cond.methodLink RL 67 yX5_appended) ∈ LW := lw_mem (i := 783) (by decide +kernel) rfl
theorem k_im_yX5_appended : (Cond.instanceMethod yX5_appended) ∈ LW := lw_mem (i := 784) (by decide +kernel) rfl
theorem k_se_yX5_appended : (Cond.selects RX5 yX5_appended yX5_appended) ∈ LW := lw_mem (i := 785) (by decide +kernel) rfl
theorem k_co_yX5_appended : (Cond.code yX5_appended cX5_appended 2 (some .int)) ∈ LW := lw_mem (i := 786) (by decide +kernel) rfl
theorem k_ml_RL_163 : (Cond.methodLink RL 163 yX6_appended) ∈ LW := lw_mem (i := 1083) (by decide +kernel) rfl
theorem k_im_yX6_appended : (Cond.instanceMethod yX6_appended) ∈ LW := lw_mem (i := 1084) (by decide +kernel) rfl
theorem k_se_yX6_appended : (Cond.selects RX6 yX6_appended yX6_appended) ∈ LW := lw_mem (i := 1085) (by decide +kernel) rfl
theorem k_co_yX6_appended : (Cond.code yX6_appended cX6_appended 2 (some .int)) ∈ LW := lw_mem (i := 1086) (by decide +kernel) rfl
theorem k_ml_RL_164 : (Cond.methodLink RL 164 yL_acknowledgements) ∈ LW := lw_mem (i := 787) (by decide +kernel) rfl
theorem k_st_yL_acknowledgements : (Cond.static yL_acknowledgements) ∈ LW := lw_mem (i := 788) (by decide +kernel) rfl
theorem k_cw_yL_acknowledgements : (Cond.codeWith yL_acknowledgements cL_acknowledgements 5 (some .int) [(0, 10, 13, 19)]) ∈ LW := lw_mem (i := 789) (by decide +kernel) rfl
theorem k_ml_RL_70 : (Cond.methodLink RL 70 yX5_acknowledgements) ∈ LW := lw_mem (i := 790) (by decide +kernel) rfl
theorem k_im_yX5_acknowledgements : (Cond.instanceMethod yX5_acknowledgements) ∈ LW := lw_mem (i := 791) (by decide +kernel) rfl
theorem k_se_yX5_acknowledgements : (Cond.selects RX5 yX5_acknowledgements yX5_acknowledgements) ∈ LW := lw_mem (i := 792) (by decide +kernel) rfl
theorem k_co_yX5_acknowledgements : (Cond.code yX5_acknowledgements cX5_acknowledgements 4 (some .int)) ∈ LW := lw_mem (i := 793) (by decide +kernel) rfl
theorem k_ml_RX5_186 : (Cond.methodLink RX5 186 yX5_requireAppended) ∈ LW := lw_mem (i := 794) (by decide +kernel) rfl
theorem k_st_yX5_requireAppended : (Cond.static yX5_requireAppended) ∈ LW := lw_mem (i := 795) (by decide +kernel) rfl
theorem k_co_yX5_requireAppended : (Cond.code yX5_requireAppended cX5_requireAppended 2 none) ∈ LW := lw_mem (i := 796) (by decide +kernel) rfl
theorem k_ml_RX5_190 : (Cond.methodLink RX5 190 yX0_countAcknowledgers) ∈ LW := lw_mem (i := 414) (by decide +kernel) rfl
theorem k_ml_RL_166 : (Cond.methodLink RL 166 yX6_acknowledgements) ∈ LW := lw_mem (i := 1087) (by decide +kernel) rfl
theorem k_im_yX6_acknowledgements : (Cond.instanceMethod yX6_acknowledgements) ∈ LW := lw_mem (i := 1088) (by decide +kernel) rfl
theorem k_se_yX6_acknowledgements : (Cond.selects RX6 yX6_acknowledgements yX6_acknowledgements) ∈ LW := lw_mem (i := 1089) (by decide +kernel) rfl
theorem k_co_yX6_acknowledgements : (Cond.code yX6_acknowledgements cX6_acknowledgements 3 (some .int)) ∈ LW := lw_mem (i := 1090) (by decide +kernel) rfl
theorem k_ml_RX6_142 : (Cond.methodLink RX6 142 yX6_isEntry) ∈ LW := lw_mem (i := 1091) (by decide +kernel) rfl
theorem k_im_yX6_isEntry : (Cond.instanceMethod yX6_isEntry) ∈ LW := lw_mem (i := 1093) (by decide +kernel) rfl
theorem k_se_yX6_isEntry : (Cond.selects RX6 yX6_isEntry yX6_isEntry) ∈ LW := lw_mem (i := 39) (by decide +kernel) rfl
theorem k_co_yX6_isEntry : (Cond.code yX6_isEntry cX6_isEntry 3 (some .boolean)) ∈ LW := lw_mem (i := 1094) (by decide +kernel) rfl
theorem k_ml_RL_167 : (Cond.methodLink RL 167 yL_holders) ∈ LW := lw_mem (i := 798) (by decide +kernel) rfl
theorem k_st_yL_holders : (Cond.static yL_holders) ∈ LW := lw_mem (i := 799) (by decide +kernel) rfl
theorem k_cw_yL_holders : (Cond.codeWith yL_holders cL_holders 5 (some .int) [(0, 10, 13, 19)]) ∈ LW := lw_mem (i := 800) (by decide +kernel) rfl
theorem k_ml_RL_73 : (Cond.methodLink RL 73 yX5_holders) ∈ LW := lw_mem (i := 801) (by decide +kernel) rfl
theorem k_im_yX5_holders : (Cond.instanceMethod yX5_holders) ∈ LW := lw_mem (i := 802) (by decide +kernel) rfl
theorem k_se_yX5_holders : (Cond.selects RX5 yX5_holders yX5_holders) ∈ LW := lw_mem (i := 803) (by decide +kernel) rfl
theorem k_co_yX5_holders : (Cond.code yX5_holders cX5_holders 4 (some .int)) ∈ LW := lw_mem (i := 804) (by decide +kernel) rfl
theorem k_ml_RX5_193 : (Cond.methodLink RX5 193 yX3_holderMask) ∈ LW := lw_mem (i := 415) (by decide +kernel) rfl
theorem k_im_yX3_holderMask : (Cond.instanceMethod yX3_holderMask) ∈ LW := lw_mem (i := 389) (by decide +kernel) rfl
theorem k_se_yX3_holderMask : (Cond.selects RX3 yX3_holderMask yX3_holderMask) ∈ LW := lw_mem (i := 390) (by decide +kernel) rfl
theorem k_co_yX3_holderMask : (Cond.code yX3_holderMask cX3_holderMask 6 (some .int)) ∈ LW := lw_mem (i := 391) (by decide +kernel) rfl
theorem k_ml_RL_169 : (Cond.methodLink RL 169 yX6_holders) ∈ LW := lw_mem (i := 1095) (by decide +kernel) rfl
theorem k_im_yX6_holders : (Cond.instanceMethod yX6_holders) ∈ LW := lw_mem (i := 1096) (by decide +kernel) rfl
theorem k_se_yX6_holders : (Cond.selects RX6 yX6_holders yX6_holders) ∈ LW := lw_mem (i := 1097) (by decide +kernel) rfl
theorem k_co_yX6_holders : (Cond.code yX6_holders cX6_holders 3 (some .int)) ∈ LW := lw_mem (i := 1098) (by decide +kernel) rfl
theorem k_ml_RX6_145 : (Cond.methodLink RX6 145 yX6_holding) ∈ LW := lw_mem (i := 1099) (by decide +kernel) rfl
theorem k_im_yX6_holding : (Cond.instanceMethod yX6_holding) ∈ LW := lw_mem (i := 1101) (by decide +kernel) rfl
theorem k_se_yX6_holding : (Cond.selects RX6 yX6_holding yX6_holding) ∈ LW := lw_mem (i := 40) (by decide +kernel) rfl
theorem k_co_yX6_holding : (Cond.code yX6_holding cX6_holding 5 (some .int)) ∈ LW := lw_mem (i := 1102) (by decide +kernel) rfl
theorem k_ml_RL_170 : (Cond.methodLink RL 170 yL_fragmentCount) ∈ LW := lw_mem (i := 805) (by decide +kernel) rfl
theorem k_st_yL_fragmentCount : (Cond.static yL_fragmentCount) ∈ LW := lw_mem (i := 806) (by decide +kernel) rfl
theorem k_cw_yL_fragmentCount : (Cond.codeWith yL_fragmentCount cL_fragmentCount 4 (some .int) [(0, 9, 12, 19)]) ∈ LW := lw_mem (i := 807) (by decide +kernel) rfl
theorem k_ml_RL_76 : (Cond.methodLink RL 76 yX5_fragmentCount) ∈ LW := lw_mem (i := 808) (by decide +kernel) rfl
theorem k_im_yX5_fragmentCount : (Cond.instanceMethod yX5_fragmentCount) ∈ LW := lw_mem (i := 809) (by decide +kernel) rfl
theorem k_se_yX5_fragmentCount : (Cond.selects RX5 yX5_fragmentCount yX5_fragmentCount) ∈ LW := lw_mem (i := 810) (by decide +kernel) rfl
theorem k_co_yX5_fragmentCount : (Cond.code yX5_fragmentCount cX5_fragmentCount 2 (some .int)) ∈ LW := lw_mem (i := 811) (by decide +kernel) rfl
theorem k_fl_RX5_196 : (Cond.fieldLink RX5 196 "LedgerStore$Ledger" "fragments" "I") ∈ LW := lw_mem (i := 140) (by decide +kernel) rfl
theorem k_ml_RL_172 : (Cond.methodLink RL 172 yX6_fragmentCount) ∈ LW := lw_mem (i := 1103) (by decide +kernel) rfl
theorem k_im_yX6_fragmentCount : (Cond.instanceMethod yX6_fragmentCount) ∈ LW := lw_mem (i := 1104) (by decide +kernel) rfl
theorem k_se_yX6_fragmentCount : (Cond.selects RX6 yX6_fragmentCount yX6_fragmentCount) ∈ LW := lw_mem (i := 1105) (by decide +kernel) rfl
theorem k_co_yX6_fragmentCount : (Cond.code yX6_fragmentCount cX6_fragmentCount 2 (some .int)) ∈ LW := lw_mem (i := 1106) (by decide +kernel) rfl
theorem k_ml_RL_173 : (Cond.methodLink RL 173 yL_firstEntry) ∈ LW := lw_mem (i := 812) (by decide +kernel) rfl
theorem k_st_yL_firstEntry : (Cond.static yL_firstEntry) ∈ LW := lw_mem (i := 813) (by decide +kernel) rfl
theorem k_cw_yL_firstEntry : (Cond.codeWith yL_firstEntry cL_firstEntry 5 (some .int) [(0, 10, 13, 19)]) ∈ LW := lw_mem (i := 814) (by decide +kernel) rfl
theorem k_ml_RL_79 : (Cond.methodLink RL 79 yX5_firstEntry) ∈ LW := lw_mem (i := 815) (by decide +kernel) rfl
theorem k_im_yX5_firstEntry : (Cond.instanceMethod yX5_firstEntry) ∈ LW := lw_mem (i := 816) (by decide +kernel) rfl
theorem k_se_yX5_firstEntry : (Cond.selects RX5 yX5_firstEntry yX5_firstEntry) ∈ LW := lw_mem (i := 817) (by decide +kernel) rfl
theorem k_co_yX5_firstEntry : (Cond.code yX5_firstEntry cX5_firstEntry 4 (some .int)) ∈ LW := lw_mem (i := 818) (by decide +kernel) rfl
theorem k_ml_RX5_199 : (Cond.methodLink RX5 199 yX5_requireFragment) ∈ LW := lw_mem (i := 819) (by decide +kernel) rfl
theorem k_st_yX5_requireFragment : (Cond.static yX5_requireFragment) ∈ LW := lw_mem (i := 820) (by decide +kernel) rfl
theorem k_co_yX5_requireFragment : (Cond.code yX5_requireFragment cX5_requireFragment 2 none) ∈ LW := lw_mem (i := 821) (by decide +kernel) rfl
theorem k_ml_RX5_202 : (Cond.methodLink RX5 202 yX0_startOf) ∈ LW := lw_mem (i := 404) (by decide +kernel) rfl
theorem k_ml_RL_175 : (Cond.methodLink RL 175 yX6_firstEntry) ∈ LW := lw_mem (i := 1107) (by decide +kernel) rfl
theorem k_im_yX6_firstEntry : (Cond.instanceMethod yX6_firstEntry) ∈ LW := lw_mem (i := 1108) (by decide +kernel) rfl
theorem k_se_yX6_firstEntry : (Cond.selects RX6 yX6_firstEntry yX6_firstEntry) ∈ LW := lw_mem (i := 1109) (by decide +kernel) rfl
theorem k_co_yX6_firstEntry : (Cond.code yX6_firstEntry cX6_firstEntry 3 (some .int)) ∈ LW := lw_mem (i := 1110) (by decide +kernel) rfl
theorem k_ml_RX6_148 : (Cond.methodLink RX6 148 yX6_isFragment) ∈ LW := lw_mem (i := 1111) (by decide +kernel) rfl
theorem k_im_yX6_isFragment : (Cond.instanceMethod yX6_isFragment) ∈ LW := lw_mem (i := 1113) (by decide +kernel) rfl
theorem k_se_yX6_isFragment : (Cond.selects RX6 yX6_isFragment yX6_isFragment) ∈ LW := lw_mem (i := 41) (by decide +kernel) rfl
theorem k_co_yX6_isFragment : (Cond.code yX6_isFragment cX6_isFragment 3 (some .boolean)) ∈ LW := lw_mem (i := 1114) (by decide +kernel) rfl
theorem k_ml_RL_176 : (Cond.methodLink RL 176 yL_member) ∈ LW := lw_mem (i := 823) (by decide +kernel) rfl
theorem k_st_yL_member : (Cond.static yL_member) ∈ LW := lw_mem (i := 824) (by decide +kernel) rfl
theorem k_cw_yL_member : (Cond.codeWith yL_member cL_member 6 (some .int) [(0, 12, 15, 19)]) ∈ LW := lw_mem (i := 825) (by decide +kernel) rfl
theorem k_ml_RL_82 : (Cond.methodLink RL 82 yX5_member) ∈ LW := lw_mem (i := 826) (by decide +kernel) rfl
theorem k_im_yX5_member : (Cond.instanceMethod yX5_member) ∈ LW := lw_mem (i := 827) (by decide +kernel) rfl
theorem k_se_yX5_member : (Cond.selects RX5 yX5_member yX5_member) ∈ LW := lw_mem (i := 828) (by decide +kernel) rfl
theorem k_co_yX5_member : (Cond.code yX5_member cX5_member 5 (some .int)) ∈ LW := lw_mem (i := 829) (by decide +kernel) rfl
theorem k_ml_RX5_205 : (Cond.methodLink RX5 205 yX0_nodeAt) ∈ LW := lw_mem (i := 405) (by decide +kernel) rfl
theorem k_ml_RL_178 : (Cond.methodLink RL 178 yX6_member) ∈ LW := lw_mem (i := 1115) (by decide +kernel) rfl
theorem k_im_yX6_member : (Cond.instanceMethod yX6_member) ∈ LW := lw_mem (i := 1116) (by decide +kernel) rfl
theorem k_se_yX6_member : (Cond.selects RX6 yX6_member yX6_member) ∈ LW := lw_mem (i := 1117) (by decide +kernel) rfl
theorem k_co_yX6_member : (Cond.code yX6_member cX6_member 5 (some .int)) ∈ LW := lw_mem (i := 1118) (by decide +kernel) rfl
theorem k_ml_RL_179 : (Cond.methodLink RL 179 yL_underReplicated) ∈ LW := lw_mem (i := 830) (by decide +kernel) rfl
theorem k_st_yL_underReplicated : (Cond.static yL_underReplicated) ∈ LW := lw_mem (i := 831) (by decide +kernel) rfl
theorem k_cw_yL_underReplicated : (Cond.codeWith yL_underReplicated cL_underReplicated 4 (some .int) [(0, 9, 12, 19)]) ∈ LW := lw_mem (i := 832) (by decide +kernel) rfl
theorem k_ml_RL_85 : (Cond.methodLink RL 85 yX5_underReplicated) ∈ LW := lw_mem (i := 833) (by decide +kernel) rfl
theorem k_im_yX5_underReplicated : (Cond.instanceMethod yX5_underReplicated) ∈ LW := lw_mem (i := 834) (by decide +kernel) rfl
theorem k_se_yX5_underReplicated : (Cond.selects RX5 yX5_underReplicated yX5_underReplicated) ∈ LW := lw_mem (i := 835) (by decide +kernel) rfl
theorem k_co_yX5_underReplicated : (Cond.code yX5_underReplicated cX5_underReplicated 2 (some .int)) ∈ LW := lw_mem (i := 836) (by decide +kernel) rfl
theorem k_ml_RX5_209 : (Cond.methodLink RX5 209 yX3_countUnderReplicated) ∈ LW := lw_mem (i := 375) (by decide +kernel) rfl
theorem k_im_yX3_countUnderReplicated : (Cond.instanceMethod yX3_countUnderReplicated) ∈ LW := lw_mem (i := 376) (by decide +kernel) rfl
theorem k_se_yX3_countUnderReplicated : (Cond.selects RX3 yX3_countUnderReplicated yX3_countUnderReplicated) ∈ LW := lw_mem (i := 377) (by decide +kernel) rfl
theorem k_co_yX3_countUnderReplicated : (Cond.code yX3_countUnderReplicated cX3_countUnderReplicated 7 (some .int)) ∈ LW := lw_mem (i := 378) (by decide +kernel) rfl
theorem k_ml_RX3_232 : (Cond.methodLink RX3 232 yX3_holderMask) ∈ LW := lw_mem (i := 388) (by decide +kernel) rfl
theorem k_ml_RL_181 : (Cond.methodLink RL 181 yX6_underReplicated) ∈ LW := lw_mem (i := 1119) (by decide +kernel) rfl
theorem k_im_yX6_underReplicated : (Cond.instanceMethod yX6_underReplicated) ∈ LW := lw_mem (i := 1120) (by decide +kernel) rfl
theorem k_se_yX6_underReplicated : (Cond.selects RX6 yX6_underReplicated yX6_underReplicated) ∈ LW := lw_mem (i := 1121) (by decide +kernel) rfl
theorem k_co_yX6_underReplicated : (Cond.code yX6_underReplicated cX6_underReplicated 2 (some .int)) ∈ LW := lw_mem (i := 1122) (by decide +kernel) rfl
theorem k_ml_RX6_151 : (Cond.methodLink RX6 151 yX6_under) ∈ LW := lw_mem (i := 1123) (by decide +kernel) rfl
theorem k_im_yX6_under : (Cond.instanceMethod yX6_under) ∈ LW := lw_mem (i := 1125) (by decide +kernel) rfl
theorem k_se_yX6_under : (Cond.selects RX6 yX6_under yX6_under) ∈ LW := lw_mem (i := 42) (by decide +kernel) rfl
theorem k_co_yX6_under : (Cond.code yX6_under cX6_under 8 (some .int)) ∈ LW := lw_mem (i := 1126) (by decide +kernel) rfl
theorem k_ml_RL_182 : (Cond.methodLink RL 182 yL_undo) ∈ LW := lw_mem (i := 837) (by decide +kernel) rfl
theorem k_st_yL_undo : (Cond.static yL_undo) ∈ LW := lw_mem (i := 838) (by decide +kernel) rfl
theorem k_cw_yL_undo : (Cond.codeWith yL_undo cL_undo 3 (some .int) [(0, 8, 11, 13)]) ∈ LW := lw_mem (i := 839) (by decide +kernel) rfl
theorem k_ml_RL_88 : (Cond.methodLink RL 88 yX5_undo) ∈ LW := lw_mem (i := 840) (by decide +kernel) rfl
theorem k_im_yX5_undo : (Cond.instanceMethod yX5_undo) ∈ LW := lw_mem (i := 841) (by decide +kernel) rfl
theorem k_se_yX5_undo : (Cond.selects RX5 yX5_undo yX5_undo) ∈ LW := lw_mem (i := 842) (by decide +kernel) rfl
theorem k_co_yX5_undo : (Cond.code yX5_undo cX5_undo 1 (some .int)) ∈ LW := lw_mem (i := 843) (by decide +kernel) rfl
theorem k_fl_RX5_212 : (Cond.fieldLink RX5 212 "LedgerStore$UndoStack" "depth" "I") ∈ LW := lw_mem (i := 198) (by decide +kernel) rfl
theorem k_ml_RX5_217 : (Cond.methodLink RX5 217 yX4_popInto) ∈ LW := lw_mem (i := 845) (by decide +kernel) rfl
theorem k_im_yX4_popInto : (Cond.instanceMethod yX4_popInto) ∈ LW := lw_mem (i := 846) (by decide +kernel) rfl
theorem k_se_yX4_popInto : (Cond.selects RX4 yX4_popInto yX4_popInto) ∈ LW := lw_mem (i := 847) (by decide +kernel) rfl
theorem k_co_yX4_popInto : (Cond.code yX4_popInto cX4_popInto 4 none) ∈ LW := lw_mem (i := 848) (by decide +kernel) rfl
theorem k_ml_RL_184 : (Cond.methodLink RL 184 yX6_undo) ∈ LW := lw_mem (i := 1127) (by decide +kernel) rfl
theorem k_im_yX6_undo : (Cond.instanceMethod yX6_undo) ∈ LW := lw_mem (i := 1128) (by decide +kernel) rfl
theorem k_se_yX6_undo : (Cond.selects RX6 yX6_undo yX6_undo) ∈ LW := lw_mem (i := 1129) (by decide +kernel) rfl
theorem k_co_yX6_undo : (Cond.code yX6_undo cX6_undo 2 (some .int)) ∈ LW := lw_mem (i := 1130) (by decide +kernel) rfl
theorem k_ml_RL_185 : (Cond.methodLink RL 185 yX5_digest) ∈ LW := lw_mem (i := 329) (by decide +kernel) rfl
theorem k_im_yX5_digest : (Cond.instanceMethod yX5_digest) ∈ LW := lw_mem (i := 330) (by decide +kernel) rfl
theorem k_se_yX5_digest : (Cond.selects RX5 yX5_digest yX5_digest) ∈ LW := lw_mem (i := 331) (by decide +kernel) rfl
theorem k_co_yX5_digest : (Cond.code yX5_digest cX5_digest 4 (some .long)) ∈ LW := lw_mem (i := 332) (by decide +kernel) rfl
theorem k_ct_RX5_220 : (Cond.constantLong RX5 220 (12109)) ∈ LW := lw_mem (i := 333) (by decide +kernel) rfl
theorem k_ct_RX5_222 : (Cond.constantLong RX5 222 (31)) ∈ LW := lw_mem (i := 334) (by decide +kernel) rfl
theorem k_ml_RX5_227 : (Cond.methodLink RX5 227 yX5_digestNode) ∈ LW := lw_mem (i := 336) (by decide +kernel) rfl
theorem k_im_yX5_digestNode : (Cond.instanceMethod yX5_digestNode) ∈ LW := lw_mem (i := 338) (by decide +kernel) rfl
theorem k_se_yX5_digestNode : (Cond.selects RX5 yX5_digestNode yX5_digestNode) ∈ LW := lw_mem (i := 0) (by decide +kernel) rfl
theorem k_co_yX5_digestNode : (Cond.code yX5_digestNode cX5_digestNode 6 (some .long)) ∈ LW := lw_mem (i := 339) (by decide +kernel) rfl
theorem k_ml_RX5_238 : (Cond.methodLink RX5 238 yX5_bitsOfShare) ∈ LW := lw_mem (i := 348) (by decide +kernel) rfl
theorem k_st_yX5_bitsOfShare : (Cond.static yX5_bitsOfShare) ∈ LW := lw_mem (i := 349) (by decide +kernel) rfl
theorem k_co_yX5_bitsOfShare : (Cond.code yX5_bitsOfShare cX5_bitsOfShare 3 (some .int)) ∈ LW := lw_mem (i := 350) (by decide +kernel) rfl
theorem k_ct_RX5_264 : (Cond.constantFloat RX5 264 (1258291200)) ∈ LW := lw_mem (i := 351) (by decide +kernel) rfl
theorem k_ml_RX5_234 : (Cond.methodLink RX5 234 yX5_digestLedger) ∈ LW := lw_mem (i := 353) (by decide +kernel) rfl
theorem k_im_yX5_digestLedger : (Cond.instanceMethod yX5_digestLedger) ∈ LW := lw_mem (i := 355) (by decide +kernel) rfl
theorem k_se_yX5_digestLedger : (Cond.selects RX5 yX5_digestLedger yX5_digestLedger) ∈ LW := lw_mem (i := 2) (by decide +kernel) rfl
theorem k_co_yX5_digestLedger : (Cond.code yX5_digestLedger cX5_digestLedger 6 (some .long)) ∈ LW := lw_mem (i := 356) (by decide +kernel) rfl
theorem k_fl_RX5_242 : (Cond.fieldLink RX5 242 "LedgerStore$Ledger" "writeQuorum" "I") ∈ LW := lw_mem (i := 126) (by decide +kernel) rfl
theorem k_fl_RX5_245 : (Cond.fieldLink RX5 245 "LedgerStore$Ledger" "ackQuorum" "I") ∈ LW := lw_mem (i := 129) (by decide +kernel) rfl
theorem k_ml_RX5_248 : (Cond.methodLink RX5 248 yX5_digestFragments) ∈ LW := lw_mem (i := 401) (by decide +kernel) rfl
theorem k_st_yX5_digestFragments : (Cond.static yX5_digestFragments) ∈ LW := lw_mem (i := 402) (by decide +kernel) rfl
theorem k_co_yX5_digestFragments : (Cond.code yX5_digestFragments cX5_digestFragments 7 (some .long)) ∈ LW := lw_mem (i := 403) (by decide +kernel) rfl
theorem k_ml_RX5_251 : (Cond.methodLink RX5 251 yX5_digestEntries) ∈ LW := lw_mem (i := 406) (by decide +kernel) rfl
theorem k_im_yX5_digestEntries : (Cond.instanceMethod yX5_digestEntries) ∈ LW := lw_mem (i := 408) (by decide +kernel) rfl
theorem k_se_yX5_digestEntries : (Cond.selects RX5 yX5_digestEntries yX5_digestEntries) ∈ LW := lw_mem (i := 3) (by decide +kernel) rfl
theorem k_co_yX5_digestEntries : (Cond.code yX5_digestEntries cX5_digestEntries 7 (some .long)) ∈ LW := lw_mem (i := 409) (by decide +kernel) rfl
theorem k_ml_RX5_257 : (Cond.methodLink RX5 257 yX0_payloadOf) ∈ LW := lw_mem (i := 410) (by decide +kernel) rfl
theorem k_ml_RX5_254 : (Cond.methodLink RX5 254 yX5_digestFences) ∈ LW := lw_mem (i := 416) (by decide +kernel) rfl
theorem k_im_yX5_digestFences : (Cond.instanceMethod yX5_digestFences) ∈ LW := lw_mem (i := 418) (by decide +kernel) rfl
theorem k_se_yX5_digestFences : (Cond.selects RX5 yX5_digestFences yX5_digestFences) ∈ LW := lw_mem (i := 4) (by decide +kernel) rfl
theorem k_co_yX5_digestFences : (Cond.code yX5_digestFences cX5_digestFences 8 (some .long)) ∈ LW := lw_mem (i := 419) (by decide +kernel) rfl
theorem k_fl_RX5_258 : (Cond.fieldLink RX5 258 "LedgerStore$Ledger" "number" "I") ∈ LW := lw_mem (i := 120) (by decide +kernel) rfl
theorem k_ml_RL_189 : (Cond.methodLink RL 189 yX6_digest) ∈ LW := lw_mem (i := 1131) (by decide +kernel) rfl
theorem k_im_yX6_digest : (Cond.instanceMethod yX6_digest) ∈ LW := lw_mem (i := 1132) (by decide +kernel) rfl
theorem k_se_yX6_digest : (Cond.selects RX6 yX6_digest yX6_digest) ∈ LW := lw_mem (i := 1133) (by decide +kernel) rfl
theorem k_co_yX6_digest : (Cond.code yX6_digest cX6_digest 2 (some .long)) ∈ LW := lw_mem (i := 1134) (by decide +kernel) rfl
theorem k_ct_RX6_163 : (Cond.constantLong RX6 163 (12109)) ∈ LW := lw_mem (i := 1135) (by decide +kernel) rfl
theorem k_fl_RX6_156 : (Cond.fieldLink RX6 156 "LedgerStoreModel" "hash" "J") ∈ LW := lw_mem (i := 859) (by decide +kernel) rfl
theorem k_ml_RX6_160 : (Cond.methodLink RX6 160 yX6_add) ∈ LW := lw_mem (i := 1136) (by decide +kernel) rfl
theorem k_im_yX6_add : (Cond.instanceMethod yX6_add) ∈ LW := lw_mem (i := 1138) (by decide +kernel) rfl
theorem k_se_yX6_add : (Cond.selects RX6 yX6_add yX6_add) ∈ LW := lw_mem (i := 43) (by decide +kernel) rfl
theorem k_co_yX6_add : (Cond.code yX6_add cX6_add 2 none) ∈ LW := lw_mem (i := 1139) (by decide +kernel) rfl
theorem k_ct_RX6_154 : (Cond.constantLong RX6 154 (31)) ∈ LW := lw_mem (i := 1140) (by decide +kernel) rfl
theorem k_ml_RX6_165 : (Cond.methodLink RX6 165 yJxf58ca_floatToIntBits_5c35a) ∈ LW := lw_mem (i := 1141) (by decide +kernel) rfl
theorem k_st_yJxf58ca_floatToIntBits_5c35a : (Cond.static yJxf58ca_floatToIntBits_5c35a) ∈ LW := lw_mem (i := 1142) (by decide +kernel) rfl
theorem k_in_RJxf58ca : (Cond.initialized RJxf58ca) ∈ LW := lw_mem (i := 63) (by decide +kernel) rfl
theorem k_co_yJxf58ca_floatToIntBits_5c35a : (Cond.code yJxf58ca_floatToIntBits_5c35a cJxf58ca_floatToIntBits_5c35a 1 (some .int)) ∈ LW := lw_mem (i := 1143) (by decide +kernel) rfl
theorem k_ml_RJxf58ca_74 : (Cond.methodLink RJxf58ca 74 ⟨"java/lang/Float", "floatToRawIntBits", "(F)I"⟩) ∈ LW := lw_mem (i := 1147) (by decide +kernel) rfl
theorem k_na_JFloat_floatToRawIntBits : (Cond.native ⟨"java/lang/Float", "floatToRawIntBits", "(F)I"⟩) ∈ LW := lw_mem (i := 1149) (by decide +kernel) rfl
theorem k_st_JFloat_floatToRawIntBits : (Cond.static ⟨"java/lang/Float", "floatToRawIntBits", "(F)I"⟩) ∈ LW := lw_mem (i := 1148) (by decide +kernel) rfl
theorem k_in_J_Float : (Cond.initialized "java/lang/Float") ∈ LW := lw_mem (i := 63) (by decide +kernel) rfl
theorem k_ct_RJxf58ca_77 : (Cond.constant RJxf58ca 77 (2143289344)) ∈ LW := lw_mem (i := 1150) (by decide +kernel) rfl
theorem k_ml_RJxf58ca_59 : (Cond.methodLink RJxf58ca 59 yJxf58ca_isNaN_12338) ∈ LW := lw_mem (i := 1144) (by decide +kernel) rfl
theorem k_st_yJxf58ca_isNaN_12338 : (Cond.static yJxf58ca_isNaN_12338) ∈ LW := lw_mem (i := 1145) (by decide +kernel) rfl
theorem k_co_yJxf58ca_isNaN_12338 : (Cond.code yJxf58ca_isNaN_12338 cJxf58ca_isNaN_12338 1 (some .boolean)) ∈ LW := lw_mem (i := 1146) (by decide +kernel) rfl
theorem k_ml_RX6_171 : (Cond.methodLink RX6 171 yX6_addLedger) ∈ LW := lw_mem (i := 1151) (by decide +kernel) rfl
theorem k_im_yX6_addLedger : (Cond.instanceMethod yX6_addLedger) ∈ LW := lw_mem (i := 1153) (by decide +kernel) rfl
theorem k_se_yX6_addLedger : (Cond.selects RX6 yX6_addLedger yX6_addLedger) ∈ LW := lw_mem (i := 44) (by decide +kernel) rfl
theorem k_co_yX6_addLedger : (Cond.code yX6_addLedger cX6_addLedger 4 none) ∈ LW := lw_mem (i := 1154) (by decide +kernel) rfl
end
section
theorem dX0_init_0 : decode cX0_init 0 = .ok (.aload_n 0, 1) := by decide +kernel
theorem dX0_init_1 : decode cX0_init 1 = .ok (.invokespecial 3, 3) := by decide +kernel
theorem dX0_init_4 : decode cX0_init 4 = .ok (.aload_n 0, 1) := by decide +kernel
theorem dX0_init_5 : decode cX0_init 5 = .ok (.bipush 40, 2) := by decide +kernel
theorem dX0_init_7 : decode cX0_init 7 = .ok (.newarray .int, 2) := by decide +kernel
theorem dX0_init_9 : decode cX0_init 9 = .ok (.putfield 9, 3) := by decide +kernel
theorem dX0_init_12 : decode cX0_init 12 = .ok (.aload_n 0, 1) := by decide +kernel
theorem dX0_init_13 : decode cX0_init 13 = .ok (.bipush 40, 2) := by decide +kernel
theorem dX0_init_15 : decode cX0_init 15 = .ok (.newarray .int, 2) := by decide +kernel
theorem dX0_init_17 : decode cX0_init 17 = .ok (.putfield 15, 3) := by decide +kernel
theorem dX0_init_20 : decode cX0_init 20 = .ok (.aload_n 0, 1) := by decide +kernel
theorem dX0_init_21 : decode cX0_init 21 = .ok (.bipush 41, 2) := by decide +kernel
theorem dX0_init_23 : decode cX0_init 23 = .ok (.newarray .int, 2) := by decide +kernel
theorem dX0_init_25 : decode cX0_init 25 = .ok (.putfield 18, 3) := by decide +kernel
theorem dX0_init_28 : decode cX0_init 28 = .ok (.aload_n 0, 1) := by decide +kernel
theorem dX0_init_29 : decode cX0_init 29 = .ok (.sipush 205, 3) := by decide +kernel
theorem dX0_init_32 : decode cX0_init 32 = .ok (.newarray .int, 2) := by decide +kernel
theorem dX0_init_34 : decode cX0_init 34 = .ok (.putfield 21, 3) := by decide +kernel
theorem dX0_init_37 : decode cX0_init 37 = .ok (.aload_n 0, 1) := by decide +kernel
theorem dX0_init_38 : decode cX0_init 38 = .ok (.iload_n 1, 1) := by decide +kernel
theorem dX0_init_39 : decode cX0_init 39 = .ok (.putfield 24, 3) := by decide +kernel
theorem dX0_init_42 : decode cX0_init 42 = .ok (.return_, 1) := by decide +kernel
theorem dX0_begin_0 : decode cX0_begin 0 = .ok (.aload_n 0, 1) := by decide +kernel
theorem dX0_begin_1 : decode cX0_begin 1 = .ok (.iload_n 1, 1) := by decide +kernel
theorem dX0_begin_2 : decode cX0_begin 2 = .ok (.putfield 28, 3) := by decide +kernel
theorem dX0_begin_5 : decode cX0_begin 5 = .ok (.aload_n 0, 1) := by decide +kernel
theorem dX0_begin_6 : decode cX0_begin 6 = .ok (.iload_n 2, 1) := by decide +kernel
theorem dX0_begin_7 : decode cX0_begin 7 = .ok (.putfield 31, 3) := by decide +kernel
theorem dX0_begin_10 : decode cX0_begin 10 = .ok (.aload_n 0, 1) := by decide +kernel
theorem dX0_begin_11 : decode cX0_begin 11 = .ok (.iload_n 3, 1) := by decide +kernel
theorem dX0_begin_12 : decode cX0_begin 12 = .ok (.putfield 34, 3) := by decide +kernel
theorem dX0_begin_15 : decode cX0_begin 15 = .ok (.aload_n 0, 1) := by decide +kernel
theorem dX0_begin_16 : decode cX0_begin 16 = .ok (.iconst 0, 1) := by decide +kernel
theorem dX0_begin_17 : decode cX0_begin 17 = .ok (.putfield 37, 3) := by decide +kernel
theorem dX0_begin_20 : decode cX0_begin 20 = .ok (.aload_n 0, 1) := by decide +kernel
theorem dX0_begin_21 : decode cX0_begin 21 = .ok (.iconst 0, 1) := by decide +kernel
theorem dX0_begin_22 : decode cX0_begin 22 = .ok (.putfield 40, 3) := by decide +kernel
theorem dX0_begin_25 : decode cX0_begin 25 = .ok (.aload_n 0, 1) := by decide +kernel
theorem dX0_begin_26 : decode cX0_begin 26 = .ok (.iconst (-1), 1) := by decide +kernel
theorem dX0_begin_27 : decode cX0_begin 27 = .ok (.putfield 43, 3) := by decide +kernel
theorem dX0_begin_30 : decode cX0_begin 30 = .ok (.aload_n 0, 1) := by decide +kernel
theorem dX0_begin_31 : decode cX0_begin 31 = .ok (.iconst 1, 1) := by decide +kernel
theorem dX0_begin_32 : decode cX0_begin 32 = .ok (.putfield 46, 3) := by decide +kernel
theorem dX0_begin_35 : decode cX0_begin 35 = .ok (.aload_n 0, 1) := by decide +kernel
theorem dX0_begin_36 : decode cX0_begin 36 = .ok (.getfield 18, 3) := by decide +kernel
theorem dX0_begin_39 : decode cX0_begin 39 = .ok (.iconst 0, 1) := by decide +kernel
theorem dX0_begin_40 : decode cX0_begin 40 = .ok (.iconst 0, 1) := by decide +kernel
theorem dX0_begin_41 : decode cX0_begin 41 = .ok (.iastore, 1) := by decide +kernel
theorem dX0_begin_42 : decode cX0_begin 42 = .ok (.iconst 0, 1) := by decide +kernel
theorem dX0_begin_43 : decode cX0_begin 43 = .ok (.istore 4, 2) := by decide +kernel
theorem dX0_begin_45 : decode cX0_begin 45 = .ok (.iload 4, 2) := by decide +kernel
theorem dX0_begin_47 : decode cX0_begin 47 = .ok (.iload_n 1, 1) := by decide +kernel
theorem dX0_begin_48 : decode cX0_begin 48 = .ok (.if_icmp .ge 17, 3) := by decide +kernel
theorem dX0_begin_51 : decode cX0_begin 51 = .ok (.aload_n 0, 1) := by decide +kernel
theorem dX0_begin_52 : decode cX0_begin 52 = .ok (.iconst 0, 1) := by decide +kernel
theorem dX0_begin_53 : decode cX0_begin 53 = .ok (.iload 4, 2) := by decide +kernel
theorem dX0_begin_55 : decode cX0_begin 55 = .ok (.iconst (-1), 1) := by decide +kernel
theorem dX0_begin_56 : decode cX0_begin 56 = .ok (.invokevirtual 49, 3) := by decide +kernel
theorem dX0_begin_59 : decode cX0_begin 59 = .ok (.iinc 4 1, 3) := by decide +kernel
theorem dX0_begin_62 : decode cX0_begin 62 = .ok (.goto (-17), 3) := by decide +kernel
theorem dX0_begin_65 : decode cX0_begin 65 = .ok (.return_, 1) := by decide +kernel
theorem dX0_copyFrom_0 : decode cX0_copyFrom 0 = .ok (.aload_n 0, 1) := by decide +kernel
theorem dX0_copyFrom_1 : decode cX0_copyFrom 1 = .ok (.aload_n 1, 1) := by decide +kernel
theorem dX0_copyFrom_2 : decode cX0_copyFrom 2 = .ok (.getfield 28, 3) := by decide +kernel
theorem dX0_copyFrom_5 : decode cX0_copyFrom 5 = .ok (.putfield 28, 3) := by decide +kernel
theorem dX0_copyFrom_8 : decode cX0_copyFrom 8 = .ok (.aload_n 0, 1) := by decide +kernel
theorem dX0_copyFrom_9 : decode cX0_copyFrom 9 = .ok (.aload_n 1, 1) := by decide +kernel
theorem dX0_copyFrom_10 : decode cX0_copyFrom 10 = .ok (.getfield 31, 3) := by decide +kernel
theorem dX0_copyFrom_13 : decode cX0_copyFrom 13 = .ok (.putfield 31, 3) := by decide +kernel
theorem dX0_copyFrom_16 : decode cX0_copyFrom 16 = .ok (.aload_n 0, 1) := by decide +kernel
theorem dX0_copyFrom_17 : decode cX0_copyFrom 17 = .ok (.aload_n 1, 1) := by decide +kernel
theorem dX0_copyFrom_18 : decode cX0_copyFrom 18 = .ok (.getfield 34, 3) := by decide +kernel
theorem dX0_copyFrom_21 : decode cX0_copyFrom 21 = .ok (.putfield 34, 3) := by decide +kernel
theorem dX0_copyFrom_24 : decode cX0_copyFrom 24 = .ok (.aload_n 0, 1) := by decide +kernel
theorem dX0_copyFrom_25 : decode cX0_copyFrom 25 = .ok (.aload_n 1, 1) := by decide +kernel
theorem dX0_copyFrom_26 : decode cX0_copyFrom 26 = .ok (.getfield 37, 3) := by decide +kernel
theorem dX0_copyFrom_29 : decode cX0_copyFrom 29 = .ok (.putfield 37, 3) := by decide +kernel
theorem dX0_copyFrom_32 : decode cX0_copyFrom 32 = .ok (.aload_n 0, 1) := by decide +kernel
theorem dX0_copyFrom_33 : decode cX0_copyFrom 33 = .ok (.aload_n 1, 1) := by decide +kernel
theorem dX0_copyFrom_34 : decode cX0_copyFrom 34 = .ok (.getfield 40, 3) := by decide +kernel
theorem dX0_copyFrom_37 : decode cX0_copyFrom 37 = .ok (.putfield 40, 3) := by decide +kernel
theorem dX0_copyFrom_40 : decode cX0_copyFrom 40 = .ok (.aload_n 0, 1) := by decide +kernel
theorem dX0_copyFrom_41 : decode cX0_copyFrom 41 = .ok (.aload_n 1, 1) := by decide +kernel
theorem dX0_copyFrom_42 : decode cX0_copyFrom 42 = .ok (.getfield 43, 3) := by decide +kernel
theorem dX0_copyFrom_45 : decode cX0_copyFrom 45 = .ok (.putfield 43, 3) := by decide +kernel
theorem dX0_copyFrom_48 : decode cX0_copyFrom 48 = .ok (.aload_n 0, 1) := by decide +kernel
theorem dX0_copyFrom_49 : decode cX0_copyFrom 49 = .ok (.aload_n 1, 1) := by decide +kernel
theorem dX0_copyFrom_50 : decode cX0_copyFrom 50 = .ok (.getfield 46, 3) := by decide +kernel
theorem dX0_copyFrom_53 : decode cX0_copyFrom 53 = .ok (.putfield 46, 3) := by decide +kernel
theorem dX0_copyFrom_56 : decode cX0_copyFrom 56 = .ok (.aload_n 1, 1) := by decide +kernel
theorem dX0_copyFrom_57 : decode cX0_copyFrom 57 = .ok (.getfield 9, 3) := by decide +kernel
theorem dX0_copyFrom_60 : decode cX0_copyFrom 60 = .ok (.aload_n 0, 1) := by decide +kernel
theorem dX0_copyFrom_61 : decode cX0_copyFrom 61 = .ok (.getfield 9, 3) := by decide +kernel
theorem dX0_copyFrom_64 : decode cX0_copyFrom 64 = .ok (.invokestatic 53, 3) := by decide +kernel
theorem dX0_copyFrom_67 : decode cX0_copyFrom 67 = .ok (.aload_n 1, 1) := by decide +kernel
theorem dX0_copyFrom_68 : decode cX0_copyFrom 68 = .ok (.getfield 15, 3) := by decide +kernel
theorem dX0_copyFrom_71 : decode cX0_copyFrom 71 = .ok (.aload_n 0, 1) := by decide +kernel
theorem dX0_copyFrom_72 : decode cX0_copyFrom 72 = .ok (.getfield 15, 3) := by decide +kernel
theorem dX0_copyFrom_75 : decode cX0_copyFrom 75 = .ok (.invokestatic 53, 3) := by decide +kernel
theorem dX0_copyFrom_78 : decode cX0_copyFrom 78 = .ok (.aload_n 1, 1) := by decide +kernel
theorem dX0_copyFrom_79 : decode cX0_copyFrom 79 = .ok (.getfield 18, 3) := by decide +kernel
theorem dX0_copyFrom_82 : decode cX0_copyFrom 82 = .ok (.aload_n 0, 1) := by decide +kernel
theorem dX0_copyFrom_83 : decode cX0_copyFrom 83 = .ok (.getfield 18, 3) := by decide +kernel
theorem dX0_copyFrom_86 : decode cX0_copyFrom 86 = .ok (.invokestatic 53, 3) := by decide +kernel
theorem dX0_copyFrom_89 : decode cX0_copyFrom 89 = .ok (.aload_n 1, 1) := by decide +kernel
theorem dX0_copyFrom_90 : decode cX0_copyFrom 90 = .ok (.getfield 21, 3) := by decide +kernel
theorem dX0_copyFrom_93 : decode cX0_copyFrom 93 = .ok (.aload_n 0, 1) := by decide +kernel
theorem dX0_copyFrom_94 : decode cX0_copyFrom 94 = .ok (.getfield 21, 3) := by decide +kernel
theorem dX0_copyFrom_97 : decode cX0_copyFrom 97 = .ok (.invokestatic 53, 3) := by decide +kernel
theorem dX0_copyFrom_100 : decode cX0_copyFrom 100 = .ok (.return_, 1) := by decide +kernel
theorem dX0_addEntry_0 : decode cX0_addEntry 0 = .ok (.aload_n 0, 1) := by decide +kernel
theorem dX0_addEntry_1 : decode cX0_addEntry 1 = .ok (.getfield 40, 3) := by decide +kernel
theorem dX0_addEntry_4 : decode cX0_addEntry 4 = .ok (.istore_n 2, 1) := by decide +kernel
theorem dX0_addEntry_5 : decode cX0_addEntry 5 = .ok (.iload_n 2, 1) := by decide +kernel
theorem dX0_addEntry_6 : decode cX0_addEntry 6 = .ok (.ifCond .lt 45, 3) := by decide +kernel
theorem dX0_addEntry_9 : decode cX0_addEntry 9 = .ok (.iload_n 2, 1) := by decide +kernel
theorem dX0_addEntry_10 : decode cX0_addEntry 10 = .ok (.aload_n 0, 1) := by decide +kernel
theorem dX0_addEntry_11 : decode cX0_addEntry 11 = .ok (.getfield 9, 3) := by decide +kernel
theorem dX0_addEntry_14 : decode cX0_addEntry 14 = .ok (.arraylength, 1) := by decide +kernel
theorem dX0_addEntry_15 : decode cX0_addEntry 15 = .ok (.if_icmp .ge 36, 3) := by decide +kernel
theorem dX0_addEntry_18 : decode cX0_addEntry 18 = .ok (.iload_n 2, 1) := by decide +kernel
theorem dX0_addEntry_19 : decode cX0_addEntry 19 = .ok (.aload_n 0, 1) := by decide +kernel
theorem dX0_addEntry_20 : decode cX0_addEntry 20 = .ok (.getfield 15, 3) := by decide +kernel
theorem dX0_addEntry_23 : decode cX0_addEntry 23 = .ok (.arraylength, 1) := by decide +kernel
theorem dX0_addEntry_24 : decode cX0_addEntry 24 = .ok (.if_icmp .ge 27, 3) := by decide +kernel
theorem dX0_addEntry_27 : decode cX0_addEntry 27 = .ok (.aload_n 0, 1) := by decide +kernel
theorem dX0_addEntry_28 : decode cX0_addEntry 28 = .ok (.getfield 9, 3) := by decide +kernel
theorem dX0_addEntry_31 : decode cX0_addEntry 31 = .ok (.iload_n 2, 1) := by decide +kernel
theorem dX0_addEntry_32 : decode cX0_addEntry 32 = .ok (.iload_n 1, 1) := by decide +kernel
theorem dX0_addEntry_33 : decode cX0_addEntry 33 = .ok (.iastore, 1) := by decide +kernel
theorem dX0_addEntry_34 : decode cX0_addEntry 34 = .ok (.aload_n 0, 1) := by decide +kernel
theorem dX0_addEntry_35 : decode cX0_addEntry 35 = .ok (.getfield 15, 3) := by decide +kernel
theorem dX0_addEntry_38 : decode cX0_addEntry 38 = .ok (.iload_n 2, 1) := by decide +kernel
theorem dX0_addEntry_39 : decode cX0_addEntry 39 = .ok (.iconst 0, 1) := by decide +kernel
theorem dX0_addEntry_40 : decode cX0_addEntry 40 = .ok (.iastore, 1) := by decide +kernel
theorem dX0_addEntry_41 : decode cX0_addEntry 41 = .ok (.aload_n 0, 1) := by decide +kernel
theorem dX0_addEntry_42 : decode cX0_addEntry 42 = .ok (.dup, 1) := by decide +kernel
theorem dX0_addEntry_43 : decode cX0_addEntry 43 = .ok (.getfield 40, 3) := by decide +kernel
theorem dX0_addEntry_46 : decode cX0_addEntry 46 = .ok (.iconst 1, 1) := by decide +kernel
theorem dX0_addEntry_47 : decode cX0_addEntry 47 = .ok (.iadd, 1) := by decide +kernel
theorem dX0_addEntry_48 : decode cX0_addEntry 48 = .ok (.putfield 40, 3) := by decide +kernel
theorem dX0_addEntry_51 : decode cX0_addEntry 51 = .ok (.iload_n 2, 1) := by decide +kernel
theorem dX0_addEntry_52 : decode cX0_addEntry 52 = .ok (.ireturn, 1) := by decide +kernel
theorem dX0_payloadOf_0 : decode cX0_payloadOf 0 = .ok (.iload_n 1, 1) := by decide +kernel
theorem dX0_payloadOf_1 : decode cX0_payloadOf 1 = .ok (.ifCond .lt 12, 3) := by decide +kernel
theorem dX0_payloadOf_4 : decode cX0_payloadOf 4 = .ok (.iload_n 1, 1) := by decide +kernel
theorem dX0_payloadOf_5 : decode cX0_payloadOf 5 = .ok (.aload_n 0, 1) := by decide +kernel
theorem dX0_payloadOf_6 : decode cX0_payloadOf 6 = .ok (.getfield 9, 3) := by decide +kernel
theorem dX0_payloadOf_9 : decode cX0_payloadOf 9 = .ok (.arraylength, 1) := by decide +kernel
theorem dX0_payloadOf_10 : decode cX0_payloadOf 10 = .ok (.if_icmp .lt 7, 3) := by decide +kernel
theorem dX0_payloadOf_13 : decode cX0_payloadOf 13 = .ok (.iconst 0, 1) := by decide +kernel
theorem dX0_payloadOf_14 : decode cX0_payloadOf 14 = .ok (.goto 9, 3) := by decide +kernel
theorem dX0_payloadOf_17 : decode cX0_payloadOf 17 = .ok (.aload_n 0, 1) := by decide +kernel
theorem dX0_payloadOf_18 : decode cX0_payloadOf 18 = .ok (.getfield 9, 3) := by decide +kernel
theorem dX0_payloadOf_21 : decode cX0_payloadOf 21 = .ok (.iload_n 1, 1) := by decide +kernel
theorem dX0_payloadOf_22 : decode cX0_payloadOf 22 = .ok (.iaload, 1) := by decide +kernel
theorem dX0_payloadOf_23 : decode cX0_payloadOf 23 = .ok (.ireturn, 1) := by decide +kernel
theorem dX0_countAcknowledgers_0 : decode cX0_countAcknowledgers 0 = .ok (.iload_n 1, 1) := by decide +kernel
theorem dX0_countAcknowledgers_1 : decode cX0_countAcknowledgers 1 = .ok (.ifCond .lt 12, 3) := by decide +kernel
theorem dX0_countAcknowledgers_4 : decode cX0_countAcknowledgers 4 = .ok (.iload_n 1, 1) := by decide +kernel
theorem dX0_countAcknowledgers_5 : decode cX0_countAcknowledgers 5 = .ok (.aload_n 0, 1) := by decide +kernel
theorem dX0_countAcknowledgers_6 : decode cX0_countAcknowledgers 6 = .ok (.getfield 15, 3) := by decide +kernel
theorem dX0_countAcknowledgers_9 : decode cX0_countAcknowledgers 9 = .ok (.arraylength, 1) := by decide +kernel
theorem dX0_countAcknowledgers_10 : decode cX0_countAcknowledgers 10 = .ok (.if_icmp .lt 7, 3) := by decide +kernel
theorem dX0_countAcknowledgers_13 : decode cX0_countAcknowledgers 13 = .ok (.iconst 0, 1) := by decide +kernel
theorem dX0_countAcknowledgers_14 : decode cX0_countAcknowledgers 14 = .ok (.goto 12, 3) := by decide +kernel
theorem dX0_countAcknowledgers_17 : decode cX0_countAcknowledgers 17 = .ok (.aload_n 0, 1) := by decide +kernel
theorem dX0_countAcknowledgers_18 : decode cX0_countAcknowledgers 18 = .ok (.getfield 15, 3) := by decide +kernel
theorem dX0_countAcknowledgers_21 : decode cX0_countAcknowledgers 21 = .ok (.iload_n 1, 1) := by decide +kernel
theorem dX0_countAcknowledgers_22 : decode cX0_countAcknowledgers 22 = .ok (.iaload, 1) := by decide +kernel
theorem dX0_countAcknowledgers_23 : decode cX0_countAcknowledgers 23 = .ok (.invokestatic 57, 3) := by decide +kernel
theorem dX0_countAcknowledgers_26 : decode cX0_countAcknowledgers 26 = .ok (.ireturn, 1) := by decide +kernel
theorem dX0_acknowledge_0 : decode cX0_acknowledge 0 = .ok (.aload_n 0, 1) := by decide +kernel
theorem dX0_acknowledge_1 : decode cX0_acknowledge 1 = .ok (.getfield 37, 3) := by decide +kernel
theorem dX0_acknowledge_4 : decode cX0_acknowledge 4 = .ok (.ifCond .ne 16, 3) := by decide +kernel
theorem dX0_acknowledge_7 : decode cX0_acknowledge 7 = .ok (.iload_n 1, 1) := by decide +kernel
theorem dX0_acknowledge_8 : decode cX0_acknowledge 8 = .ok (.ifCond .lt 12, 3) := by decide +kernel
theorem dX0_acknowledge_11 : decode cX0_acknowledge 11 = .ok (.iload_n 1, 1) := by decide +kernel
theorem dX0_acknowledge_12 : decode cX0_acknowledge 12 = .ok (.aload_n 0, 1) := by decide +kernel
theorem dX0_acknowledge_13 : decode cX0_acknowledge 13 = .ok (.getfield 15, 3) := by decide +kernel
theorem dX0_acknowledge_16 : decode cX0_acknowledge 16 = .ok (.arraylength, 1) := by decide +kernel
theorem dX0_acknowledge_17 : decode cX0_acknowledge 17 = .ok (.if_icmp .lt 4, 3) := by decide +kernel
theorem dX0_acknowledge_20 : decode cX0_acknowledge 20 = .ok (.return_, 1) := by decide +kernel
theorem dX0_acknowledge_21 : decode cX0_acknowledge 21 = .ok (.aload_n 0, 1) := by decide +kernel
theorem dX0_acknowledge_22 : decode cX0_acknowledge 22 = .ok (.aload_n 0, 1) := by decide +kernel
theorem dX0_acknowledge_23 : decode cX0_acknowledge 23 = .ok (.iload_n 1, 1) := by decide +kernel
theorem dX0_acknowledge_24 : decode cX0_acknowledge 24 = .ok (.invokevirtual 63, 3) := by decide +kernel
theorem dX0_acknowledge_27 : decode cX0_acknowledge 27 = .ok (.iload_n 1, 1) := by decide +kernel
theorem dX0_acknowledge_28 : decode cX0_acknowledge 28 = .ok (.invokevirtual 66, 3) := by decide +kernel
theorem dX0_acknowledge_31 : decode cX0_acknowledge 31 = .ok (.iload_n 2, 1) := by decide +kernel
theorem dX0_acknowledge_32 : decode cX0_acknowledge 32 = .ok (.invokestatic 70, 3) := by decide +kernel
theorem dX0_acknowledge_35 : decode cX0_acknowledge 35 = .ok (.ifCond .eq 15, 3) := by decide +kernel
theorem dX0_acknowledge_38 : decode cX0_acknowledge 38 = .ok (.aload_n 0, 1) := by decide +kernel
theorem dX0_acknowledge_39 : decode cX0_acknowledge 39 = .ok (.getfield 15, 3) := by decide +kernel
theorem dX0_acknowledge_42 : decode cX0_acknowledge 42 = .ok (.iload_n 1, 1) := by decide +kernel
theorem dX0_acknowledge_43 : decode cX0_acknowledge 43 = .ok (.dup2, 1) := by decide +kernel
theorem dX0_acknowledge_44 : decode cX0_acknowledge 44 = .ok (.iaload, 1) := by decide +kernel
theorem dX0_acknowledge_45 : decode cX0_acknowledge 45 = .ok (.iconst 1, 1) := by decide +kernel
theorem dX0_acknowledge_46 : decode cX0_acknowledge 46 = .ok (.iload_n 2, 1) := by decide +kernel
theorem dX0_acknowledge_47 : decode cX0_acknowledge 47 = .ok (.ishl, 1) := by decide +kernel
theorem dX0_acknowledge_48 : decode cX0_acknowledge 48 = .ok (.ior, 1) := by decide +kernel
theorem dX0_acknowledge_49 : decode cX0_acknowledge 49 = .ok (.iastore, 1) := by decide +kernel
theorem dX0_acknowledge_50 : decode cX0_acknowledge 50 = .ok (.return_, 1) := by decide +kernel
theorem dX0_forgetAcknowledgements_0 : decode cX0_forgetAcknowledgements 0 = .ok (.iload_n 1, 1) := by decide +kernel
theorem dX0_forgetAcknowledgements_1 : decode cX0_forgetAcknowledgements 1 = .ok (.iconst 0, 1) := by decide +kernel
theorem dX0_forgetAcknowledgements_2 : decode cX0_forgetAcknowledgements 2 = .ok (.invokestatic 74, 3) := by decide +kernel
theorem dX0_forgetAcknowledgements_5 : decode cX0_forgetAcknowledgements 5 = .ok (.istore_n 3, 1) := by decide +kernel
theorem dX0_forgetAcknowledgements_6 : decode cX0_forgetAcknowledgements 6 = .ok (.iload_n 3, 1) := by decide +kernel
theorem dX0_forgetAcknowledgements_7 : decode cX0_forgetAcknowledgements 7 = .ok (.aload_n 0, 1) := by decide +kernel
theorem dX0_forgetAcknowledgements_8 : decode cX0_forgetAcknowledgements 8 = .ok (.getfield 40, 3) := by decide +kernel
theorem dX0_forgetAcknowledgements_11 : decode cX0_forgetAcknowledgements 11 = .ok (.if_icmp .ge 32, 3) := by decide +kernel
theorem dX0_forgetAcknowledgements_14 : decode cX0_forgetAcknowledgements 14 = .ok (.iload_n 3, 1) := by decide +kernel
theorem dX0_forgetAcknowledgements_15 : decode cX0_forgetAcknowledgements 15 = .ok (.aload_n 0, 1) := by decide +kernel
theorem dX0_forgetAcknowledgements_16 : decode cX0_forgetAcknowledgements 16 = .ok (.getfield 15, 3) := by decide +kernel
theorem dX0_forgetAcknowledgements_19 : decode cX0_forgetAcknowledgements 19 = .ok (.arraylength, 1) := by decide +kernel
theorem dX0_forgetAcknowledgements_20 : decode cX0_forgetAcknowledgements 20 = .ok (.if_icmp .ge 23, 3) := by decide +kernel
theorem dX0_forgetAcknowledgements_23 : decode cX0_forgetAcknowledgements 23 = .ok (.aload_n 0, 1) := by decide +kernel
theorem dX0_forgetAcknowledgements_24 : decode cX0_forgetAcknowledgements 24 = .ok (.getfield 15, 3) := by decide +kernel
theorem dX0_forgetAcknowledgements_27 : decode cX0_forgetAcknowledgements 27 = .ok (.iload_n 3, 1) := by decide +kernel
theorem dX0_forgetAcknowledgements_28 : decode cX0_forgetAcknowledgements 28 = .ok (.dup2, 1) := by decide +kernel
theorem dX0_forgetAcknowledgements_29 : decode cX0_forgetAcknowledgements 29 = .ok (.iaload, 1) := by decide +kernel
theorem dX0_forgetAcknowledgements_30 : decode cX0_forgetAcknowledgements 30 = .ok (.iconst 1, 1) := by decide +kernel
theorem dX0_forgetAcknowledgements_31 : decode cX0_forgetAcknowledgements 31 = .ok (.iload_n 2, 1) := by decide +kernel
theorem dX0_forgetAcknowledgements_32 : decode cX0_forgetAcknowledgements 32 = .ok (.ishl, 1) := by decide +kernel
theorem dX0_forgetAcknowledgements_33 : decode cX0_forgetAcknowledgements 33 = .ok (.iconst (-1), 1) := by decide +kernel
theorem dX0_forgetAcknowledgements_34 : decode cX0_forgetAcknowledgements 34 = .ok (.ixor, 1) := by decide +kernel
theorem dX0_forgetAcknowledgements_35 : decode cX0_forgetAcknowledgements 35 = .ok (.iand, 1) := by decide +kernel
theorem dX0_forgetAcknowledgements_36 : decode cX0_forgetAcknowledgements 36 = .ok (.iastore, 1) := by decide +kernel
theorem dX0_forgetAcknowledgements_37 : decode cX0_forgetAcknowledgements 37 = .ok (.iinc 3 1, 3) := by decide +kernel
theorem dX0_forgetAcknowledgements_40 : decode cX0_forgetAcknowledgements 40 = .ok (.goto (-34), 3) := by decide +kernel
theorem dX0_forgetAcknowledgements_43 : decode cX0_forgetAcknowledgements 43 = .ok (.return_, 1) := by decide +kernel
theorem dX0_lastConfirmed_0 : decode cX0_lastConfirmed 0 = .ok (.iconst 0, 1) := by decide +kernel
theorem dX0_lastConfirmed_1 : decode cX0_lastConfirmed 1 = .ok (.istore_n 1, 1) := by decide +kernel
theorem dX0_lastConfirmed_2 : decode cX0_lastConfirmed 2 = .ok (.iload_n 1, 1) := by decide +kernel
theorem dX0_lastConfirmed_3 : decode cX0_lastConfirmed 3 = .ok (.aload_n 0, 1) := by decide +kernel
theorem dX0_lastConfirmed_4 : decode cX0_lastConfirmed 4 = .ok (.getfield 40, 3) := by decide +kernel
theorem dX0_lastConfirmed_7 : decode cX0_lastConfirmed 7 = .ok (.if_icmp .ge 21, 3) := by decide +kernel
theorem dX0_lastConfirmed_10 : decode cX0_lastConfirmed 10 = .ok (.aload_n 0, 1) := by decide +kernel
theorem dX0_lastConfirmed_11 : decode cX0_lastConfirmed 11 = .ok (.iload_n 1, 1) := by decide +kernel
theorem dX0_lastConfirmed_12 : decode cX0_lastConfirmed 12 = .ok (.invokevirtual 79, 3) := by decide +kernel
theorem dX0_lastConfirmed_15 : decode cX0_lastConfirmed 15 = .ok (.aload_n 0, 1) := by decide +kernel
theorem dX0_lastConfirmed_16 : decode cX0_lastConfirmed 16 = .ok (.getfield 34, 3) := by decide +kernel
theorem dX0_lastConfirmed_19 : decode cX0_lastConfirmed 19 = .ok (.if_icmp .lt 9, 3) := by decide +kernel
theorem dX0_lastConfirmed_22 : decode cX0_lastConfirmed 22 = .ok (.iinc 1 1, 3) := by decide +kernel
theorem dX0_lastConfirmed_25 : decode cX0_lastConfirmed 25 = .ok (.goto (-23), 3) := by decide +kernel
theorem dX0_lastConfirmed_28 : decode cX0_lastConfirmed 28 = .ok (.iload_n 1, 1) := by decide +kernel
theorem dX0_lastConfirmed_29 : decode cX0_lastConfirmed 29 = .ok (.iconst 1, 1) := by decide +kernel
theorem dX0_lastConfirmed_30 : decode cX0_lastConfirmed 30 = .ok (.isub, 1) := by decide +kernel
theorem dX0_lastConfirmed_31 : decode cX0_lastConfirmed 31 = .ok (.ireturn, 1) := by decide +kernel
theorem dX0_lastToRead_0 : decode cX0_lastToRead 0 = .ok (.aload_n 0, 1) := by decide +kernel
theorem dX0_lastToRead_1 : decode cX0_lastToRead 1 = .ok (.getfield 37, 3) := by decide +kernel
theorem dX0_lastToRead_4 : decode cX0_lastToRead 4 = .ok (.ifCond .ne 10, 3) := by decide +kernel
theorem dX0_lastToRead_7 : decode cX0_lastToRead 7 = .ok (.aload_n 0, 1) := by decide +kernel
theorem dX0_lastToRead_8 : decode cX0_lastToRead 8 = .ok (.invokevirtual 82, 3) := by decide +kernel
theorem dX0_lastToRead_11 : decode cX0_lastToRead 11 = .ok (.goto 19, 3) := by decide +kernel
theorem dX0_lastToRead_14 : decode cX0_lastToRead 14 = .ok (.aload_n 0, 1) := by decide +kernel
theorem dX0_lastToRead_15 : decode cX0_lastToRead 15 = .ok (.getfield 37, 3) := by decide +kernel
theorem dX0_lastToRead_18 : decode cX0_lastToRead 18 = .ok (.iconst 2, 1) := by decide +kernel
theorem dX0_lastToRead_19 : decode cX0_lastToRead 19 = .ok (.if_icmp .ne 10, 3) := by decide +kernel
theorem dX0_lastToRead_22 : decode cX0_lastToRead 22 = .ok (.aload_n 0, 1) := by decide +kernel
theorem dX0_lastToRead_23 : decode cX0_lastToRead 23 = .ok (.getfield 43, 3) := by decide +kernel
theorem dX0_lastToRead_26 : decode cX0_lastToRead 26 = .ok (.goto 4, 3) := by decide +kernel
theorem dX0_lastToRead_29 : decode cX0_lastToRead 29 = .ok (.iconst (-1), 1) := by decide +kernel
theorem dX0_lastToRead_30 : decode cX0_lastToRead 30 = .ok (.ireturn, 1) := by decide +kernel
theorem dX0_lastFragment_0 : decode cX0_lastFragment 0 = .ok (.aload_n 0, 1) := by decide +kernel
theorem dX0_lastFragment_1 : decode cX0_lastFragment 1 = .ok (.getfield 46, 3) := by decide +kernel
theorem dX0_lastFragment_4 : decode cX0_lastFragment 4 = .ok (.iconst 1, 1) := by decide +kernel
theorem dX0_lastFragment_5 : decode cX0_lastFragment 5 = .ok (.isub, 1) := by decide +kernel
theorem dX0_lastFragment_6 : decode cX0_lastFragment 6 = .ok (.ireturn, 1) := by decide +kernel
theorem dX0_startOf_0 : decode cX0_startOf 0 = .ok (.iload_n 1, 1) := by decide +kernel
theorem dX0_startOf_1 : decode cX0_startOf 1 = .ok (.ifCond .lt 12, 3) := by decide +kernel
theorem dX0_startOf_4 : decode cX0_startOf 4 = .ok (.iload_n 1, 1) := by decide +kernel
theorem dX0_startOf_5 : decode cX0_startOf 5 = .ok (.aload_n 0, 1) := by decide +kernel
theorem dX0_startOf_6 : decode cX0_startOf 6 = .ok (.getfield 18, 3) := by decide +kernel
theorem dX0_startOf_9 : decode cX0_startOf 9 = .ok (.arraylength, 1) := by decide +kernel
theorem dX0_startOf_10 : decode cX0_startOf 10 = .ok (.if_icmp .lt 7, 3) := by decide +kernel
theorem dX0_startOf_13 : decode cX0_startOf 13 = .ok (.iconst 0, 1) := by decide +kernel
theorem dX0_startOf_14 : decode cX0_startOf 14 = .ok (.goto 9, 3) := by decide +kernel
theorem dX0_startOf_17 : decode cX0_startOf 17 = .ok (.aload_n 0, 1) := by decide +kernel
theorem dX0_startOf_18 : decode cX0_startOf 18 = .ok (.getfield 18, 3) := by decide +kernel
theorem dX0_startOf_21 : decode cX0_startOf 21 = .ok (.iload_n 1, 1) := by decide +kernel
theorem dX0_startOf_22 : decode cX0_startOf 22 = .ok (.iaload, 1) := by decide +kernel
theorem dX0_startOf_23 : decode cX0_startOf 23 = .ok (.ireturn, 1) := by decide +kernel
theorem dX0_fragmentOf_0 : decode cX0_fragmentOf 0 = .ok (.iconst 0, 1) := by decide +kernel
theorem dX0_fragmentOf_1 : decode cX0_fragmentOf 1 = .ok (.istore_n 2, 1) := by decide +kernel
theorem dX0_fragmentOf_2 : decode cX0_fragmentOf 2 = .ok (.iconst 1, 1) := by decide +kernel
theorem dX0_fragmentOf_3 : decode cX0_fragmentOf 3 = .ok (.istore_n 3, 1) := by decide +kernel
theorem dX0_fragmentOf_4 : decode cX0_fragmentOf 4 = .ok (.iload_n 3, 1) := by decide +kernel
theorem dX0_fragmentOf_5 : decode cX0_fragmentOf 5 = .ok (.aload_n 0, 1) := by decide +kernel
theorem dX0_fragmentOf_6 : decode cX0_fragmentOf 6 = .ok (.getfield 46, 3) := by decide +kernel
theorem dX0_fragmentOf_9 : decode cX0_fragmentOf 9 = .ok (.if_icmp .ge 20, 3) := by decide +kernel
theorem dX0_fragmentOf_12 : decode cX0_fragmentOf 12 = .ok (.aload_n 0, 1) := by decide +kernel
theorem dX0_fragmentOf_13 : decode cX0_fragmentOf 13 = .ok (.iload_n 3, 1) := by decide +kernel
theorem dX0_fragmentOf_14 : decode cX0_fragmentOf 14 = .ok (.invokevirtual 86, 3) := by decide +kernel
theorem dX0_fragmentOf_17 : decode cX0_fragmentOf 17 = .ok (.iload_n 1, 1) := by decide +kernel
theorem dX0_fragmentOf_18 : decode cX0_fragmentOf 18 = .ok (.if_icmp .gt 5, 3) := by decide +kernel
theorem dX0_fragmentOf_21 : decode cX0_fragmentOf 21 = .ok (.iload_n 3, 1) := by decide +kernel
theorem dX0_fragmentOf_22 : decode cX0_fragmentOf 22 = .ok (.istore_n 2, 1) := by decide +kernel
theorem dX0_fragmentOf_23 : decode cX0_fragmentOf 23 = .ok (.iinc 3 1, 3) := by decide +kernel
theorem dX0_fragmentOf_26 : decode cX0_fragmentOf 26 = .ok (.goto (-22), 3) := by decide +kernel
theorem dX0_fragmentOf_29 : decode cX0_fragmentOf 29 = .ok (.iload_n 2, 1) := by decide +kernel
theorem dX0_fragmentOf_30 : decode cX0_fragmentOf 30 = .ok (.ireturn, 1) := by decide +kernel
theorem dX0_nodeAt_0 : decode cX0_nodeAt 0 = .ok (.iload_n 1, 1) := by decide +kernel
theorem dX0_nodeAt_1 : decode cX0_nodeAt 1 = .ok (.iload_n 2, 1) := by decide +kernel
theorem dX0_nodeAt_2 : decode cX0_nodeAt 2 = .ok (.invokestatic 89, 3) := by decide +kernel
theorem dX0_nodeAt_5 : decode cX0_nodeAt 5 = .ok (.istore_n 3, 1) := by decide +kernel
theorem dX0_nodeAt_6 : decode cX0_nodeAt 6 = .ok (.iload_n 3, 1) := by decide +kernel
theorem dX0_nodeAt_7 : decode cX0_nodeAt 7 = .ok (.ifCond .lt 12, 3) := by decide +kernel
theorem dX0_nodeAt_10 : decode cX0_nodeAt 10 = .ok (.iload_n 3, 1) := by decide +kernel
theorem dX0_nodeAt_11 : decode cX0_nodeAt 11 = .ok (.aload_n 0, 1) := by decide +kernel
theorem dX0_nodeAt_12 : decode cX0_nodeAt 12 = .ok (.getfield 21, 3) := by decide +kernel
theorem dX0_nodeAt_15 : decode cX0_nodeAt 15 = .ok (.arraylength, 1) := by decide +kernel
theorem dX0_nodeAt_16 : decode cX0_nodeAt 16 = .ok (.if_icmp .lt 7, 3) := by decide +kernel
theorem dX0_nodeAt_19 : decode cX0_nodeAt 19 = .ok (.iconst (-1), 1) := by decide +kernel
theorem dX0_nodeAt_20 : decode cX0_nodeAt 20 = .ok (.goto 9, 3) := by decide +kernel
theorem dX0_nodeAt_23 : decode cX0_nodeAt 23 = .ok (.aload_n 0, 1) := by decide +kernel
theorem dX0_nodeAt_24 : decode cX0_nodeAt 24 = .ok (.getfield 21, 3) := by decide +kernel
theorem dX0_nodeAt_27 : decode cX0_nodeAt 27 = .ok (.iload_n 3, 1) := by decide +kernel
theorem dX0_nodeAt_28 : decode cX0_nodeAt 28 = .ok (.iaload, 1) := by decide +kernel
theorem dX0_nodeAt_29 : decode cX0_nodeAt 29 = .ok (.ireturn, 1) := by decide +kernel
theorem dX0_setNode_0 : decode cX0_setNode 0 = .ok (.iload_n 1, 1) := by decide +kernel
theorem dX0_setNode_1 : decode cX0_setNode 1 = .ok (.iload_n 2, 1) := by decide +kernel
theorem dX0_setNode_2 : decode cX0_setNode 2 = .ok (.invokestatic 89, 3) := by decide +kernel
theorem dX0_setNode_5 : decode cX0_setNode 5 = .ok (.istore 4, 2) := by decide +kernel
theorem dX0_setNode_7 : decode cX0_setNode 7 = .ok (.iload 4, 2) := by decide +kernel
theorem dX0_setNode_9 : decode cX0_setNode 9 = .ok (.ifCond .lt 21, 3) := by decide +kernel
theorem dX0_setNode_12 : decode cX0_setNode 12 = .ok (.iload 4, 2) := by decide +kernel
theorem dX0_setNode_14 : decode cX0_setNode 14 = .ok (.aload_n 0, 1) := by decide +kernel
theorem dX0_setNode_15 : decode cX0_setNode 15 = .ok (.getfield 21, 3) := by decide +kernel
theorem dX0_setNode_18 : decode cX0_setNode 18 = .ok (.arraylength, 1) := by decide +kernel
theorem dX0_setNode_19 : decode cX0_setNode 19 = .ok (.if_icmp .ge 11, 3) := by decide +kernel
theorem dX0_setNode_22 : decode cX0_setNode 22 = .ok (.aload_n 0, 1) := by decide +kernel
theorem dX0_setNode_23 : decode cX0_setNode 23 = .ok (.getfield 21, 3) := by decide +kernel
theorem dX0_setNode_26 : decode cX0_setNode 26 = .ok (.iload 4, 2) := by decide +kernel
theorem dX0_setNode_28 : decode cX0_setNode 28 = .ok (.iload_n 3, 1) := by decide +kernel
theorem dX0_setNode_29 : decode cX0_setNode 29 = .ok (.iastore, 1) := by decide +kernel
theorem dX0_setNode_30 : decode cX0_setNode 30 = .ok (.return_, 1) := by decide +kernel
theorem dX0_addFragment_0 : decode cX0_addFragment 0 = .ok (.aload_n 0, 1) := by decide +kernel
theorem dX0_addFragment_1 : decode cX0_addFragment 1 = .ok (.getfield 46, 3) := by decide +kernel
theorem dX0_addFragment_4 : decode cX0_addFragment 4 = .ok (.istore_n 2, 1) := by decide +kernel
theorem dX0_addFragment_5 : decode cX0_addFragment 5 = .ok (.iload_n 2, 1) := by decide +kernel
theorem dX0_addFragment_6 : decode cX0_addFragment 6 = .ok (.iconst 1, 1) := by decide +kernel
theorem dX0_addFragment_7 : decode cX0_addFragment 7 = .ok (.if_icmp .lt 12, 3) := by decide +kernel
theorem dX0_addFragment_10 : decode cX0_addFragment 10 = .ok (.iload_n 2, 1) := by decide +kernel
theorem dX0_addFragment_11 : decode cX0_addFragment 11 = .ok (.aload_n 0, 1) := by decide +kernel
theorem dX0_addFragment_12 : decode cX0_addFragment 12 = .ok (.getfield 18, 3) := by decide +kernel
theorem dX0_addFragment_15 : decode cX0_addFragment 15 = .ok (.arraylength, 1) := by decide +kernel
theorem dX0_addFragment_16 : decode cX0_addFragment 16 = .ok (.if_icmp .lt 4, 3) := by decide +kernel
theorem dX0_addFragment_19 : decode cX0_addFragment 19 = .ok (.return_, 1) := by decide +kernel
theorem dX0_addFragment_20 : decode cX0_addFragment 20 = .ok (.aload_n 0, 1) := by decide +kernel
theorem dX0_addFragment_21 : decode cX0_addFragment 21 = .ok (.getfield 18, 3) := by decide +kernel
theorem dX0_addFragment_24 : decode cX0_addFragment 24 = .ok (.iload_n 2, 1) := by decide +kernel
theorem dX0_addFragment_25 : decode cX0_addFragment 25 = .ok (.iload_n 1, 1) := by decide +kernel
theorem dX0_addFragment_26 : decode cX0_addFragment 26 = .ok (.iastore, 1) := by decide +kernel
theorem dX0_addFragment_27 : decode cX0_addFragment 27 = .ok (.iconst 0, 1) := by decide +kernel
theorem dX0_addFragment_28 : decode cX0_addFragment 28 = .ok (.istore_n 3, 1) := by decide +kernel
theorem dX0_addFragment_29 : decode cX0_addFragment 29 = .ok (.iload_n 3, 1) := by decide +kernel
theorem dX0_addFragment_30 : decode cX0_addFragment 30 = .ok (.aload_n 0, 1) := by decide +kernel
theorem dX0_addFragment_31 : decode cX0_addFragment 31 = .ok (.getfield 28, 3) := by decide +kernel
theorem dX0_addFragment_34 : decode cX0_addFragment 34 = .ok (.if_icmp .ge 23, 3) := by decide +kernel
theorem dX0_addFragment_37 : decode cX0_addFragment 37 = .ok (.aload_n 0, 1) := by decide +kernel
theorem dX0_addFragment_38 : decode cX0_addFragment 38 = .ok (.iload_n 2, 1) := by decide +kernel
theorem dX0_addFragment_39 : decode cX0_addFragment 39 = .ok (.iload_n 3, 1) := by decide +kernel
theorem dX0_addFragment_40 : decode cX0_addFragment 40 = .ok (.aload_n 0, 1) := by decide +kernel
theorem dX0_addFragment_41 : decode cX0_addFragment 41 = .ok (.iload_n 2, 1) := by decide +kernel
theorem dX0_addFragment_42 : decode cX0_addFragment 42 = .ok (.iconst 1, 1) := by decide +kernel
theorem dX0_addFragment_43 : decode cX0_addFragment 43 = .ok (.isub, 1) := by decide +kernel
theorem dX0_addFragment_44 : decode cX0_addFragment 44 = .ok (.iload_n 3, 1) := by decide +kernel
theorem dX0_addFragment_45 : decode cX0_addFragment 45 = .ok (.invokevirtual 92, 3) := by decide +kernel
theorem dX0_addFragment_48 : decode cX0_addFragment 48 = .ok (.invokevirtual 49, 3) := by decide +kernel
theorem dX0_addFragment_51 : decode cX0_addFragment 51 = .ok (.iinc 3 1, 3) := by decide +kernel
theorem dX0_addFragment_54 : decode cX0_addFragment 54 = .ok (.goto (-25), 3) := by decide +kernel
theorem dX0_addFragment_57 : decode cX0_addFragment 57 = .ok (.aload_n 0, 1) := by decide +kernel
theorem dX0_addFragment_58 : decode cX0_addFragment 58 = .ok (.dup, 1) := by decide +kernel
theorem dX0_addFragment_59 : decode cX0_addFragment 59 = .ok (.getfield 46, 3) := by decide +kernel
theorem dX0_addFragment_62 : decode cX0_addFragment 62 = .ok (.iconst 1, 1) := by decide +kernel
theorem dX0_addFragment_63 : decode cX0_addFragment 63 = .ok (.iadd, 1) := by decide +kernel
theorem dX0_addFragment_64 : decode cX0_addFragment 64 = .ok (.putfield 46, 3) := by decide +kernel
theorem dX0_addFragment_67 : decode cX0_addFragment 67 = .ok (.return_, 1) := by decide +kernel
theorem dX0_ensembleMask_0 : decode cX0_ensembleMask 0 = .ok (.iconst 0, 1) := by decide +kernel
theorem dX0_ensembleMask_1 : decode cX0_ensembleMask 1 = .ok (.istore_n 2, 1) := by decide +kernel
theorem dX0_ensembleMask_2 : decode cX0_ensembleMask 2 = .ok (.iconst 0, 1) := by decide +kernel
theorem dX0_ensembleMask_3 : decode cX0_ensembleMask 3 = .ok (.istore_n 3, 1) := by decide +kernel
theorem dX0_ensembleMask_4 : decode cX0_ensembleMask 4 = .ok (.iload_n 3, 1) := by decide +kernel
theorem dX0_ensembleMask_5 : decode cX0_ensembleMask 5 = .ok (.aload_n 0, 1) := by decide +kernel
theorem dX0_ensembleMask_6 : decode cX0_ensembleMask 6 = .ok (.getfield 28, 3) := by decide +kernel
theorem dX0_ensembleMask_9 : decode cX0_ensembleMask 9 = .ok (.if_icmp .ge 21, 3) := by decide +kernel
theorem dX0_ensembleMask_12 : decode cX0_ensembleMask 12 = .ok (.iload_n 2, 1) := by decide +kernel
theorem dX0_ensembleMask_13 : decode cX0_ensembleMask 13 = .ok (.aload_n 0, 1) := by decide +kernel
theorem dX0_ensembleMask_14 : decode cX0_ensembleMask 14 = .ok (.iload_n 1, 1) := by decide +kernel
theorem dX0_ensembleMask_15 : decode cX0_ensembleMask 15 = .ok (.iload_n 3, 1) := by decide +kernel
theorem dX0_ensembleMask_16 : decode cX0_ensembleMask 16 = .ok (.invokevirtual 92, 3) := by decide +kernel
theorem dX0_ensembleMask_19 : decode cX0_ensembleMask 19 = .ok (.invokestatic 95, 3) := by decide +kernel
theorem dX0_ensembleMask_22 : decode cX0_ensembleMask 22 = .ok (.ior, 1) := by decide +kernel
theorem dX0_ensembleMask_23 : decode cX0_ensembleMask 23 = .ok (.istore_n 2, 1) := by decide +kernel
theorem dX0_ensembleMask_24 : decode cX0_ensembleMask 24 = .ok (.iinc 3 1, 3) := by decide +kernel
theorem dX0_ensembleMask_27 : decode cX0_ensembleMask 27 = .ok (.goto (-23), 3) := by decide +kernel
theorem dX0_ensembleMask_30 : decode cX0_ensembleMask 30 = .ok (.iload_n 2, 1) := by decide +kernel
theorem dX0_ensembleMask_31 : decode cX0_ensembleMask 31 = .ok (.ireturn, 1) := by decide +kernel
theorem dX0_writeSetNode_0 : decode cX0_writeSetNode 0 = .ok (.aload_n 0, 1) := by decide +kernel
theorem dX0_writeSetNode_1 : decode cX0_writeSetNode 1 = .ok (.getfield 28, 3) := by decide +kernel
theorem dX0_writeSetNode_4 : decode cX0_writeSetNode 4 = .ok (.iconst 1, 1) := by decide +kernel
theorem dX0_writeSetNode_5 : decode cX0_writeSetNode 5 = .ok (.if_icmp .lt 11, 3) := by decide +kernel
theorem dX0_writeSetNode_8 : decode cX0_writeSetNode 8 = .ok (.iload_n 2, 1) := by decide +kernel
theorem dX0_writeSetNode_9 : decode cX0_writeSetNode 9 = .ok (.ifCond .lt 7, 3) := by decide +kernel
theorem dX0_writeSetNode_12 : decode cX0_writeSetNode 12 = .ok (.iload_n 3, 1) := by decide +kernel
theorem dX0_writeSetNode_13 : decode cX0_writeSetNode 13 = .ok (.ifCond .ge 5, 3) := by decide +kernel
theorem dX0_writeSetNode_16 : decode cX0_writeSetNode 16 = .ok (.iconst (-1), 1) := by decide +kernel
theorem dX0_writeSetNode_17 : decode cX0_writeSetNode 17 = .ok (.ireturn, 1) := by decide +kernel
theorem dX0_writeSetNode_18 : decode cX0_writeSetNode 18 = .ok (.aload_n 0, 1) := by decide +kernel
theorem dX0_writeSetNode_19 : decode cX0_writeSetNode 19 = .ok (.iload_n 1, 1) := by decide +kernel
theorem dX0_writeSetNode_20 : decode cX0_writeSetNode 20 = .ok (.iload_n 2, 1) := by decide +kernel
theorem dX0_writeSetNode_21 : decode cX0_writeSetNode 21 = .ok (.iload_n 3, 1) := by decide +kernel
theorem dX0_writeSetNode_22 : decode cX0_writeSetNode 22 = .ok (.iadd, 1) := by decide +kernel
theorem dX0_writeSetNode_23 : decode cX0_writeSetNode 23 = .ok (.aload_n 0, 1) := by decide +kernel
theorem dX0_writeSetNode_24 : decode cX0_writeSetNode 24 = .ok (.getfield 28, 3) := by decide +kernel
theorem dX0_writeSetNode_27 : decode cX0_writeSetNode 27 = .ok (.irem, 1) := by decide +kernel
theorem dX0_writeSetNode_28 : decode cX0_writeSetNode 28 = .ok (.invokevirtual 92, 3) := by decide +kernel
theorem dX0_writeSetNode_31 : decode cX0_writeSetNode 31 = .ok (.ireturn, 1) := by decide +kernel
theorem dX0_writeSetMask_0 : decode cX0_writeSetMask 0 = .ok (.iconst 0, 1) := by decide +kernel
theorem dX0_writeSetMask_1 : decode cX0_writeSetMask 1 = .ok (.istore_n 3, 1) := by decide +kernel
theorem dX0_writeSetMask_2 : decode cX0_writeSetMask 2 = .ok (.iconst 0, 1) := by decide +kernel
theorem dX0_writeSetMask_3 : decode cX0_writeSetMask 3 = .ok (.istore 4, 2) := by decide +kernel
theorem dX0_writeSetMask_5 : decode cX0_writeSetMask 5 = .ok (.iload 4, 2) := by decide +kernel
theorem dX0_writeSetMask_7 : decode cX0_writeSetMask 7 = .ok (.aload_n 0, 1) := by decide +kernel
theorem dX0_writeSetMask_8 : decode cX0_writeSetMask 8 = .ok (.getfield 31, 3) := by decide +kernel
theorem dX0_writeSetMask_11 : decode cX0_writeSetMask 11 = .ok (.if_icmp .ge 23, 3) := by decide +kernel
theorem dX0_writeSetMask_14 : decode cX0_writeSetMask 14 = .ok (.iload_n 3, 1) := by decide +kernel
theorem dX0_writeSetMask_15 : decode cX0_writeSetMask 15 = .ok (.aload_n 0, 1) := by decide +kernel
theorem dX0_writeSetMask_16 : decode cX0_writeSetMask 16 = .ok (.iload_n 1, 1) := by decide +kernel
theorem dX0_writeSetMask_17 : decode cX0_writeSetMask 17 = .ok (.iload_n 2, 1) := by decide +kernel
theorem dX0_writeSetMask_18 : decode cX0_writeSetMask 18 = .ok (.iload 4, 2) := by decide +kernel
theorem dX0_writeSetMask_20 : decode cX0_writeSetMask 20 = .ok (.invokevirtual 98, 3) := by decide +kernel
theorem dX0_writeSetMask_23 : decode cX0_writeSetMask 23 = .ok (.invokestatic 95, 3) := by decide +kernel
theorem dX0_writeSetMask_26 : decode cX0_writeSetMask 26 = .ok (.ior, 1) := by decide +kernel
theorem dX0_writeSetMask_27 : decode cX0_writeSetMask 27 = .ok (.istore_n 3, 1) := by decide +kernel
theorem dX0_writeSetMask_28 : decode cX0_writeSetMask 28 = .ok (.iinc 4 1, 3) := by decide +kernel
theorem dX0_writeSetMask_31 : decode cX0_writeSetMask 31 = .ok (.goto (-26), 3) := by decide +kernel
theorem dX0_writeSetMask_34 : decode cX0_writeSetMask 34 = .ok (.iload_n 3, 1) := by decide +kernel
theorem dX0_writeSetMask_35 : decode cX0_writeSetMask 35 = .ok (.ireturn, 1) := by decide +kernel
theorem dX0_maskOf_0 : decode cX0_maskOf 0 = .ok (.iload_n 0, 1) := by decide +kernel
theorem dX0_maskOf_1 : decode cX0_maskOf 1 = .ok (.ifCond .ge 7, 3) := by decide +kernel
theorem dX0_maskOf_4 : decode cX0_maskOf 4 = .ok (.iconst 0, 1) := by decide +kernel
theorem dX0_maskOf_5 : decode cX0_maskOf 5 = .ok (.goto 6, 3) := by decide +kernel
theorem dX0_maskOf_8 : decode cX0_maskOf 8 = .ok (.iconst 1, 1) := by decide +kernel
theorem dX0_maskOf_9 : decode cX0_maskOf 9 = .ok (.iload_n 0, 1) := by decide +kernel
theorem dX0_maskOf_10 : decode cX0_maskOf 10 = .ok (.ishl, 1) := by decide +kernel
theorem dX0_maskOf_11 : decode cX0_maskOf 11 = .ok (.ireturn, 1) := by decide +kernel
theorem dX0_placeOf_0 : decode cX0_placeOf 0 = .ok (.iload_n 0, 1) := by decide +kernel
theorem dX0_placeOf_1 : decode cX0_placeOf 1 = .ok (.ifCond .lt 22, 3) := by decide +kernel
theorem dX0_placeOf_4 : decode cX0_placeOf 4 = .ok (.iload_n 0, 1) := by decide +kernel
theorem dX0_placeOf_5 : decode cX0_placeOf 5 = .ok (.bipush 41, 2) := by decide +kernel
theorem dX0_placeOf_7 : decode cX0_placeOf 7 = .ok (.if_icmp .ge 16, 3) := by decide +kernel
theorem dX0_placeOf_10 : decode cX0_placeOf 10 = .ok (.iload_n 1, 1) := by decide +kernel
theorem dX0_placeOf_11 : decode cX0_placeOf 11 = .ok (.ifCond .lt 12, 3) := by decide +kernel
theorem dX0_placeOf_14 : decode cX0_placeOf 14 = .ok (.iload_n 1, 1) := by decide +kernel
theorem dX0_placeOf_15 : decode cX0_placeOf 15 = .ok (.iconst 5, 1) := by decide +kernel
theorem dX0_placeOf_16 : decode cX0_placeOf 16 = .ok (.if_icmp .ge 7, 3) := by decide +kernel
theorem dX0_placeOf_19 : decode cX0_placeOf 19 = .ok (.iconst 1, 1) := by decide +kernel
theorem dX0_placeOf_20 : decode cX0_placeOf 20 = .ok (.goto 4, 3) := by decide +kernel
theorem dX0_placeOf_23 : decode cX0_placeOf 23 = .ok (.iconst 0, 1) := by decide +kernel
theorem dX0_placeOf_24 : decode cX0_placeOf 24 = .ok (.istore_n 2, 1) := by decide +kernel
theorem dX0_placeOf_25 : decode cX0_placeOf 25 = .ok (.iload_n 2, 1) := by decide +kernel
theorem dX0_placeOf_26 : decode cX0_placeOf 26 = .ok (.ifCond .eq 11, 3) := by decide +kernel
theorem dX0_placeOf_29 : decode cX0_placeOf 29 = .ok (.iload_n 0, 1) := by decide +kernel
theorem dX0_placeOf_30 : decode cX0_placeOf 30 = .ok (.iconst 5, 1) := by decide +kernel
theorem dX0_placeOf_31 : decode cX0_placeOf 31 = .ok (.imul, 1) := by decide +kernel
theorem dX0_placeOf_32 : decode cX0_placeOf 32 = .ok (.iload_n 1, 1) := by decide +kernel
theorem dX0_placeOf_33 : decode cX0_placeOf 33 = .ok (.iadd, 1) := by decide +kernel
theorem dX0_placeOf_34 : decode cX0_placeOf 34 = .ok (.goto 4, 3) := by decide +kernel
theorem dX0_placeOf_37 : decode cX0_placeOf 37 = .ok (.iconst (-1), 1) := by decide +kernel
theorem dX0_placeOf_38 : decode cX0_placeOf 38 = .ok (.ireturn, 1) := by decide +kernel
theorem dX1_init_0 : decode cX1_init 0 = .ok (.aload_n 0, 1) := by decide +kernel
theorem dX1_init_1 : decode cX1_init 1 = .ok (.invokespecial 3, 3) := by decide +kernel
theorem dX1_init_4 : decode cX1_init 4 = .ok (.aload_n 0, 1) := by decide +kernel
theorem dX1_init_5 : decode cX1_init 5 = .ok (.sipush 160, 3) := by decide +kernel
theorem dX1_init_8 : decode cX1_init 8 = .ok (.newarray .int, 2) := by decide +kernel
theorem dX1_init_10 : decode cX1_init 10 = .ok (.putfield 9, 3) := by decide +kernel
theorem dX1_init_13 : decode cX1_init 13 = .ok (.aload_n 0, 1) := by decide +kernel
theorem dX1_init_14 : decode cX1_init 14 = .ok (.bipush 100, 2) := by decide +kernel
theorem dX1_init_16 : decode cX1_init 16 = .ok (.newarray .int, 2) := by decide +kernel
theorem dX1_init_18 : decode cX1_init 18 = .ok (.putfield 15, 3) := by decide +kernel
theorem dX1_init_21 : decode cX1_init 21 = .ok (.return_, 1) := by decide +kernel
theorem dX1_begin_0 : decode cX1_begin 0 = .ok (.aload_n 0, 1) := by decide +kernel
theorem dX1_begin_1 : decode cX1_begin 1 = .ok (.iconst 1, 1) := by decide +kernel
theorem dX1_begin_2 : decode cX1_begin 2 = .ok (.putfield 18, 3) := by decide +kernel
theorem dX1_begin_5 : decode cX1_begin 5 = .ok (.aload_n 0, 1) := by decide +kernel
theorem dX1_begin_6 : decode cX1_begin 6 = .ok (.iconst 0, 1) := by decide +kernel
theorem dX1_begin_7 : decode cX1_begin 7 = .ok (.putfield 22, 3) := by decide +kernel
theorem dX1_begin_10 : decode cX1_begin 10 = .ok (.aload_n 0, 1) := by decide +kernel
theorem dX1_begin_11 : decode cX1_begin 11 = .ok (.iconst 0, 1) := by decide +kernel
theorem dX1_begin_12 : decode cX1_begin 12 = .ok (.putfield 26, 3) := by decide +kernel
theorem dX1_begin_15 : decode cX1_begin 15 = .ok (.aload_n 0, 1) := by decide +kernel
theorem dX1_begin_16 : decode cX1_begin 16 = .ok (.iconst 0, 1) := by decide +kernel
theorem dX1_begin_17 : decode cX1_begin 17 = .ok (.putfield 29, 3) := by decide +kernel
theorem dX1_begin_20 : decode cX1_begin 20 = .ok (.aload_n 0, 1) := by decide +kernel
theorem dX1_begin_21 : decode cX1_begin 21 = .ok (.getfield 9, 3) := by decide +kernel
theorem dX1_begin_24 : decode cX1_begin 24 = .ok (.iconst (-1), 1) := by decide +kernel
theorem dX1_begin_25 : decode cX1_begin 25 = .ok (.invokestatic 32, 3) := by decide +kernel
theorem dX1_begin_28 : decode cX1_begin 28 = .ok (.return_, 1) := by decide +kernel
theorem dX1_copyFrom_0 : decode cX1_copyFrom 0 = .ok (.aload_n 0, 1) := by decide +kernel
theorem dX1_copyFrom_1 : decode cX1_copyFrom 1 = .ok (.aload_n 1, 1) := by decide +kernel
theorem dX1_copyFrom_2 : decode cX1_copyFrom 2 = .ok (.getfield 18, 3) := by decide +kernel
theorem dX1_copyFrom_5 : decode cX1_copyFrom 5 = .ok (.putfield 18, 3) := by decide +kernel
theorem dX1_copyFrom_8 : decode cX1_copyFrom 8 = .ok (.aload_n 0, 1) := by decide +kernel
theorem dX1_copyFrom_9 : decode cX1_copyFrom 9 = .ok (.aload_n 1, 1) := by decide +kernel
theorem dX1_copyFrom_10 : decode cX1_copyFrom 10 = .ok (.getfield 22, 3) := by decide +kernel
theorem dX1_copyFrom_13 : decode cX1_copyFrom 13 = .ok (.putfield 22, 3) := by decide +kernel
theorem dX1_copyFrom_16 : decode cX1_copyFrom 16 = .ok (.aload_n 0, 1) := by decide +kernel
theorem dX1_copyFrom_17 : decode cX1_copyFrom 17 = .ok (.aload_n 1, 1) := by decide +kernel
theorem dX1_copyFrom_18 : decode cX1_copyFrom 18 = .ok (.getfield 26, 3) := by decide +kernel
theorem dX1_copyFrom_21 : decode cX1_copyFrom 21 = .ok (.putfield 26, 3) := by decide +kernel
theorem dX1_copyFrom_24 : decode cX1_copyFrom 24 = .ok (.aload_n 0, 1) := by decide +kernel
theorem dX1_copyFrom_25 : decode cX1_copyFrom 25 = .ok (.aload_n 1, 1) := by decide +kernel
theorem dX1_copyFrom_26 : decode cX1_copyFrom 26 = .ok (.getfield 29, 3) := by decide +kernel
theorem dX1_copyFrom_29 : decode cX1_copyFrom 29 = .ok (.putfield 29, 3) := by decide +kernel
theorem dX1_copyFrom_32 : decode cX1_copyFrom 32 = .ok (.aload_n 1, 1) := by decide +kernel
theorem dX1_copyFrom_33 : decode cX1_copyFrom 33 = .ok (.getfield 9, 3) := by decide +kernel
theorem dX1_copyFrom_36 : decode cX1_copyFrom 36 = .ok (.aload_n 0, 1) := by decide +kernel
theorem dX1_copyFrom_37 : decode cX1_copyFrom 37 = .ok (.getfield 9, 3) := by decide +kernel
theorem dX1_copyFrom_40 : decode cX1_copyFrom 40 = .ok (.invokestatic 38, 3) := by decide +kernel
theorem dX1_copyFrom_43 : decode cX1_copyFrom 43 = .ok (.aload_n 1, 1) := by decide +kernel
theorem dX1_copyFrom_44 : decode cX1_copyFrom 44 = .ok (.getfield 15, 3) := by decide +kernel
theorem dX1_copyFrom_47 : decode cX1_copyFrom 47 = .ok (.aload_n 0, 1) := by decide +kernel
theorem dX1_copyFrom_48 : decode cX1_copyFrom 48 = .ok (.getfield 15, 3) := by decide +kernel
theorem dX1_copyFrom_51 : decode cX1_copyFrom 51 = .ok (.invokestatic 38, 3) := by decide +kernel
theorem dX1_copyFrom_54 : decode cX1_copyFrom 54 = .ok (.return_, 1) := by decide +kernel
theorem dX1_isFencedFor_0 : decode cX1_isFencedFor 0 = .ok (.aload_n 0, 1) := by decide +kernel
theorem dX1_isFencedFor_1 : decode cX1_isFencedFor 1 = .ok (.getfield 22, 3) := by decide +kernel
theorem dX1_isFencedFor_4 : decode cX1_isFencedFor 4 = .ok (.iload_n 1, 1) := by decide +kernel
theorem dX1_isFencedFor_5 : decode cX1_isFencedFor 5 = .ok (.invokestatic 42, 3) := by decide +kernel
theorem dX1_isFencedFor_8 : decode cX1_isFencedFor 8 = .ok (.ireturn, 1) := by decide +kernel
theorem dX1_fenceFor_0 : decode cX1_fenceFor 0 = .ok (.aload_n 0, 1) := by decide +kernel
theorem dX1_fenceFor_1 : decode cX1_fenceFor 1 = .ok (.dup, 1) := by decide +kernel
theorem dX1_fenceFor_2 : decode cX1_fenceFor 2 = .ok (.getfield 22, 3) := by decide +kernel
theorem dX1_fenceFor_5 : decode cX1_fenceFor 5 = .ok (.iconst 1, 1) := by decide +kernel
theorem dX1_fenceFor_6 : decode cX1_fenceFor 6 = .ok (.iload_n 1, 1) := by decide +kernel
theorem dX1_fenceFor_7 : decode cX1_fenceFor 7 = .ok (.ishl, 1) := by decide +kernel
theorem dX1_fenceFor_8 : decode cX1_fenceFor 8 = .ok (.ior, 1) := by decide +kernel
theorem dX1_fenceFor_9 : decode cX1_fenceFor 9 = .ok (.putfield 22, 3) := by decide +kernel
theorem dX1_fenceFor_12 : decode cX1_fenceFor 12 = .ok (.return_, 1) := by decide +kernel
theorem dX1_receive_0 : decode cX1_receive 0 = .ok (.aload_n 0, 1) := by decide +kernel
theorem dX1_receive_1 : decode cX1_receive 1 = .ok (.getfield 18, 3) := by decide +kernel
theorem dX1_receive_4 : decode cX1_receive 4 = .ok (.ifCond .eq 42, 3) := by decide +kernel
theorem dX1_receive_7 : decode cX1_receive 7 = .ok (.aload_n 0, 1) := by decide +kernel
theorem dX1_receive_8 : decode cX1_receive 8 = .ok (.getfield 29, 3) := by decide +kernel
theorem dX1_receive_11 : decode cX1_receive 11 = .ok (.ifCond .lt 35, 3) := by decide +kernel
theorem dX1_receive_14 : decode cX1_receive 14 = .ok (.aload_n 0, 1) := by decide +kernel
theorem dX1_receive_15 : decode cX1_receive 15 = .ok (.getfield 29, 3) := by decide +kernel
theorem dX1_receive_18 : decode cX1_receive 18 = .ok (.aload_n 0, 1) := by decide +kernel
theorem dX1_receive_19 : decode cX1_receive 19 = .ok (.getfield 15, 3) := by decide +kernel
theorem dX1_receive_22 : decode cX1_receive 22 = .ok (.arraylength, 1) := by decide +kernel
theorem dX1_receive_23 : decode cX1_receive 23 = .ok (.if_icmp .ge 23, 3) := by decide +kernel
theorem dX1_receive_26 : decode cX1_receive 26 = .ok (.aload_n 0, 1) := by decide +kernel
theorem dX1_receive_27 : decode cX1_receive 27 = .ok (.getfield 15, 3) := by decide +kernel
theorem dX1_receive_30 : decode cX1_receive 30 = .ok (.aload_n 0, 1) := by decide +kernel
theorem dX1_receive_31 : decode cX1_receive 31 = .ok (.getfield 29, 3) := by decide +kernel
theorem dX1_receive_34 : decode cX1_receive 34 = .ok (.iload_n 1, 1) := by decide +kernel
theorem dX1_receive_35 : decode cX1_receive 35 = .ok (.iastore, 1) := by decide +kernel
theorem dX1_receive_36 : decode cX1_receive 36 = .ok (.aload_n 0, 1) := by decide +kernel
theorem dX1_receive_37 : decode cX1_receive 37 = .ok (.dup, 1) := by decide +kernel
theorem dX1_receive_38 : decode cX1_receive 38 = .ok (.getfield 29, 3) := by decide +kernel
theorem dX1_receive_41 : decode cX1_receive 41 = .ok (.iconst 1, 1) := by decide +kernel
theorem dX1_receive_42 : decode cX1_receive 42 = .ok (.iadd, 1) := by decide +kernel
theorem dX1_receive_43 : decode cX1_receive 43 = .ok (.putfield 29, 3) := by decide +kernel
theorem dX1_receive_46 : decode cX1_receive 46 = .ok (.return_, 1) := by decide +kernel
theorem dX1_takeOldest_0 : decode cX1_takeOldest 0 = .ok (.aload_n 0, 1) := by decide +kernel
theorem dX1_takeOldest_1 : decode cX1_takeOldest 1 = .ok (.getfield 29, 3) := by decide +kernel
theorem dX1_takeOldest_4 : decode cX1_takeOldest 4 = .ok (.iconst 1, 1) := by decide +kernel
theorem dX1_takeOldest_5 : decode cX1_takeOldest 5 = .ok (.if_icmp .lt 15, 3) := by decide +kernel
theorem dX1_takeOldest_8 : decode cX1_takeOldest 8 = .ok (.aload_n 0, 1) := by decide +kernel
theorem dX1_takeOldest_9 : decode cX1_takeOldest 9 = .ok (.getfield 29, 3) := by decide +kernel
theorem dX1_takeOldest_12 : decode cX1_takeOldest 12 = .ok (.aload_n 0, 1) := by decide +kernel
theorem dX1_takeOldest_13 : decode cX1_takeOldest 13 = .ok (.getfield 15, 3) := by decide +kernel
theorem dX1_takeOldest_16 : decode cX1_takeOldest 16 = .ok (.arraylength, 1) := by decide +kernel
theorem dX1_takeOldest_17 : decode cX1_takeOldest 17 = .ok (.if_icmp .le 5, 3) := by decide +kernel
theorem dX1_takeOldest_20 : decode cX1_takeOldest 20 = .ok (.iconst (-1), 1) := by decide +kernel
theorem dX1_takeOldest_21 : decode cX1_takeOldest 21 = .ok (.ireturn, 1) := by decide +kernel
theorem dX1_takeOldest_22 : decode cX1_takeOldest 22 = .ok (.aload_n 0, 1) := by decide +kernel
theorem dX1_takeOldest_23 : decode cX1_takeOldest 23 = .ok (.getfield 15, 3) := by decide +kernel
theorem dX1_takeOldest_26 : decode cX1_takeOldest 26 = .ok (.iconst 0, 1) := by decide +kernel
theorem dX1_takeOldest_27 : decode cX1_takeOldest 27 = .ok (.iaload, 1) := by decide +kernel
theorem dX1_takeOldest_28 : decode cX1_takeOldest 28 = .ok (.istore_n 1, 1) := by decide +kernel
theorem dX1_takeOldest_29 : decode cX1_takeOldest 29 = .ok (.aload_n 0, 1) := by decide +kernel
theorem dX1_takeOldest_30 : decode cX1_takeOldest 30 = .ok (.dup, 1) := by decide +kernel
theorem dX1_takeOldest_31 : decode cX1_takeOldest 31 = .ok (.getfield 29, 3) := by decide +kernel
theorem dX1_takeOldest_34 : decode cX1_takeOldest 34 = .ok (.iconst 1, 1) := by decide +kernel
theorem dX1_takeOldest_35 : decode cX1_takeOldest 35 = .ok (.isub, 1) := by decide +kernel
theorem dX1_takeOldest_36 : decode cX1_takeOldest 36 = .ok (.putfield 29, 3) := by decide +kernel
theorem dX1_takeOldest_39 : decode cX1_takeOldest 39 = .ok (.aload_n 0, 1) := by decide +kernel
theorem dX1_takeOldest_40 : decode cX1_takeOldest 40 = .ok (.getfield 15, 3) := by decide +kernel
theorem dX1_takeOldest_43 : decode cX1_takeOldest 43 = .ok (.iconst 1, 1) := by decide +kernel
theorem dX1_takeOldest_44 : decode cX1_takeOldest 44 = .ok (.aload_n 0, 1) := by decide +kernel
theorem dX1_takeOldest_45 : decode cX1_takeOldest 45 = .ok (.getfield 15, 3) := by decide +kernel
theorem dX1_takeOldest_48 : decode cX1_takeOldest 48 = .ok (.iconst 0, 1) := by decide +kernel
theorem dX1_takeOldest_49 : decode cX1_takeOldest 49 = .ok (.aload_n 0, 1) := by decide +kernel
theorem dX1_takeOldest_50 : decode cX1_takeOldest 50 = .ok (.getfield 29, 3) := by decide +kernel
theorem dX1_takeOldest_53 : decode cX1_takeOldest 53 = .ok (.invokestatic 46, 3) := by decide +kernel
theorem dX1_takeOldest_56 : decode cX1_takeOldest 56 = .ok (.iload_n 1, 1) := by decide +kernel
theorem dX1_takeOldest_57 : decode cX1_takeOldest 57 = .ok (.ireturn, 1) := by decide +kernel
theorem dX1_keep_0 : decode cX1_keep 0 = .ok (.iload_n 1, 1) := by decide +kernel
theorem dX1_keep_1 : decode cX1_keep 1 = .ok (.invokestatic 52, 3) := by decide +kernel
theorem dX1_keep_4 : decode cX1_keep 4 = .ok (.iload_n 1, 1) := by decide +kernel
theorem dX1_keep_5 : decode cX1_keep 5 = .ok (.invokestatic 58, 3) := by decide +kernel
theorem dX1_keep_8 : decode cX1_keep 8 = .ok (.invokestatic 61, 3) := by decide +kernel
theorem dX1_keep_11 : decode cX1_keep 11 = .ok (.istore_n 2, 1) := by decide +kernel
theorem dX1_keep_12 : decode cX1_keep 12 = .ok (.iload_n 2, 1) := by decide +kernel
theorem dX1_keep_13 : decode cX1_keep 13 = .ok (.ifCond .lt 12, 3) := by decide +kernel
theorem dX1_keep_16 : decode cX1_keep 16 = .ok (.iload_n 2, 1) := by decide +kernel
theorem dX1_keep_17 : decode cX1_keep 17 = .ok (.aload_n 0, 1) := by decide +kernel
theorem dX1_keep_18 : decode cX1_keep 18 = .ok (.getfield 9, 3) := by decide +kernel
theorem dX1_keep_21 : decode cX1_keep 21 = .ok (.arraylength, 1) := by decide +kernel
theorem dX1_keep_22 : decode cX1_keep 22 = .ok (.if_icmp .lt 4, 3) := by decide +kernel
theorem dX1_keep_25 : decode cX1_keep 25 = .ok (.return_, 1) := by decide +kernel
theorem dX1_keep_26 : decode cX1_keep 26 = .ok (.aload_n 0, 1) := by decide +kernel
theorem dX1_keep_27 : decode cX1_keep 27 = .ok (.getfield 9, 3) := by decide +kernel
theorem dX1_keep_30 : decode cX1_keep 30 = .ok (.iload_n 2, 1) := by decide +kernel
theorem dX1_keep_31 : decode cX1_keep 31 = .ok (.iaload, 1) := by decide +kernel
theorem dX1_keep_32 : decode cX1_keep 32 = .ok (.iconst (-1), 1) := by decide +kernel
theorem dX1_keep_33 : decode cX1_keep 33 = .ok (.if_icmp .ne 13, 3) := by decide +kernel
theorem dX1_keep_36 : decode cX1_keep 36 = .ok (.aload_n 0, 1) := by decide +kernel
theorem dX1_keep_37 : decode cX1_keep 37 = .ok (.dup, 1) := by decide +kernel
theorem dX1_keep_38 : decode cX1_keep 38 = .ok (.getfield 26, 3) := by decide +kernel
theorem dX1_keep_41 : decode cX1_keep 41 = .ok (.iconst 1, 1) := by decide +kernel
theorem dX1_keep_42 : decode cX1_keep 42 = .ok (.iadd, 1) := by decide +kernel
theorem dX1_keep_43 : decode cX1_keep 43 = .ok (.putfield 26, 3) := by decide +kernel
theorem dX1_keep_46 : decode cX1_keep 46 = .ok (.aload_n 0, 1) := by decide +kernel
theorem dX1_keep_47 : decode cX1_keep 47 = .ok (.getfield 9, 3) := by decide +kernel
theorem dX1_keep_50 : decode cX1_keep 50 = .ok (.iload_n 2, 1) := by decide +kernel
theorem dX1_keep_51 : decode cX1_keep 51 = .ok (.iload_n 1, 1) := by decide +kernel
theorem dX1_keep_52 : decode cX1_keep 52 = .ok (.iastore, 1) := by decide +kernel
theorem dX1_keep_53 : decode cX1_keep 53 = .ok (.return_, 1) := by decide +kernel
theorem dX1_storedParcel_0 : decode cX1_storedParcel 0 = .ok (.iload_n 1, 1) := by decide +kernel
theorem dX1_storedParcel_1 : decode cX1_storedParcel 1 = .ok (.iload_n 2, 1) := by decide +kernel
theorem dX1_storedParcel_2 : decode cX1_storedParcel 2 = .ok (.invokestatic 61, 3) := by decide +kernel
theorem dX1_storedParcel_5 : decode cX1_storedParcel 5 = .ok (.istore_n 3, 1) := by decide +kernel
theorem dX1_storedParcel_6 : decode cX1_storedParcel 6 = .ok (.iload_n 3, 1) := by decide +kernel
theorem dX1_storedParcel_7 : decode cX1_storedParcel 7 = .ok (.ifCond .lt 12, 3) := by decide +kernel
theorem dX1_storedParcel_10 : decode cX1_storedParcel 10 = .ok (.iload_n 3, 1) := by decide +kernel
theorem dX1_storedParcel_11 : decode cX1_storedParcel 11 = .ok (.aload_n 0, 1) := by decide +kernel
theorem dX1_storedParcel_12 : decode cX1_storedParcel 12 = .ok (.getfield 9, 3) := by decide +kernel
theorem dX1_storedParcel_15 : decode cX1_storedParcel 15 = .ok (.arraylength, 1) := by decide +kernel
theorem dX1_storedParcel_16 : decode cX1_storedParcel 16 = .ok (.if_icmp .lt 7, 3) := by decide +kernel
theorem dX1_storedParcel_19 : decode cX1_storedParcel 19 = .ok (.iconst (-1), 1) := by decide +kernel
theorem dX1_storedParcel_20 : decode cX1_storedParcel 20 = .ok (.goto 9, 3) := by decide +kernel
theorem dX1_storedParcel_23 : decode cX1_storedParcel 23 = .ok (.aload_n 0, 1) := by decide +kernel
theorem dX1_storedParcel_24 : decode cX1_storedParcel 24 = .ok (.getfield 9, 3) := by decide +kernel
theorem dX1_storedParcel_27 : decode cX1_storedParcel 27 = .ok (.iload_n 3, 1) := by decide +kernel
theorem dX1_storedParcel_28 : decode cX1_storedParcel 28 = .ok (.iaload, 1) := by decide +kernel
theorem dX1_storedParcel_29 : decode cX1_storedParcel 29 = .ok (.ireturn, 1) := by decide +kernel
theorem dX1_holds_0 : decode cX1_holds 0 = .ok (.aload_n 0, 1) := by decide +kernel
theorem dX1_holds_1 : decode cX1_holds 1 = .ok (.iload_n 1, 1) := by decide +kernel
theorem dX1_holds_2 : decode cX1_holds 2 = .ok (.iload_n 2, 1) := by decide +kernel
theorem dX1_holds_3 : decode cX1_holds 3 = .ok (.invokevirtual 65, 3) := by decide +kernel
theorem dX1_holds_6 : decode cX1_holds 6 = .ok (.iconst (-1), 1) := by decide +kernel
theorem dX1_holds_7 : decode cX1_holds 7 = .ok (.if_icmp .eq 7, 3) := by decide +kernel
theorem dX1_holds_10 : decode cX1_holds 10 = .ok (.iconst 1, 1) := by decide +kernel
theorem dX1_holds_11 : decode cX1_holds 11 = .ok (.goto 4, 3) := by decide +kernel
theorem dX1_holds_14 : decode cX1_holds 14 = .ok (.iconst 0, 1) := by decide +kernel
theorem dX1_holds_15 : decode cX1_holds 15 = .ok (.ireturn, 1) := by decide +kernel
theorem dX1_greatestConfirmed_0 : decode cX1_greatestConfirmed 0 = .ok (.iconst (-1), 1) := by decide +kernel
theorem dX1_greatestConfirmed_1 : decode cX1_greatestConfirmed 1 = .ok (.istore_n 2, 1) := by decide +kernel
theorem dX1_greatestConfirmed_2 : decode cX1_greatestConfirmed 2 = .ok (.iconst 0, 1) := by decide +kernel
theorem dX1_greatestConfirmed_3 : decode cX1_greatestConfirmed 3 = .ok (.istore_n 3, 1) := by decide +kernel
theorem dX1_greatestConfirmed_4 : decode cX1_greatestConfirmed 4 = .ok (.iload_n 3, 1) := by decide +kernel
theorem dX1_greatestConfirmed_5 : decode cX1_greatestConfirmed 5 = .ok (.bipush 40, 2) := by decide +kernel
theorem dX1_greatestConfirmed_7 : decode cX1_greatestConfirmed 7 = .ok (.if_icmp .ge 33, 3) := by decide +kernel
theorem dX1_greatestConfirmed_10 : decode cX1_greatestConfirmed 10 = .ok (.aload_n 0, 1) := by decide +kernel
theorem dX1_greatestConfirmed_11 : decode cX1_greatestConfirmed 11 = .ok (.iload_n 1, 1) := by decide +kernel
theorem dX1_greatestConfirmed_12 : decode cX1_greatestConfirmed 12 = .ok (.iload_n 3, 1) := by decide +kernel
theorem dX1_greatestConfirmed_13 : decode cX1_greatestConfirmed 13 = .ok (.invokevirtual 65, 3) := by decide +kernel
theorem dX1_greatestConfirmed_16 : decode cX1_greatestConfirmed 16 = .ok (.istore 4, 2) := by decide +kernel
theorem dX1_greatestConfirmed_18 : decode cX1_greatestConfirmed 18 = .ok (.iload 4, 2) := by decide +kernel
theorem dX1_greatestConfirmed_20 : decode cX1_greatestConfirmed 20 = .ok (.iconst (-1), 1) := by decide +kernel
theorem dX1_greatestConfirmed_21 : decode cX1_greatestConfirmed 21 = .ok (.if_icmp .eq 13, 3) := by decide +kernel
theorem dX1_greatestConfirmed_24 : decode cX1_greatestConfirmed 24 = .ok (.iload_n 2, 1) := by decide +kernel
theorem dX1_greatestConfirmed_25 : decode cX1_greatestConfirmed 25 = .ok (.iload 4, 2) := by decide +kernel
theorem dX1_greatestConfirmed_27 : decode cX1_greatestConfirmed 27 = .ok (.invokestatic 68, 3) := by decide +kernel
theorem dX1_greatestConfirmed_30 : decode cX1_greatestConfirmed 30 = .ok (.invokestatic 71, 3) := by decide +kernel
theorem dX1_greatestConfirmed_33 : decode cX1_greatestConfirmed 33 = .ok (.istore_n 2, 1) := by decide +kernel
theorem dX1_greatestConfirmed_34 : decode cX1_greatestConfirmed 34 = .ok (.iinc 3 1, 3) := by decide +kernel
theorem dX1_greatestConfirmed_37 : decode cX1_greatestConfirmed 37 = .ok (.goto (-33), 3) := by decide +kernel
theorem dX1_greatestConfirmed_40 : decode cX1_greatestConfirmed 40 = .ok (.iload_n 2, 1) := by decide +kernel
theorem dX1_greatestConfirmed_41 : decode cX1_greatestConfirmed 41 = .ok (.ireturn, 1) := by decide +kernel
theorem dX1_slotOf_0 : decode cX1_slotOf 0 = .ok (.iload_n 0, 1) := by decide +kernel
theorem dX1_slotOf_1 : decode cX1_slotOf 1 = .ok (.ifCond .lt 22, 3) := by decide +kernel
theorem dX1_slotOf_4 : decode cX1_slotOf 4 = .ok (.iload_n 0, 1) := by decide +kernel
theorem dX1_slotOf_5 : decode cX1_slotOf 5 = .ok (.iconst 4, 1) := by decide +kernel
theorem dX1_slotOf_6 : decode cX1_slotOf 6 = .ok (.if_icmp .ge 17, 3) := by decide +kernel
theorem dX1_slotOf_9 : decode cX1_slotOf 9 = .ok (.iload_n 1, 1) := by decide +kernel
theorem dX1_slotOf_10 : decode cX1_slotOf 10 = .ok (.ifCond .lt 13, 3) := by decide +kernel
theorem dX1_slotOf_13 : decode cX1_slotOf 13 = .ok (.iload_n 1, 1) := by decide +kernel
theorem dX1_slotOf_14 : decode cX1_slotOf 14 = .ok (.bipush 40, 2) := by decide +kernel
theorem dX1_slotOf_16 : decode cX1_slotOf 16 = .ok (.if_icmp .ge 7, 3) := by decide +kernel
theorem dX1_slotOf_19 : decode cX1_slotOf 19 = .ok (.iconst 1, 1) := by decide +kernel
theorem dX1_slotOf_20 : decode cX1_slotOf 20 = .ok (.goto 4, 3) := by decide +kernel
theorem dX1_slotOf_23 : decode cX1_slotOf 23 = .ok (.iconst 0, 1) := by decide +kernel
theorem dX1_slotOf_24 : decode cX1_slotOf 24 = .ok (.istore_n 2, 1) := by decide +kernel
theorem dX1_slotOf_25 : decode cX1_slotOf 25 = .ok (.iload_n 2, 1) := by decide +kernel
theorem dX1_slotOf_26 : decode cX1_slotOf 26 = .ok (.ifCond .eq 12, 3) := by decide +kernel
theorem dX1_slotOf_29 : decode cX1_slotOf 29 = .ok (.iload_n 0, 1) := by decide +kernel
theorem dX1_slotOf_30 : decode cX1_slotOf 30 = .ok (.bipush 40, 2) := by decide +kernel
theorem dX1_slotOf_32 : decode cX1_slotOf 32 = .ok (.imul, 1) := by decide +kernel
theorem dX1_slotOf_33 : decode cX1_slotOf 33 = .ok (.iload_n 1, 1) := by decide +kernel
theorem dX1_slotOf_34 : decode cX1_slotOf 34 = .ok (.iadd, 1) := by decide +kernel
theorem dX1_slotOf_35 : decode cX1_slotOf 35 = .ok (.goto 4, 3) := by decide +kernel
theorem dX1_slotOf_38 : decode cX1_slotOf 38 = .ok (.iconst (-1), 1) := by decide +kernel
theorem dX1_slotOf_39 : decode cX1_slotOf 39 = .ok (.ireturn, 1) := by decide +kernel
theorem dX2_of_0 : decode cX2_of 0 = .ok (.iload_n 0, 1) := by decide +kernel
theorem dX2_of_1 : decode cX2_of 1 = .ok (.iconst 3, 1) := by decide +kernel
theorem dX2_of_2 : decode cX2_of 2 = .ok (.iand, 1) := by decide +kernel
theorem dX2_of_3 : decode cX2_of 3 = .ok (.bipush 22, 2) := by decide +kernel
theorem dX2_of_5 : decode cX2_of 5 = .ok (.ishl, 1) := by decide +kernel
theorem dX2_of_6 : decode cX2_of 6 = .ok (.iload_n 1, 1) := by decide +kernel
theorem dX2_of_7 : decode cX2_of 7 = .ok (.bipush 63, 2) := by decide +kernel
theorem dX2_of_9 : decode cX2_of 9 = .ok (.iand, 1) := by decide +kernel
theorem dX2_of_10 : decode cX2_of 10 = .ok (.bipush 16, 2) := by decide +kernel
theorem dX2_of_12 : decode cX2_of 12 = .ok (.ishl, 1) := by decide +kernel
theorem dX2_of_13 : decode cX2_of 13 = .ok (.ior, 1) := by decide +kernel
theorem dX2_of_14 : decode cX2_of 14 = .ok (.iload_n 3, 1) := by decide +kernel
theorem dX2_of_15 : decode cX2_of 15 = .ok (.iconst 1, 1) := by decide +kernel
theorem dX2_of_16 : decode cX2_of 16 = .ok (.iadd, 1) := by decide +kernel
theorem dX2_of_17 : decode cX2_of 17 = .ok (.bipush 63, 2) := by decide +kernel
theorem dX2_of_19 : decode cX2_of 19 = .ok (.iand, 1) := by decide +kernel
theorem dX2_of_20 : decode cX2_of 20 = .ok (.bipush 10, 2) := by decide +kernel
theorem dX2_of_22 : decode cX2_of 22 = .ok (.ishl, 1) := by decide +kernel
theorem dX2_of_23 : decode cX2_of 23 = .ok (.ior, 1) := by decide +kernel
theorem dX2_of_24 : decode cX2_of 24 = .ok (.iload_n 2, 1) := by decide +kernel
theorem dX2_of_25 : decode cX2_of 25 = .ok (.sipush 1023, 3) := by decide +kernel
theorem dX2_of_28 : decode cX2_of 28 = .ok (.iand, 1) := by decide +kernel
theorem dX2_of_29 : decode cX2_of 29 = .ok (.ior, 1) := by decide +kernel
theorem dX2_of_30 : decode cX2_of 30 = .ok (.ireturn, 1) := by decide +kernel
theorem dX2_ledgerOf_0 : decode cX2_ledgerOf 0 = .ok (.iload_n 0, 1) := by decide +kernel
theorem dX2_ledgerOf_1 : decode cX2_ledgerOf 1 = .ok (.bipush 22, 2) := by decide +kernel
theorem dX2_ledgerOf_3 : decode cX2_ledgerOf 3 = .ok (.ishr, 1) := by decide +kernel
theorem dX2_ledgerOf_4 : decode cX2_ledgerOf 4 = .ok (.iconst 3, 1) := by decide +kernel
theorem dX2_ledgerOf_5 : decode cX2_ledgerOf 5 = .ok (.iand, 1) := by decide +kernel
theorem dX2_ledgerOf_6 : decode cX2_ledgerOf 6 = .ok (.ireturn, 1) := by decide +kernel
theorem dX2_entryOf_0 : decode cX2_entryOf 0 = .ok (.iload_n 0, 1) := by decide +kernel
theorem dX2_entryOf_1 : decode cX2_entryOf 1 = .ok (.bipush 16, 2) := by decide +kernel
theorem dX2_entryOf_3 : decode cX2_entryOf 3 = .ok (.ishr, 1) := by decide +kernel
theorem dX2_entryOf_4 : decode cX2_entryOf 4 = .ok (.bipush 63, 2) := by decide +kernel
theorem dX2_entryOf_6 : decode cX2_entryOf 6 = .ok (.iand, 1) := by decide +kernel
theorem dX2_entryOf_7 : decode cX2_entryOf 7 = .ok (.ireturn, 1) := by decide +kernel
theorem dX2_confirmedOf_0 : decode cX2_confirmedOf 0 = .ok (.iload_n 0, 1) := by decide +kernel
theorem dX2_confirmedOf_1 : decode cX2_confirmedOf 1 = .ok (.bipush 10, 2) := by decide +kernel
theorem dX2_confirmedOf_3 : decode cX2_confirmedOf 3 = .ok (.ishr, 1) := by decide +kernel
theorem dX2_confirmedOf_4 : decode cX2_confirmedOf 4 = .ok (.bipush 63, 2) := by decide +kernel
theorem dX2_confirmedOf_6 : decode cX2_confirmedOf 6 = .ok (.iand, 1) := by decide +kernel
theorem dX2_confirmedOf_7 : decode cX2_confirmedOf 7 = .ok (.iconst 1, 1) := by decide +kernel
theorem dX2_confirmedOf_8 : decode cX2_confirmedOf 8 = .ok (.isub, 1) := by decide +kernel
theorem dX2_confirmedOf_9 : decode cX2_confirmedOf 9 = .ok (.ireturn, 1) := by decide +kernel
theorem dX2_payloadOf_0 : decode cX2_payloadOf 0 = .ok (.iload_n 0, 1) := by decide +kernel
theorem dX2_payloadOf_1 : decode cX2_payloadOf 1 = .ok (.sipush 1023, 3) := by decide +kernel
theorem dX2_payloadOf_4 : decode cX2_payloadOf 4 = .ok (.iand, 1) := by decide +kernel
theorem dX2_payloadOf_5 : decode cX2_payloadOf 5 = .ok (.ireturn, 1) := by decide +kernel
end
section
theorem dX3_init_0 : decode cX3_init 0 = .ok (.aload_n 0, 1) := by decide +kernel
theorem dX3_init_1 : decode cX3_init 1 = .ok (.invokespecial 3, 3) := by decide +kernel
theorem dX3_init_4 : decode cX3_init 4 = .ok (.aload_n 0, 1) := by decide +kernel
theorem dX3_init_5 : decode cX3_init 5 = .ok (.bipush 8, 2) := by decide +kernel
theorem dX3_init_7 : decode cX3_init 7 = .ok (.anewarray 9, 3) := by decide +kernel
theorem dX3_init_10 : decode cX3_init 10 = .ok (.putfield 11, 3) := by decide +kernel
theorem dX3_init_13 : decode cX3_init 13 = .ok (.aload_n 0, 1) := by decide +kernel
theorem dX3_init_14 : decode cX3_init 14 = .ok (.iconst 4, 1) := by decide +kernel
theorem dX3_init_15 : decode cX3_init 15 = .ok (.anewarray 17, 3) := by decide +kernel
theorem dX3_init_18 : decode cX3_init 18 = .ok (.putfield 19, 3) := by decide +kernel
theorem dX3_init_21 : decode cX3_init 21 = .ok (.iconst 0, 1) := by decide +kernel
theorem dX3_init_22 : decode cX3_init 22 = .ok (.istore_n 1, 1) := by decide +kernel
theorem dX3_init_23 : decode cX3_init 23 = .ok (.iload_n 1, 1) := by decide +kernel
theorem dX3_init_24 : decode cX3_init 24 = .ok (.aload_n 0, 1) := by decide +kernel
theorem dX3_init_25 : decode cX3_init 25 = .ok (.getfield 11, 3) := by decide +kernel
theorem dX3_init_28 : decode cX3_init 28 = .ok (.arraylength, 1) := by decide +kernel
theorem dX3_init_29 : decode cX3_init 29 = .ok (.if_icmp .ge 22, 3) := by decide +kernel
theorem dX3_init_32 : decode cX3_init 32 = .ok (.aload_n 0, 1) := by decide +kernel
theorem dX3_init_33 : decode cX3_init 33 = .ok (.getfield 11, 3) := by decide +kernel
theorem dX3_init_36 : decode cX3_init 36 = .ok (.iload_n 1, 1) := by decide +kernel
theorem dX3_init_37 : decode cX3_init 37 = .ok (.new 9, 3) := by decide +kernel
theorem dX3_init_40 : decode cX3_init 40 = .ok (.dup, 1) := by decide +kernel
theorem dX3_init_41 : decode cX3_init 41 = .ok (.invokespecial 23, 3) := by decide +kernel
theorem dX3_init_44 : decode cX3_init 44 = .ok (.aastore, 1) := by decide +kernel
theorem dX3_init_45 : decode cX3_init 45 = .ok (.iinc 1 1, 3) := by decide +kernel
theorem dX3_init_48 : decode cX3_init 48 = .ok (.goto (-25), 3) := by decide +kernel
theorem dX3_init_51 : decode cX3_init 51 = .ok (.iconst 0, 1) := by decide +kernel
theorem dX3_init_52 : decode cX3_init 52 = .ok (.istore_n 1, 1) := by decide +kernel
theorem dX3_init_53 : decode cX3_init 53 = .ok (.iload_n 1, 1) := by decide +kernel
theorem dX3_init_54 : decode cX3_init 54 = .ok (.aload_n 0, 1) := by decide +kernel
theorem dX3_init_55 : decode cX3_init 55 = .ok (.getfield 19, 3) := by decide +kernel
theorem dX3_init_58 : decode cX3_init 58 = .ok (.arraylength, 1) := by decide +kernel
theorem dX3_init_59 : decode cX3_init 59 = .ok (.if_icmp .ge 23, 3) := by decide +kernel
theorem dX3_init_62 : decode cX3_init 62 = .ok (.aload_n 0, 1) := by decide +kernel
theorem dX3_init_63 : decode cX3_init 63 = .ok (.getfield 19, 3) := by decide +kernel
theorem dX3_init_66 : decode cX3_init 66 = .ok (.iload_n 1, 1) := by decide +kernel
theorem dX3_init_67 : decode cX3_init 67 = .ok (.new 17, 3) := by decide +kernel
theorem dX3_init_70 : decode cX3_init 70 = .ok (.dup, 1) := by decide +kernel
theorem dX3_init_71 : decode cX3_init 71 = .ok (.iload_n 1, 1) := by decide +kernel
theorem dX3_init_72 : decode cX3_init 72 = .ok (.invokespecial 24, 3) := by decide +kernel
theorem dX3_init_75 : decode cX3_init 75 = .ok (.aastore, 1) := by decide +kernel
theorem dX3_init_76 : decode cX3_init 76 = .ok (.iinc 1 1, 3) := by decide +kernel
theorem dX3_init_79 : decode cX3_init 79 = .ok (.goto (-26), 3) := by decide +kernel
theorem dX3_init_82 : decode cX3_init 82 = .ok (.return_, 1) := by decide +kernel
theorem dX3_takeOver_0 : decode cX3_takeOver 0 = .ok (.aload_n 0, 1) := by decide +kernel
theorem dX3_takeOver_1 : decode cX3_takeOver 1 = .ok (.aload_n 1, 1) := by decide +kernel
theorem dX3_takeOver_2 : decode cX3_takeOver 2 = .ok (.getfield 27, 3) := by decide +kernel
theorem dX3_takeOver_5 : decode cX3_takeOver 5 = .ok (.putfield 27, 3) := by decide +kernel
theorem dX3_takeOver_8 : decode cX3_takeOver 8 = .ok (.aload_n 0, 1) := by decide +kernel
theorem dX3_takeOver_9 : decode cX3_takeOver 9 = .ok (.aload_n 1, 1) := by decide +kernel
theorem dX3_takeOver_10 : decode cX3_takeOver 10 = .ok (.getfield 31, 3) := by decide +kernel
theorem dX3_takeOver_13 : decode cX3_takeOver 13 = .ok (.putfield 31, 3) := by decide +kernel
theorem dX3_takeOver_16 : decode cX3_takeOver 16 = .ok (.aload_n 0, 1) := by decide +kernel
theorem dX3_takeOver_17 : decode cX3_takeOver 17 = .ok (.aload_n 1, 1) := by decide +kernel
theorem dX3_takeOver_18 : decode cX3_takeOver 18 = .ok (.getfield 34, 3) := by decide +kernel
theorem dX3_takeOver_21 : decode cX3_takeOver 21 = .ok (.putfield 34, 3) := by decide +kernel
theorem dX3_takeOver_24 : decode cX3_takeOver 24 = .ok (.iconst 0, 1) := by decide +kernel
theorem dX3_takeOver_25 : decode cX3_takeOver 25 = .ok (.istore_n 2, 1) := by decide +kernel
theorem dX3_takeOver_26 : decode cX3_takeOver 26 = .ok (.iload_n 2, 1) := by decide +kernel
theorem dX3_takeOver_27 : decode cX3_takeOver 27 = .ok (.aload_n 0, 1) := by decide +kernel
theorem dX3_takeOver_28 : decode cX3_takeOver 28 = .ok (.getfield 27, 3) := by decide +kernel
theorem dX3_takeOver_31 : decode cX3_takeOver 31 = .ok (.if_icmp .ge 37, 3) := by decide +kernel
theorem dX3_takeOver_34 : decode cX3_takeOver 34 = .ok (.aload_n 1, 1) := by decide +kernel
theorem dX3_takeOver_35 : decode cX3_takeOver 35 = .ok (.iload_n 2, 1) := by decide +kernel
theorem dX3_takeOver_36 : decode cX3_takeOver 36 = .ok (.invokevirtual 37, 3) := by decide +kernel
theorem dX3_takeOver_39 : decode cX3_takeOver 39 = .ok (.astore_n 3, 1) := by decide +kernel
theorem dX3_takeOver_40 : decode cX3_takeOver 40 = .ok (.aload_n 0, 1) := by decide +kernel
theorem dX3_takeOver_41 : decode cX3_takeOver 41 = .ok (.iload_n 2, 1) := by decide +kernel
theorem dX3_takeOver_42 : decode cX3_takeOver 42 = .ok (.invokevirtual 37, 3) := by decide +kernel
theorem dX3_takeOver_45 : decode cX3_takeOver 45 = .ok (.astore 4, 2) := by decide +kernel
theorem dX3_takeOver_47 : decode cX3_takeOver 47 = .ok (.aload_n 3, 1) := by decide +kernel
theorem dX3_takeOver_48 : decode cX3_takeOver 48 = .ok (.ifnull 14, 3) := by decide +kernel
theorem dX3_takeOver_51 : decode cX3_takeOver 51 = .ok (.aload 4, 2) := by decide +kernel
theorem dX3_takeOver_53 : decode cX3_takeOver 53 = .ok (.ifnull 9, 3) := by decide +kernel
theorem dX3_takeOver_56 : decode cX3_takeOver 56 = .ok (.aload 4, 2) := by decide +kernel
theorem dX3_takeOver_58 : decode cX3_takeOver 58 = .ok (.aload_n 3, 1) := by decide +kernel
theorem dX3_takeOver_59 : decode cX3_takeOver 59 = .ok (.invokevirtual 41, 3) := by decide +kernel
theorem dX3_takeOver_62 : decode cX3_takeOver 62 = .ok (.iinc 2 1, 3) := by decide +kernel
theorem dX3_takeOver_65 : decode cX3_takeOver 65 = .ok (.goto (-39), 3) := by decide +kernel
theorem dX3_takeOver_68 : decode cX3_takeOver 68 = .ok (.iconst 0, 1) := by decide +kernel
theorem dX3_takeOver_69 : decode cX3_takeOver 69 = .ok (.istore_n 2, 1) := by decide +kernel
theorem dX3_takeOver_70 : decode cX3_takeOver 70 = .ok (.iload_n 2, 1) := by decide +kernel
theorem dX3_takeOver_71 : decode cX3_takeOver 71 = .ok (.aload_n 0, 1) := by decide +kernel
theorem dX3_takeOver_72 : decode cX3_takeOver 72 = .ok (.getfield 31, 3) := by decide +kernel
theorem dX3_takeOver_75 : decode cX3_takeOver 75 = .ok (.if_icmp .ge 37, 3) := by decide +kernel
theorem dX3_takeOver_78 : decode cX3_takeOver 78 = .ok (.aload_n 1, 1) := by decide +kernel
theorem dX3_takeOver_79 : decode cX3_takeOver 79 = .ok (.iload_n 2, 1) := by decide +kernel
theorem dX3_takeOver_80 : decode cX3_takeOver 80 = .ok (.invokevirtual 45, 3) := by decide +kernel
theorem dX3_takeOver_83 : decode cX3_takeOver 83 = .ok (.astore_n 3, 1) := by decide +kernel
theorem dX3_takeOver_84 : decode cX3_takeOver 84 = .ok (.aload_n 0, 1) := by decide +kernel
theorem dX3_takeOver_85 : decode cX3_takeOver 85 = .ok (.iload_n 2, 1) := by decide +kernel
theorem dX3_takeOver_86 : decode cX3_takeOver 86 = .ok (.invokevirtual 45, 3) := by decide +kernel
theorem dX3_takeOver_89 : decode cX3_takeOver 89 = .ok (.astore 4, 2) := by decide +kernel
theorem dX3_takeOver_91 : decode cX3_takeOver 91 = .ok (.aload_n 3, 1) := by decide +kernel
theorem dX3_takeOver_92 : decode cX3_takeOver 92 = .ok (.ifnull 14, 3) := by decide +kernel
theorem dX3_takeOver_95 : decode cX3_takeOver 95 = .ok (.aload 4, 2) := by decide +kernel
theorem dX3_takeOver_97 : decode cX3_takeOver 97 = .ok (.ifnull 9, 3) := by decide +kernel
theorem dX3_takeOver_100 : decode cX3_takeOver 100 = .ok (.aload 4, 2) := by decide +kernel
theorem dX3_takeOver_102 : decode cX3_takeOver 102 = .ok (.aload_n 3, 1) := by decide +kernel
theorem dX3_takeOver_103 : decode cX3_takeOver 103 = .ok (.invokevirtual 49, 3) := by decide +kernel
theorem dX3_takeOver_106 : decode cX3_takeOver 106 = .ok (.iinc 2 1, 3) := by decide +kernel
theorem dX3_takeOver_109 : decode cX3_takeOver 109 = .ok (.goto (-39), 3) := by decide +kernel
theorem dX3_takeOver_112 : decode cX3_takeOver 112 = .ok (.return_, 1) := by decide +kernel
theorem dX3_node_0 : decode cX3_node 0 = .ok (.iload_n 1, 1) := by decide +kernel
theorem dX3_node_1 : decode cX3_node 1 = .ok (.ifCond .lt 20, 3) := by decide +kernel
theorem dX3_node_4 : decode cX3_node 4 = .ok (.iload_n 1, 1) := by decide +kernel
theorem dX3_node_5 : decode cX3_node 5 = .ok (.aload_n 0, 1) := by decide +kernel
theorem dX3_node_6 : decode cX3_node 6 = .ok (.getfield 27, 3) := by decide +kernel
theorem dX3_node_9 : decode cX3_node 9 = .ok (.if_icmp .ge 12, 3) := by decide +kernel
theorem dX3_node_12 : decode cX3_node 12 = .ok (.iload_n 1, 1) := by decide +kernel
theorem dX3_node_13 : decode cX3_node 13 = .ok (.aload_n 0, 1) := by decide +kernel
theorem dX3_node_14 : decode cX3_node 14 = .ok (.getfield 11, 3) := by decide +kernel
theorem dX3_node_17 : decode cX3_node 17 = .ok (.arraylength, 1) := by decide +kernel
theorem dX3_node_18 : decode cX3_node 18 = .ok (.if_icmp .lt 7, 3) := by decide +kernel
theorem dX3_node_21 : decode cX3_node 21 = .ok (.aconst_null, 1) := by decide +kernel
theorem dX3_node_22 : decode cX3_node 22 = .ok (.goto 9, 3) := by decide +kernel
theorem dX3_node_25 : decode cX3_node 25 = .ok (.aload_n 0, 1) := by decide +kernel
theorem dX3_node_26 : decode cX3_node 26 = .ok (.getfield 11, 3) := by decide +kernel
theorem dX3_node_29 : decode cX3_node 29 = .ok (.iload_n 1, 1) := by decide +kernel
theorem dX3_node_30 : decode cX3_node 30 = .ok (.aaload, 1) := by decide +kernel
theorem dX3_node_31 : decode cX3_node 31 = .ok (.areturn, 1) := by decide +kernel
theorem dX3_ledger_0 : decode cX3_ledger 0 = .ok (.iload_n 1, 1) := by decide +kernel
theorem dX3_ledger_1 : decode cX3_ledger 1 = .ok (.ifCond .lt 20, 3) := by decide +kernel
theorem dX3_ledger_4 : decode cX3_ledger 4 = .ok (.iload_n 1, 1) := by decide +kernel
theorem dX3_ledger_5 : decode cX3_ledger 5 = .ok (.aload_n 0, 1) := by decide +kernel
theorem dX3_ledger_6 : decode cX3_ledger 6 = .ok (.getfield 31, 3) := by decide +kernel
theorem dX3_ledger_9 : decode cX3_ledger 9 = .ok (.if_icmp .ge 12, 3) := by decide +kernel
theorem dX3_ledger_12 : decode cX3_ledger 12 = .ok (.iload_n 1, 1) := by decide +kernel
theorem dX3_ledger_13 : decode cX3_ledger 13 = .ok (.aload_n 0, 1) := by decide +kernel
theorem dX3_ledger_14 : decode cX3_ledger 14 = .ok (.getfield 19, 3) := by decide +kernel
theorem dX3_ledger_17 : decode cX3_ledger 17 = .ok (.arraylength, 1) := by decide +kernel
theorem dX3_ledger_18 : decode cX3_ledger 18 = .ok (.if_icmp .lt 7, 3) := by decide +kernel
theorem dX3_ledger_21 : decode cX3_ledger 21 = .ok (.aconst_null, 1) := by decide +kernel
theorem dX3_ledger_22 : decode cX3_ledger 22 = .ok (.goto 9, 3) := by decide +kernel
theorem dX3_ledger_25 : decode cX3_ledger 25 = .ok (.aload_n 0, 1) := by decide +kernel
theorem dX3_ledger_26 : decode cX3_ledger 26 = .ok (.getfield 19, 3) := by decide +kernel
theorem dX3_ledger_29 : decode cX3_ledger 29 = .ok (.iload_n 1, 1) := by decide +kernel
theorem dX3_ledger_30 : decode cX3_ledger 30 = .ok (.aaload, 1) := by decide +kernel
theorem dX3_ledger_31 : decode cX3_ledger 31 = .ok (.areturn, 1) := by decide +kernel
theorem dX3_beginNode_0 : decode cX3_beginNode 0 = .ok (.aload_n 0, 1) := by decide +kernel
theorem dX3_beginNode_1 : decode cX3_beginNode 1 = .ok (.getfield 27, 3) := by decide +kernel
theorem dX3_beginNode_4 : decode cX3_beginNode 4 = .ok (.istore_n 1, 1) := by decide +kernel
theorem dX3_beginNode_5 : decode cX3_beginNode 5 = .ok (.aload_n 0, 1) := by decide +kernel
theorem dX3_beginNode_6 : decode cX3_beginNode 6 = .ok (.dup, 1) := by decide +kernel
theorem dX3_beginNode_7 : decode cX3_beginNode 7 = .ok (.getfield 27, 3) := by decide +kernel
theorem dX3_beginNode_10 : decode cX3_beginNode 10 = .ok (.iconst 1, 1) := by decide +kernel
theorem dX3_beginNode_11 : decode cX3_beginNode 11 = .ok (.iadd, 1) := by decide +kernel
theorem dX3_beginNode_12 : decode cX3_beginNode 12 = .ok (.putfield 27, 3) := by decide +kernel
theorem dX3_beginNode_15 : decode cX3_beginNode 15 = .ok (.aload_n 0, 1) := by decide +kernel
theorem dX3_beginNode_16 : decode cX3_beginNode 16 = .ok (.iload_n 1, 1) := by decide +kernel
theorem dX3_beginNode_17 : decode cX3_beginNode 17 = .ok (.invokevirtual 37, 3) := by decide +kernel
theorem dX3_beginNode_20 : decode cX3_beginNode 20 = .ok (.astore_n 2, 1) := by decide +kernel
theorem dX3_beginNode_21 : decode cX3_beginNode 21 = .ok (.aload_n 2, 1) := by decide +kernel
theorem dX3_beginNode_22 : decode cX3_beginNode 22 = .ok (.ifnull 7, 3) := by decide +kernel
theorem dX3_beginNode_25 : decode cX3_beginNode 25 = .ok (.aload_n 2, 1) := by decide +kernel
theorem dX3_beginNode_26 : decode cX3_beginNode 26 = .ok (.invokevirtual 52, 3) := by decide +kernel
theorem dX3_beginNode_29 : decode cX3_beginNode 29 = .ok (.iload_n 1, 1) := by decide +kernel
theorem dX3_beginNode_30 : decode cX3_beginNode 30 = .ok (.ireturn, 1) := by decide +kernel
theorem dX3_beginLedger_0 : decode cX3_beginLedger 0 = .ok (.aload_n 0, 1) := by decide +kernel
theorem dX3_beginLedger_1 : decode cX3_beginLedger 1 = .ok (.getfield 31, 3) := by decide +kernel
theorem dX3_beginLedger_4 : decode cX3_beginLedger 4 = .ok (.istore 4, 2) := by decide +kernel
theorem dX3_beginLedger_6 : decode cX3_beginLedger 6 = .ok (.aload_n 0, 1) := by decide +kernel
theorem dX3_beginLedger_7 : decode cX3_beginLedger 7 = .ok (.dup, 1) := by decide +kernel
theorem dX3_beginLedger_8 : decode cX3_beginLedger 8 = .ok (.getfield 31, 3) := by decide +kernel
theorem dX3_beginLedger_11 : decode cX3_beginLedger 11 = .ok (.iconst 1, 1) := by decide +kernel
theorem dX3_beginLedger_12 : decode cX3_beginLedger 12 = .ok (.iadd, 1) := by decide +kernel
theorem dX3_beginLedger_13 : decode cX3_beginLedger 13 = .ok (.putfield 31, 3) := by decide +kernel
theorem dX3_beginLedger_16 : decode cX3_beginLedger 16 = .ok (.aload_n 0, 1) := by decide +kernel
theorem dX3_beginLedger_17 : decode cX3_beginLedger 17 = .ok (.iload 4, 2) := by decide +kernel
theorem dX3_beginLedger_19 : decode cX3_beginLedger 19 = .ok (.invokevirtual 45, 3) := by decide +kernel
theorem dX3_beginLedger_22 : decode cX3_beginLedger 22 = .ok (.astore 5, 2) := by decide +kernel
theorem dX3_beginLedger_24 : decode cX3_beginLedger 24 = .ok (.aload 5, 2) := by decide +kernel
theorem dX3_beginLedger_26 : decode cX3_beginLedger 26 = .ok (.ifnull 44, 3) := by decide +kernel
theorem dX3_beginLedger_29 : decode cX3_beginLedger 29 = .ok (.aload 5, 2) := by decide +kernel
theorem dX3_beginLedger_31 : decode cX3_beginLedger 31 = .ok (.iload_n 1, 1) := by decide +kernel
theorem dX3_beginLedger_32 : decode cX3_beginLedger 32 = .ok (.iload_n 2, 1) := by decide +kernel
theorem dX3_beginLedger_33 : decode cX3_beginLedger 33 = .ok (.iload_n 3, 1) := by decide +kernel
theorem dX3_beginLedger_34 : decode cX3_beginLedger 34 = .ok (.invokevirtual 55, 3) := by decide +kernel
theorem dX3_beginLedger_37 : decode cX3_beginLedger 37 = .ok (.iconst 0, 1) := by decide +kernel
theorem dX3_beginLedger_38 : decode cX3_beginLedger 38 = .ok (.istore 6, 2) := by decide +kernel
theorem dX3_beginLedger_40 : decode cX3_beginLedger 40 = .ok (.iload 6, 2) := by decide +kernel
theorem dX3_beginLedger_42 : decode cX3_beginLedger 42 = .ok (.iload_n 1, 1) := by decide +kernel
theorem dX3_beginLedger_43 : decode cX3_beginLedger 43 = .ok (.if_icmp .ge 27, 3) := by decide +kernel
theorem dX3_beginLedger_46 : decode cX3_beginLedger 46 = .ok (.aload 5, 2) := by decide +kernel
theorem dX3_beginLedger_48 : decode cX3_beginLedger 48 = .ok (.iconst 0, 1) := by decide +kernel
theorem dX3_beginLedger_49 : decode cX3_beginLedger 49 = .ok (.iload 6, 2) := by decide +kernel
theorem dX3_beginLedger_51 : decode cX3_beginLedger 51 = .ok (.aload_n 0, 1) := by decide +kernel
theorem dX3_beginLedger_52 : decode cX3_beginLedger 52 = .ok (.aload 5, 2) := by decide +kernel
theorem dX3_beginLedger_54 : decode cX3_beginLedger 54 = .ok (.iconst 0, 1) := by decide +kernel
theorem dX3_beginLedger_55 : decode cX3_beginLedger 55 = .ok (.invokevirtual 58, 3) := by decide +kernel
theorem dX3_beginLedger_58 : decode cX3_beginLedger 58 = .ok (.invokevirtual 62, 3) := by decide +kernel
theorem dX3_beginLedger_61 : decode cX3_beginLedger 61 = .ok (.invokevirtual 65, 3) := by decide +kernel
theorem dX3_beginLedger_64 : decode cX3_beginLedger 64 = .ok (.iinc 6 1, 3) := by decide +kernel
theorem dX3_beginLedger_67 : decode cX3_beginLedger 67 = .ok (.goto (-27), 3) := by decide +kernel
theorem dX3_beginLedger_70 : decode cX3_beginLedger 70 = .ok (.iload 4, 2) := by decide +kernel
theorem dX3_beginLedger_72 : decode cX3_beginLedger 72 = .ok (.ireturn, 1) := by decide +kernel
theorem dX3_isUp_0 : decode cX3_isUp 0 = .ok (.aload_n 0, 1) := by decide +kernel
theorem dX3_isUp_1 : decode cX3_isUp 1 = .ok (.iload_n 1, 1) := by decide +kernel
theorem dX3_isUp_2 : decode cX3_isUp 2 = .ok (.invokevirtual 37, 3) := by decide +kernel
theorem dX3_isUp_5 : decode cX3_isUp 5 = .ok (.astore_n 2, 1) := by decide +kernel
theorem dX3_isUp_6 : decode cX3_isUp 6 = .ok (.aload_n 2, 1) := by decide +kernel
theorem dX3_isUp_7 : decode cX3_isUp 7 = .ok (.ifnull 14, 3) := by decide +kernel
theorem dX3_isUp_10 : decode cX3_isUp 10 = .ok (.aload_n 2, 1) := by decide +kernel
theorem dX3_isUp_11 : decode cX3_isUp 11 = .ok (.getfield 68, 3) := by decide +kernel
theorem dX3_isUp_14 : decode cX3_isUp 14 = .ok (.ifCond .eq 7, 3) := by decide +kernel
theorem dX3_isUp_17 : decode cX3_isUp 17 = .ok (.iconst 1, 1) := by decide +kernel
theorem dX3_isUp_18 : decode cX3_isUp 18 = .ok (.goto 4, 3) := by decide +kernel
theorem dX3_isUp_21 : decode cX3_isUp 21 = .ok (.iconst 0, 1) := by decide +kernel
theorem dX3_isUp_22 : decode cX3_isUp 22 = .ok (.ireturn, 1) := by decide +kernel
theorem dX3_upMask_0 : decode cX3_upMask 0 = .ok (.iconst 0, 1) := by decide +kernel
theorem dX3_upMask_1 : decode cX3_upMask 1 = .ok (.istore_n 1, 1) := by decide +kernel
theorem dX3_upMask_2 : decode cX3_upMask 2 = .ok (.iconst 0, 1) := by decide +kernel
theorem dX3_upMask_3 : decode cX3_upMask 3 = .ok (.istore_n 2, 1) := by decide +kernel
theorem dX3_upMask_4 : decode cX3_upMask 4 = .ok (.iload_n 2, 1) := by decide +kernel
theorem dX3_upMask_5 : decode cX3_upMask 5 = .ok (.aload_n 0, 1) := by decide +kernel
theorem dX3_upMask_6 : decode cX3_upMask 6 = .ok (.getfield 27, 3) := by decide +kernel
theorem dX3_upMask_9 : decode cX3_upMask 9 = .ok (.if_icmp .ge 27, 3) := by decide +kernel
theorem dX3_upMask_12 : decode cX3_upMask 12 = .ok (.iload_n 1, 1) := by decide +kernel
theorem dX3_upMask_13 : decode cX3_upMask 13 = .ok (.aload_n 0, 1) := by decide +kernel
theorem dX3_upMask_14 : decode cX3_upMask 14 = .ok (.iload_n 2, 1) := by decide +kernel
theorem dX3_upMask_15 : decode cX3_upMask 15 = .ok (.invokevirtual 72, 3) := by decide +kernel
theorem dX3_upMask_18 : decode cX3_upMask 18 = .ok (.ifCond .eq 9, 3) := by decide +kernel
theorem dX3_upMask_21 : decode cX3_upMask 21 = .ok (.iconst 1, 1) := by decide +kernel
theorem dX3_upMask_22 : decode cX3_upMask 22 = .ok (.iload_n 2, 1) := by decide +kernel
theorem dX3_upMask_23 : decode cX3_upMask 23 = .ok (.ishl, 1) := by decide +kernel
theorem dX3_upMask_24 : decode cX3_upMask 24 = .ok (.goto 4, 3) := by decide +kernel
theorem dX3_upMask_27 : decode cX3_upMask 27 = .ok (.iconst 0, 1) := by decide +kernel
theorem dX3_upMask_28 : decode cX3_upMask 28 = .ok (.ior, 1) := by decide +kernel
theorem dX3_upMask_29 : decode cX3_upMask 29 = .ok (.istore_n 1, 1) := by decide +kernel
theorem dX3_upMask_30 : decode cX3_upMask 30 = .ok (.iinc 2 1, 3) := by decide +kernel
theorem dX3_upMask_33 : decode cX3_upMask 33 = .ok (.goto (-29), 3) := by decide +kernel
theorem dX3_upMask_36 : decode cX3_upMask 36 = .ok (.iload_n 1, 1) := by decide +kernel
theorem dX3_upMask_37 : decode cX3_upMask 37 = .ok (.ireturn, 1) := by decide +kernel
theorem dX3_totalWeight_0 : decode cX3_totalWeight 0 = .ok (.iconst 0, 1) := by decide +kernel
theorem dX3_totalWeight_1 : decode cX3_totalWeight 1 = .ok (.istore_n 1, 1) := by decide +kernel
theorem dX3_totalWeight_2 : decode cX3_totalWeight 2 = .ok (.iconst 0, 1) := by decide +kernel
theorem dX3_totalWeight_3 : decode cX3_totalWeight 3 = .ok (.istore_n 2, 1) := by decide +kernel
theorem dX3_totalWeight_4 : decode cX3_totalWeight 4 = .ok (.iload_n 2, 1) := by decide +kernel
theorem dX3_totalWeight_5 : decode cX3_totalWeight 5 = .ok (.aload_n 0, 1) := by decide +kernel
theorem dX3_totalWeight_6 : decode cX3_totalWeight 6 = .ok (.getfield 27, 3) := by decide +kernel
theorem dX3_totalWeight_9 : decode cX3_totalWeight 9 = .ok (.if_icmp .ge 30, 3) := by decide +kernel
theorem dX3_totalWeight_12 : decode cX3_totalWeight 12 = .ok (.aload_n 0, 1) := by decide +kernel
theorem dX3_totalWeight_13 : decode cX3_totalWeight 13 = .ok (.iload_n 2, 1) := by decide +kernel
theorem dX3_totalWeight_14 : decode cX3_totalWeight 14 = .ok (.invokevirtual 37, 3) := by decide +kernel
theorem dX3_totalWeight_17 : decode cX3_totalWeight 17 = .ok (.astore_n 3, 1) := by decide +kernel
theorem dX3_totalWeight_18 : decode cX3_totalWeight 18 = .ok (.iload_n 1, 1) := by decide +kernel
theorem dX3_totalWeight_19 : decode cX3_totalWeight 19 = .ok (.aload_n 3, 1) := by decide +kernel
theorem dX3_totalWeight_20 : decode cX3_totalWeight 20 = .ok (.ifnonnull 7, 3) := by decide +kernel
theorem dX3_totalWeight_23 : decode cX3_totalWeight 23 = .ok (.iconst 0, 1) := by decide +kernel
theorem dX3_totalWeight_24 : decode cX3_totalWeight 24 = .ok (.goto 7, 3) := by decide +kernel
theorem dX3_totalWeight_27 : decode cX3_totalWeight 27 = .ok (.aload_n 3, 1) := by decide +kernel
theorem dX3_totalWeight_28 : decode cX3_totalWeight 28 = .ok (.getfield 76, 3) := by decide +kernel
theorem dX3_totalWeight_31 : decode cX3_totalWeight 31 = .ok (.iadd, 1) := by decide +kernel
theorem dX3_totalWeight_32 : decode cX3_totalWeight 32 = .ok (.istore_n 1, 1) := by decide +kernel
theorem dX3_totalWeight_33 : decode cX3_totalWeight 33 = .ok (.iinc 2 1, 3) := by decide +kernel
theorem dX3_totalWeight_36 : decode cX3_totalWeight 36 = .ok (.goto (-32), 3) := by decide +kernel
theorem dX3_totalWeight_39 : decode cX3_totalWeight 39 = .ok (.iload_n 1, 1) := by decide +kernel
theorem dX3_totalWeight_40 : decode cX3_totalWeight 40 = .ok (.ireturn, 1) := by decide +kernel
theorem dX3_choose_0 : decode cX3_choose 0 = .ok (.iconst (-1), 1) := by decide +kernel
theorem dX3_choose_1 : decode cX3_choose 1 = .ok (.istore_n 2, 1) := by decide +kernel
theorem dX3_choose_2 : decode cX3_choose 2 = .ok (.iconst 0, 1) := by decide +kernel
theorem dX3_choose_3 : decode cX3_choose 3 = .ok (.istore_n 3, 1) := by decide +kernel
theorem dX3_choose_4 : decode cX3_choose 4 = .ok (.iconst 0, 1) := by decide +kernel
theorem dX3_choose_5 : decode cX3_choose 5 = .ok (.istore 4, 2) := by decide +kernel
theorem dX3_choose_7 : decode cX3_choose 7 = .ok (.iload 4, 2) := by decide +kernel
theorem dX3_choose_9 : decode cX3_choose 9 = .ok (.aload_n 0, 1) := by decide +kernel
theorem dX3_choose_10 : decode cX3_choose 10 = .ok (.getfield 27, 3) := by decide +kernel
theorem dX3_choose_13 : decode cX3_choose 13 = .ok (.if_icmp .ge 65, 3) := by decide +kernel
theorem dX3_choose_16 : decode cX3_choose 16 = .ok (.aload_n 0, 1) := by decide +kernel
theorem dX3_choose_17 : decode cX3_choose 17 = .ok (.iload 4, 2) := by decide +kernel
theorem dX3_choose_19 : decode cX3_choose 19 = .ok (.invokevirtual 37, 3) := by decide +kernel
theorem dX3_choose_22 : decode cX3_choose 22 = .ok (.astore 5, 2) := by decide +kernel
theorem dX3_choose_24 : decode cX3_choose 24 = .ok (.aload 5, 2) := by decide +kernel
theorem dX3_choose_26 : decode cX3_choose 26 = .ok (.ifnull 46, 3) := by decide +kernel
theorem dX3_choose_29 : decode cX3_choose 29 = .ok (.aload 5, 2) := by decide +kernel
theorem dX3_choose_31 : decode cX3_choose 31 = .ok (.getfield 68, 3) := by decide +kernel
theorem dX3_choose_34 : decode cX3_choose 34 = .ok (.ifCond .eq 38, 3) := by decide +kernel
theorem dX3_choose_37 : decode cX3_choose 37 = .ok (.iload_n 1, 1) := by decide +kernel
theorem dX3_choose_38 : decode cX3_choose 38 = .ok (.iload 4, 2) := by decide +kernel
theorem dX3_choose_40 : decode cX3_choose 40 = .ok (.invokestatic 79, 3) := by decide +kernel
theorem dX3_choose_43 : decode cX3_choose 43 = .ok (.ifCond .eq 6, 3) := by decide +kernel
theorem dX3_choose_46 : decode cX3_choose 46 = .ok (.goto 26, 3) := by decide +kernel
theorem dX3_choose_49 : decode cX3_choose 49 = .ok (.iload_n 2, 1) := by decide +kernel
theorem dX3_choose_50 : decode cX3_choose 50 = .ok (.iconst (-1), 1) := by decide +kernel
theorem dX3_choose_51 : decode cX3_choose 51 = .ok (.if_icmp .eq 12, 3) := by decide +kernel
theorem dX3_choose_54 : decode cX3_choose 54 = .ok (.aload 5, 2) := by decide +kernel
theorem dX3_choose_56 : decode cX3_choose 56 = .ok (.getfield 76, 3) := by decide +kernel
theorem dX3_choose_59 : decode cX3_choose 59 = .ok (.iload_n 3, 1) := by decide +kernel
theorem dX3_choose_60 : decode cX3_choose 60 = .ok (.if_icmp .ge 12, 3) := by decide +kernel
theorem dX3_choose_63 : decode cX3_choose 63 = .ok (.iload 4, 2) := by decide +kernel
theorem dX3_choose_65 : decode cX3_choose 65 = .ok (.istore_n 2, 1) := by decide +kernel
theorem dX3_choose_66 : decode cX3_choose 66 = .ok (.aload 5, 2) := by decide +kernel
theorem dX3_choose_68 : decode cX3_choose 68 = .ok (.getfield 76, 3) := by decide +kernel
theorem dX3_choose_71 : decode cX3_choose 71 = .ok (.istore_n 3, 1) := by decide +kernel
theorem dX3_choose_72 : decode cX3_choose 72 = .ok (.iinc 4 1, 3) := by decide +kernel
theorem dX3_choose_75 : decode cX3_choose 75 = .ok (.goto (-68), 3) := by decide +kernel
theorem dX3_choose_78 : decode cX3_choose 78 = .ok (.iload_n 2, 1) := by decide +kernel
theorem dX3_choose_79 : decode cX3_choose 79 = .ok (.ireturn, 1) := by decide +kernel
theorem dX3_send_0 : decode cX3_send 0 = .ok (.aload_n 0, 1) := by decide +kernel
theorem dX3_send_1 : decode cX3_send 1 = .ok (.iload_n 1, 1) := by decide +kernel
theorem dX3_send_2 : decode cX3_send 2 = .ok (.invokevirtual 37, 3) := by decide +kernel
theorem dX3_send_5 : decode cX3_send 5 = .ok (.astore_n 3, 1) := by decide +kernel
theorem dX3_send_6 : decode cX3_send 6 = .ok (.aload_n 3, 1) := by decide +kernel
theorem dX3_send_7 : decode cX3_send 7 = .ok (.ifnull 8, 3) := by decide +kernel
theorem dX3_send_10 : decode cX3_send 10 = .ok (.aload_n 3, 1) := by decide +kernel
theorem dX3_send_11 : decode cX3_send 11 = .ok (.iload_n 2, 1) := by decide +kernel
theorem dX3_send_12 : decode cX3_send 12 = .ok (.invokevirtual 83, 3) := by decide +kernel
theorem dX3_send_15 : decode cX3_send 15 = .ok (.return_, 1) := by decide +kernel
theorem dX3_processOldest_0 : decode cX3_processOldest 0 = .ok (.aload_n 0, 1) := by decide +kernel
theorem dX3_processOldest_1 : decode cX3_processOldest 1 = .ok (.iload_n 1, 1) := by decide +kernel
theorem dX3_processOldest_2 : decode cX3_processOldest 2 = .ok (.invokevirtual 37, 3) := by decide +kernel
theorem dX3_processOldest_5 : decode cX3_processOldest 5 = .ok (.astore_n 2, 1) := by decide +kernel
theorem dX3_processOldest_6 : decode cX3_processOldest 6 = .ok (.aload_n 2, 1) := by decide +kernel
theorem dX3_processOldest_7 : decode cX3_processOldest 7 = .ok (.ifnonnull 5, 3) := by decide +kernel
theorem dX3_processOldest_10 : decode cX3_processOldest 10 = .ok (.iconst (-1), 1) := by decide +kernel
theorem dX3_processOldest_11 : decode cX3_processOldest 11 = .ok (.ireturn, 1) := by decide +kernel
theorem dX3_processOldest_12 : decode cX3_processOldest 12 = .ok (.aload_n 2, 1) := by decide +kernel
theorem dX3_processOldest_13 : decode cX3_processOldest 13 = .ok (.invokevirtual 86, 3) := by decide +kernel
theorem dX3_processOldest_16 : decode cX3_processOldest 16 = .ok (.istore_n 3, 1) := by decide +kernel
theorem dX3_processOldest_17 : decode cX3_processOldest 17 = .ok (.iload_n 3, 1) := by decide +kernel
theorem dX3_processOldest_18 : decode cX3_processOldest 18 = .ok (.iconst (-1), 1) := by decide +kernel
theorem dX3_processOldest_19 : decode cX3_processOldest 19 = .ok (.if_icmp .ne 5, 3) := by decide +kernel
theorem dX3_processOldest_22 : decode cX3_processOldest 22 = .ok (.iconst (-1), 1) := by decide +kernel
theorem dX3_processOldest_23 : decode cX3_processOldest 23 = .ok (.ireturn, 1) := by decide +kernel
theorem dX3_processOldest_24 : decode cX3_processOldest 24 = .ok (.iload_n 3, 1) := by decide +kernel
theorem dX3_processOldest_25 : decode cX3_processOldest 25 = .ok (.invokestatic 90, 3) := by decide +kernel
theorem dX3_processOldest_28 : decode cX3_processOldest 28 = .ok (.istore 4, 2) := by decide +kernel
theorem dX3_processOldest_30 : decode cX3_processOldest 30 = .ok (.aload_n 2, 1) := by decide +kernel
theorem dX3_processOldest_31 : decode cX3_processOldest 31 = .ok (.iload 4, 2) := by decide +kernel
theorem dX3_processOldest_33 : decode cX3_processOldest 33 = .ok (.invokevirtual 95, 3) := by decide +kernel
theorem dX3_processOldest_36 : decode cX3_processOldest 36 = .ok (.ifCond .eq 15, 3) := by decide +kernel
theorem dX3_processOldest_39 : decode cX3_processOldest 39 = .ok (.aload_n 0, 1) := by decide +kernel
theorem dX3_processOldest_40 : decode cX3_processOldest 40 = .ok (.dup, 1) := by decide +kernel
theorem dX3_processOldest_41 : decode cX3_processOldest 41 = .ok (.getfield 34, 3) := by decide +kernel
theorem dX3_processOldest_44 : decode cX3_processOldest 44 = .ok (.iconst 1, 1) := by decide +kernel
theorem dX3_processOldest_45 : decode cX3_processOldest 45 = .ok (.iadd, 1) := by decide +kernel
theorem dX3_processOldest_46 : decode cX3_processOldest 46 = .ok (.putfield 34, 3) := by decide +kernel
theorem dX3_processOldest_49 : decode cX3_processOldest 49 = .ok (.iconst 0, 1) := by decide +kernel
theorem dX3_processOldest_50 : decode cX3_processOldest 50 = .ok (.ireturn, 1) := by decide +kernel
theorem dX3_processOldest_51 : decode cX3_processOldest 51 = .ok (.aload_n 2, 1) := by decide +kernel
theorem dX3_processOldest_52 : decode cX3_processOldest 52 = .ok (.iload_n 3, 1) := by decide +kernel
theorem dX3_processOldest_53 : decode cX3_processOldest 53 = .ok (.invokevirtual 98, 3) := by decide +kernel
theorem dX3_processOldest_56 : decode cX3_processOldest 56 = .ok (.aload_n 0, 1) := by decide +kernel
theorem dX3_processOldest_57 : decode cX3_processOldest 57 = .ok (.iload 4, 2) := by decide +kernel
theorem dX3_processOldest_59 : decode cX3_processOldest 59 = .ok (.invokevirtual 45, 3) := by decide +kernel
theorem dX3_processOldest_62 : decode cX3_processOldest 62 = .ok (.astore 5, 2) := by decide +kernel
theorem dX3_processOldest_64 : decode cX3_processOldest 64 = .ok (.aload 5, 2) := by decide +kernel
theorem dX3_processOldest_66 : decode cX3_processOldest 66 = .ok (.ifnull 13, 3) := by decide +kernel
theorem dX3_processOldest_69 : decode cX3_processOldest 69 = .ok (.aload 5, 2) := by decide +kernel
theorem dX3_processOldest_71 : decode cX3_processOldest 71 = .ok (.iload_n 3, 1) := by decide +kernel
theorem dX3_processOldest_72 : decode cX3_processOldest 72 = .ok (.invokestatic 101, 3) := by decide +kernel
theorem dX3_processOldest_75 : decode cX3_processOldest 75 = .ok (.iload_n 1, 1) := by decide +kernel
theorem dX3_processOldest_76 : decode cX3_processOldest 76 = .ok (.invokevirtual 104, 3) := by decide +kernel
theorem dX3_processOldest_79 : decode cX3_processOldest 79 = .ok (.iconst 1, 1) := by decide +kernel
theorem dX3_processOldest_80 : decode cX3_processOldest 80 = .ok (.ireturn, 1) := by decide +kernel
theorem dX3_anyRequestWaits_0 : decode cX3_anyRequestWaits 0 = .ok (.iconst 0, 1) := by decide +kernel
theorem dX3_anyRequestWaits_1 : decode cX3_anyRequestWaits 1 = .ok (.istore_n 1, 1) := by decide +kernel
theorem dX3_anyRequestWaits_2 : decode cX3_anyRequestWaits 2 = .ok (.iload_n 1, 1) := by decide +kernel
theorem dX3_anyRequestWaits_3 : decode cX3_anyRequestWaits 3 = .ok (.aload_n 0, 1) := by decide +kernel
theorem dX3_anyRequestWaits_4 : decode cX3_anyRequestWaits 4 = .ok (.getfield 27, 3) := by decide +kernel
theorem dX3_anyRequestWaits_7 : decode cX3_anyRequestWaits 7 = .ok (.if_icmp .ge 28, 3) := by decide +kernel
theorem dX3_anyRequestWaits_10 : decode cX3_anyRequestWaits 10 = .ok (.aload_n 0, 1) := by decide +kernel
theorem dX3_anyRequestWaits_11 : decode cX3_anyRequestWaits 11 = .ok (.iload_n 1, 1) := by decide +kernel
theorem dX3_anyRequestWaits_12 : decode cX3_anyRequestWaits 12 = .ok (.invokevirtual 37, 3) := by decide +kernel
theorem dX3_anyRequestWaits_15 : decode cX3_anyRequestWaits 15 = .ok (.astore_n 2, 1) := by decide +kernel
theorem dX3_anyRequestWaits_16 : decode cX3_anyRequestWaits 16 = .ok (.aload_n 2, 1) := by decide +kernel
theorem dX3_anyRequestWaits_17 : decode cX3_anyRequestWaits 17 = .ok (.ifnull 12, 3) := by decide +kernel
theorem dX3_anyRequestWaits_20 : decode cX3_anyRequestWaits 20 = .ok (.aload_n 2, 1) := by decide +kernel
theorem dX3_anyRequestWaits_21 : decode cX3_anyRequestWaits 21 = .ok (.getfield 108, 3) := by decide +kernel
theorem dX3_anyRequestWaits_24 : decode cX3_anyRequestWaits 24 = .ok (.ifCond .le 5, 3) := by decide +kernel
theorem dX3_anyRequestWaits_27 : decode cX3_anyRequestWaits 27 = .ok (.iconst 1, 1) := by decide +kernel
theorem dX3_anyRequestWaits_28 : decode cX3_anyRequestWaits 28 = .ok (.ireturn, 1) := by decide +kernel
theorem dX3_anyRequestWaits_29 : decode cX3_anyRequestWaits 29 = .ok (.iinc 1 1, 3) := by decide +kernel
theorem dX3_anyRequestWaits_32 : decode cX3_anyRequestWaits 32 = .ok (.goto (-30), 3) := by decide +kernel
theorem dX3_anyRequestWaits_35 : decode cX3_anyRequestWaits 35 = .ok (.iconst 0, 1) := by decide +kernel
theorem dX3_anyRequestWaits_36 : decode cX3_anyRequestWaits 36 = .ok (.ireturn, 1) := by decide +kernel
theorem dX3_write_0 : decode cX3_write 0 = .ok (.aload_n 1, 1) := by decide +kernel
theorem dX3_write_1 : decode cX3_write 1 = .ok (.invokevirtual 111, 3) := by decide +kernel
theorem dX3_write_4 : decode cX3_write 4 = .ok (.istore_n 3, 1) := by decide +kernel
theorem dX3_write_5 : decode cX3_write 5 = .ok (.aload_n 1, 1) := by decide +kernel
theorem dX3_write_6 : decode cX3_write 6 = .ok (.iload_n 2, 1) := by decide +kernel
theorem dX3_write_7 : decode cX3_write 7 = .ok (.invokevirtual 114, 3) := by decide +kernel
theorem dX3_write_10 : decode cX3_write 10 = .ok (.istore 4, 2) := by decide +kernel
theorem dX3_write_12 : decode cX3_write 12 = .ok (.aload_n 1, 1) := by decide +kernel
theorem dX3_write_13 : decode cX3_write 13 = .ok (.getfield 117, 3) := by decide +kernel
theorem dX3_write_16 : decode cX3_write 16 = .ok (.iload 4, 2) := by decide +kernel
theorem dX3_write_18 : decode cX3_write 18 = .ok (.iload_n 2, 1) := by decide +kernel
theorem dX3_write_19 : decode cX3_write 19 = .ok (.iload_n 3, 1) := by decide +kernel
theorem dX3_write_20 : decode cX3_write 20 = .ok (.invokestatic 120, 3) := by decide +kernel
theorem dX3_write_23 : decode cX3_write 23 = .ok (.istore 5, 2) := by decide +kernel
theorem dX3_write_25 : decode cX3_write 25 = .ok (.aload_n 1, 1) := by decide +kernel
theorem dX3_write_26 : decode cX3_write 26 = .ok (.iload 4, 2) := by decide +kernel
theorem dX3_write_28 : decode cX3_write 28 = .ok (.invokevirtual 124, 3) := by decide +kernel
theorem dX3_write_31 : decode cX3_write 31 = .ok (.istore 6, 2) := by decide +kernel
theorem dX3_write_33 : decode cX3_write 33 = .ok (.iconst 0, 1) := by decide +kernel
theorem dX3_write_34 : decode cX3_write 34 = .ok (.istore 7, 2) := by decide +kernel
theorem dX3_write_36 : decode cX3_write 36 = .ok (.iload 7, 2) := by decide +kernel
theorem dX3_write_38 : decode cX3_write 38 = .ok (.aload_n 1, 1) := by decide +kernel
theorem dX3_write_39 : decode cX3_write 39 = .ok (.getfield 127, 3) := by decide +kernel
theorem dX3_write_42 : decode cX3_write 42 = .ok (.if_icmp .ge 25, 3) := by decide +kernel
theorem dX3_write_45 : decode cX3_write 45 = .ok (.aload_n 0, 1) := by decide +kernel
theorem dX3_write_46 : decode cX3_write 46 = .ok (.aload_n 1, 1) := by decide +kernel
theorem dX3_write_47 : decode cX3_write 47 = .ok (.iload 6, 2) := by decide +kernel
theorem dX3_write_49 : decode cX3_write 49 = .ok (.iload 4, 2) := by decide +kernel
theorem dX3_write_51 : decode cX3_write 51 = .ok (.iload 7, 2) := by decide +kernel
theorem dX3_write_53 : decode cX3_write 53 = .ok (.invokevirtual 130, 3) := by decide +kernel
theorem dX3_write_56 : decode cX3_write 56 = .ok (.iload 5, 2) := by decide +kernel
theorem dX3_write_58 : decode cX3_write 58 = .ok (.invokevirtual 134, 3) := by decide +kernel
theorem dX3_write_61 : decode cX3_write 61 = .ok (.iinc 7 1, 3) := by decide +kernel
theorem dX3_write_64 : decode cX3_write 64 = .ok (.goto (-28), 3) := by decide +kernel
theorem dX3_write_67 : decode cX3_write 67 = .ok (.iload 4, 2) := by decide +kernel
theorem dX3_write_69 : decode cX3_write 69 = .ok (.ireturn, 1) := by decide +kernel
theorem dX3_changeEnsemble_0 : decode cX3_changeEnsemble 0 = .ok (.aload_n 1, 1) := by decide +kernel
theorem dX3_changeEnsemble_1 : decode cX3_changeEnsemble 1 = .ok (.invokevirtual 111, 3) := by decide +kernel
theorem dX3_changeEnsemble_4 : decode cX3_changeEnsemble 4 = .ok (.istore 4, 2) := by decide +kernel
theorem dX3_changeEnsemble_6 : decode cX3_changeEnsemble 6 = .ok (.iload 4, 2) := by decide +kernel
theorem dX3_changeEnsemble_8 : decode cX3_changeEnsemble 8 = .ok (.iconst 1, 1) := by decide +kernel
theorem dX3_changeEnsemble_9 : decode cX3_changeEnsemble 9 = .ok (.iadd, 1) := by decide +kernel
theorem dX3_changeEnsemble_10 : decode cX3_changeEnsemble 10 = .ok (.istore 5, 2) := by decide +kernel
theorem dX3_changeEnsemble_12 : decode cX3_changeEnsemble 12 = .ok (.aload_n 1, 1) := by decide +kernel
theorem dX3_changeEnsemble_13 : decode cX3_changeEnsemble 13 = .ok (.aload_n 1, 1) := by decide +kernel
theorem dX3_changeEnsemble_14 : decode cX3_changeEnsemble 14 = .ok (.invokevirtual 137, 3) := by decide +kernel
theorem dX3_changeEnsemble_17 : decode cX3_changeEnsemble 17 = .ok (.iload_n 2, 1) := by decide +kernel
theorem dX3_changeEnsemble_18 : decode cX3_changeEnsemble 18 = .ok (.invokevirtual 140, 3) := by decide +kernel
theorem dX3_changeEnsemble_21 : decode cX3_changeEnsemble 21 = .ok (.istore 6, 2) := by decide +kernel
theorem dX3_changeEnsemble_23 : decode cX3_changeEnsemble 23 = .ok (.aload_n 1, 1) := by decide +kernel
theorem dX3_changeEnsemble_24 : decode cX3_changeEnsemble 24 = .ok (.aload_n 1, 1) := by decide +kernel
theorem dX3_changeEnsemble_25 : decode cX3_changeEnsemble 25 = .ok (.invokevirtual 137, 3) := by decide +kernel
theorem dX3_changeEnsemble_28 : decode cX3_changeEnsemble 28 = .ok (.invokevirtual 144, 3) := by decide +kernel
theorem dX3_changeEnsemble_31 : decode cX3_changeEnsemble 31 = .ok (.iload 5, 2) := by decide +kernel
theorem dX3_changeEnsemble_33 : decode cX3_changeEnsemble 33 = .ok (.if_icmp .eq 9, 3) := by decide +kernel
theorem dX3_changeEnsemble_36 : decode cX3_changeEnsemble 36 = .ok (.aload_n 1, 1) := by decide +kernel
theorem dX3_changeEnsemble_37 : decode cX3_changeEnsemble 37 = .ok (.iload 5, 2) := by decide +kernel
theorem dX3_changeEnsemble_39 : decode cX3_changeEnsemble 39 = .ok (.invokevirtual 147, 3) := by decide +kernel
theorem dX3_changeEnsemble_42 : decode cX3_changeEnsemble 42 = .ok (.aload_n 1, 1) := by decide +kernel
theorem dX3_changeEnsemble_43 : decode cX3_changeEnsemble 43 = .ok (.aload_n 1, 1) := by decide +kernel
theorem dX3_changeEnsemble_44 : decode cX3_changeEnsemble 44 = .ok (.invokevirtual 137, 3) := by decide +kernel
theorem dX3_changeEnsemble_47 : decode cX3_changeEnsemble 47 = .ok (.iload_n 2, 1) := by decide +kernel
theorem dX3_changeEnsemble_48 : decode cX3_changeEnsemble 48 = .ok (.iload_n 3, 1) := by decide +kernel
theorem dX3_changeEnsemble_49 : decode cX3_changeEnsemble 49 = .ok (.invokevirtual 65, 3) := by decide +kernel
theorem dX3_changeEnsemble_52 : decode cX3_changeEnsemble 52 = .ok (.aload_n 1, 1) := by decide +kernel
theorem dX3_changeEnsemble_53 : decode cX3_changeEnsemble 53 = .ok (.iload 5, 2) := by decide +kernel
theorem dX3_changeEnsemble_55 : decode cX3_changeEnsemble 55 = .ok (.iload 6, 2) := by decide +kernel
theorem dX3_changeEnsemble_57 : decode cX3_changeEnsemble 57 = .ok (.invokevirtual 150, 3) := by decide +kernel
theorem dX3_changeEnsemble_60 : decode cX3_changeEnsemble 60 = .ok (.iload 5, 2) := by decide +kernel
theorem dX3_changeEnsemble_62 : decode cX3_changeEnsemble 62 = .ok (.istore 7, 2) := by decide +kernel
theorem dX3_changeEnsemble_64 : decode cX3_changeEnsemble 64 = .ok (.iload 7, 2) := by decide +kernel
theorem dX3_changeEnsemble_66 : decode cX3_changeEnsemble 66 = .ok (.aload_n 1, 1) := by decide +kernel
theorem dX3_changeEnsemble_67 : decode cX3_changeEnsemble 67 = .ok (.getfield 153, 3) := by decide +kernel
theorem dX3_changeEnsemble_70 : decode cX3_changeEnsemble 70 = .ok (.if_icmp .ge 48, 3) := by decide +kernel
theorem dX3_changeEnsemble_73 : decode cX3_changeEnsemble 73 = .ok (.aload_n 1, 1) := by decide +kernel
theorem dX3_changeEnsemble_74 : decode cX3_changeEnsemble 74 = .ok (.aload_n 1, 1) := by decide +kernel
theorem dX3_changeEnsemble_75 : decode cX3_changeEnsemble 75 = .ok (.invokevirtual 137, 3) := by decide +kernel
theorem dX3_changeEnsemble_78 : decode cX3_changeEnsemble 78 = .ok (.iload 7, 2) := by decide +kernel
theorem dX3_changeEnsemble_80 : decode cX3_changeEnsemble 80 = .ok (.invokevirtual 156, 3) := by decide +kernel
theorem dX3_changeEnsemble_83 : decode cX3_changeEnsemble 83 = .ok (.iload_n 3, 1) := by decide +kernel
theorem dX3_changeEnsemble_84 : decode cX3_changeEnsemble 84 = .ok (.invokestatic 79, 3) := by decide +kernel
theorem dX3_changeEnsemble_87 : decode cX3_changeEnsemble 87 = .ok (.ifCond .eq 25, 3) := by decide +kernel
theorem dX3_changeEnsemble_90 : decode cX3_changeEnsemble 90 = .ok (.aload_n 0, 1) := by decide +kernel
theorem dX3_changeEnsemble_91 : decode cX3_changeEnsemble 91 = .ok (.iload_n 3, 1) := by decide +kernel
theorem dX3_changeEnsemble_92 : decode cX3_changeEnsemble 92 = .ok (.aload_n 1, 1) := by decide +kernel
theorem dX3_changeEnsemble_93 : decode cX3_changeEnsemble 93 = .ok (.getfield 117, 3) := by decide +kernel
theorem dX3_changeEnsemble_96 : decode cX3_changeEnsemble 96 = .ok (.iload 7, 2) := by decide +kernel
theorem dX3_changeEnsemble_98 : decode cX3_changeEnsemble 98 = .ok (.aload_n 1, 1) := by decide +kernel
theorem dX3_changeEnsemble_99 : decode cX3_changeEnsemble 99 = .ok (.iload 7, 2) := by decide +kernel
theorem dX3_changeEnsemble_101 : decode cX3_changeEnsemble 101 = .ok (.invokevirtual 159, 3) := by decide +kernel
theorem dX3_changeEnsemble_104 : decode cX3_changeEnsemble 104 = .ok (.iload 4, 2) := by decide +kernel
theorem dX3_changeEnsemble_106 : decode cX3_changeEnsemble 106 = .ok (.invokestatic 120, 3) := by decide +kernel
theorem dX3_changeEnsemble_109 : decode cX3_changeEnsemble 109 = .ok (.invokevirtual 134, 3) := by decide +kernel
theorem dX3_changeEnsemble_112 : decode cX3_changeEnsemble 112 = .ok (.iinc 7 1, 3) := by decide +kernel
theorem dX3_changeEnsemble_115 : decode cX3_changeEnsemble 115 = .ok (.goto (-51), 3) := by decide +kernel
theorem dX3_changeEnsemble_118 : decode cX3_changeEnsemble 118 = .ok (.return_, 1) := by decide +kernel
theorem dX3_recoverLedger_0 : decode cX3_recoverLedger 0 = .ok (.aload_n 1, 1) := by decide +kernel
theorem dX3_recoverLedger_1 : decode cX3_recoverLedger 1 = .ok (.iconst 1, 1) := by decide +kernel
theorem dX3_recoverLedger_2 : decode cX3_recoverLedger 2 = .ok (.putfield 162, 3) := by decide +kernel
theorem dX3_recoverLedger_5 : decode cX3_recoverLedger 5 = .ok (.aload_n 0, 1) := by decide +kernel
theorem dX3_recoverLedger_6 : decode cX3_recoverLedger 6 = .ok (.aload_n 1, 1) := by decide +kernel
theorem dX3_recoverLedger_7 : decode cX3_recoverLedger 7 = .ok (.invokevirtual 165, 3) := by decide +kernel
theorem dX3_recoverLedger_10 : decode cX3_recoverLedger 10 = .ok (.aload_n 0, 1) := by decide +kernel
theorem dX3_recoverLedger_11 : decode cX3_recoverLedger 11 = .ok (.aload_n 1, 1) := by decide +kernel
theorem dX3_recoverLedger_12 : decode cX3_recoverLedger 12 = .ok (.invokevirtual 168, 3) := by decide +kernel
theorem dX3_recoverLedger_15 : decode cX3_recoverLedger 15 = .ok (.ifCond .eq 6, 3) := by decide +kernel
theorem dX3_recoverLedger_18 : decode cX3_recoverLedger 18 = .ok (.bipush (-2), 2) := by decide +kernel
theorem dX3_recoverLedger_20 : decode cX3_recoverLedger 20 = .ok (.ireturn, 1) := by decide +kernel
theorem dX3_recoverLedger_21 : decode cX3_recoverLedger 21 = .ok (.aload_n 0, 1) := by decide +kernel
theorem dX3_recoverLedger_22 : decode cX3_recoverLedger 22 = .ok (.aload_n 1, 1) := by decide +kernel
theorem dX3_recoverLedger_23 : decode cX3_recoverLedger 23 = .ok (.invokevirtual 172, 3) := by decide +kernel
theorem dX3_recoverLedger_26 : decode cX3_recoverLedger 26 = .ok (.iconst 1, 1) := by decide +kernel
theorem dX3_recoverLedger_27 : decode cX3_recoverLedger 27 = .ok (.iadd, 1) := by decide +kernel
theorem dX3_recoverLedger_28 : decode cX3_recoverLedger 28 = .ok (.istore_n 2, 1) := by decide +kernel
theorem dX3_recoverLedger_29 : decode cX3_recoverLedger 29 = .ok (.iload_n 2, 1) := by decide +kernel
theorem dX3_recoverLedger_30 : decode cX3_recoverLedger 30 = .ok (.bipush 40, 2) := by decide +kernel
theorem dX3_recoverLedger_32 : decode cX3_recoverLedger 32 = .ok (.if_icmp .ge 18, 3) := by decide +kernel
theorem dX3_recoverLedger_35 : decode cX3_recoverLedger 35 = .ok (.aload_n 0, 1) := by decide +kernel
theorem dX3_recoverLedger_36 : decode cX3_recoverLedger 36 = .ok (.aload_n 1, 1) := by decide +kernel
theorem dX3_recoverLedger_37 : decode cX3_recoverLedger 37 = .ok (.iload_n 2, 1) := by decide +kernel
theorem dX3_recoverLedger_38 : decode cX3_recoverLedger 38 = .ok (.invokevirtual 176, 3) := by decide +kernel
theorem dX3_recoverLedger_41 : decode cX3_recoverLedger 41 = .ok (.ifCond .eq 9, 3) := by decide +kernel
theorem dX3_recoverLedger_44 : decode cX3_recoverLedger 44 = .ok (.iinc 2 1, 3) := by decide +kernel
theorem dX3_recoverLedger_47 : decode cX3_recoverLedger 47 = .ok (.goto (-18), 3) := by decide +kernel
theorem dX3_recoverLedger_50 : decode cX3_recoverLedger 50 = .ok (.aload_n 1, 1) := by decide +kernel
theorem dX3_recoverLedger_51 : decode cX3_recoverLedger 51 = .ok (.iconst 2, 1) := by decide +kernel
theorem dX3_recoverLedger_52 : decode cX3_recoverLedger 52 = .ok (.putfield 162, 3) := by decide +kernel
theorem dX3_recoverLedger_55 : decode cX3_recoverLedger 55 = .ok (.aload_n 1, 1) := by decide +kernel
theorem dX3_recoverLedger_56 : decode cX3_recoverLedger 56 = .ok (.iload_n 2, 1) := by decide +kernel
theorem dX3_recoverLedger_57 : decode cX3_recoverLedger 57 = .ok (.iconst 1, 1) := by decide +kernel
theorem dX3_recoverLedger_58 : decode cX3_recoverLedger 58 = .ok (.isub, 1) := by decide +kernel
theorem dX3_recoverLedger_59 : decode cX3_recoverLedger 59 = .ok (.putfield 180, 3) := by decide +kernel
theorem dX3_recoverLedger_62 : decode cX3_recoverLedger 62 = .ok (.aload_n 1, 1) := by decide +kernel
theorem dX3_recoverLedger_63 : decode cX3_recoverLedger 63 = .ok (.getfield 180, 3) := by decide +kernel
theorem dX3_recoverLedger_66 : decode cX3_recoverLedger 66 = .ok (.ireturn, 1) := by decide +kernel
theorem dX3_fenceLastEnsemble_0 : decode cX3_fenceLastEnsemble 0 = .ok (.iconst 0, 1) := by decide +kernel
theorem dX3_fenceLastEnsemble_1 : decode cX3_fenceLastEnsemble 1 = .ok (.istore_n 2, 1) := by decide +kernel
theorem dX3_fenceLastEnsemble_2 : decode cX3_fenceLastEnsemble 2 = .ok (.iload_n 2, 1) := by decide +kernel
theorem dX3_fenceLastEnsemble_3 : decode cX3_fenceLastEnsemble 3 = .ok (.aload_n 1, 1) := by decide +kernel
theorem dX3_fenceLastEnsemble_4 : decode cX3_fenceLastEnsemble 4 = .ok (.getfield 183, 3) := by decide +kernel
theorem dX3_fenceLastEnsemble_7 : decode cX3_fenceLastEnsemble 7 = .ok (.if_icmp .ge 42, 3) := by decide +kernel
theorem dX3_fenceLastEnsemble_10 : decode cX3_fenceLastEnsemble 10 = .ok (.aload_n 0, 1) := by decide +kernel
theorem dX3_fenceLastEnsemble_11 : decode cX3_fenceLastEnsemble 11 = .ok (.aload_n 1, 1) := by decide +kernel
theorem dX3_fenceLastEnsemble_12 : decode cX3_fenceLastEnsemble 12 = .ok (.aload_n 1, 1) := by decide +kernel
theorem dX3_fenceLastEnsemble_13 : decode cX3_fenceLastEnsemble 13 = .ok (.invokevirtual 137, 3) := by decide +kernel
theorem dX3_fenceLastEnsemble_16 : decode cX3_fenceLastEnsemble 16 = .ok (.iload_n 2, 1) := by decide +kernel
theorem dX3_fenceLastEnsemble_17 : decode cX3_fenceLastEnsemble 17 = .ok (.invokevirtual 140, 3) := by decide +kernel
theorem dX3_fenceLastEnsemble_20 : decode cX3_fenceLastEnsemble 20 = .ok (.invokevirtual 37, 3) := by decide +kernel
theorem dX3_fenceLastEnsemble_23 : decode cX3_fenceLastEnsemble 23 = .ok (.astore_n 3, 1) := by decide +kernel
theorem dX3_fenceLastEnsemble_24 : decode cX3_fenceLastEnsemble 24 = .ok (.aload_n 3, 1) := by decide +kernel
theorem dX3_fenceLastEnsemble_25 : decode cX3_fenceLastEnsemble 25 = .ok (.ifnull 18, 3) := by decide +kernel
theorem dX3_fenceLastEnsemble_28 : decode cX3_fenceLastEnsemble 28 = .ok (.aload_n 3, 1) := by decide +kernel
theorem dX3_fenceLastEnsemble_29 : decode cX3_fenceLastEnsemble 29 = .ok (.getfield 68, 3) := by decide +kernel
theorem dX3_fenceLastEnsemble_32 : decode cX3_fenceLastEnsemble 32 = .ok (.ifCond .eq 11, 3) := by decide +kernel
theorem dX3_fenceLastEnsemble_35 : decode cX3_fenceLastEnsemble 35 = .ok (.aload_n 3, 1) := by decide +kernel
theorem dX3_fenceLastEnsemble_36 : decode cX3_fenceLastEnsemble 36 = .ok (.aload_n 1, 1) := by decide +kernel
theorem dX3_fenceLastEnsemble_37 : decode cX3_fenceLastEnsemble 37 = .ok (.getfield 117, 3) := by decide +kernel
theorem dX3_fenceLastEnsemble_40 : decode cX3_fenceLastEnsemble 40 = .ok (.invokevirtual 186, 3) := by decide +kernel
theorem dX3_fenceLastEnsemble_43 : decode cX3_fenceLastEnsemble 43 = .ok (.iinc 2 1, 3) := by decide +kernel
theorem dX3_fenceLastEnsemble_46 : decode cX3_fenceLastEnsemble 46 = .ok (.goto (-44), 3) := by decide +kernel
theorem dX3_fenceLastEnsemble_49 : decode cX3_fenceLastEnsemble 49 = .ok (.return_, 1) := by decide +kernel
theorem dX3_someQuorumIsDown_0 : decode cX3_someQuorumIsDown 0 = .ok (.aload_n 0, 1) := by decide +kernel
theorem dX3_someQuorumIsDown_1 : decode cX3_someQuorumIsDown 1 = .ok (.invokevirtual 189, 3) := by decide +kernel
theorem dX3_someQuorumIsDown_4 : decode cX3_someQuorumIsDown 4 = .ok (.iconst (-1), 1) := by decide +kernel
theorem dX3_someQuorumIsDown_5 : decode cX3_someQuorumIsDown 5 = .ok (.ixor, 1) := by decide +kernel
theorem dX3_someQuorumIsDown_6 : decode cX3_someQuorumIsDown 6 = .ok (.istore_n 2, 1) := by decide +kernel
theorem dX3_someQuorumIsDown_7 : decode cX3_someQuorumIsDown 7 = .ok (.iconst 0, 1) := by decide +kernel
theorem dX3_someQuorumIsDown_8 : decode cX3_someQuorumIsDown 8 = .ok (.istore_n 3, 1) := by decide +kernel
theorem dX3_someQuorumIsDown_9 : decode cX3_someQuorumIsDown 9 = .ok (.iload_n 3, 1) := by decide +kernel
theorem dX3_someQuorumIsDown_10 : decode cX3_someQuorumIsDown 10 = .ok (.aload_n 1, 1) := by decide +kernel
theorem dX3_someQuorumIsDown_11 : decode cX3_someQuorumIsDown 11 = .ok (.getfield 183, 3) := by decide +kernel
theorem dX3_someQuorumIsDown_14 : decode cX3_someQuorumIsDown 14 = .ok (.if_icmp .ge 36, 3) := by decide +kernel
theorem dX3_someQuorumIsDown_17 : decode cX3_someQuorumIsDown 17 = .ok (.aload_n 1, 1) := by decide +kernel
theorem dX3_someQuorumIsDown_18 : decode cX3_someQuorumIsDown 18 = .ok (.aload_n 1, 1) := by decide +kernel
theorem dX3_someQuorumIsDown_19 : decode cX3_someQuorumIsDown 19 = .ok (.invokevirtual 137, 3) := by decide +kernel
theorem dX3_someQuorumIsDown_22 : decode cX3_someQuorumIsDown 22 = .ok (.iload_n 3, 1) := by decide +kernel
theorem dX3_someQuorumIsDown_23 : decode cX3_someQuorumIsDown 23 = .ok (.invokevirtual 156, 3) := by decide +kernel
theorem dX3_someQuorumIsDown_26 : decode cX3_someQuorumIsDown 26 = .ok (.istore 4, 2) := by decide +kernel
theorem dX3_someQuorumIsDown_28 : decode cX3_someQuorumIsDown 28 = .ok (.iload 4, 2) := by decide +kernel
theorem dX3_someQuorumIsDown_30 : decode cX3_someQuorumIsDown 30 = .ok (.iload_n 2, 1) := by decide +kernel
theorem dX3_someQuorumIsDown_31 : decode cX3_someQuorumIsDown 31 = .ok (.iand, 1) := by decide +kernel
theorem dX3_someQuorumIsDown_32 : decode cX3_someQuorumIsDown 32 = .ok (.invokestatic 192, 3) := by decide +kernel
theorem dX3_someQuorumIsDown_35 : decode cX3_someQuorumIsDown 35 = .ok (.aload_n 1, 1) := by decide +kernel
theorem dX3_someQuorumIsDown_36 : decode cX3_someQuorumIsDown 36 = .ok (.getfield 197, 3) := by decide +kernel
theorem dX3_someQuorumIsDown_39 : decode cX3_someQuorumIsDown 39 = .ok (.if_icmp .lt 5, 3) := by decide +kernel
theorem dX3_someQuorumIsDown_42 : decode cX3_someQuorumIsDown 42 = .ok (.iconst 1, 1) := by decide +kernel
theorem dX3_someQuorumIsDown_43 : decode cX3_someQuorumIsDown 43 = .ok (.ireturn, 1) := by decide +kernel
theorem dX3_someQuorumIsDown_44 : decode cX3_someQuorumIsDown 44 = .ok (.iinc 3 1, 3) := by decide +kernel
theorem dX3_someQuorumIsDown_47 : decode cX3_someQuorumIsDown 47 = .ok (.goto (-38), 3) := by decide +kernel
theorem dX3_someQuorumIsDown_50 : decode cX3_someQuorumIsDown 50 = .ok (.iconst 0, 1) := by decide +kernel
theorem dX3_someQuorumIsDown_51 : decode cX3_someQuorumIsDown 51 = .ok (.ireturn, 1) := by decide +kernel
theorem dX3_lastKnownConfirmed_0 : decode cX3_lastKnownConfirmed 0 = .ok (.aload_n 1, 1) := by decide +kernel
theorem dX3_lastKnownConfirmed_1 : decode cX3_lastKnownConfirmed 1 = .ok (.aload_n 1, 1) := by decide +kernel
theorem dX3_lastKnownConfirmed_2 : decode cX3_lastKnownConfirmed 2 = .ok (.invokevirtual 137, 3) := by decide +kernel
theorem dX3_lastKnownConfirmed_5 : decode cX3_lastKnownConfirmed 5 = .ok (.invokevirtual 144, 3) := by decide +kernel
theorem dX3_lastKnownConfirmed_8 : decode cX3_lastKnownConfirmed 8 = .ok (.iconst 1, 1) := by decide +kernel
theorem dX3_lastKnownConfirmed_9 : decode cX3_lastKnownConfirmed 9 = .ok (.isub, 1) := by decide +kernel
theorem dX3_lastKnownConfirmed_10 : decode cX3_lastKnownConfirmed 10 = .ok (.istore_n 2, 1) := by decide +kernel
theorem dX3_lastKnownConfirmed_11 : decode cX3_lastKnownConfirmed 11 = .ok (.iconst 0, 1) := by decide +kernel
theorem dX3_lastKnownConfirmed_12 : decode cX3_lastKnownConfirmed 12 = .ok (.istore_n 3, 1) := by decide +kernel
theorem dX3_lastKnownConfirmed_13 : decode cX3_lastKnownConfirmed 13 = .ok (.iload_n 3, 1) := by decide +kernel
theorem dX3_lastKnownConfirmed_14 : decode cX3_lastKnownConfirmed 14 = .ok (.aload_n 1, 1) := by decide +kernel
theorem dX3_lastKnownConfirmed_15 : decode cX3_lastKnownConfirmed 15 = .ok (.getfield 183, 3) := by decide +kernel
theorem dX3_lastKnownConfirmed_18 : decode cX3_lastKnownConfirmed 18 = .ok (.if_icmp .ge 51, 3) := by decide +kernel
theorem dX3_lastKnownConfirmed_21 : decode cX3_lastKnownConfirmed 21 = .ok (.aload_n 0, 1) := by decide +kernel
theorem dX3_lastKnownConfirmed_22 : decode cX3_lastKnownConfirmed 22 = .ok (.aload_n 1, 1) := by decide +kernel
theorem dX3_lastKnownConfirmed_23 : decode cX3_lastKnownConfirmed 23 = .ok (.aload_n 1, 1) := by decide +kernel
theorem dX3_lastKnownConfirmed_24 : decode cX3_lastKnownConfirmed 24 = .ok (.invokevirtual 137, 3) := by decide +kernel
theorem dX3_lastKnownConfirmed_27 : decode cX3_lastKnownConfirmed 27 = .ok (.iload_n 3, 1) := by decide +kernel
theorem dX3_lastKnownConfirmed_28 : decode cX3_lastKnownConfirmed 28 = .ok (.invokevirtual 140, 3) := by decide +kernel
theorem dX3_lastKnownConfirmed_31 : decode cX3_lastKnownConfirmed 31 = .ok (.invokevirtual 37, 3) := by decide +kernel
theorem dX3_lastKnownConfirmed_34 : decode cX3_lastKnownConfirmed 34 = .ok (.astore 4, 2) := by decide +kernel
theorem dX3_lastKnownConfirmed_36 : decode cX3_lastKnownConfirmed 36 = .ok (.aload 4, 2) := by decide +kernel
theorem dX3_lastKnownConfirmed_38 : decode cX3_lastKnownConfirmed 38 = .ok (.ifnull 25, 3) := by decide +kernel
theorem dX3_lastKnownConfirmed_41 : decode cX3_lastKnownConfirmed 41 = .ok (.aload 4, 2) := by decide +kernel
theorem dX3_lastKnownConfirmed_43 : decode cX3_lastKnownConfirmed 43 = .ok (.getfield 68, 3) := by decide +kernel
theorem dX3_lastKnownConfirmed_46 : decode cX3_lastKnownConfirmed 46 = .ok (.ifCond .eq 17, 3) := by decide +kernel
theorem dX3_lastKnownConfirmed_49 : decode cX3_lastKnownConfirmed 49 = .ok (.iload_n 2, 1) := by decide +kernel
theorem dX3_lastKnownConfirmed_50 : decode cX3_lastKnownConfirmed 50 = .ok (.aload 4, 2) := by decide +kernel
theorem dX3_lastKnownConfirmed_52 : decode cX3_lastKnownConfirmed 52 = .ok (.aload_n 1, 1) := by decide +kernel
theorem dX3_lastKnownConfirmed_53 : decode cX3_lastKnownConfirmed 53 = .ok (.getfield 117, 3) := by decide +kernel
theorem dX3_lastKnownConfirmed_56 : decode cX3_lastKnownConfirmed 56 = .ok (.invokevirtual 200, 3) := by decide +kernel
theorem dX3_lastKnownConfirmed_59 : decode cX3_lastKnownConfirmed 59 = .ok (.invokestatic 203, 3) := by decide +kernel
theorem dX3_lastKnownConfirmed_62 : decode cX3_lastKnownConfirmed 62 = .ok (.istore_n 2, 1) := by decide +kernel
theorem dX3_lastKnownConfirmed_63 : decode cX3_lastKnownConfirmed 63 = .ok (.iinc 3 1, 3) := by decide +kernel
theorem dX3_lastKnownConfirmed_66 : decode cX3_lastKnownConfirmed 66 = .ok (.goto (-53), 3) := by decide +kernel
theorem dX3_lastKnownConfirmed_69 : decode cX3_lastKnownConfirmed 69 = .ok (.iload_n 2, 1) := by decide +kernel
theorem dX3_lastKnownConfirmed_70 : decode cX3_lastKnownConfirmed 70 = .ok (.ireturn, 1) := by decide +kernel
theorem dX3_recoverEntry_0 : decode cX3_recoverEntry 0 = .ok (.aload_n 0, 1) := by decide +kernel
theorem dX3_recoverEntry_1 : decode cX3_recoverEntry 1 = .ok (.aload_n 1, 1) := by decide +kernel
theorem dX3_recoverEntry_2 : decode cX3_recoverEntry 2 = .ok (.iload_n 2, 1) := by decide +kernel
theorem dX3_recoverEntry_3 : decode cX3_recoverEntry 3 = .ok (.invokevirtual 208, 3) := by decide +kernel
theorem dX3_recoverEntry_6 : decode cX3_recoverEntry 6 = .ok (.istore_n 3, 1) := by decide +kernel
theorem dX3_recoverEntry_7 : decode cX3_recoverEntry 7 = .ok (.iload_n 3, 1) := by decide +kernel
theorem dX3_recoverEntry_8 : decode cX3_recoverEntry 8 = .ok (.iconst (-1), 1) := by decide +kernel
theorem dX3_recoverEntry_9 : decode cX3_recoverEntry 9 = .ok (.if_icmp .ne 5, 3) := by decide +kernel
theorem dX3_recoverEntry_12 : decode cX3_recoverEntry 12 = .ok (.iconst 0, 1) := by decide +kernel
theorem dX3_recoverEntry_13 : decode cX3_recoverEntry 13 = .ok (.ireturn, 1) := by decide +kernel
theorem dX3_recoverEntry_14 : decode cX3_recoverEntry 14 = .ok (.aload_n 0, 1) := by decide +kernel
theorem dX3_recoverEntry_15 : decode cX3_recoverEntry 15 = .ok (.aload_n 1, 1) := by decide +kernel
theorem dX3_recoverEntry_16 : decode cX3_recoverEntry 16 = .ok (.iload_n 2, 1) := by decide +kernel
theorem dX3_recoverEntry_17 : decode cX3_recoverEntry 17 = .ok (.aload_n 1, 1) := by decide +kernel
theorem dX3_recoverEntry_18 : decode cX3_recoverEntry 18 = .ok (.getfield 117, 3) := by decide +kernel
theorem dX3_recoverEntry_21 : decode cX3_recoverEntry 21 = .ok (.iload_n 2, 1) := by decide +kernel
theorem dX3_recoverEntry_22 : decode cX3_recoverEntry 22 = .ok (.iload_n 3, 1) := by decide +kernel
theorem dX3_recoverEntry_23 : decode cX3_recoverEntry 23 = .ok (.invokestatic 212, 3) := by decide +kernel
theorem dX3_recoverEntry_26 : decode cX3_recoverEntry 26 = .ok (.iload_n 2, 1) := by decide +kernel
theorem dX3_recoverEntry_27 : decode cX3_recoverEntry 27 = .ok (.iconst 1, 1) := by decide +kernel
theorem dX3_recoverEntry_28 : decode cX3_recoverEntry 28 = .ok (.isub, 1) := by decide +kernel
theorem dX3_recoverEntry_29 : decode cX3_recoverEntry 29 = .ok (.invokestatic 120, 3) := by decide +kernel
theorem dX3_recoverEntry_32 : decode cX3_recoverEntry 32 = .ok (.invokevirtual 213, 3) := by decide +kernel
theorem dX3_recoverEntry_35 : decode cX3_recoverEntry 35 = .ok (.pop, 1) := by decide +kernel
theorem dX3_recoverEntry_36 : decode cX3_recoverEntry 36 = .ok (.iconst 1, 1) := by decide +kernel
theorem dX3_recoverEntry_37 : decode cX3_recoverEntry 37 = .ok (.ireturn, 1) := by decide +kernel
theorem dX3_firstCopy_0 : decode cX3_firstCopy 0 = .ok (.aload_n 1, 1) := by decide +kernel
theorem dX3_firstCopy_1 : decode cX3_firstCopy 1 = .ok (.iload_n 2, 1) := by decide +kernel
theorem dX3_firstCopy_2 : decode cX3_firstCopy 2 = .ok (.invokevirtual 124, 3) := by decide +kernel
theorem dX3_firstCopy_5 : decode cX3_firstCopy 5 = .ok (.istore_n 3, 1) := by decide +kernel
theorem dX3_firstCopy_6 : decode cX3_firstCopy 6 = .ok (.iconst 0, 1) := by decide +kernel
theorem dX3_firstCopy_7 : decode cX3_firstCopy 7 = .ok (.istore 4, 2) := by decide +kernel
theorem dX3_firstCopy_9 : decode cX3_firstCopy 9 = .ok (.iload 4, 2) := by decide +kernel
theorem dX3_firstCopy_11 : decode cX3_firstCopy 11 = .ok (.aload_n 1, 1) := by decide +kernel
theorem dX3_firstCopy_12 : decode cX3_firstCopy 12 = .ok (.getfield 127, 3) := by decide +kernel
theorem dX3_firstCopy_15 : decode cX3_firstCopy 15 = .ok (.if_icmp .ge 60, 3) := by decide +kernel
theorem dX3_firstCopy_18 : decode cX3_firstCopy 18 = .ok (.aload_n 0, 1) := by decide +kernel
theorem dX3_firstCopy_19 : decode cX3_firstCopy 19 = .ok (.aload_n 1, 1) := by decide +kernel
theorem dX3_firstCopy_20 : decode cX3_firstCopy 20 = .ok (.iload_n 3, 1) := by decide +kernel
theorem dX3_firstCopy_21 : decode cX3_firstCopy 21 = .ok (.iload_n 2, 1) := by decide +kernel
theorem dX3_firstCopy_22 : decode cX3_firstCopy 22 = .ok (.iload 4, 2) := by decide +kernel
theorem dX3_firstCopy_24 : decode cX3_firstCopy 24 = .ok (.invokevirtual 130, 3) := by decide +kernel
theorem dX3_firstCopy_27 : decode cX3_firstCopy 27 = .ok (.invokevirtual 37, 3) := by decide +kernel
theorem dX3_firstCopy_30 : decode cX3_firstCopy 30 = .ok (.astore 5, 2) := by decide +kernel
theorem dX3_firstCopy_32 : decode cX3_firstCopy 32 = .ok (.aload 5, 2) := by decide +kernel
theorem dX3_firstCopy_34 : decode cX3_firstCopy 34 = .ok (.ifnull 35, 3) := by decide +kernel
theorem dX3_firstCopy_37 : decode cX3_firstCopy 37 = .ok (.aload 5, 2) := by decide +kernel
theorem dX3_firstCopy_39 : decode cX3_firstCopy 39 = .ok (.getfield 68, 3) := by decide +kernel
theorem dX3_firstCopy_42 : decode cX3_firstCopy 42 = .ok (.ifCond .eq 27, 3) := by decide +kernel
theorem dX3_firstCopy_45 : decode cX3_firstCopy 45 = .ok (.aload 5, 2) := by decide +kernel
theorem dX3_firstCopy_47 : decode cX3_firstCopy 47 = .ok (.aload_n 1, 1) := by decide +kernel
theorem dX3_firstCopy_48 : decode cX3_firstCopy 48 = .ok (.getfield 117, 3) := by decide +kernel
theorem dX3_firstCopy_51 : decode cX3_firstCopy 51 = .ok (.iload_n 2, 1) := by decide +kernel
theorem dX3_firstCopy_52 : decode cX3_firstCopy 52 = .ok (.invokevirtual 217, 3) := by decide +kernel
theorem dX3_firstCopy_55 : decode cX3_firstCopy 55 = .ok (.ifCond .eq 14, 3) := by decide +kernel
theorem dX3_firstCopy_58 : decode cX3_firstCopy 58 = .ok (.aload 5, 2) := by decide +kernel
theorem dX3_firstCopy_60 : decode cX3_firstCopy 60 = .ok (.aload_n 1, 1) := by decide +kernel
theorem dX3_firstCopy_61 : decode cX3_firstCopy 61 = .ok (.getfield 117, 3) := by decide +kernel
theorem dX3_firstCopy_64 : decode cX3_firstCopy 64 = .ok (.iload_n 2, 1) := by decide +kernel
theorem dX3_firstCopy_65 : decode cX3_firstCopy 65 = .ok (.invokevirtual 220, 3) := by decide +kernel
theorem dX3_firstCopy_68 : decode cX3_firstCopy 68 = .ok (.ireturn, 1) := by decide +kernel
theorem dX3_firstCopy_69 : decode cX3_firstCopy 69 = .ok (.iinc 4 1, 3) := by decide +kernel
theorem dX3_firstCopy_72 : decode cX3_firstCopy 72 = .ok (.goto (-63), 3) := by decide +kernel
theorem dX3_firstCopy_75 : decode cX3_firstCopy 75 = .ok (.iconst (-1), 1) := by decide +kernel
theorem dX3_firstCopy_76 : decode cX3_firstCopy 76 = .ok (.ireturn, 1) := by decide +kernel
theorem dX3_spread_0 : decode cX3_spread 0 = .ok (.iconst 0, 1) := by decide +kernel
theorem dX3_spread_1 : decode cX3_spread 1 = .ok (.istore 4, 2) := by decide +kernel
theorem dX3_spread_3 : decode cX3_spread 3 = .ok (.aload_n 1, 1) := by decide +kernel
theorem dX3_spread_4 : decode cX3_spread 4 = .ok (.iload_n 2, 1) := by decide +kernel
theorem dX3_spread_5 : decode cX3_spread 5 = .ok (.invokevirtual 124, 3) := by decide +kernel
theorem dX3_spread_8 : decode cX3_spread 8 = .ok (.istore 5, 2) := by decide +kernel
theorem dX3_spread_10 : decode cX3_spread 10 = .ok (.iconst 0, 1) := by decide +kernel
theorem dX3_spread_11 : decode cX3_spread 11 = .ok (.istore 6, 2) := by decide +kernel
theorem dX3_spread_13 : decode cX3_spread 13 = .ok (.iload 6, 2) := by decide +kernel
theorem dX3_spread_15 : decode cX3_spread 15 = .ok (.aload_n 1, 1) := by decide +kernel
theorem dX3_spread_16 : decode cX3_spread 16 = .ok (.getfield 127, 3) := by decide +kernel
theorem dX3_spread_19 : decode cX3_spread 19 = .ok (.if_icmp .ge 59, 3) := by decide +kernel
theorem dX3_spread_22 : decode cX3_spread 22 = .ok (.aload_n 0, 1) := by decide +kernel
theorem dX3_spread_23 : decode cX3_spread 23 = .ok (.aload_n 1, 1) := by decide +kernel
theorem dX3_spread_24 : decode cX3_spread 24 = .ok (.iload 5, 2) := by decide +kernel
theorem dX3_spread_26 : decode cX3_spread 26 = .ok (.iload_n 2, 1) := by decide +kernel
theorem dX3_spread_27 : decode cX3_spread 27 = .ok (.iload 6, 2) := by decide +kernel
theorem dX3_spread_29 : decode cX3_spread 29 = .ok (.invokevirtual 130, 3) := by decide +kernel
theorem dX3_spread_32 : decode cX3_spread 32 = .ok (.invokevirtual 37, 3) := by decide +kernel
theorem dX3_spread_35 : decode cX3_spread 35 = .ok (.astore 7, 2) := by decide +kernel
theorem dX3_spread_37 : decode cX3_spread 37 = .ok (.aload 7, 2) := by decide +kernel
theorem dX3_spread_39 : decode cX3_spread 39 = .ok (.ifnull 33, 3) := by decide +kernel
theorem dX3_spread_42 : decode cX3_spread 42 = .ok (.aload 7, 2) := by decide +kernel
theorem dX3_spread_44 : decode cX3_spread 44 = .ok (.getfield 68, 3) := by decide +kernel
theorem dX3_spread_47 : decode cX3_spread 47 = .ok (.ifCond .eq 25, 3) := by decide +kernel
theorem dX3_spread_50 : decode cX3_spread 50 = .ok (.aload 7, 2) := by decide +kernel
theorem dX3_spread_52 : decode cX3_spread 52 = .ok (.aload_n 1, 1) := by decide +kernel
theorem dX3_spread_53 : decode cX3_spread 53 = .ok (.getfield 117, 3) := by decide +kernel
theorem dX3_spread_56 : decode cX3_spread 56 = .ok (.iload_n 2, 1) := by decide +kernel
theorem dX3_spread_57 : decode cX3_spread 57 = .ok (.invokevirtual 217, 3) := by decide +kernel
theorem dX3_spread_60 : decode cX3_spread 60 = .ok (.ifCond .ne 12, 3) := by decide +kernel
theorem dX3_spread_63 : decode cX3_spread 63 = .ok (.aload 7, 2) := by decide +kernel
theorem dX3_spread_65 : decode cX3_spread 65 = .ok (.iload_n 3, 1) := by decide +kernel
theorem dX3_spread_66 : decode cX3_spread 66 = .ok (.invokevirtual 98, 3) := by decide +kernel
theorem dX3_spread_69 : decode cX3_spread 69 = .ok (.iinc 4 1, 3) := by decide +kernel
theorem dX3_spread_72 : decode cX3_spread 72 = .ok (.iinc 6 1, 3) := by decide +kernel
theorem dX3_spread_75 : decode cX3_spread 75 = .ok (.goto (-62), 3) := by decide +kernel
theorem dX3_spread_78 : decode cX3_spread 78 = .ok (.iload 4, 2) := by decide +kernel
theorem dX3_spread_80 : decode cX3_spread 80 = .ok (.ireturn, 1) := by decide +kernel
theorem dX3_replaceDownNodes_0 : decode cX3_replaceDownNodes 0 = .ok (.iconst 0, 1) := by decide +kernel
theorem dX3_replaceDownNodes_1 : decode cX3_replaceDownNodes 1 = .ok (.istore_n 2, 1) := by decide +kernel
theorem dX3_replaceDownNodes_2 : decode cX3_replaceDownNodes 2 = .ok (.iload_n 2, 1) := by decide +kernel
theorem dX3_replaceDownNodes_3 : decode cX3_replaceDownNodes 3 = .ok (.aload_n 1, 1) := by decide +kernel
theorem dX3_replaceDownNodes_4 : decode cX3_replaceDownNodes 4 = .ok (.getfield 223, 3) := by decide +kernel
theorem dX3_replaceDownNodes_7 : decode cX3_replaceDownNodes 7 = .ok (.if_icmp .ge 67, 3) := by decide +kernel
theorem dX3_replaceDownNodes_10 : decode cX3_replaceDownNodes 10 = .ok (.iconst 0, 1) := by decide +kernel
theorem dX3_replaceDownNodes_11 : decode cX3_replaceDownNodes 11 = .ok (.istore_n 3, 1) := by decide +kernel
theorem dX3_replaceDownNodes_12 : decode cX3_replaceDownNodes 12 = .ok (.iload_n 3, 1) := by decide +kernel
theorem dX3_replaceDownNodes_13 : decode cX3_replaceDownNodes 13 = .ok (.aload_n 1, 1) := by decide +kernel
theorem dX3_replaceDownNodes_14 : decode cX3_replaceDownNodes 14 = .ok (.getfield 183, 3) := by decide +kernel
theorem dX3_replaceDownNodes_17 : decode cX3_replaceDownNodes 17 = .ok (.if_icmp .ge 51, 3) := by decide +kernel
theorem dX3_replaceDownNodes_20 : decode cX3_replaceDownNodes 20 = .ok (.aload_n 0, 1) := by decide +kernel
theorem dX3_replaceDownNodes_21 : decode cX3_replaceDownNodes 21 = .ok (.aload_n 1, 1) := by decide +kernel
theorem dX3_replaceDownNodes_22 : decode cX3_replaceDownNodes 22 = .ok (.iload_n 2, 1) := by decide +kernel
theorem dX3_replaceDownNodes_23 : decode cX3_replaceDownNodes 23 = .ok (.iload_n 3, 1) := by decide +kernel
theorem dX3_replaceDownNodes_24 : decode cX3_replaceDownNodes 24 = .ok (.invokevirtual 140, 3) := by decide +kernel
theorem dX3_replaceDownNodes_27 : decode cX3_replaceDownNodes 27 = .ok (.invokevirtual 72, 3) := by decide +kernel
theorem dX3_replaceDownNodes_30 : decode cX3_replaceDownNodes 30 = .ok (.ifCond .eq 7, 3) := by decide +kernel
theorem dX3_replaceDownNodes_33 : decode cX3_replaceDownNodes 33 = .ok (.iconst (-1), 1) := by decide +kernel
theorem dX3_replaceDownNodes_34 : decode cX3_replaceDownNodes 34 = .ok (.goto 12, 3) := by decide +kernel
theorem dX3_replaceDownNodes_37 : decode cX3_replaceDownNodes 37 = .ok (.aload_n 0, 1) := by decide +kernel
theorem dX3_replaceDownNodes_38 : decode cX3_replaceDownNodes 38 = .ok (.aload_n 1, 1) := by decide +kernel
theorem dX3_replaceDownNodes_39 : decode cX3_replaceDownNodes 39 = .ok (.iload_n 2, 1) := by decide +kernel
theorem dX3_replaceDownNodes_40 : decode cX3_replaceDownNodes 40 = .ok (.invokevirtual 58, 3) := by decide +kernel
theorem dX3_replaceDownNodes_43 : decode cX3_replaceDownNodes 43 = .ok (.invokevirtual 62, 3) := by decide +kernel
theorem dX3_replaceDownNodes_46 : decode cX3_replaceDownNodes 46 = .ok (.istore 4, 2) := by decide +kernel
theorem dX3_replaceDownNodes_48 : decode cX3_replaceDownNodes 48 = .ok (.iload 4, 2) := by decide +kernel
theorem dX3_replaceDownNodes_50 : decode cX3_replaceDownNodes 50 = .ok (.iconst (-1), 1) := by decide +kernel
theorem dX3_replaceDownNodes_51 : decode cX3_replaceDownNodes 51 = .ok (.if_icmp .eq 11, 3) := by decide +kernel
theorem dX3_replaceDownNodes_54 : decode cX3_replaceDownNodes 54 = .ok (.aload_n 1, 1) := by decide +kernel
theorem dX3_replaceDownNodes_55 : decode cX3_replaceDownNodes 55 = .ok (.iload_n 2, 1) := by decide +kernel
theorem dX3_replaceDownNodes_56 : decode cX3_replaceDownNodes 56 = .ok (.iload_n 3, 1) := by decide +kernel
theorem dX3_replaceDownNodes_57 : decode cX3_replaceDownNodes 57 = .ok (.iload 4, 2) := by decide +kernel
theorem dX3_replaceDownNodes_59 : decode cX3_replaceDownNodes 59 = .ok (.invokevirtual 65, 3) := by decide +kernel
theorem dX3_replaceDownNodes_62 : decode cX3_replaceDownNodes 62 = .ok (.iinc 3 1, 3) := by decide +kernel
theorem dX3_replaceDownNodes_65 : decode cX3_replaceDownNodes 65 = .ok (.goto (-53), 3) := by decide +kernel
theorem dX3_replaceDownNodes_68 : decode cX3_replaceDownNodes 68 = .ok (.iinc 2 1, 3) := by decide +kernel
theorem dX3_replaceDownNodes_71 : decode cX3_replaceDownNodes 71 = .ok (.goto (-69), 3) := by decide +kernel
theorem dX3_replaceDownNodes_74 : decode cX3_replaceDownNodes 74 = .ok (.return_, 1) := by decide +kernel
theorem dX3_copyMissingEntries_0 : decode cX3_copyMissingEntries 0 = .ok (.iconst 0, 1) := by decide +kernel
theorem dX3_copyMissingEntries_1 : decode cX3_copyMissingEntries 1 = .ok (.istore_n 2, 1) := by decide +kernel
theorem dX3_copyMissingEntries_2 : decode cX3_copyMissingEntries 2 = .ok (.aload_n 1, 1) := by decide +kernel
theorem dX3_copyMissingEntries_3 : decode cX3_copyMissingEntries 3 = .ok (.invokevirtual 226, 3) := by decide +kernel
theorem dX3_copyMissingEntries_6 : decode cX3_copyMissingEntries 6 = .ok (.bipush 39, 2) := by decide +kernel
theorem dX3_copyMissingEntries_8 : decode cX3_copyMissingEntries 8 = .ok (.invokestatic 229, 3) := by decide +kernel
theorem dX3_copyMissingEntries_11 : decode cX3_copyMissingEntries 11 = .ok (.istore_n 3, 1) := by decide +kernel
theorem dX3_copyMissingEntries_12 : decode cX3_copyMissingEntries 12 = .ok (.iconst 0, 1) := by decide +kernel
theorem dX3_copyMissingEntries_13 : decode cX3_copyMissingEntries 13 = .ok (.istore 4, 2) := by decide +kernel
theorem dX3_copyMissingEntries_15 : decode cX3_copyMissingEntries 15 = .ok (.iload 4, 2) := by decide +kernel
theorem dX3_copyMissingEntries_17 : decode cX3_copyMissingEntries 17 = .ok (.iload_n 3, 1) := by decide +kernel
theorem dX3_copyMissingEntries_18 : decode cX3_copyMissingEntries 18 = .ok (.if_icmp .gt 36, 3) := by decide +kernel
theorem dX3_copyMissingEntries_21 : decode cX3_copyMissingEntries 21 = .ok (.aload_n 0, 1) := by decide +kernel
theorem dX3_copyMissingEntries_22 : decode cX3_copyMissingEntries 22 = .ok (.aload_n 1, 1) := by decide +kernel
theorem dX3_copyMissingEntries_23 : decode cX3_copyMissingEntries 23 = .ok (.iload 4, 2) := by decide +kernel
theorem dX3_copyMissingEntries_25 : decode cX3_copyMissingEntries 25 = .ok (.invokevirtual 208, 3) := by decide +kernel
theorem dX3_copyMissingEntries_28 : decode cX3_copyMissingEntries 28 = .ok (.istore 5, 2) := by decide +kernel
theorem dX3_copyMissingEntries_30 : decode cX3_copyMissingEntries 30 = .ok (.iload 5, 2) := by decide +kernel
theorem dX3_copyMissingEntries_32 : decode cX3_copyMissingEntries 32 = .ok (.iconst (-1), 1) := by decide +kernel
theorem dX3_copyMissingEntries_33 : decode cX3_copyMissingEntries 33 = .ok (.if_icmp .eq 15, 3) := by decide +kernel
theorem dX3_copyMissingEntries_36 : decode cX3_copyMissingEntries 36 = .ok (.iload_n 2, 1) := by decide +kernel
theorem dX3_copyMissingEntries_37 : decode cX3_copyMissingEntries 37 = .ok (.aload_n 0, 1) := by decide +kernel
theorem dX3_copyMissingEntries_38 : decode cX3_copyMissingEntries 38 = .ok (.aload_n 1, 1) := by decide +kernel
theorem dX3_copyMissingEntries_39 : decode cX3_copyMissingEntries 39 = .ok (.iload 4, 2) := by decide +kernel
theorem dX3_copyMissingEntries_41 : decode cX3_copyMissingEntries 41 = .ok (.iload 5, 2) := by decide +kernel
theorem dX3_copyMissingEntries_43 : decode cX3_copyMissingEntries 43 = .ok (.invokevirtual 213, 3) := by decide +kernel
theorem dX3_copyMissingEntries_46 : decode cX3_copyMissingEntries 46 = .ok (.iadd, 1) := by decide +kernel
theorem dX3_copyMissingEntries_47 : decode cX3_copyMissingEntries 47 = .ok (.istore_n 2, 1) := by decide +kernel
theorem dX3_copyMissingEntries_48 : decode cX3_copyMissingEntries 48 = .ok (.iinc 4 1, 3) := by decide +kernel
theorem dX3_copyMissingEntries_51 : decode cX3_copyMissingEntries 51 = .ok (.goto (-36), 3) := by decide +kernel
theorem dX3_copyMissingEntries_54 : decode cX3_copyMissingEntries 54 = .ok (.iload_n 2, 1) := by decide +kernel
theorem dX3_copyMissingEntries_55 : decode cX3_copyMissingEntries 55 = .ok (.ireturn, 1) := by decide +kernel
theorem dX3_holderMask_0 : decode cX3_holderMask 0 = .ok (.iconst 0, 1) := by decide +kernel
theorem dX3_holderMask_1 : decode cX3_holderMask 1 = .ok (.istore_n 3, 1) := by decide +kernel
theorem dX3_holderMask_2 : decode cX3_holderMask 2 = .ok (.iconst 0, 1) := by decide +kernel
theorem dX3_holderMask_3 : decode cX3_holderMask 3 = .ok (.istore 4, 2) := by decide +kernel
theorem dX3_holderMask_5 : decode cX3_holderMask 5 = .ok (.iload 4, 2) := by decide +kernel
theorem dX3_holderMask_7 : decode cX3_holderMask 7 = .ok (.aload_n 0, 1) := by decide +kernel
theorem dX3_holderMask_8 : decode cX3_holderMask 8 = .ok (.getfield 27, 3) := by decide +kernel
theorem dX3_holderMask_11 : decode cX3_holderMask 11 = .ok (.if_icmp .ge 46, 3) := by decide +kernel
theorem dX3_holderMask_14 : decode cX3_holderMask 14 = .ok (.aload_n 0, 1) := by decide +kernel
theorem dX3_holderMask_15 : decode cX3_holderMask 15 = .ok (.iload 4, 2) := by decide +kernel
theorem dX3_holderMask_17 : decode cX3_holderMask 17 = .ok (.invokevirtual 37, 3) := by decide +kernel
theorem dX3_holderMask_20 : decode cX3_holderMask 20 = .ok (.astore 5, 2) := by decide +kernel
theorem dX3_holderMask_22 : decode cX3_holderMask 22 = .ok (.iload_n 3, 1) := by decide +kernel
theorem dX3_holderMask_23 : decode cX3_holderMask 23 = .ok (.aload 5, 2) := by decide +kernel
theorem dX3_holderMask_25 : decode cX3_holderMask 25 = .ok (.ifnull 23, 3) := by decide +kernel
theorem dX3_holderMask_28 : decode cX3_holderMask 28 = .ok (.aload 5, 2) := by decide +kernel
theorem dX3_holderMask_30 : decode cX3_holderMask 30 = .ok (.aload_n 1, 1) := by decide +kernel
theorem dX3_holderMask_31 : decode cX3_holderMask 31 = .ok (.getfield 117, 3) := by decide +kernel
theorem dX3_holderMask_34 : decode cX3_holderMask 34 = .ok (.iload_n 2, 1) := by decide +kernel
theorem dX3_holderMask_35 : decode cX3_holderMask 35 = .ok (.invokevirtual 217, 3) := by decide +kernel
theorem dX3_holderMask_38 : decode cX3_holderMask 38 = .ok (.ifCond .eq 10, 3) := by decide +kernel
theorem dX3_holderMask_41 : decode cX3_holderMask 41 = .ok (.iconst 1, 1) := by decide +kernel
theorem dX3_holderMask_42 : decode cX3_holderMask 42 = .ok (.iload 4, 2) := by decide +kernel
theorem dX3_holderMask_44 : decode cX3_holderMask 44 = .ok (.ishl, 1) := by decide +kernel
theorem dX3_holderMask_45 : decode cX3_holderMask 45 = .ok (.goto 4, 3) := by decide +kernel
theorem dX3_holderMask_48 : decode cX3_holderMask 48 = .ok (.iconst 0, 1) := by decide +kernel
theorem dX3_holderMask_49 : decode cX3_holderMask 49 = .ok (.ior, 1) := by decide +kernel
theorem dX3_holderMask_50 : decode cX3_holderMask 50 = .ok (.istore_n 3, 1) := by decide +kernel
theorem dX3_holderMask_51 : decode cX3_holderMask 51 = .ok (.iinc 4 1, 3) := by decide +kernel
theorem dX3_holderMask_54 : decode cX3_holderMask 54 = .ok (.goto (-49), 3) := by decide +kernel
theorem dX3_holderMask_57 : decode cX3_holderMask 57 = .ok (.iload_n 3, 1) := by decide +kernel
theorem dX3_holderMask_58 : decode cX3_holderMask 58 = .ok (.ireturn, 1) := by decide +kernel
theorem dX3_countUnderReplicated_0 : decode cX3_countUnderReplicated 0 = .ok (.iconst 0, 1) := by decide +kernel
theorem dX3_countUnderReplicated_1 : decode cX3_countUnderReplicated 1 = .ok (.istore_n 2, 1) := by decide +kernel
theorem dX3_countUnderReplicated_2 : decode cX3_countUnderReplicated 2 = .ok (.aload_n 0, 1) := by decide +kernel
theorem dX3_countUnderReplicated_3 : decode cX3_countUnderReplicated 3 = .ok (.invokevirtual 189, 3) := by decide +kernel
theorem dX3_countUnderReplicated_6 : decode cX3_countUnderReplicated 6 = .ok (.istore_n 3, 1) := by decide +kernel
theorem dX3_countUnderReplicated_7 : decode cX3_countUnderReplicated 7 = .ok (.aload_n 1, 1) := by decide +kernel
theorem dX3_countUnderReplicated_8 : decode cX3_countUnderReplicated 8 = .ok (.invokevirtual 226, 3) := by decide +kernel
theorem dX3_countUnderReplicated_11 : decode cX3_countUnderReplicated 11 = .ok (.bipush 39, 2) := by decide +kernel
theorem dX3_countUnderReplicated_13 : decode cX3_countUnderReplicated 13 = .ok (.invokestatic 229, 3) := by decide +kernel
theorem dX3_countUnderReplicated_16 : decode cX3_countUnderReplicated 16 = .ok (.istore 4, 2) := by decide +kernel
theorem dX3_countUnderReplicated_18 : decode cX3_countUnderReplicated 18 = .ok (.iconst 0, 1) := by decide +kernel
theorem dX3_countUnderReplicated_19 : decode cX3_countUnderReplicated 19 = .ok (.istore 5, 2) := by decide +kernel
theorem dX3_countUnderReplicated_21 : decode cX3_countUnderReplicated 21 = .ok (.iload 5, 2) := by decide +kernel
theorem dX3_countUnderReplicated_23 : decode cX3_countUnderReplicated 23 = .ok (.iload 4, 2) := by decide +kernel
theorem dX3_countUnderReplicated_25 : decode cX3_countUnderReplicated 25 = .ok (.if_icmp .gt 48, 3) := by decide +kernel
theorem dX3_countUnderReplicated_28 : decode cX3_countUnderReplicated 28 = .ok (.aload_n 1, 1) := by decide +kernel
theorem dX3_countUnderReplicated_29 : decode cX3_countUnderReplicated 29 = .ok (.aload_n 1, 1) := by decide +kernel
theorem dX3_countUnderReplicated_30 : decode cX3_countUnderReplicated 30 = .ok (.iload 5, 2) := by decide +kernel
theorem dX3_countUnderReplicated_32 : decode cX3_countUnderReplicated 32 = .ok (.invokevirtual 124, 3) := by decide +kernel
theorem dX3_countUnderReplicated_35 : decode cX3_countUnderReplicated 35 = .ok (.iload 5, 2) := by decide +kernel
theorem dX3_countUnderReplicated_37 : decode cX3_countUnderReplicated 37 = .ok (.invokevirtual 156, 3) := by decide +kernel
theorem dX3_countUnderReplicated_40 : decode cX3_countUnderReplicated 40 = .ok (.istore 6, 2) := by decide +kernel
theorem dX3_countUnderReplicated_42 : decode cX3_countUnderReplicated 42 = .ok (.iload 6, 2) := by decide +kernel
theorem dX3_countUnderReplicated_44 : decode cX3_countUnderReplicated 44 = .ok (.iload_n 3, 1) := by decide +kernel
theorem dX3_countUnderReplicated_45 : decode cX3_countUnderReplicated 45 = .ok (.iand, 1) := by decide +kernel
theorem dX3_countUnderReplicated_46 : decode cX3_countUnderReplicated 46 = .ok (.aload_n 0, 1) := by decide +kernel
theorem dX3_countUnderReplicated_47 : decode cX3_countUnderReplicated 47 = .ok (.aload_n 1, 1) := by decide +kernel
theorem dX3_countUnderReplicated_48 : decode cX3_countUnderReplicated 48 = .ok (.iload 5, 2) := by decide +kernel
theorem dX3_countUnderReplicated_50 : decode cX3_countUnderReplicated 50 = .ok (.invokevirtual 232, 3) := by decide +kernel
theorem dX3_countUnderReplicated_53 : decode cX3_countUnderReplicated 53 = .ok (.iand, 1) := by decide +kernel
theorem dX3_countUnderReplicated_54 : decode cX3_countUnderReplicated 54 = .ok (.invokestatic 192, 3) := by decide +kernel
theorem dX3_countUnderReplicated_57 : decode cX3_countUnderReplicated 57 = .ok (.aload_n 1, 1) := by decide +kernel
theorem dX3_countUnderReplicated_58 : decode cX3_countUnderReplicated 58 = .ok (.getfield 127, 3) := by decide +kernel
theorem dX3_countUnderReplicated_61 : decode cX3_countUnderReplicated 61 = .ok (.if_icmp .ge 6, 3) := by decide +kernel
theorem dX3_countUnderReplicated_64 : decode cX3_countUnderReplicated 64 = .ok (.iinc 2 1, 3) := by decide +kernel
theorem dX3_countUnderReplicated_67 : decode cX3_countUnderReplicated 67 = .ok (.iinc 5 1, 3) := by decide +kernel
theorem dX3_countUnderReplicated_70 : decode cX3_countUnderReplicated 70 = .ok (.goto (-49), 3) := by decide +kernel
theorem dX3_countUnderReplicated_73 : decode cX3_countUnderReplicated 73 = .ok (.iload_n 2, 1) := by decide +kernel
theorem dX3_countUnderReplicated_74 : decode cX3_countUnderReplicated 74 = .ok (.ireturn, 1) := by decide +kernel
theorem dX4_init_0 : decode cX4_init 0 = .ok (.aload_n 0, 1) := by decide +kernel
theorem dX4_init_1 : decode cX4_init 1 = .ok (.invokespecial 3, 3) := by decide +kernel
theorem dX4_init_4 : decode cX4_init 4 = .ok (.aload_n 0, 1) := by decide +kernel
theorem dX4_init_5 : decode cX4_init 5 = .ok (.iconst 4, 1) := by decide +kernel
theorem dX4_init_6 : decode cX4_init 6 = .ok (.anewarray 9, 3) := by decide +kernel
theorem dX4_init_9 : decode cX4_init 9 = .ok (.putfield 11, 3) := by decide +kernel
theorem dX4_init_12 : decode cX4_init 12 = .ok (.return_, 1) := by decide +kernel
theorem dX4_push_0 : decode cX4_push 0 = .ok (.aload_n 0, 1) := by decide +kernel
theorem dX4_push_1 : decode cX4_push 1 = .ok (.getfield 17, 3) := by decide +kernel
theorem dX4_push_4 : decode cX4_push 4 = .ok (.ifCond .lt 15, 3) := by decide +kernel
theorem dX4_push_7 : decode cX4_push 7 = .ok (.aload_n 0, 1) := by decide +kernel
theorem dX4_push_8 : decode cX4_push 8 = .ok (.getfield 17, 3) := by decide +kernel
theorem dX4_push_11 : decode cX4_push 11 = .ok (.aload_n 0, 1) := by decide +kernel
theorem dX4_push_12 : decode cX4_push 12 = .ok (.getfield 11, 3) := by decide +kernel
theorem dX4_push_15 : decode cX4_push 15 = .ok (.arraylength, 1) := by decide +kernel
theorem dX4_push_16 : decode cX4_push 16 = .ok (.if_icmp .lt 4, 3) := by decide +kernel
theorem dX4_push_19 : decode cX4_push 19 = .ok (.return_, 1) := by decide +kernel
theorem dX4_push_20 : decode cX4_push 20 = .ok (.aload_n 0, 1) := by decide +kernel
theorem dX4_push_21 : decode cX4_push 21 = .ok (.getfield 11, 3) := by decide +kernel
theorem dX4_push_24 : decode cX4_push 24 = .ok (.aload_n 0, 1) := by decide +kernel
theorem dX4_push_25 : decode cX4_push 25 = .ok (.getfield 17, 3) := by decide +kernel
theorem dX4_push_28 : decode cX4_push 28 = .ok (.aaload, 1) := by decide +kernel
theorem dX4_push_29 : decode cX4_push 29 = .ok (.astore_n 2, 1) := by decide +kernel
theorem dX4_push_30 : decode cX4_push 30 = .ok (.aload_n 2, 1) := by decide +kernel
theorem dX4_push_31 : decode cX4_push 31 = .ok (.ifnonnull 21, 3) := by decide +kernel
theorem dX4_push_34 : decode cX4_push 34 = .ok (.new 9, 3) := by decide +kernel
theorem dX4_push_37 : decode cX4_push 37 = .ok (.dup, 1) := by decide +kernel
theorem dX4_push_38 : decode cX4_push 38 = .ok (.invokespecial 21, 3) := by decide +kernel
theorem dX4_push_41 : decode cX4_push 41 = .ok (.astore_n 2, 1) := by decide +kernel
theorem dX4_push_42 : decode cX4_push 42 = .ok (.aload_n 0, 1) := by decide +kernel
theorem dX4_push_43 : decode cX4_push 43 = .ok (.getfield 11, 3) := by decide +kernel
theorem dX4_push_46 : decode cX4_push 46 = .ok (.aload_n 0, 1) := by decide +kernel
theorem dX4_push_47 : decode cX4_push 47 = .ok (.getfield 17, 3) := by decide +kernel
theorem dX4_push_50 : decode cX4_push 50 = .ok (.aload_n 2, 1) := by decide +kernel
theorem dX4_push_51 : decode cX4_push 51 = .ok (.aastore, 1) := by decide +kernel
theorem dX4_push_52 : decode cX4_push 52 = .ok (.aload_n 2, 1) := by decide +kernel
theorem dX4_push_53 : decode cX4_push 53 = .ok (.aload_n 1, 1) := by decide +kernel
theorem dX4_push_54 : decode cX4_push 54 = .ok (.invokevirtual 22, 3) := by decide +kernel
theorem dX4_push_57 : decode cX4_push 57 = .ok (.aload_n 0, 1) := by decide +kernel
theorem dX4_push_58 : decode cX4_push 58 = .ok (.aload_n 0, 1) := by decide +kernel
theorem dX4_push_59 : decode cX4_push 59 = .ok (.getfield 17, 3) := by decide +kernel
theorem dX4_push_62 : decode cX4_push 62 = .ok (.iconst 1, 1) := by decide +kernel
theorem dX4_push_63 : decode cX4_push 63 = .ok (.iadd, 1) := by decide +kernel
theorem dX4_push_64 : decode cX4_push 64 = .ok (.iconst 4, 1) := by decide +kernel
theorem dX4_push_65 : decode cX4_push 65 = .ok (.irem, 1) := by decide +kernel
theorem dX4_push_66 : decode cX4_push 66 = .ok (.putfield 17, 3) := by decide +kernel
theorem dX4_push_69 : decode cX4_push 69 = .ok (.aload_n 0, 1) := by decide +kernel
theorem dX4_push_70 : decode cX4_push 70 = .ok (.aload_n 0, 1) := by decide +kernel
theorem dX4_push_71 : decode cX4_push 71 = .ok (.getfield 26, 3) := by decide +kernel
theorem dX4_push_74 : decode cX4_push 74 = .ok (.iconst 1, 1) := by decide +kernel
theorem dX4_push_75 : decode cX4_push 75 = .ok (.iadd, 1) := by decide +kernel
theorem dX4_push_76 : decode cX4_push 76 = .ok (.iconst 4, 1) := by decide +kernel
theorem dX4_push_77 : decode cX4_push 77 = .ok (.invokestatic 29, 3) := by decide +kernel
theorem dX4_push_80 : decode cX4_push 80 = .ok (.putfield 26, 3) := by decide +kernel
theorem dX4_push_83 : decode cX4_push 83 = .ok (.return_, 1) := by decide +kernel
theorem dX4_popInto_0 : decode cX4_popInto 0 = .ok (.aload_n 0, 1) := by decide +kernel
theorem dX4_popInto_1 : decode cX4_popInto 1 = .ok (.getfield 17, 3) := by decide +kernel
theorem dX4_popInto_4 : decode cX4_popInto 4 = .ok (.iconst 4, 1) := by decide +kernel
theorem dX4_popInto_5 : decode cX4_popInto 5 = .ok (.iadd, 1) := by decide +kernel
theorem dX4_popInto_6 : decode cX4_popInto 6 = .ok (.iconst 1, 1) := by decide +kernel
theorem dX4_popInto_7 : decode cX4_popInto 7 = .ok (.isub, 1) := by decide +kernel
theorem dX4_popInto_8 : decode cX4_popInto 8 = .ok (.iconst 4, 1) := by decide +kernel
theorem dX4_popInto_9 : decode cX4_popInto 9 = .ok (.irem, 1) := by decide +kernel
theorem dX4_popInto_10 : decode cX4_popInto 10 = .ok (.istore_n 2, 1) := by decide +kernel
theorem dX4_popInto_11 : decode cX4_popInto 11 = .ok (.aload_n 0, 1) := by decide +kernel
theorem dX4_popInto_12 : decode cX4_popInto 12 = .ok (.getfield 26, 3) := by decide +kernel
theorem dX4_popInto_15 : decode cX4_popInto 15 = .ok (.iconst 1, 1) := by decide +kernel
theorem dX4_popInto_16 : decode cX4_popInto 16 = .ok (.if_icmp .lt 16, 3) := by decide +kernel
theorem dX4_popInto_19 : decode cX4_popInto 19 = .ok (.iload_n 2, 1) := by decide +kernel
theorem dX4_popInto_20 : decode cX4_popInto 20 = .ok (.ifCond .lt 12, 3) := by decide +kernel
theorem dX4_popInto_23 : decode cX4_popInto 23 = .ok (.iload_n 2, 1) := by decide +kernel
theorem dX4_popInto_24 : decode cX4_popInto 24 = .ok (.aload_n 0, 1) := by decide +kernel
theorem dX4_popInto_25 : decode cX4_popInto 25 = .ok (.getfield 11, 3) := by decide +kernel
theorem dX4_popInto_28 : decode cX4_popInto 28 = .ok (.arraylength, 1) := by decide +kernel
theorem dX4_popInto_29 : decode cX4_popInto 29 = .ok (.if_icmp .lt 4, 3) := by decide +kernel
theorem dX4_popInto_32 : decode cX4_popInto 32 = .ok (.return_, 1) := by decide +kernel
theorem dX4_popInto_33 : decode cX4_popInto 33 = .ok (.aload_n 0, 1) := by decide +kernel
theorem dX4_popInto_34 : decode cX4_popInto 34 = .ok (.getfield 11, 3) := by decide +kernel
theorem dX4_popInto_37 : decode cX4_popInto 37 = .ok (.iload_n 2, 1) := by decide +kernel
theorem dX4_popInto_38 : decode cX4_popInto 38 = .ok (.aaload, 1) := by decide +kernel
theorem dX4_popInto_39 : decode cX4_popInto 39 = .ok (.astore_n 3, 1) := by decide +kernel
theorem dX4_popInto_40 : decode cX4_popInto 40 = .ok (.aload_n 3, 1) := by decide +kernel
theorem dX4_popInto_41 : decode cX4_popInto 41 = .ok (.ifnull 8, 3) := by decide +kernel
theorem dX4_popInto_44 : decode cX4_popInto 44 = .ok (.aload_n 1, 1) := by decide +kernel
theorem dX4_popInto_45 : decode cX4_popInto 45 = .ok (.aload_n 3, 1) := by decide +kernel
theorem dX4_popInto_46 : decode cX4_popInto 46 = .ok (.invokevirtual 22, 3) := by decide +kernel
theorem dX4_popInto_49 : decode cX4_popInto 49 = .ok (.aload_n 0, 1) := by decide +kernel
theorem dX4_popInto_50 : decode cX4_popInto 50 = .ok (.iload_n 2, 1) := by decide +kernel
theorem dX4_popInto_51 : decode cX4_popInto 51 = .ok (.putfield 17, 3) := by decide +kernel
theorem dX4_popInto_54 : decode cX4_popInto 54 = .ok (.aload_n 0, 1) := by decide +kernel
theorem dX4_popInto_55 : decode cX4_popInto 55 = .ok (.dup, 1) := by decide +kernel
theorem dX4_popInto_56 : decode cX4_popInto 56 = .ok (.getfield 26, 3) := by decide +kernel
theorem dX4_popInto_59 : decode cX4_popInto 59 = .ok (.iconst 1, 1) := by decide +kernel
theorem dX4_popInto_60 : decode cX4_popInto 60 = .ok (.isub, 1) := by decide +kernel
theorem dX4_popInto_61 : decode cX4_popInto 61 = .ok (.putfield 26, 3) := by decide +kernel
theorem dX4_popInto_64 : decode cX4_popInto 64 = .ok (.return_, 1) := by decide +kernel
theorem dJxf58ca_isNaN_12338_0 : decode cJxf58ca_isNaN_12338 0 = .ok (.fload_n 0, 1) := by decide +kernel
theorem dJxf58ca_isNaN_12338_1 : decode cJxf58ca_isNaN_12338 1 = .ok (.fload_n 0, 1) := by decide +kernel
theorem dJxf58ca_isNaN_12338_2 : decode cJxf58ca_isNaN_12338 2 = .ok (.fcmp .l, 1) := by decide +kernel
theorem dJxf58ca_isNaN_12338_3 : decode cJxf58ca_isNaN_12338 3 = .ok (.ifCond .eq 7, 3) := by decide +kernel
theorem dJxf58ca_isNaN_12338_6 : decode cJxf58ca_isNaN_12338 6 = .ok (.iconst 1, 1) := by decide +kernel
theorem dJxf58ca_isNaN_12338_7 : decode cJxf58ca_isNaN_12338 7 = .ok (.goto 4, 3) := by decide +kernel
theorem dJxf58ca_isNaN_12338_10 : decode cJxf58ca_isNaN_12338 10 = .ok (.iconst 0, 1) := by decide +kernel
theorem dJxf58ca_isNaN_12338_11 : decode cJxf58ca_isNaN_12338 11 = .ok (.ireturn, 1) := by decide +kernel
theorem dJxf58ca_floatToIntBits_5c35a_0 : decode cJxf58ca_floatToIntBits_5c35a 0 = .ok (.fload_n 0, 1) := by decide +kernel
theorem dJxf58ca_floatToIntBits_5c35a_1 : decode cJxf58ca_floatToIntBits_5c35a 1 = .ok (.invokestatic 59, 3) := by decide +kernel
theorem dJxf58ca_floatToIntBits_5c35a_4 : decode cJxf58ca_floatToIntBits_5c35a 4 = .ok (.ifCond .ne 8, 3) := by decide +kernel
theorem dJxf58ca_floatToIntBits_5c35a_7 : decode cJxf58ca_floatToIntBits_5c35a 7 = .ok (.fload_n 0, 1) := by decide +kernel
theorem dJxf58ca_floatToIntBits_5c35a_8 : decode cJxf58ca_floatToIntBits_5c35a 8 = .ok (.invokestatic 74, 3) := by decide +kernel
theorem dJxf58ca_floatToIntBits_5c35a_11 : decode cJxf58ca_floatToIntBits_5c35a 11 = .ok (.ireturn, 1) := by decide +kernel
theorem dJxf58ca_floatToIntBits_5c35a_12 : decode cJxf58ca_floatToIntBits_5c35a 12 = .ok (.ldc 77, 2) := by decide +kernel
theorem dJxf58ca_floatToIntBits_5c35a_14 : decode cJxf58ca_floatToIntBits_5c35a 14 = .ok (.ireturn, 1) := by decide +kernel
theorem dJ6_bitCount_0f7a4_0 : decode cJ6_bitCount_0f7a4 0 = .ok (.iload_n 0, 1) := by decide +kernel
theorem dJ6_bitCount_0f7a4_1 : decode cJ6_bitCount_0f7a4 1 = .ok (.iload_n 0, 1) := by decide +kernel
theorem dJ6_bitCount_0f7a4_2 : decode cJ6_bitCount_0f7a4 2 = .ok (.iconst 1, 1) := by decide +kernel
theorem dJ6_bitCount_0f7a4_3 : decode cJ6_bitCount_0f7a4 3 = .ok (.iushr, 1) := by decide +kernel
theorem dJ6_bitCount_0f7a4_4 : decode cJ6_bitCount_0f7a4 4 = .ok (.ldc_w 265, 3) := by decide +kernel
theorem dJ6_bitCount_0f7a4_7 : decode cJ6_bitCount_0f7a4 7 = .ok (.iand, 1) := by decide +kernel
theorem dJ6_bitCount_0f7a4_8 : decode cJ6_bitCount_0f7a4 8 = .ok (.isub, 1) := by decide +kernel
theorem dJ6_bitCount_0f7a4_9 : decode cJ6_bitCount_0f7a4 9 = .ok (.istore_n 0, 1) := by decide +kernel
theorem dJ6_bitCount_0f7a4_10 : decode cJ6_bitCount_0f7a4 10 = .ok (.iload_n 0, 1) := by decide +kernel
theorem dJ6_bitCount_0f7a4_11 : decode cJ6_bitCount_0f7a4 11 = .ok (.ldc_w 266, 3) := by decide +kernel
theorem dJ6_bitCount_0f7a4_14 : decode cJ6_bitCount_0f7a4 14 = .ok (.iand, 1) := by decide +kernel
theorem dJ6_bitCount_0f7a4_15 : decode cJ6_bitCount_0f7a4 15 = .ok (.iload_n 0, 1) := by decide +kernel
theorem dJ6_bitCount_0f7a4_16 : decode cJ6_bitCount_0f7a4 16 = .ok (.iconst 2, 1) := by decide +kernel
theorem dJ6_bitCount_0f7a4_17 : decode cJ6_bitCount_0f7a4 17 = .ok (.iushr, 1) := by decide +kernel
theorem dJ6_bitCount_0f7a4_18 : decode cJ6_bitCount_0f7a4 18 = .ok (.ldc_w 266, 3) := by decide +kernel
theorem dJ6_bitCount_0f7a4_21 : decode cJ6_bitCount_0f7a4 21 = .ok (.iand, 1) := by decide +kernel
theorem dJ6_bitCount_0f7a4_22 : decode cJ6_bitCount_0f7a4 22 = .ok (.iadd, 1) := by decide +kernel
theorem dJ6_bitCount_0f7a4_23 : decode cJ6_bitCount_0f7a4 23 = .ok (.istore_n 0, 1) := by decide +kernel
theorem dJ6_bitCount_0f7a4_24 : decode cJ6_bitCount_0f7a4 24 = .ok (.iload_n 0, 1) := by decide +kernel
theorem dJ6_bitCount_0f7a4_25 : decode cJ6_bitCount_0f7a4 25 = .ok (.iload_n 0, 1) := by decide +kernel
theorem dJ6_bitCount_0f7a4_26 : decode cJ6_bitCount_0f7a4 26 = .ok (.iconst 4, 1) := by decide +kernel
theorem dJ6_bitCount_0f7a4_27 : decode cJ6_bitCount_0f7a4 27 = .ok (.iushr, 1) := by decide +kernel
theorem dJ6_bitCount_0f7a4_28 : decode cJ6_bitCount_0f7a4 28 = .ok (.iadd, 1) := by decide +kernel
theorem dJ6_bitCount_0f7a4_29 : decode cJ6_bitCount_0f7a4 29 = .ok (.ldc_w 267, 3) := by decide +kernel
theorem dJ6_bitCount_0f7a4_32 : decode cJ6_bitCount_0f7a4 32 = .ok (.iand, 1) := by decide +kernel
theorem dJ6_bitCount_0f7a4_33 : decode cJ6_bitCount_0f7a4 33 = .ok (.istore_n 0, 1) := by decide +kernel
theorem dJ6_bitCount_0f7a4_34 : decode cJ6_bitCount_0f7a4 34 = .ok (.iload_n 0, 1) := by decide +kernel
theorem dJ6_bitCount_0f7a4_35 : decode cJ6_bitCount_0f7a4 35 = .ok (.iload_n 0, 1) := by decide +kernel
theorem dJ6_bitCount_0f7a4_36 : decode cJ6_bitCount_0f7a4 36 = .ok (.bipush 8, 2) := by decide +kernel
theorem dJ6_bitCount_0f7a4_38 : decode cJ6_bitCount_0f7a4 38 = .ok (.iushr, 1) := by decide +kernel
theorem dJ6_bitCount_0f7a4_39 : decode cJ6_bitCount_0f7a4 39 = .ok (.iadd, 1) := by decide +kernel
theorem dJ6_bitCount_0f7a4_40 : decode cJ6_bitCount_0f7a4 40 = .ok (.istore_n 0, 1) := by decide +kernel
theorem dJ6_bitCount_0f7a4_41 : decode cJ6_bitCount_0f7a4 41 = .ok (.iload_n 0, 1) := by decide +kernel
theorem dJ6_bitCount_0f7a4_42 : decode cJ6_bitCount_0f7a4 42 = .ok (.iload_n 0, 1) := by decide +kernel
theorem dJ6_bitCount_0f7a4_43 : decode cJ6_bitCount_0f7a4 43 = .ok (.bipush 16, 2) := by decide +kernel
theorem dJ6_bitCount_0f7a4_45 : decode cJ6_bitCount_0f7a4 45 = .ok (.iushr, 1) := by decide +kernel
theorem dJ6_bitCount_0f7a4_46 : decode cJ6_bitCount_0f7a4 46 = .ok (.iadd, 1) := by decide +kernel
theorem dJ6_bitCount_0f7a4_47 : decode cJ6_bitCount_0f7a4 47 = .ok (.istore_n 0, 1) := by decide +kernel
theorem dJ6_bitCount_0f7a4_48 : decode cJ6_bitCount_0f7a4 48 = .ok (.iload_n 0, 1) := by decide +kernel
theorem dJ6_bitCount_0f7a4_49 : decode cJ6_bitCount_0f7a4 49 = .ok (.bipush 63, 2) := by decide +kernel
theorem dJ6_bitCount_0f7a4_51 : decode cJ6_bitCount_0f7a4 51 = .ok (.iand, 1) := by decide +kernel
theorem dJ6_bitCount_0f7a4_52 : decode cJ6_bitCount_0f7a4 52 = .ok (.ireturn, 1) := by decide +kernel
theorem dJ9_max_7cf53_0 : decode cJ9_max_7cf53 0 = .ok (.iload_n 0, 1) := by decide +kernel
theorem dJ9_max_7cf53_1 : decode cJ9_max_7cf53 1 = .ok (.iload_n 1, 1) := by decide +kernel
theorem dJ9_max_7cf53_2 : decode cJ9_max_7cf53 2 = .ok (.if_icmp .lt 7, 3) := by decide +kernel
theorem dJ9_max_7cf53_5 : decode cJ9_max_7cf53 5 = .ok (.iload_n 0, 1) := by decide +kernel
theorem dJ9_max_7cf53_6 : decode cJ9_max_7cf53 6 = .ok (.goto 4, 3) := by decide +kernel
theorem dJ9_max_7cf53_9 : decode cJ9_max_7cf53 9 = .ok (.iload_n 1, 1) := by decide +kernel
theorem dJ9_max_7cf53_10 : decode cJ9_max_7cf53 10 = .ok (.ireturn, 1) := by decide +kernel
theorem dJ9_min_7cf53_0 : decode cJ9_min_7cf53 0 = .ok (.iload_n 0, 1) := by decide +kernel
theorem dJ9_min_7cf53_1 : decode cJ9_min_7cf53 1 = .ok (.iload_n 1, 1) := by decide +kernel
theorem dJ9_min_7cf53_2 : decode cJ9_min_7cf53 2 = .ok (.if_icmp .gt 7, 3) := by decide +kernel
theorem dJ9_min_7cf53_5 : decode cJ9_min_7cf53 5 = .ok (.iload_n 0, 1) := by decide +kernel
theorem dJ9_min_7cf53_6 : decode cJ9_min_7cf53 6 = .ok (.goto 4, 3) := by decide +kernel
theorem dJ9_min_7cf53_9 : decode cJ9_min_7cf53 9 = .ok (.iload_n 1, 1) := by decide +kernel
theorem dJ9_min_7cf53_10 : decode cJ9_min_7cf53 10 = .ok (.ireturn, 1) := by decide +kernel
theorem dJ7_fill_53178_0 : decode cJ7_fill_53178 0 = .ok (.iconst 0, 1) := by decide +kernel
theorem dJ7_fill_53178_1 : decode cJ7_fill_53178 1 = .ok (.istore_n 2, 1) := by decide +kernel
theorem dJ7_fill_53178_2 : decode cJ7_fill_53178 2 = .ok (.aload_n 0, 1) := by decide +kernel
theorem dJ7_fill_53178_3 : decode cJ7_fill_53178 3 = .ok (.arraylength, 1) := by decide +kernel
theorem dJ7_fill_53178_4 : decode cJ7_fill_53178 4 = .ok (.istore_n 3, 1) := by decide +kernel
theorem dJ7_fill_53178_5 : decode cJ7_fill_53178 5 = .ok (.iload_n 2, 1) := by decide +kernel
theorem dJ7_fill_53178_6 : decode cJ7_fill_53178 6 = .ok (.iload_n 3, 1) := by decide +kernel
theorem dJ7_fill_53178_7 : decode cJ7_fill_53178 7 = .ok (.if_icmp .ge 13, 3) := by decide +kernel
theorem dJ7_fill_53178_10 : decode cJ7_fill_53178 10 = .ok (.aload_n 0, 1) := by decide +kernel
theorem dJ7_fill_53178_11 : decode cJ7_fill_53178 11 = .ok (.iload_n 2, 1) := by decide +kernel
theorem dJ7_fill_53178_12 : decode cJ7_fill_53178 12 = .ok (.iload_n 1, 1) := by decide +kernel
theorem dJ7_fill_53178_13 : decode cJ7_fill_53178 13 = .ok (.iastore, 1) := by decide +kernel
theorem dJ7_fill_53178_14 : decode cJ7_fill_53178 14 = .ok (.iinc 2 1, 3) := by decide +kernel
theorem dJ7_fill_53178_17 : decode cJ7_fill_53178 17 = .ok (.goto (-12), 3) := by decide +kernel
theorem dJ7_fill_53178_20 : decode cJ7_fill_53178 20 = .ok (.return_, 1) := by decide +kernel
end
section
theorem dX5_init_0 : decode cX5_init 0 = .ok (.aload_n 0, 1) := by decide +kernel
theorem dX5_init_1 : decode cX5_init 1 = .ok (.invokespecial 3, 3) := by decide +kernel
theorem dX5_init_4 : decode cX5_init 4 = .ok (.aload_n 0, 1) := by decide +kernel
theorem dX5_init_5 : decode cX5_init 5 = .ok (.new 9, 3) := by decide +kernel
theorem dX5_init_8 : decode cX5_init 8 = .ok (.dup, 1) := by decide +kernel
theorem dX5_init_9 : decode cX5_init 9 = .ok (.invokespecial 11, 3) := by decide +kernel
theorem dX5_init_12 : decode cX5_init 12 = .ok (.putfield 12, 3) := by decide +kernel
theorem dX5_init_15 : decode cX5_init 15 = .ok (.aload_n 0, 1) := by decide +kernel
theorem dX5_init_16 : decode cX5_init 16 = .ok (.new 16, 3) := by decide +kernel
theorem dX5_init_19 : decode cX5_init 19 = .ok (.dup, 1) := by decide +kernel
theorem dX5_init_20 : decode cX5_init 20 = .ok (.invokespecial 18, 3) := by decide +kernel
theorem dX5_init_23 : decode cX5_init 23 = .ok (.putfield 19, 3) := by decide +kernel
theorem dX5_init_26 : decode cX5_init 26 = .ok (.return_, 1) := by decide +kernel
theorem dX5_addNode_0 : decode cX5_addNode 0 = .ok (.aload_n 0, 1) := by decide +kernel
theorem dX5_addNode_1 : decode cX5_addNode 1 = .ok (.getfield 12, 3) := by decide +kernel
theorem dX5_addNode_4 : decode cX5_addNode 4 = .ok (.getfield 23, 3) := by decide +kernel
theorem dX5_addNode_7 : decode cX5_addNode 7 = .ok (.bipush 8, 2) := by decide +kernel
theorem dX5_addNode_9 : decode cX5_addNode 9 = .ok (.if_icmp .lt 13, 3) := by decide +kernel
theorem dX5_addNode_12 : decode cX5_addNode 12 = .ok (.new 27, 3) := by decide +kernel
theorem dX5_addNode_15 : decode cX5_addNode 15 = .ok (.dup, 1) := by decide +kernel
theorem dX5_addNode_16 : decode cX5_addNode 16 = .ok (.ldc 29, 2) := by decide +kernel
theorem dX5_addNode_18 : decode cX5_addNode 18 = .ok (.invokespecial 31, 3) := by decide +kernel
theorem dX5_addNode_21 : decode cX5_addNode 21 = .ok (.athrow, 1) := by decide +kernel
theorem dX5_addNode_22 : decode cX5_addNode 22 = .ok (.aload_n 0, 1) := by decide +kernel
theorem dX5_addNode_23 : decode cX5_addNode 23 = .ok (.getfield 19, 3) := by decide +kernel
theorem dX5_addNode_26 : decode cX5_addNode 26 = .ok (.aload_n 0, 1) := by decide +kernel
theorem dX5_addNode_27 : decode cX5_addNode 27 = .ok (.getfield 12, 3) := by decide +kernel
theorem dX5_addNode_30 : decode cX5_addNode 30 = .ok (.invokevirtual 34, 3) := by decide +kernel
theorem dX5_addNode_33 : decode cX5_addNode 33 = .ok (.aload_n 0, 1) := by decide +kernel
theorem dX5_addNode_34 : decode cX5_addNode 34 = .ok (.getfield 12, 3) := by decide +kernel
theorem dX5_addNode_37 : decode cX5_addNode 37 = .ok (.invokevirtual 38, 3) := by decide +kernel
theorem dX5_addNode_40 : decode cX5_addNode 40 = .ok (.ireturn, 1) := by decide +kernel
theorem dX5_crash_0 : decode cX5_crash 0 = .ok (.aload_n 0, 1) := by decide +kernel
theorem dX5_crash_1 : decode cX5_crash 1 = .ok (.iload_n 1, 1) := by decide +kernel
theorem dX5_crash_2 : decode cX5_crash 2 = .ok (.invokevirtual 42, 3) := by decide +kernel
theorem dX5_crash_5 : decode cX5_crash 5 = .ok (.astore_n 2, 1) := by decide +kernel
theorem dX5_crash_6 : decode cX5_crash 6 = .ok (.aload_n 2, 1) := by decide +kernel
theorem dX5_crash_7 : decode cX5_crash 7 = .ok (.getfield 46, 3) := by decide +kernel
theorem dX5_crash_10 : decode cX5_crash 10 = .ok (.ifCond .ne 13, 3) := by decide +kernel
theorem dX5_crash_13 : decode cX5_crash 13 = .ok (.new 27, 3) := by decide +kernel
theorem dX5_crash_16 : decode cX5_crash 16 = .ok (.dup, 1) := by decide +kernel
theorem dX5_crash_17 : decode cX5_crash 17 = .ok (.ldc 52, 2) := by decide +kernel
theorem dX5_crash_19 : decode cX5_crash 19 = .ok (.invokespecial 31, 3) := by decide +kernel
theorem dX5_crash_22 : decode cX5_crash 22 = .ok (.athrow, 1) := by decide +kernel
theorem dX5_crash_23 : decode cX5_crash 23 = .ok (.aload_n 0, 1) := by decide +kernel
theorem dX5_crash_24 : decode cX5_crash 24 = .ok (.getfield 19, 3) := by decide +kernel
theorem dX5_crash_27 : decode cX5_crash 27 = .ok (.aload_n 0, 1) := by decide +kernel
theorem dX5_crash_28 : decode cX5_crash 28 = .ok (.getfield 12, 3) := by decide +kernel
theorem dX5_crash_31 : decode cX5_crash 31 = .ok (.invokevirtual 34, 3) := by decide +kernel
theorem dX5_crash_34 : decode cX5_crash 34 = .ok (.aload_n 2, 1) := by decide +kernel
theorem dX5_crash_35 : decode cX5_crash 35 = .ok (.getfield 54, 3) := by decide +kernel
theorem dX5_crash_38 : decode cX5_crash 38 = .ok (.istore_n 3, 1) := by decide +kernel
theorem dX5_crash_39 : decode cX5_crash 39 = .ok (.aload_n 2, 1) := by decide +kernel
theorem dX5_crash_40 : decode cX5_crash 40 = .ok (.iconst 0, 1) := by decide +kernel
theorem dX5_crash_41 : decode cX5_crash 41 = .ok (.putfield 46, 3) := by decide +kernel
theorem dX5_crash_44 : decode cX5_crash 44 = .ok (.aload_n 2, 1) := by decide +kernel
theorem dX5_crash_45 : decode cX5_crash 45 = .ok (.iconst 0, 1) := by decide +kernel
theorem dX5_crash_46 : decode cX5_crash 46 = .ok (.putfield 54, 3) := by decide +kernel
theorem dX5_crash_49 : decode cX5_crash 49 = .ok (.iload_n 3, 1) := by decide +kernel
theorem dX5_crash_50 : decode cX5_crash 50 = .ok (.ireturn, 1) := by decide +kernel
theorem dX5_restart_0 : decode cX5_restart 0 = .ok (.aload_n 0, 1) := by decide +kernel
theorem dX5_restart_1 : decode cX5_restart 1 = .ok (.iload_n 1, 1) := by decide +kernel
theorem dX5_restart_2 : decode cX5_restart 2 = .ok (.invokevirtual 42, 3) := by decide +kernel
theorem dX5_restart_5 : decode cX5_restart 5 = .ok (.astore_n 2, 1) := by decide +kernel
theorem dX5_restart_6 : decode cX5_restart 6 = .ok (.aload_n 2, 1) := by decide +kernel
theorem dX5_restart_7 : decode cX5_restart 7 = .ok (.getfield 46, 3) := by decide +kernel
theorem dX5_restart_10 : decode cX5_restart 10 = .ok (.ifCond .eq 13, 3) := by decide +kernel
theorem dX5_restart_13 : decode cX5_restart 13 = .ok (.new 27, 3) := by decide +kernel
theorem dX5_restart_16 : decode cX5_restart 16 = .ok (.dup, 1) := by decide +kernel
theorem dX5_restart_17 : decode cX5_restart 17 = .ok (.ldc 57, 2) := by decide +kernel
theorem dX5_restart_19 : decode cX5_restart 19 = .ok (.invokespecial 31, 3) := by decide +kernel
theorem dX5_restart_22 : decode cX5_restart 22 = .ok (.athrow, 1) := by decide +kernel
theorem dX5_restart_23 : decode cX5_restart 23 = .ok (.aload_n 0, 1) := by decide +kernel
theorem dX5_restart_24 : decode cX5_restart 24 = .ok (.getfield 19, 3) := by decide +kernel
theorem dX5_restart_27 : decode cX5_restart 27 = .ok (.aload_n 0, 1) := by decide +kernel
theorem dX5_restart_28 : decode cX5_restart 28 = .ok (.getfield 12, 3) := by decide +kernel
theorem dX5_restart_31 : decode cX5_restart 31 = .ok (.invokevirtual 34, 3) := by decide +kernel
theorem dX5_restart_34 : decode cX5_restart 34 = .ok (.aload_n 2, 1) := by decide +kernel
theorem dX5_restart_35 : decode cX5_restart 35 = .ok (.iconst 1, 1) := by decide +kernel
theorem dX5_restart_36 : decode cX5_restart 36 = .ok (.putfield 46, 3) := by decide +kernel
theorem dX5_restart_39 : decode cX5_restart 39 = .ok (.aload_n 2, 1) := by decide +kernel
theorem dX5_restart_40 : decode cX5_restart 40 = .ok (.getfield 59, 3) := by decide +kernel
theorem dX5_restart_43 : decode cX5_restart 43 = .ok (.ireturn, 1) := by decide +kernel
theorem dX5_deliver_0 : decode cX5_deliver 0 = .ok (.aload_n 0, 1) := by decide +kernel
theorem dX5_deliver_1 : decode cX5_deliver 1 = .ok (.iload_n 1, 1) := by decide +kernel
theorem dX5_deliver_2 : decode cX5_deliver 2 = .ok (.invokevirtual 42, 3) := by decide +kernel
theorem dX5_deliver_5 : decode cX5_deliver 5 = .ok (.astore_n 2, 1) := by decide +kernel
theorem dX5_deliver_6 : decode cX5_deliver 6 = .ok (.aload_n 2, 1) := by decide +kernel
theorem dX5_deliver_7 : decode cX5_deliver 7 = .ok (.getfield 46, 3) := by decide +kernel
theorem dX5_deliver_10 : decode cX5_deliver 10 = .ok (.ifCond .ne 13, 3) := by decide +kernel
theorem dX5_deliver_13 : decode cX5_deliver 13 = .ok (.new 27, 3) := by decide +kernel
theorem dX5_deliver_16 : decode cX5_deliver 16 = .ok (.dup, 1) := by decide +kernel
theorem dX5_deliver_17 : decode cX5_deliver 17 = .ok (.ldc 62, 2) := by decide +kernel
theorem dX5_deliver_19 : decode cX5_deliver 19 = .ok (.invokespecial 31, 3) := by decide +kernel
theorem dX5_deliver_22 : decode cX5_deliver 22 = .ok (.athrow, 1) := by decide +kernel
theorem dX5_deliver_23 : decode cX5_deliver 23 = .ok (.aload_n 0, 1) := by decide +kernel
theorem dX5_deliver_24 : decode cX5_deliver 24 = .ok (.getfield 19, 3) := by decide +kernel
theorem dX5_deliver_27 : decode cX5_deliver 27 = .ok (.aload_n 0, 1) := by decide +kernel
theorem dX5_deliver_28 : decode cX5_deliver 28 = .ok (.getfield 12, 3) := by decide +kernel
theorem dX5_deliver_31 : decode cX5_deliver 31 = .ok (.invokevirtual 34, 3) := by decide +kernel
theorem dX5_deliver_34 : decode cX5_deliver 34 = .ok (.aload_n 0, 1) := by decide +kernel
theorem dX5_deliver_35 : decode cX5_deliver 35 = .ok (.getfield 12, 3) := by decide +kernel
theorem dX5_deliver_38 : decode cX5_deliver 38 = .ok (.iload_n 1, 1) := by decide +kernel
theorem dX5_deliver_39 : decode cX5_deliver 39 = .ok (.invokevirtual 64, 3) := by decide +kernel
theorem dX5_deliver_42 : decode cX5_deliver 42 = .ok (.ireturn, 1) := by decide +kernel
theorem dX5_deliverAll_0 : decode cX5_deliverAll 0 = .ok (.aload_n 0, 1) := by decide +kernel
theorem dX5_deliverAll_1 : decode cX5_deliverAll 1 = .ok (.getfield 19, 3) := by decide +kernel
theorem dX5_deliverAll_4 : decode cX5_deliverAll 4 = .ok (.aload_n 0, 1) := by decide +kernel
theorem dX5_deliverAll_5 : decode cX5_deliverAll 5 = .ok (.getfield 12, 3) := by decide +kernel
theorem dX5_deliverAll_8 : decode cX5_deliverAll 8 = .ok (.invokevirtual 34, 3) := by decide +kernel
theorem dX5_deliverAll_11 : decode cX5_deliverAll 11 = .ok (.iconst 0, 1) := by decide +kernel
theorem dX5_deliverAll_12 : decode cX5_deliverAll 12 = .ok (.istore_n 1, 1) := by decide +kernel
theorem dX5_deliverAll_13 : decode cX5_deliverAll 13 = .ok (.iconst 0, 1) := by decide +kernel
theorem dX5_deliverAll_14 : decode cX5_deliverAll 14 = .ok (.istore_n 2, 1) := by decide +kernel
theorem dX5_deliverAll_15 : decode cX5_deliverAll 15 = .ok (.iload_n 2, 1) := by decide +kernel
theorem dX5_deliverAll_16 : decode cX5_deliverAll 16 = .ok (.bipush 100, 2) := by decide +kernel
theorem dX5_deliverAll_18 : decode cX5_deliverAll 18 = .ok (.if_icmp .ge 64, 3) := by decide +kernel
theorem dX5_deliverAll_21 : decode cX5_deliverAll 21 = .ok (.aload_n 0, 1) := by decide +kernel
theorem dX5_deliverAll_22 : decode cX5_deliverAll 22 = .ok (.getfield 12, 3) := by decide +kernel
theorem dX5_deliverAll_25 : decode cX5_deliverAll 25 = .ok (.invokevirtual 68, 3) := by decide +kernel
theorem dX5_deliverAll_28 : decode cX5_deliverAll 28 = .ok (.ifCond .eq 54, 3) := by decide +kernel
theorem dX5_deliverAll_31 : decode cX5_deliverAll 31 = .ok (.iconst 0, 1) := by decide +kernel
theorem dX5_deliverAll_32 : decode cX5_deliverAll 32 = .ok (.istore_n 3, 1) := by decide +kernel
theorem dX5_deliverAll_33 : decode cX5_deliverAll 33 = .ok (.iload_n 3, 1) := by decide +kernel
theorem dX5_deliverAll_34 : decode cX5_deliverAll 34 = .ok (.aload_n 0, 1) := by decide +kernel
theorem dX5_deliverAll_35 : decode cX5_deliverAll 35 = .ok (.getfield 12, 3) := by decide +kernel
theorem dX5_deliverAll_38 : decode cX5_deliverAll 38 = .ok (.getfield 23, 3) := by decide +kernel
theorem dX5_deliverAll_41 : decode cX5_deliverAll 41 = .ok (.if_icmp .ge 35, 3) := by decide +kernel
theorem dX5_deliverAll_44 : decode cX5_deliverAll 44 = .ok (.aload_n 0, 1) := by decide +kernel
theorem dX5_deliverAll_45 : decode cX5_deliverAll 45 = .ok (.getfield 12, 3) := by decide +kernel
theorem dX5_deliverAll_48 : decode cX5_deliverAll 48 = .ok (.iload_n 3, 1) := by decide +kernel
theorem dX5_deliverAll_49 : decode cX5_deliverAll 49 = .ok (.invokevirtual 72, 3) := by decide +kernel
theorem dX5_deliverAll_52 : decode cX5_deliverAll 52 = .ok (.ifCond .eq 18, 3) := by decide +kernel
theorem dX5_deliverAll_55 : decode cX5_deliverAll 55 = .ok (.aload_n 0, 1) := by decide +kernel
theorem dX5_deliverAll_56 : decode cX5_deliverAll 56 = .ok (.getfield 12, 3) := by decide +kernel
theorem dX5_deliverAll_59 : decode cX5_deliverAll 59 = .ok (.iload_n 3, 1) := by decide +kernel
theorem dX5_deliverAll_60 : decode cX5_deliverAll 60 = .ok (.invokevirtual 64, 3) := by decide +kernel
theorem dX5_deliverAll_63 : decode cX5_deliverAll 63 = .ok (.iconst 1, 1) := by decide +kernel
theorem dX5_deliverAll_64 : decode cX5_deliverAll 64 = .ok (.if_icmp .ne 6, 3) := by decide +kernel
theorem dX5_deliverAll_67 : decode cX5_deliverAll 67 = .ok (.iinc 1 1, 3) := by decide +kernel
theorem dX5_deliverAll_70 : decode cX5_deliverAll 70 = .ok (.iinc 3 1, 3) := by decide +kernel
theorem dX5_deliverAll_73 : decode cX5_deliverAll 73 = .ok (.goto (-40), 3) := by decide +kernel
theorem dX5_deliverAll_76 : decode cX5_deliverAll 76 = .ok (.iinc 2 1, 3) := by decide +kernel
theorem dX5_deliverAll_79 : decode cX5_deliverAll 79 = .ok (.goto (-64), 3) := by decide +kernel
theorem dX5_deliverAll_82 : decode cX5_deliverAll 82 = .ok (.iload_n 1, 1) := by decide +kernel
theorem dX5_deliverAll_83 : decode cX5_deliverAll 83 = .ok (.ireturn, 1) := by decide +kernel
theorem dX5_inboxLength_0 : decode cX5_inboxLength 0 = .ok (.aload_n 0, 1) := by decide +kernel
theorem dX5_inboxLength_1 : decode cX5_inboxLength 1 = .ok (.iload_n 1, 1) := by decide +kernel
theorem dX5_inboxLength_2 : decode cX5_inboxLength 2 = .ok (.invokevirtual 42, 3) := by decide +kernel
theorem dX5_inboxLength_5 : decode cX5_inboxLength 5 = .ok (.getfield 54, 3) := by decide +kernel
theorem dX5_inboxLength_8 : decode cX5_inboxLength 8 = .ok (.ireturn, 1) := by decide +kernel
theorem dX5_weight_0 : decode cX5_weight 0 = .ok (.aload_n 0, 1) := by decide +kernel
theorem dX5_weight_1 : decode cX5_weight 1 = .ok (.iload_n 1, 1) := by decide +kernel
theorem dX5_weight_2 : decode cX5_weight 2 = .ok (.invokevirtual 42, 3) := by decide +kernel
theorem dX5_weight_5 : decode cX5_weight 5 = .ok (.getfield 59, 3) := by decide +kernel
theorem dX5_weight_8 : decode cX5_weight 8 = .ok (.ireturn, 1) := by decide +kernel
theorem dX5_share_0 : decode cX5_share 0 = .ok (.aload_n 0, 1) := by decide +kernel
theorem dX5_share_1 : decode cX5_share 1 = .ok (.aload_n 0, 1) := by decide +kernel
theorem dX5_share_2 : decode cX5_share 2 = .ok (.iload_n 1, 1) := by decide +kernel
theorem dX5_share_3 : decode cX5_share 3 = .ok (.invokevirtual 42, 3) := by decide +kernel
theorem dX5_share_6 : decode cX5_share 6 = .ok (.invokevirtual 76, 3) := by decide +kernel
theorem dX5_share_9 : decode cX5_share 9 = .ok (.freturn, 1) := by decide +kernel
theorem dX5_isFenced_0 : decode cX5_isFenced 0 = .ok (.aload_n 0, 1) := by decide +kernel
theorem dX5_isFenced_1 : decode cX5_isFenced 1 = .ok (.iload_n 1, 1) := by decide +kernel
theorem dX5_isFenced_2 : decode cX5_isFenced 2 = .ok (.invokevirtual 42, 3) := by decide +kernel
theorem dX5_isFenced_5 : decode cX5_isFenced 5 = .ok (.astore_n 3, 1) := by decide +kernel
theorem dX5_isFenced_6 : decode cX5_isFenced 6 = .ok (.aload_n 0, 1) := by decide +kernel
theorem dX5_isFenced_7 : decode cX5_isFenced 7 = .ok (.iload_n 2, 1) := by decide +kernel
theorem dX5_isFenced_8 : decode cX5_isFenced 8 = .ok (.invokevirtual 80, 3) := by decide +kernel
theorem dX5_isFenced_11 : decode cX5_isFenced 11 = .ok (.pop, 1) := by decide +kernel
theorem dX5_isFenced_12 : decode cX5_isFenced 12 = .ok (.aload_n 3, 1) := by decide +kernel
theorem dX5_isFenced_13 : decode cX5_isFenced 13 = .ok (.iload_n 2, 1) := by decide +kernel
theorem dX5_isFenced_14 : decode cX5_isFenced 14 = .ok (.invokevirtual 84, 3) := by decide +kernel
theorem dX5_isFenced_17 : decode cX5_isFenced 17 = .ok (.ireturn, 1) := by decide +kernel
theorem dX5_rejections_0 : decode cX5_rejections 0 = .ok (.aload_n 0, 1) := by decide +kernel
theorem dX5_rejections_1 : decode cX5_rejections 1 = .ok (.getfield 12, 3) := by decide +kernel
theorem dX5_rejections_4 : decode cX5_rejections 4 = .ok (.getfield 87, 3) := by decide +kernel
theorem dX5_rejections_7 : decode cX5_rejections 7 = .ok (.ireturn, 1) := by decide +kernel
theorem dX5_createLedger_0 : decode cX5_createLedger 0 = .ok (.iload_n 1, 1) := by decide +kernel
theorem dX5_createLedger_1 : decode cX5_createLedger 1 = .ok (.iconst 1, 1) := by decide +kernel
theorem dX5_createLedger_2 : decode cX5_createLedger 2 = .ok (.if_icmp .lt 8, 3) := by decide +kernel
theorem dX5_createLedger_5 : decode cX5_createLedger 5 = .ok (.iload_n 1, 1) := by decide +kernel
theorem dX5_createLedger_6 : decode cX5_createLedger 6 = .ok (.iconst 5, 1) := by decide +kernel
theorem dX5_createLedger_7 : decode cX5_createLedger 7 = .ok (.if_icmp .le 13, 3) := by decide +kernel
theorem dX5_createLedger_10 : decode cX5_createLedger 10 = .ok (.new 90, 3) := by decide +kernel
theorem dX5_createLedger_13 : decode cX5_createLedger 13 = .ok (.dup, 1) := by decide +kernel
theorem dX5_createLedger_14 : decode cX5_createLedger 14 = .ok (.ldc 92, 2) := by decide +kernel
theorem dX5_createLedger_16 : decode cX5_createLedger 16 = .ok (.invokespecial 94, 3) := by decide +kernel
theorem dX5_createLedger_19 : decode cX5_createLedger 19 = .ok (.athrow, 1) := by decide +kernel
theorem dX5_createLedger_20 : decode cX5_createLedger 20 = .ok (.iload_n 2, 1) := by decide +kernel
theorem dX5_createLedger_21 : decode cX5_createLedger 21 = .ok (.iconst 1, 1) := by decide +kernel
theorem dX5_createLedger_22 : decode cX5_createLedger 22 = .ok (.if_icmp .lt 8, 3) := by decide +kernel
theorem dX5_createLedger_25 : decode cX5_createLedger 25 = .ok (.iload_n 2, 1) := by decide +kernel
theorem dX5_createLedger_26 : decode cX5_createLedger 26 = .ok (.iload_n 1, 1) := by decide +kernel
theorem dX5_createLedger_27 : decode cX5_createLedger 27 = .ok (.if_icmp .le 13, 3) := by decide +kernel
theorem dX5_createLedger_30 : decode cX5_createLedger 30 = .ok (.new 90, 3) := by decide +kernel
theorem dX5_createLedger_33 : decode cX5_createLedger 33 = .ok (.dup, 1) := by decide +kernel
theorem dX5_createLedger_34 : decode cX5_createLedger 34 = .ok (.ldc 95, 2) := by decide +kernel
theorem dX5_createLedger_36 : decode cX5_createLedger 36 = .ok (.invokespecial 94, 3) := by decide +kernel
theorem dX5_createLedger_39 : decode cX5_createLedger 39 = .ok (.athrow, 1) := by decide +kernel
theorem dX5_createLedger_40 : decode cX5_createLedger 40 = .ok (.iload_n 3, 1) := by decide +kernel
theorem dX5_createLedger_41 : decode cX5_createLedger 41 = .ok (.iconst 1, 1) := by decide +kernel
theorem dX5_createLedger_42 : decode cX5_createLedger 42 = .ok (.if_icmp .lt 8, 3) := by decide +kernel
theorem dX5_createLedger_45 : decode cX5_createLedger 45 = .ok (.iload_n 3, 1) := by decide +kernel
theorem dX5_createLedger_46 : decode cX5_createLedger 46 = .ok (.iload_n 2, 1) := by decide +kernel
theorem dX5_createLedger_47 : decode cX5_createLedger 47 = .ok (.if_icmp .le 13, 3) := by decide +kernel
theorem dX5_createLedger_50 : decode cX5_createLedger 50 = .ok (.new 90, 3) := by decide +kernel
theorem dX5_createLedger_53 : decode cX5_createLedger 53 = .ok (.dup, 1) := by decide +kernel
theorem dX5_createLedger_54 : decode cX5_createLedger 54 = .ok (.ldc 97, 2) := by decide +kernel
theorem dX5_createLedger_56 : decode cX5_createLedger 56 = .ok (.invokespecial 94, 3) := by decide +kernel
theorem dX5_createLedger_59 : decode cX5_createLedger 59 = .ok (.athrow, 1) := by decide +kernel
theorem dX5_createLedger_60 : decode cX5_createLedger 60 = .ok (.aload_n 0, 1) := by decide +kernel
theorem dX5_createLedger_61 : decode cX5_createLedger 61 = .ok (.getfield 12, 3) := by decide +kernel
theorem dX5_createLedger_64 : decode cX5_createLedger 64 = .ok (.getfield 99, 3) := by decide +kernel
theorem dX5_createLedger_67 : decode cX5_createLedger 67 = .ok (.iconst 4, 1) := by decide +kernel
theorem dX5_createLedger_68 : decode cX5_createLedger 68 = .ok (.if_icmp .lt 13, 3) := by decide +kernel
theorem dX5_createLedger_71 : decode cX5_createLedger 71 = .ok (.new 27, 3) := by decide +kernel
theorem dX5_createLedger_74 : decode cX5_createLedger 74 = .ok (.dup, 1) := by decide +kernel
theorem dX5_createLedger_75 : decode cX5_createLedger 75 = .ok (.ldc 102, 2) := by decide +kernel
theorem dX5_createLedger_77 : decode cX5_createLedger 77 = .ok (.invokespecial 31, 3) := by decide +kernel
theorem dX5_createLedger_80 : decode cX5_createLedger 80 = .ok (.athrow, 1) := by decide +kernel
theorem dX5_createLedger_81 : decode cX5_createLedger 81 = .ok (.aload_n 0, 1) := by decide +kernel
theorem dX5_createLedger_82 : decode cX5_createLedger 82 = .ok (.getfield 12, 3) := by decide +kernel
theorem dX5_createLedger_85 : decode cX5_createLedger 85 = .ok (.invokevirtual 104, 3) := by decide +kernel
theorem dX5_createLedger_88 : decode cX5_createLedger 88 = .ok (.invokestatic 107, 3) := by decide +kernel
theorem dX5_createLedger_91 : decode cX5_createLedger 91 = .ok (.iload_n 1, 1) := by decide +kernel
theorem dX5_createLedger_92 : decode cX5_createLedger 92 = .ok (.if_icmp .ge 13, 3) := by decide +kernel
theorem dX5_createLedger_95 : decode cX5_createLedger 95 = .ok (.new 27, 3) := by decide +kernel
theorem dX5_createLedger_98 : decode cX5_createLedger 98 = .ok (.dup, 1) := by decide +kernel
theorem dX5_createLedger_99 : decode cX5_createLedger 99 = .ok (.ldc 112, 2) := by decide +kernel
theorem dX5_createLedger_101 : decode cX5_createLedger 101 = .ok (.invokespecial 31, 3) := by decide +kernel
theorem dX5_createLedger_104 : decode cX5_createLedger 104 = .ok (.athrow, 1) := by decide +kernel
theorem dX5_createLedger_105 : decode cX5_createLedger 105 = .ok (.aload_n 0, 1) := by decide +kernel
theorem dX5_createLedger_106 : decode cX5_createLedger 106 = .ok (.getfield 19, 3) := by decide +kernel
theorem dX5_createLedger_109 : decode cX5_createLedger 109 = .ok (.aload_n 0, 1) := by decide +kernel
theorem dX5_createLedger_110 : decode cX5_createLedger 110 = .ok (.getfield 12, 3) := by decide +kernel
theorem dX5_createLedger_113 : decode cX5_createLedger 113 = .ok (.invokevirtual 34, 3) := by decide +kernel
theorem dX5_createLedger_116 : decode cX5_createLedger 116 = .ok (.aload_n 0, 1) := by decide +kernel
theorem dX5_createLedger_117 : decode cX5_createLedger 117 = .ok (.getfield 12, 3) := by decide +kernel
theorem dX5_createLedger_120 : decode cX5_createLedger 120 = .ok (.iload_n 1, 1) := by decide +kernel
theorem dX5_createLedger_121 : decode cX5_createLedger 121 = .ok (.iload_n 2, 1) := by decide +kernel
theorem dX5_createLedger_122 : decode cX5_createLedger 122 = .ok (.iload_n 3, 1) := by decide +kernel
theorem dX5_createLedger_123 : decode cX5_createLedger 123 = .ok (.invokevirtual 114, 3) := by decide +kernel
theorem dX5_createLedger_126 : decode cX5_createLedger 126 = .ok (.ireturn, 1) := by decide +kernel
theorem dX5_append_0 : decode cX5_append 0 = .ok (.aload_n 0, 1) := by decide +kernel
theorem dX5_append_1 : decode cX5_append 1 = .ok (.iload_n 1, 1) := by decide +kernel
theorem dX5_append_2 : decode cX5_append 2 = .ok (.invokevirtual 80, 3) := by decide +kernel
theorem dX5_append_5 : decode cX5_append 5 = .ok (.astore_n 3, 1) := by decide +kernel
theorem dX5_append_6 : decode cX5_append 6 = .ok (.iload_n 2, 1) := by decide +kernel
theorem dX5_append_7 : decode cX5_append 7 = .ok (.ifCond .lt 10, 3) := by decide +kernel
theorem dX5_append_10 : decode cX5_append 10 = .ok (.iload_n 2, 1) := by decide +kernel
theorem dX5_append_11 : decode cX5_append 11 = .ok (.sipush 999, 3) := by decide +kernel
theorem dX5_append_14 : decode cX5_append 14 = .ok (.if_icmp .le 13, 3) := by decide +kernel
theorem dX5_append_17 : decode cX5_append 17 = .ok (.new 90, 3) := by decide +kernel
theorem dX5_append_20 : decode cX5_append 20 = .ok (.dup, 1) := by decide +kernel
theorem dX5_append_21 : decode cX5_append 21 = .ok (.ldc 118, 2) := by decide +kernel
theorem dX5_append_23 : decode cX5_append 23 = .ok (.invokespecial 94, 3) := by decide +kernel
theorem dX5_append_26 : decode cX5_append 26 = .ok (.athrow, 1) := by decide +kernel
theorem dX5_append_27 : decode cX5_append 27 = .ok (.aload_n 3, 1) := by decide +kernel
theorem dX5_append_28 : decode cX5_append 28 = .ok (.getfield 120, 3) := by decide +kernel
theorem dX5_append_31 : decode cX5_append 31 = .ok (.ifCond .eq 13, 3) := by decide +kernel
theorem dX5_append_34 : decode cX5_append 34 = .ok (.new 27, 3) := by decide +kernel
theorem dX5_append_37 : decode cX5_append 37 = .ok (.dup, 1) := by decide +kernel
theorem dX5_append_38 : decode cX5_append 38 = .ok (.ldc 125, 2) := by decide +kernel
theorem dX5_append_40 : decode cX5_append 40 = .ok (.invokespecial 31, 3) := by decide +kernel
theorem dX5_append_43 : decode cX5_append 43 = .ok (.athrow, 1) := by decide +kernel
theorem dX5_append_44 : decode cX5_append 44 = .ok (.aload_n 3, 1) := by decide +kernel
theorem dX5_append_45 : decode cX5_append 45 = .ok (.getfield 127, 3) := by decide +kernel
theorem dX5_append_48 : decode cX5_append 48 = .ok (.bipush 40, 2) := by decide +kernel
theorem dX5_append_50 : decode cX5_append 50 = .ok (.if_icmp .lt 13, 3) := by decide +kernel
theorem dX5_append_53 : decode cX5_append 53 = .ok (.new 27, 3) := by decide +kernel
theorem dX5_append_56 : decode cX5_append 56 = .ok (.dup, 1) := by decide +kernel
theorem dX5_append_57 : decode cX5_append 57 = .ok (.ldc 130, 2) := by decide +kernel
theorem dX5_append_59 : decode cX5_append 59 = .ok (.invokespecial 31, 3) := by decide +kernel
theorem dX5_append_62 : decode cX5_append 62 = .ok (.athrow, 1) := by decide +kernel
theorem dX5_append_63 : decode cX5_append 63 = .ok (.aload_n 0, 1) := by decide +kernel
theorem dX5_append_64 : decode cX5_append 64 = .ok (.getfield 19, 3) := by decide +kernel
theorem dX5_append_67 : decode cX5_append 67 = .ok (.aload_n 0, 1) := by decide +kernel
theorem dX5_append_68 : decode cX5_append 68 = .ok (.getfield 12, 3) := by decide +kernel
theorem dX5_append_71 : decode cX5_append 71 = .ok (.invokevirtual 34, 3) := by decide +kernel
theorem dX5_append_74 : decode cX5_append 74 = .ok (.aload_n 0, 1) := by decide +kernel
theorem dX5_append_75 : decode cX5_append 75 = .ok (.getfield 12, 3) := by decide +kernel
theorem dX5_append_78 : decode cX5_append 78 = .ok (.aload_n 3, 1) := by decide +kernel
theorem dX5_append_79 : decode cX5_append 79 = .ok (.iload_n 2, 1) := by decide +kernel
theorem dX5_append_80 : decode cX5_append 80 = .ok (.invokevirtual 132, 3) := by decide +kernel
theorem dX5_append_83 : decode cX5_append 83 = .ok (.ireturn, 1) := by decide +kernel
theorem dX5_replace_0 : decode cX5_replace 0 = .ok (.aload_n 0, 1) := by decide +kernel
theorem dX5_replace_1 : decode cX5_replace 1 = .ok (.iload_n 1, 1) := by decide +kernel
theorem dX5_replace_2 : decode cX5_replace 2 = .ok (.invokevirtual 80, 3) := by decide +kernel
theorem dX5_replace_5 : decode cX5_replace 5 = .ok (.astore_n 3, 1) := by decide +kernel
theorem dX5_replace_6 : decode cX5_replace 6 = .ok (.iload_n 2, 1) := by decide +kernel
theorem dX5_replace_7 : decode cX5_replace 7 = .ok (.ifCond .lt 11, 3) := by decide +kernel
theorem dX5_replace_10 : decode cX5_replace 10 = .ok (.iload_n 2, 1) := by decide +kernel
theorem dX5_replace_11 : decode cX5_replace 11 = .ok (.aload_n 3, 1) := by decide +kernel
theorem dX5_replace_12 : decode cX5_replace 12 = .ok (.getfield 136, 3) := by decide +kernel
theorem dX5_replace_15 : decode cX5_replace 15 = .ok (.if_icmp .lt 13, 3) := by decide +kernel
theorem dX5_replace_18 : decode cX5_replace 18 = .ok (.new 90, 3) := by decide +kernel
theorem dX5_replace_21 : decode cX5_replace 21 = .ok (.dup, 1) := by decide +kernel
theorem dX5_replace_22 : decode cX5_replace 22 = .ok (.ldc 139, 2) := by decide +kernel
theorem dX5_replace_24 : decode cX5_replace 24 = .ok (.invokespecial 94, 3) := by decide +kernel
theorem dX5_replace_27 : decode cX5_replace 27 = .ok (.athrow, 1) := by decide +kernel
theorem dX5_replace_28 : decode cX5_replace 28 = .ok (.aload_n 3, 1) := by decide +kernel
theorem dX5_replace_29 : decode cX5_replace 29 = .ok (.getfield 120, 3) := by decide +kernel
theorem dX5_replace_32 : decode cX5_replace 32 = .ok (.ifCond .eq 13, 3) := by decide +kernel
theorem dX5_replace_35 : decode cX5_replace 35 = .ok (.new 27, 3) := by decide +kernel
theorem dX5_replace_38 : decode cX5_replace 38 = .ok (.dup, 1) := by decide +kernel
theorem dX5_replace_39 : decode cX5_replace 39 = .ok (.ldc 125, 2) := by decide +kernel
theorem dX5_replace_41 : decode cX5_replace 41 = .ok (.invokespecial 31, 3) := by decide +kernel
theorem dX5_replace_44 : decode cX5_replace 44 = .ok (.athrow, 1) := by decide +kernel
theorem dX5_replace_45 : decode cX5_replace 45 = .ok (.aload_n 0, 1) := by decide +kernel
theorem dX5_replace_46 : decode cX5_replace 46 = .ok (.getfield 12, 3) := by decide +kernel
theorem dX5_replace_49 : decode cX5_replace 49 = .ok (.aload_n 3, 1) := by decide +kernel
theorem dX5_replace_50 : decode cX5_replace 50 = .ok (.aload_n 3, 1) := by decide +kernel
theorem dX5_replace_51 : decode cX5_replace 51 = .ok (.invokevirtual 141, 3) := by decide +kernel
theorem dX5_replace_54 : decode cX5_replace 54 = .ok (.invokevirtual 144, 3) := by decide +kernel
theorem dX5_replace_57 : decode cX5_replace 57 = .ok (.invokevirtual 147, 3) := by decide +kernel
theorem dX5_replace_60 : decode cX5_replace 60 = .ok (.istore 4, 2) := by decide +kernel
theorem dX5_replace_62 : decode cX5_replace 62 = .ok (.iload 4, 2) := by decide +kernel
theorem dX5_replace_64 : decode cX5_replace 64 = .ok (.iconst (-1), 1) := by decide +kernel
theorem dX5_replace_65 : decode cX5_replace 65 = .ok (.if_icmp .ne 13, 3) := by decide +kernel
theorem dX5_replace_68 : decode cX5_replace 68 = .ok (.new 27, 3) := by decide +kernel
theorem dX5_replace_71 : decode cX5_replace 71 = .ok (.dup, 1) := by decide +kernel
theorem dX5_replace_72 : decode cX5_replace 72 = .ok (.ldc 150, 2) := by decide +kernel
theorem dX5_replace_74 : decode cX5_replace 74 = .ok (.invokespecial 31, 3) := by decide +kernel
theorem dX5_replace_77 : decode cX5_replace 77 = .ok (.athrow, 1) := by decide +kernel
theorem dX5_replace_78 : decode cX5_replace 78 = .ok (.aload_n 0, 1) := by decide +kernel
theorem dX5_replace_79 : decode cX5_replace 79 = .ok (.getfield 19, 3) := by decide +kernel
theorem dX5_replace_82 : decode cX5_replace 82 = .ok (.aload_n 0, 1) := by decide +kernel
theorem dX5_replace_83 : decode cX5_replace 83 = .ok (.getfield 12, 3) := by decide +kernel
theorem dX5_replace_86 : decode cX5_replace 86 = .ok (.invokevirtual 34, 3) := by decide +kernel
theorem dX5_replace_89 : decode cX5_replace 89 = .ok (.aload_n 0, 1) := by decide +kernel
theorem dX5_replace_90 : decode cX5_replace 90 = .ok (.getfield 12, 3) := by decide +kernel
theorem dX5_replace_93 : decode cX5_replace 93 = .ok (.aload_n 3, 1) := by decide +kernel
theorem dX5_replace_94 : decode cX5_replace 94 = .ok (.iload_n 2, 1) := by decide +kernel
theorem dX5_replace_95 : decode cX5_replace 95 = .ok (.iload 4, 2) := by decide +kernel
theorem dX5_replace_97 : decode cX5_replace 97 = .ok (.invokevirtual 152, 3) := by decide +kernel
theorem dX5_replace_100 : decode cX5_replace 100 = .ok (.iload 4, 2) := by decide +kernel
theorem dX5_replace_102 : decode cX5_replace 102 = .ok (.ireturn, 1) := by decide +kernel
theorem dX5_recover_0 : decode cX5_recover 0 = .ok (.aload_n 0, 1) := by decide +kernel
theorem dX5_recover_1 : decode cX5_recover 1 = .ok (.iload_n 1, 1) := by decide +kernel
theorem dX5_recover_2 : decode cX5_recover 2 = .ok (.invokevirtual 80, 3) := by decide +kernel
theorem dX5_recover_5 : decode cX5_recover 5 = .ok (.astore_n 2, 1) := by decide +kernel
theorem dX5_recover_6 : decode cX5_recover 6 = .ok (.aload_n 2, 1) := by decide +kernel
theorem dX5_recover_7 : decode cX5_recover 7 = .ok (.getfield 120, 3) := by decide +kernel
theorem dX5_recover_10 : decode cX5_recover 10 = .ok (.iconst 2, 1) := by decide +kernel
theorem dX5_recover_11 : decode cX5_recover 11 = .ok (.if_icmp .ne 13, 3) := by decide +kernel
theorem dX5_recover_14 : decode cX5_recover 14 = .ok (.new 27, 3) := by decide +kernel
theorem dX5_recover_17 : decode cX5_recover 17 = .ok (.dup, 1) := by decide +kernel
theorem dX5_recover_18 : decode cX5_recover 18 = .ok (.ldc 156, 2) := by decide +kernel
theorem dX5_recover_20 : decode cX5_recover 20 = .ok (.invokespecial 31, 3) := by decide +kernel
theorem dX5_recover_23 : decode cX5_recover 23 = .ok (.athrow, 1) := by decide +kernel
theorem dX5_recover_24 : decode cX5_recover 24 = .ok (.aload_n 0, 1) := by decide +kernel
theorem dX5_recover_25 : decode cX5_recover 25 = .ok (.getfield 19, 3) := by decide +kernel
theorem dX5_recover_28 : decode cX5_recover 28 = .ok (.aload_n 0, 1) := by decide +kernel
theorem dX5_recover_29 : decode cX5_recover 29 = .ok (.getfield 12, 3) := by decide +kernel
theorem dX5_recover_32 : decode cX5_recover 32 = .ok (.invokevirtual 34, 3) := by decide +kernel
theorem dX5_recover_35 : decode cX5_recover 35 = .ok (.aload_n 0, 1) := by decide +kernel
theorem dX5_recover_36 : decode cX5_recover 36 = .ok (.getfield 12, 3) := by decide +kernel
theorem dX5_recover_39 : decode cX5_recover 39 = .ok (.aload_n 2, 1) := by decide +kernel
theorem dX5_recover_40 : decode cX5_recover 40 = .ok (.invokevirtual 158, 3) := by decide +kernel
theorem dX5_recover_43 : decode cX5_recover 43 = .ok (.ireturn, 1) := by decide +kernel
theorem dX5_repair_0 : decode cX5_repair 0 = .ok (.aload_n 0, 1) := by decide +kernel
theorem dX5_repair_1 : decode cX5_repair 1 = .ok (.iload_n 1, 1) := by decide +kernel
theorem dX5_repair_2 : decode cX5_repair 2 = .ok (.invokevirtual 80, 3) := by decide +kernel
theorem dX5_repair_5 : decode cX5_repair 5 = .ok (.astore_n 2, 1) := by decide +kernel
theorem dX5_repair_6 : decode cX5_repair 6 = .ok (.aload_n 2, 1) := by decide +kernel
theorem dX5_repair_7 : decode cX5_repair 7 = .ok (.getfield 120, 3) := by decide +kernel
theorem dX5_repair_10 : decode cX5_repair 10 = .ok (.iconst 2, 1) := by decide +kernel
theorem dX5_repair_11 : decode cX5_repair 11 = .ok (.if_icmp .eq 13, 3) := by decide +kernel
theorem dX5_repair_14 : decode cX5_repair 14 = .ok (.new 27, 3) := by decide +kernel
theorem dX5_repair_17 : decode cX5_repair 17 = .ok (.dup, 1) := by decide +kernel
theorem dX5_repair_18 : decode cX5_repair 18 = .ok (.ldc 162, 2) := by decide +kernel
theorem dX5_repair_20 : decode cX5_repair 20 = .ok (.invokespecial 31, 3) := by decide +kernel
theorem dX5_repair_23 : decode cX5_repair 23 = .ok (.athrow, 1) := by decide +kernel
theorem dX5_repair_24 : decode cX5_repair 24 = .ok (.aload_n 0, 1) := by decide +kernel
theorem dX5_repair_25 : decode cX5_repair 25 = .ok (.getfield 19, 3) := by decide +kernel
theorem dX5_repair_28 : decode cX5_repair 28 = .ok (.aload_n 0, 1) := by decide +kernel
theorem dX5_repair_29 : decode cX5_repair 29 = .ok (.getfield 12, 3) := by decide +kernel
theorem dX5_repair_32 : decode cX5_repair 32 = .ok (.invokevirtual 34, 3) := by decide +kernel
theorem dX5_repair_35 : decode cX5_repair 35 = .ok (.aload_n 0, 1) := by decide +kernel
theorem dX5_repair_36 : decode cX5_repair 36 = .ok (.getfield 12, 3) := by decide +kernel
theorem dX5_repair_39 : decode cX5_repair 39 = .ok (.aload_n 2, 1) := by decide +kernel
theorem dX5_repair_40 : decode cX5_repair 40 = .ok (.invokevirtual 164, 3) := by decide +kernel
theorem dX5_repair_43 : decode cX5_repair 43 = .ok (.aload_n 0, 1) := by decide +kernel
theorem dX5_repair_44 : decode cX5_repair 44 = .ok (.getfield 12, 3) := by decide +kernel
theorem dX5_repair_47 : decode cX5_repair 47 = .ok (.aload_n 2, 1) := by decide +kernel
theorem dX5_repair_48 : decode cX5_repair 48 = .ok (.invokevirtual 168, 3) := by decide +kernel
theorem dX5_repair_51 : decode cX5_repair 51 = .ok (.ireturn, 1) := by decide +kernel
theorem dX5_read_0 : decode cX5_read 0 = .ok (.aload_n 0, 1) := by decide +kernel
theorem dX5_read_1 : decode cX5_read 1 = .ok (.iload_n 1, 1) := by decide +kernel
theorem dX5_read_2 : decode cX5_read 2 = .ok (.invokevirtual 80, 3) := by decide +kernel
theorem dX5_read_5 : decode cX5_read 5 = .ok (.astore_n 3, 1) := by decide +kernel
theorem dX5_read_6 : decode cX5_read 6 = .ok (.iload_n 2, 1) := by decide +kernel
theorem dX5_read_7 : decode cX5_read 7 = .ok (.ifCond .ge 13, 3) := by decide +kernel
theorem dX5_read_10 : decode cX5_read 10 = .ok (.new 90, 3) := by decide +kernel
theorem dX5_read_13 : decode cX5_read 13 = .ok (.dup, 1) := by decide +kernel
theorem dX5_read_14 : decode cX5_read 14 = .ok (.ldc 171, 2) := by decide +kernel
theorem dX5_read_16 : decode cX5_read 16 = .ok (.invokespecial 94, 3) := by decide +kernel
theorem dX5_read_19 : decode cX5_read 19 = .ok (.athrow, 1) := by decide +kernel
theorem dX5_read_20 : decode cX5_read 20 = .ok (.iload_n 2, 1) := by decide +kernel
theorem dX5_read_21 : decode cX5_read 21 = .ok (.aload_n 3, 1) := by decide +kernel
theorem dX5_read_22 : decode cX5_read 22 = .ok (.invokevirtual 173, 3) := by decide +kernel
theorem dX5_read_25 : decode cX5_read 25 = .ok (.if_icmp .le 13, 3) := by decide +kernel
theorem dX5_read_28 : decode cX5_read 28 = .ok (.new 27, 3) := by decide +kernel
theorem dX5_read_31 : decode cX5_read 31 = .ok (.dup, 1) := by decide +kernel
theorem dX5_read_32 : decode cX5_read 32 = .ok (.ldc 176, 2) := by decide +kernel
theorem dX5_read_34 : decode cX5_read 34 = .ok (.invokespecial 31, 3) := by decide +kernel
theorem dX5_read_37 : decode cX5_read 37 = .ok (.athrow, 1) := by decide +kernel
theorem dX5_read_38 : decode cX5_read 38 = .ok (.aload_n 0, 1) := by decide +kernel
theorem dX5_read_39 : decode cX5_read 39 = .ok (.getfield 12, 3) := by decide +kernel
theorem dX5_read_42 : decode cX5_read 42 = .ok (.aload_n 3, 1) := by decide +kernel
theorem dX5_read_43 : decode cX5_read 43 = .ok (.iload_n 2, 1) := by decide +kernel
theorem dX5_read_44 : decode cX5_read 44 = .ok (.invokevirtual 178, 3) := by decide +kernel
theorem dX5_read_47 : decode cX5_read 47 = .ok (.istore 4, 2) := by decide +kernel
theorem dX5_read_49 : decode cX5_read 49 = .ok (.iload 4, 2) := by decide +kernel
theorem dX5_read_51 : decode cX5_read 51 = .ok (.iconst (-1), 1) := by decide +kernel
theorem dX5_read_52 : decode cX5_read 52 = .ok (.if_icmp .ne 7, 3) := by decide +kernel
theorem dX5_read_55 : decode cX5_read 55 = .ok (.iconst (-1), 1) := by decide +kernel
theorem dX5_read_56 : decode cX5_read 56 = .ok (.goto 8, 3) := by decide +kernel
theorem dX5_read_59 : decode cX5_read 59 = .ok (.iload 4, 2) := by decide +kernel
theorem dX5_read_61 : decode cX5_read 61 = .ok (.invokestatic 181, 3) := by decide +kernel
theorem dX5_read_64 : decode cX5_read 64 = .ok (.ireturn, 1) := by decide +kernel
theorem dX5_state_0 : decode cX5_state 0 = .ok (.aload_n 0, 1) := by decide +kernel
theorem dX5_state_1 : decode cX5_state 1 = .ok (.iload_n 1, 1) := by decide +kernel
theorem dX5_state_2 : decode cX5_state 2 = .ok (.invokevirtual 80, 3) := by decide +kernel
theorem dX5_state_5 : decode cX5_state 5 = .ok (.getfield 120, 3) := by decide +kernel
theorem dX5_state_8 : decode cX5_state 8 = .ok (.ireturn, 1) := by decide +kernel
theorem dX5_lastReadable_0 : decode cX5_lastReadable 0 = .ok (.aload_n 0, 1) := by decide +kernel
theorem dX5_lastReadable_1 : decode cX5_lastReadable 1 = .ok (.iload_n 1, 1) := by decide +kernel
theorem dX5_lastReadable_2 : decode cX5_lastReadable 2 = .ok (.invokevirtual 80, 3) := by decide +kernel
theorem dX5_lastReadable_5 : decode cX5_lastReadable 5 = .ok (.invokevirtual 173, 3) := by decide +kernel
theorem dX5_lastReadable_8 : decode cX5_lastReadable 8 = .ok (.ireturn, 1) := by decide +kernel
theorem dX5_appended_0 : decode cX5_appended 0 = .ok (.aload_n 0, 1) := by decide +kernel
theorem dX5_appended_1 : decode cX5_appended 1 = .ok (.iload_n 1, 1) := by decide +kernel
theorem dX5_appended_2 : decode cX5_appended 2 = .ok (.invokevirtual 80, 3) := by decide +kernel
theorem dX5_appended_5 : decode cX5_appended 5 = .ok (.getfield 127, 3) := by decide +kernel
theorem dX5_appended_8 : decode cX5_appended 8 = .ok (.ireturn, 1) := by decide +kernel
theorem dX5_acknowledgements_0 : decode cX5_acknowledgements 0 = .ok (.aload_n 0, 1) := by decide +kernel
theorem dX5_acknowledgements_1 : decode cX5_acknowledgements 1 = .ok (.iload_n 1, 1) := by decide +kernel
theorem dX5_acknowledgements_2 : decode cX5_acknowledgements 2 = .ok (.invokevirtual 80, 3) := by decide +kernel
theorem dX5_acknowledgements_5 : decode cX5_acknowledgements 5 = .ok (.astore_n 3, 1) := by decide +kernel
theorem dX5_acknowledgements_6 : decode cX5_acknowledgements 6 = .ok (.aload_n 3, 1) := by decide +kernel
theorem dX5_acknowledgements_7 : decode cX5_acknowledgements 7 = .ok (.iload_n 2, 1) := by decide +kernel
theorem dX5_acknowledgements_8 : decode cX5_acknowledgements 8 = .ok (.invokestatic 186, 3) := by decide +kernel
theorem dX5_acknowledgements_11 : decode cX5_acknowledgements 11 = .ok (.aload_n 3, 1) := by decide +kernel
theorem dX5_acknowledgements_12 : decode cX5_acknowledgements 12 = .ok (.iload_n 2, 1) := by decide +kernel
theorem dX5_acknowledgements_13 : decode cX5_acknowledgements 13 = .ok (.invokevirtual 190, 3) := by decide +kernel
theorem dX5_acknowledgements_16 : decode cX5_acknowledgements 16 = .ok (.ireturn, 1) := by decide +kernel
theorem dX5_holders_0 : decode cX5_holders 0 = .ok (.aload_n 0, 1) := by decide +kernel
theorem dX5_holders_1 : decode cX5_holders 1 = .ok (.iload_n 1, 1) := by decide +kernel
theorem dX5_holders_2 : decode cX5_holders 2 = .ok (.invokevirtual 80, 3) := by decide +kernel
theorem dX5_holders_5 : decode cX5_holders 5 = .ok (.astore_n 3, 1) := by decide +kernel
theorem dX5_holders_6 : decode cX5_holders 6 = .ok (.aload_n 3, 1) := by decide +kernel
theorem dX5_holders_7 : decode cX5_holders 7 = .ok (.iload_n 2, 1) := by decide +kernel
theorem dX5_holders_8 : decode cX5_holders 8 = .ok (.invokestatic 186, 3) := by decide +kernel
theorem dX5_holders_11 : decode cX5_holders 11 = .ok (.aload_n 0, 1) := by decide +kernel
theorem dX5_holders_12 : decode cX5_holders 12 = .ok (.getfield 12, 3) := by decide +kernel
theorem dX5_holders_15 : decode cX5_holders 15 = .ok (.aload_n 3, 1) := by decide +kernel
theorem dX5_holders_16 : decode cX5_holders 16 = .ok (.iload_n 2, 1) := by decide +kernel
theorem dX5_holders_17 : decode cX5_holders 17 = .ok (.invokevirtual 193, 3) := by decide +kernel
theorem dX5_holders_20 : decode cX5_holders 20 = .ok (.ireturn, 1) := by decide +kernel
theorem dX5_fragmentCount_0 : decode cX5_fragmentCount 0 = .ok (.aload_n 0, 1) := by decide +kernel
theorem dX5_fragmentCount_1 : decode cX5_fragmentCount 1 = .ok (.iload_n 1, 1) := by decide +kernel
theorem dX5_fragmentCount_2 : decode cX5_fragmentCount 2 = .ok (.invokevirtual 80, 3) := by decide +kernel
theorem dX5_fragmentCount_5 : decode cX5_fragmentCount 5 = .ok (.getfield 196, 3) := by decide +kernel
theorem dX5_fragmentCount_8 : decode cX5_fragmentCount 8 = .ok (.ireturn, 1) := by decide +kernel
theorem dX5_firstEntry_0 : decode cX5_firstEntry 0 = .ok (.aload_n 0, 1) := by decide +kernel
theorem dX5_firstEntry_1 : decode cX5_firstEntry 1 = .ok (.iload_n 1, 1) := by decide +kernel
theorem dX5_firstEntry_2 : decode cX5_firstEntry 2 = .ok (.invokevirtual 80, 3) := by decide +kernel
theorem dX5_firstEntry_5 : decode cX5_firstEntry 5 = .ok (.astore_n 3, 1) := by decide +kernel
theorem dX5_firstEntry_6 : decode cX5_firstEntry 6 = .ok (.aload_n 3, 1) := by decide +kernel
theorem dX5_firstEntry_7 : decode cX5_firstEntry 7 = .ok (.iload_n 2, 1) := by decide +kernel
theorem dX5_firstEntry_8 : decode cX5_firstEntry 8 = .ok (.invokestatic 199, 3) := by decide +kernel
theorem dX5_firstEntry_11 : decode cX5_firstEntry 11 = .ok (.aload_n 3, 1) := by decide +kernel
theorem dX5_firstEntry_12 : decode cX5_firstEntry 12 = .ok (.iload_n 2, 1) := by decide +kernel
theorem dX5_firstEntry_13 : decode cX5_firstEntry 13 = .ok (.invokevirtual 202, 3) := by decide +kernel
theorem dX5_firstEntry_16 : decode cX5_firstEntry 16 = .ok (.ireturn, 1) := by decide +kernel
theorem dX5_member_0 : decode cX5_member 0 = .ok (.aload_n 0, 1) := by decide +kernel
theorem dX5_member_1 : decode cX5_member 1 = .ok (.iload_n 1, 1) := by decide +kernel
theorem dX5_member_2 : decode cX5_member 2 = .ok (.invokevirtual 80, 3) := by decide +kernel
theorem dX5_member_5 : decode cX5_member 5 = .ok (.astore 4, 2) := by decide +kernel
theorem dX5_member_7 : decode cX5_member 7 = .ok (.aload 4, 2) := by decide +kernel
theorem dX5_member_9 : decode cX5_member 9 = .ok (.iload_n 2, 1) := by decide +kernel
theorem dX5_member_10 : decode cX5_member 10 = .ok (.invokestatic 199, 3) := by decide +kernel
theorem dX5_member_13 : decode cX5_member 13 = .ok (.iload_n 3, 1) := by decide +kernel
theorem dX5_member_14 : decode cX5_member 14 = .ok (.ifCond .lt 12, 3) := by decide +kernel
theorem dX5_member_17 : decode cX5_member 17 = .ok (.iload_n 3, 1) := by decide +kernel
theorem dX5_member_18 : decode cX5_member 18 = .ok (.aload 4, 2) := by decide +kernel
theorem dX5_member_20 : decode cX5_member 20 = .ok (.getfield 136, 3) := by decide +kernel
theorem dX5_member_23 : decode cX5_member 23 = .ok (.if_icmp .lt 13, 3) := by decide +kernel
theorem dX5_member_26 : decode cX5_member 26 = .ok (.new 90, 3) := by decide +kernel
theorem dX5_member_29 : decode cX5_member 29 = .ok (.dup, 1) := by decide +kernel
theorem dX5_member_30 : decode cX5_member 30 = .ok (.ldc 139, 2) := by decide +kernel
theorem dX5_member_32 : decode cX5_member 32 = .ok (.invokespecial 94, 3) := by decide +kernel
theorem dX5_member_35 : decode cX5_member 35 = .ok (.athrow, 1) := by decide +kernel
theorem dX5_member_36 : decode cX5_member 36 = .ok (.aload 4, 2) := by decide +kernel
theorem dX5_member_38 : decode cX5_member 38 = .ok (.iload_n 2, 1) := by decide +kernel
theorem dX5_member_39 : decode cX5_member 39 = .ok (.iload_n 3, 1) := by decide +kernel
theorem dX5_member_40 : decode cX5_member 40 = .ok (.invokevirtual 205, 3) := by decide +kernel
theorem dX5_member_43 : decode cX5_member 43 = .ok (.ireturn, 1) := by decide +kernel
theorem dX5_underReplicated_0 : decode cX5_underReplicated 0 = .ok (.aload_n 0, 1) := by decide +kernel
theorem dX5_underReplicated_1 : decode cX5_underReplicated 1 = .ok (.getfield 12, 3) := by decide +kernel
theorem dX5_underReplicated_4 : decode cX5_underReplicated 4 = .ok (.aload_n 0, 1) := by decide +kernel
theorem dX5_underReplicated_5 : decode cX5_underReplicated 5 = .ok (.iload_n 1, 1) := by decide +kernel
theorem dX5_underReplicated_6 : decode cX5_underReplicated 6 = .ok (.invokevirtual 80, 3) := by decide +kernel
theorem dX5_underReplicated_9 : decode cX5_underReplicated 9 = .ok (.invokevirtual 209, 3) := by decide +kernel
theorem dX5_underReplicated_12 : decode cX5_underReplicated 12 = .ok (.ireturn, 1) := by decide +kernel
theorem dX5_undo_0 : decode cX5_undo 0 = .ok (.aload_n 0, 1) := by decide +kernel
theorem dX5_undo_1 : decode cX5_undo 1 = .ok (.getfield 19, 3) := by decide +kernel
theorem dX5_undo_4 : decode cX5_undo 4 = .ok (.getfield 212, 3) := by decide +kernel
theorem dX5_undo_7 : decode cX5_undo 7 = .ok (.iconst 1, 1) := by decide +kernel
theorem dX5_undo_8 : decode cX5_undo 8 = .ok (.if_icmp .ge 13, 3) := by decide +kernel
theorem dX5_undo_11 : decode cX5_undo 11 = .ok (.new 27, 3) := by decide +kernel
theorem dX5_undo_14 : decode cX5_undo 14 = .ok (.dup, 1) := by decide +kernel
theorem dX5_undo_15 : decode cX5_undo 15 = .ok (.ldc 215, 2) := by decide +kernel
theorem dX5_undo_17 : decode cX5_undo 17 = .ok (.invokespecial 31, 3) := by decide +kernel
theorem dX5_undo_20 : decode cX5_undo 20 = .ok (.athrow, 1) := by decide +kernel
theorem dX5_undo_21 : decode cX5_undo 21 = .ok (.aload_n 0, 1) := by decide +kernel
theorem dX5_undo_22 : decode cX5_undo 22 = .ok (.getfield 19, 3) := by decide +kernel
theorem dX5_undo_25 : decode cX5_undo 25 = .ok (.aload_n 0, 1) := by decide +kernel
theorem dX5_undo_26 : decode cX5_undo 26 = .ok (.getfield 12, 3) := by decide +kernel
theorem dX5_undo_29 : decode cX5_undo 29 = .ok (.invokevirtual 217, 3) := by decide +kernel
theorem dX5_undo_32 : decode cX5_undo 32 = .ok (.aload_n 0, 1) := by decide +kernel
theorem dX5_undo_33 : decode cX5_undo 33 = .ok (.getfield 19, 3) := by decide +kernel
theorem dX5_undo_36 : decode cX5_undo 36 = .ok (.getfield 212, 3) := by decide +kernel
theorem dX5_undo_39 : decode cX5_undo 39 = .ok (.ireturn, 1) := by decide +kernel
theorem dX5_digest_0 : decode cX5_digest 0 = .ok (.ldc2_w 220, 3) := by decide +kernel
theorem dX5_digest_3 : decode cX5_digest 3 = .ok (.lstore_n 1, 1) := by decide +kernel
theorem dX5_digest_4 : decode cX5_digest 4 = .ok (.ldc2_w 222, 3) := by decide +kernel
theorem dX5_digest_7 : decode cX5_digest 7 = .ok (.lload_n 1, 1) := by decide +kernel
theorem dX5_digest_8 : decode cX5_digest 8 = .ok (.lmul, 1) := by decide +kernel
theorem dX5_digest_9 : decode cX5_digest 9 = .ok (.aload_n 0, 1) := by decide +kernel
theorem dX5_digest_10 : decode cX5_digest 10 = .ok (.getfield 19, 3) := by decide +kernel
theorem dX5_digest_13 : decode cX5_digest 13 = .ok (.getfield 212, 3) := by decide +kernel
theorem dX5_digest_16 : decode cX5_digest 16 = .ok (.i2l, 1) := by decide +kernel
theorem dX5_digest_17 : decode cX5_digest 17 = .ok (.ladd, 1) := by decide +kernel
theorem dX5_digest_18 : decode cX5_digest 18 = .ok (.lstore_n 1, 1) := by decide +kernel
theorem dX5_digest_19 : decode cX5_digest 19 = .ok (.ldc2_w 222, 3) := by decide +kernel
theorem dX5_digest_22 : decode cX5_digest 22 = .ok (.lload_n 1, 1) := by decide +kernel
theorem dX5_digest_23 : decode cX5_digest 23 = .ok (.lmul, 1) := by decide +kernel
theorem dX5_digest_24 : decode cX5_digest 24 = .ok (.aload_n 0, 1) := by decide +kernel
theorem dX5_digest_25 : decode cX5_digest 25 = .ok (.getfield 12, 3) := by decide +kernel
theorem dX5_digest_28 : decode cX5_digest 28 = .ok (.getfield 87, 3) := by decide +kernel
theorem dX5_digest_31 : decode cX5_digest 31 = .ok (.i2l, 1) := by decide +kernel
theorem dX5_digest_32 : decode cX5_digest 32 = .ok (.ladd, 1) := by decide +kernel
theorem dX5_digest_33 : decode cX5_digest 33 = .ok (.lstore_n 1, 1) := by decide +kernel
theorem dX5_digest_34 : decode cX5_digest 34 = .ok (.ldc2_w 222, 3) := by decide +kernel
theorem dX5_digest_37 : decode cX5_digest 37 = .ok (.lload_n 1, 1) := by decide +kernel
theorem dX5_digest_38 : decode cX5_digest 38 = .ok (.lmul, 1) := by decide +kernel
theorem dX5_digest_39 : decode cX5_digest 39 = .ok (.aload_n 0, 1) := by decide +kernel
theorem dX5_digest_40 : decode cX5_digest 40 = .ok (.getfield 12, 3) := by decide +kernel
theorem dX5_digest_43 : decode cX5_digest 43 = .ok (.getfield 23, 3) := by decide +kernel
theorem dX5_digest_46 : decode cX5_digest 46 = .ok (.i2l, 1) := by decide +kernel
theorem dX5_digest_47 : decode cX5_digest 47 = .ok (.ladd, 1) := by decide +kernel
theorem dX5_digest_48 : decode cX5_digest 48 = .ok (.lstore_n 1, 1) := by decide +kernel
theorem dX5_digest_49 : decode cX5_digest 49 = .ok (.iconst 0, 1) := by decide +kernel
theorem dX5_digest_50 : decode cX5_digest 50 = .ok (.istore_n 3, 1) := by decide +kernel
theorem dX5_digest_51 : decode cX5_digest 51 = .ok (.iload_n 3, 1) := by decide +kernel
theorem dX5_digest_52 : decode cX5_digest 52 = .ok (.aload_n 0, 1) := by decide +kernel
theorem dX5_digest_53 : decode cX5_digest 53 = .ok (.getfield 12, 3) := by decide +kernel
theorem dX5_digest_56 : decode cX5_digest 56 = .ok (.getfield 23, 3) := by decide +kernel
theorem dX5_digest_59 : decode cX5_digest 59 = .ok (.if_icmp .ge 23, 3) := by decide +kernel
theorem dX5_digest_62 : decode cX5_digest 62 = .ok (.aload_n 0, 1) := by decide +kernel
theorem dX5_digest_63 : decode cX5_digest 63 = .ok (.lload_n 1, 1) := by decide +kernel
theorem dX5_digest_64 : decode cX5_digest 64 = .ok (.aload_n 0, 1) := by decide +kernel
theorem dX5_digest_65 : decode cX5_digest 65 = .ok (.getfield 12, 3) := by decide +kernel
theorem dX5_digest_68 : decode cX5_digest 68 = .ok (.iload_n 3, 1) := by decide +kernel
theorem dX5_digest_69 : decode cX5_digest 69 = .ok (.invokevirtual 224, 3) := by decide +kernel
theorem dX5_digest_72 : decode cX5_digest 72 = .ok (.invokevirtual 227, 3) := by decide +kernel
theorem dX5_digest_75 : decode cX5_digest 75 = .ok (.lstore_n 1, 1) := by decide +kernel
theorem dX5_digest_76 : decode cX5_digest 76 = .ok (.iinc 3 1, 3) := by decide +kernel
theorem dX5_digest_79 : decode cX5_digest 79 = .ok (.goto (-28), 3) := by decide +kernel
theorem dX5_digest_82 : decode cX5_digest 82 = .ok (.ldc2_w 222, 3) := by decide +kernel
theorem dX5_digest_85 : decode cX5_digest 85 = .ok (.lload_n 1, 1) := by decide +kernel
theorem dX5_digest_86 : decode cX5_digest 86 = .ok (.lmul, 1) := by decide +kernel
theorem dX5_digest_87 : decode cX5_digest 87 = .ok (.aload_n 0, 1) := by decide +kernel
theorem dX5_digest_88 : decode cX5_digest 88 = .ok (.getfield 12, 3) := by decide +kernel
theorem dX5_digest_91 : decode cX5_digest 91 = .ok (.getfield 99, 3) := by decide +kernel
theorem dX5_digest_94 : decode cX5_digest 94 = .ok (.i2l, 1) := by decide +kernel
theorem dX5_digest_95 : decode cX5_digest 95 = .ok (.ladd, 1) := by decide +kernel
theorem dX5_digest_96 : decode cX5_digest 96 = .ok (.lstore_n 1, 1) := by decide +kernel
theorem dX5_digest_97 : decode cX5_digest 97 = .ok (.iconst 0, 1) := by decide +kernel
theorem dX5_digest_98 : decode cX5_digest 98 = .ok (.istore_n 3, 1) := by decide +kernel
theorem dX5_digest_99 : decode cX5_digest 99 = .ok (.iload_n 3, 1) := by decide +kernel
theorem dX5_digest_100 : decode cX5_digest 100 = .ok (.aload_n 0, 1) := by decide +kernel
theorem dX5_digest_101 : decode cX5_digest 101 = .ok (.getfield 12, 3) := by decide +kernel
theorem dX5_digest_104 : decode cX5_digest 104 = .ok (.getfield 99, 3) := by decide +kernel
theorem dX5_digest_107 : decode cX5_digest 107 = .ok (.if_icmp .ge 23, 3) := by decide +kernel
theorem dX5_digest_110 : decode cX5_digest 110 = .ok (.aload_n 0, 1) := by decide +kernel
theorem dX5_digest_111 : decode cX5_digest 111 = .ok (.lload_n 1, 1) := by decide +kernel
theorem dX5_digest_112 : decode cX5_digest 112 = .ok (.aload_n 0, 1) := by decide +kernel
theorem dX5_digest_113 : decode cX5_digest 113 = .ok (.getfield 12, 3) := by decide +kernel
theorem dX5_digest_116 : decode cX5_digest 116 = .ok (.iload_n 3, 1) := by decide +kernel
theorem dX5_digest_117 : decode cX5_digest 117 = .ok (.invokevirtual 231, 3) := by decide +kernel
theorem dX5_digest_120 : decode cX5_digest 120 = .ok (.invokevirtual 234, 3) := by decide +kernel
theorem dX5_digest_123 : decode cX5_digest 123 = .ok (.lstore_n 1, 1) := by decide +kernel
theorem dX5_digest_124 : decode cX5_digest 124 = .ok (.iinc 3 1, 3) := by decide +kernel
theorem dX5_digest_127 : decode cX5_digest 127 = .ok (.goto (-28), 3) := by decide +kernel
theorem dX5_digest_130 : decode cX5_digest 130 = .ok (.lload_n 1, 1) := by decide +kernel
theorem dX5_digest_131 : decode cX5_digest 131 = .ok (.lreturn, 1) := by decide +kernel
theorem dX5_digestNode_0 : decode cX5_digestNode 0 = .ok (.aload_n 3, 1) := by decide +kernel
theorem dX5_digestNode_1 : decode cX5_digestNode 1 = .ok (.ifnonnull 5, 3) := by decide +kernel
theorem dX5_digestNode_4 : decode cX5_digestNode 4 = .ok (.lload_n 1, 1) := by decide +kernel
theorem dX5_digestNode_5 : decode cX5_digestNode 5 = .ok (.lreturn, 1) := by decide +kernel
theorem dX5_digestNode_6 : decode cX5_digestNode 6 = .ok (.ldc2_w 222, 3) := by decide +kernel
theorem dX5_digestNode_9 : decode cX5_digestNode 9 = .ok (.lload_n 1, 1) := by decide +kernel
theorem dX5_digestNode_10 : decode cX5_digestNode 10 = .ok (.lmul, 1) := by decide +kernel
theorem dX5_digestNode_11 : decode cX5_digestNode 11 = .ok (.aload_n 3, 1) := by decide +kernel
theorem dX5_digestNode_12 : decode cX5_digestNode 12 = .ok (.getfield 46, 3) := by decide +kernel
theorem dX5_digestNode_15 : decode cX5_digestNode 15 = .ok (.ifCond .eq 7, 3) := by decide +kernel
theorem dX5_digestNode_18 : decode cX5_digestNode 18 = .ok (.iconst 1, 1) := by decide +kernel
theorem dX5_digestNode_19 : decode cX5_digestNode 19 = .ok (.goto 4, 3) := by decide +kernel
theorem dX5_digestNode_22 : decode cX5_digestNode 22 = .ok (.iconst 0, 1) := by decide +kernel
theorem dX5_digestNode_23 : decode cX5_digestNode 23 = .ok (.i2l, 1) := by decide +kernel
theorem dX5_digestNode_24 : decode cX5_digestNode 24 = .ok (.ladd, 1) := by decide +kernel
theorem dX5_digestNode_25 : decode cX5_digestNode 25 = .ok (.lstore 4, 2) := by decide +kernel
theorem dX5_digestNode_27 : decode cX5_digestNode 27 = .ok (.ldc2_w 222, 3) := by decide +kernel
theorem dX5_digestNode_30 : decode cX5_digestNode 30 = .ok (.lload 4, 2) := by decide +kernel
theorem dX5_digestNode_32 : decode cX5_digestNode 32 = .ok (.lmul, 1) := by decide +kernel
theorem dX5_digestNode_33 : decode cX5_digestNode 33 = .ok (.aload_n 3, 1) := by decide +kernel
theorem dX5_digestNode_34 : decode cX5_digestNode 34 = .ok (.getfield 54, 3) := by decide +kernel
theorem dX5_digestNode_37 : decode cX5_digestNode 37 = .ok (.i2l, 1) := by decide +kernel
theorem dX5_digestNode_38 : decode cX5_digestNode 38 = .ok (.ladd, 1) := by decide +kernel
theorem dX5_digestNode_39 : decode cX5_digestNode 39 = .ok (.lstore 4, 2) := by decide +kernel
theorem dX5_digestNode_41 : decode cX5_digestNode 41 = .ok (.ldc2_w 222, 3) := by decide +kernel
theorem dX5_digestNode_44 : decode cX5_digestNode 44 = .ok (.lload 4, 2) := by decide +kernel
theorem dX5_digestNode_46 : decode cX5_digestNode 46 = .ok (.lmul, 1) := by decide +kernel
theorem dX5_digestNode_47 : decode cX5_digestNode 47 = .ok (.aload_n 3, 1) := by decide +kernel
theorem dX5_digestNode_48 : decode cX5_digestNode 48 = .ok (.getfield 59, 3) := by decide +kernel
theorem dX5_digestNode_51 : decode cX5_digestNode 51 = .ok (.i2l, 1) := by decide +kernel
theorem dX5_digestNode_52 : decode cX5_digestNode 52 = .ok (.ladd, 1) := by decide +kernel
theorem dX5_digestNode_53 : decode cX5_digestNode 53 = .ok (.lstore 4, 2) := by decide +kernel
theorem dX5_digestNode_55 : decode cX5_digestNode 55 = .ok (.ldc2_w 222, 3) := by decide +kernel
theorem dX5_digestNode_58 : decode cX5_digestNode 58 = .ok (.lload 4, 2) := by decide +kernel
theorem dX5_digestNode_60 : decode cX5_digestNode 60 = .ok (.lmul, 1) := by decide +kernel
theorem dX5_digestNode_61 : decode cX5_digestNode 61 = .ok (.aload_n 0, 1) := by decide +kernel
theorem dX5_digestNode_62 : decode cX5_digestNode 62 = .ok (.aload_n 3, 1) := by decide +kernel
theorem dX5_digestNode_63 : decode cX5_digestNode 63 = .ok (.invokevirtual 76, 3) := by decide +kernel
theorem dX5_digestNode_66 : decode cX5_digestNode 66 = .ok (.invokestatic 238, 3) := by decide +kernel
theorem dX5_digestNode_69 : decode cX5_digestNode 69 = .ok (.i2l, 1) := by decide +kernel
theorem dX5_digestNode_70 : decode cX5_digestNode 70 = .ok (.ladd, 1) := by decide +kernel
theorem dX5_digestNode_71 : decode cX5_digestNode 71 = .ok (.lreturn, 1) := by decide +kernel
theorem dX5_digestLedger_0 : decode cX5_digestLedger 0 = .ok (.aload_n 3, 1) := by decide +kernel
theorem dX5_digestLedger_1 : decode cX5_digestLedger 1 = .ok (.ifnonnull 5, 3) := by decide +kernel
theorem dX5_digestLedger_4 : decode cX5_digestLedger 4 = .ok (.lload_n 1, 1) := by decide +kernel
theorem dX5_digestLedger_5 : decode cX5_digestLedger 5 = .ok (.lreturn, 1) := by decide +kernel
theorem dX5_digestLedger_6 : decode cX5_digestLedger 6 = .ok (.ldc2_w 222, 3) := by decide +kernel
theorem dX5_digestLedger_9 : decode cX5_digestLedger 9 = .ok (.lload_n 1, 1) := by decide +kernel
theorem dX5_digestLedger_10 : decode cX5_digestLedger 10 = .ok (.lmul, 1) := by decide +kernel
theorem dX5_digestLedger_11 : decode cX5_digestLedger 11 = .ok (.aload_n 3, 1) := by decide +kernel
theorem dX5_digestLedger_12 : decode cX5_digestLedger 12 = .ok (.getfield 136, 3) := by decide +kernel
theorem dX5_digestLedger_15 : decode cX5_digestLedger 15 = .ok (.i2l, 1) := by decide +kernel
theorem dX5_digestLedger_16 : decode cX5_digestLedger 16 = .ok (.ladd, 1) := by decide +kernel
theorem dX5_digestLedger_17 : decode cX5_digestLedger 17 = .ok (.lstore 4, 2) := by decide +kernel
theorem dX5_digestLedger_19 : decode cX5_digestLedger 19 = .ok (.ldc2_w 222, 3) := by decide +kernel
theorem dX5_digestLedger_22 : decode cX5_digestLedger 22 = .ok (.lload 4, 2) := by decide +kernel
theorem dX5_digestLedger_24 : decode cX5_digestLedger 24 = .ok (.lmul, 1) := by decide +kernel
theorem dX5_digestLedger_25 : decode cX5_digestLedger 25 = .ok (.aload_n 3, 1) := by decide +kernel
theorem dX5_digestLedger_26 : decode cX5_digestLedger 26 = .ok (.getfield 242, 3) := by decide +kernel
theorem dX5_digestLedger_29 : decode cX5_digestLedger 29 = .ok (.i2l, 1) := by decide +kernel
theorem dX5_digestLedger_30 : decode cX5_digestLedger 30 = .ok (.ladd, 1) := by decide +kernel
theorem dX5_digestLedger_31 : decode cX5_digestLedger 31 = .ok (.lstore 4, 2) := by decide +kernel
theorem dX5_digestLedger_33 : decode cX5_digestLedger 33 = .ok (.ldc2_w 222, 3) := by decide +kernel
theorem dX5_digestLedger_36 : decode cX5_digestLedger 36 = .ok (.lload 4, 2) := by decide +kernel
theorem dX5_digestLedger_38 : decode cX5_digestLedger 38 = .ok (.lmul, 1) := by decide +kernel
theorem dX5_digestLedger_39 : decode cX5_digestLedger 39 = .ok (.aload_n 3, 1) := by decide +kernel
theorem dX5_digestLedger_40 : decode cX5_digestLedger 40 = .ok (.getfield 245, 3) := by decide +kernel
theorem dX5_digestLedger_43 : decode cX5_digestLedger 43 = .ok (.i2l, 1) := by decide +kernel
theorem dX5_digestLedger_44 : decode cX5_digestLedger 44 = .ok (.ladd, 1) := by decide +kernel
theorem dX5_digestLedger_45 : decode cX5_digestLedger 45 = .ok (.lstore 4, 2) := by decide +kernel
theorem dX5_digestLedger_47 : decode cX5_digestLedger 47 = .ok (.ldc2_w 222, 3) := by decide +kernel
theorem dX5_digestLedger_50 : decode cX5_digestLedger 50 = .ok (.lload 4, 2) := by decide +kernel
theorem dX5_digestLedger_52 : decode cX5_digestLedger 52 = .ok (.lmul, 1) := by decide +kernel
theorem dX5_digestLedger_53 : decode cX5_digestLedger 53 = .ok (.aload_n 3, 1) := by decide +kernel
theorem dX5_digestLedger_54 : decode cX5_digestLedger 54 = .ok (.getfield 120, 3) := by decide +kernel
theorem dX5_digestLedger_57 : decode cX5_digestLedger 57 = .ok (.i2l, 1) := by decide +kernel
theorem dX5_digestLedger_58 : decode cX5_digestLedger 58 = .ok (.ladd, 1) := by decide +kernel
theorem dX5_digestLedger_59 : decode cX5_digestLedger 59 = .ok (.lstore 4, 2) := by decide +kernel
theorem dX5_digestLedger_61 : decode cX5_digestLedger 61 = .ok (.ldc2_w 222, 3) := by decide +kernel
theorem dX5_digestLedger_64 : decode cX5_digestLedger 64 = .ok (.lload 4, 2) := by decide +kernel
theorem dX5_digestLedger_66 : decode cX5_digestLedger 66 = .ok (.lmul, 1) := by decide +kernel
theorem dX5_digestLedger_67 : decode cX5_digestLedger 67 = .ok (.aload_n 3, 1) := by decide +kernel
theorem dX5_digestLedger_68 : decode cX5_digestLedger 68 = .ok (.invokevirtual 173, 3) := by decide +kernel
theorem dX5_digestLedger_71 : decode cX5_digestLedger 71 = .ok (.i2l, 1) := by decide +kernel
theorem dX5_digestLedger_72 : decode cX5_digestLedger 72 = .ok (.ladd, 1) := by decide +kernel
theorem dX5_digestLedger_73 : decode cX5_digestLedger 73 = .ok (.lstore 4, 2) := by decide +kernel
theorem dX5_digestLedger_75 : decode cX5_digestLedger 75 = .ok (.ldc2_w 222, 3) := by decide +kernel
theorem dX5_digestLedger_78 : decode cX5_digestLedger 78 = .ok (.lload 4, 2) := by decide +kernel
theorem dX5_digestLedger_80 : decode cX5_digestLedger 80 = .ok (.lmul, 1) := by decide +kernel
theorem dX5_digestLedger_81 : decode cX5_digestLedger 81 = .ok (.aload_n 3, 1) := by decide +kernel
theorem dX5_digestLedger_82 : decode cX5_digestLedger 82 = .ok (.getfield 127, 3) := by decide +kernel
theorem dX5_digestLedger_85 : decode cX5_digestLedger 85 = .ok (.i2l, 1) := by decide +kernel
theorem dX5_digestLedger_86 : decode cX5_digestLedger 86 = .ok (.ladd, 1) := by decide +kernel
theorem dX5_digestLedger_87 : decode cX5_digestLedger 87 = .ok (.lstore 4, 2) := by decide +kernel
theorem dX5_digestLedger_89 : decode cX5_digestLedger 89 = .ok (.ldc2_w 222, 3) := by decide +kernel
theorem dX5_digestLedger_92 : decode cX5_digestLedger 92 = .ok (.lload 4, 2) := by decide +kernel
theorem dX5_digestLedger_94 : decode cX5_digestLedger 94 = .ok (.lmul, 1) := by decide +kernel
theorem dX5_digestLedger_95 : decode cX5_digestLedger 95 = .ok (.aload_n 0, 1) := by decide +kernel
theorem dX5_digestLedger_96 : decode cX5_digestLedger 96 = .ok (.getfield 12, 3) := by decide +kernel
theorem dX5_digestLedger_99 : decode cX5_digestLedger 99 = .ok (.aload_n 3, 1) := by decide +kernel
theorem dX5_digestLedger_100 : decode cX5_digestLedger 100 = .ok (.invokevirtual 209, 3) := by decide +kernel
theorem dX5_digestLedger_103 : decode cX5_digestLedger 103 = .ok (.i2l, 1) := by decide +kernel
theorem dX5_digestLedger_104 : decode cX5_digestLedger 104 = .ok (.ladd, 1) := by decide +kernel
theorem dX5_digestLedger_105 : decode cX5_digestLedger 105 = .ok (.lstore 4, 2) := by decide +kernel
theorem dX5_digestLedger_107 : decode cX5_digestLedger 107 = .ok (.ldc2_w 222, 3) := by decide +kernel
theorem dX5_digestLedger_110 : decode cX5_digestLedger 110 = .ok (.lload 4, 2) := by decide +kernel
theorem dX5_digestLedger_112 : decode cX5_digestLedger 112 = .ok (.lmul, 1) := by decide +kernel
theorem dX5_digestLedger_113 : decode cX5_digestLedger 113 = .ok (.aload_n 3, 1) := by decide +kernel
theorem dX5_digestLedger_114 : decode cX5_digestLedger 114 = .ok (.getfield 196, 3) := by decide +kernel
theorem dX5_digestLedger_117 : decode cX5_digestLedger 117 = .ok (.i2l, 1) := by decide +kernel
theorem dX5_digestLedger_118 : decode cX5_digestLedger 118 = .ok (.ladd, 1) := by decide +kernel
theorem dX5_digestLedger_119 : decode cX5_digestLedger 119 = .ok (.aload_n 3, 1) := by decide +kernel
theorem dX5_digestLedger_120 : decode cX5_digestLedger 120 = .ok (.invokestatic 248, 3) := by decide +kernel
theorem dX5_digestLedger_123 : decode cX5_digestLedger 123 = .ok (.lstore 4, 2) := by decide +kernel
theorem dX5_digestLedger_125 : decode cX5_digestLedger 125 = .ok (.aload_n 0, 1) := by decide +kernel
theorem dX5_digestLedger_126 : decode cX5_digestLedger 126 = .ok (.lload 4, 2) := by decide +kernel
theorem dX5_digestLedger_128 : decode cX5_digestLedger 128 = .ok (.aload_n 3, 1) := by decide +kernel
theorem dX5_digestLedger_129 : decode cX5_digestLedger 129 = .ok (.invokevirtual 251, 3) := by decide +kernel
theorem dX5_digestLedger_132 : decode cX5_digestLedger 132 = .ok (.lstore 4, 2) := by decide +kernel
theorem dX5_digestLedger_134 : decode cX5_digestLedger 134 = .ok (.aload_n 0, 1) := by decide +kernel
theorem dX5_digestLedger_135 : decode cX5_digestLedger 135 = .ok (.lload 4, 2) := by decide +kernel
theorem dX5_digestLedger_137 : decode cX5_digestLedger 137 = .ok (.aload_n 3, 1) := by decide +kernel
theorem dX5_digestLedger_138 : decode cX5_digestLedger 138 = .ok (.invokevirtual 254, 3) := by decide +kernel
theorem dX5_digestLedger_141 : decode cX5_digestLedger 141 = .ok (.lreturn, 1) := by decide +kernel
theorem dX5_digestFragments_0 : decode cX5_digestFragments 0 = .ok (.lload_n 0, 1) := by decide +kernel
theorem dX5_digestFragments_1 : decode cX5_digestFragments 1 = .ok (.lstore_n 3, 1) := by decide +kernel
theorem dX5_digestFragments_2 : decode cX5_digestFragments 2 = .ok (.iconst 0, 1) := by decide +kernel
theorem dX5_digestFragments_3 : decode cX5_digestFragments 3 = .ok (.istore 5, 2) := by decide +kernel
theorem dX5_digestFragments_5 : decode cX5_digestFragments 5 = .ok (.iload 5, 2) := by decide +kernel
theorem dX5_digestFragments_7 : decode cX5_digestFragments 7 = .ok (.aload_n 2, 1) := by decide +kernel
theorem dX5_digestFragments_8 : decode cX5_digestFragments 8 = .ok (.getfield 196, 3) := by decide +kernel
theorem dX5_digestFragments_11 : decode cX5_digestFragments 11 = .ok (.if_icmp .ge 57, 3) := by decide +kernel
theorem dX5_digestFragments_14 : decode cX5_digestFragments 14 = .ok (.ldc2_w 222, 3) := by decide +kernel
theorem dX5_digestFragments_17 : decode cX5_digestFragments 17 = .ok (.lload_n 3, 1) := by decide +kernel
theorem dX5_digestFragments_18 : decode cX5_digestFragments 18 = .ok (.lmul, 1) := by decide +kernel
theorem dX5_digestFragments_19 : decode cX5_digestFragments 19 = .ok (.aload_n 2, 1) := by decide +kernel
theorem dX5_digestFragments_20 : decode cX5_digestFragments 20 = .ok (.iload 5, 2) := by decide +kernel
theorem dX5_digestFragments_22 : decode cX5_digestFragments 22 = .ok (.invokevirtual 202, 3) := by decide +kernel
theorem dX5_digestFragments_25 : decode cX5_digestFragments 25 = .ok (.i2l, 1) := by decide +kernel
theorem dX5_digestFragments_26 : decode cX5_digestFragments 26 = .ok (.ladd, 1) := by decide +kernel
theorem dX5_digestFragments_27 : decode cX5_digestFragments 27 = .ok (.lstore_n 3, 1) := by decide +kernel
theorem dX5_digestFragments_28 : decode cX5_digestFragments 28 = .ok (.iconst 0, 1) := by decide +kernel
theorem dX5_digestFragments_29 : decode cX5_digestFragments 29 = .ok (.istore 6, 2) := by decide +kernel
theorem dX5_digestFragments_31 : decode cX5_digestFragments 31 = .ok (.iload 6, 2) := by decide +kernel
theorem dX5_digestFragments_33 : decode cX5_digestFragments 33 = .ok (.aload_n 2, 1) := by decide +kernel
theorem dX5_digestFragments_34 : decode cX5_digestFragments 34 = .ok (.getfield 136, 3) := by decide +kernel
theorem dX5_digestFragments_37 : decode cX5_digestFragments 37 = .ok (.if_icmp .ge 25, 3) := by decide +kernel
theorem dX5_digestFragments_40 : decode cX5_digestFragments 40 = .ok (.ldc2_w 222, 3) := by decide +kernel
theorem dX5_digestFragments_43 : decode cX5_digestFragments 43 = .ok (.lload_n 3, 1) := by decide +kernel
theorem dX5_digestFragments_44 : decode cX5_digestFragments 44 = .ok (.lmul, 1) := by decide +kernel
theorem dX5_digestFragments_45 : decode cX5_digestFragments 45 = .ok (.aload_n 2, 1) := by decide +kernel
theorem dX5_digestFragments_46 : decode cX5_digestFragments 46 = .ok (.iload 5, 2) := by decide +kernel
theorem dX5_digestFragments_48 : decode cX5_digestFragments 48 = .ok (.iload 6, 2) := by decide +kernel
theorem dX5_digestFragments_50 : decode cX5_digestFragments 50 = .ok (.invokevirtual 205, 3) := by decide +kernel
theorem dX5_digestFragments_53 : decode cX5_digestFragments 53 = .ok (.i2l, 1) := by decide +kernel
theorem dX5_digestFragments_54 : decode cX5_digestFragments 54 = .ok (.ladd, 1) := by decide +kernel
theorem dX5_digestFragments_55 : decode cX5_digestFragments 55 = .ok (.lstore_n 3, 1) := by decide +kernel
theorem dX5_digestFragments_56 : decode cX5_digestFragments 56 = .ok (.iinc 6 1, 3) := by decide +kernel
theorem dX5_digestFragments_59 : decode cX5_digestFragments 59 = .ok (.goto (-28), 3) := by decide +kernel
theorem dX5_digestFragments_62 : decode cX5_digestFragments 62 = .ok (.iinc 5 1, 3) := by decide +kernel
theorem dX5_digestFragments_65 : decode cX5_digestFragments 65 = .ok (.goto (-60), 3) := by decide +kernel
theorem dX5_digestFragments_68 : decode cX5_digestFragments 68 = .ok (.lload_n 3, 1) := by decide +kernel
theorem dX5_digestFragments_69 : decode cX5_digestFragments 69 = .ok (.lreturn, 1) := by decide +kernel
theorem dX5_digestEntries_0 : decode cX5_digestEntries 0 = .ok (.lload_n 1, 1) := by decide +kernel
theorem dX5_digestEntries_1 : decode cX5_digestEntries 1 = .ok (.lstore 4, 2) := by decide +kernel
theorem dX5_digestEntries_3 : decode cX5_digestEntries 3 = .ok (.iconst 0, 1) := by decide +kernel
theorem dX5_digestEntries_4 : decode cX5_digestEntries 4 = .ok (.istore 6, 2) := by decide +kernel
theorem dX5_digestEntries_6 : decode cX5_digestEntries 6 = .ok (.iload 6, 2) := by decide +kernel
theorem dX5_digestEntries_8 : decode cX5_digestEntries 8 = .ok (.aload_n 3, 1) := by decide +kernel
theorem dX5_digestEntries_9 : decode cX5_digestEntries 9 = .ok (.getfield 127, 3) := by decide +kernel
theorem dX5_digestEntries_12 : decode cX5_digestEntries 12 = .ok (.if_icmp .ge 61, 3) := by decide +kernel
theorem dX5_digestEntries_15 : decode cX5_digestEntries 15 = .ok (.ldc2_w 222, 3) := by decide +kernel
theorem dX5_digestEntries_18 : decode cX5_digestEntries 18 = .ok (.lload 4, 2) := by decide +kernel
theorem dX5_digestEntries_20 : decode cX5_digestEntries 20 = .ok (.lmul, 1) := by decide +kernel
theorem dX5_digestEntries_21 : decode cX5_digestEntries 21 = .ok (.aload_n 3, 1) := by decide +kernel
theorem dX5_digestEntries_22 : decode cX5_digestEntries 22 = .ok (.iload 6, 2) := by decide +kernel
theorem dX5_digestEntries_24 : decode cX5_digestEntries 24 = .ok (.invokevirtual 257, 3) := by decide +kernel
theorem dX5_digestEntries_27 : decode cX5_digestEntries 27 = .ok (.i2l, 1) := by decide +kernel
theorem dX5_digestEntries_28 : decode cX5_digestEntries 28 = .ok (.ladd, 1) := by decide +kernel
theorem dX5_digestEntries_29 : decode cX5_digestEntries 29 = .ok (.lstore 4, 2) := by decide +kernel
theorem dX5_digestEntries_31 : decode cX5_digestEntries 31 = .ok (.ldc2_w 222, 3) := by decide +kernel
theorem dX5_digestEntries_34 : decode cX5_digestEntries 34 = .ok (.lload 4, 2) := by decide +kernel
theorem dX5_digestEntries_36 : decode cX5_digestEntries 36 = .ok (.lmul, 1) := by decide +kernel
theorem dX5_digestEntries_37 : decode cX5_digestEntries 37 = .ok (.aload_n 3, 1) := by decide +kernel
theorem dX5_digestEntries_38 : decode cX5_digestEntries 38 = .ok (.iload 6, 2) := by decide +kernel
theorem dX5_digestEntries_40 : decode cX5_digestEntries 40 = .ok (.invokevirtual 190, 3) := by decide +kernel
theorem dX5_digestEntries_43 : decode cX5_digestEntries 43 = .ok (.i2l, 1) := by decide +kernel
theorem dX5_digestEntries_44 : decode cX5_digestEntries 44 = .ok (.ladd, 1) := by decide +kernel
theorem dX5_digestEntries_45 : decode cX5_digestEntries 45 = .ok (.lstore 4, 2) := by decide +kernel
theorem dX5_digestEntries_47 : decode cX5_digestEntries 47 = .ok (.ldc2_w 222, 3) := by decide +kernel
theorem dX5_digestEntries_50 : decode cX5_digestEntries 50 = .ok (.lload 4, 2) := by decide +kernel
theorem dX5_digestEntries_52 : decode cX5_digestEntries 52 = .ok (.lmul, 1) := by decide +kernel
theorem dX5_digestEntries_53 : decode cX5_digestEntries 53 = .ok (.aload_n 0, 1) := by decide +kernel
theorem dX5_digestEntries_54 : decode cX5_digestEntries 54 = .ok (.getfield 12, 3) := by decide +kernel
theorem dX5_digestEntries_57 : decode cX5_digestEntries 57 = .ok (.aload_n 3, 1) := by decide +kernel
theorem dX5_digestEntries_58 : decode cX5_digestEntries 58 = .ok (.iload 6, 2) := by decide +kernel
theorem dX5_digestEntries_60 : decode cX5_digestEntries 60 = .ok (.invokevirtual 193, 3) := by decide +kernel
theorem dX5_digestEntries_63 : decode cX5_digestEntries 63 = .ok (.i2l, 1) := by decide +kernel
theorem dX5_digestEntries_64 : decode cX5_digestEntries 64 = .ok (.ladd, 1) := by decide +kernel
theorem dX5_digestEntries_65 : decode cX5_digestEntries 65 = .ok (.lstore 4, 2) := by decide +kernel
theorem dX5_digestEntries_67 : decode cX5_digestEntries 67 = .ok (.iinc 6 1, 3) := by decide +kernel
theorem dX5_digestEntries_70 : decode cX5_digestEntries 70 = .ok (.goto (-64), 3) := by decide +kernel
theorem dX5_digestEntries_73 : decode cX5_digestEntries 73 = .ok (.lload 4, 2) := by decide +kernel
theorem dX5_digestEntries_75 : decode cX5_digestEntries 75 = .ok (.lreturn, 1) := by decide +kernel
theorem dX5_digestFences_0 : decode cX5_digestFences 0 = .ok (.lload_n 1, 1) := by decide +kernel
theorem dX5_digestFences_1 : decode cX5_digestFences 1 = .ok (.lstore 4, 2) := by decide +kernel
theorem dX5_digestFences_3 : decode cX5_digestFences 3 = .ok (.iconst 0, 1) := by decide +kernel
theorem dX5_digestFences_4 : decode cX5_digestFences 4 = .ok (.istore 6, 2) := by decide +kernel
theorem dX5_digestFences_6 : decode cX5_digestFences 6 = .ok (.iload 6, 2) := by decide +kernel
theorem dX5_digestFences_8 : decode cX5_digestFences 8 = .ok (.aload_n 0, 1) := by decide +kernel
theorem dX5_digestFences_9 : decode cX5_digestFences 9 = .ok (.getfield 12, 3) := by decide +kernel
theorem dX5_digestFences_12 : decode cX5_digestFences 12 = .ok (.getfield 23, 3) := by decide +kernel
theorem dX5_digestFences_15 : decode cX5_digestFences 15 = .ok (.if_icmp .ge 52, 3) := by decide +kernel
theorem dX5_digestFences_18 : decode cX5_digestFences 18 = .ok (.aload_n 0, 1) := by decide +kernel
theorem dX5_digestFences_19 : decode cX5_digestFences 19 = .ok (.getfield 12, 3) := by decide +kernel
theorem dX5_digestFences_22 : decode cX5_digestFences 22 = .ok (.iload 6, 2) := by decide +kernel
theorem dX5_digestFences_24 : decode cX5_digestFences 24 = .ok (.invokevirtual 224, 3) := by decide +kernel
theorem dX5_digestFences_27 : decode cX5_digestFences 27 = .ok (.astore 7, 2) := by decide +kernel
theorem dX5_digestFences_29 : decode cX5_digestFences 29 = .ok (.ldc2_w 222, 3) := by decide +kernel
theorem dX5_digestFences_32 : decode cX5_digestFences 32 = .ok (.lload 4, 2) := by decide +kernel
theorem dX5_digestFences_34 : decode cX5_digestFences 34 = .ok (.lmul, 1) := by decide +kernel
theorem dX5_digestFences_35 : decode cX5_digestFences 35 = .ok (.aload 7, 2) := by decide +kernel
theorem dX5_digestFences_37 : decode cX5_digestFences 37 = .ok (.ifnull 19, 3) := by decide +kernel
theorem dX5_digestFences_40 : decode cX5_digestFences 40 = .ok (.aload 7, 2) := by decide +kernel
theorem dX5_digestFences_42 : decode cX5_digestFences 42 = .ok (.aload_n 3, 1) := by decide +kernel
theorem dX5_digestFences_43 : decode cX5_digestFences 43 = .ok (.getfield 258, 3) := by decide +kernel
theorem dX5_digestFences_46 : decode cX5_digestFences 46 = .ok (.invokevirtual 84, 3) := by decide +kernel
theorem dX5_digestFences_49 : decode cX5_digestFences 49 = .ok (.ifCond .eq 7, 3) := by decide +kernel
theorem dX5_digestFences_52 : decode cX5_digestFences 52 = .ok (.iconst 1, 1) := by decide +kernel
theorem dX5_digestFences_53 : decode cX5_digestFences 53 = .ok (.goto 4, 3) := by decide +kernel
theorem dX5_digestFences_56 : decode cX5_digestFences 56 = .ok (.iconst 0, 1) := by decide +kernel
theorem dX5_digestFences_57 : decode cX5_digestFences 57 = .ok (.i2l, 1) := by decide +kernel
theorem dX5_digestFences_58 : decode cX5_digestFences 58 = .ok (.ladd, 1) := by decide +kernel
theorem dX5_digestFences_59 : decode cX5_digestFences 59 = .ok (.lstore 4, 2) := by decide +kernel
theorem dX5_digestFences_61 : decode cX5_digestFences 61 = .ok (.iinc 6 1, 3) := by decide +kernel
theorem dX5_digestFences_64 : decode cX5_digestFences 64 = .ok (.goto (-58), 3) := by decide +kernel
theorem dX5_digestFences_67 : decode cX5_digestFences 67 = .ok (.lload 4, 2) := by decide +kernel
theorem dX5_digestFences_69 : decode cX5_digestFences 69 = .ok (.lreturn, 1) := by decide +kernel
theorem dX5_shareOf_0 : decode cX5_shareOf 0 = .ok (.aload_n 0, 1) := by decide +kernel
theorem dX5_shareOf_1 : decode cX5_shareOf 1 = .ok (.getfield 12, 3) := by decide +kernel
theorem dX5_shareOf_4 : decode cX5_shareOf 4 = .ok (.invokevirtual 261, 3) := by decide +kernel
theorem dX5_shareOf_7 : decode cX5_shareOf 7 = .ok (.istore_n 2, 1) := by decide +kernel
theorem dX5_shareOf_8 : decode cX5_shareOf 8 = .ok (.iload_n 2, 1) := by decide +kernel
theorem dX5_shareOf_9 : decode cX5_shareOf 9 = .ok (.ifCond .ne 7, 3) := by decide +kernel
theorem dX5_shareOf_12 : decode cX5_shareOf 12 = .ok (.fconst 0, 1) := by decide +kernel
theorem dX5_shareOf_13 : decode cX5_shareOf 13 = .ok (.goto 11, 3) := by decide +kernel
theorem dX5_shareOf_16 : decode cX5_shareOf 16 = .ok (.aload_n 1, 1) := by decide +kernel
theorem dX5_shareOf_17 : decode cX5_shareOf 17 = .ok (.getfield 59, 3) := by decide +kernel
theorem dX5_shareOf_20 : decode cX5_shareOf 20 = .ok (.i2f, 1) := by decide +kernel
theorem dX5_shareOf_21 : decode cX5_shareOf 21 = .ok (.iload_n 2, 1) := by decide +kernel
theorem dX5_shareOf_22 : decode cX5_shareOf 22 = .ok (.i2f, 1) := by decide +kernel
theorem dX5_shareOf_23 : decode cX5_shareOf 23 = .ok (.fdiv, 1) := by decide +kernel
theorem dX5_shareOf_24 : decode cX5_shareOf 24 = .ok (.freturn, 1) := by decide +kernel
theorem dX5_bitsOfShare_0 : decode cX5_bitsOfShare 0 = .ok (.fload_n 0, 1) := by decide +kernel
theorem dX5_bitsOfShare_1 : decode cX5_bitsOfShare 1 = .ok (.fconst 0, 1) := by decide +kernel
theorem dX5_bitsOfShare_2 : decode cX5_bitsOfShare 2 = .ok (.fcmp .l, 1) := by decide +kernel
theorem dX5_bitsOfShare_3 : decode cX5_bitsOfShare 3 = .ok (.ifCond .gt 5, 3) := by decide +kernel
theorem dX5_bitsOfShare_6 : decode cX5_bitsOfShare 6 = .ok (.iconst 0, 1) := by decide +kernel
theorem dX5_bitsOfShare_7 : decode cX5_bitsOfShare 7 = .ok (.ireturn, 1) := by decide +kernel
theorem dX5_bitsOfShare_8 : decode cX5_bitsOfShare 8 = .ok (.fload_n 0, 1) := by decide +kernel
theorem dX5_bitsOfShare_9 : decode cX5_bitsOfShare 9 = .ok (.fstore_n 1, 1) := by decide +kernel
theorem dX5_bitsOfShare_10 : decode cX5_bitsOfShare 10 = .ok (.bipush 127, 2) := by decide +kernel
theorem dX5_bitsOfShare_12 : decode cX5_bitsOfShare 12 = .ok (.istore_n 2, 1) := by decide +kernel
theorem dX5_bitsOfShare_13 : decode cX5_bitsOfShare 13 = .ok (.fload_n 1, 1) := by decide +kernel
theorem dX5_bitsOfShare_14 : decode cX5_bitsOfShare 14 = .ok (.fconst 1, 1) := by decide +kernel
theorem dX5_bitsOfShare_15 : decode cX5_bitsOfShare 15 = .ok (.fcmp .g, 1) := by decide +kernel
theorem dX5_bitsOfShare_16 : decode cX5_bitsOfShare 16 = .ok (.ifCond .ge 18, 3) := by decide +kernel
theorem dX5_bitsOfShare_19 : decode cX5_bitsOfShare 19 = .ok (.iload_n 2, 1) := by decide +kernel
theorem dX5_bitsOfShare_20 : decode cX5_bitsOfShare 20 = .ok (.iconst 1, 1) := by decide +kernel
theorem dX5_bitsOfShare_21 : decode cX5_bitsOfShare 21 = .ok (.if_icmp .le 13, 3) := by decide +kernel
theorem dX5_bitsOfShare_24 : decode cX5_bitsOfShare 24 = .ok (.fload_n 1, 1) := by decide +kernel
theorem dX5_bitsOfShare_25 : decode cX5_bitsOfShare 25 = .ok (.fconst 2, 1) := by decide +kernel
theorem dX5_bitsOfShare_26 : decode cX5_bitsOfShare 26 = .ok (.fmul, 1) := by decide +kernel
theorem dX5_bitsOfShare_27 : decode cX5_bitsOfShare 27 = .ok (.fstore_n 1, 1) := by decide +kernel
theorem dX5_bitsOfShare_28 : decode cX5_bitsOfShare 28 = .ok (.iinc 2 (-1), 3) := by decide +kernel
theorem dX5_bitsOfShare_31 : decode cX5_bitsOfShare 31 = .ok (.goto (-18), 3) := by decide +kernel
theorem dX5_bitsOfShare_34 : decode cX5_bitsOfShare 34 = .ok (.iload_n 2, 1) := by decide +kernel
theorem dX5_bitsOfShare_35 : decode cX5_bitsOfShare 35 = .ok (.bipush 23, 2) := by decide +kernel
theorem dX5_bitsOfShare_37 : decode cX5_bitsOfShare 37 = .ok (.ishl, 1) := by decide +kernel
theorem dX5_bitsOfShare_38 : decode cX5_bitsOfShare 38 = .ok (.fload_n 1, 1) := by decide +kernel
theorem dX5_bitsOfShare_39 : decode cX5_bitsOfShare 39 = .ok (.fconst 1, 1) := by decide +kernel
theorem dX5_bitsOfShare_40 : decode cX5_bitsOfShare 40 = .ok (.fsub, 1) := by decide +kernel
theorem dX5_bitsOfShare_41 : decode cX5_bitsOfShare 41 = .ok (.ldc_w 264, 3) := by decide +kernel
theorem dX5_bitsOfShare_44 : decode cX5_bitsOfShare 44 = .ok (.fmul, 1) := by decide +kernel
theorem dX5_bitsOfShare_45 : decode cX5_bitsOfShare 45 = .ok (.f2i, 1) := by decide +kernel
theorem dX5_bitsOfShare_46 : decode cX5_bitsOfShare 46 = .ok (.iadd, 1) := by decide +kernel
theorem dX5_bitsOfShare_47 : decode cX5_bitsOfShare 47 = .ok (.ireturn, 1) := by decide +kernel
theorem dX5_existingNode_0 : decode cX5_existingNode 0 = .ok (.aload_n 0, 1) := by decide +kernel
theorem dX5_existingNode_1 : decode cX5_existingNode 1 = .ok (.getfield 12, 3) := by decide +kernel
theorem dX5_existingNode_4 : decode cX5_existingNode 4 = .ok (.iload_n 1, 1) := by decide +kernel
theorem dX5_existingNode_5 : decode cX5_existingNode 5 = .ok (.invokevirtual 224, 3) := by decide +kernel
theorem dX5_existingNode_8 : decode cX5_existingNode 8 = .ok (.astore_n 2, 1) := by decide +kernel
theorem dX5_existingNode_9 : decode cX5_existingNode 9 = .ok (.aload_n 2, 1) := by decide +kernel
theorem dX5_existingNode_10 : decode cX5_existingNode 10 = .ok (.ifnonnull 14, 3) := by decide +kernel
theorem dX5_existingNode_13 : decode cX5_existingNode 13 = .ok (.new 90, 3) := by decide +kernel
theorem dX5_existingNode_16 : decode cX5_existingNode 16 = .ok (.dup, 1) := by decide +kernel
theorem dX5_existingNode_17 : decode cX5_existingNode 17 = .ok (.ldc_w 265, 3) := by decide +kernel
theorem dX5_existingNode_20 : decode cX5_existingNode 20 = .ok (.invokespecial 94, 3) := by decide +kernel
theorem dX5_existingNode_23 : decode cX5_existingNode 23 = .ok (.athrow, 1) := by decide +kernel
theorem dX5_existingNode_24 : decode cX5_existingNode 24 = .ok (.aload_n 2, 1) := by decide +kernel
theorem dX5_existingNode_25 : decode cX5_existingNode 25 = .ok (.areturn, 1) := by decide +kernel
theorem dX5_existingLedger_0 : decode cX5_existingLedger 0 = .ok (.aload_n 0, 1) := by decide +kernel
theorem dX5_existingLedger_1 : decode cX5_existingLedger 1 = .ok (.getfield 12, 3) := by decide +kernel
theorem dX5_existingLedger_4 : decode cX5_existingLedger 4 = .ok (.iload_n 1, 1) := by decide +kernel
theorem dX5_existingLedger_5 : decode cX5_existingLedger 5 = .ok (.invokevirtual 231, 3) := by decide +kernel
theorem dX5_existingLedger_8 : decode cX5_existingLedger 8 = .ok (.astore_n 2, 1) := by decide +kernel
theorem dX5_existingLedger_9 : decode cX5_existingLedger 9 = .ok (.aload_n 2, 1) := by decide +kernel
theorem dX5_existingLedger_10 : decode cX5_existingLedger 10 = .ok (.ifnonnull 14, 3) := by decide +kernel
theorem dX5_existingLedger_13 : decode cX5_existingLedger 13 = .ok (.new 90, 3) := by decide +kernel
theorem dX5_existingLedger_16 : decode cX5_existingLedger 16 = .ok (.dup, 1) := by decide +kernel
theorem dX5_existingLedger_17 : decode cX5_existingLedger 17 = .ok (.ldc_w 267, 3) := by decide +kernel
theorem dX5_existingLedger_20 : decode cX5_existingLedger 20 = .ok (.invokespecial 94, 3) := by decide +kernel
theorem dX5_existingLedger_23 : decode cX5_existingLedger 23 = .ok (.athrow, 1) := by decide +kernel
theorem dX5_existingLedger_24 : decode cX5_existingLedger 24 = .ok (.aload_n 2, 1) := by decide +kernel
theorem dX5_existingLedger_25 : decode cX5_existingLedger 25 = .ok (.areturn, 1) := by decide +kernel
theorem dX5_requireAppended_0 : decode cX5_requireAppended 0 = .ok (.iload_n 1, 1) := by decide +kernel
theorem dX5_requireAppended_1 : decode cX5_requireAppended 1 = .ok (.ifCond .lt 11, 3) := by decide +kernel
theorem dX5_requireAppended_4 : decode cX5_requireAppended 4 = .ok (.iload_n 1, 1) := by decide +kernel
theorem dX5_requireAppended_5 : decode cX5_requireAppended 5 = .ok (.aload_n 0, 1) := by decide +kernel
theorem dX5_requireAppended_6 : decode cX5_requireAppended 6 = .ok (.getfield 127, 3) := by decide +kernel
theorem dX5_requireAppended_9 : decode cX5_requireAppended 9 = .ok (.if_icmp .lt 14, 3) := by decide +kernel
theorem dX5_requireAppended_12 : decode cX5_requireAppended 12 = .ok (.new 90, 3) := by decide +kernel
theorem dX5_requireAppended_15 : decode cX5_requireAppended 15 = .ok (.dup, 1) := by decide +kernel
theorem dX5_requireAppended_16 : decode cX5_requireAppended 16 = .ok (.ldc_w 269, 3) := by decide +kernel
theorem dX5_requireAppended_19 : decode cX5_requireAppended 19 = .ok (.invokespecial 94, 3) := by decide +kernel
theorem dX5_requireAppended_22 : decode cX5_requireAppended 22 = .ok (.athrow, 1) := by decide +kernel
theorem dX5_requireAppended_23 : decode cX5_requireAppended 23 = .ok (.return_, 1) := by decide +kernel
theorem dX5_requireFragment_0 : decode cX5_requireFragment 0 = .ok (.iload_n 1, 1) := by decide +kernel
theorem dX5_requireFragment_1 : decode cX5_requireFragment 1 = .ok (.ifCond .lt 11, 3) := by decide +kernel
theorem dX5_requireFragment_4 : decode cX5_requireFragment 4 = .ok (.iload_n 1, 1) := by decide +kernel
theorem dX5_requireFragment_5 : decode cX5_requireFragment 5 = .ok (.aload_n 0, 1) := by decide +kernel
theorem dX5_requireFragment_6 : decode cX5_requireFragment 6 = .ok (.getfield 196, 3) := by decide +kernel
theorem dX5_requireFragment_9 : decode cX5_requireFragment 9 = .ok (.if_icmp .lt 14, 3) := by decide +kernel
theorem dX5_requireFragment_12 : decode cX5_requireFragment 12 = .ok (.new 90, 3) := by decide +kernel
theorem dX5_requireFragment_15 : decode cX5_requireFragment 15 = .ok (.dup, 1) := by decide +kernel
theorem dX5_requireFragment_16 : decode cX5_requireFragment 16 = .ok (.ldc_w 271, 3) := by decide +kernel
theorem dX5_requireFragment_19 : decode cX5_requireFragment 19 = .ok (.invokespecial 94, 3) := by decide +kernel
theorem dX5_requireFragment_22 : decode cX5_requireFragment 22 = .ok (.athrow, 1) := by decide +kernel
theorem dX5_requireFragment_23 : decode cX5_requireFragment 23 = .ok (.return_, 1) := by decide +kernel
theorem dX5_contains_0 : decode cX5_contains 0 = .ok (.iload_n 1, 1) := by decide +kernel
theorem dX5_contains_1 : decode cX5_contains 1 = .ok (.ifCond .lt 15, 3) := by decide +kernel
theorem dX5_contains_4 : decode cX5_contains 4 = .ok (.iload_n 0, 1) := by decide +kernel
theorem dX5_contains_5 : decode cX5_contains 5 = .ok (.iload_n 1, 1) := by decide +kernel
theorem dX5_contains_6 : decode cX5_contains 6 = .ok (.ishr, 1) := by decide +kernel
theorem dX5_contains_7 : decode cX5_contains 7 = .ok (.iconst 1, 1) := by decide +kernel
theorem dX5_contains_8 : decode cX5_contains 8 = .ok (.iand, 1) := by decide +kernel
theorem dX5_contains_9 : decode cX5_contains 9 = .ok (.ifCond .eq 7, 3) := by decide +kernel
theorem dX5_contains_12 : decode cX5_contains 12 = .ok (.iconst 1, 1) := by decide +kernel
theorem dX5_contains_13 : decode cX5_contains 13 = .ok (.goto 4, 3) := by decide +kernel
theorem dX5_contains_16 : decode cX5_contains 16 = .ok (.iconst 0, 1) := by decide +kernel
theorem dX5_contains_17 : decode cX5_contains 17 = .ok (.ireturn, 1) := by decide +kernel
theorem dX5_copyRow_0 : decode cX5_copyRow 0 = .ok (.aload_n 0, 1) := by decide +kernel
theorem dX5_copyRow_1 : decode cX5_copyRow 1 = .ok (.iconst 0, 1) := by decide +kernel
theorem dX5_copyRow_2 : decode cX5_copyRow 2 = .ok (.aload_n 1, 1) := by decide +kernel
theorem dX5_copyRow_3 : decode cX5_copyRow 3 = .ok (.iconst 0, 1) := by decide +kernel
theorem dX5_copyRow_4 : decode cX5_copyRow 4 = .ok (.aload_n 0, 1) := by decide +kernel
theorem dX5_copyRow_5 : decode cX5_copyRow 5 = .ok (.arraylength, 1) := by decide +kernel
theorem dX5_copyRow_6 : decode cX5_copyRow 6 = .ok (.aload_n 1, 1) := by decide +kernel
theorem dX5_copyRow_7 : decode cX5_copyRow 7 = .ok (.arraylength, 1) := by decide +kernel
theorem dX5_copyRow_8 : decode cX5_copyRow 8 = .ok (.invokestatic 273, 3) := by decide +kernel
theorem dX5_copyRow_11 : decode cX5_copyRow 11 = .ok (.invokestatic 278, 3) := by decide +kernel
theorem dX5_copyRow_14 : decode cX5_copyRow 14 = .ok (.return_, 1) := by decide +kernel
end
section
theorem dX6_init_0 : decode cX6_init 0 = .ok (.aload_n 0, 1) := by decide +kernel
theorem dX6_init_1 : decode cX6_init 1 = .ok (.invokespecial 1, 3) := by decide +kernel
theorem dX6_init_4 : decode cX6_init 4 = .ok (.aload_n 0, 1) := by decide +kernel
theorem dX6_init_5 : decode cX6_init 5 = .ok (.sipush 3463, 3) := by decide +kernel
theorem dX6_init_8 : decode cX6_init 8 = .ok (.newarray .int, 2) := by decide +kernel
theorem dX6_init_10 : decode cX6_init 10 = .ok (.putfield 7, 3) := by decide +kernel
theorem dX6_init_13 : decode cX6_init 13 = .ok (.aload_n 0, 1) := by decide +kernel
theorem dX6_init_14 : decode cX6_init 14 = .ok (.sipush 13852, 3) := by decide +kernel
theorem dX6_init_17 : decode cX6_init 17 = .ok (.newarray .int, 2) := by decide +kernel
theorem dX6_init_19 : decode cX6_init 19 = .ok (.putfield 13, 3) := by decide +kernel
theorem dX6_init_22 : decode cX6_init 22 = .ok (.aload_n 0, 1) := by decide +kernel
theorem dX6_init_23 : decode cX6_init 23 = .ok (.iconst 0, 1) := by decide +kernel
theorem dX6_init_24 : decode cX6_init 24 = .ok (.putfield 16, 3) := by decide +kernel
theorem dX6_init_27 : decode cX6_init 27 = .ok (.return_, 1) := by decide +kernel
theorem dX6_thrown_0 : decode cX6_thrown 0 = .ok (.aload_n 0, 1) := by decide +kernel
theorem dX6_thrown_1 : decode cX6_thrown 1 = .ok (.getfield 20, 3) := by decide +kernel
theorem dX6_thrown_4 : decode cX6_thrown 4 = .ok (.ireturn, 1) := by decide +kernel
theorem dX6_in_0 : decode cX6_in 0 = .ok (.iload_n 0, 1) := by decide +kernel
theorem dX6_in_1 : decode cX6_in 1 = .ok (.iload_n 1, 1) := by decide +kernel
theorem dX6_in_2 : decode cX6_in 2 = .ok (.if_icmp .lt 12, 3) := by decide +kernel
theorem dX6_in_5 : decode cX6_in 5 = .ok (.iload_n 0, 1) := by decide +kernel
theorem dX6_in_6 : decode cX6_in 6 = .ok (.iload_n 2, 1) := by decide +kernel
theorem dX6_in_7 : decode cX6_in 7 = .ok (.if_icmp .gt 7, 3) := by decide +kernel
theorem dX6_in_10 : decode cX6_in 10 = .ok (.iconst 1, 1) := by decide +kernel
theorem dX6_in_11 : decode cX6_in 11 = .ok (.goto 4, 3) := by decide +kernel
theorem dX6_in_14 : decode cX6_in 14 = .ok (.iconst 0, 1) := by decide +kernel
theorem dX6_in_15 : decode cX6_in 15 = .ok (.ireturn, 1) := by decide +kernel
theorem dX6_has_0 : decode cX6_has 0 = .ok (.iload_n 0, 1) := by decide +kernel
theorem dX6_has_1 : decode cX6_has 1 = .ok (.iload_n 1, 1) := by decide +kernel
theorem dX6_has_2 : decode cX6_has 2 = .ok (.ishr, 1) := by decide +kernel
theorem dX6_has_3 : decode cX6_has 3 = .ok (.iconst 1, 1) := by decide +kernel
theorem dX6_has_4 : decode cX6_has 4 = .ok (.iand, 1) := by decide +kernel
theorem dX6_has_5 : decode cX6_has 5 = .ok (.iconst 1, 1) := by decide +kernel
theorem dX6_has_6 : decode cX6_has 6 = .ok (.if_icmp .ne 7, 3) := by decide +kernel
theorem dX6_has_9 : decode cX6_has 9 = .ok (.iconst 1, 1) := by decide +kernel
theorem dX6_has_10 : decode cX6_has 10 = .ok (.goto 4, 3) := by decide +kernel
theorem dX6_has_13 : decode cX6_has 13 = .ok (.iconst 0, 1) := by decide +kernel
theorem dX6_has_14 : decode cX6_has 14 = .ok (.ireturn, 1) := by decide +kernel
theorem dX6_count_0 : decode cX6_count 0 = .ok (.iconst 0, 1) := by decide +kernel
theorem dX6_count_1 : decode cX6_count 1 = .ok (.istore_n 1, 1) := by decide +kernel
theorem dX6_count_2 : decode cX6_count 2 = .ok (.iconst 0, 1) := by decide +kernel
theorem dX6_count_3 : decode cX6_count 3 = .ok (.istore_n 2, 1) := by decide +kernel
theorem dX6_count_4 : decode cX6_count 4 = .ok (.iload_n 2, 1) := by decide +kernel
theorem dX6_count_5 : decode cX6_count 5 = .ok (.bipush 8, 2) := by decide +kernel
theorem dX6_count_7 : decode cX6_count 7 = .ok (.if_icmp .ge 17, 3) := by decide +kernel
theorem dX6_count_10 : decode cX6_count 10 = .ok (.iload_n 1, 1) := by decide +kernel
theorem dX6_count_11 : decode cX6_count 11 = .ok (.iload_n 0, 1) := by decide +kernel
theorem dX6_count_12 : decode cX6_count 12 = .ok (.iload_n 2, 1) := by decide +kernel
theorem dX6_count_13 : decode cX6_count 13 = .ok (.ishr, 1) := by decide +kernel
theorem dX6_count_14 : decode cX6_count 14 = .ok (.iconst 1, 1) := by decide +kernel
theorem dX6_count_15 : decode cX6_count 15 = .ok (.iand, 1) := by decide +kernel
theorem dX6_count_16 : decode cX6_count 16 = .ok (.iadd, 1) := by decide +kernel
theorem dX6_count_17 : decode cX6_count 17 = .ok (.istore_n 1, 1) := by decide +kernel
theorem dX6_count_18 : decode cX6_count 18 = .ok (.iinc 2 1, 3) := by decide +kernel
theorem dX6_count_21 : decode cX6_count 21 = .ok (.goto (-17), 3) := by decide +kernel
theorem dX6_count_24 : decode cX6_count 24 = .ok (.iload_n 1, 1) := by decide +kernel
theorem dX6_count_25 : decode cX6_count 25 = .ok (.ireturn, 1) := by decide +kernel
theorem dX6_isFine_0 : decode cX6_isFine 0 = .ok (.aload_n 0, 1) := by decide +kernel
theorem dX6_isFine_1 : decode cX6_isFine 1 = .ok (.iload_n 1, 1) := by decide +kernel
theorem dX6_isFine_2 : decode cX6_isFine 2 = .ok (.ifCond .ne 7, 3) := by decide +kernel
theorem dX6_isFine_5 : decode cX6_isFine 5 = .ok (.iconst 1, 1) := by decide +kernel
theorem dX6_isFine_6 : decode cX6_isFine 6 = .ok (.goto 12, 3) := by decide +kernel
theorem dX6_isFine_9 : decode cX6_isFine 9 = .ok (.iload_n 2, 1) := by decide +kernel
theorem dX6_isFine_10 : decode cX6_isFine 10 = .ok (.ifCond .ne 7, 3) := by decide +kernel
theorem dX6_isFine_13 : decode cX6_isFine 13 = .ok (.iconst 2, 1) := by decide +kernel
theorem dX6_isFine_14 : decode cX6_isFine 14 = .ok (.goto 4, 3) := by decide +kernel
theorem dX6_isFine_17 : decode cX6_isFine 17 = .ok (.iconst 0, 1) := by decide +kernel
theorem dX6_isFine_18 : decode cX6_isFine 18 = .ok (.putfield 20, 3) := by decide +kernel
theorem dX6_isFine_21 : decode cX6_isFine 21 = .ok (.aload_n 0, 1) := by decide +kernel
theorem dX6_isFine_22 : decode cX6_isFine 22 = .ok (.getfield 20, 3) := by decide +kernel
theorem dX6_isFine_25 : decode cX6_isFine 25 = .ok (.ifCond .ne 7, 3) := by decide +kernel
theorem dX6_isFine_28 : decode cX6_isFine 28 = .ok (.iconst 1, 1) := by decide +kernel
theorem dX6_isFine_29 : decode cX6_isFine 29 = .ok (.goto 4, 3) := by decide +kernel
theorem dX6_isFine_32 : decode cX6_isFine 32 = .ok (.iconst 0, 1) := by decide +kernel
theorem dX6_isFine_33 : decode cX6_isFine 33 = .ok (.ireturn, 1) := by decide +kernel
theorem dX6_note_0 : decode cX6_note 0 = .ok (.aload_n 0, 1) := by decide +kernel
theorem dX6_note_1 : decode cX6_note 1 = .ok (.getfield 16, 3) := by decide +kernel
theorem dX6_note_4 : decode cX6_note 4 = .ok (.iconst 4, 1) := by decide +kernel
theorem dX6_note_5 : decode cX6_note 5 = .ok (.if_icmp .ne 44, 3) := by decide +kernel
theorem dX6_note_8 : decode cX6_note 8 = .ok (.iconst 0, 1) := by decide +kernel
theorem dX6_note_9 : decode cX6_note 9 = .ok (.istore_n 1, 1) := by decide +kernel
theorem dX6_note_10 : decode cX6_note 10 = .ok (.iload_n 1, 1) := by decide +kernel
theorem dX6_note_11 : decode cX6_note 11 = .ok (.sipush 10389, 3) := by decide +kernel
theorem dX6_note_14 : decode cX6_note 14 = .ok (.if_icmp .ge 25, 3) := by decide +kernel
theorem dX6_note_17 : decode cX6_note 17 = .ok (.aload_n 0, 1) := by decide +kernel
theorem dX6_note_18 : decode cX6_note 18 = .ok (.getfield 13, 3) := by decide +kernel
theorem dX6_note_21 : decode cX6_note 21 = .ok (.iload_n 1, 1) := by decide +kernel
theorem dX6_note_22 : decode cX6_note 22 = .ok (.aload_n 0, 1) := by decide +kernel
theorem dX6_note_23 : decode cX6_note 23 = .ok (.getfield 13, 3) := by decide +kernel
theorem dX6_note_26 : decode cX6_note 26 = .ok (.iload_n 1, 1) := by decide +kernel
theorem dX6_note_27 : decode cX6_note 27 = .ok (.sipush 3463, 3) := by decide +kernel
theorem dX6_note_30 : decode cX6_note 30 = .ok (.iadd, 1) := by decide +kernel
theorem dX6_note_31 : decode cX6_note 31 = .ok (.iaload, 1) := by decide +kernel
theorem dX6_note_32 : decode cX6_note 32 = .ok (.iastore, 1) := by decide +kernel
theorem dX6_note_33 : decode cX6_note 33 = .ok (.iinc 1 1, 3) := by decide +kernel
theorem dX6_note_36 : decode cX6_note 36 = .ok (.goto (-26), 3) := by decide +kernel
theorem dX6_note_39 : decode cX6_note 39 = .ok (.aload_n 0, 1) := by decide +kernel
theorem dX6_note_40 : decode cX6_note 40 = .ok (.dup, 1) := by decide +kernel
theorem dX6_note_41 : decode cX6_note 41 = .ok (.getfield 16, 3) := by decide +kernel
theorem dX6_note_44 : decode cX6_note 44 = .ok (.iconst 1, 1) := by decide +kernel
theorem dX6_note_45 : decode cX6_note 45 = .ok (.isub, 1) := by decide +kernel
theorem dX6_note_46 : decode cX6_note 46 = .ok (.putfield 16, 3) := by decide +kernel
theorem dX6_note_49 : decode cX6_note 49 = .ok (.iconst 0, 1) := by decide +kernel
theorem dX6_note_50 : decode cX6_note 50 = .ok (.istore_n 1, 1) := by decide +kernel
theorem dX6_note_51 : decode cX6_note 51 = .ok (.iload_n 1, 1) := by decide +kernel
theorem dX6_note_52 : decode cX6_note 52 = .ok (.sipush 3463, 3) := by decide +kernel
theorem dX6_note_55 : decode cX6_note 55 = .ok (.if_icmp .ge 30, 3) := by decide +kernel
theorem dX6_note_58 : decode cX6_note 58 = .ok (.aload_n 0, 1) := by decide +kernel
theorem dX6_note_59 : decode cX6_note 59 = .ok (.getfield 13, 3) := by decide +kernel
theorem dX6_note_62 : decode cX6_note 62 = .ok (.sipush 3463, 3) := by decide +kernel
theorem dX6_note_65 : decode cX6_note 65 = .ok (.aload_n 0, 1) := by decide +kernel
theorem dX6_note_66 : decode cX6_note 66 = .ok (.getfield 16, 3) := by decide +kernel
theorem dX6_note_69 : decode cX6_note 69 = .ok (.imul, 1) := by decide +kernel
theorem dX6_note_70 : decode cX6_note 70 = .ok (.iload_n 1, 1) := by decide +kernel
theorem dX6_note_71 : decode cX6_note 71 = .ok (.iadd, 1) := by decide +kernel
theorem dX6_note_72 : decode cX6_note 72 = .ok (.aload_n 0, 1) := by decide +kernel
theorem dX6_note_73 : decode cX6_note 73 = .ok (.getfield 7, 3) := by decide +kernel
theorem dX6_note_76 : decode cX6_note 76 = .ok (.iload_n 1, 1) := by decide +kernel
theorem dX6_note_77 : decode cX6_note 77 = .ok (.iaload, 1) := by decide +kernel
theorem dX6_note_78 : decode cX6_note 78 = .ok (.iastore, 1) := by decide +kernel
theorem dX6_note_79 : decode cX6_note 79 = .ok (.iinc 1 1, 3) := by decide +kernel
theorem dX6_note_82 : decode cX6_note 82 = .ok (.goto (-31), 3) := by decide +kernel
theorem dX6_note_85 : decode cX6_note 85 = .ok (.aload_n 0, 1) := by decide +kernel
theorem dX6_note_86 : decode cX6_note 86 = .ok (.dup, 1) := by decide +kernel
theorem dX6_note_87 : decode cX6_note 87 = .ok (.getfield 16, 3) := by decide +kernel
theorem dX6_note_90 : decode cX6_note 90 = .ok (.iconst 1, 1) := by decide +kernel
theorem dX6_note_91 : decode cX6_note 91 = .ok (.iadd, 1) := by decide +kernel
theorem dX6_note_92 : decode cX6_note 92 = .ok (.putfield 16, 3) := by decide +kernel
theorem dX6_note_95 : decode cX6_note 95 = .ok (.return_, 1) := by decide +kernel
theorem dX6_isNode_0 : decode cX6_isNode 0 = .ok (.iload_n 1, 1) := by decide +kernel
theorem dX6_isNode_1 : decode cX6_isNode 1 = .ok (.iconst 0, 1) := by decide +kernel
theorem dX6_isNode_2 : decode cX6_isNode 2 = .ok (.aload_n 0, 1) := by decide +kernel
theorem dX6_isNode_3 : decode cX6_isNode 3 = .ok (.getfield 7, 3) := by decide +kernel
theorem dX6_isNode_6 : decode cX6_isNode 6 = .ok (.iconst 0, 1) := by decide +kernel
theorem dX6_isNode_7 : decode cX6_isNode 7 = .ok (.iaload, 1) := by decide +kernel
theorem dX6_isNode_8 : decode cX6_isNode 8 = .ok (.iconst 1, 1) := by decide +kernel
theorem dX6_isNode_9 : decode cX6_isNode 9 = .ok (.isub, 1) := by decide +kernel
theorem dX6_isNode_10 : decode cX6_isNode 10 = .ok (.invokestatic 23, 3) := by decide +kernel
theorem dX6_isNode_13 : decode cX6_isNode 13 = .ok (.ireturn, 1) := by decide +kernel
theorem dX6_isLedger_0 : decode cX6_isLedger 0 = .ok (.iload_n 1, 1) := by decide +kernel
theorem dX6_isLedger_1 : decode cX6_isLedger 1 = .ok (.iconst 0, 1) := by decide +kernel
theorem dX6_isLedger_2 : decode cX6_isLedger 2 = .ok (.aload_n 0, 1) := by decide +kernel
theorem dX6_isLedger_3 : decode cX6_isLedger 3 = .ok (.getfield 7, 3) := by decide +kernel
theorem dX6_isLedger_6 : decode cX6_isLedger 6 = .ok (.iconst 1, 1) := by decide +kernel
theorem dX6_isLedger_7 : decode cX6_isLedger 7 = .ok (.iaload, 1) := by decide +kernel
theorem dX6_isLedger_8 : decode cX6_isLedger 8 = .ok (.iconst 1, 1) := by decide +kernel
theorem dX6_isLedger_9 : decode cX6_isLedger 9 = .ok (.isub, 1) := by decide +kernel
theorem dX6_isLedger_10 : decode cX6_isLedger 10 = .ok (.invokestatic 23, 3) := by decide +kernel
theorem dX6_isLedger_13 : decode cX6_isLedger 13 = .ok (.ireturn, 1) := by decide +kernel
theorem dX6_isUp_0 : decode cX6_isUp 0 = .ok (.aload_n 0, 1) := by decide +kernel
theorem dX6_isUp_1 : decode cX6_isUp 1 = .ok (.getfield 7, 3) := by decide +kernel
theorem dX6_isUp_4 : decode cX6_isUp 4 = .ok (.iconst 3, 1) := by decide +kernel
theorem dX6_isUp_5 : decode cX6_isUp 5 = .ok (.iload_n 1, 1) := by decide +kernel
theorem dX6_isUp_6 : decode cX6_isUp 6 = .ok (.iadd, 1) := by decide +kernel
theorem dX6_isUp_7 : decode cX6_isUp 7 = .ok (.iaload, 1) := by decide +kernel
theorem dX6_isUp_8 : decode cX6_isUp 8 = .ok (.iconst 1, 1) := by decide +kernel
theorem dX6_isUp_9 : decode cX6_isUp 9 = .ok (.if_icmp .ne 7, 3) := by decide +kernel
theorem dX6_isUp_12 : decode cX6_isUp 12 = .ok (.iconst 1, 1) := by decide +kernel
theorem dX6_isUp_13 : decode cX6_isUp 13 = .ok (.goto 4, 3) := by decide +kernel
theorem dX6_isUp_16 : decode cX6_isUp 16 = .ok (.iconst 0, 1) := by decide +kernel
theorem dX6_isUp_17 : decode cX6_isUp 17 = .ok (.ireturn, 1) := by decide +kernel
theorem dX6_of_0 : decode cX6_of 0 = .ok (.aload_n 0, 1) := by decide +kernel
theorem dX6_of_1 : decode cX6_of 1 = .ok (.getfield 7, 3) := by decide +kernel
theorem dX6_of_4 : decode cX6_of 4 = .ok (.sipush 2131, 3) := by decide +kernel
theorem dX6_of_7 : decode cX6_of 7 = .ok (.sipush 333, 3) := by decide +kernel
theorem dX6_of_10 : decode cX6_of 10 = .ok (.iload_n 1, 1) := by decide +kernel
theorem dX6_of_11 : decode cX6_of 11 = .ok (.imul, 1) := by decide +kernel
theorem dX6_of_12 : decode cX6_of 12 = .ok (.iadd, 1) := by decide +kernel
theorem dX6_of_13 : decode cX6_of 13 = .ok (.iload_n 2, 1) := by decide +kernel
theorem dX6_of_14 : decode cX6_of 14 = .ok (.iadd, 1) := by decide +kernel
theorem dX6_of_15 : decode cX6_of 15 = .ok (.iaload, 1) := by decide +kernel
theorem dX6_of_16 : decode cX6_of 16 = .ok (.ireturn, 1) := by decide +kernel
theorem dX6_set_0 : decode cX6_set 0 = .ok (.aload_n 0, 1) := by decide +kernel
theorem dX6_set_1 : decode cX6_set 1 = .ok (.getfield 7, 3) := by decide +kernel
theorem dX6_set_4 : decode cX6_set 4 = .ok (.sipush 2131, 3) := by decide +kernel
theorem dX6_set_7 : decode cX6_set 7 = .ok (.sipush 333, 3) := by decide +kernel
theorem dX6_set_10 : decode cX6_set 10 = .ok (.iload_n 1, 1) := by decide +kernel
theorem dX6_set_11 : decode cX6_set 11 = .ok (.imul, 1) := by decide +kernel
theorem dX6_set_12 : decode cX6_set 12 = .ok (.iadd, 1) := by decide +kernel
theorem dX6_set_13 : decode cX6_set 13 = .ok (.iload_n 2, 1) := by decide +kernel
theorem dX6_set_14 : decode cX6_set 14 = .ok (.iadd, 1) := by decide +kernel
theorem dX6_set_15 : decode cX6_set 15 = .ok (.iload_n 3, 1) := by decide +kernel
theorem dX6_set_16 : decode cX6_set 16 = .ok (.iastore, 1) := by decide +kernel
theorem dX6_set_17 : decode cX6_set 17 = .ok (.return_, 1) := by decide +kernel
theorem dX6_storedAt_0 : decode cX6_storedAt 0 = .ok (.sipush 819, 3) := by decide +kernel
theorem dX6_storedAt_3 : decode cX6_storedAt 3 = .ok (.sipush 160, 3) := by decide +kernel
theorem dX6_storedAt_6 : decode cX6_storedAt 6 = .ok (.iload_n 0, 1) := by decide +kernel
theorem dX6_storedAt_7 : decode cX6_storedAt 7 = .ok (.imul, 1) := by decide +kernel
theorem dX6_storedAt_8 : decode cX6_storedAt 8 = .ok (.iadd, 1) := by decide +kernel
theorem dX6_storedAt_9 : decode cX6_storedAt 9 = .ok (.bipush 40, 2) := by decide +kernel
theorem dX6_storedAt_11 : decode cX6_storedAt 11 = .ok (.iload_n 1, 1) := by decide +kernel
theorem dX6_storedAt_12 : decode cX6_storedAt 12 = .ok (.imul, 1) := by decide +kernel
theorem dX6_storedAt_13 : decode cX6_storedAt 13 = .ok (.iadd, 1) := by decide +kernel
theorem dX6_storedAt_14 : decode cX6_storedAt 14 = .ok (.iload_n 2, 1) := by decide +kernel
theorem dX6_storedAt_15 : decode cX6_storedAt 15 = .ok (.iadd, 1) := by decide +kernel
theorem dX6_storedAt_16 : decode cX6_storedAt 16 = .ok (.ireturn, 1) := by decide +kernel
theorem dX6_stores_0 : decode cX6_stores 0 = .ok (.aload_n 0, 1) := by decide +kernel
theorem dX6_stores_1 : decode cX6_stores 1 = .ok (.getfield 7, 3) := by decide +kernel
theorem dX6_stores_4 : decode cX6_stores 4 = .ok (.iload_n 1, 1) := by decide +kernel
theorem dX6_stores_5 : decode cX6_stores 5 = .ok (.iload_n 2, 1) := by decide +kernel
theorem dX6_stores_6 : decode cX6_stores 6 = .ok (.iload_n 3, 1) := by decide +kernel
theorem dX6_stores_7 : decode cX6_stores 7 = .ok (.invokestatic 27, 3) := by decide +kernel
theorem dX6_stores_10 : decode cX6_stores 10 = .ok (.iaload, 1) := by decide +kernel
theorem dX6_stores_11 : decode cX6_stores 11 = .ok (.ifCond .eq 7, 3) := by decide +kernel
theorem dX6_stores_14 : decode cX6_stores 14 = .ok (.iconst 1, 1) := by decide +kernel
theorem dX6_stores_15 : decode cX6_stores 15 = .ok (.goto 4, 3) := by decide +kernel
theorem dX6_stores_18 : decode cX6_stores 18 = .ok (.iconst 0, 1) := by decide +kernel
theorem dX6_stores_19 : decode cX6_stores 19 = .ok (.ireturn, 1) := by decide +kernel
theorem dX6_store_0 : decode cX6_store 0 = .ok (.aload_n 0, 1) := by decide +kernel
theorem dX6_store_1 : decode cX6_store 1 = .ok (.getfield 7, 3) := by decide +kernel
theorem dX6_store_4 : decode cX6_store 4 = .ok (.iload_n 1, 1) := by decide +kernel
theorem dX6_store_5 : decode cX6_store 5 = .ok (.iload_n 2, 1) := by decide +kernel
theorem dX6_store_6 : decode cX6_store 6 = .ok (.iload_n 3, 1) := by decide +kernel
theorem dX6_store_7 : decode cX6_store 7 = .ok (.invokestatic 27, 3) := by decide +kernel
theorem dX6_store_10 : decode cX6_store 10 = .ok (.bipush 64, 2) := by decide +kernel
theorem dX6_store_12 : decode cX6_store 12 = .ok (.iload 4, 2) := by decide +kernel
theorem dX6_store_14 : decode cX6_store 14 = .ok (.iconst 1, 1) := by decide +kernel
theorem dX6_store_15 : decode cX6_store 15 = .ok (.iadd, 1) := by decide +kernel
theorem dX6_store_16 : decode cX6_store 16 = .ok (.imul, 1) := by decide +kernel
theorem dX6_store_17 : decode cX6_store 17 = .ok (.iload 5, 2) := by decide +kernel
theorem dX6_store_19 : decode cX6_store 19 = .ok (.iadd, 1) := by decide +kernel
theorem dX6_store_20 : decode cX6_store 20 = .ok (.iconst 1, 1) := by decide +kernel
theorem dX6_store_21 : decode cX6_store 21 = .ok (.iadd, 1) := by decide +kernel
theorem dX6_store_22 : decode cX6_store 22 = .ok (.iastore, 1) := by decide +kernel
theorem dX6_store_23 : decode cX6_store 23 = .ok (.return_, 1) := by decide +kernel
theorem dX6_payloadAt_0 : decode cX6_payloadAt 0 = .ok (.aload_n 0, 1) := by decide +kernel
theorem dX6_payloadAt_1 : decode cX6_payloadAt 1 = .ok (.getfield 7, 3) := by decide +kernel
theorem dX6_payloadAt_4 : decode cX6_payloadAt 4 = .ok (.iload_n 1, 1) := by decide +kernel
theorem dX6_payloadAt_5 : decode cX6_payloadAt 5 = .ok (.iload_n 2, 1) := by decide +kernel
theorem dX6_payloadAt_6 : decode cX6_payloadAt 6 = .ok (.iload_n 3, 1) := by decide +kernel
theorem dX6_payloadAt_7 : decode cX6_payloadAt 7 = .ok (.invokestatic 27, 3) := by decide +kernel
theorem dX6_payloadAt_10 : decode cX6_payloadAt 10 = .ok (.iaload, 1) := by decide +kernel
theorem dX6_payloadAt_11 : decode cX6_payloadAt 11 = .ok (.bipush 64, 2) := by decide +kernel
theorem dX6_payloadAt_13 : decode cX6_payloadAt 13 = .ok (.idiv, 1) := by decide +kernel
theorem dX6_payloadAt_14 : decode cX6_payloadAt 14 = .ok (.iconst 1, 1) := by decide +kernel
theorem dX6_payloadAt_15 : decode cX6_payloadAt 15 = .ok (.isub, 1) := by decide +kernel
theorem dX6_payloadAt_16 : decode cX6_payloadAt 16 = .ok (.ireturn, 1) := by decide +kernel
theorem dX6_confirmedAt_0 : decode cX6_confirmedAt 0 = .ok (.aload_n 0, 1) := by decide +kernel
theorem dX6_confirmedAt_1 : decode cX6_confirmedAt 1 = .ok (.getfield 7, 3) := by decide +kernel
theorem dX6_confirmedAt_4 : decode cX6_confirmedAt 4 = .ok (.iload_n 1, 1) := by decide +kernel
theorem dX6_confirmedAt_5 : decode cX6_confirmedAt 5 = .ok (.iload_n 2, 1) := by decide +kernel
theorem dX6_confirmedAt_6 : decode cX6_confirmedAt 6 = .ok (.iload_n 3, 1) := by decide +kernel
theorem dX6_confirmedAt_7 : decode cX6_confirmedAt 7 = .ok (.invokestatic 27, 3) := by decide +kernel
theorem dX6_confirmedAt_10 : decode cX6_confirmedAt 10 = .ok (.iaload, 1) := by decide +kernel
theorem dX6_confirmedAt_11 : decode cX6_confirmedAt 11 = .ok (.bipush 64, 2) := by decide +kernel
theorem dX6_confirmedAt_13 : decode cX6_confirmedAt 13 = .ok (.irem, 1) := by decide +kernel
theorem dX6_confirmedAt_14 : decode cX6_confirmedAt 14 = .ok (.iconst 1, 1) := by decide +kernel
theorem dX6_confirmedAt_15 : decode cX6_confirmedAt 15 = .ok (.isub, 1) := by decide +kernel
theorem dX6_confirmedAt_16 : decode cX6_confirmedAt 16 = .ok (.ireturn, 1) := by decide +kernel
theorem dX6_weightOf_0 : decode cX6_weightOf 0 = .ok (.iconst 0, 1) := by decide +kernel
theorem dX6_weightOf_1 : decode cX6_weightOf 1 = .ok (.istore_n 2, 1) := by decide +kernel
theorem dX6_weightOf_2 : decode cX6_weightOf 2 = .ok (.iconst 0, 1) := by decide +kernel
theorem dX6_weightOf_3 : decode cX6_weightOf 3 = .ok (.istore_n 3, 1) := by decide +kernel
theorem dX6_weightOf_4 : decode cX6_weightOf 4 = .ok (.iload_n 3, 1) := by decide +kernel
theorem dX6_weightOf_5 : decode cX6_weightOf 5 = .ok (.sipush 160, 3) := by decide +kernel
theorem dX6_weightOf_8 : decode cX6_weightOf 8 = .ok (.if_icmp .ge 36, 3) := by decide +kernel
theorem dX6_weightOf_11 : decode cX6_weightOf 11 = .ok (.iload_n 2, 1) := by decide +kernel
theorem dX6_weightOf_12 : decode cX6_weightOf 12 = .ok (.aload_n 0, 1) := by decide +kernel
theorem dX6_weightOf_13 : decode cX6_weightOf 13 = .ok (.getfield 7, 3) := by decide +kernel
theorem dX6_weightOf_16 : decode cX6_weightOf 16 = .ok (.sipush 819, 3) := by decide +kernel
theorem dX6_weightOf_19 : decode cX6_weightOf 19 = .ok (.sipush 160, 3) := by decide +kernel
theorem dX6_weightOf_22 : decode cX6_weightOf 22 = .ok (.iload_n 1, 1) := by decide +kernel
theorem dX6_weightOf_23 : decode cX6_weightOf 23 = .ok (.imul, 1) := by decide +kernel
theorem dX6_weightOf_24 : decode cX6_weightOf 24 = .ok (.iadd, 1) := by decide +kernel
theorem dX6_weightOf_25 : decode cX6_weightOf 25 = .ok (.iload_n 3, 1) := by decide +kernel
theorem dX6_weightOf_26 : decode cX6_weightOf 26 = .ok (.iadd, 1) := by decide +kernel
theorem dX6_weightOf_27 : decode cX6_weightOf 27 = .ok (.iaload, 1) := by decide +kernel
theorem dX6_weightOf_28 : decode cX6_weightOf 28 = .ok (.ifCond .eq 7, 3) := by decide +kernel
theorem dX6_weightOf_31 : decode cX6_weightOf 31 = .ok (.iconst 1, 1) := by decide +kernel
theorem dX6_weightOf_32 : decode cX6_weightOf 32 = .ok (.goto 4, 3) := by decide +kernel
theorem dX6_weightOf_35 : decode cX6_weightOf 35 = .ok (.iconst 0, 1) := by decide +kernel
theorem dX6_weightOf_36 : decode cX6_weightOf 36 = .ok (.iadd, 1) := by decide +kernel
theorem dX6_weightOf_37 : decode cX6_weightOf 37 = .ok (.istore_n 2, 1) := by decide +kernel
theorem dX6_weightOf_38 : decode cX6_weightOf 38 = .ok (.iinc 3 1, 3) := by decide +kernel
theorem dX6_weightOf_41 : decode cX6_weightOf 41 = .ok (.goto (-37), 3) := by decide +kernel
theorem dX6_weightOf_44 : decode cX6_weightOf 44 = .ok (.iload_n 2, 1) := by decide +kernel
theorem dX6_weightOf_45 : decode cX6_weightOf 45 = .ok (.ireturn, 1) := by decide +kernel
theorem dX6_fragmentOf_0 : decode cX6_fragmentOf 0 = .ok (.iconst 0, 1) := by decide +kernel
theorem dX6_fragmentOf_1 : decode cX6_fragmentOf 1 = .ok (.istore_n 3, 1) := by decide +kernel
theorem dX6_fragmentOf_2 : decode cX6_fragmentOf 2 = .ok (.iload_n 3, 1) := by decide +kernel
theorem dX6_fragmentOf_3 : decode cX6_fragmentOf 3 = .ok (.iconst 1, 1) := by decide +kernel
theorem dX6_fragmentOf_4 : decode cX6_fragmentOf 4 = .ok (.iadd, 1) := by decide +kernel
theorem dX6_fragmentOf_5 : decode cX6_fragmentOf 5 = .ok (.aload_n 0, 1) := by decide +kernel
theorem dX6_fragmentOf_6 : decode cX6_fragmentOf 6 = .ok (.iload_n 1, 1) := by decide +kernel
theorem dX6_fragmentOf_7 : decode cX6_fragmentOf 7 = .ok (.bipush 6, 2) := by decide +kernel
theorem dX6_fragmentOf_9 : decode cX6_fragmentOf 9 = .ok (.invokevirtual 31, 3) := by decide +kernel
theorem dX6_fragmentOf_12 : decode cX6_fragmentOf 12 = .ok (.if_icmp .ge 24, 3) := by decide +kernel
theorem dX6_fragmentOf_15 : decode cX6_fragmentOf 15 = .ok (.aload_n 0, 1) := by decide +kernel
theorem dX6_fragmentOf_16 : decode cX6_fragmentOf 16 = .ok (.iload_n 1, 1) := by decide +kernel
theorem dX6_fragmentOf_17 : decode cX6_fragmentOf 17 = .ok (.bipush 87, 2) := by decide +kernel
theorem dX6_fragmentOf_19 : decode cX6_fragmentOf 19 = .ok (.iload_n 3, 1) := by decide +kernel
theorem dX6_fragmentOf_20 : decode cX6_fragmentOf 20 = .ok (.iadd, 1) := by decide +kernel
theorem dX6_fragmentOf_21 : decode cX6_fragmentOf 21 = .ok (.iconst 1, 1) := by decide +kernel
theorem dX6_fragmentOf_22 : decode cX6_fragmentOf 22 = .ok (.iadd, 1) := by decide +kernel
theorem dX6_fragmentOf_23 : decode cX6_fragmentOf 23 = .ok (.invokevirtual 31, 3) := by decide +kernel
theorem dX6_fragmentOf_26 : decode cX6_fragmentOf 26 = .ok (.iload_n 2, 1) := by decide +kernel
theorem dX6_fragmentOf_27 : decode cX6_fragmentOf 27 = .ok (.if_icmp .gt 9, 3) := by decide +kernel
theorem dX6_fragmentOf_30 : decode cX6_fragmentOf 30 = .ok (.iinc 3 1, 3) := by decide +kernel
theorem dX6_fragmentOf_33 : decode cX6_fragmentOf 33 = .ok (.goto (-31), 3) := by decide +kernel
theorem dX6_fragmentOf_36 : decode cX6_fragmentOf 36 = .ok (.iload_n 3, 1) := by decide +kernel
theorem dX6_fragmentOf_37 : decode cX6_fragmentOf 37 = .ok (.ireturn, 1) := by decide +kernel
theorem dX6_memberOf_0 : decode cX6_memberOf 0 = .ok (.aload_n 0, 1) := by decide +kernel
theorem dX6_memberOf_1 : decode cX6_memberOf 1 = .ok (.iload_n 1, 1) := by decide +kernel
theorem dX6_memberOf_2 : decode cX6_memberOf 2 = .ok (.sipush 128, 3) := by decide +kernel
theorem dX6_memberOf_5 : decode cX6_memberOf 5 = .ok (.iconst 5, 1) := by decide +kernel
theorem dX6_memberOf_6 : decode cX6_memberOf 6 = .ok (.iload_n 2, 1) := by decide +kernel
theorem dX6_memberOf_7 : decode cX6_memberOf 7 = .ok (.imul, 1) := by decide +kernel
theorem dX6_memberOf_8 : decode cX6_memberOf 8 = .ok (.iadd, 1) := by decide +kernel
theorem dX6_memberOf_9 : decode cX6_memberOf 9 = .ok (.iload_n 3, 1) := by decide +kernel
theorem dX6_memberOf_10 : decode cX6_memberOf 10 = .ok (.iadd, 1) := by decide +kernel
theorem dX6_memberOf_11 : decode cX6_memberOf 11 = .ok (.invokevirtual 31, 3) := by decide +kernel
theorem dX6_memberOf_14 : decode cX6_memberOf 14 = .ok (.ireturn, 1) := by decide +kernel
theorem dX6_writer_0 : decode cX6_writer 0 = .ok (.aload_n 0, 1) := by decide +kernel
theorem dX6_writer_1 : decode cX6_writer 1 = .ok (.iload_n 1, 1) := by decide +kernel
theorem dX6_writer_2 : decode cX6_writer 2 = .ok (.iload_n 2, 1) := by decide +kernel
theorem dX6_writer_3 : decode cX6_writer 3 = .ok (.iload_n 3, 1) := by decide +kernel
theorem dX6_writer_4 : decode cX6_writer 4 = .ok (.iload 4, 2) := by decide +kernel
theorem dX6_writer_6 : decode cX6_writer 6 = .ok (.iadd, 1) := by decide +kernel
theorem dX6_writer_7 : decode cX6_writer 7 = .ok (.aload_n 0, 1) := by decide +kernel
theorem dX6_writer_8 : decode cX6_writer 8 = .ok (.iload_n 1, 1) := by decide +kernel
theorem dX6_writer_9 : decode cX6_writer 9 = .ok (.iconst 0, 1) := by decide +kernel
theorem dX6_writer_10 : decode cX6_writer 10 = .ok (.invokevirtual 31, 3) := by decide +kernel
theorem dX6_writer_13 : decode cX6_writer 13 = .ok (.irem, 1) := by decide +kernel
theorem dX6_writer_14 : decode cX6_writer 14 = .ok (.invokevirtual 35, 3) := by decide +kernel
theorem dX6_writer_17 : decode cX6_writer 17 = .ok (.ireturn, 1) := by decide +kernel
theorem dX6_ensemble_0 : decode cX6_ensemble 0 = .ok (.iconst 0, 1) := by decide +kernel
theorem dX6_ensemble_1 : decode cX6_ensemble 1 = .ok (.istore_n 3, 1) := by decide +kernel
theorem dX6_ensemble_2 : decode cX6_ensemble 2 = .ok (.iconst 0, 1) := by decide +kernel
theorem dX6_ensemble_3 : decode cX6_ensemble 3 = .ok (.istore 4, 2) := by decide +kernel
theorem dX6_ensemble_5 : decode cX6_ensemble 5 = .ok (.iload 4, 2) := by decide +kernel
theorem dX6_ensemble_7 : decode cX6_ensemble 7 = .ok (.aload_n 0, 1) := by decide +kernel
theorem dX6_ensemble_8 : decode cX6_ensemble 8 = .ok (.iload_n 1, 1) := by decide +kernel
theorem dX6_ensemble_9 : decode cX6_ensemble 9 = .ok (.iconst 0, 1) := by decide +kernel
theorem dX6_ensemble_10 : decode cX6_ensemble 10 = .ok (.invokevirtual 31, 3) := by decide +kernel
theorem dX6_ensemble_13 : decode cX6_ensemble 13 = .ok (.if_icmp .ge 22, 3) := by decide +kernel
theorem dX6_ensemble_16 : decode cX6_ensemble 16 = .ok (.iload_n 3, 1) := by decide +kernel
theorem dX6_ensemble_17 : decode cX6_ensemble 17 = .ok (.iconst 1, 1) := by decide +kernel
theorem dX6_ensemble_18 : decode cX6_ensemble 18 = .ok (.aload_n 0, 1) := by decide +kernel
theorem dX6_ensemble_19 : decode cX6_ensemble 19 = .ok (.iload_n 1, 1) := by decide +kernel
theorem dX6_ensemble_20 : decode cX6_ensemble 20 = .ok (.iload_n 2, 1) := by decide +kernel
theorem dX6_ensemble_21 : decode cX6_ensemble 21 = .ok (.iload 4, 2) := by decide +kernel
theorem dX6_ensemble_23 : decode cX6_ensemble 23 = .ok (.invokevirtual 35, 3) := by decide +kernel
theorem dX6_ensemble_26 : decode cX6_ensemble 26 = .ok (.ishl, 1) := by decide +kernel
theorem dX6_ensemble_27 : decode cX6_ensemble 27 = .ok (.ior, 1) := by decide +kernel
theorem dX6_ensemble_28 : decode cX6_ensemble 28 = .ok (.istore_n 3, 1) := by decide +kernel
theorem dX6_ensemble_29 : decode cX6_ensemble 29 = .ok (.iinc 4 1, 3) := by decide +kernel
theorem dX6_ensemble_32 : decode cX6_ensemble 32 = .ok (.goto (-27), 3) := by decide +kernel
theorem dX6_ensemble_35 : decode cX6_ensemble 35 = .ok (.iload_n 3, 1) := by decide +kernel
theorem dX6_ensemble_36 : decode cX6_ensemble 36 = .ok (.ireturn, 1) := by decide +kernel
theorem dX6_isWriter_0 : decode cX6_isWriter 0 = .ok (.iconst 0, 1) := by decide +kernel
theorem dX6_isWriter_1 : decode cX6_isWriter 1 = .ok (.istore 4, 2) := by decide +kernel
theorem dX6_isWriter_3 : decode cX6_isWriter 3 = .ok (.iconst 0, 1) := by decide +kernel
theorem dX6_isWriter_4 : decode cX6_isWriter 4 = .ok (.istore 5, 2) := by decide +kernel
theorem dX6_isWriter_6 : decode cX6_isWriter 6 = .ok (.iload 5, 2) := by decide +kernel
theorem dX6_isWriter_8 : decode cX6_isWriter 8 = .ok (.aload_n 0, 1) := by decide +kernel
theorem dX6_isWriter_9 : decode cX6_isWriter 9 = .ok (.iload_n 1, 1) := by decide +kernel
theorem dX6_isWriter_10 : decode cX6_isWriter 10 = .ok (.iconst 1, 1) := by decide +kernel
theorem dX6_isWriter_11 : decode cX6_isWriter 11 = .ok (.invokevirtual 31, 3) := by decide +kernel
theorem dX6_isWriter_14 : decode cX6_isWriter 14 = .ok (.if_icmp .ge 39, 3) := by decide +kernel
theorem dX6_isWriter_17 : decode cX6_isWriter 17 = .ok (.iload 4, 2) := by decide +kernel
theorem dX6_isWriter_19 : decode cX6_isWriter 19 = .ok (.ifCond .ne 21, 3) := by decide +kernel
theorem dX6_isWriter_22 : decode cX6_isWriter 22 = .ok (.aload_n 0, 1) := by decide +kernel
theorem dX6_isWriter_23 : decode cX6_isWriter 23 = .ok (.iload_n 1, 1) := by decide +kernel
theorem dX6_isWriter_24 : decode cX6_isWriter 24 = .ok (.aload_n 0, 1) := by decide +kernel
theorem dX6_isWriter_25 : decode cX6_isWriter 25 = .ok (.iload_n 1, 1) := by decide +kernel
theorem dX6_isWriter_26 : decode cX6_isWriter 26 = .ok (.iload_n 2, 1) := by decide +kernel
theorem dX6_isWriter_27 : decode cX6_isWriter 27 = .ok (.invokevirtual 38, 3) := by decide +kernel
theorem dX6_isWriter_30 : decode cX6_isWriter 30 = .ok (.iload_n 2, 1) := by decide +kernel
theorem dX6_isWriter_31 : decode cX6_isWriter 31 = .ok (.iload 5, 2) := by decide +kernel
theorem dX6_isWriter_33 : decode cX6_isWriter 33 = .ok (.invokevirtual 41, 3) := by decide +kernel
theorem dX6_isWriter_36 : decode cX6_isWriter 36 = .ok (.iload_n 3, 1) := by decide +kernel
theorem dX6_isWriter_37 : decode cX6_isWriter 37 = .ok (.if_icmp .ne 7, 3) := by decide +kernel
theorem dX6_isWriter_40 : decode cX6_isWriter 40 = .ok (.iconst 1, 1) := by decide +kernel
theorem dX6_isWriter_41 : decode cX6_isWriter 41 = .ok (.goto 4, 3) := by decide +kernel
theorem dX6_isWriter_44 : decode cX6_isWriter 44 = .ok (.iconst 0, 1) := by decide +kernel
theorem dX6_isWriter_45 : decode cX6_isWriter 45 = .ok (.istore 4, 2) := by decide +kernel
theorem dX6_isWriter_47 : decode cX6_isWriter 47 = .ok (.iinc 5 1, 3) := by decide +kernel
theorem dX6_isWriter_50 : decode cX6_isWriter 50 = .ok (.goto (-44), 3) := by decide +kernel
theorem dX6_isWriter_53 : decode cX6_isWriter 53 = .ok (.iload 4, 2) := by decide +kernel
theorem dX6_isWriter_55 : decode cX6_isWriter 55 = .ok (.ireturn, 1) := by decide +kernel
theorem dX6_choose_0 : decode cX6_choose 0 = .ok (.iconst (-1), 1) := by decide +kernel
theorem dX6_choose_1 : decode cX6_choose 1 = .ok (.istore_n 2, 1) := by decide +kernel
theorem dX6_choose_2 : decode cX6_choose 2 = .ok (.iconst 0, 1) := by decide +kernel
theorem dX6_choose_3 : decode cX6_choose 3 = .ok (.istore_n 3, 1) := by decide +kernel
theorem dX6_choose_4 : decode cX6_choose 4 = .ok (.iload_n 3, 1) := by decide +kernel
theorem dX6_choose_5 : decode cX6_choose 5 = .ok (.aload_n 0, 1) := by decide +kernel
theorem dX6_choose_6 : decode cX6_choose 6 = .ok (.getfield 7, 3) := by decide +kernel
theorem dX6_choose_9 : decode cX6_choose 9 = .ok (.iconst 0, 1) := by decide +kernel
theorem dX6_choose_10 : decode cX6_choose 10 = .ok (.iaload, 1) := by decide +kernel
theorem dX6_choose_11 : decode cX6_choose 11 = .ok (.if_icmp .ge 61, 3) := by decide +kernel
theorem dX6_choose_14 : decode cX6_choose 14 = .ok (.aload_n 0, 1) := by decide +kernel
theorem dX6_choose_15 : decode cX6_choose 15 = .ok (.iload_n 3, 1) := by decide +kernel
theorem dX6_choose_16 : decode cX6_choose 16 = .ok (.invokevirtual 45, 3) := by decide +kernel
theorem dX6_choose_19 : decode cX6_choose 19 = .ok (.ifCond .eq 33, 3) := by decide +kernel
theorem dX6_choose_22 : decode cX6_choose 22 = .ok (.iload_n 1, 1) := by decide +kernel
theorem dX6_choose_23 : decode cX6_choose 23 = .ok (.iload_n 3, 1) := by decide +kernel
theorem dX6_choose_24 : decode cX6_choose 24 = .ok (.invokestatic 49, 3) := by decide +kernel
theorem dX6_choose_27 : decode cX6_choose 27 = .ok (.ifCond .ne 25, 3) := by decide +kernel
theorem dX6_choose_30 : decode cX6_choose 30 = .ok (.iload_n 2, 1) := by decide +kernel
theorem dX6_choose_31 : decode cX6_choose 31 = .ok (.iconst (-1), 1) := by decide +kernel
theorem dX6_choose_32 : decode cX6_choose 32 = .ok (.if_icmp .eq 16, 3) := by decide +kernel
theorem dX6_choose_35 : decode cX6_choose 35 = .ok (.aload_n 0, 1) := by decide +kernel
theorem dX6_choose_36 : decode cX6_choose 36 = .ok (.iload_n 3, 1) := by decide +kernel
theorem dX6_choose_37 : decode cX6_choose 37 = .ok (.invokevirtual 53, 3) := by decide +kernel
theorem dX6_choose_40 : decode cX6_choose 40 = .ok (.aload_n 0, 1) := by decide +kernel
theorem dX6_choose_41 : decode cX6_choose 41 = .ok (.iload_n 2, 1) := by decide +kernel
theorem dX6_choose_42 : decode cX6_choose 42 = .ok (.invokevirtual 53, 3) := by decide +kernel
theorem dX6_choose_45 : decode cX6_choose 45 = .ok (.if_icmp .ge 7, 3) := by decide +kernel
theorem dX6_choose_48 : decode cX6_choose 48 = .ok (.iconst 1, 1) := by decide +kernel
theorem dX6_choose_49 : decode cX6_choose 49 = .ok (.goto 4, 3) := by decide +kernel
theorem dX6_choose_52 : decode cX6_choose 52 = .ok (.iconst 0, 1) := by decide +kernel
theorem dX6_choose_53 : decode cX6_choose 53 = .ok (.istore 4, 2) := by decide +kernel
theorem dX6_choose_55 : decode cX6_choose 55 = .ok (.iload 4, 2) := by decide +kernel
theorem dX6_choose_57 : decode cX6_choose 57 = .ok (.ifCond .eq 7, 3) := by decide +kernel
theorem dX6_choose_60 : decode cX6_choose 60 = .ok (.iload_n 3, 1) := by decide +kernel
theorem dX6_choose_61 : decode cX6_choose 61 = .ok (.goto 4, 3) := by decide +kernel
theorem dX6_choose_64 : decode cX6_choose 64 = .ok (.iload_n 2, 1) := by decide +kernel
theorem dX6_choose_65 : decode cX6_choose 65 = .ok (.istore_n 2, 1) := by decide +kernel
theorem dX6_choose_66 : decode cX6_choose 66 = .ok (.iinc 3 1, 3) := by decide +kernel
theorem dX6_choose_69 : decode cX6_choose 69 = .ok (.goto (-65), 3) := by decide +kernel
theorem dX6_choose_72 : decode cX6_choose 72 = .ok (.iload_n 2, 1) := by decide +kernel
theorem dX6_choose_73 : decode cX6_choose 73 = .ok (.ireturn, 1) := by decide +kernel
theorem dX6_confirmed_0 : decode cX6_confirmed 0 = .ok (.iconst 0, 1) := by decide +kernel
theorem dX6_confirmed_1 : decode cX6_confirmed 1 = .ok (.istore_n 2, 1) := by decide +kernel
theorem dX6_confirmed_2 : decode cX6_confirmed 2 = .ok (.iload_n 2, 1) := by decide +kernel
theorem dX6_confirmed_3 : decode cX6_confirmed 3 = .ok (.aload_n 0, 1) := by decide +kernel
theorem dX6_confirmed_4 : decode cX6_confirmed 4 = .ok (.iload_n 1, 1) := by decide +kernel
theorem dX6_confirmed_5 : decode cX6_confirmed 5 = .ok (.iconst 4, 1) := by decide +kernel
theorem dX6_confirmed_6 : decode cX6_confirmed 6 = .ok (.invokevirtual 31, 3) := by decide +kernel
theorem dX6_confirmed_9 : decode cX6_confirmed 9 = .ok (.if_icmp .ge 30, 3) := by decide +kernel
theorem dX6_confirmed_12 : decode cX6_confirmed 12 = .ok (.aload_n 0, 1) := by decide +kernel
theorem dX6_confirmed_13 : decode cX6_confirmed 13 = .ok (.iload_n 1, 1) := by decide +kernel
theorem dX6_confirmed_14 : decode cX6_confirmed 14 = .ok (.bipush 47, 2) := by decide +kernel
theorem dX6_confirmed_16 : decode cX6_confirmed 16 = .ok (.iload_n 2, 1) := by decide +kernel
theorem dX6_confirmed_17 : decode cX6_confirmed 17 = .ok (.iadd, 1) := by decide +kernel
theorem dX6_confirmed_18 : decode cX6_confirmed 18 = .ok (.invokevirtual 31, 3) := by decide +kernel
theorem dX6_confirmed_21 : decode cX6_confirmed 21 = .ok (.invokestatic 57, 3) := by decide +kernel
theorem dX6_confirmed_24 : decode cX6_confirmed 24 = .ok (.aload_n 0, 1) := by decide +kernel
theorem dX6_confirmed_25 : decode cX6_confirmed 25 = .ok (.iload_n 1, 1) := by decide +kernel
theorem dX6_confirmed_26 : decode cX6_confirmed 26 = .ok (.iconst 2, 1) := by decide +kernel
theorem dX6_confirmed_27 : decode cX6_confirmed 27 = .ok (.invokevirtual 31, 3) := by decide +kernel
theorem dX6_confirmed_30 : decode cX6_confirmed 30 = .ok (.if_icmp .lt 9, 3) := by decide +kernel
theorem dX6_confirmed_33 : decode cX6_confirmed 33 = .ok (.iinc 2 1, 3) := by decide +kernel
theorem dX6_confirmed_36 : decode cX6_confirmed 36 = .ok (.goto (-34), 3) := by decide +kernel
theorem dX6_confirmed_39 : decode cX6_confirmed 39 = .ok (.iload_n 2, 1) := by decide +kernel
theorem dX6_confirmed_40 : decode cX6_confirmed 40 = .ok (.iconst 1, 1) := by decide +kernel
theorem dX6_confirmed_41 : decode cX6_confirmed 41 = .ok (.isub, 1) := by decide +kernel
theorem dX6_confirmed_42 : decode cX6_confirmed 42 = .ok (.ireturn, 1) := by decide +kernel
theorem dX6_readable_0 : decode cX6_readable 0 = .ok (.aload_n 0, 1) := by decide +kernel
theorem dX6_readable_1 : decode cX6_readable 1 = .ok (.iload_n 1, 1) := by decide +kernel
theorem dX6_readable_2 : decode cX6_readable 2 = .ok (.iconst 3, 1) := by decide +kernel
theorem dX6_readable_3 : decode cX6_readable 3 = .ok (.invokevirtual 31, 3) := by decide +kernel
theorem dX6_readable_6 : decode cX6_readable 6 = .ok (.istore_n 2, 1) := by decide +kernel
theorem dX6_readable_7 : decode cX6_readable 7 = .ok (.iload_n 2, 1) := by decide +kernel
theorem dX6_readable_8 : decode cX6_readable 8 = .ok (.ifCond .ne 11, 3) := by decide +kernel
theorem dX6_readable_11 : decode cX6_readable 11 = .ok (.aload_n 0, 1) := by decide +kernel
theorem dX6_readable_12 : decode cX6_readable 12 = .ok (.iload_n 1, 1) := by decide +kernel
theorem dX6_readable_13 : decode cX6_readable 13 = .ok (.invokevirtual 60, 3) := by decide +kernel
theorem dX6_readable_16 : decode cX6_readable 16 = .ok (.goto 18, 3) := by decide +kernel
theorem dX6_readable_19 : decode cX6_readable 19 = .ok (.iload_n 2, 1) := by decide +kernel
theorem dX6_readable_20 : decode cX6_readable 20 = .ok (.iconst 2, 1) := by decide +kernel
theorem dX6_readable_21 : decode cX6_readable 21 = .ok (.if_icmp .ne 12, 3) := by decide +kernel
theorem dX6_readable_24 : decode cX6_readable 24 = .ok (.aload_n 0, 1) := by decide +kernel
theorem dX6_readable_25 : decode cX6_readable 25 = .ok (.iload_n 1, 1) := by decide +kernel
theorem dX6_readable_26 : decode cX6_readable 26 = .ok (.iconst 5, 1) := by decide +kernel
theorem dX6_readable_27 : decode cX6_readable 27 = .ok (.invokevirtual 31, 3) := by decide +kernel
theorem dX6_readable_30 : decode cX6_readable 30 = .ok (.goto 4, 3) := by decide +kernel
theorem dX6_readable_33 : decode cX6_readable 33 = .ok (.iconst (-1), 1) := by decide +kernel
theorem dX6_readable_34 : decode cX6_readable 34 = .ok (.ireturn, 1) := by decide +kernel
theorem dX6_addNode_0 : decode cX6_addNode 0 = .ok (.aload_n 0, 1) := by decide +kernel
theorem dX6_addNode_1 : decode cX6_addNode 1 = .ok (.aload_n 0, 1) := by decide +kernel
theorem dX6_addNode_2 : decode cX6_addNode 2 = .ok (.getfield 7, 3) := by decide +kernel
theorem dX6_addNode_5 : decode cX6_addNode 5 = .ok (.iconst 0, 1) := by decide +kernel
theorem dX6_addNode_6 : decode cX6_addNode 6 = .ok (.iaload, 1) := by decide +kernel
theorem dX6_addNode_7 : decode cX6_addNode 7 = .ok (.bipush 8, 2) := by decide +kernel
theorem dX6_addNode_9 : decode cX6_addNode 9 = .ok (.if_icmp .ne 7, 3) := by decide +kernel
theorem dX6_addNode_12 : decode cX6_addNode 12 = .ok (.iconst 1, 1) := by decide +kernel
theorem dX6_addNode_13 : decode cX6_addNode 13 = .ok (.goto 4, 3) := by decide +kernel
theorem dX6_addNode_16 : decode cX6_addNode 16 = .ok (.iconst 0, 1) := by decide +kernel
theorem dX6_addNode_17 : decode cX6_addNode 17 = .ok (.putfield 20, 3) := by decide +kernel
theorem dX6_addNode_20 : decode cX6_addNode 20 = .ok (.aload_n 0, 1) := by decide +kernel
theorem dX6_addNode_21 : decode cX6_addNode 21 = .ok (.getfield 20, 3) := by decide +kernel
theorem dX6_addNode_24 : decode cX6_addNode 24 = .ok (.ifCond .le 5, 3) := by decide +kernel
theorem dX6_addNode_27 : decode cX6_addNode 27 = .ok (.iconst 0, 1) := by decide +kernel
theorem dX6_addNode_28 : decode cX6_addNode 28 = .ok (.ireturn, 1) := by decide +kernel
theorem dX6_addNode_29 : decode cX6_addNode 29 = .ok (.aload_n 0, 1) := by decide +kernel
theorem dX6_addNode_30 : decode cX6_addNode 30 = .ok (.invokevirtual 63, 3) := by decide +kernel
theorem dX6_addNode_33 : decode cX6_addNode 33 = .ok (.aload_n 0, 1) := by decide +kernel
theorem dX6_addNode_34 : decode cX6_addNode 34 = .ok (.getfield 7, 3) := by decide +kernel
theorem dX6_addNode_37 : decode cX6_addNode 37 = .ok (.iconst 3, 1) := by decide +kernel
theorem dX6_addNode_38 : decode cX6_addNode 38 = .ok (.aload_n 0, 1) := by decide +kernel
theorem dX6_addNode_39 : decode cX6_addNode 39 = .ok (.getfield 7, 3) := by decide +kernel
theorem dX6_addNode_42 : decode cX6_addNode 42 = .ok (.iconst 0, 1) := by decide +kernel
theorem dX6_addNode_43 : decode cX6_addNode 43 = .ok (.iaload, 1) := by decide +kernel
theorem dX6_addNode_44 : decode cX6_addNode 44 = .ok (.iadd, 1) := by decide +kernel
theorem dX6_addNode_45 : decode cX6_addNode 45 = .ok (.iconst 1, 1) := by decide +kernel
theorem dX6_addNode_46 : decode cX6_addNode 46 = .ok (.iastore, 1) := by decide +kernel
theorem dX6_addNode_47 : decode cX6_addNode 47 = .ok (.aload_n 0, 1) := by decide +kernel
theorem dX6_addNode_48 : decode cX6_addNode 48 = .ok (.getfield 7, 3) := by decide +kernel
theorem dX6_addNode_51 : decode cX6_addNode 51 = .ok (.iconst 0, 1) := by decide +kernel
theorem dX6_addNode_52 : decode cX6_addNode 52 = .ok (.dup2, 1) := by decide +kernel
theorem dX6_addNode_53 : decode cX6_addNode 53 = .ok (.iaload, 1) := by decide +kernel
theorem dX6_addNode_54 : decode cX6_addNode 54 = .ok (.iconst 1, 1) := by decide +kernel
theorem dX6_addNode_55 : decode cX6_addNode 55 = .ok (.iadd, 1) := by decide +kernel
theorem dX6_addNode_56 : decode cX6_addNode 56 = .ok (.iastore, 1) := by decide +kernel
theorem dX6_addNode_57 : decode cX6_addNode 57 = .ok (.aload_n 0, 1) := by decide +kernel
theorem dX6_addNode_58 : decode cX6_addNode 58 = .ok (.getfield 7, 3) := by decide +kernel
theorem dX6_addNode_61 : decode cX6_addNode 61 = .ok (.iconst 0, 1) := by decide +kernel
theorem dX6_addNode_62 : decode cX6_addNode 62 = .ok (.iaload, 1) := by decide +kernel
theorem dX6_addNode_63 : decode cX6_addNode 63 = .ok (.iconst 1, 1) := by decide +kernel
theorem dX6_addNode_64 : decode cX6_addNode 64 = .ok (.isub, 1) := by decide +kernel
theorem dX6_addNode_65 : decode cX6_addNode 65 = .ok (.ireturn, 1) := by decide +kernel
theorem dX6_crash_0 : decode cX6_crash 0 = .ok (.aload_n 0, 1) := by decide +kernel
theorem dX6_crash_1 : decode cX6_crash 1 = .ok (.aload_n 0, 1) := by decide +kernel
theorem dX6_crash_2 : decode cX6_crash 2 = .ok (.iload_n 1, 1) := by decide +kernel
theorem dX6_crash_3 : decode cX6_crash 3 = .ok (.invokevirtual 66, 3) := by decide +kernel
theorem dX6_crash_6 : decode cX6_crash 6 = .ok (.aload_n 0, 1) := by decide +kernel
theorem dX6_crash_7 : decode cX6_crash 7 = .ok (.iload_n 1, 1) := by decide +kernel
theorem dX6_crash_8 : decode cX6_crash 8 = .ok (.invokevirtual 66, 3) := by decide +kernel
theorem dX6_crash_11 : decode cX6_crash 11 = .ok (.ifCond .eq 15, 3) := by decide +kernel
theorem dX6_crash_14 : decode cX6_crash 14 = .ok (.aload_n 0, 1) := by decide +kernel
theorem dX6_crash_15 : decode cX6_crash 15 = .ok (.iload_n 1, 1) := by decide +kernel
theorem dX6_crash_16 : decode cX6_crash 16 = .ok (.invokevirtual 45, 3) := by decide +kernel
theorem dX6_crash_19 : decode cX6_crash 19 = .ok (.ifCond .eq 7, 3) := by decide +kernel
theorem dX6_crash_22 : decode cX6_crash 22 = .ok (.iconst 1, 1) := by decide +kernel
theorem dX6_crash_23 : decode cX6_crash 23 = .ok (.goto 4, 3) := by decide +kernel
theorem dX6_crash_26 : decode cX6_crash 26 = .ok (.iconst 0, 1) := by decide +kernel
theorem dX6_crash_27 : decode cX6_crash 27 = .ok (.invokevirtual 69, 3) := by decide +kernel
theorem dX6_crash_30 : decode cX6_crash 30 = .ok (.ifCond .ne 5, 3) := by decide +kernel
theorem dX6_crash_33 : decode cX6_crash 33 = .ok (.iconst 0, 1) := by decide +kernel
theorem dX6_crash_34 : decode cX6_crash 34 = .ok (.ireturn, 1) := by decide +kernel
theorem dX6_crash_35 : decode cX6_crash 35 = .ok (.aload_n 0, 1) := by decide +kernel
theorem dX6_crash_36 : decode cX6_crash 36 = .ok (.invokevirtual 63, 3) := by decide +kernel
theorem dX6_crash_39 : decode cX6_crash 39 = .ok (.aload_n 0, 1) := by decide +kernel
theorem dX6_crash_40 : decode cX6_crash 40 = .ok (.getfield 7, 3) := by decide +kernel
theorem dX6_crash_43 : decode cX6_crash 43 = .ok (.bipush 11, 2) := by decide +kernel
theorem dX6_crash_45 : decode cX6_crash 45 = .ok (.iload_n 1, 1) := by decide +kernel
theorem dX6_crash_46 : decode cX6_crash 46 = .ok (.iadd, 1) := by decide +kernel
theorem dX6_crash_47 : decode cX6_crash 47 = .ok (.iaload, 1) := by decide +kernel
theorem dX6_crash_48 : decode cX6_crash 48 = .ok (.istore_n 2, 1) := by decide +kernel
theorem dX6_crash_49 : decode cX6_crash 49 = .ok (.aload_n 0, 1) := by decide +kernel
theorem dX6_crash_50 : decode cX6_crash 50 = .ok (.iload_n 1, 1) := by decide +kernel
theorem dX6_crash_51 : decode cX6_crash 51 = .ok (.invokevirtual 73, 3) := by decide +kernel
theorem dX6_crash_54 : decode cX6_crash 54 = .ok (.aload_n 0, 1) := by decide +kernel
theorem dX6_crash_55 : decode cX6_crash 55 = .ok (.getfield 7, 3) := by decide +kernel
theorem dX6_crash_58 : decode cX6_crash 58 = .ok (.iconst 3, 1) := by decide +kernel
theorem dX6_crash_59 : decode cX6_crash 59 = .ok (.iload_n 1, 1) := by decide +kernel
theorem dX6_crash_60 : decode cX6_crash 60 = .ok (.iadd, 1) := by decide +kernel
theorem dX6_crash_61 : decode cX6_crash 61 = .ok (.iconst 0, 1) := by decide +kernel
theorem dX6_crash_62 : decode cX6_crash 62 = .ok (.iastore, 1) := by decide +kernel
theorem dX6_crash_63 : decode cX6_crash 63 = .ok (.iload_n 2, 1) := by decide +kernel
theorem dX6_crash_64 : decode cX6_crash 64 = .ok (.ireturn, 1) := by decide +kernel
theorem dX6_empty_0 : decode cX6_empty 0 = .ok (.aload_n 0, 1) := by decide +kernel
theorem dX6_empty_1 : decode cX6_empty 1 = .ok (.getfield 7, 3) := by decide +kernel
theorem dX6_empty_4 : decode cX6_empty 4 = .ok (.bipush 11, 2) := by decide +kernel
theorem dX6_empty_6 : decode cX6_empty 6 = .ok (.iload_n 1, 1) := by decide +kernel
theorem dX6_empty_7 : decode cX6_empty 7 = .ok (.iadd, 1) := by decide +kernel
theorem dX6_empty_8 : decode cX6_empty 8 = .ok (.iconst 0, 1) := by decide +kernel
theorem dX6_empty_9 : decode cX6_empty 9 = .ok (.iastore, 1) := by decide +kernel
theorem dX6_empty_10 : decode cX6_empty 10 = .ok (.iconst 0, 1) := by decide +kernel
theorem dX6_empty_11 : decode cX6_empty 11 = .ok (.istore_n 2, 1) := by decide +kernel
theorem dX6_empty_12 : decode cX6_empty 12 = .ok (.iload_n 2, 1) := by decide +kernel
theorem dX6_empty_13 : decode cX6_empty 13 = .ok (.bipush 100, 2) := by decide +kernel
theorem dX6_empty_15 : decode cX6_empty 15 = .ok (.if_icmp .ge 24, 3) := by decide +kernel
theorem dX6_empty_18 : decode cX6_empty 18 = .ok (.aload_n 0, 1) := by decide +kernel
theorem dX6_empty_19 : decode cX6_empty 19 = .ok (.getfield 7, 3) := by decide +kernel
theorem dX6_empty_22 : decode cX6_empty 22 = .ok (.bipush 19, 2) := by decide +kernel
theorem dX6_empty_24 : decode cX6_empty 24 = .ok (.bipush 100, 2) := by decide +kernel
theorem dX6_empty_26 : decode cX6_empty 26 = .ok (.iload_n 1, 1) := by decide +kernel
theorem dX6_empty_27 : decode cX6_empty 27 = .ok (.imul, 1) := by decide +kernel
theorem dX6_empty_28 : decode cX6_empty 28 = .ok (.iadd, 1) := by decide +kernel
theorem dX6_empty_29 : decode cX6_empty 29 = .ok (.iload_n 2, 1) := by decide +kernel
theorem dX6_empty_30 : decode cX6_empty 30 = .ok (.iadd, 1) := by decide +kernel
theorem dX6_empty_31 : decode cX6_empty 31 = .ok (.iconst 0, 1) := by decide +kernel
theorem dX6_empty_32 : decode cX6_empty 32 = .ok (.iastore, 1) := by decide +kernel
theorem dX6_empty_33 : decode cX6_empty 33 = .ok (.iinc 2 1, 3) := by decide +kernel
theorem dX6_empty_36 : decode cX6_empty 36 = .ok (.goto (-24), 3) := by decide +kernel
theorem dX6_empty_39 : decode cX6_empty 39 = .ok (.return_, 1) := by decide +kernel
theorem dX6_restart_0 : decode cX6_restart 0 = .ok (.aload_n 0, 1) := by decide +kernel
theorem dX6_restart_1 : decode cX6_restart 1 = .ok (.aload_n 0, 1) := by decide +kernel
theorem dX6_restart_2 : decode cX6_restart 2 = .ok (.iload_n 1, 1) := by decide +kernel
theorem dX6_restart_3 : decode cX6_restart 3 = .ok (.invokevirtual 66, 3) := by decide +kernel
theorem dX6_restart_6 : decode cX6_restart 6 = .ok (.aload_n 0, 1) := by decide +kernel
theorem dX6_restart_7 : decode cX6_restart 7 = .ok (.iload_n 1, 1) := by decide +kernel
theorem dX6_restart_8 : decode cX6_restart 8 = .ok (.invokevirtual 66, 3) := by decide +kernel
theorem dX6_restart_11 : decode cX6_restart 11 = .ok (.ifCond .eq 15, 3) := by decide +kernel
theorem dX6_restart_14 : decode cX6_restart 14 = .ok (.aload_n 0, 1) := by decide +kernel
theorem dX6_restart_15 : decode cX6_restart 15 = .ok (.iload_n 1, 1) := by decide +kernel
theorem dX6_restart_16 : decode cX6_restart 16 = .ok (.invokevirtual 45, 3) := by decide +kernel
theorem dX6_restart_19 : decode cX6_restart 19 = .ok (.ifCond .ne 7, 3) := by decide +kernel
theorem dX6_restart_22 : decode cX6_restart 22 = .ok (.iconst 1, 1) := by decide +kernel
theorem dX6_restart_23 : decode cX6_restart 23 = .ok (.goto 4, 3) := by decide +kernel
theorem dX6_restart_26 : decode cX6_restart 26 = .ok (.iconst 0, 1) := by decide +kernel
theorem dX6_restart_27 : decode cX6_restart 27 = .ok (.invokevirtual 69, 3) := by decide +kernel
theorem dX6_restart_30 : decode cX6_restart 30 = .ok (.ifCond .ne 5, 3) := by decide +kernel
theorem dX6_restart_33 : decode cX6_restart 33 = .ok (.iconst 0, 1) := by decide +kernel
theorem dX6_restart_34 : decode cX6_restart 34 = .ok (.ireturn, 1) := by decide +kernel
theorem dX6_restart_35 : decode cX6_restart 35 = .ok (.aload_n 0, 1) := by decide +kernel
theorem dX6_restart_36 : decode cX6_restart 36 = .ok (.invokevirtual 63, 3) := by decide +kernel
theorem dX6_restart_39 : decode cX6_restart 39 = .ok (.aload_n 0, 1) := by decide +kernel
theorem dX6_restart_40 : decode cX6_restart 40 = .ok (.getfield 7, 3) := by decide +kernel
theorem dX6_restart_43 : decode cX6_restart 43 = .ok (.iconst 3, 1) := by decide +kernel
theorem dX6_restart_44 : decode cX6_restart 44 = .ok (.iload_n 1, 1) := by decide +kernel
theorem dX6_restart_45 : decode cX6_restart 45 = .ok (.iadd, 1) := by decide +kernel
theorem dX6_restart_46 : decode cX6_restart 46 = .ok (.iconst 1, 1) := by decide +kernel
theorem dX6_restart_47 : decode cX6_restart 47 = .ok (.iastore, 1) := by decide +kernel
theorem dX6_restart_48 : decode cX6_restart 48 = .ok (.aload_n 0, 1) := by decide +kernel
theorem dX6_restart_49 : decode cX6_restart 49 = .ok (.iload_n 1, 1) := by decide +kernel
theorem dX6_restart_50 : decode cX6_restart 50 = .ok (.invokevirtual 53, 3) := by decide +kernel
theorem dX6_restart_53 : decode cX6_restart 53 = .ok (.ireturn, 1) := by decide +kernel
theorem dX6_send_0 : decode cX6_send 0 = .ok (.aload_n 0, 1) := by decide +kernel
theorem dX6_send_1 : decode cX6_send 1 = .ok (.iload_n 1, 1) := by decide +kernel
theorem dX6_send_2 : decode cX6_send 2 = .ok (.invokevirtual 45, 3) := by decide +kernel
theorem dX6_send_5 : decode cX6_send 5 = .ok (.ifCond .eq 84, 3) := by decide +kernel
theorem dX6_send_8 : decode cX6_send 8 = .ok (.aload_n 0, 1) := by decide +kernel
theorem dX6_send_9 : decode cX6_send 9 = .ok (.getfield 7, 3) := by decide +kernel
theorem dX6_send_12 : decode cX6_send 12 = .ok (.bipush 11, 2) := by decide +kernel
theorem dX6_send_14 : decode cX6_send 14 = .ok (.iload_n 1, 1) := by decide +kernel
theorem dX6_send_15 : decode cX6_send 15 = .ok (.iadd, 1) := by decide +kernel
theorem dX6_send_16 : decode cX6_send 16 = .ok (.iaload, 1) := by decide +kernel
theorem dX6_send_17 : decode cX6_send 17 = .ok (.bipush 100, 2) := by decide +kernel
theorem dX6_send_19 : decode cX6_send 19 = .ok (.if_icmp .ge 70, 3) := by decide +kernel
theorem dX6_send_22 : decode cX6_send 22 = .ok (.iload_n 2, 1) := by decide +kernel
theorem dX6_send_23 : decode cX6_send 23 = .ok (.iconst 4, 1) := by decide +kernel
theorem dX6_send_24 : decode cX6_send 24 = .ok (.iload_n 3, 1) := by decide +kernel
theorem dX6_send_25 : decode cX6_send 25 = .ok (.imul, 1) := by decide +kernel
theorem dX6_send_26 : decode cX6_send 26 = .ok (.iadd, 1) := by decide +kernel
theorem dX6_send_27 : decode cX6_send 27 = .ok (.sipush 256, 3) := by decide +kernel
theorem dX6_send_30 : decode cX6_send 30 = .ok (.iload 4, 2) := by decide +kernel
theorem dX6_send_32 : decode cX6_send 32 = .ok (.iconst 1, 1) := by decide +kernel
theorem dX6_send_33 : decode cX6_send 33 = .ok (.iadd, 1) := by decide +kernel
theorem dX6_send_34 : decode cX6_send 34 = .ok (.imul, 1) := by decide +kernel
theorem dX6_send_35 : decode cX6_send 35 = .ok (.iadd, 1) := by decide +kernel
theorem dX6_send_36 : decode cX6_send 36 = .ok (.sipush 16384, 3) := by decide +kernel
theorem dX6_send_39 : decode cX6_send 39 = .ok (.aload_n 0, 1) := by decide +kernel
theorem dX6_send_40 : decode cX6_send 40 = .ok (.iload_n 2, 1) := by decide +kernel
theorem dX6_send_41 : decode cX6_send 41 = .ok (.bipush 7, 2) := by decide +kernel
theorem dX6_send_43 : decode cX6_send 43 = .ok (.iload_n 3, 1) := by decide +kernel
theorem dX6_send_44 : decode cX6_send 44 = .ok (.iadd, 1) := by decide +kernel
theorem dX6_send_45 : decode cX6_send 45 = .ok (.invokevirtual 31, 3) := by decide +kernel
theorem dX6_send_48 : decode cX6_send 48 = .ok (.imul, 1) := by decide +kernel
theorem dX6_send_49 : decode cX6_send 49 = .ok (.iadd, 1) := by decide +kernel
theorem dX6_send_50 : decode cX6_send 50 = .ok (.istore 5, 2) := by decide +kernel
theorem dX6_send_52 : decode cX6_send 52 = .ok (.aload_n 0, 1) := by decide +kernel
theorem dX6_send_53 : decode cX6_send 53 = .ok (.getfield 7, 3) := by decide +kernel
theorem dX6_send_56 : decode cX6_send 56 = .ok (.bipush 19, 2) := by decide +kernel
theorem dX6_send_58 : decode cX6_send 58 = .ok (.bipush 100, 2) := by decide +kernel
theorem dX6_send_60 : decode cX6_send 60 = .ok (.iload_n 1, 1) := by decide +kernel
theorem dX6_send_61 : decode cX6_send 61 = .ok (.imul, 1) := by decide +kernel
theorem dX6_send_62 : decode cX6_send 62 = .ok (.iadd, 1) := by decide +kernel
theorem dX6_send_63 : decode cX6_send 63 = .ok (.aload_n 0, 1) := by decide +kernel
theorem dX6_send_64 : decode cX6_send 64 = .ok (.getfield 7, 3) := by decide +kernel
theorem dX6_send_67 : decode cX6_send 67 = .ok (.bipush 11, 2) := by decide +kernel
theorem dX6_send_69 : decode cX6_send 69 = .ok (.iload_n 1, 1) := by decide +kernel
theorem dX6_send_70 : decode cX6_send 70 = .ok (.iadd, 1) := by decide +kernel
theorem dX6_send_71 : decode cX6_send 71 = .ok (.iaload, 1) := by decide +kernel
theorem dX6_send_72 : decode cX6_send 72 = .ok (.iadd, 1) := by decide +kernel
theorem dX6_send_73 : decode cX6_send 73 = .ok (.iload 5, 2) := by decide +kernel
theorem dX6_send_75 : decode cX6_send 75 = .ok (.iastore, 1) := by decide +kernel
theorem dX6_send_76 : decode cX6_send 76 = .ok (.aload_n 0, 1) := by decide +kernel
theorem dX6_send_77 : decode cX6_send 77 = .ok (.getfield 7, 3) := by decide +kernel
theorem dX6_send_80 : decode cX6_send 80 = .ok (.bipush 11, 2) := by decide +kernel
theorem dX6_send_82 : decode cX6_send 82 = .ok (.iload_n 1, 1) := by decide +kernel
theorem dX6_send_83 : decode cX6_send 83 = .ok (.iadd, 1) := by decide +kernel
theorem dX6_send_84 : decode cX6_send 84 = .ok (.dup2, 1) := by decide +kernel
theorem dX6_send_85 : decode cX6_send 85 = .ok (.iaload, 1) := by decide +kernel
theorem dX6_send_86 : decode cX6_send 86 = .ok (.iconst 1, 1) := by decide +kernel
theorem dX6_send_87 : decode cX6_send 87 = .ok (.iadd, 1) := by decide +kernel
theorem dX6_send_88 : decode cX6_send 88 = .ok (.iastore, 1) := by decide +kernel
theorem dX6_send_89 : decode cX6_send 89 = .ok (.return_, 1) := by decide +kernel
theorem dX6_process_0 : decode cX6_process 0 = .ok (.aload_n 0, 1) := by decide +kernel
theorem dX6_process_1 : decode cX6_process 1 = .ok (.getfield 7, 3) := by decide +kernel
theorem dX6_process_4 : decode cX6_process 4 = .ok (.bipush 19, 2) := by decide +kernel
theorem dX6_process_6 : decode cX6_process 6 = .ok (.bipush 100, 2) := by decide +kernel
theorem dX6_process_8 : decode cX6_process 8 = .ok (.iload_n 1, 1) := by decide +kernel
theorem dX6_process_9 : decode cX6_process 9 = .ok (.imul, 1) := by decide +kernel
theorem dX6_process_10 : decode cX6_process 10 = .ok (.iadd, 1) := by decide +kernel
theorem dX6_process_11 : decode cX6_process 11 = .ok (.iaload, 1) := by decide +kernel
theorem dX6_process_12 : decode cX6_process 12 = .ok (.istore_n 2, 1) := by decide +kernel
theorem dX6_process_13 : decode cX6_process 13 = .ok (.iconst 0, 1) := by decide +kernel
theorem dX6_process_14 : decode cX6_process 14 = .ok (.istore_n 3, 1) := by decide +kernel
theorem dX6_process_15 : decode cX6_process 15 = .ok (.iload_n 3, 1) := by decide +kernel
theorem dX6_process_16 : decode cX6_process 16 = .ok (.iconst 1, 1) := by decide +kernel
theorem dX6_process_17 : decode cX6_process 17 = .ok (.iadd, 1) := by decide +kernel
theorem dX6_process_18 : decode cX6_process 18 = .ok (.bipush 100, 2) := by decide +kernel
theorem dX6_process_20 : decode cX6_process 20 = .ok (.if_icmp .ge 39, 3) := by decide +kernel
theorem dX6_process_23 : decode cX6_process 23 = .ok (.aload_n 0, 1) := by decide +kernel
theorem dX6_process_24 : decode cX6_process 24 = .ok (.getfield 7, 3) := by decide +kernel
theorem dX6_process_27 : decode cX6_process 27 = .ok (.bipush 19, 2) := by decide +kernel
theorem dX6_process_29 : decode cX6_process 29 = .ok (.bipush 100, 2) := by decide +kernel
theorem dX6_process_31 : decode cX6_process 31 = .ok (.iload_n 1, 1) := by decide +kernel
theorem dX6_process_32 : decode cX6_process 32 = .ok (.imul, 1) := by decide +kernel
theorem dX6_process_33 : decode cX6_process 33 = .ok (.iadd, 1) := by decide +kernel
theorem dX6_process_34 : decode cX6_process 34 = .ok (.iload_n 3, 1) := by decide +kernel
theorem dX6_process_35 : decode cX6_process 35 = .ok (.iadd, 1) := by decide +kernel
theorem dX6_process_36 : decode cX6_process 36 = .ok (.aload_n 0, 1) := by decide +kernel
theorem dX6_process_37 : decode cX6_process 37 = .ok (.getfield 7, 3) := by decide +kernel
theorem dX6_process_40 : decode cX6_process 40 = .ok (.bipush 19, 2) := by decide +kernel
theorem dX6_process_42 : decode cX6_process 42 = .ok (.bipush 100, 2) := by decide +kernel
theorem dX6_process_44 : decode cX6_process 44 = .ok (.iload_n 1, 1) := by decide +kernel
theorem dX6_process_45 : decode cX6_process 45 = .ok (.imul, 1) := by decide +kernel
theorem dX6_process_46 : decode cX6_process 46 = .ok (.iadd, 1) := by decide +kernel
theorem dX6_process_47 : decode cX6_process 47 = .ok (.iload_n 3, 1) := by decide +kernel
theorem dX6_process_48 : decode cX6_process 48 = .ok (.iadd, 1) := by decide +kernel
theorem dX6_process_49 : decode cX6_process 49 = .ok (.iconst 1, 1) := by decide +kernel
theorem dX6_process_50 : decode cX6_process 50 = .ok (.iadd, 1) := by decide +kernel
theorem dX6_process_51 : decode cX6_process 51 = .ok (.iaload, 1) := by decide +kernel
theorem dX6_process_52 : decode cX6_process 52 = .ok (.iastore, 1) := by decide +kernel
theorem dX6_process_53 : decode cX6_process 53 = .ok (.iinc 3 1, 3) := by decide +kernel
theorem dX6_process_56 : decode cX6_process 56 = .ok (.goto (-41), 3) := by decide +kernel
theorem dX6_process_59 : decode cX6_process 59 = .ok (.aload_n 0, 1) := by decide +kernel
theorem dX6_process_60 : decode cX6_process 60 = .ok (.getfield 7, 3) := by decide +kernel
theorem dX6_process_63 : decode cX6_process 63 = .ok (.bipush 19, 2) := by decide +kernel
theorem dX6_process_65 : decode cX6_process 65 = .ok (.bipush 100, 2) := by decide +kernel
theorem dX6_process_67 : decode cX6_process 67 = .ok (.iload_n 1, 1) := by decide +kernel
theorem dX6_process_68 : decode cX6_process 68 = .ok (.imul, 1) := by decide +kernel
theorem dX6_process_69 : decode cX6_process 69 = .ok (.iadd, 1) := by decide +kernel
theorem dX6_process_70 : decode cX6_process 70 = .ok (.bipush 100, 2) := by decide +kernel
theorem dX6_process_72 : decode cX6_process 72 = .ok (.iadd, 1) := by decide +kernel
theorem dX6_process_73 : decode cX6_process 73 = .ok (.iconst 1, 1) := by decide +kernel
theorem dX6_process_74 : decode cX6_process 74 = .ok (.isub, 1) := by decide +kernel
theorem dX6_process_75 : decode cX6_process 75 = .ok (.iconst 0, 1) := by decide +kernel
theorem dX6_process_76 : decode cX6_process 76 = .ok (.iastore, 1) := by decide +kernel
theorem dX6_process_77 : decode cX6_process 77 = .ok (.aload_n 0, 1) := by decide +kernel
theorem dX6_process_78 : decode cX6_process 78 = .ok (.getfield 7, 3) := by decide +kernel
theorem dX6_process_81 : decode cX6_process 81 = .ok (.bipush 11, 2) := by decide +kernel
theorem dX6_process_83 : decode cX6_process 83 = .ok (.iload_n 1, 1) := by decide +kernel
theorem dX6_process_84 : decode cX6_process 84 = .ok (.iadd, 1) := by decide +kernel
theorem dX6_process_85 : decode cX6_process 85 = .ok (.dup2, 1) := by decide +kernel
theorem dX6_process_86 : decode cX6_process 86 = .ok (.iaload, 1) := by decide +kernel
theorem dX6_process_87 : decode cX6_process 87 = .ok (.iconst 1, 1) := by decide +kernel
theorem dX6_process_88 : decode cX6_process 88 = .ok (.isub, 1) := by decide +kernel
theorem dX6_process_89 : decode cX6_process 89 = .ok (.iastore, 1) := by decide +kernel
theorem dX6_process_90 : decode cX6_process 90 = .ok (.iload_n 2, 1) := by decide +kernel
theorem dX6_process_91 : decode cX6_process 91 = .ok (.iconst 4, 1) := by decide +kernel
theorem dX6_process_92 : decode cX6_process 92 = .ok (.irem, 1) := by decide +kernel
theorem dX6_process_93 : decode cX6_process 93 = .ok (.istore_n 3, 1) := by decide +kernel
theorem dX6_process_94 : decode cX6_process 94 = .ok (.iload_n 2, 1) := by decide +kernel
theorem dX6_process_95 : decode cX6_process 95 = .ok (.iconst 4, 1) := by decide +kernel
theorem dX6_process_96 : decode cX6_process 96 = .ok (.idiv, 1) := by decide +kernel
theorem dX6_process_97 : decode cX6_process 97 = .ok (.bipush 64, 2) := by decide +kernel
theorem dX6_process_99 : decode cX6_process 99 = .ok (.irem, 1) := by decide +kernel
theorem dX6_process_100 : decode cX6_process 100 = .ok (.istore 4, 2) := by decide +kernel
theorem dX6_process_102 : decode cX6_process 102 = .ok (.aload_n 0, 1) := by decide +kernel
theorem dX6_process_103 : decode cX6_process 103 = .ok (.getfield 7, 3) := by decide +kernel
theorem dX6_process_106 : decode cX6_process 106 = .ok (.sipush 2099, 3) := by decide +kernel
theorem dX6_process_109 : decode cX6_process 109 = .ok (.iconst 4, 1) := by decide +kernel
theorem dX6_process_110 : decode cX6_process 110 = .ok (.iload_n 1, 1) := by decide +kernel
theorem dX6_process_111 : decode cX6_process 111 = .ok (.imul, 1) := by decide +kernel
theorem dX6_process_112 : decode cX6_process 112 = .ok (.iadd, 1) := by decide +kernel
theorem dX6_process_113 : decode cX6_process 113 = .ok (.iload_n 3, 1) := by decide +kernel
theorem dX6_process_114 : decode cX6_process 114 = .ok (.iadd, 1) := by decide +kernel
theorem dX6_process_115 : decode cX6_process 115 = .ok (.iaload, 1) := by decide +kernel
theorem dX6_process_116 : decode cX6_process 116 = .ok (.iconst 1, 1) := by decide +kernel
theorem dX6_process_117 : decode cX6_process 117 = .ok (.if_icmp .ne 15, 3) := by decide +kernel
theorem dX6_process_120 : decode cX6_process 120 = .ok (.aload_n 0, 1) := by decide +kernel
theorem dX6_process_121 : decode cX6_process 121 = .ok (.getfield 7, 3) := by decide +kernel
theorem dX6_process_124 : decode cX6_process 124 = .ok (.iconst 2, 1) := by decide +kernel
theorem dX6_process_125 : decode cX6_process 125 = .ok (.dup2, 1) := by decide +kernel
theorem dX6_process_126 : decode cX6_process 126 = .ok (.iaload, 1) := by decide +kernel
theorem dX6_process_127 : decode cX6_process 127 = .ok (.iconst 1, 1) := by decide +kernel
theorem dX6_process_128 : decode cX6_process 128 = .ok (.iadd, 1) := by decide +kernel
theorem dX6_process_129 : decode cX6_process 129 = .ok (.iastore, 1) := by decide +kernel
theorem dX6_process_130 : decode cX6_process 130 = .ok (.iconst 0, 1) := by decide +kernel
theorem dX6_process_131 : decode cX6_process 131 = .ok (.ireturn, 1) := by decide +kernel
theorem dX6_process_132 : decode cX6_process 132 = .ok (.aload_n 0, 1) := by decide +kernel
theorem dX6_process_133 : decode cX6_process 133 = .ok (.iload_n 1, 1) := by decide +kernel
theorem dX6_process_134 : decode cX6_process 134 = .ok (.iload_n 3, 1) := by decide +kernel
theorem dX6_process_135 : decode cX6_process 135 = .ok (.iload 4, 2) := by decide +kernel
theorem dX6_process_137 : decode cX6_process 137 = .ok (.iload_n 2, 1) := by decide +kernel
theorem dX6_process_138 : decode cX6_process 138 = .ok (.sipush 16384, 3) := by decide +kernel
theorem dX6_process_141 : decode cX6_process 141 = .ok (.idiv, 1) := by decide +kernel
theorem dX6_process_142 : decode cX6_process 142 = .ok (.iload_n 2, 1) := by decide +kernel
theorem dX6_process_143 : decode cX6_process 143 = .ok (.sipush 256, 3) := by decide +kernel
theorem dX6_process_146 : decode cX6_process 146 = .ok (.idiv, 1) := by decide +kernel
theorem dX6_process_147 : decode cX6_process 147 = .ok (.bipush 64, 2) := by decide +kernel
theorem dX6_process_149 : decode cX6_process 149 = .ok (.irem, 1) := by decide +kernel
theorem dX6_process_150 : decode cX6_process 150 = .ok (.iconst 1, 1) := by decide +kernel
theorem dX6_process_151 : decode cX6_process 151 = .ok (.isub, 1) := by decide +kernel
theorem dX6_process_152 : decode cX6_process 152 = .ok (.invokevirtual 77, 3) := by decide +kernel
theorem dX6_process_155 : decode cX6_process 155 = .ok (.aload_n 0, 1) := by decide +kernel
theorem dX6_process_156 : decode cX6_process 156 = .ok (.iload_n 3, 1) := by decide +kernel
theorem dX6_process_157 : decode cX6_process 157 = .ok (.iconst 3, 1) := by decide +kernel
theorem dX6_process_158 : decode cX6_process 158 = .ok (.invokevirtual 31, 3) := by decide +kernel
theorem dX6_process_161 : decode cX6_process 161 = .ok (.ifCond .ne 38, 3) := by decide +kernel
theorem dX6_process_164 : decode cX6_process 164 = .ok (.aload_n 0, 1) := by decide +kernel
theorem dX6_process_165 : decode cX6_process 165 = .ok (.iload_n 3, 1) := by decide +kernel
theorem dX6_process_166 : decode cX6_process 166 = .ok (.iload 4, 2) := by decide +kernel
theorem dX6_process_168 : decode cX6_process 168 = .ok (.iload_n 1, 1) := by decide +kernel
theorem dX6_process_169 : decode cX6_process 169 = .ok (.invokevirtual 81, 3) := by decide +kernel
theorem dX6_process_172 : decode cX6_process 172 = .ok (.ifCond .eq 27, 3) := by decide +kernel
theorem dX6_process_175 : decode cX6_process 175 = .ok (.aload_n 0, 1) := by decide +kernel
theorem dX6_process_176 : decode cX6_process 176 = .ok (.iload_n 3, 1) := by decide +kernel
theorem dX6_process_177 : decode cX6_process 177 = .ok (.bipush 47, 2) := by decide +kernel
theorem dX6_process_179 : decode cX6_process 179 = .ok (.iload 4, 2) := by decide +kernel
theorem dX6_process_181 : decode cX6_process 181 = .ok (.iadd, 1) := by decide +kernel
theorem dX6_process_182 : decode cX6_process 182 = .ok (.aload_n 0, 1) := by decide +kernel
theorem dX6_process_183 : decode cX6_process 183 = .ok (.iload_n 3, 1) := by decide +kernel
theorem dX6_process_184 : decode cX6_process 184 = .ok (.bipush 47, 2) := by decide +kernel
theorem dX6_process_186 : decode cX6_process 186 = .ok (.iload 4, 2) := by decide +kernel
theorem dX6_process_188 : decode cX6_process 188 = .ok (.iadd, 1) := by decide +kernel
theorem dX6_process_189 : decode cX6_process 189 = .ok (.invokevirtual 31, 3) := by decide +kernel
theorem dX6_process_192 : decode cX6_process 192 = .ok (.iconst 1, 1) := by decide +kernel
theorem dX6_process_193 : decode cX6_process 193 = .ok (.iload_n 1, 1) := by decide +kernel
theorem dX6_process_194 : decode cX6_process 194 = .ok (.ishl, 1) := by decide +kernel
theorem dX6_process_195 : decode cX6_process 195 = .ok (.ior, 1) := by decide +kernel
theorem dX6_process_196 : decode cX6_process 196 = .ok (.invokevirtual 84, 3) := by decide +kernel
theorem dX6_process_199 : decode cX6_process 199 = .ok (.iconst 1, 1) := by decide +kernel
theorem dX6_process_200 : decode cX6_process 200 = .ok (.ireturn, 1) := by decide +kernel
theorem dX6_deliver_0 : decode cX6_deliver 0 = .ok (.aload_n 0, 1) := by decide +kernel
theorem dX6_deliver_1 : decode cX6_deliver 1 = .ok (.aload_n 0, 1) := by decide +kernel
theorem dX6_deliver_2 : decode cX6_deliver 2 = .ok (.iload_n 1, 1) := by decide +kernel
theorem dX6_deliver_3 : decode cX6_deliver 3 = .ok (.invokevirtual 66, 3) := by decide +kernel
theorem dX6_deliver_6 : decode cX6_deliver 6 = .ok (.aload_n 0, 1) := by decide +kernel
theorem dX6_deliver_7 : decode cX6_deliver 7 = .ok (.iload_n 1, 1) := by decide +kernel
theorem dX6_deliver_8 : decode cX6_deliver 8 = .ok (.invokevirtual 66, 3) := by decide +kernel
theorem dX6_deliver_11 : decode cX6_deliver 11 = .ok (.ifCond .eq 15, 3) := by decide +kernel
theorem dX6_deliver_14 : decode cX6_deliver 14 = .ok (.aload_n 0, 1) := by decide +kernel
theorem dX6_deliver_15 : decode cX6_deliver 15 = .ok (.iload_n 1, 1) := by decide +kernel
theorem dX6_deliver_16 : decode cX6_deliver 16 = .ok (.invokevirtual 45, 3) := by decide +kernel
theorem dX6_deliver_19 : decode cX6_deliver 19 = .ok (.ifCond .eq 7, 3) := by decide +kernel
theorem dX6_deliver_22 : decode cX6_deliver 22 = .ok (.iconst 1, 1) := by decide +kernel
theorem dX6_deliver_23 : decode cX6_deliver 23 = .ok (.goto 4, 3) := by decide +kernel
theorem dX6_deliver_26 : decode cX6_deliver 26 = .ok (.iconst 0, 1) := by decide +kernel
theorem dX6_deliver_27 : decode cX6_deliver 27 = .ok (.invokevirtual 69, 3) := by decide +kernel
theorem dX6_deliver_30 : decode cX6_deliver 30 = .ok (.ifCond .ne 5, 3) := by decide +kernel
theorem dX6_deliver_33 : decode cX6_deliver 33 = .ok (.iconst 0, 1) := by decide +kernel
theorem dX6_deliver_34 : decode cX6_deliver 34 = .ok (.ireturn, 1) := by decide +kernel
theorem dX6_deliver_35 : decode cX6_deliver 35 = .ok (.aload_n 0, 1) := by decide +kernel
theorem dX6_deliver_36 : decode cX6_deliver 36 = .ok (.invokevirtual 63, 3) := by decide +kernel
theorem dX6_deliver_39 : decode cX6_deliver 39 = .ok (.aload_n 0, 1) := by decide +kernel
theorem dX6_deliver_40 : decode cX6_deliver 40 = .ok (.getfield 7, 3) := by decide +kernel
theorem dX6_deliver_43 : decode cX6_deliver 43 = .ok (.bipush 11, 2) := by decide +kernel
theorem dX6_deliver_45 : decode cX6_deliver 45 = .ok (.iload_n 1, 1) := by decide +kernel
theorem dX6_deliver_46 : decode cX6_deliver 46 = .ok (.iadd, 1) := by decide +kernel
theorem dX6_deliver_47 : decode cX6_deliver 47 = .ok (.iaload, 1) := by decide +kernel
theorem dX6_deliver_48 : decode cX6_deliver 48 = .ok (.ifCond .ne 7, 3) := by decide +kernel
theorem dX6_deliver_51 : decode cX6_deliver 51 = .ok (.iconst (-1), 1) := by decide +kernel
theorem dX6_deliver_52 : decode cX6_deliver 52 = .ok (.goto 8, 3) := by decide +kernel
theorem dX6_deliver_55 : decode cX6_deliver 55 = .ok (.aload_n 0, 1) := by decide +kernel
theorem dX6_deliver_56 : decode cX6_deliver 56 = .ok (.iload_n 1, 1) := by decide +kernel
theorem dX6_deliver_57 : decode cX6_deliver 57 = .ok (.invokevirtual 88, 3) := by decide +kernel
theorem dX6_deliver_60 : decode cX6_deliver 60 = .ok (.ireturn, 1) := by decide +kernel
theorem dX6_deliverAll_0 : decode cX6_deliverAll 0 = .ok (.aload_n 0, 1) := by decide +kernel
theorem dX6_deliverAll_1 : decode cX6_deliverAll 1 = .ok (.iconst 0, 1) := by decide +kernel
theorem dX6_deliverAll_2 : decode cX6_deliverAll 2 = .ok (.putfield 20, 3) := by decide +kernel
theorem dX6_deliverAll_5 : decode cX6_deliverAll 5 = .ok (.aload_n 0, 1) := by decide +kernel
theorem dX6_deliverAll_6 : decode cX6_deliverAll 6 = .ok (.invokevirtual 63, 3) := by decide +kernel
theorem dX6_deliverAll_9 : decode cX6_deliverAll 9 = .ok (.iconst 0, 1) := by decide +kernel
theorem dX6_deliverAll_10 : decode cX6_deliverAll 10 = .ok (.istore_n 1, 1) := by decide +kernel
theorem dX6_deliverAll_11 : decode cX6_deliverAll 11 = .ok (.iconst 1, 1) := by decide +kernel
theorem dX6_deliverAll_12 : decode cX6_deliverAll 12 = .ok (.istore_n 2, 1) := by decide +kernel
theorem dX6_deliverAll_13 : decode cX6_deliverAll 13 = .ok (.iload_n 2, 1) := by decide +kernel
theorem dX6_deliverAll_14 : decode cX6_deliverAll 14 = .ok (.ifCond .eq 56, 3) := by decide +kernel
theorem dX6_deliverAll_17 : decode cX6_deliverAll 17 = .ok (.iconst 0, 1) := by decide +kernel
theorem dX6_deliverAll_18 : decode cX6_deliverAll 18 = .ok (.istore_n 2, 1) := by decide +kernel
theorem dX6_deliverAll_19 : decode cX6_deliverAll 19 = .ok (.iconst 0, 1) := by decide +kernel
theorem dX6_deliverAll_20 : decode cX6_deliverAll 20 = .ok (.istore_n 3, 1) := by decide +kernel
theorem dX6_deliverAll_21 : decode cX6_deliverAll 21 = .ok (.iload_n 3, 1) := by decide +kernel
theorem dX6_deliverAll_22 : decode cX6_deliverAll 22 = .ok (.aload_n 0, 1) := by decide +kernel
theorem dX6_deliverAll_23 : decode cX6_deliverAll 23 = .ok (.getfield 7, 3) := by decide +kernel
theorem dX6_deliverAll_26 : decode cX6_deliverAll 26 = .ok (.iconst 0, 1) := by decide +kernel
theorem dX6_deliverAll_27 : decode cX6_deliverAll 27 = .ok (.iaload, 1) := by decide +kernel
theorem dX6_deliverAll_28 : decode cX6_deliverAll 28 = .ok (.if_icmp .ge 39, 3) := by decide +kernel
theorem dX6_deliverAll_31 : decode cX6_deliverAll 31 = .ok (.aload_n 0, 1) := by decide +kernel
theorem dX6_deliverAll_32 : decode cX6_deliverAll 32 = .ok (.iload_n 3, 1) := by decide +kernel
theorem dX6_deliverAll_33 : decode cX6_deliverAll 33 = .ok (.invokevirtual 45, 3) := by decide +kernel
theorem dX6_deliverAll_36 : decode cX6_deliverAll 36 = .ok (.ifCond .eq 25, 3) := by decide +kernel
theorem dX6_deliverAll_39 : decode cX6_deliverAll 39 = .ok (.aload_n 0, 1) := by decide +kernel
theorem dX6_deliverAll_40 : decode cX6_deliverAll 40 = .ok (.getfield 7, 3) := by decide +kernel
theorem dX6_deliverAll_43 : decode cX6_deliverAll 43 = .ok (.bipush 11, 2) := by decide +kernel
theorem dX6_deliverAll_45 : decode cX6_deliverAll 45 = .ok (.iload_n 3, 1) := by decide +kernel
theorem dX6_deliverAll_46 : decode cX6_deliverAll 46 = .ok (.iadd, 1) := by decide +kernel
theorem dX6_deliverAll_47 : decode cX6_deliverAll 47 = .ok (.iaload, 1) := by decide +kernel
theorem dX6_deliverAll_48 : decode cX6_deliverAll 48 = .ok (.ifCond .le 13, 3) := by decide +kernel
theorem dX6_deliverAll_51 : decode cX6_deliverAll 51 = .ok (.iload_n 1, 1) := by decide +kernel
theorem dX6_deliverAll_52 : decode cX6_deliverAll 52 = .ok (.aload_n 0, 1) := by decide +kernel
theorem dX6_deliverAll_53 : decode cX6_deliverAll 53 = .ok (.iload_n 3, 1) := by decide +kernel
theorem dX6_deliverAll_54 : decode cX6_deliverAll 54 = .ok (.invokevirtual 88, 3) := by decide +kernel
theorem dX6_deliverAll_57 : decode cX6_deliverAll 57 = .ok (.iadd, 1) := by decide +kernel
theorem dX6_deliverAll_58 : decode cX6_deliverAll 58 = .ok (.istore_n 1, 1) := by decide +kernel
theorem dX6_deliverAll_59 : decode cX6_deliverAll 59 = .ok (.iconst 1, 1) := by decide +kernel
theorem dX6_deliverAll_60 : decode cX6_deliverAll 60 = .ok (.istore_n 2, 1) := by decide +kernel
theorem dX6_deliverAll_61 : decode cX6_deliverAll 61 = .ok (.iinc 3 1, 3) := by decide +kernel
theorem dX6_deliverAll_64 : decode cX6_deliverAll 64 = .ok (.goto (-43), 3) := by decide +kernel
theorem dX6_deliverAll_67 : decode cX6_deliverAll 67 = .ok (.goto (-54), 3) := by decide +kernel
theorem dX6_deliverAll_70 : decode cX6_deliverAll 70 = .ok (.iload_n 1, 1) := by decide +kernel
theorem dX6_deliverAll_71 : decode cX6_deliverAll 71 = .ok (.ireturn, 1) := by decide +kernel
theorem dX6_inboxLength_0 : decode cX6_inboxLength 0 = .ok (.aload_n 0, 1) := by decide +kernel
theorem dX6_inboxLength_1 : decode cX6_inboxLength 1 = .ok (.aload_n 0, 1) := by decide +kernel
theorem dX6_inboxLength_2 : decode cX6_inboxLength 2 = .ok (.iload_n 1, 1) := by decide +kernel
theorem dX6_inboxLength_3 : decode cX6_inboxLength 3 = .ok (.invokevirtual 66, 3) := by decide +kernel
theorem dX6_inboxLength_6 : decode cX6_inboxLength 6 = .ok (.iconst 1, 1) := by decide +kernel
theorem dX6_inboxLength_7 : decode cX6_inboxLength 7 = .ok (.invokevirtual 69, 3) := by decide +kernel
theorem dX6_inboxLength_10 : decode cX6_inboxLength 10 = .ok (.ifCond .eq 15, 3) := by decide +kernel
theorem dX6_inboxLength_13 : decode cX6_inboxLength 13 = .ok (.aload_n 0, 1) := by decide +kernel
theorem dX6_inboxLength_14 : decode cX6_inboxLength 14 = .ok (.getfield 7, 3) := by decide +kernel
theorem dX6_inboxLength_17 : decode cX6_inboxLength 17 = .ok (.bipush 11, 2) := by decide +kernel
theorem dX6_inboxLength_19 : decode cX6_inboxLength 19 = .ok (.iload_n 1, 1) := by decide +kernel
theorem dX6_inboxLength_20 : decode cX6_inboxLength 20 = .ok (.iadd, 1) := by decide +kernel
theorem dX6_inboxLength_21 : decode cX6_inboxLength 21 = .ok (.iaload, 1) := by decide +kernel
theorem dX6_inboxLength_22 : decode cX6_inboxLength 22 = .ok (.goto 4, 3) := by decide +kernel
theorem dX6_inboxLength_25 : decode cX6_inboxLength 25 = .ok (.iconst 0, 1) := by decide +kernel
theorem dX6_inboxLength_26 : decode cX6_inboxLength 26 = .ok (.ireturn, 1) := by decide +kernel
theorem dX6_weight_0 : decode cX6_weight 0 = .ok (.aload_n 0, 1) := by decide +kernel
theorem dX6_weight_1 : decode cX6_weight 1 = .ok (.aload_n 0, 1) := by decide +kernel
theorem dX6_weight_2 : decode cX6_weight 2 = .ok (.iload_n 1, 1) := by decide +kernel
theorem dX6_weight_3 : decode cX6_weight 3 = .ok (.invokevirtual 66, 3) := by decide +kernel
theorem dX6_weight_6 : decode cX6_weight 6 = .ok (.iconst 1, 1) := by decide +kernel
theorem dX6_weight_7 : decode cX6_weight 7 = .ok (.invokevirtual 69, 3) := by decide +kernel
theorem dX6_weight_10 : decode cX6_weight 10 = .ok (.ifCond .eq 11, 3) := by decide +kernel
theorem dX6_weight_13 : decode cX6_weight 13 = .ok (.aload_n 0, 1) := by decide +kernel
theorem dX6_weight_14 : decode cX6_weight 14 = .ok (.iload_n 1, 1) := by decide +kernel
theorem dX6_weight_15 : decode cX6_weight 15 = .ok (.invokevirtual 53, 3) := by decide +kernel
theorem dX6_weight_18 : decode cX6_weight 18 = .ok (.goto 4, 3) := by decide +kernel
theorem dX6_weight_21 : decode cX6_weight 21 = .ok (.iconst 0, 1) := by decide +kernel
theorem dX6_weight_22 : decode cX6_weight 22 = .ok (.ireturn, 1) := by decide +kernel
theorem dX6_shareOf_0 : decode cX6_shareOf 0 = .ok (.iconst 0, 1) := by decide +kernel
theorem dX6_shareOf_1 : decode cX6_shareOf 1 = .ok (.istore_n 2, 1) := by decide +kernel
theorem dX6_shareOf_2 : decode cX6_shareOf 2 = .ok (.iconst 0, 1) := by decide +kernel
theorem dX6_shareOf_3 : decode cX6_shareOf 3 = .ok (.istore_n 3, 1) := by decide +kernel
theorem dX6_shareOf_4 : decode cX6_shareOf 4 = .ok (.iload_n 3, 1) := by decide +kernel
theorem dX6_shareOf_5 : decode cX6_shareOf 5 = .ok (.aload_n 0, 1) := by decide +kernel
theorem dX6_shareOf_6 : decode cX6_shareOf 6 = .ok (.getfield 7, 3) := by decide +kernel
theorem dX6_shareOf_9 : decode cX6_shareOf 9 = .ok (.iconst 0, 1) := by decide +kernel
theorem dX6_shareOf_10 : decode cX6_shareOf 10 = .ok (.iaload, 1) := by decide +kernel
theorem dX6_shareOf_11 : decode cX6_shareOf 11 = .ok (.if_icmp .ge 17, 3) := by decide +kernel
theorem dX6_shareOf_14 : decode cX6_shareOf 14 = .ok (.iload_n 2, 1) := by decide +kernel
theorem dX6_shareOf_15 : decode cX6_shareOf 15 = .ok (.aload_n 0, 1) := by decide +kernel
theorem dX6_shareOf_16 : decode cX6_shareOf 16 = .ok (.iload_n 3, 1) := by decide +kernel
theorem dX6_shareOf_17 : decode cX6_shareOf 17 = .ok (.invokevirtual 53, 3) := by decide +kernel
theorem dX6_shareOf_20 : decode cX6_shareOf 20 = .ok (.iadd, 1) := by decide +kernel
theorem dX6_shareOf_21 : decode cX6_shareOf 21 = .ok (.istore_n 2, 1) := by decide +kernel
theorem dX6_shareOf_22 : decode cX6_shareOf 22 = .ok (.iinc 3 1, 3) := by decide +kernel
theorem dX6_shareOf_25 : decode cX6_shareOf 25 = .ok (.goto (-21), 3) := by decide +kernel
theorem dX6_shareOf_28 : decode cX6_shareOf 28 = .ok (.iload_n 2, 1) := by decide +kernel
theorem dX6_shareOf_29 : decode cX6_shareOf 29 = .ok (.ifCond .ne 7, 3) := by decide +kernel
theorem dX6_shareOf_32 : decode cX6_shareOf 32 = .ok (.fconst 0, 1) := by decide +kernel
theorem dX6_shareOf_33 : decode cX6_shareOf 33 = .ok (.goto 12, 3) := by decide +kernel
theorem dX6_shareOf_36 : decode cX6_shareOf 36 = .ok (.aload_n 0, 1) := by decide +kernel
theorem dX6_shareOf_37 : decode cX6_shareOf 37 = .ok (.iload_n 1, 1) := by decide +kernel
theorem dX6_shareOf_38 : decode cX6_shareOf 38 = .ok (.invokevirtual 53, 3) := by decide +kernel
theorem dX6_shareOf_41 : decode cX6_shareOf 41 = .ok (.i2f, 1) := by decide +kernel
theorem dX6_shareOf_42 : decode cX6_shareOf 42 = .ok (.iload_n 2, 1) := by decide +kernel
theorem dX6_shareOf_43 : decode cX6_shareOf 43 = .ok (.i2f, 1) := by decide +kernel
theorem dX6_shareOf_44 : decode cX6_shareOf 44 = .ok (.fdiv, 1) := by decide +kernel
theorem dX6_shareOf_45 : decode cX6_shareOf 45 = .ok (.freturn, 1) := by decide +kernel
theorem dX6_share_0 : decode cX6_share 0 = .ok (.aload_n 0, 1) := by decide +kernel
theorem dX6_share_1 : decode cX6_share 1 = .ok (.aload_n 0, 1) := by decide +kernel
theorem dX6_share_2 : decode cX6_share 2 = .ok (.iload_n 1, 1) := by decide +kernel
theorem dX6_share_3 : decode cX6_share 3 = .ok (.invokevirtual 66, 3) := by decide +kernel
theorem dX6_share_6 : decode cX6_share 6 = .ok (.iconst 1, 1) := by decide +kernel
theorem dX6_share_7 : decode cX6_share 7 = .ok (.invokevirtual 69, 3) := by decide +kernel
theorem dX6_share_10 : decode cX6_share 10 = .ok (.ifCond .eq 11, 3) := by decide +kernel
theorem dX6_share_13 : decode cX6_share 13 = .ok (.aload_n 0, 1) := by decide +kernel
theorem dX6_share_14 : decode cX6_share 14 = .ok (.iload_n 1, 1) := by decide +kernel
theorem dX6_share_15 : decode cX6_share 15 = .ok (.invokevirtual 91, 3) := by decide +kernel
theorem dX6_share_18 : decode cX6_share 18 = .ok (.goto 4, 3) := by decide +kernel
theorem dX6_share_21 : decode cX6_share 21 = .ok (.fconst 0, 1) := by decide +kernel
theorem dX6_share_22 : decode cX6_share 22 = .ok (.freturn, 1) := by decide +kernel
theorem dX6_isFenced_0 : decode cX6_isFenced 0 = .ok (.aload_n 0, 1) := by decide +kernel
theorem dX6_isFenced_1 : decode cX6_isFenced 1 = .ok (.aload_n 0, 1) := by decide +kernel
theorem dX6_isFenced_2 : decode cX6_isFenced 2 = .ok (.iload_n 1, 1) := by decide +kernel
theorem dX6_isFenced_3 : decode cX6_isFenced 3 = .ok (.invokevirtual 66, 3) := by decide +kernel
theorem dX6_isFenced_6 : decode cX6_isFenced 6 = .ok (.ifCond .eq 15, 3) := by decide +kernel
theorem dX6_isFenced_9 : decode cX6_isFenced 9 = .ok (.aload_n 0, 1) := by decide +kernel
theorem dX6_isFenced_10 : decode cX6_isFenced 10 = .ok (.iload_n 2, 1) := by decide +kernel
theorem dX6_isFenced_11 : decode cX6_isFenced 11 = .ok (.invokevirtual 95, 3) := by decide +kernel
theorem dX6_isFenced_14 : decode cX6_isFenced 14 = .ok (.ifCond .eq 7, 3) := by decide +kernel
theorem dX6_isFenced_17 : decode cX6_isFenced 17 = .ok (.iconst 1, 1) := by decide +kernel
theorem dX6_isFenced_18 : decode cX6_isFenced 18 = .ok (.goto 4, 3) := by decide +kernel
theorem dX6_isFenced_21 : decode cX6_isFenced 21 = .ok (.iconst 0, 1) := by decide +kernel
theorem dX6_isFenced_22 : decode cX6_isFenced 22 = .ok (.iconst 1, 1) := by decide +kernel
theorem dX6_isFenced_23 : decode cX6_isFenced 23 = .ok (.invokevirtual 69, 3) := by decide +kernel
theorem dX6_isFenced_26 : decode cX6_isFenced 26 = .ok (.ifCond .eq 25, 3) := by decide +kernel
theorem dX6_isFenced_29 : decode cX6_isFenced 29 = .ok (.aload_n 0, 1) := by decide +kernel
theorem dX6_isFenced_30 : decode cX6_isFenced 30 = .ok (.getfield 7, 3) := by decide +kernel
theorem dX6_isFenced_33 : decode cX6_isFenced 33 = .ok (.sipush 2099, 3) := by decide +kernel
theorem dX6_isFenced_36 : decode cX6_isFenced 36 = .ok (.iconst 4, 1) := by decide +kernel
theorem dX6_isFenced_37 : decode cX6_isFenced 37 = .ok (.iload_n 1, 1) := by decide +kernel
theorem dX6_isFenced_38 : decode cX6_isFenced 38 = .ok (.imul, 1) := by decide +kernel
theorem dX6_isFenced_39 : decode cX6_isFenced 39 = .ok (.iadd, 1) := by decide +kernel
theorem dX6_isFenced_40 : decode cX6_isFenced 40 = .ok (.iload_n 2, 1) := by decide +kernel
theorem dX6_isFenced_41 : decode cX6_isFenced 41 = .ok (.iadd, 1) := by decide +kernel
theorem dX6_isFenced_42 : decode cX6_isFenced 42 = .ok (.iaload, 1) := by decide +kernel
theorem dX6_isFenced_43 : decode cX6_isFenced 43 = .ok (.iconst 1, 1) := by decide +kernel
theorem dX6_isFenced_44 : decode cX6_isFenced 44 = .ok (.if_icmp .ne 7, 3) := by decide +kernel
theorem dX6_isFenced_47 : decode cX6_isFenced 47 = .ok (.iconst 1, 1) := by decide +kernel
theorem dX6_isFenced_48 : decode cX6_isFenced 48 = .ok (.goto 4, 3) := by decide +kernel
theorem dX6_isFenced_51 : decode cX6_isFenced 51 = .ok (.iconst 0, 1) := by decide +kernel
theorem dX6_isFenced_52 : decode cX6_isFenced 52 = .ok (.ireturn, 1) := by decide +kernel
theorem dX6_rejections_0 : decode cX6_rejections 0 = .ok (.aload_n 0, 1) := by decide +kernel
theorem dX6_rejections_1 : decode cX6_rejections 1 = .ok (.iconst 0, 1) := by decide +kernel
theorem dX6_rejections_2 : decode cX6_rejections 2 = .ok (.putfield 20, 3) := by decide +kernel
theorem dX6_rejections_5 : decode cX6_rejections 5 = .ok (.aload_n 0, 1) := by decide +kernel
theorem dX6_rejections_6 : decode cX6_rejections 6 = .ok (.getfield 7, 3) := by decide +kernel
theorem dX6_rejections_9 : decode cX6_rejections 9 = .ok (.iconst 2, 1) := by decide +kernel
theorem dX6_rejections_10 : decode cX6_rejections 10 = .ok (.iaload, 1) := by decide +kernel
theorem dX6_rejections_11 : decode cX6_rejections 11 = .ok (.ireturn, 1) := by decide +kernel
theorem dX6_ups_0 : decode cX6_ups 0 = .ok (.iconst 0, 1) := by decide +kernel
theorem dX6_ups_1 : decode cX6_ups 1 = .ok (.istore_n 1, 1) := by decide +kernel
theorem dX6_ups_2 : decode cX6_ups 2 = .ok (.iconst 0, 1) := by decide +kernel
theorem dX6_ups_3 : decode cX6_ups 3 = .ok (.istore_n 2, 1) := by decide +kernel
theorem dX6_ups_4 : decode cX6_ups 4 = .ok (.iload_n 2, 1) := by decide +kernel
theorem dX6_ups_5 : decode cX6_ups 5 = .ok (.aload_n 0, 1) := by decide +kernel
theorem dX6_ups_6 : decode cX6_ups 6 = .ok (.getfield 7, 3) := by decide +kernel
theorem dX6_ups_9 : decode cX6_ups 9 = .ok (.iconst 0, 1) := by decide +kernel
theorem dX6_ups_10 : decode cX6_ups 10 = .ok (.iaload, 1) := by decide +kernel
theorem dX6_ups_11 : decode cX6_ups 11 = .ok (.if_icmp .ge 20, 3) := by decide +kernel
theorem dX6_ups_14 : decode cX6_ups 14 = .ok (.iload_n 1, 1) := by decide +kernel
theorem dX6_ups_15 : decode cX6_ups 15 = .ok (.aload_n 0, 1) := by decide +kernel
theorem dX6_ups_16 : decode cX6_ups 16 = .ok (.getfield 7, 3) := by decide +kernel
theorem dX6_ups_19 : decode cX6_ups 19 = .ok (.iconst 3, 1) := by decide +kernel
theorem dX6_ups_20 : decode cX6_ups 20 = .ok (.iload_n 2, 1) := by decide +kernel
theorem dX6_ups_21 : decode cX6_ups 21 = .ok (.iadd, 1) := by decide +kernel
theorem dX6_ups_22 : decode cX6_ups 22 = .ok (.iaload, 1) := by decide +kernel
theorem dX6_ups_23 : decode cX6_ups 23 = .ok (.iadd, 1) := by decide +kernel
theorem dX6_ups_24 : decode cX6_ups 24 = .ok (.istore_n 1, 1) := by decide +kernel
theorem dX6_ups_25 : decode cX6_ups 25 = .ok (.iinc 2 1, 3) := by decide +kernel
theorem dX6_ups_28 : decode cX6_ups 28 = .ok (.goto (-24), 3) := by decide +kernel
theorem dX6_ups_31 : decode cX6_ups 31 = .ok (.iload_n 1, 1) := by decide +kernel
theorem dX6_ups_32 : decode cX6_ups 32 = .ok (.ireturn, 1) := by decide +kernel
theorem dX6_createLedger_0 : decode cX6_createLedger 0 = .ok (.iload_n 1, 1) := by decide +kernel
theorem dX6_createLedger_1 : decode cX6_createLedger 1 = .ok (.iconst 1, 1) := by decide +kernel
theorem dX6_createLedger_2 : decode cX6_createLedger 2 = .ok (.iconst 5, 1) := by decide +kernel
theorem dX6_createLedger_3 : decode cX6_createLedger 3 = .ok (.invokestatic 23, 3) := by decide +kernel
theorem dX6_createLedger_6 : decode cX6_createLedger 6 = .ok (.ifCond .eq 25, 3) := by decide +kernel
theorem dX6_createLedger_9 : decode cX6_createLedger 9 = .ok (.iload_n 2, 1) := by decide +kernel
theorem dX6_createLedger_10 : decode cX6_createLedger 10 = .ok (.iconst 1, 1) := by decide +kernel
theorem dX6_createLedger_11 : decode cX6_createLedger 11 = .ok (.iload_n 1, 1) := by decide +kernel
theorem dX6_createLedger_12 : decode cX6_createLedger 12 = .ok (.invokestatic 23, 3) := by decide +kernel
theorem dX6_createLedger_15 : decode cX6_createLedger 15 = .ok (.ifCond .eq 16, 3) := by decide +kernel
theorem dX6_createLedger_18 : decode cX6_createLedger 18 = .ok (.iload_n 3, 1) := by decide +kernel
theorem dX6_createLedger_19 : decode cX6_createLedger 19 = .ok (.iconst 1, 1) := by decide +kernel
theorem dX6_createLedger_20 : decode cX6_createLedger 20 = .ok (.iload_n 2, 1) := by decide +kernel
theorem dX6_createLedger_21 : decode cX6_createLedger 21 = .ok (.invokestatic 23, 3) := by decide +kernel
theorem dX6_createLedger_24 : decode cX6_createLedger 24 = .ok (.ifCond .eq 7, 3) := by decide +kernel
theorem dX6_createLedger_27 : decode cX6_createLedger 27 = .ok (.iconst 1, 1) := by decide +kernel
theorem dX6_createLedger_28 : decode cX6_createLedger 28 = .ok (.goto 4, 3) := by decide +kernel
theorem dX6_createLedger_31 : decode cX6_createLedger 31 = .ok (.iconst 0, 1) := by decide +kernel
theorem dX6_createLedger_32 : decode cX6_createLedger 32 = .ok (.istore 4, 2) := by decide +kernel
theorem dX6_createLedger_34 : decode cX6_createLedger 34 = .ok (.aload_n 0, 1) := by decide +kernel
theorem dX6_createLedger_35 : decode cX6_createLedger 35 = .ok (.iload 4, 2) := by decide +kernel
theorem dX6_createLedger_37 : decode cX6_createLedger 37 = .ok (.aload_n 0, 1) := by decide +kernel
theorem dX6_createLedger_38 : decode cX6_createLedger 38 = .ok (.getfield 7, 3) := by decide +kernel
theorem dX6_createLedger_41 : decode cX6_createLedger 41 = .ok (.iconst 1, 1) := by decide +kernel
theorem dX6_createLedger_42 : decode cX6_createLedger 42 = .ok (.iaload, 1) := by decide +kernel
theorem dX6_createLedger_43 : decode cX6_createLedger 43 = .ok (.iconst 4, 1) := by decide +kernel
theorem dX6_createLedger_44 : decode cX6_createLedger 44 = .ok (.if_icmp .ge 15, 3) := by decide +kernel
theorem dX6_createLedger_47 : decode cX6_createLedger 47 = .ok (.aload_n 0, 1) := by decide +kernel
theorem dX6_createLedger_48 : decode cX6_createLedger 48 = .ok (.invokevirtual 98, 3) := by decide +kernel
theorem dX6_createLedger_51 : decode cX6_createLedger 51 = .ok (.iload_n 1, 1) := by decide +kernel
theorem dX6_createLedger_52 : decode cX6_createLedger 52 = .ok (.if_icmp .lt 7, 3) := by decide +kernel
theorem dX6_createLedger_55 : decode cX6_createLedger 55 = .ok (.iconst 1, 1) := by decide +kernel
theorem dX6_createLedger_56 : decode cX6_createLedger 56 = .ok (.goto 4, 3) := by decide +kernel
theorem dX6_createLedger_59 : decode cX6_createLedger 59 = .ok (.iconst 0, 1) := by decide +kernel
theorem dX6_createLedger_60 : decode cX6_createLedger 60 = .ok (.invokevirtual 69, 3) := by decide +kernel
theorem dX6_createLedger_63 : decode cX6_createLedger 63 = .ok (.ifCond .ne 5, 3) := by decide +kernel
theorem dX6_createLedger_66 : decode cX6_createLedger 66 = .ok (.iconst 0, 1) := by decide +kernel
theorem dX6_createLedger_67 : decode cX6_createLedger 67 = .ok (.ireturn, 1) := by decide +kernel
theorem dX6_createLedger_68 : decode cX6_createLedger 68 = .ok (.aload_n 0, 1) := by decide +kernel
theorem dX6_createLedger_69 : decode cX6_createLedger 69 = .ok (.invokevirtual 63, 3) := by decide +kernel
theorem dX6_createLedger_72 : decode cX6_createLedger 72 = .ok (.aload_n 0, 1) := by decide +kernel
theorem dX6_createLedger_73 : decode cX6_createLedger 73 = .ok (.getfield 7, 3) := by decide +kernel
theorem dX6_createLedger_76 : decode cX6_createLedger 76 = .ok (.iconst 1, 1) := by decide +kernel
theorem dX6_createLedger_77 : decode cX6_createLedger 77 = .ok (.iaload, 1) := by decide +kernel
theorem dX6_createLedger_78 : decode cX6_createLedger 78 = .ok (.istore 5, 2) := by decide +kernel
theorem dX6_createLedger_80 : decode cX6_createLedger 80 = .ok (.aload_n 0, 1) := by decide +kernel
theorem dX6_createLedger_81 : decode cX6_createLedger 81 = .ok (.getfield 7, 3) := by decide +kernel
theorem dX6_createLedger_84 : decode cX6_createLedger 84 = .ok (.iconst 1, 1) := by decide +kernel
theorem dX6_createLedger_85 : decode cX6_createLedger 85 = .ok (.dup2, 1) := by decide +kernel
theorem dX6_createLedger_86 : decode cX6_createLedger 86 = .ok (.iaload, 1) := by decide +kernel
theorem dX6_createLedger_87 : decode cX6_createLedger 87 = .ok (.iconst 1, 1) := by decide +kernel
theorem dX6_createLedger_88 : decode cX6_createLedger 88 = .ok (.iadd, 1) := by decide +kernel
theorem dX6_createLedger_89 : decode cX6_createLedger 89 = .ok (.iastore, 1) := by decide +kernel
theorem dX6_createLedger_90 : decode cX6_createLedger 90 = .ok (.aload_n 0, 1) := by decide +kernel
theorem dX6_createLedger_91 : decode cX6_createLedger 91 = .ok (.iload 5, 2) := by decide +kernel
theorem dX6_createLedger_93 : decode cX6_createLedger 93 = .ok (.iconst 0, 1) := by decide +kernel
theorem dX6_createLedger_94 : decode cX6_createLedger 94 = .ok (.iload_n 1, 1) := by decide +kernel
theorem dX6_createLedger_95 : decode cX6_createLedger 95 = .ok (.invokevirtual 84, 3) := by decide +kernel
theorem dX6_createLedger_98 : decode cX6_createLedger 98 = .ok (.aload_n 0, 1) := by decide +kernel
theorem dX6_createLedger_99 : decode cX6_createLedger 99 = .ok (.iload 5, 2) := by decide +kernel
theorem dX6_createLedger_101 : decode cX6_createLedger 101 = .ok (.iconst 1, 1) := by decide +kernel
theorem dX6_createLedger_102 : decode cX6_createLedger 102 = .ok (.iload_n 2, 1) := by decide +kernel
theorem dX6_createLedger_103 : decode cX6_createLedger 103 = .ok (.invokevirtual 84, 3) := by decide +kernel
theorem dX6_createLedger_106 : decode cX6_createLedger 106 = .ok (.aload_n 0, 1) := by decide +kernel
theorem dX6_createLedger_107 : decode cX6_createLedger 107 = .ok (.iload 5, 2) := by decide +kernel
theorem dX6_createLedger_109 : decode cX6_createLedger 109 = .ok (.iconst 2, 1) := by decide +kernel
theorem dX6_createLedger_110 : decode cX6_createLedger 110 = .ok (.iload_n 3, 1) := by decide +kernel
theorem dX6_createLedger_111 : decode cX6_createLedger 111 = .ok (.invokevirtual 84, 3) := by decide +kernel
theorem dX6_createLedger_114 : decode cX6_createLedger 114 = .ok (.aload_n 0, 1) := by decide +kernel
theorem dX6_createLedger_115 : decode cX6_createLedger 115 = .ok (.iload 5, 2) := by decide +kernel
theorem dX6_createLedger_117 : decode cX6_createLedger 117 = .ok (.iconst 5, 1) := by decide +kernel
theorem dX6_createLedger_118 : decode cX6_createLedger 118 = .ok (.iconst (-1), 1) := by decide +kernel
theorem dX6_createLedger_119 : decode cX6_createLedger 119 = .ok (.invokevirtual 84, 3) := by decide +kernel
theorem dX6_createLedger_122 : decode cX6_createLedger 122 = .ok (.aload_n 0, 1) := by decide +kernel
theorem dX6_createLedger_123 : decode cX6_createLedger 123 = .ok (.iload 5, 2) := by decide +kernel
theorem dX6_createLedger_125 : decode cX6_createLedger 125 = .ok (.bipush 6, 2) := by decide +kernel
theorem dX6_createLedger_127 : decode cX6_createLedger 127 = .ok (.iconst 1, 1) := by decide +kernel
theorem dX6_createLedger_128 : decode cX6_createLedger 128 = .ok (.invokevirtual 84, 3) := by decide +kernel
theorem dX6_createLedger_131 : decode cX6_createLedger 131 = .ok (.iconst 0, 1) := by decide +kernel
theorem dX6_createLedger_132 : decode cX6_createLedger 132 = .ok (.istore 6, 2) := by decide +kernel
theorem dX6_createLedger_134 : decode cX6_createLedger 134 = .ok (.iconst 0, 1) := by decide +kernel
theorem dX6_createLedger_135 : decode cX6_createLedger 135 = .ok (.istore 7, 2) := by decide +kernel
theorem dX6_createLedger_137 : decode cX6_createLedger 137 = .ok (.iload 7, 2) := by decide +kernel
theorem dX6_createLedger_139 : decode cX6_createLedger 139 = .ok (.iload_n 1, 1) := by decide +kernel
theorem dX6_createLedger_140 : decode cX6_createLedger 140 = .ok (.if_icmp .ge 40, 3) := by decide +kernel
theorem dX6_createLedger_143 : decode cX6_createLedger 143 = .ok (.aload_n 0, 1) := by decide +kernel
theorem dX6_createLedger_144 : decode cX6_createLedger 144 = .ok (.iload 6, 2) := by decide +kernel
theorem dX6_createLedger_146 : decode cX6_createLedger 146 = .ok (.invokevirtual 102, 3) := by decide +kernel
theorem dX6_createLedger_149 : decode cX6_createLedger 149 = .ok (.istore 8, 2) := by decide +kernel
theorem dX6_createLedger_151 : decode cX6_createLedger 151 = .ok (.aload_n 0, 1) := by decide +kernel
theorem dX6_createLedger_152 : decode cX6_createLedger 152 = .ok (.iload 5, 2) := by decide +kernel
theorem dX6_createLedger_154 : decode cX6_createLedger 154 = .ok (.sipush 128, 3) := by decide +kernel
theorem dX6_createLedger_157 : decode cX6_createLedger 157 = .ok (.iload 7, 2) := by decide +kernel
theorem dX6_createLedger_159 : decode cX6_createLedger 159 = .ok (.iadd, 1) := by decide +kernel
theorem dX6_createLedger_160 : decode cX6_createLedger 160 = .ok (.iload 8, 2) := by decide +kernel
theorem dX6_createLedger_162 : decode cX6_createLedger 162 = .ok (.invokevirtual 84, 3) := by decide +kernel
theorem dX6_createLedger_165 : decode cX6_createLedger 165 = .ok (.iload 6, 2) := by decide +kernel
theorem dX6_createLedger_167 : decode cX6_createLedger 167 = .ok (.iconst 1, 1) := by decide +kernel
theorem dX6_createLedger_168 : decode cX6_createLedger 168 = .ok (.iload 8, 2) := by decide +kernel
theorem dX6_createLedger_170 : decode cX6_createLedger 170 = .ok (.ishl, 1) := by decide +kernel
theorem dX6_createLedger_171 : decode cX6_createLedger 171 = .ok (.ior, 1) := by decide +kernel
theorem dX6_createLedger_172 : decode cX6_createLedger 172 = .ok (.istore 6, 2) := by decide +kernel
theorem dX6_createLedger_174 : decode cX6_createLedger 174 = .ok (.iinc 7 1, 3) := by decide +kernel
theorem dX6_createLedger_177 : decode cX6_createLedger 177 = .ok (.goto (-40), 3) := by decide +kernel
theorem dX6_createLedger_180 : decode cX6_createLedger 180 = .ok (.iload 5, 2) := by decide +kernel
theorem dX6_createLedger_182 : decode cX6_createLedger 182 = .ok (.ireturn, 1) := by decide +kernel
theorem dX6_append_0 : decode cX6_append 0 = .ok (.aload_n 0, 1) := by decide +kernel
theorem dX6_append_1 : decode cX6_append 1 = .ok (.iload_n 1, 1) := by decide +kernel
theorem dX6_append_2 : decode cX6_append 2 = .ok (.invokevirtual 95, 3) := by decide +kernel
theorem dX6_append_5 : decode cX6_append 5 = .ok (.ifCond .eq 18, 3) := by decide +kernel
theorem dX6_append_8 : decode cX6_append 8 = .ok (.iload_n 2, 1) := by decide +kernel
theorem dX6_append_9 : decode cX6_append 9 = .ok (.iconst 0, 1) := by decide +kernel
theorem dX6_append_10 : decode cX6_append 10 = .ok (.sipush 999, 3) := by decide +kernel
theorem dX6_append_13 : decode cX6_append 13 = .ok (.invokestatic 23, 3) := by decide +kernel
theorem dX6_append_16 : decode cX6_append 16 = .ok (.ifCond .eq 7, 3) := by decide +kernel
theorem dX6_append_19 : decode cX6_append 19 = .ok (.iconst 1, 1) := by decide +kernel
theorem dX6_append_20 : decode cX6_append 20 = .ok (.goto 4, 3) := by decide +kernel
theorem dX6_append_23 : decode cX6_append 23 = .ok (.iconst 0, 1) := by decide +kernel
theorem dX6_append_24 : decode cX6_append 24 = .ok (.istore_n 3, 1) := by decide +kernel
theorem dX6_append_25 : decode cX6_append 25 = .ok (.aload_n 0, 1) := by decide +kernel
theorem dX6_append_26 : decode cX6_append 26 = .ok (.iload_n 3, 1) := by decide +kernel
theorem dX6_append_27 : decode cX6_append 27 = .ok (.iload_n 3, 1) := by decide +kernel
theorem dX6_append_28 : decode cX6_append 28 = .ok (.ifCond .eq 27, 3) := by decide +kernel
theorem dX6_append_31 : decode cX6_append 31 = .ok (.aload_n 0, 1) := by decide +kernel
theorem dX6_append_32 : decode cX6_append 32 = .ok (.iload_n 1, 1) := by decide +kernel
theorem dX6_append_33 : decode cX6_append 33 = .ok (.iconst 3, 1) := by decide +kernel
theorem dX6_append_34 : decode cX6_append 34 = .ok (.invokevirtual 31, 3) := by decide +kernel
theorem dX6_append_37 : decode cX6_append 37 = .ok (.ifCond .ne 18, 3) := by decide +kernel
theorem dX6_append_40 : decode cX6_append 40 = .ok (.aload_n 0, 1) := by decide +kernel
theorem dX6_append_41 : decode cX6_append 41 = .ok (.iload_n 1, 1) := by decide +kernel
theorem dX6_append_42 : decode cX6_append 42 = .ok (.iconst 4, 1) := by decide +kernel
theorem dX6_append_43 : decode cX6_append 43 = .ok (.invokevirtual 31, 3) := by decide +kernel
theorem dX6_append_46 : decode cX6_append 46 = .ok (.bipush 40, 2) := by decide +kernel
theorem dX6_append_48 : decode cX6_append 48 = .ok (.if_icmp .ge 7, 3) := by decide +kernel
theorem dX6_append_51 : decode cX6_append 51 = .ok (.iconst 1, 1) := by decide +kernel
theorem dX6_append_52 : decode cX6_append 52 = .ok (.goto 4, 3) := by decide +kernel
theorem dX6_append_55 : decode cX6_append 55 = .ok (.iconst 0, 1) := by decide +kernel
theorem dX6_append_56 : decode cX6_append 56 = .ok (.invokevirtual 69, 3) := by decide +kernel
theorem dX6_append_59 : decode cX6_append 59 = .ok (.ifCond .ne 5, 3) := by decide +kernel
theorem dX6_append_62 : decode cX6_append 62 = .ok (.iconst 0, 1) := by decide +kernel
theorem dX6_append_63 : decode cX6_append 63 = .ok (.ireturn, 1) := by decide +kernel
theorem dX6_append_64 : decode cX6_append 64 = .ok (.aload_n 0, 1) := by decide +kernel
theorem dX6_append_65 : decode cX6_append 65 = .ok (.invokevirtual 63, 3) := by decide +kernel
theorem dX6_append_68 : decode cX6_append 68 = .ok (.aload_n 0, 1) := by decide +kernel
theorem dX6_append_69 : decode cX6_append 69 = .ok (.iload_n 1, 1) := by decide +kernel
theorem dX6_append_70 : decode cX6_append 70 = .ok (.iconst 4, 1) := by decide +kernel
theorem dX6_append_71 : decode cX6_append 71 = .ok (.invokevirtual 31, 3) := by decide +kernel
theorem dX6_append_74 : decode cX6_append 74 = .ok (.istore 4, 2) := by decide +kernel
theorem dX6_append_76 : decode cX6_append 76 = .ok (.aload_n 0, 1) := by decide +kernel
theorem dX6_append_77 : decode cX6_append 77 = .ok (.iload_n 1, 1) := by decide +kernel
theorem dX6_append_78 : decode cX6_append 78 = .ok (.invokevirtual 60, 3) := by decide +kernel
theorem dX6_append_81 : decode cX6_append 81 = .ok (.istore 5, 2) := by decide +kernel
theorem dX6_append_83 : decode cX6_append 83 = .ok (.aload_n 0, 1) := by decide +kernel
theorem dX6_append_84 : decode cX6_append 84 = .ok (.iload_n 1, 1) := by decide +kernel
theorem dX6_append_85 : decode cX6_append 85 = .ok (.bipush 7, 2) := by decide +kernel
theorem dX6_append_87 : decode cX6_append 87 = .ok (.iload 4, 2) := by decide +kernel
theorem dX6_append_89 : decode cX6_append 89 = .ok (.iadd, 1) := by decide +kernel
theorem dX6_append_90 : decode cX6_append 90 = .ok (.iload_n 2, 1) := by decide +kernel
theorem dX6_append_91 : decode cX6_append 91 = .ok (.invokevirtual 84, 3) := by decide +kernel
theorem dX6_append_94 : decode cX6_append 94 = .ok (.aload_n 0, 1) := by decide +kernel
theorem dX6_append_95 : decode cX6_append 95 = .ok (.iload_n 1, 1) := by decide +kernel
theorem dX6_append_96 : decode cX6_append 96 = .ok (.bipush 47, 2) := by decide +kernel
theorem dX6_append_98 : decode cX6_append 98 = .ok (.iload 4, 2) := by decide +kernel
theorem dX6_append_100 : decode cX6_append 100 = .ok (.iadd, 1) := by decide +kernel
theorem dX6_append_101 : decode cX6_append 101 = .ok (.iconst 0, 1) := by decide +kernel
theorem dX6_append_102 : decode cX6_append 102 = .ok (.invokevirtual 84, 3) := by decide +kernel
theorem dX6_append_105 : decode cX6_append 105 = .ok (.aload_n 0, 1) := by decide +kernel
theorem dX6_append_106 : decode cX6_append 106 = .ok (.iload_n 1, 1) := by decide +kernel
theorem dX6_append_107 : decode cX6_append 107 = .ok (.iconst 4, 1) := by decide +kernel
theorem dX6_append_108 : decode cX6_append 108 = .ok (.iload 4, 2) := by decide +kernel
theorem dX6_append_110 : decode cX6_append 110 = .ok (.iconst 1, 1) := by decide +kernel
theorem dX6_append_111 : decode cX6_append 111 = .ok (.iadd, 1) := by decide +kernel
theorem dX6_append_112 : decode cX6_append 112 = .ok (.invokevirtual 84, 3) := by decide +kernel
theorem dX6_append_115 : decode cX6_append 115 = .ok (.iconst 0, 1) := by decide +kernel
theorem dX6_append_116 : decode cX6_append 116 = .ok (.istore 6, 2) := by decide +kernel
theorem dX6_append_118 : decode cX6_append 118 = .ok (.iload 6, 2) := by decide +kernel
theorem dX6_append_120 : decode cX6_append 120 = .ok (.aload_n 0, 1) := by decide +kernel
theorem dX6_append_121 : decode cX6_append 121 = .ok (.iload_n 1, 1) := by decide +kernel
theorem dX6_append_122 : decode cX6_append 122 = .ok (.iconst 1, 1) := by decide +kernel
theorem dX6_append_123 : decode cX6_append 123 = .ok (.invokevirtual 31, 3) := by decide +kernel
theorem dX6_append_126 : decode cX6_append 126 = .ok (.if_icmp .ge 34, 3) := by decide +kernel
theorem dX6_append_129 : decode cX6_append 129 = .ok (.aload_n 0, 1) := by decide +kernel
theorem dX6_append_130 : decode cX6_append 130 = .ok (.aload_n 0, 1) := by decide +kernel
theorem dX6_append_131 : decode cX6_append 131 = .ok (.iload_n 1, 1) := by decide +kernel
theorem dX6_append_132 : decode cX6_append 132 = .ok (.aload_n 0, 1) := by decide +kernel
theorem dX6_append_133 : decode cX6_append 133 = .ok (.iload_n 1, 1) := by decide +kernel
theorem dX6_append_134 : decode cX6_append 134 = .ok (.iload 4, 2) := by decide +kernel
theorem dX6_append_136 : decode cX6_append 136 = .ok (.invokevirtual 38, 3) := by decide +kernel
theorem dX6_append_139 : decode cX6_append 139 = .ok (.iload 4, 2) := by decide +kernel
theorem dX6_append_141 : decode cX6_append 141 = .ok (.iload 6, 2) := by decide +kernel
theorem dX6_append_143 : decode cX6_append 143 = .ok (.invokevirtual 41, 3) := by decide +kernel
theorem dX6_append_146 : decode cX6_append 146 = .ok (.iload_n 1, 1) := by decide +kernel
theorem dX6_append_147 : decode cX6_append 147 = .ok (.iload 4, 2) := by decide +kernel
theorem dX6_append_149 : decode cX6_append 149 = .ok (.iload 5, 2) := by decide +kernel
theorem dX6_append_151 : decode cX6_append 151 = .ok (.invokevirtual 105, 3) := by decide +kernel
theorem dX6_append_154 : decode cX6_append 154 = .ok (.iinc 6 1, 3) := by decide +kernel
theorem dX6_append_157 : decode cX6_append 157 = .ok (.goto (-39), 3) := by decide +kernel
theorem dX6_append_160 : decode cX6_append 160 = .ok (.iload 4, 2) := by decide +kernel
theorem dX6_append_162 : decode cX6_append 162 = .ok (.ireturn, 1) := by decide +kernel
theorem dX6_replace_0 : decode cX6_replace 0 = .ok (.aload_n 0, 1) := by decide +kernel
theorem dX6_replace_1 : decode cX6_replace 1 = .ok (.iload_n 1, 1) := by decide +kernel
theorem dX6_replace_2 : decode cX6_replace 2 = .ok (.invokevirtual 95, 3) := by decide +kernel
theorem dX6_replace_5 : decode cX6_replace 5 = .ok (.ifCond .eq 23, 3) := by decide +kernel
theorem dX6_replace_8 : decode cX6_replace 8 = .ok (.iload_n 2, 1) := by decide +kernel
theorem dX6_replace_9 : decode cX6_replace 9 = .ok (.iconst 0, 1) := by decide +kernel
theorem dX6_replace_10 : decode cX6_replace 10 = .ok (.aload_n 0, 1) := by decide +kernel
theorem dX6_replace_11 : decode cX6_replace 11 = .ok (.iload_n 1, 1) := by decide +kernel
theorem dX6_replace_12 : decode cX6_replace 12 = .ok (.iconst 0, 1) := by decide +kernel
theorem dX6_replace_13 : decode cX6_replace 13 = .ok (.invokevirtual 31, 3) := by decide +kernel
theorem dX6_replace_16 : decode cX6_replace 16 = .ok (.iconst 1, 1) := by decide +kernel
theorem dX6_replace_17 : decode cX6_replace 17 = .ok (.isub, 1) := by decide +kernel
theorem dX6_replace_18 : decode cX6_replace 18 = .ok (.invokestatic 23, 3) := by decide +kernel
theorem dX6_replace_21 : decode cX6_replace 21 = .ok (.ifCond .eq 7, 3) := by decide +kernel
theorem dX6_replace_24 : decode cX6_replace 24 = .ok (.iconst 1, 1) := by decide +kernel
theorem dX6_replace_25 : decode cX6_replace 25 = .ok (.goto 4, 3) := by decide +kernel
theorem dX6_replace_28 : decode cX6_replace 28 = .ok (.iconst 0, 1) := by decide +kernel
theorem dX6_replace_29 : decode cX6_replace 29 = .ok (.istore_n 3, 1) := by decide +kernel
theorem dX6_replace_30 : decode cX6_replace 30 = .ok (.iload_n 3, 1) := by decide +kernel
theorem dX6_replace_31 : decode cX6_replace 31 = .ok (.ifCond .eq 15, 3) := by decide +kernel
theorem dX6_replace_34 : decode cX6_replace 34 = .ok (.aload_n 0, 1) := by decide +kernel
theorem dX6_replace_35 : decode cX6_replace 35 = .ok (.iload_n 1, 1) := by decide +kernel
theorem dX6_replace_36 : decode cX6_replace 36 = .ok (.bipush 6, 2) := by decide +kernel
theorem dX6_replace_38 : decode cX6_replace 38 = .ok (.invokevirtual 31, 3) := by decide +kernel
theorem dX6_replace_41 : decode cX6_replace 41 = .ok (.iconst 1, 1) := by decide +kernel
theorem dX6_replace_42 : decode cX6_replace 42 = .ok (.isub, 1) := by decide +kernel
theorem dX6_replace_43 : decode cX6_replace 43 = .ok (.goto 4, 3) := by decide +kernel
theorem dX6_replace_46 : decode cX6_replace 46 = .ok (.iconst 0, 1) := by decide +kernel
theorem dX6_replace_47 : decode cX6_replace 47 = .ok (.istore 4, 2) := by decide +kernel
theorem dX6_replace_49 : decode cX6_replace 49 = .ok (.iload_n 3, 1) := by decide +kernel
theorem dX6_replace_50 : decode cX6_replace 50 = .ok (.ifCond .eq 17, 3) := by decide +kernel
theorem dX6_replace_53 : decode cX6_replace 53 = .ok (.aload_n 0, 1) := by decide +kernel
theorem dX6_replace_54 : decode cX6_replace 54 = .ok (.aload_n 0, 1) := by decide +kernel
theorem dX6_replace_55 : decode cX6_replace 55 = .ok (.iload_n 1, 1) := by decide +kernel
theorem dX6_replace_56 : decode cX6_replace 56 = .ok (.iload 4, 2) := by decide +kernel
theorem dX6_replace_58 : decode cX6_replace 58 = .ok (.invokevirtual 109, 3) := by decide +kernel
theorem dX6_replace_61 : decode cX6_replace 61 = .ok (.invokevirtual 102, 3) := by decide +kernel
theorem dX6_replace_64 : decode cX6_replace 64 = .ok (.goto 4, 3) := by decide +kernel
theorem dX6_replace_67 : decode cX6_replace 67 = .ok (.iconst (-1), 1) := by decide +kernel
theorem dX6_replace_68 : decode cX6_replace 68 = .ok (.istore 5, 2) := by decide +kernel
theorem dX6_replace_70 : decode cX6_replace 70 = .ok (.aload_n 0, 1) := by decide +kernel
theorem dX6_replace_71 : decode cX6_replace 71 = .ok (.iload_n 3, 1) := by decide +kernel
theorem dX6_replace_72 : decode cX6_replace 72 = .ok (.iload_n 3, 1) := by decide +kernel
theorem dX6_replace_73 : decode cX6_replace 73 = .ok (.ifCond .eq 22, 3) := by decide +kernel
theorem dX6_replace_76 : decode cX6_replace 76 = .ok (.aload_n 0, 1) := by decide +kernel
theorem dX6_replace_77 : decode cX6_replace 77 = .ok (.iload_n 1, 1) := by decide +kernel
theorem dX6_replace_78 : decode cX6_replace 78 = .ok (.iconst 3, 1) := by decide +kernel
theorem dX6_replace_79 : decode cX6_replace 79 = .ok (.invokevirtual 31, 3) := by decide +kernel
theorem dX6_replace_82 : decode cX6_replace 82 = .ok (.ifCond .ne 13, 3) := by decide +kernel
theorem dX6_replace_85 : decode cX6_replace 85 = .ok (.iload 5, 2) := by decide +kernel
theorem dX6_replace_87 : decode cX6_replace 87 = .ok (.iconst (-1), 1) := by decide +kernel
theorem dX6_replace_88 : decode cX6_replace 88 = .ok (.if_icmp .eq 7, 3) := by decide +kernel
theorem dX6_replace_91 : decode cX6_replace 91 = .ok (.iconst 1, 1) := by decide +kernel
theorem dX6_replace_92 : decode cX6_replace 92 = .ok (.goto 4, 3) := by decide +kernel
theorem dX6_replace_95 : decode cX6_replace 95 = .ok (.iconst 0, 1) := by decide +kernel
theorem dX6_replace_96 : decode cX6_replace 96 = .ok (.invokevirtual 69, 3) := by decide +kernel
theorem dX6_replace_99 : decode cX6_replace 99 = .ok (.ifCond .ne 5, 3) := by decide +kernel
theorem dX6_replace_102 : decode cX6_replace 102 = .ok (.iconst 0, 1) := by decide +kernel
theorem dX6_replace_103 : decode cX6_replace 103 = .ok (.ireturn, 1) := by decide +kernel
theorem dX6_replace_104 : decode cX6_replace 104 = .ok (.aload_n 0, 1) := by decide +kernel
theorem dX6_replace_105 : decode cX6_replace 105 = .ok (.invokevirtual 63, 3) := by decide +kernel
theorem dX6_replace_108 : decode cX6_replace 108 = .ok (.aload_n 0, 1) := by decide +kernel
theorem dX6_replace_109 : decode cX6_replace 109 = .ok (.iload_n 1, 1) := by decide +kernel
theorem dX6_replace_110 : decode cX6_replace 110 = .ok (.invokevirtual 60, 3) := by decide +kernel
theorem dX6_replace_113 : decode cX6_replace 113 = .ok (.istore 6, 2) := by decide +kernel
theorem dX6_replace_115 : decode cX6_replace 115 = .ok (.iload 6, 2) := by decide +kernel
theorem dX6_replace_117 : decode cX6_replace 117 = .ok (.iconst 1, 1) := by decide +kernel
theorem dX6_replace_118 : decode cX6_replace 118 = .ok (.iadd, 1) := by decide +kernel
theorem dX6_replace_119 : decode cX6_replace 119 = .ok (.istore 7, 2) := by decide +kernel
theorem dX6_replace_121 : decode cX6_replace 121 = .ok (.aload_n 0, 1) := by decide +kernel
theorem dX6_replace_122 : decode cX6_replace 122 = .ok (.iload_n 1, 1) := by decide +kernel
theorem dX6_replace_123 : decode cX6_replace 123 = .ok (.iload 4, 2) := by decide +kernel
theorem dX6_replace_125 : decode cX6_replace 125 = .ok (.iload_n 2, 1) := by decide +kernel
theorem dX6_replace_126 : decode cX6_replace 126 = .ok (.invokevirtual 35, 3) := by decide +kernel
theorem dX6_replace_129 : decode cX6_replace 129 = .ok (.istore 8, 2) := by decide +kernel
theorem dX6_replace_131 : decode cX6_replace 131 = .ok (.aload_n 0, 1) := by decide +kernel
theorem dX6_replace_132 : decode cX6_replace 132 = .ok (.iload_n 1, 1) := by decide +kernel
theorem dX6_replace_133 : decode cX6_replace 133 = .ok (.bipush 87, 2) := by decide +kernel
theorem dX6_replace_135 : decode cX6_replace 135 = .ok (.iload 4, 2) := by decide +kernel
theorem dX6_replace_137 : decode cX6_replace 137 = .ok (.iadd, 1) := by decide +kernel
theorem dX6_replace_138 : decode cX6_replace 138 = .ok (.invokevirtual 31, 3) := by decide +kernel
theorem dX6_replace_141 : decode cX6_replace 141 = .ok (.iload 7, 2) := by decide +kernel
theorem dX6_replace_143 : decode cX6_replace 143 = .ok (.if_icmp .eq 71, 3) := by decide +kernel
theorem dX6_replace_146 : decode cX6_replace 146 = .ok (.iconst 0, 1) := by decide +kernel
theorem dX6_replace_147 : decode cX6_replace 147 = .ok (.istore 9, 2) := by decide +kernel
theorem dX6_replace_149 : decode cX6_replace 149 = .ok (.iload 9, 2) := by decide +kernel
theorem dX6_replace_151 : decode cX6_replace 151 = .ok (.iconst 5, 1) := by decide +kernel
theorem dX6_replace_152 : decode cX6_replace 152 = .ok (.if_icmp .ge 36, 3) := by decide +kernel
theorem dX6_replace_155 : decode cX6_replace 155 = .ok (.aload_n 0, 1) := by decide +kernel
theorem dX6_replace_156 : decode cX6_replace 156 = .ok (.iload_n 1, 1) := by decide +kernel
theorem dX6_replace_157 : decode cX6_replace 157 = .ok (.sipush 128, 3) := by decide +kernel
theorem dX6_replace_160 : decode cX6_replace 160 = .ok (.iconst 5, 1) := by decide +kernel
theorem dX6_replace_161 : decode cX6_replace 161 = .ok (.iload 4, 2) := by decide +kernel
theorem dX6_replace_163 : decode cX6_replace 163 = .ok (.iconst 1, 1) := by decide +kernel
theorem dX6_replace_164 : decode cX6_replace 164 = .ok (.iadd, 1) := by decide +kernel
theorem dX6_replace_165 : decode cX6_replace 165 = .ok (.imul, 1) := by decide +kernel
theorem dX6_replace_166 : decode cX6_replace 166 = .ok (.iadd, 1) := by decide +kernel
theorem dX6_replace_167 : decode cX6_replace 167 = .ok (.iload 9, 2) := by decide +kernel
theorem dX6_replace_169 : decode cX6_replace 169 = .ok (.iadd, 1) := by decide +kernel
theorem dX6_replace_170 : decode cX6_replace 170 = .ok (.aload_n 0, 1) := by decide +kernel
theorem dX6_replace_171 : decode cX6_replace 171 = .ok (.iload_n 1, 1) := by decide +kernel
theorem dX6_replace_172 : decode cX6_replace 172 = .ok (.iload 4, 2) := by decide +kernel
theorem dX6_replace_174 : decode cX6_replace 174 = .ok (.iload 9, 2) := by decide +kernel
theorem dX6_replace_176 : decode cX6_replace 176 = .ok (.invokevirtual 35, 3) := by decide +kernel
theorem dX6_replace_179 : decode cX6_replace 179 = .ok (.invokevirtual 84, 3) := by decide +kernel
theorem dX6_replace_182 : decode cX6_replace 182 = .ok (.iinc 9 1, 3) := by decide +kernel
theorem dX6_replace_185 : decode cX6_replace 185 = .ok (.goto (-36), 3) := by decide +kernel
theorem dX6_replace_188 : decode cX6_replace 188 = .ok (.iinc 4 1, 3) := by decide +kernel
theorem dX6_replace_191 : decode cX6_replace 191 = .ok (.aload_n 0, 1) := by decide +kernel
theorem dX6_replace_192 : decode cX6_replace 192 = .ok (.iload_n 1, 1) := by decide +kernel
theorem dX6_replace_193 : decode cX6_replace 193 = .ok (.bipush 87, 2) := by decide +kernel
theorem dX6_replace_195 : decode cX6_replace 195 = .ok (.iload 4, 2) := by decide +kernel
theorem dX6_replace_197 : decode cX6_replace 197 = .ok (.iadd, 1) := by decide +kernel
theorem dX6_replace_198 : decode cX6_replace 198 = .ok (.iload 7, 2) := by decide +kernel
theorem dX6_replace_200 : decode cX6_replace 200 = .ok (.invokevirtual 84, 3) := by decide +kernel
theorem dX6_replace_203 : decode cX6_replace 203 = .ok (.aload_n 0, 1) := by decide +kernel
theorem dX6_replace_204 : decode cX6_replace 204 = .ok (.iload_n 1, 1) := by decide +kernel
theorem dX6_replace_205 : decode cX6_replace 205 = .ok (.bipush 6, 2) := by decide +kernel
theorem dX6_replace_207 : decode cX6_replace 207 = .ok (.iload 4, 2) := by decide +kernel
theorem dX6_replace_209 : decode cX6_replace 209 = .ok (.iconst 1, 1) := by decide +kernel
theorem dX6_replace_210 : decode cX6_replace 210 = .ok (.iadd, 1) := by decide +kernel
theorem dX6_replace_211 : decode cX6_replace 211 = .ok (.invokevirtual 84, 3) := by decide +kernel
theorem dX6_replace_214 : decode cX6_replace 214 = .ok (.aload_n 0, 1) := by decide +kernel
theorem dX6_replace_215 : decode cX6_replace 215 = .ok (.iload_n 1, 1) := by decide +kernel
theorem dX6_replace_216 : decode cX6_replace 216 = .ok (.sipush 128, 3) := by decide +kernel
theorem dX6_replace_219 : decode cX6_replace 219 = .ok (.iconst 5, 1) := by decide +kernel
theorem dX6_replace_220 : decode cX6_replace 220 = .ok (.iload 4, 2) := by decide +kernel
theorem dX6_replace_222 : decode cX6_replace 222 = .ok (.imul, 1) := by decide +kernel
theorem dX6_replace_223 : decode cX6_replace 223 = .ok (.iadd, 1) := by decide +kernel
theorem dX6_replace_224 : decode cX6_replace 224 = .ok (.iload_n 2, 1) := by decide +kernel
theorem dX6_replace_225 : decode cX6_replace 225 = .ok (.iadd, 1) := by decide +kernel
theorem dX6_replace_226 : decode cX6_replace 226 = .ok (.iload 5, 2) := by decide +kernel
theorem dX6_replace_228 : decode cX6_replace 228 = .ok (.invokevirtual 84, 3) := by decide +kernel
theorem dX6_replace_231 : decode cX6_replace 231 = .ok (.iload 7, 2) := by decide +kernel
theorem dX6_replace_233 : decode cX6_replace 233 = .ok (.istore 9, 2) := by decide +kernel
theorem dX6_replace_235 : decode cX6_replace 235 = .ok (.iload 9, 2) := by decide +kernel
theorem dX6_replace_237 : decode cX6_replace 237 = .ok (.aload_n 0, 1) := by decide +kernel
theorem dX6_replace_238 : decode cX6_replace 238 = .ok (.iload_n 1, 1) := by decide +kernel
theorem dX6_replace_239 : decode cX6_replace 239 = .ok (.iconst 4, 1) := by decide +kernel
theorem dX6_replace_240 : decode cX6_replace 240 = .ok (.invokevirtual 31, 3) := by decide +kernel
theorem dX6_replace_243 : decode cX6_replace 243 = .ok (.if_icmp .ge 36, 3) := by decide +kernel
theorem dX6_replace_246 : decode cX6_replace 246 = .ok (.aload_n 0, 1) := by decide +kernel
theorem dX6_replace_247 : decode cX6_replace 247 = .ok (.iload_n 1, 1) := by decide +kernel
theorem dX6_replace_248 : decode cX6_replace 248 = .ok (.bipush 47, 2) := by decide +kernel
theorem dX6_replace_250 : decode cX6_replace 250 = .ok (.iload 9, 2) := by decide +kernel
theorem dX6_replace_252 : decode cX6_replace 252 = .ok (.iadd, 1) := by decide +kernel
theorem dX6_replace_253 : decode cX6_replace 253 = .ok (.aload_n 0, 1) := by decide +kernel
theorem dX6_replace_254 : decode cX6_replace 254 = .ok (.iload_n 1, 1) := by decide +kernel
theorem dX6_replace_255 : decode cX6_replace 255 = .ok (.bipush 47, 2) := by decide +kernel
theorem dX6_replace_257 : decode cX6_replace 257 = .ok (.iload 9, 2) := by decide +kernel
theorem dX6_replace_259 : decode cX6_replace 259 = .ok (.iadd, 1) := by decide +kernel
theorem dX6_replace_260 : decode cX6_replace 260 = .ok (.invokevirtual 31, 3) := by decide +kernel
theorem dX6_replace_263 : decode cX6_replace 263 = .ok (.iconst 1, 1) := by decide +kernel
theorem dX6_replace_264 : decode cX6_replace 264 = .ok (.iload 8, 2) := by decide +kernel
theorem dX6_replace_266 : decode cX6_replace 266 = .ok (.ishl, 1) := by decide +kernel
theorem dX6_replace_267 : decode cX6_replace 267 = .ok (.iconst (-1), 1) := by decide +kernel
theorem dX6_replace_268 : decode cX6_replace 268 = .ok (.ixor, 1) := by decide +kernel
theorem dX6_replace_269 : decode cX6_replace 269 = .ok (.iand, 1) := by decide +kernel
theorem dX6_replace_270 : decode cX6_replace 270 = .ok (.invokevirtual 84, 3) := by decide +kernel
theorem dX6_replace_273 : decode cX6_replace 273 = .ok (.iinc 9 1, 3) := by decide +kernel
theorem dX6_replace_276 : decode cX6_replace 276 = .ok (.goto (-41), 3) := by decide +kernel
theorem dX6_replace_279 : decode cX6_replace 279 = .ok (.iload 7, 2) := by decide +kernel
theorem dX6_replace_281 : decode cX6_replace 281 = .ok (.istore 9, 2) := by decide +kernel
theorem dX6_replace_283 : decode cX6_replace 283 = .ok (.iload 9, 2) := by decide +kernel
theorem dX6_replace_285 : decode cX6_replace 285 = .ok (.aload_n 0, 1) := by decide +kernel
theorem dX6_replace_286 : decode cX6_replace 286 = .ok (.iload_n 1, 1) := by decide +kernel
theorem dX6_replace_287 : decode cX6_replace 287 = .ok (.iconst 4, 1) := by decide +kernel
theorem dX6_replace_288 : decode cX6_replace 288 = .ok (.invokevirtual 31, 3) := by decide +kernel
theorem dX6_replace_291 : decode cX6_replace 291 = .ok (.if_icmp .ge 32, 3) := by decide +kernel
theorem dX6_replace_294 : decode cX6_replace 294 = .ok (.aload_n 0, 1) := by decide +kernel
theorem dX6_replace_295 : decode cX6_replace 295 = .ok (.iload_n 1, 1) := by decide +kernel
theorem dX6_replace_296 : decode cX6_replace 296 = .ok (.iload 9, 2) := by decide +kernel
theorem dX6_replace_298 : decode cX6_replace 298 = .ok (.iload 5, 2) := by decide +kernel
theorem dX6_replace_300 : decode cX6_replace 300 = .ok (.invokevirtual 81, 3) := by decide +kernel
theorem dX6_replace_303 : decode cX6_replace 303 = .ok (.ifCond .eq 14, 3) := by decide +kernel
theorem dX6_replace_306 : decode cX6_replace 306 = .ok (.aload_n 0, 1) := by decide +kernel
theorem dX6_replace_307 : decode cX6_replace 307 = .ok (.iload 5, 2) := by decide +kernel
theorem dX6_replace_309 : decode cX6_replace 309 = .ok (.iload_n 1, 1) := by decide +kernel
theorem dX6_replace_310 : decode cX6_replace 310 = .ok (.iload 9, 2) := by decide +kernel
theorem dX6_replace_312 : decode cX6_replace 312 = .ok (.iload 6, 2) := by decide +kernel
theorem dX6_replace_314 : decode cX6_replace 314 = .ok (.invokevirtual 105, 3) := by decide +kernel
theorem dX6_replace_317 : decode cX6_replace 317 = .ok (.iinc 9 1, 3) := by decide +kernel
theorem dX6_replace_320 : decode cX6_replace 320 = .ok (.goto (-37), 3) := by decide +kernel
theorem dX6_replace_323 : decode cX6_replace 323 = .ok (.iload 5, 2) := by decide +kernel
theorem dX6_replace_325 : decode cX6_replace 325 = .ok (.ireturn, 1) := by decide +kernel
theorem dX6_isUndecided_0 : decode cX6_isUndecided 0 = .ok (.iconst 0, 1) := by decide +kernel
theorem dX6_isUndecided_1 : decode cX6_isUndecided 1 = .ok (.istore_n 3, 1) := by decide +kernel
theorem dX6_isUndecided_2 : decode cX6_isUndecided 2 = .ok (.iconst 0, 1) := by decide +kernel
theorem dX6_isUndecided_3 : decode cX6_isUndecided 3 = .ok (.istore 4, 2) := by decide +kernel
theorem dX6_isUndecided_5 : decode cX6_isUndecided 5 = .ok (.iload 4, 2) := by decide +kernel
theorem dX6_isUndecided_7 : decode cX6_isUndecided 7 = .ok (.aload_n 0, 1) := by decide +kernel
theorem dX6_isUndecided_8 : decode cX6_isUndecided 8 = .ok (.iload_n 1, 1) := by decide +kernel
theorem dX6_isUndecided_9 : decode cX6_isUndecided 9 = .ok (.iconst 0, 1) := by decide +kernel
theorem dX6_isUndecided_10 : decode cX6_isUndecided 10 = .ok (.invokevirtual 31, 3) := by decide +kernel
theorem dX6_isUndecided_13 : decode cX6_isUndecided 13 = .ok (.if_icmp .ge 80, 3) := by decide +kernel
theorem dX6_isUndecided_16 : decode cX6_isUndecided 16 = .ok (.iconst 0, 1) := by decide +kernel
theorem dX6_isUndecided_17 : decode cX6_isUndecided 17 = .ok (.istore 5, 2) := by decide +kernel
theorem dX6_isUndecided_19 : decode cX6_isUndecided 19 = .ok (.iconst 0, 1) := by decide +kernel
theorem dX6_isUndecided_20 : decode cX6_isUndecided 20 = .ok (.istore 6, 2) := by decide +kernel
theorem dX6_isUndecided_22 : decode cX6_isUndecided 22 = .ok (.iload 6, 2) := by decide +kernel
theorem dX6_isUndecided_24 : decode cX6_isUndecided 24 = .ok (.aload_n 0, 1) := by decide +kernel
theorem dX6_isUndecided_25 : decode cX6_isUndecided 25 = .ok (.iload_n 1, 1) := by decide +kernel
theorem dX6_isUndecided_26 : decode cX6_isUndecided 26 = .ok (.iconst 1, 1) := by decide +kernel
theorem dX6_isUndecided_27 : decode cX6_isUndecided 27 = .ok (.invokevirtual 31, 3) := by decide +kernel
theorem dX6_isUndecided_30 : decode cX6_isUndecided 30 = .ok (.if_icmp .ge 36, 3) := by decide +kernel
theorem dX6_isUndecided_33 : decode cX6_isUndecided 33 = .ok (.iload 5, 2) := by decide +kernel
theorem dX6_isUndecided_35 : decode cX6_isUndecided 35 = .ok (.aload_n 0, 1) := by decide +kernel
theorem dX6_isUndecided_36 : decode cX6_isUndecided 36 = .ok (.aload_n 0, 1) := by decide +kernel
theorem dX6_isUndecided_37 : decode cX6_isUndecided 37 = .ok (.iload_n 1, 1) := by decide +kernel
theorem dX6_isUndecided_38 : decode cX6_isUndecided 38 = .ok (.iload_n 2, 1) := by decide +kernel
theorem dX6_isUndecided_39 : decode cX6_isUndecided 39 = .ok (.iload 4, 2) := by decide +kernel
theorem dX6_isUndecided_41 : decode cX6_isUndecided 41 = .ok (.iload 6, 2) := by decide +kernel
theorem dX6_isUndecided_43 : decode cX6_isUndecided 43 = .ok (.invokevirtual 41, 3) := by decide +kernel
theorem dX6_isUndecided_46 : decode cX6_isUndecided 46 = .ok (.invokevirtual 45, 3) := by decide +kernel
theorem dX6_isUndecided_49 : decode cX6_isUndecided 49 = .ok (.ifCond .eq 7, 3) := by decide +kernel
theorem dX6_isUndecided_52 : decode cX6_isUndecided 52 = .ok (.iconst 0, 1) := by decide +kernel
theorem dX6_isUndecided_53 : decode cX6_isUndecided 53 = .ok (.goto 4, 3) := by decide +kernel
theorem dX6_isUndecided_56 : decode cX6_isUndecided 56 = .ok (.iconst 1, 1) := by decide +kernel
theorem dX6_isUndecided_57 : decode cX6_isUndecided 57 = .ok (.iadd, 1) := by decide +kernel
theorem dX6_isUndecided_58 : decode cX6_isUndecided 58 = .ok (.istore 5, 2) := by decide +kernel
theorem dX6_isUndecided_60 : decode cX6_isUndecided 60 = .ok (.iinc 6 1, 3) := by decide +kernel
theorem dX6_isUndecided_63 : decode cX6_isUndecided 63 = .ok (.goto (-41), 3) := by decide +kernel
theorem dX6_isUndecided_66 : decode cX6_isUndecided 66 = .ok (.iload_n 3, 1) := by decide +kernel
theorem dX6_isUndecided_67 : decode cX6_isUndecided 67 = .ok (.ifCond .ne 14, 3) := by decide +kernel
theorem dX6_isUndecided_70 : decode cX6_isUndecided 70 = .ok (.iload 5, 2) := by decide +kernel
theorem dX6_isUndecided_72 : decode cX6_isUndecided 72 = .ok (.aload_n 0, 1) := by decide +kernel
theorem dX6_isUndecided_73 : decode cX6_isUndecided 73 = .ok (.iload_n 1, 1) := by decide +kernel
theorem dX6_isUndecided_74 : decode cX6_isUndecided 74 = .ok (.iconst 2, 1) := by decide +kernel
theorem dX6_isUndecided_75 : decode cX6_isUndecided 75 = .ok (.invokevirtual 31, 3) := by decide +kernel
theorem dX6_isUndecided_78 : decode cX6_isUndecided 78 = .ok (.if_icmp .lt 7, 3) := by decide +kernel
theorem dX6_isUndecided_81 : decode cX6_isUndecided 81 = .ok (.iconst 1, 1) := by decide +kernel
theorem dX6_isUndecided_82 : decode cX6_isUndecided 82 = .ok (.goto 4, 3) := by decide +kernel
theorem dX6_isUndecided_85 : decode cX6_isUndecided 85 = .ok (.iconst 0, 1) := by decide +kernel
theorem dX6_isUndecided_86 : decode cX6_isUndecided 86 = .ok (.istore_n 3, 1) := by decide +kernel
theorem dX6_isUndecided_87 : decode cX6_isUndecided 87 = .ok (.iinc 4 1, 3) := by decide +kernel
theorem dX6_isUndecided_90 : decode cX6_isUndecided 90 = .ok (.goto (-85), 3) := by decide +kernel
theorem dX6_isUndecided_93 : decode cX6_isUndecided 93 = .ok (.iload_n 3, 1) := by decide +kernel
theorem dX6_isUndecided_94 : decode cX6_isUndecided 94 = .ok (.ireturn, 1) := by decide +kernel
theorem dX6_storedConfirmed_0 : decode cX6_storedConfirmed 0 = .ok (.aload_n 0, 1) := by decide +kernel
theorem dX6_storedConfirmed_1 : decode cX6_storedConfirmed 1 = .ok (.iload_n 1, 1) := by decide +kernel
theorem dX6_storedConfirmed_2 : decode cX6_storedConfirmed 2 = .ok (.bipush 87, 2) := by decide +kernel
theorem dX6_storedConfirmed_4 : decode cX6_storedConfirmed 4 = .ok (.iload_n 2, 1) := by decide +kernel
theorem dX6_storedConfirmed_5 : decode cX6_storedConfirmed 5 = .ok (.iadd, 1) := by decide +kernel
theorem dX6_storedConfirmed_6 : decode cX6_storedConfirmed 6 = .ok (.invokevirtual 31, 3) := by decide +kernel
theorem dX6_storedConfirmed_9 : decode cX6_storedConfirmed 9 = .ok (.iconst 1, 1) := by decide +kernel
theorem dX6_storedConfirmed_10 : decode cX6_storedConfirmed 10 = .ok (.isub, 1) := by decide +kernel
theorem dX6_storedConfirmed_11 : decode cX6_storedConfirmed 11 = .ok (.istore_n 3, 1) := by decide +kernel
theorem dX6_storedConfirmed_12 : decode cX6_storedConfirmed 12 = .ok (.iconst 0, 1) := by decide +kernel
theorem dX6_storedConfirmed_13 : decode cX6_storedConfirmed 13 = .ok (.istore 4, 2) := by decide +kernel
theorem dX6_storedConfirmed_15 : decode cX6_storedConfirmed 15 = .ok (.iload 4, 2) := by decide +kernel
theorem dX6_storedConfirmed_17 : decode cX6_storedConfirmed 17 = .ok (.aload_n 0, 1) := by decide +kernel
theorem dX6_storedConfirmed_18 : decode cX6_storedConfirmed 18 = .ok (.iload_n 1, 1) := by decide +kernel
theorem dX6_storedConfirmed_19 : decode cX6_storedConfirmed 19 = .ok (.iconst 0, 1) := by decide +kernel
theorem dX6_storedConfirmed_20 : decode cX6_storedConfirmed 20 = .ok (.invokevirtual 31, 3) := by decide +kernel
theorem dX6_storedConfirmed_23 : decode cX6_storedConfirmed 23 = .ok (.if_icmp .ge 84, 3) := by decide +kernel
theorem dX6_storedConfirmed_26 : decode cX6_storedConfirmed 26 = .ok (.aload_n 0, 1) := by decide +kernel
theorem dX6_storedConfirmed_27 : decode cX6_storedConfirmed 27 = .ok (.iload_n 1, 1) := by decide +kernel
theorem dX6_storedConfirmed_28 : decode cX6_storedConfirmed 28 = .ok (.iload_n 2, 1) := by decide +kernel
theorem dX6_storedConfirmed_29 : decode cX6_storedConfirmed 29 = .ok (.iload 4, 2) := by decide +kernel
theorem dX6_storedConfirmed_31 : decode cX6_storedConfirmed 31 = .ok (.invokevirtual 35, 3) := by decide +kernel
theorem dX6_storedConfirmed_34 : decode cX6_storedConfirmed 34 = .ok (.istore 5, 2) := by decide +kernel
theorem dX6_storedConfirmed_36 : decode cX6_storedConfirmed 36 = .ok (.iconst 0, 1) := by decide +kernel
theorem dX6_storedConfirmed_37 : decode cX6_storedConfirmed 37 = .ok (.istore 6, 2) := by decide +kernel
theorem dX6_storedConfirmed_39 : decode cX6_storedConfirmed 39 = .ok (.iload 6, 2) := by decide +kernel
theorem dX6_storedConfirmed_41 : decode cX6_storedConfirmed 41 = .ok (.bipush 40, 2) := by decide +kernel
theorem dX6_storedConfirmed_43 : decode cX6_storedConfirmed 43 = .ok (.if_icmp .ge 58, 3) := by decide +kernel
theorem dX6_storedConfirmed_46 : decode cX6_storedConfirmed 46 = .ok (.aload_n 0, 1) := by decide +kernel
theorem dX6_storedConfirmed_47 : decode cX6_storedConfirmed 47 = .ok (.iload 5, 2) := by decide +kernel
theorem dX6_storedConfirmed_49 : decode cX6_storedConfirmed 49 = .ok (.invokevirtual 45, 3) := by decide +kernel
theorem dX6_storedConfirmed_52 : decode cX6_storedConfirmed 52 = .ok (.ifCond .eq 27, 3) := by decide +kernel
theorem dX6_storedConfirmed_55 : decode cX6_storedConfirmed 55 = .ok (.aload_n 0, 1) := by decide +kernel
theorem dX6_storedConfirmed_56 : decode cX6_storedConfirmed 56 = .ok (.iload 5, 2) := by decide +kernel
theorem dX6_storedConfirmed_58 : decode cX6_storedConfirmed 58 = .ok (.iload_n 1, 1) := by decide +kernel
theorem dX6_storedConfirmed_59 : decode cX6_storedConfirmed 59 = .ok (.iload 6, 2) := by decide +kernel
theorem dX6_storedConfirmed_61 : decode cX6_storedConfirmed 61 = .ok (.invokevirtual 112, 3) := by decide +kernel
theorem dX6_storedConfirmed_64 : decode cX6_storedConfirmed 64 = .ok (.ifCond .eq 15, 3) := by decide +kernel
theorem dX6_storedConfirmed_67 : decode cX6_storedConfirmed 67 = .ok (.aload_n 0, 1) := by decide +kernel
theorem dX6_storedConfirmed_68 : decode cX6_storedConfirmed 68 = .ok (.iload 5, 2) := by decide +kernel
theorem dX6_storedConfirmed_70 : decode cX6_storedConfirmed 70 = .ok (.iload_n 1, 1) := by decide +kernel
theorem dX6_storedConfirmed_71 : decode cX6_storedConfirmed 71 = .ok (.iload 6, 2) := by decide +kernel
theorem dX6_storedConfirmed_73 : decode cX6_storedConfirmed 73 = .ok (.invokevirtual 115, 3) := by decide +kernel
theorem dX6_storedConfirmed_76 : decode cX6_storedConfirmed 76 = .ok (.goto 4, 3) := by decide +kernel
theorem dX6_storedConfirmed_79 : decode cX6_storedConfirmed 79 = .ok (.iconst (-1), 1) := by decide +kernel
theorem dX6_storedConfirmed_80 : decode cX6_storedConfirmed 80 = .ok (.istore 7, 2) := by decide +kernel
theorem dX6_storedConfirmed_82 : decode cX6_storedConfirmed 82 = .ok (.iload 7, 2) := by decide +kernel
theorem dX6_storedConfirmed_84 : decode cX6_storedConfirmed 84 = .ok (.iload_n 3, 1) := by decide +kernel
theorem dX6_storedConfirmed_85 : decode cX6_storedConfirmed 85 = .ok (.if_icmp .le 8, 3) := by decide +kernel
theorem dX6_storedConfirmed_88 : decode cX6_storedConfirmed 88 = .ok (.iload 7, 2) := by decide +kernel
theorem dX6_storedConfirmed_90 : decode cX6_storedConfirmed 90 = .ok (.goto 4, 3) := by decide +kernel
theorem dX6_storedConfirmed_93 : decode cX6_storedConfirmed 93 = .ok (.iload_n 3, 1) := by decide +kernel
theorem dX6_storedConfirmed_94 : decode cX6_storedConfirmed 94 = .ok (.istore_n 3, 1) := by decide +kernel
theorem dX6_storedConfirmed_95 : decode cX6_storedConfirmed 95 = .ok (.iinc 6 1, 3) := by decide +kernel
theorem dX6_storedConfirmed_98 : decode cX6_storedConfirmed 98 = .ok (.goto (-59), 3) := by decide +kernel
theorem dX6_storedConfirmed_101 : decode cX6_storedConfirmed 101 = .ok (.iinc 4 1, 3) := by decide +kernel
theorem dX6_storedConfirmed_104 : decode cX6_storedConfirmed 104 = .ok (.goto (-89), 3) := by decide +kernel
theorem dX6_storedConfirmed_107 : decode cX6_storedConfirmed 107 = .ok (.iload_n 3, 1) := by decide +kernel
theorem dX6_storedConfirmed_108 : decode cX6_storedConfirmed 108 = .ok (.ireturn, 1) := by decide +kernel
theorem dX6_source_0 : decode cX6_source 0 = .ok (.aload_n 0, 1) := by decide +kernel
theorem dX6_source_1 : decode cX6_source 1 = .ok (.iload_n 1, 1) := by decide +kernel
theorem dX6_source_2 : decode cX6_source 2 = .ok (.iload_n 2, 1) := by decide +kernel
theorem dX6_source_3 : decode cX6_source 3 = .ok (.invokevirtual 38, 3) := by decide +kernel
theorem dX6_source_6 : decode cX6_source 6 = .ok (.istore_n 3, 1) := by decide +kernel
theorem dX6_source_7 : decode cX6_source 7 = .ok (.iconst 0, 1) := by decide +kernel
theorem dX6_source_8 : decode cX6_source 8 = .ok (.istore 4, 2) := by decide +kernel
theorem dX6_source_10 : decode cX6_source 10 = .ok (.iload 4, 2) := by decide +kernel
theorem dX6_source_12 : decode cX6_source 12 = .ok (.aload_n 0, 1) := by decide +kernel
theorem dX6_source_13 : decode cX6_source 13 = .ok (.iload_n 1, 1) := by decide +kernel
theorem dX6_source_14 : decode cX6_source 14 = .ok (.iconst 1, 1) := by decide +kernel
theorem dX6_source_15 : decode cX6_source 15 = .ok (.invokevirtual 31, 3) := by decide +kernel
theorem dX6_source_18 : decode cX6_source 18 = .ok (.if_icmp .ge 43, 3) := by decide +kernel
theorem dX6_source_21 : decode cX6_source 21 = .ok (.aload_n 0, 1) := by decide +kernel
theorem dX6_source_22 : decode cX6_source 22 = .ok (.iload_n 1, 1) := by decide +kernel
theorem dX6_source_23 : decode cX6_source 23 = .ok (.iload_n 3, 1) := by decide +kernel
theorem dX6_source_24 : decode cX6_source 24 = .ok (.iload_n 2, 1) := by decide +kernel
theorem dX6_source_25 : decode cX6_source 25 = .ok (.iload 4, 2) := by decide +kernel
theorem dX6_source_27 : decode cX6_source 27 = .ok (.invokevirtual 41, 3) := by decide +kernel
theorem dX6_source_30 : decode cX6_source 30 = .ok (.istore 5, 2) := by decide +kernel
theorem dX6_source_32 : decode cX6_source 32 = .ok (.aload_n 0, 1) := by decide +kernel
theorem dX6_source_33 : decode cX6_source 33 = .ok (.iload 5, 2) := by decide +kernel
theorem dX6_source_35 : decode cX6_source 35 = .ok (.invokevirtual 45, 3) := by decide +kernel
theorem dX6_source_38 : decode cX6_source 38 = .ok (.ifCond .eq 17, 3) := by decide +kernel
theorem dX6_source_41 : decode cX6_source 41 = .ok (.aload_n 0, 1) := by decide +kernel
theorem dX6_source_42 : decode cX6_source 42 = .ok (.iload 5, 2) := by decide +kernel
theorem dX6_source_44 : decode cX6_source 44 = .ok (.iload_n 1, 1) := by decide +kernel
theorem dX6_source_45 : decode cX6_source 45 = .ok (.iload_n 2, 1) := by decide +kernel
theorem dX6_source_46 : decode cX6_source 46 = .ok (.invokevirtual 112, 3) := by decide +kernel
theorem dX6_source_49 : decode cX6_source 49 = .ok (.ifCond .eq 6, 3) := by decide +kernel
theorem dX6_source_52 : decode cX6_source 52 = .ok (.iload 5, 2) := by decide +kernel
theorem dX6_source_54 : decode cX6_source 54 = .ok (.ireturn, 1) := by decide +kernel
theorem dX6_source_55 : decode cX6_source 55 = .ok (.iinc 4 1, 3) := by decide +kernel
theorem dX6_source_58 : decode cX6_source 58 = .ok (.goto (-48), 3) := by decide +kernel
theorem dX6_source_61 : decode cX6_source 61 = .ok (.iconst (-1), 1) := by decide +kernel
theorem dX6_source_62 : decode cX6_source 62 = .ok (.ireturn, 1) := by decide +kernel
theorem dX6_recoverEntry_0 : decode cX6_recoverEntry 0 = .ok (.aload_n 0, 1) := by decide +kernel
theorem dX6_recoverEntry_1 : decode cX6_recoverEntry 1 = .ok (.iload_n 1, 1) := by decide +kernel
theorem dX6_recoverEntry_2 : decode cX6_recoverEntry 2 = .ok (.iload_n 2, 1) := by decide +kernel
theorem dX6_recoverEntry_3 : decode cX6_recoverEntry 3 = .ok (.invokevirtual 38, 3) := by decide +kernel
theorem dX6_recoverEntry_6 : decode cX6_recoverEntry 6 = .ok (.istore 4, 2) := by decide +kernel
theorem dX6_recoverEntry_8 : decode cX6_recoverEntry 8 = .ok (.iconst 0, 1) := by decide +kernel
theorem dX6_recoverEntry_9 : decode cX6_recoverEntry 9 = .ok (.istore 5, 2) := by decide +kernel
theorem dX6_recoverEntry_11 : decode cX6_recoverEntry 11 = .ok (.iload 5, 2) := by decide +kernel
theorem dX6_recoverEntry_13 : decode cX6_recoverEntry 13 = .ok (.aload_n 0, 1) := by decide +kernel
theorem dX6_recoverEntry_14 : decode cX6_recoverEntry 14 = .ok (.iload_n 1, 1) := by decide +kernel
theorem dX6_recoverEntry_15 : decode cX6_recoverEntry 15 = .ok (.iconst 1, 1) := by decide +kernel
theorem dX6_recoverEntry_16 : decode cX6_recoverEntry 16 = .ok (.invokevirtual 31, 3) := by decide +kernel
theorem dX6_recoverEntry_19 : decode cX6_recoverEntry 19 = .ok (.if_icmp .ge 53, 3) := by decide +kernel
theorem dX6_recoverEntry_22 : decode cX6_recoverEntry 22 = .ok (.aload_n 0, 1) := by decide +kernel
theorem dX6_recoverEntry_23 : decode cX6_recoverEntry 23 = .ok (.iload_n 1, 1) := by decide +kernel
theorem dX6_recoverEntry_24 : decode cX6_recoverEntry 24 = .ok (.iload 4, 2) := by decide +kernel
theorem dX6_recoverEntry_26 : decode cX6_recoverEntry 26 = .ok (.iload_n 2, 1) := by decide +kernel
theorem dX6_recoverEntry_27 : decode cX6_recoverEntry 27 = .ok (.iload 5, 2) := by decide +kernel
theorem dX6_recoverEntry_29 : decode cX6_recoverEntry 29 = .ok (.invokevirtual 41, 3) := by decide +kernel
theorem dX6_recoverEntry_32 : decode cX6_recoverEntry 32 = .ok (.istore 6, 2) := by decide +kernel
theorem dX6_recoverEntry_34 : decode cX6_recoverEntry 34 = .ok (.aload_n 0, 1) := by decide +kernel
theorem dX6_recoverEntry_35 : decode cX6_recoverEntry 35 = .ok (.iload 6, 2) := by decide +kernel
theorem dX6_recoverEntry_37 : decode cX6_recoverEntry 37 = .ok (.invokevirtual 45, 3) := by decide +kernel
theorem dX6_recoverEntry_40 : decode cX6_recoverEntry 40 = .ok (.ifCond .eq 26, 3) := by decide +kernel
theorem dX6_recoverEntry_43 : decode cX6_recoverEntry 43 = .ok (.aload_n 0, 1) := by decide +kernel
theorem dX6_recoverEntry_44 : decode cX6_recoverEntry 44 = .ok (.iload 6, 2) := by decide +kernel
theorem dX6_recoverEntry_46 : decode cX6_recoverEntry 46 = .ok (.iload_n 1, 1) := by decide +kernel
theorem dX6_recoverEntry_47 : decode cX6_recoverEntry 47 = .ok (.iload_n 2, 1) := by decide +kernel
theorem dX6_recoverEntry_48 : decode cX6_recoverEntry 48 = .ok (.invokevirtual 112, 3) := by decide +kernel
theorem dX6_recoverEntry_51 : decode cX6_recoverEntry 51 = .ok (.ifCond .ne 15, 3) := by decide +kernel
theorem dX6_recoverEntry_54 : decode cX6_recoverEntry 54 = .ok (.aload_n 0, 1) := by decide +kernel
theorem dX6_recoverEntry_55 : decode cX6_recoverEntry 55 = .ok (.iload 6, 2) := by decide +kernel
theorem dX6_recoverEntry_57 : decode cX6_recoverEntry 57 = .ok (.iload_n 1, 1) := by decide +kernel
theorem dX6_recoverEntry_58 : decode cX6_recoverEntry 58 = .ok (.iload_n 2, 1) := by decide +kernel
theorem dX6_recoverEntry_59 : decode cX6_recoverEntry 59 = .ok (.iload_n 3, 1) := by decide +kernel
theorem dX6_recoverEntry_60 : decode cX6_recoverEntry 60 = .ok (.iload_n 2, 1) := by decide +kernel
theorem dX6_recoverEntry_61 : decode cX6_recoverEntry 61 = .ok (.iconst 1, 1) := by decide +kernel
theorem dX6_recoverEntry_62 : decode cX6_recoverEntry 62 = .ok (.isub, 1) := by decide +kernel
theorem dX6_recoverEntry_63 : decode cX6_recoverEntry 63 = .ok (.invokevirtual 77, 3) := by decide +kernel
theorem dX6_recoverEntry_66 : decode cX6_recoverEntry 66 = .ok (.iinc 5 1, 3) := by decide +kernel
theorem dX6_recoverEntry_69 : decode cX6_recoverEntry 69 = .ok (.goto (-58), 3) := by decide +kernel
theorem dX6_recoverEntry_72 : decode cX6_recoverEntry 72 = .ok (.return_, 1) := by decide +kernel
theorem dX6_recover_0 : decode cX6_recover 0 = .ok (.aload_n 0, 1) := by decide +kernel
theorem dX6_recover_1 : decode cX6_recover 1 = .ok (.aload_n 0, 1) := by decide +kernel
theorem dX6_recover_2 : decode cX6_recover 2 = .ok (.iload_n 1, 1) := by decide +kernel
theorem dX6_recover_3 : decode cX6_recover 3 = .ok (.invokevirtual 95, 3) := by decide +kernel
theorem dX6_recover_6 : decode cX6_recover 6 = .ok (.aload_n 0, 1) := by decide +kernel
theorem dX6_recover_7 : decode cX6_recover 7 = .ok (.iload_n 1, 1) := by decide +kernel
theorem dX6_recover_8 : decode cX6_recover 8 = .ok (.invokevirtual 95, 3) := by decide +kernel
theorem dX6_recover_11 : decode cX6_recover 11 = .ok (.ifCond .eq 17, 3) := by decide +kernel
theorem dX6_recover_14 : decode cX6_recover 14 = .ok (.aload_n 0, 1) := by decide +kernel
theorem dX6_recover_15 : decode cX6_recover 15 = .ok (.iload_n 1, 1) := by decide +kernel
theorem dX6_recover_16 : decode cX6_recover 16 = .ok (.iconst 3, 1) := by decide +kernel
theorem dX6_recover_17 : decode cX6_recover 17 = .ok (.invokevirtual 31, 3) := by decide +kernel
theorem dX6_recover_20 : decode cX6_recover 20 = .ok (.iconst 2, 1) := by decide +kernel
theorem dX6_recover_21 : decode cX6_recover 21 = .ok (.if_icmp .eq 7, 3) := by decide +kernel
theorem dX6_recover_24 : decode cX6_recover 24 = .ok (.iconst 1, 1) := by decide +kernel
theorem dX6_recover_25 : decode cX6_recover 25 = .ok (.goto 4, 3) := by decide +kernel
theorem dX6_recover_28 : decode cX6_recover 28 = .ok (.iconst 0, 1) := by decide +kernel
theorem dX6_recover_29 : decode cX6_recover 29 = .ok (.invokevirtual 69, 3) := by decide +kernel
theorem dX6_recover_32 : decode cX6_recover 32 = .ok (.ifCond .ne 5, 3) := by decide +kernel
theorem dX6_recover_35 : decode cX6_recover 35 = .ok (.iconst 0, 1) := by decide +kernel
theorem dX6_recover_36 : decode cX6_recover 36 = .ok (.ireturn, 1) := by decide +kernel
theorem dX6_recover_37 : decode cX6_recover 37 = .ok (.aload_n 0, 1) := by decide +kernel
theorem dX6_recover_38 : decode cX6_recover 38 = .ok (.invokevirtual 63, 3) := by decide +kernel
theorem dX6_recover_41 : decode cX6_recover 41 = .ok (.aload_n 0, 1) := by decide +kernel
theorem dX6_recover_42 : decode cX6_recover 42 = .ok (.iload_n 1, 1) := by decide +kernel
theorem dX6_recover_43 : decode cX6_recover 43 = .ok (.iconst 3, 1) := by decide +kernel
theorem dX6_recover_44 : decode cX6_recover 44 = .ok (.iconst 1, 1) := by decide +kernel
theorem dX6_recover_45 : decode cX6_recover 45 = .ok (.invokevirtual 84, 3) := by decide +kernel
theorem dX6_recover_48 : decode cX6_recover 48 = .ok (.aload_n 0, 1) := by decide +kernel
theorem dX6_recover_49 : decode cX6_recover 49 = .ok (.iload_n 1, 1) := by decide +kernel
theorem dX6_recover_50 : decode cX6_recover 50 = .ok (.bipush 6, 2) := by decide +kernel
theorem dX6_recover_52 : decode cX6_recover 52 = .ok (.invokevirtual 31, 3) := by decide +kernel
theorem dX6_recover_55 : decode cX6_recover 55 = .ok (.iconst 1, 1) := by decide +kernel
theorem dX6_recover_56 : decode cX6_recover 56 = .ok (.isub, 1) := by decide +kernel
theorem dX6_recover_57 : decode cX6_recover 57 = .ok (.istore_n 2, 1) := by decide +kernel
theorem dX6_recover_58 : decode cX6_recover 58 = .ok (.iconst 0, 1) := by decide +kernel
theorem dX6_recover_59 : decode cX6_recover 59 = .ok (.istore_n 3, 1) := by decide +kernel
theorem dX6_recover_60 : decode cX6_recover 60 = .ok (.iload_n 3, 1) := by decide +kernel
theorem dX6_recover_61 : decode cX6_recover 61 = .ok (.aload_n 0, 1) := by decide +kernel
theorem dX6_recover_62 : decode cX6_recover 62 = .ok (.iload_n 1, 1) := by decide +kernel
theorem dX6_recover_63 : decode cX6_recover 63 = .ok (.iconst 0, 1) := by decide +kernel
theorem dX6_recover_64 : decode cX6_recover 64 = .ok (.invokevirtual 31, 3) := by decide +kernel
theorem dX6_recover_67 : decode cX6_recover 67 = .ok (.if_icmp .ge 45, 3) := by decide +kernel
theorem dX6_recover_70 : decode cX6_recover 70 = .ok (.aload_n 0, 1) := by decide +kernel
theorem dX6_recover_71 : decode cX6_recover 71 = .ok (.iload_n 1, 1) := by decide +kernel
theorem dX6_recover_72 : decode cX6_recover 72 = .ok (.iload_n 2, 1) := by decide +kernel
theorem dX6_recover_73 : decode cX6_recover 73 = .ok (.iload_n 3, 1) := by decide +kernel
theorem dX6_recover_74 : decode cX6_recover 74 = .ok (.invokevirtual 35, 3) := by decide +kernel
theorem dX6_recover_77 : decode cX6_recover 77 = .ok (.istore 4, 2) := by decide +kernel
theorem dX6_recover_79 : decode cX6_recover 79 = .ok (.aload_n 0, 1) := by decide +kernel
theorem dX6_recover_80 : decode cX6_recover 80 = .ok (.getfield 7, 3) := by decide +kernel
theorem dX6_recover_83 : decode cX6_recover 83 = .ok (.sipush 2099, 3) := by decide +kernel
theorem dX6_recover_86 : decode cX6_recover 86 = .ok (.iconst 4, 1) := by decide +kernel
theorem dX6_recover_87 : decode cX6_recover 87 = .ok (.iload 4, 2) := by decide +kernel
theorem dX6_recover_89 : decode cX6_recover 89 = .ok (.imul, 1) := by decide +kernel
theorem dX6_recover_90 : decode cX6_recover 90 = .ok (.iadd, 1) := by decide +kernel
theorem dX6_recover_91 : decode cX6_recover 91 = .ok (.iload_n 1, 1) := by decide +kernel
theorem dX6_recover_92 : decode cX6_recover 92 = .ok (.iadd, 1) := by decide +kernel
theorem dX6_recover_93 : decode cX6_recover 93 = .ok (.dup2, 1) := by decide +kernel
theorem dX6_recover_94 : decode cX6_recover 94 = .ok (.iaload, 1) := by decide +kernel
theorem dX6_recover_95 : decode cX6_recover 95 = .ok (.aload_n 0, 1) := by decide +kernel
theorem dX6_recover_96 : decode cX6_recover 96 = .ok (.getfield 7, 3) := by decide +kernel
theorem dX6_recover_99 : decode cX6_recover 99 = .ok (.iconst 3, 1) := by decide +kernel
theorem dX6_recover_100 : decode cX6_recover 100 = .ok (.iload 4, 2) := by decide +kernel
theorem dX6_recover_102 : decode cX6_recover 102 = .ok (.iadd, 1) := by decide +kernel
theorem dX6_recover_103 : decode cX6_recover 103 = .ok (.iaload, 1) := by decide +kernel
theorem dX6_recover_104 : decode cX6_recover 104 = .ok (.ior, 1) := by decide +kernel
theorem dX6_recover_105 : decode cX6_recover 105 = .ok (.iastore, 1) := by decide +kernel
theorem dX6_recover_106 : decode cX6_recover 106 = .ok (.iinc 3 1, 3) := by decide +kernel
theorem dX6_recover_109 : decode cX6_recover 109 = .ok (.goto (-49), 3) := by decide +kernel
theorem dX6_recover_112 : decode cX6_recover 112 = .ok (.aload_n 0, 1) := by decide +kernel
theorem dX6_recover_113 : decode cX6_recover 113 = .ok (.iload_n 1, 1) := by decide +kernel
theorem dX6_recover_114 : decode cX6_recover 114 = .ok (.iload_n 2, 1) := by decide +kernel
theorem dX6_recover_115 : decode cX6_recover 115 = .ok (.invokevirtual 118, 3) := by decide +kernel
theorem dX6_recover_118 : decode cX6_recover 118 = .ok (.ifCond .eq 6, 3) := by decide +kernel
theorem dX6_recover_121 : decode cX6_recover 121 = .ok (.bipush (-2), 2) := by decide +kernel
theorem dX6_recover_123 : decode cX6_recover 123 = .ok (.ireturn, 1) := by decide +kernel
theorem dX6_recover_124 : decode cX6_recover 124 = .ok (.aload_n 0, 1) := by decide +kernel
theorem dX6_recover_125 : decode cX6_recover 125 = .ok (.iload_n 1, 1) := by decide +kernel
theorem dX6_recover_126 : decode cX6_recover 126 = .ok (.iload_n 2, 1) := by decide +kernel
theorem dX6_recover_127 : decode cX6_recover 127 = .ok (.invokevirtual 121, 3) := by decide +kernel
theorem dX6_recover_130 : decode cX6_recover 130 = .ok (.iconst 1, 1) := by decide +kernel
theorem dX6_recover_131 : decode cX6_recover 131 = .ok (.iadd, 1) := by decide +kernel
theorem dX6_recover_132 : decode cX6_recover 132 = .ok (.istore_n 3, 1) := by decide +kernel
theorem dX6_recover_133 : decode cX6_recover 133 = .ok (.iload_n 3, 1) := by decide +kernel
theorem dX6_recover_134 : decode cX6_recover 134 = .ok (.bipush 40, 2) := by decide +kernel
theorem dX6_recover_136 : decode cX6_recover 136 = .ok (.if_icmp .ge 12, 3) := by decide +kernel
theorem dX6_recover_139 : decode cX6_recover 139 = .ok (.aload_n 0, 1) := by decide +kernel
theorem dX6_recover_140 : decode cX6_recover 140 = .ok (.iload_n 1, 1) := by decide +kernel
theorem dX6_recover_141 : decode cX6_recover 141 = .ok (.iload_n 3, 1) := by decide +kernel
theorem dX6_recover_142 : decode cX6_recover 142 = .ok (.invokevirtual 124, 3) := by decide +kernel
theorem dX6_recover_145 : decode cX6_recover 145 = .ok (.goto 4, 3) := by decide +kernel
theorem dX6_recover_148 : decode cX6_recover 148 = .ok (.iconst (-1), 1) := by decide +kernel
theorem dX6_recover_149 : decode cX6_recover 149 = .ok (.istore 4, 2) := by decide +kernel
theorem dX6_recover_151 : decode cX6_recover 151 = .ok (.iload 4, 2) := by decide +kernel
theorem dX6_recover_153 : decode cX6_recover 153 = .ok (.iconst (-1), 1) := by decide +kernel
theorem dX6_recover_154 : decode cX6_recover 154 = .ok (.if_icmp .eq 41, 3) := by decide +kernel
theorem dX6_recover_157 : decode cX6_recover 157 = .ok (.aload_n 0, 1) := by decide +kernel
theorem dX6_recover_158 : decode cX6_recover 158 = .ok (.iload_n 1, 1) := by decide +kernel
theorem dX6_recover_159 : decode cX6_recover 159 = .ok (.iload_n 3, 1) := by decide +kernel
theorem dX6_recover_160 : decode cX6_recover 160 = .ok (.aload_n 0, 1) := by decide +kernel
theorem dX6_recover_161 : decode cX6_recover 161 = .ok (.iload 4, 2) := by decide +kernel
theorem dX6_recover_163 : decode cX6_recover 163 = .ok (.iload_n 1, 1) := by decide +kernel
theorem dX6_recover_164 : decode cX6_recover 164 = .ok (.iload_n 3, 1) := by decide +kernel
theorem dX6_recover_165 : decode cX6_recover 165 = .ok (.invokevirtual 127, 3) := by decide +kernel
theorem dX6_recover_168 : decode cX6_recover 168 = .ok (.invokevirtual 130, 3) := by decide +kernel
theorem dX6_recover_171 : decode cX6_recover 171 = .ok (.iinc 3 1, 3) := by decide +kernel
theorem dX6_recover_174 : decode cX6_recover 174 = .ok (.iload_n 3, 1) := by decide +kernel
theorem dX6_recover_175 : decode cX6_recover 175 = .ok (.bipush 40, 2) := by decide +kernel
theorem dX6_recover_177 : decode cX6_recover 177 = .ok (.if_icmp .ge 12, 3) := by decide +kernel
theorem dX6_recover_180 : decode cX6_recover 180 = .ok (.aload_n 0, 1) := by decide +kernel
theorem dX6_recover_181 : decode cX6_recover 181 = .ok (.iload_n 1, 1) := by decide +kernel
theorem dX6_recover_182 : decode cX6_recover 182 = .ok (.iload_n 3, 1) := by decide +kernel
theorem dX6_recover_183 : decode cX6_recover 183 = .ok (.invokevirtual 124, 3) := by decide +kernel
theorem dX6_recover_186 : decode cX6_recover 186 = .ok (.goto 4, 3) := by decide +kernel
theorem dX6_recover_189 : decode cX6_recover 189 = .ok (.iconst (-1), 1) := by decide +kernel
theorem dX6_recover_190 : decode cX6_recover 190 = .ok (.istore 4, 2) := by decide +kernel
theorem dX6_recover_192 : decode cX6_recover 192 = .ok (.goto (-41), 3) := by decide +kernel
theorem dX6_recover_195 : decode cX6_recover 195 = .ok (.aload_n 0, 1) := by decide +kernel
theorem dX6_recover_196 : decode cX6_recover 196 = .ok (.iload_n 1, 1) := by decide +kernel
theorem dX6_recover_197 : decode cX6_recover 197 = .ok (.iconst 3, 1) := by decide +kernel
theorem dX6_recover_198 : decode cX6_recover 198 = .ok (.iconst 2, 1) := by decide +kernel
theorem dX6_recover_199 : decode cX6_recover 199 = .ok (.invokevirtual 84, 3) := by decide +kernel
theorem dX6_recover_202 : decode cX6_recover 202 = .ok (.aload_n 0, 1) := by decide +kernel
theorem dX6_recover_203 : decode cX6_recover 203 = .ok (.iload_n 1, 1) := by decide +kernel
theorem dX6_recover_204 : decode cX6_recover 204 = .ok (.iconst 5, 1) := by decide +kernel
theorem dX6_recover_205 : decode cX6_recover 205 = .ok (.iload_n 3, 1) := by decide +kernel
theorem dX6_recover_206 : decode cX6_recover 206 = .ok (.iconst 1, 1) := by decide +kernel
theorem dX6_recover_207 : decode cX6_recover 207 = .ok (.isub, 1) := by decide +kernel
theorem dX6_recover_208 : decode cX6_recover 208 = .ok (.invokevirtual 84, 3) := by decide +kernel
theorem dX6_recover_211 : decode cX6_recover 211 = .ok (.iload_n 3, 1) := by decide +kernel
theorem dX6_recover_212 : decode cX6_recover 212 = .ok (.iconst 1, 1) := by decide +kernel
theorem dX6_recover_213 : decode cX6_recover 213 = .ok (.isub, 1) := by decide +kernel
theorem dX6_recover_214 : decode cX6_recover 214 = .ok (.ireturn, 1) := by decide +kernel
theorem dX6_replaceDowns_0 : decode cX6_replaceDowns 0 = .ok (.iconst 0, 1) := by decide +kernel
theorem dX6_replaceDowns_1 : decode cX6_replaceDowns 1 = .ok (.istore_n 2, 1) := by decide +kernel
theorem dX6_replaceDowns_2 : decode cX6_replaceDowns 2 = .ok (.iload_n 2, 1) := by decide +kernel
theorem dX6_replaceDowns_3 : decode cX6_replaceDowns 3 = .ok (.aload_n 0, 1) := by decide +kernel
theorem dX6_replaceDowns_4 : decode cX6_replaceDowns 4 = .ok (.iload_n 1, 1) := by decide +kernel
theorem dX6_replaceDowns_5 : decode cX6_replaceDowns 5 = .ok (.bipush 6, 2) := by decide +kernel
theorem dX6_replaceDowns_7 : decode cX6_replaceDowns 7 = .ok (.invokevirtual 31, 3) := by decide +kernel
theorem dX6_replaceDowns_10 : decode cX6_replaceDowns 10 = .ok (.if_icmp .ge 79, 3) := by decide +kernel
theorem dX6_replaceDowns_13 : decode cX6_replaceDowns 13 = .ok (.iconst 0, 1) := by decide +kernel
theorem dX6_replaceDowns_14 : decode cX6_replaceDowns 14 = .ok (.istore_n 3, 1) := by decide +kernel
theorem dX6_replaceDowns_15 : decode cX6_replaceDowns 15 = .ok (.iload_n 3, 1) := by decide +kernel
theorem dX6_replaceDowns_16 : decode cX6_replaceDowns 16 = .ok (.aload_n 0, 1) := by decide +kernel
theorem dX6_replaceDowns_17 : decode cX6_replaceDowns 17 = .ok (.iload_n 1, 1) := by decide +kernel
theorem dX6_replaceDowns_18 : decode cX6_replaceDowns 18 = .ok (.iconst 0, 1) := by decide +kernel
theorem dX6_replaceDowns_19 : decode cX6_replaceDowns 19 = .ok (.invokevirtual 31, 3) := by decide +kernel
theorem dX6_replaceDowns_22 : decode cX6_replaceDowns 22 = .ok (.if_icmp .ge 61, 3) := by decide +kernel
theorem dX6_replaceDowns_25 : decode cX6_replaceDowns 25 = .ok (.aload_n 0, 1) := by decide +kernel
theorem dX6_replaceDowns_26 : decode cX6_replaceDowns 26 = .ok (.aload_n 0, 1) := by decide +kernel
theorem dX6_replaceDowns_27 : decode cX6_replaceDowns 27 = .ok (.iload_n 1, 1) := by decide +kernel
theorem dX6_replaceDowns_28 : decode cX6_replaceDowns 28 = .ok (.iload_n 2, 1) := by decide +kernel
theorem dX6_replaceDowns_29 : decode cX6_replaceDowns 29 = .ok (.iload_n 3, 1) := by decide +kernel
theorem dX6_replaceDowns_30 : decode cX6_replaceDowns 30 = .ok (.invokevirtual 35, 3) := by decide +kernel
theorem dX6_replaceDowns_33 : decode cX6_replaceDowns 33 = .ok (.invokevirtual 45, 3) := by decide +kernel
theorem dX6_replaceDowns_36 : decode cX6_replaceDowns 36 = .ok (.ifCond .eq 7, 3) := by decide +kernel
theorem dX6_replaceDowns_39 : decode cX6_replaceDowns 39 = .ok (.iconst (-1), 1) := by decide +kernel
theorem dX6_replaceDowns_40 : decode cX6_replaceDowns 40 = .ok (.goto 13, 3) := by decide +kernel
theorem dX6_replaceDowns_43 : decode cX6_replaceDowns 43 = .ok (.aload_n 0, 1) := by decide +kernel
theorem dX6_replaceDowns_44 : decode cX6_replaceDowns 44 = .ok (.aload_n 0, 1) := by decide +kernel
theorem dX6_replaceDowns_45 : decode cX6_replaceDowns 45 = .ok (.iload_n 1, 1) := by decide +kernel
theorem dX6_replaceDowns_46 : decode cX6_replaceDowns 46 = .ok (.iload_n 2, 1) := by decide +kernel
theorem dX6_replaceDowns_47 : decode cX6_replaceDowns 47 = .ok (.invokevirtual 109, 3) := by decide +kernel
theorem dX6_replaceDowns_50 : decode cX6_replaceDowns 50 = .ok (.invokevirtual 102, 3) := by decide +kernel
theorem dX6_replaceDowns_53 : decode cX6_replaceDowns 53 = .ok (.istore 4, 2) := by decide +kernel
theorem dX6_replaceDowns_55 : decode cX6_replaceDowns 55 = .ok (.iload 4, 2) := by decide +kernel
theorem dX6_replaceDowns_57 : decode cX6_replaceDowns 57 = .ok (.iconst (-1), 1) := by decide +kernel
theorem dX6_replaceDowns_58 : decode cX6_replaceDowns 58 = .ok (.if_icmp .eq 19, 3) := by decide +kernel
theorem dX6_replaceDowns_61 : decode cX6_replaceDowns 61 = .ok (.aload_n 0, 1) := by decide +kernel
theorem dX6_replaceDowns_62 : decode cX6_replaceDowns 62 = .ok (.iload_n 1, 1) := by decide +kernel
theorem dX6_replaceDowns_63 : decode cX6_replaceDowns 63 = .ok (.sipush 128, 3) := by decide +kernel
theorem dX6_replaceDowns_66 : decode cX6_replaceDowns 66 = .ok (.iconst 5, 1) := by decide +kernel
theorem dX6_replaceDowns_67 : decode cX6_replaceDowns 67 = .ok (.iload_n 2, 1) := by decide +kernel
theorem dX6_replaceDowns_68 : decode cX6_replaceDowns 68 = .ok (.imul, 1) := by decide +kernel
theorem dX6_replaceDowns_69 : decode cX6_replaceDowns 69 = .ok (.iadd, 1) := by decide +kernel
theorem dX6_replaceDowns_70 : decode cX6_replaceDowns 70 = .ok (.iload_n 3, 1) := by decide +kernel
theorem dX6_replaceDowns_71 : decode cX6_replaceDowns 71 = .ok (.iadd, 1) := by decide +kernel
theorem dX6_replaceDowns_72 : decode cX6_replaceDowns 72 = .ok (.iload 4, 2) := by decide +kernel
theorem dX6_replaceDowns_74 : decode cX6_replaceDowns 74 = .ok (.invokevirtual 84, 3) := by decide +kernel
theorem dX6_replaceDowns_77 : decode cX6_replaceDowns 77 = .ok (.iinc 3 1, 3) := by decide +kernel
theorem dX6_replaceDowns_80 : decode cX6_replaceDowns 80 = .ok (.goto (-65), 3) := by decide +kernel
theorem dX6_replaceDowns_83 : decode cX6_replaceDowns 83 = .ok (.iinc 2 1, 3) := by decide +kernel
theorem dX6_replaceDowns_86 : decode cX6_replaceDowns 86 = .ok (.goto (-84), 3) := by decide +kernel
theorem dX6_replaceDowns_89 : decode cX6_replaceDowns 89 = .ok (.return_, 1) := by decide +kernel
theorem dX6_copies_0 : decode cX6_copies 0 = .ok (.iconst 0, 1) := by decide +kernel
theorem dX6_copies_1 : decode cX6_copies 1 = .ok (.istore_n 3, 1) := by decide +kernel
theorem dX6_copies_2 : decode cX6_copies 2 = .ok (.aload_n 0, 1) := by decide +kernel
theorem dX6_copies_3 : decode cX6_copies 3 = .ok (.iload_n 1, 1) := by decide +kernel
theorem dX6_copies_4 : decode cX6_copies 4 = .ok (.iload_n 2, 1) := by decide +kernel
theorem dX6_copies_5 : decode cX6_copies 5 = .ok (.invokevirtual 38, 3) := by decide +kernel
theorem dX6_copies_8 : decode cX6_copies 8 = .ok (.istore 4, 2) := by decide +kernel
theorem dX6_copies_10 : decode cX6_copies 10 = .ok (.iconst 0, 1) := by decide +kernel
theorem dX6_copies_11 : decode cX6_copies 11 = .ok (.istore 5, 2) := by decide +kernel
theorem dX6_copies_13 : decode cX6_copies 13 = .ok (.iload 5, 2) := by decide +kernel
theorem dX6_copies_15 : decode cX6_copies 15 = .ok (.aload_n 0, 1) := by decide +kernel
theorem dX6_copies_16 : decode cX6_copies 16 = .ok (.iload_n 1, 1) := by decide +kernel
theorem dX6_copies_17 : decode cX6_copies 17 = .ok (.iconst 1, 1) := by decide +kernel
theorem dX6_copies_18 : decode cX6_copies 18 = .ok (.invokevirtual 31, 3) := by decide +kernel
theorem dX6_copies_21 : decode cX6_copies 21 = .ok (.if_icmp .ge 82, 3) := by decide +kernel
theorem dX6_copies_24 : decode cX6_copies 24 = .ok (.aload_n 0, 1) := by decide +kernel
theorem dX6_copies_25 : decode cX6_copies 25 = .ok (.iload_n 1, 1) := by decide +kernel
theorem dX6_copies_26 : decode cX6_copies 26 = .ok (.iload 4, 2) := by decide +kernel
theorem dX6_copies_28 : decode cX6_copies 28 = .ok (.iload_n 2, 1) := by decide +kernel
theorem dX6_copies_29 : decode cX6_copies 29 = .ok (.iload 5, 2) := by decide +kernel
theorem dX6_copies_31 : decode cX6_copies 31 = .ok (.invokevirtual 41, 3) := by decide +kernel
theorem dX6_copies_34 : decode cX6_copies 34 = .ok (.istore 6, 2) := by decide +kernel
theorem dX6_copies_36 : decode cX6_copies 36 = .ok (.aload_n 0, 1) := by decide +kernel
theorem dX6_copies_37 : decode cX6_copies 37 = .ok (.iload_n 1, 1) := by decide +kernel
theorem dX6_copies_38 : decode cX6_copies 38 = .ok (.iload_n 2, 1) := by decide +kernel
theorem dX6_copies_39 : decode cX6_copies 39 = .ok (.invokevirtual 124, 3) := by decide +kernel
theorem dX6_copies_42 : decode cX6_copies 42 = .ok (.istore 7, 2) := by decide +kernel
theorem dX6_copies_44 : decode cX6_copies 44 = .ok (.iload 7, 2) := by decide +kernel
theorem dX6_copies_46 : decode cX6_copies 46 = .ok (.iconst (-1), 1) := by decide +kernel
theorem dX6_copies_47 : decode cX6_copies 47 = .ok (.if_icmp .eq 50, 3) := by decide +kernel
theorem dX6_copies_50 : decode cX6_copies 50 = .ok (.aload_n 0, 1) := by decide +kernel
theorem dX6_copies_51 : decode cX6_copies 51 = .ok (.iload 6, 2) := by decide +kernel
theorem dX6_copies_53 : decode cX6_copies 53 = .ok (.invokevirtual 45, 3) := by decide +kernel
theorem dX6_copies_56 : decode cX6_copies 56 = .ok (.ifCond .eq 41, 3) := by decide +kernel
theorem dX6_copies_59 : decode cX6_copies 59 = .ok (.aload_n 0, 1) := by decide +kernel
theorem dX6_copies_60 : decode cX6_copies 60 = .ok (.iload 6, 2) := by decide +kernel
theorem dX6_copies_62 : decode cX6_copies 62 = .ok (.iload_n 1, 1) := by decide +kernel
theorem dX6_copies_63 : decode cX6_copies 63 = .ok (.iload_n 2, 1) := by decide +kernel
theorem dX6_copies_64 : decode cX6_copies 64 = .ok (.invokevirtual 112, 3) := by decide +kernel
theorem dX6_copies_67 : decode cX6_copies 67 = .ok (.ifCond .ne 30, 3) := by decide +kernel
theorem dX6_copies_70 : decode cX6_copies 70 = .ok (.aload_n 0, 1) := by decide +kernel
theorem dX6_copies_71 : decode cX6_copies 71 = .ok (.iload 6, 2) := by decide +kernel
theorem dX6_copies_73 : decode cX6_copies 73 = .ok (.iload_n 1, 1) := by decide +kernel
theorem dX6_copies_74 : decode cX6_copies 74 = .ok (.iload_n 2, 1) := by decide +kernel
theorem dX6_copies_75 : decode cX6_copies 75 = .ok (.aload_n 0, 1) := by decide +kernel
theorem dX6_copies_76 : decode cX6_copies 76 = .ok (.iload 7, 2) := by decide +kernel
theorem dX6_copies_78 : decode cX6_copies 78 = .ok (.iload_n 1, 1) := by decide +kernel
theorem dX6_copies_79 : decode cX6_copies 79 = .ok (.iload_n 2, 1) := by decide +kernel
theorem dX6_copies_80 : decode cX6_copies 80 = .ok (.invokevirtual 127, 3) := by decide +kernel
theorem dX6_copies_83 : decode cX6_copies 83 = .ok (.aload_n 0, 1) := by decide +kernel
theorem dX6_copies_84 : decode cX6_copies 84 = .ok (.iload 7, 2) := by decide +kernel
theorem dX6_copies_86 : decode cX6_copies 86 = .ok (.iload_n 1, 1) := by decide +kernel
theorem dX6_copies_87 : decode cX6_copies 87 = .ok (.iload_n 2, 1) := by decide +kernel
theorem dX6_copies_88 : decode cX6_copies 88 = .ok (.invokevirtual 115, 3) := by decide +kernel
theorem dX6_copies_91 : decode cX6_copies 91 = .ok (.invokevirtual 77, 3) := by decide +kernel
theorem dX6_copies_94 : decode cX6_copies 94 = .ok (.iinc 3 1, 3) := by decide +kernel
theorem dX6_copies_97 : decode cX6_copies 97 = .ok (.iinc 5 1, 3) := by decide +kernel
theorem dX6_copies_100 : decode cX6_copies 100 = .ok (.goto (-87), 3) := by decide +kernel
theorem dX6_copies_103 : decode cX6_copies 103 = .ok (.iload_n 3, 1) := by decide +kernel
theorem dX6_copies_104 : decode cX6_copies 104 = .ok (.ireturn, 1) := by decide +kernel
theorem dX6_repair_0 : decode cX6_repair 0 = .ok (.aload_n 0, 1) := by decide +kernel
theorem dX6_repair_1 : decode cX6_repair 1 = .ok (.aload_n 0, 1) := by decide +kernel
theorem dX6_repair_2 : decode cX6_repair 2 = .ok (.iload_n 1, 1) := by decide +kernel
theorem dX6_repair_3 : decode cX6_repair 3 = .ok (.invokevirtual 95, 3) := by decide +kernel
theorem dX6_repair_6 : decode cX6_repair 6 = .ok (.aload_n 0, 1) := by decide +kernel
theorem dX6_repair_7 : decode cX6_repair 7 = .ok (.iload_n 1, 1) := by decide +kernel
theorem dX6_repair_8 : decode cX6_repair 8 = .ok (.invokevirtual 95, 3) := by decide +kernel
theorem dX6_repair_11 : decode cX6_repair 11 = .ok (.ifCond .eq 17, 3) := by decide +kernel
theorem dX6_repair_14 : decode cX6_repair 14 = .ok (.aload_n 0, 1) := by decide +kernel
theorem dX6_repair_15 : decode cX6_repair 15 = .ok (.iload_n 1, 1) := by decide +kernel
theorem dX6_repair_16 : decode cX6_repair 16 = .ok (.iconst 3, 1) := by decide +kernel
theorem dX6_repair_17 : decode cX6_repair 17 = .ok (.invokevirtual 31, 3) := by decide +kernel
theorem dX6_repair_20 : decode cX6_repair 20 = .ok (.iconst 2, 1) := by decide +kernel
theorem dX6_repair_21 : decode cX6_repair 21 = .ok (.if_icmp .ne 7, 3) := by decide +kernel
theorem dX6_repair_24 : decode cX6_repair 24 = .ok (.iconst 1, 1) := by decide +kernel
theorem dX6_repair_25 : decode cX6_repair 25 = .ok (.goto 4, 3) := by decide +kernel
theorem dX6_repair_28 : decode cX6_repair 28 = .ok (.iconst 0, 1) := by decide +kernel
theorem dX6_repair_29 : decode cX6_repair 29 = .ok (.invokevirtual 69, 3) := by decide +kernel
theorem dX6_repair_32 : decode cX6_repair 32 = .ok (.ifCond .ne 5, 3) := by decide +kernel
theorem dX6_repair_35 : decode cX6_repair 35 = .ok (.iconst 0, 1) := by decide +kernel
theorem dX6_repair_36 : decode cX6_repair 36 = .ok (.ireturn, 1) := by decide +kernel
theorem dX6_repair_37 : decode cX6_repair 37 = .ok (.aload_n 0, 1) := by decide +kernel
theorem dX6_repair_38 : decode cX6_repair 38 = .ok (.invokevirtual 63, 3) := by decide +kernel
theorem dX6_repair_41 : decode cX6_repair 41 = .ok (.aload_n 0, 1) := by decide +kernel
theorem dX6_repair_42 : decode cX6_repair 42 = .ok (.iload_n 1, 1) := by decide +kernel
theorem dX6_repair_43 : decode cX6_repair 43 = .ok (.invokevirtual 133, 3) := by decide +kernel
theorem dX6_repair_46 : decode cX6_repair 46 = .ok (.iconst 0, 1) := by decide +kernel
theorem dX6_repair_47 : decode cX6_repair 47 = .ok (.istore_n 2, 1) := by decide +kernel
theorem dX6_repair_48 : decode cX6_repair 48 = .ok (.iconst 0, 1) := by decide +kernel
theorem dX6_repair_49 : decode cX6_repair 49 = .ok (.istore_n 3, 1) := by decide +kernel
theorem dX6_repair_50 : decode cX6_repair 50 = .ok (.iload_n 3, 1) := by decide +kernel
theorem dX6_repair_51 : decode cX6_repair 51 = .ok (.aload_n 0, 1) := by decide +kernel
theorem dX6_repair_52 : decode cX6_repair 52 = .ok (.iload_n 1, 1) := by decide +kernel
theorem dX6_repair_53 : decode cX6_repair 53 = .ok (.iconst 5, 1) := by decide +kernel
theorem dX6_repair_54 : decode cX6_repair 54 = .ok (.invokevirtual 31, 3) := by decide +kernel
theorem dX6_repair_57 : decode cX6_repair 57 = .ok (.if_icmp .gt 18, 3) := by decide +kernel
theorem dX6_repair_60 : decode cX6_repair 60 = .ok (.iload_n 2, 1) := by decide +kernel
theorem dX6_repair_61 : decode cX6_repair 61 = .ok (.aload_n 0, 1) := by decide +kernel
theorem dX6_repair_62 : decode cX6_repair 62 = .ok (.iload_n 1, 1) := by decide +kernel
theorem dX6_repair_63 : decode cX6_repair 63 = .ok (.iload_n 3, 1) := by decide +kernel
theorem dX6_repair_64 : decode cX6_repair 64 = .ok (.invokevirtual 136, 3) := by decide +kernel
theorem dX6_repair_67 : decode cX6_repair 67 = .ok (.iadd, 1) := by decide +kernel
theorem dX6_repair_68 : decode cX6_repair 68 = .ok (.istore_n 2, 1) := by decide +kernel
theorem dX6_repair_69 : decode cX6_repair 69 = .ok (.iinc 3 1, 3) := by decide +kernel
theorem dX6_repair_72 : decode cX6_repair 72 = .ok (.goto (-22), 3) := by decide +kernel
theorem dX6_repair_75 : decode cX6_repair 75 = .ok (.iload_n 2, 1) := by decide +kernel
theorem dX6_repair_76 : decode cX6_repair 76 = .ok (.ireturn, 1) := by decide +kernel
theorem dX6_read_0 : decode cX6_read 0 = .ok (.aload_n 0, 1) := by decide +kernel
theorem dX6_read_1 : decode cX6_read 1 = .ok (.iload_n 1, 1) := by decide +kernel
theorem dX6_read_2 : decode cX6_read 2 = .ok (.invokevirtual 95, 3) := by decide +kernel
theorem dX6_read_5 : decode cX6_read 5 = .ok (.ifCond .eq 11, 3) := by decide +kernel
theorem dX6_read_8 : decode cX6_read 8 = .ok (.iload_n 2, 1) := by decide +kernel
theorem dX6_read_9 : decode cX6_read 9 = .ok (.ifCond .lt 7, 3) := by decide +kernel
theorem dX6_read_12 : decode cX6_read 12 = .ok (.iconst 1, 1) := by decide +kernel
theorem dX6_read_13 : decode cX6_read 13 = .ok (.goto 4, 3) := by decide +kernel
theorem dX6_read_16 : decode cX6_read 16 = .ok (.iconst 0, 1) := by decide +kernel
theorem dX6_read_17 : decode cX6_read 17 = .ok (.istore_n 3, 1) := by decide +kernel
theorem dX6_read_18 : decode cX6_read 18 = .ok (.aload_n 0, 1) := by decide +kernel
theorem dX6_read_19 : decode cX6_read 19 = .ok (.iload_n 3, 1) := by decide +kernel
theorem dX6_read_20 : decode cX6_read 20 = .ok (.iload_n 3, 1) := by decide +kernel
theorem dX6_read_21 : decode cX6_read 21 = .ok (.ifCond .eq 16, 3) := by decide +kernel
theorem dX6_read_24 : decode cX6_read 24 = .ok (.iload_n 2, 1) := by decide +kernel
theorem dX6_read_25 : decode cX6_read 25 = .ok (.aload_n 0, 1) := by decide +kernel
theorem dX6_read_26 : decode cX6_read 26 = .ok (.iload_n 1, 1) := by decide +kernel
theorem dX6_read_27 : decode cX6_read 27 = .ok (.invokevirtual 139, 3) := by decide +kernel
theorem dX6_read_30 : decode cX6_read 30 = .ok (.if_icmp .gt 7, 3) := by decide +kernel
theorem dX6_read_33 : decode cX6_read 33 = .ok (.iconst 1, 1) := by decide +kernel
theorem dX6_read_34 : decode cX6_read 34 = .ok (.goto 4, 3) := by decide +kernel
theorem dX6_read_37 : decode cX6_read 37 = .ok (.iconst 0, 1) := by decide +kernel
theorem dX6_read_38 : decode cX6_read 38 = .ok (.invokevirtual 69, 3) := by decide +kernel
theorem dX6_read_41 : decode cX6_read 41 = .ok (.ifCond .ne 5, 3) := by decide +kernel
theorem dX6_read_44 : decode cX6_read 44 = .ok (.iconst 0, 1) := by decide +kernel
theorem dX6_read_45 : decode cX6_read 45 = .ok (.ireturn, 1) := by decide +kernel
theorem dX6_read_46 : decode cX6_read 46 = .ok (.aload_n 0, 1) := by decide +kernel
theorem dX6_read_47 : decode cX6_read 47 = .ok (.iload_n 1, 1) := by decide +kernel
theorem dX6_read_48 : decode cX6_read 48 = .ok (.iload_n 2, 1) := by decide +kernel
theorem dX6_read_49 : decode cX6_read 49 = .ok (.invokevirtual 124, 3) := by decide +kernel
theorem dX6_read_52 : decode cX6_read 52 = .ok (.istore 4, 2) := by decide +kernel
theorem dX6_read_54 : decode cX6_read 54 = .ok (.iload 4, 2) := by decide +kernel
theorem dX6_read_56 : decode cX6_read 56 = .ok (.iconst (-1), 1) := by decide +kernel
theorem dX6_read_57 : decode cX6_read 57 = .ok (.if_icmp .ne 7, 3) := by decide +kernel
theorem dX6_read_60 : decode cX6_read 60 = .ok (.iconst (-1), 1) := by decide +kernel
theorem dX6_read_61 : decode cX6_read 61 = .ok (.goto 11, 3) := by decide +kernel
theorem dX6_read_64 : decode cX6_read 64 = .ok (.aload_n 0, 1) := by decide +kernel
theorem dX6_read_65 : decode cX6_read 65 = .ok (.iload 4, 2) := by decide +kernel
theorem dX6_read_67 : decode cX6_read 67 = .ok (.iload_n 1, 1) := by decide +kernel
theorem dX6_read_68 : decode cX6_read 68 = .ok (.iload_n 2, 1) := by decide +kernel
theorem dX6_read_69 : decode cX6_read 69 = .ok (.invokevirtual 127, 3) := by decide +kernel
theorem dX6_read_72 : decode cX6_read 72 = .ok (.ireturn, 1) := by decide +kernel
theorem dX6_state_0 : decode cX6_state 0 = .ok (.aload_n 0, 1) := by decide +kernel
theorem dX6_state_1 : decode cX6_state 1 = .ok (.aload_n 0, 1) := by decide +kernel
theorem dX6_state_2 : decode cX6_state 2 = .ok (.iload_n 1, 1) := by decide +kernel
theorem dX6_state_3 : decode cX6_state 3 = .ok (.invokevirtual 95, 3) := by decide +kernel
theorem dX6_state_6 : decode cX6_state 6 = .ok (.iconst 1, 1) := by decide +kernel
theorem dX6_state_7 : decode cX6_state 7 = .ok (.invokevirtual 69, 3) := by decide +kernel
theorem dX6_state_10 : decode cX6_state 10 = .ok (.ifCond .eq 12, 3) := by decide +kernel
theorem dX6_state_13 : decode cX6_state 13 = .ok (.aload_n 0, 1) := by decide +kernel
theorem dX6_state_14 : decode cX6_state 14 = .ok (.iload_n 1, 1) := by decide +kernel
theorem dX6_state_15 : decode cX6_state 15 = .ok (.iconst 3, 1) := by decide +kernel
theorem dX6_state_16 : decode cX6_state 16 = .ok (.invokevirtual 31, 3) := by decide +kernel
theorem dX6_state_19 : decode cX6_state 19 = .ok (.goto 4, 3) := by decide +kernel
theorem dX6_state_22 : decode cX6_state 22 = .ok (.iconst 0, 1) := by decide +kernel
theorem dX6_state_23 : decode cX6_state 23 = .ok (.ireturn, 1) := by decide +kernel
theorem dX6_lastReadable_0 : decode cX6_lastReadable 0 = .ok (.aload_n 0, 1) := by decide +kernel
theorem dX6_lastReadable_1 : decode cX6_lastReadable 1 = .ok (.aload_n 0, 1) := by decide +kernel
theorem dX6_lastReadable_2 : decode cX6_lastReadable 2 = .ok (.iload_n 1, 1) := by decide +kernel
theorem dX6_lastReadable_3 : decode cX6_lastReadable 3 = .ok (.invokevirtual 95, 3) := by decide +kernel
theorem dX6_lastReadable_6 : decode cX6_lastReadable 6 = .ok (.iconst 1, 1) := by decide +kernel
theorem dX6_lastReadable_7 : decode cX6_lastReadable 7 = .ok (.invokevirtual 69, 3) := by decide +kernel
theorem dX6_lastReadable_10 : decode cX6_lastReadable 10 = .ok (.ifCond .eq 11, 3) := by decide +kernel
theorem dX6_lastReadable_13 : decode cX6_lastReadable 13 = .ok (.aload_n 0, 1) := by decide +kernel
theorem dX6_lastReadable_14 : decode cX6_lastReadable 14 = .ok (.iload_n 1, 1) := by decide +kernel
theorem dX6_lastReadable_15 : decode cX6_lastReadable 15 = .ok (.invokevirtual 139, 3) := by decide +kernel
theorem dX6_lastReadable_18 : decode cX6_lastReadable 18 = .ok (.goto 4, 3) := by decide +kernel
theorem dX6_lastReadable_21 : decode cX6_lastReadable 21 = .ok (.iconst 0, 1) := by decide +kernel
theorem dX6_lastReadable_22 : decode cX6_lastReadable 22 = .ok (.ireturn, 1) := by decide +kernel
theorem dX6_appended_0 : decode cX6_appended 0 = .ok (.aload_n 0, 1) := by decide +kernel
theorem dX6_appended_1 : decode cX6_appended 1 = .ok (.aload_n 0, 1) := by decide +kernel
theorem dX6_appended_2 : decode cX6_appended 2 = .ok (.iload_n 1, 1) := by decide +kernel
theorem dX6_appended_3 : decode cX6_appended 3 = .ok (.invokevirtual 95, 3) := by decide +kernel
theorem dX6_appended_6 : decode cX6_appended 6 = .ok (.iconst 1, 1) := by decide +kernel
theorem dX6_appended_7 : decode cX6_appended 7 = .ok (.invokevirtual 69, 3) := by decide +kernel
theorem dX6_appended_10 : decode cX6_appended 10 = .ok (.ifCond .eq 12, 3) := by decide +kernel
theorem dX6_appended_13 : decode cX6_appended 13 = .ok (.aload_n 0, 1) := by decide +kernel
theorem dX6_appended_14 : decode cX6_appended 14 = .ok (.iload_n 1, 1) := by decide +kernel
theorem dX6_appended_15 : decode cX6_appended 15 = .ok (.iconst 4, 1) := by decide +kernel
theorem dX6_appended_16 : decode cX6_appended 16 = .ok (.invokevirtual 31, 3) := by decide +kernel
theorem dX6_appended_19 : decode cX6_appended 19 = .ok (.goto 4, 3) := by decide +kernel
theorem dX6_appended_22 : decode cX6_appended 22 = .ok (.iconst 0, 1) := by decide +kernel
theorem dX6_appended_23 : decode cX6_appended 23 = .ok (.ireturn, 1) := by decide +kernel
theorem dX6_isEntry_0 : decode cX6_isEntry 0 = .ok (.aload_n 0, 1) := by decide +kernel
theorem dX6_isEntry_1 : decode cX6_isEntry 1 = .ok (.iload_n 1, 1) := by decide +kernel
theorem dX6_isEntry_2 : decode cX6_isEntry 2 = .ok (.invokevirtual 95, 3) := by decide +kernel
theorem dX6_isEntry_5 : decode cX6_isEntry 5 = .ok (.ifCond .eq 23, 3) := by decide +kernel
theorem dX6_isEntry_8 : decode cX6_isEntry 8 = .ok (.iload_n 2, 1) := by decide +kernel
theorem dX6_isEntry_9 : decode cX6_isEntry 9 = .ok (.iconst 0, 1) := by decide +kernel
theorem dX6_isEntry_10 : decode cX6_isEntry 10 = .ok (.aload_n 0, 1) := by decide +kernel
theorem dX6_isEntry_11 : decode cX6_isEntry 11 = .ok (.iload_n 1, 1) := by decide +kernel
theorem dX6_isEntry_12 : decode cX6_isEntry 12 = .ok (.iconst 4, 1) := by decide +kernel
theorem dX6_isEntry_13 : decode cX6_isEntry 13 = .ok (.invokevirtual 31, 3) := by decide +kernel
theorem dX6_isEntry_16 : decode cX6_isEntry 16 = .ok (.iconst 1, 1) := by decide +kernel
theorem dX6_isEntry_17 : decode cX6_isEntry 17 = .ok (.isub, 1) := by decide +kernel
theorem dX6_isEntry_18 : decode cX6_isEntry 18 = .ok (.invokestatic 23, 3) := by decide +kernel
theorem dX6_isEntry_21 : decode cX6_isEntry 21 = .ok (.ifCond .eq 7, 3) := by decide +kernel
theorem dX6_isEntry_24 : decode cX6_isEntry 24 = .ok (.iconst 1, 1) := by decide +kernel
theorem dX6_isEntry_25 : decode cX6_isEntry 25 = .ok (.goto 4, 3) := by decide +kernel
theorem dX6_isEntry_28 : decode cX6_isEntry 28 = .ok (.iconst 0, 1) := by decide +kernel
theorem dX6_isEntry_29 : decode cX6_isEntry 29 = .ok (.ireturn, 1) := by decide +kernel
theorem dX6_acknowledgements_0 : decode cX6_acknowledgements 0 = .ok (.aload_n 0, 1) := by decide +kernel
theorem dX6_acknowledgements_1 : decode cX6_acknowledgements 1 = .ok (.aload_n 0, 1) := by decide +kernel
theorem dX6_acknowledgements_2 : decode cX6_acknowledgements 2 = .ok (.iload_n 1, 1) := by decide +kernel
theorem dX6_acknowledgements_3 : decode cX6_acknowledgements 3 = .ok (.iload_n 2, 1) := by decide +kernel
theorem dX6_acknowledgements_4 : decode cX6_acknowledgements 4 = .ok (.invokevirtual 142, 3) := by decide +kernel
theorem dX6_acknowledgements_7 : decode cX6_acknowledgements 7 = .ok (.iconst 1, 1) := by decide +kernel
theorem dX6_acknowledgements_8 : decode cX6_acknowledgements 8 = .ok (.invokevirtual 69, 3) := by decide +kernel
theorem dX6_acknowledgements_11 : decode cX6_acknowledgements 11 = .ok (.ifCond .eq 18, 3) := by decide +kernel
theorem dX6_acknowledgements_14 : decode cX6_acknowledgements 14 = .ok (.aload_n 0, 1) := by decide +kernel
theorem dX6_acknowledgements_15 : decode cX6_acknowledgements 15 = .ok (.iload_n 1, 1) := by decide +kernel
theorem dX6_acknowledgements_16 : decode cX6_acknowledgements 16 = .ok (.bipush 47, 2) := by decide +kernel
theorem dX6_acknowledgements_18 : decode cX6_acknowledgements 18 = .ok (.iload_n 2, 1) := by decide +kernel
theorem dX6_acknowledgements_19 : decode cX6_acknowledgements 19 = .ok (.iadd, 1) := by decide +kernel
theorem dX6_acknowledgements_20 : decode cX6_acknowledgements 20 = .ok (.invokevirtual 31, 3) := by decide +kernel
theorem dX6_acknowledgements_23 : decode cX6_acknowledgements 23 = .ok (.invokestatic 57, 3) := by decide +kernel
theorem dX6_acknowledgements_26 : decode cX6_acknowledgements 26 = .ok (.goto 4, 3) := by decide +kernel
theorem dX6_acknowledgements_29 : decode cX6_acknowledgements 29 = .ok (.iconst 0, 1) := by decide +kernel
theorem dX6_acknowledgements_30 : decode cX6_acknowledgements 30 = .ok (.ireturn, 1) := by decide +kernel
theorem dX6_holding_0 : decode cX6_holding 0 = .ok (.iconst 0, 1) := by decide +kernel
theorem dX6_holding_1 : decode cX6_holding 1 = .ok (.istore_n 3, 1) := by decide +kernel
theorem dX6_holding_2 : decode cX6_holding 2 = .ok (.iconst 0, 1) := by decide +kernel
theorem dX6_holding_3 : decode cX6_holding 3 = .ok (.istore 4, 2) := by decide +kernel
theorem dX6_holding_5 : decode cX6_holding 5 = .ok (.iload 4, 2) := by decide +kernel
theorem dX6_holding_7 : decode cX6_holding 7 = .ok (.aload_n 0, 1) := by decide +kernel
theorem dX6_holding_8 : decode cX6_holding 8 = .ok (.getfield 7, 3) := by decide +kernel
theorem dX6_holding_11 : decode cX6_holding 11 = .ok (.iconst 0, 1) := by decide +kernel
theorem dX6_holding_12 : decode cX6_holding 12 = .ok (.iaload, 1) := by decide +kernel
theorem dX6_holding_13 : decode cX6_holding 13 = .ok (.if_icmp .ge 31, 3) := by decide +kernel
theorem dX6_holding_16 : decode cX6_holding 16 = .ok (.iload_n 3, 1) := by decide +kernel
theorem dX6_holding_17 : decode cX6_holding 17 = .ok (.aload_n 0, 1) := by decide +kernel
theorem dX6_holding_18 : decode cX6_holding 18 = .ok (.iload 4, 2) := by decide +kernel
theorem dX6_holding_20 : decode cX6_holding 20 = .ok (.iload_n 1, 1) := by decide +kernel
theorem dX6_holding_21 : decode cX6_holding 21 = .ok (.iload_n 2, 1) := by decide +kernel
theorem dX6_holding_22 : decode cX6_holding 22 = .ok (.invokevirtual 112, 3) := by decide +kernel
theorem dX6_holding_25 : decode cX6_holding 25 = .ok (.ifCond .eq 10, 3) := by decide +kernel
theorem dX6_holding_28 : decode cX6_holding 28 = .ok (.iconst 1, 1) := by decide +kernel
theorem dX6_holding_29 : decode cX6_holding 29 = .ok (.iload 4, 2) := by decide +kernel
theorem dX6_holding_31 : decode cX6_holding 31 = .ok (.ishl, 1) := by decide +kernel
theorem dX6_holding_32 : decode cX6_holding 32 = .ok (.goto 4, 3) := by decide +kernel
theorem dX6_holding_35 : decode cX6_holding 35 = .ok (.iconst 0, 1) := by decide +kernel
theorem dX6_holding_36 : decode cX6_holding 36 = .ok (.ior, 1) := by decide +kernel
theorem dX6_holding_37 : decode cX6_holding 37 = .ok (.istore_n 3, 1) := by decide +kernel
theorem dX6_holding_38 : decode cX6_holding 38 = .ok (.iinc 4 1, 3) := by decide +kernel
theorem dX6_holding_41 : decode cX6_holding 41 = .ok (.goto (-36), 3) := by decide +kernel
theorem dX6_holding_44 : decode cX6_holding 44 = .ok (.iload_n 3, 1) := by decide +kernel
theorem dX6_holding_45 : decode cX6_holding 45 = .ok (.ireturn, 1) := by decide +kernel
theorem dX6_holders_0 : decode cX6_holders 0 = .ok (.aload_n 0, 1) := by decide +kernel
theorem dX6_holders_1 : decode cX6_holders 1 = .ok (.aload_n 0, 1) := by decide +kernel
theorem dX6_holders_2 : decode cX6_holders 2 = .ok (.iload_n 1, 1) := by decide +kernel
theorem dX6_holders_3 : decode cX6_holders 3 = .ok (.iload_n 2, 1) := by decide +kernel
theorem dX6_holders_4 : decode cX6_holders 4 = .ok (.invokevirtual 142, 3) := by decide +kernel
theorem dX6_holders_7 : decode cX6_holders 7 = .ok (.iconst 1, 1) := by decide +kernel
theorem dX6_holders_8 : decode cX6_holders 8 = .ok (.invokevirtual 69, 3) := by decide +kernel
theorem dX6_holders_11 : decode cX6_holders 11 = .ok (.ifCond .eq 12, 3) := by decide +kernel
theorem dX6_holders_14 : decode cX6_holders 14 = .ok (.aload_n 0, 1) := by decide +kernel
theorem dX6_holders_15 : decode cX6_holders 15 = .ok (.iload_n 1, 1) := by decide +kernel
theorem dX6_holders_16 : decode cX6_holders 16 = .ok (.iload_n 2, 1) := by decide +kernel
theorem dX6_holders_17 : decode cX6_holders 17 = .ok (.invokevirtual 145, 3) := by decide +kernel
theorem dX6_holders_20 : decode cX6_holders 20 = .ok (.goto 4, 3) := by decide +kernel
theorem dX6_holders_23 : decode cX6_holders 23 = .ok (.iconst 0, 1) := by decide +kernel
theorem dX6_holders_24 : decode cX6_holders 24 = .ok (.ireturn, 1) := by decide +kernel
theorem dX6_fragmentCount_0 : decode cX6_fragmentCount 0 = .ok (.aload_n 0, 1) := by decide +kernel
theorem dX6_fragmentCount_1 : decode cX6_fragmentCount 1 = .ok (.aload_n 0, 1) := by decide +kernel
theorem dX6_fragmentCount_2 : decode cX6_fragmentCount 2 = .ok (.iload_n 1, 1) := by decide +kernel
theorem dX6_fragmentCount_3 : decode cX6_fragmentCount 3 = .ok (.invokevirtual 95, 3) := by decide +kernel
theorem dX6_fragmentCount_6 : decode cX6_fragmentCount 6 = .ok (.iconst 1, 1) := by decide +kernel
theorem dX6_fragmentCount_7 : decode cX6_fragmentCount 7 = .ok (.invokevirtual 69, 3) := by decide +kernel
theorem dX6_fragmentCount_10 : decode cX6_fragmentCount 10 = .ok (.ifCond .eq 13, 3) := by decide +kernel
theorem dX6_fragmentCount_13 : decode cX6_fragmentCount 13 = .ok (.aload_n 0, 1) := by decide +kernel
theorem dX6_fragmentCount_14 : decode cX6_fragmentCount 14 = .ok (.iload_n 1, 1) := by decide +kernel
theorem dX6_fragmentCount_15 : decode cX6_fragmentCount 15 = .ok (.bipush 6, 2) := by decide +kernel
theorem dX6_fragmentCount_17 : decode cX6_fragmentCount 17 = .ok (.invokevirtual 31, 3) := by decide +kernel
theorem dX6_fragmentCount_20 : decode cX6_fragmentCount 20 = .ok (.goto 4, 3) := by decide +kernel
theorem dX6_fragmentCount_23 : decode cX6_fragmentCount 23 = .ok (.iconst 0, 1) := by decide +kernel
theorem dX6_fragmentCount_24 : decode cX6_fragmentCount 24 = .ok (.ireturn, 1) := by decide +kernel
theorem dX6_isFragment_0 : decode cX6_isFragment 0 = .ok (.aload_n 0, 1) := by decide +kernel
theorem dX6_isFragment_1 : decode cX6_isFragment 1 = .ok (.iload_n 1, 1) := by decide +kernel
theorem dX6_isFragment_2 : decode cX6_isFragment 2 = .ok (.invokevirtual 95, 3) := by decide +kernel
theorem dX6_isFragment_5 : decode cX6_isFragment 5 = .ok (.ifCond .eq 24, 3) := by decide +kernel
theorem dX6_isFragment_8 : decode cX6_isFragment 8 = .ok (.iload_n 2, 1) := by decide +kernel
theorem dX6_isFragment_9 : decode cX6_isFragment 9 = .ok (.iconst 0, 1) := by decide +kernel
theorem dX6_isFragment_10 : decode cX6_isFragment 10 = .ok (.aload_n 0, 1) := by decide +kernel
theorem dX6_isFragment_11 : decode cX6_isFragment 11 = .ok (.iload_n 1, 1) := by decide +kernel
theorem dX6_isFragment_12 : decode cX6_isFragment 12 = .ok (.bipush 6, 2) := by decide +kernel
theorem dX6_isFragment_14 : decode cX6_isFragment 14 = .ok (.invokevirtual 31, 3) := by decide +kernel
theorem dX6_isFragment_17 : decode cX6_isFragment 17 = .ok (.iconst 1, 1) := by decide +kernel
theorem dX6_isFragment_18 : decode cX6_isFragment 18 = .ok (.isub, 1) := by decide +kernel
theorem dX6_isFragment_19 : decode cX6_isFragment 19 = .ok (.invokestatic 23, 3) := by decide +kernel
theorem dX6_isFragment_22 : decode cX6_isFragment 22 = .ok (.ifCond .eq 7, 3) := by decide +kernel
theorem dX6_isFragment_25 : decode cX6_isFragment 25 = .ok (.iconst 1, 1) := by decide +kernel
theorem dX6_isFragment_26 : decode cX6_isFragment 26 = .ok (.goto 4, 3) := by decide +kernel
theorem dX6_isFragment_29 : decode cX6_isFragment 29 = .ok (.iconst 0, 1) := by decide +kernel
theorem dX6_isFragment_30 : decode cX6_isFragment 30 = .ok (.ireturn, 1) := by decide +kernel
theorem dX6_firstEntry_0 : decode cX6_firstEntry 0 = .ok (.aload_n 0, 1) := by decide +kernel
theorem dX6_firstEntry_1 : decode cX6_firstEntry 1 = .ok (.aload_n 0, 1) := by decide +kernel
theorem dX6_firstEntry_2 : decode cX6_firstEntry 2 = .ok (.iload_n 1, 1) := by decide +kernel
theorem dX6_firstEntry_3 : decode cX6_firstEntry 3 = .ok (.iload_n 2, 1) := by decide +kernel
theorem dX6_firstEntry_4 : decode cX6_firstEntry 4 = .ok (.invokevirtual 148, 3) := by decide +kernel
theorem dX6_firstEntry_7 : decode cX6_firstEntry 7 = .ok (.iconst 1, 1) := by decide +kernel
theorem dX6_firstEntry_8 : decode cX6_firstEntry 8 = .ok (.invokevirtual 69, 3) := by decide +kernel
theorem dX6_firstEntry_11 : decode cX6_firstEntry 11 = .ok (.ifCond .eq 15, 3) := by decide +kernel
theorem dX6_firstEntry_14 : decode cX6_firstEntry 14 = .ok (.aload_n 0, 1) := by decide +kernel
theorem dX6_firstEntry_15 : decode cX6_firstEntry 15 = .ok (.iload_n 1, 1) := by decide +kernel
theorem dX6_firstEntry_16 : decode cX6_firstEntry 16 = .ok (.bipush 87, 2) := by decide +kernel
theorem dX6_firstEntry_18 : decode cX6_firstEntry 18 = .ok (.iload_n 2, 1) := by decide +kernel
theorem dX6_firstEntry_19 : decode cX6_firstEntry 19 = .ok (.iadd, 1) := by decide +kernel
theorem dX6_firstEntry_20 : decode cX6_firstEntry 20 = .ok (.invokevirtual 31, 3) := by decide +kernel
theorem dX6_firstEntry_23 : decode cX6_firstEntry 23 = .ok (.goto 4, 3) := by decide +kernel
theorem dX6_firstEntry_26 : decode cX6_firstEntry 26 = .ok (.iconst 0, 1) := by decide +kernel
theorem dX6_firstEntry_27 : decode cX6_firstEntry 27 = .ok (.ireturn, 1) := by decide +kernel
theorem dX6_member_0 : decode cX6_member 0 = .ok (.aload_n 0, 1) := by decide +kernel
theorem dX6_member_1 : decode cX6_member 1 = .ok (.iload_n 1, 1) := by decide +kernel
theorem dX6_member_2 : decode cX6_member 2 = .ok (.iload_n 2, 1) := by decide +kernel
theorem dX6_member_3 : decode cX6_member 3 = .ok (.invokevirtual 148, 3) := by decide +kernel
theorem dX6_member_6 : decode cX6_member 6 = .ok (.ifCond .eq 23, 3) := by decide +kernel
theorem dX6_member_9 : decode cX6_member 9 = .ok (.iload_n 3, 1) := by decide +kernel
theorem dX6_member_10 : decode cX6_member 10 = .ok (.iconst 0, 1) := by decide +kernel
theorem dX6_member_11 : decode cX6_member 11 = .ok (.aload_n 0, 1) := by decide +kernel
theorem dX6_member_12 : decode cX6_member 12 = .ok (.iload_n 1, 1) := by decide +kernel
theorem dX6_member_13 : decode cX6_member 13 = .ok (.iconst 0, 1) := by decide +kernel
theorem dX6_member_14 : decode cX6_member 14 = .ok (.invokevirtual 31, 3) := by decide +kernel
theorem dX6_member_17 : decode cX6_member 17 = .ok (.iconst 1, 1) := by decide +kernel
theorem dX6_member_18 : decode cX6_member 18 = .ok (.isub, 1) := by decide +kernel
theorem dX6_member_19 : decode cX6_member 19 = .ok (.invokestatic 23, 3) := by decide +kernel
theorem dX6_member_22 : decode cX6_member 22 = .ok (.ifCond .eq 7, 3) := by decide +kernel
theorem dX6_member_25 : decode cX6_member 25 = .ok (.iconst 1, 1) := by decide +kernel
theorem dX6_member_26 : decode cX6_member 26 = .ok (.goto 4, 3) := by decide +kernel
theorem dX6_member_29 : decode cX6_member 29 = .ok (.iconst 0, 1) := by decide +kernel
theorem dX6_member_30 : decode cX6_member 30 = .ok (.istore 4, 2) := by decide +kernel
theorem dX6_member_32 : decode cX6_member 32 = .ok (.aload_n 0, 1) := by decide +kernel
theorem dX6_member_33 : decode cX6_member 33 = .ok (.iload 4, 2) := by decide +kernel
theorem dX6_member_35 : decode cX6_member 35 = .ok (.iconst 1, 1) := by decide +kernel
theorem dX6_member_36 : decode cX6_member 36 = .ok (.invokevirtual 69, 3) := by decide +kernel
theorem dX6_member_39 : decode cX6_member 39 = .ok (.ifCond .eq 13, 3) := by decide +kernel
theorem dX6_member_42 : decode cX6_member 42 = .ok (.aload_n 0, 1) := by decide +kernel
theorem dX6_member_43 : decode cX6_member 43 = .ok (.iload_n 1, 1) := by decide +kernel
theorem dX6_member_44 : decode cX6_member 44 = .ok (.iload_n 2, 1) := by decide +kernel
theorem dX6_member_45 : decode cX6_member 45 = .ok (.iload_n 3, 1) := by decide +kernel
theorem dX6_member_46 : decode cX6_member 46 = .ok (.invokevirtual 35, 3) := by decide +kernel
theorem dX6_member_49 : decode cX6_member 49 = .ok (.goto 4, 3) := by decide +kernel
theorem dX6_member_52 : decode cX6_member 52 = .ok (.iconst 0, 1) := by decide +kernel
theorem dX6_member_53 : decode cX6_member 53 = .ok (.ireturn, 1) := by decide +kernel
theorem dX6_under_0 : decode cX6_under 0 = .ok (.iconst 0, 1) := by decide +kernel
theorem dX6_under_1 : decode cX6_under 1 = .ok (.istore_n 2, 1) := by decide +kernel
theorem dX6_under_2 : decode cX6_under 2 = .ok (.aload_n 0, 1) := by decide +kernel
theorem dX6_under_3 : decode cX6_under 3 = .ok (.iload_n 1, 1) := by decide +kernel
theorem dX6_under_4 : decode cX6_under 4 = .ok (.invokevirtual 139, 3) := by decide +kernel
theorem dX6_under_7 : decode cX6_under 7 = .ok (.istore_n 3, 1) := by decide +kernel
theorem dX6_under_8 : decode cX6_under 8 = .ok (.iconst 0, 1) := by decide +kernel
theorem dX6_under_9 : decode cX6_under 9 = .ok (.istore 4, 2) := by decide +kernel
theorem dX6_under_11 : decode cX6_under 11 = .ok (.iload 4, 2) := by decide +kernel
theorem dX6_under_13 : decode cX6_under 13 = .ok (.iload_n 3, 1) := by decide +kernel
theorem dX6_under_14 : decode cX6_under 14 = .ok (.if_icmp .gt 100, 3) := by decide +kernel
theorem dX6_under_17 : decode cX6_under 17 = .ok (.iconst 0, 1) := by decide +kernel
theorem dX6_under_18 : decode cX6_under 18 = .ok (.istore 5, 2) := by decide +kernel
theorem dX6_under_20 : decode cX6_under 20 = .ok (.iconst 0, 1) := by decide +kernel
theorem dX6_under_21 : decode cX6_under 21 = .ok (.istore 6, 2) := by decide +kernel
theorem dX6_under_23 : decode cX6_under 23 = .ok (.iload 6, 2) := by decide +kernel
theorem dX6_under_25 : decode cX6_under 25 = .ok (.aload_n 0, 1) := by decide +kernel
theorem dX6_under_26 : decode cX6_under 26 = .ok (.iload_n 1, 1) := by decide +kernel
theorem dX6_under_27 : decode cX6_under 27 = .ok (.iconst 1, 1) := by decide +kernel
theorem dX6_under_28 : decode cX6_under 28 = .ok (.invokevirtual 31, 3) := by decide +kernel
theorem dX6_under_31 : decode cX6_under 31 = .ok (.if_icmp .ge 58, 3) := by decide +kernel
theorem dX6_under_34 : decode cX6_under 34 = .ok (.aload_n 0, 1) := by decide +kernel
theorem dX6_under_35 : decode cX6_under 35 = .ok (.iload_n 1, 1) := by decide +kernel
theorem dX6_under_36 : decode cX6_under 36 = .ok (.aload_n 0, 1) := by decide +kernel
theorem dX6_under_37 : decode cX6_under 37 = .ok (.iload_n 1, 1) := by decide +kernel
theorem dX6_under_38 : decode cX6_under 38 = .ok (.iload 4, 2) := by decide +kernel
theorem dX6_under_40 : decode cX6_under 40 = .ok (.invokevirtual 38, 3) := by decide +kernel
theorem dX6_under_43 : decode cX6_under 43 = .ok (.iload 4, 2) := by decide +kernel
theorem dX6_under_45 : decode cX6_under 45 = .ok (.iload 6, 2) := by decide +kernel
theorem dX6_under_47 : decode cX6_under 47 = .ok (.invokevirtual 41, 3) := by decide +kernel
theorem dX6_under_50 : decode cX6_under 50 = .ok (.istore 7, 2) := by decide +kernel
theorem dX6_under_52 : decode cX6_under 52 = .ok (.iload 5, 2) := by decide +kernel
theorem dX6_under_54 : decode cX6_under 54 = .ok (.aload_n 0, 1) := by decide +kernel
theorem dX6_under_55 : decode cX6_under 55 = .ok (.iload 7, 2) := by decide +kernel
theorem dX6_under_57 : decode cX6_under 57 = .ok (.invokevirtual 45, 3) := by decide +kernel
theorem dX6_under_60 : decode cX6_under 60 = .ok (.ifCond .eq 19, 3) := by decide +kernel
theorem dX6_under_63 : decode cX6_under 63 = .ok (.aload_n 0, 1) := by decide +kernel
theorem dX6_under_64 : decode cX6_under 64 = .ok (.iload 7, 2) := by decide +kernel
theorem dX6_under_66 : decode cX6_under 66 = .ok (.iload_n 1, 1) := by decide +kernel
theorem dX6_under_67 : decode cX6_under 67 = .ok (.iload 4, 2) := by decide +kernel
theorem dX6_under_69 : decode cX6_under 69 = .ok (.invokevirtual 112, 3) := by decide +kernel
theorem dX6_under_72 : decode cX6_under 72 = .ok (.ifCond .eq 7, 3) := by decide +kernel
theorem dX6_under_75 : decode cX6_under 75 = .ok (.iconst 1, 1) := by decide +kernel
theorem dX6_under_76 : decode cX6_under 76 = .ok (.goto 4, 3) := by decide +kernel
theorem dX6_under_79 : decode cX6_under 79 = .ok (.iconst 0, 1) := by decide +kernel
theorem dX6_under_80 : decode cX6_under 80 = .ok (.iadd, 1) := by decide +kernel
theorem dX6_under_81 : decode cX6_under 81 = .ok (.istore 5, 2) := by decide +kernel
theorem dX6_under_83 : decode cX6_under 83 = .ok (.iinc 6 1, 3) := by decide +kernel
theorem dX6_under_86 : decode cX6_under 86 = .ok (.goto (-63), 3) := by decide +kernel
theorem dX6_under_89 : decode cX6_under 89 = .ok (.iload_n 2, 1) := by decide +kernel
theorem dX6_under_90 : decode cX6_under 90 = .ok (.iload 5, 2) := by decide +kernel
theorem dX6_under_92 : decode cX6_under 92 = .ok (.aload_n 0, 1) := by decide +kernel
theorem dX6_under_93 : decode cX6_under 93 = .ok (.iload_n 1, 1) := by decide +kernel
theorem dX6_under_94 : decode cX6_under 94 = .ok (.iconst 1, 1) := by decide +kernel
theorem dX6_under_95 : decode cX6_under 95 = .ok (.invokevirtual 31, 3) := by decide +kernel
theorem dX6_under_98 : decode cX6_under 98 = .ok (.if_icmp .ge 7, 3) := by decide +kernel
theorem dX6_under_101 : decode cX6_under 101 = .ok (.iconst 1, 1) := by decide +kernel
theorem dX6_under_102 : decode cX6_under 102 = .ok (.goto 4, 3) := by decide +kernel
theorem dX6_under_105 : decode cX6_under 105 = .ok (.iconst 0, 1) := by decide +kernel
theorem dX6_under_106 : decode cX6_under 106 = .ok (.iadd, 1) := by decide +kernel
theorem dX6_under_107 : decode cX6_under 107 = .ok (.istore_n 2, 1) := by decide +kernel
theorem dX6_under_108 : decode cX6_under 108 = .ok (.iinc 4 1, 3) := by decide +kernel
theorem dX6_under_111 : decode cX6_under 111 = .ok (.goto (-100), 3) := by decide +kernel
theorem dX6_under_114 : decode cX6_under 114 = .ok (.iload_n 2, 1) := by decide +kernel
theorem dX6_under_115 : decode cX6_under 115 = .ok (.ireturn, 1) := by decide +kernel
theorem dX6_underReplicated_0 : decode cX6_underReplicated 0 = .ok (.aload_n 0, 1) := by decide +kernel
theorem dX6_underReplicated_1 : decode cX6_underReplicated 1 = .ok (.aload_n 0, 1) := by decide +kernel
theorem dX6_underReplicated_2 : decode cX6_underReplicated 2 = .ok (.iload_n 1, 1) := by decide +kernel
theorem dX6_underReplicated_3 : decode cX6_underReplicated 3 = .ok (.invokevirtual 95, 3) := by decide +kernel
theorem dX6_underReplicated_6 : decode cX6_underReplicated 6 = .ok (.iconst 1, 1) := by decide +kernel
theorem dX6_underReplicated_7 : decode cX6_underReplicated 7 = .ok (.invokevirtual 69, 3) := by decide +kernel
theorem dX6_underReplicated_10 : decode cX6_underReplicated 10 = .ok (.ifCond .eq 11, 3) := by decide +kernel
theorem dX6_underReplicated_13 : decode cX6_underReplicated 13 = .ok (.aload_n 0, 1) := by decide +kernel
theorem dX6_underReplicated_14 : decode cX6_underReplicated 14 = .ok (.iload_n 1, 1) := by decide +kernel
theorem dX6_underReplicated_15 : decode cX6_underReplicated 15 = .ok (.invokevirtual 151, 3) := by decide +kernel
theorem dX6_underReplicated_18 : decode cX6_underReplicated 18 = .ok (.goto 4, 3) := by decide +kernel
theorem dX6_underReplicated_21 : decode cX6_underReplicated 21 = .ok (.iconst 0, 1) := by decide +kernel
theorem dX6_underReplicated_22 : decode cX6_underReplicated 22 = .ok (.ireturn, 1) := by decide +kernel
theorem dX6_undo_0 : decode cX6_undo 0 = .ok (.aload_n 0, 1) := by decide +kernel
theorem dX6_undo_1 : decode cX6_undo 1 = .ok (.aload_n 0, 1) := by decide +kernel
theorem dX6_undo_2 : decode cX6_undo 2 = .ok (.getfield 16, 3) := by decide +kernel
theorem dX6_undo_5 : decode cX6_undo 5 = .ok (.ifCond .ne 7, 3) := by decide +kernel
theorem dX6_undo_8 : decode cX6_undo 8 = .ok (.iconst 1, 1) := by decide +kernel
theorem dX6_undo_9 : decode cX6_undo 9 = .ok (.goto 4, 3) := by decide +kernel
theorem dX6_undo_12 : decode cX6_undo 12 = .ok (.iconst 0, 1) := by decide +kernel
theorem dX6_undo_13 : decode cX6_undo 13 = .ok (.putfield 20, 3) := by decide +kernel
theorem dX6_undo_16 : decode cX6_undo 16 = .ok (.aload_n 0, 1) := by decide +kernel
theorem dX6_undo_17 : decode cX6_undo 17 = .ok (.getfield 20, 3) := by decide +kernel
theorem dX6_undo_20 : decode cX6_undo 20 = .ok (.ifCond .le 5, 3) := by decide +kernel
theorem dX6_undo_23 : decode cX6_undo 23 = .ok (.iconst 0, 1) := by decide +kernel
theorem dX6_undo_24 : decode cX6_undo 24 = .ok (.ireturn, 1) := by decide +kernel
theorem dX6_undo_25 : decode cX6_undo 25 = .ok (.aload_n 0, 1) := by decide +kernel
theorem dX6_undo_26 : decode cX6_undo 26 = .ok (.dup, 1) := by decide +kernel
theorem dX6_undo_27 : decode cX6_undo 27 = .ok (.getfield 16, 3) := by decide +kernel
theorem dX6_undo_30 : decode cX6_undo 30 = .ok (.iconst 1, 1) := by decide +kernel
theorem dX6_undo_31 : decode cX6_undo 31 = .ok (.isub, 1) := by decide +kernel
theorem dX6_undo_32 : decode cX6_undo 32 = .ok (.putfield 16, 3) := by decide +kernel
theorem dX6_undo_35 : decode cX6_undo 35 = .ok (.iconst 0, 1) := by decide +kernel
theorem dX6_undo_36 : decode cX6_undo 36 = .ok (.istore_n 1, 1) := by decide +kernel
theorem dX6_undo_37 : decode cX6_undo 37 = .ok (.iload_n 1, 1) := by decide +kernel
theorem dX6_undo_38 : decode cX6_undo 38 = .ok (.sipush 3463, 3) := by decide +kernel
theorem dX6_undo_41 : decode cX6_undo 41 = .ok (.if_icmp .ge 30, 3) := by decide +kernel
theorem dX6_undo_44 : decode cX6_undo 44 = .ok (.aload_n 0, 1) := by decide +kernel
theorem dX6_undo_45 : decode cX6_undo 45 = .ok (.getfield 7, 3) := by decide +kernel
theorem dX6_undo_48 : decode cX6_undo 48 = .ok (.iload_n 1, 1) := by decide +kernel
theorem dX6_undo_49 : decode cX6_undo 49 = .ok (.aload_n 0, 1) := by decide +kernel
theorem dX6_undo_50 : decode cX6_undo 50 = .ok (.getfield 13, 3) := by decide +kernel
theorem dX6_undo_53 : decode cX6_undo 53 = .ok (.sipush 3463, 3) := by decide +kernel
theorem dX6_undo_56 : decode cX6_undo 56 = .ok (.aload_n 0, 1) := by decide +kernel
theorem dX6_undo_57 : decode cX6_undo 57 = .ok (.getfield 16, 3) := by decide +kernel
theorem dX6_undo_60 : decode cX6_undo 60 = .ok (.imul, 1) := by decide +kernel
theorem dX6_undo_61 : decode cX6_undo 61 = .ok (.iload_n 1, 1) := by decide +kernel
theorem dX6_undo_62 : decode cX6_undo 62 = .ok (.iadd, 1) := by decide +kernel
theorem dX6_undo_63 : decode cX6_undo 63 = .ok (.iaload, 1) := by decide +kernel
theorem dX6_undo_64 : decode cX6_undo 64 = .ok (.iastore, 1) := by decide +kernel
theorem dX6_undo_65 : decode cX6_undo 65 = .ok (.iinc 1 1, 3) := by decide +kernel
theorem dX6_undo_68 : decode cX6_undo 68 = .ok (.goto (-31), 3) := by decide +kernel
theorem dX6_undo_71 : decode cX6_undo 71 = .ok (.aload_n 0, 1) := by decide +kernel
theorem dX6_undo_72 : decode cX6_undo 72 = .ok (.getfield 16, 3) := by decide +kernel
theorem dX6_undo_75 : decode cX6_undo 75 = .ok (.ireturn, 1) := by decide +kernel
theorem dX6_add_0 : decode cX6_add 0 = .ok (.aload_n 0, 1) := by decide +kernel
theorem dX6_add_1 : decode cX6_add 1 = .ok (.ldc2_w 154, 3) := by decide +kernel
theorem dX6_add_4 : decode cX6_add 4 = .ok (.aload_n 0, 1) := by decide +kernel
theorem dX6_add_5 : decode cX6_add 5 = .ok (.getfield 156, 3) := by decide +kernel
theorem dX6_add_8 : decode cX6_add 8 = .ok (.lmul, 1) := by decide +kernel
theorem dX6_add_9 : decode cX6_add 9 = .ok (.iload_n 1, 1) := by decide +kernel
theorem dX6_add_10 : decode cX6_add 10 = .ok (.i2l, 1) := by decide +kernel
theorem dX6_add_11 : decode cX6_add 11 = .ok (.ladd, 1) := by decide +kernel
theorem dX6_add_12 : decode cX6_add 12 = .ok (.putfield 156, 3) := by decide +kernel
theorem dX6_add_15 : decode cX6_add 15 = .ok (.return_, 1) := by decide +kernel
theorem dX6_addLedger_0 : decode cX6_addLedger 0 = .ok (.aload_n 0, 1) := by decide +kernel
theorem dX6_addLedger_1 : decode cX6_addLedger 1 = .ok (.aload_n 0, 1) := by decide +kernel
theorem dX6_addLedger_2 : decode cX6_addLedger 2 = .ok (.iload_n 1, 1) := by decide +kernel
theorem dX6_addLedger_3 : decode cX6_addLedger 3 = .ok (.iconst 0, 1) := by decide +kernel
theorem dX6_addLedger_4 : decode cX6_addLedger 4 = .ok (.invokevirtual 31, 3) := by decide +kernel
theorem dX6_addLedger_7 : decode cX6_addLedger 7 = .ok (.invokevirtual 160, 3) := by decide +kernel
theorem dX6_addLedger_10 : decode cX6_addLedger 10 = .ok (.aload_n 0, 1) := by decide +kernel
theorem dX6_addLedger_11 : decode cX6_addLedger 11 = .ok (.aload_n 0, 1) := by decide +kernel
theorem dX6_addLedger_12 : decode cX6_addLedger 12 = .ok (.iload_n 1, 1) := by decide +kernel
theorem dX6_addLedger_13 : decode cX6_addLedger 13 = .ok (.iconst 1, 1) := by decide +kernel
theorem dX6_addLedger_14 : decode cX6_addLedger 14 = .ok (.invokevirtual 31, 3) := by decide +kernel
theorem dX6_addLedger_17 : decode cX6_addLedger 17 = .ok (.invokevirtual 160, 3) := by decide +kernel
theorem dX6_addLedger_20 : decode cX6_addLedger 20 = .ok (.aload_n 0, 1) := by decide +kernel
theorem dX6_addLedger_21 : decode cX6_addLedger 21 = .ok (.aload_n 0, 1) := by decide +kernel
theorem dX6_addLedger_22 : decode cX6_addLedger 22 = .ok (.iload_n 1, 1) := by decide +kernel
theorem dX6_addLedger_23 : decode cX6_addLedger 23 = .ok (.iconst 2, 1) := by decide +kernel
theorem dX6_addLedger_24 : decode cX6_addLedger 24 = .ok (.invokevirtual 31, 3) := by decide +kernel
theorem dX6_addLedger_27 : decode cX6_addLedger 27 = .ok (.invokevirtual 160, 3) := by decide +kernel
theorem dX6_addLedger_30 : decode cX6_addLedger 30 = .ok (.aload_n 0, 1) := by decide +kernel
theorem dX6_addLedger_31 : decode cX6_addLedger 31 = .ok (.aload_n 0, 1) := by decide +kernel
theorem dX6_addLedger_32 : decode cX6_addLedger 32 = .ok (.iload_n 1, 1) := by decide +kernel
theorem dX6_addLedger_33 : decode cX6_addLedger 33 = .ok (.iconst 3, 1) := by decide +kernel
theorem dX6_addLedger_34 : decode cX6_addLedger 34 = .ok (.invokevirtual 31, 3) := by decide +kernel
theorem dX6_addLedger_37 : decode cX6_addLedger 37 = .ok (.invokevirtual 160, 3) := by decide +kernel
theorem dX6_addLedger_40 : decode cX6_addLedger 40 = .ok (.aload_n 0, 1) := by decide +kernel
theorem dX6_addLedger_41 : decode cX6_addLedger 41 = .ok (.aload_n 0, 1) := by decide +kernel
theorem dX6_addLedger_42 : decode cX6_addLedger 42 = .ok (.iload_n 1, 1) := by decide +kernel
theorem dX6_addLedger_43 : decode cX6_addLedger 43 = .ok (.invokevirtual 139, 3) := by decide +kernel
theorem dX6_addLedger_46 : decode cX6_addLedger 46 = .ok (.invokevirtual 160, 3) := by decide +kernel
theorem dX6_addLedger_49 : decode cX6_addLedger 49 = .ok (.aload_n 0, 1) := by decide +kernel
theorem dX6_addLedger_50 : decode cX6_addLedger 50 = .ok (.aload_n 0, 1) := by decide +kernel
theorem dX6_addLedger_51 : decode cX6_addLedger 51 = .ok (.iload_n 1, 1) := by decide +kernel
theorem dX6_addLedger_52 : decode cX6_addLedger 52 = .ok (.iconst 4, 1) := by decide +kernel
theorem dX6_addLedger_53 : decode cX6_addLedger 53 = .ok (.invokevirtual 31, 3) := by decide +kernel
theorem dX6_addLedger_56 : decode cX6_addLedger 56 = .ok (.invokevirtual 160, 3) := by decide +kernel
theorem dX6_addLedger_59 : decode cX6_addLedger 59 = .ok (.aload_n 0, 1) := by decide +kernel
theorem dX6_addLedger_60 : decode cX6_addLedger 60 = .ok (.aload_n 0, 1) := by decide +kernel
theorem dX6_addLedger_61 : decode cX6_addLedger 61 = .ok (.iload_n 1, 1) := by decide +kernel
theorem dX6_addLedger_62 : decode cX6_addLedger 62 = .ok (.invokevirtual 151, 3) := by decide +kernel
theorem dX6_addLedger_65 : decode cX6_addLedger 65 = .ok (.invokevirtual 160, 3) := by decide +kernel
theorem dX6_addLedger_68 : decode cX6_addLedger 68 = .ok (.aload_n 0, 1) := by decide +kernel
theorem dX6_addLedger_69 : decode cX6_addLedger 69 = .ok (.aload_n 0, 1) := by decide +kernel
theorem dX6_addLedger_70 : decode cX6_addLedger 70 = .ok (.iload_n 1, 1) := by decide +kernel
theorem dX6_addLedger_71 : decode cX6_addLedger 71 = .ok (.bipush 6, 2) := by decide +kernel
theorem dX6_addLedger_73 : decode cX6_addLedger 73 = .ok (.invokevirtual 31, 3) := by decide +kernel
theorem dX6_addLedger_76 : decode cX6_addLedger 76 = .ok (.invokevirtual 160, 3) := by decide +kernel
theorem dX6_addLedger_79 : decode cX6_addLedger 79 = .ok (.iconst 0, 1) := by decide +kernel
theorem dX6_addLedger_80 : decode cX6_addLedger 80 = .ok (.istore_n 2, 1) := by decide +kernel
theorem dX6_addLedger_81 : decode cX6_addLedger 81 = .ok (.iload_n 2, 1) := by decide +kernel
theorem dX6_addLedger_82 : decode cX6_addLedger 82 = .ok (.aload_n 0, 1) := by decide +kernel
theorem dX6_addLedger_83 : decode cX6_addLedger 83 = .ok (.iload_n 1, 1) := by decide +kernel
theorem dX6_addLedger_84 : decode cX6_addLedger 84 = .ok (.bipush 6, 2) := by decide +kernel
theorem dX6_addLedger_86 : decode cX6_addLedger 86 = .ok (.invokevirtual 31, 3) := by decide +kernel
theorem dX6_addLedger_89 : decode cX6_addLedger 89 = .ok (.if_icmp .ge 51, 3) := by decide +kernel
theorem dX6_addLedger_92 : decode cX6_addLedger 92 = .ok (.aload_n 0, 1) := by decide +kernel
theorem dX6_addLedger_93 : decode cX6_addLedger 93 = .ok (.aload_n 0, 1) := by decide +kernel
theorem dX6_addLedger_94 : decode cX6_addLedger 94 = .ok (.iload_n 1, 1) := by decide +kernel
theorem dX6_addLedger_95 : decode cX6_addLedger 95 = .ok (.bipush 87, 2) := by decide +kernel
theorem dX6_addLedger_97 : decode cX6_addLedger 97 = .ok (.iload_n 2, 1) := by decide +kernel
theorem dX6_addLedger_98 : decode cX6_addLedger 98 = .ok (.iadd, 1) := by decide +kernel
theorem dX6_addLedger_99 : decode cX6_addLedger 99 = .ok (.invokevirtual 31, 3) := by decide +kernel
theorem dX6_addLedger_102 : decode cX6_addLedger 102 = .ok (.invokevirtual 160, 3) := by decide +kernel
theorem dX6_addLedger_105 : decode cX6_addLedger 105 = .ok (.iconst 0, 1) := by decide +kernel
theorem dX6_addLedger_106 : decode cX6_addLedger 106 = .ok (.istore_n 3, 1) := by decide +kernel
theorem dX6_addLedger_107 : decode cX6_addLedger 107 = .ok (.iload_n 3, 1) := by decide +kernel
theorem dX6_addLedger_108 : decode cX6_addLedger 108 = .ok (.aload_n 0, 1) := by decide +kernel
theorem dX6_addLedger_109 : decode cX6_addLedger 109 = .ok (.iload_n 1, 1) := by decide +kernel
theorem dX6_addLedger_110 : decode cX6_addLedger 110 = .ok (.iconst 0, 1) := by decide +kernel
theorem dX6_addLedger_111 : decode cX6_addLedger 111 = .ok (.invokevirtual 31, 3) := by decide +kernel
theorem dX6_addLedger_114 : decode cX6_addLedger 114 = .ok (.if_icmp .ge 20, 3) := by decide +kernel
theorem dX6_addLedger_117 : decode cX6_addLedger 117 = .ok (.aload_n 0, 1) := by decide +kernel
theorem dX6_addLedger_118 : decode cX6_addLedger 118 = .ok (.aload_n 0, 1) := by decide +kernel
theorem dX6_addLedger_119 : decode cX6_addLedger 119 = .ok (.iload_n 1, 1) := by decide +kernel
theorem dX6_addLedger_120 : decode cX6_addLedger 120 = .ok (.iload_n 2, 1) := by decide +kernel
theorem dX6_addLedger_121 : decode cX6_addLedger 121 = .ok (.iload_n 3, 1) := by decide +kernel
theorem dX6_addLedger_122 : decode cX6_addLedger 122 = .ok (.invokevirtual 35, 3) := by decide +kernel
theorem dX6_addLedger_125 : decode cX6_addLedger 125 = .ok (.invokevirtual 160, 3) := by decide +kernel
theorem dX6_addLedger_128 : decode cX6_addLedger 128 = .ok (.iinc 3 1, 3) := by decide +kernel
theorem dX6_addLedger_131 : decode cX6_addLedger 131 = .ok (.goto (-24), 3) := by decide +kernel
theorem dX6_addLedger_134 : decode cX6_addLedger 134 = .ok (.iinc 2 1, 3) := by decide +kernel
theorem dX6_addLedger_137 : decode cX6_addLedger 137 = .ok (.goto (-56), 3) := by decide +kernel
theorem dX6_addLedger_140 : decode cX6_addLedger 140 = .ok (.iconst 0, 1) := by decide +kernel
theorem dX6_addLedger_141 : decode cX6_addLedger 141 = .ok (.istore_n 2, 1) := by decide +kernel
theorem dX6_addLedger_142 : decode cX6_addLedger 142 = .ok (.iload_n 2, 1) := by decide +kernel
theorem dX6_addLedger_143 : decode cX6_addLedger 143 = .ok (.aload_n 0, 1) := by decide +kernel
theorem dX6_addLedger_144 : decode cX6_addLedger 144 = .ok (.iload_n 1, 1) := by decide +kernel
theorem dX6_addLedger_145 : decode cX6_addLedger 145 = .ok (.iconst 4, 1) := by decide +kernel
theorem dX6_addLedger_146 : decode cX6_addLedger 146 = .ok (.invokevirtual 31, 3) := by decide +kernel
theorem dX6_addLedger_149 : decode cX6_addLedger 149 = .ok (.if_icmp .ge 48, 3) := by decide +kernel
theorem dX6_addLedger_152 : decode cX6_addLedger 152 = .ok (.aload_n 0, 1) := by decide +kernel
theorem dX6_addLedger_153 : decode cX6_addLedger 153 = .ok (.aload_n 0, 1) := by decide +kernel
theorem dX6_addLedger_154 : decode cX6_addLedger 154 = .ok (.iload_n 1, 1) := by decide +kernel
theorem dX6_addLedger_155 : decode cX6_addLedger 155 = .ok (.bipush 7, 2) := by decide +kernel
theorem dX6_addLedger_157 : decode cX6_addLedger 157 = .ok (.iload_n 2, 1) := by decide +kernel
theorem dX6_addLedger_158 : decode cX6_addLedger 158 = .ok (.iadd, 1) := by decide +kernel
theorem dX6_addLedger_159 : decode cX6_addLedger 159 = .ok (.invokevirtual 31, 3) := by decide +kernel
theorem dX6_addLedger_162 : decode cX6_addLedger 162 = .ok (.invokevirtual 160, 3) := by decide +kernel
theorem dX6_addLedger_165 : decode cX6_addLedger 165 = .ok (.aload_n 0, 1) := by decide +kernel
theorem dX6_addLedger_166 : decode cX6_addLedger 166 = .ok (.aload_n 0, 1) := by decide +kernel
theorem dX6_addLedger_167 : decode cX6_addLedger 167 = .ok (.iload_n 1, 1) := by decide +kernel
theorem dX6_addLedger_168 : decode cX6_addLedger 168 = .ok (.bipush 47, 2) := by decide +kernel
theorem dX6_addLedger_170 : decode cX6_addLedger 170 = .ok (.iload_n 2, 1) := by decide +kernel
theorem dX6_addLedger_171 : decode cX6_addLedger 171 = .ok (.iadd, 1) := by decide +kernel
theorem dX6_addLedger_172 : decode cX6_addLedger 172 = .ok (.invokevirtual 31, 3) := by decide +kernel
theorem dX6_addLedger_175 : decode cX6_addLedger 175 = .ok (.invokestatic 57, 3) := by decide +kernel
theorem dX6_addLedger_178 : decode cX6_addLedger 178 = .ok (.invokevirtual 160, 3) := by decide +kernel
theorem dX6_addLedger_181 : decode cX6_addLedger 181 = .ok (.aload_n 0, 1) := by decide +kernel
theorem dX6_addLedger_182 : decode cX6_addLedger 182 = .ok (.aload_n 0, 1) := by decide +kernel
theorem dX6_addLedger_183 : decode cX6_addLedger 183 = .ok (.iload_n 1, 1) := by decide +kernel
theorem dX6_addLedger_184 : decode cX6_addLedger 184 = .ok (.iload_n 2, 1) := by decide +kernel
theorem dX6_addLedger_185 : decode cX6_addLedger 185 = .ok (.invokevirtual 145, 3) := by decide +kernel
theorem dX6_addLedger_188 : decode cX6_addLedger 188 = .ok (.invokevirtual 160, 3) := by decide +kernel
theorem dX6_addLedger_191 : decode cX6_addLedger 191 = .ok (.iinc 2 1, 3) := by decide +kernel
theorem dX6_addLedger_194 : decode cX6_addLedger 194 = .ok (.goto (-52), 3) := by decide +kernel
theorem dX6_addLedger_197 : decode cX6_addLedger 197 = .ok (.iconst 0, 1) := by decide +kernel
theorem dX6_addLedger_198 : decode cX6_addLedger 198 = .ok (.istore_n 2, 1) := by decide +kernel
theorem dX6_addLedger_199 : decode cX6_addLedger 199 = .ok (.iload_n 2, 1) := by decide +kernel
theorem dX6_addLedger_200 : decode cX6_addLedger 200 = .ok (.aload_n 0, 1) := by decide +kernel
theorem dX6_addLedger_201 : decode cX6_addLedger 201 = .ok (.getfield 7, 3) := by decide +kernel
theorem dX6_addLedger_204 : decode cX6_addLedger 204 = .ok (.iconst 0, 1) := by decide +kernel
theorem dX6_addLedger_205 : decode cX6_addLedger 205 = .ok (.iaload, 1) := by decide +kernel
theorem dX6_addLedger_206 : decode cX6_addLedger 206 = .ok (.if_icmp .ge 27, 3) := by decide +kernel
theorem dX6_addLedger_209 : decode cX6_addLedger 209 = .ok (.aload_n 0, 1) := by decide +kernel
theorem dX6_addLedger_210 : decode cX6_addLedger 210 = .ok (.aload_n 0, 1) := by decide +kernel
theorem dX6_addLedger_211 : decode cX6_addLedger 211 = .ok (.getfield 7, 3) := by decide +kernel
theorem dX6_addLedger_214 : decode cX6_addLedger 214 = .ok (.sipush 2099, 3) := by decide +kernel
theorem dX6_addLedger_217 : decode cX6_addLedger 217 = .ok (.iconst 4, 1) := by decide +kernel
theorem dX6_addLedger_218 : decode cX6_addLedger 218 = .ok (.iload_n 2, 1) := by decide +kernel
theorem dX6_addLedger_219 : decode cX6_addLedger 219 = .ok (.imul, 1) := by decide +kernel
theorem dX6_addLedger_220 : decode cX6_addLedger 220 = .ok (.iadd, 1) := by decide +kernel
theorem dX6_addLedger_221 : decode cX6_addLedger 221 = .ok (.iload_n 1, 1) := by decide +kernel
theorem dX6_addLedger_222 : decode cX6_addLedger 222 = .ok (.iadd, 1) := by decide +kernel
theorem dX6_addLedger_223 : decode cX6_addLedger 223 = .ok (.iaload, 1) := by decide +kernel
theorem dX6_addLedger_224 : decode cX6_addLedger 224 = .ok (.invokevirtual 160, 3) := by decide +kernel
theorem dX6_addLedger_227 : decode cX6_addLedger 227 = .ok (.iinc 2 1, 3) := by decide +kernel
theorem dX6_addLedger_230 : decode cX6_addLedger 230 = .ok (.goto (-31), 3) := by decide +kernel
theorem dX6_addLedger_233 : decode cX6_addLedger 233 = .ok (.return_, 1) := by decide +kernel
theorem dX6_digest_0 : decode cX6_digest 0 = .ok (.aload_n 0, 1) := by decide +kernel
theorem dX6_digest_1 : decode cX6_digest 1 = .ok (.iconst 0, 1) := by decide +kernel
theorem dX6_digest_2 : decode cX6_digest 2 = .ok (.putfield 20, 3) := by decide +kernel
theorem dX6_digest_5 : decode cX6_digest 5 = .ok (.aload_n 0, 1) := by decide +kernel
theorem dX6_digest_6 : decode cX6_digest 6 = .ok (.ldc2_w 163, 3) := by decide +kernel
theorem dX6_digest_9 : decode cX6_digest 9 = .ok (.putfield 156, 3) := by decide +kernel
theorem dX6_digest_12 : decode cX6_digest 12 = .ok (.aload_n 0, 1) := by decide +kernel
theorem dX6_digest_13 : decode cX6_digest 13 = .ok (.aload_n 0, 1) := by decide +kernel
theorem dX6_digest_14 : decode cX6_digest 14 = .ok (.getfield 16, 3) := by decide +kernel
theorem dX6_digest_17 : decode cX6_digest 17 = .ok (.invokevirtual 160, 3) := by decide +kernel
theorem dX6_digest_20 : decode cX6_digest 20 = .ok (.aload_n 0, 1) := by decide +kernel
theorem dX6_digest_21 : decode cX6_digest 21 = .ok (.aload_n 0, 1) := by decide +kernel
theorem dX6_digest_22 : decode cX6_digest 22 = .ok (.getfield 7, 3) := by decide +kernel
theorem dX6_digest_25 : decode cX6_digest 25 = .ok (.iconst 2, 1) := by decide +kernel
theorem dX6_digest_26 : decode cX6_digest 26 = .ok (.iaload, 1) := by decide +kernel
theorem dX6_digest_27 : decode cX6_digest 27 = .ok (.invokevirtual 160, 3) := by decide +kernel
theorem dX6_digest_30 : decode cX6_digest 30 = .ok (.aload_n 0, 1) := by decide +kernel
theorem dX6_digest_31 : decode cX6_digest 31 = .ok (.aload_n 0, 1) := by decide +kernel
theorem dX6_digest_32 : decode cX6_digest 32 = .ok (.getfield 7, 3) := by decide +kernel
theorem dX6_digest_35 : decode cX6_digest 35 = .ok (.iconst 0, 1) := by decide +kernel
theorem dX6_digest_36 : decode cX6_digest 36 = .ok (.iaload, 1) := by decide +kernel
theorem dX6_digest_37 : decode cX6_digest 37 = .ok (.invokevirtual 160, 3) := by decide +kernel
theorem dX6_digest_40 : decode cX6_digest 40 = .ok (.iconst 0, 1) := by decide +kernel
theorem dX6_digest_41 : decode cX6_digest 41 = .ok (.istore_n 1, 1) := by decide +kernel
theorem dX6_digest_42 : decode cX6_digest 42 = .ok (.iload_n 1, 1) := by decide +kernel
theorem dX6_digest_43 : decode cX6_digest 43 = .ok (.aload_n 0, 1) := by decide +kernel
theorem dX6_digest_44 : decode cX6_digest 44 = .ok (.getfield 7, 3) := by decide +kernel
theorem dX6_digest_47 : decode cX6_digest 47 = .ok (.iconst 0, 1) := by decide +kernel
theorem dX6_digest_48 : decode cX6_digest 48 = .ok (.iaload, 1) := by decide +kernel
theorem dX6_digest_49 : decode cX6_digest 49 = .ok (.if_icmp .ge 55, 3) := by decide +kernel
theorem dX6_digest_52 : decode cX6_digest 52 = .ok (.aload_n 0, 1) := by decide +kernel
theorem dX6_digest_53 : decode cX6_digest 53 = .ok (.aload_n 0, 1) := by decide +kernel
theorem dX6_digest_54 : decode cX6_digest 54 = .ok (.getfield 7, 3) := by decide +kernel
theorem dX6_digest_57 : decode cX6_digest 57 = .ok (.iconst 3, 1) := by decide +kernel
theorem dX6_digest_58 : decode cX6_digest 58 = .ok (.iload_n 1, 1) := by decide +kernel
theorem dX6_digest_59 : decode cX6_digest 59 = .ok (.iadd, 1) := by decide +kernel
theorem dX6_digest_60 : decode cX6_digest 60 = .ok (.iaload, 1) := by decide +kernel
theorem dX6_digest_61 : decode cX6_digest 61 = .ok (.invokevirtual 160, 3) := by decide +kernel
theorem dX6_digest_64 : decode cX6_digest 64 = .ok (.aload_n 0, 1) := by decide +kernel
theorem dX6_digest_65 : decode cX6_digest 65 = .ok (.aload_n 0, 1) := by decide +kernel
theorem dX6_digest_66 : decode cX6_digest 66 = .ok (.getfield 7, 3) := by decide +kernel
theorem dX6_digest_69 : decode cX6_digest 69 = .ok (.bipush 11, 2) := by decide +kernel
theorem dX6_digest_71 : decode cX6_digest 71 = .ok (.iload_n 1, 1) := by decide +kernel
theorem dX6_digest_72 : decode cX6_digest 72 = .ok (.iadd, 1) := by decide +kernel
theorem dX6_digest_73 : decode cX6_digest 73 = .ok (.iaload, 1) := by decide +kernel
theorem dX6_digest_74 : decode cX6_digest 74 = .ok (.invokevirtual 160, 3) := by decide +kernel
theorem dX6_digest_77 : decode cX6_digest 77 = .ok (.aload_n 0, 1) := by decide +kernel
theorem dX6_digest_78 : decode cX6_digest 78 = .ok (.aload_n 0, 1) := by decide +kernel
theorem dX6_digest_79 : decode cX6_digest 79 = .ok (.iload_n 1, 1) := by decide +kernel
theorem dX6_digest_80 : decode cX6_digest 80 = .ok (.invokevirtual 53, 3) := by decide +kernel
theorem dX6_digest_83 : decode cX6_digest 83 = .ok (.invokevirtual 160, 3) := by decide +kernel
theorem dX6_digest_86 : decode cX6_digest 86 = .ok (.aload_n 0, 1) := by decide +kernel
theorem dX6_digest_87 : decode cX6_digest 87 = .ok (.aload_n 0, 1) := by decide +kernel
theorem dX6_digest_88 : decode cX6_digest 88 = .ok (.iload_n 1, 1) := by decide +kernel
theorem dX6_digest_89 : decode cX6_digest 89 = .ok (.invokevirtual 91, 3) := by decide +kernel
theorem dX6_digest_92 : decode cX6_digest 92 = .ok (.invokestatic 165, 3) := by decide +kernel
theorem dX6_digest_95 : decode cX6_digest 95 = .ok (.invokevirtual 160, 3) := by decide +kernel
theorem dX6_digest_98 : decode cX6_digest 98 = .ok (.iinc 1 1, 3) := by decide +kernel
theorem dX6_digest_101 : decode cX6_digest 101 = .ok (.goto (-59), 3) := by decide +kernel
theorem dX6_digest_104 : decode cX6_digest 104 = .ok (.aload_n 0, 1) := by decide +kernel
theorem dX6_digest_105 : decode cX6_digest 105 = .ok (.aload_n 0, 1) := by decide +kernel
theorem dX6_digest_106 : decode cX6_digest 106 = .ok (.getfield 7, 3) := by decide +kernel
theorem dX6_digest_109 : decode cX6_digest 109 = .ok (.iconst 1, 1) := by decide +kernel
theorem dX6_digest_110 : decode cX6_digest 110 = .ok (.iaload, 1) := by decide +kernel
theorem dX6_digest_111 : decode cX6_digest 111 = .ok (.invokevirtual 160, 3) := by decide +kernel
theorem dX6_digest_114 : decode cX6_digest 114 = .ok (.iconst 0, 1) := by decide +kernel
theorem dX6_digest_115 : decode cX6_digest 115 = .ok (.istore_n 1, 1) := by decide +kernel
theorem dX6_digest_116 : decode cX6_digest 116 = .ok (.iload_n 1, 1) := by decide +kernel
theorem dX6_digest_117 : decode cX6_digest 117 = .ok (.aload_n 0, 1) := by decide +kernel
theorem dX6_digest_118 : decode cX6_digest 118 = .ok (.getfield 7, 3) := by decide +kernel
theorem dX6_digest_121 : decode cX6_digest 121 = .ok (.iconst 1, 1) := by decide +kernel
theorem dX6_digest_122 : decode cX6_digest 122 = .ok (.iaload, 1) := by decide +kernel
theorem dX6_digest_123 : decode cX6_digest 123 = .ok (.if_icmp .ge 14, 3) := by decide +kernel
theorem dX6_digest_126 : decode cX6_digest 126 = .ok (.aload_n 0, 1) := by decide +kernel
theorem dX6_digest_127 : decode cX6_digest 127 = .ok (.iload_n 1, 1) := by decide +kernel
theorem dX6_digest_128 : decode cX6_digest 128 = .ok (.invokevirtual 171, 3) := by decide +kernel
theorem dX6_digest_131 : decode cX6_digest 131 = .ok (.iinc 1 1, 3) := by decide +kernel
theorem dX6_digest_134 : decode cX6_digest 134 = .ok (.goto (-18), 3) := by decide +kernel
theorem dX6_digest_137 : decode cX6_digest 137 = .ok (.aload_n 0, 1) := by decide +kernel
theorem dX6_digest_138 : decode cX6_digest 138 = .ok (.getfield 156, 3) := by decide +kernel
theorem dX6_digest_141 : decode cX6_digest 141 = .ok (.lreturn, 1) := by decide +kernel
end
section
theorem dL_addNode_0 : decode cL_addNode 0 = .ok (.aload_n 1, 1) := by decide +kernel
theorem dL_addNode_1 : decode cL_addNode 1 = .ok (.iconst 0, 1) := by decide +kernel
theorem dL_addNode_2 : decode cL_addNode 2 = .ok (.aload_n 0, 1) := by decide +kernel
theorem dL_addNode_3 : decode cL_addNode 3 = .ok (.invokevirtual 7, 3) := by decide +kernel
theorem dL_addNode_6 : decode cL_addNode 6 = .ok (.i2l, 1) := by decide +kernel
theorem dL_addNode_7 : decode cL_addNode 7 = .ok (.lastore, 1) := by decide +kernel
theorem dL_addNode_8 : decode cL_addNode 8 = .ok (.goto 6, 3) := by decide +kernel
theorem dL_addNode_11 : decode cL_addNode 11 = .ok (.astore_n 2, 1) := by decide +kernel
theorem dL_addNode_12 : decode cL_addNode 12 = .ok (.iconst 1, 1) := by decide +kernel
theorem dL_addNode_13 : decode cL_addNode 13 = .ok (.ireturn, 1) := by decide +kernel
theorem dL_addNode_14 : decode cL_addNode 14 = .ok (.iconst 0, 1) := by decide +kernel
theorem dL_addNode_15 : decode cL_addNode 15 = .ok (.ireturn, 1) := by decide +kernel
theorem dL_crash_0 : decode cL_crash 0 = .ok (.aload_n 2, 1) := by decide +kernel
theorem dL_crash_1 : decode cL_crash 1 = .ok (.iconst 0, 1) := by decide +kernel
theorem dL_crash_2 : decode cL_crash 2 = .ok (.aload_n 0, 1) := by decide +kernel
theorem dL_crash_3 : decode cL_crash 3 = .ok (.iload_n 1, 1) := by decide +kernel
theorem dL_crash_4 : decode cL_crash 4 = .ok (.invokevirtual 15, 3) := by decide +kernel
theorem dL_crash_7 : decode cL_crash 7 = .ok (.i2l, 1) := by decide +kernel
theorem dL_crash_8 : decode cL_crash 8 = .ok (.lastore, 1) := by decide +kernel
theorem dL_crash_9 : decode cL_crash 9 = .ok (.goto 9, 3) := by decide +kernel
theorem dL_crash_12 : decode cL_crash 12 = .ok (.astore_n 3, 1) := by decide +kernel
theorem dL_crash_13 : decode cL_crash 13 = .ok (.iconst 1, 1) := by decide +kernel
theorem dL_crash_14 : decode cL_crash 14 = .ok (.ireturn, 1) := by decide +kernel
theorem dL_crash_15 : decode cL_crash 15 = .ok (.astore_n 3, 1) := by decide +kernel
theorem dL_crash_16 : decode cL_crash 16 = .ok (.iconst 2, 1) := by decide +kernel
theorem dL_crash_17 : decode cL_crash 17 = .ok (.ireturn, 1) := by decide +kernel
theorem dL_crash_18 : decode cL_crash 18 = .ok (.iconst 0, 1) := by decide +kernel
theorem dL_crash_19 : decode cL_crash 19 = .ok (.ireturn, 1) := by decide +kernel
theorem dL_restart_0 : decode cL_restart 0 = .ok (.aload_n 2, 1) := by decide +kernel
theorem dL_restart_1 : decode cL_restart 1 = .ok (.iconst 0, 1) := by decide +kernel
theorem dL_restart_2 : decode cL_restart 2 = .ok (.aload_n 0, 1) := by decide +kernel
theorem dL_restart_3 : decode cL_restart 3 = .ok (.iload_n 1, 1) := by decide +kernel
theorem dL_restart_4 : decode cL_restart 4 = .ok (.invokevirtual 21, 3) := by decide +kernel
theorem dL_restart_7 : decode cL_restart 7 = .ok (.i2l, 1) := by decide +kernel
theorem dL_restart_8 : decode cL_restart 8 = .ok (.lastore, 1) := by decide +kernel
theorem dL_restart_9 : decode cL_restart 9 = .ok (.goto 9, 3) := by decide +kernel
theorem dL_restart_12 : decode cL_restart 12 = .ok (.astore_n 3, 1) := by decide +kernel
theorem dL_restart_13 : decode cL_restart 13 = .ok (.iconst 1, 1) := by decide +kernel
theorem dL_restart_14 : decode cL_restart 14 = .ok (.ireturn, 1) := by decide +kernel
theorem dL_restart_15 : decode cL_restart 15 = .ok (.astore_n 3, 1) := by decide +kernel
theorem dL_restart_16 : decode cL_restart 16 = .ok (.iconst 2, 1) := by decide +kernel
theorem dL_restart_17 : decode cL_restart 17 = .ok (.ireturn, 1) := by decide +kernel
theorem dL_restart_18 : decode cL_restart 18 = .ok (.iconst 0, 1) := by decide +kernel
theorem dL_restart_19 : decode cL_restart 19 = .ok (.ireturn, 1) := by decide +kernel
theorem dL_deliver_0 : decode cL_deliver 0 = .ok (.aload_n 2, 1) := by decide +kernel
theorem dL_deliver_1 : decode cL_deliver 1 = .ok (.iconst 0, 1) := by decide +kernel
theorem dL_deliver_2 : decode cL_deliver 2 = .ok (.aload_n 0, 1) := by decide +kernel
theorem dL_deliver_3 : decode cL_deliver 3 = .ok (.iload_n 1, 1) := by decide +kernel
theorem dL_deliver_4 : decode cL_deliver 4 = .ok (.invokevirtual 24, 3) := by decide +kernel
theorem dL_deliver_7 : decode cL_deliver 7 = .ok (.i2l, 1) := by decide +kernel
theorem dL_deliver_8 : decode cL_deliver 8 = .ok (.lastore, 1) := by decide +kernel
theorem dL_deliver_9 : decode cL_deliver 9 = .ok (.goto 9, 3) := by decide +kernel
theorem dL_deliver_12 : decode cL_deliver 12 = .ok (.astore_n 3, 1) := by decide +kernel
theorem dL_deliver_13 : decode cL_deliver 13 = .ok (.iconst 1, 1) := by decide +kernel
theorem dL_deliver_14 : decode cL_deliver 14 = .ok (.ireturn, 1) := by decide +kernel
theorem dL_deliver_15 : decode cL_deliver 15 = .ok (.astore_n 3, 1) := by decide +kernel
theorem dL_deliver_16 : decode cL_deliver 16 = .ok (.iconst 2, 1) := by decide +kernel
theorem dL_deliver_17 : decode cL_deliver 17 = .ok (.ireturn, 1) := by decide +kernel
theorem dL_deliver_18 : decode cL_deliver 18 = .ok (.iconst 0, 1) := by decide +kernel
theorem dL_deliver_19 : decode cL_deliver 19 = .ok (.ireturn, 1) := by decide +kernel
theorem dL_inboxLength_0 : decode cL_inboxLength 0 = .ok (.aload_n 2, 1) := by decide +kernel
theorem dL_inboxLength_1 : decode cL_inboxLength 1 = .ok (.iconst 0, 1) := by decide +kernel
theorem dL_inboxLength_2 : decode cL_inboxLength 2 = .ok (.aload_n 0, 1) := by decide +kernel
theorem dL_inboxLength_3 : decode cL_inboxLength 3 = .ok (.iload_n 1, 1) := by decide +kernel
theorem dL_inboxLength_4 : decode cL_inboxLength 4 = .ok (.invokevirtual 27, 3) := by decide +kernel
theorem dL_inboxLength_7 : decode cL_inboxLength 7 = .ok (.i2l, 1) := by decide +kernel
theorem dL_inboxLength_8 : decode cL_inboxLength 8 = .ok (.lastore, 1) := by decide +kernel
theorem dL_inboxLength_9 : decode cL_inboxLength 9 = .ok (.goto 6, 3) := by decide +kernel
theorem dL_inboxLength_12 : decode cL_inboxLength 12 = .ok (.astore_n 3, 1) := by decide +kernel
theorem dL_inboxLength_13 : decode cL_inboxLength 13 = .ok (.iconst 1, 1) := by decide +kernel
theorem dL_inboxLength_14 : decode cL_inboxLength 14 = .ok (.ireturn, 1) := by decide +kernel
theorem dL_inboxLength_15 : decode cL_inboxLength 15 = .ok (.iconst 0, 1) := by decide +kernel
theorem dL_inboxLength_16 : decode cL_inboxLength 16 = .ok (.ireturn, 1) := by decide +kernel
theorem dL_weight_0 : decode cL_weight 0 = .ok (.aload_n 2, 1) := by decide +kernel
theorem dL_weight_1 : decode cL_weight 1 = .ok (.iconst 0, 1) := by decide +kernel
theorem dL_weight_2 : decode cL_weight 2 = .ok (.aload_n 0, 1) := by decide +kernel
theorem dL_weight_3 : decode cL_weight 3 = .ok (.iload_n 1, 1) := by decide +kernel
theorem dL_weight_4 : decode cL_weight 4 = .ok (.invokevirtual 30, 3) := by decide +kernel
theorem dL_weight_7 : decode cL_weight 7 = .ok (.i2l, 1) := by decide +kernel
theorem dL_weight_8 : decode cL_weight 8 = .ok (.lastore, 1) := by decide +kernel
theorem dL_weight_9 : decode cL_weight 9 = .ok (.goto 6, 3) := by decide +kernel
theorem dL_weight_12 : decode cL_weight 12 = .ok (.astore_n 3, 1) := by decide +kernel
theorem dL_weight_13 : decode cL_weight 13 = .ok (.iconst 1, 1) := by decide +kernel
theorem dL_weight_14 : decode cL_weight 14 = .ok (.ireturn, 1) := by decide +kernel
theorem dL_weight_15 : decode cL_weight 15 = .ok (.iconst 0, 1) := by decide +kernel
theorem dL_weight_16 : decode cL_weight 16 = .ok (.ireturn, 1) := by decide +kernel
theorem dL_share_0 : decode cL_share 0 = .ok (.aload_n 2, 1) := by decide +kernel
theorem dL_share_1 : decode cL_share 1 = .ok (.iconst 0, 1) := by decide +kernel
theorem dL_share_2 : decode cL_share 2 = .ok (.aload_n 0, 1) := by decide +kernel
theorem dL_share_3 : decode cL_share 3 = .ok (.iload_n 1, 1) := by decide +kernel
theorem dL_share_4 : decode cL_share 4 = .ok (.invokevirtual 33, 3) := by decide +kernel
theorem dL_share_7 : decode cL_share 7 = .ok (.f2d, 1) := by decide +kernel
theorem dL_share_8 : decode cL_share 8 = .ok (.dastore, 1) := by decide +kernel
theorem dL_share_9 : decode cL_share 9 = .ok (.goto 6, 3) := by decide +kernel
theorem dL_share_12 : decode cL_share 12 = .ok (.astore_n 3, 1) := by decide +kernel
theorem dL_share_13 : decode cL_share 13 = .ok (.iconst 1, 1) := by decide +kernel
theorem dL_share_14 : decode cL_share 14 = .ok (.ireturn, 1) := by decide +kernel
theorem dL_share_15 : decode cL_share 15 = .ok (.iconst 0, 1) := by decide +kernel
theorem dL_share_16 : decode cL_share 16 = .ok (.ireturn, 1) := by decide +kernel
theorem dL_isFenced_0 : decode cL_isFenced 0 = .ok (.aload_n 3, 1) := by decide +kernel
theorem dL_isFenced_1 : decode cL_isFenced 1 = .ok (.iconst 0, 1) := by decide +kernel
theorem dL_isFenced_2 : decode cL_isFenced 2 = .ok (.aload_n 0, 1) := by decide +kernel
theorem dL_isFenced_3 : decode cL_isFenced 3 = .ok (.iload_n 1, 1) := by decide +kernel
theorem dL_isFenced_4 : decode cL_isFenced 4 = .ok (.iload_n 2, 1) := by decide +kernel
theorem dL_isFenced_5 : decode cL_isFenced 5 = .ok (.invokevirtual 37, 3) := by decide +kernel
theorem dL_isFenced_8 : decode cL_isFenced 8 = .ok (.ifCond .eq 7, 3) := by decide +kernel
theorem dL_isFenced_11 : decode cL_isFenced 11 = .ok (.lconst 1, 1) := by decide +kernel
theorem dL_isFenced_12 : decode cL_isFenced 12 = .ok (.goto 4, 3) := by decide +kernel
theorem dL_isFenced_15 : decode cL_isFenced 15 = .ok (.lconst 0, 1) := by decide +kernel
theorem dL_isFenced_16 : decode cL_isFenced 16 = .ok (.lastore, 1) := by decide +kernel
theorem dL_isFenced_17 : decode cL_isFenced 17 = .ok (.goto 7, 3) := by decide +kernel
theorem dL_isFenced_20 : decode cL_isFenced 20 = .ok (.astore 4, 2) := by decide +kernel
theorem dL_isFenced_22 : decode cL_isFenced 22 = .ok (.iconst 1, 1) := by decide +kernel
theorem dL_isFenced_23 : decode cL_isFenced 23 = .ok (.ireturn, 1) := by decide +kernel
theorem dL_isFenced_24 : decode cL_isFenced 24 = .ok (.iconst 0, 1) := by decide +kernel
theorem dL_isFenced_25 : decode cL_isFenced 25 = .ok (.ireturn, 1) := by decide +kernel
theorem dL_createLedger_0 : decode cL_createLedger 0 = .ok (.aload 4, 2) := by decide +kernel
theorem dL_createLedger_2 : decode cL_createLedger 2 = .ok (.iconst 0, 1) := by decide +kernel
theorem dL_createLedger_3 : decode cL_createLedger 3 = .ok (.aload_n 0, 1) := by decide +kernel
theorem dL_createLedger_4 : decode cL_createLedger 4 = .ok (.iload_n 1, 1) := by decide +kernel
theorem dL_createLedger_5 : decode cL_createLedger 5 = .ok (.iload_n 2, 1) := by decide +kernel
theorem dL_createLedger_6 : decode cL_createLedger 6 = .ok (.iload_n 3, 1) := by decide +kernel
theorem dL_createLedger_7 : decode cL_createLedger 7 = .ok (.invokevirtual 41, 3) := by decide +kernel
theorem dL_createLedger_10 : decode cL_createLedger 10 = .ok (.i2l, 1) := by decide +kernel
theorem dL_createLedger_11 : decode cL_createLedger 11 = .ok (.lastore, 1) := by decide +kernel
theorem dL_createLedger_12 : decode cL_createLedger 12 = .ok (.goto 11, 3) := by decide +kernel
theorem dL_createLedger_15 : decode cL_createLedger 15 = .ok (.astore 5, 2) := by decide +kernel
theorem dL_createLedger_17 : decode cL_createLedger 17 = .ok (.iconst 1, 1) := by decide +kernel
theorem dL_createLedger_18 : decode cL_createLedger 18 = .ok (.ireturn, 1) := by decide +kernel
theorem dL_createLedger_19 : decode cL_createLedger 19 = .ok (.astore 5, 2) := by decide +kernel
theorem dL_createLedger_21 : decode cL_createLedger 21 = .ok (.iconst 2, 1) := by decide +kernel
theorem dL_createLedger_22 : decode cL_createLedger 22 = .ok (.ireturn, 1) := by decide +kernel
theorem dL_createLedger_23 : decode cL_createLedger 23 = .ok (.iconst 0, 1) := by decide +kernel
theorem dL_createLedger_24 : decode cL_createLedger 24 = .ok (.ireturn, 1) := by decide +kernel
theorem dL_append_0 : decode cL_append 0 = .ok (.aload_n 3, 1) := by decide +kernel
theorem dL_append_1 : decode cL_append 1 = .ok (.iconst 0, 1) := by decide +kernel
theorem dL_append_2 : decode cL_append 2 = .ok (.aload_n 0, 1) := by decide +kernel
theorem dL_append_3 : decode cL_append 3 = .ok (.iload_n 1, 1) := by decide +kernel
theorem dL_append_4 : decode cL_append 4 = .ok (.iload_n 2, 1) := by decide +kernel
theorem dL_append_5 : decode cL_append 5 = .ok (.invokevirtual 45, 3) := by decide +kernel
theorem dL_append_8 : decode cL_append 8 = .ok (.i2l, 1) := by decide +kernel
theorem dL_append_9 : decode cL_append 9 = .ok (.lastore, 1) := by decide +kernel
theorem dL_append_10 : decode cL_append 10 = .ok (.goto 11, 3) := by decide +kernel
theorem dL_append_13 : decode cL_append 13 = .ok (.astore 4, 2) := by decide +kernel
theorem dL_append_15 : decode cL_append 15 = .ok (.iconst 1, 1) := by decide +kernel
theorem dL_append_16 : decode cL_append 16 = .ok (.ireturn, 1) := by decide +kernel
theorem dL_append_17 : decode cL_append 17 = .ok (.astore 4, 2) := by decide +kernel
theorem dL_append_19 : decode cL_append 19 = .ok (.iconst 2, 1) := by decide +kernel
theorem dL_append_20 : decode cL_append 20 = .ok (.ireturn, 1) := by decide +kernel
theorem dL_append_21 : decode cL_append 21 = .ok (.iconst 0, 1) := by decide +kernel
theorem dL_append_22 : decode cL_append 22 = .ok (.ireturn, 1) := by decide +kernel
theorem dL_replace_0 : decode cL_replace 0 = .ok (.aload_n 3, 1) := by decide +kernel
theorem dL_replace_1 : decode cL_replace 1 = .ok (.iconst 0, 1) := by decide +kernel
theorem dL_replace_2 : decode cL_replace 2 = .ok (.aload_n 0, 1) := by decide +kernel
theorem dL_replace_3 : decode cL_replace 3 = .ok (.iload_n 1, 1) := by decide +kernel
theorem dL_replace_4 : decode cL_replace 4 = .ok (.iload_n 2, 1) := by decide +kernel
theorem dL_replace_5 : decode cL_replace 5 = .ok (.invokevirtual 49, 3) := by decide +kernel
theorem dL_replace_8 : decode cL_replace 8 = .ok (.i2l, 1) := by decide +kernel
theorem dL_replace_9 : decode cL_replace 9 = .ok (.lastore, 1) := by decide +kernel
theorem dL_replace_10 : decode cL_replace 10 = .ok (.goto 11, 3) := by decide +kernel
theorem dL_replace_13 : decode cL_replace 13 = .ok (.astore 4, 2) := by decide +kernel
theorem dL_replace_15 : decode cL_replace 15 = .ok (.iconst 1, 1) := by decide +kernel
theorem dL_replace_16 : decode cL_replace 16 = .ok (.ireturn, 1) := by decide +kernel
theorem dL_replace_17 : decode cL_replace 17 = .ok (.astore 4, 2) := by decide +kernel
theorem dL_replace_19 : decode cL_replace 19 = .ok (.iconst 2, 1) := by decide +kernel
theorem dL_replace_20 : decode cL_replace 20 = .ok (.ireturn, 1) := by decide +kernel
theorem dL_replace_21 : decode cL_replace 21 = .ok (.iconst 0, 1) := by decide +kernel
theorem dL_replace_22 : decode cL_replace 22 = .ok (.ireturn, 1) := by decide +kernel
theorem dL_recover_0 : decode cL_recover 0 = .ok (.aload_n 2, 1) := by decide +kernel
theorem dL_recover_1 : decode cL_recover 1 = .ok (.iconst 0, 1) := by decide +kernel
theorem dL_recover_2 : decode cL_recover 2 = .ok (.aload_n 0, 1) := by decide +kernel
theorem dL_recover_3 : decode cL_recover 3 = .ok (.iload_n 1, 1) := by decide +kernel
theorem dL_recover_4 : decode cL_recover 4 = .ok (.invokevirtual 52, 3) := by decide +kernel
theorem dL_recover_7 : decode cL_recover 7 = .ok (.i2l, 1) := by decide +kernel
theorem dL_recover_8 : decode cL_recover 8 = .ok (.lastore, 1) := by decide +kernel
theorem dL_recover_9 : decode cL_recover 9 = .ok (.goto 9, 3) := by decide +kernel
theorem dL_recover_12 : decode cL_recover 12 = .ok (.astore_n 3, 1) := by decide +kernel
theorem dL_recover_13 : decode cL_recover 13 = .ok (.iconst 1, 1) := by decide +kernel
theorem dL_recover_14 : decode cL_recover 14 = .ok (.ireturn, 1) := by decide +kernel
theorem dL_recover_15 : decode cL_recover 15 = .ok (.astore_n 3, 1) := by decide +kernel
theorem dL_recover_16 : decode cL_recover 16 = .ok (.iconst 2, 1) := by decide +kernel
theorem dL_recover_17 : decode cL_recover 17 = .ok (.ireturn, 1) := by decide +kernel
theorem dL_recover_18 : decode cL_recover 18 = .ok (.iconst 0, 1) := by decide +kernel
theorem dL_recover_19 : decode cL_recover 19 = .ok (.ireturn, 1) := by decide +kernel
theorem dL_repair_0 : decode cL_repair 0 = .ok (.aload_n 2, 1) := by decide +kernel
theorem dL_repair_1 : decode cL_repair 1 = .ok (.iconst 0, 1) := by decide +kernel
theorem dL_repair_2 : decode cL_repair 2 = .ok (.aload_n 0, 1) := by decide +kernel
theorem dL_repair_3 : decode cL_repair 3 = .ok (.iload_n 1, 1) := by decide +kernel
theorem dL_repair_4 : decode cL_repair 4 = .ok (.invokevirtual 55, 3) := by decide +kernel
theorem dL_repair_7 : decode cL_repair 7 = .ok (.i2l, 1) := by decide +kernel
theorem dL_repair_8 : decode cL_repair 8 = .ok (.lastore, 1) := by decide +kernel
theorem dL_repair_9 : decode cL_repair 9 = .ok (.goto 9, 3) := by decide +kernel
theorem dL_repair_12 : decode cL_repair 12 = .ok (.astore_n 3, 1) := by decide +kernel
theorem dL_repair_13 : decode cL_repair 13 = .ok (.iconst 1, 1) := by decide +kernel
theorem dL_repair_14 : decode cL_repair 14 = .ok (.ireturn, 1) := by decide +kernel
theorem dL_repair_15 : decode cL_repair 15 = .ok (.astore_n 3, 1) := by decide +kernel
theorem dL_repair_16 : decode cL_repair 16 = .ok (.iconst 2, 1) := by decide +kernel
theorem dL_repair_17 : decode cL_repair 17 = .ok (.ireturn, 1) := by decide +kernel
theorem dL_repair_18 : decode cL_repair 18 = .ok (.iconst 0, 1) := by decide +kernel
theorem dL_repair_19 : decode cL_repair 19 = .ok (.ireturn, 1) := by decide +kernel
theorem dL_read_0 : decode cL_read 0 = .ok (.aload_n 3, 1) := by decide +kernel
theorem dL_read_1 : decode cL_read 1 = .ok (.iconst 0, 1) := by decide +kernel
theorem dL_read_2 : decode cL_read 2 = .ok (.aload_n 0, 1) := by decide +kernel
theorem dL_read_3 : decode cL_read 3 = .ok (.iload_n 1, 1) := by decide +kernel
theorem dL_read_4 : decode cL_read 4 = .ok (.iload_n 2, 1) := by decide +kernel
theorem dL_read_5 : decode cL_read 5 = .ok (.invokevirtual 58, 3) := by decide +kernel
theorem dL_read_8 : decode cL_read 8 = .ok (.i2l, 1) := by decide +kernel
theorem dL_read_9 : decode cL_read 9 = .ok (.lastore, 1) := by decide +kernel
theorem dL_read_10 : decode cL_read 10 = .ok (.goto 11, 3) := by decide +kernel
theorem dL_read_13 : decode cL_read 13 = .ok (.astore 4, 2) := by decide +kernel
theorem dL_read_15 : decode cL_read 15 = .ok (.iconst 1, 1) := by decide +kernel
theorem dL_read_16 : decode cL_read 16 = .ok (.ireturn, 1) := by decide +kernel
theorem dL_read_17 : decode cL_read 17 = .ok (.astore 4, 2) := by decide +kernel
theorem dL_read_19 : decode cL_read 19 = .ok (.iconst 2, 1) := by decide +kernel
theorem dL_read_20 : decode cL_read 20 = .ok (.ireturn, 1) := by decide +kernel
theorem dL_read_21 : decode cL_read 21 = .ok (.iconst 0, 1) := by decide +kernel
theorem dL_read_22 : decode cL_read 22 = .ok (.ireturn, 1) := by decide +kernel
theorem dL_state_0 : decode cL_state 0 = .ok (.aload_n 2, 1) := by decide +kernel
theorem dL_state_1 : decode cL_state 1 = .ok (.iconst 0, 1) := by decide +kernel
theorem dL_state_2 : decode cL_state 2 = .ok (.aload_n 0, 1) := by decide +kernel
theorem dL_state_3 : decode cL_state 3 = .ok (.iload_n 1, 1) := by decide +kernel
theorem dL_state_4 : decode cL_state 4 = .ok (.invokevirtual 61, 3) := by decide +kernel
theorem dL_state_7 : decode cL_state 7 = .ok (.i2l, 1) := by decide +kernel
theorem dL_state_8 : decode cL_state 8 = .ok (.lastore, 1) := by decide +kernel
theorem dL_state_9 : decode cL_state 9 = .ok (.goto 6, 3) := by decide +kernel
theorem dL_state_12 : decode cL_state 12 = .ok (.astore_n 3, 1) := by decide +kernel
theorem dL_state_13 : decode cL_state 13 = .ok (.iconst 1, 1) := by decide +kernel
theorem dL_state_14 : decode cL_state 14 = .ok (.ireturn, 1) := by decide +kernel
theorem dL_state_15 : decode cL_state 15 = .ok (.iconst 0, 1) := by decide +kernel
theorem dL_state_16 : decode cL_state 16 = .ok (.ireturn, 1) := by decide +kernel
theorem dL_lastReadable_0 : decode cL_lastReadable 0 = .ok (.aload_n 2, 1) := by decide +kernel
theorem dL_lastReadable_1 : decode cL_lastReadable 1 = .ok (.iconst 0, 1) := by decide +kernel
theorem dL_lastReadable_2 : decode cL_lastReadable 2 = .ok (.aload_n 0, 1) := by decide +kernel
theorem dL_lastReadable_3 : decode cL_lastReadable 3 = .ok (.iload_n 1, 1) := by decide +kernel
theorem dL_lastReadable_4 : decode cL_lastReadable 4 = .ok (.invokevirtual 64, 3) := by decide +kernel
theorem dL_lastReadable_7 : decode cL_lastReadable 7 = .ok (.i2l, 1) := by decide +kernel
theorem dL_lastReadable_8 : decode cL_lastReadable 8 = .ok (.lastore, 1) := by decide +kernel
theorem dL_lastReadable_9 : decode cL_lastReadable 9 = .ok (.goto 6, 3) := by decide +kernel
theorem dL_lastReadable_12 : decode cL_lastReadable 12 = .ok (.astore_n 3, 1) := by decide +kernel
theorem dL_lastReadable_13 : decode cL_lastReadable 13 = .ok (.iconst 1, 1) := by decide +kernel
theorem dL_lastReadable_14 : decode cL_lastReadable 14 = .ok (.ireturn, 1) := by decide +kernel
theorem dL_lastReadable_15 : decode cL_lastReadable 15 = .ok (.iconst 0, 1) := by decide +kernel
theorem dL_lastReadable_16 : decode cL_lastReadable 16 = .ok (.ireturn, 1) := by decide +kernel
theorem dL_appended_0 : decode cL_appended 0 = .ok (.aload_n 2, 1) := by decide +kernel
theorem dL_appended_1 : decode cL_appended 1 = .ok (.iconst 0, 1) := by decide +kernel
theorem dL_appended_2 : decode cL_appended 2 = .ok (.aload_n 0, 1) := by decide +kernel
theorem dL_appended_3 : decode cL_appended 3 = .ok (.iload_n 1, 1) := by decide +kernel
theorem dL_appended_4 : decode cL_appended 4 = .ok (.invokevirtual 67, 3) := by decide +kernel
theorem dL_appended_7 : decode cL_appended 7 = .ok (.i2l, 1) := by decide +kernel
theorem dL_appended_8 : decode cL_appended 8 = .ok (.lastore, 1) := by decide +kernel
theorem dL_appended_9 : decode cL_appended 9 = .ok (.goto 6, 3) := by decide +kernel
theorem dL_appended_12 : decode cL_appended 12 = .ok (.astore_n 3, 1) := by decide +kernel
theorem dL_appended_13 : decode cL_appended 13 = .ok (.iconst 1, 1) := by decide +kernel
theorem dL_appended_14 : decode cL_appended 14 = .ok (.ireturn, 1) := by decide +kernel
theorem dL_appended_15 : decode cL_appended 15 = .ok (.iconst 0, 1) := by decide +kernel
theorem dL_appended_16 : decode cL_appended 16 = .ok (.ireturn, 1) := by decide +kernel
theorem dL_acknowledgements_0 : decode cL_acknowledgements 0 = .ok (.aload_n 3, 1) := by decide +kernel
theorem dL_acknowledgements_1 : decode cL_acknowledgements 1 = .ok (.iconst 0, 1) := by decide +kernel
theorem dL_acknowledgements_2 : decode cL_acknowledgements 2 = .ok (.aload_n 0, 1) := by decide +kernel
theorem dL_acknowledgements_3 : decode cL_acknowledgements 3 = .ok (.iload_n 1, 1) := by decide +kernel
theorem dL_acknowledgements_4 : decode cL_acknowledgements 4 = .ok (.iload_n 2, 1) := by decide +kernel
theorem dL_acknowledgements_5 : decode cL_acknowledgements 5 = .ok (.invokevirtual 70, 3) := by decide +kernel
theorem dL_acknowledgements_8 : decode cL_acknowledgements 8 = .ok (.i2l, 1) := by decide +kernel
theorem dL_acknowledgements_9 : decode cL_acknowledgements 9 = .ok (.lastore, 1) := by decide +kernel
theorem dL_acknowledgements_10 : decode cL_acknowledgements 10 = .ok (.goto 7, 3) := by decide +kernel
theorem dL_acknowledgements_13 : decode cL_acknowledgements 13 = .ok (.astore 4, 2) := by decide +kernel
theorem dL_acknowledgements_15 : decode cL_acknowledgements 15 = .ok (.iconst 1, 1) := by decide +kernel
theorem dL_acknowledgements_16 : decode cL_acknowledgements 16 = .ok (.ireturn, 1) := by decide +kernel
theorem dL_acknowledgements_17 : decode cL_acknowledgements 17 = .ok (.iconst 0, 1) := by decide +kernel
theorem dL_acknowledgements_18 : decode cL_acknowledgements 18 = .ok (.ireturn, 1) := by decide +kernel
theorem dL_holders_0 : decode cL_holders 0 = .ok (.aload_n 3, 1) := by decide +kernel
theorem dL_holders_1 : decode cL_holders 1 = .ok (.iconst 0, 1) := by decide +kernel
theorem dL_holders_2 : decode cL_holders 2 = .ok (.aload_n 0, 1) := by decide +kernel
theorem dL_holders_3 : decode cL_holders 3 = .ok (.iload_n 1, 1) := by decide +kernel
theorem dL_holders_4 : decode cL_holders 4 = .ok (.iload_n 2, 1) := by decide +kernel
theorem dL_holders_5 : decode cL_holders 5 = .ok (.invokevirtual 73, 3) := by decide +kernel
theorem dL_holders_8 : decode cL_holders 8 = .ok (.i2l, 1) := by decide +kernel
theorem dL_holders_9 : decode cL_holders 9 = .ok (.lastore, 1) := by decide +kernel
theorem dL_holders_10 : decode cL_holders 10 = .ok (.goto 7, 3) := by decide +kernel
theorem dL_holders_13 : decode cL_holders 13 = .ok (.astore 4, 2) := by decide +kernel
theorem dL_holders_15 : decode cL_holders 15 = .ok (.iconst 1, 1) := by decide +kernel
theorem dL_holders_16 : decode cL_holders 16 = .ok (.ireturn, 1) := by decide +kernel
theorem dL_holders_17 : decode cL_holders 17 = .ok (.iconst 0, 1) := by decide +kernel
theorem dL_holders_18 : decode cL_holders 18 = .ok (.ireturn, 1) := by decide +kernel
theorem dL_fragmentCount_0 : decode cL_fragmentCount 0 = .ok (.aload_n 2, 1) := by decide +kernel
theorem dL_fragmentCount_1 : decode cL_fragmentCount 1 = .ok (.iconst 0, 1) := by decide +kernel
theorem dL_fragmentCount_2 : decode cL_fragmentCount 2 = .ok (.aload_n 0, 1) := by decide +kernel
theorem dL_fragmentCount_3 : decode cL_fragmentCount 3 = .ok (.iload_n 1, 1) := by decide +kernel
theorem dL_fragmentCount_4 : decode cL_fragmentCount 4 = .ok (.invokevirtual 76, 3) := by decide +kernel
theorem dL_fragmentCount_7 : decode cL_fragmentCount 7 = .ok (.i2l, 1) := by decide +kernel
theorem dL_fragmentCount_8 : decode cL_fragmentCount 8 = .ok (.lastore, 1) := by decide +kernel
theorem dL_fragmentCount_9 : decode cL_fragmentCount 9 = .ok (.goto 6, 3) := by decide +kernel
theorem dL_fragmentCount_12 : decode cL_fragmentCount 12 = .ok (.astore_n 3, 1) := by decide +kernel
theorem dL_fragmentCount_13 : decode cL_fragmentCount 13 = .ok (.iconst 1, 1) := by decide +kernel
theorem dL_fragmentCount_14 : decode cL_fragmentCount 14 = .ok (.ireturn, 1) := by decide +kernel
theorem dL_fragmentCount_15 : decode cL_fragmentCount 15 = .ok (.iconst 0, 1) := by decide +kernel
theorem dL_fragmentCount_16 : decode cL_fragmentCount 16 = .ok (.ireturn, 1) := by decide +kernel
theorem dL_firstEntry_0 : decode cL_firstEntry 0 = .ok (.aload_n 3, 1) := by decide +kernel
theorem dL_firstEntry_1 : decode cL_firstEntry 1 = .ok (.iconst 0, 1) := by decide +kernel
theorem dL_firstEntry_2 : decode cL_firstEntry 2 = .ok (.aload_n 0, 1) := by decide +kernel
theorem dL_firstEntry_3 : decode cL_firstEntry 3 = .ok (.iload_n 1, 1) := by decide +kernel
theorem dL_firstEntry_4 : decode cL_firstEntry 4 = .ok (.iload_n 2, 1) := by decide +kernel
theorem dL_firstEntry_5 : decode cL_firstEntry 5 = .ok (.invokevirtual 79, 3) := by decide +kernel
theorem dL_firstEntry_8 : decode cL_firstEntry 8 = .ok (.i2l, 1) := by decide +kernel
theorem dL_firstEntry_9 : decode cL_firstEntry 9 = .ok (.lastore, 1) := by decide +kernel
theorem dL_firstEntry_10 : decode cL_firstEntry 10 = .ok (.goto 7, 3) := by decide +kernel
theorem dL_firstEntry_13 : decode cL_firstEntry 13 = .ok (.astore 4, 2) := by decide +kernel
theorem dL_firstEntry_15 : decode cL_firstEntry 15 = .ok (.iconst 1, 1) := by decide +kernel
theorem dL_firstEntry_16 : decode cL_firstEntry 16 = .ok (.ireturn, 1) := by decide +kernel
theorem dL_firstEntry_17 : decode cL_firstEntry 17 = .ok (.iconst 0, 1) := by decide +kernel
theorem dL_firstEntry_18 : decode cL_firstEntry 18 = .ok (.ireturn, 1) := by decide +kernel
theorem dL_member_0 : decode cL_member 0 = .ok (.aload 4, 2) := by decide +kernel
theorem dL_member_2 : decode cL_member 2 = .ok (.iconst 0, 1) := by decide +kernel
theorem dL_member_3 : decode cL_member 3 = .ok (.aload_n 0, 1) := by decide +kernel
theorem dL_member_4 : decode cL_member 4 = .ok (.iload_n 1, 1) := by decide +kernel
theorem dL_member_5 : decode cL_member 5 = .ok (.iload_n 2, 1) := by decide +kernel
theorem dL_member_6 : decode cL_member 6 = .ok (.iload_n 3, 1) := by decide +kernel
theorem dL_member_7 : decode cL_member 7 = .ok (.invokevirtual 82, 3) := by decide +kernel
theorem dL_member_10 : decode cL_member 10 = .ok (.i2l, 1) := by decide +kernel
theorem dL_member_11 : decode cL_member 11 = .ok (.lastore, 1) := by decide +kernel
theorem dL_member_12 : decode cL_member 12 = .ok (.goto 7, 3) := by decide +kernel
theorem dL_member_15 : decode cL_member 15 = .ok (.astore 5, 2) := by decide +kernel
theorem dL_member_17 : decode cL_member 17 = .ok (.iconst 1, 1) := by decide +kernel
theorem dL_member_18 : decode cL_member 18 = .ok (.ireturn, 1) := by decide +kernel
theorem dL_member_19 : decode cL_member 19 = .ok (.iconst 0, 1) := by decide +kernel
theorem dL_member_20 : decode cL_member 20 = .ok (.ireturn, 1) := by decide +kernel
theorem dL_underReplicated_0 : decode cL_underReplicated 0 = .ok (.aload_n 2, 1) := by decide +kernel
theorem dL_underReplicated_1 : decode cL_underReplicated 1 = .ok (.iconst 0, 1) := by decide +kernel
theorem dL_underReplicated_2 : decode cL_underReplicated 2 = .ok (.aload_n 0, 1) := by decide +kernel
theorem dL_underReplicated_3 : decode cL_underReplicated 3 = .ok (.iload_n 1, 1) := by decide +kernel
theorem dL_underReplicated_4 : decode cL_underReplicated 4 = .ok (.invokevirtual 85, 3) := by decide +kernel
theorem dL_underReplicated_7 : decode cL_underReplicated 7 = .ok (.i2l, 1) := by decide +kernel
theorem dL_underReplicated_8 : decode cL_underReplicated 8 = .ok (.lastore, 1) := by decide +kernel
theorem dL_underReplicated_9 : decode cL_underReplicated 9 = .ok (.goto 6, 3) := by decide +kernel
theorem dL_underReplicated_12 : decode cL_underReplicated 12 = .ok (.astore_n 3, 1) := by decide +kernel
theorem dL_underReplicated_13 : decode cL_underReplicated 13 = .ok (.iconst 1, 1) := by decide +kernel
theorem dL_underReplicated_14 : decode cL_underReplicated 14 = .ok (.ireturn, 1) := by decide +kernel
theorem dL_underReplicated_15 : decode cL_underReplicated 15 = .ok (.iconst 0, 1) := by decide +kernel
theorem dL_underReplicated_16 : decode cL_underReplicated 16 = .ok (.ireturn, 1) := by decide +kernel
theorem dL_undo_0 : decode cL_undo 0 = .ok (.aload_n 1, 1) := by decide +kernel
theorem dL_undo_1 : decode cL_undo 1 = .ok (.iconst 0, 1) := by decide +kernel
theorem dL_undo_2 : decode cL_undo 2 = .ok (.aload_n 0, 1) := by decide +kernel
theorem dL_undo_3 : decode cL_undo 3 = .ok (.invokevirtual 88, 3) := by decide +kernel
theorem dL_undo_6 : decode cL_undo 6 = .ok (.i2l, 1) := by decide +kernel
theorem dL_undo_7 : decode cL_undo 7 = .ok (.lastore, 1) := by decide +kernel
theorem dL_undo_8 : decode cL_undo 8 = .ok (.goto 6, 3) := by decide +kernel
theorem dL_undo_11 : decode cL_undo 11 = .ok (.astore_n 2, 1) := by decide +kernel
theorem dL_undo_12 : decode cL_undo 12 = .ok (.iconst 1, 1) := by decide +kernel
theorem dL_undo_13 : decode cL_undo 13 = .ok (.ireturn, 1) := by decide +kernel
theorem dL_undo_14 : decode cL_undo 14 = .ok (.iconst 0, 1) := by decide +kernel
theorem dL_undo_15 : decode cL_undo 15 = .ok (.ireturn, 1) := by decide +kernel
theorem dL_law_0 : decode cL_law 0 = .ok (.new 8, 3) := by decide +kernel
theorem dL_law_3 : decode cL_law 3 = .ok (.dup, 1) := by decide +kernel
theorem dL_law_4 : decode cL_law 4 = .ok (.invokespecial 91, 3) := by decide +kernel
theorem dL_law_7 : decode cL_law 7 = .ok (.astore_n 1, 1) := by decide +kernel
theorem dL_law_8 : decode cL_law 8 = .ok (.new 92, 3) := by decide +kernel
theorem dL_law_11 : decode cL_law 11 = .ok (.dup, 1) := by decide +kernel
theorem dL_law_12 : decode cL_law 12 = .ok (.invokespecial 94, 3) := by decide +kernel
theorem dL_law_15 : decode cL_law 15 = .ok (.astore_n 2, 1) := by decide +kernel
theorem dL_law_16 : decode cL_law 16 = .ok (.iconst 1, 1) := by decide +kernel
theorem dL_law_17 : decode cL_law 17 = .ok (.newarray .long, 2) := by decide +kernel
theorem dL_law_19 : decode cL_law 19 = .ok (.astore_n 3, 1) := by decide +kernel
theorem dL_law_20 : decode cL_law 20 = .ok (.iconst 1, 1) := by decide +kernel
theorem dL_law_21 : decode cL_law 21 = .ok (.newarray .double, 2) := by decide +kernel
theorem dL_law_23 : decode cL_law 23 = .ok (.astore 4, 2) := by decide +kernel
theorem dL_law_25 : decode cL_law 25 = .ok (.iconst 0, 1) := by decide +kernel
theorem dL_law_26 : decode cL_law 26 = .ok (.istore 5, 2) := by decide +kernel
theorem dL_law_28 : decode cL_law 28 = .ok (.iload 5, 2) := by decide +kernel
theorem dL_law_30 : decode cL_law 30 = .ok (.aload_n 0, 1) := by decide +kernel
theorem dL_law_31 : decode cL_law 31 = .ok (.arraylength, 1) := by decide +kernel
theorem dL_law_32 : decode cL_law 32 = .ok (.iconst 4, 1) := by decide +kernel
theorem dL_law_33 : decode cL_law 33 = .ok (.isub, 1) := by decide +kernel
theorem dL_law_34 : decode cL_law 34 = .ok (.if_icmp .gt 1661, 3) := by decide +kernel
theorem dL_law_37 : decode cL_law 37 = .ok (.aload_n 0, 1) := by decide +kernel
theorem dL_law_38 : decode cL_law 38 = .ok (.iload 5, 2) := by decide +kernel
theorem dL_law_40 : decode cL_law 40 = .ok (.iaload, 1) := by decide +kernel
theorem dL_law_41 : decode cL_law 41 = .ok (.bipush 31, 2) := by decide +kernel
theorem dL_law_43 : decode cL_law 43 = .ok (.iand, 1) := by decide +kernel
theorem dL_law_44 : decode cL_law 44 = .ok (.tableswitch 1645 0 26 #[124, 168, 224, 280, 336, 349, 405, 461, 539, 614, 627, 707, 775, 843, 899, 955, 1023, 1079, 1135, 1191, 1259, 1327, 1383, 1451, 1531, 1587, 1631], 124) := by decide +kernel
theorem dL_law_168 : decode cL_law 168 = .ok (.aload_n 1, 1) := by decide +kernel
theorem dL_law_169 : decode cL_law 169 = .ok (.aload_n 3, 1) := by decide +kernel
theorem dL_law_170 : decode cL_law 170 = .ok (.invokestatic 95, 3) := by decide +kernel
theorem dL_law_173 : decode cL_law 173 = .ok (.istore 6, 2) := by decide +kernel
theorem dL_law_175 : decode cL_law 175 = .ok (.aload_n 2, 1) := by decide +kernel
theorem dL_law_176 : decode cL_law 176 = .ok (.invokevirtual 100, 3) := by decide +kernel
theorem dL_law_179 : decode cL_law 179 = .ok (.istore 7, 2) := by decide +kernel
theorem dL_law_181 : decode cL_law 181 = .ok (.aload_n 2, 1) := by decide +kernel
theorem dL_law_182 : decode cL_law 182 = .ok (.invokevirtual 101, 3) := by decide +kernel
theorem dL_law_185 : decode cL_law 185 = .ok (.iload 6, 2) := by decide +kernel
theorem dL_law_187 : decode cL_law 187 = .ok (.if_icmp .eq 5, 3) := by decide +kernel
theorem dL_law_190 : decode cL_law 190 = .ok (.iconst 0, 1) := by decide +kernel
theorem dL_law_191 : decode cL_law 191 = .ok (.ireturn, 1) := by decide +kernel
theorem dL_law_192 : decode cL_law 192 = .ok (.iload 6, 2) := by decide +kernel
theorem dL_law_194 : decode cL_law 194 = .ok (.ifCond .ne 15, 3) := by decide +kernel
theorem dL_law_197 : decode cL_law 197 = .ok (.aload_n 3, 1) := by decide +kernel
theorem dL_law_198 : decode cL_law 198 = .ok (.iconst 0, 1) := by decide +kernel
theorem dL_law_199 : decode cL_law 199 = .ok (.laload, 1) := by decide +kernel
theorem dL_law_200 : decode cL_law 200 = .ok (.iload 7, 2) := by decide +kernel
theorem dL_law_202 : decode cL_law 202 = .ok (.i2l, 1) := by decide +kernel
theorem dL_law_203 : decode cL_law 203 = .ok (.lcmp, 1) := by decide +kernel
theorem dL_law_204 : decode cL_law 204 = .ok (.ifCond .eq 5, 3) := by decide +kernel
theorem dL_law_207 : decode cL_law 207 = .ok (.iconst 0, 1) := by decide +kernel
theorem dL_law_208 : decode cL_law 208 = .ok (.ireturn, 1) := by decide +kernel
theorem dL_law_209 : decode cL_law 209 = .ok (.goto 1480, 3) := by decide +kernel
theorem dL_law_212 : decode cL_law 212 = .ok (.aload_n 1, 1) := by decide +kernel
theorem dL_law_213 : decode cL_law 213 = .ok (.aload_n 0, 1) := by decide +kernel
theorem dL_law_214 : decode cL_law 214 = .ok (.iload 5, 2) := by decide +kernel
theorem dL_law_216 : decode cL_law 216 = .ok (.iconst 1, 1) := by decide +kernel
theorem dL_law_217 : decode cL_law 217 = .ok (.iadd, 1) := by decide +kernel
theorem dL_law_218 : decode cL_law 218 = .ok (.iaload, 1) := by decide +kernel
theorem dL_law_219 : decode cL_law 219 = .ok (.aload_n 3, 1) := by decide +kernel
theorem dL_law_220 : decode cL_law 220 = .ok (.invokestatic 104, 3) := by decide +kernel
theorem dL_law_223 : decode cL_law 223 = .ok (.istore 6, 2) := by decide +kernel
theorem dL_law_225 : decode cL_law 225 = .ok (.aload_n 2, 1) := by decide +kernel
theorem dL_law_226 : decode cL_law 226 = .ok (.aload_n 0, 1) := by decide +kernel
theorem dL_law_227 : decode cL_law 227 = .ok (.iload 5, 2) := by decide +kernel
theorem dL_law_229 : decode cL_law 229 = .ok (.iconst 1, 1) := by decide +kernel
theorem dL_law_230 : decode cL_law 230 = .ok (.iadd, 1) := by decide +kernel
theorem dL_law_231 : decode cL_law 231 = .ok (.iaload, 1) := by decide +kernel
theorem dL_law_232 : decode cL_law 232 = .ok (.invokevirtual 107, 3) := by decide +kernel
theorem dL_law_235 : decode cL_law 235 = .ok (.istore 7, 2) := by decide +kernel
theorem dL_law_237 : decode cL_law 237 = .ok (.aload_n 2, 1) := by decide +kernel
theorem dL_law_238 : decode cL_law 238 = .ok (.invokevirtual 101, 3) := by decide +kernel
theorem dL_law_241 : decode cL_law 241 = .ok (.iload 6, 2) := by decide +kernel
theorem dL_law_243 : decode cL_law 243 = .ok (.if_icmp .eq 5, 3) := by decide +kernel
theorem dL_law_246 : decode cL_law 246 = .ok (.iconst 0, 1) := by decide +kernel
theorem dL_law_247 : decode cL_law 247 = .ok (.ireturn, 1) := by decide +kernel
theorem dL_law_248 : decode cL_law 248 = .ok (.iload 6, 2) := by decide +kernel
theorem dL_law_250 : decode cL_law 250 = .ok (.ifCond .ne 15, 3) := by decide +kernel
theorem dL_law_253 : decode cL_law 253 = .ok (.aload_n 3, 1) := by decide +kernel
theorem dL_law_254 : decode cL_law 254 = .ok (.iconst 0, 1) := by decide +kernel
theorem dL_law_255 : decode cL_law 255 = .ok (.laload, 1) := by decide +kernel
theorem dL_law_256 : decode cL_law 256 = .ok (.iload 7, 2) := by decide +kernel
theorem dL_law_258 : decode cL_law 258 = .ok (.i2l, 1) := by decide +kernel
theorem dL_law_259 : decode cL_law 259 = .ok (.lcmp, 1) := by decide +kernel
theorem dL_law_260 : decode cL_law 260 = .ok (.ifCond .eq 5, 3) := by decide +kernel
theorem dL_law_263 : decode cL_law 263 = .ok (.iconst 0, 1) := by decide +kernel
theorem dL_law_264 : decode cL_law 264 = .ok (.ireturn, 1) := by decide +kernel
theorem dL_law_265 : decode cL_law 265 = .ok (.goto 1424, 3) := by decide +kernel
theorem dL_law_268 : decode cL_law 268 = .ok (.aload_n 1, 1) := by decide +kernel
theorem dL_law_269 : decode cL_law 269 = .ok (.aload_n 0, 1) := by decide +kernel
theorem dL_law_270 : decode cL_law 270 = .ok (.iload 5, 2) := by decide +kernel
theorem dL_law_272 : decode cL_law 272 = .ok (.iconst 1, 1) := by decide +kernel
theorem dL_law_273 : decode cL_law 273 = .ok (.iadd, 1) := by decide +kernel
theorem dL_law_274 : decode cL_law 274 = .ok (.iaload, 1) := by decide +kernel
theorem dL_law_275 : decode cL_law 275 = .ok (.aload_n 3, 1) := by decide +kernel
theorem dL_law_276 : decode cL_law 276 = .ok (.invokestatic 108, 3) := by decide +kernel
theorem dL_law_279 : decode cL_law 279 = .ok (.istore 6, 2) := by decide +kernel
theorem dL_law_281 : decode cL_law 281 = .ok (.aload_n 2, 1) := by decide +kernel
theorem dL_law_282 : decode cL_law 282 = .ok (.aload_n 0, 1) := by decide +kernel
theorem dL_law_283 : decode cL_law 283 = .ok (.iload 5, 2) := by decide +kernel
theorem dL_law_285 : decode cL_law 285 = .ok (.iconst 1, 1) := by decide +kernel
theorem dL_law_286 : decode cL_law 286 = .ok (.iadd, 1) := by decide +kernel
theorem dL_law_287 : decode cL_law 287 = .ok (.iaload, 1) := by decide +kernel
theorem dL_law_288 : decode cL_law 288 = .ok (.invokevirtual 110, 3) := by decide +kernel
theorem dL_law_291 : decode cL_law 291 = .ok (.istore 7, 2) := by decide +kernel
theorem dL_law_293 : decode cL_law 293 = .ok (.aload_n 2, 1) := by decide +kernel
theorem dL_law_294 : decode cL_law 294 = .ok (.invokevirtual 101, 3) := by decide +kernel
theorem dL_law_297 : decode cL_law 297 = .ok (.iload 6, 2) := by decide +kernel
theorem dL_law_299 : decode cL_law 299 = .ok (.if_icmp .eq 5, 3) := by decide +kernel
theorem dL_law_302 : decode cL_law 302 = .ok (.iconst 0, 1) := by decide +kernel
theorem dL_law_303 : decode cL_law 303 = .ok (.ireturn, 1) := by decide +kernel
theorem dL_law_304 : decode cL_law 304 = .ok (.iload 6, 2) := by decide +kernel
theorem dL_law_306 : decode cL_law 306 = .ok (.ifCond .ne 15, 3) := by decide +kernel
theorem dL_law_309 : decode cL_law 309 = .ok (.aload_n 3, 1) := by decide +kernel
theorem dL_law_310 : decode cL_law 310 = .ok (.iconst 0, 1) := by decide +kernel
theorem dL_law_311 : decode cL_law 311 = .ok (.laload, 1) := by decide +kernel
theorem dL_law_312 : decode cL_law 312 = .ok (.iload 7, 2) := by decide +kernel
theorem dL_law_314 : decode cL_law 314 = .ok (.i2l, 1) := by decide +kernel
theorem dL_law_315 : decode cL_law 315 = .ok (.lcmp, 1) := by decide +kernel
theorem dL_law_316 : decode cL_law 316 = .ok (.ifCond .eq 5, 3) := by decide +kernel
theorem dL_law_319 : decode cL_law 319 = .ok (.iconst 0, 1) := by decide +kernel
theorem dL_law_320 : decode cL_law 320 = .ok (.ireturn, 1) := by decide +kernel
theorem dL_law_321 : decode cL_law 321 = .ok (.goto 1368, 3) := by decide +kernel
theorem dL_law_324 : decode cL_law 324 = .ok (.aload_n 1, 1) := by decide +kernel
theorem dL_law_325 : decode cL_law 325 = .ok (.aload_n 0, 1) := by decide +kernel
theorem dL_law_326 : decode cL_law 326 = .ok (.iload 5, 2) := by decide +kernel
theorem dL_law_328 : decode cL_law 328 = .ok (.iconst 1, 1) := by decide +kernel
theorem dL_law_329 : decode cL_law 329 = .ok (.iadd, 1) := by decide +kernel
theorem dL_law_330 : decode cL_law 330 = .ok (.iaload, 1) := by decide +kernel
theorem dL_law_331 : decode cL_law 331 = .ok (.aload_n 3, 1) := by decide +kernel
theorem dL_law_332 : decode cL_law 332 = .ok (.invokestatic 111, 3) := by decide +kernel
theorem dL_law_335 : decode cL_law 335 = .ok (.istore 6, 2) := by decide +kernel
theorem dL_law_337 : decode cL_law 337 = .ok (.aload_n 2, 1) := by decide +kernel
theorem dL_law_338 : decode cL_law 338 = .ok (.aload_n 0, 1) := by decide +kernel
theorem dL_law_339 : decode cL_law 339 = .ok (.iload 5, 2) := by decide +kernel
theorem dL_law_341 : decode cL_law 341 = .ok (.iconst 1, 1) := by decide +kernel
theorem dL_law_342 : decode cL_law 342 = .ok (.iadd, 1) := by decide +kernel
theorem dL_law_343 : decode cL_law 343 = .ok (.iaload, 1) := by decide +kernel
theorem dL_law_344 : decode cL_law 344 = .ok (.invokevirtual 113, 3) := by decide +kernel
theorem dL_law_347 : decode cL_law 347 = .ok (.istore 7, 2) := by decide +kernel
theorem dL_law_349 : decode cL_law 349 = .ok (.aload_n 2, 1) := by decide +kernel
theorem dL_law_350 : decode cL_law 350 = .ok (.invokevirtual 101, 3) := by decide +kernel
theorem dL_law_353 : decode cL_law 353 = .ok (.iload 6, 2) := by decide +kernel
theorem dL_law_355 : decode cL_law 355 = .ok (.if_icmp .eq 5, 3) := by decide +kernel
theorem dL_law_358 : decode cL_law 358 = .ok (.iconst 0, 1) := by decide +kernel
theorem dL_law_359 : decode cL_law 359 = .ok (.ireturn, 1) := by decide +kernel
theorem dL_law_360 : decode cL_law 360 = .ok (.iload 6, 2) := by decide +kernel
theorem dL_law_362 : decode cL_law 362 = .ok (.ifCond .ne 15, 3) := by decide +kernel
theorem dL_law_365 : decode cL_law 365 = .ok (.aload_n 3, 1) := by decide +kernel
theorem dL_law_366 : decode cL_law 366 = .ok (.iconst 0, 1) := by decide +kernel
theorem dL_law_367 : decode cL_law 367 = .ok (.laload, 1) := by decide +kernel
theorem dL_law_368 : decode cL_law 368 = .ok (.iload 7, 2) := by decide +kernel
theorem dL_law_370 : decode cL_law 370 = .ok (.i2l, 1) := by decide +kernel
theorem dL_law_371 : decode cL_law 371 = .ok (.lcmp, 1) := by decide +kernel
theorem dL_law_372 : decode cL_law 372 = .ok (.ifCond .eq 5, 3) := by decide +kernel
theorem dL_law_375 : decode cL_law 375 = .ok (.iconst 0, 1) := by decide +kernel
theorem dL_law_376 : decode cL_law 376 = .ok (.ireturn, 1) := by decide +kernel
theorem dL_law_377 : decode cL_law 377 = .ok (.goto 1312, 3) := by decide +kernel
theorem dL_law_380 : decode cL_law 380 = .ok (.aload_n 1, 1) := by decide +kernel
theorem dL_law_381 : decode cL_law 381 = .ok (.invokevirtual 114, 3) := by decide +kernel
theorem dL_law_384 : decode cL_law 384 = .ok (.aload_n 2, 1) := by decide +kernel
theorem dL_law_385 : decode cL_law 385 = .ok (.invokevirtual 117, 3) := by decide +kernel
theorem dL_law_388 : decode cL_law 388 = .ok (.if_icmp .eq 1301, 3) := by decide +kernel
theorem dL_law_391 : decode cL_law 391 = .ok (.iconst 0, 1) := by decide +kernel
theorem dL_law_392 : decode cL_law 392 = .ok (.ireturn, 1) := by decide +kernel
theorem dL_law_393 : decode cL_law 393 = .ok (.aload_n 1, 1) := by decide +kernel
theorem dL_law_394 : decode cL_law 394 = .ok (.aload_n 0, 1) := by decide +kernel
theorem dL_law_395 : decode cL_law 395 = .ok (.iload 5, 2) := by decide +kernel
theorem dL_law_397 : decode cL_law 397 = .ok (.iconst 1, 1) := by decide +kernel
theorem dL_law_398 : decode cL_law 398 = .ok (.iadd, 1) := by decide +kernel
theorem dL_law_399 : decode cL_law 399 = .ok (.iaload, 1) := by decide +kernel
theorem dL_law_400 : decode cL_law 400 = .ok (.aload_n 3, 1) := by decide +kernel
theorem dL_law_401 : decode cL_law 401 = .ok (.invokestatic 118, 3) := by decide +kernel
theorem dL_law_404 : decode cL_law 404 = .ok (.istore 6, 2) := by decide +kernel
theorem dL_law_406 : decode cL_law 406 = .ok (.aload_n 2, 1) := by decide +kernel
theorem dL_law_407 : decode cL_law 407 = .ok (.aload_n 0, 1) := by decide +kernel
theorem dL_law_408 : decode cL_law 408 = .ok (.iload 5, 2) := by decide +kernel
theorem dL_law_410 : decode cL_law 410 = .ok (.iconst 1, 1) := by decide +kernel
theorem dL_law_411 : decode cL_law 411 = .ok (.iadd, 1) := by decide +kernel
theorem dL_law_412 : decode cL_law 412 = .ok (.iaload, 1) := by decide +kernel
theorem dL_law_413 : decode cL_law 413 = .ok (.invokevirtual 120, 3) := by decide +kernel
theorem dL_law_416 : decode cL_law 416 = .ok (.istore 7, 2) := by decide +kernel
theorem dL_law_418 : decode cL_law 418 = .ok (.aload_n 2, 1) := by decide +kernel
theorem dL_law_419 : decode cL_law 419 = .ok (.invokevirtual 101, 3) := by decide +kernel
theorem dL_law_422 : decode cL_law 422 = .ok (.iload 6, 2) := by decide +kernel
theorem dL_law_424 : decode cL_law 424 = .ok (.if_icmp .eq 5, 3) := by decide +kernel
theorem dL_law_427 : decode cL_law 427 = .ok (.iconst 0, 1) := by decide +kernel
theorem dL_law_428 : decode cL_law 428 = .ok (.ireturn, 1) := by decide +kernel
theorem dL_law_429 : decode cL_law 429 = .ok (.iload 6, 2) := by decide +kernel
theorem dL_law_431 : decode cL_law 431 = .ok (.ifCond .ne 15, 3) := by decide +kernel
theorem dL_law_434 : decode cL_law 434 = .ok (.aload_n 3, 1) := by decide +kernel
theorem dL_law_435 : decode cL_law 435 = .ok (.iconst 0, 1) := by decide +kernel
theorem dL_law_436 : decode cL_law 436 = .ok (.laload, 1) := by decide +kernel
theorem dL_law_437 : decode cL_law 437 = .ok (.iload 7, 2) := by decide +kernel
theorem dL_law_439 : decode cL_law 439 = .ok (.i2l, 1) := by decide +kernel
theorem dL_law_440 : decode cL_law 440 = .ok (.lcmp, 1) := by decide +kernel
theorem dL_law_441 : decode cL_law 441 = .ok (.ifCond .eq 5, 3) := by decide +kernel
theorem dL_law_444 : decode cL_law 444 = .ok (.iconst 0, 1) := by decide +kernel
theorem dL_law_445 : decode cL_law 445 = .ok (.ireturn, 1) := by decide +kernel
theorem dL_law_446 : decode cL_law 446 = .ok (.goto 1243, 3) := by decide +kernel
theorem dL_law_449 : decode cL_law 449 = .ok (.aload_n 1, 1) := by decide +kernel
theorem dL_law_450 : decode cL_law 450 = .ok (.aload_n 0, 1) := by decide +kernel
theorem dL_law_451 : decode cL_law 451 = .ok (.iload 5, 2) := by decide +kernel
theorem dL_law_453 : decode cL_law 453 = .ok (.iconst 1, 1) := by decide +kernel
theorem dL_law_454 : decode cL_law 454 = .ok (.iadd, 1) := by decide +kernel
theorem dL_law_455 : decode cL_law 455 = .ok (.iaload, 1) := by decide +kernel
theorem dL_law_456 : decode cL_law 456 = .ok (.aload_n 3, 1) := by decide +kernel
theorem dL_law_457 : decode cL_law 457 = .ok (.invokestatic 121, 3) := by decide +kernel
theorem dL_law_460 : decode cL_law 460 = .ok (.istore 6, 2) := by decide +kernel
theorem dL_law_462 : decode cL_law 462 = .ok (.aload_n 2, 1) := by decide +kernel
theorem dL_law_463 : decode cL_law 463 = .ok (.aload_n 0, 1) := by decide +kernel
theorem dL_law_464 : decode cL_law 464 = .ok (.iload 5, 2) := by decide +kernel
theorem dL_law_466 : decode cL_law 466 = .ok (.iconst 1, 1) := by decide +kernel
theorem dL_law_467 : decode cL_law 467 = .ok (.iadd, 1) := by decide +kernel
theorem dL_law_468 : decode cL_law 468 = .ok (.iaload, 1) := by decide +kernel
theorem dL_law_469 : decode cL_law 469 = .ok (.invokevirtual 123, 3) := by decide +kernel
theorem dL_law_472 : decode cL_law 472 = .ok (.istore 7, 2) := by decide +kernel
theorem dL_law_474 : decode cL_law 474 = .ok (.aload_n 2, 1) := by decide +kernel
theorem dL_law_475 : decode cL_law 475 = .ok (.invokevirtual 101, 3) := by decide +kernel
theorem dL_law_478 : decode cL_law 478 = .ok (.iload 6, 2) := by decide +kernel
theorem dL_law_480 : decode cL_law 480 = .ok (.if_icmp .eq 5, 3) := by decide +kernel
theorem dL_law_483 : decode cL_law 483 = .ok (.iconst 0, 1) := by decide +kernel
theorem dL_law_484 : decode cL_law 484 = .ok (.ireturn, 1) := by decide +kernel
theorem dL_law_485 : decode cL_law 485 = .ok (.iload 6, 2) := by decide +kernel
theorem dL_law_487 : decode cL_law 487 = .ok (.ifCond .ne 15, 3) := by decide +kernel
theorem dL_law_490 : decode cL_law 490 = .ok (.aload_n 3, 1) := by decide +kernel
theorem dL_law_491 : decode cL_law 491 = .ok (.iconst 0, 1) := by decide +kernel
theorem dL_law_492 : decode cL_law 492 = .ok (.laload, 1) := by decide +kernel
theorem dL_law_493 : decode cL_law 493 = .ok (.iload 7, 2) := by decide +kernel
theorem dL_law_495 : decode cL_law 495 = .ok (.i2l, 1) := by decide +kernel
theorem dL_law_496 : decode cL_law 496 = .ok (.lcmp, 1) := by decide +kernel
theorem dL_law_497 : decode cL_law 497 = .ok (.ifCond .eq 5, 3) := by decide +kernel
theorem dL_law_500 : decode cL_law 500 = .ok (.iconst 0, 1) := by decide +kernel
theorem dL_law_501 : decode cL_law 501 = .ok (.ireturn, 1) := by decide +kernel
theorem dL_law_502 : decode cL_law 502 = .ok (.goto 1187, 3) := by decide +kernel
theorem dL_law_505 : decode cL_law 505 = .ok (.aload_n 1, 1) := by decide +kernel
theorem dL_law_506 : decode cL_law 506 = .ok (.aload_n 0, 1) := by decide +kernel
theorem dL_law_507 : decode cL_law 507 = .ok (.iload 5, 2) := by decide +kernel
theorem dL_law_509 : decode cL_law 509 = .ok (.iconst 1, 1) := by decide +kernel
theorem dL_law_510 : decode cL_law 510 = .ok (.iadd, 1) := by decide +kernel
theorem dL_law_511 : decode cL_law 511 = .ok (.iaload, 1) := by decide +kernel
theorem dL_law_512 : decode cL_law 512 = .ok (.aload 4, 2) := by decide +kernel
theorem dL_law_514 : decode cL_law 514 = .ok (.invokestatic 124, 3) := by decide +kernel
theorem dL_law_517 : decode cL_law 517 = .ok (.istore 6, 2) := by decide +kernel
theorem dL_law_519 : decode cL_law 519 = .ok (.aload_n 2, 1) := by decide +kernel
theorem dL_law_520 : decode cL_law 520 = .ok (.aload_n 0, 1) := by decide +kernel
theorem dL_law_521 : decode cL_law 521 = .ok (.iload 5, 2) := by decide +kernel
theorem dL_law_523 : decode cL_law 523 = .ok (.iconst 1, 1) := by decide +kernel
theorem dL_law_524 : decode cL_law 524 = .ok (.iadd, 1) := by decide +kernel
theorem dL_law_525 : decode cL_law 525 = .ok (.iaload, 1) := by decide +kernel
theorem dL_law_526 : decode cL_law 526 = .ok (.invokevirtual 127, 3) := by decide +kernel
theorem dL_law_529 : decode cL_law 529 = .ok (.fstore 7, 2) := by decide +kernel
theorem dL_law_531 : decode cL_law 531 = .ok (.aload_n 2, 1) := by decide +kernel
theorem dL_law_532 : decode cL_law 532 = .ok (.invokevirtual 101, 3) := by decide +kernel
theorem dL_law_535 : decode cL_law 535 = .ok (.iload 6, 2) := by decide +kernel
theorem dL_law_537 : decode cL_law 537 = .ok (.if_icmp .eq 5, 3) := by decide +kernel
theorem dL_law_540 : decode cL_law 540 = .ok (.iconst 0, 1) := by decide +kernel
theorem dL_law_541 : decode cL_law 541 = .ok (.ireturn, 1) := by decide +kernel
theorem dL_law_542 : decode cL_law 542 = .ok (.iload 6, 2) := by decide +kernel
theorem dL_law_544 : decode cL_law 544 = .ok (.ifCond .ne 36, 3) := by decide +kernel
theorem dL_law_547 : decode cL_law 547 = .ok (.aload 4, 2) := by decide +kernel
theorem dL_law_549 : decode cL_law 549 = .ok (.iconst 0, 1) := by decide +kernel
theorem dL_law_550 : decode cL_law 550 = .ok (.daload, 1) := by decide +kernel
theorem dL_law_551 : decode cL_law 551 = .ok (.fload 7, 2) := by decide +kernel
theorem dL_law_553 : decode cL_law 553 = .ok (.f2d, 1) := by decide +kernel
theorem dL_law_554 : decode cL_law 554 = .ok (.dcmp .l, 1) := by decide +kernel
theorem dL_law_555 : decode cL_law 555 = .ok (.ifCond .eq 25, 3) := by decide +kernel
theorem dL_law_558 : decode cL_law 558 = .ok (.aload 4, 2) := by decide +kernel
theorem dL_law_560 : decode cL_law 560 = .ok (.iconst 0, 1) := by decide +kernel
theorem dL_law_561 : decode cL_law 561 = .ok (.daload, 1) := by decide +kernel
theorem dL_law_562 : decode cL_law 562 = .ok (.aload 4, 2) := by decide +kernel
theorem dL_law_564 : decode cL_law 564 = .ok (.iconst 0, 1) := by decide +kernel
theorem dL_law_565 : decode cL_law 565 = .ok (.daload, 1) := by decide +kernel
theorem dL_law_566 : decode cL_law 566 = .ok (.dcmp .l, 1) := by decide +kernel
theorem dL_law_567 : decode cL_law 567 = .ok (.ifCond .eq 11, 3) := by decide +kernel
theorem dL_law_570 : decode cL_law 570 = .ok (.fload 7, 2) := by decide +kernel
theorem dL_law_572 : decode cL_law 572 = .ok (.fload 7, 2) := by decide +kernel
theorem dL_law_574 : decode cL_law 574 = .ok (.fcmp .l, 1) := by decide +kernel
theorem dL_law_575 : decode cL_law 575 = .ok (.ifCond .ne 5, 3) := by decide +kernel
theorem dL_law_578 : decode cL_law 578 = .ok (.iconst 0, 1) := by decide +kernel
theorem dL_law_579 : decode cL_law 579 = .ok (.ireturn, 1) := by decide +kernel
theorem dL_law_580 : decode cL_law 580 = .ok (.goto 1109, 3) := by decide +kernel
theorem dL_law_583 : decode cL_law 583 = .ok (.aload_n 1, 1) := by decide +kernel
theorem dL_law_584 : decode cL_law 584 = .ok (.aload_n 0, 1) := by decide +kernel
theorem dL_law_585 : decode cL_law 585 = .ok (.iload 5, 2) := by decide +kernel
theorem dL_law_587 : decode cL_law 587 = .ok (.iconst 1, 1) := by decide +kernel
theorem dL_law_588 : decode cL_law 588 = .ok (.iadd, 1) := by decide +kernel
theorem dL_law_589 : decode cL_law 589 = .ok (.iaload, 1) := by decide +kernel
theorem dL_law_590 : decode cL_law 590 = .ok (.aload_n 0, 1) := by decide +kernel
theorem dL_law_591 : decode cL_law 591 = .ok (.iload 5, 2) := by decide +kernel
theorem dL_law_593 : decode cL_law 593 = .ok (.iconst 2, 1) := by decide +kernel
theorem dL_law_594 : decode cL_law 594 = .ok (.iadd, 1) := by decide +kernel
theorem dL_law_595 : decode cL_law 595 = .ok (.iaload, 1) := by decide +kernel
theorem dL_law_596 : decode cL_law 596 = .ok (.aload_n 3, 1) := by decide +kernel
theorem dL_law_597 : decode cL_law 597 = .ok (.invokestatic 128, 3) := by decide +kernel
theorem dL_law_600 : decode cL_law 600 = .ok (.istore 6, 2) := by decide +kernel
theorem dL_law_602 : decode cL_law 602 = .ok (.aload_n 2, 1) := by decide +kernel
theorem dL_law_603 : decode cL_law 603 = .ok (.aload_n 0, 1) := by decide +kernel
theorem dL_law_604 : decode cL_law 604 = .ok (.iload 5, 2) := by decide +kernel
theorem dL_law_606 : decode cL_law 606 = .ok (.iconst 1, 1) := by decide +kernel
theorem dL_law_607 : decode cL_law 607 = .ok (.iadd, 1) := by decide +kernel
theorem dL_law_608 : decode cL_law 608 = .ok (.iaload, 1) := by decide +kernel
theorem dL_law_609 : decode cL_law 609 = .ok (.aload_n 0, 1) := by decide +kernel
theorem dL_law_610 : decode cL_law 610 = .ok (.iload 5, 2) := by decide +kernel
theorem dL_law_612 : decode cL_law 612 = .ok (.iconst 2, 1) := by decide +kernel
theorem dL_law_613 : decode cL_law 613 = .ok (.iadd, 1) := by decide +kernel
theorem dL_law_614 : decode cL_law 614 = .ok (.iaload, 1) := by decide +kernel
theorem dL_law_615 : decode cL_law 615 = .ok (.invokevirtual 131, 3) := by decide +kernel
theorem dL_law_618 : decode cL_law 618 = .ok (.istore 7, 2) := by decide +kernel
theorem dL_law_620 : decode cL_law 620 = .ok (.aload_n 2, 1) := by decide +kernel
theorem dL_law_621 : decode cL_law 621 = .ok (.invokevirtual 101, 3) := by decide +kernel
theorem dL_law_624 : decode cL_law 624 = .ok (.iload 6, 2) := by decide +kernel
theorem dL_law_626 : decode cL_law 626 = .ok (.if_icmp .eq 5, 3) := by decide +kernel
theorem dL_law_629 : decode cL_law 629 = .ok (.iconst 0, 1) := by decide +kernel
theorem dL_law_630 : decode cL_law 630 = .ok (.ireturn, 1) := by decide +kernel
theorem dL_law_631 : decode cL_law 631 = .ok (.iload 6, 2) := by decide +kernel
theorem dL_law_633 : decode cL_law 633 = .ok (.ifCond .ne 22, 3) := by decide +kernel
theorem dL_law_636 : decode cL_law 636 = .ok (.aload_n 3, 1) := by decide +kernel
theorem dL_law_637 : decode cL_law 637 = .ok (.iconst 0, 1) := by decide +kernel
theorem dL_law_638 : decode cL_law 638 = .ok (.laload, 1) := by decide +kernel
theorem dL_law_639 : decode cL_law 639 = .ok (.iload 7, 2) := by decide +kernel
theorem dL_law_641 : decode cL_law 641 = .ok (.ifCond .eq 7, 3) := by decide +kernel
theorem dL_law_644 : decode cL_law 644 = .ok (.lconst 1, 1) := by decide +kernel
theorem dL_law_645 : decode cL_law 645 = .ok (.goto 4, 3) := by decide +kernel
theorem dL_law_648 : decode cL_law 648 = .ok (.lconst 0, 1) := by decide +kernel
theorem dL_law_649 : decode cL_law 649 = .ok (.lcmp, 1) := by decide +kernel
theorem dL_law_650 : decode cL_law 650 = .ok (.ifCond .eq 5, 3) := by decide +kernel
theorem dL_law_653 : decode cL_law 653 = .ok (.iconst 0, 1) := by decide +kernel
theorem dL_law_654 : decode cL_law 654 = .ok (.ireturn, 1) := by decide +kernel
theorem dL_law_655 : decode cL_law 655 = .ok (.goto 1034, 3) := by decide +kernel
theorem dL_law_658 : decode cL_law 658 = .ok (.aload_n 1, 1) := by decide +kernel
theorem dL_law_659 : decode cL_law 659 = .ok (.invokevirtual 132, 3) := by decide +kernel
theorem dL_law_662 : decode cL_law 662 = .ok (.aload_n 2, 1) := by decide +kernel
theorem dL_law_663 : decode cL_law 663 = .ok (.invokevirtual 135, 3) := by decide +kernel
theorem dL_law_666 : decode cL_law 666 = .ok (.if_icmp .eq 1023, 3) := by decide +kernel
theorem dL_law_669 : decode cL_law 669 = .ok (.iconst 0, 1) := by decide +kernel
theorem dL_law_670 : decode cL_law 670 = .ok (.ireturn, 1) := by decide +kernel
theorem dL_law_671 : decode cL_law 671 = .ok (.aload_n 1, 1) := by decide +kernel
theorem dL_law_672 : decode cL_law 672 = .ok (.aload_n 0, 1) := by decide +kernel
theorem dL_law_673 : decode cL_law 673 = .ok (.iload 5, 2) := by decide +kernel
theorem dL_law_675 : decode cL_law 675 = .ok (.iconst 1, 1) := by decide +kernel
theorem dL_law_676 : decode cL_law 676 = .ok (.iadd, 1) := by decide +kernel
theorem dL_law_677 : decode cL_law 677 = .ok (.iaload, 1) := by decide +kernel
theorem dL_law_678 : decode cL_law 678 = .ok (.aload_n 0, 1) := by decide +kernel
theorem dL_law_679 : decode cL_law 679 = .ok (.iload 5, 2) := by decide +kernel
theorem dL_law_681 : decode cL_law 681 = .ok (.iconst 2, 1) := by decide +kernel
theorem dL_law_682 : decode cL_law 682 = .ok (.iadd, 1) := by decide +kernel
theorem dL_law_683 : decode cL_law 683 = .ok (.iaload, 1) := by decide +kernel
theorem dL_law_684 : decode cL_law 684 = .ok (.aload_n 0, 1) := by decide +kernel
theorem dL_law_685 : decode cL_law 685 = .ok (.iload 5, 2) := by decide +kernel
theorem dL_law_687 : decode cL_law 687 = .ok (.iconst 3, 1) := by decide +kernel
theorem dL_law_688 : decode cL_law 688 = .ok (.iadd, 1) := by decide +kernel
theorem dL_law_689 : decode cL_law 689 = .ok (.iaload, 1) := by decide +kernel
theorem dL_law_690 : decode cL_law 690 = .ok (.aload_n 3, 1) := by decide +kernel
theorem dL_law_691 : decode cL_law 691 = .ok (.invokestatic 136, 3) := by decide +kernel
theorem dL_law_694 : decode cL_law 694 = .ok (.istore 6, 2) := by decide +kernel
theorem dL_law_696 : decode cL_law 696 = .ok (.aload_n 2, 1) := by decide +kernel
theorem dL_law_697 : decode cL_law 697 = .ok (.aload_n 0, 1) := by decide +kernel
theorem dL_law_698 : decode cL_law 698 = .ok (.iload 5, 2) := by decide +kernel
theorem dL_law_700 : decode cL_law 700 = .ok (.iconst 1, 1) := by decide +kernel
theorem dL_law_701 : decode cL_law 701 = .ok (.iadd, 1) := by decide +kernel
theorem dL_law_702 : decode cL_law 702 = .ok (.iaload, 1) := by decide +kernel
theorem dL_law_703 : decode cL_law 703 = .ok (.aload_n 0, 1) := by decide +kernel
theorem dL_law_704 : decode cL_law 704 = .ok (.iload 5, 2) := by decide +kernel
theorem dL_law_706 : decode cL_law 706 = .ok (.iconst 2, 1) := by decide +kernel
theorem dL_law_707 : decode cL_law 707 = .ok (.iadd, 1) := by decide +kernel
theorem dL_law_708 : decode cL_law 708 = .ok (.iaload, 1) := by decide +kernel
theorem dL_law_709 : decode cL_law 709 = .ok (.aload_n 0, 1) := by decide +kernel
theorem dL_law_710 : decode cL_law 710 = .ok (.iload 5, 2) := by decide +kernel
theorem dL_law_712 : decode cL_law 712 = .ok (.iconst 3, 1) := by decide +kernel
theorem dL_law_713 : decode cL_law 713 = .ok (.iadd, 1) := by decide +kernel
theorem dL_law_714 : decode cL_law 714 = .ok (.iaload, 1) := by decide +kernel
theorem dL_law_715 : decode cL_law 715 = .ok (.invokevirtual 139, 3) := by decide +kernel
theorem dL_law_718 : decode cL_law 718 = .ok (.istore 7, 2) := by decide +kernel
theorem dL_law_720 : decode cL_law 720 = .ok (.aload_n 2, 1) := by decide +kernel
theorem dL_law_721 : decode cL_law 721 = .ok (.invokevirtual 101, 3) := by decide +kernel
theorem dL_law_724 : decode cL_law 724 = .ok (.iload 6, 2) := by decide +kernel
theorem dL_law_726 : decode cL_law 726 = .ok (.if_icmp .eq 5, 3) := by decide +kernel
theorem dL_law_729 : decode cL_law 729 = .ok (.iconst 0, 1) := by decide +kernel
theorem dL_law_730 : decode cL_law 730 = .ok (.ireturn, 1) := by decide +kernel
theorem dL_law_731 : decode cL_law 731 = .ok (.iload 6, 2) := by decide +kernel
theorem dL_law_733 : decode cL_law 733 = .ok (.ifCond .ne 15, 3) := by decide +kernel
theorem dL_law_736 : decode cL_law 736 = .ok (.aload_n 3, 1) := by decide +kernel
theorem dL_law_737 : decode cL_law 737 = .ok (.iconst 0, 1) := by decide +kernel
theorem dL_law_738 : decode cL_law 738 = .ok (.laload, 1) := by decide +kernel
theorem dL_law_739 : decode cL_law 739 = .ok (.iload 7, 2) := by decide +kernel
theorem dL_law_741 : decode cL_law 741 = .ok (.i2l, 1) := by decide +kernel
theorem dL_law_742 : decode cL_law 742 = .ok (.lcmp, 1) := by decide +kernel
theorem dL_law_743 : decode cL_law 743 = .ok (.ifCond .eq 5, 3) := by decide +kernel
theorem dL_law_746 : decode cL_law 746 = .ok (.iconst 0, 1) := by decide +kernel
theorem dL_law_747 : decode cL_law 747 = .ok (.ireturn, 1) := by decide +kernel
theorem dL_law_748 : decode cL_law 748 = .ok (.goto 941, 3) := by decide +kernel
theorem dL_law_751 : decode cL_law 751 = .ok (.aload_n 1, 1) := by decide +kernel
theorem dL_law_752 : decode cL_law 752 = .ok (.aload_n 0, 1) := by decide +kernel
theorem dL_law_753 : decode cL_law 753 = .ok (.iload 5, 2) := by decide +kernel
theorem dL_law_755 : decode cL_law 755 = .ok (.iconst 1, 1) := by decide +kernel
theorem dL_law_756 : decode cL_law 756 = .ok (.iadd, 1) := by decide +kernel
theorem dL_law_757 : decode cL_law 757 = .ok (.iaload, 1) := by decide +kernel
theorem dL_law_758 : decode cL_law 758 = .ok (.aload_n 0, 1) := by decide +kernel
theorem dL_law_759 : decode cL_law 759 = .ok (.iload 5, 2) := by decide +kernel
theorem dL_law_761 : decode cL_law 761 = .ok (.iconst 2, 1) := by decide +kernel
theorem dL_law_762 : decode cL_law 762 = .ok (.iadd, 1) := by decide +kernel
theorem dL_law_763 : decode cL_law 763 = .ok (.iaload, 1) := by decide +kernel
theorem dL_law_764 : decode cL_law 764 = .ok (.aload_n 3, 1) := by decide +kernel
theorem dL_law_765 : decode cL_law 765 = .ok (.invokestatic 140, 3) := by decide +kernel
theorem dL_law_768 : decode cL_law 768 = .ok (.istore 6, 2) := by decide +kernel
theorem dL_law_770 : decode cL_law 770 = .ok (.aload_n 2, 1) := by decide +kernel
theorem dL_law_771 : decode cL_law 771 = .ok (.aload_n 0, 1) := by decide +kernel
theorem dL_law_772 : decode cL_law 772 = .ok (.iload 5, 2) := by decide +kernel
theorem dL_law_774 : decode cL_law 774 = .ok (.iconst 1, 1) := by decide +kernel
theorem dL_law_775 : decode cL_law 775 = .ok (.iadd, 1) := by decide +kernel
theorem dL_law_776 : decode cL_law 776 = .ok (.iaload, 1) := by decide +kernel
theorem dL_law_777 : decode cL_law 777 = .ok (.aload_n 0, 1) := by decide +kernel
theorem dL_law_778 : decode cL_law 778 = .ok (.iload 5, 2) := by decide +kernel
theorem dL_law_780 : decode cL_law 780 = .ok (.iconst 2, 1) := by decide +kernel
theorem dL_law_781 : decode cL_law 781 = .ok (.iadd, 1) := by decide +kernel
theorem dL_law_782 : decode cL_law 782 = .ok (.iaload, 1) := by decide +kernel
theorem dL_law_783 : decode cL_law 783 = .ok (.invokevirtual 142, 3) := by decide +kernel
theorem dL_law_786 : decode cL_law 786 = .ok (.istore 7, 2) := by decide +kernel
theorem dL_law_788 : decode cL_law 788 = .ok (.aload_n 2, 1) := by decide +kernel
theorem dL_law_789 : decode cL_law 789 = .ok (.invokevirtual 101, 3) := by decide +kernel
theorem dL_law_792 : decode cL_law 792 = .ok (.iload 6, 2) := by decide +kernel
theorem dL_law_794 : decode cL_law 794 = .ok (.if_icmp .eq 5, 3) := by decide +kernel
theorem dL_law_797 : decode cL_law 797 = .ok (.iconst 0, 1) := by decide +kernel
theorem dL_law_798 : decode cL_law 798 = .ok (.ireturn, 1) := by decide +kernel
theorem dL_law_799 : decode cL_law 799 = .ok (.iload 6, 2) := by decide +kernel
theorem dL_law_801 : decode cL_law 801 = .ok (.ifCond .ne 15, 3) := by decide +kernel
theorem dL_law_804 : decode cL_law 804 = .ok (.aload_n 3, 1) := by decide +kernel
theorem dL_law_805 : decode cL_law 805 = .ok (.iconst 0, 1) := by decide +kernel
theorem dL_law_806 : decode cL_law 806 = .ok (.laload, 1) := by decide +kernel
theorem dL_law_807 : decode cL_law 807 = .ok (.iload 7, 2) := by decide +kernel
theorem dL_law_809 : decode cL_law 809 = .ok (.i2l, 1) := by decide +kernel
theorem dL_law_810 : decode cL_law 810 = .ok (.lcmp, 1) := by decide +kernel
theorem dL_law_811 : decode cL_law 811 = .ok (.ifCond .eq 5, 3) := by decide +kernel
theorem dL_law_814 : decode cL_law 814 = .ok (.iconst 0, 1) := by decide +kernel
theorem dL_law_815 : decode cL_law 815 = .ok (.ireturn, 1) := by decide +kernel
theorem dL_law_816 : decode cL_law 816 = .ok (.goto 873, 3) := by decide +kernel
theorem dL_law_819 : decode cL_law 819 = .ok (.aload_n 1, 1) := by decide +kernel
theorem dL_law_820 : decode cL_law 820 = .ok (.aload_n 0, 1) := by decide +kernel
theorem dL_law_821 : decode cL_law 821 = .ok (.iload 5, 2) := by decide +kernel
theorem dL_law_823 : decode cL_law 823 = .ok (.iconst 1, 1) := by decide +kernel
theorem dL_law_824 : decode cL_law 824 = .ok (.iadd, 1) := by decide +kernel
theorem dL_law_825 : decode cL_law 825 = .ok (.iaload, 1) := by decide +kernel
theorem dL_law_826 : decode cL_law 826 = .ok (.aload_n 0, 1) := by decide +kernel
theorem dL_law_827 : decode cL_law 827 = .ok (.iload 5, 2) := by decide +kernel
theorem dL_law_829 : decode cL_law 829 = .ok (.iconst 2, 1) := by decide +kernel
theorem dL_law_830 : decode cL_law 830 = .ok (.iadd, 1) := by decide +kernel
theorem dL_law_831 : decode cL_law 831 = .ok (.iaload, 1) := by decide +kernel
theorem dL_law_832 : decode cL_law 832 = .ok (.aload_n 3, 1) := by decide +kernel
theorem dL_law_833 : decode cL_law 833 = .ok (.invokestatic 143, 3) := by decide +kernel
theorem dL_law_836 : decode cL_law 836 = .ok (.istore 6, 2) := by decide +kernel
theorem dL_law_838 : decode cL_law 838 = .ok (.aload_n 2, 1) := by decide +kernel
theorem dL_law_839 : decode cL_law 839 = .ok (.aload_n 0, 1) := by decide +kernel
theorem dL_law_840 : decode cL_law 840 = .ok (.iload 5, 2) := by decide +kernel
theorem dL_law_842 : decode cL_law 842 = .ok (.iconst 1, 1) := by decide +kernel
theorem dL_law_843 : decode cL_law 843 = .ok (.iadd, 1) := by decide +kernel
theorem dL_law_844 : decode cL_law 844 = .ok (.iaload, 1) := by decide +kernel
theorem dL_law_845 : decode cL_law 845 = .ok (.aload_n 0, 1) := by decide +kernel
theorem dL_law_846 : decode cL_law 846 = .ok (.iload 5, 2) := by decide +kernel
theorem dL_law_848 : decode cL_law 848 = .ok (.iconst 2, 1) := by decide +kernel
theorem dL_law_849 : decode cL_law 849 = .ok (.iadd, 1) := by decide +kernel
theorem dL_law_850 : decode cL_law 850 = .ok (.iaload, 1) := by decide +kernel
theorem dL_law_851 : decode cL_law 851 = .ok (.invokevirtual 145, 3) := by decide +kernel
theorem dL_law_854 : decode cL_law 854 = .ok (.istore 7, 2) := by decide +kernel
theorem dL_law_856 : decode cL_law 856 = .ok (.aload_n 2, 1) := by decide +kernel
theorem dL_law_857 : decode cL_law 857 = .ok (.invokevirtual 101, 3) := by decide +kernel
theorem dL_law_860 : decode cL_law 860 = .ok (.iload 6, 2) := by decide +kernel
theorem dL_law_862 : decode cL_law 862 = .ok (.if_icmp .eq 5, 3) := by decide +kernel
theorem dL_law_865 : decode cL_law 865 = .ok (.iconst 0, 1) := by decide +kernel
theorem dL_law_866 : decode cL_law 866 = .ok (.ireturn, 1) := by decide +kernel
theorem dL_law_867 : decode cL_law 867 = .ok (.iload 6, 2) := by decide +kernel
theorem dL_law_869 : decode cL_law 869 = .ok (.ifCond .ne 15, 3) := by decide +kernel
theorem dL_law_872 : decode cL_law 872 = .ok (.aload_n 3, 1) := by decide +kernel
theorem dL_law_873 : decode cL_law 873 = .ok (.iconst 0, 1) := by decide +kernel
theorem dL_law_874 : decode cL_law 874 = .ok (.laload, 1) := by decide +kernel
theorem dL_law_875 : decode cL_law 875 = .ok (.iload 7, 2) := by decide +kernel
theorem dL_law_877 : decode cL_law 877 = .ok (.i2l, 1) := by decide +kernel
theorem dL_law_878 : decode cL_law 878 = .ok (.lcmp, 1) := by decide +kernel
theorem dL_law_879 : decode cL_law 879 = .ok (.ifCond .eq 5, 3) := by decide +kernel
theorem dL_law_882 : decode cL_law 882 = .ok (.iconst 0, 1) := by decide +kernel
theorem dL_law_883 : decode cL_law 883 = .ok (.ireturn, 1) := by decide +kernel
theorem dL_law_884 : decode cL_law 884 = .ok (.goto 805, 3) := by decide +kernel
theorem dL_law_887 : decode cL_law 887 = .ok (.aload_n 1, 1) := by decide +kernel
theorem dL_law_888 : decode cL_law 888 = .ok (.aload_n 0, 1) := by decide +kernel
theorem dL_law_889 : decode cL_law 889 = .ok (.iload 5, 2) := by decide +kernel
theorem dL_law_891 : decode cL_law 891 = .ok (.iconst 1, 1) := by decide +kernel
theorem dL_law_892 : decode cL_law 892 = .ok (.iadd, 1) := by decide +kernel
theorem dL_law_893 : decode cL_law 893 = .ok (.iaload, 1) := by decide +kernel
theorem dL_law_894 : decode cL_law 894 = .ok (.aload_n 3, 1) := by decide +kernel
theorem dL_law_895 : decode cL_law 895 = .ok (.invokestatic 146, 3) := by decide +kernel
theorem dL_law_898 : decode cL_law 898 = .ok (.istore 6, 2) := by decide +kernel
theorem dL_law_900 : decode cL_law 900 = .ok (.aload_n 2, 1) := by decide +kernel
theorem dL_law_901 : decode cL_law 901 = .ok (.aload_n 0, 1) := by decide +kernel
theorem dL_law_902 : decode cL_law 902 = .ok (.iload 5, 2) := by decide +kernel
theorem dL_law_904 : decode cL_law 904 = .ok (.iconst 1, 1) := by decide +kernel
theorem dL_law_905 : decode cL_law 905 = .ok (.iadd, 1) := by decide +kernel
theorem dL_law_906 : decode cL_law 906 = .ok (.iaload, 1) := by decide +kernel
theorem dL_law_907 : decode cL_law 907 = .ok (.invokevirtual 148, 3) := by decide +kernel
theorem dL_law_910 : decode cL_law 910 = .ok (.istore 7, 2) := by decide +kernel
theorem dL_law_912 : decode cL_law 912 = .ok (.aload_n 2, 1) := by decide +kernel
theorem dL_law_913 : decode cL_law 913 = .ok (.invokevirtual 101, 3) := by decide +kernel
theorem dL_law_916 : decode cL_law 916 = .ok (.iload 6, 2) := by decide +kernel
theorem dL_law_918 : decode cL_law 918 = .ok (.if_icmp .eq 5, 3) := by decide +kernel
theorem dL_law_921 : decode cL_law 921 = .ok (.iconst 0, 1) := by decide +kernel
theorem dL_law_922 : decode cL_law 922 = .ok (.ireturn, 1) := by decide +kernel
theorem dL_law_923 : decode cL_law 923 = .ok (.iload 6, 2) := by decide +kernel
theorem dL_law_925 : decode cL_law 925 = .ok (.ifCond .ne 15, 3) := by decide +kernel
theorem dL_law_928 : decode cL_law 928 = .ok (.aload_n 3, 1) := by decide +kernel
theorem dL_law_929 : decode cL_law 929 = .ok (.iconst 0, 1) := by decide +kernel
theorem dL_law_930 : decode cL_law 930 = .ok (.laload, 1) := by decide +kernel
theorem dL_law_931 : decode cL_law 931 = .ok (.iload 7, 2) := by decide +kernel
theorem dL_law_933 : decode cL_law 933 = .ok (.i2l, 1) := by decide +kernel
theorem dL_law_934 : decode cL_law 934 = .ok (.lcmp, 1) := by decide +kernel
theorem dL_law_935 : decode cL_law 935 = .ok (.ifCond .eq 5, 3) := by decide +kernel
theorem dL_law_938 : decode cL_law 938 = .ok (.iconst 0, 1) := by decide +kernel
theorem dL_law_939 : decode cL_law 939 = .ok (.ireturn, 1) := by decide +kernel
theorem dL_law_940 : decode cL_law 940 = .ok (.goto 749, 3) := by decide +kernel
theorem dL_law_943 : decode cL_law 943 = .ok (.aload_n 1, 1) := by decide +kernel
theorem dL_law_944 : decode cL_law 944 = .ok (.aload_n 0, 1) := by decide +kernel
theorem dL_law_945 : decode cL_law 945 = .ok (.iload 5, 2) := by decide +kernel
theorem dL_law_947 : decode cL_law 947 = .ok (.iconst 1, 1) := by decide +kernel
theorem dL_law_948 : decode cL_law 948 = .ok (.iadd, 1) := by decide +kernel
theorem dL_law_949 : decode cL_law 949 = .ok (.iaload, 1) := by decide +kernel
theorem dL_law_950 : decode cL_law 950 = .ok (.aload_n 3, 1) := by decide +kernel
theorem dL_law_951 : decode cL_law 951 = .ok (.invokestatic 149, 3) := by decide +kernel
theorem dL_law_954 : decode cL_law 954 = .ok (.istore 6, 2) := by decide +kernel
theorem dL_law_956 : decode cL_law 956 = .ok (.aload_n 2, 1) := by decide +kernel
theorem dL_law_957 : decode cL_law 957 = .ok (.aload_n 0, 1) := by decide +kernel
theorem dL_law_958 : decode cL_law 958 = .ok (.iload 5, 2) := by decide +kernel
theorem dL_law_960 : decode cL_law 960 = .ok (.iconst 1, 1) := by decide +kernel
theorem dL_law_961 : decode cL_law 961 = .ok (.iadd, 1) := by decide +kernel
theorem dL_law_962 : decode cL_law 962 = .ok (.iaload, 1) := by decide +kernel
theorem dL_law_963 : decode cL_law 963 = .ok (.invokevirtual 151, 3) := by decide +kernel
theorem dL_law_966 : decode cL_law 966 = .ok (.istore 7, 2) := by decide +kernel
theorem dL_law_968 : decode cL_law 968 = .ok (.aload_n 2, 1) := by decide +kernel
theorem dL_law_969 : decode cL_law 969 = .ok (.invokevirtual 101, 3) := by decide +kernel
theorem dL_law_972 : decode cL_law 972 = .ok (.iload 6, 2) := by decide +kernel
theorem dL_law_974 : decode cL_law 974 = .ok (.if_icmp .eq 5, 3) := by decide +kernel
theorem dL_law_977 : decode cL_law 977 = .ok (.iconst 0, 1) := by decide +kernel
theorem dL_law_978 : decode cL_law 978 = .ok (.ireturn, 1) := by decide +kernel
theorem dL_law_979 : decode cL_law 979 = .ok (.iload 6, 2) := by decide +kernel
theorem dL_law_981 : decode cL_law 981 = .ok (.ifCond .ne 15, 3) := by decide +kernel
theorem dL_law_984 : decode cL_law 984 = .ok (.aload_n 3, 1) := by decide +kernel
theorem dL_law_985 : decode cL_law 985 = .ok (.iconst 0, 1) := by decide +kernel
theorem dL_law_986 : decode cL_law 986 = .ok (.laload, 1) := by decide +kernel
theorem dL_law_987 : decode cL_law 987 = .ok (.iload 7, 2) := by decide +kernel
theorem dL_law_989 : decode cL_law 989 = .ok (.i2l, 1) := by decide +kernel
theorem dL_law_990 : decode cL_law 990 = .ok (.lcmp, 1) := by decide +kernel
theorem dL_law_991 : decode cL_law 991 = .ok (.ifCond .eq 5, 3) := by decide +kernel
theorem dL_law_994 : decode cL_law 994 = .ok (.iconst 0, 1) := by decide +kernel
theorem dL_law_995 : decode cL_law 995 = .ok (.ireturn, 1) := by decide +kernel
theorem dL_law_996 : decode cL_law 996 = .ok (.goto 693, 3) := by decide +kernel
theorem dL_law_999 : decode cL_law 999 = .ok (.aload_n 1, 1) := by decide +kernel
theorem dL_law_1000 : decode cL_law 1000 = .ok (.aload_n 0, 1) := by decide +kernel
theorem dL_law_1001 : decode cL_law 1001 = .ok (.iload 5, 2) := by decide +kernel
theorem dL_law_1003 : decode cL_law 1003 = .ok (.iconst 1, 1) := by decide +kernel
theorem dL_law_1004 : decode cL_law 1004 = .ok (.iadd, 1) := by decide +kernel
theorem dL_law_1005 : decode cL_law 1005 = .ok (.iaload, 1) := by decide +kernel
theorem dL_law_1006 : decode cL_law 1006 = .ok (.aload_n 0, 1) := by decide +kernel
theorem dL_law_1007 : decode cL_law 1007 = .ok (.iload 5, 2) := by decide +kernel
theorem dL_law_1009 : decode cL_law 1009 = .ok (.iconst 2, 1) := by decide +kernel
theorem dL_law_1010 : decode cL_law 1010 = .ok (.iadd, 1) := by decide +kernel
theorem dL_law_1011 : decode cL_law 1011 = .ok (.iaload, 1) := by decide +kernel
theorem dL_law_1012 : decode cL_law 1012 = .ok (.aload_n 3, 1) := by decide +kernel
theorem dL_law_1013 : decode cL_law 1013 = .ok (.invokestatic 152, 3) := by decide +kernel
theorem dL_law_1016 : decode cL_law 1016 = .ok (.istore 6, 2) := by decide +kernel
theorem dL_law_1018 : decode cL_law 1018 = .ok (.aload_n 2, 1) := by decide +kernel
theorem dL_law_1019 : decode cL_law 1019 = .ok (.aload_n 0, 1) := by decide +kernel
theorem dL_law_1020 : decode cL_law 1020 = .ok (.iload 5, 2) := by decide +kernel
theorem dL_law_1022 : decode cL_law 1022 = .ok (.iconst 1, 1) := by decide +kernel
theorem dL_law_1023 : decode cL_law 1023 = .ok (.iadd, 1) := by decide +kernel
theorem dL_law_1024 : decode cL_law 1024 = .ok (.iaload, 1) := by decide +kernel
theorem dL_law_1025 : decode cL_law 1025 = .ok (.aload_n 0, 1) := by decide +kernel
theorem dL_law_1026 : decode cL_law 1026 = .ok (.iload 5, 2) := by decide +kernel
theorem dL_law_1028 : decode cL_law 1028 = .ok (.iconst 2, 1) := by decide +kernel
theorem dL_law_1029 : decode cL_law 1029 = .ok (.iadd, 1) := by decide +kernel
theorem dL_law_1030 : decode cL_law 1030 = .ok (.iaload, 1) := by decide +kernel
theorem dL_law_1031 : decode cL_law 1031 = .ok (.invokevirtual 154, 3) := by decide +kernel
theorem dL_law_1034 : decode cL_law 1034 = .ok (.istore 7, 2) := by decide +kernel
theorem dL_law_1036 : decode cL_law 1036 = .ok (.aload_n 2, 1) := by decide +kernel
theorem dL_law_1037 : decode cL_law 1037 = .ok (.invokevirtual 101, 3) := by decide +kernel
theorem dL_law_1040 : decode cL_law 1040 = .ok (.iload 6, 2) := by decide +kernel
theorem dL_law_1042 : decode cL_law 1042 = .ok (.if_icmp .eq 5, 3) := by decide +kernel
theorem dL_law_1045 : decode cL_law 1045 = .ok (.iconst 0, 1) := by decide +kernel
theorem dL_law_1046 : decode cL_law 1046 = .ok (.ireturn, 1) := by decide +kernel
theorem dL_law_1047 : decode cL_law 1047 = .ok (.iload 6, 2) := by decide +kernel
theorem dL_law_1049 : decode cL_law 1049 = .ok (.ifCond .ne 15, 3) := by decide +kernel
theorem dL_law_1052 : decode cL_law 1052 = .ok (.aload_n 3, 1) := by decide +kernel
theorem dL_law_1053 : decode cL_law 1053 = .ok (.iconst 0, 1) := by decide +kernel
theorem dL_law_1054 : decode cL_law 1054 = .ok (.laload, 1) := by decide +kernel
theorem dL_law_1055 : decode cL_law 1055 = .ok (.iload 7, 2) := by decide +kernel
theorem dL_law_1057 : decode cL_law 1057 = .ok (.i2l, 1) := by decide +kernel
theorem dL_law_1058 : decode cL_law 1058 = .ok (.lcmp, 1) := by decide +kernel
theorem dL_law_1059 : decode cL_law 1059 = .ok (.ifCond .eq 5, 3) := by decide +kernel
theorem dL_law_1062 : decode cL_law 1062 = .ok (.iconst 0, 1) := by decide +kernel
theorem dL_law_1063 : decode cL_law 1063 = .ok (.ireturn, 1) := by decide +kernel
theorem dL_law_1064 : decode cL_law 1064 = .ok (.goto 625, 3) := by decide +kernel
theorem dL_law_1067 : decode cL_law 1067 = .ok (.aload_n 1, 1) := by decide +kernel
theorem dL_law_1068 : decode cL_law 1068 = .ok (.aload_n 0, 1) := by decide +kernel
theorem dL_law_1069 : decode cL_law 1069 = .ok (.iload 5, 2) := by decide +kernel
theorem dL_law_1071 : decode cL_law 1071 = .ok (.iconst 1, 1) := by decide +kernel
theorem dL_law_1072 : decode cL_law 1072 = .ok (.iadd, 1) := by decide +kernel
theorem dL_law_1073 : decode cL_law 1073 = .ok (.iaload, 1) := by decide +kernel
theorem dL_law_1074 : decode cL_law 1074 = .ok (.aload_n 3, 1) := by decide +kernel
theorem dL_law_1075 : decode cL_law 1075 = .ok (.invokestatic 155, 3) := by decide +kernel
theorem dL_law_1078 : decode cL_law 1078 = .ok (.istore 6, 2) := by decide +kernel
theorem dL_law_1080 : decode cL_law 1080 = .ok (.aload_n 2, 1) := by decide +kernel
theorem dL_law_1081 : decode cL_law 1081 = .ok (.aload_n 0, 1) := by decide +kernel
theorem dL_law_1082 : decode cL_law 1082 = .ok (.iload 5, 2) := by decide +kernel
theorem dL_law_1084 : decode cL_law 1084 = .ok (.iconst 1, 1) := by decide +kernel
theorem dL_law_1085 : decode cL_law 1085 = .ok (.iadd, 1) := by decide +kernel
theorem dL_law_1086 : decode cL_law 1086 = .ok (.iaload, 1) := by decide +kernel
theorem dL_law_1087 : decode cL_law 1087 = .ok (.invokevirtual 157, 3) := by decide +kernel
theorem dL_law_1090 : decode cL_law 1090 = .ok (.istore 7, 2) := by decide +kernel
theorem dL_law_1092 : decode cL_law 1092 = .ok (.aload_n 2, 1) := by decide +kernel
theorem dL_law_1093 : decode cL_law 1093 = .ok (.invokevirtual 101, 3) := by decide +kernel
theorem dL_law_1096 : decode cL_law 1096 = .ok (.iload 6, 2) := by decide +kernel
theorem dL_law_1098 : decode cL_law 1098 = .ok (.if_icmp .eq 5, 3) := by decide +kernel
theorem dL_law_1101 : decode cL_law 1101 = .ok (.iconst 0, 1) := by decide +kernel
theorem dL_law_1102 : decode cL_law 1102 = .ok (.ireturn, 1) := by decide +kernel
theorem dL_law_1103 : decode cL_law 1103 = .ok (.iload 6, 2) := by decide +kernel
theorem dL_law_1105 : decode cL_law 1105 = .ok (.ifCond .ne 15, 3) := by decide +kernel
theorem dL_law_1108 : decode cL_law 1108 = .ok (.aload_n 3, 1) := by decide +kernel
theorem dL_law_1109 : decode cL_law 1109 = .ok (.iconst 0, 1) := by decide +kernel
theorem dL_law_1110 : decode cL_law 1110 = .ok (.laload, 1) := by decide +kernel
theorem dL_law_1111 : decode cL_law 1111 = .ok (.iload 7, 2) := by decide +kernel
theorem dL_law_1113 : decode cL_law 1113 = .ok (.i2l, 1) := by decide +kernel
theorem dL_law_1114 : decode cL_law 1114 = .ok (.lcmp, 1) := by decide +kernel
theorem dL_law_1115 : decode cL_law 1115 = .ok (.ifCond .eq 5, 3) := by decide +kernel
theorem dL_law_1118 : decode cL_law 1118 = .ok (.iconst 0, 1) := by decide +kernel
theorem dL_law_1119 : decode cL_law 1119 = .ok (.ireturn, 1) := by decide +kernel
theorem dL_law_1120 : decode cL_law 1120 = .ok (.goto 569, 3) := by decide +kernel
theorem dL_law_1123 : decode cL_law 1123 = .ok (.aload_n 1, 1) := by decide +kernel
theorem dL_law_1124 : decode cL_law 1124 = .ok (.aload_n 0, 1) := by decide +kernel
theorem dL_law_1125 : decode cL_law 1125 = .ok (.iload 5, 2) := by decide +kernel
theorem dL_law_1127 : decode cL_law 1127 = .ok (.iconst 1, 1) := by decide +kernel
theorem dL_law_1128 : decode cL_law 1128 = .ok (.iadd, 1) := by decide +kernel
theorem dL_law_1129 : decode cL_law 1129 = .ok (.iaload, 1) := by decide +kernel
theorem dL_law_1130 : decode cL_law 1130 = .ok (.aload_n 3, 1) := by decide +kernel
theorem dL_law_1131 : decode cL_law 1131 = .ok (.invokestatic 158, 3) := by decide +kernel
theorem dL_law_1134 : decode cL_law 1134 = .ok (.istore 6, 2) := by decide +kernel
theorem dL_law_1136 : decode cL_law 1136 = .ok (.aload_n 2, 1) := by decide +kernel
theorem dL_law_1137 : decode cL_law 1137 = .ok (.aload_n 0, 1) := by decide +kernel
theorem dL_law_1138 : decode cL_law 1138 = .ok (.iload 5, 2) := by decide +kernel
theorem dL_law_1140 : decode cL_law 1140 = .ok (.iconst 1, 1) := by decide +kernel
theorem dL_law_1141 : decode cL_law 1141 = .ok (.iadd, 1) := by decide +kernel
theorem dL_law_1142 : decode cL_law 1142 = .ok (.iaload, 1) := by decide +kernel
theorem dL_law_1143 : decode cL_law 1143 = .ok (.invokevirtual 160, 3) := by decide +kernel
theorem dL_law_1146 : decode cL_law 1146 = .ok (.istore 7, 2) := by decide +kernel
theorem dL_law_1148 : decode cL_law 1148 = .ok (.aload_n 2, 1) := by decide +kernel
theorem dL_law_1149 : decode cL_law 1149 = .ok (.invokevirtual 101, 3) := by decide +kernel
theorem dL_law_1152 : decode cL_law 1152 = .ok (.iload 6, 2) := by decide +kernel
theorem dL_law_1154 : decode cL_law 1154 = .ok (.if_icmp .eq 5, 3) := by decide +kernel
theorem dL_law_1157 : decode cL_law 1157 = .ok (.iconst 0, 1) := by decide +kernel
theorem dL_law_1158 : decode cL_law 1158 = .ok (.ireturn, 1) := by decide +kernel
theorem dL_law_1159 : decode cL_law 1159 = .ok (.iload 6, 2) := by decide +kernel
theorem dL_law_1161 : decode cL_law 1161 = .ok (.ifCond .ne 15, 3) := by decide +kernel
theorem dL_law_1164 : decode cL_law 1164 = .ok (.aload_n 3, 1) := by decide +kernel
theorem dL_law_1165 : decode cL_law 1165 = .ok (.iconst 0, 1) := by decide +kernel
theorem dL_law_1166 : decode cL_law 1166 = .ok (.laload, 1) := by decide +kernel
theorem dL_law_1167 : decode cL_law 1167 = .ok (.iload 7, 2) := by decide +kernel
theorem dL_law_1169 : decode cL_law 1169 = .ok (.i2l, 1) := by decide +kernel
theorem dL_law_1170 : decode cL_law 1170 = .ok (.lcmp, 1) := by decide +kernel
theorem dL_law_1171 : decode cL_law 1171 = .ok (.ifCond .eq 5, 3) := by decide +kernel
theorem dL_law_1174 : decode cL_law 1174 = .ok (.iconst 0, 1) := by decide +kernel
theorem dL_law_1175 : decode cL_law 1175 = .ok (.ireturn, 1) := by decide +kernel
theorem dL_law_1176 : decode cL_law 1176 = .ok (.goto 513, 3) := by decide +kernel
theorem dL_law_1179 : decode cL_law 1179 = .ok (.aload_n 1, 1) := by decide +kernel
theorem dL_law_1180 : decode cL_law 1180 = .ok (.aload_n 0, 1) := by decide +kernel
theorem dL_law_1181 : decode cL_law 1181 = .ok (.iload 5, 2) := by decide +kernel
theorem dL_law_1183 : decode cL_law 1183 = .ok (.iconst 1, 1) := by decide +kernel
theorem dL_law_1184 : decode cL_law 1184 = .ok (.iadd, 1) := by decide +kernel
theorem dL_law_1185 : decode cL_law 1185 = .ok (.iaload, 1) := by decide +kernel
theorem dL_law_1186 : decode cL_law 1186 = .ok (.aload_n 3, 1) := by decide +kernel
theorem dL_law_1187 : decode cL_law 1187 = .ok (.invokestatic 161, 3) := by decide +kernel
theorem dL_law_1190 : decode cL_law 1190 = .ok (.istore 6, 2) := by decide +kernel
theorem dL_law_1192 : decode cL_law 1192 = .ok (.aload_n 2, 1) := by decide +kernel
theorem dL_law_1193 : decode cL_law 1193 = .ok (.aload_n 0, 1) := by decide +kernel
theorem dL_law_1194 : decode cL_law 1194 = .ok (.iload 5, 2) := by decide +kernel
theorem dL_law_1196 : decode cL_law 1196 = .ok (.iconst 1, 1) := by decide +kernel
theorem dL_law_1197 : decode cL_law 1197 = .ok (.iadd, 1) := by decide +kernel
theorem dL_law_1198 : decode cL_law 1198 = .ok (.iaload, 1) := by decide +kernel
theorem dL_law_1199 : decode cL_law 1199 = .ok (.invokevirtual 163, 3) := by decide +kernel
theorem dL_law_1202 : decode cL_law 1202 = .ok (.istore 7, 2) := by decide +kernel
theorem dL_law_1204 : decode cL_law 1204 = .ok (.aload_n 2, 1) := by decide +kernel
theorem dL_law_1205 : decode cL_law 1205 = .ok (.invokevirtual 101, 3) := by decide +kernel
theorem dL_law_1208 : decode cL_law 1208 = .ok (.iload 6, 2) := by decide +kernel
theorem dL_law_1210 : decode cL_law 1210 = .ok (.if_icmp .eq 5, 3) := by decide +kernel
theorem dL_law_1213 : decode cL_law 1213 = .ok (.iconst 0, 1) := by decide +kernel
theorem dL_law_1214 : decode cL_law 1214 = .ok (.ireturn, 1) := by decide +kernel
theorem dL_law_1215 : decode cL_law 1215 = .ok (.iload 6, 2) := by decide +kernel
theorem dL_law_1217 : decode cL_law 1217 = .ok (.ifCond .ne 15, 3) := by decide +kernel
theorem dL_law_1220 : decode cL_law 1220 = .ok (.aload_n 3, 1) := by decide +kernel
theorem dL_law_1221 : decode cL_law 1221 = .ok (.iconst 0, 1) := by decide +kernel
theorem dL_law_1222 : decode cL_law 1222 = .ok (.laload, 1) := by decide +kernel
theorem dL_law_1223 : decode cL_law 1223 = .ok (.iload 7, 2) := by decide +kernel
theorem dL_law_1225 : decode cL_law 1225 = .ok (.i2l, 1) := by decide +kernel
theorem dL_law_1226 : decode cL_law 1226 = .ok (.lcmp, 1) := by decide +kernel
theorem dL_law_1227 : decode cL_law 1227 = .ok (.ifCond .eq 5, 3) := by decide +kernel
theorem dL_law_1230 : decode cL_law 1230 = .ok (.iconst 0, 1) := by decide +kernel
theorem dL_law_1231 : decode cL_law 1231 = .ok (.ireturn, 1) := by decide +kernel
theorem dL_law_1232 : decode cL_law 1232 = .ok (.goto 457, 3) := by decide +kernel
theorem dL_law_1235 : decode cL_law 1235 = .ok (.aload_n 1, 1) := by decide +kernel
theorem dL_law_1236 : decode cL_law 1236 = .ok (.aload_n 0, 1) := by decide +kernel
theorem dL_law_1237 : decode cL_law 1237 = .ok (.iload 5, 2) := by decide +kernel
theorem dL_law_1239 : decode cL_law 1239 = .ok (.iconst 1, 1) := by decide +kernel
theorem dL_law_1240 : decode cL_law 1240 = .ok (.iadd, 1) := by decide +kernel
theorem dL_law_1241 : decode cL_law 1241 = .ok (.iaload, 1) := by decide +kernel
theorem dL_law_1242 : decode cL_law 1242 = .ok (.aload_n 0, 1) := by decide +kernel
theorem dL_law_1243 : decode cL_law 1243 = .ok (.iload 5, 2) := by decide +kernel
theorem dL_law_1245 : decode cL_law 1245 = .ok (.iconst 2, 1) := by decide +kernel
theorem dL_law_1246 : decode cL_law 1246 = .ok (.iadd, 1) := by decide +kernel
theorem dL_law_1247 : decode cL_law 1247 = .ok (.iaload, 1) := by decide +kernel
theorem dL_law_1248 : decode cL_law 1248 = .ok (.aload_n 3, 1) := by decide +kernel
theorem dL_law_1249 : decode cL_law 1249 = .ok (.invokestatic 164, 3) := by decide +kernel
theorem dL_law_1252 : decode cL_law 1252 = .ok (.istore 6, 2) := by decide +kernel
theorem dL_law_1254 : decode cL_law 1254 = .ok (.aload_n 2, 1) := by decide +kernel
theorem dL_law_1255 : decode cL_law 1255 = .ok (.aload_n 0, 1) := by decide +kernel
theorem dL_law_1256 : decode cL_law 1256 = .ok (.iload 5, 2) := by decide +kernel
theorem dL_law_1258 : decode cL_law 1258 = .ok (.iconst 1, 1) := by decide +kernel
theorem dL_law_1259 : decode cL_law 1259 = .ok (.iadd, 1) := by decide +kernel
theorem dL_law_1260 : decode cL_law 1260 = .ok (.iaload, 1) := by decide +kernel
theorem dL_law_1261 : decode cL_law 1261 = .ok (.aload_n 0, 1) := by decide +kernel
theorem dL_law_1262 : decode cL_law 1262 = .ok (.iload 5, 2) := by decide +kernel
theorem dL_law_1264 : decode cL_law 1264 = .ok (.iconst 2, 1) := by decide +kernel
theorem dL_law_1265 : decode cL_law 1265 = .ok (.iadd, 1) := by decide +kernel
theorem dL_law_1266 : decode cL_law 1266 = .ok (.iaload, 1) := by decide +kernel
theorem dL_law_1267 : decode cL_law 1267 = .ok (.invokevirtual 166, 3) := by decide +kernel
theorem dL_law_1270 : decode cL_law 1270 = .ok (.istore 7, 2) := by decide +kernel
theorem dL_law_1272 : decode cL_law 1272 = .ok (.aload_n 2, 1) := by decide +kernel
theorem dL_law_1273 : decode cL_law 1273 = .ok (.invokevirtual 101, 3) := by decide +kernel
theorem dL_law_1276 : decode cL_law 1276 = .ok (.iload 6, 2) := by decide +kernel
theorem dL_law_1278 : decode cL_law 1278 = .ok (.if_icmp .eq 5, 3) := by decide +kernel
theorem dL_law_1281 : decode cL_law 1281 = .ok (.iconst 0, 1) := by decide +kernel
theorem dL_law_1282 : decode cL_law 1282 = .ok (.ireturn, 1) := by decide +kernel
theorem dL_law_1283 : decode cL_law 1283 = .ok (.iload 6, 2) := by decide +kernel
theorem dL_law_1285 : decode cL_law 1285 = .ok (.ifCond .ne 15, 3) := by decide +kernel
theorem dL_law_1288 : decode cL_law 1288 = .ok (.aload_n 3, 1) := by decide +kernel
theorem dL_law_1289 : decode cL_law 1289 = .ok (.iconst 0, 1) := by decide +kernel
theorem dL_law_1290 : decode cL_law 1290 = .ok (.laload, 1) := by decide +kernel
theorem dL_law_1291 : decode cL_law 1291 = .ok (.iload 7, 2) := by decide +kernel
theorem dL_law_1293 : decode cL_law 1293 = .ok (.i2l, 1) := by decide +kernel
theorem dL_law_1294 : decode cL_law 1294 = .ok (.lcmp, 1) := by decide +kernel
theorem dL_law_1295 : decode cL_law 1295 = .ok (.ifCond .eq 5, 3) := by decide +kernel
theorem dL_law_1298 : decode cL_law 1298 = .ok (.iconst 0, 1) := by decide +kernel
theorem dL_law_1299 : decode cL_law 1299 = .ok (.ireturn, 1) := by decide +kernel
theorem dL_law_1300 : decode cL_law 1300 = .ok (.goto 389, 3) := by decide +kernel
theorem dL_law_1303 : decode cL_law 1303 = .ok (.aload_n 1, 1) := by decide +kernel
theorem dL_law_1304 : decode cL_law 1304 = .ok (.aload_n 0, 1) := by decide +kernel
theorem dL_law_1305 : decode cL_law 1305 = .ok (.iload 5, 2) := by decide +kernel
theorem dL_law_1307 : decode cL_law 1307 = .ok (.iconst 1, 1) := by decide +kernel
theorem dL_law_1308 : decode cL_law 1308 = .ok (.iadd, 1) := by decide +kernel
theorem dL_law_1309 : decode cL_law 1309 = .ok (.iaload, 1) := by decide +kernel
theorem dL_law_1310 : decode cL_law 1310 = .ok (.aload_n 0, 1) := by decide +kernel
theorem dL_law_1311 : decode cL_law 1311 = .ok (.iload 5, 2) := by decide +kernel
theorem dL_law_1313 : decode cL_law 1313 = .ok (.iconst 2, 1) := by decide +kernel
theorem dL_law_1314 : decode cL_law 1314 = .ok (.iadd, 1) := by decide +kernel
theorem dL_law_1315 : decode cL_law 1315 = .ok (.iaload, 1) := by decide +kernel
theorem dL_law_1316 : decode cL_law 1316 = .ok (.aload_n 3, 1) := by decide +kernel
theorem dL_law_1317 : decode cL_law 1317 = .ok (.invokestatic 167, 3) := by decide +kernel
theorem dL_law_1320 : decode cL_law 1320 = .ok (.istore 6, 2) := by decide +kernel
theorem dL_law_1322 : decode cL_law 1322 = .ok (.aload_n 2, 1) := by decide +kernel
theorem dL_law_1323 : decode cL_law 1323 = .ok (.aload_n 0, 1) := by decide +kernel
theorem dL_law_1324 : decode cL_law 1324 = .ok (.iload 5, 2) := by decide +kernel
theorem dL_law_1326 : decode cL_law 1326 = .ok (.iconst 1, 1) := by decide +kernel
theorem dL_law_1327 : decode cL_law 1327 = .ok (.iadd, 1) := by decide +kernel
theorem dL_law_1328 : decode cL_law 1328 = .ok (.iaload, 1) := by decide +kernel
theorem dL_law_1329 : decode cL_law 1329 = .ok (.aload_n 0, 1) := by decide +kernel
theorem dL_law_1330 : decode cL_law 1330 = .ok (.iload 5, 2) := by decide +kernel
theorem dL_law_1332 : decode cL_law 1332 = .ok (.iconst 2, 1) := by decide +kernel
theorem dL_law_1333 : decode cL_law 1333 = .ok (.iadd, 1) := by decide +kernel
theorem dL_law_1334 : decode cL_law 1334 = .ok (.iaload, 1) := by decide +kernel
theorem dL_law_1335 : decode cL_law 1335 = .ok (.invokevirtual 169, 3) := by decide +kernel
theorem dL_law_1338 : decode cL_law 1338 = .ok (.istore 7, 2) := by decide +kernel
theorem dL_law_1340 : decode cL_law 1340 = .ok (.aload_n 2, 1) := by decide +kernel
theorem dL_law_1341 : decode cL_law 1341 = .ok (.invokevirtual 101, 3) := by decide +kernel
theorem dL_law_1344 : decode cL_law 1344 = .ok (.iload 6, 2) := by decide +kernel
theorem dL_law_1346 : decode cL_law 1346 = .ok (.if_icmp .eq 5, 3) := by decide +kernel
theorem dL_law_1349 : decode cL_law 1349 = .ok (.iconst 0, 1) := by decide +kernel
theorem dL_law_1350 : decode cL_law 1350 = .ok (.ireturn, 1) := by decide +kernel
theorem dL_law_1351 : decode cL_law 1351 = .ok (.iload 6, 2) := by decide +kernel
theorem dL_law_1353 : decode cL_law 1353 = .ok (.ifCond .ne 15, 3) := by decide +kernel
theorem dL_law_1356 : decode cL_law 1356 = .ok (.aload_n 3, 1) := by decide +kernel
theorem dL_law_1357 : decode cL_law 1357 = .ok (.iconst 0, 1) := by decide +kernel
theorem dL_law_1358 : decode cL_law 1358 = .ok (.laload, 1) := by decide +kernel
theorem dL_law_1359 : decode cL_law 1359 = .ok (.iload 7, 2) := by decide +kernel
theorem dL_law_1361 : decode cL_law 1361 = .ok (.i2l, 1) := by decide +kernel
theorem dL_law_1362 : decode cL_law 1362 = .ok (.lcmp, 1) := by decide +kernel
theorem dL_law_1363 : decode cL_law 1363 = .ok (.ifCond .eq 5, 3) := by decide +kernel
theorem dL_law_1366 : decode cL_law 1366 = .ok (.iconst 0, 1) := by decide +kernel
theorem dL_law_1367 : decode cL_law 1367 = .ok (.ireturn, 1) := by decide +kernel
theorem dL_law_1368 : decode cL_law 1368 = .ok (.goto 321, 3) := by decide +kernel
theorem dL_law_1371 : decode cL_law 1371 = .ok (.aload_n 1, 1) := by decide +kernel
theorem dL_law_1372 : decode cL_law 1372 = .ok (.aload_n 0, 1) := by decide +kernel
theorem dL_law_1373 : decode cL_law 1373 = .ok (.iload 5, 2) := by decide +kernel
theorem dL_law_1375 : decode cL_law 1375 = .ok (.iconst 1, 1) := by decide +kernel
theorem dL_law_1376 : decode cL_law 1376 = .ok (.iadd, 1) := by decide +kernel
theorem dL_law_1377 : decode cL_law 1377 = .ok (.iaload, 1) := by decide +kernel
theorem dL_law_1378 : decode cL_law 1378 = .ok (.aload_n 3, 1) := by decide +kernel
theorem dL_law_1379 : decode cL_law 1379 = .ok (.invokestatic 170, 3) := by decide +kernel
theorem dL_law_1382 : decode cL_law 1382 = .ok (.istore 6, 2) := by decide +kernel
theorem dL_law_1384 : decode cL_law 1384 = .ok (.aload_n 2, 1) := by decide +kernel
theorem dL_law_1385 : decode cL_law 1385 = .ok (.aload_n 0, 1) := by decide +kernel
theorem dL_law_1386 : decode cL_law 1386 = .ok (.iload 5, 2) := by decide +kernel
theorem dL_law_1388 : decode cL_law 1388 = .ok (.iconst 1, 1) := by decide +kernel
theorem dL_law_1389 : decode cL_law 1389 = .ok (.iadd, 1) := by decide +kernel
theorem dL_law_1390 : decode cL_law 1390 = .ok (.iaload, 1) := by decide +kernel
theorem dL_law_1391 : decode cL_law 1391 = .ok (.invokevirtual 172, 3) := by decide +kernel
theorem dL_law_1394 : decode cL_law 1394 = .ok (.istore 7, 2) := by decide +kernel
theorem dL_law_1396 : decode cL_law 1396 = .ok (.aload_n 2, 1) := by decide +kernel
theorem dL_law_1397 : decode cL_law 1397 = .ok (.invokevirtual 101, 3) := by decide +kernel
theorem dL_law_1400 : decode cL_law 1400 = .ok (.iload 6, 2) := by decide +kernel
theorem dL_law_1402 : decode cL_law 1402 = .ok (.if_icmp .eq 5, 3) := by decide +kernel
theorem dL_law_1405 : decode cL_law 1405 = .ok (.iconst 0, 1) := by decide +kernel
theorem dL_law_1406 : decode cL_law 1406 = .ok (.ireturn, 1) := by decide +kernel
theorem dL_law_1407 : decode cL_law 1407 = .ok (.iload 6, 2) := by decide +kernel
theorem dL_law_1409 : decode cL_law 1409 = .ok (.ifCond .ne 15, 3) := by decide +kernel
theorem dL_law_1412 : decode cL_law 1412 = .ok (.aload_n 3, 1) := by decide +kernel
theorem dL_law_1413 : decode cL_law 1413 = .ok (.iconst 0, 1) := by decide +kernel
theorem dL_law_1414 : decode cL_law 1414 = .ok (.laload, 1) := by decide +kernel
theorem dL_law_1415 : decode cL_law 1415 = .ok (.iload 7, 2) := by decide +kernel
theorem dL_law_1417 : decode cL_law 1417 = .ok (.i2l, 1) := by decide +kernel
theorem dL_law_1418 : decode cL_law 1418 = .ok (.lcmp, 1) := by decide +kernel
theorem dL_law_1419 : decode cL_law 1419 = .ok (.ifCond .eq 5, 3) := by decide +kernel
theorem dL_law_1422 : decode cL_law 1422 = .ok (.iconst 0, 1) := by decide +kernel
theorem dL_law_1423 : decode cL_law 1423 = .ok (.ireturn, 1) := by decide +kernel
theorem dL_law_1424 : decode cL_law 1424 = .ok (.goto 265, 3) := by decide +kernel
theorem dL_law_1427 : decode cL_law 1427 = .ok (.aload_n 1, 1) := by decide +kernel
theorem dL_law_1428 : decode cL_law 1428 = .ok (.aload_n 0, 1) := by decide +kernel
theorem dL_law_1429 : decode cL_law 1429 = .ok (.iload 5, 2) := by decide +kernel
theorem dL_law_1431 : decode cL_law 1431 = .ok (.iconst 1, 1) := by decide +kernel
theorem dL_law_1432 : decode cL_law 1432 = .ok (.iadd, 1) := by decide +kernel
theorem dL_law_1433 : decode cL_law 1433 = .ok (.iaload, 1) := by decide +kernel
theorem dL_law_1434 : decode cL_law 1434 = .ok (.aload_n 0, 1) := by decide +kernel
theorem dL_law_1435 : decode cL_law 1435 = .ok (.iload 5, 2) := by decide +kernel
theorem dL_law_1437 : decode cL_law 1437 = .ok (.iconst 2, 1) := by decide +kernel
theorem dL_law_1438 : decode cL_law 1438 = .ok (.iadd, 1) := by decide +kernel
theorem dL_law_1439 : decode cL_law 1439 = .ok (.iaload, 1) := by decide +kernel
theorem dL_law_1440 : decode cL_law 1440 = .ok (.aload_n 3, 1) := by decide +kernel
theorem dL_law_1441 : decode cL_law 1441 = .ok (.invokestatic 173, 3) := by decide +kernel
theorem dL_law_1444 : decode cL_law 1444 = .ok (.istore 6, 2) := by decide +kernel
theorem dL_law_1446 : decode cL_law 1446 = .ok (.aload_n 2, 1) := by decide +kernel
theorem dL_law_1447 : decode cL_law 1447 = .ok (.aload_n 0, 1) := by decide +kernel
theorem dL_law_1448 : decode cL_law 1448 = .ok (.iload 5, 2) := by decide +kernel
theorem dL_law_1450 : decode cL_law 1450 = .ok (.iconst 1, 1) := by decide +kernel
theorem dL_law_1451 : decode cL_law 1451 = .ok (.iadd, 1) := by decide +kernel
theorem dL_law_1452 : decode cL_law 1452 = .ok (.iaload, 1) := by decide +kernel
theorem dL_law_1453 : decode cL_law 1453 = .ok (.aload_n 0, 1) := by decide +kernel
theorem dL_law_1454 : decode cL_law 1454 = .ok (.iload 5, 2) := by decide +kernel
theorem dL_law_1456 : decode cL_law 1456 = .ok (.iconst 2, 1) := by decide +kernel
theorem dL_law_1457 : decode cL_law 1457 = .ok (.iadd, 1) := by decide +kernel
theorem dL_law_1458 : decode cL_law 1458 = .ok (.iaload, 1) := by decide +kernel
theorem dL_law_1459 : decode cL_law 1459 = .ok (.invokevirtual 175, 3) := by decide +kernel
theorem dL_law_1462 : decode cL_law 1462 = .ok (.istore 7, 2) := by decide +kernel
theorem dL_law_1464 : decode cL_law 1464 = .ok (.aload_n 2, 1) := by decide +kernel
theorem dL_law_1465 : decode cL_law 1465 = .ok (.invokevirtual 101, 3) := by decide +kernel
theorem dL_law_1468 : decode cL_law 1468 = .ok (.iload 6, 2) := by decide +kernel
theorem dL_law_1470 : decode cL_law 1470 = .ok (.if_icmp .eq 5, 3) := by decide +kernel
theorem dL_law_1473 : decode cL_law 1473 = .ok (.iconst 0, 1) := by decide +kernel
theorem dL_law_1474 : decode cL_law 1474 = .ok (.ireturn, 1) := by decide +kernel
theorem dL_law_1475 : decode cL_law 1475 = .ok (.iload 6, 2) := by decide +kernel
theorem dL_law_1477 : decode cL_law 1477 = .ok (.ifCond .ne 15, 3) := by decide +kernel
theorem dL_law_1480 : decode cL_law 1480 = .ok (.aload_n 3, 1) := by decide +kernel
theorem dL_law_1481 : decode cL_law 1481 = .ok (.iconst 0, 1) := by decide +kernel
theorem dL_law_1482 : decode cL_law 1482 = .ok (.laload, 1) := by decide +kernel
theorem dL_law_1483 : decode cL_law 1483 = .ok (.iload 7, 2) := by decide +kernel
theorem dL_law_1485 : decode cL_law 1485 = .ok (.i2l, 1) := by decide +kernel
theorem dL_law_1486 : decode cL_law 1486 = .ok (.lcmp, 1) := by decide +kernel
theorem dL_law_1487 : decode cL_law 1487 = .ok (.ifCond .eq 5, 3) := by decide +kernel
theorem dL_law_1490 : decode cL_law 1490 = .ok (.iconst 0, 1) := by decide +kernel
theorem dL_law_1491 : decode cL_law 1491 = .ok (.ireturn, 1) := by decide +kernel
theorem dL_law_1492 : decode cL_law 1492 = .ok (.goto 197, 3) := by decide +kernel
theorem dL_law_1495 : decode cL_law 1495 = .ok (.aload_n 1, 1) := by decide +kernel
theorem dL_law_1496 : decode cL_law 1496 = .ok (.aload_n 0, 1) := by decide +kernel
theorem dL_law_1497 : decode cL_law 1497 = .ok (.iload 5, 2) := by decide +kernel
theorem dL_law_1499 : decode cL_law 1499 = .ok (.iconst 1, 1) := by decide +kernel
theorem dL_law_1500 : decode cL_law 1500 = .ok (.iadd, 1) := by decide +kernel
theorem dL_law_1501 : decode cL_law 1501 = .ok (.iaload, 1) := by decide +kernel
theorem dL_law_1502 : decode cL_law 1502 = .ok (.aload_n 0, 1) := by decide +kernel
theorem dL_law_1503 : decode cL_law 1503 = .ok (.iload 5, 2) := by decide +kernel
theorem dL_law_1505 : decode cL_law 1505 = .ok (.iconst 2, 1) := by decide +kernel
theorem dL_law_1506 : decode cL_law 1506 = .ok (.iadd, 1) := by decide +kernel
theorem dL_law_1507 : decode cL_law 1507 = .ok (.iaload, 1) := by decide +kernel
theorem dL_law_1508 : decode cL_law 1508 = .ok (.aload_n 0, 1) := by decide +kernel
theorem dL_law_1509 : decode cL_law 1509 = .ok (.iload 5, 2) := by decide +kernel
theorem dL_law_1511 : decode cL_law 1511 = .ok (.iconst 3, 1) := by decide +kernel
theorem dL_law_1512 : decode cL_law 1512 = .ok (.iadd, 1) := by decide +kernel
theorem dL_law_1513 : decode cL_law 1513 = .ok (.iaload, 1) := by decide +kernel
theorem dL_law_1514 : decode cL_law 1514 = .ok (.aload_n 3, 1) := by decide +kernel
theorem dL_law_1515 : decode cL_law 1515 = .ok (.invokestatic 176, 3) := by decide +kernel
theorem dL_law_1518 : decode cL_law 1518 = .ok (.istore 6, 2) := by decide +kernel
theorem dL_law_1520 : decode cL_law 1520 = .ok (.aload_n 2, 1) := by decide +kernel
theorem dL_law_1521 : decode cL_law 1521 = .ok (.aload_n 0, 1) := by decide +kernel
theorem dL_law_1522 : decode cL_law 1522 = .ok (.iload 5, 2) := by decide +kernel
theorem dL_law_1524 : decode cL_law 1524 = .ok (.iconst 1, 1) := by decide +kernel
theorem dL_law_1525 : decode cL_law 1525 = .ok (.iadd, 1) := by decide +kernel
theorem dL_law_1526 : decode cL_law 1526 = .ok (.iaload, 1) := by decide +kernel
theorem dL_law_1527 : decode cL_law 1527 = .ok (.aload_n 0, 1) := by decide +kernel
theorem dL_law_1528 : decode cL_law 1528 = .ok (.iload 5, 2) := by decide +kernel
theorem dL_law_1530 : decode cL_law 1530 = .ok (.iconst 2, 1) := by decide +kernel
theorem dL_law_1531 : decode cL_law 1531 = .ok (.iadd, 1) := by decide +kernel
theorem dL_law_1532 : decode cL_law 1532 = .ok (.iaload, 1) := by decide +kernel
theorem dL_law_1533 : decode cL_law 1533 = .ok (.aload_n 0, 1) := by decide +kernel
theorem dL_law_1534 : decode cL_law 1534 = .ok (.iload 5, 2) := by decide +kernel
theorem dL_law_1536 : decode cL_law 1536 = .ok (.iconst 3, 1) := by decide +kernel
theorem dL_law_1537 : decode cL_law 1537 = .ok (.iadd, 1) := by decide +kernel
theorem dL_law_1538 : decode cL_law 1538 = .ok (.iaload, 1) := by decide +kernel
theorem dL_law_1539 : decode cL_law 1539 = .ok (.invokevirtual 178, 3) := by decide +kernel
theorem dL_law_1542 : decode cL_law 1542 = .ok (.istore 7, 2) := by decide +kernel
theorem dL_law_1544 : decode cL_law 1544 = .ok (.aload_n 2, 1) := by decide +kernel
theorem dL_law_1545 : decode cL_law 1545 = .ok (.invokevirtual 101, 3) := by decide +kernel
theorem dL_law_1548 : decode cL_law 1548 = .ok (.iload 6, 2) := by decide +kernel
theorem dL_law_1550 : decode cL_law 1550 = .ok (.if_icmp .eq 5, 3) := by decide +kernel
theorem dL_law_1553 : decode cL_law 1553 = .ok (.iconst 0, 1) := by decide +kernel
theorem dL_law_1554 : decode cL_law 1554 = .ok (.ireturn, 1) := by decide +kernel
theorem dL_law_1555 : decode cL_law 1555 = .ok (.iload 6, 2) := by decide +kernel
theorem dL_law_1557 : decode cL_law 1557 = .ok (.ifCond .ne 15, 3) := by decide +kernel
theorem dL_law_1560 : decode cL_law 1560 = .ok (.aload_n 3, 1) := by decide +kernel
theorem dL_law_1561 : decode cL_law 1561 = .ok (.iconst 0, 1) := by decide +kernel
theorem dL_law_1562 : decode cL_law 1562 = .ok (.laload, 1) := by decide +kernel
theorem dL_law_1563 : decode cL_law 1563 = .ok (.iload 7, 2) := by decide +kernel
theorem dL_law_1565 : decode cL_law 1565 = .ok (.i2l, 1) := by decide +kernel
theorem dL_law_1566 : decode cL_law 1566 = .ok (.lcmp, 1) := by decide +kernel
theorem dL_law_1567 : decode cL_law 1567 = .ok (.ifCond .eq 5, 3) := by decide +kernel
theorem dL_law_1570 : decode cL_law 1570 = .ok (.iconst 0, 1) := by decide +kernel
theorem dL_law_1571 : decode cL_law 1571 = .ok (.ireturn, 1) := by decide +kernel
theorem dL_law_1572 : decode cL_law 1572 = .ok (.goto 117, 3) := by decide +kernel
theorem dL_law_1575 : decode cL_law 1575 = .ok (.aload_n 1, 1) := by decide +kernel
theorem dL_law_1576 : decode cL_law 1576 = .ok (.aload_n 0, 1) := by decide +kernel
theorem dL_law_1577 : decode cL_law 1577 = .ok (.iload 5, 2) := by decide +kernel
theorem dL_law_1579 : decode cL_law 1579 = .ok (.iconst 1, 1) := by decide +kernel
theorem dL_law_1580 : decode cL_law 1580 = .ok (.iadd, 1) := by decide +kernel
theorem dL_law_1581 : decode cL_law 1581 = .ok (.iaload, 1) := by decide +kernel
theorem dL_law_1582 : decode cL_law 1582 = .ok (.aload_n 3, 1) := by decide +kernel
theorem dL_law_1583 : decode cL_law 1583 = .ok (.invokestatic 179, 3) := by decide +kernel
theorem dL_law_1586 : decode cL_law 1586 = .ok (.istore 6, 2) := by decide +kernel
theorem dL_law_1588 : decode cL_law 1588 = .ok (.aload_n 2, 1) := by decide +kernel
theorem dL_law_1589 : decode cL_law 1589 = .ok (.aload_n 0, 1) := by decide +kernel
theorem dL_law_1590 : decode cL_law 1590 = .ok (.iload 5, 2) := by decide +kernel
theorem dL_law_1592 : decode cL_law 1592 = .ok (.iconst 1, 1) := by decide +kernel
theorem dL_law_1593 : decode cL_law 1593 = .ok (.iadd, 1) := by decide +kernel
theorem dL_law_1594 : decode cL_law 1594 = .ok (.iaload, 1) := by decide +kernel
theorem dL_law_1595 : decode cL_law 1595 = .ok (.invokevirtual 181, 3) := by decide +kernel
theorem dL_law_1598 : decode cL_law 1598 = .ok (.istore 7, 2) := by decide +kernel
theorem dL_law_1600 : decode cL_law 1600 = .ok (.aload_n 2, 1) := by decide +kernel
theorem dL_law_1601 : decode cL_law 1601 = .ok (.invokevirtual 101, 3) := by decide +kernel
theorem dL_law_1604 : decode cL_law 1604 = .ok (.iload 6, 2) := by decide +kernel
theorem dL_law_1606 : decode cL_law 1606 = .ok (.if_icmp .eq 5, 3) := by decide +kernel
theorem dL_law_1609 : decode cL_law 1609 = .ok (.iconst 0, 1) := by decide +kernel
theorem dL_law_1610 : decode cL_law 1610 = .ok (.ireturn, 1) := by decide +kernel
theorem dL_law_1611 : decode cL_law 1611 = .ok (.iload 6, 2) := by decide +kernel
theorem dL_law_1613 : decode cL_law 1613 = .ok (.ifCond .ne 15, 3) := by decide +kernel
theorem dL_law_1616 : decode cL_law 1616 = .ok (.aload_n 3, 1) := by decide +kernel
theorem dL_law_1617 : decode cL_law 1617 = .ok (.iconst 0, 1) := by decide +kernel
theorem dL_law_1618 : decode cL_law 1618 = .ok (.laload, 1) := by decide +kernel
theorem dL_law_1619 : decode cL_law 1619 = .ok (.iload 7, 2) := by decide +kernel
theorem dL_law_1621 : decode cL_law 1621 = .ok (.i2l, 1) := by decide +kernel
theorem dL_law_1622 : decode cL_law 1622 = .ok (.lcmp, 1) := by decide +kernel
theorem dL_law_1623 : decode cL_law 1623 = .ok (.ifCond .eq 5, 3) := by decide +kernel
theorem dL_law_1626 : decode cL_law 1626 = .ok (.iconst 0, 1) := by decide +kernel
theorem dL_law_1627 : decode cL_law 1627 = .ok (.ireturn, 1) := by decide +kernel
theorem dL_law_1628 : decode cL_law 1628 = .ok (.goto 61, 3) := by decide +kernel
theorem dL_law_1631 : decode cL_law 1631 = .ok (.aload_n 1, 1) := by decide +kernel
theorem dL_law_1632 : decode cL_law 1632 = .ok (.aload_n 3, 1) := by decide +kernel
theorem dL_law_1633 : decode cL_law 1633 = .ok (.invokestatic 182, 3) := by decide +kernel
theorem dL_law_1636 : decode cL_law 1636 = .ok (.istore 6, 2) := by decide +kernel
theorem dL_law_1638 : decode cL_law 1638 = .ok (.aload_n 2, 1) := by decide +kernel
theorem dL_law_1639 : decode cL_law 1639 = .ok (.invokevirtual 184, 3) := by decide +kernel
theorem dL_law_1642 : decode cL_law 1642 = .ok (.istore 7, 2) := by decide +kernel
theorem dL_law_1644 : decode cL_law 1644 = .ok (.aload_n 2, 1) := by decide +kernel
theorem dL_law_1645 : decode cL_law 1645 = .ok (.invokevirtual 101, 3) := by decide +kernel
theorem dL_law_1648 : decode cL_law 1648 = .ok (.iload 6, 2) := by decide +kernel
theorem dL_law_1650 : decode cL_law 1650 = .ok (.if_icmp .eq 5, 3) := by decide +kernel
theorem dL_law_1653 : decode cL_law 1653 = .ok (.iconst 0, 1) := by decide +kernel
theorem dL_law_1654 : decode cL_law 1654 = .ok (.ireturn, 1) := by decide +kernel
theorem dL_law_1655 : decode cL_law 1655 = .ok (.iload 6, 2) := by decide +kernel
theorem dL_law_1657 : decode cL_law 1657 = .ok (.ifCond .ne 15, 3) := by decide +kernel
theorem dL_law_1660 : decode cL_law 1660 = .ok (.aload_n 3, 1) := by decide +kernel
theorem dL_law_1661 : decode cL_law 1661 = .ok (.iconst 0, 1) := by decide +kernel
theorem dL_law_1662 : decode cL_law 1662 = .ok (.laload, 1) := by decide +kernel
theorem dL_law_1663 : decode cL_law 1663 = .ok (.iload 7, 2) := by decide +kernel
theorem dL_law_1665 : decode cL_law 1665 = .ok (.i2l, 1) := by decide +kernel
theorem dL_law_1666 : decode cL_law 1666 = .ok (.lcmp, 1) := by decide +kernel
theorem dL_law_1667 : decode cL_law 1667 = .ok (.ifCond .eq 5, 3) := by decide +kernel
theorem dL_law_1670 : decode cL_law 1670 = .ok (.iconst 0, 1) := by decide +kernel
theorem dL_law_1671 : decode cL_law 1671 = .ok (.ireturn, 1) := by decide +kernel
theorem dL_law_1672 : decode cL_law 1672 = .ok (.goto 17, 3) := by decide +kernel
theorem dL_law_1675 : decode cL_law 1675 = .ok (.aload_n 1, 1) := by decide +kernel
theorem dL_law_1676 : decode cL_law 1676 = .ok (.invokevirtual 185, 3) := by decide +kernel
theorem dL_law_1679 : decode cL_law 1679 = .ok (.aload_n 2, 1) := by decide +kernel
theorem dL_law_1680 : decode cL_law 1680 = .ok (.invokevirtual 189, 3) := by decide +kernel
theorem dL_law_1683 : decode cL_law 1683 = .ok (.lcmp, 1) := by decide +kernel
theorem dL_law_1684 : decode cL_law 1684 = .ok (.ifCond .eq 5, 3) := by decide +kernel
theorem dL_law_1687 : decode cL_law 1687 = .ok (.iconst 0, 1) := by decide +kernel
theorem dL_law_1688 : decode cL_law 1688 = .ok (.ireturn, 1) := by decide +kernel
theorem dL_law_1689 : decode cL_law 1689 = .ok (.iinc 5 4, 3) := by decide +kernel
theorem dL_law_1692 : decode cL_law 1692 = .ok (.goto (-1664), 3) := by decide +kernel
theorem dL_law_1695 : decode cL_law 1695 = .ok (.iconst 1, 1) := by decide +kernel
theorem dL_law_1696 : decode cL_law 1696 = .ok (.ireturn, 1) := by decide +kernel
end
section
/-! THE MEMORY: int fields by code and slot, int rows by code, the hash, the law's two rows; G says which states of the ring are there. A code names a cell; A says where it lies. -/
abbrev Mem : Type := (Nat → Nat → Int32) × (Nat → Nat → Int32) × Int64 × (Nat → Int64) × (Nat → UInt64)
def up2 (f : Nat → Nat → Int32) (c k : Nat) (v : Int32) : Nat → Nat → Int32 := fun a b => if a = c ∧ b = k then v else f a b
def gF (M : Mem) : Nat → Nat → Int32 := M.1
def gR (M : Mem) : Nat → Nat → Int32 := M.2.1
def gh (M : Mem) : Int64 := M.2.2.1
def go (M : Mem) : Nat → Int64 := M.2.2.2.1
def gd (M : Mem) : Nat → UInt64 := M.2.2.2.2
def sF (c k : Nat) (v : Int32) (M : Mem) : Mem := (up2 M.1 c k v, M.2)
def sR (c : Nat) (r : Nat → Int32) (M : Mem) : Mem := (M.1, va_up M.2.1 c r, M.2.2)
def sh (v : Int64) (M : Mem) : Mem := (M.1, M.2.1, v, M.2.2.2)
def so (f : Nat → Int64) (M : Mem) : Mem := (M.1, M.2.1, M.2.2.1, f, M.2.2.2.2)
def sd (f : Nat → UInt64) (M : Mem) : Mem := (M.1, M.2.1, M.2.2.1, M.2.2.2.1, f)
/-- the kind of a code: 0 ledger, 1 node, 2 state, 3 stack, 4 store, 5 model, 6 int row, 7 ledgers, 8 nodes, 9 ring, 10 long row, 11 double row -/
def kd (c : Nat) : Nat :=
  if c = 0 then 4 else if c = 1 then 3 else if c = 2 then 9 else if c = 3 then 5 else if c = 4 then 6 else if c = 5 then 6 else if c = 6 then 10 else if c = 7 then 11 else
  if c % 64 = 0 then 2 else if c % 64 = 1 then 8 else if c % 64 = 2 then 7 else if c % 64 < 27 then (if c % 64 % 3 = 0 then 1 else 6) else if (c % 64 - 27) % 5 = 0 then 0 else 6
/-- how long an int row is -/
def rl (c : Nat) : Nat :=
  if c = 4 then 3463 else if c = 5 then 13852 else
  if c % 64 < 27 then (if c % 64 % 3 = 1 then 160 else 100) else if (c % 64 - 27) % 5 = 1 then 40 else if (c % 64 - 27) % 5 = 2 then 40 else if (c % 64 - 27) % 5 = 3 then 41 else 205
/-- the codes that are there -/
def inL (G : Nat → Bool) (c : Nat) : Bool := decide (c < 8) || (decide (64 ≤ c) && decide (c < 384) && decide (c % 64 < 47) && (decide (c < 128) || G (c / 64 - 2)))
def Lc (G : Nat → Bool) : List Nat := (List.range 384).filter (inL G)
abbrev va_refs (f : Nat → Option Nat) : (Nat → Int32) ⊕ (Nat → Int64) ⊕ (Nat → UInt32) ⊕ (Nat → UInt64) ⊕ (Nat → Option Nat) := .inr (.inr (.inr (.inr f)))
abbrev c0L (A : Nat → Nat) (M : Mem) (c : Nat) : List Value := [.int (gF M c 0), .int (gF M c 1), .int (gF M c 2), .int (gF M c 3), .int (gF M c 4), .int (gF M c 5), .int (gF M c 6), .int (gF M c 7), .ref (A (c + 1)), .ref (A (c + 2)), .ref (A (c + 3)), .ref (A (c + 4))]
abbrev c1L (A : Nat → Nat) (M : Mem) (c : Nat) : List Value := [.int (gF M c 0), .int (gF M c 1), .int (gF M c 2), .int (gF M c 3), .ref (A (c + 1)), .ref (A (c + 2))]
abbrev c2L (A : Nat → Nat) (M : Mem) (c : Nat) : List Value := [.int (gF M c 0), .int (gF M c 1), .int (gF M c 2), .ref (A (c + 1)), .ref (A (c + 2))]
abbrev c3L (A : Nat → Nat) (M : Mem) (c : Nat) : List Value := [.int (gF M c 0), .int (gF M c 1), .ref (A 2)]
abbrev c4L (A : Nat → Nat) : List Value := [.ref (A 64), .ref (A 1)]
abbrev c5L (A : Nat → Nat) (M : Mem) (c : Nat) : List Value := [.ref (A 4), .ref (A 5), .int (gF M c 2), .int (gF M c 3), .long (gh M)]
def cont (A : Nat → Nat) (cy : Nat → ClassId) (G : Nat → Bool) (M : Mem) (c : Nat) : va_E :=
  if kd c = 0 then .inr (0, c0L A M c) else if kd c = 1 then .inr (1, c1L A M c) else if kd c = 2 then .inr (2, c2L A M c) else if kd c = 3 then .inr (3, c3L A M c) else if kd c = 4 then .inr (4, c4L A) else if kd c = 5 then .inr (5, c5L A M c)
  else if kd c = 6 then .inl (cy 0, rl c, .inl (gR M c)) else if kd c = 7 then .inl (cy 1, 4, va_refs (fun l => some (A (c + 25 + 5 * l)))) else if kd c = 8 then .inl (cy 2, 8, va_refs (fun j => some (A (c + 2 + 3 * j))))
  else if kd c = 9 then .inl (cy 3, 4, va_refs (fun i => if G i then some (A (128 + 64 * i)) else none)) else if kd c = 10 then .inl (cy 4, 1, .inr (.inl (go M))) else .inl (cy 5, 1, .inr (.inr (.inr (.inl (gd M)))))
def wl (A : Nat → Nat) (cy : Nat → ClassId) (G : Nat → Bool) (M : Mem) : va_W := (Lc G).map (fun c => (A c, cont A cy G M c))
theorem mem_Lc {G : Nat → Bool} {c : Nat} : c ∈ Lc G ↔ inL G c = true := by
  unfold Lc
  rw [List.mem_filter, List.mem_range]
  constructor
  · exact fun h => h.2
  · intro h
    refine ⟨?_, h⟩
    unfold inL at h
    simp only [Bool.or_eq_true, Bool.and_eq_true, decide_eq_true_eq] at h
    omega
theorem wl_get {A : Nat → Nat} {cy : Nat → ClassId} {G : Nat → Bool} {M : Mem} {c : Nat} (h : inL G c = true) : ∃ k : Nat, (wl A cy G M)[k]? = some (A c, cont A cy G M c) := by
  apply List.getElem?_of_mem
  exact List.mem_map.mpr ⟨c, mem_Lc.mpr h, rfl⟩
theorem wl_at {A : Nat → Nat} {cy : Nat → ClassId} {G : Nat → Bool} {M : Mem} {k : Nat} {q : Nat × va_E} (h : (wl A cy G M)[k]? = some q) : ∃ c, (Lc G)[k]? = some c ∧ inL G c = true ∧ q = (A c, cont A cy G M c) := by
  unfold wl at h
  rw [List.getElem?_map] at h
  cases hb : (Lc G)[k]? with
  | none => rw [hb] at h; cases h
  | some b =>
    rw [hb] at h
    exact ⟨b, rfl, mem_Lc.mp (List.mem_of_getElem? hb), (Option.some.inj h).symm⟩
theorem wl_inj {As : Nat → Prop} {A : Nat → Nat} {cy : Nat → ClassId} {G : Nat → Bool} {M : Mem} (hD : va_D As (wl A cy G M)) {i j a b : Nat} (hi : (Lc G)[i]? = some a) (hj : (Lc G)[j]? = some b) (h : A a = A b) : i = j := by
  refine hD.1 i j (A a, cont A cy G M a) (A b, cont A cy G M b) ?_ ?_ h
  · unfold wl; rw [List.getElem?_map, hi]; rfl
  · unfold wl; rw [List.getElem?_map, hj]; rfl
theorem wl_set {As : Nat → Prop} {A : Nat → Nat} {cy : Nat → ClassId} {G : Nat → Bool} {M M' : Mem} {c k : Nat} {x e : va_E} (hD : va_D As (wl A cy G M)) (h : inL G c = true) (hk : (wl A cy G M)[k]? = some (A c, x)) (hc : cont A cy G M' c = e) (ho : ∀ c', c' ≠ c → cont A cy G M' c' = cont A cy G M c') : (wl A cy G M).set k (A c, e) = wl A cy G M' := by
  have hl := (List.getElem?_eq_some_iff.mp hk).1
  obtain ⟨b, hb, -, hq⟩ := wl_at hk
  obtain ⟨i, hi⟩ := List.getElem?_of_mem (mem_Lc.mpr h)
  have hki : k = i := wl_inj hD hb hi (congrArg Prod.fst hq).symm
  subst hki
  have hbc : b = c := Option.some.inj (hb.symm.trans hi)
  subst hbc
  apply List.ext_getElem?
  intro j
  by_cases hj : j = k
  · subst hj
    rw [List.getElem?_set_self hl]
    unfold wl
    rw [List.getElem?_map, hb]
    show _ = some (A b, cont A cy G M' b)
    rw [hc]
  · rw [List.getElem?_set_ne (Ne.symm hj)]
    unfold wl
    rw [List.getElem?_map, List.getElem?_map]
    cases hd : (Lc G)[j]? with
    | none => rfl
    | some d =>
      have hdb : d ≠ b := by
        intro e1
        subst e1
        exact hj (wl_inj hD hd hb rfl)
      show some (A d, cont A cy G M d) = some (A d, cont A cy G M' d)
      rw [ho d hdb]
/-- a code of a kind that is there -/
def TT (G : Nat → Bool) (k c : Nat) : Prop := kd c = k ∧ inL G c = true
def TR (G : Nat → Bool) (n c : Nat) : Prop := kd c = 6 ∧ rl c = n ∧ inL G c = true
theorem cont_0 {A : Nat → Nat} {cy : Nat → ClassId} {G : Nat → Bool} {M : Mem} {c : Nat} (h : kd c = 0) : cont A cy G M c = .inr (0, c0L A M c) := by unfold cont; rw [if_pos h]
theorem cont_1 {A : Nat → Nat} {cy : Nat → ClassId} {G : Nat → Bool} {M : Mem} {c : Nat} (h : kd c = 1) : cont A cy G M c = .inr (1, c1L A M c) := by unfold cont; rw [h]; rfl
theorem cont_2 {A : Nat → Nat} {cy : Nat → ClassId} {G : Nat → Bool} {M : Mem} {c : Nat} (h : kd c = 2) : cont A cy G M c = .inr (2, c2L A M c) := by unfold cont; rw [h]; rfl
theorem cont_3 {A : Nat → Nat} {cy : Nat → ClassId} {G : Nat → Bool} {M : Mem} {c : Nat} (h : kd c = 3) : cont A cy G M c = .inr (3, c3L A M c) := by unfold cont; rw [h]; rfl
theorem cont_4 {A : Nat → Nat} {cy : Nat → ClassId} {G : Nat → Bool} {M : Mem} {c : Nat} (h : kd c = 4) : cont A cy G M c = .inr (4, c4L A) := by unfold cont; rw [h]; rfl
theorem cont_5 {A : Nat → Nat} {cy : Nat → ClassId} {G : Nat → Bool} {M : Mem} {c : Nat} (h : kd c = 5) : cont A cy G M c = .inr (5, c5L A M c) := by unfold cont; rw [h]; rfl
theorem cont_6 {A : Nat → Nat} {cy : Nat → ClassId} {G : Nat → Bool} {M : Mem} {c : Nat} (h : kd c = 6) : cont A cy G M c = .inl (cy 0, rl c, .inl (gR M c)) := by unfold cont; rw [h]; rfl
theorem cont_7 {A : Nat → Nat} {cy : Nat → ClassId} {G : Nat → Bool} {M : Mem} {c : Nat} (h : kd c = 7) : cont A cy G M c = .inl (cy 1, 4, va_refs (fun l => some (A (c + 25 + 5 * l)))) := by unfold cont; rw [h]; rfl
theorem cont_8 {A : Nat → Nat} {cy : Nat → ClassId} {G : Nat → Bool} {M : Mem} {c : Nat} (h : kd c = 8) : cont A cy G M c = .inl (cy 2, 8, va_refs (fun j => some (A (c + 2 + 3 * j)))) := by unfold cont; rw [h]; rfl
theorem cont_9 {A : Nat → Nat} {cy : Nat → ClassId} {G : Nat → Bool} {M : Mem} {c : Nat} (h : kd c = 9) : cont A cy G M c = .inl (cy 3, 4, va_refs (fun i => if G i then some (A (128 + 64 * i)) else none)) := by unfold cont; rw [h]; rfl
theorem cont_10 {A : Nat → Nat} {cy : Nat → ClassId} {G : Nat → Bool} {M : Mem} {c : Nat} (h : kd c = 10) : cont A cy G M c = .inl (cy 4, 1, .inr (.inl (go M))) := by unfold cont; rw [h]; rfl
theorem cont_11 {A : Nat → Nat} {cy : Nat → ClassId} {G : Nat → Bool} {M : Mem} {c : Nat} (h : kd c = 11) : cont A cy G M c = .inl (cy 5, 1, .inr (.inr (.inr (.inl (gd M))))) := by unfold cont; rw [h]; rfl
theorem cont_sF {A : Nat → Nat} {cy : Nat → ClassId} {G : Nat → Bool} {M : Mem} {c k : Nat} {v : Int32} {c' : Nat} (h : c' ≠ c) : cont A cy G (sF c k v M) c' = cont A cy G M c' := by
  have e : ∀ j, gF (sF c k v M) c' j = gF M c' j := fun j => by simp [gF, sF, up2, h]
  unfold cont c0L c1L c2L c3L c5L
  simp only [e]
  rfl
theorem cont_sR {A : Nat → Nat} {cy : Nat → ClassId} {G : Nat → Bool} {M : Mem} {c : Nat} {r : Nat → Int32} {c' : Nat} (h : c' ≠ c) : cont A cy G (sR c r M) c' = cont A cy G M c' := by
  have e : gR (sR c r M) c' = gR M c' := by simp [gR, sR, va_up, h]
  unfold cont c0L c1L c2L c3L c5L
  simp only [e]
  rfl
theorem cont_sh {A : Nat → Nat} {cy : Nat → ClassId} {G : Nat → Bool} {M : Mem} {v : Int64} {c' : Nat} (h : kd c' ≠ 5) : cont A cy G (sh v M) c' = cont A cy G M c' := by
  unfold cont
  rw [if_neg h, if_neg h]
  rfl
theorem cont_so {A : Nat → Nat} {cy : Nat → ClassId} {G : Nat → Bool} {M : Mem} {f : Nat → Int64} {c' : Nat} (h : kd c' ≠ 10) : cont A cy G (so f M) c' = cont A cy G M c' := by
  unfold cont
  rw [if_neg h, if_neg h]
  rfl
theorem cont_sd {A : Nat → Nat} {cy : Nat → ClassId} {G : Nat → Bool} {M : Mem} {f : Nat → UInt64} {c' : Nat} (h : kd c' < 11) : cont A cy G (sd f M) c' = cont A cy G M c' := by
  have h2 : kd c' = 0 ∨ kd c' = 1 ∨ kd c' = 2 ∨ kd c' = 3 ∨ kd c' = 4 ∨ kd c' = 5 ∨ kd c' = 6 ∨ kd c' = 7 ∨ kd c' = 8 ∨ kd c' = 9 ∨ kd c' = 10 := by omega
  unfold cont
  rcases h2 with h2 | h2 | h2 | h2 | h2 | h2 | h2 | h2 | h2 | h2 | h2 <;> (rw [h2]; rfl)
theorem gF_self {M : Mem} {c k : Nat} {v : Int32} : gF (sF c k v M) c k = v := by simp [gF, sF, up2]
theorem gF_ne {M : Mem} {c k : Nat} {v : Int32} {k' : Nat} (h : k' ≠ k) : gF (sF c k v M) c k' = gF M c k' := by simp [gF, sF, up2, h]
/-- the world in the heap, apart, and what else stays -/
def WD (D : va_G) (cy : Nat → ClassId) (As : Nat → Prop) (A : Nat → Nat) (H0 : Heap) (G : Nat → Bool) (M : Mem) (H : Heap) (locs : List Loc) : Prop := va_P D vwCl (wl A cy G M) H ∧ va_D As (wl A cy G M) ∧ va_S As H0 H locs
abbrev tyK (cy : Nat → ClassId) : List (ClassId × FieldType) := [(cy 0, .int), (cy 1, .object RX0), (cy 2, .object RX1), (cy 3, .object RX3), (cy 4, .long), (cy 5, .double)]
/-- the nest's links, and the classes of the arrays of references -/
def NW (U : State) : Prop := va_Nw (.methodLinkNest RX5 18 yX4_init RX5) U ∧ va_Nw (.methodLinkNest RX0 53 yX5_copyRow RX5) U ∧ va_Nw (.methodLinkNest RX0 70 yX5_contains RX5) U ∧ va_Nw (.methodLinkNest RX1 38 yX5_copyRow RX5) U ∧ va_Nw (.methodLinkNest RX1 42 yX5_contains RX5) U ∧ va_Nw (.methodLinkNest RX3 23 yX1_init RX5) U ∧ va_Nw (.methodLinkNest RX3 79 yX5_contains RX5) U ∧ va_AO RX0 U ∧ va_AO RX1 U ∧ va_AO RX3 U
theorem NW.same {u U : State} (h : u.vm = U.vm) (n : NW u) : NW U := by
  obtain ⟨a, b, c, d, e, f, g, i, j, k⟩ := n
  exact ⟨a.same rfl h, b.same rfl h, c.same rfl h, d.same rfl h, e.same rfl h, f.same rfl h, g.same rfl h, i.moved (by rw [h]; exact Vm.Alike.refl _), j.moved (by rw [h]; exact Vm.Alike.refl _), k.moved (by rw [h]; exact Vm.Alike.refl _)⟩
theorem NW.warm {s U : State} (hW : s.WarmedH U.vm) (n : NW s) : NW U := by
  obtain ⟨a, b, c, d, e, f, g, i, j, k⟩ := n
  exact ⟨va_Nw.warmM hW a, va_Nw.warmM hW b, va_Nw.warmM hW c, va_Nw.warmM hW d, va_Nw.warmM hW e, va_Nw.warmM hW f, va_Nw.warmM hW g, i.moved hW.alike, j.moved hW.alike, k.moved hW.alike⟩
def KK (D : va_G) (cy : Nat → ClassId) (U : State) : Prop := va_K D vwCl (tyK cy) U ∧ NW U
theorem KK.warm {D : va_G} {cy : Nat → ClassId} {s U : State} (hW : s.WarmedH U.vm) (h : KK D cy s) : KK D cy U := ⟨va_K.moved hW.alike h.1, h.2.warm hW⟩
theorem KK.same {D : va_G} {cy : Nat → ClassId} {u U : State} (hv : u.vm = U.vm) (h : KK D cy u) : KK D cy U := ⟨va_K.moved (by rw [hv]; exact Vm.Alike.refl _) h.1, h.2.same hv⟩
/-- what a method may write: the world's cells, and those that are new -/
def Fr (A : Nat → Nat) (G : Nat → Bool) (sz : Nat) : Nat → Prop := fun q => (∃ c, inL G c = true ∧ q = A c) ∨ sz ≤ q
/-- a method's start and end -/
def Pr (D : va_G) (cy : Nat → ClassId) (A : Nat → Nat) (G : Nat → Bool) (M : Mem) (sz : Nat) : State → Prop := fun U => U.heap.size = sz ∧ va_P D vwCl (wl A cy G M) U.heap ∧ KK D cy U ∧ va_D (fun _ => True) (wl A cy G M)
def Po (D : va_G) (cy : Nat → ClassId) (A : Nat → Nat) (G : Nat → Bool) (F : Nat → Prop) : Mem → State → Prop := fun M' t => va_P D vwCl (wl A cy G M') t.heap ∧ KK D cy t ∧ va_D F (wl A cy G M')
theorem Pr.blind {D : va_G} {cy : Nat → ClassId} {A : Nat → Nat} {G : Nat → Bool} {M : Mem} {sz : Nat} {av : List Value} : FrameBlind (va_Pc av (Pr D cy A G M sz)) := fun a U g mk q => by
  obtain ⟨q0, q1, qP, qK, qD⟩ := q
  exact ⟨q0, q1, qP, qK.same rfl, qD⟩
theorem wl_Fr {A : Nat → Nat} {cy : Nat → ClassId} {G : Nat → Bool} {M : Mem} {As : Nat → Prop} {sz : Nat} (hD : va_D As (wl A cy G M)) : va_D (Fr A G sz) (wl A cy G M) := ⟨hD.1, fun k q hk => by
  obtain ⟨c, -, h2, h3⟩ := wl_at hk
  exact Or.inl ⟨c, h2, by rw [h3]⟩⟩
theorem Fr_As {D : va_G} {cy : Nat → ClassId} {As : Nat → Prop} {A : Nat → Nat} {H0 H : Heap} {G : Nat → Bool} {M : Mem} {locs : List Loc} (hw : WD D cy As A H0 G M H locs) (hA : ∀ q, H0.size ≤ q → As q) : ∀ q, Fr A G H.size q → As q := by
  intro q h
  rcases h with ⟨c, h, rfl⟩ | h
  · obtain ⟨k, hk⟩ := wl_get (A := A) (cy := cy) (M := M) h
    exact hw.2.1.2 k _ hk
  · exact hA q (Nat.le_trans hw.2.2.1 h)
/-- a fact that a mirror asks for -/
def ck {α : Type} (p : Prop) [Decidable p] (k : Option α) : Option α := if p then k else none
theorem ck_some {α : Type} {p : Prop} [Decidable p] {k : Option α} {r : α} (h : ck p k = some r) : p ∧ k = some r := by
  unfold ck at h
  by_cases hp : p
  · rw [if_pos hp] at h
    exact ⟨hp, h⟩
  · rw [if_neg hp] at h
    cases h
theorem bd_some {α β : Type} {x : Option α} {k : α → Option β} {r : β} (h : x.bind k = some r) : ∃ y, x = some y ∧ k y = some r := by
  cases x with
  | none => cases h
  | some y => exact ⟨y, rfl, h⟩
/-- an int that a boolean may be -/
abbrev zb (x : Int32) : Prop := x = 0 ∨ x = 1
theorem zb_n {x : Int32} (h : zb x) : narrow .boolean (.int x) = .int x := by
  rcases h with rfl | rfl <;> rfl
theorem zb_f {x : Int32} (h : zb x) : fits .boolean (.int x) = true := by
  rcases h with rfl | rfl <;> rfl
end
section
section ROWS
variable {p : Program} {l : Launch} {e : Env} {R : Room} {s : State} {m : MethodId} {args : Array Value} {below : List Frame} {meth : Method} {c : Code} {H : Heap} {locs : List Loc} {cells slots : Nat} {Q : State → Prop}
variable {cc : ByteArray} {pc : Nat} {ls : Array Slot} {rest : List Value} {D : va_G} {cy : Nat → ClassId} {As : Nat → Prop} {A : Nat → Nat} {H0 : Heap} {G : Nat → Bool} {M : Mem}
theorem g0 (hx : p.tables.exec = Jvm.exec) (hb : c.code = cc) {own ref : String} {index : Nat} (hts : ∀ w ∈ LW, w.before args s = true) (hown : s.vm.findClass own = some m.cls) (hK : KK D cy s) (hw : WD D cy As A H0 G M H locs) {c0 : Nat} (hc : TT G 0 c0) (k : Nat) (hk : k < 12) (v : Value) (hv : (c0L A M c0)[k]? = some v) (hlink : Cond.fieldLink own index ref (TX0 k).2.1 (TX0 k).2.2.1 ∈ LW) (hsame : ∀ z, s.fieldFound? (TX0 k).1 (TX0 k).2.1 (TX0 k).2.2.1 = some z → s.fieldFound? ref (TX0 k).2.1 (TX0 k).2.2.1 = some z) (hdg : decode cc pc = .ok (.getfield index, 3))
    (kk : W p l e R s m args below meth c H locs cells slots Q (F0 m (pc + 3) ls (v :: rest))) : W p l e R s m args below meth c H locs cells slots Q (F0 m pc ls (.ref (A c0) :: rest)) := by
  obtain ⟨q0, he⟩ := wl_get (A := A) (cy := cy) (M := M) hc.2
  rw [cont_0 hc.1] at he
  exact va_get (C := RX0) (T := TX0) (N := 12) hx hb hts iwX0 hown hK.1 hw.1 q0 he rfl k hk (hts _ hlink) hsame hv hdg kk
theorem p0 (hx : p.tables.exec = Jvm.exec) (hb : c.code = cc) {own ref : String} {index : Nat} (hts : ∀ w ∈ LW, w.before args s = true) (hown : s.vm.findClass own = some m.cls) (hK : KK D cy s) (hw : WD D cy As A H0 G M H locs) {c0 : Nat} (hc : TT G 0 c0) (k : Nat) (hk : k < 8) {v : Int32} (hlink : Cond.fieldLink own index ref (TX0 k).2.1 (TX0 k).2.2.1 ∈ LW) (hsame : ∀ z, s.fieldFound? (TX0 k).1 (TX0 k).2.1 (TX0 k).2.2.1 = some z → s.fieldFound? ref (TX0 k).2.1 (TX0 k).2.2.1 = some z) (hfin : (TX0 k).2.2.2 = false) (hn : narrow (tyX0 k) (.int v) = .int v) (hf : fits (tyX0 k) (.int v) = true) (hdg : decode cc pc = .ok (.putfield index, 3))
    (kk : ∀ (H1 : Heap) (locs1 : List Loc), WD D cy As A H0 G (sF c0 k v M) H1 locs1 → W p l e R s m args below meth c H1 locs1 cells slots Q (F0 m (pc + 3) ls rest)) : W p l e R s m args below meth c H locs cells slots Q (F0 m pc ls (.int v :: .ref (A c0) :: rest)) := by
  obtain ⟨q0, he⟩ := wl_get (A := A) (cy := cy) (M := M) hc.2
  rw [cont_0 hc.1] at he
  have e1 : (wl A cy G M).set q0 (A c0, .inr (0, (c0L A M c0).set k (.int v))) = wl A cy G (sF c0 k v M) := by
    refine wl_set hw.2.1 hc.2 he ?_ (fun c' h => cont_sF h)
    rw [cont_0 hc.1]
    have hk' : k = 0 ∨ k = 1 ∨ k = 2 ∨ k = 3 ∨ k = 4 ∨ k = 5 ∨ k = 6 ∨ k = 7 := by omega
    rcases hk' with rfl | rfl | rfl | rfl | rfl | rfl | rfl | rfl <;> simp [gF, sF, up2]
  refine va_put (C := RX0) (T := TX0) (N := 12) (ty := tyX0 k) hx hb hts iwX0 tyX0 tyX0_ok nmX0 hown hK.1 hw.1 hw.2.1 hw.2.2 q0 he rfl k (by omega) (hts _ hlink) hsame hfin (tyX0_ok k (by omega)) hn hf (by show k < 12; omega) hdg (fun H1 locs1 h1 h2 h3 => kk H1 locs1 ⟨?_, ?_, h3⟩)
  · rw [← e1]; exact h1
  · rw [← e1]; exact h2
theorem g1 (hx : p.tables.exec = Jvm.exec) (hb : c.code = cc) {own ref : String} {index : Nat} (hts : ∀ w ∈ LW, w.before args s = true) (hown : s.vm.findClass own = some m.cls) (hK : KK D cy s) (hw : WD D cy As A H0 G M H locs) {c0 : Nat} (hc : TT G 1 c0) (k : Nat) (hk : k < 6) (v : Value) (hv : (c1L A M c0)[k]? = some v) (hlink : Cond.fieldLink own index ref (TX1 k).2.1 (TX1 k).2.2.1 ∈ LW) (hsame : ∀ z, s.fieldFound? (TX1 k).1 (TX1 k).2.1 (TX1 k).2.2.1 = some z → s.fieldFound? ref (TX1 k).2.1 (TX1 k).2.2.1 = some z) (hdg : decode cc pc = .ok (.getfield index, 3))
    (kk : W p l e R s m args below meth c H locs cells slots Q (F0 m (pc + 3) ls (v :: rest))) : W p l e R s m args below meth c H locs cells slots Q (F0 m pc ls (.ref (A c0) :: rest)) := by
  obtain ⟨q0, he⟩ := wl_get (A := A) (cy := cy) (M := M) hc.2
  rw [cont_1 hc.1] at he
  exact va_get (C := RX1) (T := TX1) (N := 6) hx hb hts iwX1 hown hK.1 hw.1 q0 he rfl k hk (hts _ hlink) hsame hv hdg kk
theorem p1 (hx : p.tables.exec = Jvm.exec) (hb : c.code = cc) {own ref : String} {index : Nat} (hts : ∀ w ∈ LW, w.before args s = true) (hown : s.vm.findClass own = some m.cls) (hK : KK D cy s) (hw : WD D cy As A H0 G M H locs) {c0 : Nat} (hc : TT G 1 c0) (k : Nat) (hk : k < 4) {v : Int32} (hlink : Cond.fieldLink own index ref (TX1 k).2.1 (TX1 k).2.2.1 ∈ LW) (hsame : ∀ z, s.fieldFound? (TX1 k).1 (TX1 k).2.1 (TX1 k).2.2.1 = some z → s.fieldFound? ref (TX1 k).2.1 (TX1 k).2.2.1 = some z) (hfin : (TX1 k).2.2.2 = false) (hn : narrow (tyX1 k) (.int v) = .int v) (hf : fits (tyX1 k) (.int v) = true) (hdg : decode cc pc = .ok (.putfield index, 3))
    (kk : ∀ (H1 : Heap) (locs1 : List Loc), WD D cy As A H0 G (sF c0 k v M) H1 locs1 → W p l e R s m args below meth c H1 locs1 cells slots Q (F0 m (pc + 3) ls rest)) : W p l e R s m args below meth c H locs cells slots Q (F0 m pc ls (.int v :: .ref (A c0) :: rest)) := by
  obtain ⟨q0, he⟩ := wl_get (A := A) (cy := cy) (M := M) hc.2
  rw [cont_1 hc.1] at he
  have e1 : (wl A cy G M).set q0 (A c0, .inr (1, (c1L A M c0).set k (.int v))) = wl A cy G (sF c0 k v M) := by
    refine wl_set hw.2.1 hc.2 he ?_ (fun c' h => cont_sF h)
    rw [cont_1 hc.1]
    have hk' : k = 0 ∨ k = 1 ∨ k = 2 ∨ k = 3 := by omega
    rcases hk' with rfl | rfl | rfl | rfl <;> simp [gF, sF, up2]
  refine va_put (C := RX1) (T := TX1) (N := 6) (ty := tyX1 k) hx hb hts iwX1 tyX1 tyX1_ok nmX1 hown hK.1 hw.1 hw.2.1 hw.2.2 q0 he rfl k (by omega) (hts _ hlink) hsame hfin (tyX1_ok k (by omega)) hn hf (by show k < 6; omega) hdg (fun H1 locs1 h1 h2 h3 => kk H1 locs1 ⟨?_, ?_, h3⟩)
  · rw [← e1]; exact h1
  · rw [← e1]; exact h2
theorem g2 (hx : p.tables.exec = Jvm.exec) (hb : c.code = cc) {own ref : String} {index : Nat} (hts : ∀ w ∈ LW, w.before args s = true) (hown : s.vm.findClass own = some m.cls) (hK : KK D cy s) (hw : WD D cy As A H0 G M H locs) {c0 : Nat} (hc : TT G 2 c0) (k : Nat) (hk : k < 5) (v : Value) (hv : (c2L A M c0)[k]? = some v) (hlink : Cond.fieldLink own index ref (TX3 k).2.1 (TX3 k).2.2.1 ∈ LW) (hsame : ∀ z, s.fieldFound? (TX3 k).1 (TX3 k).2.1 (TX3 k).2.2.1 = some z → s.fieldFound? ref (TX3 k).2.1 (TX3 k).2.2.1 = some z) (hdg : decode cc pc = .ok (.getfield index, 3))
    (kk : W p l e R s m args below meth c H locs cells slots Q (F0 m (pc + 3) ls (v :: rest))) : W p l e R s m args below meth c H locs cells slots Q (F0 m pc ls (.ref (A c0) :: rest)) := by
  obtain ⟨q0, he⟩ := wl_get (A := A) (cy := cy) (M := M) hc.2
  rw [cont_2 hc.1] at he
  exact va_get (C := RX3) (T := TX3) (N := 5) hx hb hts iwX3 hown hK.1 hw.1 q0 he rfl k hk (hts _ hlink) hsame hv hdg kk
theorem p2 (hx : p.tables.exec = Jvm.exec) (hb : c.code = cc) {own ref : String} {index : Nat} (hts : ∀ w ∈ LW, w.before args s = true) (hown : s.vm.findClass own = some m.cls) (hK : KK D cy s) (hw : WD D cy As A H0 G M H locs) {c0 : Nat} (hc : TT G 2 c0) (k : Nat) (hk : k < 3) {v : Int32} (hlink : Cond.fieldLink own index ref (TX3 k).2.1 (TX3 k).2.2.1 ∈ LW) (hsame : ∀ z, s.fieldFound? (TX3 k).1 (TX3 k).2.1 (TX3 k).2.2.1 = some z → s.fieldFound? ref (TX3 k).2.1 (TX3 k).2.2.1 = some z) (hfin : (TX3 k).2.2.2 = false) (hn : narrow (tyX3 k) (.int v) = .int v) (hf : fits (tyX3 k) (.int v) = true) (hdg : decode cc pc = .ok (.putfield index, 3))
    (kk : ∀ (H1 : Heap) (locs1 : List Loc), WD D cy As A H0 G (sF c0 k v M) H1 locs1 → W p l e R s m args below meth c H1 locs1 cells slots Q (F0 m (pc + 3) ls rest)) : W p l e R s m args below meth c H locs cells slots Q (F0 m pc ls (.int v :: .ref (A c0) :: rest)) := by
  obtain ⟨q0, he⟩ := wl_get (A := A) (cy := cy) (M := M) hc.2
  rw [cont_2 hc.1] at he
  have e1 : (wl A cy G M).set q0 (A c0, .inr (2, (c2L A M c0).set k (.int v))) = wl A cy G (sF c0 k v M) := by
    refine wl_set hw.2.1 hc.2 he ?_ (fun c' h => cont_sF h)
    rw [cont_2 hc.1]
    have hk' : k = 0 ∨ k = 1 ∨ k = 2 := by omega
    rcases hk' with rfl | rfl | rfl <;> simp [gF, sF, up2]
  refine va_put (C := RX3) (T := TX3) (N := 5) (ty := tyX3 k) hx hb hts iwX3 tyX3 tyX3_ok nmX3 hown hK.1 hw.1 hw.2.1 hw.2.2 q0 he rfl k (by omega) (hts _ hlink) hsame hfin (tyX3_ok k (by omega)) hn hf (by show k < 5; omega) hdg (fun H1 locs1 h1 h2 h3 => kk H1 locs1 ⟨?_, ?_, h3⟩)
  · rw [← e1]; exact h1
  · rw [← e1]; exact h2
theorem g3 (hx : p.tables.exec = Jvm.exec) (hb : c.code = cc) {own ref : String} {index : Nat} (hts : ∀ w ∈ LW, w.before args s = true) (hown : s.vm.findClass own = some m.cls) (hK : KK D cy s) (hw : WD D cy As A H0 G M H locs) {c0 : Nat} (hc : TT G 3 c0) (k : Nat) (hk : k < 3) (v : Value) (hv : (c3L A M c0)[k]? = some v) (hlink : Cond.fieldLink own index ref (TX4 k).2.1 (TX4 k).2.2.1 ∈ LW) (hsame : ∀ z, s.fieldFound? (TX4 k).1 (TX4 k).2.1 (TX4 k).2.2.1 = some z → s.fieldFound? ref (TX4 k).2.1 (TX4 k).2.2.1 = some z) (hdg : decode cc pc = .ok (.getfield index, 3))
    (kk : W p l e R s m args below meth c H locs cells slots Q (F0 m (pc + 3) ls (v :: rest))) : W p l e R s m args below meth c H locs cells slots Q (F0 m pc ls (.ref (A c0) :: rest)) := by
  obtain ⟨q0, he⟩ := wl_get (A := A) (cy := cy) (M := M) hc.2
  rw [cont_3 hc.1] at he
  exact va_get (C := RX4) (T := TX4) (N := 3) hx hb hts iwX4 hown hK.1 hw.1 q0 he rfl k hk (hts _ hlink) hsame hv hdg kk
theorem p3 (hx : p.tables.exec = Jvm.exec) (hb : c.code = cc) {own ref : String} {index : Nat} (hts : ∀ w ∈ LW, w.before args s = true) (hown : s.vm.findClass own = some m.cls) (hK : KK D cy s) (hw : WD D cy As A H0 G M H locs) {c0 : Nat} (hc : TT G 3 c0) (k : Nat) (hk : k < 2) {v : Int32} (hlink : Cond.fieldLink own index ref (TX4 k).2.1 (TX4 k).2.2.1 ∈ LW) (hsame : ∀ z, s.fieldFound? (TX4 k).1 (TX4 k).2.1 (TX4 k).2.2.1 = some z → s.fieldFound? ref (TX4 k).2.1 (TX4 k).2.2.1 = some z) (hfin : (TX4 k).2.2.2 = false) (hn : narrow (tyX4 k) (.int v) = .int v) (hf : fits (tyX4 k) (.int v) = true) (hdg : decode cc pc = .ok (.putfield index, 3))
    (kk : ∀ (H1 : Heap) (locs1 : List Loc), WD D cy As A H0 G (sF c0 k v M) H1 locs1 → W p l e R s m args below meth c H1 locs1 cells slots Q (F0 m (pc + 3) ls rest)) : W p l e R s m args below meth c H locs cells slots Q (F0 m pc ls (.int v :: .ref (A c0) :: rest)) := by
  obtain ⟨q0, he⟩ := wl_get (A := A) (cy := cy) (M := M) hc.2
  rw [cont_3 hc.1] at he
  have e1 : (wl A cy G M).set q0 (A c0, .inr (3, (c3L A M c0).set k (.int v))) = wl A cy G (sF c0 k v M) := by
    refine wl_set hw.2.1 hc.2 he ?_ (fun c' h => cont_sF h)
    rw [cont_3 hc.1]
    have hk' : k = 0 ∨ k = 1 := by omega
    rcases hk' with rfl | rfl <;> simp [gF, sF, up2]
  refine va_put (C := RX4) (T := TX4) (N := 3) (ty := tyX4 k) hx hb hts iwX4 tyX4 tyX4_ok nmX4 hown hK.1 hw.1 hw.2.1 hw.2.2 q0 he rfl k (by omega) (hts _ hlink) hsame hfin (tyX4_ok k (by omega)) hn hf (by show k < 3; omega) hdg (fun H1 locs1 h1 h2 h3 => kk H1 locs1 ⟨?_, ?_, h3⟩)
  · rw [← e1]; exact h1
  · rw [← e1]; exact h2
theorem g4 (hx : p.tables.exec = Jvm.exec) (hb : c.code = cc) {own ref : String} {index : Nat} (hts : ∀ w ∈ LW, w.before args s = true) (hown : s.vm.findClass own = some m.cls) (hK : KK D cy s) (hw : WD D cy As A H0 G M H locs) {c0 : Nat} (hc : TT G 4 c0) (k : Nat) (hk : k < 2) (v : Value) (hv : (c4L A)[k]? = some v) (hlink : Cond.fieldLink own index ref (TX5 k).2.1 (TX5 k).2.2.1 ∈ LW) (hsame : ∀ z, s.fieldFound? (TX5 k).1 (TX5 k).2.1 (TX5 k).2.2.1 = some z → s.fieldFound? ref (TX5 k).2.1 (TX5 k).2.2.1 = some z) (hdg : decode cc pc = .ok (.getfield index, 3))
    (kk : W p l e R s m args below meth c H locs cells slots Q (F0 m (pc + 3) ls (v :: rest))) : W p l e R s m args below meth c H locs cells slots Q (F0 m pc ls (.ref (A c0) :: rest)) := by
  obtain ⟨q0, he⟩ := wl_get (A := A) (cy := cy) (M := M) hc.2
  rw [cont_4 hc.1] at he
  exact va_get (C := RX5) (T := TX5) (N := 2) hx hb hts iwX5 hown hK.1 hw.1 q0 he rfl k hk (hts _ hlink) hsame hv hdg kk
theorem g5 (hx : p.tables.exec = Jvm.exec) (hb : c.code = cc) {own ref : String} {index : Nat} (hts : ∀ w ∈ LW, w.before args s = true) (hown : s.vm.findClass own = some m.cls) (hK : KK D cy s) (hw : WD D cy As A H0 G M H locs) {c0 : Nat} (hc : TT G 5 c0) (k : Nat) (hk : k < 5) (v : Value) (hv : (c5L A M c0)[k]? = some v) (hlink : Cond.fieldLink own index ref (TX6 k).2.1 (TX6 k).2.2.1 ∈ LW) (hsame : ∀ z, s.fieldFound? (TX6 k).1 (TX6 k).2.1 (TX6 k).2.2.1 = some z → s.fieldFound? ref (TX6 k).2.1 (TX6 k).2.2.1 = some z) (hdg : decode cc pc = .ok (.getfield index, 3))
    (kk : W p l e R s m args below meth c H locs cells slots Q (F0 m (pc + 3) ls (v :: rest))) : W p l e R s m args below meth c H locs cells slots Q (F0 m pc ls (.ref (A c0) :: rest)) := by
  obtain ⟨q0, he⟩ := wl_get (A := A) (cy := cy) (M := M) hc.2
  rw [cont_5 hc.1] at he
  exact va_get (C := RX6) (T := TX6) (N := 5) hx hb hts iwX6 hown hK.1 hw.1 q0 he rfl k hk (hts _ hlink) hsame hv hdg kk
theorem p5 (hx : p.tables.exec = Jvm.exec) (hb : c.code = cc) {own ref : String} {index : Nat} (hts : ∀ w ∈ LW, w.before args s = true) (hown : s.vm.findClass own = some m.cls) (hK : KK D cy s) (hw : WD D cy As A H0 G M H locs) {c0 : Nat} (hc : TT G 5 c0) (k : Nat) (hk : k = 2 ∨ k = 3) {v : Int32} (hlink : Cond.fieldLink own index ref (TX6 k).2.1 (TX6 k).2.2.1 ∈ LW) (hsame : ∀ z, s.fieldFound? (TX6 k).1 (TX6 k).2.1 (TX6 k).2.2.1 = some z → s.fieldFound? ref (TX6 k).2.1 (TX6 k).2.2.1 = some z) (hdg : decode cc pc = .ok (.putfield index, 3))
    (kk : ∀ (H1 : Heap) (locs1 : List Loc), WD D cy As A H0 G (sF c0 k v M) H1 locs1 → W p l e R s m args below meth c H1 locs1 cells slots Q (F0 m (pc + 3) ls rest)) : W p l e R s m args below meth c H locs cells slots Q (F0 m pc ls (.int v :: .ref (A c0) :: rest)) := by
  obtain ⟨q0, he⟩ := wl_get (A := A) (cy := cy) (M := M) hc.2
  rw [cont_5 hc.1] at he
  have e1 : (wl A cy G M).set q0 (A c0, .inr (5, (c5L A M c0).set k (.int v))) = wl A cy G (sF c0 k v M) := by
    refine wl_set hw.2.1 hc.2 he ?_ (fun c' h => cont_sF h)
    rw [cont_5 hc.1]
    rcases hk with rfl | rfl <;> simp [gF, sF, up2, gh]
  refine va_put (C := RX6) (T := TX6) (N := 5) (ty := tyX6 k) hx hb hts iwX6 tyX6 tyX6_ok nmX6 hown hK.1 hw.1 hw.2.1 hw.2.2 q0 he rfl k (by omega) (hts _ hlink) hsame (by rcases hk with rfl | rfl <;> rfl) (tyX6_ok k (by omega)) (by rcases hk with rfl | rfl <;> rfl) (by rcases hk with rfl | rfl <;> rfl) (by show k < 5; omega) hdg (fun H1 locs1 h1 h2 h3 => kk H1 locs1 ⟨?_, ?_, h3⟩)
  · rw [← e1]; exact h1
  · rw [← e1]; exact h2
theorem kd_5 : ∀ c', kd c' = 5 → c' = 3 := by
  intro c' h
  by_cases h8 : c' < 8
  · exact (by decide : ∀ c, c < 8 → kd c = 5 → c = 3) c' h8 h
  · exfalso
    unfold kd at h
    rw [if_neg (by omega), if_neg (by omega), if_neg (by omega), if_neg (by omega), if_neg (by omega), if_neg (by omega), if_neg (by omega), if_neg (by omega)] at h
    by_cases a1 : c' % 64 = 0
    · rw [if_pos a1] at h; cases h
    · rw [if_neg a1] at h
      by_cases a2 : c' % 64 = 1
      · rw [if_pos a2] at h; cases h
      · rw [if_neg a2] at h
        by_cases a3 : c' % 64 = 2
        · rw [if_pos a3] at h; cases h
        · rw [if_neg a3] at h
          by_cases a4 : c' % 64 < 27
          · rw [if_pos a4] at h
            by_cases a5 : c' % 64 % 3 = 0
            · rw [if_pos a5] at h; cases h
            · rw [if_neg a5] at h; cases h
          · rw [if_neg a4] at h
            by_cases a5 : (c' % 64 - 27) % 5 = 0
            · rw [if_pos a5] at h; cases h
            · rw [if_neg a5] at h; cases h
theorem p5h (hx : p.tables.exec = Jvm.exec) (hb : c.code = cc) {own ref : String} {index : Nat} (hts : ∀ w ∈ LW, w.before args s = true) (hown : s.vm.findClass own = some m.cls) (hK : KK D cy s) (hw : WD D cy As A H0 G M H locs) {c0 : Nat} (hc : TT G 5 c0) {v : Int64} (hlink : Cond.fieldLink own index ref (TX6 4).2.1 (TX6 4).2.2.1 ∈ LW) (hsame : ∀ z, s.fieldFound? (TX6 4).1 (TX6 4).2.1 (TX6 4).2.2.1 = some z → s.fieldFound? ref (TX6 4).2.1 (TX6 4).2.2.1 = some z) (hdg : decode cc pc = .ok (.putfield index, 3))
    (kk : ∀ (H1 : Heap) (locs1 : List Loc), WD D cy As A H0 G (sh v M) H1 locs1 → W p l e R s m args below meth c H1 locs1 cells slots Q (F0 m (pc + 3) ls rest)) : W p l e R s m args below meth c H locs cells slots Q (F0 m pc ls (.long v :: .ref (A c0) :: rest)) := by
  obtain rfl : c0 = 3 := kd_5 c0 hc.1
  obtain ⟨q0, he⟩ := wl_get (A := A) (cy := cy) (M := M) hc.2
  rw [cont_5 hc.1] at he
  have e1 : (wl A cy G M).set q0 (A 3, .inr (5, (c5L A M 3).set 4 (.long v))) = wl A cy G (sh v M) := by
    refine wl_set hw.2.1 hc.2 he ?_ (fun c' h => cont_sh (fun h5 => h (kd_5 c' h5)))
    rw [cont_5 hc.1]
    rfl
  refine va_put (C := RX6) (T := TX6) (N := 5) (ty := tyX6 4) hx hb hts iwX6 tyX6 tyX6_ok nmX6 hown hK.1 hw.1 hw.2.1 hw.2.2 q0 he rfl 4 (by omega) (hts _ hlink) hsame rfl (tyX6_ok 4 (by omega)) rfl rfl (by show 4 < 5; omega) hdg (fun H1 locs1 h1 h2 h3 => kk H1 locs1 ⟨?_, ?_, h3⟩)
  · rw [← e1]; exact h1
  · rw [← e1]; exact h2
/-- int rows -/
theorem gI (hx : p.tables.exec = Jvm.exec) (hb : c.code = cc) (hK : KK D cy s) (hw : WD D cy As A H0 G M H locs) {q n : Nat} (hq : TR G n q) {i : Int32} (hin : vp_in i n) (hdg : decode cc pc = .ok (.iaload, 1))
    (kk : W p l e R s m args below meth c H locs cells slots Q (F0 m (pc + 1) ls (.int (gR M q i.toNatClampNeg) :: rest))) : W p l e R s m args below meth c H locs cells slots Q (F0 m pc ls (.int i :: .ref (A q) :: rest)) := by
  obtain ⟨q0, he⟩ := wl_get (A := A) (cy := cy) (M := M) hq.2.2
  rw [cont_6 hq.1, hq.2.1] at he
  exact va_iald hx hb hK.1 hw.1 q0 0 he rfl hin hdg kk
theorem pI (hx : p.tables.exec = Jvm.exec) (hb : c.code = cc) (hK : KK D cy s) (hw : WD D cy As A H0 G M H locs) {q n : Nat} (hq : TR G n q) {i v : Int32} (hin : vp_in i n) (hdg : decode cc pc = .ok (.iastore, 1))
    (kk : ∀ (H1 : Heap) (locs1 : List Loc), WD D cy As A H0 G (sR q (upd (gR M q) i.toNatClampNeg v) M) H1 locs1 → W p l e R s m args below meth c H1 locs1 cells slots Q (F0 m (pc + 1) ls rest)) : W p l e R s m args below meth c H locs cells slots Q (F0 m pc ls (.int v :: .int i :: .ref (A q) :: rest)) := by
  obtain ⟨q0, he⟩ := wl_get (A := A) (cy := cy) (M := M) hq.2.2
  rw [cont_6 hq.1, hq.2.1] at he
  have e1 : (wl A cy G M).set q0 (A q, .inl (cy 0, n, .inl (upd (gR M q) i.toNatClampNeg v))) = wl A cy G (sR q (upd (gR M q) i.toNatClampNeg v) M) := by
    refine wl_set hw.2.1 hq.2.2 he ?_ (fun c' h => cont_sR h)
    rw [cont_6 hq.1, hq.2.1]
    simp [gR, sR, va_up]
  refine va_iast hx hb hK.1 hw.1 hw.2.1 hw.2.2 q0 0 he rfl hin hdg (fun H1 locs1 h1 h2 h3 => kk H1 locs1 ⟨?_, ?_, h3⟩)
  · rw [← e1]; exact h1
  · rw [← e1]; exact h2
theorem lI (hx : p.tables.exec = Jvm.exec) (hb : c.code = cc) (hK : KK D cy s) (hw : WD D cy As A H0 G M H locs) {q n : Nat} (hq : TR G n q) {v : Int32} (hv : Int32.ofNat n = v) (hdg : decode cc pc = .ok (.arraylength, 1))
    (kk : W p l e R s m args below meth c H locs cells slots Q (F0 m (pc + 1) ls (.int v :: rest))) : W p l e R s m args below meth c H locs cells slots Q (F0 m pc ls (.ref (A q) :: rest)) := by
  obtain ⟨q0, he⟩ := wl_get (A := A) (cy := cy) (M := M) hq.2.2
  rw [cont_6 hq.1, hq.2.1] at he
  exact va_alen hx hb hK.1 hw.1 q0 0 he (ty := .int) rfl hv hdg kk

theorem g7 (hx : p.tables.exec = Jvm.exec) (hb : c.code = cc) (hK : KK D cy s) (hw : WD D cy As A H0 G M H locs) {q : Nat} (hq : TT G 7 q) {i : Int32} (hin : vp_in i 4) (hdg : decode cc pc = .ok (.aaload, 1))
    (kk : W p l e R s m args below meth c H locs cells slots Q (F0 m (pc + 1) ls (.ref (A (q + 25 + 5 * i.toNatClampNeg)) :: rest))) : W p l e R s m args below meth c H locs cells slots Q (F0 m pc ls (.int i :: .ref (A q) :: rest)) := by
  obtain ⟨q0, he⟩ := wl_get (A := A) (cy := cy) (M := M) hq.2
  rw [cont_7 hq.1] at he
  exact va_aldq (C := RX0) hx hb hK.1 hw.1 q0 1 he rfl hin hdg kk
theorem l7 (hx : p.tables.exec = Jvm.exec) (hb : c.code = cc) (hK : KK D cy s) (hw : WD D cy As A H0 G M H locs) {q : Nat} (hq : TT G 7 q) (hdg : decode cc pc = .ok (.arraylength, 1))
    (kk : W p l e R s m args below meth c H locs cells slots Q (F0 m (pc + 1) ls (.int 4 :: rest))) : W p l e R s m args below meth c H locs cells slots Q (F0 m pc ls (.ref (A q) :: rest)) := by
  obtain ⟨q0, he⟩ := wl_get (A := A) (cy := cy) (M := M) hq.2
  rw [cont_7 hq.1] at he
  exact va_alen hx hb hK.1 hw.1 q0 1 he (ty := .object RX0) rfl (v := 4) rfl hdg kk
theorem g8 (hx : p.tables.exec = Jvm.exec) (hb : c.code = cc) (hK : KK D cy s) (hw : WD D cy As A H0 G M H locs) {q : Nat} (hq : TT G 8 q) {i : Int32} (hin : vp_in i 8) (hdg : decode cc pc = .ok (.aaload, 1))
    (kk : W p l e R s m args below meth c H locs cells slots Q (F0 m (pc + 1) ls (.ref (A (q + 2 + 3 * i.toNatClampNeg)) :: rest))) : W p l e R s m args below meth c H locs cells slots Q (F0 m pc ls (.int i :: .ref (A q) :: rest)) := by
  obtain ⟨q0, he⟩ := wl_get (A := A) (cy := cy) (M := M) hq.2
  rw [cont_8 hq.1] at he
  exact va_aldq (C := RX1) hx hb hK.1 hw.1 q0 2 he rfl hin hdg kk
theorem l8 (hx : p.tables.exec = Jvm.exec) (hb : c.code = cc) (hK : KK D cy s) (hw : WD D cy As A H0 G M H locs) {q : Nat} (hq : TT G 8 q) (hdg : decode cc pc = .ok (.arraylength, 1))
    (kk : W p l e R s m args below meth c H locs cells slots Q (F0 m (pc + 1) ls (.int 8 :: rest))) : W p l e R s m args below meth c H locs cells slots Q (F0 m pc ls (.ref (A q) :: rest)) := by
  obtain ⟨q0, he⟩ := wl_get (A := A) (cy := cy) (M := M) hq.2
  rw [cont_8 hq.1] at he
  exact va_alen hx hb hK.1 hw.1 q0 2 he (ty := .object RX1) rfl (v := 8) rfl hdg kk
theorem g9 (hx : p.tables.exec = Jvm.exec) (hb : c.code = cc) (hK : KK D cy s) (hw : WD D cy As A H0 G M H locs) (hq : TT G 9 2) {i : Int32} (hin : vp_in i 4) (hdg : decode cc pc = .ok (.aaload, 1))
    (kk : W p l e R s m args below meth c H locs cells slots Q (F0 m (pc + 1) ls (va_rf (if G i.toNatClampNeg then some (A (128 + 64 * i.toNatClampNeg)) else none) :: rest))) : W p l e R s m args below meth c H locs cells slots Q (F0 m pc ls (.int i :: .ref (A 2) :: rest)) := by
  obtain ⟨q0, he⟩ := wl_get (A := A) (cy := cy) (M := M) hq.2
  rw [cont_9 hq.1] at he
  exact va_aldq (C := RX3) hx hb hK.1 hw.1 q0 3 he rfl hin hdg kk
theorem l9 (hx : p.tables.exec = Jvm.exec) (hb : c.code = cc) (hK : KK D cy s) (hw : WD D cy As A H0 G M H locs) (hq : TT G 9 2) (hdg : decode cc pc = .ok (.arraylength, 1))
    (kk : W p l e R s m args below meth c H locs cells slots Q (F0 m (pc + 1) ls (.int 4 :: rest))) : W p l e R s m args below meth c H locs cells slots Q (F0 m pc ls (.ref (A 2) :: rest)) := by
  obtain ⟨q0, he⟩ := wl_get (A := A) (cy := cy) (M := M) hq.2
  rw [cont_9 hq.1] at he
  exact va_alen hx hb hK.1 hw.1 q0 3 he (ty := .object RX3) rfl (v := 4) rfl hdg kk
/-- System.arraycopy between int rows -/
theorem cpI (hx : p.tables.exec = Jvm.exec) (hb : c.code = cc) (hml : c.maxLocals = ls.size) {own : String} {index : Nat} (hts : ∀ w ∈ LW, w.before args s = true) (hown : s.vm.findClass own = some m.cls) (hK : KK D cy s) (hw : WD D cy As A H0 G M H locs) (hlink : Cond.methodLink own index arraycopyName ∈ LW) {q1 n1 q2 n2 : Nat} (hq1 : TR G n1 q1) (hq2 : TR G n2 q2) {sp dp n : Int32} (h1 : ¬ sp < 0) (h2 : ¬ dp < 0) (h3 : ¬ n < 0) (h4 : sp.toNatClampNeg + n.toNatClampNeg ≤ n1) (h5 : dp.toNatClampNeg + n.toNatClampNeg ≤ n2) (hfr : 1 ≤ R.frames) (hlo : (rest.map fun v => v.category).sum + (nativeFrameWords "java/lang/System" "arraycopy" 5 + 11) ≤ R.locals) (hdg : decode cc pc = .ok (.invokestatic index, 3))
    (kk : ∀ (H1 : Heap) (locs1 : List Loc), WD D cy As A H0 G (sR q2 (va_cpy (gR M q1) (gR M q2) sp.toNatClampNeg dp.toNatClampNeg n.toNatClampNeg) M) H1 locs1 → W p l e R s m args below meth c H1 locs1 cells slots Q (F0 m (pc + 3) ls rest)) : W p l e R s m args below meth c H locs cells slots Q (F0 m pc ls (.int n :: .int dp :: .ref (A q2) :: .int sp :: .ref (A q1) :: rest)) := by
  obtain ⟨k1, he1⟩ := wl_get (A := A) (cy := cy) (M := M) hq1.2.2
  obtain ⟨k2, he2⟩ := wl_get (A := A) (cy := cy) (M := M) hq2.2.2
  rw [cont_6 hq1.1, hq1.2.1] at he1
  rw [cont_6 hq2.1, hq2.2.1] at he2
  have e1 : (wl A cy G M).set k2 (A q2, .inl (cy 0, n2, .inl (va_cpy (gR M q1) (gR M q2) sp.toNatClampNeg dp.toNatClampNeg n.toNatClampNeg))) = wl A cy G (sR q2 (va_cpy (gR M q1) (gR M q2) sp.toNatClampNeg dp.toNatClampNeg n.toNatClampNeg) M) := by
    refine wl_set hw.2.1 hq2.2.2 he2 ?_ (fun c' h => cont_sR h)
    rw [cont_6 hq2.1, hq2.2.1]
    simp [gR, sR, va_up]
  refine va_copyi (ty := .int) hx hb hml hown (hts _ hlink) (hts _ k_na_arraycopyName) (hts _ k_st_arraycopyName) (hts _ k_in_J_System) hK.1 hw.1 hw.2.1 hw.2.2 k1 k2 0 0 he1 he2 rfl rfl rfl h1 h2 h3 h4 h5 (fun _ _ => rfl) hfr hlo hdg (fun H1 locs1 h1 h2 h3 => kk H1 locs1 ⟨?_, ?_, h3⟩)
  · rw [← e1]; exact h1
  · rw [← e1]; exact h2
theorem mxI (hx : p.tables.exec = Jvm.exec) (hb : c.code = cc) (hml : c.maxLocals = ls.size) {own : String} {index : Nat} (hts : ∀ w ∈ LW, w.before args s = true) (hown : s.vm.findClass own = some m.cls) (hlink : Cond.methodLink own index Lib.Math.max.name ∈ LW) (hfr : 1 ≤ R.frames) (hlo : (rest.map fun v => v.category).sum + 13 ≤ R.locals) (hc : cells ≤ R.cells) (hs : slots ≤ R.slots) {x y : Int32} (hdg : decode cc pc = .ok (.invokestatic index, 3))
    (kk : W p l e R s m args below meth c H locs cells slots Q (F0 m (pc + 3) ls (.int (if x < y then y else x) :: rest))) : W p l e R s m args below meth c H locs cells slots Q (F0 m pc ls (.int y :: .int x :: rest)) :=
  va_mmax hx hb hml hown (hts _ hlink) (hts _ k_st_Lib_Math_max_name) (hts _ k_in_J_Math) (hts _ k_co_Lib_Math_max_name) hfr hlo hc hs hdg kk
theorem mnI (hx : p.tables.exec = Jvm.exec) (hb : c.code = cc) (hml : c.maxLocals = ls.size) {own : String} {index : Nat} (hts : ∀ w ∈ LW, w.before args s = true) (hown : s.vm.findClass own = some m.cls) (hlink : Cond.methodLink own index Lib.Math.min.name ∈ LW) (hfr : 1 ≤ R.frames) (hlo : (rest.map fun v => v.category).sum + 13 ≤ R.locals) (hc : cells ≤ R.cells) (hs : slots ≤ R.slots) {x y : Int32} (hdg : decode cc pc = .ok (.invokestatic index, 3))
    (kk : W p l e R s m args below meth c H locs cells slots Q (F0 m (pc + 3) ls (.int (if y < x then y else x) :: rest))) : W p l e R s m args below meth c H locs cells slots Q (F0 m pc ls (.int y :: .int x :: rest)) :=
  va_mmin hx hb hml hown (hts _ hlink) (hts _ k_st_Lib_Math_min_name) (hts _ k_in_J_Math) (hts _ k_co_Lib_Math_min_name) hfr hlo hc hs hdg kk
end ROWS
end
section
/-- a method's words: its code, and all the good words of the tables -/
abbrev wm (y : MethodName) (b : ByteArray) (n : Nat) (r : Option FieldType) : List Cond := Cond.code y b n r :: LW
theorem lw_gi : ∀ w ∈ LW, (w.onTables && w.keeps) = true ∨ ∃ ty, w = .arrayClass ty := fun w h => good_of_word (lw_good w h)
theorem gi_wm {y : MethodName} {b : ByteArray} {n : Nat} {r : Option FieldType} (h5 : Cond.code y b n r ∈ LW) : GoodIn LW (wm y b n r) := fun w h => by
  rcases List.mem_cons.mp h with rfl | h
  · exact ⟨h5, lw_gi _ h5⟩
  · exact ⟨h, lw_gi _ h⟩
section CALLS
variable {p : Program} {l : Launch} {e : Env} {R : Room} {s : State} {m : MethodId} {args : Array Value} {below : List Frame} {meth : Method} {c : Code} {H : Heap} {locs : List Loc} {cells slots : Nat} {Q : State → Prop}
variable {cc : ByteArray} {pc : Nat} {ls : Array Slot} {rest st0 : List Value} {D : va_G} {cy : Nat → ClassId} {As : Nat → Prop} {A : Nat → Nat} {H0 : Heap} {G : Nat → Bool} {M : Mem}
variable {y : MethodName} {b : ByteArray} {maxL nL mc ms index : Nat} {ret : Option FieldType} {rm : Room} {Pc : Array Value → State → Prop} {Qc : Array Value → State → Outcome → State → Prop} {free : Addr → Prop} {own C : String}
theorem mkV (n : Nat) (hts : ∀ w ∈ LW, w.before args s = true) (h1 : Cond.methodLink own index y ∈ LW) (h2 : Cond.instanceMethod y ∈ LW) (h3 : Cond.selects C y y ∈ LW) (h4 : Cond.initialized C ∈ LW) (h5 : Cond.code y b maxL ret ∈ LW)
    (hd : y.cls = C ∧ y.cls ≠ "java/lang/invoke/MethodHandle" ∧ y.cls ≠ "java/lang/invoke/VarHandle" ∧ (parseMethodDescriptor y.desc).map (fun d => d.parameters.length) = some n) (hR : rm.frames + 1 ≤ R.frames ∧ 8 + (maxL + 11) + rm.locals ≤ R.locals) : CallW R s args own C index y b maxL ret (wm y b maxL ret) rm rm.cells rm.slots n := by
  refine cwV n hts (fun w h => ?_) rfl rfl rfl hd hR
  rcases List.mem_append.mp h with h | h
  · simp only [List.mem_cons, List.not_mem_nil, or_false] at h
    rcases h with rfl | rfl | rfl | rfl
    · exact ⟨h1, lw_gi _ h1⟩
    · exact ⟨h2, lw_gi _ h2⟩
    · exact ⟨h3, lw_gi _ h3⟩
    · exact ⟨h4, lw_gi _ h4⟩
  · exact gi_wm h5 w h
theorem mkS (n : Nat) (hts : ∀ w ∈ LW, w.before args s = true) (h1 : Cond.methodLink own index y ∈ LW) (h2 : Cond.static y ∈ LW) (h4 : Cond.initialized C ∈ LW) (h5 : Cond.code y b maxL ret ∈ LW)
    (hd : y.cls = C ∧ y.cls ≠ "java/lang/invoke/MethodHandle" ∧ y.cls ≠ "java/lang/invoke/VarHandle" ∧ (parseMethodDescriptor y.desc).map (fun d => d.parameters.length) = some n) (hR : rm.frames + 1 ≤ R.frames ∧ 8 + (maxL + 11) + rm.locals ≤ R.locals) : CallB R s args own index y b maxL ret (wm y b maxL ret) rm rm.cells rm.slots n ∧ (Cond.static y).before args s = true := by
  obtain ⟨rfl, hd⟩ := hd
  exact ⟨callB_of n hts (gi_wm h5) rfl rfl rfl (hts _ h4) (hts _ h1) hd hR, hts _ h2⟩
theorem mkSN (n : Nat) {host : String} (hts : ∀ w ∈ LW, w.before args s = true) (h1 : va_Nw (.methodLinkNest own index y host) s) (h2 : Cond.static y ∈ LW) (h4 : Cond.initialized C ∈ LW) (h5 : Cond.code y b maxL ret ∈ LW)
    (hd : y.cls = C ∧ y.cls ≠ "java/lang/invoke/MethodHandle" ∧ y.cls ≠ "java/lang/invoke/VarHandle" ∧ (parseMethodDescriptor y.desc).map (fun d => d.parameters.length) = some n) (hR : rm.frames + 1 ≤ R.frames ∧ 8 + (maxL + 11) + rm.locals ≤ R.locals) : va_CN R s args own index y host b maxL ret (wm y b maxL ret) rm rm.cells rm.slots n ∧ (Cond.static y).before args s = true ∧ True := by
  obtain ⟨rfl, hd⟩ := hd
  exact ⟨va_cnB n hts (gi_wm h5) rfl rfl rfl h1 (hts _ h4) hd hR, hts _ h2, trivial⟩
theorem preU {sz : Nat} {av : List Value} (hK : KK D cy s) (hw : WD D cy As A H0 G M H locs) (hz : H.size = sz) : ∀ U : State, U.heap = H → s.WarmedH U.vm → va_Pc av (Pr D cy A G M sz) av.toArray U := fun U hU hW => ⟨rfl, by rw [hU]; exact hz, by rw [hU]; exact hw.1, hK.warm hW, hw.2.1.weaken (fun _ _ _ _ => trivial)⟩
theorem recvT (hK : KK D cy s) (hw : WD D cy As A H0 G M H locs) {k c0 : Nat} (hc : TT G k c0) (h6 : k < 6) {C : String} {T : u_T} {N : Nat} (hcl : vwCl[k]? = some (C, T, N)) : ∃ cellB : Cell, H[A c0]? = some cellB ∧ cellB.vm.isStatics = false ∧ s.vm.findClass C = some cellB.cls := by
  obtain ⟨q0, he⟩ := wl_get (A := A) (cy := cy) (M := M) hc.2
  have hk : k = 0 ∨ k = 1 ∨ k = 2 ∨ k = 3 ∨ k = 4 ∨ k = 5 := by omega
  obtain ⟨fs, hfs⟩ : ∃ fs, cont A cy G M c0 = .inr (k, fs) := by
    rcases hk with rfl | rfl | rfl | rfl | rfl | rfl
    · exact ⟨_, cont_0 hc.1⟩
    · exact ⟨_, cont_1 hc.1⟩
    · exact ⟨_, cont_2 hc.1⟩
    · exact ⟨_, cont_3 hc.1⟩
    · exact ⟨_, cont_4 hc.1⟩
    · exact ⟨_, cont_5 hc.1⟩
  rw [hfs] at he
  exact va_recv (q := (C, T, N)) hK.1 hw.1 hcl he
theorem rV (hx : p.tables.exec = Jvm.exec) (hb : c.code = cc) (hml : c.maxLocals = nL) (hts : ∀ w ∈ LW, w.before args s = true) (hown : s.vm.findClass own = some m.cls) (hK : KK D cy s) (hw : WD D cy As A H0 G M H locs) {c0 : Nat} {av : List Value}
    (hM : Met l y (wm y b maxL ret) rm (va_Pc (.ref (A c0) :: av) (Pr D cy A G M H.size)) Qc mc ms free) {k : Nat} (hc : TT G k c0) (h6 : k < 6) {T : u_T} {N : Nat} (hcl : vwCl[k]? = some (C, T, N)) {n : Nat} (hcw : CallW R s args own C index y b maxL ret (wm y b maxL ret) rm mc ms n) (hn : av.length = n) (hl : ls.size = nL) (hst : st0 = av.reverse ++ .ref (A c0) :: rest) (hroom : (rest.map fun v => v.category).sum ≤ 8) (hdg : decode cc pc = .ok (.invokevirtual index, 3)) (hf : cells + mc ≤ R.cells ∧ slots + ms ≤ R.slots) :
    va_Run p l e R s m args below meth c H locs cells slots mc ms (F0 m pc ls st0) rest (Qc (Value.ref (A c0) :: av).toArray) free :=
  va_runV ⟨hx, hb, hml, hown, hts⟩ hM hcw ⟨Pr.blind, recvT hK hw hc h6 hcl, preU hK hw rfl⟩ rfl hn hl hst (lv_room (pc := pc) (ls := ls) (rest := st0) (m := m) hroom) hdg hf
theorem rS (hx : p.tables.exec = Jvm.exec) (hb : c.code = cc) (hml : c.maxLocals = nL) (hts : ∀ w ∈ LW, w.before args s = true) (hown : s.vm.findClass own = some m.cls) (hK : KK D cy s) (hw : WD D cy As A H0 G M H locs) {av : List Value}
    (hM : Met l y (wm y b maxL ret) rm (va_Pc av (Pr D cy A G M H.size)) Qc mc ms free) {n : Nat} (hcw : CallB R s args own index y b maxL ret (wm y b maxL ret) rm mc ms n ∧ (Cond.static y).before args s = true) (hn : av.length = n) (hl : ls.size = nL) (hst : st0 = av.reverse ++ rest) (hroom : (rest.map fun v => v.category).sum ≤ 8) (hdg : decode cc pc = .ok (.invokestatic index, 3)) (hf : cells + mc ≤ R.cells ∧ slots + ms ≤ R.slots) :
    va_Run p l e R s m args below meth c H locs cells slots mc ms (F0 m pc ls st0) rest (Qc av.toArray) free :=
  va_runS ⟨hx, hb, hml, hown, hts⟩ hM hcw ⟨Pr.blind, preU hK hw rfl⟩ rfl hn hl hst (lv_room (pc := pc) (ls := ls) (rest := st0) (m := m) hroom) hdg hf
theorem rSN {host : String} (hx : p.tables.exec = Jvm.exec) (hb : c.code = cc) (hml : c.maxLocals = nL) (hts : ∀ w ∈ LW, w.before args s = true) (hown : s.vm.findClass own = some m.cls) (hK : KK D cy s) (hw : WD D cy As A H0 G M H locs) {av : List Value}
    (hM : Met l y (wm y b maxL ret) rm (va_Pc av (Pr D cy A G M H.size)) Qc mc ms free) {n : Nat} (hcw : va_CN R s args own index y host b maxL ret (wm y b maxL ret) rm mc ms n ∧ (Cond.static y).before args s = true ∧ True) (hn : av.length = n) (hl : ls.size = nL) (hst : st0 = av.reverse ++ rest) (hroom : (rest.map fun v => v.category).sum ≤ 8) (hdg : decode cc pc = .ok (.invokestatic index, 3)) (hf : cells + mc ≤ R.cells ∧ slots + ms ≤ R.slots) :
    va_Run p l e R s m args below meth c H locs cells slots mc ms (F0 m pc ls st0) rest (Qc av.toArray) free :=
  va_runSN ⟨hx, hb, hml, hown, hts⟩ hM hcw ⟨Pr.blind, preU hK hw rfl⟩ rfl hn hl hst (lv_room (pc := pc) (ls := ls) (rest := st0) (m := m) hroom) hdg hf
/-- the world behind a call -/
theorem wdB {M1 : Mem} {t : State} {H1 : Heap} {locs1 : List Loc} (hw : WD D cy As A H0 G M H locs) (hA : ∀ q, H0.size ≤ q → As q) (ht : t.heap = H1) (hB : Po D cy A G (Fr A G H.size) M1 t) (hS : va_S As H0 H1 locs1) : WD D cy As A H0 G M1 H1 locs1 :=
  ⟨by rw [← ht]; exact hB.1, hB.2.2.weaken (fun _ _ _ h => Fr_As hw hA _ h), hS⟩
variable {M1 : Mem} {a : Array Value}
theorem ki {r : Int32} (hw : WD D cy As A H0 G M H locs) (hA : ∀ q, H0.size ≤ q → As q) (hr : va_Run p l e R s m args below meth c H locs cells slots 0 0 (F0 m pc ls st0) rest (va_Qi (fun (r' : Int32) (u : Mem) => r' = r ∧ u = M1) (Po D cy A G (Fr A G H.size)) (Fr A G H.size) a) (Fr A G H.size))
    (kk : ∀ (H1 : Heap) (locs1 : List Loc), WD D cy As A H0 G M1 H1 locs1 → W p l e R s m args below meth c H1 locs1 cells slots Q (F0 m (pc + 3) ls (.int r :: rest))) : W p l e R s m args below meth c H locs cells slots Q (F0 m pc ls st0) :=
  va_calli hr hw.2.2 (fun q _ h => Fr_As hw hA q h) (Fr_As hw hA) (fun r' u t H1 locs1 ht _ hp hB _ _ hS => by
    obtain ⟨rfl, rfl⟩ := hp
    exact kk H1 locs1 (wdB hw hA ht hB hS))
theorem kl {r : Int64} (hw : WD D cy As A H0 G M H locs) (hA : ∀ q, H0.size ≤ q → As q) (hr : va_Run p l e R s m args below meth c H locs cells slots 0 0 (F0 m pc ls st0) rest (va_Ql (fun (r' : Int64) (u : Mem) => r' = r ∧ u = M1) (Po D cy A G (Fr A G H.size)) (Fr A G H.size) a) (Fr A G H.size))
    (kk : ∀ (H1 : Heap) (locs1 : List Loc), WD D cy As A H0 G M1 H1 locs1 → W p l e R s m args below meth c H1 locs1 cells slots Q (F0 m (pc + 3) ls (.long r :: rest))) : W p l e R s m args below meth c H locs cells slots Q (F0 m pc ls st0) :=
  va_calll hr hw.2.2 (fun q _ h => Fr_As hw hA q h) (Fr_As hw hA) (fun r' u t H1 locs1 ht _ hp hB _ _ hS => by
    obtain ⟨rfl, rfl⟩ := hp
    exact kk H1 locs1 (wdB hw hA ht hB hS))
theorem kf {r : UInt32} (hw : WD D cy As A H0 G M H locs) (hA : ∀ q, H0.size ≤ q → As q) (hr : va_Run p l e R s m args below meth c H locs cells slots 0 0 (F0 m pc ls st0) rest (va_Qf (fun (r' : UInt32) (u : Mem) => r' = r ∧ u = M1) (Po D cy A G (Fr A G H.size)) (Fr A G H.size) a) (Fr A G H.size))
    (kk : ∀ (H1 : Heap) (locs1 : List Loc), WD D cy As A H0 G M1 H1 locs1 → W p l e R s m args below meth c H1 locs1 cells slots Q (F0 m (pc + 3) ls (.float r :: rest))) : W p l e R s m args below meth c H locs cells slots Q (F0 m pc ls st0) :=
  va_callf hr hw.2.2 (fun q _ h => Fr_As hw hA q h) (Fr_As hw hA) (fun r' u t H1 locs1 ht _ hp hB _ _ hS => by
    obtain ⟨rfl, rfl⟩ := hp
    exact kk H1 locs1 (wdB hw hA ht hB hS))
theorem kv (hw : WD D cy As A H0 G M H locs) (hA : ∀ q, H0.size ≤ q → As q) (hr : va_Run p l e R s m args below meth c H locs cells slots 0 0 (F0 m pc ls st0) rest (va_Qv (fun (u : Mem) => u = M1) (Po D cy A G (Fr A G H.size)) (Fr A G H.size) a) (Fr A G H.size))
    (kk : ∀ (H1 : Heap) (locs1 : List Loc), WD D cy As A H0 G M1 H1 locs1 → W p l e R s m args below meth c H1 locs1 cells slots Q (F0 m (pc + 3) ls rest)) : W p l e R s m args below meth c H locs cells slots Q (F0 m pc ls st0) :=
  va_callv hr hw.2.2 (fun q _ h => Fr_As hw hA q h) (Fr_As hw hA) (fun u t H1 locs1 ht _ hp hB _ _ hS => by
    subst hp
    exact kk H1 locs1 (wdB hw hA ht hB hS))
theorem kq {r : Option Nat} (hw : WD D cy As A H0 G M H locs) (hA : ∀ q, H0.size ≤ q → As q) (hr : va_Run p l e R s m args below meth c H locs cells slots 0 0 (F0 m pc ls st0) rest (va_Qq (fun (r' : Option Nat) (u : Mem) => r' = r.map A ∧ u = M1) (Po D cy A G (Fr A G H.size)) (Fr A G H.size) a) (Fr A G H.size))
    (kn : r = none → ∀ (H1 : Heap) (locs1 : List Loc), WD D cy As A H0 G M1 H1 locs1 → W p l e R s m args below meth c H1 locs1 cells slots Q (F0 m (pc + 3) ls (.null :: rest)))
    (kk : ∀ x : Nat, r = some x → ∀ (H1 : Heap) (locs1 : List Loc), WD D cy As A H0 G M1 H1 locs1 → W p l e R s m args below meth c H1 locs1 cells slots Q (F0 m (pc + 3) ls (.ref (A x) :: rest))) : W p l e R s m args below meth c H locs cells slots Q (F0 m pc ls st0) :=
  va_callq hr hw.2.2 (fun q _ h => Fr_As hw hA q h) (Fr_As hw hA) (fun r' u t H1 locs1 ht _ hp hB _ _ hS => by
    obtain ⟨h1, rfl⟩ := hp
    cases r with
    | none => subst h1; exact kn rfl H1 locs1 (wdB hw hA ht hB hS)
    | some x => subst h1; exact kk x rfl H1 locs1 (wdB hw hA ht hB hS))
/-- a method's ends -/
theorem eI {v : Int32} (hx : p.tables.exec = Jvm.exec) (hb : c.code = cc) (hr : meth.sig.returnType = some .int) (hlocks : meth.locks = false) (hK : KK D cy s) (hw : WD D cy (Fr A G s.heap.size) A s.heap G M H locs) (hdg : decode cc pc = .ok (.ireturn, 1)) :
    W p l e R s m args below meth c H locs cells slots (MQ below (va_Qi (fun (r' : Int32) (u : Mem) => r' = v ∧ u = M) (Po D cy A G (Fr A G s.heap.size)) (Fr A G s.heap.size)) args s cells slots (Fr A G s.heap.size)) (F0 m pc ls [.int v]) :=
  W.iret hx hb hr (fun t ht hW => ⟨⟨v, M, rfl, ⟨rfl, rfl⟩, by rw [ht]; exact hw.1, hK.warm hW, hw.2.1⟩, hw.2.2.F ht⟩) hw.2.2.2.2 hdg hlocks
theorem eZ {v : Int32} (hz : zb v) (hx : p.tables.exec = Jvm.exec) (hb : c.code = cc) (hr : meth.sig.returnType = some .boolean) (hlocks : meth.locks = false) (hK : KK D cy s) (hw : WD D cy (Fr A G s.heap.size) A s.heap G M H locs) (hdg : decode cc pc = .ok (.ireturn, 1)) :
    W p l e R s m args below meth c H locs cells slots (MQ below (va_Qi (fun (r' : Int32) (u : Mem) => r' = v ∧ u = M) (Po D cy A G (Fr A G s.heap.size)) (Fr A G s.heap.size)) args s cells slots (Fr A G s.heap.size)) (F0 m pc ls [.int v]) :=
  W.zret hx hb hr (zb_n hz) (fun t ht hW => ⟨⟨v, M, rfl, ⟨rfl, rfl⟩, by rw [ht]; exact hw.1, hK.warm hW, hw.2.1⟩, hw.2.2.F ht⟩) hw.2.2.2.2 hdg hlocks
theorem eL {v : Int64} (hx : p.tables.exec = Jvm.exec) (hb : c.code = cc) (hr : meth.sig.returnType = some .long) (hlocks : meth.locks = false) (hK : KK D cy s) (hw : WD D cy (Fr A G s.heap.size) A s.heap G M H locs) (hdg : decode cc pc = .ok (.lreturn, 1)) :
    W p l e R s m args below meth c H locs cells slots (MQ below (va_Ql (fun (r' : Int64) (u : Mem) => r' = v ∧ u = M) (Po D cy A G (Fr A G s.heap.size)) (Fr A G s.heap.size)) args s cells slots (Fr A G s.heap.size)) (F0 m pc ls [.long v]) :=
  W.lret hx hb hr (fun t ht hW => ⟨⟨v, M, rfl, ⟨rfl, rfl⟩, by rw [ht]; exact hw.1, hK.warm hW, hw.2.1⟩, hw.2.2.F ht⟩) hw.2.2.2.2 hdg hlocks
theorem eF {v : UInt32} (hx : p.tables.exec = Jvm.exec) (hb : c.code = cc) (hr : meth.sig.returnType = some .float) (hlocks : meth.locks = false) (hK : KK D cy s) (hw : WD D cy (Fr A G s.heap.size) A s.heap G M H locs) (hdg : decode cc pc = .ok (.freturn, 1)) :
    W p l e R s m args below meth c H locs cells slots (MQ below (va_Qf (fun (r' : UInt32) (u : Mem) => r' = v ∧ u = M) (Po D cy A G (Fr A G s.heap.size)) (Fr A G s.heap.size)) args s cells slots (Fr A G s.heap.size)) (F0 m pc ls [.float v]) :=
  W.fret hx hb hr (fun t ht hW => ⟨⟨v, M, rfl, ⟨rfl, rfl⟩, by rw [ht]; exact hw.1, hK.warm hW, hw.2.1⟩, hw.2.2.F ht⟩) hw.2.2.2.2 hdg hlocks
theorem eV (hx : p.tables.exec = Jvm.exec) (hb : c.code = cc) (hr : meth.sig.returnType = none) (hlocks : meth.locks = false) (hK : KK D cy s) (hw : WD D cy (Fr A G s.heap.size) A s.heap G M H locs) (hdg : decode cc pc = .ok (.return_, 1)) :
    W p l e R s m args below meth c H locs cells slots (MQ below (va_Qv (fun (u : Mem) => u = M) (Po D cy A G (Fr A G s.heap.size)) (Fr A G s.heap.size)) args s cells slots (Fr A G s.heap.size)) (F0 m pc ls []) :=
  W.vret hx hb hr (fun t ht hW => ⟨⟨M, rfl, rfl, by rw [ht]; exact hw.1, hK.warm hW, hw.2.1⟩, hw.2.2.F ht⟩) hw.2.2.2.2 hdg hlocks
theorem eN {n : String} (hx : p.tables.exec = Jvm.exec) (hb : c.code = cc) (hr : meth.sig.returnType = some (.object n)) (hlocks : meth.locks = false) (hK : KK D cy s) (hw : WD D cy (Fr A G s.heap.size) A s.heap G M H locs) (hdg : decode cc pc = .ok (.areturn, 1)) :
    W p l e R s m args below meth c H locs cells slots (MQ below (va_Qq (fun (r' : Option Nat) (u : Mem) => r' = Option.map A none ∧ u = M) (Po D cy A G (Fr A G s.heap.size)) (Fr A G s.heap.size)) args s cells slots (Fr A G s.heap.size)) (F0 m pc ls [.null]) :=
  W.aret hx hb hr (Or.inl ⟨n, rfl⟩) (Or.inl rfl) (fun t ht hW => ⟨⟨none, M, rfl, ⟨rfl, rfl⟩, by rw [ht]; exact hw.1, hK.warm hW, hw.2.1⟩, hw.2.2.F ht⟩) hw.2.2.2.2 hdg hlocks
theorem eQ {n : String} {x : Nat} (hx : p.tables.exec = Jvm.exec) (hb : c.code = cc) (hr : meth.sig.returnType = some (.object n)) (hlocks : meth.locks = false) (hK : KK D cy s) (hw : WD D cy (Fr A G s.heap.size) A s.heap G M H locs) (hdg : decode cc pc = .ok (.areturn, 1)) :
    W p l e R s m args below meth c H locs cells slots (MQ below (va_Qq (fun (r' : Option Nat) (u : Mem) => r' = Option.map A (some x) ∧ u = M) (Po D cy A G (Fr A G s.heap.size)) (Fr A G s.heap.size)) args s cells slots (Fr A G s.heap.size)) (F0 m pc ls [.ref (A x)]) :=
  W.aret hx hb hr (Or.inl ⟨n, rfl⟩) (Or.inr ⟨_, rfl⟩) (fun t ht hW => ⟨⟨some (A x), M, rfl, ⟨rfl, rfl⟩, by rw [ht]; exact hw.1, hK.warm hW, hw.2.1⟩, hw.2.2.F ht⟩) hw.2.2.2.2 hdg hlocks
end CALLS
theorem Fr_hi {A : Nat → Nat} {G : Nat → Bool} {sz : Nat} : ∀ q, sz ≤ q → Fr A G sz q := fun _ h => Or.inr h
/-- a method's contract out of its body -/
theorem ofB {l : Launch} {D : va_G} {cy : Nat → ClassId} {A : Nat → Nat} {G : Nat → Bool} {M : Mem} {y : MethodName} {b : ByteArray} {maxL : Nat} {ret : Option FieldType} {rm : Room} {av : List Value} {Qc : Nat → Array Value → State → Outcome → State → Prop} {sz : Nat} (hy : plainName y.cls = true) (hn : (lg_sl av).length ≤ maxL)
    (body : ∀ (p : Program) (e : Env) (s : State) (m : MethodId) (below : List Frame) (meth : Method) (c : Code), p.tables.exec = Jvm.exec → c.code = b → meth.sig.returnType = ret → (∀ w ∈ LW, w.before av.toArray s = true) → s.vm.findClass y.cls = some m.cls → meth.locks = false → c.maxLocals = maxL → meth.name = y.name → KK D cy s → WD D cy (Fr A G s.heap.size) A s.heap G M s.heap [] → ∀ ls : Array Slot, lv_has ls maxL (lv_args 0 av) →
      W p l e (headSpec (wm y b maxL ret) rm).room s m av.toArray below meth c s.heap [] 0 0 (MQ below (Qc s.heap.size) av.toArray s 0 0 (Fr A G s.heap.size)) (F0 m 0 ls [])) : Met l y (wm y b maxL ret) rm (va_Pc av (Pr D cy A G M sz)) (Qc sz) 0 0 (Fr A G sz) := by
  refine Met.ofW (cc := b) (maxL := maxL) (ret := ret) hy rfl ?_
  intro p e s m args below meth c s₁ B hml hv
  obtain ⟨rfl, hsz, hP, hK, hD0⟩ := hv
  have hts0 := atoms_spec (ws := wm y b maxL ret) B.pre
  subst hsz
  have hl := lv_entry av (n := maxL) hn
  rw [lg_entry_eq]
  exact body p e s m below meth c B.exec B.bytes B.returns (fun w h => hts0 w (List.mem_cons_of_mem _ h)) (findClass_of_methodNamed B.named) B.notSynchronized hml (name_of_methodNamed B.named B.method).1 hK ⟨hP, wl_Fr hD0, va_S.rf⟩ _ hl
/-- loops: the mirrors' fuel -/
def fuel : Nat := 100000
end
section
/-! what the mirrors are written in -/
abbrev cl (i : Int32) : Nat := i.toNatClampNeg
abbrev ix (i : Int32) (n : Nat) : Prop := ¬ (i < 0 ∨ n ≤ i.toNatClampNeg)
abbrev n32 (r : UInt32) : Prop := r &&& 0x7fffffff ≤ 0x7f800000
def us (x y : Int32) : Int32 := (x.toUInt32 >>> (y.toUInt32 &&& Int32.toUInt32 31)).toInt32
def aI (q : Nat) (i v : Int32) (M : Mem) : Mem := sR q (upd (gR M q) i.toNatClampNeg v) M
def cI (q1 : Nat) (sp : Int32) (q2 : Nat) (dp n : Int32) (M : Mem) : Mem := sR q2 (va_cpy (gR M q1) (gR M q2) sp.toNatClampNeg dp.toNatClampNeg n.toNatClampNeg) M
def on {α : Type} (r : Option Nat) (n : α) (f : Nat → α) : α := match r with
  | none => n
  | some x => f x
theorem on_none {α : Type} {r : Option Nat} {n : α} {f : Nat → α} (h : r = none) : on r n f = n := by rw [h]; rfl
theorem on_some {α : Type} {r : Option Nat} {n : α} {f : Nat → α} {x : Nat} (h : r = some x) : on r n f = f x := by rw [h]; rfl
/-! kinds of codes -/
def kd2 (r : Nat) : Nat := if r = 0 then 2 else if r = 1 then 8 else if r = 2 then 7 else if r < 27 then (if r % 3 = 0 then 1 else 6) else if (r - 27) % 5 = 0 then 0 else 6
def rl2 (r : Nat) : Nat := if r < 27 then (if r % 3 = 1 then 160 else 100) else if (r - 27) % 5 = 1 then 40 else if (r - 27) % 5 = 2 then 40 else if (r - 27) % 5 = 3 then 41 else 205
theorem kd_ge {c : Nat} (h : 8 ≤ c) : kd c = kd2 (c % 64) := by
  unfold kd kd2
  rw [if_neg (by omega), if_neg (by omega), if_neg (by omega), if_neg (by omega), if_neg (by omega), if_neg (by omega), if_neg (by omega), if_neg (by omega)]
theorem rl_ge {c : Nat} (h : 8 ≤ c) : rl c = rl2 (c % 64) := by
  unfold rl rl2
  rw [if_neg (by omega), if_neg (by omega)]
theorem inL_iff {G : Nat → Bool} {c : Nat} : inL G c = true ↔ c < 8 ∨ (64 ≤ c ∧ c < 384 ∧ c % 64 < 47 ∧ (c < 128 ∨ G (c / 64 - 2) = true)) := by
  unfold inL
  simp only [Bool.or_eq_true, Bool.and_eq_true, decide_eq_true_eq, and_assoc]
theorem kd_lt {c : Nat} (h : c < 8) : kd c = 3 ∨ kd c = 4 ∨ kd c = 5 ∨ kd c = 6 ∨ kd c = 9 ∨ kd c = 10 ∨ kd c = 11 := (by decide : ∀ c, c < 8 → kd c = 3 ∨ kd c = 4 ∨ kd c = 5 ∨ kd c = 6 ∨ kd c = 9 ∨ kd c = 10 ∨ kd c = 11) c h
theorem TT_hi {G : Nat → Bool} {k c : Nat} (h : TT G k c) (hk : k = 0 ∨ k = 1 ∨ k = 2 ∨ k = 7 ∨ k = 8) : 64 ≤ c ∧ c < 384 ∧ c % 64 < 47 ∧ (c < 128 ∨ G (c / 64 - 2) = true) ∧ kd2 (c % 64) = k := by
  have h8 : ¬ c < 8 := fun h8 => by
    have := kd_lt h8
    have h1 := h.1
    omega
  rcases inL_iff.mp h.2 with h2 | ⟨a, b, d, e⟩
  · exact absurd h2 h8
  · exact ⟨a, b, d, e, by rw [← kd_ge (by omega)]; exact h.1⟩
theorem add_hi {G : Nat → Bool} {c j : Nat} (a : 64 ≤ c) (b : c < 384) (d : c % 64 + j < 47) (e : c < 128 ∨ G (c / 64 - 2) = true) : inL G (c + j) = true ∧ kd (c + j) = kd2 (c % 64 + j) ∧ rl (c + j) = rl2 (c % 64 + j) := by
  have h1 : (c + j) % 64 = c % 64 + j := by omega
  have h2 : (c + j) / 64 = c / 64 := by omega
  refine ⟨inL_iff.mpr (Or.inr ⟨by omega, by omega, by omega, ?_⟩), by rw [kd_ge (by omega), h1], by rw [rl_ge (by omega), h1]⟩
  rcases e with e | e
  · exact Or.inl (by omega)
  · exact Or.inr (by rw [h2]; exact e)
theorem TR_add {G : Nat → Bool} {k c j n : Nat} (h : TT G k c) (hk : k = 0 ∨ k = 1 ∨ k = 2 ∨ k = 7 ∨ k = 8) (hd : ∀ r, r < 47 → kd2 r = k → r + j < 47 ∧ kd2 (r + j) = 6 ∧ rl2 (r + j) = n) : TR G n (c + j) := by
  obtain ⟨a, b, d, e, f⟩ := TT_hi h hk
  obtain ⟨h1, h2, h3⟩ := hd _ d f
  obtain ⟨x, y, z⟩ := add_hi a b h1 e
  exact ⟨y.trans h2, z.trans h3, x⟩
theorem TT_add {G : Nat → Bool} {k k' c j : Nat} (h : TT G k c) (hk : k = 0 ∨ k = 1 ∨ k = 2 ∨ k = 7 ∨ k = 8) (hd : ∀ r, r < 47 → kd2 r = k → r + j < 47 ∧ kd2 (r + j) = k') : TT G k' (c + j) := by
  obtain ⟨a, b, d, e, f⟩ := TT_hi h hk
  obtain ⟨h1, h2⟩ := hd _ d f
  obtain ⟨x, y, z⟩ := add_hi a b h1 e
  exact ⟨y.trans h2, x⟩
theorem nd_s {G : Nat → Bool} {c : Nat} (h : TT G 1 c) : TR G 160 (c + 1) := TR_add h (by decide) (by decide)
theorem nd_i {G : Nat → Bool} {c : Nat} (h : TT G 1 c) : TR G 100 (c + 2) := TR_add h (by decide) (by decide)
theorem ld_p {G : Nat → Bool} {c : Nat} (h : TT G 0 c) : TR G 40 (c + 1) := TR_add h (by decide) (by decide)
theorem ld_a {G : Nat → Bool} {c : Nat} (h : TT G 0 c) : TR G 40 (c + 2) := TR_add h (by decide) (by decide)
theorem ld_s {G : Nat → Bool} {c : Nat} (h : TT G 0 c) : TR G 41 (c + 3) := TR_add h (by decide) (by decide)
theorem ld_m {G : Nat → Bool} {c : Nat} (h : TT G 0 c) : TR G 205 (c + 4) := TR_add h (by decide) (by decide)
theorem st_n {G : Nat → Bool} {c : Nat} (h : TT G 2 c) : TT G 8 (c + 1) := TT_add h (by decide) (by decide)
theorem st_l {G : Nat → Bool} {c : Nat} (h : TT G 2 c) : TT G 7 (c + 2) := TT_add h (by decide) (by decide)
theorem sk_r {G : Nat → Bool} {c : Nat} (_ : TT G 3 c) : TT G 9 2 := ⟨rfl, rfl⟩
theorem ls_n {G : Nat → Bool} {c : Nat} (_ : TT G 4 c) : TT G 2 64 := ⟨rfl, rfl⟩
theorem ls_p {G : Nat → Bool} {c : Nat} (_ : TT G 4 c) : TT G 3 1 := ⟨rfl, rfl⟩
theorem mo_s {G : Nat → Bool} {c : Nat} (_ : TT G 5 c) : TR G 3463 4 := ⟨rfl, rfl, rfl⟩
theorem mo_p {G : Nat → Bool} {c : Nat} (_ : TT G 5 c) : TR G 13852 5 := ⟨rfl, rfl, rfl⟩
theorem ix_lt {i : Int32} {n : Nat} (h : ix i n) : i.toNatClampNeg < n := Nat.not_le.mp fun q => h (Or.inr q)
theorem ns_at {G : Nat → Bool} {q : Nat} {i : Int32} (h : TT G 8 q) (hi : ix i 8) : TT G 1 (q + 2 + 3 * i.toNatClampNeg) := by
  have hl := ix_lt hi
  generalize i.toNatClampNeg = j at hl
  have := TT_add (j := 2 + 3 * j) (k' := 1) h (by decide) (by
    intro r hr hk
    have e : r = 1 := (by decide : ∀ r, r < 47 → kd2 r = 8 → r = 1) r hr hk
    subst e
    exact (by decide : ∀ j, j < 8 → 1 + (2 + 3 * j) < 47 ∧ kd2 (1 + (2 + 3 * j)) = 1) j hl)
  rw [Nat.add_assoc]
  exact this
theorem ls_at {G : Nat → Bool} {q : Nat} {i : Int32} (h : TT G 7 q) (hi : ix i 4) : TT G 0 (q + 25 + 5 * i.toNatClampNeg) := by
  have hl := ix_lt hi
  generalize i.toNatClampNeg = j at hl
  have := TT_add (j := 25 + 5 * j) (k' := 0) h (by decide) (by
    intro r hr hk
    have e : r = 2 := (by decide : ∀ r, r < 47 → kd2 r = 7 → r = 2) r hr hk
    subst e
    exact (by decide : ∀ j, j < 4 → 2 + (25 + 5 * j) < 47 ∧ kd2 (2 + (25 + 5 * j)) = 0) j hl)
  rw [Nat.add_assoc]
  exact this
end
section
/-! a float constant by a wide index; a method of a class that has natives -/
theorem ldcwF {p : Program} {l : Launch} {e : Env} {R : Room} {s : State} {m : MethodId} {args : Array Value} {below : List Frame} {meth : Method} {c : Code} {T : State} {locs : List Loc} {cells slots : Nat} (X : Stand p l e R s m args below meth c T locs cells slots) (hexec : p.tables.exec = Jvm.exec) {own : String} {index : Nat} {b : UInt32} (hown : s.vm.findClass own = some m.cls)
    (hconst : (Cond.constantFloat own index b).before args s = true) {g : JFrame} (hg : g.method = m) (hdg : decode c.code g.pc = .ok (.ldc_w index, 3)) :
    ∀ target, Steps p.tables e below (T.setTop { g with pc := g.pc + 3, stack := .float b :: g.stack }) target → Steps p.tables e below (T.setTop g) target := by
  obtain ⟨k, cf, hk, hcf, hcp⟩ := Cond.constantFloat_spec hown hconst
  obtain ⟨k', hk', he⟩ := X.warmed.alike.2.2 _ _ hk
  intro target hrest
  subst hg
  jvm_step X.here [hexec, hdg, ldc_w.wp_float (s := T) (f := g) X.here.top hk' (by rw [he]; exact hcf) hcp]
  exact hrest
theorem lv_ldcfw {p : Program} {l : Launch} {e : Env} {R : Room} {s : State} {m : MethodId} {args : Array Value} {below : List Frame} {meth : Method} {c : Code} {H : Heap} {locs : List Loc} {cells slots : Nat} {Q : State → Prop} {cc : ByteArray} {pc : Nat} {ls : Array Slot} {rest : List Value} (hexec : p.tables.exec = Jvm.exec) (hb : c.code = cc) {own : String} {index : Nat} {v : UInt32} (hown : s.vm.findClass own = some m.cls) (hconst : (Jvm.Cond.constantFloat own index v).before args s = true) (hdg : decode cc pc = .ok (.ldc_w index, 3)) (k : W p l e R s m args below meth c H locs cells slots Q (F0 m (pc + 3) ls (.float v :: rest))) : W p l e R s m args below meth c H locs cells slots Q (F0 m pc ls rest) := by
  intro T hT X
  obtain ⟨t, a, b⟩ := k T hT X
  exact ⟨t, ldcwF X hexec hown hconst (g := F0 m pc ls rest) rfl (by rw [hb]; exact hdg) t a, b⟩
theorem ofBF {l : Launch} {D : va_G} {cy : Nat → ClassId} {A : Nat → Nat} {G : Nat → Bool} {M : Mem} {y : MethodName} {b : ByteArray} {maxL : Nat} {ret : Option FieldType} {rm : Room} {av : List Value} {Qc : Nat → Array Value → State → Outcome → State → Prop} {sz : Nat} (hy : plainFor y = true) (hn : (lg_sl av).length ≤ maxL)
    (body : ∀ (p : Program) (e : Env) (s : State) (m : MethodId) (below : List Frame) (meth : Method) (c : Code), p.tables.exec = Jvm.exec → c.code = b → meth.sig.returnType = ret → (∀ w ∈ LW, w.before av.toArray s = true) → s.vm.findClass y.cls = some m.cls → meth.locks = false → c.maxLocals = maxL → meth.name = y.name → KK D cy s → WD D cy (Fr A G s.heap.size) A s.heap G M s.heap [] → ∀ ls : Array Slot, lv_has ls maxL (lv_args 0 av) →
      W p l e (headSpec (wm y b maxL ret) rm).room s m av.toArray below meth c s.heap [] 0 0 (MQ below (Qc s.heap.size) av.toArray s 0 0 (Fr A G s.heap.size)) (F0 m 0 ls [])) : Met l y (wm y b maxL ret) rm (va_Pc av (Pr D cy A G M sz)) (Qc sz) 0 0 (Fr A G sz) := by
  refine va_MetF (cc := b) (maxL := maxL) (ret := ret) hy rfl ?_
  intro p e s m args below meth c s₁ B hml hv
  obtain ⟨rfl, hsz, hP, hK, hD0⟩ := hv
  have hts0 := atoms_spec (ws := wm y b maxL ret) B.pre
  subst hsz
  have hl := lv_entry av (n := maxL) hn
  rw [lg_entry_eq]
  exact body p e s m below meth c B.exec B.bytes B.returns (fun w h => hts0 w (List.mem_cons_of_mem _ h)) (findClass_of_methodNamed B.named) B.notSynchronized hml (name_of_methodNamed B.named B.method).1 hK ⟨hP, wl_Fr hD0, va_S.rf⟩ _ hl
end
section
section
variable {p : Program} {l : Launch} {e : Env} {R : Room} {s : State} {m : MethodId} {args : Array Value} {below : List Frame} {meth : Method} {c : Code} {H : Heap} {locs : List Loc} {cells slots : Nat} {Q : State → Prop}
variable {mc ms : Nat} {free : Addr → Prop} {A0 A1 : Nat → Prop} {H0 : Heap} {a : Array Value} {pc : Nat} {ls : Array Slot} {st0 rest : List Value}
theorem vx_callq {S SX : Type} {post : Option Nat → S → Prop} {px : SX → Prop} {B : S → State → Prop} {BX : String → SX → State → Prop} {AX : Nat → Prop} (hr : vx_Run p l e R s m args below meth c H locs cells slots mc ms (F0 m pc ls st0) rest (va_Qq post B A1 a) (vx_X px BX AX) free) (hS : va_S A0 H0 H locs) (hA : ∀ q, q < H.size → A1 q → A0 q) (hf : ∀ q, free q → A0 q) (hAX : ∀ q, q < H.size → AX q → A0 q)
    (kx : ∀ (E : String) (ce : Cell) (q9 : Addr) (u : SX) (t : State) (H1 : Heap) (locs1 : List Loc), t.heap = H1 → s.vm.Alike t.vm → px u → BX E u t → H.size ≤ H1.size → (∀ q : Nat, q < H.size → ¬ AX q → H1[q]? = H[q]?) → va_S A0 H0 H1 locs1 → H1[q9]? = some ce → ce.vm = .none → s.vm.findClass E = some ce.cls → vx_W p l e R s m args below meth c H1 locs1 (cells + mc) (slots + ms) Q (F0 m pc ls rest) q9)
    (kk : ∀ (r : Option Nat) (u : S) (t : State) (H1 : Heap) (locs1 : List Loc), t.heap = H1 → s.vm.Alike t.vm → post r u → B u t → H.size ≤ H1.size → (∀ q : Nat, q < H.size → ¬ A1 q → H1[q]? = H[q]?) → va_S A0 H0 H1 locs1 → W p l e R s m args below meth c H1 locs1 (cells + mc) (slots + ms) Q (F0 m (pc + 3) ls (va_rf r :: rest))) : W p l e R s m args below meth c H locs cells slots Q (F0 m pc ls st0) := by
  intro T hT X
  rcases hr T hT X with ⟨v, st₀, t, T', L, h0, X', hL, e1, e2, ⟨⟨r, u, hv, hp, hb⟩, hF⟩, st⟩ | ⟨q, st₀, t, T', L, E, ce, h0, X', hL, e1, e2, ⟨u, hp, hb, hF⟩, hce, hcv, hcl, st⟩
  · cases hv
    obtain ⟨k1, k2, k3⟩ := vx_keep h0 e1 hS hA hf hL hF
    obtain ⟨t2, a1, b1⟩ := kk r u t T'.heap (locs ++ L) e1.symm (by rw [← e2]; exact X'.warmed.alike) hp hb k1 k2 k3 T' rfl X'
    exact ⟨t2, st t2 a1, b1⟩
  · obtain ⟨k1, k2, k3⟩ := vx_keep h0 e1 hS hAX hf hL hF
    obtain ⟨t2, a1, b1⟩ := kx E ce q u t T'.heap (locs ++ L) e1.symm (by rw [← e2]; exact X'.warmed.alike) hp hb k1 k2 k3 (by rw [e1]; exact hce) hcv hcl T' rfl X'
    exact ⟨t2, st.trans a1, b1⟩
end
/-! EXCEPTIONS of the store: 1 IllegalArgumentException, 2 IllegalStateException -/
abbrev e1N : String := "java/lang/IllegalArgumentException"
abbrev e2N : String := "java/lang/IllegalStateException"
def exn (k : Nat) : String := if k = 1 then e1N else e2N
abbrev exNs : List String := ["java/lang/RuntimeException", "java/lang/Exception"]
theorem xw1 : ∀ w ∈ (vx_atS RX5 94 e1N exNs).filter goodWord, w ∈ LW := fun w h => List.mem_filter.mpr ⟨(show ∀ w ∈ (vx_atS RX5 94 e1N exNs).filter goodWord, w ∈ lw_tbl by decide +kernel) w h, (List.mem_filter.mp h).2⟩
theorem xw2 : ∀ w ∈ (vx_atS RX5 31 e2N exNs).filter goodWord, w ∈ LW := fun w h => List.mem_filter.mpr ⟨(show ∀ w ∈ (vx_atS RX5 31 e2N exNs).filter goodWord, w ∈ lw_tbl by decide +kernel) w h, (List.mem_filter.mp h).2⟩
theorem k_in_e1 : Cond.initialized e1N ∈ LW := List.mem_filter.mpr ⟨by decide +kernel, rfl⟩
theorem k_in_e2 : Cond.initialized e2N ∈ LW := List.mem_filter.mpr ⟨by decide +kernel, rfl⟩
abbrev dcl (c : String) : Cond := Cond.declares ⟨c, "<init>", "(Ljava/lang/String;)V"⟩
abbrev B1 : List Cond := [Cond.castable e1N e1N, dcl "java/lang/RuntimeException", dcl "java/lang/Exception", dcl "java/lang/Throwable"]
abbrev B2 : List Cond := [Cond.castable e2N e2N, dcl "java/lang/RuntimeException", dcl "java/lang/Exception", dcl "java/lang/Throwable"]
theorem xn1 : ∀ w ∈ (vx_atS RX5 94 e1N exNs).filter (fun w => !goodWord w), w ∈ B1 := by decide +kernel
theorem xn2 : ∀ w ∈ (vx_atS RX5 31 e2N exNs).filter (fun w => !goodWord w), w ∈ B2 := by decide +kernel
theorem xg1 : ∀ w ∈ Cond.classLink RX5 90 e1N :: Cond.initialized e1N :: vx_atS RX5 94 e1N exNs, vx_ot w = true := by decide +kernel
theorem xg2 : ∀ w ∈ Cond.classLink RX5 27 e2N :: Cond.initialized e2N :: vx_atS RX5 31 e2N exNs, vx_ot w = true := by decide +kernel
def SRl : List (Nat × String) := [(29, "there are 8 nodes"), (265, "there is no such node"), (52, "the node is down already"), (57, "the node is up already"), (62, "the node is down"), (267, "there is no such ledger"), (92, "the ensemble size is out of range"), (95, "the write quorum is out of range"), (97, "the acknowledgement quorum is out of range"), (102, "there are 4 ledgers"), (112, "too few nodes are up"), (118, "the payload is out of range"), (125, "the ledger is not open"), (130, "the ledger has 40 entries"), (139, "there is no such position"), (150, "no node can be chosen"), (156, "the ledger is closed"), (162, "the ledger is not closed"), (171, "the entry is negative"), (176, "the entry is not readable"), (269, "there is no such entry"), (271, "there is no such fragment"), (215, "the undo stack is empty")]
/-- the texts, and what the tables alone say of the exceptions -/
def SR (U : State) : Prop := (∀ q ∈ SRl, ∃ a : Nat, vk_R RX5 q.1 q.2 a U) ∧ (∀ w ∈ B1, va_Nw w U) ∧ ∀ w ∈ B2, va_Nw w U
theorem SR_t1 : ∀ w ∈ B1, w.onTables = true := by decide +kernel
theorem SR_t2 : ∀ w ∈ B2, w.onTables = true := by decide +kernel
theorem SR.same {u U : State} (h : u.vm = U.vm) (n : SR u) : SR U := ⟨fun q hq => by
  obtain ⟨a, ha⟩ := n.1 q hq
  exact ⟨a, vk_R.same h.symm ha⟩, fun w hw => (n.2.1 w hw).same (SR_t1 w hw) h, fun w hw => (n.2.2 w hw).same (SR_t2 w hw) h⟩
theorem SR.use1 {args : Array Value} {s : State} (h : SR s) : ∀ w ∈ B1, w.before args s = true := fun w hw => va_Nw.use (SR_t1 w hw) (h.2.1 w hw)
theorem SR.use2 {args : Array Value} {s : State} (h : SR s) : ∀ w ∈ B2, w.before args s = true := fun w hw => va_Nw.use (SR_t2 w hw) (h.2.2 w hw)
theorem SR.warm {s U : State} (hW : s.WarmedH U.vm) (n : SR s) : SR U := by
  refine ⟨fun q hq => ?_, fun w hw => ?_, fun w hw => ?_⟩
  · obtain ⟨a, ha⟩ := n.1 q hq
    exact ⟨a, vk_R.warm hW ha⟩
  · have h := n.2.1 w hw
    simp only [B1, List.mem_cons, List.not_mem_nil, or_false] at hw
    rcases hw with rfl | rfl | rfl | rfl
    · exact va_Nw.warmC hW h
    · exact va_Nw.warmD hW h
    · exact va_Nw.warmD hW h
    · exact va_Nw.warmD hW h
  · have h := n.2.2 w hw
    simp only [B2, List.mem_cons, List.not_mem_nil, or_false] at hw
    rcases hw with rfl | rfl | rfl | rfl
    · exact va_Nw.warmC hW h
    · exact va_Nw.warmD hW h
    · exact va_Nw.warmD hW h
    · exact va_Nw.warmD hW h
/-- the two statics of Throwable -/
def XT (F : Nat → Prop) (U : State) (H : Heap) : Prop := vx_Zq Bundle.tN "UNASSIGNED_STACK" Bundle.steD F U H ∧ vx_Zq Bundle.tN "SUPPRESSED_SENTINEL" Bundle.listD F U H
theorem XT.moved {F : Nat → Prop} {u U : State} {H : Heap} (hvm : u.vm.Alike U.vm) (h : XT F u H) : XT F U H := ⟨h.1.moved hvm, h.2.moved hvm⟩
theorem XT.kept {F : Nat → Prop} {U : State} {H H1 : Heap} (h : XT F U H) (hq : ∀ a : Nat, a < H.size → ¬ F a → H1[a]? = H[a]?) : XT F U H1 := ⟨h.1.kept hq, h.2.kept hq⟩
theorem XT.narrow {F F' : Nat → Prop} {U : State} {H : Heap} (h : XT F U H) (hF : ∀ q, F' q → F q) : XT F' U H := ⟨h.1.narrow hF, h.2.narrow hF⟩
/-- the start of a method that may throw -/
def PrX (D : va_G) (cy : Nat → ClassId) (A : Nat → Nat) (G : Nat → Bool) (M : Mem) (sz : Nat) : State → Prop := fun U => Pr D cy A G M sz U ∧ SR U ∧ XT (Fr A G sz) U U.heap
/-- a world behind a method, A its places -/
def Px (D : va_G) (cy : Nat → ClassId) (A : Nat → Nat) (G : Nat → Bool) (F : Nat → Prop) (M : Mem) : State → Prop := fun t => va_P D vwCl (wl A cy G M) t.heap ∧ va_D F (wl A cy G M)
theorem PrX.blind {D : va_G} {cy : Nat → ClassId} {A : Nat → Nat} {G : Nat → Bool} {M : Mem} {sz : Nat} {av : List Value} : FrameBlind (va_Pc av (PrX D cy A G M sz)) := fun a U g mk q => by
  obtain ⟨q0, ⟨q1, qP, qK, qD⟩, q2, q3⟩ := q
  exact ⟨q0, ⟨q1, qP, qK.same rfl, qD⟩, SR.same (u := U) (U := U.calling g mk a) rfl q2, XT.moved (u := U) (U := U.calling g mk a) (Vm.Alike.refl U.vm) q3⟩
/-- how a method that may throw ends by a throw: nothing is changed -/
def Xx (D : va_G) (cy : Nat → ClassId) (A : Nat → Nat) (G : Nat → Bool) (F : Nat → Prop) (M : Mem) (px : Nat → Prop) : String → State → State → Prop := vx_X (fun k : Nat => px k) (fun E k t => E = exn k ∧ Px D cy A G F M t) F
section XROWS
variable {p : Program} {l : Launch} {e : Env} {R : Room} {s : State} {m : MethodId} {args : Array Value} {below : List Frame} {meth : Method} {c : Code} {H : Heap} {locs : List Loc} {cells slots : Nat} {Q : State → Prop}
variable {cc : ByteArray} {pc : Nat} {ls : Array Slot} {rest st0 : List Value} {D : va_G} {cy : Nat → ClassId} {As : Nat → Prop} {A : Nat → Nat} {H0 : Heap} {G : Nat → Bool} {M : Mem}
variable {y : MethodName} {b : ByteArray} {maxL nL mc ms index : Nat} {ret : Option FieldType} {rm : Room} {Qc : Array Value → State → Outcome → State → Prop} {XC : String → State → State → Prop} {free : Addr → Prop} {own C : String}
theorem XT_at (hT : XT As s H0) (hw : WD D cy As A H0 G M H locs) (hA : ∀ q, H0.size ≤ q → As q) : XT (Fr A G H.size) s H := (hT.kept hw.2.2.2.1).narrow (Fr_As hw hA)
theorem preUX {sz : Nat} {av : List Value} (hK : KK D cy s) (hR : SR s) (hT : XT As s H0) (hA : ∀ q, H0.size ≤ q → As q) (hw : WD D cy As A H0 G M H locs) (hz : H.size = sz) : ∀ U : State, U.heap = H → s.WarmedH U.vm → va_Pc av (PrX D cy A G M sz) av.toArray U := fun U hU hW => ⟨rfl, ⟨by rw [hU]; exact hz, by rw [hU]; exact hw.1, hK.warm hW, hw.2.1.weaken (fun _ _ _ _ => trivial)⟩, hR.warm hW, by
  rw [hU, ← hz]
  exact (XT_at hT hw hA).moved hW.alike⟩
/-- throw new E("..") -/
theorem thr1 (hx : p.tables.exec = Jvm.exec) (hb : c.code = cc) (hfl : l.stackTraces = false) (hts : ∀ w ∈ LW, w.before args s = true) (hown : s.vm.findClass RX5 = some m.cls) (hlocks : meth.locks = false) (hex : ∀ x ∈ c.exceptionTable.toList, False) (hml : c.maxLocals = ls.size) (hR : SR s) (hT : XT (Fr A G s.heap.size) s s.heap) (hw : WD D cy (Fr A G s.heap.size) A s.heap G M H locs) {is : Nat} {tx : String} (hs : (is, tx) ∈ SRl)
    (d0 : decode cc pc = .ok (.new 90, 3)) (d3 : decode cc (pc + 3) = .ok (.dup, 1)) (d4 : decode cc (pc + 4) = .ok (.ldc is, 2)) (d6 : decode cc (pc + 6) = .ok (.invokespecial 94, 3)) (d9 : decode cc (pc + 9) = .ok (.athrow, 1))
    (hf : 5 < R.frames) (hlo : (rest.map fun v => v.category).sum + 82 ≤ R.locals) (hc1 : cells + 1 ≤ R.cells) (hs1 : slots + 6 ≤ R.slots) (hc : cells + 1 ≤ mc) (hs2 : slots + 6 ≤ ms) {px : Nat → Prop} (hpx : px 1) :
    W p l e R s m args below meth c H locs cells slots (vx_MQ below Qc (Xx D cy A G (Fr A G s.heap.size) M px) args s mc ms (Fr A G s.heap.size)) (F0 m pc ls rest) := by
  obtain ⟨sa, hsa⟩ := hR.1 (is, tx) hs
  exact vx_throwS (own := RX5) (cls := e1N) (names := exNs) (ik := 90) (ic := 94) (A := Fr A G s.heap.size) hx hb hfl hown (by decide +kernel) (by decide +kernel) (hts _ k_cl_RX5_90) (hts _ k_in_e1) hsa (vx_hat (fun w h => hts w (xw1 w h)) xn1 hR.use1) xg1 hT.1 hT.2 hw.2.2 hml.symm d0 d3 d4 d6 d9 (fun x hx => (hex x hx).elim) hf (by show _ + (13 * 3 + 43) ≤ _; exact hlo) hc1 hs1 hlocks
    (fun t _ hz hq => ⟨1, hpx, ⟨rfl, hw.1.kept (fun k q hk => hq q.1 ((hw.1 k q hk).lt)), hw.2.1⟩, ⟨Nat.le_trans hw.2.2.1 hz, fun q h1 h2 => (hq q (Nat.lt_of_lt_of_le h1 hw.2.2.1)).trans (hw.2.2.2.1 q h1 h2)⟩⟩) hw.2.2.2.2 hc hs2
theorem thr1W (hx : p.tables.exec = Jvm.exec) (hb : c.code = cc) (hfl : l.stackTraces = false) (hts : ∀ w ∈ LW, w.before args s = true) (hown : s.vm.findClass RX5 = some m.cls) (hlocks : meth.locks = false) (hex : ∀ x ∈ c.exceptionTable.toList, False) (hml : c.maxLocals = ls.size) (hR : SR s) (hT : XT (Fr A G s.heap.size) s s.heap) (hw : WD D cy (Fr A G s.heap.size) A s.heap G M H locs) {is : Nat} {tx : String} (hs : (is, tx) ∈ SRl)
    (d0 : decode cc pc = .ok (.new 90, 3)) (d3 : decode cc (pc + 3) = .ok (.dup, 1)) (d4 : decode cc (pc + 4) = .ok (.ldc_w is, 3)) (d6 : decode cc (pc + 7) = .ok (.invokespecial 94, 3)) (d9 : decode cc (pc + 10) = .ok (.athrow, 1))
    (hf : 5 < R.frames) (hlo : (rest.map fun v => v.category).sum + 82 ≤ R.locals) (hc1 : cells + 1 ≤ R.cells) (hs1 : slots + 6 ≤ R.slots) (hc : cells + 1 ≤ mc) (hs2 : slots + 6 ≤ ms) {px : Nat → Prop} (hpx : px 1) :
    W p l e R s m args below meth c H locs cells slots (vx_MQ below Qc (Xx D cy A G (Fr A G s.heap.size) M px) args s mc ms (Fr A G s.heap.size)) (F0 m pc ls rest) := by
  obtain ⟨sa, hsa⟩ := hR.1 (is, tx) hs
  exact vx_throwSW (own := RX5) (cls := e1N) (names := exNs) (ik := 90) (ic := 94) (A := Fr A G s.heap.size) hx hb hfl hown (by decide +kernel) (by decide +kernel) (hts _ k_cl_RX5_90) (hts _ k_in_e1) hsa (vx_hat (fun w h => hts w (xw1 w h)) xn1 hR.use1) xg1 hT.1 hT.2 hw.2.2 hml.symm d0 d3 d4 d6 d9 (fun x hx => (hex x hx).elim) hf (by show _ + (13 * 3 + 43) ≤ _; exact hlo) hc1 hs1 hlocks
    (fun t _ hz hq => ⟨1, hpx, ⟨rfl, hw.1.kept (fun k q hk => hq q.1 ((hw.1 k q hk).lt)), hw.2.1⟩, ⟨Nat.le_trans hw.2.2.1 hz, fun q h1 h2 => (hq q (Nat.lt_of_lt_of_le h1 hw.2.2.1)).trans (hw.2.2.2.1 q h1 h2)⟩⟩) hw.2.2.2.2 hc hs2
theorem thr2 (hx : p.tables.exec = Jvm.exec) (hb : c.code = cc) (hfl : l.stackTraces = false) (hts : ∀ w ∈ LW, w.before args s = true) (hown : s.vm.findClass RX5 = some m.cls) (hlocks : meth.locks = false) (hex : ∀ x ∈ c.exceptionTable.toList, False) (hml : c.maxLocals = ls.size) (hR : SR s) (hT : XT (Fr A G s.heap.size) s s.heap) (hw : WD D cy (Fr A G s.heap.size) A s.heap G M H locs) {is : Nat} {tx : String} (hs : (is, tx) ∈ SRl)
    (d0 : decode cc pc = .ok (.new 27, 3)) (d3 : decode cc (pc + 3) = .ok (.dup, 1)) (d4 : decode cc (pc + 4) = .ok (.ldc is, 2)) (d6 : decode cc (pc + 6) = .ok (.invokespecial 31, 3)) (d9 : decode cc (pc + 9) = .ok (.athrow, 1))
    (hf : 5 < R.frames) (hlo : (rest.map fun v => v.category).sum + 82 ≤ R.locals) (hc1 : cells + 1 ≤ R.cells) (hs1 : slots + 6 ≤ R.slots) (hc : cells + 1 ≤ mc) (hs2 : slots + 6 ≤ ms) {px : Nat → Prop} (hpx : px 2) :
    W p l e R s m args below meth c H locs cells slots (vx_MQ below Qc (Xx D cy A G (Fr A G s.heap.size) M px) args s mc ms (Fr A G s.heap.size)) (F0 m pc ls rest) := by
  obtain ⟨sa, hsa⟩ := hR.1 (is, tx) hs
  exact vx_throwS (own := RX5) (cls := e2N) (names := exNs) (ik := 27) (ic := 31) (A := Fr A G s.heap.size) hx hb hfl hown (by decide +kernel) (by decide +kernel) (hts _ k_cl_RX5_27) (hts _ k_in_e2) hsa (vx_hat (fun w h => hts w (xw2 w h)) xn2 hR.use2) xg2 hT.1 hT.2 hw.2.2 hml.symm d0 d3 d4 d6 d9 (fun x hx => (hex x hx).elim) hf (by show _ + (13 * 3 + 43) ≤ _; exact hlo) hc1 hs1 hlocks
    (fun t _ hz hq => ⟨2, hpx, ⟨rfl, hw.1.kept (fun k q hk => hq q.1 ((hw.1 k q hk).lt)), hw.2.1⟩, ⟨Nat.le_trans hw.2.2.1 hz, fun q h1 h2 => (hq q (Nat.lt_of_lt_of_le h1 hw.2.2.1)).trans (hw.2.2.2.1 q h1 h2)⟩⟩) hw.2.2.2.2 hc hs2
/-- a call of a method that may throw -/
theorem xV (hx : p.tables.exec = Jvm.exec) (hb : c.code = cc) (hml : c.maxLocals = nL) (hts : ∀ w ∈ LW, w.before args s = true) (hown : s.vm.findClass own = some m.cls) (hK : KK D cy s) (hR : SR s) (hT : XT As s H0) (hA : ∀ q, H0.size ≤ q → As q) (hw : WD D cy As A H0 G M H locs) {c0 : Nat} {av : List Value}
    (hM : vx_Met l y (wm y b maxL ret) rm (va_Pc (.ref (A c0) :: av) (PrX D cy A G M H.size)) Qc XC mc ms free) {k : Nat} (hc : TT G k c0) (h6 : k < 6) {T : u_T} {N : Nat} (hcl : vwCl[k]? = some (C, T, N)) {n : Nat} (hcw : CallW R s args own C index y b maxL ret (wm y b maxL ret) rm mc ms n) (hn : av.length = n) (hl : ls.size = nL) (hst : st0 = av.reverse ++ .ref (A c0) :: rest) (hroom : (rest.map fun v => v.category).sum ≤ 8) (hdg : decode cc pc = .ok (.invokevirtual index, 3)) (hf : cells + mc ≤ R.cells ∧ slots + ms ≤ R.slots) :
    vx_Run p l e R s m args below meth c H locs cells slots mc ms (F0 m pc ls st0) rest (Qc (Value.ref (A c0) :: av).toArray) XC free :=
  vx_runV ⟨hx, hb, hml, hown, hts⟩ hM hcw ⟨PrX.blind, recvT hK hw hc h6 hcl, preUX hK hR hT hA hw rfl⟩ rfl hn hl hst (lv_room (pc := pc) (ls := ls) (rest := st0) (m := m) hroom) hdg hf
theorem xS (hx : p.tables.exec = Jvm.exec) (hb : c.code = cc) (hml : c.maxLocals = nL) (hts : ∀ w ∈ LW, w.before args s = true) (hown : s.vm.findClass own = some m.cls) (hK : KK D cy s) (hR : SR s) (hT : XT As s H0) (hA : ∀ q, H0.size ≤ q → As q) (hw : WD D cy As A H0 G M H locs) {av : List Value}
    (hM : vx_Met l y (wm y b maxL ret) rm (va_Pc av (PrX D cy A G M H.size)) Qc XC mc ms free) {n : Nat} (hcw : CallB R s args own index y b maxL ret (wm y b maxL ret) rm mc ms n ∧ (Cond.static y).before args s = true) (hn : av.length = n) (hl : ls.size = nL) (hst : st0 = av.reverse ++ rest) (hroom : (rest.map fun v => v.category).sum ≤ 8) (hdg : decode cc pc = .ok (.invokestatic index, 3)) (hf : cells + mc ≤ R.cells ∧ slots + ms ≤ R.slots) :
    vx_Run p l e R s m args below meth c H locs cells slots mc ms (F0 m pc ls st0) rest (Qc av.toArray) XC free :=
  vx_runS ⟨hx, hb, hml, hown, hts⟩ hM hcw ⟨PrX.blind, preUX hK hR hT hA hw rfl⟩ rfl hn hl hst (lv_room (pc := pc) (ls := ls) (rest := st0) (m := m) hroom) hdg hf
theorem wdX {M1 : Mem} {t : State} {H1 : Heap} {locs1 : List Loc} {A1 : Nat → Nat} {G1 : Nat → Bool} (hw : WD D cy As A H0 G M H locs) (hA : ∀ q, H0.size ≤ q → As q) (ht : t.heap = H1) (hB : Px D cy A1 G1 (Fr A G H.size) M1 t) (hS : va_S As H0 H1 locs1) : WD D cy As A1 H0 G1 M1 H1 locs1 :=
  ⟨by rw [← ht]; exact hB.1, hB.2.weaken (fun _ _ _ h => Fr_As hw hA _ h), hS⟩
variable {a : Array Value}
/-- it goes on to the caller -/
theorem xout {px px' : Nat → Prop} {E : String} {ce : Cell} {q9 : Addr} {k : Nat} {t : State} (hlocks : meth.locks = false) (hex : ∀ x ∈ c.exceptionTable.toList, False) (hw : WD D cy (Fr A G s.heap.size) A s.heap G M H locs) (hE : E = exn k) (hpx : px' k) (hce : H[q9]? = some ce) (hcv : ce.vm = .none) (hcl : s.vm.findClass E = some ce.cls) (hc : cells ≤ mc) (hs : slots ≤ ms) :
    vx_W p l e R s m args below meth c H locs cells slots (vx_MQ below Qc (Xx D cy A G (Fr A G s.heap.size) M px') args s mc ms (Fr A G s.heap.size)) (F0 m pc ls rest) q9 :=
  vx_out (E := E) (fun x hx => (hex x hx).elim) hlocks hce hcv hcl (fun t ht _ => ⟨k, hpx, ⟨hE, by rw [ht]; exact hw.1, hw.2.1⟩, hw.2.2.F ht⟩) hw.2.2.2.2 hc hs
/-- a call of one that answers a node or a ledger, or throws; its throw goes on to the caller -/
theorem xq {z : Nat ⊕ Nat} {px' : Nat → Prop} {mc' ms' : Nat} (hlocks : meth.locks = false) (hex : ∀ x ∈ c.exceptionTable.toList, False) (hw : WD D cy (Fr A G s.heap.size) A s.heap G M H locs) (hr : vx_Run p l e R s m args below meth c H locs cells slots mc ms (F0 m pc ls st0) rest (va_Qq (fun (r' : Option Nat) (x : Nat) => z = .inl x ∧ r' = some (A x)) (fun _ t => Px D cy A G (Fr A G H.size) M t) (Fr A G H.size) a) (Xx D cy A G (Fr A G H.size) M (fun k => z = .inr k)) (Fr A G H.size))
    (hc : cells + mc ≤ mc') (hs : slots + ms ≤ ms') (hpx : ∀ k, z = .inr k → px' k)
    (kk : ∀ x, z = .inl x → ∀ (H1 : Heap) (locs1 : List Loc), WD D cy (Fr A G s.heap.size) A s.heap G M H1 locs1 → W p l e R s m args below meth c H1 locs1 (cells + mc) (slots + ms) (vx_MQ below Qc (Xx D cy A G (Fr A G s.heap.size) M px') args s mc' ms' (Fr A G s.heap.size)) (F0 m (pc + 3) ls (.ref (A x) :: rest))) :
    W p l e R s m args below meth c H locs cells slots (vx_MQ below Qc (Xx D cy A G (Fr A G s.heap.size) M px') args s mc' ms' (Fr A G s.heap.size)) (F0 m pc ls st0) :=
  vx_callq hr hw.2.2 (fun q _ h => Fr_As hw Fr_hi q h) (Fr_As hw Fr_hi) (fun q _ h => Fr_As hw Fr_hi q h)
    (fun E ce q9 k t H1 locs1 ht _ hp hB _ _ hS hce hcv hcl => xout (px := px') (t := t) hlocks hex (wdX hw Fr_hi ht hB.2 hS) hB.1 (hpx k hp) hce hcv hcl hc hs)
    (fun r' x t H1 locs1 ht _ hp hB _ _ hS => by
      obtain ⟨h1, rfl⟩ := hp
      exact kk x h1 H1 locs1 (wdX hw Fr_hi ht hB hS))
theorem xvv {z : Unit ⊕ Nat} {px' : Nat → Prop} {mc' ms' : Nat} (hlocks : meth.locks = false) (hex : ∀ x ∈ c.exceptionTable.toList, False) (hw : WD D cy (Fr A G s.heap.size) A s.heap G M H locs) (hr : vx_Run p l e R s m args below meth c H locs cells slots mc ms (F0 m pc ls st0) rest (va_Qv (fun (_ : Unit) => z = .inl ()) (fun _ t => Px D cy A G (Fr A G H.size) M t) (Fr A G H.size) a) (Xx D cy A G (Fr A G H.size) M (fun k => z = .inr k)) (Fr A G H.size))
    (hc : cells + mc ≤ mc') (hs : slots + ms ≤ ms') (hpx : ∀ k, z = .inr k → px' k)
    (kk : z = .inl () → ∀ (H1 : Heap) (locs1 : List Loc), WD D cy (Fr A G s.heap.size) A s.heap G M H1 locs1 → W p l e R s m args below meth c H1 locs1 (cells + mc) (slots + ms) (vx_MQ below Qc (Xx D cy A G (Fr A G s.heap.size) M px') args s mc' ms' (Fr A G s.heap.size)) (F0 m (pc + 3) ls rest)) :
    W p l e R s m args below meth c H locs cells slots (vx_MQ below Qc (Xx D cy A G (Fr A G s.heap.size) M px') args s mc' ms' (Fr A G s.heap.size)) (F0 m pc ls st0) :=
  vx_callv hr hw.2.2 (fun q _ h => Fr_As hw Fr_hi q h) (Fr_As hw Fr_hi) (fun q _ h => Fr_As hw Fr_hi q h)
    (fun E ce q9 k t H1 locs1 ht _ hp hB _ _ hS hce hcv hcl => xout (px := px') (t := t) hlocks hex (wdX hw Fr_hi ht hB.2 hS) hB.1 (hpx k hp) hce hcv hcl hc hs)
    (fun u t H1 locs1 ht _ hp hB _ _ hS => kk hp H1 locs1 (wdX hw Fr_hi ht hB hS))
end XROWS
/-- the contract of a method that may throw, out of its body -/
theorem ofX {l : Launch} {D : va_G} {cy : Nat → ClassId} {A : Nat → Nat} {G : Nat → Bool} {M : Mem} {y : MethodName} {b : ByteArray} {maxL : Nat} {ret : Option FieldType} {rm : Room} {av : List Value} {Qc : Nat → Array Value → State → Outcome → State → Prop} {XC : Nat → String → State → State → Prop} {sz mc ms : Nat} (hy : plainName y.cls = true) (hn : (lg_sl av).length ≤ maxL)
    (body : ∀ (p : Program) (e : Env) (s : State) (m : MethodId) (below : List Frame) (meth : Method) (c : Code), p.tables.exec = Jvm.exec → c.code = b → meth.sig.returnType = ret → (∀ w ∈ LW, w.before av.toArray s = true) → s.vm.findClass y.cls = some m.cls → meth.locks = false → c.maxLocals = maxL → (∀ x ∈ c.exceptionTable.toList, False) → KK D cy s → SR s → XT (Fr A G s.heap.size) s s.heap → WD D cy (Fr A G s.heap.size) A s.heap G M s.heap [] → ∀ ls : Array Slot, lv_has ls maxL (lv_args 0 av) →
      W p l e (headSpec (wm y b maxL ret) rm).room s m av.toArray below meth c s.heap [] 0 0 (vx_MQ below (Qc s.heap.size) (XC s.heap.size) av.toArray s mc ms (Fr A G s.heap.size)) (F0 m 0 ls [])) : vx_Met l y (wm y b maxL ret) rm (va_Pc av (PrX D cy A G M sz)) (Qc sz) (XC sz) mc ms (Fr A G sz) := by
  refine vx_ofW (cc := b) (maxL := maxL) (ret := ret) hy rfl ?_
  intro p e s m args below meth c s₁ B hml hex hv
  obtain ⟨rfl, ⟨hsz, hP, hK, hD0⟩, hR, hT⟩ := hv
  have hts0 := atoms_spec (ws := wm y b maxL ret) B.pre
  subst hsz
  have hl := lv_entry av (n := maxL) hn
  rw [lg_entry_eq]
  exact body p e s m below meth c B.exec B.bytes B.returns (fun w h => hts0 w (List.mem_cons_of_mem _ h)) (findClass_of_methodNamed B.named) B.notSynchronized hml hex hK hR hT ⟨hP, wl_Fr hD0, va_S.rf⟩ _ hl
end
section
/-! CONSTRUCTORS, over worlds that are lists -/
def PrW (D : va_G) (cy : Nat → ClassId) (ws : va_W) (sz : Nat) : State → Prop := fun U => U.heap.size = sz ∧ va_P D vwCl ws U.heap ∧ KK D cy U ∧ va_D (fun _ => True) ws
theorem PrW.blind {D : va_G} {cy : Nat → ClassId} {ws : va_W} {sz : Nat} {av : List Value} : FrameBlind (va_Pc av (PrW D cy ws sz)) := fun a U g mk q => by
  obtain ⟨q0, q1, qP, qK, qD⟩ := q
  exact ⟨q0, q1, qP, qK.same rfl, qD⟩
abbrev zrow (cy : Nat → ClassId) (n : Nat) : va_E := .inl (cy 0, n, .inl (fun _ => 0))
abbrev bN : va_E := .inr (1, [.int 0, .int 0, .int 0, .int 0, .null, .null])
abbrev bL : va_E := .inr (0, [.int 0, .int 0, .int 0, .int 0, .int 0, .int 0, .int 0, .int 0, .null, .null, .null, .null])
abbrev bS : va_E := .inr (2, [.int 0, .int 0, .int 0, .null, .null])
abbrev bU : va_E := .inr (3, [.int 0, .int 0, .null])
abbrev bX : va_E := .inr (4, [.null, .null])
abbrev bM : va_E := .inr (5, [.null, .null, .int 0, .int 0, .long 0])
abbrev nodeL (cy : Nat → ClassId) (h a b : Nat) : va_W := [(h, .inr (1, [.int 0, .int 0, .int 0, .int 0, .ref a, .ref b])), (a, zrow cy 160), (b, zrow cy 100)]
abbrev ledL (cy : Nat → ClassId) (n : Int32) (h p a s m : Nat) : va_W := [(h, .inr (0, [.int n, .int 0, .int 0, .int 0, .int 0, .int 0, .int 0, .int 0, .ref p, .ref a, .ref s, .ref m])), (p, zrow cy 40), (a, zrow cy 40), (s, zrow cy 41), (m, zrow cy 205)]
section CT
variable {p : Program} {l : Launch} {e : Env} {R : Room} {s : State} {m : MethodId} {args : Array Value} {below : List Frame} {meth : Method} {c : Code} {H : Heap} {locs : List Loc} {cells slots : Nat} {Q : State → Prop}
variable {cc : ByteArray} {pc : Nat} {ls : Array Slot} {rest st0 : List Value} {D : va_G} {cy : Nat → ClassId} {As : Nat → Prop} {H0 : Heap} {ws : va_W}
variable {y : MethodName} {b : ByteArray} {maxL nL mc ms index : Nat} {ret : Option FieldType} {rm : Room} {Qc : Array Value → State → Outcome → State → Prop} {free : Addr → Prop} {own C : String}
theorem nwI (hx : p.tables.exec = Jvm.exec) (hb : c.code = cc) (hts : ∀ w ∈ LW, w.before args s = true) (hK : KK D cy s) (hP : va_P D vwCl ws H) (hD : va_D As ws) (hS : va_S As H0 H locs) (hA : ∀ q, H0.size ≤ q → As q) {n : Int32} {N : Nat} (hn : ¬ n < 0) (hN : n.toNatClampNeg = N) (hbytes : N * 4 ≤ 536870912) (hcells : cells + 1 ≤ R.cells) (hslots : slots + N ≤ R.slots) (hdg : decode cc pc = .ok (.newarray .int, 2))
    (kk : ∀ (q : Nat) (H1 : Heap), va_P D vwCl (ws ++ [(q, zrow cy N)]) H1 → va_D As (ws ++ [(q, zrow cy N)]) → va_S As H0 H1 locs → W p l e R s m args below meth c H1 locs (cells + 1) (slots + N) Q (F0 m (pc + 2) ls (.ref q :: rest))) : W p l e R s m args below meth c H locs cells slots Q (F0 m pc ls (.int n :: rest)) := by
  refine va_newa (atype := .int) (ty := .int) (a0 := (N, .inl (fun _ => 0))) hx hb (hts _ k_ac_int) rfl hK.1 hP hD hS hA (fun _ => rfl) hn hN hbytes hcells hslots hdg (fun q cA H1 hK1 hP1 hD1 hS1 => ?_)
  have h1 := (hK1.2 6 (cA, .int) rfl).2
  have h0 := (hK.1.2 0 (cy 0, .int) rfl).2
  have e1 : cA = cy 0 := Option.some.inj ((show s.vm.findClass ("[" ++ FieldType.int.toString) = some cA from h1).symm.trans h0)
  subst e1
  exact kk q H1 hP1 hD1 hS1
/-- a constructor on the world's last cell -/
theorem joinL {cl : List vw_C} {H1 : Heap} {q : Nat} {e0 : va_E} {w1 : va_W} (hP : va_P D cl (ws ++ [(q, e0)]) H) (hD : va_D As (ws ++ [(q, e0)])) (hk : ∀ x : Nat, x < H.size → ¬ va_A [(q, e0)] H.size x → H1[x]? = H[x]?) (hF : ∀ x, va_A [(q, e0)] H.size x → As x) (hP1 : va_P D cl w1 H1) (hD1 : va_D (va_A [(q, e0)] H.size) w1) : va_P D cl (ws ++ w1) H1 ∧ va_D As (ws ++ w1) := by
  refine va_join (isC := [ws.length]) (isR := List.range ws.length) hP hD ?_ ?_ ?_ ?_ hk hF hP1 hD1
  · simp
  · apply List.ext_getElem?
    intro i
    by_cases hi : i < ws.length
    · simp [hi, List.getElem?_append_left hi]
    · simp [hi, List.getElem?_eq_none (Nat.not_lt.mp hi)]
  · have key : ∀ (k n : Nat), va_nd (List.range' k n) = true := by
      intro k n
      induction n generalizing k with
      | zero => rfl
      | succ n ih =>
        rw [List.range'_succ]
        simp only [va_nd, Bool.and_eq_true, decide_eq_true_eq]
        refine ⟨?_, ih _⟩
        rw [List.mem_range'_1]
        omega
    rw [List.range_eq_range']
    exact key 0 _
  · intro i hi
    rw [List.mem_range] at hi
    simp
    omega
theorem freeL {q : Nat} {e0 : va_E} (hD : va_D As (ws ++ [(q, e0)])) (hS : va_S As H0 H locs) (hA : ∀ q, H0.size ≤ q → As q) : ∀ x, va_A [(q, e0)] H.size x → As x := va_free hD hS hA [ws.length] (by simp)
theorem preW {ws' : va_W} {sz : Nat} {av : List Value} (hK : KK D cy s) (hP : va_P D vwCl ws' H) {B : Nat → Prop} (hD : va_D B ws') (hz : H.size = sz) : ∀ U : State, U.heap = H → s.WarmedH U.vm → va_Pc av (PrW D cy ws' sz) av.toArray U := fun U hU hW => ⟨rfl, by rw [hU]; exact hz, by rw [hU]; exact hP, hK.warm hW, hD.weaken (fun _ _ _ _ => trivial)⟩
theorem lastP {q : Nat × va_E} {cl : List vw_C} (hP : va_P D cl (ws ++ [q]) H) : va_P D cl [q] H := hP.sub [ws.length] (by simp)
theorem lastD {q : Nat × va_E} (hD : va_D As (ws ++ [q])) : va_D As [q] := hD.sub [ws.length] rfl (by simp)
theorem mkI (n : Nat) (hts : ∀ w ∈ LW, w.before args s = true) (h1 : Cond.methodLink own index y ∈ LW) (h2 : Cond.instanceMethod y ∈ LW) (h4 : Cond.initialized y.cls ∈ LW) (h5 : Cond.code y b maxL none ∈ LW) (hy1 : y.name = "<init>")
    (hd : y.cls ≠ "java/lang/invoke/MethodHandle" ∧ y.cls ≠ "java/lang/invoke/VarHandle" ∧ (parseMethodDescriptor y.desc).map (fun d => d.parameters.length) = some n) (hR : rm.frames + 1 ≤ R.frames ∧ 8 + (maxL + 11) + rm.locals ≤ R.locals) : CallB R s args own index y b maxL none (wm y b maxL none) rm rm.cells rm.slots n ∧ y.name = "<init>" ∧ (Cond.instanceMethod y).before args s = true :=
  cwI n hts (gi_wm h5) rfl rfl rfl (hts _ h4) (hts _ h1) (hts _ h2) hy1 hd hR
theorem mkIN (n : Nat) {host : String} (hts : ∀ w ∈ LW, w.before args s = true) (h1 : va_Nw (.methodLinkNest own index y host) s) (h2 : Cond.instanceMethod y ∈ LW) (h4 : Cond.initialized y.cls ∈ LW) (h5 : Cond.code y b maxL none ∈ LW) (hy1 : y.name = "<init>")
    (hd : y.cls ≠ "java/lang/invoke/MethodHandle" ∧ y.cls ≠ "java/lang/invoke/VarHandle" ∧ (parseMethodDescriptor y.desc).map (fun d => d.parameters.length) = some n) (hR : rm.frames + 1 ≤ R.frames ∧ 8 + (maxL + 11) + rm.locals ≤ R.locals) : va_CN R s args own index y host b maxL none (wm y b maxL none) rm rm.cells rm.slots n ∧ y.name = "<init>" ∧ (Cond.instanceMethod y).before args s = true :=
  ⟨va_cnB n hts (gi_wm h5) rfl rfl rfl h1 (hts _ h4) hd hR, hy1, hts _ h2⟩
/-- the call of a constructor on the world's last cell -/
theorem kc {S : Type} {post : S → Prop} {q : Nat} {e0 : va_E} {w1 : S → va_W} {a : Array Value} (hP : va_P D vwCl (ws ++ [(q, e0)]) H) (hD : va_D As (ws ++ [(q, e0)])) (hS : va_S As H0 H locs) (hA : ∀ q, H0.size ≤ q → As q) (hr : va_Run p l e R s m args below meth c H locs cells slots mc ms (F0 m pc ls st0) rest (va_Qv post (fun u t => va_P D vwCl (w1 u) t.heap ∧ va_D (va_A [(q, e0)] H.size) (w1 u)) (va_A [(q, e0)] H.size) a) (va_A [(q, e0)] H.size))
    (kk : ∀ (u : S) (H1 : Heap) (locs1 : List Loc), post u → va_P D vwCl (ws ++ w1 u) H1 → va_D As (ws ++ w1 u) → va_S As H0 H1 locs1 → W p l e R s m args below meth c H1 locs1 (cells + mc) (slots + ms) Q (F0 m (pc + 3) ls rest)) : W p l e R s m args below meth c H locs cells slots Q (F0 m pc ls st0) := by
  have hF := freeL hD hS hA
  refine va_callv hr hS (fun q _ h => hF q h) hF (fun u t H1 locs1 ht _ hp hB hz hk hS1 => ?_)
  obtain ⟨hP1, hD1⟩ := hB
  rw [ht] at hP1
  obtain ⟨g1, g2⟩ := joinL hP hD hk hF hP1 hD1
  exact kk u H1 locs1 hp g1 g2 hS1
end CT
theorem ofC {l : Launch} {D : va_G} {cy : Nat → ClassId} {ws : va_W} {y : MethodName} {b : ByteArray} {maxL : Nat} {ret : Option FieldType} {rm : Room} {av : List Value} {Qc : Nat → Array Value → State → Outcome → State → Prop} {sz mc ms : Nat} (hy : plainName y.cls = true) (hn : (lg_sl av).length ≤ maxL)
    (body : ∀ (p : Program) (e : Env) (s : State) (m : MethodId) (below : List Frame) (meth : Method) (c : Code), p.tables.exec = Jvm.exec → c.code = b → meth.sig.returnType = ret → (∀ w ∈ LW, w.before av.toArray s = true) → s.vm.findClass y.cls = some m.cls → meth.locks = false → c.maxLocals = maxL → meth.name = y.name → KK D cy s → va_P D vwCl ws s.heap → va_D (va_A ws s.heap.size) ws → ∀ ls : Array Slot, lv_has ls maxL (lv_args 0 av) →
      W p l e (headSpec (wm y b maxL ret) rm).room s m av.toArray below meth c s.heap [] 0 0 (MQ below (Qc s.heap.size) av.toArray s mc ms (va_A ws s.heap.size)) (F0 m 0 ls [])) : Met l y (wm y b maxL ret) rm (va_Pc av (PrW D cy ws sz)) (Qc sz) mc ms (va_A ws sz) := by
  refine Met.ofW (cc := b) (maxL := maxL) (ret := ret) hy rfl ?_
  intro p e s m args below meth c s₁ B hml hv
  obtain ⟨rfl, hsz, hP, hK, hD0⟩ := hv
  have hts0 := atoms_spec (ws := wm y b maxL ret) B.pre
  subst hsz
  have hl := lv_entry av (n := maxL) hn
  rw [lg_entry_eq]
  exact body p e s m below meth c B.exec B.bytes B.returns (fun w h => hts0 w (List.mem_cons_of_mem _ h)) (findClass_of_methodNamed B.named) B.notSynchronized hml (name_of_methodNamed B.named B.method).1 hK hP hD0.self _ hl
theorem A_hi {ws : va_W} {sz : Nat} : ∀ q, sz ≤ q → va_A ws sz q := fun _ h => Or.inr h
theorem hd_X1_init : yX1_init.cls ≠ "java/lang/invoke/MethodHandle" ∧ yX1_init.cls ≠ "java/lang/invoke/VarHandle" ∧ (parseMethodDescriptor yX1_init.desc).map (fun d => d.parameters.length) = some 0 := by decide +kernel
theorem hd_X0_init : yX0_init.cls ≠ "java/lang/invoke/MethodHandle" ∧ yX0_init.cls ≠ "java/lang/invoke/VarHandle" ∧ (parseMethodDescriptor yX0_init.desc).map (fun d => d.parameters.length) = some 1 := by decide +kernel
theorem hd_X3_init : yX3_init.cls ≠ "java/lang/invoke/MethodHandle" ∧ yX3_init.cls ≠ "java/lang/invoke/VarHandle" ∧ (parseMethodDescriptor yX3_init.desc).map (fun d => d.parameters.length) = some 0 := by decide +kernel
theorem hd_X4_init : yX4_init.cls ≠ "java/lang/invoke/MethodHandle" ∧ yX4_init.cls ≠ "java/lang/invoke/VarHandle" ∧ (parseMethodDescriptor yX4_init.desc).map (fun d => d.parameters.length) = some 0 := by decide +kernel
theorem hd_X5_init : yX5_init.cls ≠ "java/lang/invoke/MethodHandle" ∧ yX5_init.cls ≠ "java/lang/invoke/VarHandle" ∧ (parseMethodDescriptor yX5_init.desc).map (fun d => d.parameters.length) = some 0 := by decide +kernel
theorem hd_X6_init : yX6_init.cls ≠ "java/lang/invoke/MethodHandle" ∧ yX6_init.cls ≠ "java/lang/invoke/VarHandle" ∧ (parseMethodDescriptor yX6_init.desc).map (fun d => d.parameters.length) = some 0 := by decide +kernel
set_option maxHeartbeats 4000000 in
set_option maxRecDepth 100000 in
theorem c_X1_init (l : Launch) {D : va_G} {cy : Nat → ClassId} {h sz : Nat} : Met l yX1_init (wm yX1_init cX1_init 1 none) ({ frames := 1, cells := 2, slots := 260, locals := 40 } : Room) (va_Pc [.ref h] (PrW D cy [(h, bN)] sz)) (va_Qv (fun _ : Nat × Nat => True) (fun u t => va_P D vwCl (nodeL cy h u.1 u.2) t.heap ∧ va_D (va_A [(h, bN)] sz) (nodeL cy h u.1 u.2)) (va_A [(h, bN)] sz)) 2 260 (va_A [(h, bN)] sz) := by
  refine ofC (Qc := fun sz => va_Qv (fun _ : Nat × Nat => True) (fun u t => va_P D vwCl (nodeL cy h u.1 u.2) t.heap ∧ va_D (va_A [(h, bN)] sz) (nodeL cy h u.1 u.2)) (va_A [(h, bN)] sz)) (by decide +kernel) (Nat.le_of_ble_eq_true rfl) ?_
  intro p e s m below meth c hx hb hr hts hown hlocks hml hin hK hP hD ls hl
  have hin : meth.name = "<init>" := hin
  have hl : lv_has ls 1 [(0, .ref h)] := hl
  have hS : va_S (va_A [(h, bN)] s.heap.size) s.heap s.heap [] := va_S.rf
  refine lv_aload_n hx hb dX1_init_0 rfl (lv_at hl 0 rfl) ?_
  refine W.objInit hx hb hown (hts _ k_ml_RX1_3) (hts _ k_im_objectInit) (hts _ k_co_objectInit) rfl (by rw [hml]; exact hl.1) rfl dX1_init_1 (Nat.le_of_ble_eq_true rfl) (Nat.le_of_ble_eq_true rfl) ?_
  refine lv_aload_n hx hb dX1_init_4 rfl (lv_at hl 0 rfl) ?_
  refine lv_sipush (v := 160) hx hb dX1_init_5 (by decide) ?_
  refine nwI (N := 160) hx hb hts hK hP hD hS A_hi (by decide) (by decide) (Nat.le_of_ble_eq_true rfl) (Nat.le_of_ble_eq_true rfl) (Nat.le_of_ble_eq_true rfl) dX1_init_8 (fun q1 H hP hD hS => ?_)
  refine va_putF (ci := 1) (v := .ref q1) (ty := .array .int) (C := RX1) (T := TX1) (N := 6) hx hb hts iwX1 tyX1 tyX1_ok nmX1 hown hK.1 hP hD hS 0 rfl rfl 4 (by decide) (hts _ k_fl_RX1_9) (fun _ h => h) rfl hin rfl (by decide +kernel) rfl rfl (Nat.le_of_ble_eq_true rfl) dX1_init_10 (fun H locs hP hD hS => ?_)
  refine lv_aload_n hx hb dX1_init_13 rfl (lv_at hl 0 rfl) ?_
  refine lv_bipush (v := 100) hx hb dX1_init_14 (by decide) ?_
  refine nwI (N := 100) hx hb hts hK hP hD hS A_hi (by decide) (by decide) (Nat.le_of_ble_eq_true rfl) (Nat.le_of_ble_eq_true rfl) (Nat.le_of_ble_eq_true rfl) dX1_init_16 (fun q2 H hP hD hS => ?_)
  refine va_putF (ci := 1) (v := .ref q2) (ty := .array .int) (C := RX1) (T := TX1) (N := 6) hx hb hts iwX1 tyX1 tyX1_ok nmX1 hown hK.1 hP hD hS 0 rfl rfl 5 (by decide) (hts _ k_fl_RX1_15) (fun _ h => h) rfl hin rfl (by decide +kernel) rfl rfl (Nat.le_of_ble_eq_true rfl) dX1_init_18 (fun H locs hP hD hS => ?_)
  have hP : va_P D vwCl (nodeL cy h q1 q2) H := hP
  have hD : va_D (va_A [(h, bN)] s.heap.size) (nodeL cy h q1 q2) := hD
  exact W.vret hx hb hr (fun t ht hW => ⟨⟨(q1, q2), rfl, trivial, by rw [ht]; exact hP, hD⟩, hS.F ht⟩) hS.2.2 dX1_init_21 hlocks
end
