def LW : List Cond := lw_tbl.filter goodWord
theorem lw_mem {w : Cond} {i : Nat} (h : lw_tbl[i]? = some w) (g : goodWord w = true) : w ∈ LW := List.mem_filter.mpr ⟨List.mem_of_getElem? h, g⟩
theorem lw_sub : ∀ w ∈ LW, w ∈ lw_tbl := fun _ h => (List.mem_filter.mp h).1
theorem lw_good : ∀ w ∈ LW, goodWord w = true := fun _ h => (List.mem_filter.mp h).2
theorem iwX0 : ∀ w ∈ wsX00, w ∈ LW := fun w h => List.mem_filter.mpr ⟨(show ∀ w ∈ wsX00, w ∈ lw_tbl by decide +kernel) w h, List.all_eq_true.mp (show (wsX00).all goodWord = true by decide +kernel) w h⟩
theorem iwX1 : ∀ w ∈ wsX10, w ∈ LW := fun w h => List.mem_filter.mpr ⟨(show ∀ w ∈ wsX10, w ∈ lw_tbl by decide +kernel) w h, List.all_eq_true.mp (show (wsX10).all goodWord = true by decide +kernel) w h⟩
theorem iwX3 : ∀ w ∈ wsX30, w ∈ LW := fun w h => List.mem_filter.mpr ⟨(show ∀ w ∈ wsX30, w ∈ lw_tbl by decide +kernel) w h, List.all_eq_true.mp (show (wsX30).all goodWord = true by decide +kernel) w h⟩
theorem iwX4 : ∀ w ∈ wsX40, w ∈ LW := fun w h => List.mem_filter.mpr ⟨(show ∀ w ∈ wsX40, w ∈ lw_tbl by decide +kernel) w h, List.all_eq_true.mp (show (wsX40).all goodWord = true by decide +kernel) w h⟩
theorem iwX5 : ∀ w ∈ wsX50, w ∈ LW := fun w h => List.mem_filter.mpr ⟨(show ∀ w ∈ wsX50, w ∈ lw_tbl by decide +kernel) w h, List.all_eq_true.mp (show (wsX50).all goodWord = true by decide +kernel) w h⟩
theorem iwX6 : ∀ w ∈ wsX60, w ∈ LW := fun w h => List.mem_filter.mpr ⟨(show ∀ w ∈ wsX60, w ∈ lw_tbl by decide +kernel) w h, List.all_eq_true.mp (show (wsX60).all goodWord = true by decide +kernel) w h⟩
theorem k_cl_RL_8 : (Cond.classLink RL 8 RX5) ∈ LW := lw_mem (i := 64) (by decide +kernel) rfl
theorem k_it_RX5 : (Cond.instantiable RX5 2) ∈ LW := lw_mem (i := 65) (by decide +kernel) rfl
theorem k_in_RX5 : (Cond.initialized RX5) ∈ LW := lw_mem (i := 46) (by decide +kernel) rfl
theorem k_cl_RL_92 : (Cond.classLink RL 92 RX6) ∈ LW := lw_mem (i := 849) (by decide +kernel) rfl
theorem k_it_RX6 : (Cond.instantiable RX6 5) ∈ LW := lw_mem (i := 850) (by decide +kernel) rfl
theorem k_in_RX6 : (Cond.initialized RX6) ∈ LW := lw_mem (i := 51) (by decide +kernel) rfl
theorem k_ac_long : (Cond.arrayClass .long) ∈ LW := lw_mem (i := 1155) (by decide +kernel) rfl
theorem k_ac_double : (Cond.arrayClass .double) ∈ LW := lw_mem (i := 1156) (by decide +kernel) rfl
theorem k_ml_RL_91 : (Cond.methodLink RL 91 yX5_init) ∈ LW := lw_mem (i := 66) (by decide +kernel) rfl
theorem k_im_yX5_init : (Cond.instanceMethod yX5_init) ∈ LW := lw_mem (i := 67) (by decide +kernel) rfl
theorem k_co_yX5_init : (Cond.code yX5_init cX5_init 1 none) ∈ LW := lw_mem (i := 68) (by decide +kernel) rfl
theorem k_ml_RX5_3 : (Cond.methodLink RX5 3 objectInit) ∈ LW := lw_mem (i := 69) (by decide +kernel) rfl
theorem k_im_objectInit : (Cond.instanceMethod objectInit) ∈ LW := lw_mem (i := 70) (by decide +kernel) rfl
theorem k_co_objectInit : (Cond.code objectInit ⟨#[0xb1]⟩ 1 none) ∈ LW := lw_mem (i := 71) (by decide +kernel) rfl
theorem k_cl_RX5_9 : (Cond.classLink RX5 9 RX3) ∈ LW := lw_mem (i := 72) (by decide +kernel) rfl
theorem k_it_RX3 : (Cond.instantiable RX3 5) ∈ LW := lw_mem (i := 73) (by decide +kernel) rfl
theorem k_in_RX3 : (Cond.initialized RX3) ∈ LW := lw_mem (i := 47) (by decide +kernel) rfl
theorem k_fl_RX5_12 : (Cond.fieldLink RX5 12 "LedgerStore" "now" "LLedgerStore$State;") ∈ LW := lw_mem (i := 208) (by decide +kernel) rfl
theorem k_cl_RX5_16 : (Cond.classLink RX5 16 RX4) ∈ LW := lw_mem (i := 189) (by decide +kernel) rfl
theorem k_it_RX4 : (Cond.instantiable RX4 3) ∈ LW := lw_mem (i := 190) (by decide +kernel) rfl
theorem k_in_RX4 : (Cond.initialized RX4) ∈ LW := lw_mem (i := 50) (by decide +kernel) rfl
theorem k_fl_RX5_19 : (Cond.fieldLink RX5 19 "LedgerStore" "past" "LLedgerStore$UndoStack;") ∈ LW := lw_mem (i := 209) (by decide +kernel) rfl
theorem k_ml_RX5_11 : (Cond.methodLink RX5 11 yX3_init) ∈ LW := lw_mem (i := 74) (by decide +kernel) rfl
theorem k_im_yX3_init : (Cond.instanceMethod yX3_init) ∈ LW := lw_mem (i := 75) (by decide +kernel) rfl
theorem k_co_yX3_init : (Cond.code yX3_init cX3_init 2 none) ∈ LW := lw_mem (i := 76) (by decide +kernel) rfl
theorem k_ml_RX3_3 : (Cond.methodLink RX3 3 objectInit) ∈ LW := lw_mem (i := 77) (by decide +kernel) rfl
theorem k_cl_RX3_9 : (Cond.classLink RX3 9 RX1) ∈ LW := lw_mem (i := 78) (by decide +kernel) rfl
theorem k_fl_RX3_11 : (Cond.fieldLink RX3 11 "LedgerStore$State" "nodes" "[LLedgerStore$Node;") ∈ LW := lw_mem (i := 176) (by decide +kernel) rfl
theorem k_cl_RX3_17 : (Cond.classLink RX3 17 RX0) ∈ LW := lw_mem (i := 80) (by decide +kernel) rfl
theorem k_fl_RX3_19 : (Cond.fieldLink RX3 19 "LedgerStore$State" "ledgers" "[LLedgerStore$Ledger;") ∈ LW := lw_mem (i := 177) (by decide +kernel) rfl
theorem k_it_RX1 : (Cond.instantiable RX1 6) ∈ LW := lw_mem (i := 82) (by decide +kernel) rfl
theorem k_in_RX1 : (Cond.initialized RX1) ∈ LW := lw_mem (i := 48) (by decide +kernel) rfl
theorem k_it_RX0 : (Cond.instantiable RX0 12) ∈ LW := lw_mem (i := 113) (by decide +kernel) rfl
theorem k_in_RX0 : (Cond.initialized RX0) ∈ LW := lw_mem (i := 49) (by decide +kernel) rfl
theorem k_im_yX1_init : (Cond.instanceMethod yX1_init) ∈ LW := lw_mem (i := 84) (by decide +kernel) rfl
theorem k_co_yX1_init : (Cond.code yX1_init cX1_init 1 none) ∈ LW := lw_mem (i := 85) (by decide +kernel) rfl
theorem k_ml_RX1_3 : (Cond.methodLink RX1 3 objectInit) ∈ LW := lw_mem (i := 86) (by decide +kernel) rfl
theorem k_ac_int : (Cond.arrayClass .int) ∈ LW := lw_mem (i := 112) (by decide +kernel) rfl
theorem k_fl_RX1_9 : (Cond.fieldLink RX1 9 "LedgerStore$Node" "stored" "[I") ∈ LW := lw_mem (i := 97) (by decide +kernel) rfl
theorem k_fl_RX1_15 : (Cond.fieldLink RX1 15 "LedgerStore$Node" "inbox" "[I") ∈ LW := lw_mem (i := 98) (by decide +kernel) rfl
theorem k_ml_RX3_24 : (Cond.methodLink RX3 24 yX0_init) ∈ LW := lw_mem (i := 114) (by decide +kernel) rfl
theorem k_im_yX0_init : (Cond.instanceMethod yX0_init) ∈ LW := lw_mem (i := 115) (by decide +kernel) rfl
theorem k_co_yX0_init : (Cond.code yX0_init cX0_init 2 none) ∈ LW := lw_mem (i := 116) (by decide +kernel) rfl
theorem k_ml_RX0_3 : (Cond.methodLink RX0 3 objectInit) ∈ LW := lw_mem (i := 117) (by decide +kernel) rfl
theorem k_fl_RX0_9 : (Cond.fieldLink RX0 9 "LedgerStore$Ledger" "payloads" "[I") ∈ LW := lw_mem (i := 141) (by decide +kernel) rfl
theorem k_fl_RX0_15 : (Cond.fieldLink RX0 15 "LedgerStore$Ledger" "acknowledgers" "[I") ∈ LW := lw_mem (i := 142) (by decide +kernel) rfl
theorem k_fl_RX0_18 : (Cond.fieldLink RX0 18 "LedgerStore$Ledger" "starts" "[I") ∈ LW := lw_mem (i := 143) (by decide +kernel) rfl
theorem k_fl_RX0_21 : (Cond.fieldLink RX0 21 "LedgerStore$Ledger" "members" "[I") ∈ LW := lw_mem (i := 144) (by decide +kernel) rfl
theorem k_fl_RX0_24 : (Cond.fieldLink RX0 24 "LedgerStore$Ledger" "number" "I") ∈ LW := lw_mem (i := 118) (by decide +kernel) rfl
theorem k_im_yX4_init : (Cond.instanceMethod yX4_init) ∈ LW := lw_mem (i := 192) (by decide +kernel) rfl
theorem k_co_yX4_init : (Cond.code yX4_init cX4_init 1 none) ∈ LW := lw_mem (i := 193) (by decide +kernel) rfl
theorem k_ml_RX4_3 : (Cond.methodLink RX4 3 objectInit) ∈ LW := lw_mem (i := 194) (by decide +kernel) rfl
theorem k_cl_RX4_9 : (Cond.classLink RX4 9 RX3) ∈ LW := lw_mem (i := 195) (by decide +kernel) rfl
theorem k_fl_RX4_11 : (Cond.fieldLink RX4 11 "LedgerStore$UndoStack" "ring" "[LLedgerStore$State;") ∈ LW := lw_mem (i := 200) (by decide +kernel) rfl
theorem k_ml_RL_94 : (Cond.methodLink RL 94 yX6_init) ∈ LW := lw_mem (i := 851) (by decide +kernel) rfl
theorem k_im_yX6_init : (Cond.instanceMethod yX6_init) ∈ LW := lw_mem (i := 852) (by decide +kernel) rfl
theorem k_co_yX6_init : (Cond.code yX6_init cX6_init 1 none) ∈ LW := lw_mem (i := 853) (by decide +kernel) rfl
theorem k_ml_RX6_1 : (Cond.methodLink RX6 1 objectInit) ∈ LW := lw_mem (i := 854) (by decide +kernel) rfl
theorem k_fl_RX6_7 : (Cond.fieldLink RX6 7 "LedgerStoreModel" "s" "[I") ∈ LW := lw_mem (i := 855) (by decide +kernel) rfl
theorem k_fl_RX6_13 : (Cond.fieldLink RX6 13 "LedgerStoreModel" "past" "[I") ∈ LW := lw_mem (i := 856) (by decide +kernel) rfl
theorem k_fl_RX6_16 : (Cond.fieldLink RX6 16 "LedgerStoreModel" "pasts" "I") ∈ LW := lw_mem (i := 857) (by decide +kernel) rfl
theorem k_ml_RL_95 : (Cond.methodLink RL 95 yL_addNode) ∈ LW := lw_mem (i := 421) (by decide +kernel) rfl
theorem k_st_yL_addNode : (Cond.static yL_addNode) ∈ LW := lw_mem (i := 422) (by decide +kernel) rfl
theorem k_in_RL : (Cond.initialized RL) ∈ LW := lw_mem (i := 45) (by decide +kernel) rfl
theorem k_cw_yL_addNode : (Cond.codeWith yL_addNode cL_addNode 3 (some .int) [(0, 8, 11, 13)]) ∈ LW := lw_mem (i := 423) (by decide +kernel) rfl
theorem k_cl_RL_13 : (Cond.classLink RL 13 "java/lang/IllegalStateException") ∈ LW := lw_mem (i := 424) (by decide +kernel) rfl
theorem k_ml_RL_7 : (Cond.methodLink RL 7 yX5_addNode) ∈ LW := lw_mem (i := 425) (by decide +kernel) rfl
theorem k_im_yX5_addNode : (Cond.instanceMethod yX5_addNode) ∈ LW := lw_mem (i := 426) (by decide +kernel) rfl
theorem k_se_yX5_addNode : (Cond.selects RX5 yX5_addNode yX5_addNode) ∈ LW := lw_mem (i := 427) (by decide +kernel) rfl
theorem k_co_yX5_addNode : (Cond.code yX5_addNode cX5_addNode 1 (some .int)) ∈ LW := lw_mem (i := 428) (by decide +kernel) rfl
theorem k_cl_RX5_27 : (Cond.classLink RX5 27 "java/lang/IllegalStateException") ∈ LW := lw_mem (i := 429) (by decide +kernel) rfl
theorem k_in_J_IllegalStateException : (Cond.initialized "java/lang/IllegalStateException") ∈ LW := lw_mem (i := 55) (by decide +kernel) rfl
theorem k_fl_RX5_23 : (Cond.fieldLink RX5 23 "LedgerStore$State" "nodeCount" "I") ∈ LW := lw_mem (i := 171) (by decide +kernel) rfl
theorem k_ml_RX5_34 : (Cond.methodLink RX5 34 yX4_push) ∈ LW := lw_mem (i := 219) (by decide +kernel) rfl
theorem k_im_yX4_push : (Cond.instanceMethod yX4_push) ∈ LW := lw_mem (i := 220) (by decide +kernel) rfl
theorem k_se_yX4_push : (Cond.selects RX4 yX4_push yX4_push) ∈ LW := lw_mem (i := 221) (by decide +kernel) rfl
theorem k_co_yX4_push : (Cond.code yX4_push cX4_push 3 none) ∈ LW := lw_mem (i := 222) (by decide +kernel) rfl
theorem k_fl_RX4_17 : (Cond.fieldLink RX4 17 "LedgerStore$UndoStack" "next" "I") ∈ LW := lw_mem (i := 199) (by decide +kernel) rfl
theorem k_fl_RX4_26 : (Cond.fieldLink RX4 26 "LedgerStore$UndoStack" "depth" "I") ∈ LW := lw_mem (i := 197) (by decide +kernel) rfl
theorem k_ml_RX4_29 : (Cond.methodLink RX4 29 Lib.Math.min.name) ∈ LW := lw_mem (i := 254) (by decide +kernel) rfl
theorem k_st_Lib_Math_min_name : (Cond.static Lib.Math.min.name) ∈ LW := lw_mem (i := 240) (by decide +kernel) rfl
theorem k_in_J_Math : (Cond.initialized "java/lang/Math") ∈ LW := lw_mem (i := 56) (by decide +kernel) rfl
theorem k_co_Lib_Math_min_name : (Cond.code Lib.Math.min.name Lib.Math.min.code 2 (some .int)) ∈ LW := lw_mem (i := 241) (by decide +kernel) rfl
theorem k_ml_RX4_21 : (Cond.methodLink RX4 21 yX3_init) ∈ LW := lw_mem (i := 223) (by decide +kernel) rfl
theorem k_ml_RX4_22 : (Cond.methodLink RX4 22 yX3_takeOver) ∈ LW := lw_mem (i := 224) (by decide +kernel) rfl
theorem k_im_yX3_takeOver : (Cond.instanceMethod yX3_takeOver) ∈ LW := lw_mem (i := 225) (by decide +kernel) rfl
theorem k_se_yX3_takeOver : (Cond.selects RX3 yX3_takeOver yX3_takeOver) ∈ LW := lw_mem (i := 226) (by decide +kernel) rfl
theorem k_co_yX3_takeOver : (Cond.code yX3_takeOver cX3_takeOver 5 none) ∈ LW := lw_mem (i := 227) (by decide +kernel) rfl
theorem k_fl_RX3_27 : (Cond.fieldLink RX3 27 "LedgerStore$State" "nodeCount" "I") ∈ LW := lw_mem (i := 170) (by decide +kernel) rfl
theorem k_fl_RX3_31 : (Cond.fieldLink RX3 31 "LedgerStore$State" "ledgerCount" "I") ∈ LW := lw_mem (i := 172) (by decide +kernel) rfl
theorem k_fl_RX3_34 : (Cond.fieldLink RX3 34 "LedgerStore$State" "rejected" "I") ∈ LW := lw_mem (i := 174) (by decide +kernel) rfl
theorem k_ml_RX3_37 : (Cond.methodLink RX3 37 yX3_node) ∈ LW := lw_mem (i := 228) (by decide +kernel) rfl
theorem k_im_yX3_node : (Cond.instanceMethod yX3_node) ∈ LW := lw_mem (i := 229) (by decide +kernel) rfl
theorem k_se_yX3_node : (Cond.selects RX3 yX3_node yX3_node) ∈ LW := lw_mem (i := 230) (by decide +kernel) rfl
theorem k_co_yX3_node : (Cond.code yX3_node cX3_node 2 (some (.object "LedgerStore$Node"))) ∈ LW := lw_mem (i := 231) (by decide +kernel) rfl
theorem k_ml_RX3_41 : (Cond.methodLink RX3 41 yX1_copyFrom) ∈ LW := lw_mem (i := 232) (by decide +kernel) rfl
theorem k_im_yX1_copyFrom : (Cond.instanceMethod yX1_copyFrom) ∈ LW := lw_mem (i := 233) (by decide +kernel) rfl
theorem k_se_yX1_copyFrom : (Cond.selects RX1 yX1_copyFrom yX1_copyFrom) ∈ LW := lw_mem (i := 234) (by decide +kernel) rfl
theorem k_co_yX1_copyFrom : (Cond.code yX1_copyFrom cX1_copyFrom 2 none) ∈ LW := lw_mem (i := 235) (by decide +kernel) rfl
theorem k_fl_RX1_18 : (Cond.fieldLink RX1 18 "LedgerStore$Node" "up" "Z") ∈ LW := lw_mem (i := 87) (by decide +kernel) rfl
theorem k_fl_RX1_22 : (Cond.fieldLink RX1 22 "LedgerStore$Node" "fences" "I") ∈ LW := lw_mem (i := 90) (by decide +kernel) rfl
theorem k_fl_RX1_26 : (Cond.fieldLink RX1 26 "LedgerStore$Node" "storedCount" "I") ∈ LW := lw_mem (i := 91) (by decide +kernel) rfl
theorem k_fl_RX1_29 : (Cond.fieldLink RX1 29 "LedgerStore$Node" "waiting" "I") ∈ LW := lw_mem (i := 94) (by decide +kernel) rfl
theorem k_st_yX5_copyRow : (Cond.static yX5_copyRow) ∈ LW := lw_mem (i := 237) (by decide +kernel) rfl
theorem k_co_yX5_copyRow : (Cond.code yX5_copyRow cX5_copyRow 2 none) ∈ LW := lw_mem (i := 238) (by decide +kernel) rfl
theorem k_ml_RX5_273 : (Cond.methodLink RX5 273 Lib.Math.min.name) ∈ LW := lw_mem (i := 239) (by decide +kernel) rfl
theorem k_ml_RX5_278 : (Cond.methodLink RX5 278 arraycopyName) ∈ LW := lw_mem (i := 242) (by decide +kernel) rfl
theorem k_na_arraycopyName : (Cond.native arraycopyName) ∈ LW := lw_mem (i := 244) (by decide +kernel) rfl
theorem k_st_arraycopyName : (Cond.static arraycopyName) ∈ LW := lw_mem (i := 243) (by decide +kernel) rfl
theorem k_in_J_System : (Cond.initialized "java/lang/System") ∈ LW := lw_mem (i := 57) (by decide +kernel) rfl
theorem k_ml_RX3_45 : (Cond.methodLink RX3 45 yX3_ledger) ∈ LW := lw_mem (i := 245) (by decide +kernel) rfl
theorem k_im_yX3_ledger : (Cond.instanceMethod yX3_ledger) ∈ LW := lw_mem (i := 246) (by decide +kernel) rfl
theorem k_se_yX3_ledger : (Cond.selects RX3 yX3_ledger yX3_ledger) ∈ LW := lw_mem (i := 247) (by decide +kernel) rfl
theorem k_co_yX3_ledger : (Cond.code yX3_ledger cX3_ledger 2 (some (.object "LedgerStore$Ledger"))) ∈ LW := lw_mem (i := 248) (by decide +kernel) rfl
theorem k_ml_RX3_49 : (Cond.methodLink RX3 49 yX0_copyFrom) ∈ LW := lw_mem (i := 249) (by decide +kernel) rfl
theorem k_im_yX0_copyFrom : (Cond.instanceMethod yX0_copyFrom) ∈ LW := lw_mem (i := 250) (by decide +kernel) rfl
theorem k_se_yX0_copyFrom : (Cond.selects RX0 yX0_copyFrom yX0_copyFrom) ∈ LW := lw_mem (i := 251) (by decide +kernel) rfl
theorem k_co_yX0_copyFrom : (Cond.code yX0_copyFrom cX0_copyFrom 2 none) ∈ LW := lw_mem (i := 252) (by decide +kernel) rfl
theorem k_fl_RX0_28 : (Cond.fieldLink RX0 28 "LedgerStore$Ledger" "ensembleSize" "I") ∈ LW := lw_mem (i := 121) (by decide +kernel) rfl
theorem k_fl_RX0_31 : (Cond.fieldLink RX0 31 "LedgerStore$Ledger" "writeQuorum" "I") ∈ LW := lw_mem (i := 124) (by decide +kernel) rfl
theorem k_fl_RX0_34 : (Cond.fieldLink RX0 34 "LedgerStore$Ledger" "ackQuorum" "I") ∈ LW := lw_mem (i := 127) (by decide +kernel) rfl
theorem k_fl_RX0_37 : (Cond.fieldLink RX0 37 "LedgerStore$Ledger" "phase" "I") ∈ LW := lw_mem (i := 130) (by decide +kernel) rfl
theorem k_fl_RX0_40 : (Cond.fieldLink RX0 40 "LedgerStore$Ledger" "entries" "I") ∈ LW := lw_mem (i := 133) (by decide +kernel) rfl
theorem k_fl_RX0_43 : (Cond.fieldLink RX0 43 "LedgerStore$Ledger" "lastEntry" "I") ∈ LW := lw_mem (i := 136) (by decide +kernel) rfl
theorem k_fl_RX0_46 : (Cond.fieldLink RX0 46 "LedgerStore$Ledger" "fragments" "I") ∈ LW := lw_mem (i := 138) (by decide +kernel) rfl
theorem k_ml_RX5_38 : (Cond.methodLink RX5 38 yX3_beginNode) ∈ LW := lw_mem (i := 496) (by decide +kernel) rfl
theorem k_im_yX3_beginNode : (Cond.instanceMethod yX3_beginNode) ∈ LW := lw_mem (i := 497) (by decide +kernel) rfl
theorem k_se_yX3_beginNode : (Cond.selects RX3 yX3_beginNode yX3_beginNode) ∈ LW := lw_mem (i := 498) (by decide +kernel) rfl
theorem k_co_yX3_beginNode : (Cond.code yX3_beginNode cX3_beginNode 3 (some .int)) ∈ LW := lw_mem (i := 499) (by decide +kernel) rfl
theorem k_ml_RX3_52 : (Cond.methodLink RX3 52 yX1_begin) ∈ LW := lw_mem (i := 500) (by decide +kernel) rfl
theorem k_im_yX1_begin : (Cond.instanceMethod yX1_begin) ∈ LW := lw_mem (i := 501) (by decide +kernel) rfl
theorem k_se_yX1_begin : (Cond.selects RX1 yX1_begin yX1_begin) ∈ LW := lw_mem (i := 502) (by decide +kernel) rfl
theorem k_co_yX1_begin : (Cond.code yX1_begin cX1_begin 1 none) ∈ LW := lw_mem (i := 503) (by decide +kernel) rfl
theorem k_ml_RX1_32 : (Cond.methodLink RX1 32 yJ7_fill_53178) ∈ LW := lw_mem (i := 504) (by decide +kernel) rfl
theorem k_st_yJ7_fill_53178 : (Cond.static yJ7_fill_53178) ∈ LW := lw_mem (i := 505) (by decide +kernel) rfl
theorem k_in_RJ7 : (Cond.initialized RJ7) ∈ LW := lw_mem (i := 58) (by decide +kernel) rfl
theorem k_co_yJ7_fill_53178 : (Cond.code yJ7_fill_53178 cJ7_fill_53178 4 none) ∈ LW := lw_mem (i := 506) (by decide +kernel) rfl
theorem k_ml_RL_100 : (Cond.methodLink RL 100 yX6_addNode) ∈ LW := lw_mem (i := 875) (by decide +kernel) rfl
theorem k_im_yX6_addNode : (Cond.instanceMethod yX6_addNode) ∈ LW := lw_mem (i := 876) (by decide +kernel) rfl
theorem k_se_yX6_addNode : (Cond.selects RX6 yX6_addNode yX6_addNode) ∈ LW := lw_mem (i := 877) (by decide +kernel) rfl
theorem k_co_yX6_addNode : (Cond.code yX6_addNode cX6_addNode 1 (some .int)) ∈ LW := lw_mem (i := 878) (by decide +kernel) rfl
theorem k_fl_RX6_20 : (Cond.fieldLink RX6 20 "LedgerStoreModel" "thrown" "I") ∈ LW := lw_mem (i := 858) (by decide +kernel) rfl
theorem k_ml_RX6_63 : (Cond.methodLink RX6 63 yX6_note) ∈ LW := lw_mem (i := 879) (by decide +kernel) rfl
theorem k_im_yX6_note : (Cond.instanceMethod yX6_note) ∈ LW := lw_mem (i := 881) (by decide +kernel) rfl
theorem k_se_yX6_note : (Cond.selects RX6 yX6_note yX6_note) ∈ LW := lw_mem (i := 8) (by decide +kernel) rfl
theorem k_co_yX6_note : (Cond.code yX6_note cX6_note 2 none) ∈ LW := lw_mem (i := 882) (by decide +kernel) rfl
theorem k_ml_RL_101 : (Cond.methodLink RL 101 yX6_thrown) ∈ LW := lw_mem (i := 871) (by decide +kernel) rfl
theorem k_im_yX6_thrown : (Cond.instanceMethod yX6_thrown) ∈ LW := lw_mem (i := 872) (by decide +kernel) rfl
theorem k_se_yX6_thrown : (Cond.selects RX6 yX6_thrown yX6_thrown) ∈ LW := lw_mem (i := 873) (by decide +kernel) rfl
theorem k_co_yX6_thrown : (Cond.code yX6_thrown cX6_thrown 1 (some .int)) ∈ LW := lw_mem (i := 874) (by decide +kernel) rfl
theorem k_ml_RL_104 : (Cond.methodLink RL 104 yL_crash) ∈ LW := lw_mem (i := 507) (by decide +kernel) rfl
theorem k_st_yL_crash : (Cond.static yL_crash) ∈ LW := lw_mem (i := 508) (by decide +kernel) rfl
theorem k_cw_yL_crash : (Cond.codeWith yL_crash cL_crash 4 (some .int) [(0, 9, 12, 19), (0, 9, 15, 13)]) ∈ LW := lw_mem (i := 509) (by decide +kernel) rfl
theorem k_cl_RL_19 : (Cond.classLink RL 19 "java/lang/IllegalArgumentException") ∈ LW := lw_mem (i := 510) (by decide +kernel) rfl
theorem k_ml_RL_15 : (Cond.methodLink RL 15 yX5_crash) ∈ LW := lw_mem (i := 511) (by decide +kernel) rfl
theorem k_im_yX5_crash : (Cond.instanceMethod yX5_crash) ∈ LW := lw_mem (i := 512) (by decide +kernel) rfl
theorem k_se_yX5_crash : (Cond.selects RX5 yX5_crash yX5_crash) ∈ LW := lw_mem (i := 513) (by decide +kernel) rfl
theorem k_co_yX5_crash : (Cond.code yX5_crash cX5_crash 4 (some .int)) ∈ LW := lw_mem (i := 514) (by decide +kernel) rfl
theorem k_fl_RX5_46 : (Cond.fieldLink RX5 46 "LedgerStore$Node" "up" "Z") ∈ LW := lw_mem (i := 88) (by decide +kernel) rfl
theorem k_fl_RX5_54 : (Cond.fieldLink RX5 54 "LedgerStore$Node" "waiting" "I") ∈ LW := lw_mem (i := 95) (by decide +kernel) rfl
theorem k_ml_RX5_42 : (Cond.methodLink RX5 42 yX5_existingNode) ∈ LW := lw_mem (i := 515) (by decide +kernel) rfl
theorem k_im_yX5_existingNode : (Cond.instanceMethod yX5_existingNode) ∈ LW := lw_mem (i := 517) (by decide +kernel) rfl
theorem k_se_yX5_existingNode : (Cond.selects RX5 yX5_existingNode yX5_existingNode) ∈ LW := lw_mem (i := 6) (by decide +kernel) rfl
theorem k_co_yX5_existingNode : (Cond.code yX5_existingNode cX5_existingNode 3 (some (.object "LedgerStore$Node"))) ∈ LW := lw_mem (i := 518) (by decide +kernel) rfl
theorem k_cl_RX5_90 : (Cond.classLink RX5 90 "java/lang/IllegalArgumentException") ∈ LW := lw_mem (i := 519) (by decide +kernel) rfl
theorem k_in_J_IllegalArgumentException : (Cond.initialized "java/lang/IllegalArgumentException") ∈ LW := lw_mem (i := 59) (by decide +kernel) rfl
theorem k_ml_RX5_224 : (Cond.methodLink RX5 224 yX3_node) ∈ LW := lw_mem (i := 335) (by decide +kernel) rfl
theorem k_ml_RL_107 : (Cond.methodLink RL 107 yX6_crash) ∈ LW := lw_mem (i := 883) (by decide +kernel) rfl
theorem k_im_yX6_crash : (Cond.instanceMethod yX6_crash) ∈ LW := lw_mem (i := 884) (by decide +kernel) rfl
theorem k_se_yX6_crash : (Cond.selects RX6 yX6_crash yX6_crash) ∈ LW := lw_mem (i := 885) (by decide +kernel) rfl
theorem k_co_yX6_crash : (Cond.code yX6_crash cX6_crash 3 (some .int)) ∈ LW := lw_mem (i := 886) (by decide +kernel) rfl
theorem k_ml_RX6_66 : (Cond.methodLink RX6 66 yX6_isNode) ∈ LW := lw_mem (i := 887) (by decide +kernel) rfl
theorem k_im_yX6_isNode : (Cond.instanceMethod yX6_isNode) ∈ LW := lw_mem (i := 889) (by decide +kernel) rfl
theorem k_se_yX6_isNode : (Cond.selects RX6 yX6_isNode yX6_isNode) ∈ LW := lw_mem (i := 9) (by decide +kernel) rfl
theorem k_co_yX6_isNode : (Cond.code yX6_isNode cX6_isNode 2 (some .boolean)) ∈ LW := lw_mem (i := 890) (by decide +kernel) rfl
theorem k_ml_RX6_23 : (Cond.methodLink RX6 23 yX6_in) ∈ LW := lw_mem (i := 891) (by decide +kernel) rfl
theorem k_st_yX6_in : (Cond.static yX6_in) ∈ LW := lw_mem (i := 892) (by decide +kernel) rfl
theorem k_co_yX6_in : (Cond.code yX6_in cX6_in 3 (some .boolean)) ∈ LW := lw_mem (i := 893) (by decide +kernel) rfl
theorem k_ml_RX6_45 : (Cond.methodLink RX6 45 yX6_isUp) ∈ LW := lw_mem (i := 894) (by decide +kernel) rfl
theorem k_im_yX6_isUp : (Cond.instanceMethod yX6_isUp) ∈ LW := lw_mem (i := 896) (by decide +kernel) rfl
theorem k_se_yX6_isUp : (Cond.selects RX6 yX6_isUp yX6_isUp) ∈ LW := lw_mem (i := 10) (by decide +kernel) rfl
theorem k_co_yX6_isUp : (Cond.code yX6_isUp cX6_isUp 2 (some .boolean)) ∈ LW := lw_mem (i := 897) (by decide +kernel) rfl
theorem k_ml_RX6_69 : (Cond.methodLink RX6 69 yX6_isFine) ∈ LW := lw_mem (i := 898) (by decide +kernel) rfl
theorem k_im_yX6_isFine : (Cond.instanceMethod yX6_isFine) ∈ LW := lw_mem (i := 900) (by decide +kernel) rfl
theorem k_se_yX6_isFine : (Cond.selects RX6 yX6_isFine yX6_isFine) ∈ LW := lw_mem (i := 11) (by decide +kernel) rfl
theorem k_co_yX6_isFine : (Cond.code yX6_isFine cX6_isFine 3 (some .boolean)) ∈ LW := lw_mem (i := 901) (by decide +kernel) rfl
theorem k_ml_RX6_73 : (Cond.methodLink RX6 73 yX6_empty) ∈ LW := lw_mem (i := 902) (by decide +kernel) rfl
theorem k_im_yX6_empty : (Cond.instanceMethod yX6_empty) ∈ LW := lw_mem (i := 904) (by decide +kernel) rfl
theorem k_se_yX6_empty : (Cond.selects RX6 yX6_empty yX6_empty) ∈ LW := lw_mem (i := 12) (by decide +kernel) rfl
theorem k_co_yX6_empty : (Cond.code yX6_empty cX6_empty 3 none) ∈ LW := lw_mem (i := 905) (by decide +kernel) rfl
theorem k_ml_RL_108 : (Cond.methodLink RL 108 yL_restart) ∈ LW := lw_mem (i := 536) (by decide +kernel) rfl
theorem k_st_yL_restart : (Cond.static yL_restart) ∈ LW := lw_mem (i := 537) (by decide +kernel) rfl
theorem k_cw_yL_restart : (Cond.codeWith yL_restart cL_restart 4 (some .int) [(0, 9, 12, 19), (0, 9, 15, 13)]) ∈ LW := lw_mem (i := 538) (by decide +kernel) rfl
theorem k_ml_RL_21 : (Cond.methodLink RL 21 yX5_restart) ∈ LW := lw_mem (i := 539) (by decide +kernel) rfl
theorem k_im_yX5_restart : (Cond.instanceMethod yX5_restart) ∈ LW := lw_mem (i := 540) (by decide +kernel) rfl
theorem k_se_yX5_restart : (Cond.selects RX5 yX5_restart yX5_restart) ∈ LW := lw_mem (i := 541) (by decide +kernel) rfl
theorem k_co_yX5_restart : (Cond.code yX5_restart cX5_restart 3 (some .int)) ∈ LW := lw_mem (i := 542) (by decide +kernel) rfl
theorem k_fl_RX5_59 : (Cond.fieldLink RX5 59 "LedgerStore$Node" "storedCount" "I") ∈ LW := lw_mem (i := 92) (by decide +kernel) rfl
theorem k_ml_RL_110 : (Cond.methodLink RL 110 yX6_restart) ∈ LW := lw_mem (i := 906) (by decide +kernel) rfl
theorem k_im_yX6_restart : (Cond.instanceMethod yX6_restart) ∈ LW := lw_mem (i := 907) (by decide +kernel) rfl
theorem k_se_yX6_restart : (Cond.selects RX6 yX6_restart yX6_restart) ∈ LW := lw_mem (i := 908) (by decide +kernel) rfl
theorem k_co_yX6_restart : (Cond.code yX6_restart cX6_restart 2 (some .int)) ∈ LW := lw_mem (i := 909) (by decide +kernel) rfl
theorem k_ml_RX6_53 : (Cond.methodLink RX6 53 yX6_weightOf) ∈ LW := lw_mem (i := 910) (by decide +kernel) rfl
theorem k_im_yX6_weightOf : (Cond.instanceMethod yX6_weightOf) ∈ LW := lw_mem (i := 912) (by decide +kernel) rfl
theorem k_se_yX6_weightOf : (Cond.selects RX6 yX6_weightOf yX6_weightOf) ∈ LW := lw_mem (i := 13) (by decide +kernel) rfl
theorem k_co_yX6_weightOf : (Cond.code yX6_weightOf cX6_weightOf 4 (some .int)) ∈ LW := lw_mem (i := 913) (by decide +kernel) rfl
theorem k_ml_RL_111 : (Cond.methodLink RL 111 yL_deliver) ∈ LW := lw_mem (i := 544) (by decide +kernel) rfl
theorem k_st_yL_deliver : (Cond.static yL_deliver) ∈ LW := lw_mem (i := 545) (by decide +kernel) rfl
theorem k_cw_yL_deliver : (Cond.codeWith yL_deliver cL_deliver 4 (some .int) [(0, 9, 12, 19), (0, 9, 15, 13)]) ∈ LW := lw_mem (i := 546) (by decide +kernel) rfl
theorem k_ml_RL_24 : (Cond.methodLink RL 24 yX5_deliver) ∈ LW := lw_mem (i := 547) (by decide +kernel) rfl
theorem k_im_yX5_deliver : (Cond.instanceMethod yX5_deliver) ∈ LW := lw_mem (i := 548) (by decide +kernel) rfl
theorem k_se_yX5_deliver : (Cond.selects RX5 yX5_deliver yX5_deliver) ∈ LW := lw_mem (i := 549) (by decide +kernel) rfl
theorem k_co_yX5_deliver : (Cond.code yX5_deliver cX5_deliver 3 (some .int)) ∈ LW := lw_mem (i := 550) (by decide +kernel) rfl
theorem k_ml_RX5_64 : (Cond.methodLink RX5 64 yX3_processOldest) ∈ LW := lw_mem (i := 263) (by decide +kernel) rfl
theorem k_im_yX3_processOldest : (Cond.instanceMethod yX3_processOldest) ∈ LW := lw_mem (i := 264) (by decide +kernel) rfl
theorem k_se_yX3_processOldest : (Cond.selects RX3 yX3_processOldest yX3_processOldest) ∈ LW := lw_mem (i := 265) (by decide +kernel) rfl
theorem k_co_yX3_processOldest : (Cond.code yX3_processOldest cX3_processOldest 6 (some .int)) ∈ LW := lw_mem (i := 266) (by decide +kernel) rfl
theorem k_ml_RX3_86 : (Cond.methodLink RX3 86 yX1_takeOldest) ∈ LW := lw_mem (i := 267) (by decide +kernel) rfl
theorem k_im_yX1_takeOldest : (Cond.instanceMethod yX1_takeOldest) ∈ LW := lw_mem (i := 268) (by decide +kernel) rfl
theorem k_se_yX1_takeOldest : (Cond.selects RX1 yX1_takeOldest yX1_takeOldest) ∈ LW := lw_mem (i := 269) (by decide +kernel) rfl
theorem k_co_yX1_takeOldest : (Cond.code yX1_takeOldest cX1_takeOldest 2 (some .int)) ∈ LW := lw_mem (i := 270) (by decide +kernel) rfl
theorem k_ml_RX1_46 : (Cond.methodLink RX1 46 arraycopyName) ∈ LW := lw_mem (i := 271) (by decide +kernel) rfl
theorem k_ml_RX3_90 : (Cond.methodLink RX3 90 yX2_ledgerOf) ∈ LW := lw_mem (i := 272) (by decide +kernel) rfl
theorem k_st_yX2_ledgerOf : (Cond.static yX2_ledgerOf) ∈ LW := lw_mem (i := 273) (by decide +kernel) rfl
theorem k_in_RX2 : (Cond.initialized RX2) ∈ LW := lw_mem (i := 60) (by decide +kernel) rfl
theorem k_co_yX2_ledgerOf : (Cond.code yX2_ledgerOf cX2_ledgerOf 1 (some .int)) ∈ LW := lw_mem (i := 274) (by decide +kernel) rfl
theorem k_ml_RX3_95 : (Cond.methodLink RX3 95 yX1_isFencedFor) ∈ LW := lw_mem (i := 275) (by decide +kernel) rfl
theorem k_im_yX1_isFencedFor : (Cond.instanceMethod yX1_isFencedFor) ∈ LW := lw_mem (i := 276) (by decide +kernel) rfl
theorem k_se_yX1_isFencedFor : (Cond.selects RX1 yX1_isFencedFor yX1_isFencedFor) ∈ LW := lw_mem (i := 277) (by decide +kernel) rfl
theorem k_co_yX1_isFencedFor : (Cond.code yX1_isFencedFor cX1_isFencedFor 2 (some .boolean)) ∈ LW := lw_mem (i := 278) (by decide +kernel) rfl
theorem k_st_yX5_contains : (Cond.static yX5_contains) ∈ LW := lw_mem (i := 280) (by decide +kernel) rfl
theorem k_co_yX5_contains : (Cond.code yX5_contains cX5_contains 2 (some .boolean)) ∈ LW := lw_mem (i := 281) (by decide +kernel) rfl
theorem k_ml_RX3_98 : (Cond.methodLink RX3 98 yX1_keep) ∈ LW := lw_mem (i := 282) (by decide +kernel) rfl
theorem k_im_yX1_keep : (Cond.instanceMethod yX1_keep) ∈ LW := lw_mem (i := 283) (by decide +kernel) rfl
theorem k_se_yX1_keep : (Cond.selects RX1 yX1_keep yX1_keep) ∈ LW := lw_mem (i := 284) (by decide +kernel) rfl
theorem k_co_yX1_keep : (Cond.code yX1_keep cX1_keep 3 none) ∈ LW := lw_mem (i := 285) (by decide +kernel) rfl
theorem k_ml_RX1_52 : (Cond.methodLink RX1 52 yX2_ledgerOf) ∈ LW := lw_mem (i := 286) (by decide +kernel) rfl
theorem k_ml_RX1_58 : (Cond.methodLink RX1 58 yX2_entryOf) ∈ LW := lw_mem (i := 287) (by decide +kernel) rfl
theorem k_st_yX2_entryOf : (Cond.static yX2_entryOf) ∈ LW := lw_mem (i := 288) (by decide +kernel) rfl
theorem k_co_yX2_entryOf : (Cond.code yX2_entryOf cX2_entryOf 1 (some .int)) ∈ LW := lw_mem (i := 289) (by decide +kernel) rfl
theorem k_ml_RX1_61 : (Cond.methodLink RX1 61 yX1_slotOf) ∈ LW := lw_mem (i := 290) (by decide +kernel) rfl
theorem k_st_yX1_slotOf : (Cond.static yX1_slotOf) ∈ LW := lw_mem (i := 291) (by decide +kernel) rfl
theorem k_co_yX1_slotOf : (Cond.code yX1_slotOf cX1_slotOf 3 (some .int)) ∈ LW := lw_mem (i := 292) (by decide +kernel) rfl
theorem k_ml_RX3_101 : (Cond.methodLink RX3 101 yX2_entryOf) ∈ LW := lw_mem (i := 293) (by decide +kernel) rfl
theorem k_ml_RX3_104 : (Cond.methodLink RX3 104 yX0_acknowledge) ∈ LW := lw_mem (i := 294) (by decide +kernel) rfl
theorem k_im_yX0_acknowledge : (Cond.instanceMethod yX0_acknowledge) ∈ LW := lw_mem (i := 295) (by decide +kernel) rfl
theorem k_se_yX0_acknowledge : (Cond.selects RX0 yX0_acknowledge yX0_acknowledge) ∈ LW := lw_mem (i := 296) (by decide +kernel) rfl
theorem k_co_yX0_acknowledge : (Cond.code yX0_acknowledge cX0_acknowledge 3 none) ∈ LW := lw_mem (i := 297) (by decide +kernel) rfl
theorem k_ml_RX0_63 : (Cond.methodLink RX0 63 yX0_fragmentOf) ∈ LW := lw_mem (i := 298) (by decide +kernel) rfl
theorem k_im_yX0_fragmentOf : (Cond.instanceMethod yX0_fragmentOf) ∈ LW := lw_mem (i := 299) (by decide +kernel) rfl
theorem k_se_yX0_fragmentOf : (Cond.selects RX0 yX0_fragmentOf yX0_fragmentOf) ∈ LW := lw_mem (i := 300) (by decide +kernel) rfl
theorem k_co_yX0_fragmentOf : (Cond.code yX0_fragmentOf cX0_fragmentOf 4 (some .int)) ∈ LW := lw_mem (i := 301) (by decide +kernel) rfl
theorem k_ml_RX0_86 : (Cond.methodLink RX0 86 yX0_startOf) ∈ LW := lw_mem (i := 302) (by decide +kernel) rfl
theorem k_im_yX0_startOf : (Cond.instanceMethod yX0_startOf) ∈ LW := lw_mem (i := 303) (by decide +kernel) rfl
theorem k_se_yX0_startOf : (Cond.selects RX0 yX0_startOf yX0_startOf) ∈ LW := lw_mem (i := 304) (by decide +kernel) rfl
theorem k_co_yX0_startOf : (Cond.code yX0_startOf cX0_startOf 2 (some .int)) ∈ LW := lw_mem (i := 305) (by decide +kernel) rfl
theorem k_ml_RX0_66 : (Cond.methodLink RX0 66 yX0_writeSetMask) ∈ LW := lw_mem (i := 306) (by decide +kernel) rfl
theorem k_im_yX0_writeSetMask : (Cond.instanceMethod yX0_writeSetMask) ∈ LW := lw_mem (i := 307) (by decide +kernel) rfl
theorem k_se_yX0_writeSetMask : (Cond.selects RX0 yX0_writeSetMask yX0_writeSetMask) ∈ LW := lw_mem (i := 308) (by decide +kernel) rfl
theorem k_co_yX0_writeSetMask : (Cond.code yX0_writeSetMask cX0_writeSetMask 5 (some .int)) ∈ LW := lw_mem (i := 309) (by decide +kernel) rfl
theorem k_ml_RX0_98 : (Cond.methodLink RX0 98 yX0_writeSetNode) ∈ LW := lw_mem (i := 310) (by decide +kernel) rfl
theorem k_im_yX0_writeSetNode : (Cond.instanceMethod yX0_writeSetNode) ∈ LW := lw_mem (i := 311) (by decide +kernel) rfl
theorem k_se_yX0_writeSetNode : (Cond.selects RX0 yX0_writeSetNode yX0_writeSetNode) ∈ LW := lw_mem (i := 312) (by decide +kernel) rfl
theorem k_co_yX0_writeSetNode : (Cond.code yX0_writeSetNode cX0_writeSetNode 4 (some .int)) ∈ LW := lw_mem (i := 313) (by decide +kernel) rfl
theorem k_ml_RX0_92 : (Cond.methodLink RX0 92 yX0_nodeAt) ∈ LW := lw_mem (i := 314) (by decide +kernel) rfl
theorem k_im_yX0_nodeAt : (Cond.instanceMethod yX0_nodeAt) ∈ LW := lw_mem (i := 315) (by decide +kernel) rfl
theorem k_se_yX0_nodeAt : (Cond.selects RX0 yX0_nodeAt yX0_nodeAt) ∈ LW := lw_mem (i := 316) (by decide +kernel) rfl
theorem k_co_yX0_nodeAt : (Cond.code yX0_nodeAt cX0_nodeAt 4 (some .int)) ∈ LW := lw_mem (i := 317) (by decide +kernel) rfl
theorem k_ml_RX0_89 : (Cond.methodLink RX0 89 yX0_placeOf) ∈ LW := lw_mem (i := 318) (by decide +kernel) rfl
theorem k_st_yX0_placeOf : (Cond.static yX0_placeOf) ∈ LW := lw_mem (i := 319) (by decide +kernel) rfl
theorem k_co_yX0_placeOf : (Cond.code yX0_placeOf cX0_placeOf 3 (some .int)) ∈ LW := lw_mem (i := 320) (by decide +kernel) rfl
theorem k_ml_RX0_95 : (Cond.methodLink RX0 95 yX0_maskOf) ∈ LW := lw_mem (i := 321) (by decide +kernel) rfl
theorem k_st_yX0_maskOf : (Cond.static yX0_maskOf) ∈ LW := lw_mem (i := 322) (by decide +kernel) rfl
theorem k_co_yX0_maskOf : (Cond.code yX0_maskOf cX0_maskOf 1 (some .int)) ∈ LW := lw_mem (i := 323) (by decide +kernel) rfl
theorem k_ml_RL_113 : (Cond.methodLink RL 113 yX6_deliver) ∈ LW := lw_mem (i := 914) (by decide +kernel) rfl
theorem k_im_yX6_deliver : (Cond.instanceMethod yX6_deliver) ∈ LW := lw_mem (i := 915) (by decide +kernel) rfl
theorem k_se_yX6_deliver : (Cond.selects RX6 yX6_deliver yX6_deliver) ∈ LW := lw_mem (i := 916) (by decide +kernel) rfl
theorem k_co_yX6_deliver : (Cond.code yX6_deliver cX6_deliver 2 (some .int)) ∈ LW := lw_mem (i := 917) (by decide +kernel) rfl
theorem k_ml_RX6_88 : (Cond.methodLink RX6 88 yX6_process) ∈ LW := lw_mem (i := 918) (by decide +kernel) rfl
theorem k_im_yX6_process : (Cond.instanceMethod yX6_process) ∈ LW := lw_mem (i := 920) (by decide +kernel) rfl
theorem k_se_yX6_process : (Cond.selects RX6 yX6_process yX6_process) ∈ LW := lw_mem (i := 14) (by decide +kernel) rfl
theorem k_co_yX6_process : (Cond.code yX6_process cX6_process 5 (some .int)) ∈ LW := lw_mem (i := 921) (by decide +kernel) rfl
theorem k_ml_RX6_77 : (Cond.methodLink RX6 77 yX6_store) ∈ LW := lw_mem (i := 922) (by decide +kernel) rfl
theorem k_im_yX6_store : (Cond.instanceMethod yX6_store) ∈ LW := lw_mem (i := 924) (by decide +kernel) rfl
theorem k_se_yX6_store : (Cond.selects RX6 yX6_store yX6_store) ∈ LW := lw_mem (i := 15) (by decide +kernel) rfl
theorem k_co_yX6_store : (Cond.code yX6_store cX6_store 6 none) ∈ LW := lw_mem (i := 925) (by decide +kernel) rfl
theorem k_ml_RX6_27 : (Cond.methodLink RX6 27 yX6_storedAt) ∈ LW := lw_mem (i := 926) (by decide +kernel) rfl
theorem k_st_yX6_storedAt : (Cond.static yX6_storedAt) ∈ LW := lw_mem (i := 927) (by decide +kernel) rfl
theorem k_co_yX6_storedAt : (Cond.code yX6_storedAt cX6_storedAt 3 (some .int)) ∈ LW := lw_mem (i := 928) (by decide +kernel) rfl
theorem k_ml_RX6_31 : (Cond.methodLink RX6 31 yX6_of) ∈ LW := lw_mem (i := 929) (by decide +kernel) rfl
theorem k_im_yX6_of : (Cond.instanceMethod yX6_of) ∈ LW := lw_mem (i := 931) (by decide +kernel) rfl
theorem k_se_yX6_of : (Cond.selects RX6 yX6_of yX6_of) ∈ LW := lw_mem (i := 16) (by decide +kernel) rfl
theorem k_co_yX6_of : (Cond.code yX6_of cX6_of 3 (some .int)) ∈ LW := lw_mem (i := 932) (by decide +kernel) rfl
theorem k_ml_RX6_81 : (Cond.methodLink RX6 81 yX6_isWriter) ∈ LW := lw_mem (i := 933) (by decide +kernel) rfl
theorem k_im_yX6_isWriter : (Cond.instanceMethod yX6_isWriter) ∈ LW := lw_mem (i := 935) (by decide +kernel) rfl
theorem k_se_yX6_isWriter : (Cond.selects RX6 yX6_isWriter yX6_isWriter) ∈ LW := lw_mem (i := 17) (by decide +kernel) rfl
theorem k_co_yX6_isWriter : (Cond.code yX6_isWriter cX6_isWriter 6 (some .boolean)) ∈ LW := lw_mem (i := 936) (by decide +kernel) rfl
theorem k_ml_RX6_38 : (Cond.methodLink RX6 38 yX6_fragmentOf) ∈ LW := lw_mem (i := 937) (by decide +kernel) rfl
theorem k_im_yX6_fragmentOf : (Cond.instanceMethod yX6_fragmentOf) ∈ LW := lw_mem (i := 939) (by decide +kernel) rfl
theorem k_se_yX6_fragmentOf : (Cond.selects RX6 yX6_fragmentOf yX6_fragmentOf) ∈ LW := lw_mem (i := 18) (by decide +kernel) rfl
theorem k_co_yX6_fragmentOf : (Cond.code yX6_fragmentOf cX6_fragmentOf 4 (some .int)) ∈ LW := lw_mem (i := 940) (by decide +kernel) rfl
theorem k_ml_RX6_41 : (Cond.methodLink RX6 41 yX6_writer) ∈ LW := lw_mem (i := 941) (by decide +kernel) rfl
theorem k_im_yX6_writer : (Cond.instanceMethod yX6_writer) ∈ LW := lw_mem (i := 943) (by decide +kernel) rfl
theorem k_se_yX6_writer : (Cond.selects RX6 yX6_writer yX6_writer) ∈ LW := lw_mem (i := 19) (by decide +kernel) rfl
theorem k_co_yX6_writer : (Cond.code yX6_writer cX6_writer 5 (some .int)) ∈ LW := lw_mem (i := 944) (by decide +kernel) rfl
theorem k_ml_RX6_35 : (Cond.methodLink RX6 35 yX6_memberOf) ∈ LW := lw_mem (i := 945) (by decide +kernel) rfl
theorem k_im_yX6_memberOf : (Cond.instanceMethod yX6_memberOf) ∈ LW := lw_mem (i := 947) (by decide +kernel) rfl
theorem k_se_yX6_memberOf : (Cond.selects RX6 yX6_memberOf yX6_memberOf) ∈ LW := lw_mem (i := 20) (by decide +kernel) rfl
theorem k_co_yX6_memberOf : (Cond.code yX6_memberOf cX6_memberOf 4 (some .int)) ∈ LW := lw_mem (i := 948) (by decide +kernel) rfl
theorem k_ml_RX6_84 : (Cond.methodLink RX6 84 yX6_set) ∈ LW := lw_mem (i := 949) (by decide +kernel) rfl
theorem k_im_yX6_set : (Cond.instanceMethod yX6_set) ∈ LW := lw_mem (i := 951) (by decide +kernel) rfl
theorem k_se_yX6_set : (Cond.selects RX6 yX6_set yX6_set) ∈ LW := lw_mem (i := 21) (by decide +kernel) rfl
theorem k_co_yX6_set : (Cond.code yX6_set cX6_set 4 none) ∈ LW := lw_mem (i := 952) (by decide +kernel) rfl
theorem k_ml_RL_114 : (Cond.methodLink RL 114 yX5_deliverAll) ∈ LW := lw_mem (i := 215) (by decide +kernel) rfl
theorem k_im_yX5_deliverAll : (Cond.instanceMethod yX5_deliverAll) ∈ LW := lw_mem (i := 216) (by decide +kernel) rfl
theorem k_se_yX5_deliverAll : (Cond.selects RX5 yX5_deliverAll yX5_deliverAll) ∈ LW := lw_mem (i := 217) (by decide +kernel) rfl
theorem k_co_yX5_deliverAll : (Cond.code yX5_deliverAll cX5_deliverAll 4 (some .int)) ∈ LW := lw_mem (i := 218) (by decide +kernel) rfl
theorem k_ml_RX5_68 : (Cond.methodLink RX5 68 yX3_anyRequestWaits) ∈ LW := lw_mem (i := 255) (by decide +kernel) rfl
theorem k_im_yX3_anyRequestWaits : (Cond.instanceMethod yX3_anyRequestWaits) ∈ LW := lw_mem (i := 256) (by decide +kernel) rfl
theorem k_se_yX3_anyRequestWaits : (Cond.selects RX3 yX3_anyRequestWaits yX3_anyRequestWaits) ∈ LW := lw_mem (i := 257) (by decide +kernel) rfl
theorem k_co_yX3_anyRequestWaits : (Cond.code yX3_anyRequestWaits cX3_anyRequestWaits 3 (some .boolean)) ∈ LW := lw_mem (i := 258) (by decide +kernel) rfl
theorem k_fl_RX3_108 : (Cond.fieldLink RX3 108 "LedgerStore$Node" "waiting" "I") ∈ LW := lw_mem (i := 96) (by decide +kernel) rfl
theorem k_ml_RX5_72 : (Cond.methodLink RX5 72 yX3_isUp) ∈ LW := lw_mem (i := 259) (by decide +kernel) rfl
theorem k_im_yX3_isUp : (Cond.instanceMethod yX3_isUp) ∈ LW := lw_mem (i := 260) (by decide +kernel) rfl
theorem k_se_yX3_isUp : (Cond.selects RX3 yX3_isUp yX3_isUp) ∈ LW := lw_mem (i := 261) (by decide +kernel) rfl
theorem k_co_yX3_isUp : (Cond.code yX3_isUp cX3_isUp 3 (some .boolean)) ∈ LW := lw_mem (i := 262) (by decide +kernel) rfl
theorem k_fl_RX3_68 : (Cond.fieldLink RX3 68 "LedgerStore$Node" "up" "Z") ∈ LW := lw_mem (i := 89) (by decide +kernel) rfl
theorem k_ml_RL_117 : (Cond.methodLink RL 117 yX6_deliverAll) ∈ LW := lw_mem (i := 953) (by decide +kernel) rfl
theorem k_im_yX6_deliverAll : (Cond.instanceMethod yX6_deliverAll) ∈ LW := lw_mem (i := 954) (by decide +kernel) rfl
theorem k_se_yX6_deliverAll : (Cond.selects RX6 yX6_deliverAll yX6_deliverAll) ∈ LW := lw_mem (i := 955) (by decide +kernel) rfl
theorem k_co_yX6_deliverAll : (Cond.code yX6_deliverAll cX6_deliverAll 4 (some .int)) ∈ LW := lw_mem (i := 956) (by decide +kernel) rfl
theorem k_ml_RL_118 : (Cond.methodLink RL 118 yL_inboxLength) ∈ LW := lw_mem (i := 552) (by decide +kernel) rfl
theorem k_st_yL_inboxLength : (Cond.static yL_inboxLength) ∈ LW := lw_mem (i := 553) (by decide +kernel) rfl
theorem k_cw_yL_inboxLength : (Cond.codeWith yL_inboxLength cL_inboxLength 4 (some .int) [(0, 9, 12, 19)]) ∈ LW := lw_mem (i := 554) (by decide +kernel) rfl
theorem k_ml_RL_27 : (Cond.methodLink RL 27 yX5_inboxLength) ∈ LW := lw_mem (i := 555) (by decide +kernel) rfl
theorem k_im_yX5_inboxLength : (Cond.instanceMethod yX5_inboxLength) ∈ LW := lw_mem (i := 556) (by decide +kernel) rfl
theorem k_se_yX5_inboxLength : (Cond.selects RX5 yX5_inboxLength yX5_inboxLength) ∈ LW := lw_mem (i := 557) (by decide +kernel) rfl
theorem k_co_yX5_inboxLength : (Cond.code yX5_inboxLength cX5_inboxLength 2 (some .int)) ∈ LW := lw_mem (i := 558) (by decide +kernel) rfl
theorem k_ml_RL_120 : (Cond.methodLink RL 120 yX6_inboxLength) ∈ LW := lw_mem (i := 957) (by decide +kernel) rfl
theorem k_im_yX6_inboxLength : (Cond.instanceMethod yX6_inboxLength) ∈ LW := lw_mem (i := 958) (by decide +kernel) rfl
theorem k_se_yX6_inboxLength : (Cond.selects RX6 yX6_inboxLength yX6_inboxLength) ∈ LW := lw_mem (i := 959) (by decide +kernel) rfl
theorem k_co_yX6_inboxLength : (Cond.code yX6_inboxLength cX6_inboxLength 2 (some .int)) ∈ LW := lw_mem (i := 960) (by decide +kernel) rfl
theorem k_ml_RL_121 : (Cond.methodLink RL 121 yL_weight) ∈ LW := lw_mem (i := 559) (by decide +kernel) rfl
theorem k_st_yL_weight : (Cond.static yL_weight) ∈ LW := lw_mem (i := 560) (by decide +kernel) rfl
theorem k_cw_yL_weight : (Cond.codeWith yL_weight cL_weight 4 (some .int) [(0, 9, 12, 19)]) ∈ LW := lw_mem (i := 561) (by decide +kernel) rfl
theorem k_ml_RL_30 : (Cond.methodLink RL 30 yX5_weight) ∈ LW := lw_mem (i := 562) (by decide +kernel) rfl
theorem k_im_yX5_weight : (Cond.instanceMethod yX5_weight) ∈ LW := lw_mem (i := 563) (by decide +kernel) rfl
theorem k_se_yX5_weight : (Cond.selects RX5 yX5_weight yX5_weight) ∈ LW := lw_mem (i := 564) (by decide +kernel) rfl
theorem k_co_yX5_weight : (Cond.code yX5_weight cX5_weight 2 (some .int)) ∈ LW := lw_mem (i := 565) (by decide +kernel) rfl
theorem k_ml_RL_123 : (Cond.methodLink RL 123 yX6_weight) ∈ LW := lw_mem (i := 961) (by decide +kernel) rfl
theorem k_im_yX6_weight : (Cond.instanceMethod yX6_weight) ∈ LW := lw_mem (i := 962) (by decide +kernel) rfl
theorem k_se_yX6_weight : (Cond.selects RX6 yX6_weight yX6_weight) ∈ LW := lw_mem (i := 963) (by decide +kernel) rfl
theorem k_co_yX6_weight : (Cond.code yX6_weight cX6_weight 2 (some .int)) ∈ LW := lw_mem (i := 964) (by decide +kernel) rfl
theorem k_ml_RL_124 : (Cond.methodLink RL 124 yL_share) ∈ LW := lw_mem (i := 566) (by decide +kernel) rfl
theorem k_st_yL_share : (Cond.static yL_share) ∈ LW := lw_mem (i := 567) (by decide +kernel) rfl
theorem k_cw_yL_share : (Cond.codeWith yL_share cL_share 4 (some .int) [(0, 9, 12, 19)]) ∈ LW := lw_mem (i := 568) (by decide +kernel) rfl
theorem k_ml_RL_33 : (Cond.methodLink RL 33 yX5_share) ∈ LW := lw_mem (i := 569) (by decide +kernel) rfl
theorem k_im_yX5_share : (Cond.instanceMethod yX5_share) ∈ LW := lw_mem (i := 570) (by decide +kernel) rfl
theorem k_se_yX5_share : (Cond.selects RX5 yX5_share yX5_share) ∈ LW := lw_mem (i := 571) (by decide +kernel) rfl
theorem k_co_yX5_share : (Cond.code yX5_share cX5_share 2 (some .float)) ∈ LW := lw_mem (i := 572) (by decide +kernel) rfl
theorem k_ml_RX5_76 : (Cond.methodLink RX5 76 yX5_shareOf) ∈ LW := lw_mem (i := 340) (by decide +kernel) rfl
theorem k_im_yX5_shareOf : (Cond.instanceMethod yX5_shareOf) ∈ LW := lw_mem (i := 342) (by decide +kernel) rfl
theorem k_se_yX5_shareOf : (Cond.selects RX5 yX5_shareOf yX5_shareOf) ∈ LW := lw_mem (i := 1) (by decide +kernel) rfl
theorem k_co_yX5_shareOf : (Cond.code yX5_shareOf cX5_shareOf 3 (some .float)) ∈ LW := lw_mem (i := 343) (by decide +kernel) rfl
theorem k_ml_RX5_261 : (Cond.methodLink RX5 261 yX3_totalWeight) ∈ LW := lw_mem (i := 344) (by decide +kernel) rfl
theorem k_im_yX3_totalWeight : (Cond.instanceMethod yX3_totalWeight) ∈ LW := lw_mem (i := 345) (by decide +kernel) rfl
theorem k_se_yX3_totalWeight : (Cond.selects RX3 yX3_totalWeight yX3_totalWeight) ∈ LW := lw_mem (i := 346) (by decide +kernel) rfl
theorem k_co_yX3_totalWeight : (Cond.code yX3_totalWeight cX3_totalWeight 4 (some .int)) ∈ LW := lw_mem (i := 347) (by decide +kernel) rfl
theorem k_fl_RX3_76 : (Cond.fieldLink RX3 76 "LedgerStore$Node" "storedCount" "I") ∈ LW := lw_mem (i := 93) (by decide +kernel) rfl
theorem k_ml_RL_127 : (Cond.methodLink RL 127 yX6_share) ∈ LW := lw_mem (i := 965) (by decide +kernel) rfl
theorem k_im_yX6_share : (Cond.instanceMethod yX6_share) ∈ LW := lw_mem (i := 966) (by decide +kernel) rfl
theorem k_se_yX6_share : (Cond.selects RX6 yX6_share yX6_share) ∈ LW := lw_mem (i := 967) (by decide +kernel) rfl
theorem k_co_yX6_share : (Cond.code yX6_share cX6_share 2 (some .float)) ∈ LW := lw_mem (i := 968) (by decide +kernel) rfl
theorem k_ml_RX6_91 : (Cond.methodLink RX6 91 yX6_shareOf) ∈ LW := lw_mem (i := 969) (by decide +kernel) rfl
theorem k_im_yX6_shareOf : (Cond.instanceMethod yX6_shareOf) ∈ LW := lw_mem (i := 971) (by decide +kernel) rfl
theorem k_se_yX6_shareOf : (Cond.selects RX6 yX6_shareOf yX6_shareOf) ∈ LW := lw_mem (i := 22) (by decide +kernel) rfl
theorem k_co_yX6_shareOf : (Cond.code yX6_shareOf cX6_shareOf 4 (some .float)) ∈ LW := lw_mem (i := 972) (by decide +kernel) rfl
theorem k_ml_RL_128 : (Cond.methodLink RL 128 yL_isFenced) ∈ LW := lw_mem (i := 573) (by decide +kernel) rfl
theorem k_st_yL_isFenced : (Cond.static yL_isFenced) ∈ LW := lw_mem (i := 574) (by decide +kernel) rfl
theorem k_cw_yL_isFenced : (Cond.codeWith yL_isFenced cL_isFenced 5 (some .int) [(0, 17, 20, 19)]) ∈ LW := lw_mem (i := 575) (by decide +kernel) rfl
theorem k_ml_RL_37 : (Cond.methodLink RL 37 yX5_isFenced) ∈ LW := lw_mem (i := 576) (by decide +kernel) rfl
theorem k_im_yX5_isFenced : (Cond.instanceMethod yX5_isFenced) ∈ LW := lw_mem (i := 577) (by decide +kernel) rfl
theorem k_se_yX5_isFenced : (Cond.selects RX5 yX5_isFenced yX5_isFenced) ∈ LW := lw_mem (i := 578) (by decide +kernel) rfl
theorem k_co_yX5_isFenced : (Cond.code yX5_isFenced cX5_isFenced 4 (some .boolean)) ∈ LW := lw_mem (i := 579) (by decide +kernel) rfl
theorem k_ml_RX5_80 : (Cond.methodLink RX5 80 yX5_existingLedger) ∈ LW := lw_mem (i := 580) (by decide +kernel) rfl
theorem k_im_yX5_existingLedger : (Cond.instanceMethod yX5_existingLedger) ∈ LW := lw_mem (i := 582) (by decide +kernel) rfl
theorem k_se_yX5_existingLedger : (Cond.selects RX5 yX5_existingLedger yX5_existingLedger) ∈ LW := lw_mem (i := 7) (by decide +kernel) rfl
theorem k_co_yX5_existingLedger : (Cond.code yX5_existingLedger cX5_existingLedger 3 (some (.object "LedgerStore$Ledger"))) ∈ LW := lw_mem (i := 583) (by decide +kernel) rfl
theorem k_ml_RX5_231 : (Cond.methodLink RX5 231 yX3_ledger) ∈ LW := lw_mem (i := 352) (by decide +kernel) rfl
theorem k_ml_RX5_84 : (Cond.methodLink RX5 84 yX1_isFencedFor) ∈ LW := lw_mem (i := 420) (by decide +kernel) rfl
theorem k_ml_RL_131 : (Cond.methodLink RL 131 yX6_isFenced) ∈ LW := lw_mem (i := 973) (by decide +kernel) rfl
theorem k_im_yX6_isFenced : (Cond.instanceMethod yX6_isFenced) ∈ LW := lw_mem (i := 974) (by decide +kernel) rfl
theorem k_se_yX6_isFenced : (Cond.selects RX6 yX6_isFenced yX6_isFenced) ∈ LW := lw_mem (i := 975) (by decide +kernel) rfl
theorem k_co_yX6_isFenced : (Cond.code yX6_isFenced cX6_isFenced 3 (some .boolean)) ∈ LW := lw_mem (i := 976) (by decide +kernel) rfl
theorem k_ml_RX6_95 : (Cond.methodLink RX6 95 yX6_isLedger) ∈ LW := lw_mem (i := 977) (by decide +kernel) rfl
theorem k_im_yX6_isLedger : (Cond.instanceMethod yX6_isLedger) ∈ LW := lw_mem (i := 979) (by decide +kernel) rfl
theorem k_se_yX6_isLedger : (Cond.selects RX6 yX6_isLedger yX6_isLedger) ∈ LW := lw_mem (i := 23) (by decide +kernel) rfl
theorem k_co_yX6_isLedger : (Cond.code yX6_isLedger cX6_isLedger 2 (some .boolean)) ∈ LW := lw_mem (i := 980) (by decide +kernel) rfl
theorem k_ml_RL_132 : (Cond.methodLink RL 132 yX5_rejections) ∈ LW := lw_mem (i := 325) (by decide +kernel) rfl
theorem k_im_yX5_rejections : (Cond.instanceMethod yX5_rejections) ∈ LW := lw_mem (i := 326) (by decide +kernel) rfl
theorem k_se_yX5_rejections : (Cond.selects RX5 yX5_rejections yX5_rejections) ∈ LW := lw_mem (i := 327) (by decide +kernel) rfl
theorem k_co_yX5_rejections : (Cond.code yX5_rejections cX5_rejections 1 (some .int)) ∈ LW := lw_mem (i := 328) (by decide +kernel) rfl
theorem k_fl_RX5_87 : (Cond.fieldLink RX5 87 "LedgerStore$State" "rejected" "I") ∈ LW := lw_mem (i := 175) (by decide +kernel) rfl
theorem k_ml_RL_135 : (Cond.methodLink RL 135 yX6_rejections) ∈ LW := lw_mem (i := 981) (by decide +kernel) rfl
theorem k_im_yX6_rejections : (Cond.instanceMethod yX6_rejections) ∈ LW := lw_mem (i := 982) (by decide +kernel) rfl
theorem k_se_yX6_rejections : (Cond.selects RX6 yX6_rejections yX6_rejections) ∈ LW := lw_mem (i := 983) (by decide +kernel) rfl
theorem k_co_yX6_rejections : (Cond.code yX6_rejections cX6_rejections 1 (some .int)) ∈ LW := lw_mem (i := 984) (by decide +kernel) rfl
theorem k_ml_RL_136 : (Cond.methodLink RL 136 yL_createLedger) ∈ LW := lw_mem (i := 585) (by decide +kernel) rfl
theorem k_st_yL_createLedger : (Cond.static yL_createLedger) ∈ LW := lw_mem (i := 586) (by decide +kernel) rfl
theorem k_cw_yL_createLedger : (Cond.codeWith yL_createLedger cL_createLedger 6 (some .int) [(0, 12, 15, 19), (0, 12, 19, 13)]) ∈ LW := lw_mem (i := 587) (by decide +kernel) rfl
theorem k_ml_RL_41 : (Cond.methodLink RL 41 yX5_createLedger) ∈ LW := lw_mem (i := 588) (by decide +kernel) rfl
theorem k_im_yX5_createLedger : (Cond.instanceMethod yX5_createLedger) ∈ LW := lw_mem (i := 589) (by decide +kernel) rfl
theorem k_se_yX5_createLedger : (Cond.selects RX5 yX5_createLedger yX5_createLedger) ∈ LW := lw_mem (i := 590) (by decide +kernel) rfl
theorem k_co_yX5_createLedger : (Cond.code yX5_createLedger cX5_createLedger 4 (some .int)) ∈ LW := lw_mem (i := 591) (by decide +kernel) rfl
theorem k_fl_RX5_99 : (Cond.fieldLink RX5 99 "LedgerStore$State" "ledgerCount" "I") ∈ LW := lw_mem (i := 173) (by decide +kernel) rfl
theorem k_ml_RX5_104 : (Cond.methodLink RX5 104 yX3_upMask) ∈ LW := lw_mem (i := 596) (by decide +kernel) rfl
theorem k_im_yX3_upMask : (Cond.instanceMethod yX3_upMask) ∈ LW := lw_mem (i := 380) (by decide +kernel) rfl
theorem k_se_yX3_upMask : (Cond.selects RX3 yX3_upMask yX3_upMask) ∈ LW := lw_mem (i := 381) (by decide +kernel) rfl
theorem k_co_yX3_upMask : (Cond.code yX3_upMask cX3_upMask 3 (some .int)) ∈ LW := lw_mem (i := 382) (by decide +kernel) rfl
theorem k_ml_RX3_72 : (Cond.methodLink RX3 72 yX3_isUp) ∈ LW := lw_mem (i := 383) (by decide +kernel) rfl
theorem k_ml_RX5_107 : (Cond.methodLink RX5 107 yJ6_bitCount_0f7a4) ∈ LW := lw_mem (i := 597) (by decide +kernel) rfl
theorem k_st_yJ6_bitCount_0f7a4 : (Cond.static yJ6_bitCount_0f7a4) ∈ LW := lw_mem (i := 370) (by decide +kernel) rfl
theorem k_in_RJ6 : (Cond.initialized RJ6) ∈ LW := lw_mem (i := 62) (by decide +kernel) rfl
theorem k_co_yJ6_bitCount_0f7a4 : (Cond.code yJ6_bitCount_0f7a4 cJ6_bitCount_0f7a4 1 (some .int)) ∈ LW := lw_mem (i := 371) (by decide +kernel) rfl
theorem k_ct_RJ6_265 : (Cond.constant RJ6 265 (1431655765)) ∈ LW := lw_mem (i := 372) (by decide +kernel) rfl
theorem k_ct_RJ6_266 : (Cond.constant RJ6 266 (858993459)) ∈ LW := lw_mem (i := 373) (by decide +kernel) rfl
theorem k_ct_RJ6_267 : (Cond.constant RJ6 267 (252645135)) ∈ LW := lw_mem (i := 374) (by decide +kernel) rfl
theorem k_ml_RX5_114 : (Cond.methodLink RX5 114 yX3_beginLedger) ∈ LW := lw_mem (i := 599) (by decide +kernel) rfl
theorem k_im_yX3_beginLedger : (Cond.instanceMethod yX3_beginLedger) ∈ LW := lw_mem (i := 600) (by decide +kernel) rfl
theorem k_se_yX3_beginLedger : (Cond.selects RX3 yX3_beginLedger yX3_beginLedger) ∈ LW := lw_mem (i := 601) (by decide +kernel) rfl
theorem k_co_yX3_beginLedger : (Cond.code yX3_beginLedger cX3_beginLedger 7 (some .int)) ∈ LW := lw_mem (i := 602) (by decide +kernel) rfl
theorem k_ml_RX3_55 : (Cond.methodLink RX3 55 yX0_begin) ∈ LW := lw_mem (i := 603) (by decide +kernel) rfl
theorem k_im_yX0_begin : (Cond.instanceMethod yX0_begin) ∈ LW := lw_mem (i := 604) (by decide +kernel) rfl
theorem k_se_yX0_begin : (Cond.selects RX0 yX0_begin yX0_begin) ∈ LW := lw_mem (i := 605) (by decide +kernel) rfl
theorem k_co_yX0_begin : (Cond.code yX0_begin cX0_begin 5 none) ∈ LW := lw_mem (i := 606) (by decide +kernel) rfl
theorem k_ml_RX0_49 : (Cond.methodLink RX0 49 yX0_setNode) ∈ LW := lw_mem (i := 607) (by decide +kernel) rfl
theorem k_im_yX0_setNode : (Cond.instanceMethod yX0_setNode) ∈ LW := lw_mem (i := 608) (by decide +kernel) rfl
theorem k_se_yX0_setNode : (Cond.selects RX0 yX0_setNode yX0_setNode) ∈ LW := lw_mem (i := 609) (by decide +kernel) rfl
theorem k_co_yX0_setNode : (Cond.code yX0_setNode cX0_setNode 5 none) ∈ LW := lw_mem (i := 610) (by decide +kernel) rfl
theorem k_ml_RX3_58 : (Cond.methodLink RX3 58 yX0_ensembleMask) ∈ LW := lw_mem (i := 611) (by decide +kernel) rfl
theorem k_im_yX0_ensembleMask : (Cond.instanceMethod yX0_ensembleMask) ∈ LW := lw_mem (i := 612) (by decide +kernel) rfl
theorem k_se_yX0_ensembleMask : (Cond.selects RX0 yX0_ensembleMask yX0_ensembleMask) ∈ LW := lw_mem (i := 613) (by decide +kernel) rfl
theorem k_co_yX0_ensembleMask : (Cond.code yX0_ensembleMask cX0_ensembleMask 4 (some .int)) ∈ LW := lw_mem (i := 614) (by decide +kernel) rfl
theorem k_ml_RX3_62 : (Cond.methodLink RX3 62 yX3_choose) ∈ LW := lw_mem (i := 615) (by decide +kernel) rfl
theorem k_im_yX3_choose : (Cond.instanceMethod yX3_choose) ∈ LW := lw_mem (i := 616) (by decide +kernel) rfl
theorem k_se_yX3_choose : (Cond.selects RX3 yX3_choose yX3_choose) ∈ LW := lw_mem (i := 617) (by decide +kernel) rfl
theorem k_co_yX3_choose : (Cond.code yX3_choose cX3_choose 6 (some .int)) ∈ LW := lw_mem (i := 618) (by decide +kernel) rfl
theorem k_ml_RX3_65 : (Cond.methodLink RX3 65 yX0_setNode) ∈ LW := lw_mem (i := 620) (by decide +kernel) rfl
theorem k_ml_RL_139 : (Cond.methodLink RL 139 yX6_createLedger) ∈ LW := lw_mem (i := 985) (by decide +kernel) rfl
theorem k_im_yX6_createLedger : (Cond.instanceMethod yX6_createLedger) ∈ LW := lw_mem (i := 986) (by decide +kernel) rfl
theorem k_se_yX6_createLedger : (Cond.selects RX6 yX6_createLedger yX6_createLedger) ∈ LW := lw_mem (i := 987) (by decide +kernel) rfl
theorem k_co_yX6_createLedger : (Cond.code yX6_createLedger cX6_createLedger 9 (some .int)) ∈ LW := lw_mem (i := 988) (by decide +kernel) rfl
theorem k_ml_RX6_98 : (Cond.methodLink RX6 98 yX6_ups) ∈ LW := lw_mem (i := 989) (by decide +kernel) rfl
theorem k_im_yX6_ups : (Cond.instanceMethod yX6_ups) ∈ LW := lw_mem (i := 991) (by decide +kernel) rfl
theorem k_se_yX6_ups : (Cond.selects RX6 yX6_ups yX6_ups) ∈ LW := lw_mem (i := 24) (by decide +kernel) rfl
theorem k_co_yX6_ups : (Cond.code yX6_ups cX6_ups 3 (some .int)) ∈ LW := lw_mem (i := 992) (by decide +kernel) rfl
theorem k_ml_RX6_102 : (Cond.methodLink RX6 102 yX6_choose) ∈ LW := lw_mem (i := 993) (by decide +kernel) rfl
theorem k_im_yX6_choose : (Cond.instanceMethod yX6_choose) ∈ LW := lw_mem (i := 995) (by decide +kernel) rfl
theorem k_se_yX6_choose : (Cond.selects RX6 yX6_choose yX6_choose) ∈ LW := lw_mem (i := 25) (by decide +kernel) rfl
theorem k_co_yX6_choose : (Cond.code yX6_choose cX6_choose 5 (some .int)) ∈ LW := lw_mem (i := 996) (by decide +kernel) rfl
theorem k_ml_RX6_49 : (Cond.methodLink RX6 49 yX6_has) ∈ LW := lw_mem (i := 997) (by decide +kernel) rfl
theorem k_st_yX6_has : (Cond.static yX6_has) ∈ LW := lw_mem (i := 998) (by decide +kernel) rfl
theorem k_co_yX6_has : (Cond.code yX6_has cX6_has 2 (some .boolean)) ∈ LW := lw_mem (i := 999) (by decide +kernel) rfl
theorem k_ml_RL_140 : (Cond.methodLink RL 140 yL_append) ∈ LW := lw_mem (i := 621) (by decide +kernel) rfl
theorem k_st_yL_append : (Cond.static yL_append) ∈ LW := lw_mem (i := 622) (by decide +kernel) rfl
theorem k_cw_yL_append : (Cond.codeWith yL_append cL_append 5 (some .int) [(0, 10, 13, 19), (0, 10, 17, 13)]) ∈ LW := lw_mem (i := 623) (by decide +kernel) rfl
theorem k_ml_RL_45 : (Cond.methodLink RL 45 yX5_append) ∈ LW := lw_mem (i := 624) (by decide +kernel) rfl
theorem k_im_yX5_append : (Cond.instanceMethod yX5_append) ∈ LW := lw_mem (i := 625) (by decide +kernel) rfl
theorem k_se_yX5_append : (Cond.selects RX5 yX5_append yX5_append) ∈ LW := lw_mem (i := 626) (by decide +kernel) rfl
theorem k_co_yX5_append : (Cond.code yX5_append cX5_append 4 (some .int)) ∈ LW := lw_mem (i := 627) (by decide +kernel) rfl
theorem k_fl_RX5_120 : (Cond.fieldLink RX5 120 "LedgerStore$Ledger" "phase" "I") ∈ LW := lw_mem (i := 131) (by decide +kernel) rfl
theorem k_fl_RX5_127 : (Cond.fieldLink RX5 127 "LedgerStore$Ledger" "entries" "I") ∈ LW := lw_mem (i := 134) (by decide +kernel) rfl
theorem k_ml_RX5_132 : (Cond.methodLink RX5 132 yX3_write) ∈ LW := lw_mem (i := 631) (by decide +kernel) rfl
theorem k_im_yX3_write : (Cond.instanceMethod yX3_write) ∈ LW := lw_mem (i := 632) (by decide +kernel) rfl
theorem k_se_yX3_write : (Cond.selects RX3 yX3_write yX3_write) ∈ LW := lw_mem (i := 633) (by decide +kernel) rfl
theorem k_co_yX3_write : (Cond.code yX3_write cX3_write 8 (some .int)) ∈ LW := lw_mem (i := 634) (by decide +kernel) rfl
theorem k_fl_RX3_117 : (Cond.fieldLink RX3 117 "LedgerStore$Ledger" "number" "I") ∈ LW := lw_mem (i := 119) (by decide +kernel) rfl
theorem k_fl_RX3_127 : (Cond.fieldLink RX3 127 "LedgerStore$Ledger" "writeQuorum" "I") ∈ LW := lw_mem (i := 125) (by decide +kernel) rfl
theorem k_ml_RX3_111 : (Cond.methodLink RX3 111 yX0_lastConfirmed) ∈ LW := lw_mem (i := 635) (by decide +kernel) rfl
theorem k_im_yX0_lastConfirmed : (Cond.instanceMethod yX0_lastConfirmed) ∈ LW := lw_mem (i := 362) (by decide +kernel) rfl
theorem k_se_yX0_lastConfirmed : (Cond.selects RX0 yX0_lastConfirmed yX0_lastConfirmed) ∈ LW := lw_mem (i := 363) (by decide +kernel) rfl
theorem k_co_yX0_lastConfirmed : (Cond.code yX0_lastConfirmed cX0_lastConfirmed 2 (some .int)) ∈ LW := lw_mem (i := 364) (by decide +kernel) rfl
theorem k_ml_RX0_79 : (Cond.methodLink RX0 79 yX0_countAcknowledgers) ∈ LW := lw_mem (i := 365) (by decide +kernel) rfl
theorem k_im_yX0_countAcknowledgers : (Cond.instanceMethod yX0_countAcknowledgers) ∈ LW := lw_mem (i := 366) (by decide +kernel) rfl
theorem k_se_yX0_countAcknowledgers : (Cond.selects RX0 yX0_countAcknowledgers yX0_countAcknowledgers) ∈ LW := lw_mem (i := 367) (by decide +kernel) rfl
theorem k_co_yX0_countAcknowledgers : (Cond.code yX0_countAcknowledgers cX0_countAcknowledgers 2 (some .int)) ∈ LW := lw_mem (i := 368) (by decide +kernel) rfl
theorem k_ml_RX0_57 : (Cond.methodLink RX0 57 yJ6_bitCount_0f7a4) ∈ LW := lw_mem (i := 369) (by decide +kernel) rfl
theorem k_ml_RX3_114 : (Cond.methodLink RX3 114 yX0_addEntry) ∈ LW := lw_mem (i := 636) (by decide +kernel) rfl
theorem k_im_yX0_addEntry : (Cond.instanceMethod yX0_addEntry) ∈ LW := lw_mem (i := 637) (by decide +kernel) rfl
theorem k_se_yX0_addEntry : (Cond.selects RX0 yX0_addEntry yX0_addEntry) ∈ LW := lw_mem (i := 638) (by decide +kernel) rfl
theorem k_co_yX0_addEntry : (Cond.code yX0_addEntry cX0_addEntry 3 (some .int)) ∈ LW := lw_mem (i := 639) (by decide +kernel) rfl
theorem k_ml_RX3_120 : (Cond.methodLink RX3 120 yX2_of) ∈ LW := lw_mem (i := 640) (by decide +kernel) rfl
theorem k_st_yX2_of : (Cond.static yX2_of) ∈ LW := lw_mem (i := 641) (by decide +kernel) rfl
theorem k_co_yX2_of : (Cond.code yX2_of cX2_of 4 (some .int)) ∈ LW := lw_mem (i := 642) (by decide +kernel) rfl
theorem k_ml_RX3_124 : (Cond.methodLink RX3 124 yX0_fragmentOf) ∈ LW := lw_mem (i := 386) (by decide +kernel) rfl
theorem k_ml_RX3_130 : (Cond.methodLink RX3 130 yX0_writeSetNode) ∈ LW := lw_mem (i := 643) (by decide +kernel) rfl
theorem k_ml_RX3_134 : (Cond.methodLink RX3 134 yX3_send) ∈ LW := lw_mem (i := 644) (by decide +kernel) rfl
theorem k_im_yX3_send : (Cond.instanceMethod yX3_send) ∈ LW := lw_mem (i := 645) (by decide +kernel) rfl
theorem k_se_yX3_send : (Cond.selects RX3 yX3_send yX3_send) ∈ LW := lw_mem (i := 646) (by decide +kernel) rfl
theorem k_co_yX3_send : (Cond.code yX3_send cX3_send 4 none) ∈ LW := lw_mem (i := 647) (by decide +kernel) rfl
theorem k_ml_RX3_83 : (Cond.methodLink RX3 83 yX1_receive) ∈ LW := lw_mem (i := 648) (by decide +kernel) rfl
theorem k_im_yX1_receive : (Cond.instanceMethod yX1_receive) ∈ LW := lw_mem (i := 649) (by decide +kernel) rfl
theorem k_se_yX1_receive : (Cond.selects RX1 yX1_receive yX1_receive) ∈ LW := lw_mem (i := 650) (by decide +kernel) rfl
theorem k_co_yX1_receive : (Cond.code yX1_receive cX1_receive 2 none) ∈ LW := lw_mem (i := 651) (by decide +kernel) rfl
theorem k_ml_RL_142 : (Cond.methodLink RL 142 yX6_append) ∈ LW := lw_mem (i := 1000) (by decide +kernel) rfl
theorem k_im_yX6_append : (Cond.instanceMethod yX6_append) ∈ LW := lw_mem (i := 1001) (by decide +kernel) rfl
theorem k_se_yX6_append : (Cond.selects RX6 yX6_append yX6_append) ∈ LW := lw_mem (i := 1002) (by decide +kernel) rfl
theorem k_co_yX6_append : (Cond.code yX6_append cX6_append 7 (some .int)) ∈ LW := lw_mem (i := 1003) (by decide +kernel) rfl
theorem k_ml_RX6_60 : (Cond.methodLink RX6 60 yX6_confirmed) ∈ LW := lw_mem (i := 1004) (by decide +kernel) rfl
theorem k_im_yX6_confirmed : (Cond.instanceMethod yX6_confirmed) ∈ LW := lw_mem (i := 1006) (by decide +kernel) rfl
theorem k_se_yX6_confirmed : (Cond.selects RX6 yX6_confirmed yX6_confirmed) ∈ LW := lw_mem (i := 26) (by decide +kernel) rfl
theorem k_co_yX6_confirmed : (Cond.code yX6_confirmed cX6_confirmed 3 (some .int)) ∈ LW := lw_mem (i := 1007) (by decide +kernel) rfl
theorem k_ml_RX6_57 : (Cond.methodLink RX6 57 yX6_count) ∈ LW := lw_mem (i := 1008) (by decide +kernel) rfl
theorem k_st_yX6_count : (Cond.static yX6_count) ∈ LW := lw_mem (i := 1009) (by decide +kernel) rfl
theorem k_co_yX6_count : (Cond.code yX6_count cX6_count 3 (some .int)) ∈ LW := lw_mem (i := 1010) (by decide +kernel) rfl
theorem k_ml_RX6_105 : (Cond.methodLink RX6 105 yX6_send) ∈ LW := lw_mem (i := 1011) (by decide +kernel) rfl
theorem k_im_yX6_send : (Cond.instanceMethod yX6_send) ∈ LW := lw_mem (i := 1013) (by decide +kernel) rfl
theorem k_se_yX6_send : (Cond.selects RX6 yX6_send yX6_send) ∈ LW := lw_mem (i := 27) (by decide +kernel) rfl
theorem k_co_yX6_send : (Cond.code yX6_send cX6_send 6 none) ∈ LW := lw_mem (i := 1014) (by decide +kernel) rfl
theorem k_ml_RL_143 : (Cond.methodLink RL 143 yL_replace) ∈ LW := lw_mem (i := 652) (by decide +kernel) rfl
theorem k_st_yL_replace : (Cond.static yL_replace) ∈ LW := lw_mem (i := 653) (by decide +kernel) rfl
theorem k_cw_yL_replace : (Cond.codeWith yL_replace cL_replace 5 (some .int) [(0, 10, 13, 19), (0, 10, 17, 13)]) ∈ LW := lw_mem (i := 654) (by decide +kernel) rfl
theorem k_ml_RL_49 : (Cond.methodLink RL 49 yX5_replace) ∈ LW := lw_mem (i := 655) (by decide +kernel) rfl
theorem k_im_yX5_replace : (Cond.instanceMethod yX5_replace) ∈ LW := lw_mem (i := 656) (by decide +kernel) rfl
theorem k_se_yX5_replace : (Cond.selects RX5 yX5_replace yX5_replace) ∈ LW := lw_mem (i := 657) (by decide +kernel) rfl
theorem k_co_yX5_replace : (Cond.code yX5_replace cX5_replace 5 (some .int)) ∈ LW := lw_mem (i := 658) (by decide +kernel) rfl
theorem k_fl_RX5_136 : (Cond.fieldLink RX5 136 "LedgerStore$Ledger" "ensembleSize" "I") ∈ LW := lw_mem (i := 122) (by decide +kernel) rfl
theorem k_ml_RX5_141 : (Cond.methodLink RX5 141 yX0_lastFragment) ∈ LW := lw_mem (i := 660) (by decide +kernel) rfl
theorem k_im_yX0_lastFragment : (Cond.instanceMethod yX0_lastFragment) ∈ LW := lw_mem (i := 661) (by decide +kernel) rfl
theorem k_se_yX0_lastFragment : (Cond.selects RX0 yX0_lastFragment yX0_lastFragment) ∈ LW := lw_mem (i := 662) (by decide +kernel) rfl
theorem k_co_yX0_lastFragment : (Cond.code yX0_lastFragment cX0_lastFragment 1 (some .int)) ∈ LW := lw_mem (i := 663) (by decide +kernel) rfl
theorem k_ml_RX5_144 : (Cond.methodLink RX5 144 yX0_ensembleMask) ∈ LW := lw_mem (i := 664) (by decide +kernel) rfl
theorem k_ml_RX5_147 : (Cond.methodLink RX5 147 yX3_choose) ∈ LW := lw_mem (i := 665) (by decide +kernel) rfl
theorem k_ml_RX5_152 : (Cond.methodLink RX5 152 yX3_changeEnsemble) ∈ LW := lw_mem (i := 667) (by decide +kernel) rfl
theorem k_im_yX3_changeEnsemble : (Cond.instanceMethod yX3_changeEnsemble) ∈ LW := lw_mem (i := 668) (by decide +kernel) rfl
theorem k_se_yX3_changeEnsemble : (Cond.selects RX3 yX3_changeEnsemble yX3_changeEnsemble) ∈ LW := lw_mem (i := 669) (by decide +kernel) rfl
theorem k_co_yX3_changeEnsemble : (Cond.code yX3_changeEnsemble cX3_changeEnsemble 8 none) ∈ LW := lw_mem (i := 670) (by decide +kernel) rfl
theorem k_fl_RX3_153 : (Cond.fieldLink RX3 153 "LedgerStore$Ledger" "entries" "I") ∈ LW := lw_mem (i := 135) (by decide +kernel) rfl
theorem k_ml_RX3_137 : (Cond.methodLink RX3 137 yX0_lastFragment) ∈ LW := lw_mem (i := 671) (by decide +kernel) rfl
theorem k_ml_RX3_140 : (Cond.methodLink RX3 140 yX0_nodeAt) ∈ LW := lw_mem (i := 672) (by decide +kernel) rfl
theorem k_ml_RX3_144 : (Cond.methodLink RX3 144 yX0_startOf) ∈ LW := lw_mem (i := 673) (by decide +kernel) rfl
theorem k_ml_RX3_147 : (Cond.methodLink RX3 147 yX0_addFragment) ∈ LW := lw_mem (i := 674) (by decide +kernel) rfl
theorem k_im_yX0_addFragment : (Cond.instanceMethod yX0_addFragment) ∈ LW := lw_mem (i := 675) (by decide +kernel) rfl
theorem k_se_yX0_addFragment : (Cond.selects RX0 yX0_addFragment yX0_addFragment) ∈ LW := lw_mem (i := 676) (by decide +kernel) rfl
theorem k_co_yX0_addFragment : (Cond.code yX0_addFragment cX0_addFragment 4 none) ∈ LW := lw_mem (i := 677) (by decide +kernel) rfl
theorem k_ml_RX3_150 : (Cond.methodLink RX3 150 yX0_forgetAcknowledgements) ∈ LW := lw_mem (i := 678) (by decide +kernel) rfl
theorem k_im_yX0_forgetAcknowledgements : (Cond.instanceMethod yX0_forgetAcknowledgements) ∈ LW := lw_mem (i := 679) (by decide +kernel) rfl
theorem k_se_yX0_forgetAcknowledgements : (Cond.selects RX0 yX0_forgetAcknowledgements yX0_forgetAcknowledgements) ∈ LW := lw_mem (i := 680) (by decide +kernel) rfl
theorem k_co_yX0_forgetAcknowledgements : (Cond.code yX0_forgetAcknowledgements cX0_forgetAcknowledgements 4 none) ∈ LW := lw_mem (i := 681) (by decide +kernel) rfl
theorem k_ml_RX0_74 : (Cond.methodLink RX0 74 Lib.Math.max.name) ∈ LW := lw_mem (i := 682) (by decide +kernel) rfl
theorem k_st_Lib_Math_max_name : (Cond.static Lib.Math.max.name) ∈ LW := lw_mem (i := 683) (by decide +kernel) rfl
theorem k_co_Lib_Math_max_name : (Cond.code Lib.Math.max.name Lib.Math.max.code 2 (some .int)) ∈ LW := lw_mem (i := 684) (by decide +kernel) rfl
theorem k_ml_RX3_156 : (Cond.methodLink RX3 156 yX0_writeSetMask) ∈ LW := lw_mem (i := 387) (by decide +kernel) rfl
theorem k_ml_RX3_159 : (Cond.methodLink RX3 159 yX0_payloadOf) ∈ LW := lw_mem (i := 685) (by decide +kernel) rfl
theorem k_im_yX0_payloadOf : (Cond.instanceMethod yX0_payloadOf) ∈ LW := lw_mem (i := 411) (by decide +kernel) rfl
theorem k_se_yX0_payloadOf : (Cond.selects RX0 yX0_payloadOf yX0_payloadOf) ∈ LW := lw_mem (i := 412) (by decide +kernel) rfl
theorem k_co_yX0_payloadOf : (Cond.code yX0_payloadOf cX0_payloadOf 2 (some .int)) ∈ LW := lw_mem (i := 413) (by decide +kernel) rfl
theorem k_ml_RL_145 : (Cond.methodLink RL 145 yX6_replace) ∈ LW := lw_mem (i := 1015) (by decide +kernel) rfl
theorem k_im_yX6_replace : (Cond.instanceMethod yX6_replace) ∈ LW := lw_mem (i := 1016) (by decide +kernel) rfl
theorem k_se_yX6_replace : (Cond.selects RX6 yX6_replace yX6_replace) ∈ LW := lw_mem (i := 1017) (by decide +kernel) rfl
theorem k_co_yX6_replace : (Cond.code yX6_replace cX6_replace 10 (some .int)) ∈ LW := lw_mem (i := 1018) (by decide +kernel) rfl
theorem k_ml_RX6_109 : (Cond.methodLink RX6 109 yX6_ensemble) ∈ LW := lw_mem (i := 1019) (by decide +kernel) rfl
theorem k_im_yX6_ensemble : (Cond.instanceMethod yX6_ensemble) ∈ LW := lw_mem (i := 1021) (by decide +kernel) rfl
theorem k_se_yX6_ensemble : (Cond.selects RX6 yX6_ensemble yX6_ensemble) ∈ LW := lw_mem (i := 28) (by decide +kernel) rfl
theorem k_co_yX6_ensemble : (Cond.code yX6_ensemble cX6_ensemble 5 (some .int)) ∈ LW := lw_mem (i := 1022) (by decide +kernel) rfl
theorem k_ml_RL_146 : (Cond.methodLink RL 146 yL_recover) ∈ LW := lw_mem (i := 686) (by decide +kernel) rfl
theorem k_st_yL_recover : (Cond.static yL_recover) ∈ LW := lw_mem (i := 687) (by decide +kernel) rfl
theorem k_cw_yL_recover : (Cond.codeWith yL_recover cL_recover 4 (some .int) [(0, 9, 12, 19), (0, 9, 15, 13)]) ∈ LW := lw_mem (i := 688) (by decide +kernel) rfl
theorem k_ml_RL_52 : (Cond.methodLink RL 52 yX5_recover) ∈ LW := lw_mem (i := 689) (by decide +kernel) rfl
theorem k_im_yX5_recover : (Cond.instanceMethod yX5_recover) ∈ LW := lw_mem (i := 690) (by decide +kernel) rfl
theorem k_se_yX5_recover : (Cond.selects RX5 yX5_recover yX5_recover) ∈ LW := lw_mem (i := 691) (by decide +kernel) rfl
theorem k_co_yX5_recover : (Cond.code yX5_recover cX5_recover 3 (some .int)) ∈ LW := lw_mem (i := 692) (by decide +kernel) rfl
theorem k_ml_RX5_158 : (Cond.methodLink RX5 158 yX3_recoverLedger) ∈ LW := lw_mem (i := 694) (by decide +kernel) rfl
theorem k_im_yX3_recoverLedger : (Cond.instanceMethod yX3_recoverLedger) ∈ LW := lw_mem (i := 695) (by decide +kernel) rfl
theorem k_se_yX3_recoverLedger : (Cond.selects RX3 yX3_recoverLedger yX3_recoverLedger) ∈ LW := lw_mem (i := 696) (by decide +kernel) rfl
theorem k_co_yX3_recoverLedger : (Cond.code yX3_recoverLedger cX3_recoverLedger 3 (some .int)) ∈ LW := lw_mem (i := 697) (by decide +kernel) rfl
theorem k_fl_RX3_162 : (Cond.fieldLink RX3 162 "LedgerStore$Ledger" "phase" "I") ∈ LW := lw_mem (i := 132) (by decide +kernel) rfl
theorem k_fl_RX3_180 : (Cond.fieldLink RX3 180 "LedgerStore$Ledger" "lastEntry" "I") ∈ LW := lw_mem (i := 137) (by decide +kernel) rfl
theorem k_ml_RX3_165 : (Cond.methodLink RX3 165 yX3_fenceLastEnsemble) ∈ LW := lw_mem (i := 698) (by decide +kernel) rfl
theorem k_im_yX3_fenceLastEnsemble : (Cond.instanceMethod yX3_fenceLastEnsemble) ∈ LW := lw_mem (i := 699) (by decide +kernel) rfl
theorem k_se_yX3_fenceLastEnsemble : (Cond.selects RX3 yX3_fenceLastEnsemble yX3_fenceLastEnsemble) ∈ LW := lw_mem (i := 700) (by decide +kernel) rfl
theorem k_co_yX3_fenceLastEnsemble : (Cond.code yX3_fenceLastEnsemble cX3_fenceLastEnsemble 4 none) ∈ LW := lw_mem (i := 701) (by decide +kernel) rfl
theorem k_fl_RX3_183 : (Cond.fieldLink RX3 183 "LedgerStore$Ledger" "ensembleSize" "I") ∈ LW := lw_mem (i := 123) (by decide +kernel) rfl
theorem k_ml_RX3_186 : (Cond.methodLink RX3 186 yX1_fenceFor) ∈ LW := lw_mem (i := 702) (by decide +kernel) rfl
theorem k_im_yX1_fenceFor : (Cond.instanceMethod yX1_fenceFor) ∈ LW := lw_mem (i := 703) (by decide +kernel) rfl
theorem k_se_yX1_fenceFor : (Cond.selects RX1 yX1_fenceFor yX1_fenceFor) ∈ LW := lw_mem (i := 704) (by decide +kernel) rfl
theorem k_co_yX1_fenceFor : (Cond.code yX1_fenceFor cX1_fenceFor 2 none) ∈ LW := lw_mem (i := 705) (by decide +kernel) rfl
theorem k_ml_RX3_168 : (Cond.methodLink RX3 168 yX3_someQuorumIsDown) ∈ LW := lw_mem (i := 706) (by decide +kernel) rfl
theorem k_im_yX3_someQuorumIsDown : (Cond.instanceMethod yX3_someQuorumIsDown) ∈ LW := lw_mem (i := 707) (by decide +kernel) rfl
theorem k_se_yX3_someQuorumIsDown : (Cond.selects RX3 yX3_someQuorumIsDown yX3_someQuorumIsDown) ∈ LW := lw_mem (i := 708) (by decide +kernel) rfl
theorem k_co_yX3_someQuorumIsDown : (Cond.code yX3_someQuorumIsDown cX3_someQuorumIsDown 5 (some .boolean)) ∈ LW := lw_mem (i := 709) (by decide +kernel) rfl
theorem k_fl_RX3_197 : (Cond.fieldLink RX3 197 "LedgerStore$Ledger" "ackQuorum" "I") ∈ LW := lw_mem (i := 128) (by decide +kernel) rfl
theorem k_ml_RX3_189 : (Cond.methodLink RX3 189 yX3_upMask) ∈ LW := lw_mem (i := 379) (by decide +kernel) rfl
theorem k_ml_RX3_192 : (Cond.methodLink RX3 192 yJ6_bitCount_0f7a4) ∈ LW := lw_mem (i := 400) (by decide +kernel) rfl
theorem k_ml_RX3_172 : (Cond.methodLink RX3 172 yX3_lastKnownConfirmed) ∈ LW := lw_mem (i := 710) (by decide +kernel) rfl
theorem k_im_yX3_lastKnownConfirmed : (Cond.instanceMethod yX3_lastKnownConfirmed) ∈ LW := lw_mem (i := 711) (by decide +kernel) rfl
theorem k_se_yX3_lastKnownConfirmed : (Cond.selects RX3 yX3_lastKnownConfirmed yX3_lastKnownConfirmed) ∈ LW := lw_mem (i := 712) (by decide +kernel) rfl
theorem k_co_yX3_lastKnownConfirmed : (Cond.code yX3_lastKnownConfirmed cX3_lastKnownConfirmed 5 (some .int)) ∈ LW := lw_mem (i := 713) (by decide +kernel) rfl
theorem k_ml_RX3_203 : (Cond.methodLink RX3 203 Lib.Math.max.name) ∈ LW := lw_mem (i := 722) (by decide +kernel) rfl
theorem k_ml_RX3_200 : (Cond.methodLink RX3 200 yX1_greatestConfirmed) ∈ LW := lw_mem (i := 714) (by decide +kernel) rfl
theorem k_im_yX1_greatestConfirmed : (Cond.instanceMethod yX1_greatestConfirmed) ∈ LW := lw_mem (i := 715) (by decide +kernel) rfl
theorem k_se_yX1_greatestConfirmed : (Cond.selects RX1 yX1_greatestConfirmed yX1_greatestConfirmed) ∈ LW := lw_mem (i := 716) (by decide +kernel) rfl
theorem k_co_yX1_greatestConfirmed : (Cond.code yX1_greatestConfirmed cX1_greatestConfirmed 5 (some .int)) ∈ LW := lw_mem (i := 717) (by decide +kernel) rfl
theorem k_ml_RX1_71 : (Cond.methodLink RX1 71 Lib.Math.max.name) ∈ LW := lw_mem (i := 721) (by decide +kernel) rfl
theorem k_ml_RX1_65 : (Cond.methodLink RX1 65 yX1_storedParcel) ∈ LW := lw_mem (i := 396) (by decide +kernel) rfl
theorem k_im_yX1_storedParcel : (Cond.instanceMethod yX1_storedParcel) ∈ LW := lw_mem (i := 397) (by decide +kernel) rfl
theorem k_se_yX1_storedParcel : (Cond.selects RX1 yX1_storedParcel yX1_storedParcel) ∈ LW := lw_mem (i := 398) (by decide +kernel) rfl
theorem k_co_yX1_storedParcel : (Cond.code yX1_storedParcel cX1_storedParcel 4 (some .int)) ∈ LW := lw_mem (i := 399) (by decide +kernel) rfl
theorem k_ml_RX1_68 : (Cond.methodLink RX1 68 yX2_confirmedOf) ∈ LW := lw_mem (i := 718) (by decide +kernel) rfl
theorem k_st_yX2_confirmedOf : (Cond.static yX2_confirmedOf) ∈ LW := lw_mem (i := 719) (by decide +kernel) rfl
theorem k_co_yX2_confirmedOf : (Cond.code yX2_confirmedOf cX2_confirmedOf 1 (some .int)) ∈ LW := lw_mem (i := 720) (by decide +kernel) rfl
theorem k_ml_RX3_176 : (Cond.methodLink RX3 176 yX3_recoverEntry) ∈ LW := lw_mem (i := 723) (by decide +kernel) rfl
theorem k_im_yX3_recoverEntry : (Cond.instanceMethod yX3_recoverEntry) ∈ LW := lw_mem (i := 724) (by decide +kernel) rfl
theorem k_se_yX3_recoverEntry : (Cond.selects RX3 yX3_recoverEntry yX3_recoverEntry) ∈ LW := lw_mem (i := 725) (by decide +kernel) rfl
theorem k_co_yX3_recoverEntry : (Cond.code yX3_recoverEntry cX3_recoverEntry 4 (some .boolean)) ∈ LW := lw_mem (i := 726) (by decide +kernel) rfl
theorem k_ml_RX3_208 : (Cond.methodLink RX3 208 yX3_firstCopy) ∈ LW := lw_mem (i := 727) (by decide +kernel) rfl
theorem k_im_yX3_firstCopy : (Cond.instanceMethod yX3_firstCopy) ∈ LW := lw_mem (i := 728) (by decide +kernel) rfl
theorem k_se_yX3_firstCopy : (Cond.selects RX3 yX3_firstCopy yX3_firstCopy) ∈ LW := lw_mem (i := 729) (by decide +kernel) rfl
theorem k_co_yX3_firstCopy : (Cond.code yX3_firstCopy cX3_firstCopy 6 (some .int)) ∈ LW := lw_mem (i := 730) (by decide +kernel) rfl
theorem k_ml_RX3_217 : (Cond.methodLink RX3 217 yX1_holds) ∈ LW := lw_mem (i := 392) (by decide +kernel) rfl
theorem k_im_yX1_holds : (Cond.instanceMethod yX1_holds) ∈ LW := lw_mem (i := 393) (by decide +kernel) rfl
theorem k_se_yX1_holds : (Cond.selects RX1 yX1_holds yX1_holds) ∈ LW := lw_mem (i := 394) (by decide +kernel) rfl
theorem k_co_yX1_holds : (Cond.code yX1_holds cX1_holds 3 (some .boolean)) ∈ LW := lw_mem (i := 395) (by decide +kernel) rfl
theorem k_ml_RX3_220 : (Cond.methodLink RX3 220 yX1_storedParcel) ∈ LW := lw_mem (i := 731) (by decide +kernel) rfl
theorem k_ml_RX3_212 : (Cond.methodLink RX3 212 yX2_payloadOf) ∈ LW := lw_mem (i := 732) (by decide +kernel) rfl
theorem k_st_yX2_payloadOf : (Cond.static yX2_payloadOf) ∈ LW := lw_mem (i := 733) (by decide +kernel) rfl
theorem k_co_yX2_payloadOf : (Cond.code yX2_payloadOf cX2_payloadOf 1 (some .int)) ∈ LW := lw_mem (i := 734) (by decide +kernel) rfl
theorem k_ml_RX3_213 : (Cond.methodLink RX3 213 yX3_spread) ∈ LW := lw_mem (i := 735) (by decide +kernel) rfl
theorem k_im_yX3_spread : (Cond.instanceMethod yX3_spread) ∈ LW := lw_mem (i := 736) (by decide +kernel) rfl
theorem k_se_yX3_spread : (Cond.selects RX3 yX3_spread yX3_spread) ∈ LW := lw_mem (i := 737) (by decide +kernel) rfl
theorem k_co_yX3_spread : (Cond.code yX3_spread cX3_spread 8 (some .int)) ∈ LW := lw_mem (i := 738) (by decide +kernel) rfl
theorem k_ml_RL_148 : (Cond.methodLink RL 148 yX6_recover) ∈ LW := lw_mem (i := 1023) (by decide +kernel) rfl
theorem k_im_yX6_recover : (Cond.instanceMethod yX6_recover) ∈ LW := lw_mem (i := 1024) (by decide +kernel) rfl
theorem k_se_yX6_recover : (Cond.selects RX6 yX6_recover yX6_recover) ∈ LW := lw_mem (i := 1025) (by decide +kernel) rfl
theorem k_co_yX6_recover : (Cond.code yX6_recover cX6_recover 5 (some .int)) ∈ LW := lw_mem (i := 1026) (by decide +kernel) rfl
theorem k_ml_RX6_118 : (Cond.methodLink RX6 118 yX6_isUndecided) ∈ LW := lw_mem (i := 1027) (by decide +kernel) rfl
theorem k_im_yX6_isUndecided : (Cond.instanceMethod yX6_isUndecided) ∈ LW := lw_mem (i := 1029) (by decide +kernel) rfl
theorem k_se_yX6_isUndecided : (Cond.selects RX6 yX6_isUndecided yX6_isUndecided) ∈ LW := lw_mem (i := 29) (by decide +kernel) rfl
theorem k_co_yX6_isUndecided : (Cond.code yX6_isUndecided cX6_isUndecided 7 (some .boolean)) ∈ LW := lw_mem (i := 1030) (by decide +kernel) rfl
theorem k_ml_RX6_121 : (Cond.methodLink RX6 121 yX6_storedConfirmed) ∈ LW := lw_mem (i := 1031) (by decide +kernel) rfl
theorem k_im_yX6_storedConfirmed : (Cond.instanceMethod yX6_storedConfirmed) ∈ LW := lw_mem (i := 1033) (by decide +kernel) rfl
theorem k_se_yX6_storedConfirmed : (Cond.selects RX6 yX6_storedConfirmed yX6_storedConfirmed) ∈ LW := lw_mem (i := 30) (by decide +kernel) rfl
theorem k_co_yX6_storedConfirmed : (Cond.code yX6_storedConfirmed cX6_storedConfirmed 8 (some .int)) ∈ LW := lw_mem (i := 1034) (by decide +kernel) rfl
theorem k_ml_RX6_112 : (Cond.methodLink RX6 112 yX6_stores) ∈ LW := lw_mem (i := 1035) (by decide +kernel) rfl
theorem k_im_yX6_stores : (Cond.instanceMethod yX6_stores) ∈ LW := lw_mem (i := 1037) (by decide +kernel) rfl
theorem k_se_yX6_stores : (Cond.selects RX6 yX6_stores yX6_stores) ∈ LW := lw_mem (i := 31) (by decide +kernel) rfl
theorem k_co_yX6_stores : (Cond.code yX6_stores cX6_stores 4 (some .boolean)) ∈ LW := lw_mem (i := 1038) (by decide +kernel) rfl
theorem k_ml_RX6_115 : (Cond.methodLink RX6 115 yX6_confirmedAt) ∈ LW := lw_mem (i := 1039) (by decide +kernel) rfl
theorem k_im_yX6_confirmedAt : (Cond.instanceMethod yX6_confirmedAt) ∈ LW := lw_mem (i := 1041) (by decide +kernel) rfl
theorem k_se_yX6_confirmedAt : (Cond.selects RX6 yX6_confirmedAt yX6_confirmedAt) ∈ LW := lw_mem (i := 32) (by decide +kernel) rfl
theorem k_co_yX6_confirmedAt : (Cond.code yX6_confirmedAt cX6_confirmedAt 4 (some .int)) ∈ LW := lw_mem (i := 1042) (by decide +kernel) rfl
theorem k_ml_RX6_124 : (Cond.methodLink RX6 124 yX6_source) ∈ LW := lw_mem (i := 1043) (by decide +kernel) rfl
theorem k_im_yX6_source : (Cond.instanceMethod yX6_source) ∈ LW := lw_mem (i := 1045) (by decide +kernel) rfl
theorem k_se_yX6_source : (Cond.selects RX6 yX6_source yX6_source) ∈ LW := lw_mem (i := 33) (by decide +kernel) rfl
theorem k_co_yX6_source : (Cond.code yX6_source cX6_source 6 (some .int)) ∈ LW := lw_mem (i := 1046) (by decide +kernel) rfl
theorem k_ml_RX6_127 : (Cond.methodLink RX6 127 yX6_payloadAt) ∈ LW := lw_mem (i := 1047) (by decide +kernel) rfl
theorem k_im_yX6_payloadAt : (Cond.instanceMethod yX6_payloadAt) ∈ LW := lw_mem (i := 1049) (by decide +kernel) rfl
theorem k_se_yX6_payloadAt : (Cond.selects RX6 yX6_payloadAt yX6_payloadAt) ∈ LW := lw_mem (i := 34) (by decide +kernel) rfl
theorem k_co_yX6_payloadAt : (Cond.code yX6_payloadAt cX6_payloadAt 4 (some .int)) ∈ LW := lw_mem (i := 1050) (by decide +kernel) rfl
theorem k_ml_RX6_130 : (Cond.methodLink RX6 130 yX6_recoverEntry) ∈ LW := lw_mem (i := 1051) (by decide +kernel) rfl
theorem k_im_yX6_recoverEntry : (Cond.instanceMethod yX6_recoverEntry) ∈ LW := lw_mem (i := 1053) (by decide +kernel) rfl
theorem k_se_yX6_recoverEntry : (Cond.selects RX6 yX6_recoverEntry yX6_recoverEntry) ∈ LW := lw_mem (i := 35) (by decide +kernel) rfl
theorem k_co_yX6_recoverEntry : (Cond.code yX6_recoverEntry cX6_recoverEntry 7 none) ∈ LW := lw_mem (i := 1054) (by decide +kernel) rfl
theorem k_ml_RL_149 : (Cond.methodLink RL 149 yL_repair) ∈ LW := lw_mem (i := 739) (by decide +kernel) rfl
theorem k_st_yL_repair : (Cond.static yL_repair) ∈ LW := lw_mem (i := 740) (by decide +kernel) rfl
theorem k_cw_yL_repair : (Cond.codeWith yL_repair cL_repair 4 (some .int) [(0, 9, 12, 19), (0, 9, 15, 13)]) ∈ LW := lw_mem (i := 741) (by decide +kernel) rfl
theorem k_ml_RL_55 : (Cond.methodLink RL 55 yX5_repair) ∈ LW := lw_mem (i := 742) (by decide +kernel) rfl
theorem k_im_yX5_repair : (Cond.instanceMethod yX5_repair) ∈ LW := lw_mem (i := 743) (by decide +kernel) rfl
theorem k_se_yX5_repair : (Cond.selects RX5 yX5_repair yX5_repair) ∈ LW := lw_mem (i := 744) (by decide +kernel) rfl
theorem k_co_yX5_repair : (Cond.code yX5_repair cX5_repair 3 (some .int)) ∈ LW := lw_mem (i := 745) (by decide +kernel) rfl
theorem k_ml_RX5_164 : (Cond.methodLink RX5 164 yX3_replaceDownNodes) ∈ LW := lw_mem (i := 747) (by decide +kernel) rfl
theorem k_im_yX3_replaceDownNodes : (Cond.instanceMethod yX3_replaceDownNodes) ∈ LW := lw_mem (i := 748) (by decide +kernel) rfl
theorem k_se_yX3_replaceDownNodes : (Cond.selects RX3 yX3_replaceDownNodes yX3_replaceDownNodes) ∈ LW := lw_mem (i := 749) (by decide +kernel) rfl
theorem k_co_yX3_replaceDownNodes : (Cond.code yX3_replaceDownNodes cX3_replaceDownNodes 5 none) ∈ LW := lw_mem (i := 750) (by decide +kernel) rfl
theorem k_fl_RX3_223 : (Cond.fieldLink RX3 223 "LedgerStore$Ledger" "fragments" "I") ∈ LW := lw_mem (i := 139) (by decide +kernel) rfl
theorem k_ml_RX5_168 : (Cond.methodLink RX5 168 yX3_copyMissingEntries) ∈ LW := lw_mem (i := 751) (by decide +kernel) rfl
theorem k_im_yX3_copyMissingEntries : (Cond.instanceMethod yX3_copyMissingEntries) ∈ LW := lw_mem (i := 752) (by decide +kernel) rfl
theorem k_se_yX3_copyMissingEntries : (Cond.selects RX3 yX3_copyMissingEntries yX3_copyMissingEntries) ∈ LW := lw_mem (i := 753) (by decide +kernel) rfl
theorem k_co_yX3_copyMissingEntries : (Cond.code yX3_copyMissingEntries cX3_copyMissingEntries 6 (some .int)) ∈ LW := lw_mem (i := 754) (by decide +kernel) rfl
theorem k_ml_RX3_229 : (Cond.methodLink RX3 229 Lib.Math.min.name) ∈ LW := lw_mem (i := 385) (by decide +kernel) rfl
theorem k_ml_RX3_226 : (Cond.methodLink RX3 226 yX0_lastToRead) ∈ LW := lw_mem (i := 384) (by decide +kernel) rfl
theorem k_im_yX0_lastToRead : (Cond.instanceMethod yX0_lastToRead) ∈ LW := lw_mem (i := 358) (by decide +kernel) rfl
theorem k_se_yX0_lastToRead : (Cond.selects RX0 yX0_lastToRead yX0_lastToRead) ∈ LW := lw_mem (i := 359) (by decide +kernel) rfl
theorem k_co_yX0_lastToRead : (Cond.code yX0_lastToRead cX0_lastToRead 1 (some .int)) ∈ LW := lw_mem (i := 360) (by decide +kernel) rfl
theorem k_ml_RX0_82 : (Cond.methodLink RX0 82 yX0_lastConfirmed) ∈ LW := lw_mem (i := 361) (by decide +kernel) rfl
theorem k_ml_RL_151 : (Cond.methodLink RL 151 yX6_repair) ∈ LW := lw_mem (i := 1055) (by decide +kernel) rfl
theorem k_im_yX6_repair : (Cond.instanceMethod yX6_repair) ∈ LW := lw_mem (i := 1056) (by decide +kernel) rfl
theorem k_se_yX6_repair : (Cond.selects RX6 yX6_repair yX6_repair) ∈ LW := lw_mem (i := 1057) (by decide +kernel) rfl
theorem k_co_yX6_repair : (Cond.code yX6_repair cX6_repair 4 (some .int)) ∈ LW := lw_mem (i := 1058) (by decide +kernel) rfl
theorem k_ml_RX6_133 : (Cond.methodLink RX6 133 yX6_replaceDowns) ∈ LW := lw_mem (i := 1059) (by decide +kernel) rfl
theorem k_im_yX6_replaceDowns : (Cond.instanceMethod yX6_replaceDowns) ∈ LW := lw_mem (i := 1061) (by decide +kernel) rfl
theorem k_se_yX6_replaceDowns : (Cond.selects RX6 yX6_replaceDowns yX6_replaceDowns) ∈ LW := lw_mem (i := 36) (by decide +kernel) rfl
theorem k_co_yX6_replaceDowns : (Cond.code yX6_replaceDowns cX6_replaceDowns 5 none) ∈ LW := lw_mem (i := 1062) (by decide +kernel) rfl
theorem k_ml_RX6_136 : (Cond.methodLink RX6 136 yX6_copies) ∈ LW := lw_mem (i := 1063) (by decide +kernel) rfl
theorem k_im_yX6_copies : (Cond.instanceMethod yX6_copies) ∈ LW := lw_mem (i := 1065) (by decide +kernel) rfl
theorem k_se_yX6_copies : (Cond.selects RX6 yX6_copies yX6_copies) ∈ LW := lw_mem (i := 37) (by decide +kernel) rfl
theorem k_co_yX6_copies : (Cond.code yX6_copies cX6_copies 8 (some .int)) ∈ LW := lw_mem (i := 1066) (by decide +kernel) rfl
theorem k_ml_RL_152 : (Cond.methodLink RL 152 yL_read) ∈ LW := lw_mem (i := 755) (by decide +kernel) rfl
theorem k_st_yL_read : (Cond.static yL_read) ∈ LW := lw_mem (i := 756) (by decide +kernel) rfl
theorem k_cw_yL_read : (Cond.codeWith yL_read cL_read 5 (some .int) [(0, 10, 13, 19), (0, 10, 17, 13)]) ∈ LW := lw_mem (i := 757) (by decide +kernel) rfl
theorem k_ml_RL_58 : (Cond.methodLink RL 58 yX5_read) ∈ LW := lw_mem (i := 758) (by decide +kernel) rfl
theorem k_im_yX5_read : (Cond.instanceMethod yX5_read) ∈ LW := lw_mem (i := 759) (by decide +kernel) rfl
theorem k_se_yX5_read : (Cond.selects RX5 yX5_read yX5_read) ∈ LW := lw_mem (i := 760) (by decide +kernel) rfl
theorem k_co_yX5_read : (Cond.code yX5_read cX5_read 5 (some .int)) ∈ LW := lw_mem (i := 761) (by decide +kernel) rfl
theorem k_ml_RX5_173 : (Cond.methodLink RX5 173 yX0_lastToRead) ∈ LW := lw_mem (i := 357) (by decide +kernel) rfl
theorem k_ml_RX5_178 : (Cond.methodLink RX5 178 yX3_firstCopy) ∈ LW := lw_mem (i := 764) (by decide +kernel) rfl
theorem k_ml_RX5_181 : (Cond.methodLink RX5 181 yX2_payloadOf) ∈ LW := lw_mem (i := 765) (by decide +kernel) rfl
theorem k_ml_RL_154 : (Cond.methodLink RL 154 yX6_read) ∈ LW := lw_mem (i := 1067) (by decide +kernel) rfl
theorem k_im_yX6_read : (Cond.instanceMethod yX6_read) ∈ LW := lw_mem (i := 1068) (by decide +kernel) rfl
theorem k_se_yX6_read : (Cond.selects RX6 yX6_read yX6_read) ∈ LW := lw_mem (i := 1069) (by decide +kernel) rfl
theorem k_co_yX6_read : (Cond.code yX6_read cX6_read 5 (some .int)) ∈ LW := lw_mem (i := 1070) (by decide +kernel) rfl
theorem k_ml_RX6_139 : (Cond.methodLink RX6 139 yX6_readable) ∈ LW := lw_mem (i := 1071) (by decide +kernel) rfl
theorem k_im_yX6_readable : (Cond.instanceMethod yX6_readable) ∈ LW := lw_mem (i := 1073) (by decide +kernel) rfl
theorem k_se_yX6_readable : (Cond.selects RX6 yX6_readable yX6_readable) ∈ LW := lw_mem (i := 38) (by decide +kernel) rfl
theorem k_co_yX6_readable : (Cond.code yX6_readable cX6_readable 3 (some .int)) ∈ LW := lw_mem (i := 1074) (by decide +kernel) rfl
theorem k_ml_RL_155 : (Cond.methodLink RL 155 yL_state) ∈ LW := lw_mem (i := 766) (by decide +kernel) rfl
theorem k_st_yL_state : (Cond.static yL_state) ∈ LW := lw_mem (i := 767) (by decide +kernel) rfl
theorem k_cw_yL_state : (Cond.codeWith yL_state cL_state 4 (some .int) [(0, 9, 12, 19)]) ∈ LW := lw_mem (i := 768) (by decide +kernel) rfl
theorem k_ml_RL_61 : (Cond.methodLink RL 61 yX5_state) ∈ LW := lw_mem (i := 769) (by decide +kernel) rfl
theorem k_im_yX5_state : (Cond.instanceMethod yX5_state) ∈ LW := lw_mem (i := 770) (by decide +kernel) rfl
theorem k_se_yX5_state : (Cond.selects RX5 yX5_state yX5_state) ∈ LW := lw_mem (i := 771) (by decide +kernel) rfl
theorem k_co_yX5_state : (Cond.code yX5_state cX5_state 2 (some .int)) ∈ LW := lw_mem (i := 772) (by decide +kernel) rfl
theorem k_ml_RL_157 : (Cond.methodLink RL 157 yX6_state) ∈ LW := lw_mem (i := 1075) (by decide +kernel) rfl
theorem k_im_yX6_state : (Cond.instanceMethod yX6_state) ∈ LW := lw_mem (i := 1076) (by decide +kernel) rfl
theorem k_se_yX6_state : (Cond.selects RX6 yX6_state yX6_state) ∈ LW := lw_mem (i := 1077) (by decide +kernel) rfl
theorem k_co_yX6_state : (Cond.code yX6_state cX6_state 2 (some .int)) ∈ LW := lw_mem (i := 1078) (by decide +kernel) rfl
theorem k_ml_RL_158 : (Cond.methodLink RL 158 yL_lastReadable) ∈ LW := lw_mem (i := 773) (by decide +kernel) rfl
theorem k_st_yL_lastReadable : (Cond.static yL_lastReadable) ∈ LW := lw_mem (i := 774) (by decide +kernel) rfl
theorem k_cw_yL_lastReadable : (Cond.codeWith yL_lastReadable cL_lastReadable 4 (some .int) [(0, 9, 12, 19)]) ∈ LW := lw_mem (i := 775) (by decide +kernel) rfl
theorem k_ml_RL_64 : (Cond.methodLink RL 64 yX5_lastReadable) ∈ LW := lw_mem (i := 776) (by decide +kernel) rfl
theorem k_im_yX5_lastReadable : (Cond.instanceMethod yX5_lastReadable) ∈ LW := lw_mem (i := 777) (by decide +kernel) rfl
theorem k_se_yX5_lastReadable : (Cond.selects RX5 yX5_lastReadable yX5_lastReadable) ∈ LW := lw_mem (i := 778) (by decide +kernel) rfl
theorem k_co_yX5_lastReadable : (Cond.code yX5_lastReadable cX5_lastReadable 2 (some .int)) ∈ LW := lw_mem (i := 779) (by decide +kernel) rfl
theorem k_ml_RL_160 : (Cond.methodLink RL 160 yX6_lastReadable) ∈ LW := lw_mem (i := 1079) (by decide +kernel) rfl
theorem k_im_yX6_lastReadable : (Cond.instanceMethod yX6_lastReadable) ∈ LW := lw_mem (i := 1080) (by decide +kernel) rfl
theorem k_se_yX6_lastReadable : (Cond.selects RX6 yX6_lastReadable yX6_lastReadable) ∈ LW := lw_mem (i := 1081) (by decide +kernel) rfl
theorem k_co_yX6_lastReadable : (Cond.code yX6_lastReadable cX6_lastReadable 2 (some .int)) ∈ LW := lw_mem (i := 1082) (by decide +kernel) rfl
theorem k_ml_RL_161 : (Cond.methodLink RL 161 yL_appended) ∈ LW := lw_mem (i := 780) (by decide +kernel) rfl
theorem k_st_yL_appended : (Cond.static yL_appended) ∈ LW := lw_mem (i := 781) (by decide +kernel) rfl
theorem k_cw_yL_appended : (Cond.codeWith yL_appended cL_appended 4 (some .int) [(0, 9, 12, 19)]) ∈ LW := lw_mem (i := 782) (by decide +kernel) rfl
theorem k_ml_RL_67 : (Cond.methodLink RL 67 yX5_appended) ∈ LW := lw_mem (i := 783) (by decide +kernel) rfl
theorem k_im_yX5_appended : (Cond.instanceMethod yX5_appended) ∈ LW := lw_mem (i := 784) (by decide +kernel) rfl
theorem k_se_yX5_appended : (Cond.selects RX5 yX5_appended yX5_appended) ∈ LW := lw_mem (i := 785) (by decide +kernel) rfl
theorem k_co_yX5_appended : (Cond.code yX5_appended cX5_appended 2 (some .int)) ∈ LW := lw_mem (i := 786) (by decide +kernel) rfl
theorem k_ml_RL_163 : (Cond.methodLink RL 163 yX6_appended) ∈ LW := lw_mem (i := 1083) (by decide +kernel) rfl
theorem k_im_yX6_appended : (Cond.instanceMethod yX6_appended) ∈ LW := lw_mem (i := 1084) (by decide +kernel) rfl
theorem k_se_yX6_appended : (Cond.selects RX6 yX6_appended yX6_appended) ∈ LW := lw_mem (i := 1085) (by decide +kernel) rfl
theorem k_co_yX6_appended : (Cond.code yX6_appended cX6_appended 2 (some .int)) ∈ LW := lw_mem (i := 1086) (by decide +kernel) rfl
theorem k_ml_RL_164 : (Cond.methodLink RL 164 yL_acknowledgements) ∈ LW := lw_mem (i := 787) (by decide +kernel) rfl
theorem k_st_yL_acknowledgements : (Cond.static yL_acknowledgements) ∈ LW := lw_mem (i := 788) (by decide +kernel) rfl
theorem k_cw_yL_acknowledgements : (Cond.codeWith yL_acknowledgements cL_acknowledgements 5 (some .int) [(0, 10, 13, 19)]) ∈ LW := lw_mem (i := 789) (by decide +kernel) rfl
theorem k_ml_RL_70 : (Cond.methodLink RL 70 yX5_acknowledgements) ∈ LW := lw_mem (i := 790) (by decide +kernel) rfl
theorem k_im_yX5_acknowledgements : (Cond.instanceMethod yX5_acknowledgements) ∈ LW := lw_mem (i := 791) (by decide +kernel) rfl
theorem k_se_yX5_acknowledgements : (Cond.selects RX5 yX5_acknowledgements yX5_acknowledgements) ∈ LW := lw_mem (i := 792) (by decide +kernel) rfl
theorem k_co_yX5_acknowledgements : (Cond.code yX5_acknowledgements cX5_acknowledgements 4 (some .int)) ∈ LW := lw_mem (i := 793) (by decide +kernel) rfl
theorem k_ml_RX5_186 : (Cond.methodLink RX5 186 yX5_requireAppended) ∈ LW := lw_mem (i := 794) (by decide +kernel) rfl
theorem k_st_yX5_requireAppended : (Cond.static yX5_requireAppended) ∈ LW := lw_mem (i := 795) (by decide +kernel) rfl
theorem k_co_yX5_requireAppended : (Cond.code yX5_requireAppended cX5_requireAppended 2 none) ∈ LW := lw_mem (i := 796) (by decide +kernel) rfl
theorem k_ml_RX5_190 : (Cond.methodLink RX5 190 yX0_countAcknowledgers) ∈ LW := lw_mem (i := 414) (by decide +kernel) rfl
theorem k_ml_RL_166 : (Cond.methodLink RL 166 yX6_acknowledgements) ∈ LW := lw_mem (i := 1087) (by decide +kernel) rfl
theorem k_im_yX6_acknowledgements : (Cond.instanceMethod yX6_acknowledgements) ∈ LW := lw_mem (i := 1088) (by decide +kernel) rfl
theorem k_se_yX6_acknowledgements : (Cond.selects RX6 yX6_acknowledgements yX6_acknowledgements) ∈ LW := lw_mem (i := 1089) (by decide +kernel) rfl
theorem k_co_yX6_acknowledgements : (Cond.code yX6_acknowledgements cX6_acknowledgements 3 (some .int)) ∈ LW := lw_mem (i := 1090) (by decide +kernel) rfl
theorem k_ml_RX6_142 : (Cond.methodLink RX6 142 yX6_isEntry) ∈ LW := lw_mem (i := 1091) (by decide +kernel) rfl
theorem k_im_yX6_isEntry : (Cond.instanceMethod yX6_isEntry) ∈ LW := lw_mem (i := 1093) (by decide +kernel) rfl
theorem k_se_yX6_isEntry : (Cond.selects RX6 yX6_isEntry yX6_isEntry) ∈ LW := lw_mem (i := 39) (by decide +kernel) rfl
theorem k_co_yX6_isEntry : (Cond.code yX6_isEntry cX6_isEntry 3 (some .boolean)) ∈ LW := lw_mem (i := 1094) (by decide +kernel) rfl
theorem k_ml_RL_167 : (Cond.methodLink RL 167 yL_holders) ∈ LW := lw_mem (i := 798) (by decide +kernel) rfl
theorem k_st_yL_holders : (Cond.static yL_holders) ∈ LW := lw_mem (i := 799) (by decide +kernel) rfl
theorem k_cw_yL_holders : (Cond.codeWith yL_holders cL_holders 5 (some .int) [(0, 10, 13, 19)]) ∈ LW := lw_mem (i := 800) (by decide +kernel) rfl
theorem k_ml_RL_73 : (Cond.methodLink RL 73 yX5_holders) ∈ LW := lw_mem (i := 801) (by decide +kernel) rfl
theorem k_im_yX5_holders : (Cond.instanceMethod yX5_holders) ∈ LW := lw_mem (i := 802) (by decide +kernel) rfl
theorem k_se_yX5_holders : (Cond.selects RX5 yX5_holders yX5_holders) ∈ LW := lw_mem (i := 803) (by decide +kernel) rfl
theorem k_co_yX5_holders : (Cond.code yX5_holders cX5_holders 4 (some .int)) ∈ LW := lw_mem (i := 804) (by decide +kernel) rfl
theorem k_ml_RX5_193 : (Cond.methodLink RX5 193 yX3_holderMask) ∈ LW := lw_mem (i := 415) (by decide +kernel) rfl
theorem k_im_yX3_holderMask : (Cond.instanceMethod yX3_holderMask) ∈ LW := lw_mem (i := 389) (by decide +kernel) rfl
theorem k_se_yX3_holderMask : (Cond.selects RX3 yX3_holderMask yX3_holderMask) ∈ LW := lw_mem (i := 390) (by decide +kernel) rfl
theorem k_co_yX3_holderMask : (Cond.code yX3_holderMask cX3_holderMask 6 (some .int)) ∈ LW := lw_mem (i := 391) (by decide +kernel) rfl
theorem k_ml_RL_169 : (Cond.methodLink RL 169 yX6_holders) ∈ LW := lw_mem (i := 1095) (by decide +kernel) rfl
theorem k_im_yX6_holders : (Cond.instanceMethod yX6_holders) ∈ LW := lw_mem (i := 1096) (by decide +kernel) rfl
theorem k_se_yX6_holders : (Cond.selects RX6 yX6_holders yX6_holders) ∈ LW := lw_mem (i := 1097) (by decide +kernel) rfl
theorem k_co_yX6_holders : (Cond.code yX6_holders cX6_holders 3 (some .int)) ∈ LW := lw_mem (i := 1098) (by decide +kernel) rfl
theorem k_ml_RX6_145 : (Cond.methodLink RX6 145 yX6_holding) ∈ LW := lw_mem (i := 1099) (by decide +kernel) rfl
theorem k_im_yX6_holding : (Cond.instanceMethod yX6_holding) ∈ LW := lw_mem (i := 1101) (by decide +kernel) rfl
theorem k_se_yX6_holding : (Cond.selects RX6 yX6_holding yX6_holding) ∈ LW := lw_mem (i := 40) (by decide +kernel) rfl
theorem k_co_yX6_holding : (Cond.code yX6_holding cX6_holding 5 (some .int)) ∈ LW := lw_mem (i := 1102) (by decide +kernel) rfl
theorem k_ml_RL_170 : (Cond.methodLink RL 170 yL_fragmentCount) ∈ LW := lw_mem (i := 805) (by decide +kernel) rfl
theorem k_st_yL_fragmentCount : (Cond.static yL_fragmentCount) ∈ LW := lw_mem (i := 806) (by decide +kernel) rfl
theorem k_cw_yL_fragmentCount : (Cond.codeWith yL_fragmentCount cL_fragmentCount 4 (some .int) [(0, 9, 12, 19)]) ∈ LW := lw_mem (i := 807) (by decide +kernel) rfl
theorem k_ml_RL_76 : (Cond.methodLink RL 76 yX5_fragmentCount) ∈ LW := lw_mem (i := 808) (by decide +kernel) rfl
theorem k_im_yX5_fragmentCount : (Cond.instanceMethod yX5_fragmentCount) ∈ LW := lw_mem (i := 809) (by decide +kernel) rfl
theorem k_se_yX5_fragmentCount : (Cond.selects RX5 yX5_fragmentCount yX5_fragmentCount) ∈ LW := lw_mem (i := 810) (by decide +kernel) rfl
theorem k_co_yX5_fragmentCount : (Cond.code yX5_fragmentCount cX5_fragmentCount 2 (some .int)) ∈ LW := lw_mem (i := 811) (by decide +kernel) rfl
theorem k_fl_RX5_196 : (Cond.fieldLink RX5 196 "LedgerStore$Ledger" "fragments" "I") ∈ LW := lw_mem (i := 140) (by decide +kernel) rfl
theorem k_ml_RL_172 : (Cond.methodLink RL 172 yX6_fragmentCount) ∈ LW := lw_mem (i := 1103) (by decide +kernel) rfl
theorem k_im_yX6_fragmentCount : (Cond.instanceMethod yX6_fragmentCount) ∈ LW := lw_mem (i := 1104) (by decide +kernel) rfl
theorem k_se_yX6_fragmentCount : (Cond.selects RX6 yX6_fragmentCount yX6_fragmentCount) ∈ LW := lw_mem (i := 1105) (by decide +kernel) rfl
theorem k_co_yX6_fragmentCount : (Cond.code yX6_fragmentCount cX6_fragmentCount 2 (some .int)) ∈ LW := lw_mem (i := 1106) (by decide +kernel) rfl
theorem k_ml_RL_173 : (Cond.methodLink RL 173 yL_firstEntry) ∈ LW := lw_mem (i := 812) (by decide +kernel) rfl
theorem k_st_yL_firstEntry : (Cond.static yL_firstEntry) ∈ LW := lw_mem (i := 813) (by decide +kernel) rfl
theorem k_cw_yL_firstEntry : (Cond.codeWith yL_firstEntry cL_firstEntry 5 (some .int) [(0, 10, 13, 19)]) ∈ LW := lw_mem (i := 814) (by decide +kernel) rfl
theorem k_ml_RL_79 : (Cond.methodLink RL 79 yX5_firstEntry) ∈ LW := lw_mem (i := 815) (by decide +kernel) rfl
theorem k_im_yX5_firstEntry : (Cond.instanceMethod yX5_firstEntry) ∈ LW := lw_mem (i := 816) (by decide +kernel) rfl
theorem k_se_yX5_firstEntry : (Cond.selects RX5 yX5_firstEntry yX5_firstEntry) ∈ LW := lw_mem (i := 817) (by decide +kernel) rfl
theorem k_co_yX5_firstEntry : (Cond.code yX5_firstEntry cX5_firstEntry 4 (some .int)) ∈ LW := lw_mem (i := 818) (by decide +kernel) rfl
theorem k_ml_RX5_199 : (Cond.methodLink RX5 199 yX5_requireFragment) ∈ LW := lw_mem (i := 819) (by decide +kernel) rfl
theorem k_st_yX5_requireFragment : (Cond.static yX5_requireFragment) ∈ LW := lw_mem (i := 820) (by decide +kernel) rfl
theorem k_co_yX5_requireFragment : (Cond.code yX5_requireFragment cX5_requireFragment 2 none) ∈ LW := lw_mem (i := 821) (by decide +kernel) rfl
theorem k_ml_RX5_202 : (Cond.methodLink RX5 202 yX0_startOf) ∈ LW := lw_mem (i := 404) (by decide +kernel) rfl
theorem k_ml_RL_175 : (Cond.methodLink RL 175 yX6_firstEntry) ∈ LW := lw_mem (i := 1107) (by decide +kernel) rfl
theorem k_im_yX6_firstEntry : (Cond.instanceMethod yX6_firstEntry) ∈ LW := lw_mem (i := 1108) (by decide +kernel) rfl
theorem k_se_yX6_firstEntry : (Cond.selects RX6 yX6_firstEntry yX6_firstEntry) ∈ LW := lw_mem (i := 1109) (by decide +kernel) rfl
theorem k_co_yX6_firstEntry : (Cond.code yX6_firstEntry cX6_firstEntry 3 (some .int)) ∈ LW := lw_mem (i := 1110) (by decide +kernel) rfl
theorem k_ml_RX6_148 : (Cond.methodLink RX6 148 yX6_isFragment) ∈ LW := lw_mem (i := 1111) (by decide +kernel) rfl
theorem k_im_yX6_isFragment : (Cond.instanceMethod yX6_isFragment) ∈ LW := lw_mem (i := 1113) (by decide +kernel) rfl
theorem k_se_yX6_isFragment : (Cond.selects RX6 yX6_isFragment yX6_isFragment) ∈ LW := lw_mem (i := 41) (by decide +kernel) rfl
theorem k_co_yX6_isFragment : (Cond.code yX6_isFragment cX6_isFragment 3 (some .boolean)) ∈ LW := lw_mem (i := 1114) (by decide +kernel) rfl
theorem k_ml_RL_176 : (Cond.methodLink RL 176 yL_member) ∈ LW := lw_mem (i := 823) (by decide +kernel) rfl
theorem k_st_yL_member : (Cond.static yL_member) ∈ LW := lw_mem (i := 824) (by decide +kernel) rfl
theorem k_cw_yL_member : (Cond.codeWith yL_member cL_member 6 (some .int) [(0, 12, 15, 19)]) ∈ LW := lw_mem (i := 825) (by decide +kernel) rfl
theorem k_ml_RL_82 : (Cond.methodLink RL 82 yX5_member) ∈ LW := lw_mem (i := 826) (by decide +kernel) rfl
theorem k_im_yX5_member : (Cond.instanceMethod yX5_member) ∈ LW := lw_mem (i := 827) (by decide +kernel) rfl
theorem k_se_yX5_member : (Cond.selects RX5 yX5_member yX5_member) ∈ LW := lw_mem (i := 828) (by decide +kernel) rfl
theorem k_co_yX5_member : (Cond.code yX5_member cX5_member 5 (some .int)) ∈ LW := lw_mem (i := 829) (by decide +kernel) rfl
theorem k_ml_RX5_205 : (Cond.methodLink RX5 205 yX0_nodeAt) ∈ LW := lw_mem (i := 405) (by decide +kernel) rfl
theorem k_ml_RL_178 : (Cond.methodLink RL 178 yX6_member) ∈ LW := lw_mem (i := 1115) (by decide +kernel) rfl
theorem k_im_yX6_member : (Cond.instanceMethod yX6_member) ∈ LW := lw_mem (i := 1116) (by decide +kernel) rfl
theorem k_se_yX6_member : (Cond.selects RX6 yX6_member yX6_member) ∈ LW := lw_mem (i := 1117) (by decide +kernel) rfl
theorem k_co_yX6_member : (Cond.code yX6_member cX6_member 5 (some .int)) ∈ LW := lw_mem (i := 1118) (by decide +kernel) rfl
theorem k_ml_RL_179 : (Cond.methodLink RL 179 yL_underReplicated) ∈ LW := lw_mem (i := 830) (by decide +kernel) rfl
theorem k_st_yL_underReplicated : (Cond.static yL_underReplicated) ∈ LW := lw_mem (i := 831) (by decide +kernel) rfl
theorem k_cw_yL_underReplicated : (Cond.codeWith yL_underReplicated cL_underReplicated 4 (some .int) [(0, 9, 12, 19)]) ∈ LW := lw_mem (i := 832) (by decide +kernel) rfl
theorem k_ml_RL_85 : (Cond.methodLink RL 85 yX5_underReplicated) ∈ LW := lw_mem (i := 833) (by decide +kernel) rfl
theorem k_im_yX5_underReplicated : (Cond.instanceMethod yX5_underReplicated) ∈ LW := lw_mem (i := 834) (by decide +kernel) rfl
theorem k_se_yX5_underReplicated : (Cond.selects RX5 yX5_underReplicated yX5_underReplicated) ∈ LW := lw_mem (i := 835) (by decide +kernel) rfl
theorem k_co_yX5_underReplicated : (Cond.code yX5_underReplicated cX5_underReplicated 2 (some .int)) ∈ LW := lw_mem (i := 836) (by decide +kernel) rfl
theorem k_ml_RX5_209 : (Cond.methodLink RX5 209 yX3_countUnderReplicated) ∈ LW := lw_mem (i := 375) (by decide +kernel) rfl
theorem k_im_yX3_countUnderReplicated : (Cond.instanceMethod yX3_countUnderReplicated) ∈ LW := lw_mem (i := 376) (by decide +kernel) rfl
theorem k_se_yX3_countUnderReplicated : (Cond.selects RX3 yX3_countUnderReplicated yX3_countUnderReplicated) ∈ LW := lw_mem (i := 377) (by decide +kernel) rfl
theorem k_co_yX3_countUnderReplicated : (Cond.code yX3_countUnderReplicated cX3_countUnderReplicated 7 (some .int)) ∈ LW := lw_mem (i := 378) (by decide +kernel) rfl
theorem k_ml_RX3_232 : (Cond.methodLink RX3 232 yX3_holderMask) ∈ LW := lw_mem (i := 388) (by decide +kernel) rfl
theorem k_ml_RL_181 : (Cond.methodLink RL 181 yX6_underReplicated) ∈ LW := lw_mem (i := 1119) (by decide +kernel) rfl
theorem k_im_yX6_underReplicated : (Cond.instanceMethod yX6_underReplicated) ∈ LW := lw_mem (i := 1120) (by decide +kernel) rfl
theorem k_se_yX6_underReplicated : (Cond.selects RX6 yX6_underReplicated yX6_underReplicated) ∈ LW := lw_mem (i := 1121) (by decide +kernel) rfl
theorem k_co_yX6_underReplicated : (Cond.code yX6_underReplicated cX6_underReplicated 2 (some .int)) ∈ LW := lw_mem (i := 1122) (by decide +kernel) rfl
theorem k_ml_RX6_151 : (Cond.methodLink RX6 151 yX6_under) ∈ LW := lw_mem (i := 1123) (by decide +kernel) rfl
theorem k_im_yX6_under : (Cond.instanceMethod yX6_under) ∈ LW := lw_mem (i := 1125) (by decide +kernel) rfl
theorem k_se_yX6_under : (Cond.selects RX6 yX6_under yX6_under) ∈ LW := lw_mem (i := 42) (by decide +kernel) rfl
theorem k_co_yX6_under : (Cond.code yX6_under cX6_under 8 (some .int)) ∈ LW := lw_mem (i := 1126) (by decide +kernel) rfl
theorem k_ml_RL_182 : (Cond.methodLink RL 182 yL_undo) ∈ LW := lw_mem (i := 837) (by decide +kernel) rfl
theorem k_st_yL_undo : (Cond.static yL_undo) ∈ LW := lw_mem (i := 838) (by decide +kernel) rfl
theorem k_cw_yL_undo : (Cond.codeWith yL_undo cL_undo 3 (some .int) [(0, 8, 11, 13)]) ∈ LW := lw_mem (i := 839) (by decide +kernel) rfl
theorem k_ml_RL_88 : (Cond.methodLink RL 88 yX5_undo) ∈ LW := lw_mem (i := 840) (by decide +kernel) rfl
theorem k_im_yX5_undo : (Cond.instanceMethod yX5_undo) ∈ LW := lw_mem (i := 841) (by decide +kernel) rfl
theorem k_se_yX5_undo : (Cond.selects RX5 yX5_undo yX5_undo) ∈ LW := lw_mem (i := 842) (by decide +kernel) rfl
theorem k_co_yX5_undo : (Cond.code yX5_undo cX5_undo 1 (some .int)) ∈ LW := lw_mem (i := 843) (by decide +kernel) rfl
theorem k_fl_RX5_212 : (Cond.fieldLink RX5 212 "LedgerStore$UndoStack" "depth" "I") ∈ LW := lw_mem (i := 198) (by decide +kernel) rfl
theorem k_ml_RX5_217 : (Cond.methodLink RX5 217 yX4_popInto) ∈ LW := lw_mem (i := 845) (by decide +kernel) rfl
theorem k_im_yX4_popInto : (Cond.instanceMethod yX4_popInto) ∈ LW := lw_mem (i := 846) (by decide +kernel) rfl
theorem k_se_yX4_popInto : (Cond.selects RX4 yX4_popInto yX4_popInto) ∈ LW := lw_mem (i := 847) (by decide +kernel) rfl
theorem k_co_yX4_popInto : (Cond.code yX4_popInto cX4_popInto 4 none) ∈ LW := lw_mem (i := 848) (by decide +kernel) rfl
theorem k_ml_RL_184 : (Cond.methodLink RL 184 yX6_undo) ∈ LW := lw_mem (i := 1127) (by decide +kernel) rfl
theorem k_im_yX6_undo : (Cond.instanceMethod yX6_undo) ∈ LW := lw_mem (i := 1128) (by decide +kernel) rfl
theorem k_se_yX6_undo : (Cond.selects RX6 yX6_undo yX6_undo) ∈ LW := lw_mem (i := 1129) (by decide +kernel) rfl
theorem k_co_yX6_undo : (Cond.code yX6_undo cX6_undo 2 (some .int)) ∈ LW := lw_mem (i := 1130) (by decide +kernel) rfl
theorem k_ml_RL_185 : (Cond.methodLink RL 185 yX5_digest) ∈ LW := lw_mem (i := 329) (by decide +kernel) rfl
theorem k_im_yX5_digest : (Cond.instanceMethod yX5_digest) ∈ LW := lw_mem (i := 330) (by decide +kernel) rfl
theorem k_se_yX5_digest : (Cond.selects RX5 yX5_digest yX5_digest) ∈ LW := lw_mem (i := 331) (by decide +kernel) rfl
theorem k_co_yX5_digest : (Cond.code yX5_digest cX5_digest 4 (some .long)) ∈ LW := lw_mem (i := 332) (by decide +kernel) rfl
theorem k_ct_RX5_220 : (Cond.constantLong RX5 220 (12109)) ∈ LW := lw_mem (i := 333) (by decide +kernel) rfl
theorem k_ct_RX5_222 : (Cond.constantLong RX5 222 (31)) ∈ LW := lw_mem (i := 334) (by decide +kernel) rfl
theorem k_ml_RX5_227 : (Cond.methodLink RX5 227 yX5_digestNode) ∈ LW := lw_mem (i := 336) (by decide +kernel) rfl
theorem k_im_yX5_digestNode : (Cond.instanceMethod yX5_digestNode) ∈ LW := lw_mem (i := 338) (by decide +kernel) rfl
theorem k_se_yX5_digestNode : (Cond.selects RX5 yX5_digestNode yX5_digestNode) ∈ LW := lw_mem (i := 0) (by decide +kernel) rfl
theorem k_co_yX5_digestNode : (Cond.code yX5_digestNode cX5_digestNode 6 (some .long)) ∈ LW := lw_mem (i := 339) (by decide +kernel) rfl
theorem k_ml_RX5_238 : (Cond.methodLink RX5 238 yX5_bitsOfShare) ∈ LW := lw_mem (i := 348) (by decide +kernel) rfl
theorem k_st_yX5_bitsOfShare : (Cond.static yX5_bitsOfShare) ∈ LW := lw_mem (i := 349) (by decide +kernel) rfl
theorem k_co_yX5_bitsOfShare : (Cond.code yX5_bitsOfShare cX5_bitsOfShare 3 (some .int)) ∈ LW := lw_mem (i := 350) (by decide +kernel) rfl
theorem k_ct_RX5_264 : (Cond.constantFloat RX5 264 (1258291200)) ∈ LW := lw_mem (i := 351) (by decide +kernel) rfl
theorem k_ml_RX5_234 : (Cond.methodLink RX5 234 yX5_digestLedger) ∈ LW := lw_mem (i := 353) (by decide +kernel) rfl
theorem k_im_yX5_digestLedger : (Cond.instanceMethod yX5_digestLedger) ∈ LW := lw_mem (i := 355) (by decide +kernel) rfl
theorem k_se_yX5_digestLedger : (Cond.selects RX5 yX5_digestLedger yX5_digestLedger) ∈ LW := lw_mem (i := 2) (by decide +kernel) rfl
theorem k_co_yX5_digestLedger : (Cond.code yX5_digestLedger cX5_digestLedger 6 (some .long)) ∈ LW := lw_mem (i := 356) (by decide +kernel) rfl
theorem k_fl_RX5_242 : (Cond.fieldLink RX5 242 "LedgerStore$Ledger" "writeQuorum" "I") ∈ LW := lw_mem (i := 126) (by decide +kernel) rfl
theorem k_fl_RX5_245 : (Cond.fieldLink RX5 245 "LedgerStore$Ledger" "ackQuorum" "I") ∈ LW := lw_mem (i := 129) (by decide +kernel) rfl
theorem k_ml_RX5_248 : (Cond.methodLink RX5 248 yX5_digestFragments) ∈ LW := lw_mem (i := 401) (by decide +kernel) rfl
theorem k_st_yX5_digestFragments : (Cond.static yX5_digestFragments) ∈ LW := lw_mem (i := 402) (by decide +kernel) rfl
theorem k_co_yX5_digestFragments : (Cond.code yX5_digestFragments cX5_digestFragments 7 (some .long)) ∈ LW := lw_mem (i := 403) (by decide +kernel) rfl
theorem k_ml_RX5_251 : (Cond.methodLink RX5 251 yX5_digestEntries) ∈ LW := lw_mem (i := 406) (by decide +kernel) rfl
theorem k_im_yX5_digestEntries : (Cond.instanceMethod yX5_digestEntries) ∈ LW := lw_mem (i := 408) (by decide +kernel) rfl
theorem k_se_yX5_digestEntries : (Cond.selects RX5 yX5_digestEntries yX5_digestEntries) ∈ LW := lw_mem (i := 3) (by decide +kernel) rfl
theorem k_co_yX5_digestEntries : (Cond.code yX5_digestEntries cX5_digestEntries 7 (some .long)) ∈ LW := lw_mem (i := 409) (by decide +kernel) rfl
theorem k_ml_RX5_257 : (Cond.methodLink RX5 257 yX0_payloadOf) ∈ LW := lw_mem (i := 410) (by decide +kernel) rfl
theorem k_ml_RX5_254 : (Cond.methodLink RX5 254 yX5_digestFences) ∈ LW := lw_mem (i := 416) (by decide +kernel) rfl
theorem k_im_yX5_digestFences : (Cond.instanceMethod yX5_digestFences) ∈ LW := lw_mem (i := 418) (by decide +kernel) rfl
theorem k_se_yX5_digestFences : (Cond.selects RX5 yX5_digestFences yX5_digestFences) ∈ LW := lw_mem (i := 4) (by decide +kernel) rfl
theorem k_co_yX5_digestFences : (Cond.code yX5_digestFences cX5_digestFences 8 (some .long)) ∈ LW := lw_mem (i := 419) (by decide +kernel) rfl
theorem k_fl_RX5_258 : (Cond.fieldLink RX5 258 "LedgerStore$Ledger" "number" "I") ∈ LW := lw_mem (i := 120) (by decide +kernel) rfl
theorem k_ml_RL_189 : (Cond.methodLink RL 189 yX6_digest) ∈ LW := lw_mem (i := 1131) (by decide +kernel) rfl
theorem k_im_yX6_digest : (Cond.instanceMethod yX6_digest) ∈ LW := lw_mem (i := 1132) (by decide +kernel) rfl
theorem k_se_yX6_digest : (Cond.selects RX6 yX6_digest yX6_digest) ∈ LW := lw_mem (i := 1133) (by decide +kernel) rfl
theorem k_co_yX6_digest : (Cond.code yX6_digest cX6_digest 2 (some .long)) ∈ LW := lw_mem (i := 1134) (by decide +kernel) rfl
theorem k_ct_RX6_163 : (Cond.constantLong RX6 163 (12109)) ∈ LW := lw_mem (i := 1135) (by decide +kernel) rfl
theorem k_fl_RX6_156 : (Cond.fieldLink RX6 156 "LedgerStoreModel" "hash" "J") ∈ LW := lw_mem (i := 859) (by decide +kernel) rfl
theorem k_ml_RX6_160 : (Cond.methodLink RX6 160 yX6_add) ∈ LW := lw_mem (i := 1136) (by decide +kernel) rfl
theorem k_im_yX6_add : (Cond.instanceMethod yX6_add) ∈ LW := lw_mem (i := 1138) (by decide +kernel) rfl
theorem k_se_yX6_add : (Cond.selects RX6 yX6_add yX6_add) ∈ LW := lw_mem (i := 43) (by decide +kernel) rfl
theorem k_co_yX6_add : (Cond.code yX6_add cX6_add 2 none) ∈ LW := lw_mem (i := 1139) (by decide +kernel) rfl
theorem k_ct_RX6_154 : (Cond.constantLong RX6 154 (31)) ∈ LW := lw_mem (i := 1140) (by decide +kernel) rfl
theorem k_ml_RX6_165 : (Cond.methodLink RX6 165 yJxf58ca_floatToIntBits_5c35a) ∈ LW := lw_mem (i := 1141) (by decide +kernel) rfl
theorem k_st_yJxf58ca_floatToIntBits_5c35a : (Cond.static yJxf58ca_floatToIntBits_5c35a) ∈ LW := lw_mem (i := 1142) (by decide +kernel) rfl
theorem k_in_RJxf58ca : (Cond.initialized RJxf58ca) ∈ LW := lw_mem (i := 63) (by decide +kernel) rfl
theorem k_co_yJxf58ca_floatToIntBits_5c35a : (Cond.code yJxf58ca_floatToIntBits_5c35a cJxf58ca_floatToIntBits_5c35a 1 (some .int)) ∈ LW := lw_mem (i := 1143) (by decide +kernel) rfl
theorem k_ml_RJxf58ca_74 : (Cond.methodLink RJxf58ca 74 ⟨"java/lang/Float", "floatToRawIntBits", "(F)I"⟩) ∈ LW := lw_mem (i := 1147) (by decide +kernel) rfl
theorem k_na_JFloat_floatToRawIntBits : (Cond.native ⟨"java/lang/Float", "floatToRawIntBits", "(F)I"⟩) ∈ LW := lw_mem (i := 1149) (by decide +kernel) rfl
theorem k_st_JFloat_floatToRawIntBits : (Cond.static ⟨"java/lang/Float", "floatToRawIntBits", "(F)I"⟩) ∈ LW := lw_mem (i := 1148) (by decide +kernel) rfl
theorem k_in_J_Float : (Cond.initialized "java/lang/Float") ∈ LW := lw_mem (i := 63) (by decide +kernel) rfl
theorem k_ct_RJxf58ca_77 : (Cond.constant RJxf58ca 77 (2143289344)) ∈ LW := lw_mem (i := 1150) (by decide +kernel) rfl
theorem k_ml_RJxf58ca_59 : (Cond.methodLink RJxf58ca 59 yJxf58ca_isNaN_12338) ∈ LW := lw_mem (i := 1144) (by decide +kernel) rfl
theorem k_st_yJxf58ca_isNaN_12338 : (Cond.static yJxf58ca_isNaN_12338) ∈ LW := lw_mem (i := 1145) (by decide +kernel) rfl
theorem k_co_yJxf58ca_isNaN_12338 : (Cond.code yJxf58ca_isNaN_12338 cJxf58ca_isNaN_12338 1 (some .boolean)) ∈ LW := lw_mem (i := 1146) (by decide +kernel) rfl
theorem k_ml_RX6_171 : (Cond.methodLink RX6 171 yX6_addLedger) ∈ LW := lw_mem (i := 1151) (by decide +kernel) rfl
theorem k_im_yX6_addLedger : (Cond.instanceMethod yX6_addLedger) ∈ LW := lw_mem (i := 1153) (by decide +kernel) rfl
theorem k_se_yX6_addLedger : (Cond.selects RX6 yX6_addLedger yX6_addLedger) ∈ LW := lw_mem (i := 44) (by decide +kernel) rfl
theorem k_co_yX6_addLedger : (Cond.code yX6_addLedger cX6_addLedger 4 none) ∈ LW := lw_mem (i := 1154) (by decide +kernel) rfl
