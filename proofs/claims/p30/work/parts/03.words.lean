def LW : List Cond := lw_tbl.filter goodWord
theorem lw_mem {w : Cond} {i : Nat} (h : lw_tbl[i]? = some w) (g : goodWord w = true) : w ∈ LW := List.mem_filter.mpr ⟨List.mem_of_getElem? h, g⟩
theorem lw_sub : ∀ w ∈ LW, w ∈ lw_tbl := fun _ h => (List.mem_filter.mp h).1
theorem lw_good : ∀ w ∈ LW, goodWord w = true := fun _ h => (List.mem_filter.mp h).2
theorem iwX0 : ∀ w ∈ wsX00, w ∈ LW := fun w h => List.mem_filter.mpr ⟨(show ∀ w ∈ wsX00, w ∈ lw_tbl by decide +kernel) w h, List.all_eq_true.mp (show (wsX00).all goodWord = true by decide +kernel) w h⟩
theorem iwX1 : ∀ w ∈ wsX10, w ∈ LW := fun w h => List.mem_filter.mpr ⟨(show ∀ w ∈ wsX10, w ∈ lw_tbl by decide +kernel) w h, List.all_eq_true.mp (show (wsX10).all goodWord = true by decide +kernel) w h⟩
theorem iwX3 : ∀ w ∈ wsX30, w ∈ LW := fun w h => List.mem_filter.mpr ⟨(show ∀ w ∈ wsX30, w ∈ lw_tbl by decide +kernel) w h, List.all_eq_true.mp (show (wsX30).all goodWord = true by decide +kernel) w h⟩
theorem iwX4 : ∀ w ∈ wsX40, w ∈ LW := fun w h => List.mem_filter.mpr ⟨(show ∀ w ∈ wsX40, w ∈ lw_tbl by decide +kernel) w h, List.all_eq_true.mp (show (wsX40).all goodWord = true by decide +kernel) w h⟩
theorem iwX5 : ∀ w ∈ wsX50, w ∈ LW := fun w h => List.mem_filter.mpr ⟨(show ∀ w ∈ wsX50, w ∈ lw_tbl by decide +kernel) w h, List.all_eq_true.mp (show (wsX50).all goodWord = true by decide +kernel) w h⟩
theorem k_cl_RL_9 : (Cond.classLink RL 9 RX5) ∈ LW := lw_mem (i := 19) (by decide +kernel) rfl
theorem k_it_RX5 : (Cond.instantiable RX5 2) ∈ LW := lw_mem (i := 20) (by decide +kernel) rfl
theorem k_in_RX5 : (Cond.initialized RX5) ∈ LW := lw_mem (i := 4) (by decide +kernel) rfl
theorem k_ac_int : (Cond.arrayClass .int) ∈ LW := lw_mem (i := 67) (by decide +kernel) rfl
theorem k_ml_RL_77 : (Cond.methodLink RL 77 yX5_init) ∈ LW := lw_mem (i := 21) (by decide +kernel) rfl
theorem k_im_yX5_init : (Cond.instanceMethod yX5_init) ∈ LW := lw_mem (i := 22) (by decide +kernel) rfl
theorem k_co_yX5_init : (Cond.code yX5_init cX5_init 1 none) ∈ LW := lw_mem (i := 23) (by decide +kernel) rfl
theorem k_ml_RX5_3 : (Cond.methodLink RX5 3 objectInit) ∈ LW := lw_mem (i := 24) (by decide +kernel) rfl
theorem k_im_objectInit : (Cond.instanceMethod objectInit) ∈ LW := lw_mem (i := 25) (by decide +kernel) rfl
theorem k_co_objectInit : (Cond.code objectInit ⟨#[0xb1]⟩ 1 none) ∈ LW := lw_mem (i := 26) (by decide +kernel) rfl
theorem k_cl_RX5_9 : (Cond.classLink RX5 9 RX3) ∈ LW := lw_mem (i := 27) (by decide +kernel) rfl
theorem k_it_RX3 : (Cond.instantiable RX3 5) ∈ LW := lw_mem (i := 28) (by decide +kernel) rfl
theorem k_in_RX3 : (Cond.initialized RX3) ∈ LW := lw_mem (i := 5) (by decide +kernel) rfl
theorem k_fl_RX5_12 : (Cond.fieldLink RX5 12 "LedgerStore" "now" "LLedgerStore$State;") ∈ LW := lw_mem (i := 160) (by decide +kernel) rfl
theorem k_cl_RX5_16 : (Cond.classLink RX5 16 RX4) ∈ LW := lw_mem (i := 141) (by decide +kernel) rfl
theorem k_it_RX4 : (Cond.instantiable RX4 3) ∈ LW := lw_mem (i := 142) (by decide +kernel) rfl
theorem k_in_RX4 : (Cond.initialized RX4) ∈ LW := lw_mem (i := 8) (by decide +kernel) rfl
theorem k_fl_RX5_19 : (Cond.fieldLink RX5 19 "LedgerStore" "past" "LLedgerStore$UndoStack;") ∈ LW := lw_mem (i := 161) (by decide +kernel) rfl
theorem k_ml_RX5_11 : (Cond.methodLink RX5 11 yX3_init) ∈ LW := lw_mem (i := 29) (by decide +kernel) rfl
theorem k_im_yX3_init : (Cond.instanceMethod yX3_init) ∈ LW := lw_mem (i := 30) (by decide +kernel) rfl
theorem k_co_yX3_init : (Cond.code yX3_init cX3_init 2 none) ∈ LW := lw_mem (i := 31) (by decide +kernel) rfl
theorem k_ml_RX3_3 : (Cond.methodLink RX3 3 objectInit) ∈ LW := lw_mem (i := 32) (by decide +kernel) rfl
theorem k_cl_RX3_9 : (Cond.classLink RX3 9 RX1) ∈ LW := lw_mem (i := 33) (by decide +kernel) rfl
theorem k_fl_RX3_11 : (Cond.fieldLink RX3 11 "LedgerStore$State" "nodes" "[LLedgerStore$Node;") ∈ LW := lw_mem (i := 128) (by decide +kernel) rfl
theorem k_cl_RX3_17 : (Cond.classLink RX3 17 RX0) ∈ LW := lw_mem (i := 35) (by decide +kernel) rfl
theorem k_fl_RX3_19 : (Cond.fieldLink RX3 19 "LedgerStore$State" "ledgers" "[LLedgerStore$Ledger;") ∈ LW := lw_mem (i := 129) (by decide +kernel) rfl
theorem k_it_RX1 : (Cond.instantiable RX1 6) ∈ LW := lw_mem (i := 37) (by decide +kernel) rfl
theorem k_in_RX1 : (Cond.initialized RX1) ∈ LW := lw_mem (i := 6) (by decide +kernel) rfl
theorem k_it_RX0 : (Cond.instantiable RX0 12) ∈ LW := lw_mem (i := 68) (by decide +kernel) rfl
theorem k_in_RX0 : (Cond.initialized RX0) ∈ LW := lw_mem (i := 7) (by decide +kernel) rfl
theorem k_im_yX1_init : (Cond.instanceMethod yX1_init) ∈ LW := lw_mem (i := 39) (by decide +kernel) rfl
theorem k_co_yX1_init : (Cond.code yX1_init cX1_init 1 none) ∈ LW := lw_mem (i := 40) (by decide +kernel) rfl
theorem k_ml_RX1_3 : (Cond.methodLink RX1 3 objectInit) ∈ LW := lw_mem (i := 41) (by decide +kernel) rfl
theorem k_fl_RX1_9 : (Cond.fieldLink RX1 9 "LedgerStore$Node" "stored" "[I") ∈ LW := lw_mem (i := 52) (by decide +kernel) rfl
theorem k_fl_RX1_15 : (Cond.fieldLink RX1 15 "LedgerStore$Node" "inbox" "[I") ∈ LW := lw_mem (i := 53) (by decide +kernel) rfl
theorem k_ml_RX3_24 : (Cond.methodLink RX3 24 yX0_init) ∈ LW := lw_mem (i := 69) (by decide +kernel) rfl
theorem k_im_yX0_init : (Cond.instanceMethod yX0_init) ∈ LW := lw_mem (i := 70) (by decide +kernel) rfl
theorem k_co_yX0_init : (Cond.code yX0_init cX0_init 2 none) ∈ LW := lw_mem (i := 71) (by decide +kernel) rfl
theorem k_ml_RX0_3 : (Cond.methodLink RX0 3 objectInit) ∈ LW := lw_mem (i := 72) (by decide +kernel) rfl
theorem k_fl_RX0_9 : (Cond.fieldLink RX0 9 "LedgerStore$Ledger" "payloads" "[I") ∈ LW := lw_mem (i := 93) (by decide +kernel) rfl
theorem k_fl_RX0_15 : (Cond.fieldLink RX0 15 "LedgerStore$Ledger" "acknowledgers" "[I") ∈ LW := lw_mem (i := 94) (by decide +kernel) rfl
theorem k_fl_RX0_18 : (Cond.fieldLink RX0 18 "LedgerStore$Ledger" "starts" "[I") ∈ LW := lw_mem (i := 95) (by decide +kernel) rfl
theorem k_fl_RX0_21 : (Cond.fieldLink RX0 21 "LedgerStore$Ledger" "members" "[I") ∈ LW := lw_mem (i := 96) (by decide +kernel) rfl
theorem k_fl_RX0_24 : (Cond.fieldLink RX0 24 "LedgerStore$Ledger" "number" "I") ∈ LW := lw_mem (i := 73) (by decide +kernel) rfl
theorem k_im_yX4_init : (Cond.instanceMethod yX4_init) ∈ LW := lw_mem (i := 144) (by decide +kernel) rfl
theorem k_co_yX4_init : (Cond.code yX4_init cX4_init 1 none) ∈ LW := lw_mem (i := 145) (by decide +kernel) rfl
theorem k_ml_RX4_3 : (Cond.methodLink RX4 3 objectInit) ∈ LW := lw_mem (i := 146) (by decide +kernel) rfl
theorem k_cl_RX4_9 : (Cond.classLink RX4 9 RX3) ∈ LW := lw_mem (i := 147) (by decide +kernel) rfl
theorem k_fl_RX4_11 : (Cond.fieldLink RX4 11 "LedgerStore$UndoStack" "ring" "[LLedgerStore$State;") ∈ LW := lw_mem (i := 152) (by decide +kernel) rfl
theorem k_ml_RL_78 : (Cond.methodLink RL 78 yL_cell) ∈ LW := lw_mem (i := 620) (by decide +kernel) rfl
theorem k_st_yL_cell : (Cond.static yL_cell) ∈ LW := lw_mem (i := 621) (by decide +kernel) rfl
theorem k_in_RL : (Cond.initialized RL) ∈ LW := lw_mem (i := 3) (by decide +kernel) rfl
theorem k_co_yL_cell : (Cond.code yL_cell cL_cell 2 (some .int)) ∈ LW := lw_mem (i := 622) (by decide +kernel) rfl
theorem k_ml_RL_82 : (Cond.methodLink RL 82 yL_low) ∈ LW := lw_mem (i := 623) (by decide +kernel) rfl
theorem k_st_yL_low : (Cond.static yL_low) ∈ LW := lw_mem (i := 624) (by decide +kernel) rfl
theorem k_co_yL_low : (Cond.code yL_low cL_low 2 (some .int)) ∈ LW := lw_mem (i := 625) (by decide +kernel) rfl
theorem k_ct_RL_7 : (Cond.constant RL 7 (2147483647)) ∈ LW := lw_mem (i := 626) (by decide +kernel) rfl
theorem k_ml_RL_85 : (Cond.methodLink RL 85 yX5_addNode) ∈ LW := lw_mem (i := 167) (by decide +kernel) rfl
theorem k_im_yX5_addNode : (Cond.instanceMethod yX5_addNode) ∈ LW := lw_mem (i := 168) (by decide +kernel) rfl
theorem k_se_yX5_addNode : (Cond.selects RX5 yX5_addNode yX5_addNode) ∈ LW := lw_mem (i := 169) (by decide +kernel) rfl
theorem k_co_yX5_addNode : (Cond.code yX5_addNode cX5_addNode 1 (some .int)) ∈ LW := lw_mem (i := 170) (by decide +kernel) rfl
theorem k_cl_RX5_27 : (Cond.classLink RX5 27 "java/lang/IllegalStateException") ∈ LW := lw_mem (i := 171) (by decide +kernel) rfl
theorem k_in_J_IllegalStateException : (Cond.initialized "java/lang/IllegalStateException") ∈ LW := lw_mem (i := 12) (by decide +kernel) rfl
theorem k_fl_RX5_23 : (Cond.fieldLink RX5 23 "LedgerStore$State" "nodeCount" "I") ∈ LW := lw_mem (i := 123) (by decide +kernel) rfl
theorem k_ml_RX5_34 : (Cond.methodLink RX5 34 yX4_push) ∈ LW := lw_mem (i := 238) (by decide +kernel) rfl
theorem k_im_yX4_push : (Cond.instanceMethod yX4_push) ∈ LW := lw_mem (i := 239) (by decide +kernel) rfl
theorem k_se_yX4_push : (Cond.selects RX4 yX4_push yX4_push) ∈ LW := lw_mem (i := 240) (by decide +kernel) rfl
theorem k_co_yX4_push : (Cond.code yX4_push cX4_push 3 none) ∈ LW := lw_mem (i := 241) (by decide +kernel) rfl
theorem k_fl_RX4_17 : (Cond.fieldLink RX4 17 "LedgerStore$UndoStack" "next" "I") ∈ LW := lw_mem (i := 151) (by decide +kernel) rfl
theorem k_fl_RX4_26 : (Cond.fieldLink RX4 26 "LedgerStore$UndoStack" "depth" "I") ∈ LW := lw_mem (i := 149) (by decide +kernel) rfl
theorem k_ml_RX4_29 : (Cond.methodLink RX4 29 Lib.Math.min.name) ∈ LW := lw_mem (i := 273) (by decide +kernel) rfl
theorem k_st_Lib_Math_min_name : (Cond.static Lib.Math.min.name) ∈ LW := lw_mem (i := 259) (by decide +kernel) rfl
theorem k_in_J_Math : (Cond.initialized "java/lang/Math") ∈ LW := lw_mem (i := 13) (by decide +kernel) rfl
theorem k_co_Lib_Math_min_name : (Cond.code Lib.Math.min.name Lib.Math.min.code 2 (some .int)) ∈ LW := lw_mem (i := 260) (by decide +kernel) rfl
theorem k_ml_RX4_21 : (Cond.methodLink RX4 21 yX3_init) ∈ LW := lw_mem (i := 242) (by decide +kernel) rfl
theorem k_ml_RX4_22 : (Cond.methodLink RX4 22 yX3_takeOver) ∈ LW := lw_mem (i := 243) (by decide +kernel) rfl
theorem k_im_yX3_takeOver : (Cond.instanceMethod yX3_takeOver) ∈ LW := lw_mem (i := 244) (by decide +kernel) rfl
theorem k_se_yX3_takeOver : (Cond.selects RX3 yX3_takeOver yX3_takeOver) ∈ LW := lw_mem (i := 245) (by decide +kernel) rfl
theorem k_co_yX3_takeOver : (Cond.code yX3_takeOver cX3_takeOver 5 none) ∈ LW := lw_mem (i := 246) (by decide +kernel) rfl
theorem k_fl_RX3_27 : (Cond.fieldLink RX3 27 "LedgerStore$State" "nodeCount" "I") ∈ LW := lw_mem (i := 122) (by decide +kernel) rfl
theorem k_fl_RX3_31 : (Cond.fieldLink RX3 31 "LedgerStore$State" "ledgerCount" "I") ∈ LW := lw_mem (i := 124) (by decide +kernel) rfl
theorem k_fl_RX3_34 : (Cond.fieldLink RX3 34 "LedgerStore$State" "rejected" "I") ∈ LW := lw_mem (i := 126) (by decide +kernel) rfl
theorem k_ml_RX3_37 : (Cond.methodLink RX3 37 yX3_node) ∈ LW := lw_mem (i := 247) (by decide +kernel) rfl
theorem k_im_yX3_node : (Cond.instanceMethod yX3_node) ∈ LW := lw_mem (i := 248) (by decide +kernel) rfl
theorem k_se_yX3_node : (Cond.selects RX3 yX3_node yX3_node) ∈ LW := lw_mem (i := 249) (by decide +kernel) rfl
theorem k_co_yX3_node : (Cond.code yX3_node cX3_node 2 (some (.object "LedgerStore$Node"))) ∈ LW := lw_mem (i := 250) (by decide +kernel) rfl
theorem k_ml_RX3_41 : (Cond.methodLink RX3 41 yX1_copyFrom) ∈ LW := lw_mem (i := 251) (by decide +kernel) rfl
theorem k_im_yX1_copyFrom : (Cond.instanceMethod yX1_copyFrom) ∈ LW := lw_mem (i := 252) (by decide +kernel) rfl
theorem k_se_yX1_copyFrom : (Cond.selects RX1 yX1_copyFrom yX1_copyFrom) ∈ LW := lw_mem (i := 253) (by decide +kernel) rfl
theorem k_co_yX1_copyFrom : (Cond.code yX1_copyFrom cX1_copyFrom 2 none) ∈ LW := lw_mem (i := 254) (by decide +kernel) rfl
theorem k_fl_RX1_18 : (Cond.fieldLink RX1 18 "LedgerStore$Node" "up" "Z") ∈ LW := lw_mem (i := 42) (by decide +kernel) rfl
theorem k_fl_RX1_22 : (Cond.fieldLink RX1 22 "LedgerStore$Node" "fences" "I") ∈ LW := lw_mem (i := 45) (by decide +kernel) rfl
theorem k_fl_RX1_26 : (Cond.fieldLink RX1 26 "LedgerStore$Node" "storedCount" "I") ∈ LW := lw_mem (i := 46) (by decide +kernel) rfl
theorem k_fl_RX1_29 : (Cond.fieldLink RX1 29 "LedgerStore$Node" "waiting" "I") ∈ LW := lw_mem (i := 49) (by decide +kernel) rfl
theorem k_st_yX5_copyRow : (Cond.static yX5_copyRow) ∈ LW := lw_mem (i := 256) (by decide +kernel) rfl
theorem k_co_yX5_copyRow : (Cond.code yX5_copyRow cX5_copyRow 2 none) ∈ LW := lw_mem (i := 257) (by decide +kernel) rfl
theorem k_ml_RX5_273 : (Cond.methodLink RX5 273 Lib.Math.min.name) ∈ LW := lw_mem (i := 258) (by decide +kernel) rfl
theorem k_ml_RX5_278 : (Cond.methodLink RX5 278 arraycopyName) ∈ LW := lw_mem (i := 261) (by decide +kernel) rfl
theorem k_na_arraycopyName : (Cond.native arraycopyName) ∈ LW := lw_mem (i := 263) (by decide +kernel) rfl
theorem k_st_arraycopyName : (Cond.static arraycopyName) ∈ LW := lw_mem (i := 262) (by decide +kernel) rfl
theorem k_in_J_System : (Cond.initialized "java/lang/System") ∈ LW := lw_mem (i := 14) (by decide +kernel) rfl
theorem k_ml_RX3_45 : (Cond.methodLink RX3 45 yX3_ledger) ∈ LW := lw_mem (i := 264) (by decide +kernel) rfl
theorem k_im_yX3_ledger : (Cond.instanceMethod yX3_ledger) ∈ LW := lw_mem (i := 265) (by decide +kernel) rfl
theorem k_se_yX3_ledger : (Cond.selects RX3 yX3_ledger yX3_ledger) ∈ LW := lw_mem (i := 266) (by decide +kernel) rfl
theorem k_co_yX3_ledger : (Cond.code yX3_ledger cX3_ledger 2 (some (.object "LedgerStore$Ledger"))) ∈ LW := lw_mem (i := 267) (by decide +kernel) rfl
theorem k_ml_RX3_49 : (Cond.methodLink RX3 49 yX0_copyFrom) ∈ LW := lw_mem (i := 268) (by decide +kernel) rfl
theorem k_im_yX0_copyFrom : (Cond.instanceMethod yX0_copyFrom) ∈ LW := lw_mem (i := 269) (by decide +kernel) rfl
theorem k_se_yX0_copyFrom : (Cond.selects RX0 yX0_copyFrom yX0_copyFrom) ∈ LW := lw_mem (i := 270) (by decide +kernel) rfl
theorem k_co_yX0_copyFrom : (Cond.code yX0_copyFrom cX0_copyFrom 2 none) ∈ LW := lw_mem (i := 271) (by decide +kernel) rfl
theorem k_fl_RX0_28 : (Cond.fieldLink RX0 28 "LedgerStore$Ledger" "ensembleSize" "I") ∈ LW := lw_mem (i := 75) (by decide +kernel) rfl
theorem k_fl_RX0_31 : (Cond.fieldLink RX0 31 "LedgerStore$Ledger" "writeQuorum" "I") ∈ LW := lw_mem (i := 78) (by decide +kernel) rfl
theorem k_fl_RX0_34 : (Cond.fieldLink RX0 34 "LedgerStore$Ledger" "ackQuorum" "I") ∈ LW := lw_mem (i := 80) (by decide +kernel) rfl
theorem k_fl_RX0_37 : (Cond.fieldLink RX0 37 "LedgerStore$Ledger" "phase" "I") ∈ LW := lw_mem (i := 82) (by decide +kernel) rfl
theorem k_fl_RX0_40 : (Cond.fieldLink RX0 40 "LedgerStore$Ledger" "entries" "I") ∈ LW := lw_mem (i := 85) (by decide +kernel) rfl
theorem k_fl_RX0_43 : (Cond.fieldLink RX0 43 "LedgerStore$Ledger" "lastEntry" "I") ∈ LW := lw_mem (i := 88) (by decide +kernel) rfl
theorem k_fl_RX0_46 : (Cond.fieldLink RX0 46 "LedgerStore$Ledger" "fragments" "I") ∈ LW := lw_mem (i := 90) (by decide +kernel) rfl
theorem k_ml_RX5_38 : (Cond.methodLink RX5 38 yX3_beginNode) ∈ LW := lw_mem (i := 274) (by decide +kernel) rfl
theorem k_im_yX3_beginNode : (Cond.instanceMethod yX3_beginNode) ∈ LW := lw_mem (i := 275) (by decide +kernel) rfl
theorem k_se_yX3_beginNode : (Cond.selects RX3 yX3_beginNode yX3_beginNode) ∈ LW := lw_mem (i := 276) (by decide +kernel) rfl
theorem k_co_yX3_beginNode : (Cond.code yX3_beginNode cX3_beginNode 3 (some .int)) ∈ LW := lw_mem (i := 277) (by decide +kernel) rfl
theorem k_ml_RX3_52 : (Cond.methodLink RX3 52 yX1_begin) ∈ LW := lw_mem (i := 278) (by decide +kernel) rfl
theorem k_im_yX1_begin : (Cond.instanceMethod yX1_begin) ∈ LW := lw_mem (i := 279) (by decide +kernel) rfl
theorem k_se_yX1_begin : (Cond.selects RX1 yX1_begin yX1_begin) ∈ LW := lw_mem (i := 280) (by decide +kernel) rfl
theorem k_co_yX1_begin : (Cond.code yX1_begin cX1_begin 1 none) ∈ LW := lw_mem (i := 281) (by decide +kernel) rfl
theorem k_ml_RX1_32 : (Cond.methodLink RX1 32 yJ7_fill_53178) ∈ LW := lw_mem (i := 282) (by decide +kernel) rfl
theorem k_st_yJ7_fill_53178 : (Cond.static yJ7_fill_53178) ∈ LW := lw_mem (i := 283) (by decide +kernel) rfl
theorem k_in_RJ7 : (Cond.initialized RJ7) ∈ LW := lw_mem (i := 15) (by decide +kernel) rfl
theorem k_co_yJ7_fill_53178 : (Cond.code yJ7_fill_53178 cJ7_fill_53178 4 none) ∈ LW := lw_mem (i := 284) (by decide +kernel) rfl
theorem k_ml_RL_88 : (Cond.methodLink RL 88 yL_tale) ∈ LW := lw_mem (i := 646) (by decide +kernel) rfl
theorem k_st_yL_tale : (Cond.static yL_tale) ∈ LW := lw_mem (i := 647) (by decide +kernel) rfl
theorem k_co_yL_tale : (Cond.code yL_tale cL_tale 7 (some .long)) ∈ LW := lw_mem (i := 648) (by decide +kernel) rfl
theorem k_ct_RL_28 : (Cond.constantLong RL 28 (31)) ∈ LW := lw_mem (i := 649) (by decide +kernel) rfl
theorem k_ct_RL_33 : (Cond.constantLong RL 33 (7)) ∈ LW := lw_mem (i := 654) (by decide +kernel) rfl
theorem k_ct_RL_38 : (Cond.constantLong RL 38 (3)) ∈ LW := lw_mem (i := 659) (by decide +kernel) rfl
theorem k_ct_RL_40 : (Cond.constantLong RL 40 (37)) ∈ LW := lw_mem (i := 660) (by decide +kernel) rfl
theorem k_ct_RL_45 : (Cond.constantLong RL 45 (5)) ∈ LW := lw_mem (i := 661) (by decide +kernel) rfl
theorem k_ct_RL_50 : (Cond.constantLong RL 50 (11)) ∈ LW := lw_mem (i := 662) (by decide +kernel) rfl
theorem k_ct_RL_55 : (Cond.constantLong RL 55 (13)) ∈ LW := lw_mem (i := 663) (by decide +kernel) rfl
theorem k_ct_RL_60 : (Cond.constantLong RL 60 (17)) ∈ LW := lw_mem (i := 676) (by decide +kernel) rfl
theorem k_ct_RL_62 : (Cond.constantLong RL 62 (41)) ∈ LW := lw_mem (i := 677) (by decide +kernel) rfl
theorem k_ct_RL_71 : (Cond.constantLong RL 71 (2)) ∈ LW := lw_mem (i := 692) (by decide +kernel) rfl
theorem k_ml_RL_24 : (Cond.methodLink RL 24 yX5_rejections) ∈ LW := lw_mem (i := 395) (by decide +kernel) rfl
theorem k_im_yX5_rejections : (Cond.instanceMethod yX5_rejections) ∈ LW := lw_mem (i := 396) (by decide +kernel) rfl
theorem k_se_yX5_rejections : (Cond.selects RX5 yX5_rejections yX5_rejections) ∈ LW := lw_mem (i := 397) (by decide +kernel) rfl
theorem k_co_yX5_rejections : (Cond.code yX5_rejections cX5_rejections 1 (some .int)) ∈ LW := lw_mem (i := 398) (by decide +kernel) rfl
theorem k_fl_RX5_87 : (Cond.fieldLink RX5 87 "LedgerStore$State" "rejected" "I") ∈ LW := lw_mem (i := 127) (by decide +kernel) rfl
theorem k_ml_RL_30 : (Cond.methodLink RL 30 yX5_weight) ∈ LW := lw_mem (i := 650) (by decide +kernel) rfl
theorem k_im_yX5_weight : (Cond.instanceMethod yX5_weight) ∈ LW := lw_mem (i := 651) (by decide +kernel) rfl
theorem k_se_yX5_weight : (Cond.selects RX5 yX5_weight yX5_weight) ∈ LW := lw_mem (i := 652) (by decide +kernel) rfl
theorem k_co_yX5_weight : (Cond.code yX5_weight cX5_weight 2 (some .int)) ∈ LW := lw_mem (i := 653) (by decide +kernel) rfl
theorem k_fl_RX5_59 : (Cond.fieldLink RX5 59 "LedgerStore$Node" "storedCount" "I") ∈ LW := lw_mem (i := 47) (by decide +kernel) rfl
theorem k_ml_RX5_42 : (Cond.methodLink RX5 42 yX5_existingNode) ∈ LW := lw_mem (i := 289) (by decide +kernel) rfl
theorem k_im_yX5_existingNode : (Cond.instanceMethod yX5_existingNode) ∈ LW := lw_mem (i := 291) (by decide +kernel) rfl
theorem k_se_yX5_existingNode : (Cond.selects RX5 yX5_existingNode yX5_existingNode) ∈ LW := lw_mem (i := 1) (by decide +kernel) rfl
theorem k_co_yX5_existingNode : (Cond.code yX5_existingNode cX5_existingNode 3 (some (.object "LedgerStore$Node"))) ∈ LW := lw_mem (i := 292) (by decide +kernel) rfl
theorem k_cl_RX5_90 : (Cond.classLink RX5 90 "java/lang/IllegalArgumentException") ∈ LW := lw_mem (i := 294) (by decide +kernel) rfl
theorem k_in_J_IllegalArgumentException : (Cond.initialized "java/lang/IllegalArgumentException") ∈ LW := lw_mem (i := 16) (by decide +kernel) rfl
theorem k_ml_RX5_224 : (Cond.methodLink RX5 224 yX3_node) ∈ LW := lw_mem (i := 293) (by decide +kernel) rfl
theorem k_ml_RL_35 : (Cond.methodLink RL 35 yX5_inboxLength) ∈ LW := lw_mem (i := 655) (by decide +kernel) rfl
theorem k_im_yX5_inboxLength : (Cond.instanceMethod yX5_inboxLength) ∈ LW := lw_mem (i := 656) (by decide +kernel) rfl
theorem k_se_yX5_inboxLength : (Cond.selects RX5 yX5_inboxLength yX5_inboxLength) ∈ LW := lw_mem (i := 657) (by decide +kernel) rfl
theorem k_co_yX5_inboxLength : (Cond.code yX5_inboxLength cX5_inboxLength 2 (some .int)) ∈ LW := lw_mem (i := 658) (by decide +kernel) rfl
theorem k_fl_RX5_54 : (Cond.fieldLink RX5 54 "LedgerStore$Node" "waiting" "I") ∈ LW := lw_mem (i := 50) (by decide +kernel) rfl
theorem k_ml_RL_42 : (Cond.methodLink RL 42 yX5_state) ∈ LW := lw_mem (i := 598) (by decide +kernel) rfl
theorem k_im_yX5_state : (Cond.instanceMethod yX5_state) ∈ LW := lw_mem (i := 599) (by decide +kernel) rfl
theorem k_se_yX5_state : (Cond.selects RX5 yX5_state yX5_state) ∈ LW := lw_mem (i := 600) (by decide +kernel) rfl
theorem k_co_yX5_state : (Cond.code yX5_state cX5_state 2 (some .int)) ∈ LW := lw_mem (i := 601) (by decide +kernel) rfl
theorem k_fl_RX5_120 : (Cond.fieldLink RX5 120 "LedgerStore$Ledger" "phase" "I") ∈ LW := lw_mem (i := 83) (by decide +kernel) rfl
theorem k_ml_RX5_80 : (Cond.methodLink RX5 80 yX5_existingLedger) ∈ LW := lw_mem (i := 445) (by decide +kernel) rfl
theorem k_im_yX5_existingLedger : (Cond.instanceMethod yX5_existingLedger) ∈ LW := lw_mem (i := 447) (by decide +kernel) rfl
theorem k_se_yX5_existingLedger : (Cond.selects RX5 yX5_existingLedger yX5_existingLedger) ∈ LW := lw_mem (i := 2) (by decide +kernel) rfl
theorem k_co_yX5_existingLedger : (Cond.code yX5_existingLedger cX5_existingLedger 3 (some (.object "LedgerStore$Ledger"))) ∈ LW := lw_mem (i := 448) (by decide +kernel) rfl
theorem k_ml_RX5_231 : (Cond.methodLink RX5 231 yX3_ledger) ∈ LW := lw_mem (i := 449) (by decide +kernel) rfl
theorem k_ml_RL_47 : (Cond.methodLink RL 47 yX5_lastReadable) ∈ LW := lw_mem (i := 602) (by decide +kernel) rfl
theorem k_im_yX5_lastReadable : (Cond.instanceMethod yX5_lastReadable) ∈ LW := lw_mem (i := 603) (by decide +kernel) rfl
theorem k_se_yX5_lastReadable : (Cond.selects RX5 yX5_lastReadable yX5_lastReadable) ∈ LW := lw_mem (i := 604) (by decide +kernel) rfl
theorem k_co_yX5_lastReadable : (Cond.code yX5_lastReadable cX5_lastReadable 2 (some .int)) ∈ LW := lw_mem (i := 605) (by decide +kernel) rfl
theorem k_ml_RX5_173 : (Cond.methodLink RX5 173 yX0_lastToRead) ∈ LW := lw_mem (i := 606) (by decide +kernel) rfl
theorem k_im_yX0_lastToRead : (Cond.instanceMethod yX0_lastToRead) ∈ LW := lw_mem (i := 593) (by decide +kernel) rfl
theorem k_se_yX0_lastToRead : (Cond.selects RX0 yX0_lastToRead yX0_lastToRead) ∈ LW := lw_mem (i := 594) (by decide +kernel) rfl
theorem k_co_yX0_lastToRead : (Cond.code yX0_lastToRead cX0_lastToRead 1 (some .int)) ∈ LW := lw_mem (i := 595) (by decide +kernel) rfl
theorem k_ml_RX0_82 : (Cond.methodLink RX0 82 yX0_lastConfirmed) ∈ LW := lw_mem (i := 596) (by decide +kernel) rfl
theorem k_im_yX0_lastConfirmed : (Cond.instanceMethod yX0_lastConfirmed) ∈ LW := lw_mem (i := 459) (by decide +kernel) rfl
theorem k_se_yX0_lastConfirmed : (Cond.selects RX0 yX0_lastConfirmed yX0_lastConfirmed) ∈ LW := lw_mem (i := 460) (by decide +kernel) rfl
theorem k_co_yX0_lastConfirmed : (Cond.code yX0_lastConfirmed cX0_lastConfirmed 2 (some .int)) ∈ LW := lw_mem (i := 461) (by decide +kernel) rfl
theorem k_ml_RX0_79 : (Cond.methodLink RX0 79 yX0_countAcknowledgers) ∈ LW := lw_mem (i := 462) (by decide +kernel) rfl
theorem k_im_yX0_countAcknowledgers : (Cond.instanceMethod yX0_countAcknowledgers) ∈ LW := lw_mem (i := 463) (by decide +kernel) rfl
theorem k_se_yX0_countAcknowledgers : (Cond.selects RX0 yX0_countAcknowledgers yX0_countAcknowledgers) ∈ LW := lw_mem (i := 464) (by decide +kernel) rfl
theorem k_co_yX0_countAcknowledgers : (Cond.code yX0_countAcknowledgers cX0_countAcknowledgers 2 (some .int)) ∈ LW := lw_mem (i := 465) (by decide +kernel) rfl
theorem k_ml_RX0_57 : (Cond.methodLink RX0 57 yJ6_bitCount_0f7a4) ∈ LW := lw_mem (i := 466) (by decide +kernel) rfl
theorem k_st_yJ6_bitCount_0f7a4 : (Cond.static yJ6_bitCount_0f7a4) ∈ LW := lw_mem (i := 413) (by decide +kernel) rfl
theorem k_in_RJ6 : (Cond.initialized RJ6) ∈ LW := lw_mem (i := 17) (by decide +kernel) rfl
theorem k_co_yJ6_bitCount_0f7a4 : (Cond.code yJ6_bitCount_0f7a4 cJ6_bitCount_0f7a4 1 (some .int)) ∈ LW := lw_mem (i := 414) (by decide +kernel) rfl
theorem k_ct_RJ6_265 : (Cond.constant RJ6 265 (1431655765)) ∈ LW := lw_mem (i := 415) (by decide +kernel) rfl
theorem k_ct_RJ6_266 : (Cond.constant RJ6 266 (858993459)) ∈ LW := lw_mem (i := 416) (by decide +kernel) rfl
theorem k_ct_RJ6_267 : (Cond.constant RJ6 267 (252645135)) ∈ LW := lw_mem (i := 417) (by decide +kernel) rfl
theorem k_ml_RL_52 : (Cond.methodLink RL 52 yX5_appended) ∈ LW := lw_mem (i := 607) (by decide +kernel) rfl
theorem k_im_yX5_appended : (Cond.instanceMethod yX5_appended) ∈ LW := lw_mem (i := 608) (by decide +kernel) rfl
theorem k_se_yX5_appended : (Cond.selects RX5 yX5_appended yX5_appended) ∈ LW := lw_mem (i := 609) (by decide +kernel) rfl
theorem k_co_yX5_appended : (Cond.code yX5_appended cX5_appended 2 (some .int)) ∈ LW := lw_mem (i := 610) (by decide +kernel) rfl
theorem k_fl_RX5_127 : (Cond.fieldLink RX5 127 "LedgerStore$Ledger" "entries" "I") ∈ LW := lw_mem (i := 86) (by decide +kernel) rfl
theorem k_ml_RL_57 : (Cond.methodLink RL 57 yX5_underReplicated) ∈ LW := lw_mem (i := 664) (by decide +kernel) rfl
theorem k_im_yX5_underReplicated : (Cond.instanceMethod yX5_underReplicated) ∈ LW := lw_mem (i := 665) (by decide +kernel) rfl
theorem k_se_yX5_underReplicated : (Cond.selects RX5 yX5_underReplicated yX5_underReplicated) ∈ LW := lw_mem (i := 666) (by decide +kernel) rfl
theorem k_co_yX5_underReplicated : (Cond.code yX5_underReplicated cX5_underReplicated 2 (some .int)) ∈ LW := lw_mem (i := 667) (by decide +kernel) rfl
theorem k_ml_RX5_209 : (Cond.methodLink RX5 209 yX3_countUnderReplicated) ∈ LW := lw_mem (i := 668) (by decide +kernel) rfl
theorem k_im_yX3_countUnderReplicated : (Cond.instanceMethod yX3_countUnderReplicated) ∈ LW := lw_mem (i := 669) (by decide +kernel) rfl
theorem k_se_yX3_countUnderReplicated : (Cond.selects RX3 yX3_countUnderReplicated yX3_countUnderReplicated) ∈ LW := lw_mem (i := 670) (by decide +kernel) rfl
theorem k_co_yX3_countUnderReplicated : (Cond.code yX3_countUnderReplicated cX3_countUnderReplicated 7 (some .int)) ∈ LW := lw_mem (i := 671) (by decide +kernel) rfl
theorem k_ml_RX3_229 : (Cond.methodLink RX3 229 Lib.Math.min.name) ∈ LW := lw_mem (i := 597) (by decide +kernel) rfl
theorem k_fl_RX3_127 : (Cond.fieldLink RX3 127 "LedgerStore$Ledger" "writeQuorum" "I") ∈ LW := lw_mem (i := 79) (by decide +kernel) rfl
theorem k_ml_RX3_189 : (Cond.methodLink RX3 189 yX3_upMask) ∈ LW := lw_mem (i := 540) (by decide +kernel) rfl
theorem k_im_yX3_upMask : (Cond.instanceMethod yX3_upMask) ∈ LW := lw_mem (i := 408) (by decide +kernel) rfl
theorem k_se_yX3_upMask : (Cond.selects RX3 yX3_upMask yX3_upMask) ∈ LW := lw_mem (i := 409) (by decide +kernel) rfl
theorem k_co_yX3_upMask : (Cond.code yX3_upMask cX3_upMask 3 (some .int)) ∈ LW := lw_mem (i := 410) (by decide +kernel) rfl
theorem k_ml_RX3_72 : (Cond.methodLink RX3 72 yX3_isUp) ∈ LW := lw_mem (i := 411) (by decide +kernel) rfl
theorem k_im_yX3_isUp : (Cond.instanceMethod yX3_isUp) ∈ LW := lw_mem (i := 392) (by decide +kernel) rfl
theorem k_se_yX3_isUp : (Cond.selects RX3 yX3_isUp yX3_isUp) ∈ LW := lw_mem (i := 393) (by decide +kernel) rfl
theorem k_co_yX3_isUp : (Cond.code yX3_isUp cX3_isUp 3 (some .boolean)) ∈ LW := lw_mem (i := 394) (by decide +kernel) rfl
theorem k_fl_RX3_68 : (Cond.fieldLink RX3 68 "LedgerStore$Node" "up" "Z") ∈ LW := lw_mem (i := 44) (by decide +kernel) rfl
theorem k_ml_RX3_226 : (Cond.methodLink RX3 226 yX0_lastToRead) ∈ LW := lw_mem (i := 592) (by decide +kernel) rfl
theorem k_ml_RX3_124 : (Cond.methodLink RX3 124 yX0_fragmentOf) ∈ LW := lw_mem (i := 474) (by decide +kernel) rfl
theorem k_im_yX0_fragmentOf : (Cond.instanceMethod yX0_fragmentOf) ∈ LW := lw_mem (i := 357) (by decide +kernel) rfl
theorem k_se_yX0_fragmentOf : (Cond.selects RX0 yX0_fragmentOf yX0_fragmentOf) ∈ LW := lw_mem (i := 358) (by decide +kernel) rfl
theorem k_co_yX0_fragmentOf : (Cond.code yX0_fragmentOf cX0_fragmentOf 4 (some .int)) ∈ LW := lw_mem (i := 359) (by decide +kernel) rfl
theorem k_ml_RX0_86 : (Cond.methodLink RX0 86 yX0_startOf) ∈ LW := lw_mem (i := 360) (by decide +kernel) rfl
theorem k_im_yX0_startOf : (Cond.instanceMethod yX0_startOf) ∈ LW := lw_mem (i := 361) (by decide +kernel) rfl
theorem k_se_yX0_startOf : (Cond.selects RX0 yX0_startOf yX0_startOf) ∈ LW := lw_mem (i := 362) (by decide +kernel) rfl
theorem k_co_yX0_startOf : (Cond.code yX0_startOf cX0_startOf 2 (some .int)) ∈ LW := lw_mem (i := 363) (by decide +kernel) rfl
theorem k_ml_RX3_156 : (Cond.methodLink RX3 156 yX0_writeSetMask) ∈ LW := lw_mem (i := 514) (by decide +kernel) rfl
theorem k_im_yX0_writeSetMask : (Cond.instanceMethod yX0_writeSetMask) ∈ LW := lw_mem (i := 365) (by decide +kernel) rfl
theorem k_se_yX0_writeSetMask : (Cond.selects RX0 yX0_writeSetMask yX0_writeSetMask) ∈ LW := lw_mem (i := 366) (by decide +kernel) rfl
theorem k_co_yX0_writeSetMask : (Cond.code yX0_writeSetMask cX0_writeSetMask 5 (some .int)) ∈ LW := lw_mem (i := 367) (by decide +kernel) rfl
theorem k_ml_RX0_98 : (Cond.methodLink RX0 98 yX0_writeSetNode) ∈ LW := lw_mem (i := 368) (by decide +kernel) rfl
theorem k_im_yX0_writeSetNode : (Cond.instanceMethod yX0_writeSetNode) ∈ LW := lw_mem (i := 369) (by decide +kernel) rfl
theorem k_se_yX0_writeSetNode : (Cond.selects RX0 yX0_writeSetNode yX0_writeSetNode) ∈ LW := lw_mem (i := 370) (by decide +kernel) rfl
theorem k_co_yX0_writeSetNode : (Cond.code yX0_writeSetNode cX0_writeSetNode 4 (some .int)) ∈ LW := lw_mem (i := 371) (by decide +kernel) rfl
theorem k_ml_RX0_92 : (Cond.methodLink RX0 92 yX0_nodeAt) ∈ LW := lw_mem (i := 372) (by decide +kernel) rfl
theorem k_im_yX0_nodeAt : (Cond.instanceMethod yX0_nodeAt) ∈ LW := lw_mem (i := 373) (by decide +kernel) rfl
theorem k_se_yX0_nodeAt : (Cond.selects RX0 yX0_nodeAt yX0_nodeAt) ∈ LW := lw_mem (i := 374) (by decide +kernel) rfl
theorem k_co_yX0_nodeAt : (Cond.code yX0_nodeAt cX0_nodeAt 4 (some .int)) ∈ LW := lw_mem (i := 375) (by decide +kernel) rfl
theorem k_ml_RX0_89 : (Cond.methodLink RX0 89 yX0_placeOf) ∈ LW := lw_mem (i := 376) (by decide +kernel) rfl
theorem k_st_yX0_placeOf : (Cond.static yX0_placeOf) ∈ LW := lw_mem (i := 377) (by decide +kernel) rfl
theorem k_co_yX0_placeOf : (Cond.code yX0_placeOf cX0_placeOf 3 (some .int)) ∈ LW := lw_mem (i := 378) (by decide +kernel) rfl
theorem k_ml_RX0_95 : (Cond.methodLink RX0 95 yX0_maskOf) ∈ LW := lw_mem (i := 379) (by decide +kernel) rfl
theorem k_st_yX0_maskOf : (Cond.static yX0_maskOf) ∈ LW := lw_mem (i := 380) (by decide +kernel) rfl
theorem k_co_yX0_maskOf : (Cond.code yX0_maskOf cX0_maskOf 1 (some .int)) ∈ LW := lw_mem (i := 381) (by decide +kernel) rfl
theorem k_ml_RX3_232 : (Cond.methodLink RX3 232 yX3_holderMask) ∈ LW := lw_mem (i := 672) (by decide +kernel) rfl
theorem k_im_yX3_holderMask : (Cond.instanceMethod yX3_holderMask) ∈ LW := lw_mem (i := 673) (by decide +kernel) rfl
theorem k_se_yX3_holderMask : (Cond.selects RX3 yX3_holderMask yX3_holderMask) ∈ LW := lw_mem (i := 674) (by decide +kernel) rfl
theorem k_co_yX3_holderMask : (Cond.code yX3_holderMask cX3_holderMask 6 (some .int)) ∈ LW := lw_mem (i := 675) (by decide +kernel) rfl
theorem k_fl_RX3_117 : (Cond.fieldLink RX3 117 "LedgerStore$Ledger" "number" "I") ∈ LW := lw_mem (i := 74) (by decide +kernel) rfl
theorem k_ml_RX3_217 : (Cond.methodLink RX3 217 yX1_holds) ∈ LW := lw_mem (i := 567) (by decide +kernel) rfl
theorem k_im_yX1_holds : (Cond.instanceMethod yX1_holds) ∈ LW := lw_mem (i := 568) (by decide +kernel) rfl
theorem k_se_yX1_holds : (Cond.selects RX1 yX1_holds yX1_holds) ∈ LW := lw_mem (i := 569) (by decide +kernel) rfl
theorem k_co_yX1_holds : (Cond.code yX1_holds cX1_holds 3 (some .boolean)) ∈ LW := lw_mem (i := 570) (by decide +kernel) rfl
theorem k_ml_RX1_65 : (Cond.methodLink RX1 65 yX1_storedParcel) ∈ LW := lw_mem (i := 550) (by decide +kernel) rfl
theorem k_im_yX1_storedParcel : (Cond.instanceMethod yX1_storedParcel) ∈ LW := lw_mem (i := 551) (by decide +kernel) rfl
theorem k_se_yX1_storedParcel : (Cond.selects RX1 yX1_storedParcel yX1_storedParcel) ∈ LW := lw_mem (i := 552) (by decide +kernel) rfl
theorem k_co_yX1_storedParcel : (Cond.code yX1_storedParcel cX1_storedParcel 4 (some .int)) ∈ LW := lw_mem (i := 553) (by decide +kernel) rfl
theorem k_ml_RX1_61 : (Cond.methodLink RX1 61 yX1_slotOf) ∈ LW := lw_mem (i := 348) (by decide +kernel) rfl
theorem k_st_yX1_slotOf : (Cond.static yX1_slotOf) ∈ LW := lw_mem (i := 349) (by decide +kernel) rfl
theorem k_co_yX1_slotOf : (Cond.code yX1_slotOf cX1_slotOf 3 (some .int)) ∈ LW := lw_mem (i := 350) (by decide +kernel) rfl
theorem k_ml_RX3_192 : (Cond.methodLink RX3 192 yJ6_bitCount_0f7a4) ∈ LW := lw_mem (i := 541) (by decide +kernel) rfl
theorem k_ml_RL_8 : (Cond.methodLink RL 8 yX5_fragmentCount) ∈ LW := lw_mem (i := 633) (by decide +kernel) rfl
theorem k_im_yX5_fragmentCount : (Cond.instanceMethod yX5_fragmentCount) ∈ LW := lw_mem (i := 634) (by decide +kernel) rfl
theorem k_se_yX5_fragmentCount : (Cond.selects RX5 yX5_fragmentCount yX5_fragmentCount) ∈ LW := lw_mem (i := 635) (by decide +kernel) rfl
theorem k_co_yX5_fragmentCount : (Cond.code yX5_fragmentCount cX5_fragmentCount 2 (some .int)) ∈ LW := lw_mem (i := 636) (by decide +kernel) rfl
theorem k_fl_RX5_196 : (Cond.fieldLink RX5 196 "LedgerStore$Ledger" "fragments" "I") ∈ LW := lw_mem (i := 92) (by decide +kernel) rfl
theorem k_ml_RL_64 : (Cond.methodLink RL 64 yX5_holders) ∈ LW := lw_mem (i := 678) (by decide +kernel) rfl
theorem k_im_yX5_holders : (Cond.instanceMethod yX5_holders) ∈ LW := lw_mem (i := 679) (by decide +kernel) rfl
theorem k_se_yX5_holders : (Cond.selects RX5 yX5_holders yX5_holders) ∈ LW := lw_mem (i := 680) (by decide +kernel) rfl
theorem k_co_yX5_holders : (Cond.code yX5_holders cX5_holders 4 (some .int)) ∈ LW := lw_mem (i := 681) (by decide +kernel) rfl
theorem k_ml_RX5_186 : (Cond.methodLink RX5 186 yX5_requireAppended) ∈ LW := lw_mem (i := 682) (by decide +kernel) rfl
theorem k_st_yX5_requireAppended : (Cond.static yX5_requireAppended) ∈ LW := lw_mem (i := 683) (by decide +kernel) rfl
theorem k_co_yX5_requireAppended : (Cond.code yX5_requireAppended cX5_requireAppended 2 none) ∈ LW := lw_mem (i := 684) (by decide +kernel) rfl
theorem k_ml_RX5_193 : (Cond.methodLink RX5 193 yX3_holderMask) ∈ LW := lw_mem (i := 686) (by decide +kernel) rfl
theorem k_ml_RL_68 : (Cond.methodLink RL 68 yX5_acknowledgements) ∈ LW := lw_mem (i := 687) (by decide +kernel) rfl
theorem k_im_yX5_acknowledgements : (Cond.instanceMethod yX5_acknowledgements) ∈ LW := lw_mem (i := 688) (by decide +kernel) rfl
theorem k_se_yX5_acknowledgements : (Cond.selects RX5 yX5_acknowledgements yX5_acknowledgements) ∈ LW := lw_mem (i := 689) (by decide +kernel) rfl
theorem k_co_yX5_acknowledgements : (Cond.code yX5_acknowledgements cX5_acknowledgements 4 (some .int)) ∈ LW := lw_mem (i := 690) (by decide +kernel) rfl
theorem k_ml_RX5_190 : (Cond.methodLink RX5 190 yX0_countAcknowledgers) ∈ LW := lw_mem (i := 691) (by decide +kernel) rfl
theorem k_ml_RL_73 : (Cond.methodLink RL 73 yX5_isFenced) ∈ LW := lw_mem (i := 693) (by decide +kernel) rfl
theorem k_im_yX5_isFenced : (Cond.instanceMethod yX5_isFenced) ∈ LW := lw_mem (i := 694) (by decide +kernel) rfl
theorem k_se_yX5_isFenced : (Cond.selects RX5 yX5_isFenced yX5_isFenced) ∈ LW := lw_mem (i := 695) (by decide +kernel) rfl
theorem k_co_yX5_isFenced : (Cond.code yX5_isFenced cX5_isFenced 4 (some .boolean)) ∈ LW := lw_mem (i := 696) (by decide +kernel) rfl
theorem k_ml_RX5_84 : (Cond.methodLink RX5 84 yX1_isFencedFor) ∈ LW := lw_mem (i := 697) (by decide +kernel) rfl
theorem k_im_yX1_isFencedFor : (Cond.instanceMethod yX1_isFencedFor) ∈ LW := lw_mem (i := 334) (by decide +kernel) rfl
theorem k_se_yX1_isFencedFor : (Cond.selects RX1 yX1_isFencedFor yX1_isFencedFor) ∈ LW := lw_mem (i := 335) (by decide +kernel) rfl
theorem k_co_yX1_isFencedFor : (Cond.code yX1_isFencedFor cX1_isFencedFor 2 (some .boolean)) ∈ LW := lw_mem (i := 336) (by decide +kernel) rfl
theorem k_st_yX5_contains : (Cond.static yX5_contains) ∈ LW := lw_mem (i := 338) (by decide +kernel) rfl
theorem k_co_yX5_contains : (Cond.code yX5_contains cX5_contains 2 (some .boolean)) ∈ LW := lw_mem (i := 339) (by decide +kernel) rfl
theorem k_ml_RL_92 : (Cond.methodLink RL 92 yX5_createLedger) ∈ LW := lw_mem (i := 399) (by decide +kernel) rfl
theorem k_im_yX5_createLedger : (Cond.instanceMethod yX5_createLedger) ∈ LW := lw_mem (i := 400) (by decide +kernel) rfl
theorem k_se_yX5_createLedger : (Cond.selects RX5 yX5_createLedger yX5_createLedger) ∈ LW := lw_mem (i := 401) (by decide +kernel) rfl
theorem k_co_yX5_createLedger : (Cond.code yX5_createLedger cX5_createLedger 4 (some .int)) ∈ LW := lw_mem (i := 402) (by decide +kernel) rfl
theorem k_fl_RX5_99 : (Cond.fieldLink RX5 99 "LedgerStore$State" "ledgerCount" "I") ∈ LW := lw_mem (i := 125) (by decide +kernel) rfl
theorem k_ml_RX5_104 : (Cond.methodLink RX5 104 yX3_upMask) ∈ LW := lw_mem (i := 407) (by decide +kernel) rfl
theorem k_ml_RX5_107 : (Cond.methodLink RX5 107 yJ6_bitCount_0f7a4) ∈ LW := lw_mem (i := 412) (by decide +kernel) rfl
theorem k_ml_RX5_114 : (Cond.methodLink RX5 114 yX3_beginLedger) ∈ LW := lw_mem (i := 419) (by decide +kernel) rfl
theorem k_im_yX3_beginLedger : (Cond.instanceMethod yX3_beginLedger) ∈ LW := lw_mem (i := 420) (by decide +kernel) rfl
theorem k_se_yX3_beginLedger : (Cond.selects RX3 yX3_beginLedger yX3_beginLedger) ∈ LW := lw_mem (i := 421) (by decide +kernel) rfl
theorem k_co_yX3_beginLedger : (Cond.code yX3_beginLedger cX3_beginLedger 7 (some .int)) ∈ LW := lw_mem (i := 422) (by decide +kernel) rfl
theorem k_ml_RX3_55 : (Cond.methodLink RX3 55 yX0_begin) ∈ LW := lw_mem (i := 423) (by decide +kernel) rfl
theorem k_im_yX0_begin : (Cond.instanceMethod yX0_begin) ∈ LW := lw_mem (i := 424) (by decide +kernel) rfl
theorem k_se_yX0_begin : (Cond.selects RX0 yX0_begin yX0_begin) ∈ LW := lw_mem (i := 425) (by decide +kernel) rfl
theorem k_co_yX0_begin : (Cond.code yX0_begin cX0_begin 5 none) ∈ LW := lw_mem (i := 426) (by decide +kernel) rfl
theorem k_ml_RX0_49 : (Cond.methodLink RX0 49 yX0_setNode) ∈ LW := lw_mem (i := 427) (by decide +kernel) rfl
theorem k_im_yX0_setNode : (Cond.instanceMethod yX0_setNode) ∈ LW := lw_mem (i := 428) (by decide +kernel) rfl
theorem k_se_yX0_setNode : (Cond.selects RX0 yX0_setNode yX0_setNode) ∈ LW := lw_mem (i := 429) (by decide +kernel) rfl
theorem k_co_yX0_setNode : (Cond.code yX0_setNode cX0_setNode 5 none) ∈ LW := lw_mem (i := 430) (by decide +kernel) rfl
theorem k_ml_RX3_58 : (Cond.methodLink RX3 58 yX0_ensembleMask) ∈ LW := lw_mem (i := 431) (by decide +kernel) rfl
theorem k_im_yX0_ensembleMask : (Cond.instanceMethod yX0_ensembleMask) ∈ LW := lw_mem (i := 432) (by decide +kernel) rfl
theorem k_se_yX0_ensembleMask : (Cond.selects RX0 yX0_ensembleMask yX0_ensembleMask) ∈ LW := lw_mem (i := 433) (by decide +kernel) rfl
theorem k_co_yX0_ensembleMask : (Cond.code yX0_ensembleMask cX0_ensembleMask 4 (some .int)) ∈ LW := lw_mem (i := 434) (by decide +kernel) rfl
theorem k_ml_RX3_62 : (Cond.methodLink RX3 62 yX3_choose) ∈ LW := lw_mem (i := 435) (by decide +kernel) rfl
theorem k_im_yX3_choose : (Cond.instanceMethod yX3_choose) ∈ LW := lw_mem (i := 436) (by decide +kernel) rfl
theorem k_se_yX3_choose : (Cond.selects RX3 yX3_choose yX3_choose) ∈ LW := lw_mem (i := 437) (by decide +kernel) rfl
theorem k_co_yX3_choose : (Cond.code yX3_choose cX3_choose 6 (some .int)) ∈ LW := lw_mem (i := 438) (by decide +kernel) rfl
theorem k_fl_RX3_76 : (Cond.fieldLink RX3 76 "LedgerStore$Node" "storedCount" "I") ∈ LW := lw_mem (i := 48) (by decide +kernel) rfl
theorem k_ml_RX3_65 : (Cond.methodLink RX3 65 yX0_setNode) ∈ LW := lw_mem (i := 440) (by decide +kernel) rfl
theorem k_ml_RL_95 : (Cond.methodLink RL 95 yX5_crash) ∈ LW := lw_mem (i := 285) (by decide +kernel) rfl
theorem k_im_yX5_crash : (Cond.instanceMethod yX5_crash) ∈ LW := lw_mem (i := 286) (by decide +kernel) rfl
theorem k_se_yX5_crash : (Cond.selects RX5 yX5_crash yX5_crash) ∈ LW := lw_mem (i := 287) (by decide +kernel) rfl
theorem k_co_yX5_crash : (Cond.code yX5_crash cX5_crash 4 (some .int)) ∈ LW := lw_mem (i := 288) (by decide +kernel) rfl
theorem k_fl_RX5_46 : (Cond.fieldLink RX5 46 "LedgerStore$Node" "up" "Z") ∈ LW := lw_mem (i := 43) (by decide +kernel) rfl
theorem k_ml_RL_98 : (Cond.methodLink RL 98 yX5_restart) ∈ LW := lw_mem (i := 311) (by decide +kernel) rfl
theorem k_im_yX5_restart : (Cond.instanceMethod yX5_restart) ∈ LW := lw_mem (i := 312) (by decide +kernel) rfl
theorem k_se_yX5_restart : (Cond.selects RX5 yX5_restart yX5_restart) ∈ LW := lw_mem (i := 313) (by decide +kernel) rfl
theorem k_co_yX5_restart : (Cond.code yX5_restart cX5_restart 3 (some .int)) ∈ LW := lw_mem (i := 314) (by decide +kernel) rfl
theorem k_ml_RL_101 : (Cond.methodLink RL 101 yX5_deliver) ∈ LW := lw_mem (i := 316) (by decide +kernel) rfl
theorem k_im_yX5_deliver : (Cond.instanceMethod yX5_deliver) ∈ LW := lw_mem (i := 317) (by decide +kernel) rfl
theorem k_se_yX5_deliver : (Cond.selects RX5 yX5_deliver yX5_deliver) ∈ LW := lw_mem (i := 318) (by decide +kernel) rfl
theorem k_co_yX5_deliver : (Cond.code yX5_deliver cX5_deliver 3 (some .int)) ∈ LW := lw_mem (i := 319) (by decide +kernel) rfl
theorem k_ml_RX5_64 : (Cond.methodLink RX5 64 yX3_processOldest) ∈ LW := lw_mem (i := 321) (by decide +kernel) rfl
theorem k_im_yX3_processOldest : (Cond.instanceMethod yX3_processOldest) ∈ LW := lw_mem (i := 322) (by decide +kernel) rfl
theorem k_se_yX3_processOldest : (Cond.selects RX3 yX3_processOldest yX3_processOldest) ∈ LW := lw_mem (i := 323) (by decide +kernel) rfl
theorem k_co_yX3_processOldest : (Cond.code yX3_processOldest cX3_processOldest 6 (some .int)) ∈ LW := lw_mem (i := 324) (by decide +kernel) rfl
theorem k_ml_RX3_86 : (Cond.methodLink RX3 86 yX1_takeOldest) ∈ LW := lw_mem (i := 325) (by decide +kernel) rfl
theorem k_im_yX1_takeOldest : (Cond.instanceMethod yX1_takeOldest) ∈ LW := lw_mem (i := 326) (by decide +kernel) rfl
theorem k_se_yX1_takeOldest : (Cond.selects RX1 yX1_takeOldest yX1_takeOldest) ∈ LW := lw_mem (i := 327) (by decide +kernel) rfl
theorem k_co_yX1_takeOldest : (Cond.code yX1_takeOldest cX1_takeOldest 2 (some .int)) ∈ LW := lw_mem (i := 328) (by decide +kernel) rfl
theorem k_ml_RX1_46 : (Cond.methodLink RX1 46 arraycopyName) ∈ LW := lw_mem (i := 329) (by decide +kernel) rfl
theorem k_ml_RX3_90 : (Cond.methodLink RX3 90 yX2_ledgerOf) ∈ LW := lw_mem (i := 330) (by decide +kernel) rfl
theorem k_st_yX2_ledgerOf : (Cond.static yX2_ledgerOf) ∈ LW := lw_mem (i := 331) (by decide +kernel) rfl
theorem k_in_RX2 : (Cond.initialized RX2) ∈ LW := lw_mem (i := 18) (by decide +kernel) rfl
theorem k_co_yX2_ledgerOf : (Cond.code yX2_ledgerOf cX2_ledgerOf 1 (some .int)) ∈ LW := lw_mem (i := 332) (by decide +kernel) rfl
theorem k_ml_RX3_95 : (Cond.methodLink RX3 95 yX1_isFencedFor) ∈ LW := lw_mem (i := 333) (by decide +kernel) rfl
theorem k_ml_RX3_98 : (Cond.methodLink RX3 98 yX1_keep) ∈ LW := lw_mem (i := 340) (by decide +kernel) rfl
theorem k_im_yX1_keep : (Cond.instanceMethod yX1_keep) ∈ LW := lw_mem (i := 341) (by decide +kernel) rfl
theorem k_se_yX1_keep : (Cond.selects RX1 yX1_keep yX1_keep) ∈ LW := lw_mem (i := 342) (by decide +kernel) rfl
theorem k_co_yX1_keep : (Cond.code yX1_keep cX1_keep 3 none) ∈ LW := lw_mem (i := 343) (by decide +kernel) rfl
theorem k_ml_RX1_52 : (Cond.methodLink RX1 52 yX2_ledgerOf) ∈ LW := lw_mem (i := 344) (by decide +kernel) rfl
theorem k_ml_RX1_58 : (Cond.methodLink RX1 58 yX2_entryOf) ∈ LW := lw_mem (i := 345) (by decide +kernel) rfl
theorem k_st_yX2_entryOf : (Cond.static yX2_entryOf) ∈ LW := lw_mem (i := 346) (by decide +kernel) rfl
theorem k_co_yX2_entryOf : (Cond.code yX2_entryOf cX2_entryOf 1 (some .int)) ∈ LW := lw_mem (i := 347) (by decide +kernel) rfl
theorem k_ml_RX3_101 : (Cond.methodLink RX3 101 yX2_entryOf) ∈ LW := lw_mem (i := 351) (by decide +kernel) rfl
theorem k_ml_RX3_104 : (Cond.methodLink RX3 104 yX0_acknowledge) ∈ LW := lw_mem (i := 352) (by decide +kernel) rfl
theorem k_im_yX0_acknowledge : (Cond.instanceMethod yX0_acknowledge) ∈ LW := lw_mem (i := 353) (by decide +kernel) rfl
theorem k_se_yX0_acknowledge : (Cond.selects RX0 yX0_acknowledge yX0_acknowledge) ∈ LW := lw_mem (i := 354) (by decide +kernel) rfl
theorem k_co_yX0_acknowledge : (Cond.code yX0_acknowledge cX0_acknowledge 3 none) ∈ LW := lw_mem (i := 355) (by decide +kernel) rfl
theorem k_ml_RX0_63 : (Cond.methodLink RX0 63 yX0_fragmentOf) ∈ LW := lw_mem (i := 356) (by decide +kernel) rfl
theorem k_ml_RX0_66 : (Cond.methodLink RX0 66 yX0_writeSetMask) ∈ LW := lw_mem (i := 364) (by decide +kernel) rfl
theorem k_ml_RL_104 : (Cond.methodLink RL 104 yL_canReplace) ∈ LW := lw_mem (i := 627) (by decide +kernel) rfl
theorem k_st_yL_canReplace : (Cond.static yL_canReplace) ∈ LW := lw_mem (i := 628) (by decide +kernel) rfl
theorem k_co_yL_canReplace : (Cond.code yL_canReplace cL_canReplace 7 (some .boolean)) ∈ LW := lw_mem (i := 629) (by decide +kernel) rfl
theorem k_ml_RL_18 : (Cond.methodLink RL 18 yL_isMember) ∈ LW := lw_mem (i := 630) (by decide +kernel) rfl
theorem k_st_yL_isMember : (Cond.static yL_isMember) ∈ LW := lw_mem (i := 631) (by decide +kernel) rfl
theorem k_co_yL_isMember : (Cond.code yL_isMember cL_isMember 6 (some .boolean)) ∈ LW := lw_mem (i := 632) (by decide +kernel) rfl
theorem k_ml_RL_14 : (Cond.methodLink RL 14 yX5_member) ∈ LW := lw_mem (i := 637) (by decide +kernel) rfl
theorem k_im_yX5_member : (Cond.instanceMethod yX5_member) ∈ LW := lw_mem (i := 638) (by decide +kernel) rfl
theorem k_se_yX5_member : (Cond.selects RX5 yX5_member yX5_member) ∈ LW := lw_mem (i := 639) (by decide +kernel) rfl
theorem k_co_yX5_member : (Cond.code yX5_member cX5_member 5 (some .int)) ∈ LW := lw_mem (i := 640) (by decide +kernel) rfl
theorem k_fl_RX5_136 : (Cond.fieldLink RX5 136 "LedgerStore$Ledger" "ensembleSize" "I") ∈ LW := lw_mem (i := 76) (by decide +kernel) rfl
theorem k_ml_RX5_199 : (Cond.methodLink RX5 199 yX5_requireFragment) ∈ LW := lw_mem (i := 641) (by decide +kernel) rfl
theorem k_st_yX5_requireFragment : (Cond.static yX5_requireFragment) ∈ LW := lw_mem (i := 642) (by decide +kernel) rfl
theorem k_co_yX5_requireFragment : (Cond.code yX5_requireFragment cX5_requireFragment 2 none) ∈ LW := lw_mem (i := 643) (by decide +kernel) rfl
theorem k_ml_RX5_205 : (Cond.methodLink RX5 205 yX0_nodeAt) ∈ LW := lw_mem (i := 645) (by decide +kernel) rfl
theorem k_ml_RL_108 : (Cond.methodLink RL 108 yX5_replace) ∈ LW := lw_mem (i := 484) (by decide +kernel) rfl
theorem k_im_yX5_replace : (Cond.instanceMethod yX5_replace) ∈ LW := lw_mem (i := 485) (by decide +kernel) rfl
theorem k_se_yX5_replace : (Cond.selects RX5 yX5_replace yX5_replace) ∈ LW := lw_mem (i := 486) (by decide +kernel) rfl
theorem k_co_yX5_replace : (Cond.code yX5_replace cX5_replace 5 (some .int)) ∈ LW := lw_mem (i := 487) (by decide +kernel) rfl
theorem k_ml_RX5_141 : (Cond.methodLink RX5 141 yX0_lastFragment) ∈ LW := lw_mem (i := 489) (by decide +kernel) rfl
theorem k_im_yX0_lastFragment : (Cond.instanceMethod yX0_lastFragment) ∈ LW := lw_mem (i := 490) (by decide +kernel) rfl
theorem k_se_yX0_lastFragment : (Cond.selects RX0 yX0_lastFragment yX0_lastFragment) ∈ LW := lw_mem (i := 491) (by decide +kernel) rfl
theorem k_co_yX0_lastFragment : (Cond.code yX0_lastFragment cX0_lastFragment 1 (some .int)) ∈ LW := lw_mem (i := 492) (by decide +kernel) rfl
theorem k_ml_RX5_144 : (Cond.methodLink RX5 144 yX0_ensembleMask) ∈ LW := lw_mem (i := 493) (by decide +kernel) rfl
theorem k_ml_RX5_147 : (Cond.methodLink RX5 147 yX3_choose) ∈ LW := lw_mem (i := 494) (by decide +kernel) rfl
theorem k_ml_RX5_152 : (Cond.methodLink RX5 152 yX3_changeEnsemble) ∈ LW := lw_mem (i := 496) (by decide +kernel) rfl
theorem k_im_yX3_changeEnsemble : (Cond.instanceMethod yX3_changeEnsemble) ∈ LW := lw_mem (i := 497) (by decide +kernel) rfl
theorem k_se_yX3_changeEnsemble : (Cond.selects RX3 yX3_changeEnsemble yX3_changeEnsemble) ∈ LW := lw_mem (i := 498) (by decide +kernel) rfl
theorem k_co_yX3_changeEnsemble : (Cond.code yX3_changeEnsemble cX3_changeEnsemble 8 none) ∈ LW := lw_mem (i := 499) (by decide +kernel) rfl
theorem k_fl_RX3_153 : (Cond.fieldLink RX3 153 "LedgerStore$Ledger" "entries" "I") ∈ LW := lw_mem (i := 87) (by decide +kernel) rfl
theorem k_ml_RX3_111 : (Cond.methodLink RX3 111 yX0_lastConfirmed) ∈ LW := lw_mem (i := 458) (by decide +kernel) rfl
theorem k_ml_RX3_137 : (Cond.methodLink RX3 137 yX0_lastFragment) ∈ LW := lw_mem (i := 500) (by decide +kernel) rfl
theorem k_ml_RX3_140 : (Cond.methodLink RX3 140 yX0_nodeAt) ∈ LW := lw_mem (i := 501) (by decide +kernel) rfl
theorem k_ml_RX3_144 : (Cond.methodLink RX3 144 yX0_startOf) ∈ LW := lw_mem (i := 502) (by decide +kernel) rfl
theorem k_ml_RX3_147 : (Cond.methodLink RX3 147 yX0_addFragment) ∈ LW := lw_mem (i := 503) (by decide +kernel) rfl
theorem k_im_yX0_addFragment : (Cond.instanceMethod yX0_addFragment) ∈ LW := lw_mem (i := 504) (by decide +kernel) rfl
theorem k_se_yX0_addFragment : (Cond.selects RX0 yX0_addFragment yX0_addFragment) ∈ LW := lw_mem (i := 505) (by decide +kernel) rfl
theorem k_co_yX0_addFragment : (Cond.code yX0_addFragment cX0_addFragment 4 none) ∈ LW := lw_mem (i := 506) (by decide +kernel) rfl
theorem k_ml_RX3_150 : (Cond.methodLink RX3 150 yX0_forgetAcknowledgements) ∈ LW := lw_mem (i := 507) (by decide +kernel) rfl
theorem k_im_yX0_forgetAcknowledgements : (Cond.instanceMethod yX0_forgetAcknowledgements) ∈ LW := lw_mem (i := 508) (by decide +kernel) rfl
theorem k_se_yX0_forgetAcknowledgements : (Cond.selects RX0 yX0_forgetAcknowledgements yX0_forgetAcknowledgements) ∈ LW := lw_mem (i := 509) (by decide +kernel) rfl
theorem k_co_yX0_forgetAcknowledgements : (Cond.code yX0_forgetAcknowledgements cX0_forgetAcknowledgements 4 none) ∈ LW := lw_mem (i := 510) (by decide +kernel) rfl
theorem k_ml_RX0_74 : (Cond.methodLink RX0 74 Lib.Math.max.name) ∈ LW := lw_mem (i := 511) (by decide +kernel) rfl
theorem k_st_Lib_Math_max_name : (Cond.static Lib.Math.max.name) ∈ LW := lw_mem (i := 512) (by decide +kernel) rfl
theorem k_co_Lib_Math_max_name : (Cond.code Lib.Math.max.name Lib.Math.max.code 2 (some .int)) ∈ LW := lw_mem (i := 513) (by decide +kernel) rfl
theorem k_ml_RX3_159 : (Cond.methodLink RX3 159 yX0_payloadOf) ∈ LW := lw_mem (i := 515) (by decide +kernel) rfl
theorem k_im_yX0_payloadOf : (Cond.instanceMethod yX0_payloadOf) ∈ LW := lw_mem (i := 516) (by decide +kernel) rfl
theorem k_se_yX0_payloadOf : (Cond.selects RX0 yX0_payloadOf yX0_payloadOf) ∈ LW := lw_mem (i := 517) (by decide +kernel) rfl
theorem k_co_yX0_payloadOf : (Cond.code yX0_payloadOf cX0_payloadOf 2 (some .int)) ∈ LW := lw_mem (i := 518) (by decide +kernel) rfl
theorem k_ml_RX3_120 : (Cond.methodLink RX3 120 yX2_of) ∈ LW := lw_mem (i := 471) (by decide +kernel) rfl
theorem k_st_yX2_of : (Cond.static yX2_of) ∈ LW := lw_mem (i := 472) (by decide +kernel) rfl
theorem k_co_yX2_of : (Cond.code yX2_of cX2_of 4 (some .int)) ∈ LW := lw_mem (i := 473) (by decide +kernel) rfl
theorem k_ml_RX3_134 : (Cond.methodLink RX3 134 yX3_send) ∈ LW := lw_mem (i := 476) (by decide +kernel) rfl
theorem k_im_yX3_send : (Cond.instanceMethod yX3_send) ∈ LW := lw_mem (i := 477) (by decide +kernel) rfl
theorem k_se_yX3_send : (Cond.selects RX3 yX3_send yX3_send) ∈ LW := lw_mem (i := 478) (by decide +kernel) rfl
theorem k_co_yX3_send : (Cond.code yX3_send cX3_send 4 none) ∈ LW := lw_mem (i := 479) (by decide +kernel) rfl
theorem k_ml_RX3_83 : (Cond.methodLink RX3 83 yX1_receive) ∈ LW := lw_mem (i := 480) (by decide +kernel) rfl
theorem k_im_yX1_receive : (Cond.instanceMethod yX1_receive) ∈ LW := lw_mem (i := 481) (by decide +kernel) rfl
theorem k_se_yX1_receive : (Cond.selects RX1 yX1_receive yX1_receive) ∈ LW := lw_mem (i := 482) (by decide +kernel) rfl
theorem k_co_yX1_receive : (Cond.code yX1_receive cX1_receive 2 none) ∈ LW := lw_mem (i := 483) (by decide +kernel) rfl
theorem k_ml_RL_111 : (Cond.methodLink RL 111 yX5_recover) ∈ LW := lw_mem (i := 519) (by decide +kernel) rfl
theorem k_im_yX5_recover : (Cond.instanceMethod yX5_recover) ∈ LW := lw_mem (i := 520) (by decide +kernel) rfl
theorem k_se_yX5_recover : (Cond.selects RX5 yX5_recover yX5_recover) ∈ LW := lw_mem (i := 521) (by decide +kernel) rfl
theorem k_co_yX5_recover : (Cond.code yX5_recover cX5_recover 3 (some .int)) ∈ LW := lw_mem (i := 522) (by decide +kernel) rfl
theorem k_ml_RX5_158 : (Cond.methodLink RX5 158 yX3_recoverLedger) ∈ LW := lw_mem (i := 524) (by decide +kernel) rfl
theorem k_im_yX3_recoverLedger : (Cond.instanceMethod yX3_recoverLedger) ∈ LW := lw_mem (i := 525) (by decide +kernel) rfl
theorem k_se_yX3_recoverLedger : (Cond.selects RX3 yX3_recoverLedger yX3_recoverLedger) ∈ LW := lw_mem (i := 526) (by decide +kernel) rfl
theorem k_co_yX3_recoverLedger : (Cond.code yX3_recoverLedger cX3_recoverLedger 3 (some .int)) ∈ LW := lw_mem (i := 527) (by decide +kernel) rfl
theorem k_fl_RX3_162 : (Cond.fieldLink RX3 162 "LedgerStore$Ledger" "phase" "I") ∈ LW := lw_mem (i := 84) (by decide +kernel) rfl
theorem k_fl_RX3_180 : (Cond.fieldLink RX3 180 "LedgerStore$Ledger" "lastEntry" "I") ∈ LW := lw_mem (i := 89) (by decide +kernel) rfl
theorem k_ml_RX3_165 : (Cond.methodLink RX3 165 yX3_fenceLastEnsemble) ∈ LW := lw_mem (i := 528) (by decide +kernel) rfl
theorem k_im_yX3_fenceLastEnsemble : (Cond.instanceMethod yX3_fenceLastEnsemble) ∈ LW := lw_mem (i := 529) (by decide +kernel) rfl
theorem k_se_yX3_fenceLastEnsemble : (Cond.selects RX3 yX3_fenceLastEnsemble yX3_fenceLastEnsemble) ∈ LW := lw_mem (i := 530) (by decide +kernel) rfl
theorem k_co_yX3_fenceLastEnsemble : (Cond.code yX3_fenceLastEnsemble cX3_fenceLastEnsemble 4 none) ∈ LW := lw_mem (i := 531) (by decide +kernel) rfl
theorem k_fl_RX3_183 : (Cond.fieldLink RX3 183 "LedgerStore$Ledger" "ensembleSize" "I") ∈ LW := lw_mem (i := 77) (by decide +kernel) rfl
theorem k_ml_RX3_186 : (Cond.methodLink RX3 186 yX1_fenceFor) ∈ LW := lw_mem (i := 532) (by decide +kernel) rfl
theorem k_im_yX1_fenceFor : (Cond.instanceMethod yX1_fenceFor) ∈ LW := lw_mem (i := 533) (by decide +kernel) rfl
theorem k_se_yX1_fenceFor : (Cond.selects RX1 yX1_fenceFor yX1_fenceFor) ∈ LW := lw_mem (i := 534) (by decide +kernel) rfl
theorem k_co_yX1_fenceFor : (Cond.code yX1_fenceFor cX1_fenceFor 2 none) ∈ LW := lw_mem (i := 535) (by decide +kernel) rfl
theorem k_ml_RX3_168 : (Cond.methodLink RX3 168 yX3_someQuorumIsDown) ∈ LW := lw_mem (i := 536) (by decide +kernel) rfl
theorem k_im_yX3_someQuorumIsDown : (Cond.instanceMethod yX3_someQuorumIsDown) ∈ LW := lw_mem (i := 537) (by decide +kernel) rfl
theorem k_se_yX3_someQuorumIsDown : (Cond.selects RX3 yX3_someQuorumIsDown yX3_someQuorumIsDown) ∈ LW := lw_mem (i := 538) (by decide +kernel) rfl
theorem k_co_yX3_someQuorumIsDown : (Cond.code yX3_someQuorumIsDown cX3_someQuorumIsDown 5 (some .boolean)) ∈ LW := lw_mem (i := 539) (by decide +kernel) rfl
theorem k_fl_RX3_197 : (Cond.fieldLink RX3 197 "LedgerStore$Ledger" "ackQuorum" "I") ∈ LW := lw_mem (i := 81) (by decide +kernel) rfl
theorem k_ml_RX3_172 : (Cond.methodLink RX3 172 yX3_lastKnownConfirmed) ∈ LW := lw_mem (i := 542) (by decide +kernel) rfl
theorem k_im_yX3_lastKnownConfirmed : (Cond.instanceMethod yX3_lastKnownConfirmed) ∈ LW := lw_mem (i := 543) (by decide +kernel) rfl
theorem k_se_yX3_lastKnownConfirmed : (Cond.selects RX3 yX3_lastKnownConfirmed yX3_lastKnownConfirmed) ∈ LW := lw_mem (i := 544) (by decide +kernel) rfl
theorem k_co_yX3_lastKnownConfirmed : (Cond.code yX3_lastKnownConfirmed cX3_lastKnownConfirmed 5 (some .int)) ∈ LW := lw_mem (i := 545) (by decide +kernel) rfl
theorem k_ml_RX3_203 : (Cond.methodLink RX3 203 Lib.Math.max.name) ∈ LW := lw_mem (i := 558) (by decide +kernel) rfl
theorem k_ml_RX3_200 : (Cond.methodLink RX3 200 yX1_greatestConfirmed) ∈ LW := lw_mem (i := 546) (by decide +kernel) rfl
theorem k_im_yX1_greatestConfirmed : (Cond.instanceMethod yX1_greatestConfirmed) ∈ LW := lw_mem (i := 547) (by decide +kernel) rfl
theorem k_se_yX1_greatestConfirmed : (Cond.selects RX1 yX1_greatestConfirmed yX1_greatestConfirmed) ∈ LW := lw_mem (i := 548) (by decide +kernel) rfl
theorem k_co_yX1_greatestConfirmed : (Cond.code yX1_greatestConfirmed cX1_greatestConfirmed 5 (some .int)) ∈ LW := lw_mem (i := 549) (by decide +kernel) rfl
theorem k_ml_RX1_71 : (Cond.methodLink RX1 71 Lib.Math.max.name) ∈ LW := lw_mem (i := 557) (by decide +kernel) rfl
theorem k_ml_RX1_68 : (Cond.methodLink RX1 68 yX2_confirmedOf) ∈ LW := lw_mem (i := 554) (by decide +kernel) rfl
theorem k_st_yX2_confirmedOf : (Cond.static yX2_confirmedOf) ∈ LW := lw_mem (i := 555) (by decide +kernel) rfl
theorem k_co_yX2_confirmedOf : (Cond.code yX2_confirmedOf cX2_confirmedOf 1 (some .int)) ∈ LW := lw_mem (i := 556) (by decide +kernel) rfl
theorem k_ml_RX3_176 : (Cond.methodLink RX3 176 yX3_recoverEntry) ∈ LW := lw_mem (i := 559) (by decide +kernel) rfl
theorem k_im_yX3_recoverEntry : (Cond.instanceMethod yX3_recoverEntry) ∈ LW := lw_mem (i := 560) (by decide +kernel) rfl
theorem k_se_yX3_recoverEntry : (Cond.selects RX3 yX3_recoverEntry yX3_recoverEntry) ∈ LW := lw_mem (i := 561) (by decide +kernel) rfl
theorem k_co_yX3_recoverEntry : (Cond.code yX3_recoverEntry cX3_recoverEntry 4 (some .boolean)) ∈ LW := lw_mem (i := 562) (by decide +kernel) rfl
theorem k_ml_RX3_208 : (Cond.methodLink RX3 208 yX3_firstCopy) ∈ LW := lw_mem (i := 563) (by decide +kernel) rfl
theorem k_im_yX3_firstCopy : (Cond.instanceMethod yX3_firstCopy) ∈ LW := lw_mem (i := 564) (by decide +kernel) rfl
theorem k_se_yX3_firstCopy : (Cond.selects RX3 yX3_firstCopy yX3_firstCopy) ∈ LW := lw_mem (i := 565) (by decide +kernel) rfl
theorem k_co_yX3_firstCopy : (Cond.code yX3_firstCopy cX3_firstCopy 6 (some .int)) ∈ LW := lw_mem (i := 566) (by decide +kernel) rfl
theorem k_ml_RX3_130 : (Cond.methodLink RX3 130 yX0_writeSetNode) ∈ LW := lw_mem (i := 475) (by decide +kernel) rfl
theorem k_ml_RX3_220 : (Cond.methodLink RX3 220 yX1_storedParcel) ∈ LW := lw_mem (i := 571) (by decide +kernel) rfl
theorem k_ml_RX3_212 : (Cond.methodLink RX3 212 yX2_payloadOf) ∈ LW := lw_mem (i := 572) (by decide +kernel) rfl
theorem k_st_yX2_payloadOf : (Cond.static yX2_payloadOf) ∈ LW := lw_mem (i := 573) (by decide +kernel) rfl
theorem k_co_yX2_payloadOf : (Cond.code yX2_payloadOf cX2_payloadOf 1 (some .int)) ∈ LW := lw_mem (i := 574) (by decide +kernel) rfl
theorem k_ml_RX3_213 : (Cond.methodLink RX3 213 yX3_spread) ∈ LW := lw_mem (i := 575) (by decide +kernel) rfl
theorem k_im_yX3_spread : (Cond.instanceMethod yX3_spread) ∈ LW := lw_mem (i := 576) (by decide +kernel) rfl
theorem k_se_yX3_spread : (Cond.selects RX3 yX3_spread yX3_spread) ∈ LW := lw_mem (i := 577) (by decide +kernel) rfl
theorem k_co_yX3_spread : (Cond.code yX3_spread cX3_spread 8 (some .int)) ∈ LW := lw_mem (i := 578) (by decide +kernel) rfl
theorem k_ml_RL_114 : (Cond.methodLink RL 114 yX5_repair) ∈ LW := lw_mem (i := 579) (by decide +kernel) rfl
theorem k_im_yX5_repair : (Cond.instanceMethod yX5_repair) ∈ LW := lw_mem (i := 580) (by decide +kernel) rfl
theorem k_se_yX5_repair : (Cond.selects RX5 yX5_repair yX5_repair) ∈ LW := lw_mem (i := 581) (by decide +kernel) rfl
theorem k_co_yX5_repair : (Cond.code yX5_repair cX5_repair 3 (some .int)) ∈ LW := lw_mem (i := 582) (by decide +kernel) rfl
theorem k_ml_RX5_164 : (Cond.methodLink RX5 164 yX3_replaceDownNodes) ∈ LW := lw_mem (i := 584) (by decide +kernel) rfl
theorem k_im_yX3_replaceDownNodes : (Cond.instanceMethod yX3_replaceDownNodes) ∈ LW := lw_mem (i := 585) (by decide +kernel) rfl
theorem k_se_yX3_replaceDownNodes : (Cond.selects RX3 yX3_replaceDownNodes yX3_replaceDownNodes) ∈ LW := lw_mem (i := 586) (by decide +kernel) rfl
theorem k_co_yX3_replaceDownNodes : (Cond.code yX3_replaceDownNodes cX3_replaceDownNodes 5 none) ∈ LW := lw_mem (i := 587) (by decide +kernel) rfl
theorem k_fl_RX3_223 : (Cond.fieldLink RX3 223 "LedgerStore$Ledger" "fragments" "I") ∈ LW := lw_mem (i := 91) (by decide +kernel) rfl
theorem k_ml_RX5_168 : (Cond.methodLink RX5 168 yX3_copyMissingEntries) ∈ LW := lw_mem (i := 588) (by decide +kernel) rfl
theorem k_im_yX3_copyMissingEntries : (Cond.instanceMethod yX3_copyMissingEntries) ∈ LW := lw_mem (i := 589) (by decide +kernel) rfl
theorem k_se_yX3_copyMissingEntries : (Cond.selects RX3 yX3_copyMissingEntries yX3_copyMissingEntries) ∈ LW := lw_mem (i := 590) (by decide +kernel) rfl
theorem k_co_yX3_copyMissingEntries : (Cond.code yX3_copyMissingEntries cX3_copyMissingEntries 6 (some .int)) ∈ LW := lw_mem (i := 591) (by decide +kernel) rfl
theorem k_ml_RL_117 : (Cond.methodLink RL 117 yX5_append) ∈ LW := lw_mem (i := 441) (by decide +kernel) rfl
theorem k_im_yX5_append : (Cond.instanceMethod yX5_append) ∈ LW := lw_mem (i := 442) (by decide +kernel) rfl
theorem k_se_yX5_append : (Cond.selects RX5 yX5_append yX5_append) ∈ LW := lw_mem (i := 443) (by decide +kernel) rfl
theorem k_co_yX5_append : (Cond.code yX5_append cX5_append 4 (some .int)) ∈ LW := lw_mem (i := 444) (by decide +kernel) rfl
theorem k_ml_RX5_132 : (Cond.methodLink RX5 132 yX3_write) ∈ LW := lw_mem (i := 454) (by decide +kernel) rfl
theorem k_im_yX3_write : (Cond.instanceMethod yX3_write) ∈ LW := lw_mem (i := 455) (by decide +kernel) rfl
theorem k_se_yX3_write : (Cond.selects RX3 yX3_write yX3_write) ∈ LW := lw_mem (i := 456) (by decide +kernel) rfl
theorem k_co_yX3_write : (Cond.code yX3_write cX3_write 8 (some .int)) ∈ LW := lw_mem (i := 457) (by decide +kernel) rfl
theorem k_ml_RX3_114 : (Cond.methodLink RX3 114 yX0_addEntry) ∈ LW := lw_mem (i := 467) (by decide +kernel) rfl
theorem k_im_yX0_addEntry : (Cond.instanceMethod yX0_addEntry) ∈ LW := lw_mem (i := 468) (by decide +kernel) rfl
theorem k_se_yX0_addEntry : (Cond.selects RX0 yX0_addEntry yX0_addEntry) ∈ LW := lw_mem (i := 469) (by decide +kernel) rfl
theorem k_co_yX0_addEntry : (Cond.code yX0_addEntry cX0_addEntry 3 (some .int)) ∈ LW := lw_mem (i := 470) (by decide +kernel) rfl
theorem k_ml_RL_120 : (Cond.methodLink RL 120 yX5_deliverAll) ∈ LW := lw_mem (i := 383) (by decide +kernel) rfl
theorem k_im_yX5_deliverAll : (Cond.instanceMethod yX5_deliverAll) ∈ LW := lw_mem (i := 384) (by decide +kernel) rfl
theorem k_se_yX5_deliverAll : (Cond.selects RX5 yX5_deliverAll yX5_deliverAll) ∈ LW := lw_mem (i := 385) (by decide +kernel) rfl
theorem k_co_yX5_deliverAll : (Cond.code yX5_deliverAll cX5_deliverAll 4 (some .int)) ∈ LW := lw_mem (i := 386) (by decide +kernel) rfl
theorem k_ml_RX5_68 : (Cond.methodLink RX5 68 yX3_anyRequestWaits) ∈ LW := lw_mem (i := 387) (by decide +kernel) rfl
theorem k_im_yX3_anyRequestWaits : (Cond.instanceMethod yX3_anyRequestWaits) ∈ LW := lw_mem (i := 388) (by decide +kernel) rfl
theorem k_se_yX3_anyRequestWaits : (Cond.selects RX3 yX3_anyRequestWaits yX3_anyRequestWaits) ∈ LW := lw_mem (i := 389) (by decide +kernel) rfl
theorem k_co_yX3_anyRequestWaits : (Cond.code yX3_anyRequestWaits cX3_anyRequestWaits 3 (some .boolean)) ∈ LW := lw_mem (i := 390) (by decide +kernel) rfl
theorem k_fl_RX3_108 : (Cond.fieldLink RX3 108 "LedgerStore$Node" "waiting" "I") ∈ LW := lw_mem (i := 51) (by decide +kernel) rfl
theorem k_ml_RX5_72 : (Cond.methodLink RX5 72 yX3_isUp) ∈ LW := lw_mem (i := 391) (by decide +kernel) rfl
theorem k_ml_RL_123 : (Cond.methodLink RL 123 yX5_undo) ∈ LW := lw_mem (i := 611) (by decide +kernel) rfl
theorem k_im_yX5_undo : (Cond.instanceMethod yX5_undo) ∈ LW := lw_mem (i := 612) (by decide +kernel) rfl
theorem k_se_yX5_undo : (Cond.selects RX5 yX5_undo yX5_undo) ∈ LW := lw_mem (i := 613) (by decide +kernel) rfl
theorem k_co_yX5_undo : (Cond.code yX5_undo cX5_undo 1 (some .int)) ∈ LW := lw_mem (i := 614) (by decide +kernel) rfl
theorem k_fl_RX5_212 : (Cond.fieldLink RX5 212 "LedgerStore$UndoStack" "depth" "I") ∈ LW := lw_mem (i := 150) (by decide +kernel) rfl
theorem k_ml_RX5_217 : (Cond.methodLink RX5 217 yX4_popInto) ∈ LW := lw_mem (i := 616) (by decide +kernel) rfl
theorem k_im_yX4_popInto : (Cond.instanceMethod yX4_popInto) ∈ LW := lw_mem (i := 617) (by decide +kernel) rfl
theorem k_se_yX4_popInto : (Cond.selects RX4 yX4_popInto yX4_popInto) ∈ LW := lw_mem (i := 618) (by decide +kernel) rfl
theorem k_co_yX4_popInto : (Cond.code yX4_popInto cX4_popInto 4 none) ∈ LW := lw_mem (i := 619) (by decide +kernel) rfl
