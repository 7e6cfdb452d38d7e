def RX0 : String := "LedgerStore$Ledger"
def TX0 : u_T := fun k => match k with
  | 0 => ("LedgerStore$Ledger", "number", "I", true)
  | 1 => ("LedgerStore$Ledger", "ensembleSize", "I", false)
  | 2 => ("LedgerStore$Ledger", "writeQuorum", "I", false)
  | 3 => ("LedgerStore$Ledger", "ackQuorum", "I", false)
  | 4 => ("LedgerStore$Ledger", "phase", "I", false)
  | 5 => ("LedgerStore$Ledger", "entries", "I", false)
  | 6 => ("LedgerStore$Ledger", "lastEntry", "I", false)
  | 7 => ("LedgerStore$Ledger", "fragments", "I", false)
  | 8 => ("LedgerStore$Ledger", "payloads", "[I", true)
  | 9 => ("LedgerStore$Ledger", "acknowledgers", "[I", true)
  | 10 => ("LedgerStore$Ledger", "starts", "[I", true)
  | _ => ("LedgerStore$Ledger", "members", "[I", true)
def tyX0 : Nat → FieldType := fun k => match k with
  | 0 => .int
  | 1 => .int
  | 2 => .int
  | 3 => .int
  | 4 => .int
  | 5 => .int
  | 6 => .int
  | 7 => .int
  | 8 => .array .int
  | 9 => .array .int
  | 10 => .array .int
  | _ => .array .int
abbrev wsX00 : List Cond := u_ws RX0 TX0 12
theorem nmX0 : ∀ a, a < 12 → ∀ b, b < 12 → a ≠ b → (TX0 a).2.1 ≠ (TX0 b).2.1 := by decide +kernel
theorem tyX0_ok : ∀ k, k < 12 → parseFieldDescriptor (TX0 k).2.2.1 = some (tyX0 k) := by decide +kernel
abbrev cX0_init : ByteArray := prog_2_method_1_code
def yX0_init : MethodName := ⟨RX0, "<init>", "(I)V"⟩
abbrev cX0_begin : ByteArray := prog_2_method_2_code
def yX0_begin : MethodName := ⟨RX0, "begin", "(III)V"⟩
abbrev cX0_copyFrom : ByteArray := prog_2_method_3_code
def yX0_copyFrom : MethodName := ⟨RX0, "copyFrom", "(LLedgerStore$Ledger;)V"⟩
abbrev cX0_addEntry : ByteArray := prog_2_method_4_code
def yX0_addEntry : MethodName := ⟨RX0, "addEntry", "(I)I"⟩
abbrev cX0_payloadOf : ByteArray := prog_2_method_5_code
def yX0_payloadOf : MethodName := ⟨RX0, "payloadOf", "(I)I"⟩
abbrev cX0_countAcknowledgers : ByteArray := prog_2_method_6_code
def yX0_countAcknowledgers : MethodName := ⟨RX0, "countAcknowledgers", "(I)I"⟩
abbrev cX0_acknowledge : ByteArray := prog_2_method_7_code
def yX0_acknowledge : MethodName := ⟨RX0, "acknowledge", "(II)V"⟩
abbrev cX0_forgetAcknowledgements : ByteArray := prog_2_method_8_code
def yX0_forgetAcknowledgements : MethodName := ⟨RX0, "forgetAcknowledgements", "(II)V"⟩
abbrev cX0_lastConfirmed : ByteArray := prog_2_method_9_code
def yX0_lastConfirmed : MethodName := ⟨RX0, "lastConfirmed", "()I"⟩
abbrev cX0_lastToRead : ByteArray := prog_2_method_10_code
def yX0_lastToRead : MethodName := ⟨RX0, "lastToRead", "()I"⟩
abbrev cX0_lastFragment : ByteArray := prog_2_method_11_code
def yX0_lastFragment : MethodName := ⟨RX0, "lastFragment", "()I"⟩
abbrev cX0_startOf : ByteArray := prog_2_method_12_code
def yX0_startOf : MethodName := ⟨RX0, "startOf", "(I)I"⟩
abbrev cX0_fragmentOf : ByteArray := prog_2_method_13_code
def yX0_fragmentOf : MethodName := ⟨RX0, "fragmentOf", "(I)I"⟩
abbrev cX0_nodeAt : ByteArray := prog_2_method_14_code
def yX0_nodeAt : MethodName := ⟨RX0, "nodeAt", "(II)I"⟩
abbrev cX0_setNode : ByteArray := prog_2_method_15_code
def yX0_setNode : MethodName := ⟨RX0, "setNode", "(III)V"⟩
abbrev cX0_addFragment : ByteArray := prog_2_method_16_code
def yX0_addFragment : MethodName := ⟨RX0, "addFragment", "(I)V"⟩
abbrev cX0_ensembleMask : ByteArray := prog_2_method_17_code
def yX0_ensembleMask : MethodName := ⟨RX0, "ensembleMask", "(I)I"⟩
abbrev cX0_writeSetNode : ByteArray := prog_2_method_18_code
def yX0_writeSetNode : MethodName := ⟨RX0, "writeSetNode", "(III)I"⟩
abbrev cX0_writeSetMask : ByteArray := prog_2_method_19_code
def yX0_writeSetMask : MethodName := ⟨RX0, "writeSetMask", "(II)I"⟩
abbrev cX0_maskOf : ByteArray := prog_2_method_20_code
def yX0_maskOf : MethodName := ⟨RX0, "maskOf", "(I)I"⟩
abbrev cX0_placeOf : ByteArray := prog_2_method_21_code
def yX0_placeOf : MethodName := ⟨RX0, "placeOf", "(II)I"⟩
def RX1 : String := "LedgerStore$Node"
def TX1 : u_T := fun k => match k with
  | 0 => ("LedgerStore$Node", "up", "Z", false)
  | 1 => ("LedgerStore$Node", "fences", "I", false)
  | 2 => ("LedgerStore$Node", "storedCount", "I", false)
  | 3 => ("LedgerStore$Node", "waiting", "I", false)
  | 4 => ("LedgerStore$Node", "stored", "[I", true)
  | _ => ("LedgerStore$Node", "inbox", "[I", true)
def tyX1 : Nat → FieldType := fun k => match k with
  | 0 => .boolean
  | 1 => .int
  | 2 => .int
  | 3 => .int
  | 4 => .array .int
  | _ => .array .int
abbrev wsX10 : List Cond := u_ws RX1 TX1 6
theorem nmX1 : ∀ a, a < 6 → ∀ b, b < 6 → a ≠ b → (TX1 a).2.1 ≠ (TX1 b).2.1 := by decide +kernel
theorem tyX1_ok : ∀ k, k < 6 → parseFieldDescriptor (TX1 k).2.2.1 = some (tyX1 k) := by decide +kernel
abbrev cX1_init : ByteArray := prog_3_method_1_code
def yX1_init : MethodName := ⟨RX1, "<init>", "()V"⟩
abbrev cX1_begin : ByteArray := prog_3_method_2_code
def yX1_begin : MethodName := ⟨RX1, "begin", "()V"⟩
abbrev cX1_copyFrom : ByteArray := prog_3_method_3_code
def yX1_copyFrom : MethodName := ⟨RX1, "copyFrom", "(LLedgerStore$Node;)V"⟩
abbrev cX1_isFencedFor : ByteArray := prog_3_method_4_code
def yX1_isFencedFor : MethodName := ⟨RX1, "isFencedFor", "(I)Z"⟩
abbrev cX1_fenceFor : ByteArray := prog_3_method_5_code
def yX1_fenceFor : MethodName := ⟨RX1, "fenceFor", "(I)V"⟩
abbrev cX1_receive : ByteArray := prog_3_method_6_code
def yX1_receive : MethodName := ⟨RX1, "receive", "(I)V"⟩
abbrev cX1_takeOldest : ByteArray := prog_3_method_7_code
def yX1_takeOldest : MethodName := ⟨RX1, "takeOldest", "()I"⟩
abbrev cX1_keep : ByteArray := prog_3_method_8_code
def yX1_keep : MethodName := ⟨RX1, "keep", "(I)V"⟩
abbrev cX1_storedParcel : ByteArray := prog_3_method_9_code
def yX1_storedParcel : MethodName := ⟨RX1, "storedParcel", "(II)I"⟩
abbrev cX1_holds : ByteArray := prog_3_method_10_code
def yX1_holds : MethodName := ⟨RX1, "holds", "(II)Z"⟩
abbrev cX1_greatestConfirmed : ByteArray := prog_3_method_11_code
def yX1_greatestConfirmed : MethodName := ⟨RX1, "greatestConfirmed", "(I)I"⟩
abbrev cX1_slotOf : ByteArray := prog_3_method_12_code
def yX1_slotOf : MethodName := ⟨RX1, "slotOf", "(II)I"⟩
def RX2 : String := "LedgerStore$Parcel"
def TX2 : u_T := fun k => match k with
  | _ => ("", "", "", false)
def tyX2 : Nat → FieldType := fun k => match k with
  | _ => .int
abbrev wsX20 : List Cond := u_ws RX2 TX2 0
theorem nmX2 : ∀ a, a < 0 → ∀ b, b < 0 → a ≠ b → (TX2 a).2.1 ≠ (TX2 b).2.1 := by decide +kernel
theorem tyX2_ok : ∀ k, k < 0 → parseFieldDescriptor (TX2 k).2.2.1 = some (tyX2 k) := by decide +kernel
abbrev cX2_of : ByteArray := prog_4_method_2_code
def yX2_of : MethodName := ⟨RX2, "of", "(IIII)I"⟩
abbrev cX2_ledgerOf : ByteArray := prog_4_method_3_code
def yX2_ledgerOf : MethodName := ⟨RX2, "ledgerOf", "(I)I"⟩
abbrev cX2_entryOf : ByteArray := prog_4_method_4_code
def yX2_entryOf : MethodName := ⟨RX2, "entryOf", "(I)I"⟩
abbrev cX2_confirmedOf : ByteArray := prog_4_method_5_code
def yX2_confirmedOf : MethodName := ⟨RX2, "confirmedOf", "(I)I"⟩
abbrev cX2_payloadOf : ByteArray := prog_4_method_6_code
def yX2_payloadOf : MethodName := ⟨RX2, "payloadOf", "(I)I"⟩
def RX3 : String := "LedgerStore$State"
def TX3 : u_T := fun k => match k with
  | 0 => ("LedgerStore$State", "nodeCount", "I", false)
  | 1 => ("LedgerStore$State", "ledgerCount", "I", false)
  | 2 => ("LedgerStore$State", "rejected", "I", false)
  | 3 => ("LedgerStore$State", "nodes", "[LLedgerStore$Node;", true)
  | _ => ("LedgerStore$State", "ledgers", "[LLedgerStore$Ledger;", true)
def tyX3 : Nat → FieldType := fun k => match k with
  | 0 => .int
  | 1 => .int
  | 2 => .int
  | 3 => .array (.object "LedgerStore$Node")
  | _ => .array (.object "LedgerStore$Ledger")
abbrev wsX30 : List Cond := u_ws RX3 TX3 5
theorem nmX3 : ∀ a, a < 5 → ∀ b, b < 5 → a ≠ b → (TX3 a).2.1 ≠ (TX3 b).2.1 := by decide +kernel
theorem tyX3_ok : ∀ k, k < 5 → parseFieldDescriptor (TX3 k).2.2.1 = some (tyX3 k) := by decide +kernel
abbrev cX3_init : ByteArray := prog_5_method_1_code
def yX3_init : MethodName := ⟨RX3, "<init>", "()V"⟩
abbrev cX3_takeOver : ByteArray := prog_5_method_2_code
def yX3_takeOver : MethodName := ⟨RX3, "takeOver", "(LLedgerStore$State;)V"⟩
abbrev cX3_node : ByteArray := prog_5_method_3_code
def yX3_node : MethodName := ⟨RX3, "node", "(I)LLedgerStore$Node;"⟩
abbrev cX3_ledger : ByteArray := prog_5_method_4_code
def yX3_ledger : MethodName := ⟨RX3, "ledger", "(I)LLedgerStore$Ledger;"⟩
abbrev cX3_beginNode : ByteArray := prog_5_method_5_code
def yX3_beginNode : MethodName := ⟨RX3, "beginNode", "()I"⟩
abbrev cX3_beginLedger : ByteArray := prog_5_method_6_code
def yX3_beginLedger : MethodName := ⟨RX3, "beginLedger", "(III)I"⟩
abbrev cX3_isUp : ByteArray := prog_5_method_7_code
def yX3_isUp : MethodName := ⟨RX3, "isUp", "(I)Z"⟩
abbrev cX3_upMask : ByteArray := prog_5_method_8_code
def yX3_upMask : MethodName := ⟨RX3, "upMask", "()I"⟩
abbrev cX3_choose : ByteArray := prog_5_method_10_code
def yX3_choose : MethodName := ⟨RX3, "choose", "(I)I"⟩
abbrev cX3_send : ByteArray := prog_5_method_11_code
def yX3_send : MethodName := ⟨RX3, "send", "(II)V"⟩
abbrev cX3_processOldest : ByteArray := prog_5_method_12_code
def yX3_processOldest : MethodName := ⟨RX3, "processOldest", "(I)I"⟩
abbrev cX3_anyRequestWaits : ByteArray := prog_5_method_13_code
def yX3_anyRequestWaits : MethodName := ⟨RX3, "anyRequestWaits", "()Z"⟩
abbrev cX3_write : ByteArray := prog_5_method_14_code
def yX3_write : MethodName := ⟨RX3, "write", "(LLedgerStore$Ledger;I)I"⟩
abbrev cX3_changeEnsemble : ByteArray := prog_5_method_15_code
def yX3_changeEnsemble : MethodName := ⟨RX3, "changeEnsemble", "(LLedgerStore$Ledger;II)V"⟩
abbrev cX3_recoverLedger : ByteArray := prog_5_method_16_code
def yX3_recoverLedger : MethodName := ⟨RX3, "recoverLedger", "(LLedgerStore$Ledger;)I"⟩
abbrev cX3_fenceLastEnsemble : ByteArray := prog_5_method_17_code
def yX3_fenceLastEnsemble : MethodName := ⟨RX3, "fenceLastEnsemble", "(LLedgerStore$Ledger;)V"⟩
abbrev cX3_someQuorumIsDown : ByteArray := prog_5_method_18_code
def yX3_someQuorumIsDown : MethodName := ⟨RX3, "someQuorumIsDown", "(LLedgerStore$Ledger;)Z"⟩
abbrev cX3_lastKnownConfirmed : ByteArray := prog_5_method_19_code
def yX3_lastKnownConfirmed : MethodName := ⟨RX3, "lastKnownConfirmed", "(LLedgerStore$Ledger;)I"⟩
abbrev cX3_recoverEntry : ByteArray := prog_5_method_20_code
def yX3_recoverEntry : MethodName := ⟨RX3, "recoverEntry", "(LLedgerStore$Ledger;I)Z"⟩
abbrev cX3_firstCopy : ByteArray := prog_5_method_21_code
def yX3_firstCopy : MethodName := ⟨RX3, "firstCopy", "(LLedgerStore$Ledger;I)I"⟩
abbrev cX3_spread : ByteArray := prog_5_method_22_code
def yX3_spread : MethodName := ⟨RX3, "spread", "(LLedgerStore$Ledger;II)I"⟩
abbrev cX3_replaceDownNodes : ByteArray := prog_5_method_23_code
def yX3_replaceDownNodes : MethodName := ⟨RX3, "replaceDownNodes", "(LLedgerStore$Ledger;)V"⟩
abbrev cX3_copyMissingEntries : ByteArray := prog_5_method_24_code
def yX3_copyMissingEntries : MethodName := ⟨RX3, "copyMissingEntries", "(LLedgerStore$Ledger;)I"⟩
abbrev cX3_holderMask : ByteArray := prog_5_method_25_code
def yX3_holderMask : MethodName := ⟨RX3, "holderMask", "(LLedgerStore$Ledger;I)I"⟩
abbrev cX3_countUnderReplicated : ByteArray := prog_5_method_26_code
def yX3_countUnderReplicated : MethodName := ⟨RX3, "countUnderReplicated", "(LLedgerStore$Ledger;)I"⟩
def RX4 : String := "LedgerStore$UndoStack"
def TX4 : u_T := fun k => match k with
  | 0 => ("LedgerStore$UndoStack", "depth", "I", false)
  | 1 => ("LedgerStore$UndoStack", "next", "I", false)
  | _ => ("LedgerStore$UndoStack", "ring", "[LLedgerStore$State;", true)
def tyX4 : Nat → FieldType := fun k => match k with
  | 0 => .int
  | 1 => .int
  | _ => .array (.object "LedgerStore$State")
abbrev wsX40 : List Cond := u_ws RX4 TX4 3
theorem nmX4 : ∀ a, a < 3 → ∀ b, b < 3 → a ≠ b → (TX4 a).2.1 ≠ (TX4 b).2.1 := by decide +kernel
theorem tyX4_ok : ∀ k, k < 3 → parseFieldDescriptor (TX4 k).2.2.1 = some (tyX4 k) := by decide +kernel
abbrev cX4_init : ByteArray := prog_6_method_1_code
def yX4_init : MethodName := ⟨RX4, "<init>", "()V"⟩
abbrev cX4_push : ByteArray := prog_6_method_2_code
def yX4_push : MethodName := ⟨RX4, "push", "(LLedgerStore$State;)V"⟩
abbrev cX4_popInto : ByteArray := prog_6_method_3_code
def yX4_popInto : MethodName := ⟨RX4, "popInto", "(LLedgerStore$State;)V"⟩
def RX5 : String := "LedgerStore"
def TX5 : u_T := fun k => match k with
  | 0 => ("LedgerStore", "now", "LLedgerStore$State;", true)
  | _ => ("LedgerStore", "past", "LLedgerStore$UndoStack;", true)
def tyX5 : Nat → FieldType := fun k => match k with
  | 0 => .object "LedgerStore$State"
  | _ => .object "LedgerStore$UndoStack"
abbrev wsX50 : List Cond := u_ws RX5 TX5 2
theorem nmX5 : ∀ a, a < 2 → ∀ b, b < 2 → a ≠ b → (TX5 a).2.1 ≠ (TX5 b).2.1 := by decide +kernel
theorem tyX5_ok : ∀ k, k < 2 → parseFieldDescriptor (TX5 k).2.2.1 = some (tyX5 k) := by decide +kernel
abbrev cX5_init : ByteArray := prog_1_method_1_code
def yX5_init : MethodName := ⟨RX5, "<init>", "()V"⟩
abbrev cX5_addNode : ByteArray := prog_1_method_2_code
def yX5_addNode : MethodName := ⟨RX5, "addNode", "()I"⟩
abbrev cX5_crash : ByteArray := prog_1_method_3_code
def yX5_crash : MethodName := ⟨RX5, "crash", "(I)I"⟩
abbrev cX5_restart : ByteArray := prog_1_method_4_code
def yX5_restart : MethodName := ⟨RX5, "restart", "(I)I"⟩
abbrev cX5_deliver : ByteArray := prog_1_method_5_code
def yX5_deliver : MethodName := ⟨RX5, "deliver", "(I)I"⟩
abbrev cX5_deliverAll : ByteArray := prog_1_method_6_code
def yX5_deliverAll : MethodName := ⟨RX5, "deliverAll", "()I"⟩
abbrev cX5_inboxLength : ByteArray := prog_1_method_7_code
def yX5_inboxLength : MethodName := ⟨RX5, "inboxLength", "(I)I"⟩
abbrev cX5_weight : ByteArray := prog_1_method_8_code
def yX5_weight : MethodName := ⟨RX5, "weight", "(I)I"⟩
abbrev cX5_isFenced : ByteArray := prog_1_method_10_code
def yX5_isFenced : MethodName := ⟨RX5, "isFenced", "(II)Z"⟩
abbrev cX5_rejections : ByteArray := prog_1_method_11_code
def yX5_rejections : MethodName := ⟨RX5, "rejections", "()I"⟩
abbrev cX5_createLedger : ByteArray := prog_1_method_12_code
def yX5_createLedger : MethodName := ⟨RX5, "createLedger", "(III)I"⟩
abbrev cX5_append : ByteArray := prog_1_method_13_code
def yX5_append : MethodName := ⟨RX5, "append", "(II)I"⟩
abbrev cX5_replace : ByteArray := prog_1_method_14_code
def yX5_replace : MethodName := ⟨RX5, "replace", "(II)I"⟩
abbrev cX5_recover : ByteArray := prog_1_method_15_code
def yX5_recover : MethodName := ⟨RX5, "recover", "(I)I"⟩
abbrev cX5_repair : ByteArray := prog_1_method_16_code
def yX5_repair : MethodName := ⟨RX5, "repair", "(I)I"⟩
abbrev cX5_state : ByteArray := prog_1_method_18_code
def yX5_state : MethodName := ⟨RX5, "state", "(I)I"⟩
abbrev cX5_lastReadable : ByteArray := prog_1_method_19_code
def yX5_lastReadable : MethodName := ⟨RX5, "lastReadable", "(I)I"⟩
abbrev cX5_appended : ByteArray := prog_1_method_20_code
def yX5_appended : MethodName := ⟨RX5, "appended", "(I)I"⟩
abbrev cX5_acknowledgements : ByteArray := prog_1_method_21_code
def yX5_acknowledgements : MethodName := ⟨RX5, "acknowledgements", "(II)I"⟩
abbrev cX5_holders : ByteArray := prog_1_method_22_code
def yX5_holders : MethodName := ⟨RX5, "holders", "(II)I"⟩
abbrev cX5_fragmentCount : ByteArray := prog_1_method_23_code
def yX5_fragmentCount : MethodName := ⟨RX5, "fragmentCount", "(I)I"⟩
abbrev cX5_member : ByteArray := prog_1_method_25_code
def yX5_member : MethodName := ⟨RX5, "member", "(III)I"⟩
abbrev cX5_underReplicated : ByteArray := prog_1_method_26_code
def yX5_underReplicated : MethodName := ⟨RX5, "underReplicated", "(I)I"⟩
abbrev cX5_undo : ByteArray := prog_1_method_27_code
def yX5_undo : MethodName := ⟨RX5, "undo", "()I"⟩
abbrev cX5_existingNode : ByteArray := prog_1_method_36_code
def yX5_existingNode : MethodName := ⟨RX5, "existingNode", "(I)LLedgerStore$Node;"⟩
abbrev cX5_existingLedger : ByteArray := prog_1_method_37_code
def yX5_existingLedger : MethodName := ⟨RX5, "existingLedger", "(I)LLedgerStore$Ledger;"⟩
abbrev cX5_requireAppended : ByteArray := prog_1_method_38_code
def yX5_requireAppended : MethodName := ⟨RX5, "requireAppended", "(LLedgerStore$Ledger;I)V"⟩
abbrev cX5_requireFragment : ByteArray := prog_1_method_39_code
def yX5_requireFragment : MethodName := ⟨RX5, "requireFragment", "(LLedgerStore$Ledger;I)V"⟩
abbrev cX5_contains : ByteArray := prog_1_method_40_code
def yX5_contains : MethodName := ⟨RX5, "contains", "(II)Z"⟩
abbrev cX5_copyRow : ByteArray := prog_1_method_41_code
def yX5_copyRow : MethodName := ⟨RX5, "copyRow", "([I[I)V"⟩
def RX6 : String := "LedgerStoreModel"
def TX6 : u_T := fun k => match k with
  | _ => ("", "", "", false)
def tyX6 : Nat → FieldType := fun k => match k with
  | _ => .int
abbrev wsX60 : List Cond := u_ws RX6 TX6 0
theorem nmX6 : ∀ a, a < 0 → ∀ b, b < 0 → a ≠ b → (TX6 a).2.1 ≠ (TX6 b).2.1 := by decide +kernel
theorem tyX6_ok : ∀ k, k < 0 → parseFieldDescriptor (TX6 k).2.2.1 = some (tyX6 k) := by decide +kernel
def RJx145de : String := "java/io/Serializable"
def TJx145de : u_T := fun k => match k with
  | _ => ("", "", "", false)
def tyJx145de : Nat → FieldType := fun k => match k with
  | _ => .int
abbrev wsJx145de0 : List Cond := u_ws RJx145de TJx145de 0
theorem nmJx145de : ∀ a, a < 0 → ∀ b, b < 0 → a ≠ b → (TJx145de a).2.1 ≠ (TJx145de b).2.1 := by decide +kernel
theorem tyJx145de_ok : ∀ k, k < 0 → parseFieldDescriptor (TJx145de k).2.2.1 = some (tyJx145de k) := by decide +kernel
def RJ6 : String := "java/lang/Integer"
def TJ6 : u_T := fun k => match k with
  | _ => ("", "", "", false)
def tyJ6 : Nat → FieldType := fun k => match k with
  | _ => .int
abbrev wsJ60 : List Cond := u_ws RJ6 TJ6 0
theorem nmJ6 : ∀ a, a < 0 → ∀ b, b < 0 → a ≠ b → (TJ6 a).2.1 ≠ (TJ6 b).2.1 := by decide +kernel
theorem tyJ6_ok : ∀ k, k < 0 → parseFieldDescriptor (TJ6 k).2.2.1 = some (tyJ6 k) := by decide +kernel
abbrev cJ6_bitCount_0f7a4 : ByteArray := prog_12_method_49_code
def yJ6_bitCount_0f7a4 : MethodName := ⟨RJ6, "bitCount", "(I)I"⟩
def RJ9 : String := "java/lang/Math"
def TJ9 : u_T := fun k => match k with
  | _ => ("", "", "", false)
def tyJ9 : Nat → FieldType := fun k => match k with
  | _ => .int
abbrev wsJ90 : List Cond := u_ws RJ9 TJ9 0
theorem nmJ9 : ∀ a, a < 0 → ∀ b, b < 0 → a ≠ b → (TJ9 a).2.1 ≠ (TJ9 b).2.1 := by decide +kernel
theorem tyJ9_ok : ∀ k, k < 0 → parseFieldDescriptor (TJ9 k).2.2.1 = some (tyJ9 k) := by decide +kernel
abbrev cJ9_max_7cf53 : ByteArray := prog_13_method_65_code
def yJ9_max_7cf53 : MethodName := ⟨RJ9, "max", "(II)I"⟩
abbrev cJ9_min_7cf53 : ByteArray := prog_13_method_69_code
def yJ9_min_7cf53 : MethodName := ⟨RJ9, "min", "(II)I"⟩
def RJ0 : String := "java/lang/String"
def TJ0 : u_T := fun k => match k with
  | _ => ("", "", "", false)
def tyJ0 : Nat → FieldType := fun k => match k with
  | _ => .int
abbrev wsJ00 : List Cond := u_ws RJ0 TJ0 0
theorem nmJ0 : ∀ a, a < 0 → ∀ b, b < 0 → a ≠ b → (TJ0 a).2.1 ≠ (TJ0 b).2.1 := by decide +kernel
theorem tyJ0_ok : ∀ k, k < 0 → parseFieldDescriptor (TJ0 k).2.2.1 = some (tyJ0 k) := by decide +kernel
def RJ10 : String := "java/lang/System"
def TJ10 : u_T := fun k => match k with
  | _ => ("", "", "", false)
def tyJ10 : Nat → FieldType := fun k => match k with
  | _ => .int
abbrev wsJ100 : List Cond := u_ws RJ10 TJ10 0
theorem nmJ10 : ∀ a, a < 0 → ∀ b, b < 0 → a ≠ b → (TJ10 a).2.1 ≠ (TJ10 b).2.1 := by decide +kernel
theorem tyJ10_ok : ∀ k, k < 0 → parseFieldDescriptor (TJ10 k).2.2.1 = some (tyJ10 k) := by decide +kernel
def RJ7 : String := "java/util/Arrays"
def TJ7 : u_T := fun k => match k with
  | _ => ("", "", "", false)
def tyJ7 : Nat → FieldType := fun k => match k with
  | _ => .int
abbrev wsJ70 : List Cond := u_ws RJ7 TJ7 0
theorem nmJ7 : ∀ a, a < 0 → ∀ b, b < 0 → a ≠ b → (TJ7 a).2.1 ≠ (TJ7 b).2.1 := by decide +kernel
theorem tyJ7_ok : ∀ k, k < 0 → parseFieldDescriptor (TJ7 k).2.2.1 = some (tyJ7 k) := by decide +kernel
abbrev cJ7_fill_53178 : ByteArray := prog_18_method_103_code
def yJ7_fill_53178 : MethodName := ⟨RJ7, "fill", "([II)V"⟩
def RL : String := "LedgerStoreLaw"
abbrev cL_cell : ByteArray := method_2_code
def yL_cell : MethodName := ⟨RL, "cell", "([II)I"⟩
abbrev cL_low : ByteArray := method_3_code
def yL_low : MethodName := ⟨RL, "low", "(II)I"⟩
abbrev cL_isMember : ByteArray := method_4_code
def yL_isMember : MethodName := ⟨RL, "isMember", "(LLedgerStore;III)Z"⟩
abbrev cL_canReplace : ByteArray := method_5_code
def yL_canReplace : MethodName := ⟨RL, "canReplace", "(LLedgerStore;II[II)Z"⟩
abbrev cL_tale : ByteArray := method_6_code
def yL_tale : MethodName := ⟨RL, "tale", "(LLedgerStore;II)J"⟩
abbrev cL_law : ByteArray := code
def yL_law : MethodName := ⟨RL, "law", "([I)Z"⟩
abbrev vwCl : List vw_C := [(RX0, TX0, 12), (RX1, TX1, 6), (RX3, TX3, 5), (RX4, TX4, 3), (RX5, TX5, 2)]

