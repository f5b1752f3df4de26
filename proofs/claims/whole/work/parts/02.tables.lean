/-! ===== THE TABLES: classes, methods, code, links; printed by wip/gen/tables.py ===== -/
def sn_nth {α : Type} : List α → Nat → Option α
  | [], _ => none
  | a :: _, 0 => some a
  | _ :: l, n + 1 => sn_nth l n
def sn_oNl : List String := ["SnapshotRings", "SnapshotRings$State", "SnapshotRings$History", "SnapshotRings$Graph", "SnapshotRings$Schedule", "SnapshotRingsModel", "SnapshotRingsLaw", "java/lang/Object", "java/lang/Integer", "java/lang/Math"]
def sn_oN (o : Nat) : String := (sn_nth sn_oNl o).getD ""
def sn_T0 : u_T := fun k => match k with
  | 0 => ("SnapshotRings", "state", "LSnapshotRings$State;", true)
  | 1 => ("SnapshotRings", "forecast", "LSnapshotRings$State;", true)
  | 2 => ("SnapshotRings", "history", "LSnapshotRings$History;", true)
  | 3 => ("SnapshotRings", "graph", "LSnapshotRings$Graph;", true)
  | _ => ("SnapshotRings", "schedule", "LSnapshotRings$Schedule;", true)
def sn_ty0 : Nat → FieldType := fun k => match k with
  | 0 => .object "SnapshotRings$State"
  | 1 => .object "SnapshotRings$State"
  | 2 => .object "SnapshotRings$History"
  | 3 => .object "SnapshotRings$Graph"
  | _ => .object "SnapshotRings$Schedule"
def sn_T1 : u_T := fun k => match k with
  | 0 => ("SnapshotRings$State", "policy", "I", false)
  | 1 => ("SnapshotRings$State", "commits", "I", false)
  | 2 => ("SnapshotRings$State", "aborts", "I", false)
  | 3 => ("SnapshotRings$State", "openSlots", "I", false)
  | 4 => ("SnapshotRings$State", "refusals", "[I", true)
  | 5 => ("SnapshotRings$State", "summedKeys", "[I", true)
  | 6 => ("SnapshotRings$State", "leastSums", "[I", true)
  | 7 => ("SnapshotRings$State", "values", "[I", true)
  | 8 => ("SnapshotRings$State", "versions", "[I", true)
  | 9 => ("SnapshotRings$State", "snapshots", "[I", true)
  | 10 => ("SnapshotRings$State", "readKeys", "[I", true)
  | 11 => ("SnapshotRings$State", "writtenKeys", "[I", true)
  | 12 => ("SnapshotRings$State", "seenVersions", "[I", true)
  | _ => ("SnapshotRings$State", "seenValues", "[I", true)
def sn_ty1 : Nat → FieldType := fun k => match k with
  | 0 => .int
  | 1 => .int
  | 2 => .int
  | 3 => .int
  | 4 => .array .int
  | 5 => .array .int
  | 6 => .array .int
  | 7 => .array .int
  | 8 => .array .int
  | 9 => .array .int
  | 10 => .array .int
  | 11 => .array .int
  | 12 => .array .int
  | _ => .array .int
def sn_T2 : u_T := fun k => match k with
  | 0 => ("SnapshotRings$History", "states", "[LSnapshotRings$State;", true)
  | 1 => ("SnapshotRings$History", "saved", "I", false)
  | _ => ("SnapshotRings$History", "next", "I", false)
def sn_ty2 : Nat → FieldType := fun k => match k with
  | 0 => .array (.object "SnapshotRings$State")
  | 1 => .int
  | _ => .int
def sn_T3 : u_T := fun k => match k with
  | 0 => ("SnapshotRings$Graph", "nodes", "I", false)
  | 1 => ("SnapshotRings$Graph", "rows", "[I", true)
  | 2 => ("SnapshotRings$Graph", "numbers", "[I", true)
  | 3 => ("SnapshotRings$Graph", "sums", "[I", true)
  | 4 => ("SnapshotRings$Graph", "behind", "[I", true)
  | 5 => ("SnapshotRings$Graph", "overwriters", "[I", true)
  | 6 => ("SnapshotRings$Graph", "reached", "[I", true)
  | 7 => ("SnapshotRings$Graph", "steps", "[I", true)
  | 8 => ("SnapshotRings$Graph", "toldNumbers", "[I", true)
  | _ => ("SnapshotRings$Graph", "told", "I", false)
def sn_ty3 : Nat → FieldType := fun k => match k with
  | 0 => .int
  | 1 => .array .int
  | 2 => .array .int
  | 3 => .array .int
  | 4 => .array .int
  | 5 => .array .int
  | 6 => .array .int
  | 7 => .array .int
  | 8 => .array .int
  | _ => .int
def sn_T4 : u_T := fun k => match k with
  | 0 => ("SnapshotRings$Schedule", "signs", "[C", true)
  | _ => ("SnapshotRings$Schedule", "length", "I", false)
def sn_ty4 : Nat → FieldType := fun k => match k with
  | 0 => .array .char
  | _ => .int
def sn_T5 : u_T := fun k => match k with
  | 0 => ("SnapshotRingsModel", "state", "[I", true)
  | 1 => ("SnapshotRingsModel", "kept", "[I", true)
  | 2 => ("SnapshotRingsModel", "history", "[I", true)
  | 3 => ("SnapshotRingsModel", "recorded", "I", false)
  | 4 => ("SnapshotRingsModel", "text", "[I", true)
  | 5 => ("SnapshotRingsModel", "textLength", "I", false)
  | 6 => ("SnapshotRingsModel", "mine", "I", false)
  | 7 => ("SnapshotRingsModel", "behind", "[I", true)
  | 8 => ("SnapshotRingsModel", "far", "[I", true)
  | 9 => ("SnapshotRingsModel", "order", "[I", true)
  | 10 => ("SnapshotRingsModel", "ordered", "I", false)
  | 11 => ("SnapshotRingsModel", "at", "I", false)
  | 12 => ("SnapshotRingsModel", "letter", "I", false)
  | 13 => ("SnapshotRingsModel", "slotRead", "I", false)
  | 14 => ("SnapshotRingsModel", "keyRead", "I", false)
  | _ => ("SnapshotRingsModel", "valueRead", "I", false)
def sn_ty5 : Nat → FieldType := fun k => match k with
  | 0 => .array .int
  | 1 => .array .int
  | 2 => .array .int
  | 3 => .int
  | 4 => .array .int
  | 5 => .int
  | 6 => .int
  | 7 => .array .int
  | 8 => .array .int
  | 9 => .array .int
  | 10 => .int
  | 11 => .int
  | 12 => .int
  | 13 => .int
  | 14 => .int
  | _ => .int
def sn_cl : List vw_C := [("SnapshotRings", sn_T0, 5), ("SnapshotRings$State", sn_T1, 14), ("SnapshotRings$History", sn_T2, 3), ("SnapshotRings$Graph", sn_T3, 10), ("SnapshotRings$Schedule", sn_T4, 2), ("SnapshotRingsModel", sn_T5, 16)]
def sn_fN (ci : Nat) : Nat := (sn_nth [5, 14, 3, 10, 2, 16] ci).getD 0
def sn_fRl : List (List Bool) := [[true, true, true, true, true], [false, false, false, false, true, true, true, true, true, true, true, true, true, true], [true, false, false], [false, true, true, true, true, true, true, true, true, false], [true, false], [true, true, true, false, true, false, false, true, true, true, false, false, false, false, false, false]]
/-- is the field a reference? -/
def sn_fR (ci k : Nat) : Bool := (((sn_nth sn_fRl ci).getD []).getD k false)
def sn_ffl : List (List Bool) := [[true, true, true, true, true], [false, false, false, false, true, true, true, true, true, true, true, true, true, true], [true, false, false], [false, true, true, true, true, true, true, true, true, false], [true, false], [true, true, true, false, true, false, false, true, true, true, false, false, false, false, false, false]]
/-- is the field final? -/
def sn_ff (ci k : Nat) : Bool := (((sn_nth sn_ffl ci).getD []).getD k false)
def sn_lyl : List (List Nat) := [[223, 225, 227, 229, 231], [113, 115, 117, 119, 121, 123, 125, 127, 129, 131, 133, 135, 137, 139], [156, 158, 160], [182, 184, 186, 188, 190, 192, 194, 196, 198, 200], [212, 214], [623, 625, 627, 629, 631, 633, 635, 637, 639, 641, 643, 645, 647, 649, 651, 653]]
abbrev sn_E : Type := Instr × Nat × Nat
def sn_NM : Nat := 175
def sn_mYl : List MethodName := [⟨"SnapshotRings", "<init>", "()V"⟩,
  ⟨"SnapshotRings$State", "<init>", "()V"⟩,
  ⟨"SnapshotRings$History", "<init>", "()V"⟩,
  ⟨"SnapshotRings$Graph", "<init>", "()V"⟩,
  ⟨"SnapshotRings$Schedule", "<init>", "()V"⟩,
  ⟨"SnapshotRings", "setPolicy", "(I)I"⟩,
  ⟨"SnapshotRings$History", "push", "(LSnapshotRings$State;)V"⟩,
  ⟨"SnapshotRings$State", "copyFrom", "(LSnapshotRings$State;)V"⟩,
  ⟨"SnapshotRings", "setConstraint", "(III)I"⟩,
  ⟨"SnapshotRings", "isConstraint", "(I)Z"⟩,
  ⟨"SnapshotRings", "begin", "(I)I"⟩,
  ⟨"SnapshotRings", "errorOfBegin", "(I)I"⟩,
  ⟨"SnapshotRings", "isSlot", "(I)Z"⟩,
  ⟨"SnapshotRings$State", "isOpen", "(I)Z"⟩,
  ⟨"SnapshotRings", "hasBit", "(II)Z"⟩,
  ⟨"SnapshotRings$State", "start", "(I)I"⟩,
  ⟨"SnapshotRings", "read", "(II)I"⟩,
  ⟨"SnapshotRings", "errorOfRead", "(II)I"⟩,
  ⟨"SnapshotRings", "isKey", "(I)Z"⟩,
  ⟨"SnapshotRings", "errorOfSlot", "(I)I"⟩,
  ⟨"SnapshotRings$State", "readKey", "(II)I"⟩,
  ⟨"SnapshotRings", "write", "(III)I"⟩,
  ⟨"SnapshotRings", "errorOfWrite", "(III)I"⟩,
  ⟨"SnapshotRings$State", "writeKey", "(III)I"⟩,
  ⟨"java/lang/Integer", "bitCount", "(I)I"⟩,
  ⟨"SnapshotRings", "commit", "(I)I"⟩,
  ⟨"SnapshotRings", "finish", "(LSnapshotRings$State;I)I"⟩,
  ⟨"SnapshotRings", "reasonToRefuse", "(LSnapshotRings$State;II)I"⟩,
  ⟨"SnapshotRings$State", "overwritesNewer", "(I)Z"⟩,
  ⟨"SnapshotRings$Graph", "load", "(LSnapshotRings$State;)V"⟩,
  ⟨"SnapshotRings$State", "keptCommits", "()I"⟩,
  ⟨"SnapshotRings$State", "rowOfCommit", "(I)I"⟩,
  ⟨"SnapshotRings$Graph", "setNode", "(III)V"⟩,
  ⟨"SnapshotRings$Graph", "link", "(LSnapshotRings$State;II)V"⟩,
  ⟨"SnapshotRings$State", "dependencySum", "(IIII)I"⟩,
  ⟨"SnapshotRings$Graph", "join", "(LSnapshotRings$State;I)V"⟩,
  ⟨"SnapshotRings$Graph", "findRing", "()V"⟩,
  ⟨"SnapshotRings$Graph", "countSteps", "(I)V"⟩,
  ⟨"SnapshotRings$Graph", "lowestBehind", "(II)I"⟩,
  ⟨"SnapshotRings$Graph", "tell", "(I)V"⟩,
  ⟨"SnapshotRings$Graph", "hasPivot", "()Z"⟩,
  ⟨"SnapshotRings$State", "refuse", "(II)V"⟩,
  ⟨"SnapshotRings$State", "free", "(I)V"⟩,
  ⟨"SnapshotRings$State", "keepCommit", "(I)I"⟩,
  ⟨"SnapshotRings", "abort", "(I)I"⟩,
  ⟨"SnapshotRings$State", "giveUp", "(I)I"⟩,
  ⟨"SnapshotRings", "count", "(I)I"⟩,
  ⟨"SnapshotRings", "value", "(I)I"⟩,
  ⟨"SnapshotRings", "version", "(I)I"⟩,
  ⟨"SnapshotRings", "of", "(II)I"⟩,
  ⟨"SnapshotRings$State", "partOfRow", "(II)I"⟩,
  ⟨"SnapshotRings", "ofCommit", "(II)I"⟩,
  ⟨"SnapshotRings$State", "isKept", "(I)Z"⟩,
  ⟨"SnapshotRings", "dependency", "(II)I"⟩,
  ⟨"SnapshotRings", "ringOf", "(II)I"⟩,
  ⟨"SnapshotRings$Graph", "toldAt", "(I)I"⟩,
  ⟨"SnapshotRings", "inRings", "()I"⟩,
  ⟨"SnapshotRings$Graph", "countNodesInRings", "()I"⟩,
  ⟨"SnapshotRings", "orderAt", "(I)I"⟩,
  ⟨"SnapshotRings$Graph", "findOrder", "()V"⟩,
  ⟨"SnapshotRings$Graph", "lowestPossible", "(I)I"⟩,
  ⟨"SnapshotRings", "skews", "()I"⟩,
  ⟨"SnapshotRings$Graph", "countSkewPairs", "()I"⟩,
  ⟨"SnapshotRings", "holds", "(I)I"⟩,
  ⟨"SnapshotRings$State", "constraintIsMet", "([III)Z"⟩,
  ⟨"SnapshotRings", "holdsFor", "(II)I"⟩,
  ⟨"SnapshotRings", "ifAllCommitted", "()I"⟩,
  ⟨"SnapshotRings", "refusedBy", "(I)I"⟩,
  ⟨"SnapshotRings", "type", "(I)I"⟩,
  ⟨"SnapshotRings$Schedule", "append", "(C)V"⟩,
  ⟨"SnapshotRings", "clearText", "()I"⟩,
  ⟨"SnapshotRings", "syntaxError", "()I"⟩,
  ⟨"SnapshotRings$Schedule", "firstError", "()I"⟩,
  ⟨"SnapshotRings$Schedule", "signAt", "(I)C"⟩,
  ⟨"SnapshotRings$Schedule", "awaitedAfter", "(IC)I"⟩,
  ⟨"SnapshotRings$Schedule", "awaitedAfterLetter", "(C)I"⟩,
  ⟨"SnapshotRings$Schedule", "isBetween", "(CCC)Z"⟩,
  ⟨"SnapshotRings$Schedule", "awaitedAfterDigit", "(CI)I"⟩,
  ⟨"SnapshotRings$Schedule", "isDigit", "(C)Z"⟩,
  ⟨"SnapshotRings", "carryOut", "()I"⟩,
  ⟨"SnapshotRings", "carryOutStep", "(I)Z"⟩,
  ⟨"SnapshotRings$Schedule", "slotOfStep", "(I)I"⟩,
  ⟨"SnapshotRings", "carryOutAccess", "(ICI)Z"⟩,
  ⟨"SnapshotRings$Schedule", "keyOfStep", "(I)I"⟩,
  ⟨"SnapshotRings$Schedule", "valueOfStep", "(I)I"⟩,
  ⟨"SnapshotRings$Schedule", "nextStep", "(I)I"⟩,
  ⟨"SnapshotRings", "undo", "()I"⟩,
  ⟨"SnapshotRings$History", "popInto", "(LSnapshotRings$State;)V"⟩,
  ⟨"SnapshotRings", "digest", "()J"⟩,
  ⟨"SnapshotRings", "mixed", "(JJ)J"⟩,
  ⟨"SnapshotRings", "withOpenTransactions", "(J)J"⟩,
  ⟨"SnapshotRings", "withKeptCommits", "(J)J"⟩,
  ⟨"SnapshotRings", "withGraph", "(J)J"⟩,
  ⟨"SnapshotRingsModel", "<init>", "()V"⟩,
  ⟨"SnapshotRingsModel", "begin", "(I)I"⟩,
  ⟨"SnapshotRingsModel", "whyNotBegun", "(I)I"⟩,
  ⟨"SnapshotRingsModel", "isSlot", "(I)Z"⟩,
  ⟨"SnapshotRingsModel", "within", "(III)Z"⟩,
  ⟨"SnapshotRingsModel", "isOpen", "(I)Z"⟩,
  ⟨"SnapshotRingsModel", "slotPart", "(II)I"⟩,
  ⟨"SnapshotRingsModel", "record", "()V"⟩,
  ⟨"SnapshotRingsModel", "copies", "([II[II)V"⟩,
  ⟨"SnapshotRingsModel", "begins", "(I)I"⟩,
  ⟨"SnapshotRingsModel", "frees", "(I)V"⟩,
  ⟨"SnapshotRingsModel", "setSlot", "(III)V"⟩,
  ⟨"SnapshotRingsModel", "read", "(II)I"⟩,
  ⟨"SnapshotRingsModel", "whyNotRead", "(II)I"⟩,
  ⟨"SnapshotRingsModel", "isKey", "(I)Z"⟩,
  ⟨"SnapshotRingsModel", "reads", "(II)I"⟩,
  ⟨"SnapshotRingsModel", "write", "(III)I"⟩,
  ⟨"SnapshotRingsModel", "whyNotWritten", "(III)I"⟩,
  ⟨"SnapshotRingsModel", "writes", "(III)I"⟩,
  ⟨"SnapshotRingsModel", "ones", "(I)I"⟩,
  ⟨"SnapshotRingsModel", "commit", "(I)I"⟩,
  ⟨"SnapshotRingsModel", "whyNotOpen", "(I)I"⟩,
  ⟨"SnapshotRingsModel", "commits", "(I)I"⟩,
  ⟨"SnapshotRingsModel", "whyRefused", "(II)I"⟩,
  ⟨"SnapshotRingsModel", "isOverwritten", "(I)Z"⟩,
  ⟨"SnapshotRingsModel", "hasRing", "(I)Z"⟩,
  ⟨"SnapshotRingsModel", "findBehind", "(I)V"⟩,
  ⟨"SnapshotRingsModel", "isNode", "(I)Z"⟩,
  ⟨"SnapshotRingsModel", "keptMany", "()I"⟩,
  ⟨"SnapshotRingsModel", "dependencyOf", "(II)I"⟩,
  ⟨"SnapshotRingsModel", "placeOf", "(I)I"⟩,
  ⟨"SnapshotRingsModel", "numberOf", "(I)I"⟩,
  ⟨"SnapshotRingsModel", "firstKept", "()I"⟩,
  ⟨"SnapshotRingsModel", "keptAt", "(I)I"⟩,
  ⟨"SnapshotRingsModel", "findFar", "(I)V"⟩,
  ⟨"SnapshotRingsModel", "nextNode", "(I)I"⟩,
  ⟨"SnapshotRingsModel", "isPivot", "(I)Z"⟩,
  ⟨"SnapshotRingsModel", "abort", "(I)I"⟩,
  ⟨"SnapshotRingsModel", "aborts", "(I)I"⟩,
  ⟨"SnapshotRingsModel", "setPolicy", "(I)I"⟩,
  ⟨"SnapshotRingsModel", "setConstraint", "(III)I"⟩,
  ⟨"SnapshotRingsModel", "isConstraint", "(I)Z"⟩,
  ⟨"SnapshotRingsModel", "count", "(I)I"⟩,
  ⟨"SnapshotRingsModel", "countOf", "(I)I"⟩,
  ⟨"SnapshotRingsModel", "openMany", "()I"⟩,
  ⟨"SnapshotRingsModel", "value", "(I)I"⟩,
  ⟨"SnapshotRingsModel", "version", "(I)I"⟩,
  ⟨"SnapshotRingsModel", "of", "(II)I"⟩,
  ⟨"SnapshotRingsModel", "ofSlot", "(II)I"⟩,
  ⟨"SnapshotRingsModel", "ofCommit", "(II)I"⟩,
  ⟨"SnapshotRingsModel", "isKept", "(I)Z"⟩,
  ⟨"SnapshotRingsModel", "dependency", "(II)I"⟩,
  ⟨"SnapshotRingsModel", "ringOf", "(II)I"⟩,
  ⟨"SnapshotRingsModel", "inRings", "()I"⟩,
  ⟨"SnapshotRingsModel", "ringsMany", "()I"⟩,
  ⟨"SnapshotRingsModel", "findCommits", "(I)V"⟩,
  ⟨"SnapshotRingsModel", "orderAt", "(I)I"⟩,
  ⟨"SnapshotRingsModel", "findOrder", "()V"⟩,
  ⟨"SnapshotRingsModel", "orderOf", "(I)I"⟩,
  ⟨"SnapshotRingsModel", "skews", "()I"⟩,
  ⟨"SnapshotRingsModel", "holds", "(I)I"⟩,
  ⟨"SnapshotRingsModel", "isHeld", "(I)I"⟩,
  ⟨"SnapshotRingsModel", "holdsFor", "(II)I"⟩,
  ⟨"SnapshotRingsModel", "isHeldFor", "(II)I"⟩,
  ⟨"SnapshotRingsModel", "ifAllCommitted", "()I"⟩,
  ⟨"SnapshotRingsModel", "refusedBy", "(I)I"⟩,
  ⟨"SnapshotRingsModel", "type", "(I)I"⟩,
  ⟨"SnapshotRingsModel", "clearText", "()I"⟩,
  ⟨"SnapshotRingsModel", "syntaxError", "()I"⟩,
  ⟨"SnapshotRingsModel", "findError", "()I"⟩,
  ⟨"SnapshotRingsModel", "readsStep", "()Z"⟩,
  ⟨"SnapshotRingsModel", "character", "(I)I"⟩,
  ⟨"SnapshotRingsModel", "readsSlot", "()Z"⟩,
  ⟨"SnapshotRingsModel", "readsKey", "()Z"⟩,
  ⟨"SnapshotRingsModel", "isNext", "(I)Z"⟩,
  ⟨"SnapshotRingsModel", "readsValue", "()Z"⟩,
  ⟨"SnapshotRingsModel", "carryOut", "()I"⟩,
  ⟨"SnapshotRingsModel", "whyNotDone", "()I"⟩,
  ⟨"SnapshotRingsModel", "does", "()V"⟩,
  ⟨"SnapshotRingsModel", "undo", "()I"⟩,
  ⟨"SnapshotRingsModel", "digest", "()J"⟩,
  ⟨"SnapshotRingsLaw", "law", "([I)Z"⟩]
def sn_mY (m : Nat) : MethodName := (sn_nth sn_mYl m).getD ⟨"", "", ""⟩
def sn_mBl : List ByteArray := [prog_1_method_1_code, prog_5_method_1_code, prog_3_method_1_code, prog_2_method_1_code, prog_4_method_1_code, prog_1_method_2_code, prog_3_method_2_code, prog_5_method_2_code, prog_1_method_3_code, prog_1_method_31_code, prog_1_method_4_code, prog_1_method_34_code, prog_1_method_30_code, prog_5_method_3_code, prog_1_method_32_code, prog_5_method_4_code, prog_1_method_5_code, prog_1_method_36_code, prog_1_method_29_code, prog_1_method_35_code, prog_5_method_5_code, prog_1_method_6_code, prog_1_method_37_code, prog_5_method_6_code, prog_8_method_49_code, prog_1_method_7_code, prog_1_method_39_code, prog_1_method_38_code, prog_5_method_15_code, prog_2_method_2_code, prog_5_method_11_code, prog_5_method_13_code, prog_2_method_4_code, prog_2_method_5_code, prog_5_method_17_code, prog_2_method_3_code, prog_2_method_8_code, prog_2_method_9_code, prog_2_method_10_code, prog_2_method_7_code, prog_2_method_11_code, prog_5_method_8_code, prog_5_method_10_code, prog_5_method_9_code, prog_1_method_8_code, prog_5_method_7_code, prog_1_method_9_code, prog_1_method_10_code, prog_1_method_11_code, prog_1_method_12_code, prog_5_method_14_code, prog_1_method_13_code, prog_5_method_12_code, prog_1_method_14_code, prog_1_method_15_code, prog_2_method_6_code, prog_1_method_16_code, prog_2_method_12_code, prog_1_method_17_code, prog_2_method_13_code, prog_2_method_14_code, prog_1_method_18_code, prog_2_method_15_code, prog_1_method_19_code, prog_5_method_16_code, prog_1_method_20_code, prog_1_method_21_code, prog_1_method_22_code, prog_1_method_23_code, prog_4_method_2_code, prog_1_method_24_code, prog_1_method_25_code, prog_4_method_4_code, prog_4_method_3_code, prog_4_method_5_code, prog_4_method_6_code, prog_4_method_9_code, prog_4_method_7_code, prog_4_method_8_code, prog_1_method_26_code, prog_1_method_40_code, prog_4_method_10_code, prog_1_method_41_code, prog_4_method_11_code, prog_4_method_12_code, prog_4_method_13_code, prog_1_method_27_code, prog_3_method_3_code, prog_1_method_28_code, prog_1_method_33_code, prog_1_method_42_code, prog_1_method_43_code, prog_1_method_44_code, prog_7_method_1_code, prog_7_method_31_code, prog_7_method_29_code, prog_7_method_8_code, prog_7_method_3_code, prog_7_method_12_code, prog_7_method_10_code, prog_7_method_5_code, prog_7_method_4_code, prog_7_method_30_code, prog_7_method_28_code, prog_7_method_11_code, prog_7_method_34_code, prog_7_method_32_code, prog_7_method_7_code, prog_7_method_33_code, prog_7_method_37_code, prog_7_method_35_code, prog_7_method_36_code, prog_7_method_6_code, prog_7_method_40_code, prog_7_method_38_code, prog_7_method_39_code, prog_7_method_27_code, prog_7_method_26_code, prog_7_method_24_code, prog_7_method_21_code, prog_7_method_20_code, prog_7_method_13_code, prog_7_method_19_code, prog_7_method_18_code, prog_7_method_17_code, prog_7_method_14_code, prog_7_method_16_code, prog_7_method_22_code, prog_7_method_23_code, prog_7_method_25_code, prog_7_method_42_code, prog_7_method_41_code, prog_7_method_43_code, prog_7_method_44_code, prog_7_method_9_code, prog_7_method_47_code, prog_7_method_46_code, prog_7_method_45_code, prog_7_method_48_code, prog_7_method_49_code, prog_7_method_51_code, prog_7_method_50_code, prog_7_method_52_code, prog_7_method_15_code, prog_7_method_53_code, prog_7_method_54_code, prog_7_method_57_code, prog_7_method_56_code, prog_7_method_55_code, prog_7_method_60_code, prog_7_method_58_code, prog_7_method_59_code, prog_7_method_61_code, prog_7_method_63_code, prog_7_method_62_code, prog_7_method_65_code, prog_7_method_64_code, prog_7_method_66_code, prog_7_method_67_code, prog_7_method_68_code, prog_7_method_69_code, prog_7_method_77_code, prog_7_method_76_code, prog_7_method_75_code, prog_7_method_70_code, prog_7_method_72_code, prog_7_method_73_code, prog_7_method_71_code, prog_7_method_74_code, prog_7_method_80_code, prog_7_method_78_code, prog_7_method_79_code, prog_7_method_81_code, prog_7_method_82_code, code]
def sn_mB (m : Nat) : ByteArray := (sn_nth sn_mBl m).getD ⟨#[]⟩
def sn_mRl : List (Option FieldType) := [none, none, none, none, none, some .int, none, none, some .int, some .boolean, some .int, some .int, some .boolean, some .boolean, some .boolean, some .int, some .int, some .int, some .boolean, some .int, some .int, some .int, some .int, some .int, some .int, some .int, some .int, some .int, some .boolean, none, some .int, some .int, none, none, some .int, none, none, none, some .int, none, some .boolean, none, none, some .int, some .int, some .int, some .int, some .int, some .int, some .int, some .int, some .int, some .boolean, some .int, some .int, some .int, some .int, some .int, some .int, none, some .int, some .int, some .int, some .int, some .boolean, some .int, some .int, some .int, some .int, none, some .int, some .int, some .int, some .char, some .int, some .int, some .boolean, some .int, some .boolean, some .int, some .boolean, some .int, some .boolean, some .int, some .int, some .int, some .int, none, some .long, some .long, some .long, some .long, some .long, none, some .int, some .int, some .boolean, some .boolean, some .boolean, some .int, none, none, some .int, none, none, some .int, some .int, some .boolean, some .int, some .int, some .int, some .int, some .int, some .int, some .int, some .int, some .int, some .boolean, some .boolean, none, some .boolean, some .int, some .int, some .int, some .int, some .int, some .int, none, some .int, some .boolean, some .int, some .int, some .int, some .int, some .boolean, some .int, some .int, some .int, some .int, some .int, some .int, some .int, some .int, some .boolean, some .int, some .int, some .int, some .int, none, some .int, none, some .int, some .int, some .int, some .int, some .int, some .int, some .int, some .int, some .int, some .int, some .int, some .int, some .boolean, some .int, some .boolean, some .boolean, some .boolean, some .boolean, some .int, some .int, none, some .int, some .long, some .boolean]
def sn_mR (m : Nat) : Option FieldType := (sn_nth sn_mRl m).getD none
def sn_mOl : List Nat := [0, 1, 2, 3, 4, 0, 2, 1, 0, 0, 0, 0, 0, 1, 0, 1, 0, 0, 0, 0, 1, 0, 0, 1, 8, 0, 0, 0, 1, 3, 1, 1, 3, 3, 1, 3, 3, 3, 3, 3, 3, 1, 1, 1, 0, 1, 0, 0, 0, 0, 1, 0, 1, 0, 0, 3, 0, 3, 0, 3, 3, 0, 3, 0, 1, 0, 0, 0, 0, 4, 0, 0, 4, 4, 4, 4, 4, 4, 4, 0, 0, 4, 0, 4, 4, 4, 0, 2, 0, 0, 0, 0, 0, 5, 5, 5, 5, 5, 5, 5, 5, 5, 5, 5, 5, 5, 5, 5, 5, 5, 5, 5, 5, 5, 5, 5, 5, 5, 5, 5, 5, 5, 5, 5, 5, 5, 5, 5, 5, 5, 5, 5, 5, 5, 5, 5, 5, 5, 5, 5, 5, 5, 5, 5, 5, 5, 5, 5, 5, 5, 5, 5, 5, 5, 5, 5, 5, 5, 5, 5, 5, 5, 5, 5, 5, 5, 5, 5, 5, 5, 5, 5, 5, 5, 6]
def sn_mO (m : Nat) : Nat := (sn_nth sn_mOl m).getD 0
def sn_mLl : List Nat := [1, 1, 2, 1, 1, 3, 2, 2, 5, 1, 3, 2, 1, 2, 2, 2, 4, 3, 1, 2, 3, 5, 5, 4, 1, 3, 4, 4, 3, 5, 1, 2, 4, 5, 10, 5, 5, 6, 4, 2, 6, 3, 2, 4, 3, 2, 2, 2, 2, 4, 3, 3, 2, 3, 4, 2, 1, 3, 2, 4, 4, 1, 4, 2, 6, 4, 3, 4, 2, 2, 2, 1, 3, 2, 2, 1, 3, 2, 1, 3, 4, 2, 6, 2, 6, 3, 1, 2, 4, 4, 7, 9, 7, 1, 3, 2, 1, 3, 2, 3, 2, 5, 3, 3, 4, 4, 3, 1, 3, 5, 4, 4, 3, 3, 2, 4, 3, 4, 2, 4, 2, 1, 9, 2, 2, 1, 1, 5, 5, 6, 3, 3, 3, 5, 1, 2, 2, 3, 2, 2, 3, 3, 3, 2, 3, 5, 1, 3, 2, 2, 7, 2, 4, 2, 4, 3, 6, 3, 3, 2, 2, 1, 1, 2, 2, 2, 2, 3, 3, 3, 1, 1, 1, 5, 4]
def sn_mL (m : Nat) : Nat := (sn_nth sn_mLl m).getD 0
def sn_NAl : List Nat := [1, 1, 1, 1, 1, 2, 2, 2, 4, 1, 2, 2, 1, 2, 2, 2, 3, 3, 1, 2, 3, 4, 4, 4, 1, 2, 3, 4, 2, 2, 1, 2, 4, 4, 5, 3, 1, 2, 3, 2, 1, 3, 2, 2, 2, 2, 2, 2, 2, 3, 3, 3, 2, 3, 3, 2, 1, 1, 2, 1, 2, 1, 1, 2, 4, 3, 1, 2, 2, 2, 1, 1, 1, 2, 2, 1, 3, 2, 1, 1, 2, 2, 4, 2, 2, 2, 1, 2, 1, 2, 2, 2, 2, 1, 2, 2, 1, 3, 2, 3, 1, 4, 2, 2, 4, 3, 3, 1, 3, 4, 4, 4, 1, 2, 2, 2, 3, 2, 2, 2, 2, 1, 3, 2, 2, 1, 1, 2, 2, 2, 2, 2, 2, 4, 1, 2, 2, 1, 2, 2, 3, 3, 3, 2, 3, 3, 1, 1, 2, 2, 1, 2, 1, 2, 2, 3, 3, 1, 2, 2, 1, 1, 1, 1, 2, 1, 1, 2, 1, 1, 1, 1, 1, 1, 1]
def sn_NA (m : Nat) : Nat := (sn_nth sn_NAl m).getD 0
def sn_frl : List Nat := [3, 1, 2, 1, 1, 3, 2, 1, 3, 0, 3, 2, 0, 1, 0, 1, 4, 3, 0, 2, 1, 5, 4, 1, 0, 5, 4, 3, 1, 2, 1, 0, 0, 1, 0, 2, 2, 0, 1, 0, 1, 1, 0, 1, 3, 1, 2, 1, 1, 4, 0, 1, 0, 1, 3, 0, 3, 1, 3, 2, 1, 3, 1, 2, 1, 3, 5, 4, 1, 0, 0, 5, 4, 0, 3, 0, 0, 2, 1, 7, 6, 1, 5, 1, 2, 0, 3, 2, 6, 0, 5, 2, 3, 1, 4, 3, 1, 0, 2, 0, 1, 0, 2, 1, 0, 4, 3, 1, 1, 4, 3, 1, 0, 9, 3, 8, 7, 1, 6, 5, 1, 0, 4, 3, 2, 1, 0, 0, 0, 6, 4, 2, 2, 2, 1, 5, 4, 3, 2, 2, 9, 8, 3, 2, 5, 7, 8, 7, 6, 8, 7, 1, 7, 2, 0, 3, 1, 9, 8, 1, 0, 5, 4, 3, 0, 1, 1, 1, 2, 10, 4, 9, 1, 9, 11]
def sn_fr (m : Nat) : Nat := (sn_nth sn_frl m).getD 0
def sn_lol : List Nat := [61, 20, 40, 20, 20, 68, 47, 26, 68, 0, 68, 42, 0, 21, 0, 26, 85, 63, 0, 42, 21, 109, 85, 20, 0, 123, 100, 77, 21, 53, 21, 0, 0, 29, 0, 53, 44, 0, 21, 0, 21, 21, 0, 26, 68, 21, 41, 20, 20, 100, 0, 22, 0, 29, 77, 0, 77, 21, 77, 44, 21, 77, 21, 46, 21, 63, 123, 100, 21, 0, 0, 106, 84, 0, 63, 0, 0, 42, 22, 157, 134, 21, 109, 21, 42, 0, 68, 47, 149, 0, 123, 44, 77, 20, 84, 63, 22, 0, 42, 0, 24, 0, 45, 23, 0, 85, 63, 22, 23, 86, 63, 23, 0, 203, 63, 180, 158, 22, 133, 110, 20, 0, 82, 61, 40, 20, 0, 0, 0, 133, 84, 45, 45, 45, 22, 106, 85, 63, 42, 42, 202, 180, 61, 40, 110, 154, 176, 154, 133, 180, 154, 20, 154, 42, 0, 63, 22, 203, 180, 22, 0, 106, 86, 65, 0, 22, 22, 21, 43, 223, 86, 203, 24, 202, 245]
def sn_lo (m : Nat) : Nat := (sn_nth sn_lol m).getD 0
def sn_mcl : List Nat := [101, 10, 67, 8, 1, 0, 0, 0, 0, 0, 0, 0, 0, 0, 0, 0, 0, 0, 0, 0, 0, 0, 0, 0, 0, 0, 0, 0, 0, 0, 0, 0, 0, 0, 0, 0, 0, 0, 0, 0, 0, 0, 0, 0, 0, 0, 0, 0, 0, 0, 0, 0, 0, 0, 0, 0, 0, 0, 0, 0, 0, 0, 0, 0, 0, 0, 0, 0, 0, 0, 0, 0, 0, 0, 0, 0, 0, 0, 0, 0, 0, 0, 0, 0, 0, 0, 0, 0, 0, 0, 0, 0, 0, 7, 0, 0, 0, 0, 0, 0, 0, 0, 0, 0, 0, 0, 0, 0, 0, 0, 0, 0, 0, 0, 0, 0, 0, 0, 0, 0, 0, 0, 0, 0, 0, 0, 0, 0, 0, 0, 0, 0, 0, 0, 0, 0, 0, 0, 0, 0, 0, 0, 0, 0, 0, 0, 0, 0, 0, 0, 0, 0, 0, 0, 0, 0, 0, 0, 0, 0, 0, 0, 0, 0, 0, 0, 0, 0, 0, 0, 0, 0, 0, 0, 600000]
def sn_mc (m : Nat) : Nat := (sn_nth sn_mcl m).getD 0
def sn_msl : List Nat := [4541, 490, 3030, 408, 80, 0, 0, 0, 0, 0, 0, 0, 0, 0, 0, 0, 0, 0, 0, 0, 0, 0, 0, 0, 0, 0, 0, 0, 0, 0, 0, 0, 0, 0, 0, 0, 0, 0, 0, 0, 0, 0, 0, 0, 0, 0, 0, 0, 0, 0, 0, 0, 0, 0, 0, 0, 0, 0, 0, 0, 0, 0, 0, 0, 0, 0, 0, 0, 0, 0, 0, 0, 0, 0, 0, 0, 0, 0, 0, 0, 0, 0, 0, 0, 0, 0, 0, 0, 0, 0, 0, 0, 0, 4898, 0, 0, 0, 0, 0, 0, 0, 0, 0, 0, 0, 0, 0, 0, 0, 0, 0, 0, 0, 0, 0, 0, 0, 0, 0, 0, 0, 0, 0, 0, 0, 0, 0, 0, 0, 0, 0, 0, 0, 0, 0, 0, 0, 0, 0, 0, 0, 0, 0, 0, 0, 0, 0, 0, 0, 0, 0, 0, 0, 0, 0, 0, 0, 0, 0, 0, 0, 0, 0, 0, 0, 0, 0, 0, 0, 0, 0, 0, 0, 0, 7302250]
def sn_ms (m : Nat) : Nat := (sn_nth sn_msl m).getD 0
def sn_stl : List Bool := [false, false, false, false, false, false, false, false, false, true, false, false, true, false, true, false, false, false, true, false, false, false, false, false, true, false, false, false, false, false, false, false, false, false, false, false, false, false, false, false, false, false, false, false, false, false, false, false, false, false, false, false, false, false, false, false, false, false, false, false, false, false, false, false, false, false, false, false, false, false, false, false, false, false, true, true, true, true, true, false, false, false, false, false, false, false, false, false, false, true, false, false, false, false, false, false, true, true, false, false, false, true, false, false, false, false, false, true, false, false, false, false, true, false, false, false, false, false, false, false, false, false, false, false, false, false, true, false, false, false, false, false, false, false, true, false, false, false, false, false, false, false, false, false, false, false, false, false, false, false, false, false, false, false, false, false, false, false, false, false, false, false, false, false, false, false, false, false, false, false, false, false, false, false, true]
def sn_st (m : Nat) : Bool := (sn_nth sn_stl m).getD false
def sn_icl : List Nat := [78, 86, 147, 167, 207, 237, 241, 245, 255, 258, 262, 266, 269, 273, 276, 280, 284, 288, 291, 295, 299, 303, 307, 311, 314, 321, 325, 329, 333, 337, 341, 346, 350, 354, 358, 362, 366, 370, 376, 380, 384, 388, 392, 396, 401, 405, 409, 415, 419, 423, 427, 431, 435, 440, 445, 449, 453, 457, 461, 465, 469, 473, 477, 481, 485, 489, 493, 498, 502, 506, 510, 514, 518, 522, 525, 528, 531, 534, 537, 541, 545, 550, 554, 558, 562, 566, 570, 574, 578, 583, 588, 594, 599, 605, 659, 663, 666, 669, 673, 677, 681, 684, 688, 692, 696, 700, 704, 707, 711, 715, 719, 723, 726, 730, 734, 738, 742, 746, 750, 754, 758, 762, 766, 770, 774, 778, 781, 785, 789, 793, 797, 801, 805, 809, 812, 816, 820, 824, 828, 832, 836, 840, 844, 848, 852, 856, 860, 864, 868, 872, 876, 880, 884, 888, 892, 896, 900, 904, 908, 912, 916, 920, 924, 928, 932, 936, 940, 944, 948, 952, 956, 960, 964, 968, 0]
def sn_ic (m : Nat) : Nat := (sn_nth sn_icl m).getD 0
def sn_iil : List Nat := [77, 85, 146, 166, 206, 235, 239, 243, 253, 257, 260, 265, 268, 271, 275, 278, 282, 287, 290, 294, 297, 301, 306, 309, 313, 319, 324, 328, 331, 335, 339, 344, 349, 353, 356, 360, 364, 369, 375, 379, 382, 386, 391, 394, 399, 403, 407, 413, 417, 421, 425, 429, 433, 438, 443, 447, 451, 455, 459, 463, 468, 471, 475, 479, 483, 487, 491, 496, 500, 504, 508, 512, 516, 520, 524, 527, 530, 533, 536, 539, 544, 548, 553, 556, 560, 564, 568, 572, 576, 582, 587, 593, 598, 604, 657, 662, 665, 668, 672, 676, 680, 683, 687, 691, 695, 698, 703, 706, 710, 713, 718, 722, 725, 728, 733, 737, 741, 745, 749, 753, 757, 761, 765, 769, 773, 777, 780, 784, 788, 792, 795, 800, 803, 807, 811, 814, 819, 823, 826, 830, 834, 839, 842, 847, 850, 854, 858, 863, 867, 870, 875, 879, 882, 886, 891, 894, 899, 902, 906, 910, 914, 918, 923, 927, 931, 935, 939, 943, 947, 950, 955, 959, 962, 966, 0]
def sn_ii (m : Nat) : Nat := (sn_nth sn_iil m).getD 0
def sn_isl : List Nat := [0, 0, 0, 0, 0, 236, 240, 244, 254, 0, 261, 0, 0, 272, 0, 279, 283, 1, 0, 2, 298, 302, 3, 310, 0, 320, 4, 5, 332, 336, 340, 345, 6, 7, 357, 361, 365, 8, 9, 10, 383, 387, 11, 395, 400, 404, 408, 414, 418, 422, 426, 430, 434, 439, 444, 448, 452, 456, 460, 464, 12, 472, 476, 480, 484, 488, 492, 497, 501, 505, 509, 513, 517, 521, 0, 0, 0, 0, 0, 540, 13, 549, 14, 557, 561, 565, 569, 573, 577, 0, 15, 16, 17, 0, 658, 18, 0, 0, 19, 20, 21, 0, 22, 23, 24, 699, 25, 0, 26, 714, 27, 28, 0, 729, 29, 30, 31, 32, 33, 34, 35, 36, 37, 38, 39, 40, 0, 41, 42, 43, 796, 44, 804, 808, 0, 815, 45, 46, 827, 831, 835, 47, 843, 48, 851, 855, 859, 49, 50, 871, 51, 52, 883, 887, 53, 895, 54, 903, 907, 911, 915, 919, 55, 56, 57, 58, 59, 60, 61, 951, 62, 63, 963, 967, 0]
def sn_is (m : Nat) : Nat := (sn_nth sn_isl m).getD 0
def sn_inl : List Nat := [65, 66, 67, 68, 69, 65, 67, 66, 65, 65, 65, 65, 65, 66, 65, 66, 65, 65, 65, 65, 66, 65, 65, 66, 73, 65, 65, 65, 66, 68, 66, 66, 68, 68, 66, 68, 68, 68, 68, 68, 68, 66, 66, 66, 65, 66, 65, 65, 65, 65, 66, 65, 66, 65, 65, 68, 65, 68, 65, 68, 68, 65, 68, 65, 66, 65, 65, 65, 65, 69, 65, 65, 69, 69, 69, 69, 69, 69, 69, 65, 65, 69, 65, 69, 69, 69, 65, 67, 65, 65, 65, 65, 65, 70, 70, 70, 70, 70, 70, 70, 70, 70, 70, 70, 70, 70, 70, 70, 70, 70, 70, 70, 70, 70, 70, 70, 70, 70, 70, 70, 70, 70, 70, 70, 70, 70, 70, 70, 70, 70, 70, 70, 70, 70, 70, 70, 70, 70, 70, 70, 70, 70, 70, 70, 70, 70, 70, 70, 70, 70, 70, 70, 70, 70, 70, 70, 70, 70, 70, 70, 70, 70, 70, 70, 70, 70, 70, 70, 70, 70, 70, 70, 70, 70, 0]
def sn_in (m : Nat) : Nat := (sn_nth sn_inl m).getD 0
/-- SnapshotRings.<init>()V -/
def sn_c0 : List (List (Nat × sn_E)) := [[(0, .aload_n 0, 0, 0), (1, .invokespecial 3, 9998, 0), (4, .aload_n 0, 0, 0), (5, .new 9, 1, 0)],
  [(8, .dup, 0, 0), (9, .invokespecial 11, 1, 1), (12, .putfield 12, 0, 0), (15, .aload_n 0, 0, 0)],
  [(16, .new 9, 1, 0), (19, .dup, 0, 0), (20, .invokespecial 11, 1, 1), (23, .putfield 16, 0, 1)],
  [(26, .aload_n 0, 0, 0), (27, .new 19, 2, 0), (30, .dup, 0, 0), (31, .invokespecial 21, 2, 0)],
  [(34, .putfield 22, 0, 2), (37, .aload_n 0, 0, 0), (38, .new 26, 3, 0)],
  [(41, .dup, 0, 0), (42, .invokespecial 28, 3, 1), (45, .putfield 29, 0, 3)],
  [(48, .aload_n 0, 0, 0), (49, .new 33, 4, 0), (52, .dup, 0, 0), (53, .invokespecial 35, 4, 1)],
  [(56, .putfield 36, 0, 4), (59, .return_, 0, 0)]]
/-- SnapshotRings$State.<init>()V -/
def sn_c1 : List (List (Nat × sn_E)) := [[(0, .aload_n 0, 0, 0), (1, .invokespecial 3, 9998, 0), (4, .aload_n 0, 0, 0), (5, .iconst (4), 4, 0), (6, .newarray .int, 1, 0)],
  [(8, .putfield 9, 1, 4), (11, .aload_n 0, 0, 0), (12, .iconst (3), 3, 0), (13, .newarray .int, 1, 0), (15, .putfield 15, 1, 5)],
  [(18, .aload_n 0, 0, 0), (19, .iconst (3), 3, 0), (20, .newarray .int, 1, 0), (22, .putfield 18, 1, 6)],
  [(25, .aload_n 0, 0, 0), (26, .bipush (12), 12, 0), (28, .newarray .int, 1, 0), (30, .putfield 21, 1, 7)],
  [(33, .aload_n 0, 0, 0), (34, .bipush (12), 12, 0), (36, .newarray .int, 1, 0), (38, .putfield 24, 1, 8)],
  [(41, .aload_n 0, 0, 0), (42, .bipush (24), 24, 0), (44, .newarray .int, 1, 0), (46, .putfield 27, 1, 9)],
  [(49, .aload_n 0, 0, 0), (50, .bipush (24), 24, 0), (52, .newarray .int, 1, 0), (54, .putfield 30, 1, 10)],
  [(57, .aload_n 0, 0, 0), (58, .bipush (24), 24, 0), (60, .newarray .int, 1, 0), (62, .putfield 33, 1, 11)],
  [(65, .aload_n 0, 0, 0), (66, .sipush (288), 288, 0), (69, .newarray .int, 1, 0), (71, .putfield 36, 1, 12)],
  [(74, .aload_n 0, 0, 0), (75, .bipush (96), 96, 0), (77, .newarray .int, 1, 0), (79, .putfield 39, 1, 13)],
  [(82, .return_, 0, 0)]]
/-- SnapshotRings$History.<init>()V -/
def sn_c2 : List (List (Nat × sn_E)) := [[(0, .aload_n 0, 0, 0), (1, .invokespecial 3, 9998, 0), (4, .aload_n 0, 0, 0), (5, .bipush (6), 6, 0), (7, .anewarray 9, 1, 0)],
  [(10, .putfield 11, 2, 0), (13, .iconst (0), 0, 0), (14, .istore_n 1, 0, 0), (15, .iload_n 1, 0, 0)],
  [(16, .bipush (6), 6, 0), (18, .if_icmp .ge (22), 40, 0), (21, .aload_n 0, 0, 0), (22, .getfield 11, 2, 0)],
  [(25, .iload_n 1, 0, 0), (26, .new 9, 1, 0), (29, .dup, 0, 0), (30, .invokespecial 17, 1, 1)],
  [(33, .aastore, 0, 0), (34, .iinc 1 (1), 1, 0), (37, .goto (-22), 15, 0)],
  [(40, .return_, 0, 0)]]
/-- SnapshotRings$Graph.<init>()V -/
def sn_c3 : List (List (Nat × sn_E)) := [[(0, .aload_n 0, 0, 0), (1, .invokespecial 3, 9998, 0), (4, .aload_n 0, 0, 0), (5, .bipush (17), 17, 0), (7, .newarray .int, 1, 0)],
  [(9, .putfield 9, 3, 1), (12, .aload_n 0, 0, 0), (13, .bipush (17), 17, 0), (15, .newarray .int, 1, 0)],
  [(17, .putfield 15, 3, 2), (20, .aload_n 0, 0, 0), (21, .sipush (289), 289, 0)],
  [(24, .newarray .int, 1, 0), (26, .putfield 18, 3, 3), (29, .aload_n 0, 0, 0), (30, .bipush (17), 17, 0)],
  [(32, .newarray .int, 1, 0), (34, .putfield 21, 3, 4), (37, .aload_n 0, 0, 0), (38, .bipush (17), 17, 0)],
  [(40, .newarray .int, 1, 0), (42, .putfield 24, 3, 5), (45, .aload_n 0, 0, 0), (46, .bipush (17), 17, 0)],
  [(48, .newarray .int, 1, 0), (50, .putfield 27, 3, 6), (53, .aload_n 0, 0, 0), (54, .bipush (17), 17, 0)],
  [(56, .newarray .int, 1, 0), (58, .putfield 30, 3, 7), (61, .aload_n 0, 0, 0), (62, .bipush (17), 17, 0)],
  [(64, .newarray .int, 1, 0), (66, .putfield 33, 3, 8), (69, .return_, 0, 0)]]
/-- SnapshotRings$Schedule.<init>()V -/
def sn_c4 : List (List (Nat × sn_E)) := [[(0, .aload_n 0, 0, 0), (1, .invokespecial 3, 9998, 0), (4, .aload_n 0, 0, 0), (5, .bipush (80), 80, 0), (7, .newarray .char, 2, 0)],
  [(9, .putfield 9, 4, 0), (12, .return_, 0, 0)]]
/-- SnapshotRings.setPolicy(I)I -/
def sn_c5 : List (List (Nat × sn_E)) := [[(0, .iload_n 1, 0, 0), (1, .ifCond .lt (8), 9, 0), (4, .iload_n 1, 0, 0), (5, .iconst (2), 2, 0), (6, .if_icmp .le (7), 13, 0)],
  [(9, .sipush (-20002), 20002, 1), (12, .ireturn, 0, 0), (13, .aload_n 0, 0, 0), (14, .getfield 22, 0, 2)],
  [(17, .aload_n 0, 0, 0), (18, .getfield 12, 0, 0), (21, .invokevirtual 40, 6, 0)],
  [(24, .aload_n 0, 0, 0), (25, .getfield 12, 0, 0), (28, .getfield 44, 1, 0), (31, .istore_n 2, 0, 0)],
  [(32, .aload_n 0, 0, 0), (33, .getfield 12, 0, 0), (36, .iload_n 1, 0, 0), (37, .putfield 44, 1, 0)],
  [(40, .iload_n 2, 0, 0), (41, .ireturn, 0, 0)]]
/-- SnapshotRings$History.push(LSnapshotRings$State;)V -/
def sn_c6 : List (List (Nat × sn_E)) := [[(0, .aload_n 0, 0, 0), (1, .getfield 11, 2, 0), (4, .aload_n 0, 0, 0), (5, .getfield 18, 2, 2)],
  [(8, .aaload, 0, 0), (9, .aload_n 1, 0, 0), (10, .invokevirtual 22, 7, 0), (13, .aload_n 0, 0, 0), (14, .aload_n 0, 0, 0), (15, .getfield 18, 2, 2)],
  [(18, .iconst (1), 1, 0), (19, .iadd, 0, 0), (20, .bipush (6), 6, 0), (22, .irem, 0, 0), (23, .putfield 18, 2, 2)],
  [(26, .aload_n 0, 0, 0), (27, .aload_n 0, 0, 0), (28, .getfield 26, 2, 1), (31, .iconst (1), 1, 0)],
  [(32, .iadd, 0, 0), (33, .bipush (6), 6, 0), (35, .invokestatic 29, 9997, 0), (38, .putfield 26, 2, 1)],
  [(41, .return_, 0, 0)]]
/-- SnapshotRings$State.copyFrom(LSnapshotRings$State;)V -/
def sn_c7 : List (List (Nat × sn_E)) := [[(0, .aload_n 0, 0, 0), (1, .aload_n 1, 0, 0), (2, .getfield 42, 1, 0), (5, .putfield 42, 1, 0)],
  [(8, .aload_n 0, 0, 0), (9, .aload_n 1, 0, 0), (10, .getfield 46, 1, 1), (13, .putfield 46, 1, 1)],
  [(16, .aload_n 0, 0, 0), (17, .aload_n 1, 0, 0), (18, .getfield 49, 1, 2), (21, .putfield 49, 1, 2)],
  [(24, .aload_n 0, 0, 0), (25, .aload_n 1, 0, 0), (26, .getfield 52, 1, 3), (29, .putfield 52, 1, 3)],
  [(32, .aload_n 1, 0, 0), (33, .getfield 9, 1, 4), (36, .iconst (0), 0, 0), (37, .aload_n 0, 0, 0), (38, .getfield 9, 1, 4)],
  [(41, .iconst (0), 0, 0), (42, .iconst (4), 4, 0), (43, .invokestatic 55, 9999, 0), (46, .aload_n 1, 0, 0), (47, .getfield 15, 1, 5)],
  [(50, .iconst (0), 0, 0), (51, .aload_n 0, 0, 0), (52, .getfield 15, 1, 5), (55, .iconst (0), 0, 0)],
  [(56, .iconst (3), 3, 0), (57, .invokestatic 55, 9999, 0), (60, .aload_n 1, 0, 0), (61, .getfield 18, 1, 6)],
  [(64, .iconst (0), 0, 0), (65, .aload_n 0, 0, 0), (66, .getfield 18, 1, 6), (69, .iconst (0), 0, 0), (70, .iconst (3), 3, 0), (71, .invokestatic 55, 9999, 0)],
  [(74, .aload_n 1, 0, 0), (75, .getfield 21, 1, 7), (78, .iconst (0), 0, 0), (79, .aload_n 0, 0, 0)],
  [(80, .getfield 21, 1, 7), (83, .iconst (0), 0, 0), (84, .bipush (12), 12, 0), (86, .invokestatic 55, 9999, 0)],
  [(89, .aload_n 1, 0, 0), (90, .getfield 24, 1, 8), (93, .iconst (0), 0, 0), (94, .aload_n 0, 0, 0), (95, .getfield 24, 1, 8)],
  [(98, .iconst (0), 0, 0), (99, .bipush (12), 12, 0), (101, .invokestatic 55, 9999, 0)],
  [(104, .aload_n 1, 0, 0), (105, .getfield 27, 1, 9), (108, .iconst (0), 0, 0), (109, .aload_n 0, 0, 0), (110, .getfield 27, 1, 9)],
  [(113, .iconst (0), 0, 0), (114, .bipush (24), 24, 0), (116, .invokestatic 55, 9999, 0), (119, .aload_n 1, 0, 0)],
  [(120, .getfield 30, 1, 10), (123, .iconst (0), 0, 0), (124, .aload_n 0, 0, 0), (125, .getfield 30, 1, 10)],
  [(128, .iconst (0), 0, 0), (129, .bipush (24), 24, 0), (131, .invokestatic 55, 9999, 0), (134, .aload_n 1, 0, 0), (135, .getfield 33, 1, 11)],
  [(138, .iconst (0), 0, 0), (139, .aload_n 0, 0, 0), (140, .getfield 33, 1, 11), (143, .iconst (0), 0, 0)],
  [(144, .bipush (24), 24, 0), (146, .invokestatic 55, 9999, 0), (149, .aload_n 1, 0, 0), (150, .getfield 36, 1, 12)],
  [(153, .iconst (0), 0, 0), (154, .aload_n 0, 0, 0), (155, .getfield 36, 1, 12), (158, .iconst (0), 0, 0), (159, .sipush (288), 288, 0)],
  [(162, .invokestatic 55, 9999, 0), (165, .aload_n 1, 0, 0), (166, .getfield 39, 1, 13)],
  [(169, .iconst (0), 0, 0), (170, .aload_n 0, 0, 0), (171, .getfield 39, 1, 13), (174, .iconst (0), 0, 0), (175, .bipush (96), 96, 0)],
  [(177, .invokestatic 55, 9999, 0), (180, .return_, 0, 0)]]
/-- SnapshotRings.setConstraint(III)I -/
def sn_c8 : List (List (Nat × sn_E)) := [[(0, .iload_n 1, 0, 0), (1, .invokestatic 48, 9, 0), (4, .ifCond .ne (7), 11, 0), (7, .sipush (-20001), 20001, 1)],
  [(10, .ireturn, 0, 0), (11, .iload_n 2, 0, 0), (12, .ifCond .lt (24), 36, 0), (15, .iload_n 2, 0, 0)],
  [(16, .sipush (4095), 4095, 0), (19, .if_icmp .gt (17), 36, 0), (22, .iload_n 3, 0, 0), (23, .sipush (-9999), 9999, 1)],
  [(26, .if_icmp .lt (10), 36, 0), (29, .iload_n 3, 0, 0), (30, .sipush (9999), 9999, 0)],
  [(33, .if_icmp .le (7), 40, 0), (36, .sipush (-20002), 20002, 1), (39, .ireturn, 0, 0)],
  [(40, .aload_n 0, 0, 0), (41, .getfield 22, 0, 2), (44, .aload_n 0, 0, 0), (45, .getfield 12, 0, 0)],
  [(48, .invokevirtual 40, 6, 0), (51, .aload_n 0, 0, 0), (52, .getfield 12, 0, 0), (55, .getfield 52, 1, 6)],
  [(58, .iload_n 1, 0, 0), (59, .iaload, 0, 0), (60, .istore 4, 4, 0), (62, .aload_n 0, 0, 0), (63, .getfield 12, 0, 0)],
  [(66, .getfield 56, 1, 5), (69, .iload_n 1, 0, 0), (70, .iload_n 2, 0, 0), (71, .iastore, 0, 0)],
  [(72, .aload_n 0, 0, 0), (73, .getfield 12, 0, 0), (76, .getfield 52, 1, 6), (79, .iload_n 1, 0, 0)],
  [(80, .iload_n 3, 0, 0), (81, .iastore, 0, 0), (82, .iload 4, 4, 0), (84, .ireturn, 0, 0)]]
/-- SnapshotRings.isConstraint(I)Z -/
def sn_c9 : List (List (Nat × sn_E)) := [[(0, .iload_n 0, 0, 0), (1, .ifCond .lt (12), 13, 0), (4, .iload_n 0, 0, 0), (5, .iconst (3), 3, 0), (6, .if_icmp .ge (7), 13, 0)],
  [(9, .iconst (1), 1, 0), (10, .goto (4), 14, 0), (13, .iconst (0), 0, 0), (14, .ireturn, 0, 0)]]
/-- SnapshotRings.begin(I)I -/
def sn_c10 : List (List (Nat × sn_E)) := [[(0, .aload_n 0, 0, 0), (1, .iload_n 1, 0, 0), (2, .invokevirtual 59, 11, 0), (5, .istore_n 2, 0, 0), (6, .iload_n 2, 0, 0), (7, .ifCond .eq (5), 12, 0)],
  [(10, .iload_n 2, 0, 0), (11, .ireturn, 0, 0), (12, .aload_n 0, 0, 0), (13, .getfield 22, 0, 2)],
  [(16, .aload_n 0, 0, 0), (17, .getfield 12, 0, 0), (20, .invokevirtual 40, 6, 0), (23, .aload_n 0, 0, 0)],
  [(24, .getfield 12, 0, 0), (27, .iload_n 1, 0, 0), (28, .invokevirtual 63, 15, 0), (31, .ireturn, 0, 0)]]
/-- SnapshotRings.errorOfBegin(I)I -/
def sn_c11 : List (List (Nat × sn_E)) := [[(0, .iload_n 1, 0, 0), (1, .invokestatic 218, 12, 0), (4, .ifCond .ne (7), 11, 0), (7, .sipush (-20001), 20001, 1)],
  [(10, .ireturn, 0, 0), (11, .aload_n 0, 0, 0), (12, .getfield 12, 0, 0), (15, .iload_n 1, 0, 0)],
  [(16, .invokevirtual 169, 13, 0), (19, .ifCond .eq (9), 28, 0), (22, .sipush (-20003), 20003, 1)],
  [(25, .goto (4), 29, 0), (28, .iconst (0), 0, 0), (29, .ireturn, 0, 0)]]
/-- SnapshotRings.isSlot(I)Z -/
def sn_c12 : List (List (Nat × sn_E)) := [[(0, .iload_n 0, 0, 0), (1, .ifCond .lt (13), 14, 0), (4, .iload_n 0, 0, 0), (5, .bipush (8), 8, 0), (7, .if_icmp .ge (7), 14, 0)],
  [(10, .iconst (1), 1, 0), (11, .goto (4), 15, 0), (14, .iconst (0), 0, 0), (15, .ireturn, 0, 0)]]
/-- SnapshotRings$State.isOpen(I)Z -/
def sn_c13 : List (List (Nat × sn_E)) := [[(0, .aload_n 0, 0, 0), (1, .getfield 52, 1, 3), (4, .iload_n 1, 0, 0), (5, .invokestatic 61, 14, 1)],
  [(8, .ireturn, 0, 0)]]
/-- SnapshotRings.hasBit(II)Z -/
def sn_c14 : List (List (Nat × sn_E)) := [[(0, .iload_n 0, 0, 0), (1, .iload_n 1, 0, 0), (2, .ishr, 0, 0), (3, .iconst (1), 1, 0), (4, .iand, 0, 0), (5, .iconst (1), 1, 0), (6, .if_icmp .ne (7), 13, 0)],
  [(9, .iconst (1), 1, 0), (10, .goto (4), 14, 0), (13, .iconst (0), 0, 0), (14, .ireturn, 0, 0)]]
/-- SnapshotRings$State.start(I)I -/
def sn_c15 : List (List (Nat × sn_E)) := [[(0, .aload_n 0, 0, 0), (1, .dup, 0, 0), (2, .getfield 52, 1, 3), (5, .iconst (1), 1, 0), (6, .iload_n 1, 0, 0), (7, .ishl, 0, 0)],
  [(8, .ior, 0, 0), (9, .putfield 52, 1, 3), (12, .aload_n 0, 0, 0), (13, .getfield 27, 1, 9)],
  [(16, .iload_n 1, 0, 0), (17, .aload_n 0, 0, 0), (18, .getfield 46, 1, 1), (21, .iastore, 0, 0), (22, .aload_n 0, 0, 0), (23, .getfield 30, 1, 10)],
  [(26, .iload_n 1, 0, 0), (27, .iconst (0), 0, 0), (28, .iastore, 0, 0), (29, .aload_n 0, 0, 0), (30, .getfield 33, 1, 11)],
  [(33, .iload_n 1, 0, 0), (34, .iconst (0), 0, 0), (35, .iastore, 0, 0), (36, .aload_n 0, 0, 0), (37, .getfield 24, 1, 8)],
  [(40, .iconst (0), 0, 0), (41, .aload_n 0, 0, 0), (42, .getfield 36, 1, 12), (45, .iload_n 1, 0, 0), (46, .bipush (12), 12, 0)],
  [(48, .imul, 0, 0), (49, .bipush (12), 12, 0), (51, .invokestatic 55, 9999, 0), (54, .aload_n 0, 0, 0), (55, .getfield 21, 1, 7)],
  [(58, .iconst (0), 0, 0), (59, .aload_n 0, 0, 0), (60, .getfield 39, 1, 13), (63, .iload_n 1, 0, 0)],
  [(64, .bipush (12), 12, 0), (66, .imul, 0, 0), (67, .bipush (12), 12, 0), (69, .invokestatic 55, 9999, 0)],
  [(72, .aload_n 0, 0, 0), (73, .getfield 46, 1, 1), (76, .ireturn, 0, 0)]]
/-- SnapshotRings.read(II)I -/
def sn_c16 : List (List (Nat × sn_E)) := [[(0, .aload_n 0, 0, 0), (1, .iload_n 1, 0, 0), (2, .iload_n 2, 0, 0), (3, .invokevirtual 66, 17, 0), (6, .istore_n 3, 0, 0), (7, .iload_n 3, 0, 0)],
  [(8, .ifCond .eq (5), 13, 0), (11, .iload_n 3, 0, 0), (12, .ireturn, 0, 0), (13, .aload_n 0, 0, 0), (14, .getfield 22, 0, 2)],
  [(17, .aload_n 0, 0, 0), (18, .getfield 12, 0, 0), (21, .invokevirtual 40, 6, 0)],
  [(24, .aload_n 0, 0, 0), (25, .getfield 12, 0, 0), (28, .iload_n 1, 0, 0), (29, .iload_n 2, 0, 0), (30, .invokevirtual 70, 20, 0)],
  [(33, .ireturn, 0, 0)]]
/-- SnapshotRings.errorOfRead(II)I -/
def sn_c17 : List (List (Nat × sn_E)) := [[(0, .iload_n 2, 0, 0), (1, .invokestatic 111, 18, 0), (4, .ifCond .eq (11), 15, 0), (7, .aload_n 0, 0, 0)],
  [(8, .iload_n 1, 0, 0), (9, .invokevirtual 80, 19, 0), (12, .goto (6), 18, 0), (15, .sipush (-20001), 20001, 1)],
  [(18, .ireturn, 0, 0)]]
/-- SnapshotRings.isKey(I)Z -/
def sn_c18 : List (List (Nat × sn_E)) := [[(0, .iload_n 0, 0, 0), (1, .ifCond .lt (13), 14, 0), (4, .iload_n 0, 0, 0), (5, .bipush (12), 12, 0), (7, .if_icmp .ge (7), 14, 0)],
  [(10, .iconst (1), 1, 0), (11, .goto (4), 15, 0), (14, .iconst (0), 0, 0), (15, .ireturn, 0, 0)]]
/-- SnapshotRings.errorOfSlot(I)I -/
def sn_c19 : List (List (Nat × sn_E)) := [[(0, .iload_n 1, 0, 0), (1, .invokestatic 218, 12, 0), (4, .ifCond .eq (18), 22, 0), (7, .aload_n 0, 0, 0)],
  [(8, .getfield 12, 0, 0), (11, .iload_n 1, 0, 0), (12, .invokevirtual 169, 13, 0), (15, .ifCond .eq (7), 22, 0)],
  [(18, .iconst (0), 0, 0), (19, .goto (6), 25, 0), (22, .sipush (-20001), 20001, 1)],
  [(25, .ireturn, 0, 0)]]
/-- SnapshotRings$State.readKey(II)I -/
def sn_c20 : List (List (Nat × sn_E)) := [[(0, .aload_n 0, 0, 0), (1, .getfield 33, 1, 11), (4, .iload_n 1, 0, 0), (5, .iaload, 0, 0), (6, .iload_n 2, 0, 0), (7, .invokestatic 61, 14, 1)],
  [(10, .ifCond .ne (15), 25, 0), (13, .aload_n 0, 0, 0), (14, .getfield 30, 1, 10)],
  [(17, .iload_n 1, 0, 0), (18, .dup2, 0, 0), (19, .iaload, 0, 0), (20, .iconst (1), 1, 0), (21, .iload_n 2, 0, 0), (22, .ishl, 0, 0), (23, .ior, 0, 0)],
  [(24, .iastore, 0, 0), (25, .aload_n 0, 0, 0), (26, .getfield 39, 1, 13), (29, .iload_n 1, 0, 0), (30, .bipush (12), 12, 0)],
  [(32, .imul, 0, 0), (33, .iload_n 2, 0, 0), (34, .iadd, 0, 0), (35, .iaload, 0, 0), (36, .ireturn, 0, 0)]]
/-- SnapshotRings.write(III)I -/
def sn_c21 : List (List (Nat × sn_E)) := [[(0, .aload_n 0, 0, 0), (1, .iload_n 1, 0, 0), (2, .iload_n 2, 0, 0), (3, .iload_n 3, 0, 0), (4, .invokevirtual 73, 22, 0), (7, .istore 4, 4, 0)],
  [(9, .iload 4, 4, 0), (11, .ifCond .eq (6), 17, 0), (14, .iload 4, 4, 0)],
  [(16, .ireturn, 0, 0), (17, .aload_n 0, 0, 0), (18, .getfield 22, 0, 2), (21, .aload_n 0, 0, 0), (22, .getfield 12, 0, 0)],
  [(25, .invokevirtual 40, 6, 0), (28, .aload_n 0, 0, 0), (29, .getfield 12, 0, 0)],
  [(32, .iload_n 1, 0, 0), (33, .iload_n 2, 0, 0), (34, .iload_n 3, 0, 0), (35, .invokevirtual 77, 23, 0), (38, .ireturn, 0, 0)]]
/-- SnapshotRings.errorOfWrite(III)I -/
def sn_c22 : List (List (Nat × sn_E)) := [[(0, .aload_n 0, 0, 0), (1, .iload_n 1, 0, 0), (2, .iload_n 2, 0, 0), (3, .invokevirtual 66, 17, 0), (6, .istore 4, 4, 0)],
  [(8, .iload 4, 4, 0), (10, .ifCond .eq (6), 16, 0), (13, .iload 4, 4, 0), (15, .ireturn, 0, 0)],
  [(16, .iload_n 3, 0, 0), (17, .sipush (-999), 999, 1), (20, .if_icmp .lt (10), 30, 0), (23, .iload_n 3, 0, 0)],
  [(24, .sipush (999), 999, 0), (27, .if_icmp .le (9), 36, 0), (30, .sipush (-20002), 20002, 1)],
  [(33, .goto (4), 37, 0), (36, .iconst (0), 0, 0), (37, .ireturn, 0, 0)]]
/-- SnapshotRings$State.writeKey(III)I -/
def sn_c23 : List (List (Nat × sn_E)) := [[(0, .aload_n 0, 0, 0), (1, .getfield 33, 1, 11), (4, .iload_n 1, 0, 0), (5, .dup2, 0, 0), (6, .iaload, 0, 0), (7, .iconst (1), 1, 0)],
  [(8, .iload_n 2, 0, 0), (9, .ishl, 0, 0), (10, .ior, 0, 0), (11, .iastore, 0, 0), (12, .aload_n 0, 0, 0), (13, .getfield 39, 1, 13)],
  [(16, .iload_n 1, 0, 0), (17, .bipush (12), 12, 0), (19, .imul, 0, 0), (20, .iload_n 2, 0, 0), (21, .iadd, 0, 0), (22, .iload_n 3, 0, 0), (23, .iastore, 0, 0)],
  [(24, .aload_n 0, 0, 0), (25, .getfield 33, 1, 11), (28, .iload_n 1, 0, 0), (29, .iaload, 0, 0), (30, .invokestatic 65, 24, 0)],
  [(33, .ireturn, 0, 0)]]
/-- java/lang/Integer.bitCount(I)I -/
def sn_c24 : List (List (Nat × sn_E)) := [[(0, .iload_n 0, 0, 0), (1, .iload_n 0, 0, 0), (2, .iconst (1), 1, 0), (3, .iushr, 0, 0), (4, .ldc_w 265, 1431655765, 0), (7, .iand, 0, 0)],
  [(8, .isub, 0, 0), (9, .istore_n 0, 0, 0), (10, .iload_n 0, 0, 0), (11, .ldc_w 266, 858993459, 0), (14, .iand, 0, 0), (15, .iload_n 0, 0, 0)],
  [(16, .iconst (2), 2, 0), (17, .iushr, 0, 0), (18, .ldc_w 266, 858993459, 0), (21, .iand, 0, 0), (22, .iadd, 0, 0), (23, .istore_n 0, 0, 0)],
  [(24, .iload_n 0, 0, 0), (25, .iload_n 0, 0, 0), (26, .iconst (4), 4, 0), (27, .iushr, 0, 0), (28, .iadd, 0, 0), (29, .ldc_w 267, 252645135, 0)],
  [(32, .iand, 0, 0), (33, .istore_n 0, 0, 0), (34, .iload_n 0, 0, 0), (35, .iload_n 0, 0, 0), (36, .bipush (8), 8, 0), (38, .iushr, 0, 0), (39, .iadd, 0, 0)],
  [(40, .istore_n 0, 0, 0), (41, .iload_n 0, 0, 0), (42, .iload_n 0, 0, 0), (43, .bipush (16), 16, 0), (45, .iushr, 0, 0), (46, .iadd, 0, 0), (47, .istore_n 0, 0, 0)],
  [(48, .iload_n 0, 0, 0), (49, .bipush (63), 63, 0), (51, .iand, 0, 0), (52, .ireturn, 0, 0)]]
/-- SnapshotRings.commit(I)I -/
def sn_c25 : List (List (Nat × sn_E)) := [[(0, .aload_n 0, 0, 0), (1, .iload_n 1, 0, 0), (2, .invokevirtual 80, 19, 0), (5, .istore_n 2, 0, 0), (6, .iload_n 2, 0, 0), (7, .ifCond .eq (5), 12, 0)],
  [(10, .iload_n 2, 0, 0), (11, .ireturn, 0, 0), (12, .aload_n 0, 0, 0), (13, .getfield 22, 0, 2)],
  [(16, .aload_n 0, 0, 0), (17, .getfield 12, 0, 0), (20, .invokevirtual 40, 6, 0), (23, .aload_n 0, 0, 0)],
  [(24, .aload_n 0, 0, 0), (25, .getfield 12, 0, 0), (28, .iload_n 1, 0, 0), (29, .invokevirtual 83, 26, 0)],
  [(32, .ireturn, 0, 0)]]
/-- SnapshotRings.finish(LSnapshotRings$State;I)I -/
def sn_c26 : List (List (Nat × sn_E)) := [[(0, .aload_n 0, 0, 0), (1, .aload_n 1, 0, 0), (2, .iload_n 2, 0, 0), (3, .aload_n 1, 0, 0), (4, .getfield 44, 1, 0), (7, .invokevirtual 120, 27, 0)],
  [(10, .istore_n 3, 0, 0), (11, .iload_n 3, 0, 0), (12, .ifCond .eq (12), 24, 0), (15, .aload_n 1, 0, 0)],
  [(16, .iload_n 2, 0, 0), (17, .iload_n 3, 0, 0), (18, .invokevirtual 231, 41, 0), (21, .iload_n 3, 0, 0), (22, .ineg, 0, 0), (23, .ireturn, 0, 0)],
  [(24, .aload_n 1, 0, 0), (25, .iload_n 2, 0, 0), (26, .invokevirtual 235, 43, 0), (29, .ireturn, 0, 0)]]
/-- SnapshotRings.reasonToRefuse(LSnapshotRings$State;II)I -/
def sn_c27 : List (List (Nat × sn_E)) := [[(0, .aload_n 1, 0, 0), (1, .iload_n 2, 0, 0), (2, .invokevirtual 221, 28, 0), (5, .ifCond .eq (5), 10, 0)],
  [(8, .iconst (1), 1, 0), (9, .ireturn, 0, 0), (10, .iload_n 3, 0, 0), (11, .iconst (1), 1, 0), (12, .if_icmp .ge (5), 17, 0), (15, .iconst (0), 0, 0)],
  [(16, .ireturn, 0, 0), (17, .aload_n 0, 0, 0), (18, .getfield 29, 0, 3), (21, .aload_n 1, 0, 0), (22, .invokevirtual 137, 29, 0)],
  [(25, .aload_n 0, 0, 0), (26, .getfield 29, 0, 3), (29, .aload_n 1, 0, 0), (30, .iload_n 2, 0, 0), (31, .invokevirtual 140, 35, 0)],
  [(34, .aload_n 0, 0, 0), (35, .getfield 29, 0, 3), (38, .invokevirtual 144, 36, 0)],
  [(41, .aload_n 0, 0, 0), (42, .getfield 29, 0, 3), (45, .getfield 224, 3, 9)],
  [(48, .ifCond .le (5), 53, 0), (51, .iconst (2), 2, 0), (52, .ireturn, 0, 0), (53, .iload_n 3, 0, 0), (54, .iconst (2), 2, 0), (55, .if_icmp .ge (5), 60, 0)],
  [(58, .iconst (0), 0, 0), (59, .ireturn, 0, 0), (60, .aload_n 0, 0, 0), (61, .getfield 29, 0, 3)],
  [(64, .invokevirtual 227, 40, 0), (67, .ifCond .eq (7), 74, 0), (70, .iconst (3), 3, 0), (71, .goto (4), 75, 0)],
  [(74, .iconst (0), 0, 0), (75, .ireturn, 0, 0)]]
/-- SnapshotRings$State.overwritesNewer(I)Z -/
def sn_c28 : List (List (Nat × sn_E)) := [[(0, .iconst (0), 0, 0), (1, .istore_n 2, 0, 0), (2, .iload_n 2, 0, 0), (3, .bipush (12), 12, 0), (5, .if_icmp .ge (39), 44, 0)],
  [(8, .aload_n 0, 0, 0), (9, .getfield 33, 1, 11), (12, .iload_n 1, 0, 0), (13, .iaload, 0, 0), (14, .iload_n 2, 0, 0), (15, .invokestatic 61, 14, 1)],
  [(18, .ifCond .eq (20), 38, 0), (21, .aload_n 0, 0, 0), (22, .getfield 24, 1, 8)],
  [(25, .iload_n 2, 0, 0), (26, .iaload, 0, 0), (27, .aload_n 0, 0, 0), (28, .getfield 27, 1, 9), (31, .iload_n 1, 0, 0)],
  [(32, .iaload, 0, 0), (33, .if_icmp .le (5), 38, 0), (36, .iconst (1), 1, 0), (37, .ireturn, 0, 0), (38, .iinc 2 (1), 1, 0)],
  [(41, .goto (-39), 2, 0), (44, .iconst (0), 0, 0), (45, .ireturn, 0, 0)]]
/-- SnapshotRings$Graph.load(LSnapshotRings$State;)V -/
def sn_c29 : List (List (Nat × sn_E)) := [[(0, .aload_n 0, 0, 0), (1, .aload_n 1, 0, 0), (2, .invokevirtual 36, 30, 0), (5, .putfield 42, 3, 0)],
  [(8, .aload_n 1, 0, 0), (9, .getfield 46, 1, 1), (12, .aload_n 0, 0, 0), (13, .getfield 42, 3, 0)],
  [(16, .isub, 0, 0), (17, .iconst (1), 1, 0), (18, .iadd, 0, 0), (19, .istore_n 2, 0, 0), (20, .iconst (0), 0, 0), (21, .istore_n 3, 0, 0), (22, .iload_n 3, 0, 0), (23, .aload_n 0, 0, 0)],
  [(24, .getfield 42, 3, 0), (27, .if_icmp .ge (24), 51, 0), (30, .aload_n 0, 0, 0), (31, .iload_n 3, 0, 0)],
  [(32, .aload_n 1, 0, 0), (33, .iload_n 2, 0, 0), (34, .iload_n 3, 0, 0), (35, .iadd, 0, 0), (36, .invokevirtual 49, 31, 0), (39, .iload_n 2, 0, 0)],
  [(40, .iload_n 3, 0, 0), (41, .iadd, 0, 0), (42, .invokevirtual 53, 32, 0), (45, .iinc 3 (1), 1, 0)],
  [(48, .goto (-26), 22, 0), (51, .iconst (0), 0, 0), (52, .istore_n 3, 0, 0), (53, .iload_n 3, 0, 0), (54, .aload_n 0, 0, 0), (55, .getfield 42, 3, 0)],
  [(58, .if_icmp .ge (41), 99, 0), (61, .iconst (0), 0, 0), (62, .istore 4, 4, 0)],
  [(64, .iload 4, 4, 0), (66, .aload_n 0, 0, 0), (67, .getfield 42, 3, 0), (70, .if_icmp .ge (23), 93, 0)],
  [(73, .iload_n 3, 0, 0), (74, .iload 4, 4, 0), (76, .if_icmp .eq (11), 87, 0), (79, .aload_n 0, 0, 0)],
  [(80, .aload_n 1, 0, 0), (81, .iload_n 3, 0, 0), (82, .iload 4, 4, 0), (84, .invokevirtual 57, 33, 0), (87, .iinc 4 (1), 1, 0)],
  [(90, .goto (-26), 64, 0), (93, .iinc 3 (1), 1, 0)],
  [(96, .goto (-43), 53, 0), (99, .return_, 0, 0)]]
/-- SnapshotRings$State.keptCommits()I -/
def sn_c30 : List (List (Nat × sn_E)) := [[(0, .aload_n 0, 0, 0), (1, .getfield 46, 1, 1), (4, .bipush (16), 16, 0), (6, .invokestatic 78, 9997, 0)],
  [(9, .ireturn, 0, 0)]]
/-- SnapshotRings$State.rowOfCommit(I)I -/
def sn_c31 : List (List (Nat × sn_E)) := [[(0, .bipush (8), 8, 0), (2, .iload_n 1, 0, 0), (3, .iconst (1), 1, 0), (4, .isub, 0, 0), (5, .bipush (15), 15, 0), (7, .iand, 0, 0)],
  [(8, .iadd, 0, 0), (9, .ireturn, 0, 0)]]
/-- SnapshotRings$Graph.setNode(III)V -/
def sn_c32 : List (List (Nat × sn_E)) := [[(0, .aload_n 0, 0, 0), (1, .getfield 9, 3, 1), (4, .iload_n 1, 0, 0), (5, .iload_n 2, 0, 0), (6, .iastore, 0, 0), (7, .aload_n 0, 0, 0)],
  [(8, .getfield 15, 3, 2), (11, .iload_n 1, 0, 0), (12, .iload_n 3, 0, 0), (13, .iastore, 0, 0), (14, .aload_n 0, 0, 0), (15, .getfield 21, 3, 4)],
  [(18, .iload_n 1, 0, 0), (19, .iconst (0), 0, 0), (20, .iastore, 0, 0), (21, .aload_n 0, 0, 0), (22, .getfield 24, 3, 5)],
  [(25, .iload_n 1, 0, 0), (26, .iconst (0), 0, 0), (27, .iastore, 0, 0), (28, .return_, 0, 0)]]
/-- SnapshotRings$Graph.link(LSnapshotRings$State;II)V -/
def sn_c33 : List (List (Nat × sn_E)) := [[(0, .aload_n 1, 0, 0), (1, .aload_n 0, 0, 0), (2, .getfield 9, 3, 1), (5, .iload_n 2, 0, 0), (6, .iaload, 0, 0), (7, .aload_n 0, 0, 0)],
  [(8, .getfield 15, 3, 2), (11, .iload_n 2, 0, 0), (12, .iaload, 0, 0), (13, .aload_n 0, 0, 0), (14, .getfield 9, 3, 1)],
  [(17, .iload_n 3, 0, 0), (18, .iaload, 0, 0), (19, .aload_n 0, 0, 0), (20, .getfield 15, 3, 2), (23, .iload_n 3, 0, 0)],
  [(24, .iaload, 0, 0), (25, .invokevirtual 61, 34, 0), (28, .istore 4, 4, 0), (30, .aload_n 0, 0, 0), (31, .getfield 18, 3, 3)],
  [(34, .iload_n 2, 0, 0), (35, .bipush (17), 17, 0), (37, .imul, 0, 0), (38, .iload_n 3, 0, 0), (39, .iadd, 0, 0)],
  [(40, .iload 4, 4, 0), (42, .iastore, 0, 0), (43, .iload 4, 4, 0), (45, .ifCond .eq (15), 60, 0)],
  [(48, .aload_n 0, 0, 0), (49, .getfield 21, 3, 4), (52, .iload_n 2, 0, 0), (53, .dup2, 0, 0), (54, .iaload, 0, 0), (55, .iconst (1), 1, 0)],
  [(56, .iload_n 3, 0, 0), (57, .ishl, 0, 0), (58, .ior, 0, 0), (59, .iastore, 0, 0), (60, .iload 4, 4, 0), (62, .iconst (4), 4, 0), (63, .iand, 0, 0)],
  [(64, .ifCond .eq (15), 79, 0), (67, .aload_n 0, 0, 0), (68, .getfield 24, 3, 5), (71, .iload_n 2, 0, 0)],
  [(72, .dup2, 0, 0), (73, .iaload, 0, 0), (74, .iconst (1), 1, 0), (75, .iload_n 3, 0, 0), (76, .ishl, 0, 0), (77, .ior, 0, 0), (78, .iastore, 0, 0), (79, .return_, 0, 0)]]
/-- SnapshotRings$State.dependencySum(IIII)I -/
def sn_c34 : List (List (Nat × sn_E)) := [[(0, .iload_n 2, 0, 0), (1, .iload 4, 4, 0), (3, .if_icmp .ge (23), 26, 0), (6, .aload_n 0, 0, 0), (7, .getfield 33, 1, 11)],
  [(10, .iload_n 1, 0, 0), (11, .iaload, 0, 0), (12, .aload_n 0, 0, 0), (13, .getfield 33, 1, 11)],
  [(16, .iload_n 3, 0, 0), (17, .iaload, 0, 0), (18, .iand, 0, 0), (19, .ifCond .eq (7), 26, 0), (22, .iconst (1), 1, 0), (23, .goto (4), 27, 0)],
  [(26, .iconst (0), 0, 0), (27, .istore 5, 5, 0), (29, .aload_n 0, 0, 0), (30, .getfield 33, 1, 11)],
  [(33, .iload_n 1, 0, 0), (34, .iaload, 0, 0), (35, .aload_n 0, 0, 0), (36, .getfield 30, 1, 10), (39, .iload_n 3, 0, 0)],
  [(40, .iaload, 0, 0), (41, .iand, 0, 0), (42, .istore 6, 6, 0), (44, .aload_n 0, 0, 0), (45, .getfield 30, 1, 10)],
  [(48, .iload_n 1, 0, 0), (49, .iaload, 0, 0), (50, .aload_n 0, 0, 0), (51, .getfield 33, 1, 11), (54, .iload_n 3, 0, 0), (55, .iaload, 0, 0)],
  [(56, .iand, 0, 0), (57, .istore 7, 7, 0), (59, .iload 6, 6, 0), (61, .iload 7, 7, 0), (63, .ior, 0, 0)],
  [(64, .ifCond .ne (6), 70, 0), (67, .iload 5, 5, 0), (69, .ireturn, 0, 0), (70, .iconst (0), 0, 0), (71, .istore 8, 8, 0)],
  [(73, .iload 8, 8, 0), (75, .bipush (12), 12, 0), (77, .if_icmp .ge (76), 153, 0)],
  [(80, .iconst (1), 1, 0), (81, .iload 8, 8, 0), (83, .ishl, 0, 0), (84, .istore 9, 9, 0), (86, .iload 6, 6, 0)],
  [(88, .iload 9, 9, 0), (90, .iand, 0, 0), (91, .ifCond .eq (25), 116, 0), (94, .aload_n 0, 0, 0), (95, .getfield 36, 1, 12)],
  [(98, .iload_n 3, 0, 0), (99, .bipush (12), 12, 0), (101, .imul, 0, 0), (102, .iload 8, 8, 0)],
  [(104, .iadd, 0, 0), (105, .iaload, 0, 0), (106, .iload_n 2, 0, 0), (107, .if_icmp .ne (9), 116, 0), (110, .iload 5, 5, 0)],
  [(112, .iconst (2), 2, 0), (113, .ior, 0, 0), (114, .istore 5, 5, 0), (116, .iload 7, 7, 0), (118, .iload 9, 9, 0)],
  [(120, .iand, 0, 0), (121, .ifCond .eq (26), 147, 0), (124, .aload_n 0, 0, 0), (125, .getfield 36, 1, 12)],
  [(128, .iload_n 1, 0, 0), (129, .bipush (12), 12, 0), (131, .imul, 0, 0), (132, .iload 8, 8, 0), (134, .iadd, 0, 0), (135, .iaload, 0, 0)],
  [(136, .iload 4, 4, 0), (138, .if_icmp .ge (9), 147, 0), (141, .iload 5, 5, 0), (143, .iconst (4), 4, 0)],
  [(144, .ior, 0, 0), (145, .istore 5, 5, 0), (147, .iinc 8 (1), 1, 0), (150, .goto (-77), 73, 0)],
  [(153, .iload 5, 5, 0), (155, .ireturn, 0, 0)]]
/-- SnapshotRings$Graph.join(LSnapshotRings$State;I)V -/
def sn_c35 : List (List (Nat × sn_E)) := [[(0, .aload_n 0, 0, 0), (1, .getfield 42, 3, 0), (4, .bipush (17), 17, 0), (6, .if_icmp .lt (4), 10, 0)],
  [(9, .return_, 0, 0), (10, .aload_n 0, 0, 0), (11, .getfield 42, 3, 0), (14, .istore_n 3, 0, 0), (15, .aload_n 0, 0, 0)],
  [(16, .dup, 0, 0), (17, .getfield 42, 3, 0), (20, .iconst (1), 1, 0), (21, .iadd, 0, 0), (22, .putfield 42, 3, 0)],
  [(25, .aload_n 0, 0, 0), (26, .iload_n 3, 0, 0), (27, .iload_n 2, 0, 0), (28, .aload_n 1, 0, 0), (29, .getfield 46, 1, 1)],
  [(32, .iconst (1), 1, 0), (33, .iadd, 0, 0), (34, .invokevirtual 53, 32, 0), (37, .iconst (0), 0, 0), (38, .istore 4, 4, 0)],
  [(40, .iload 4, 4, 0), (42, .iload_n 3, 0, 0), (43, .if_icmp .ge (25), 68, 0), (46, .aload_n 0, 0, 0), (47, .aload_n 1, 0, 0)],
  [(48, .iload 4, 4, 0), (50, .iload_n 3, 0, 0), (51, .invokevirtual 57, 33, 0), (54, .aload_n 0, 0, 0), (55, .aload_n 1, 0, 0)],
  [(56, .iload_n 3, 0, 0), (57, .iload 4, 4, 0), (59, .invokevirtual 57, 33, 0), (62, .iinc 4 (1), 1, 0)],
  [(65, .goto (-25), 40, 0), (68, .return_, 0, 0)]]
/-- SnapshotRings$Graph.findRing()V -/
def sn_c36 : List (List (Nat × sn_E)) := [[(0, .aload_n 0, 0, 0), (1, .iconst (0), 0, 0), (2, .putfield 65, 3, 9), (5, .aload_n 0, 0, 0), (6, .getfield 42, 3, 0)],
  [(9, .iconst (1), 1, 0), (10, .isub, 0, 0), (11, .istore_n 1, 0, 0), (12, .iload_n 1, 0, 0), (13, .ifCond .ge (4), 17, 0)],
  [(16, .return_, 0, 0), (17, .aload_n 0, 0, 0), (18, .iload_n 1, 0, 0), (19, .invokevirtual 68, 37, 0), (22, .bipush (17), 17, 0)],
  [(24, .istore_n 2, 0, 0), (25, .iconst (0), 0, 0), (26, .istore_n 3, 0, 0), (27, .iload_n 3, 0, 0), (28, .iload_n 1, 0, 0), (29, .if_icmp .ge (33), 62, 0)],
  [(32, .aload_n 0, 0, 0), (33, .getfield 21, 3, 4), (36, .iload_n 1, 0, 0), (37, .iaload, 0, 0), (38, .iload_n 3, 0, 0), (39, .invokestatic 72, 14, 1)],
  [(42, .ifCond .eq (14), 56, 0), (45, .iload_n 2, 0, 0), (46, .aload_n 0, 0, 0), (47, .getfield 30, 3, 7)],
  [(50, .iload_n 3, 0, 0), (51, .iaload, 0, 0), (52, .invokestatic 76, 9997, 0), (55, .istore_n 2, 0, 0)],
  [(56, .iinc 3 (1), 1, 0), (59, .goto (-32), 27, 0), (62, .iload_n 2, 0, 0), (63, .bipush (17), 17, 0)],
  [(65, .if_icmp .ne (4), 69, 0), (68, .return_, 0, 0), (69, .iload_n 1, 0, 0), (70, .istore_n 3, 0, 0), (71, .iload_n 2, 0, 0)],
  [(72, .istore 4, 4, 0), (74, .iload 4, 4, 0), (76, .ifCond .le (22), 98, 0), (79, .aload_n 0, 0, 0)],
  [(80, .iload_n 3, 0, 0), (81, .iload 4, 4, 0), (83, .invokevirtual 82, 38, 0), (86, .istore_n 3, 0, 0), (87, .aload_n 0, 0, 0)],
  [(88, .iload_n 3, 0, 0), (89, .invokevirtual 85, 39, 0), (92, .iinc 4 (-1), 1, 1), (95, .goto (-21), 74, 0)],
  [(98, .return_, 0, 0)]]
/-- SnapshotRings$Graph.countSteps(I)V -/
def sn_c37 : List (List (Nat × sn_E)) := [[(0, .iconst (0), 0, 0), (1, .istore_n 2, 0, 0), (2, .iload_n 2, 0, 0), (3, .aload_n 0, 0, 0), (4, .getfield 42, 3, 0), (7, .if_icmp .ge (17), 24, 0)],
  [(10, .aload_n 0, 0, 0), (11, .getfield 30, 3, 7), (14, .iload_n 2, 0, 0), (15, .bipush (17), 17, 0)],
  [(17, .iastore, 0, 0), (18, .iinc 2 (1), 1, 0), (21, .goto (-19), 2, 0)],
  [(24, .aload_n 0, 0, 0), (25, .getfield 30, 3, 7), (28, .iload_n 1, 0, 0), (29, .iconst (0), 0, 0), (30, .iastore, 0, 0), (31, .iconst (1), 1, 0)],
  [(32, .iload_n 1, 0, 0), (33, .ishl, 0, 0), (34, .istore_n 2, 0, 0), (35, .iconst (1), 1, 0), (36, .istore_n 3, 0, 0), (37, .iload_n 3, 0, 0), (38, .aload_n 0, 0, 0), (39, .getfield 42, 3, 0)],
  [(42, .if_icmp .ge (74), 116, 0), (45, .iconst (0), 0, 0), (46, .istore 4, 4, 0)],
  [(48, .iconst (0), 0, 0), (49, .istore 5, 5, 0), (51, .iload 5, 5, 0), (53, .aload_n 0, 0, 0), (54, .getfield 42, 3, 0)],
  [(57, .if_icmp .ge (50), 107, 0), (60, .aload_n 0, 0, 0), (61, .getfield 30, 3, 7)],
  [(64, .iload 5, 5, 0), (66, .iaload, 0, 0), (67, .bipush (17), 17, 0), (69, .if_icmp .ne (32), 101, 0)],
  [(72, .aload_n 0, 0, 0), (73, .getfield 21, 3, 4), (76, .iload 5, 5, 0), (78, .iaload, 0, 0), (79, .iload_n 2, 0, 0)],
  [(80, .iand, 0, 0), (81, .ifCond .eq (20), 101, 0), (84, .aload_n 0, 0, 0), (85, .getfield 30, 3, 7)],
  [(88, .iload 5, 5, 0), (90, .iload_n 3, 0, 0), (91, .iastore, 0, 0), (92, .iload 4, 4, 0), (94, .iconst (1), 1, 0), (95, .iload 5, 5, 0)],
  [(97, .ishl, 0, 0), (98, .ior, 0, 0), (99, .istore 4, 4, 0), (101, .iinc 5 (1), 1, 0)],
  [(104, .goto (-53), 51, 0), (107, .iload 4, 4, 0), (109, .istore_n 2, 0, 0), (110, .iinc 3 (1), 1, 0)],
  [(113, .goto (-76), 37, 0), (116, .return_, 0, 0)]]
/-- SnapshotRings$Graph.lowestBehind(II)I -/
def sn_c38 : List (List (Nat × sn_E)) := [[(0, .iconst (0), 0, 0), (1, .istore_n 3, 0, 0), (2, .iload_n 3, 0, 0), (3, .aload_n 0, 0, 0), (4, .getfield 42, 3, 0), (7, .if_icmp .ge (34), 41, 0)],
  [(10, .aload_n 0, 0, 0), (11, .getfield 21, 3, 4), (14, .iload_n 1, 0, 0), (15, .iaload, 0, 0)],
  [(16, .iload_n 3, 0, 0), (17, .invokestatic 72, 14, 1), (20, .ifCond .eq (15), 35, 0), (23, .aload_n 0, 0, 0)],
  [(24, .getfield 30, 3, 7), (27, .iload_n 3, 0, 0), (28, .iaload, 0, 0), (29, .iload_n 2, 0, 0), (30, .if_icmp .ne (5), 35, 0)],
  [(33, .iload_n 3, 0, 0), (34, .ireturn, 0, 0), (35, .iinc 3 (1), 1, 0), (38, .goto (-36), 2, 0)],
  [(41, .iload_n 1, 0, 0), (42, .ireturn, 0, 0)]]
/-- SnapshotRings$Graph.tell(I)V -/
def sn_c39 : List (List (Nat × sn_E)) := [[(0, .aload_n 0, 0, 0), (1, .getfield 33, 3, 8), (4, .aload_n 0, 0, 0), (5, .getfield 65, 3, 9)],
  [(8, .aload_n 0, 0, 0), (9, .getfield 15, 3, 2), (12, .iload_n 1, 0, 0), (13, .iaload, 0, 0), (14, .iastore, 0, 0), (15, .aload_n 0, 0, 0)],
  [(16, .dup, 0, 0), (17, .getfield 65, 3, 9), (20, .iconst (1), 1, 0), (21, .iadd, 0, 0), (22, .putfield 65, 3, 9)],
  [(25, .return_, 0, 0)]]
/-- SnapshotRings$Graph.hasPivot()Z -/
def sn_c40 : List (List (Nat × sn_E)) := [[(0, .aload_n 0, 0, 0), (1, .getfield 42, 3, 0), (4, .iconst (1), 1, 0), (5, .isub, 0, 0), (6, .istore_n 1, 0, 0), (7, .iload_n 1, 0, 0)],
  [(8, .ifCond .ge (5), 13, 0), (11, .iconst (0), 0, 0), (12, .ireturn, 0, 0), (13, .iconst (0), 0, 0), (14, .istore_n 2, 0, 0), (15, .iconst (0), 0, 0)],
  [(16, .istore_n 3, 0, 0), (17, .iconst (0), 0, 0), (18, .istore 4, 4, 0), (20, .iload 4, 4, 0), (22, .aload_n 0, 0, 0), (23, .getfield 42, 3, 0)],
  [(26, .if_icmp .ge (36), 62, 0), (29, .iload_n 2, 0, 0), (30, .aload_n 0, 0, 0), (31, .getfield 24, 3, 5)],
  [(34, .iload 4, 4, 0), (36, .iaload, 0, 0), (37, .ior, 0, 0), (38, .istore_n 2, 0, 0), (39, .aload_n 0, 0, 0)],
  [(40, .getfield 24, 3, 5), (43, .iload 4, 4, 0), (45, .iaload, 0, 0), (46, .ifCond .eq (10), 56, 0)],
  [(49, .iload_n 3, 0, 0), (50, .iconst (1), 1, 0), (51, .iload 4, 4, 0), (53, .ishl, 0, 0), (54, .ior, 0, 0), (55, .istore_n 3, 0, 0)],
  [(56, .iinc 4 (1), 1, 0), (59, .goto (-39), 20, 0), (62, .iload_n 2, 0, 0), (63, .iload_n 3, 0, 0)],
  [(64, .iand, 0, 0), (65, .istore 4, 4, 0), (67, .iload 4, 4, 0), (69, .iload_n 1, 0, 0), (70, .invokestatic 72, 14, 1)],
  [(73, .ifCond .ne (15), 88, 0), (76, .aload_n 0, 0, 0), (77, .getfield 24, 3, 5)],
  [(80, .iload_n 1, 0, 0), (81, .iaload, 0, 0), (82, .iload 4, 4, 0), (84, .iand, 0, 0), (85, .ifCond .eq (5), 90, 0)],
  [(88, .iconst (1), 1, 0), (89, .ireturn, 0, 0), (90, .iconst (0), 0, 0), (91, .istore 5, 5, 0), (93, .iload 5, 5, 0), (95, .iload_n 1, 0, 0)],
  [(96, .if_icmp .ge (35), 131, 0), (99, .iload 4, 4, 0), (101, .iload 5, 5, 0), (103, .invokestatic 72, 14, 1)],
  [(106, .ifCond .eq (19), 125, 0), (109, .aload_n 0, 0, 0), (110, .getfield 24, 3, 5)],
  [(113, .iload 5, 5, 0), (115, .iaload, 0, 0), (116, .iload_n 1, 0, 0), (117, .invokestatic 72, 14, 1)],
  [(120, .ifCond .eq (5), 125, 0), (123, .iconst (1), 1, 0), (124, .ireturn, 0, 0), (125, .iinc 5 (1), 1, 0)],
  [(128, .goto (-35), 93, 0), (131, .iconst (0), 0, 0), (132, .ireturn, 0, 0)]]
/-- SnapshotRings$State.refuse(II)V -/
def sn_c41 : List (List (Nat × sn_E)) := [[(0, .aload_n 0, 0, 0), (1, .iload_n 1, 0, 0), (2, .invokevirtual 71, 42, 0), (5, .aload_n 0, 0, 0), (6, .getfield 9, 1, 4)],
  [(9, .iload_n 2, 0, 0), (10, .dup2, 0, 0), (11, .iaload, 0, 0), (12, .iconst (1), 1, 0), (13, .iadd, 0, 0), (14, .iastore, 0, 0), (15, .return_, 0, 0)]]
/-- SnapshotRings$State.free(I)V -/
def sn_c42 : List (List (Nat × sn_E)) := [[(0, .aload_n 0, 0, 0), (1, .dup, 0, 0), (2, .getfield 52, 1, 3), (5, .iconst (1), 1, 0), (6, .iload_n 1, 0, 0), (7, .ishl, 0, 0)],
  [(8, .iconst (-1), 1, 1), (9, .ixor, 0, 0), (10, .iand, 0, 0), (11, .putfield 52, 1, 3), (14, .return_, 0, 0)]]
/-- SnapshotRings$State.keepCommit(I)I -/
def sn_c43 : List (List (Nat × sn_E)) := [[(0, .aload_n 0, 0, 0), (1, .iload_n 1, 0, 0), (2, .invokevirtual 71, 42, 0), (5, .aload_n 0, 0, 0), (6, .dup, 0, 0), (7, .getfield 46, 1, 1)],
  [(10, .iconst (1), 1, 0), (11, .iadd, 0, 0), (12, .putfield 46, 1, 1), (15, .aload_n 0, 0, 0)],
  [(16, .aload_n 0, 0, 0), (17, .getfield 46, 1, 1), (20, .invokevirtual 75, 31, 0), (23, .istore_n 2, 0, 0)],
  [(24, .aload_n 0, 0, 0), (25, .getfield 27, 1, 9), (28, .iload_n 2, 0, 0), (29, .aload_n 0, 0, 0), (30, .getfield 27, 1, 9)],
  [(33, .iload_n 1, 0, 0), (34, .iaload, 0, 0), (35, .iastore, 0, 0), (36, .aload_n 0, 0, 0), (37, .getfield 30, 1, 10)],
  [(40, .iload_n 2, 0, 0), (41, .aload_n 0, 0, 0), (42, .getfield 30, 1, 10), (45, .iload_n 1, 0, 0), (46, .iaload, 0, 0), (47, .iastore, 0, 0)],
  [(48, .aload_n 0, 0, 0), (49, .getfield 33, 1, 11), (52, .iload_n 2, 0, 0), (53, .aload_n 0, 0, 0), (54, .getfield 33, 1, 11)],
  [(57, .iload_n 1, 0, 0), (58, .iaload, 0, 0), (59, .iastore, 0, 0), (60, .aload_n 0, 0, 0), (61, .getfield 36, 1, 12)],
  [(64, .iload_n 1, 0, 0), (65, .bipush (12), 12, 0), (67, .imul, 0, 0), (68, .aload_n 0, 0, 0), (69, .getfield 36, 1, 12)],
  [(72, .iload_n 2, 0, 0), (73, .bipush (12), 12, 0), (75, .imul, 0, 0), (76, .bipush (12), 12, 0), (78, .invokestatic 55, 9999, 0)],
  [(81, .iconst (0), 0, 0), (82, .istore_n 3, 0, 0), (83, .iload_n 3, 0, 0), (84, .bipush (12), 12, 0), (86, .if_icmp .ge (49), 135, 0)],
  [(89, .aload_n 0, 0, 0), (90, .getfield 33, 1, 11), (93, .iload_n 1, 0, 0), (94, .iaload, 0, 0), (95, .iload_n 3, 0, 0)],
  [(96, .invokestatic 61, 14, 1), (99, .ifCond .eq (30), 129, 0), (102, .aload_n 0, 0, 0), (103, .getfield 21, 1, 7)],
  [(106, .iload_n 3, 0, 0), (107, .aload_n 0, 0, 0), (108, .getfield 39, 1, 13), (111, .iload_n 1, 0, 0)],
  [(112, .bipush (12), 12, 0), (114, .imul, 0, 0), (115, .iload_n 3, 0, 0), (116, .iadd, 0, 0), (117, .iaload, 0, 0), (118, .iastore, 0, 0), (119, .aload_n 0, 0, 0)],
  [(120, .getfield 24, 1, 8), (123, .iload_n 3, 0, 0), (124, .aload_n 0, 0, 0), (125, .getfield 46, 1, 1)],
  [(128, .iastore, 0, 0), (129, .iinc 3 (1), 1, 0), (132, .goto (-49), 83, 0), (135, .aload_n 0, 0, 0)],
  [(136, .getfield 46, 1, 1), (139, .ireturn, 0, 0)]]
/-- SnapshotRings.abort(I)I -/
def sn_c44 : List (List (Nat × sn_E)) := [[(0, .aload_n 0, 0, 0), (1, .iload_n 1, 0, 0), (2, .invokevirtual 80, 19, 0), (5, .istore_n 2, 0, 0), (6, .iload_n 2, 0, 0), (7, .ifCond .eq (5), 12, 0)],
  [(10, .iload_n 2, 0, 0), (11, .ireturn, 0, 0), (12, .aload_n 0, 0, 0), (13, .getfield 22, 0, 2)],
  [(16, .aload_n 0, 0, 0), (17, .getfield 12, 0, 0), (20, .invokevirtual 40, 6, 0), (23, .aload_n 0, 0, 0)],
  [(24, .getfield 12, 0, 0), (27, .iload_n 1, 0, 0), (28, .invokevirtual 87, 45, 0), (31, .ireturn, 0, 0)]]
/-- SnapshotRings$State.giveUp(I)I -/
def sn_c45 : List (List (Nat × sn_E)) := [[(0, .aload_n 0, 0, 0), (1, .iload_n 1, 0, 0), (2, .invokevirtual 71, 42, 0), (5, .aload_n 0, 0, 0), (6, .dup, 0, 0), (7, .getfield 49, 1, 2)],
  [(10, .iconst (1), 1, 0), (11, .iadd, 0, 0), (12, .putfield 49, 1, 2), (15, .aload_n 0, 0, 0)],
  [(16, .getfield 33, 1, 11), (19, .iload_n 1, 0, 0), (20, .iaload, 0, 0), (21, .invokestatic 65, 24, 0)],
  [(24, .ireturn, 0, 0)]]
/-- SnapshotRings.count(I)I -/
def sn_c46 : List (List (Nat × sn_E)) := [[(0, .iload_n 1, 0, 0), (1, .tableswitch (120) (0) (7) #[47, 55, 66, 74, 82, 92, 102, 112], 0, 0)],
  [],
  [],
  [],
  [],
  [],
  [(48, .aload_n 0, 0, 0), (49, .getfield 12, 0, 0), (52, .getfield 90, 1, 1), (55, .ireturn, 0, 0)],
  [(56, .aload_n 0, 0, 0), (57, .getfield 12, 0, 0), (60, .getfield 93, 1, 3), (63, .invokestatic 96, 24, 0)],
  [(66, .ireturn, 0, 0), (67, .aload_n 0, 0, 0), (68, .getfield 12, 0, 0), (71, .getfield 44, 1, 0)],
  [(74, .ireturn, 0, 0), (75, .aload_n 0, 0, 0), (76, .getfield 12, 0, 0), (79, .invokevirtual 101, 30, 0)],
  [(82, .ireturn, 0, 0), (83, .aload_n 0, 0, 0), (84, .getfield 12, 0, 0), (87, .getfield 105, 1, 4)],
  [(90, .iconst (1), 1, 0), (91, .iaload, 0, 0), (92, .ireturn, 0, 0), (93, .aload_n 0, 0, 0), (94, .getfield 12, 0, 0)],
  [(97, .getfield 105, 1, 4), (100, .iconst (2), 2, 0), (101, .iaload, 0, 0), (102, .ireturn, 0, 0), (103, .aload_n 0, 0, 0)],
  [(104, .getfield 12, 0, 0), (107, .getfield 105, 1, 4), (110, .iconst (3), 3, 0), (111, .iaload, 0, 0)],
  [(112, .ireturn, 0, 0), (113, .aload_n 0, 0, 0), (114, .getfield 12, 0, 0), (117, .getfield 108, 1, 2)],
  [(120, .ireturn, 0, 0), (121, .sipush (-20002), 20002, 1), (124, .ireturn, 0, 0)]]
/-- SnapshotRings.value(I)I -/
def sn_c47 : List (List (Nat × sn_E)) := [[(0, .iload_n 1, 0, 0), (1, .invokestatic 111, 18, 0), (4, .ifCond .eq (15), 19, 0), (7, .aload_n 0, 0, 0)],
  [(8, .getfield 12, 0, 0), (11, .getfield 114, 1, 7), (14, .iload_n 1, 0, 0), (15, .iaload, 0, 0)],
  [(16, .goto (6), 22, 0), (19, .sipush (-20001), 20001, 1), (22, .ireturn, 0, 0)]]
/-- SnapshotRings.version(I)I -/
def sn_c48 : List (List (Nat × sn_E)) := [[(0, .iload_n 1, 0, 0), (1, .invokestatic 111, 18, 0), (4, .ifCond .eq (15), 19, 0), (7, .aload_n 0, 0, 0)],
  [(8, .getfield 12, 0, 0), (11, .getfield 117, 1, 8), (14, .iload_n 1, 0, 0), (15, .iaload, 0, 0)],
  [(16, .goto (6), 22, 0), (19, .sipush (-20001), 20001, 1), (22, .ireturn, 0, 0)]]
/-- SnapshotRings.of(II)I -/
def sn_c49 : List (List (Nat × sn_E)) := [[(0, .aload_n 0, 0, 0), (1, .iload_n 1, 0, 0), (2, .invokevirtual 80, 19, 0), (5, .istore_n 3, 0, 0), (6, .iload_n 3, 0, 0), (7, .ifCond .eq (5), 12, 0)],
  [(10, .iload_n 3, 0, 0), (11, .ireturn, 0, 0), (12, .iload_n 2, 0, 0), (13, .iconst (3), 3, 0), (14, .if_icmp .ne (20), 34, 0)],
  [(17, .aload_n 0, 0, 0), (18, .aload_n 0, 0, 0), (19, .getfield 12, 0, 0), (22, .iload_n 1, 0, 0), (23, .aload_n 0, 0, 0)],
  [(24, .getfield 12, 0, 0), (27, .getfield 44, 1, 0), (30, .invokevirtual 120, 27, 0)],
  [(33, .ireturn, 0, 0), (34, .aload_n 0, 0, 0), (35, .getfield 12, 0, 0), (38, .iload_n 1, 0, 0), (39, .iload_n 2, 0, 0)],
  [(40, .invokevirtual 124, 50, 0), (43, .ireturn, 0, 0)]]
/-- SnapshotRings$State.partOfRow(II)I -/
def sn_c50 : List (List (Nat × sn_E)) := [[(0, .iload_n 2, 0, 0), (1, .tableswitch (48) (0) (2) #[27, 34, 41], 0, 0)],
  [],
  [],
  [(28, .aload_n 0, 0, 0), (29, .getfield 27, 1, 9)],
  [(32, .iload_n 1, 0, 0), (33, .iaload, 0, 0), (34, .ireturn, 0, 0), (35, .aload_n 0, 0, 0), (36, .getfield 30, 1, 10), (39, .iload_n 1, 0, 0)],
  [(40, .iaload, 0, 0), (41, .ireturn, 0, 0), (42, .aload_n 0, 0, 0), (43, .getfield 33, 1, 11), (46, .iload_n 1, 0, 0), (47, .iaload, 0, 0)],
  [(48, .ireturn, 0, 0), (49, .sipush (-20002), 20002, 1), (52, .ireturn, 0, 0)]]
/-- SnapshotRings.ofCommit(II)I -/
def sn_c51 : List (List (Nat × sn_E)) := [[(0, .aload_n 0, 0, 0), (1, .getfield 12, 0, 0), (4, .iload_n 1, 0, 0), (5, .invokevirtual 127, 52, 0)],
  [(8, .ifCond .ne (7), 15, 0), (11, .sipush (-20001), 20001, 1), (14, .ireturn, 0, 0), (15, .aload_n 0, 0, 0)],
  [(16, .getfield 12, 0, 0), (19, .aload_n 0, 0, 0), (20, .getfield 12, 0, 0), (23, .iload_n 1, 0, 0)],
  [(24, .invokevirtual 130, 31, 0), (27, .iload_n 2, 0, 0), (28, .invokevirtual 124, 50, 0), (31, .ireturn, 0, 0)]]
/-- SnapshotRings$State.isKept(I)Z -/
def sn_c52 : List (List (Nat × sn_E)) := [[(0, .iload_n 1, 0, 0), (1, .iconst (1), 1, 0), (2, .if_icmp .lt (26), 28, 0), (5, .iload_n 1, 0, 0), (6, .aload_n 0, 0, 0), (7, .getfield 46, 1, 1)],
  [(10, .if_icmp .gt (18), 28, 0), (13, .iload_n 1, 0, 0), (14, .aload_n 0, 0, 0), (15, .getfield 46, 1, 1)],
  [(18, .bipush (16), 16, 0), (20, .isub, 0, 0), (21, .if_icmp .le (7), 28, 0)],
  [(24, .iconst (1), 1, 0), (25, .goto (4), 29, 0), (28, .iconst (0), 0, 0), (29, .ireturn, 0, 0)]]
/-- SnapshotRings.dependency(II)I -/
def sn_c53 : List (List (Nat × sn_E)) := [[(0, .aload_n 0, 0, 0), (1, .getfield 12, 0, 0), (4, .iload_n 1, 0, 0), (5, .invokevirtual 127, 52, 0)],
  [(8, .ifCond .eq (14), 22, 0), (11, .aload_n 0, 0, 0), (12, .getfield 12, 0, 0), (15, .iload_n 2, 0, 0)],
  [(16, .invokevirtual 127, 52, 0), (19, .ifCond .ne (7), 26, 0), (22, .sipush (-20001), 20001, 1)],
  [(25, .ireturn, 0, 0), (26, .iload_n 1, 0, 0), (27, .iload_n 2, 0, 0), (28, .if_icmp .ne (7), 35, 0), (31, .sipush (-20002), 20002, 1)],
  [(34, .ireturn, 0, 0), (35, .aload_n 0, 0, 0), (36, .getfield 12, 0, 0), (39, .aload_n 0, 0, 0)],
  [(40, .getfield 12, 0, 0), (43, .iload_n 1, 0, 0), (44, .invokevirtual 130, 31, 0), (47, .iload_n 1, 0, 0)],
  [(48, .aload_n 0, 0, 0), (49, .getfield 12, 0, 0), (52, .iload_n 2, 0, 0), (53, .invokevirtual 130, 31, 0)],
  [(56, .iload_n 2, 0, 0), (57, .invokevirtual 133, 34, 0), (60, .ireturn, 0, 0)]]
/-- SnapshotRings.ringOf(II)I -/
def sn_c54 : List (List (Nat × sn_E)) := [[(0, .aload_n 0, 0, 0), (1, .iload_n 1, 0, 0), (2, .invokevirtual 80, 19, 0), (5, .istore_n 3, 0, 0), (6, .iload_n 3, 0, 0), (7, .ifCond .eq (5), 12, 0)],
  [(10, .iload_n 3, 0, 0), (11, .ireturn, 0, 0), (12, .iload_n 2, 0, 0), (13, .iconst (1), 1, 0), (14, .if_icmp .ge (7), 21, 0)],
  [(17, .sipush (-20002), 20002, 1), (20, .ireturn, 0, 0), (21, .aload_n 0, 0, 0), (22, .getfield 29, 0, 3)],
  [(25, .aload_n 0, 0, 0), (26, .getfield 12, 0, 0), (29, .invokevirtual 137, 29, 0)],
  [(32, .aload_n 0, 0, 0), (33, .getfield 29, 0, 3), (36, .aload_n 0, 0, 0), (37, .getfield 12, 0, 0)],
  [(40, .iload_n 1, 0, 0), (41, .invokevirtual 140, 35, 0), (44, .aload_n 0, 0, 0), (45, .getfield 29, 0, 3)],
  [(48, .invokevirtual 144, 36, 0), (51, .aload_n 0, 0, 0), (52, .getfield 29, 0, 3), (55, .iload_n 2, 0, 0)],
  [(56, .iconst (1), 1, 0), (57, .isub, 0, 0), (58, .invokevirtual 147, 55, 0), (61, .ireturn, 0, 0)]]
/-- SnapshotRings$Graph.toldAt(I)I -/
def sn_c55 : List (List (Nat × sn_E)) := [[(0, .iload_n 1, 0, 0), (1, .ifCond .lt (20), 21, 0), (4, .iload_n 1, 0, 0), (5, .aload_n 0, 0, 0), (6, .getfield 65, 3, 9)],
  [(9, .if_icmp .ge (12), 21, 0), (12, .aload_n 0, 0, 0), (13, .getfield 33, 3, 8)],
  [(16, .iload_n 1, 0, 0), (17, .iaload, 0, 0), (18, .goto (6), 24, 0), (21, .sipush (-20006), 20006, 1)],
  [(24, .ireturn, 0, 0)]]
/-- SnapshotRings.inRings()I -/
def sn_c56 : List (List (Nat × sn_E)) := [[(0, .aload_n 0, 0, 0), (1, .getfield 29, 0, 3), (4, .aload_n 0, 0, 0), (5, .getfield 12, 0, 0)],
  [(8, .invokevirtual 137, 29, 0), (11, .aload_n 0, 0, 0), (12, .getfield 29, 0, 3), (15, .invokevirtual 150, 57, 0)],
  [(18, .ireturn, 0, 0)]]
/-- SnapshotRings$Graph.countNodesInRings()I -/
def sn_c57 : List (List (Nat × sn_E)) := [[(0, .iconst (0), 0, 0), (1, .istore_n 1, 0, 0), (2, .iload_n 1, 0, 0), (3, .aload_n 0, 0, 0), (4, .getfield 42, 3, 0), (7, .if_icmp .ge (21), 28, 0)],
  [(10, .aload_n 0, 0, 0), (11, .getfield 27, 3, 6), (14, .iload_n 1, 0, 0), (15, .aload_n 0, 0, 0)],
  [(16, .getfield 21, 3, 4), (19, .iload_n 1, 0, 0), (20, .iaload, 0, 0), (21, .iastore, 0, 0), (22, .iinc 1 (1), 1, 0)],
  [(25, .goto (-23), 2, 0), (28, .iconst (0), 0, 0), (29, .istore_n 1, 0, 0), (30, .iload_n 1, 0, 0), (31, .aload_n 0, 0, 0)],
  [(32, .getfield 42, 3, 0), (35, .if_icmp .ge (53), 88, 0), (38, .iconst (0), 0, 0), (39, .istore_n 2, 0, 0)],
  [(40, .iload_n 2, 0, 0), (41, .aload_n 0, 0, 0), (42, .getfield 42, 3, 0), (45, .if_icmp .ge (37), 82, 0)],
  [(48, .aload_n 0, 0, 0), (49, .getfield 27, 3, 6), (52, .iload_n 2, 0, 0), (53, .iaload, 0, 0), (54, .iload_n 1, 0, 0), (55, .invokestatic 72, 14, 1)],
  [(58, .ifCond .eq (18), 76, 0), (61, .aload_n 0, 0, 0), (62, .getfield 27, 3, 6)],
  [(65, .iload_n 2, 0, 0), (66, .dup2, 0, 0), (67, .iaload, 0, 0), (68, .aload_n 0, 0, 0), (69, .getfield 27, 3, 6)],
  [(72, .iload_n 1, 0, 0), (73, .iaload, 0, 0), (74, .ior, 0, 0), (75, .iastore, 0, 0), (76, .iinc 2 (1), 1, 0), (79, .goto (-39), 40, 0)],
  [(82, .iinc 1 (1), 1, 0), (85, .goto (-55), 30, 0)],
  [(88, .iconst (0), 0, 0), (89, .istore_n 1, 0, 0), (90, .iconst (0), 0, 0), (91, .istore_n 2, 0, 0), (92, .iload_n 2, 0, 0), (93, .aload_n 0, 0, 0), (94, .getfield 42, 3, 0)],
  [(97, .if_icmp .ge (25), 122, 0), (100, .aload_n 0, 0, 0), (101, .getfield 27, 3, 6)],
  [(104, .iload_n 2, 0, 0), (105, .iaload, 0, 0), (106, .iload_n 2, 0, 0), (107, .invokestatic 72, 14, 1), (110, .ifCond .eq (6), 116, 0)],
  [(113, .iinc 1 (1), 1, 0), (116, .iinc 2 (1), 1, 0), (119, .goto (-27), 92, 0)],
  [(122, .iload_n 1, 0, 0), (123, .ireturn, 0, 0)]]
/-- SnapshotRings.orderAt(I)I -/
def sn_c58 : List (List (Nat × sn_E)) := [[(0, .iload_n 1, 0, 0), (1, .ifCond .ge (7), 8, 0), (4, .sipush (-20002), 20002, 1), (7, .ireturn, 0, 0)],
  [(8, .aload_n 0, 0, 0), (9, .getfield 29, 0, 3), (12, .aload_n 0, 0, 0), (13, .getfield 12, 0, 0)],
  [(16, .invokevirtual 137, 29, 0), (19, .aload_n 0, 0, 0), (20, .getfield 29, 0, 3), (23, .invokevirtual 153, 59, 0)],
  [(26, .aload_n 0, 0, 0), (27, .getfield 29, 0, 3), (30, .iload_n 1, 0, 0), (31, .invokevirtual 147, 55, 0)],
  [(34, .ireturn, 0, 0)]]
/-- SnapshotRings$Graph.findOrder()V -/
def sn_c59 : List (List (Nat × sn_E)) := [[(0, .aload_n 0, 0, 0), (1, .iconst (0), 0, 0), (2, .putfield 65, 3, 9), (5, .iconst (0), 0, 0), (6, .istore_n 1, 0, 0), (7, .iconst (0), 0, 0)],
  [(8, .istore_n 2, 0, 0), (9, .iload_n 2, 0, 0), (10, .aload_n 0, 0, 0), (11, .getfield 42, 3, 0), (14, .if_icmp .ge (36), 50, 0)],
  [(17, .aload_n 0, 0, 0), (18, .iload_n 1, 0, 0), (19, .invokevirtual 88, 60, 0), (22, .istore_n 3, 0, 0), (23, .iload_n 3, 0, 0)],
  [(24, .ifCond .ge (9), 33, 0), (27, .aload_n 0, 0, 0), (28, .iconst (0), 0, 0), (29, .putfield 65, 3, 9)],
  [(32, .return_, 0, 0), (33, .aload_n 0, 0, 0), (34, .iload_n 3, 0, 0), (35, .invokevirtual 85, 39, 0), (38, .iload_n 1, 0, 0), (39, .iconst (1), 1, 0)],
  [(40, .iload_n 3, 0, 0), (41, .ishl, 0, 0), (42, .ior, 0, 0), (43, .istore_n 1, 0, 0), (44, .iinc 2 (1), 1, 0), (47, .goto (-38), 9, 0)],
  [(50, .return_, 0, 0)]]
/-- SnapshotRings$Graph.lowestPossible(I)I -/
def sn_c60 : List (List (Nat × sn_E)) := [[(0, .iload_n 1, 0, 0), (1, .istore_n 2, 0, 0), (2, .iconst (0), 0, 0), (3, .istore_n 3, 0, 0), (4, .iload_n 3, 0, 0), (5, .aload_n 0, 0, 0), (6, .getfield 42, 3, 0)],
  [(9, .if_icmp .ge (26), 35, 0), (12, .iload_n 1, 0, 0), (13, .iload_n 3, 0, 0), (14, .invokestatic 72, 14, 1)],
  [(17, .ifCond .ne (12), 29, 0), (20, .iload_n 2, 0, 0), (21, .aload_n 0, 0, 0), (22, .getfield 21, 3, 4)],
  [(25, .iload_n 3, 0, 0), (26, .iaload, 0, 0), (27, .ior, 0, 0), (28, .istore_n 2, 0, 0), (29, .iinc 3 (1), 1, 0)],
  [(32, .goto (-28), 4, 0), (35, .iconst (0), 0, 0), (36, .istore_n 3, 0, 0), (37, .iload_n 3, 0, 0), (38, .aload_n 0, 0, 0), (39, .getfield 42, 3, 0)],
  [(42, .if_icmp .ge (19), 61, 0), (45, .iload_n 2, 0, 0), (46, .iload_n 3, 0, 0), (47, .invokestatic 72, 14, 1)],
  [(50, .ifCond .ne (5), 55, 0), (53, .iload_n 3, 0, 0), (54, .ireturn, 0, 0), (55, .iinc 3 (1), 1, 0)],
  [(58, .goto (-21), 37, 0), (61, .iconst (-1), 1, 1), (62, .ireturn, 0, 0)]]
/-- SnapshotRings.skews()I -/
def sn_c61 : List (List (Nat × sn_E)) := [[(0, .aload_n 0, 0, 0), (1, .getfield 29, 0, 3), (4, .aload_n 0, 0, 0), (5, .getfield 12, 0, 0)],
  [(8, .invokevirtual 137, 29, 0), (11, .aload_n 0, 0, 0), (12, .getfield 29, 0, 3), (15, .invokevirtual 156, 62, 0)],
  [(18, .ireturn, 0, 0)]]
/-- SnapshotRings$Graph.countSkewPairs()I -/
def sn_c62 : List (List (Nat × sn_E)) := [[(0, .iconst (0), 0, 0), (1, .istore_n 1, 0, 0), (2, .iconst (0), 0, 0), (3, .istore_n 2, 0, 0), (4, .iload_n 2, 0, 0), (5, .aload_n 0, 0, 0), (6, .getfield 42, 3, 0)],
  [(9, .if_icmp .ge (56), 65, 0), (12, .iload_n 2, 0, 0), (13, .iconst (1), 1, 0), (14, .iadd, 0, 0), (15, .istore_n 3, 0, 0)],
  [(16, .iload_n 3, 0, 0), (17, .aload_n 0, 0, 0), (18, .getfield 42, 3, 0), (21, .if_icmp .ge (38), 59, 0)],
  [(24, .aload_n 0, 0, 0), (25, .getfield 24, 3, 5), (28, .iload_n 2, 0, 0), (29, .iaload, 0, 0), (30, .iload_n 3, 0, 0), (31, .invokestatic 72, 14, 1)],
  [(34, .ifCond .eq (19), 53, 0), (37, .aload_n 0, 0, 0), (38, .getfield 24, 3, 5)],
  [(41, .iload_n 3, 0, 0), (42, .iaload, 0, 0), (43, .iload_n 2, 0, 0), (44, .invokestatic 72, 14, 1), (47, .ifCond .eq (6), 53, 0)],
  [(50, .iinc 1 (1), 1, 0), (53, .iinc 3 (1), 1, 0)],
  [(56, .goto (-40), 16, 0), (59, .iinc 2 (1), 1, 0), (62, .goto (-58), 4, 0)],
  [(65, .iload_n 1, 0, 0), (66, .ireturn, 0, 0)]]
/-- SnapshotRings.holds(I)I -/
def sn_c63 : List (List (Nat × sn_E)) := [[(0, .iload_n 1, 0, 0), (1, .invokestatic 48, 9, 0), (4, .ifCond .ne (7), 11, 0), (7, .sipush (-20001), 20001, 1)],
  [(10, .ireturn, 0, 0), (11, .aload_n 0, 0, 0), (12, .getfield 12, 0, 0), (15, .aload_n 0, 0, 0)],
  [(16, .getfield 12, 0, 0), (19, .getfield 114, 1, 7), (22, .iconst (0), 0, 0), (23, .iload_n 1, 0, 0)],
  [(24, .invokevirtual 159, 64, 0), (27, .ifCond .eq (7), 34, 0), (30, .iconst (1), 1, 0), (31, .goto (4), 35, 0)],
  [(34, .iconst (0), 0, 0), (35, .ireturn, 0, 0)]]
/-- SnapshotRings$State.constraintIsMet([III)Z -/
def sn_c64 : List (List (Nat × sn_E)) := [[(0, .iconst (0), 0, 0), (1, .istore 4, 4, 0), (3, .iconst (0), 0, 0), (4, .istore 5, 5, 0), (6, .iload 5, 5, 0)],
  [(8, .bipush (12), 12, 0), (10, .if_icmp .ge (34), 44, 0), (13, .aload_n 0, 0, 0), (14, .getfield 15, 1, 5)],
  [(17, .iload_n 3, 0, 0), (18, .iaload, 0, 0), (19, .iload 5, 5, 0), (21, .invokestatic 61, 14, 1)],
  [(24, .ifCond .eq (14), 38, 0), (27, .iload 4, 4, 0), (29, .aload_n 1, 0, 0), (30, .iload_n 2, 0, 0), (31, .iload 5, 5, 0)],
  [(33, .iadd, 0, 0), (34, .iaload, 0, 0), (35, .iadd, 0, 0), (36, .istore 4, 4, 0), (38, .iinc 5 (1), 1, 0)],
  [(41, .goto (-35), 6, 0), (44, .iload 4, 4, 0), (46, .aload_n 0, 0, 0), (47, .getfield 18, 1, 6)],
  [(50, .iload_n 3, 0, 0), (51, .iaload, 0, 0), (52, .if_icmp .lt (7), 59, 0), (55, .iconst (1), 1, 0)],
  [(56, .goto (4), 60, 0), (59, .iconst (0), 0, 0), (60, .ireturn, 0, 0)]]
/-- SnapshotRings.holdsFor(II)I -/
def sn_c65 : List (List (Nat × sn_E)) := [[(0, .aload_n 0, 0, 0), (1, .iload_n 1, 0, 0), (2, .invokevirtual 80, 19, 0), (5, .istore_n 3, 0, 0), (6, .iload_n 3, 0, 0), (7, .ifCond .eq (5), 12, 0)],
  [(10, .iload_n 3, 0, 0), (11, .ireturn, 0, 0), (12, .iload_n 2, 0, 0), (13, .invokestatic 48, 9, 0)],
  [(16, .ifCond .ne (7), 23, 0), (19, .sipush (-20001), 20001, 1), (22, .ireturn, 0, 0), (23, .aload_n 0, 0, 0)],
  [(24, .getfield 12, 0, 0), (27, .aload_n 0, 0, 0), (28, .getfield 12, 0, 0), (31, .getfield 163, 1, 13)],
  [(34, .iload_n 1, 0, 0), (35, .bipush (12), 12, 0), (37, .imul, 0, 0), (38, .iload_n 2, 0, 0), (39, .invokevirtual 159, 64, 0)],
  [(42, .ifCond .eq (7), 49, 0), (45, .iconst (1), 1, 0), (46, .goto (4), 50, 0)],
  [(49, .iconst (0), 0, 0), (50, .ireturn, 0, 0)]]
/-- SnapshotRings.ifAllCommitted()I -/
def sn_c66 : List (List (Nat × sn_E)) := [[(0, .aload_n 0, 0, 0), (1, .getfield 16, 0, 1), (4, .aload_n 0, 0, 0), (5, .getfield 12, 0, 0)],
  [(8, .invokevirtual 166, 7, 0), (11, .iconst (0), 0, 0), (12, .istore_n 1, 0, 0), (13, .iload_n 1, 0, 0), (14, .bipush (8), 8, 0)],
  [(16, .if_icmp .ge (30), 46, 0), (19, .aload_n 0, 0, 0), (20, .getfield 16, 0, 1), (23, .iload_n 1, 0, 0)],
  [(24, .invokevirtual 169, 13, 0), (27, .ifCond .eq (13), 40, 0), (30, .aload_n 0, 0, 0), (31, .aload_n 0, 0, 0)],
  [(32, .getfield 16, 0, 1), (35, .iload_n 1, 0, 0), (36, .invokevirtual 83, 26, 0), (39, .pop, 0, 0)],
  [(40, .iinc 1 (1), 1, 0), (43, .goto (-30), 13, 0), (46, .iconst (0), 0, 0), (47, .istore_n 1, 0, 0)],
  [(48, .iconst (0), 0, 0), (49, .istore_n 2, 0, 0), (50, .iload_n 2, 0, 0), (51, .iconst (3), 3, 0), (52, .if_icmp .ge (31), 83, 0), (55, .aload_n 0, 0, 0)],
  [(56, .getfield 16, 0, 1), (59, .aload_n 0, 0, 0), (60, .getfield 16, 0, 1), (63, .getfield 114, 1, 7)],
  [(66, .iconst (0), 0, 0), (67, .iload_n 2, 0, 0), (68, .invokevirtual 159, 64, 0), (71, .ifCond .eq (6), 77, 0)],
  [(74, .iinc 1 (1), 1, 0), (77, .iinc 2 (1), 1, 0)],
  [(80, .goto (-30), 50, 0), (83, .iload_n 1, 0, 0), (84, .ireturn, 0, 0)]]
/-- SnapshotRings.refusedBy(I)I -/
def sn_c67 : List (List (Nat × sn_E)) := [[(0, .aload_n 0, 0, 0), (1, .iload_n 1, 0, 0), (2, .invokevirtual 80, 19, 0), (5, .istore_n 2, 0, 0), (6, .iload_n 2, 0, 0), (7, .ifCond .eq (5), 12, 0)],
  [(10, .iload_n 2, 0, 0), (11, .ireturn, 0, 0), (12, .iconst (0), 0, 0), (13, .istore_n 3, 0, 0), (14, .iload_n 3, 0, 0), (15, .iconst (2), 2, 0)],
  [(16, .if_icmp .gt (24), 40, 0), (19, .aload_n 0, 0, 0), (20, .aload_n 0, 0, 0), (21, .getfield 12, 0, 0)],
  [(24, .iload_n 1, 0, 0), (25, .iload_n 3, 0, 0), (26, .invokevirtual 120, 27, 0), (29, .ifCond .eq (5), 34, 0)],
  [(32, .iload_n 3, 0, 0), (33, .ireturn, 0, 0), (34, .iinc 3 (1), 1, 0), (37, .goto (-23), 14, 0)],
  [(40, .sipush (-20006), 20006, 1), (43, .ireturn, 0, 0)]]
/-- SnapshotRings.type(I)I -/
def sn_c68 : List (List (Nat × sn_E)) := [[(0, .iload_n 1, 0, 0), (1, .bipush (33), 33, 0), (3, .if_icmp .lt (9), 12, 0), (6, .iload_n 1, 0, 0), (7, .bipush (126), 126, 0)],
  [(9, .if_icmp .le (7), 16, 0), (12, .sipush (-20002), 20002, 1), (15, .ireturn, 0, 0)],
  [(16, .aload_n 0, 0, 0), (17, .getfield 36, 0, 4), (20, .getfield 172, 4, 1), (23, .bipush (80), 80, 0)],
  [(25, .if_icmp .lt (7), 32, 0), (28, .sipush (-20004), 20004, 1), (31, .ireturn, 0, 0)],
  [(32, .aload_n 0, 0, 0), (33, .getfield 36, 0, 4), (36, .iload_n 1, 0, 0), (37, .i2c, 0, 0), (38, .invokevirtual 175, 69, 0)],
  [(41, .aload_n 0, 0, 0), (42, .getfield 36, 0, 4), (45, .getfield 172, 4, 1)],
  [(48, .ireturn, 0, 0)]]
/-- SnapshotRings$Schedule.append(C)V -/
def sn_c69 : List (List (Nat × sn_E)) := [[(0, .aload_n 0, 0, 0), (1, .getfield 15, 4, 1), (4, .bipush (80), 80, 0), (6, .if_icmp .ge (23), 29, 0)],
  [(9, .aload_n 0, 0, 0), (10, .getfield 9, 4, 0), (13, .aload_n 0, 0, 0), (14, .getfield 15, 4, 1)],
  [(17, .iload_n 1, 0, 0), (18, .castore, 0, 0), (19, .aload_n 0, 0, 0), (20, .dup, 0, 0), (21, .getfield 15, 4, 1)],
  [(24, .iconst (1), 1, 0), (25, .iadd, 0, 0), (26, .putfield 15, 4, 1), (29, .return_, 0, 0)]]
/-- SnapshotRings.clearText()I -/
def sn_c70 : List (List (Nat × sn_E)) := [[(0, .aload_n 0, 0, 0), (1, .getfield 36, 0, 4), (4, .getfield 172, 4, 1), (7, .istore_n 1, 0, 0)],
  [(8, .aload_n 0, 0, 0), (9, .getfield 36, 0, 4), (12, .iconst (0), 0, 0), (13, .putfield 172, 4, 1)],
  [(16, .iload_n 1, 0, 0), (17, .ireturn, 0, 0)]]
/-- SnapshotRings.syntaxError()I -/
def sn_c71 : List (List (Nat × sn_E)) := [[(0, .aload_n 0, 0, 0), (1, .getfield 36, 0, 4), (4, .invokevirtual 179, 72, 0), (7, .ireturn, 0, 0)]]
/-- SnapshotRings$Schedule.firstError()I -/
def sn_c72 : List (List (Nat × sn_E)) := [[(0, .iconst (0), 0, 0), (1, .istore_n 1, 0, 0), (2, .iconst (0), 0, 0), (3, .istore_n 2, 0, 0), (4, .iload_n 2, 0, 0), (5, .aload_n 0, 0, 0), (6, .getfield 15, 4, 1)],
  [(9, .if_icmp .ge (26), 35, 0), (12, .iload_n 1, 0, 0), (13, .aload_n 0, 0, 0), (14, .iload_n 2, 0, 0), (15, .invokevirtual 19, 73, 0)],
  [(18, .invokestatic 23, 74, 0), (21, .istore_n 1, 0, 0), (22, .iload_n 1, 0, 0), (23, .iconst (-1), 1, 1)],
  [(24, .if_icmp .ne (5), 29, 0), (27, .iload_n 2, 0, 0), (28, .ireturn, 0, 0), (29, .iinc 2 (1), 1, 0)],
  [(32, .goto (-28), 4, 0), (35, .iload_n 1, 0, 0), (36, .bipush (9), 9, 0), (38, .if_icmp .lt (9), 47, 0)],
  [(41, .sipush (-20006), 20006, 1), (44, .goto (7), 51, 0), (47, .aload_n 0, 0, 0)],
  [(48, .getfield 15, 4, 1), (51, .ireturn, 0, 0)]]
/-- SnapshotRings$Schedule.signAt(I)C -/
def sn_c73 : List (List (Nat × sn_E)) := [[(0, .iload_n 1, 0, 0), (1, .ifCond .lt (20), 21, 0), (4, .iload_n 1, 0, 0), (5, .aload_n 0, 0, 0), (6, .getfield 15, 4, 1)],
  [(9, .if_icmp .ge (12), 21, 0), (12, .aload_n 0, 0, 0), (13, .getfield 9, 4, 0)],
  [(16, .iload_n 1, 0, 0), (17, .caload, 0, 0), (18, .goto (4), 22, 0), (21, .iconst (0), 0, 0), (22, .ireturn, 0, 0)]]
/-- SnapshotRings$Schedule.awaitedAfter(IC)I -/
def sn_c74 : List (List (Nat × sn_E)) := [[(0, .iload_n 0, 0, 0), (1, .tableswitch (224) (0) (10) #[59, 64, 82, 99, 117, 134, 152, 165, 183, 190, 207], 0, 0)],
  [],
  [],
  [],
  [],
  [],
  [],
  [(60, .iload_n 1, 0, 0), (61, .invokestatic 27, 75, 0)],
  [(64, .ireturn, 0, 0), (65, .iload_n 1, 0, 0), (66, .bipush (48), 48, 0), (68, .bipush (55), 55, 0), (70, .invokestatic 31, 76, 0)],
  [(73, .ifCond .eq (8), 81, 0), (76, .bipush (11), 11, 0), (78, .goto (4), 82, 0)],
  [(81, .iconst (-1), 1, 1), (82, .ireturn, 0, 0), (83, .iload_n 1, 0, 0), (84, .bipush (48), 48, 0), (86, .bipush (55), 55, 0)],
  [(88, .invokestatic 31, 76, 0), (91, .ifCond .eq (7), 98, 0), (94, .iconst (3), 3, 0), (95, .goto (4), 99, 0)],
  [(98, .iconst (-1), 1, 1), (99, .ireturn, 0, 0), (100, .iload_n 1, 0, 0), (101, .bipush (97), 97, 0), (103, .bipush (108), 108, 0)],
  [(105, .invokestatic 31, 76, 0), (108, .ifCond .eq (8), 116, 0), (111, .bipush (11), 11, 0)],
  [(113, .goto (4), 117, 0), (116, .iconst (-1), 1, 1), (117, .ireturn, 0, 0), (118, .iload_n 1, 0, 0), (119, .bipush (48), 48, 0)],
  [(121, .bipush (55), 55, 0), (123, .invokestatic 31, 76, 0), (126, .ifCond .eq (7), 133, 0)],
  [(129, .iconst (5), 5, 0), (130, .goto (4), 134, 0), (133, .iconst (-1), 1, 1), (134, .ireturn, 0, 0), (135, .iload_n 1, 0, 0)],
  [(136, .bipush (97), 97, 0), (138, .bipush (108), 108, 0), (140, .invokestatic 31, 76, 0), (143, .ifCond .eq (8), 151, 0)],
  [(146, .bipush (6), 6, 0), (148, .goto (4), 152, 0), (151, .iconst (-1), 1, 1)],
  [(152, .ireturn, 0, 0), (153, .iload_n 1, 0, 0), (154, .bipush (61), 61, 0), (156, .if_icmp .ne (8), 164, 0), (159, .bipush (7), 7, 0)],
  [(161, .goto (4), 165, 0), (164, .iconst (-1), 1, 1), (165, .ireturn, 0, 0), (166, .iload_n 1, 0, 0), (167, .bipush (45), 45, 0)],
  [(169, .if_icmp .ne (8), 177, 0), (172, .bipush (8), 8, 0), (174, .goto (9), 183, 0)],
  [(177, .iload_n 1, 0, 0), (178, .bipush (9), 9, 0), (180, .invokestatic 35, 77, 0), (183, .ireturn, 0, 0)],
  [(184, .iload_n 1, 0, 0), (185, .bipush (9), 9, 0), (187, .invokestatic 35, 77, 0), (190, .ireturn, 0, 0), (191, .iload_n 1, 0, 0)],
  [(192, .bipush (59), 59, 0), (194, .if_icmp .ne (7), 201, 0), (197, .iconst (0), 0, 0), (198, .goto (9), 207, 0)],
  [(201, .iload_n 1, 0, 0), (202, .bipush (10), 10, 0), (204, .invokestatic 35, 77, 0), (207, .ireturn, 0, 0)],
  [(208, .iload_n 1, 0, 0), (209, .bipush (59), 59, 0), (211, .if_icmp .ne (7), 218, 0), (214, .iconst (0), 0, 0), (215, .goto (9), 224, 0)],
  [(218, .iload_n 1, 0, 0), (219, .bipush (11), 11, 0), (221, .invokestatic 35, 77, 0)],
  [(224, .ireturn, 0, 0), (225, .iload_n 1, 0, 0), (226, .bipush (59), 59, 0), (228, .if_icmp .ne (7), 235, 0), (231, .iconst (0), 0, 0)],
  [(232, .goto (4), 236, 0), (235, .iconst (-1), 1, 1), (236, .ireturn, 0, 0)]]
/-- SnapshotRings$Schedule.awaitedAfterLetter(C)I -/
def sn_c75 : List (List (Nat × sn_E)) := [[(0, .iload_n 0, 0, 0), (1, .lookupswitch (57) #[(97, 51), (98, 51), (99, 51), (114, 53), (119, 55)], 0, 0)],
  [],
  [],
  [],
  [],
  [],
  [(52, .iconst (1), 1, 0), (53, .ireturn, 0, 0), (54, .iconst (2), 2, 0), (55, .ireturn, 0, 0)],
  [(56, .iconst (4), 4, 0), (57, .ireturn, 0, 0), (58, .iconst (-1), 1, 1), (59, .ireturn, 0, 0)]]
/-- SnapshotRings$Schedule.isBetween(CCC)Z -/
def sn_c76 : List (List (Nat × sn_E)) := [[(0, .iload_n 0, 0, 0), (1, .iload_n 1, 0, 0), (2, .if_icmp .lt (12), 14, 0), (5, .iload_n 0, 0, 0), (6, .iload_n 2, 0, 0), (7, .if_icmp .gt (7), 14, 0)],
  [(10, .iconst (1), 1, 0), (11, .goto (4), 15, 0), (14, .iconst (0), 0, 0), (15, .ireturn, 0, 0)]]
/-- SnapshotRings$Schedule.awaitedAfterDigit(CI)I -/
def sn_c77 : List (List (Nat × sn_E)) := [[(0, .iload_n 0, 0, 0), (1, .invokestatic 39, 78, 0), (4, .ifCond .eq (7), 11, 0), (7, .iload_n 1, 0, 0)],
  [(8, .goto (4), 12, 0), (11, .iconst (-1), 1, 1), (12, .ireturn, 0, 0)]]
/-- SnapshotRings$Schedule.isDigit(C)Z -/
def sn_c78 : List (List (Nat × sn_E)) := [[(0, .iload_n 0, 0, 0), (1, .bipush (48), 48, 0), (3, .bipush (57), 57, 0), (5, .invokestatic 31, 76, 0)],
  [(8, .ireturn, 0, 0)]]
/-- SnapshotRings.carryOut()I -/
def sn_c79 : List (List (Nat × sn_E)) := [[(0, .aload_n 0, 0, 0), (1, .getfield 36, 0, 4), (4, .invokevirtual 179, 72, 0), (7, .sipush (-20006), 20006, 1)],
  [(10, .if_icmp .eq (7), 17, 0), (13, .sipush (-20005), 20005, 1)],
  [(16, .ireturn, 0, 0), (17, .aload_n 0, 0, 0), (18, .getfield 22, 0, 2), (21, .aload_n 0, 0, 0), (22, .getfield 12, 0, 0)],
  [(25, .invokevirtual 40, 6, 0), (28, .iconst (0), 0, 0), (29, .istore_n 1, 0, 0), (30, .iconst (0), 0, 0), (31, .istore_n 2, 0, 0)],
  [(32, .iload_n 2, 0, 0), (33, .bipush (80), 80, 0), (35, .if_icmp .ge (37), 72, 0), (38, .iload_n 1, 0, 0), (39, .aload_n 0, 0, 0)],
  [(40, .getfield 36, 0, 4), (43, .getfield 172, 4, 1), (46, .if_icmp .ge (26), 72, 0)],
  [(49, .aload_n 0, 0, 0), (50, .iload_n 1, 0, 0), (51, .invokevirtual 182, 80, 0), (54, .ifCond .eq (18), 72, 0)],
  [(57, .iinc 2 (1), 1, 0), (60, .aload_n 0, 0, 0), (61, .getfield 36, 0, 4)],
  [(64, .iload_n 1, 0, 0), (65, .invokevirtual 185, 85, 0), (68, .istore_n 1, 0, 0), (69, .goto (-37), 32, 0)],
  [(72, .aload_n 0, 0, 0), (73, .getfield 36, 0, 4), (76, .iconst (0), 0, 0), (77, .putfield 172, 4, 1)],
  [(80, .iload_n 2, 0, 0), (81, .ireturn, 0, 0)]]
/-- SnapshotRings.carryOutStep(I)Z -/
def sn_c80 : List (List (Nat × sn_E)) := [[(0, .aload_n 0, 0, 0), (1, .getfield 36, 0, 4), (4, .iload_n 1, 0, 0), (5, .invokevirtual 238, 73, 0)],
  [(8, .istore_n 2, 0, 0), (9, .aload_n 0, 0, 0), (10, .getfield 36, 0, 4), (13, .iload_n 1, 0, 0), (14, .invokevirtual 242, 81, 0)],
  [(17, .istore_n 3, 0, 0), (18, .iload_n 2, 0, 0), (19, .bipush (98), 98, 0), (21, .if_icmp .ne (24), 45, 0)],
  [(24, .aload_n 0, 0, 0), (25, .iload_n 3, 0, 0), (26, .invokevirtual 59, 11, 0), (29, .ifCond .eq (5), 34, 0)],
  [(32, .iconst (0), 0, 0), (33, .ireturn, 0, 0), (34, .aload_n 0, 0, 0), (35, .getfield 12, 0, 0), (38, .iload_n 3, 0, 0), (39, .invokevirtual 63, 15, 0)],
  [(42, .pop, 0, 0), (43, .iconst (1), 1, 0), (44, .ireturn, 0, 0), (45, .iload_n 2, 0, 0), (46, .bipush (114), 114, 0)],
  [(48, .if_icmp .eq (9), 57, 0), (51, .iload_n 2, 0, 0), (52, .bipush (119), 119, 0), (54, .if_icmp .ne (11), 65, 0)],
  [(57, .aload_n 0, 0, 0), (58, .iload_n 1, 0, 0), (59, .iload_n 2, 0, 0), (60, .iload_n 3, 0, 0), (61, .invokevirtual 245, 82, 0)],
  [(64, .ireturn, 0, 0), (65, .aload_n 0, 0, 0), (66, .iload_n 3, 0, 0), (67, .invokevirtual 80, 19, 0), (70, .ifCond .eq (5), 75, 0)],
  [(73, .iconst (0), 0, 0), (74, .ireturn, 0, 0), (75, .iload_n 2, 0, 0), (76, .bipush (99), 99, 0), (78, .if_icmp .ne (16), 94, 0)],
  [(81, .aload_n 0, 0, 0), (82, .aload_n 0, 0, 0), (83, .getfield 12, 0, 0), (86, .iload_n 3, 0, 0), (87, .invokevirtual 83, 26, 0)],
  [(90, .pop, 0, 0), (91, .goto (12), 103, 0), (94, .aload_n 0, 0, 0), (95, .getfield 12, 0, 0)],
  [(98, .iload_n 3, 0, 0), (99, .invokevirtual 87, 45, 0), (102, .pop, 0, 0), (103, .iconst (1), 1, 0)],
  [(104, .ireturn, 0, 0)]]
/-- SnapshotRings$Schedule.slotOfStep(I)I -/
def sn_c81 : List (List (Nat × sn_E)) := [[(0, .aload_n 0, 0, 0), (1, .iload_n 1, 0, 0), (2, .iconst (1), 1, 0), (3, .iadd, 0, 0), (4, .invokevirtual 19, 73, 0), (7, .bipush (48), 48, 0)],
  [(9, .isub, 0, 0), (10, .ireturn, 0, 0)]]
/-- SnapshotRings.carryOutAccess(ICI)Z -/
def sn_c82 : List (List (Nat × sn_E)) := [[(0, .aload_n 0, 0, 0), (1, .getfield 36, 0, 4), (4, .iload_n 1, 0, 0), (5, .invokevirtual 249, 83, 0)],
  [(8, .istore 4, 4, 0), (10, .iload_n 2, 0, 0), (11, .bipush (114), 114, 0), (13, .if_icmp .ne (28), 41, 0)],
  [(16, .aload_n 0, 0, 0), (17, .iload_n 3, 0, 0), (18, .iload 4, 4, 0), (20, .invokevirtual 66, 17, 0), (23, .ifCond .eq (5), 28, 0)],
  [(26, .iconst (0), 0, 0), (27, .ireturn, 0, 0), (28, .aload_n 0, 0, 0), (29, .getfield 12, 0, 0)],
  [(32, .iload_n 3, 0, 0), (33, .iload 4, 4, 0), (35, .invokevirtual 70, 20, 0), (38, .pop, 0, 0), (39, .iconst (1), 1, 0)],
  [(40, .ireturn, 0, 0), (41, .aload_n 0, 0, 0), (42, .getfield 36, 0, 4), (45, .iload_n 1, 0, 0), (46, .invokevirtual 252, 84, 0)],
  [(49, .istore 5, 5, 0), (51, .aload_n 0, 0, 0), (52, .iload_n 3, 0, 0), (53, .iload 4, 4, 0), (55, .iload 5, 5, 0)],
  [(57, .invokevirtual 73, 22, 0), (60, .ifCond .eq (5), 65, 0), (63, .iconst (0), 0, 0)],
  [(64, .ireturn, 0, 0), (65, .aload_n 0, 0, 0), (66, .getfield 12, 0, 0), (69, .iload_n 3, 0, 0), (70, .iload 4, 4, 0)],
  [(72, .iload 5, 5, 0), (74, .invokevirtual 77, 23, 0), (77, .pop, 0, 0), (78, .iconst (1), 1, 0), (79, .ireturn, 0, 0)]]
/-- SnapshotRings$Schedule.keyOfStep(I)I -/
def sn_c83 : List (List (Nat × sn_E)) := [[(0, .aload_n 0, 0, 0), (1, .iload_n 1, 0, 0), (2, .iconst (2), 2, 0), (3, .iadd, 0, 0), (4, .invokevirtual 19, 73, 0), (7, .bipush (97), 97, 0)],
  [(9, .isub, 0, 0), (10, .ireturn, 0, 0)]]
/-- SnapshotRings$Schedule.valueOfStep(I)I -/
def sn_c84 : List (List (Nat × sn_E)) := [[(0, .aload_n 0, 0, 0), (1, .iload_n 1, 0, 0), (2, .iconst (4), 4, 0), (3, .iadd, 0, 0), (4, .invokevirtual 19, 73, 0), (7, .bipush (45), 45, 0)],
  [(9, .if_icmp .ne (7), 16, 0), (12, .iconst (1), 1, 0), (13, .goto (4), 17, 0)],
  [(16, .iconst (0), 0, 0), (17, .istore_n 2, 0, 0), (18, .iload_n 2, 0, 0), (19, .ifCond .eq (9), 28, 0), (22, .iload_n 1, 0, 0), (23, .iconst (5), 5, 0)],
  [(24, .iadd, 0, 0), (25, .goto (6), 31, 0), (28, .iload_n 1, 0, 0), (29, .iconst (4), 4, 0), (30, .iadd, 0, 0), (31, .istore_n 3, 0, 0)],
  [(32, .iconst (0), 0, 0), (33, .istore 4, 4, 0), (35, .iload_n 3, 0, 0), (36, .istore 5, 5, 0), (38, .iload 5, 5, 0)],
  [(40, .iload_n 3, 0, 0), (41, .iconst (3), 3, 0), (42, .iadd, 0, 0), (43, .if_icmp .ge (38), 81, 0), (46, .aload_n 0, 0, 0), (47, .iload 5, 5, 0)],
  [(49, .invokevirtual 19, 73, 0), (52, .invokestatic 39, 78, 0), (55, .ifCond .eq (26), 81, 0)],
  [(58, .bipush (10), 10, 0), (60, .iload 4, 4, 0), (62, .imul, 0, 0), (63, .aload_n 0, 0, 0)],
  [(64, .iload 5, 5, 0), (66, .invokevirtual 19, 73, 0), (69, .bipush (48), 48, 0), (71, .isub, 0, 0)],
  [(72, .iadd, 0, 0), (73, .istore 4, 4, 0), (75, .iinc 5 (1), 1, 0), (78, .goto (-40), 38, 0)],
  [(81, .iload_n 2, 0, 0), (82, .ifCond .eq (9), 91, 0), (85, .iload 4, 4, 0), (87, .ineg, 0, 0)],
  [(88, .goto (5), 93, 0), (91, .iload 4, 4, 0), (93, .ireturn, 0, 0)]]
/-- SnapshotRings$Schedule.nextStep(I)I -/
def sn_c85 : List (List (Nat × sn_E)) := [[(0, .iload_n 1, 0, 0), (1, .istore_n 2, 0, 0), (2, .iload_n 2, 0, 0), (3, .aload_n 0, 0, 0), (4, .getfield 15, 4, 1), (7, .if_icmp .ge (24), 31, 0)],
  [(10, .aload_n 0, 0, 0), (11, .getfield 9, 4, 0), (14, .iload_n 2, 0, 0), (15, .caload, 0, 0)],
  [(16, .bipush (59), 59, 0), (18, .if_icmp .ne (7), 25, 0), (21, .iload_n 2, 0, 0), (22, .iconst (1), 1, 0), (23, .iadd, 0, 0)],
  [(24, .ireturn, 0, 0), (25, .iinc 2 (1), 1, 0), (28, .goto (-26), 2, 0), (31, .aload_n 0, 0, 0)],
  [(32, .getfield 15, 4, 1), (35, .ireturn, 0, 0)]]
/-- SnapshotRings.undo()I -/
def sn_c86 : List (List (Nat × sn_E)) := [[(0, .aload_n 0, 0, 0), (1, .getfield 22, 0, 2), (4, .getfield 188, 2, 1), (7, .ifCond .ne (7), 14, 0)],
  [(10, .sipush (-20003), 20003, 1), (13, .ireturn, 0, 0), (14, .aload_n 0, 0, 0), (15, .getfield 22, 0, 2)],
  [(18, .aload_n 0, 0, 0), (19, .getfield 12, 0, 0), (22, .invokevirtual 191, 87, 0)],
  [(25, .aload_n 0, 0, 0), (26, .getfield 22, 0, 2), (29, .getfield 188, 2, 1)],
  [(32, .ireturn, 0, 0)]]
/-- SnapshotRings$History.popInto(LSnapshotRings$State;)V -/
def sn_c87 : List (List (Nat × sn_E)) := [[(0, .aload_n 0, 0, 0), (1, .aload_n 0, 0, 0), (2, .getfield 18, 2, 2), (5, .bipush (6), 6, 0), (7, .iadd, 0, 0)],
  [(8, .iconst (1), 1, 0), (9, .isub, 0, 0), (10, .bipush (6), 6, 0), (12, .irem, 0, 0), (13, .putfield 18, 2, 2)],
  [(16, .aload_n 0, 0, 0), (17, .dup, 0, 0), (18, .getfield 26, 2, 1), (21, .iconst (1), 1, 0), (22, .isub, 0, 0), (23, .putfield 26, 2, 1)],
  [(26, .aload_n 1, 0, 0), (27, .aload_n 0, 0, 0), (28, .getfield 11, 2, 0), (31, .aload_n 0, 0, 0)],
  [(32, .getfield 18, 2, 2), (35, .aaload, 0, 0), (36, .invokevirtual 22, 7, 0), (39, .return_, 0, 0)]]
/-- SnapshotRings.digest()J -/
def sn_c88 : List (List (Nat × sn_E)) := [[(0, .ldc2_w 194, 368, 0), (3, .lstore_n 1, 0, 0), (4, .iconst (0), 0, 0), (5, .istore_n 3, 0, 0), (6, .iload_n 3, 0, 0), (7, .bipush (8), 8, 0)],
  [(9, .if_icmp .ge (20), 29, 0), (12, .lload_n 1, 0, 0), (13, .aload_n 0, 0, 0), (14, .iload_n 3, 0, 0), (15, .invokevirtual 196, 46, 0)],
  [(18, .i2l, 0, 0), (19, .invokestatic 199, 89, 0), (22, .lstore_n 1, 0, 0), (23, .iinc 3 (1), 1, 0)],
  [(26, .goto (-20), 6, 0), (29, .iconst (0), 0, 0), (30, .istore_n 3, 0, 0), (31, .iload_n 3, 0, 0)],
  [(32, .bipush (12), 12, 0), (34, .if_icmp .ge (39), 73, 0), (37, .lload_n 1, 0, 0), (38, .aload_n 0, 0, 0), (39, .getfield 12, 0, 0)],
  [(42, .getfield 114, 1, 7), (45, .iload_n 3, 0, 0), (46, .iaload, 0, 0), (47, .i2l, 0, 0)],
  [(48, .invokestatic 199, 89, 0), (51, .lstore_n 1, 0, 0), (52, .lload_n 1, 0, 0), (53, .aload_n 0, 0, 0), (54, .getfield 12, 0, 0)],
  [(57, .getfield 117, 1, 8), (60, .iload_n 3, 0, 0), (61, .iaload, 0, 0), (62, .i2l, 0, 0), (63, .invokestatic 199, 89, 0)],
  [(66, .lstore_n 1, 0, 0), (67, .iinc 3 (1), 1, 0), (70, .goto (-39), 31, 0)],
  [(73, .aload_n 0, 0, 0), (74, .lload_n 1, 0, 0), (75, .invokevirtual 203, 90, 0), (78, .lstore_n 1, 0, 0), (79, .aload_n 0, 0, 0)],
  [(80, .lload_n 1, 0, 0), (81, .invokevirtual 207, 91, 0), (84, .lstore_n 1, 0, 0), (85, .aload_n 0, 0, 0), (86, .lload_n 1, 0, 0), (87, .invokevirtual 210, 92, 0)],
  [(90, .lstore_n 1, 0, 0), (91, .iconst (0), 0, 0), (92, .istore_n 3, 0, 0), (93, .iload_n 3, 0, 0), (94, .iconst (3), 3, 0), (95, .if_icmp .ge (20), 115, 0)],
  [(98, .lload_n 1, 0, 0), (99, .aload_n 0, 0, 0), (100, .iload_n 3, 0, 0), (101, .invokevirtual 213, 63, 0)],
  [(104, .i2l, 0, 0), (105, .invokestatic 199, 89, 0), (108, .lstore_n 1, 0, 0), (109, .iinc 3 (1), 1, 0)],
  [(112, .goto (-19), 93, 0), (115, .lload_n 1, 0, 0), (116, .lreturn, 0, 0)]]
/-- SnapshotRings.mixed(JJ)J -/
def sn_c89 : List (List (Nat × sn_E)) := [[(0, .ldc2_w 216, 31, 0), (3, .lload_n 0, 0, 0), (4, .lmul, 0, 0), (5, .lload_n 2, 0, 0), (6, .ladd, 0, 0), (7, .lreturn, 0, 0)]]
/-- SnapshotRings.withOpenTransactions(J)J -/
def sn_c90 : List (List (Nat × sn_E)) := [[(0, .lload_n 1, 0, 0), (1, .lstore_n 3, 0, 0), (2, .iconst (0), 0, 0), (3, .istore 5, 5, 0), (5, .iload 5, 5, 0), (7, .bipush (8), 8, 0)],
  [(9, .if_icmp .ge (90), 99, 0), (12, .aload_n 0, 0, 0), (13, .getfield 12, 0, 0)],
  [(16, .iload 5, 5, 0), (18, .invokevirtual 169, 13, 0), (21, .ifCond .ne (6), 27, 0)],
  [(24, .goto (69), 93, 0), (27, .lload_n 3, 0, 0), (28, .iload 5, 5, 0), (30, .i2l, 0, 0), (31, .invokestatic 199, 89, 0)],
  [(34, .lstore_n 3, 0, 0), (35, .iconst (0), 0, 0), (36, .istore 6, 6, 0), (38, .iload 6, 6, 0)],
  [(40, .iconst (4), 4, 0), (41, .if_icmp .ge (23), 64, 0), (44, .lload_n 3, 0, 0), (45, .aload_n 0, 0, 0), (46, .iload 5, 5, 0)],
  [(48, .iload 6, 6, 0), (50, .invokevirtual 255, 49, 0), (53, .i2l, 0, 0), (54, .invokestatic 199, 89, 0)],
  [(57, .lstore_n 3, 0, 0), (58, .iinc 6 (1), 1, 0), (61, .goto (-23), 38, 0)],
  [(64, .iconst (0), 0, 0), (65, .istore 6, 6, 0), (67, .iload 6, 6, 0), (69, .iconst (3), 3, 0), (70, .if_icmp .ge (23), 93, 0)],
  [(73, .lload_n 3, 0, 0), (74, .aload_n 0, 0, 0), (75, .iload 5, 5, 0), (77, .iload 6, 6, 0), (79, .invokevirtual 258, 65, 0)],
  [(82, .i2l, 0, 0), (83, .invokestatic 199, 89, 0), (86, .lstore_n 3, 0, 0), (87, .iinc 6 (1), 1, 0)],
  [(90, .goto (-23), 67, 0), (93, .iinc 5 (1), 1, 0)],
  [(96, .goto (-91), 5, 0), (99, .lload_n 3, 0, 0), (100, .lreturn, 0, 0)]]
/-- SnapshotRings.withKeptCommits(J)J -/
def sn_c91 : List (List (Nat × sn_E)) := [[(0, .lload_n 1, 0, 0), (1, .lstore_n 3, 0, 0), (2, .aload_n 0, 0, 0), (3, .getfield 12, 0, 0), (6, .invokevirtual 101, 30, 0)],
  [(9, .istore 5, 5, 0), (11, .aload_n 0, 0, 0), (12, .getfield 12, 0, 0), (15, .getfield 90, 1, 1)],
  [(18, .iload 5, 5, 0), (20, .isub, 0, 0), (21, .iconst (1), 1, 0), (22, .iadd, 0, 0), (23, .istore 6, 6, 0)],
  [(25, .iconst (0), 0, 0), (26, .istore 7, 7, 0), (28, .iload 7, 7, 0), (30, .iload 5, 5, 0)],
  [(32, .if_icmp .ge (52), 84, 0), (35, .lload_n 3, 0, 0), (36, .iload 6, 6, 0), (38, .iload 7, 7, 0)],
  [(40, .iadd, 0, 0), (41, .i2l, 0, 0), (42, .invokestatic 199, 89, 0), (45, .lstore_n 3, 0, 0), (46, .iconst (0), 0, 0), (47, .istore 8, 8, 0)],
  [(49, .iload 8, 8, 0), (51, .iconst (3), 3, 0), (52, .if_icmp .ge (26), 78, 0), (55, .lload_n 3, 0, 0)],
  [(56, .aload_n 0, 0, 0), (57, .iload 6, 6, 0), (59, .iload 7, 7, 0), (61, .iadd, 0, 0), (62, .iload 8, 8, 0)],
  [(64, .invokevirtual 261, 51, 0), (67, .i2l, 0, 0), (68, .invokestatic 199, 89, 0), (71, .lstore_n 3, 0, 0)],
  [(72, .iinc 8 (1), 1, 0), (75, .goto (-26), 49, 0), (78, .iinc 7 (1), 1, 0)],
  [(81, .goto (-53), 28, 0), (84, .lload_n 3, 0, 0), (85, .lreturn, 0, 0)]]
/-- SnapshotRings.withGraph(J)J -/
def sn_c92 : List (List (Nat × sn_E)) := [[(0, .lload_n 1, 0, 0), (1, .lstore_n 3, 0, 0), (2, .aload_n 0, 0, 0), (3, .getfield 29, 0, 3), (6, .aload_n 0, 0, 0), (7, .getfield 12, 0, 0)],
  [(10, .invokevirtual 137, 29, 0), (13, .iconst (0), 0, 0), (14, .istore 5, 5, 0)],
  [(16, .iload 5, 5, 0), (18, .aload_n 0, 0, 0), (19, .getfield 29, 0, 3), (22, .getfield 264, 3, 0)],
  [(25, .if_icmp .ge (77), 102, 0), (28, .iload 5, 5, 0), (30, .iconst (1), 1, 0), (31, .iadd, 0, 0)],
  [(32, .istore 6, 6, 0), (34, .iload 6, 6, 0), (36, .aload_n 0, 0, 0), (37, .getfield 29, 0, 3)],
  [(40, .getfield 264, 3, 0), (43, .if_icmp .ge (53), 96, 0), (46, .lload_n 3, 0, 0), (47, .aload_n 0, 0, 0)],
  [(48, .getfield 29, 0, 3), (51, .getfield 267, 3, 3), (54, .iload 5, 5, 0)],
  [(56, .bipush (17), 17, 0), (58, .imul, 0, 0), (59, .iload 6, 6, 0), (61, .iadd, 0, 0), (62, .iaload, 0, 0), (63, .i2l, 0, 0)],
  [(64, .invokestatic 199, 89, 0), (67, .lstore_n 3, 0, 0), (68, .lload_n 3, 0, 0), (69, .aload_n 0, 0, 0), (70, .getfield 29, 0, 3)],
  [(73, .getfield 267, 3, 3), (76, .iload 6, 6, 0), (78, .bipush (17), 17, 0)],
  [(80, .imul, 0, 0), (81, .iload 5, 5, 0), (83, .iadd, 0, 0), (84, .iaload, 0, 0), (85, .i2l, 0, 0), (86, .invokestatic 199, 89, 0)],
  [(89, .lstore_n 3, 0, 0), (90, .iinc 6 (1), 1, 0), (93, .goto (-59), 34, 0)],
  [(96, .iinc 5 (1), 1, 0), (99, .goto (-83), 16, 0), (102, .lload_n 3, 0, 0), (103, .aload_n 0, 0, 0)],
  [(104, .getfield 29, 0, 3), (107, .invokevirtual 150, 57, 0), (110, .i2l, 0, 0), (111, .invokestatic 199, 89, 0)],
  [(114, .lstore_n 3, 0, 0), (115, .aload_n 0, 0, 0), (116, .getfield 29, 0, 3), (119, .invokevirtual 153, 59, 0)],
  [(122, .iconst (0), 0, 0), (123, .istore 5, 5, 0), (125, .iload 5, 5, 0), (127, .bipush (16), 16, 0)],
  [(129, .if_icmp .ge (24), 153, 0), (132, .lload_n 3, 0, 0), (133, .aload_n 0, 0, 0), (134, .getfield 29, 0, 3)],
  [(137, .iload 5, 5, 0), (139, .invokevirtual 147, 55, 0), (142, .i2l, 0, 0), (143, .invokestatic 199, 89, 0)],
  [(146, .lstore_n 3, 0, 0), (147, .iinc 5 (1), 1, 0), (150, .goto (-25), 125, 0)],
  [(153, .lload_n 3, 0, 0), (154, .lreturn, 0, 0)]]
/-- SnapshotRingsModel.<init>()V -/
def sn_c93 : List (List (Nat × sn_E)) := [[(0, .aload_n 0, 0, 0), (1, .invokespecial 1, 9998, 0), (4, .aload_n 0, 0, 0), (5, .sipush (596), 596, 0)],
  [(8, .newarray .int, 1, 0), (10, .putfield 7, 5, 0), (13, .aload_n 0, 0, 0), (14, .sipush (596), 596, 0)],
  [(17, .newarray .int, 1, 0), (19, .putfield 13, 5, 1), (22, .aload_n 0, 0, 0), (23, .sipush (3576), 3576, 0)],
  [(26, .newarray .int, 1, 0), (28, .putfield 16, 5, 2), (31, .aload_n 0, 0, 0)],
  [(32, .bipush (80), 80, 0), (34, .newarray .int, 1, 0), (36, .putfield 19, 5, 4), (39, .aload_n 0, 0, 0)],
  [(40, .bipush (17), 17, 0), (42, .newarray .int, 1, 0), (44, .putfield 22, 5, 7), (47, .aload_n 0, 0, 0)],
  [(48, .bipush (17), 17, 0), (50, .newarray .int, 1, 0), (52, .putfield 25, 5, 8), (55, .aload_n 0, 0, 0)],
  [(56, .bipush (16), 16, 0), (58, .newarray .int, 1, 0), (60, .putfield 28, 5, 9), (63, .return_, 0, 0)]]
/-- SnapshotRingsModel.begin(I)I -/
def sn_c94 : List (List (Nat × sn_E)) := [[(0, .aload_n 0, 0, 0), (1, .iload_n 1, 0, 0), (2, .invokevirtual 106, 95, 0), (5, .istore_n 2, 0, 0), (6, .iload_n 2, 0, 0), (7, .ifCond .ge (5), 12, 0)],
  [(10, .iload_n 2, 0, 0), (11, .ireturn, 0, 0), (12, .aload_n 0, 0, 0), (13, .invokevirtual 109, 100, 0)],
  [(16, .aload_n 0, 0, 0), (17, .iload_n 1, 0, 0), (18, .invokevirtual 112, 102, 0), (21, .ireturn, 0, 0)]]
/-- SnapshotRingsModel.whyNotBegun(I)I -/
def sn_c95 : List (List (Nat × sn_E)) := [[(0, .iload_n 1, 0, 0), (1, .invokestatic 43, 96, 0), (4, .ifCond .ne (9), 13, 0), (7, .sipush (-20001), 20001, 1)],
  [(10, .goto (18), 28, 0), (13, .aload_n 0, 0, 0), (14, .iload_n 1, 0, 0), (15, .invokevirtual 100, 98, 0)],
  [(18, .ifCond .eq (9), 27, 0), (21, .sipush (-20003), 20003, 1)],
  [(24, .goto (4), 28, 0), (27, .iconst (0), 0, 0), (28, .ireturn, 0, 0)]]
/-- SnapshotRingsModel.isSlot(I)Z -/
def sn_c96 : List (List (Nat × sn_E)) := [[(0, .iload_n 0, 0, 0), (1, .iconst (0), 0, 0), (2, .bipush (7), 7, 0), (4, .invokestatic 39, 97, 0), (7, .ireturn, 0, 0)]]
/-- SnapshotRingsModel.within(III)Z -/
def sn_c97 : List (List (Nat × sn_E)) := [[(0, .iload_n 0, 0, 0), (1, .iload_n 1, 0, 0), (2, .if_icmp .lt (12), 14, 0), (5, .iload_n 0, 0, 0), (6, .iload_n 2, 0, 0), (7, .if_icmp .gt (7), 14, 0)],
  [(10, .iconst (1), 1, 0), (11, .goto (4), 15, 0), (14, .iconst (0), 0, 0), (15, .ireturn, 0, 0)]]
/-- SnapshotRingsModel.isOpen(I)Z -/
def sn_c98 : List (List (Nat × sn_E)) := [[(0, .iload_n 1, 0, 0), (1, .invokestatic 43, 96, 0), (4, .ifCond .eq (18), 22, 0), (7, .aload_n 0, 0, 0)],
  [(8, .iload_n 1, 0, 0), (9, .bipush (39), 39, 0), (11, .invokevirtual 47, 99, 0), (14, .iconst (1), 1, 0), (15, .if_icmp .ne (7), 22, 0)],
  [(18, .iconst (1), 1, 0), (19, .goto (4), 23, 0), (22, .iconst (0), 0, 0), (23, .ireturn, 0, 0)]]
/-- SnapshotRingsModel.slotPart(II)I -/
def sn_c99 : List (List (Nat × sn_E)) := [[(0, .aload_n 0, 0, 0), (1, .getfield 7, 5, 0), (4, .bipush (36), 36, 0), (6, .bipush (40), 40, 0)],
  [(8, .iload_n 1, 0, 0), (9, .imul, 0, 0), (10, .iadd, 0, 0), (11, .iload_n 2, 0, 0), (12, .iadd, 0, 0), (13, .iaload, 0, 0), (14, .ireturn, 0, 0)]]
/-- SnapshotRingsModel.record()V -/
def sn_c100 : List (List (Nat × sn_E)) := [[(0, .aload_n 0, 0, 0), (1, .getfield 31, 5, 3), (4, .bipush (6), 6, 0), (6, .if_icmp .ne (44), 50, 0)],
  [(9, .iconst (0), 0, 0), (10, .istore_n 1, 0, 0), (11, .iload_n 1, 0, 0), (12, .sipush (2980), 2980, 0), (15, .if_icmp .ge (25), 40, 0)],
  [(18, .aload_n 0, 0, 0), (19, .getfield 16, 5, 2), (22, .iload_n 1, 0, 0), (23, .aload_n 0, 0, 0)],
  [(24, .getfield 16, 5, 2), (27, .iload_n 1, 0, 0), (28, .sipush (596), 596, 0), (31, .iadd, 0, 0)],
  [(32, .iaload, 0, 0), (33, .iastore, 0, 0), (34, .iinc 1 (1), 1, 0), (37, .goto (-26), 11, 0)],
  [(40, .aload_n 0, 0, 0), (41, .dup, 0, 0), (42, .getfield 31, 5, 3), (45, .iconst (1), 1, 0), (46, .isub, 0, 0), (47, .putfield 31, 5, 3)],
  [(50, .aload_n 0, 0, 0), (51, .getfield 7, 5, 0), (54, .iconst (0), 0, 0), (55, .aload_n 0, 0, 0)],
  [(56, .getfield 16, 5, 2), (59, .aload_n 0, 0, 0), (60, .getfield 31, 5, 3), (63, .sipush (596), 596, 0)],
  [(66, .imul, 0, 0), (67, .invokestatic 35, 101, 0), (70, .aload_n 0, 0, 0), (71, .dup, 0, 0)],
  [(72, .getfield 31, 5, 3), (75, .iconst (1), 1, 0), (76, .iadd, 0, 0), (77, .putfield 31, 5, 3)],
  [(80, .return_, 0, 0)]]
/-- SnapshotRingsModel.copies([II[II)V -/
def sn_c101 : List (List (Nat × sn_E)) := [[(0, .iconst (0), 0, 0), (1, .istore 4, 4, 0), (3, .iload 4, 4, 0), (5, .sipush (596), 596, 0)],
  [(8, .if_icmp .ge (21), 29, 0), (11, .aload_n 2, 0, 0), (12, .iload_n 3, 0, 0), (13, .iload 4, 4, 0), (15, .iadd, 0, 0)],
  [(16, .aload_n 0, 0, 0), (17, .iload_n 1, 0, 0), (18, .iload 4, 4, 0), (20, .iadd, 0, 0), (21, .iaload, 0, 0), (22, .iastore, 0, 0), (23, .iinc 4 (1), 1, 0)],
  [(26, .goto (-23), 3, 0), (29, .return_, 0, 0)]]
/-- SnapshotRingsModel.begins(I)I -/
def sn_c102 : List (List (Nat × sn_E)) := [[(0, .aload_n 0, 0, 0), (1, .iload_n 1, 0, 0), (2, .invokevirtual 103, 103, 0), (5, .aload_n 0, 0, 0), (6, .iload_n 1, 0, 0), (7, .bipush (39), 39, 0)],
  [(9, .iconst (1), 1, 0), (10, .invokevirtual 96, 104, 0), (13, .aload_n 0, 0, 0), (14, .iload_n 1, 0, 0), (15, .iconst (0), 0, 0)],
  [(16, .aload_n 0, 0, 0), (17, .getfield 7, 5, 0), (20, .iconst (0), 0, 0), (21, .iaload, 0, 0), (22, .invokevirtual 96, 104, 0)],
  [(25, .iconst (0), 0, 0), (26, .istore_n 2, 0, 0), (27, .iload_n 2, 0, 0), (28, .bipush (12), 12, 0), (30, .if_icmp .ge (44), 74, 0)],
  [(33, .aload_n 0, 0, 0), (34, .iload_n 1, 0, 0), (35, .iconst (3), 3, 0), (36, .iload_n 2, 0, 0), (37, .iadd, 0, 0), (38, .aload_n 0, 0, 0), (39, .getfield 7, 5, 0)],
  [(42, .bipush (24), 24, 0), (44, .iload_n 2, 0, 0), (45, .iadd, 0, 0), (46, .iaload, 0, 0), (47, .invokevirtual 96, 104, 0)],
  [(50, .aload_n 0, 0, 0), (51, .iload_n 1, 0, 0), (52, .bipush (15), 15, 0), (54, .iload_n 2, 0, 0), (55, .iadd, 0, 0)],
  [(56, .aload_n 0, 0, 0), (57, .getfield 7, 5, 0), (60, .bipush (12), 12, 0), (62, .iload_n 2, 0, 0), (63, .iadd, 0, 0)],
  [(64, .iaload, 0, 0), (65, .invokevirtual 96, 104, 0), (68, .iinc 2 (1), 1, 0), (71, .goto (-44), 27, 0)],
  [(74, .aload_n 0, 0, 0), (75, .getfield 7, 5, 0), (78, .iconst (0), 0, 0), (79, .iaload, 0, 0)],
  [(80, .ireturn, 0, 0)]]
/-- SnapshotRingsModel.frees(I)V -/
def sn_c103 : List (List (Nat × sn_E)) := [[(0, .iconst (0), 0, 0), (1, .istore_n 2, 0, 0), (2, .iload_n 2, 0, 0), (3, .bipush (40), 40, 0), (5, .if_icmp .ge (16), 21, 0)],
  [(8, .aload_n 0, 0, 0), (9, .iload_n 1, 0, 0), (10, .iload_n 2, 0, 0), (11, .iconst (0), 0, 0), (12, .invokevirtual 96, 104, 0), (15, .iinc 2 (1), 1, 0)],
  [(18, .goto (-16), 2, 0), (21, .return_, 0, 0)]]
/-- SnapshotRingsModel.setSlot(III)V -/
def sn_c104 : List (List (Nat × sn_E)) := [[(0, .aload_n 0, 0, 0), (1, .getfield 7, 5, 0), (4, .bipush (36), 36, 0), (6, .bipush (40), 40, 0)],
  [(8, .iload_n 1, 0, 0), (9, .imul, 0, 0), (10, .iadd, 0, 0), (11, .iload_n 2, 0, 0), (12, .iadd, 0, 0), (13, .iload_n 3, 0, 0), (14, .iastore, 0, 0), (15, .return_, 0, 0)]]
/-- SnapshotRingsModel.read(II)I -/
def sn_c105 : List (List (Nat × sn_E)) := [[(0, .aload_n 0, 0, 0), (1, .iload_n 1, 0, 0), (2, .iload_n 2, 0, 0), (3, .invokevirtual 118, 106, 0), (6, .istore_n 3, 0, 0), (7, .iload_n 3, 0, 0)],
  [(8, .ifCond .ge (5), 13, 0), (11, .iload_n 3, 0, 0), (12, .ireturn, 0, 0), (13, .aload_n 0, 0, 0), (14, .invokevirtual 109, 100, 0)],
  [(17, .aload_n 0, 0, 0), (18, .iload_n 1, 0, 0), (19, .iload_n 2, 0, 0), (20, .invokevirtual 121, 108, 0), (23, .ireturn, 0, 0)]]
/-- SnapshotRingsModel.whyNotRead(II)I -/
def sn_c106 : List (List (Nat × sn_E)) := [[(0, .aload_n 0, 0, 0), (1, .iload_n 1, 0, 0), (2, .invokevirtual 100, 98, 0), (5, .ifCond .eq (14), 19, 0)],
  [(8, .iload_n 2, 0, 0), (9, .invokestatic 115, 107, 0), (12, .ifCond .eq (7), 19, 0), (15, .iconst (0), 0, 0)],
  [(16, .goto (6), 22, 0), (19, .sipush (-20001), 20001, 1), (22, .ireturn, 0, 0)]]
/-- SnapshotRingsModel.isKey(I)Z -/
def sn_c107 : List (List (Nat × sn_E)) := [[(0, .iload_n 0, 0, 0), (1, .iconst (0), 0, 0), (2, .bipush (11), 11, 0), (4, .invokestatic 39, 97, 0), (7, .ireturn, 0, 0)]]
/-- SnapshotRingsModel.reads(II)I -/
def sn_c108 : List (List (Nat × sn_E)) := [[(0, .aload_n 0, 0, 0), (1, .iload_n 1, 0, 0), (2, .iconst (2), 2, 0), (3, .invokevirtual 47, 99, 0), (6, .iload_n 2, 0, 0), (7, .ishr, 0, 0)],
  [(8, .iconst (1), 1, 0), (9, .iand, 0, 0), (10, .iconst (1), 1, 0), (11, .if_icmp .ne (13), 24, 0), (14, .aload_n 0, 0, 0), (15, .iload_n 1, 0, 0)],
  [(16, .bipush (27), 27, 0), (18, .iload_n 2, 0, 0), (19, .iadd, 0, 0), (20, .invokevirtual 47, 99, 0), (23, .ireturn, 0, 0)],
  [(24, .aload_n 0, 0, 0), (25, .iload_n 1, 0, 0), (26, .iconst (1), 1, 0), (27, .aload_n 0, 0, 0), (28, .iload_n 1, 0, 0), (29, .iconst (1), 1, 0), (30, .invokevirtual 47, 99, 0)],
  [(33, .iconst (1), 1, 0), (34, .iload_n 2, 0, 0), (35, .ishl, 0, 0), (36, .ior, 0, 0), (37, .invokevirtual 96, 104, 0)],
  [(40, .aload_n 0, 0, 0), (41, .iload_n 1, 0, 0), (42, .bipush (15), 15, 0), (44, .iload_n 2, 0, 0), (45, .iadd, 0, 0), (46, .invokevirtual 47, 99, 0)],
  [(49, .ireturn, 0, 0)]]
/-- SnapshotRingsModel.write(III)I -/
def sn_c109 : List (List (Nat × sn_E)) := [[(0, .aload_n 0, 0, 0), (1, .iload_n 1, 0, 0), (2, .iload_n 2, 0, 0), (3, .iload_n 3, 0, 0), (4, .invokevirtual 127, 110, 0), (7, .istore 4, 4, 0)],
  [(9, .iload 4, 4, 0), (11, .ifCond .ge (6), 17, 0), (14, .iload 4, 4, 0)],
  [(16, .ireturn, 0, 0), (17, .aload_n 0, 0, 0), (18, .invokevirtual 109, 100, 0), (21, .aload_n 0, 0, 0), (22, .iload_n 1, 0, 0), (23, .iload_n 2, 0, 0)],
  [(24, .iload_n 3, 0, 0), (25, .invokevirtual 131, 111, 0), (28, .ireturn, 0, 0)]]
/-- SnapshotRingsModel.whyNotWritten(III)I -/
def sn_c110 : List (List (Nat × sn_E)) := [[(0, .aload_n 0, 0, 0), (1, .iload_n 1, 0, 0), (2, .invokevirtual 100, 98, 0), (5, .ifCond .eq (10), 15, 0)],
  [(8, .iload_n 2, 0, 0), (9, .invokestatic 115, 107, 0), (12, .ifCond .ne (9), 21, 0), (15, .sipush (-20001), 20001, 1)],
  [(18, .goto (23), 41, 0), (21, .iload_n 3, 0, 0), (22, .sipush (-999), 999, 1)],
  [(25, .sipush (999), 999, 0), (28, .invokestatic 39, 97, 0), (31, .ifCond .eq (7), 38, 0)],
  [(34, .iconst (0), 0, 0), (35, .goto (6), 41, 0), (38, .sipush (-20002), 20002, 1)],
  [(41, .ireturn, 0, 0)]]
/-- SnapshotRingsModel.writes(III)I -/
def sn_c111 : List (List (Nat × sn_E)) := [[(0, .aload_n 0, 0, 0), (1, .iload_n 1, 0, 0), (2, .iconst (2), 2, 0), (3, .aload_n 0, 0, 0), (4, .iload_n 1, 0, 0), (5, .iconst (2), 2, 0), (6, .invokevirtual 47, 99, 0)],
  [(9, .iconst (1), 1, 0), (10, .iload_n 2, 0, 0), (11, .ishl, 0, 0), (12, .ior, 0, 0), (13, .invokevirtual 96, 104, 0)],
  [(16, .aload_n 0, 0, 0), (17, .iload_n 1, 0, 0), (18, .bipush (27), 27, 0), (20, .iload_n 2, 0, 0), (21, .iadd, 0, 0), (22, .iload_n 3, 0, 0), (23, .invokevirtual 96, 104, 0)],
  [(26, .aload_n 0, 0, 0), (27, .iload_n 1, 0, 0), (28, .iconst (2), 2, 0), (29, .invokevirtual 47, 99, 0)],
  [(32, .invokestatic 124, 112, 0), (35, .ireturn, 0, 0)]]
/-- SnapshotRingsModel.ones(I)I -/
def sn_c112 : List (List (Nat × sn_E)) := [[(0, .iconst (0), 0, 0), (1, .istore_n 1, 0, 0), (2, .iconst (0), 0, 0), (3, .istore_n 2, 0, 0), (4, .iload_n 2, 0, 0), (5, .bipush (12), 12, 0), (7, .if_icmp .ge (17), 24, 0)],
  [(10, .iload_n 1, 0, 0), (11, .iload_n 0, 0, 0), (12, .iload_n 2, 0, 0), (13, .ishr, 0, 0), (14, .iconst (1), 1, 0), (15, .iand, 0, 0)],
  [(16, .iadd, 0, 0), (17, .istore_n 1, 0, 0), (18, .iinc 2 (1), 1, 0), (21, .goto (-17), 4, 0)],
  [(24, .iload_n 1, 0, 0), (25, .ireturn, 0, 0)]]
/-- SnapshotRingsModel.commit(I)I -/
def sn_c113 : List (List (Nat × sn_E)) := [[(0, .aload_n 0, 0, 0), (1, .iload_n 1, 0, 0), (2, .invokevirtual 137, 114, 0), (5, .istore_n 2, 0, 0), (6, .iload_n 2, 0, 0), (7, .ifCond .ge (5), 12, 0)],
  [(10, .iload_n 2, 0, 0), (11, .ireturn, 0, 0), (12, .aload_n 0, 0, 0), (13, .invokevirtual 109, 100, 0)],
  [(16, .aload_n 0, 0, 0), (17, .iload_n 1, 0, 0), (18, .invokevirtual 140, 115, 0), (21, .ireturn, 0, 0)]]
/-- SnapshotRingsModel.whyNotOpen(I)I -/
def sn_c114 : List (List (Nat × sn_E)) := [[(0, .aload_n 0, 0, 0), (1, .iload_n 1, 0, 0), (2, .invokevirtual 100, 98, 0), (5, .ifCond .eq (7), 12, 0)],
  [(8, .iconst (0), 0, 0), (9, .goto (6), 15, 0), (12, .sipush (-20001), 20001, 1), (15, .ireturn, 0, 0)]]
/-- SnapshotRingsModel.commits(I)I -/
def sn_c115 : List (List (Nat × sn_E)) := [[(0, .aload_n 0, 0, 0), (1, .iload_n 1, 0, 0), (2, .aload_n 0, 0, 0), (3, .getfield 7, 5, 0), (6, .iconst (1), 1, 0), (7, .iaload, 0, 0)],
  [(8, .invokevirtual 134, 116, 0), (11, .istore_n 2, 0, 0), (12, .iload_n 2, 0, 0), (13, .ifCond .le (25), 38, 0)],
  [(16, .aload_n 0, 0, 0), (17, .getfield 7, 5, 0), (20, .iconst (2), 2, 0), (21, .iload_n 2, 0, 0), (22, .iadd, 0, 0), (23, .iconst (1), 1, 0)],
  [(24, .isub, 0, 0), (25, .dup2, 0, 0), (26, .iaload, 0, 0), (27, .iconst (1), 1, 0), (28, .iadd, 0, 0), (29, .iastore, 0, 0), (30, .aload_n 0, 0, 0), (31, .iload_n 1, 0, 0)],
  [(32, .invokevirtual 103, 103, 0), (35, .iload_n 2, 0, 0), (36, .ineg, 0, 0), (37, .ireturn, 0, 0), (38, .aload_n 0, 0, 0), (39, .getfield 7, 5, 0)],
  [(42, .iconst (0), 0, 0), (43, .dup2, 0, 0), (44, .iaload, 0, 0), (45, .iconst (1), 1, 0), (46, .iadd, 0, 0), (47, .iastore, 0, 0)],
  [(48, .iconst (0), 0, 0), (49, .istore_n 3, 0, 0), (50, .iload_n 3, 0, 0), (51, .bipush (15), 15, 0), (53, .if_icmp .ge (31), 84, 0)],
  [(56, .aload_n 0, 0, 0), (57, .getfield 7, 5, 0), (60, .aload_n 0, 0, 0), (61, .getfield 7, 5, 0)],
  [(64, .iconst (0), 0, 0), (65, .iaload, 0, 0), (66, .invokestatic 65, 126, 0), (69, .iload_n 3, 0, 0), (70, .iadd, 0, 0), (71, .aload_n 0, 0, 0)],
  [(72, .iload_n 1, 0, 0), (73, .iload_n 3, 0, 0), (74, .invokevirtual 47, 99, 0), (77, .iastore, 0, 0), (78, .iinc 3 (1), 1, 0)],
  [(81, .goto (-31), 50, 0), (84, .iconst (0), 0, 0), (85, .istore_n 3, 0, 0), (86, .iload_n 3, 0, 0), (87, .bipush (12), 12, 0)],
  [(89, .if_icmp .ge (56), 145, 0), (92, .aload_n 0, 0, 0), (93, .iload_n 1, 0, 0), (94, .iconst (2), 2, 0), (95, .invokevirtual 47, 99, 0)],
  [(98, .iload_n 3, 0, 0), (99, .ishr, 0, 0), (100, .iconst (1), 1, 0), (101, .iand, 0, 0), (102, .iconst (1), 1, 0), (103, .if_icmp .ne (36), 139, 0)],
  [(106, .aload_n 0, 0, 0), (107, .getfield 7, 5, 0), (110, .bipush (12), 12, 0)],
  [(112, .iload_n 3, 0, 0), (113, .iadd, 0, 0), (114, .aload_n 0, 0, 0), (115, .iload_n 1, 0, 0), (116, .bipush (27), 27, 0), (118, .iload_n 3, 0, 0), (119, .iadd, 0, 0)],
  [(120, .invokevirtual 47, 99, 0), (123, .iastore, 0, 0), (124, .aload_n 0, 0, 0), (125, .getfield 7, 5, 0)],
  [(128, .bipush (24), 24, 0), (130, .iload_n 3, 0, 0), (131, .iadd, 0, 0), (132, .aload_n 0, 0, 0), (133, .getfield 7, 5, 0)],
  [(136, .iconst (0), 0, 0), (137, .iaload, 0, 0), (138, .iastore, 0, 0), (139, .iinc 3 (1), 1, 0), (142, .goto (-56), 86, 0)],
  [(145, .aload_n 0, 0, 0), (146, .iload_n 1, 0, 0), (147, .invokevirtual 103, 103, 0), (150, .aload_n 0, 0, 0), (151, .getfield 7, 5, 0)],
  [(154, .iconst (0), 0, 0), (155, .iaload, 0, 0), (156, .ireturn, 0, 0)]]
/-- SnapshotRingsModel.whyRefused(II)I -/
def sn_c116 : List (List (Nat × sn_E)) := [[(0, .aload_n 0, 0, 0), (1, .iload_n 1, 0, 0), (2, .invokevirtual 87, 117, 0), (5, .ifCond .eq (5), 10, 0)],
  [(8, .iconst (1), 1, 0), (9, .ireturn, 0, 0), (10, .iload_n 2, 0, 0), (11, .iconst (1), 1, 0), (12, .if_icmp .lt (13), 25, 0), (15, .aload_n 0, 0, 0)],
  [(16, .iload_n 1, 0, 0), (17, .invokevirtual 90, 118, 0), (20, .ifCond .eq (5), 25, 0), (23, .iconst (2), 2, 0)],
  [(24, .ireturn, 0, 0), (25, .iload_n 2, 0, 0), (26, .iconst (2), 2, 0), (27, .if_icmp .ne (15), 42, 0), (30, .aload_n 0, 0, 0), (31, .iload_n 1, 0, 0)],
  [(32, .invokevirtual 93, 129, 0), (35, .ifCond .eq (7), 42, 0), (38, .iconst (3), 3, 0), (39, .goto (4), 43, 0)],
  [(42, .iconst (0), 0, 0), (43, .ireturn, 0, 0)]]
/-- SnapshotRingsModel.isOverwritten(I)Z -/
def sn_c117 : List (List (Nat × sn_E)) := [[(0, .iconst (0), 0, 0), (1, .istore_n 2, 0, 0), (2, .iconst (0), 0, 0), (3, .istore_n 3, 0, 0), (4, .iload_n 3, 0, 0), (5, .bipush (12), 12, 0), (7, .if_icmp .ge (51), 58, 0)],
  [(10, .iload_n 2, 0, 0), (11, .ifCond .ne (35), 46, 0), (14, .aload_n 0, 0, 0), (15, .iload_n 1, 0, 0)],
  [(16, .iconst (2), 2, 0), (17, .invokevirtual 47, 99, 0), (20, .iload_n 3, 0, 0), (21, .ishr, 0, 0), (22, .iconst (1), 1, 0), (23, .iand, 0, 0)],
  [(24, .iconst (1), 1, 0), (25, .if_icmp .ne (25), 50, 0), (28, .aload_n 0, 0, 0), (29, .getfield 7, 5, 0)],
  [(32, .bipush (24), 24, 0), (34, .iload_n 3, 0, 0), (35, .iadd, 0, 0), (36, .iaload, 0, 0), (37, .aload_n 0, 0, 0), (38, .iload_n 1, 0, 0), (39, .iconst (0), 0, 0)],
  [(40, .invokevirtual 47, 99, 0), (43, .if_icmp .le (7), 50, 0), (46, .iconst (1), 1, 0), (47, .goto (4), 51, 0)],
  [(50, .iconst (0), 0, 0), (51, .istore_n 2, 0, 0), (52, .iinc 3 (1), 1, 0), (55, .goto (-51), 4, 0)],
  [(58, .iload_n 2, 0, 0), (59, .ireturn, 0, 0)]]
/-- SnapshotRingsModel.hasRing(I)Z -/
def sn_c118 : List (List (Nat × sn_E)) := [[(0, .aload_n 0, 0, 0), (1, .iload_n 1, 0, 0), (2, .putfield 58, 5, 6), (5, .aload_n 0, 0, 0), (6, .bipush (7), 7, 0)],
  [(8, .invokevirtual 77, 119, 0), (11, .aload_n 0, 0, 0), (12, .bipush (16), 16, 0), (14, .invokevirtual 81, 127, 0)],
  [(17, .aload_n 0, 0, 0), (18, .bipush (16), 16, 0), (20, .invokevirtual 84, 128, 0), (23, .sipush (-20006), 20006, 1)],
  [(26, .if_icmp .eq (7), 33, 0), (29, .iconst (1), 1, 0), (30, .goto (4), 34, 0)],
  [(33, .iconst (0), 0, 0), (34, .ireturn, 0, 0)]]
/-- SnapshotRingsModel.findBehind(I)V -/
def sn_c119 : List (List (Nat × sn_E)) := [[(0, .iconst (0), 0, 0), (1, .istore_n 2, 0, 0), (2, .iload_n 2, 0, 0), (3, .bipush (17), 17, 0), (5, .if_icmp .ge (74), 79, 0)],
  [(8, .aload_n 0, 0, 0), (9, .getfield 22, 5, 7), (12, .iload_n 2, 0, 0), (13, .iconst (0), 0, 0), (14, .iastore, 0, 0), (15, .iconst (0), 0, 0)],
  [(16, .istore_n 3, 0, 0), (17, .iload_n 3, 0, 0), (18, .bipush (17), 17, 0), (20, .if_icmp .ge (53), 73, 0), (23, .iload_n 2, 0, 0)],
  [(24, .iload_n 3, 0, 0), (25, .if_icmp .eq (42), 67, 0), (28, .aload_n 0, 0, 0), (29, .iload_n 2, 0, 0), (30, .invokevirtual 71, 120, 0)],
  [(33, .ifCond .eq (34), 67, 0), (36, .aload_n 0, 0, 0), (37, .iload_n 3, 0, 0), (38, .invokevirtual 71, 120, 0)],
  [(41, .ifCond .eq (26), 67, 0), (44, .aload_n 0, 0, 0), (45, .iload_n 2, 0, 0), (46, .iload_n 3, 0, 0), (47, .invokevirtual 74, 122, 0)],
  [(50, .iload_n 1, 0, 0), (51, .iand, 0, 0), (52, .ifCond .eq (15), 67, 0), (55, .aload_n 0, 0, 0)],
  [(56, .getfield 22, 5, 7), (59, .iload_n 2, 0, 0), (60, .dup2, 0, 0), (61, .iaload, 0, 0), (62, .iconst (1), 1, 0), (63, .iload_n 3, 0, 0)],
  [(64, .ishl, 0, 0), (65, .ior, 0, 0), (66, .iastore, 0, 0), (67, .iinc 3 (1), 1, 0), (70, .goto (-53), 17, 0)],
  [(73, .iinc 2 (1), 1, 0), (76, .goto (-74), 2, 0), (79, .return_, 0, 0)]]
/-- SnapshotRingsModel.isNode(I)Z -/
def sn_c120 : List (List (Nat × sn_E)) := [[(0, .iload_n 1, 0, 0), (1, .bipush (16), 16, 0), (3, .if_icmp .ne (21), 24, 0), (6, .aload_n 0, 0, 0), (7, .getfield 58, 5, 6)],
  [(10, .sipush (-20006), 20006, 1), (13, .if_icmp .eq (7), 20, 0)],
  [(16, .iconst (1), 1, 0), (17, .goto (20), 37, 0), (20, .iconst (0), 0, 0), (21, .goto (16), 37, 0)],
  [(24, .iload_n 1, 0, 0), (25, .aload_n 0, 0, 0), (26, .invokevirtual 51, 121, 0), (29, .if_icmp .ge (7), 36, 0)],
  [(32, .iconst (1), 1, 0), (33, .goto (4), 37, 0), (36, .iconst (0), 0, 0), (37, .ireturn, 0, 0)]]
/-- SnapshotRingsModel.keptMany()I -/
def sn_c121 : List (List (Nat × sn_E)) := [[(0, .aload_n 0, 0, 0), (1, .getfield 7, 5, 0), (4, .iconst (0), 0, 0), (5, .iaload, 0, 0), (6, .bipush (16), 16, 0)],
  [(8, .if_icmp .ge (12), 20, 0), (11, .aload_n 0, 0, 0), (12, .getfield 7, 5, 0), (15, .iconst (0), 0, 0)],
  [(16, .iaload, 0, 0), (17, .goto (5), 22, 0), (20, .bipush (16), 16, 0), (22, .ireturn, 0, 0)]]
/-- SnapshotRingsModel.dependencyOf(II)I -/
def sn_c122 : List (List (Nat × sn_E)) := [[(0, .aload_n 0, 0, 0), (1, .iload_n 1, 0, 0), (2, .invokevirtual 68, 123, 0), (5, .istore_n 3, 0, 0), (6, .aload_n 0, 0, 0), (7, .iload_n 2, 0, 0)],
  [(8, .invokevirtual 68, 123, 0), (11, .istore 4, 4, 0), (13, .aload_n 0, 0, 0), (14, .getfield 7, 5, 0)],
  [(17, .iload_n 3, 0, 0), (18, .iconst (2), 2, 0), (19, .iadd, 0, 0), (20, .iaload, 0, 0), (21, .aload_n 0, 0, 0), (22, .getfield 7, 5, 0)],
  [(25, .iload 4, 4, 0), (27, .iconst (2), 2, 0), (28, .iadd, 0, 0), (29, .iaload, 0, 0), (30, .iand, 0, 0), (31, .ifCond .eq (20), 51, 0)],
  [(34, .aload_n 0, 0, 0), (35, .iload_n 1, 0, 0), (36, .invokevirtual 61, 124, 0), (39, .aload_n 0, 0, 0)],
  [(40, .iload_n 2, 0, 0), (41, .invokevirtual 61, 124, 0), (44, .if_icmp .ge (7), 51, 0), (47, .iconst (1), 1, 0)],
  [(48, .goto (4), 52, 0), (51, .iconst (0), 0, 0), (52, .istore 5, 5, 0), (54, .iconst (0), 0, 0), (55, .istore 6, 6, 0)],
  [(57, .iconst (0), 0, 0), (58, .istore 7, 7, 0), (60, .iconst (0), 0, 0), (61, .istore 8, 8, 0), (63, .iload 8, 8, 0)],
  [(65, .bipush (12), 12, 0), (67, .if_icmp .ge (142), 209, 0), (70, .iload 6, 6, 0)],
  [(72, .ifCond .ne (58), 130, 0), (75, .aload_n 0, 0, 0), (76, .getfield 7, 5, 0), (79, .iload 4, 4, 0)],
  [(81, .iconst (1), 1, 0), (82, .iadd, 0, 0), (83, .iaload, 0, 0), (84, .iload 8, 8, 0), (86, .ishr, 0, 0), (87, .iconst (1), 1, 0)],
  [(88, .iand, 0, 0), (89, .iconst (1), 1, 0), (90, .if_icmp .ne (44), 134, 0), (93, .aload_n 0, 0, 0), (94, .getfield 7, 5, 0)],
  [(97, .iload_n 3, 0, 0), (98, .iconst (2), 2, 0), (99, .iadd, 0, 0), (100, .iaload, 0, 0), (101, .iload 8, 8, 0), (103, .ishr, 0, 0)],
  [(104, .iconst (1), 1, 0), (105, .iand, 0, 0), (106, .iconst (1), 1, 0), (107, .if_icmp .ne (27), 134, 0), (110, .aload_n 0, 0, 0), (111, .getfield 7, 5, 0)],
  [(114, .iload 4, 4, 0), (116, .iconst (3), 3, 0), (117, .iadd, 0, 0), (118, .iload 8, 8, 0)],
  [(120, .iadd, 0, 0), (121, .iaload, 0, 0), (122, .aload_n 0, 0, 0), (123, .iload_n 1, 0, 0), (124, .invokevirtual 61, 124, 0), (127, .if_icmp .ne (7), 134, 0)],
  [(130, .iconst (1), 1, 0), (131, .goto (4), 135, 0), (134, .iconst (0), 0, 0), (135, .istore 6, 6, 0)],
  [(137, .iload 7, 7, 0), (139, .ifCond .ne (57), 196, 0), (142, .aload_n 0, 0, 0), (143, .getfield 7, 5, 0)],
  [(146, .iload_n 3, 0, 0), (147, .iconst (1), 1, 0), (148, .iadd, 0, 0), (149, .iaload, 0, 0), (150, .iload 8, 8, 0)],
  [(152, .ishr, 0, 0), (153, .iconst (1), 1, 0), (154, .iand, 0, 0), (155, .iconst (1), 1, 0), (156, .if_icmp .ne (44), 200, 0), (159, .aload_n 0, 0, 0)],
  [(160, .getfield 7, 5, 0), (163, .iload 4, 4, 0), (165, .iconst (2), 2, 0), (166, .iadd, 0, 0), (167, .iaload, 0, 0)],
  [(168, .iload 8, 8, 0), (170, .ishr, 0, 0), (171, .iconst (1), 1, 0), (172, .iand, 0, 0), (173, .iconst (1), 1, 0), (174, .if_icmp .ne (26), 200, 0)],
  [(177, .aload_n 0, 0, 0), (178, .getfield 7, 5, 0), (181, .iload_n 3, 0, 0), (182, .iconst (3), 3, 0), (183, .iadd, 0, 0)],
  [(184, .iload 8, 8, 0), (186, .iadd, 0, 0), (187, .iaload, 0, 0), (188, .aload_n 0, 0, 0), (189, .iload_n 2, 0, 0), (190, .invokevirtual 61, 124, 0)],
  [(193, .if_icmp .ge (7), 200, 0), (196, .iconst (1), 1, 0), (197, .goto (4), 201, 0)],
  [(200, .iconst (0), 0, 0), (201, .istore 7, 7, 0), (203, .iinc 8 (1), 1, 0), (206, .goto (-143), 63, 0)],
  [(209, .iload 5, 5, 0), (211, .iload 6, 6, 0), (213, .ifCond .eq (7), 220, 0)],
  [(216, .iconst (2), 2, 0), (217, .goto (4), 221, 0), (220, .iconst (0), 0, 0), (221, .iadd, 0, 0), (222, .iload 7, 7, 0)],
  [(224, .ifCond .eq (7), 231, 0), (227, .iconst (4), 4, 0), (228, .goto (4), 232, 0), (231, .iconst (0), 0, 0)],
  [(232, .iadd, 0, 0), (233, .ireturn, 0, 0)]]
/-- SnapshotRingsModel.placeOf(I)I -/
def sn_c123 : List (List (Nat × sn_E)) := [[(0, .iload_n 1, 0, 0), (1, .bipush (16), 16, 0), (3, .if_icmp .ne (16), 19, 0), (6, .bipush (36), 36, 0)],
  [(8, .bipush (40), 40, 0), (10, .aload_n 0, 0, 0), (11, .getfield 58, 5, 6), (14, .imul, 0, 0), (15, .iadd, 0, 0)],
  [(16, .goto (11), 27, 0), (19, .aload_n 0, 0, 0), (20, .iload_n 1, 0, 0), (21, .invokevirtual 61, 124, 0)],
  [(24, .invokestatic 65, 126, 0), (27, .ireturn, 0, 0)]]
/-- SnapshotRingsModel.numberOf(I)I -/
def sn_c124 : List (List (Nat × sn_E)) := [[(0, .iload_n 1, 0, 0), (1, .bipush (16), 16, 0), (3, .if_icmp .ne (14), 17, 0), (6, .aload_n 0, 0, 0), (7, .getfield 7, 5, 0)],
  [(10, .iconst (0), 0, 0), (11, .iaload, 0, 0), (12, .iconst (1), 1, 0), (13, .iadd, 0, 0), (14, .goto (9), 23, 0)],
  [(17, .aload_n 0, 0, 0), (18, .invokevirtual 55, 125, 0), (21, .iload_n 1, 0, 0), (22, .iadd, 0, 0), (23, .ireturn, 0, 0)]]
/-- SnapshotRingsModel.firstKept()I -/
def sn_c125 : List (List (Nat × sn_E)) := [[(0, .aload_n 0, 0, 0), (1, .getfield 7, 5, 0), (4, .iconst (0), 0, 0), (5, .iaload, 0, 0), (6, .aload_n 0, 0, 0), (7, .invokevirtual 51, 121, 0)],
  [(10, .isub, 0, 0), (11, .iconst (1), 1, 0), (12, .iadd, 0, 0), (13, .ireturn, 0, 0)]]
/-- SnapshotRingsModel.keptAt(I)I -/
def sn_c126 : List (List (Nat × sn_E)) := [[(0, .sipush (356), 356, 0), (3, .bipush (15), 15, 0), (5, .iload_n 0, 0, 0), (6, .bipush (16), 16, 0)],
  [(8, .irem, 0, 0), (9, .imul, 0, 0), (10, .iadd, 0, 0), (11, .ireturn, 0, 0)]]
/-- SnapshotRingsModel.findFar(I)V -/
def sn_c127 : List (List (Nat × sn_E)) := [[(0, .iconst (0), 0, 0), (1, .istore_n 2, 0, 0), (2, .iload_n 2, 0, 0), (3, .bipush (17), 17, 0), (5, .if_icmp .ge (27), 32, 0)],
  [(8, .aload_n 0, 0, 0), (9, .getfield 25, 5, 8), (12, .iload_n 2, 0, 0), (13, .iload_n 2, 0, 0), (14, .iload_n 1, 0, 0), (15, .if_icmp .ne (7), 22, 0)],
  [(18, .iconst (0), 0, 0), (19, .goto (6), 25, 0), (22, .sipush (-20006), 20006, 1)],
  [(25, .iastore, 0, 0), (26, .iinc 2 (1), 1, 0), (29, .goto (-27), 2, 0)],
  [(32, .iconst (1), 1, 0), (33, .istore_n 2, 0, 0), (34, .iload_n 2, 0, 0), (35, .bipush (17), 17, 0), (37, .if_icmp .ge (95), 132, 0)],
  [(40, .iconst (0), 0, 0), (41, .istore_n 3, 0, 0), (42, .iload_n 3, 0, 0), (43, .bipush (17), 17, 0), (45, .if_icmp .ge (81), 126, 0)],
  [(48, .iconst (0), 0, 0), (49, .istore 4, 4, 0), (51, .iload 4, 4, 0), (53, .bipush (17), 17, 0), (55, .if_icmp .ge (65), 120, 0)],
  [(58, .aload_n 0, 0, 0), (59, .getfield 25, 5, 8), (62, .iload_n 3, 0, 0), (63, .aload_n 0, 0, 0)],
  [(64, .getfield 25, 5, 8), (67, .iload_n 3, 0, 0), (68, .iaload, 0, 0), (69, .sipush (-20006), 20006, 1)],
  [(72, .if_icmp .ne (35), 107, 0), (75, .aload_n 0, 0, 0), (76, .getfield 22, 5, 7), (79, .iload_n 3, 0, 0)],
  [(80, .iaload, 0, 0), (81, .iload 4, 4, 0), (83, .ishr, 0, 0), (84, .iconst (1), 1, 0), (85, .iand, 0, 0), (86, .iconst (1), 1, 0), (87, .if_icmp .ne (20), 107, 0)],
  [(90, .aload_n 0, 0, 0), (91, .getfield 25, 5, 8), (94, .iload 4, 4, 0)],
  [(96, .iaload, 0, 0), (97, .iload_n 2, 0, 0), (98, .iconst (1), 1, 0), (99, .isub, 0, 0), (100, .if_icmp .ne (7), 107, 0), (103, .iload_n 2, 0, 0)],
  [(104, .goto (9), 113, 0), (107, .aload_n 0, 0, 0), (108, .getfield 25, 5, 8), (111, .iload_n 3, 0, 0)],
  [(112, .iaload, 0, 0), (113, .iastore, 0, 0), (114, .iinc 4 (1), 1, 0), (117, .goto (-66), 51, 0)],
  [(120, .iinc 3 (1), 1, 0), (123, .goto (-81), 42, 0), (126, .iinc 2 (1), 1, 0)],
  [(129, .goto (-95), 34, 0), (132, .return_, 0, 0)]]
/-- SnapshotRingsModel.nextNode(I)I -/
def sn_c128 : List (List (Nat × sn_E)) := [[(0, .sipush (-20006), 20006, 1), (3, .istore_n 2, 0, 0), (4, .iconst (0), 0, 0), (5, .istore_n 3, 0, 0), (6, .iload_n 3, 0, 0), (7, .bipush (17), 17, 0)],
  [(9, .if_icmp .ge (75), 84, 0), (12, .aload_n 0, 0, 0), (13, .getfield 22, 5, 7)],
  [(16, .iload_n 1, 0, 0), (17, .iaload, 0, 0), (18, .iload_n 3, 0, 0), (19, .ishr, 0, 0), (20, .iconst (1), 1, 0), (21, .iand, 0, 0), (22, .iconst (1), 1, 0), (23, .if_icmp .ne (19), 42, 0)],
  [(26, .aload_n 0, 0, 0), (27, .getfield 25, 5, 8), (30, .iload_n 3, 0, 0), (31, .iaload, 0, 0)],
  [(32, .sipush (-20006), 20006, 1), (35, .if_icmp .eq (7), 42, 0), (38, .iconst (1), 1, 0), (39, .goto (4), 43, 0)],
  [(42, .iconst (0), 0, 0), (43, .istore 4, 4, 0), (45, .iload 4, 4, 0), (47, .ifCond .eq (29), 76, 0)],
  [(50, .iload_n 2, 0, 0), (51, .sipush (-20006), 20006, 1), (54, .if_icmp .eq (18), 72, 0)],
  [(57, .aload_n 0, 0, 0), (58, .getfield 25, 5, 8), (61, .iload_n 3, 0, 0), (62, .iaload, 0, 0), (63, .aload_n 0, 0, 0)],
  [(64, .getfield 25, 5, 8), (67, .iload_n 2, 0, 0), (68, .iaload, 0, 0), (69, .if_icmp .ge (7), 76, 0)],
  [(72, .iload_n 3, 0, 0), (73, .goto (4), 77, 0), (76, .iload_n 2, 0, 0), (77, .istore_n 2, 0, 0), (78, .iinc 3 (1), 1, 0)],
  [(81, .goto (-75), 6, 0), (84, .iload_n 2, 0, 0), (85, .ireturn, 0, 0)]]
/-- SnapshotRingsModel.isPivot(I)Z -/
def sn_c129 : List (List (Nat × sn_E)) := [[(0, .aload_n 0, 0, 0), (1, .iload_n 1, 0, 0), (2, .putfield 58, 5, 6), (5, .aload_n 0, 0, 0), (6, .iconst (4), 4, 0), (7, .invokevirtual 77, 119, 0)],
  [(10, .iconst (0), 0, 0), (11, .istore_n 2, 0, 0), (12, .iconst (0), 0, 0), (13, .istore_n 3, 0, 0), (14, .iload_n 3, 0, 0), (15, .bipush (17), 17, 0)],
  [(17, .if_icmp .ge (102), 119, 0), (20, .iconst (0), 0, 0), (21, .istore 4, 4, 0), (23, .iload 4, 4, 0)],
  [(25, .bipush (17), 17, 0), (27, .if_icmp .ge (86), 113, 0), (30, .iconst (0), 0, 0), (31, .istore 5, 5, 0)],
  [(33, .iload 5, 5, 0), (35, .bipush (17), 17, 0), (37, .if_icmp .ge (70), 107, 0)],
  [(40, .iload_n 2, 0, 0), (41, .ifCond .ne (54), 95, 0), (44, .iload_n 3, 0, 0), (45, .bipush (16), 16, 0), (47, .if_icmp .eq (17), 64, 0)],
  [(50, .iload 4, 4, 0), (52, .bipush (16), 16, 0), (54, .if_icmp .eq (10), 64, 0)],
  [(57, .iload 5, 5, 0), (59, .bipush (16), 16, 0), (61, .if_icmp .ne (38), 99, 0)],
  [(64, .aload_n 0, 0, 0), (65, .getfield 22, 5, 7), (68, .iload_n 3, 0, 0), (69, .iaload, 0, 0), (70, .iload 4, 4, 0)],
  [(72, .ishr, 0, 0), (73, .iconst (1), 1, 0), (74, .iand, 0, 0), (75, .iconst (1), 1, 0), (76, .if_icmp .ne (23), 99, 0), (79, .aload_n 0, 0, 0)],
  [(80, .getfield 22, 5, 7), (83, .iload 4, 4, 0), (85, .iaload, 0, 0), (86, .iload 5, 5, 0)],
  [(88, .ishr, 0, 0), (89, .iconst (1), 1, 0), (90, .iand, 0, 0), (91, .iconst (1), 1, 0), (92, .if_icmp .ne (7), 99, 0), (95, .iconst (1), 1, 0)],
  [(96, .goto (4), 100, 0), (99, .iconst (0), 0, 0), (100, .istore_n 2, 0, 0), (101, .iinc 5 (1), 1, 0)],
  [(104, .goto (-71), 33, 0), (107, .iinc 4 (1), 1, 0), (110, .goto (-87), 23, 0)],
  [(113, .iinc 3 (1), 1, 0), (116, .goto (-102), 14, 0), (119, .iload_n 2, 0, 0)],
  [(120, .ireturn, 0, 0)]]
/-- SnapshotRingsModel.abort(I)I -/
def sn_c130 : List (List (Nat × sn_E)) := [[(0, .aload_n 0, 0, 0), (1, .iload_n 1, 0, 0), (2, .invokevirtual 137, 114, 0), (5, .istore_n 2, 0, 0), (6, .iload_n 2, 0, 0), (7, .ifCond .ge (5), 12, 0)],
  [(10, .iload_n 2, 0, 0), (11, .ireturn, 0, 0), (12, .aload_n 0, 0, 0), (13, .invokevirtual 109, 100, 0)],
  [(16, .aload_n 0, 0, 0), (17, .iload_n 1, 0, 0), (18, .invokevirtual 143, 131, 0), (21, .ireturn, 0, 0)]]
/-- SnapshotRingsModel.aborts(I)I -/
def sn_c131 : List (List (Nat × sn_E)) := [[(0, .aload_n 0, 0, 0), (1, .iload_n 1, 0, 0), (2, .iconst (2), 2, 0), (3, .invokevirtual 47, 99, 0), (6, .invokestatic 124, 112, 0)],
  [(9, .istore_n 2, 0, 0), (10, .aload_n 0, 0, 0), (11, .getfield 7, 5, 0), (14, .iconst (5), 5, 0), (15, .dup2, 0, 0)],
  [(16, .iaload, 0, 0), (17, .iconst (1), 1, 0), (18, .iadd, 0, 0), (19, .iastore, 0, 0), (20, .aload_n 0, 0, 0), (21, .iload_n 1, 0, 0), (22, .invokevirtual 103, 103, 0)],
  [(25, .iload_n 2, 0, 0), (26, .ireturn, 0, 0)]]
/-- SnapshotRingsModel.setPolicy(I)I -/
def sn_c132 : List (List (Nat × sn_E)) := [[(0, .iload_n 1, 0, 0), (1, .iconst (0), 0, 0), (2, .iconst (2), 2, 0), (3, .invokestatic 39, 97, 0), (6, .ifCond .ne (7), 13, 0)],
  [(9, .sipush (-20002), 20002, 1), (12, .ireturn, 0, 0), (13, .aload_n 0, 0, 0), (14, .invokevirtual 109, 100, 0)],
  [(17, .aload_n 0, 0, 0), (18, .getfield 7, 5, 0), (21, .iconst (1), 1, 0), (22, .iaload, 0, 0), (23, .istore_n 2, 0, 0)],
  [(24, .aload_n 0, 0, 0), (25, .getfield 7, 5, 0), (28, .iconst (1), 1, 0), (29, .iload_n 1, 0, 0), (30, .iastore, 0, 0), (31, .iload_n 2, 0, 0)],
  [(32, .ireturn, 0, 0)]]
/-- SnapshotRingsModel.setConstraint(III)I -/
def sn_c133 : List (List (Nat × sn_E)) := [[(0, .iload_n 1, 0, 0), (1, .invokestatic 146, 134, 0), (4, .ifCond .ne (7), 11, 0), (7, .sipush (-20001), 20001, 1)],
  [(10, .ireturn, 0, 0), (11, .iload_n 2, 0, 0), (12, .iconst (0), 0, 0), (13, .sipush (4095), 4095, 0)],
  [(16, .invokestatic 39, 97, 0), (19, .ifCond .eq (16), 35, 0), (22, .iload_n 3, 0, 0), (23, .sipush (-9999), 9999, 1)],
  [(26, .sipush (9999), 9999, 0), (29, .invokestatic 39, 97, 0)],
  [(32, .ifCond .ne (7), 39, 0), (35, .sipush (-20002), 20002, 1), (38, .ireturn, 0, 0), (39, .aload_n 0, 0, 0)],
  [(40, .invokevirtual 109, 100, 0), (43, .aload_n 0, 0, 0), (44, .getfield 7, 5, 0), (47, .bipush (6), 6, 0)],
  [(49, .iconst (2), 2, 0), (50, .iload_n 1, 0, 0), (51, .imul, 0, 0), (52, .iadd, 0, 0), (53, .iconst (1), 1, 0), (54, .iadd, 0, 0), (55, .iaload, 0, 0)],
  [(56, .istore 4, 4, 0), (58, .aload_n 0, 0, 0), (59, .getfield 7, 5, 0), (62, .bipush (6), 6, 0)],
  [(64, .iconst (2), 2, 0), (65, .iload_n 1, 0, 0), (66, .imul, 0, 0), (67, .iadd, 0, 0), (68, .iload_n 2, 0, 0), (69, .iastore, 0, 0), (70, .aload_n 0, 0, 0), (71, .getfield 7, 5, 0)],
  [(74, .bipush (6), 6, 0), (76, .iconst (2), 2, 0), (77, .iload_n 1, 0, 0), (78, .imul, 0, 0), (79, .iadd, 0, 0)],
  [(80, .iconst (1), 1, 0), (81, .iadd, 0, 0), (82, .iload_n 3, 0, 0), (83, .iastore, 0, 0), (84, .iload 4, 4, 0), (86, .ireturn, 0, 0)]]
/-- SnapshotRingsModel.isConstraint(I)Z -/
def sn_c134 : List (List (Nat × sn_E)) := [[(0, .iload_n 0, 0, 0), (1, .iconst (0), 0, 0), (2, .iconst (2), 2, 0), (3, .invokestatic 39, 97, 0), (6, .ireturn, 0, 0)]]
/-- SnapshotRingsModel.count(I)I -/
def sn_c135 : List (List (Nat × sn_E)) := [[(0, .iload_n 1, 0, 0), (1, .iconst (0), 0, 0), (2, .bipush (7), 7, 0), (4, .invokestatic 39, 97, 0), (7, .ifCond .eq (11), 18, 0)],
  [(10, .aload_n 0, 0, 0), (11, .iload_n 1, 0, 0), (12, .invokevirtual 152, 136, 0), (15, .goto (6), 21, 0)],
  [(18, .sipush (-20002), 20002, 1), (21, .ireturn, 0, 0)]]
/-- SnapshotRingsModel.countOf(I)I -/
def sn_c136 : List (List (Nat × sn_E)) := [[(0, .iload_n 1, 0, 0), (1, .tableswitch (55) (0) (3) #[31, 38, 43, 50], 0, 0)],
  [],
  [],
  [],
  [(32, .aload_n 0, 0, 0), (33, .getfield 7, 5, 0), (36, .iconst (0), 0, 0), (37, .iaload, 0, 0), (38, .ireturn, 0, 0), (39, .aload_n 0, 0, 0)],
  [(40, .invokevirtual 149, 137, 0), (43, .ireturn, 0, 0), (44, .aload_n 0, 0, 0), (45, .getfield 7, 5, 0)],
  [(48, .iconst (1), 1, 0), (49, .iaload, 0, 0), (50, .ireturn, 0, 0), (51, .aload_n 0, 0, 0), (52, .invokevirtual 51, 121, 0), (55, .ireturn, 0, 0)],
  [(56, .aload_n 0, 0, 0), (57, .getfield 7, 5, 0), (60, .iconst (2), 2, 0), (61, .iload_n 1, 0, 0), (62, .iadd, 0, 0), (63, .iconst (4), 4, 0)],
  [(64, .isub, 0, 0), (65, .iaload, 0, 0), (66, .ireturn, 0, 0)]]
/-- SnapshotRingsModel.openMany()I -/
def sn_c137 : List (List (Nat × sn_E)) := [[(0, .iconst (0), 0, 0), (1, .istore_n 1, 0, 0), (2, .iconst (0), 0, 0), (3, .istore_n 2, 0, 0), (4, .iload_n 2, 0, 0), (5, .bipush (8), 8, 0), (7, .if_icmp .ge (25), 32, 0)],
  [(10, .iload_n 1, 0, 0), (11, .aload_n 0, 0, 0), (12, .iload_n 2, 0, 0), (13, .invokevirtual 100, 98, 0)],
  [(16, .ifCond .eq (7), 23, 0), (19, .iconst (1), 1, 0), (20, .goto (4), 24, 0), (23, .iconst (0), 0, 0)],
  [(24, .iadd, 0, 0), (25, .istore_n 1, 0, 0), (26, .iinc 2 (1), 1, 0), (29, .goto (-25), 4, 0)],
  [(32, .iload_n 1, 0, 0), (33, .ireturn, 0, 0)]]
/-- SnapshotRingsModel.value(I)I -/
def sn_c138 : List (List (Nat × sn_E)) := [[(0, .iload_n 1, 0, 0), (1, .invokestatic 115, 107, 0), (4, .ifCond .eq (15), 19, 0), (7, .aload_n 0, 0, 0)],
  [(8, .getfield 7, 5, 0), (11, .bipush (12), 12, 0), (13, .iload_n 1, 0, 0), (14, .iadd, 0, 0), (15, .iaload, 0, 0)],
  [(16, .goto (6), 22, 0), (19, .sipush (-20001), 20001, 1), (22, .ireturn, 0, 0)]]
/-- SnapshotRingsModel.version(I)I -/
def sn_c139 : List (List (Nat × sn_E)) := [[(0, .iload_n 1, 0, 0), (1, .invokestatic 115, 107, 0), (4, .ifCond .eq (15), 19, 0), (7, .aload_n 0, 0, 0)],
  [(8, .getfield 7, 5, 0), (11, .bipush (24), 24, 0), (13, .iload_n 1, 0, 0), (14, .iadd, 0, 0), (15, .iaload, 0, 0)],
  [(16, .goto (6), 22, 0), (19, .sipush (-20001), 20001, 1), (22, .ireturn, 0, 0)]]
/-- SnapshotRingsModel.of(II)I -/
def sn_c140 : List (List (Nat × sn_E)) := [[(0, .aload_n 0, 0, 0), (1, .iload_n 1, 0, 0), (2, .invokevirtual 100, 98, 0), (5, .ifCond .ne (7), 12, 0)],
  [(8, .sipush (-20001), 20001, 1), (11, .ireturn, 0, 0), (12, .iload_n 2, 0, 0), (13, .iconst (0), 0, 0), (14, .iconst (3), 3, 0), (15, .invokestatic 39, 97, 0)],
  [(18, .ifCond .eq (12), 30, 0), (21, .aload_n 0, 0, 0), (22, .iload_n 1, 0, 0), (23, .iload_n 2, 0, 0)],
  [(24, .invokevirtual 155, 141, 0), (27, .goto (6), 33, 0), (30, .sipush (-20002), 20002, 1)],
  [(33, .ireturn, 0, 0)]]
/-- SnapshotRingsModel.ofSlot(II)I -/
def sn_c141 : List (List (Nat × sn_E)) := [[(0, .iload_n 2, 0, 0), (1, .iconst (3), 3, 0), (2, .if_icmp .ne (17), 19, 0), (5, .aload_n 0, 0, 0), (6, .iload_n 1, 0, 0), (7, .aload_n 0, 0, 0)],
  [(8, .getfield 7, 5, 0), (11, .iconst (1), 1, 0), (12, .iaload, 0, 0), (13, .invokevirtual 134, 116, 0)],
  [(16, .goto (9), 25, 0), (19, .aload_n 0, 0, 0), (20, .iload_n 1, 0, 0), (21, .iload_n 2, 0, 0), (22, .invokevirtual 47, 99, 0)],
  [(25, .ireturn, 0, 0)]]
/-- SnapshotRingsModel.ofCommit(II)I -/
def sn_c142 : List (List (Nat × sn_E)) := [[(0, .aload_n 0, 0, 0), (1, .iload_n 1, 0, 0), (2, .invokevirtual 158, 143, 0), (5, .ifCond .ne (7), 12, 0)],
  [(8, .sipush (-20001), 20001, 1), (11, .ireturn, 0, 0), (12, .iload_n 2, 0, 0), (13, .iconst (0), 0, 0), (14, .iconst (2), 2, 0), (15, .invokestatic 39, 97, 0)],
  [(18, .ifCond .eq (17), 35, 0), (21, .aload_n 0, 0, 0), (22, .getfield 7, 5, 0)],
  [(25, .iload_n 1, 0, 0), (26, .invokestatic 65, 126, 0), (29, .iload_n 2, 0, 0), (30, .iadd, 0, 0), (31, .iaload, 0, 0)],
  [(32, .goto (6), 38, 0), (35, .sipush (-20002), 20002, 1), (38, .ireturn, 0, 0)]]
/-- SnapshotRingsModel.isKept(I)Z -/
def sn_c143 : List (List (Nat × sn_E)) := [[(0, .iload_n 1, 0, 0), (1, .aload_n 0, 0, 0), (2, .invokevirtual 55, 125, 0), (5, .aload_n 0, 0, 0), (6, .getfield 7, 5, 0)],
  [(9, .iconst (0), 0, 0), (10, .iaload, 0, 0), (11, .invokestatic 39, 97, 0), (14, .ireturn, 0, 0)]]
/-- SnapshotRingsModel.dependency(II)I -/
def sn_c144 : List (List (Nat × sn_E)) := [[(0, .aload_n 0, 0, 0), (1, .iload_n 1, 0, 0), (2, .invokevirtual 158, 143, 0), (5, .ifCond .eq (11), 16, 0)],
  [(8, .aload_n 0, 0, 0), (9, .iload_n 2, 0, 0), (10, .invokevirtual 158, 143, 0), (13, .ifCond .ne (7), 20, 0)],
  [(16, .sipush (-20001), 20001, 1), (19, .ireturn, 0, 0), (20, .iload_n 1, 0, 0), (21, .iload_n 2, 0, 0), (22, .if_icmp .ne (9), 31, 0)],
  [(25, .sipush (-20002), 20002, 1), (28, .goto (19), 47, 0), (31, .aload_n 0, 0, 0)],
  [(32, .iload_n 1, 0, 0), (33, .aload_n 0, 0, 0), (34, .invokevirtual 55, 125, 0), (37, .isub, 0, 0), (38, .iload_n 2, 0, 0), (39, .aload_n 0, 0, 0)],
  [(40, .invokevirtual 55, 125, 0), (43, .isub, 0, 0), (44, .invokevirtual 74, 122, 0), (47, .ireturn, 0, 0)]]
/-- SnapshotRingsModel.ringOf(II)I -/
def sn_c145 : List (List (Nat × sn_E)) := [[(0, .aload_n 0, 0, 0), (1, .iload_n 1, 0, 0), (2, .invokevirtual 100, 98, 0), (5, .ifCond .ne (7), 12, 0)],
  [(8, .sipush (-20001), 20001, 1), (11, .ireturn, 0, 0), (12, .iload_n 2, 0, 0), (13, .iconst (1), 1, 0), (14, .if_icmp .ge (7), 21, 0)],
  [(17, .sipush (-20002), 20002, 1), (20, .ireturn, 0, 0), (21, .aload_n 0, 0, 0), (22, .iload_n 1, 0, 0), (23, .invokevirtual 90, 118, 0)],
  [(26, .ifCond .ne (7), 33, 0), (29, .sipush (-20006), 20006, 1)],
  [(32, .ireturn, 0, 0), (33, .bipush (16), 16, 0), (35, .istore_n 3, 0, 0), (36, .iconst (0), 0, 0), (37, .istore 4, 4, 0), (39, .iload 4, 4, 0)],
  [(41, .iload_n 2, 0, 0), (42, .if_icmp .ge (25), 67, 0), (45, .aload_n 0, 0, 0), (46, .iload_n 3, 0, 0), (47, .invokevirtual 84, 128, 0)],
  [(50, .istore_n 3, 0, 0), (51, .iload_n 3, 0, 0), (52, .bipush (16), 16, 0), (54, .if_icmp .ne (7), 61, 0)],
  [(57, .sipush (-20006), 20006, 1), (60, .ireturn, 0, 0), (61, .iinc 4 (1), 1, 0)],
  [(64, .goto (-25), 39, 0), (67, .aload_n 0, 0, 0), (68, .iload_n 3, 0, 0), (69, .invokevirtual 61, 124, 0)],
  [(72, .ireturn, 0, 0)]]
/-- SnapshotRingsModel.inRings()I -/
def sn_c146 : List (List (Nat × sn_E)) := [[(0, .aload_n 0, 0, 0), (1, .invokevirtual 164, 147, 0), (4, .ireturn, 0, 0)]]
/-- SnapshotRingsModel.ringsMany()I -/
def sn_c147 : List (List (Nat × sn_E)) := [[(0, .aload_n 0, 0, 0), (1, .bipush (7), 7, 0), (3, .invokevirtual 161, 148, 0), (6, .iconst (0), 0, 0), (7, .istore_n 1, 0, 0)],
  [(8, .iconst (0), 0, 0), (9, .istore_n 2, 0, 0), (10, .iload_n 2, 0, 0), (11, .aload_n 0, 0, 0), (12, .invokevirtual 51, 121, 0), (15, .if_icmp .ge (33), 48, 0)],
  [(18, .aload_n 0, 0, 0), (19, .iload_n 2, 0, 0), (20, .invokevirtual 81, 127, 0), (23, .iload_n 1, 0, 0)],
  [(24, .aload_n 0, 0, 0), (25, .iload_n 2, 0, 0), (26, .invokevirtual 84, 128, 0), (29, .sipush (-20006), 20006, 1)],
  [(32, .if_icmp .ne (7), 39, 0), (35, .iconst (0), 0, 0), (36, .goto (4), 40, 0), (39, .iconst (1), 1, 0)],
  [(40, .iadd, 0, 0), (41, .istore_n 1, 0, 0), (42, .iinc 2 (1), 1, 0), (45, .goto (-35), 10, 0)],
  [(48, .iload_n 1, 0, 0), (49, .ireturn, 0, 0)]]
/-- SnapshotRingsModel.findCommits(I)V -/
def sn_c148 : List (List (Nat × sn_E)) := [[(0, .aload_n 0, 0, 0), (1, .sipush (-20006), 20006, 1), (4, .putfield 58, 5, 6), (7, .aload_n 0, 0, 0)],
  [(8, .iload_n 1, 0, 0), (9, .invokevirtual 77, 119, 0), (12, .return_, 0, 0)]]
/-- SnapshotRingsModel.orderAt(I)I -/
def sn_c149 : List (List (Nat × sn_E)) := [[(0, .iload_n 1, 0, 0), (1, .ifCond .ge (7), 8, 0), (4, .sipush (-20002), 20002, 1), (7, .ireturn, 0, 0)],
  [(8, .aload_n 0, 0, 0), (9, .invokevirtual 170, 150, 0), (12, .aload_n 0, 0, 0), (13, .iload_n 1, 0, 0), (14, .invokevirtual 173, 151, 0)],
  [(17, .ireturn, 0, 0)]]
/-- SnapshotRingsModel.findOrder()V -/
def sn_c150 : List (List (Nat × sn_E)) := [[(0, .aload_n 0, 0, 0), (1, .bipush (7), 7, 0), (3, .invokevirtual 161, 148, 0), (6, .aload_n 0, 0, 0), (7, .iconst (0), 0, 0)],
  [(8, .putfield 167, 5, 10), (11, .iconst (1), 1, 0), (12, .aload_n 0, 0, 0), (13, .invokevirtual 51, 121, 0)],
  [(16, .ishl, 0, 0), (17, .iconst (1), 1, 0), (18, .isub, 0, 0), (19, .istore_n 1, 0, 0), (20, .iconst (1), 1, 0), (21, .istore_n 2, 0, 0), (22, .iload_n 2, 0, 0), (23, .ifCond .eq (161), 184, 0)],
  [(26, .sipush (-20006), 20006, 1), (29, .istore_n 3, 0, 0), (30, .aload_n 0, 0, 0), (31, .invokevirtual 51, 121, 0)],
  [(34, .iconst (1), 1, 0), (35, .isub, 0, 0), (36, .istore 4, 4, 0), (38, .iload 4, 4, 0)],
  [(40, .ifCond .lt (92), 132, 0), (43, .iload_n 1, 0, 0), (44, .iload 4, 4, 0), (46, .ishr, 0, 0), (47, .iconst (1), 1, 0)],
  [(48, .iand, 0, 0), (49, .iconst (1), 1, 0), (50, .if_icmp .ne (7), 57, 0), (53, .iconst (1), 1, 0), (54, .goto (4), 58, 0)],
  [(57, .iconst (0), 0, 0), (58, .istore 5, 5, 0), (60, .iconst (0), 0, 0), (61, .istore 6, 6, 0), (63, .iload 6, 6, 0)],
  [(65, .aload_n 0, 0, 0), (66, .invokevirtual 51, 121, 0), (69, .if_icmp .ge (45), 114, 0)],
  [(72, .iload 5, 5, 0), (74, .ifCond .eq (31), 105, 0), (77, .iload_n 1, 0, 0), (78, .iload 6, 6, 0)],
  [(80, .ishr, 0, 0), (81, .iconst (1), 1, 0), (82, .iand, 0, 0), (83, .ifCond .eq (18), 101, 0), (86, .aload_n 0, 0, 0), (87, .getfield 22, 5, 7)],
  [(90, .iload 6, 6, 0), (92, .iaload, 0, 0), (93, .iload 4, 4, 0), (95, .ishr, 0, 0)],
  [(96, .iconst (1), 1, 0), (97, .iand, 0, 0), (98, .ifCond .ne (7), 105, 0), (101, .iconst (1), 1, 0), (102, .goto (4), 106, 0)],
  [(105, .iconst (0), 0, 0), (106, .istore 5, 5, 0), (108, .iinc 6 (1), 1, 0), (111, .goto (-48), 63, 0)],
  [(114, .iload 5, 5, 0), (116, .ifCond .eq (8), 124, 0), (119, .iload 4, 4, 0)],
  [(121, .goto (4), 125, 0), (124, .iload_n 3, 0, 0), (125, .istore_n 3, 0, 0), (126, .iinc 4 (-1), 1, 1)],
  [(129, .goto (-91), 38, 0), (132, .iload_n 3, 0, 0), (133, .sipush (-20006), 20006, 1)],
  [(136, .if_icmp .eq (7), 143, 0), (139, .iconst (1), 1, 0), (140, .goto (4), 144, 0), (143, .iconst (0), 0, 0)],
  [(144, .istore_n 2, 0, 0), (145, .iload_n 2, 0, 0), (146, .ifCond .eq (35), 181, 0), (149, .aload_n 0, 0, 0), (150, .getfield 28, 5, 9)],
  [(153, .aload_n 0, 0, 0), (154, .getfield 167, 5, 10), (157, .aload_n 0, 0, 0), (158, .iload_n 3, 0, 0), (159, .invokevirtual 61, 124, 0)],
  [(162, .iastore, 0, 0), (163, .aload_n 0, 0, 0), (164, .dup, 0, 0), (165, .getfield 167, 5, 10)],
  [(168, .iconst (1), 1, 0), (169, .iadd, 0, 0), (170, .putfield 167, 5, 10), (173, .iload_n 1, 0, 0), (174, .iconst (1), 1, 0), (175, .iload_n 3, 0, 0)],
  [(176, .ishl, 0, 0), (177, .iconst (-1), 1, 1), (178, .ixor, 0, 0), (179, .iand, 0, 0), (180, .istore_n 1, 0, 0), (181, .goto (-159), 22, 0)],
  [(184, .return_, 0, 0)]]
/-- SnapshotRingsModel.orderOf(I)I -/
def sn_c151 : List (List (Nat × sn_E)) := [[(0, .aload_n 0, 0, 0), (1, .getfield 167, 5, 10), (4, .aload_n 0, 0, 0), (5, .invokevirtual 51, 121, 0)],
  [(8, .if_icmp .ne (20), 28, 0), (11, .iload_n 1, 0, 0), (12, .aload_n 0, 0, 0), (13, .getfield 167, 5, 10)],
  [(16, .if_icmp .ge (12), 28, 0), (19, .aload_n 0, 0, 0), (20, .getfield 28, 5, 9), (23, .iload_n 1, 0, 0)],
  [(24, .iaload, 0, 0), (25, .goto (6), 31, 0), (28, .sipush (-20006), 20006, 1), (31, .ireturn, 0, 0)]]
/-- SnapshotRingsModel.skews()I -/
def sn_c152 : List (List (Nat × sn_E)) := [[(0, .aload_n 0, 0, 0), (1, .iconst (4), 4, 0), (2, .invokevirtual 161, 148, 0), (5, .iconst (0), 0, 0), (6, .istore_n 1, 0, 0), (7, .iconst (0), 0, 0)],
  [(8, .istore_n 2, 0, 0), (9, .iload_n 2, 0, 0), (10, .aload_n 0, 0, 0), (11, .invokevirtual 51, 121, 0), (14, .if_icmp .ge (63), 77, 0)],
  [(17, .iload_n 2, 0, 0), (18, .iconst (1), 1, 0), (19, .iadd, 0, 0), (20, .istore_n 3, 0, 0), (21, .iload_n 3, 0, 0), (22, .aload_n 0, 0, 0), (23, .invokevirtual 51, 121, 0)],
  [(26, .if_icmp .ge (45), 71, 0), (29, .iload_n 1, 0, 0), (30, .aload_n 0, 0, 0), (31, .getfield 22, 5, 7)],
  [(34, .iload_n 2, 0, 0), (35, .iaload, 0, 0), (36, .iload_n 3, 0, 0), (37, .ishr, 0, 0), (38, .iconst (1), 1, 0), (39, .iand, 0, 0)],
  [(40, .iconst (1), 1, 0), (41, .if_icmp .ne (21), 62, 0), (44, .aload_n 0, 0, 0), (45, .getfield 22, 5, 7)],
  [(48, .iload_n 3, 0, 0), (49, .iaload, 0, 0), (50, .iload_n 2, 0, 0), (51, .ishr, 0, 0), (52, .iconst (1), 1, 0), (53, .iand, 0, 0), (54, .iconst (1), 1, 0), (55, .if_icmp .ne (7), 62, 0)],
  [(58, .iconst (1), 1, 0), (59, .goto (4), 63, 0), (62, .iconst (0), 0, 0), (63, .iadd, 0, 0)],
  [(64, .istore_n 1, 0, 0), (65, .iinc 3 (1), 1, 0), (68, .goto (-47), 21, 0), (71, .iinc 2 (1), 1, 0)],
  [(74, .goto (-65), 9, 0), (77, .iload_n 1, 0, 0), (78, .ireturn, 0, 0)]]
/-- SnapshotRingsModel.holds(I)I -/
def sn_c153 : List (List (Nat × sn_E)) := [[(0, .iload_n 1, 0, 0), (1, .invokestatic 146, 134, 0), (4, .ifCond .eq (11), 15, 0), (7, .aload_n 0, 0, 0)],
  [(8, .iload_n 1, 0, 0), (9, .invokevirtual 176, 154, 0), (12, .goto (6), 18, 0), (15, .sipush (-20001), 20001, 1)],
  [(18, .ireturn, 0, 0)]]
/-- SnapshotRingsModel.isHeld(I)I -/
def sn_c154 : List (List (Nat × sn_E)) := [[(0, .iconst (0), 0, 0), (1, .istore_n 2, 0, 0), (2, .iconst (0), 0, 0), (3, .istore_n 3, 0, 0), (4, .iload_n 3, 0, 0), (5, .bipush (12), 12, 0), (7, .if_icmp .ge (44), 51, 0)],
  [(10, .iload_n 2, 0, 0), (11, .aload_n 0, 0, 0), (12, .getfield 7, 5, 0), (15, .bipush (6), 6, 0)],
  [(17, .iconst (2), 2, 0), (18, .iload_n 1, 0, 0), (19, .imul, 0, 0), (20, .iadd, 0, 0), (21, .iaload, 0, 0), (22, .iload_n 3, 0, 0), (23, .ishr, 0, 0)],
  [(24, .iconst (1), 1, 0), (25, .iand, 0, 0), (26, .iconst (1), 1, 0), (27, .if_icmp .ne (15), 42, 0), (30, .aload_n 0, 0, 0), (31, .getfield 7, 5, 0)],
  [(34, .bipush (12), 12, 0), (36, .iload_n 3, 0, 0), (37, .iadd, 0, 0), (38, .iaload, 0, 0), (39, .goto (4), 43, 0)],
  [(42, .iconst (0), 0, 0), (43, .iadd, 0, 0), (44, .istore_n 2, 0, 0), (45, .iinc 3 (1), 1, 0)],
  [(48, .goto (-44), 4, 0), (51, .iload_n 2, 0, 0), (52, .aload_n 0, 0, 0), (53, .getfield 7, 5, 0)],
  [(56, .bipush (6), 6, 0), (58, .iconst (2), 2, 0), (59, .iload_n 1, 0, 0), (60, .imul, 0, 0), (61, .iadd, 0, 0), (62, .iconst (1), 1, 0), (63, .iadd, 0, 0)],
  [(64, .iaload, 0, 0), (65, .if_icmp .lt (7), 72, 0), (68, .iconst (1), 1, 0), (69, .goto (4), 73, 0)],
  [(72, .iconst (0), 0, 0), (73, .ireturn, 0, 0)]]
/-- SnapshotRingsModel.holdsFor(II)I -/
def sn_c155 : List (List (Nat × sn_E)) := [[(0, .aload_n 0, 0, 0), (1, .iload_n 1, 0, 0), (2, .invokevirtual 100, 98, 0), (5, .ifCond .eq (19), 24, 0)],
  [(8, .iload_n 2, 0, 0), (9, .invokestatic 146, 134, 0), (12, .ifCond .eq (12), 24, 0), (15, .aload_n 0, 0, 0)],
  [(16, .iload_n 1, 0, 0), (17, .iload_n 2, 0, 0), (18, .invokevirtual 179, 156, 0), (21, .goto (6), 27, 0)],
  [(24, .sipush (-20001), 20001, 1), (27, .ireturn, 0, 0)]]
/-- SnapshotRingsModel.isHeldFor(II)I -/
def sn_c156 : List (List (Nat × sn_E)) := [[(0, .iconst (0), 0, 0), (1, .istore_n 3, 0, 0), (2, .iconst (0), 0, 0), (3, .istore 4, 4, 0), (5, .iload 4, 4, 0), (7, .bipush (12), 12, 0)],
  [(9, .if_icmp .ge (78), 87, 0), (12, .aload_n 0, 0, 0), (13, .iload_n 1, 0, 0), (14, .iconst (2), 2, 0), (15, .invokevirtual 47, 99, 0)],
  [(18, .iload 4, 4, 0), (20, .ishr, 0, 0), (21, .iconst (1), 1, 0), (22, .iand, 0, 0), (23, .iconst (1), 1, 0)],
  [(24, .if_icmp .ne (16), 40, 0), (27, .aload_n 0, 0, 0), (28, .iload_n 1, 0, 0), (29, .bipush (27), 27, 0), (31, .iload 4, 4, 0)],
  [(33, .iadd, 0, 0), (34, .invokevirtual 47, 99, 0), (37, .goto (13), 50, 0)],
  [(40, .aload_n 0, 0, 0), (41, .iload_n 1, 0, 0), (42, .bipush (15), 15, 0), (44, .iload 4, 4, 0), (46, .iadd, 0, 0), (47, .invokevirtual 47, 99, 0)],
  [(50, .istore 5, 5, 0), (52, .iload_n 3, 0, 0), (53, .aload_n 0, 0, 0), (54, .getfield 7, 5, 0)],
  [(57, .bipush (6), 6, 0), (59, .iconst (2), 2, 0), (60, .iload_n 2, 0, 0), (61, .imul, 0, 0), (62, .iadd, 0, 0), (63, .iaload, 0, 0)],
  [(64, .iload 4, 4, 0), (66, .ishr, 0, 0), (67, .iconst (1), 1, 0), (68, .iand, 0, 0), (69, .iconst (1), 1, 0), (70, .if_icmp .ne (8), 78, 0)],
  [(73, .iload 5, 5, 0), (75, .goto (4), 79, 0), (78, .iconst (0), 0, 0), (79, .iadd, 0, 0)],
  [(80, .istore_n 3, 0, 0), (81, .iinc 4 (1), 1, 0), (84, .goto (-79), 5, 0), (87, .iload_n 3, 0, 0)],
  [(88, .aload_n 0, 0, 0), (89, .getfield 7, 5, 0), (92, .bipush (6), 6, 0), (94, .iconst (2), 2, 0), (95, .iload_n 2, 0, 0)],
  [(96, .imul, 0, 0), (97, .iadd, 0, 0), (98, .iconst (1), 1, 0), (99, .iadd, 0, 0), (100, .iaload, 0, 0), (101, .if_icmp .lt (7), 108, 0)],
  [(104, .iconst (1), 1, 0), (105, .goto (4), 109, 0), (108, .iconst (0), 0, 0), (109, .ireturn, 0, 0)]]
/-- SnapshotRingsModel.ifAllCommitted()I -/
def sn_c157 : List (List (Nat × sn_E)) := [[(0, .aload_n 0, 0, 0), (1, .getfield 7, 5, 0), (4, .iconst (0), 0, 0), (5, .aload_n 0, 0, 0), (6, .getfield 13, 5, 1)],
  [(9, .iconst (0), 0, 0), (10, .invokestatic 35, 101, 0), (13, .iconst (0), 0, 0), (14, .istore_n 1, 0, 0), (15, .iload_n 1, 0, 0)],
  [(16, .bipush (8), 8, 0), (18, .if_icmp .ge (23), 41, 0), (21, .aload_n 0, 0, 0), (22, .iload_n 1, 0, 0), (23, .invokevirtual 100, 98, 0)],
  [(26, .ifCond .eq (9), 35, 0), (29, .aload_n 0, 0, 0), (30, .iload_n 1, 0, 0), (31, .invokevirtual 140, 115, 0)],
  [(34, .pop, 0, 0), (35, .iinc 1 (1), 1, 0), (38, .goto (-23), 15, 0)],
  [(41, .iconst (0), 0, 0), (42, .istore_n 1, 0, 0), (43, .iconst (0), 0, 0), (44, .istore_n 2, 0, 0), (45, .iload_n 2, 0, 0), (46, .iconst (3), 3, 0), (47, .if_icmp .ge (17), 64, 0)],
  [(50, .iload_n 1, 0, 0), (51, .aload_n 0, 0, 0), (52, .iload_n 2, 0, 0), (53, .invokevirtual 176, 154, 0)],
  [(56, .iadd, 0, 0), (57, .istore_n 1, 0, 0), (58, .iinc 2 (1), 1, 0), (61, .goto (-16), 45, 0)],
  [(64, .aload_n 0, 0, 0), (65, .getfield 13, 5, 1), (68, .iconst (0), 0, 0), (69, .aload_n 0, 0, 0), (70, .getfield 7, 5, 0)],
  [(73, .iconst (0), 0, 0), (74, .invokestatic 35, 101, 0), (77, .iload_n 1, 0, 0), (78, .ireturn, 0, 0)]]
/-- SnapshotRingsModel.refusedBy(I)I -/
def sn_c158 : List (List (Nat × sn_E)) := [[(0, .aload_n 0, 0, 0), (1, .iload_n 1, 0, 0), (2, .invokevirtual 100, 98, 0), (5, .ifCond .ne (7), 12, 0)],
  [(8, .sipush (-20001), 20001, 1), (11, .ireturn, 0, 0), (12, .iconst (0), 0, 0), (13, .istore_n 2, 0, 0), (14, .iload_n 2, 0, 0), (15, .iconst (2), 2, 0)],
  [(16, .if_icmp .gt (20), 36, 0), (19, .aload_n 0, 0, 0), (20, .iload_n 1, 0, 0), (21, .iload_n 2, 0, 0), (22, .invokevirtual 134, 116, 0)],
  [(25, .ifCond .le (5), 30, 0), (28, .iload_n 2, 0, 0), (29, .ireturn, 0, 0), (30, .iinc 2 (1), 1, 0)],
  [(33, .goto (-19), 14, 0), (36, .sipush (-20006), 20006, 1), (39, .ireturn, 0, 0)]]
/-- SnapshotRingsModel.type(I)I -/
def sn_c159 : List (List (Nat × sn_E)) := [[(0, .iload_n 1, 0, 0), (1, .bipush (33), 33, 0), (3, .bipush (126), 126, 0), (5, .invokestatic 39, 97, 0)],
  [(8, .ifCond .ne (7), 15, 0), (11, .sipush (-20002), 20002, 1), (14, .ireturn, 0, 0), (15, .aload_n 0, 0, 0)],
  [(16, .getfield 182, 5, 5), (19, .bipush (80), 80, 0), (21, .if_icmp .ne (7), 28, 0)],
  [(24, .sipush (-20004), 20004, 1), (27, .ireturn, 0, 0), (28, .aload_n 0, 0, 0), (29, .getfield 19, 5, 4)],
  [(32, .aload_n 0, 0, 0), (33, .getfield 182, 5, 5), (36, .iload_n 1, 0, 0), (37, .iastore, 0, 0), (38, .aload_n 0, 0, 0), (39, .dup, 0, 0)],
  [(40, .getfield 182, 5, 5), (43, .iconst (1), 1, 0), (44, .iadd, 0, 0), (45, .putfield 182, 5, 5)],
  [(48, .aload_n 0, 0, 0), (49, .getfield 182, 5, 5), (52, .ireturn, 0, 0)]]
/-- SnapshotRingsModel.clearText()I -/
def sn_c160 : List (List (Nat × sn_E)) := [[(0, .aload_n 0, 0, 0), (1, .getfield 182, 5, 5), (4, .istore_n 1, 0, 0), (5, .aload_n 0, 0, 0), (6, .iconst (0), 0, 0), (7, .putfield 182, 5, 5)],
  [(10, .iload_n 1, 0, 0), (11, .ireturn, 0, 0)]]
/-- SnapshotRingsModel.syntaxError()I -/
def sn_c161 : List (List (Nat × sn_E)) := [[(0, .aload_n 0, 0, 0), (1, .invokevirtual 219, 162, 0), (4, .ireturn, 0, 0)]]
/-- SnapshotRingsModel.findError()I -/
def sn_c162 : List (List (Nat × sn_E)) := [[(0, .aload_n 0, 0, 0), (1, .iconst (0), 0, 0), (2, .putfield 185, 5, 11), (5, .aload_n 0, 0, 0), (6, .invokevirtual 216, 163, 0)],
  [(9, .ifCond .ne (8), 17, 0), (12, .aload_n 0, 0, 0), (13, .getfield 185, 5, 11)],
  [(16, .ireturn, 0, 0), (17, .aload_n 0, 0, 0), (18, .getfield 185, 5, 11), (21, .aload_n 0, 0, 0), (22, .getfield 182, 5, 5)],
  [(25, .if_icmp .ne (7), 32, 0), (28, .sipush (-20006), 20006, 1), (31, .ireturn, 0, 0)],
  [(32, .aload_n 0, 0, 0), (33, .bipush (59), 59, 0), (35, .invokevirtual 197, 167, 0), (38, .ifCond .ne (-33), 5, 0)],
  [(41, .aload_n 0, 0, 0), (42, .getfield 185, 5, 11), (45, .ireturn, 0, 0)]]
/-- SnapshotRingsModel.readsStep()Z -/
def sn_c163 : List (List (Nat × sn_E)) := [[(0, .aload_n 0, 0, 0), (1, .aload_n 0, 0, 0), (2, .aload_n 0, 0, 0), (3, .getfield 185, 5, 11), (6, .invokevirtual 188, 164, 0)],
  [(9, .putfield 203, 5, 12), (12, .aload_n 0, 0, 0), (13, .getfield 203, 5, 12)],
  [(16, .bipush (98), 98, 0), (18, .if_icmp .eq (41), 59, 0), (21, .aload_n 0, 0, 0), (22, .getfield 203, 5, 12)],
  [(25, .bipush (114), 114, 0), (27, .if_icmp .eq (32), 59, 0), (30, .aload_n 0, 0, 0), (31, .getfield 203, 5, 12)],
  [(34, .bipush (119), 119, 0), (36, .if_icmp .eq (23), 59, 0), (39, .aload_n 0, 0, 0)],
  [(40, .getfield 203, 5, 12), (43, .bipush (99), 99, 0), (45, .if_icmp .eq (14), 59, 0)],
  [(48, .aload_n 0, 0, 0), (49, .getfield 203, 5, 12), (52, .bipush (97), 97, 0), (54, .if_icmp .eq (5), 59, 0)],
  [(57, .iconst (0), 0, 0), (58, .ireturn, 0, 0), (59, .aload_n 0, 0, 0), (60, .dup, 0, 0), (61, .getfield 185, 5, 11)],
  [(64, .iconst (1), 1, 0), (65, .iadd, 0, 0), (66, .putfield 185, 5, 11), (69, .aload_n 0, 0, 0), (70, .invokevirtual 206, 165, 0)],
  [(73, .istore_n 1, 0, 0), (74, .aload_n 0, 0, 0), (75, .getfield 203, 5, 12), (78, .bipush (114), 114, 0)],
  [(80, .if_icmp .eq (12), 92, 0), (83, .aload_n 0, 0, 0), (84, .getfield 203, 5, 12), (87, .bipush (119), 119, 0)],
  [(89, .if_icmp .ne (20), 109, 0), (92, .iload_n 1, 0, 0), (93, .ifCond .eq (14), 107, 0)],
  [(96, .aload_n 0, 0, 0), (97, .invokevirtual 210, 166, 0), (100, .ifCond .eq (7), 107, 0), (103, .iconst (1), 1, 0)],
  [(104, .goto (4), 108, 0), (107, .iconst (0), 0, 0), (108, .istore_n 1, 0, 0), (109, .aload_n 0, 0, 0), (110, .getfield 203, 5, 12)],
  [(113, .bipush (119), 119, 0), (115, .if_icmp .ne (31), 146, 0), (118, .iload_n 1, 0, 0), (119, .ifCond .eq (23), 142, 0)],
  [(122, .aload_n 0, 0, 0), (123, .bipush (61), 61, 0), (125, .invokevirtual 197, 167, 0)],
  [(128, .ifCond .eq (14), 142, 0), (131, .aload_n 0, 0, 0), (132, .invokevirtual 213, 168, 0), (135, .ifCond .eq (7), 142, 0)],
  [(138, .iconst (1), 1, 0), (139, .goto (8), 147, 0), (142, .iconst (0), 0, 0), (143, .goto (4), 147, 0)],
  [(146, .iload_n 1, 0, 0), (147, .ireturn, 0, 0)]]
/-- SnapshotRingsModel.character(I)I -/
def sn_c164 : List (List (Nat × sn_E)) := [[(0, .iload_n 1, 0, 0), (1, .aload_n 0, 0, 0), (2, .getfield 182, 5, 5), (5, .if_icmp .ge (12), 17, 0)],
  [(8, .aload_n 0, 0, 0), (9, .getfield 19, 5, 4), (12, .iload_n 1, 0, 0), (13, .iaload, 0, 0), (14, .goto (4), 18, 0)],
  [(17, .iconst (-1), 1, 1), (18, .ireturn, 0, 0)]]
/-- SnapshotRingsModel.readsSlot()Z -/
def sn_c165 : List (List (Nat × sn_E)) := [[(0, .aload_n 0, 0, 0), (1, .aload_n 0, 0, 0), (2, .getfield 185, 5, 11), (5, .invokevirtual 188, 164, 0)],
  [(8, .bipush (48), 48, 0), (10, .bipush (55), 55, 0), (12, .invokestatic 39, 97, 0), (15, .istore_n 1, 0, 0)],
  [(16, .aload_n 0, 0, 0), (17, .aload_n 0, 0, 0), (18, .aload_n 0, 0, 0), (19, .getfield 185, 5, 11), (22, .invokevirtual 188, 164, 0)],
  [(25, .bipush (48), 48, 0), (27, .isub, 0, 0), (28, .putfield 191, 5, 13), (31, .aload_n 0, 0, 0)],
  [(32, .dup, 0, 0), (33, .getfield 185, 5, 11), (36, .iload_n 1, 0, 0), (37, .ifCond .eq (7), 44, 0)],
  [(40, .iconst (1), 1, 0), (41, .goto (4), 45, 0), (44, .iconst (0), 0, 0), (45, .iadd, 0, 0), (46, .putfield 185, 5, 11)],
  [(49, .iload_n 1, 0, 0), (50, .ireturn, 0, 0)]]
/-- SnapshotRingsModel.readsKey()Z -/
def sn_c166 : List (List (Nat × sn_E)) := [[(0, .aload_n 0, 0, 0), (1, .aload_n 0, 0, 0), (2, .getfield 185, 5, 11), (5, .invokevirtual 188, 164, 0)],
  [(8, .bipush (97), 97, 0), (10, .bipush (108), 108, 0), (12, .invokestatic 39, 97, 0), (15, .istore_n 1, 0, 0)],
  [(16, .aload_n 0, 0, 0), (17, .aload_n 0, 0, 0), (18, .aload_n 0, 0, 0), (19, .getfield 185, 5, 11), (22, .invokevirtual 188, 164, 0)],
  [(25, .bipush (97), 97, 0), (27, .isub, 0, 0), (28, .putfield 194, 5, 14), (31, .aload_n 0, 0, 0)],
  [(32, .dup, 0, 0), (33, .getfield 185, 5, 11), (36, .iload_n 1, 0, 0), (37, .ifCond .eq (7), 44, 0)],
  [(40, .iconst (1), 1, 0), (41, .goto (4), 45, 0), (44, .iconst (0), 0, 0), (45, .iadd, 0, 0), (46, .putfield 185, 5, 11)],
  [(49, .iload_n 1, 0, 0), (50, .ireturn, 0, 0)]]
/-- SnapshotRingsModel.isNext(I)Z -/
def sn_c167 : List (List (Nat × sn_E)) := [[(0, .aload_n 0, 0, 0), (1, .aload_n 0, 0, 0), (2, .getfield 185, 5, 11), (5, .invokevirtual 188, 164, 0)],
  [(8, .iload_n 1, 0, 0), (9, .if_icmp .ne (7), 16, 0), (12, .iconst (1), 1, 0), (13, .goto (4), 17, 0)],
  [(16, .iconst (0), 0, 0), (17, .istore_n 2, 0, 0), (18, .aload_n 0, 0, 0), (19, .dup, 0, 0), (20, .getfield 185, 5, 11), (23, .iload_n 2, 0, 0)],
  [(24, .ifCond .eq (7), 31, 0), (27, .iconst (1), 1, 0), (28, .goto (4), 32, 0), (31, .iconst (0), 0, 0)],
  [(32, .iadd, 0, 0), (33, .putfield 185, 5, 11), (36, .iload_n 2, 0, 0), (37, .ireturn, 0, 0)]]
/-- SnapshotRingsModel.readsValue()Z -/
def sn_c168 : List (List (Nat × sn_E)) := [[(0, .aload_n 0, 0, 0), (1, .bipush (45), 45, 0), (3, .invokevirtual 197, 167, 0), (6, .ifCond .eq (7), 13, 0)],
  [(9, .iconst (-1), 1, 1), (10, .goto (4), 14, 0), (13, .iconst (1), 1, 0), (14, .istore_n 1, 0, 0), (15, .aload_n 0, 0, 0)],
  [(16, .iconst (0), 0, 0), (17, .putfield 200, 5, 15), (20, .iconst (0), 0, 0), (21, .istore_n 2, 0, 0), (22, .iload_n 2, 0, 0), (23, .iconst (3), 3, 0)],
  [(24, .if_icmp .ge (62), 86, 0), (27, .aload_n 0, 0, 0), (28, .aload_n 0, 0, 0), (29, .getfield 185, 5, 11)],
  [(32, .invokevirtual 188, 164, 0), (35, .bipush (48), 48, 0), (37, .bipush (57), 57, 0), (39, .invokestatic 39, 97, 0)],
  [(42, .ifCond .eq (44), 86, 0), (45, .aload_n 0, 0, 0), (46, .bipush (10), 10, 0)],
  [(48, .aload_n 0, 0, 0), (49, .getfield 200, 5, 15), (52, .imul, 0, 0), (53, .iload_n 1, 0, 0), (54, .aload_n 0, 0, 0), (55, .aload_n 0, 0, 0)],
  [(56, .getfield 185, 5, 11), (59, .invokevirtual 188, 164, 0), (62, .bipush (48), 48, 0)],
  [(64, .isub, 0, 0), (65, .imul, 0, 0), (66, .iadd, 0, 0), (67, .putfield 200, 5, 15), (70, .iinc 2 (1), 1, 0)],
  [(73, .aload_n 0, 0, 0), (74, .dup, 0, 0), (75, .getfield 185, 5, 11), (78, .iconst (1), 1, 0), (79, .iadd, 0, 0)],
  [(80, .putfield 185, 5, 11), (83, .goto (-61), 22, 0), (86, .iload_n 2, 0, 0), (87, .ifCond .le (7), 94, 0)],
  [(90, .iconst (1), 1, 0), (91, .goto (4), 95, 0), (94, .iconst (0), 0, 0), (95, .ireturn, 0, 0)]]
/-- SnapshotRingsModel.carryOut()I -/
def sn_c169 : List (List (Nat × sn_E)) := [[(0, .aload_n 0, 0, 0), (1, .invokevirtual 219, 162, 0), (4, .sipush (-20006), 20006, 1), (7, .if_icmp .eq (7), 14, 0)],
  [(10, .sipush (-20005), 20005, 1), (13, .ireturn, 0, 0), (14, .aload_n 0, 0, 0), (15, .invokevirtual 109, 100, 0)],
  [(18, .iconst (0), 0, 0), (19, .istore_n 1, 0, 0), (20, .aload_n 0, 0, 0), (21, .iconst (0), 0, 0), (22, .putfield 185, 5, 11)],
  [(25, .iconst (1), 1, 0), (26, .istore_n 2, 0, 0), (27, .iload_n 2, 0, 0), (28, .ifCond .eq (53), 81, 0), (31, .aload_n 0, 0, 0)],
  [(32, .getfield 185, 5, 11), (35, .aload_n 0, 0, 0), (36, .getfield 182, 5, 5), (39, .if_icmp .ge (42), 81, 0)],
  [(42, .aload_n 0, 0, 0), (43, .invokevirtual 216, 163, 0), (46, .pop, 0, 0), (47, .aload_n 0, 0, 0)],
  [(48, .bipush (59), 59, 0), (50, .invokevirtual 197, 167, 0), (53, .pop, 0, 0), (54, .aload_n 0, 0, 0), (55, .invokevirtual 222, 170, 0)],
  [(58, .ifCond .ne (7), 65, 0), (61, .iconst (1), 1, 0), (62, .goto (4), 66, 0)],
  [(65, .iconst (0), 0, 0), (66, .istore_n 2, 0, 0), (67, .iload_n 2, 0, 0), (68, .ifCond .eq (-41), 27, 0), (71, .aload_n 0, 0, 0)],
  [(72, .invokevirtual 225, 171, 0), (75, .iinc 1 (1), 1, 0), (78, .goto (-51), 27, 0)],
  [(81, .aload_n 0, 0, 0), (82, .iconst (0), 0, 0), (83, .putfield 182, 5, 5), (86, .iload_n 1, 0, 0), (87, .ireturn, 0, 0)]]
/-- SnapshotRingsModel.whyNotDone()I -/
def sn_c170 : List (List (Nat × sn_E)) := [[(0, .aload_n 0, 0, 0), (1, .getfield 203, 5, 12), (4, .lookupswitch (75) #[(98, 36), (114, 45), (119, 58)], 0, 0)],
  [],
  [],
  [],
  [],
  [(40, .aload_n 0, 0, 0), (41, .aload_n 0, 0, 0), (42, .getfield 191, 5, 13), (45, .invokevirtual 106, 95, 0)],
  [(48, .ireturn, 0, 0), (49, .aload_n 0, 0, 0), (50, .aload_n 0, 0, 0), (51, .getfield 191, 5, 13), (54, .aload_n 0, 0, 0), (55, .getfield 194, 5, 14)],
  [(58, .invokevirtual 118, 106, 0), (61, .ireturn, 0, 0), (62, .aload_n 0, 0, 0), (63, .aload_n 0, 0, 0)],
  [(64, .getfield 191, 5, 13), (67, .aload_n 0, 0, 0), (68, .getfield 194, 5, 14), (71, .aload_n 0, 0, 0)],
  [(72, .getfield 200, 5, 15), (75, .invokevirtual 127, 110, 0), (78, .ireturn, 0, 0), (79, .aload_n 0, 0, 0)],
  [(80, .aload_n 0, 0, 0), (81, .getfield 191, 5, 13), (84, .invokevirtual 137, 114, 0), (87, .ireturn, 0, 0)]]
/-- SnapshotRingsModel.does()V -/
def sn_c171 : List (List (Nat × sn_E)) := [[(0, .aload_n 0, 0, 0), (1, .getfield 203, 5, 12), (4, .lookupswitch (104) #[(98, 44), (99, 92), (114, 56), (119, 72)], 0, 0)],
  [],
  [],
  [],
  [],
  [],
  [(48, .aload_n 0, 0, 0), (49, .aload_n 0, 0, 0), (50, .getfield 191, 5, 13), (53, .invokevirtual 112, 102, 0)],
  [(56, .pop, 0, 0), (57, .goto (60), 117, 0), (60, .aload_n 0, 0, 0), (61, .aload_n 0, 0, 0), (62, .getfield 191, 5, 13)],
  [(65, .aload_n 0, 0, 0), (66, .getfield 194, 5, 14), (69, .invokevirtual 121, 108, 0)],
  [(72, .pop, 0, 0), (73, .goto (44), 117, 0), (76, .aload_n 0, 0, 0), (77, .aload_n 0, 0, 0), (78, .getfield 191, 5, 13)],
  [(81, .aload_n 0, 0, 0), (82, .getfield 194, 5, 14), (85, .aload_n 0, 0, 0), (86, .getfield 200, 5, 15)],
  [(89, .invokevirtual 131, 111, 0), (92, .pop, 0, 0), (93, .goto (24), 117, 0)],
  [(96, .aload_n 0, 0, 0), (97, .aload_n 0, 0, 0), (98, .getfield 191, 5, 13), (101, .invokevirtual 140, 115, 0)],
  [(104, .pop, 0, 0), (105, .goto (12), 117, 0), (108, .aload_n 0, 0, 0), (109, .aload_n 0, 0, 0), (110, .getfield 191, 5, 13)],
  [(113, .invokevirtual 143, 131, 0), (116, .pop, 0, 0), (117, .return_, 0, 0)]]
/-- SnapshotRingsModel.undo()I -/
def sn_c172 : List (List (Nat × sn_E)) := [[(0, .aload_n 0, 0, 0), (1, .getfield 31, 5, 3), (4, .ifCond .ne (7), 11, 0), (7, .sipush (-20003), 20003, 1)],
  [(10, .ireturn, 0, 0), (11, .aload_n 0, 0, 0), (12, .dup, 0, 0), (13, .getfield 31, 5, 3)],
  [(16, .iconst (1), 1, 0), (17, .isub, 0, 0), (18, .putfield 31, 5, 3), (21, .aload_n 0, 0, 0), (22, .getfield 16, 5, 2)],
  [(25, .aload_n 0, 0, 0), (26, .getfield 31, 5, 3), (29, .sipush (596), 596, 0)],
  [(32, .imul, 0, 0), (33, .aload_n 0, 0, 0), (34, .getfield 7, 5, 0), (37, .iconst (0), 0, 0), (38, .invokestatic 35, 101, 0)],
  [(41, .aload_n 0, 0, 0), (42, .getfield 31, 5, 3), (45, .ireturn, 0, 0)]]
/-- SnapshotRingsModel.digest()J -/
def sn_c173 : List (List (Nat × sn_E)) := [[(0, .ldc2_w 228, 368, 0), (3, .lstore_n 1, 0, 0), (4, .iconst (0), 0, 0), (5, .istore_n 3, 0, 0), (6, .iload_n 3, 0, 0), (7, .bipush (7), 7, 0)],
  [(9, .if_icmp .gt (22), 31, 0), (12, .ldc2_w 230, 31, 0), (15, .lload_n 1, 0, 0)],
  [(16, .lmul, 0, 0), (17, .aload_n 0, 0, 0), (18, .iload_n 3, 0, 0), (19, .invokevirtual 152, 136, 0), (22, .i2l, 0, 0), (23, .ladd, 0, 0)],
  [(24, .lstore_n 1, 0, 0), (25, .iinc 3 (1), 1, 0), (28, .goto (-22), 6, 0), (31, .iconst (0), 0, 0)],
  [(32, .istore_n 3, 0, 0), (33, .iload_n 3, 0, 0), (34, .bipush (12), 12, 0), (36, .if_icmp .ge (43), 79, 0), (39, .ldc2_w 230, 31, 0)],
  [(42, .lload_n 1, 0, 0), (43, .lmul, 0, 0), (44, .aload_n 0, 0, 0), (45, .getfield 7, 5, 0)],
  [(48, .bipush (12), 12, 0), (50, .iload_n 3, 0, 0), (51, .iadd, 0, 0), (52, .iaload, 0, 0), (53, .i2l, 0, 0), (54, .ladd, 0, 0), (55, .lstore_n 1, 0, 0)],
  [(56, .ldc2_w 230, 31, 0), (59, .lload_n 1, 0, 0), (60, .lmul, 0, 0), (61, .aload_n 0, 0, 0), (62, .getfield 7, 5, 0)],
  [(65, .bipush (24), 24, 0), (67, .iload_n 3, 0, 0), (68, .iadd, 0, 0), (69, .iaload, 0, 0), (70, .i2l, 0, 0), (71, .ladd, 0, 0)],
  [(72, .lstore_n 1, 0, 0), (73, .iinc 3 (1), 1, 0), (76, .goto (-43), 33, 0), (79, .iconst (0), 0, 0)],
  [(80, .istore_n 3, 0, 0), (81, .iload_n 3, 0, 0), (82, .bipush (8), 8, 0), (84, .if_icmp .ge (86), 170, 0), (87, .aload_n 0, 0, 0)],
  [(88, .iload_n 3, 0, 0), (89, .invokevirtual 100, 98, 0), (92, .ifCond .eq (72), 164, 0), (95, .ldc2_w 230, 31, 0)],
  [(98, .lload_n 1, 0, 0), (99, .lmul, 0, 0), (100, .iload_n 3, 0, 0), (101, .i2l, 0, 0), (102, .ladd, 0, 0), (103, .lstore_n 1, 0, 0)],
  [(104, .iconst (0), 0, 0), (105, .istore 4, 4, 0), (107, .iload 4, 4, 0), (109, .iconst (3), 3, 0), (110, .if_icmp .gt (24), 134, 0)],
  [(113, .ldc2_w 230, 31, 0), (116, .lload_n 1, 0, 0), (117, .lmul, 0, 0), (118, .aload_n 0, 0, 0), (119, .iload_n 3, 0, 0)],
  [(120, .iload 4, 4, 0), (122, .invokevirtual 155, 141, 0), (125, .i2l, 0, 0), (126, .ladd, 0, 0), (127, .lstore_n 1, 0, 0)],
  [(128, .iinc 4 (1), 1, 0), (131, .goto (-24), 107, 0), (134, .iconst (0), 0, 0), (135, .istore 4, 4, 0)],
  [(137, .iload 4, 4, 0), (139, .iconst (3), 3, 0), (140, .if_icmp .ge (24), 164, 0), (143, .ldc2_w 230, 31, 0)],
  [(146, .lload_n 1, 0, 0), (147, .lmul, 0, 0), (148, .aload_n 0, 0, 0), (149, .iload_n 3, 0, 0), (150, .iload 4, 4, 0)],
  [(152, .invokevirtual 179, 156, 0), (155, .i2l, 0, 0), (156, .ladd, 0, 0), (157, .lstore_n 1, 0, 0), (158, .iinc 4 (1), 1, 0)],
  [(161, .goto (-24), 137, 0), (164, .iinc 3 (1), 1, 0), (167, .goto (-86), 81, 0)],
  [(170, .iconst (0), 0, 0), (171, .istore_n 3, 0, 0), (172, .iload_n 3, 0, 0), (173, .aload_n 0, 0, 0), (174, .invokevirtual 51, 121, 0)],
  [(177, .if_icmp .ge (61), 238, 0), (180, .ldc2_w 230, 31, 0), (183, .lload_n 1, 0, 0)],
  [(184, .lmul, 0, 0), (185, .aload_n 0, 0, 0), (186, .iload_n 3, 0, 0), (187, .invokevirtual 61, 124, 0), (190, .i2l, 0, 0), (191, .ladd, 0, 0)],
  [(192, .lstore_n 1, 0, 0), (193, .iconst (0), 0, 0), (194, .istore 4, 4, 0), (196, .iload 4, 4, 0), (198, .iconst (2), 2, 0), (199, .if_icmp .gt (33), 232, 0)],
  [(202, .ldc2_w 230, 31, 0), (205, .lload_n 1, 0, 0), (206, .lmul, 0, 0), (207, .aload_n 0, 0, 0)],
  [(208, .getfield 7, 5, 0), (211, .aload_n 0, 0, 0), (212, .iload_n 3, 0, 0), (213, .invokevirtual 61, 124, 0)],
  [(216, .invokestatic 65, 126, 0), (219, .iload 4, 4, 0), (221, .iadd, 0, 0), (222, .iaload, 0, 0), (223, .i2l, 0, 0)],
  [(224, .ladd, 0, 0), (225, .lstore_n 1, 0, 0), (226, .iinc 4 (1), 1, 0), (229, .goto (-33), 196, 0)],
  [(232, .iinc 3 (1), 1, 0), (235, .goto (-63), 172, 0), (238, .iconst (0), 0, 0), (239, .istore_n 3, 0, 0)],
  [(240, .iload_n 3, 0, 0), (241, .aload_n 0, 0, 0), (242, .invokevirtual 51, 121, 0), (245, .if_icmp .ge (59), 304, 0)],
  [(248, .iload_n 3, 0, 0), (249, .iconst (1), 1, 0), (250, .iadd, 0, 0), (251, .istore 4, 4, 0), (253, .iload 4, 4, 0), (255, .aload_n 0, 0, 0)],
  [(256, .invokevirtual 51, 121, 0), (259, .if_icmp .ge (39), 298, 0), (262, .ldc2_w 230, 31, 0)],
  [(265, .lload_n 1, 0, 0), (266, .lmul, 0, 0), (267, .aload_n 0, 0, 0), (268, .iload_n 3, 0, 0), (269, .iload 4, 4, 0), (271, .invokevirtual 74, 122, 0)],
  [(274, .i2l, 0, 0), (275, .ladd, 0, 0), (276, .lstore_n 1, 0, 0), (277, .ldc2_w 230, 31, 0)],
  [(280, .lload_n 1, 0, 0), (281, .lmul, 0, 0), (282, .aload_n 0, 0, 0), (283, .iload 4, 4, 0), (285, .iload_n 3, 0, 0), (286, .invokevirtual 74, 122, 0)],
  [(289, .i2l, 0, 0), (290, .ladd, 0, 0), (291, .lstore_n 1, 0, 0), (292, .iinc 4 (1), 1, 0), (295, .goto (-42), 253, 0)],
  [(298, .iinc 3 (1), 1, 0), (301, .goto (-61), 240, 0)],
  [(304, .ldc2_w 230, 31, 0), (307, .lload_n 1, 0, 0), (308, .lmul, 0, 0), (309, .aload_n 0, 0, 0), (310, .invokevirtual 164, 147, 0)],
  [(313, .i2l, 0, 0), (314, .ladd, 0, 0), (315, .lstore_n 1, 0, 0), (316, .aload_n 0, 0, 0), (317, .invokevirtual 170, 150, 0)],
  [(320, .iconst (0), 0, 0), (321, .istore_n 3, 0, 0), (322, .iload_n 3, 0, 0), (323, .bipush (16), 16, 0), (325, .if_icmp .ge (22), 347, 0)],
  [(328, .ldc2_w 230, 31, 0), (331, .lload_n 1, 0, 0), (332, .lmul, 0, 0), (333, .aload_n 0, 0, 0), (334, .iload_n 3, 0, 0), (335, .invokevirtual 173, 151, 0)],
  [(338, .i2l, 0, 0), (339, .ladd, 0, 0), (340, .lstore_n 1, 0, 0), (341, .iinc 3 (1), 1, 0)],
  [(344, .goto (-22), 322, 0), (347, .iconst (0), 0, 0), (348, .istore_n 3, 0, 0), (349, .iload_n 3, 0, 0), (350, .iconst (3), 3, 0), (351, .if_icmp .ge (22), 373, 0)],
  [(354, .ldc2_w 230, 31, 0), (357, .lload_n 1, 0, 0), (358, .lmul, 0, 0), (359, .aload_n 0, 0, 0)],
  [(360, .iload_n 3, 0, 0), (361, .invokevirtual 176, 154, 0), (364, .i2l, 0, 0), (365, .ladd, 0, 0), (366, .lstore_n 1, 0, 0), (367, .iinc 3 (1), 1, 0)],
  [(370, .goto (-21), 349, 0), (373, .lload_n 1, 0, 0), (374, .lreturn, 0, 0)]]
/-- SnapshotRingsLaw.law([I)Z -/
def sn_c174 : List (List (Nat × sn_E)) := [[(0, .new 7, 0, 0), (3, .dup, 0, 0), (4, .invokespecial 9, 0, 0), (7, .astore_n 1, 0, 0)],
  [(8, .new 10, 5, 0), (11, .dup, 0, 0), (12, .invokespecial 12, 93, 0), (15, .astore_n 2, 0, 0)],
  [(16, .iconst (0), 0, 0), (17, .istore_n 3, 0, 0), (18, .iload_n 3, 0, 0), (19, .aload_n 0, 0, 0), (20, .arraylength, 0, 0), (21, .iconst (4), 4, 0), (22, .isub, 0, 0), (23, .if_icmp .gt (781), 804, 0)],
  [(26, .aload_n 0, 0, 0), (27, .iload_n 3, 0, 0), (28, .iaload, 0, 0), (29, .bipush (31), 31, 0), (31, .iand, 0, 0)],
  [(32, .tableswitch (766) (0) (26) #[124, 147, 190, 213, 246, 289, 312, 335, 358, 381, 404, 437, 470, 503, 536, 549, 572, 585, 608, 641, 654, 677, 700, 713, 726, 739, 752], 0, 0)],
  [],
  [],
  [],
  [],
  [],
  [],
  [],
  [],
  [],
  [],
  [],
  [],
  [],
  [],
  [(156, .aload_n 1, 0, 0), (157, .aload_n 0, 0, 0), (158, .iload_n 3, 0, 0), (159, .iconst (1), 1, 0)],
  [(160, .iadd, 0, 0), (161, .iaload, 0, 0), (162, .invokevirtual 13, 5, 0), (165, .aload_n 2, 0, 0), (166, .aload_n 0, 0, 0), (167, .iload_n 3, 0, 0)],
  [(168, .iconst (1), 1, 0), (169, .iadd, 0, 0), (170, .iaload, 0, 0), (171, .invokevirtual 17, 132, 0), (174, .if_icmp .eq (624), 798, 0)],
  [(177, .iconst (0), 0, 0), (178, .ireturn, 0, 0), (179, .aload_n 1, 0, 0), (180, .aload_n 0, 0, 0), (181, .iload_n 3, 0, 0), (182, .iconst (1), 1, 0), (183, .iadd, 0, 0)],
  [(184, .iaload, 0, 0), (185, .aload_n 0, 0, 0), (186, .iload_n 3, 0, 0), (187, .iconst (2), 2, 0), (188, .iadd, 0, 0), (189, .iaload, 0, 0), (190, .aload_n 0, 0, 0), (191, .iload_n 3, 0, 0)],
  [(192, .iconst (3), 3, 0), (193, .iadd, 0, 0), (194, .iaload, 0, 0), (195, .invokevirtual 18, 8, 0), (198, .aload_n 2, 0, 0), (199, .aload_n 0, 0, 0)],
  [(200, .iload_n 3, 0, 0), (201, .iconst (1), 1, 0), (202, .iadd, 0, 0), (203, .iaload, 0, 0), (204, .aload_n 0, 0, 0), (205, .iload_n 3, 0, 0), (206, .iconst (2), 2, 0), (207, .iadd, 0, 0)],
  [(208, .iaload, 0, 0), (209, .aload_n 0, 0, 0), (210, .iload_n 3, 0, 0), (211, .iconst (3), 3, 0), (212, .iadd, 0, 0), (213, .iaload, 0, 0), (214, .invokevirtual 22, 133, 0)],
  [(217, .if_icmp .eq (581), 798, 0), (220, .iconst (0), 0, 0), (221, .ireturn, 0, 0), (222, .aload_n 1, 0, 0), (223, .aload_n 0, 0, 0)],
  [(224, .iload_n 3, 0, 0), (225, .iconst (1), 1, 0), (226, .iadd, 0, 0), (227, .iaload, 0, 0), (228, .invokevirtual 23, 10, 0), (231, .aload_n 2, 0, 0)],
  [(232, .aload_n 0, 0, 0), (233, .iload_n 3, 0, 0), (234, .iconst (1), 1, 0), (235, .iadd, 0, 0), (236, .iaload, 0, 0), (237, .invokevirtual 26, 94, 0)],
  [(240, .if_icmp .eq (558), 798, 0), (243, .iconst (0), 0, 0), (244, .ireturn, 0, 0), (245, .aload_n 1, 0, 0), (246, .aload_n 0, 0, 0), (247, .iload_n 3, 0, 0)],
  [(248, .iconst (1), 1, 0), (249, .iadd, 0, 0), (250, .iaload, 0, 0), (251, .aload_n 0, 0, 0), (252, .iload_n 3, 0, 0), (253, .iconst (2), 2, 0), (254, .iadd, 0, 0), (255, .iaload, 0, 0)],
  [(256, .invokevirtual 27, 16, 0), (259, .aload_n 2, 0, 0), (260, .aload_n 0, 0, 0), (261, .iload_n 3, 0, 0), (262, .iconst (1), 1, 0), (263, .iadd, 0, 0)],
  [(264, .iaload, 0, 0), (265, .aload_n 0, 0, 0), (266, .iload_n 3, 0, 0), (267, .iconst (2), 2, 0), (268, .iadd, 0, 0), (269, .iaload, 0, 0), (270, .invokevirtual 31, 105, 0)],
  [(273, .if_icmp .eq (525), 798, 0), (276, .iconst (0), 0, 0), (277, .ireturn, 0, 0), (278, .aload_n 1, 0, 0), (279, .aload_n 0, 0, 0)],
  [(280, .iload_n 3, 0, 0), (281, .iconst (1), 1, 0), (282, .iadd, 0, 0), (283, .iaload, 0, 0), (284, .aload_n 0, 0, 0), (285, .iload_n 3, 0, 0), (286, .iconst (2), 2, 0), (287, .iadd, 0, 0)],
  [(288, .iaload, 0, 0), (289, .aload_n 0, 0, 0), (290, .iload_n 3, 0, 0), (291, .iconst (3), 3, 0), (292, .iadd, 0, 0), (293, .iaload, 0, 0), (294, .invokevirtual 32, 21, 0)],
  [(297, .aload_n 2, 0, 0), (298, .aload_n 0, 0, 0), (299, .iload_n 3, 0, 0), (300, .iconst (1), 1, 0), (301, .iadd, 0, 0), (302, .iaload, 0, 0), (303, .aload_n 0, 0, 0)],
  [(304, .iload_n 3, 0, 0), (305, .iconst (2), 2, 0), (306, .iadd, 0, 0), (307, .iaload, 0, 0), (308, .aload_n 0, 0, 0), (309, .iload_n 3, 0, 0), (310, .iconst (3), 3, 0), (311, .iadd, 0, 0)],
  [(312, .iaload, 0, 0), (313, .invokevirtual 35, 109, 0), (316, .if_icmp .eq (482), 798, 0), (319, .iconst (0), 0, 0)],
  [(320, .ireturn, 0, 0), (321, .aload_n 1, 0, 0), (322, .aload_n 0, 0, 0), (323, .iload_n 3, 0, 0), (324, .iconst (1), 1, 0), (325, .iadd, 0, 0), (326, .iaload, 0, 0), (327, .invokevirtual 36, 25, 0)],
  [(330, .aload_n 2, 0, 0), (331, .aload_n 0, 0, 0), (332, .iload_n 3, 0, 0), (333, .iconst (1), 1, 0), (334, .iadd, 0, 0), (335, .iaload, 0, 0)],
  [(336, .invokevirtual 39, 113, 0), (339, .if_icmp .eq (459), 798, 0), (342, .iconst (0), 0, 0), (343, .ireturn, 0, 0)],
  [(344, .aload_n 1, 0, 0), (345, .aload_n 0, 0, 0), (346, .iload_n 3, 0, 0), (347, .iconst (1), 1, 0), (348, .iadd, 0, 0), (349, .iaload, 0, 0), (350, .invokevirtual 40, 44, 0)],
  [(353, .aload_n 2, 0, 0), (354, .aload_n 0, 0, 0), (355, .iload_n 3, 0, 0), (356, .iconst (1), 1, 0), (357, .iadd, 0, 0), (358, .iaload, 0, 0), (359, .invokevirtual 43, 130, 0)],
  [(362, .if_icmp .eq (436), 798, 0), (365, .iconst (0), 0, 0), (366, .ireturn, 0, 0), (367, .aload_n 1, 0, 0)],
  [(368, .aload_n 0, 0, 0), (369, .iload_n 3, 0, 0), (370, .iconst (1), 1, 0), (371, .iadd, 0, 0), (372, .iaload, 0, 0), (373, .invokevirtual 44, 46, 0)],
  [(376, .aload_n 2, 0, 0), (377, .aload_n 0, 0, 0), (378, .iload_n 3, 0, 0), (379, .iconst (1), 1, 0), (380, .iadd, 0, 0), (381, .iaload, 0, 0), (382, .invokevirtual 47, 135, 0)],
  [(385, .if_icmp .eq (413), 798, 0), (388, .iconst (0), 0, 0), (389, .ireturn, 0, 0), (390, .aload_n 1, 0, 0), (391, .aload_n 0, 0, 0)],
  [(392, .iload_n 3, 0, 0), (393, .iconst (1), 1, 0), (394, .iadd, 0, 0), (395, .iaload, 0, 0), (396, .invokevirtual 48, 47, 0), (399, .aload_n 2, 0, 0)],
  [(400, .aload_n 0, 0, 0), (401, .iload_n 3, 0, 0), (402, .iconst (1), 1, 0), (403, .iadd, 0, 0), (404, .iaload, 0, 0), (405, .invokevirtual 51, 138, 0)],
  [(408, .if_icmp .eq (390), 798, 0), (411, .iconst (0), 0, 0), (412, .ireturn, 0, 0), (413, .aload_n 1, 0, 0), (414, .aload_n 0, 0, 0), (415, .iload_n 3, 0, 0)],
  [(416, .iconst (1), 1, 0), (417, .iadd, 0, 0), (418, .iaload, 0, 0), (419, .invokevirtual 52, 48, 0), (422, .aload_n 2, 0, 0), (423, .aload_n 0, 0, 0)],
  [(424, .iload_n 3, 0, 0), (425, .iconst (1), 1, 0), (426, .iadd, 0, 0), (427, .iaload, 0, 0), (428, .invokevirtual 55, 139, 0), (431, .if_icmp .eq (367), 798, 0)],
  [(434, .iconst (0), 0, 0), (435, .ireturn, 0, 0), (436, .aload_n 1, 0, 0), (437, .aload_n 0, 0, 0), (438, .iload_n 3, 0, 0), (439, .iconst (1), 1, 0)],
  [(440, .iadd, 0, 0), (441, .iaload, 0, 0), (442, .aload_n 0, 0, 0), (443, .iload_n 3, 0, 0), (444, .iconst (2), 2, 0), (445, .iadd, 0, 0), (446, .iaload, 0, 0), (447, .invokevirtual 56, 49, 0)],
  [(450, .aload_n 2, 0, 0), (451, .aload_n 0, 0, 0), (452, .iload_n 3, 0, 0), (453, .iconst (1), 1, 0), (454, .iadd, 0, 0), (455, .iaload, 0, 0)],
  [(456, .aload_n 0, 0, 0), (457, .iload_n 3, 0, 0), (458, .iconst (2), 2, 0), (459, .iadd, 0, 0), (460, .iaload, 0, 0), (461, .invokevirtual 59, 140, 0)],
  [(464, .if_icmp .eq (334), 798, 0), (467, .iconst (0), 0, 0), (468, .ireturn, 0, 0), (469, .aload_n 1, 0, 0), (470, .aload_n 0, 0, 0), (471, .iload_n 3, 0, 0)],
  [(472, .iconst (1), 1, 0), (473, .iadd, 0, 0), (474, .iaload, 0, 0), (475, .aload_n 0, 0, 0), (476, .iload_n 3, 0, 0), (477, .iconst (2), 2, 0), (478, .iadd, 0, 0), (479, .iaload, 0, 0)],
  [(480, .invokevirtual 60, 51, 0), (483, .aload_n 2, 0, 0), (484, .aload_n 0, 0, 0), (485, .iload_n 3, 0, 0), (486, .iconst (1), 1, 0), (487, .iadd, 0, 0)],
  [(488, .iaload, 0, 0), (489, .aload_n 0, 0, 0), (490, .iload_n 3, 0, 0), (491, .iconst (2), 2, 0), (492, .iadd, 0, 0), (493, .iaload, 0, 0), (494, .invokevirtual 63, 142, 0)],
  [(497, .if_icmp .eq (301), 798, 0), (500, .iconst (0), 0, 0), (501, .ireturn, 0, 0), (502, .aload_n 1, 0, 0), (503, .aload_n 0, 0, 0)],
  [(504, .iload_n 3, 0, 0), (505, .iconst (1), 1, 0), (506, .iadd, 0, 0), (507, .iaload, 0, 0), (508, .aload_n 0, 0, 0), (509, .iload_n 3, 0, 0), (510, .iconst (2), 2, 0), (511, .iadd, 0, 0)],
  [(512, .iaload, 0, 0), (513, .invokevirtual 64, 53, 0), (516, .aload_n 2, 0, 0), (517, .aload_n 0, 0, 0), (518, .iload_n 3, 0, 0), (519, .iconst (1), 1, 0)],
  [(520, .iadd, 0, 0), (521, .iaload, 0, 0), (522, .aload_n 0, 0, 0), (523, .iload_n 3, 0, 0), (524, .iconst (2), 2, 0), (525, .iadd, 0, 0), (526, .iaload, 0, 0), (527, .invokevirtual 67, 144, 0)],
  [(530, .if_icmp .eq (268), 798, 0), (533, .iconst (0), 0, 0), (534, .ireturn, 0, 0), (535, .aload_n 1, 0, 0)],
  [(536, .aload_n 0, 0, 0), (537, .iload_n 3, 0, 0), (538, .iconst (1), 1, 0), (539, .iadd, 0, 0), (540, .iaload, 0, 0), (541, .aload_n 0, 0, 0), (542, .iload_n 3, 0, 0), (543, .iconst (2), 2, 0)],
  [(544, .iadd, 0, 0), (545, .iaload, 0, 0), (546, .invokevirtual 68, 54, 0), (549, .aload_n 2, 0, 0), (550, .aload_n 0, 0, 0), (551, .iload_n 3, 0, 0)],
  [(552, .iconst (1), 1, 0), (553, .iadd, 0, 0), (554, .iaload, 0, 0), (555, .aload_n 0, 0, 0), (556, .iload_n 3, 0, 0), (557, .iconst (2), 2, 0), (558, .iadd, 0, 0), (559, .iaload, 0, 0)],
  [(560, .invokevirtual 71, 145, 0), (563, .if_icmp .eq (235), 798, 0), (566, .iconst (0), 0, 0), (567, .ireturn, 0, 0)],
  [(568, .aload_n 1, 0, 0), (569, .invokevirtual 72, 56, 0), (572, .aload_n 2, 0, 0), (573, .invokevirtual 76, 146, 0)],
  [(576, .if_icmp .eq (222), 798, 0), (579, .iconst (0), 0, 0), (580, .ireturn, 0, 0), (581, .aload_n 1, 0, 0), (582, .aload_n 0, 0, 0), (583, .iload_n 3, 0, 0)],
  [(584, .iconst (1), 1, 0), (585, .iadd, 0, 0), (586, .iaload, 0, 0), (587, .invokevirtual 77, 58, 0), (590, .aload_n 2, 0, 0), (591, .aload_n 0, 0, 0)],
  [(592, .iload_n 3, 0, 0), (593, .iconst (1), 1, 0), (594, .iadd, 0, 0), (595, .iaload, 0, 0), (596, .invokevirtual 80, 149, 0), (599, .if_icmp .eq (199), 798, 0)],
  [(602, .iconst (0), 0, 0), (603, .ireturn, 0, 0), (604, .aload_n 1, 0, 0), (605, .invokevirtual 81, 61, 0)],
  [(608, .aload_n 2, 0, 0), (609, .invokevirtual 84, 152, 0), (612, .if_icmp .eq (186), 798, 0), (615, .iconst (0), 0, 0)],
  [(616, .ireturn, 0, 0), (617, .aload_n 1, 0, 0), (618, .aload_n 0, 0, 0), (619, .iload_n 3, 0, 0), (620, .iconst (1), 1, 0), (621, .iadd, 0, 0), (622, .iaload, 0, 0), (623, .invokevirtual 85, 63, 0)],
  [(626, .aload_n 2, 0, 0), (627, .aload_n 0, 0, 0), (628, .iload_n 3, 0, 0), (629, .iconst (1), 1, 0), (630, .iadd, 0, 0), (631, .iaload, 0, 0)],
  [(632, .invokevirtual 88, 153, 0), (635, .if_icmp .eq (163), 798, 0), (638, .iconst (0), 0, 0), (639, .ireturn, 0, 0)],
  [(640, .aload_n 1, 0, 0), (641, .aload_n 0, 0, 0), (642, .iload_n 3, 0, 0), (643, .iconst (1), 1, 0), (644, .iadd, 0, 0), (645, .iaload, 0, 0), (646, .aload_n 0, 0, 0), (647, .iload_n 3, 0, 0)],
  [(648, .iconst (2), 2, 0), (649, .iadd, 0, 0), (650, .iaload, 0, 0), (651, .invokevirtual 89, 65, 0), (654, .aload_n 2, 0, 0), (655, .aload_n 0, 0, 0)],
  [(656, .iload_n 3, 0, 0), (657, .iconst (1), 1, 0), (658, .iadd, 0, 0), (659, .iaload, 0, 0), (660, .aload_n 0, 0, 0), (661, .iload_n 3, 0, 0), (662, .iconst (2), 2, 0), (663, .iadd, 0, 0)],
  [(664, .iaload, 0, 0), (665, .invokevirtual 92, 155, 0), (668, .if_icmp .eq (130), 798, 0), (671, .iconst (0), 0, 0)],
  [(672, .ireturn, 0, 0), (673, .aload_n 1, 0, 0), (674, .invokevirtual 93, 66, 0), (677, .aload_n 2, 0, 0), (678, .invokevirtual 96, 157, 0)],
  [(681, .if_icmp .eq (117), 798, 0), (684, .iconst (0), 0, 0), (685, .ireturn, 0, 0), (686, .aload_n 1, 0, 0), (687, .aload_n 0, 0, 0)],
  [(688, .iload_n 3, 0, 0), (689, .iconst (1), 1, 0), (690, .iadd, 0, 0), (691, .iaload, 0, 0), (692, .invokevirtual 97, 67, 0), (695, .aload_n 2, 0, 0)],
  [(696, .aload_n 0, 0, 0), (697, .iload_n 3, 0, 0), (698, .iconst (1), 1, 0), (699, .iadd, 0, 0), (700, .iaload, 0, 0), (701, .invokevirtual 100, 158, 0)],
  [(704, .if_icmp .eq (94), 798, 0), (707, .iconst (0), 0, 0), (708, .ireturn, 0, 0), (709, .aload_n 1, 0, 0), (710, .aload_n 0, 0, 0), (711, .iload_n 3, 0, 0)],
  [(712, .iconst (1), 1, 0), (713, .iadd, 0, 0), (714, .iaload, 0, 0), (715, .invokevirtual 101, 68, 0), (718, .aload_n 2, 0, 0), (719, .aload_n 0, 0, 0)],
  [(720, .iload_n 3, 0, 0), (721, .iconst (1), 1, 0), (722, .iadd, 0, 0), (723, .iaload, 0, 0), (724, .invokevirtual 104, 159, 0), (727, .if_icmp .eq (71), 798, 0)],
  [(730, .iconst (0), 0, 0), (731, .ireturn, 0, 0), (732, .aload_n 1, 0, 0), (733, .invokevirtual 105, 70, 0)],
  [(736, .aload_n 2, 0, 0), (737, .invokevirtual 108, 160, 0), (740, .if_icmp .eq (58), 798, 0), (743, .iconst (0), 0, 0)],
  [(744, .ireturn, 0, 0), (745, .aload_n 1, 0, 0), (746, .invokevirtual 109, 71, 0), (749, .aload_n 2, 0, 0), (750, .invokevirtual 112, 161, 0)],
  [(753, .if_icmp .eq (45), 798, 0), (756, .iconst (0), 0, 0), (757, .ireturn, 0, 0), (758, .aload_n 1, 0, 0), (759, .invokevirtual 113, 79, 0)],
  [(762, .aload_n 2, 0, 0), (763, .invokevirtual 116, 169, 0), (766, .if_icmp .eq (32), 798, 0)],
  [(769, .iconst (0), 0, 0), (770, .ireturn, 0, 0), (771, .aload_n 1, 0, 0), (772, .invokevirtual 117, 86, 0), (775, .aload_n 2, 0, 0)],
  [(776, .invokevirtual 120, 172, 0), (779, .if_icmp .eq (19), 798, 0), (782, .iconst (0), 0, 0), (783, .ireturn, 0, 0)],
  [(784, .aload_n 1, 0, 0), (785, .invokevirtual 121, 88, 0), (788, .aload_n 2, 0, 0), (789, .invokevirtual 125, 173, 0)],
  [(792, .lcmp, 0, 0), (793, .ifCond .eq (5), 798, 0), (796, .iconst (0), 0, 0), (797, .ireturn, 0, 0), (798, .iinc 3 (4), 4, 0)],
  [(801, .goto (-783), 18, 0), (804, .iconst (1), 1, 0), (805, .ireturn, 0, 0)]]
def sn_chs : List (List (List (Nat × sn_E))) := [sn_c0, sn_c1, sn_c2, sn_c3, sn_c4, sn_c5, sn_c6, sn_c7, sn_c8, sn_c9, sn_c10, sn_c11, sn_c12, sn_c13, sn_c14, sn_c15, sn_c16, sn_c17, sn_c18, sn_c19, sn_c20, sn_c21, sn_c22, sn_c23, sn_c24, sn_c25, sn_c26, sn_c27, sn_c28, sn_c29, sn_c30, sn_c31, sn_c32, sn_c33, sn_c34, sn_c35, sn_c36, sn_c37, sn_c38, sn_c39, sn_c40, sn_c41, sn_c42, sn_c43, sn_c44, sn_c45, sn_c46, sn_c47, sn_c48, sn_c49, sn_c50, sn_c51, sn_c52, sn_c53, sn_c54, sn_c55, sn_c56, sn_c57, sn_c58, sn_c59, sn_c60, sn_c61, sn_c62, sn_c63, sn_c64, sn_c65, sn_c66, sn_c67, sn_c68, sn_c69, sn_c70, sn_c71, sn_c72, sn_c73, sn_c74, sn_c75, sn_c76, sn_c77, sn_c78, sn_c79, sn_c80, sn_c81, sn_c82, sn_c83, sn_c84, sn_c85, sn_c86, sn_c87, sn_c88, sn_c89, sn_c90, sn_c91, sn_c92, sn_c93, sn_c94, sn_c95, sn_c96, sn_c97, sn_c98, sn_c99, sn_c100, sn_c101, sn_c102, sn_c103, sn_c104, sn_c105, sn_c106, sn_c107, sn_c108, sn_c109, sn_c110, sn_c111, sn_c112, sn_c113, sn_c114, sn_c115, sn_c116, sn_c117, sn_c118, sn_c119, sn_c120, sn_c121, sn_c122, sn_c123, sn_c124, sn_c125, sn_c126, sn_c127, sn_c128, sn_c129, sn_c130, sn_c131, sn_c132, sn_c133, sn_c134, sn_c135, sn_c136, sn_c137, sn_c138, sn_c139, sn_c140, sn_c141, sn_c142, sn_c143, sn_c144, sn_c145, sn_c146, sn_c147, sn_c148, sn_c149, sn_c150, sn_c151, sn_c152, sn_c153, sn_c154, sn_c155, sn_c156, sn_c157, sn_c158, sn_c159, sn_c160, sn_c161, sn_c162, sn_c163, sn_c164, sn_c165, sn_c166, sn_c167, sn_c168, sn_c169, sn_c170, sn_c171, sn_c172, sn_c173, sn_c174]
def sn_find (pc : Nat) : List (Nat × sn_E) → Option sn_E
  | [] => none
  | q :: l => bif Nat.beq q.1 pc then some q.2 else sn_find pc l
def sn_ch (m : Nat) : List (List (Nat × sn_E)) := (sn_nth sn_chs m).getD []
/-- the instruction of a method at a place -/
def sn_cd (m pc : Nat) : Option sn_E := sn_find pc ((sn_nth (sn_ch m) (pc / 8)).getD [])
/-- field links: owner, entry, class, field, place among the words -/
def sn_fl : List (Nat × Nat × Nat × Nat × Nat) := [(0, 12, 0, 0, 218), (0, 16, 0, 1, 219), (0, 22, 0, 2, 220), (0, 29, 0, 3, 221), (0, 36, 0, 4, 222), (1, 9, 1, 4, 97), (1, 15, 1, 5, 99), (1, 18, 1, 6, 101), (1, 21, 1, 7, 103), (1, 24, 1, 8, 105), (1, 27, 1, 9, 107), (1, 30, 1, 10, 108), (1, 33, 1, 11, 109), (1, 36, 1, 12, 110), (1, 39, 1, 13, 111), (2, 11, 2, 0, 152), (3, 9, 3, 1, 171), (3, 15, 3, 2, 172), (3, 18, 3, 3, 173), (3, 21, 3, 4, 175), (3, 24, 3, 5, 176), (3, 27, 3, 6, 177), (3, 30, 3, 7, 178), (3, 33, 3, 8, 179), (4, 9, 4, 0, 209), (0, 44, 1, 0, 89), (2, 18, 2, 2, 155), (2, 26, 2, 1, 153), (1, 42, 1, 0, 88), (1, 46, 1, 1, 91), (1, 49, 1, 2, 93), (1, 52, 1, 3, 95), (0, 52, 1, 6, 102), (0, 56, 1, 5, 100), (0, 224, 3, 9, 181), (3, 42, 3, 0, 169), (3, 46, 1, 1, 90), (3, 65, 3, 9, 180), (0, 90, 1, 1, 92), (0, 93, 1, 3, 96), (0, 105, 1, 4, 98), (0, 108, 1, 2, 94), (0, 114, 1, 7, 104), (0, 117, 1, 8, 106), (0, 163, 1, 13, 112), (0, 172, 4, 1, 211), (4, 15, 4, 1, 210), (0, 188, 2, 1, 154), (0, 264, 3, 0, 170), (0, 267, 3, 3, 174), (5, 7, 5, 0, 607), (5, 13, 5, 1, 608), (5, 16, 5, 2, 609), (5, 19, 5, 4, 611), (5, 22, 5, 7, 614), (5, 25, 5, 8, 615), (5, 28, 5, 9, 616), (5, 31, 5, 3, 610), (5, 58, 5, 6, 613), (5, 167, 5, 10, 617), (5, 182, 5, 5, 612), (5, 185, 5, 11, 618), (5, 203, 5, 12, 619), (5, 191, 5, 13, 620), (5, 194, 5, 14, 621), (5, 200, 5, 15, 622)]
/-- method links: owner, entry, method, nest mate or not, place -/
def sn_lk : List (Nat × Nat × Nat × Nat × Nat) := [(0, 11, 1, 1, 84), (0, 21, 2, 0, 145), (0, 28, 3, 1, 165), (0, 35, 4, 1, 205), (2, 17, 1, 1, 151), (0, 40, 6, 0, 238), (2, 22, 7, 0, 242), (0, 48, 9, 0, 256), (0, 59, 11, 0, 263), (0, 63, 15, 0, 277), (0, 218, 12, 0, 267), (0, 169, 13, 0, 270), (1, 61, 14, 1, 274), (0, 66, 17, 0, 285), (0, 70, 20, 0, 296), (0, 111, 18, 0, 289), (0, 80, 19, 0, 292), (0, 73, 22, 0, 304), (0, 77, 23, 0, 308), (1, 65, 24, 0, 312), (0, 83, 26, 0, 322), (0, 120, 27, 0, 326), (0, 231, 41, 0, 385), (0, 235, 43, 0, 393), (0, 221, 28, 0, 330), (0, 137, 29, 0, 334), (0, 140, 35, 0, 359), (0, 144, 36, 0, 363), (0, 227, 40, 0, 381), (3, 36, 30, 0, 338), (3, 49, 31, 0, 343), (3, 53, 32, 0, 347), (3, 57, 33, 0, 351), (3, 61, 34, 0, 355), (3, 68, 37, 0, 367), (3, 72, 14, 1, 371), (3, 82, 38, 0, 373), (3, 85, 39, 0, 377), (1, 71, 42, 0, 389), (1, 75, 31, 0, 397), (0, 87, 45, 0, 402), (0, 96, 24, 0, 410), (0, 101, 30, 0, 411), (0, 124, 50, 0, 424), (0, 127, 52, 0, 432), (0, 130, 31, 0, 436), (0, 133, 34, 0, 441), (0, 147, 55, 0, 446), (0, 150, 57, 0, 454), (0, 153, 59, 0, 462), (3, 88, 60, 0, 466), (0, 156, 62, 0, 474), (0, 159, 64, 0, 482), (0, 166, 7, 0, 494), (0, 175, 69, 0, 503), (0, 179, 72, 0, 515), (4, 19, 73, 0, 519), (4, 23, 74, 0, 523), (4, 27, 75, 0, 526), (4, 31, 76, 0, 529), (4, 35, 77, 0, 532), (4, 39, 78, 0, 535), (0, 182, 80, 0, 542), (0, 185, 85, 0, 563), (0, 238, 73, 0, 546), (0, 242, 81, 0, 547), (0, 245, 82, 0, 551), (0, 249, 83, 0, 555), (0, 252, 84, 0, 559), (0, 191, 87, 0, 571), (0, 196, 46, 0, 580), (0, 199, 89, 0, 581), (0, 203, 90, 0, 585), (0, 207, 91, 0, 591), (0, 210, 92, 0, 596), (0, 213, 63, 0, 600), (0, 255, 49, 0, 589), (0, 258, 65, 0, 590), (0, 261, 51, 0, 595), (5, 106, 95, 0, 660), (5, 109, 100, 0, 678), (5, 112, 102, 0, 685), (5, 43, 96, 0, 664), (5, 100, 98, 0, 670), (5, 39, 97, 0, 667), (5, 47, 99, 0, 674), (5, 35, 101, 0, 682), (5, 103, 103, 0, 689), (5, 96, 104, 0, 693), (5, 118, 106, 0, 701), (5, 121, 108, 0, 708), (5, 115, 107, 0, 705), (5, 127, 110, 0, 716), (5, 131, 111, 0, 720), (5, 124, 112, 0, 724), (5, 137, 114, 0, 731), (5, 140, 115, 0, 735), (5, 134, 116, 0, 739), (5, 65, 126, 0, 779), (5, 87, 117, 0, 743), (5, 90, 118, 0, 747), (5, 93, 129, 0, 790), (5, 77, 119, 0, 751), (5, 81, 127, 0, 782), (5, 84, 128, 0, 786), (5, 71, 120, 0, 755), (5, 74, 122, 0, 763), (5, 51, 121, 0, 759), (5, 68, 123, 0, 767), (5, 61, 124, 0, 771), (5, 55, 125, 0, 775), (5, 143, 131, 0, 798), (5, 146, 134, 0, 810), (5, 152, 136, 0, 817), (5, 149, 137, 0, 821), (5, 155, 141, 0, 837), (5, 158, 143, 0, 845), (5, 164, 147, 0, 861), (5, 161, 148, 0, 865), (5, 170, 150, 0, 873), (5, 173, 151, 0, 877), (5, 176, 154, 0, 889), (5, 179, 156, 0, 897), (5, 219, 162, 0, 921), (5, 216, 163, 0, 925), (5, 197, 167, 0, 941), (5, 188, 164, 0, 929), (5, 206, 165, 0, 933), (5, 210, 166, 0, 937), (5, 213, 168, 0, 945), (5, 222, 170, 0, 953), (5, 225, 171, 0, 957), (6, 9, 0, 0, 76), (6, 12, 93, 0, 603), (6, 13, 5, 0, 234), (6, 17, 132, 0, 802), (6, 18, 8, 0, 252), (6, 22, 133, 0, 806), (6, 23, 10, 0, 259), (6, 26, 94, 0, 656), (6, 27, 16, 0, 281), (6, 31, 105, 0, 697), (6, 32, 21, 0, 300), (6, 35, 109, 0, 712), (6, 36, 25, 0, 318), (6, 39, 113, 0, 727), (6, 40, 44, 0, 398), (6, 43, 130, 0, 794), (6, 44, 46, 0, 406), (6, 47, 135, 0, 813), (6, 48, 47, 0, 412), (6, 51, 138, 0, 825), (6, 52, 48, 0, 416), (6, 55, 139, 0, 829), (6, 56, 49, 0, 420), (6, 59, 140, 0, 833), (6, 60, 51, 0, 428), (6, 63, 142, 0, 841), (6, 64, 53, 0, 437), (6, 67, 144, 0, 849), (6, 68, 54, 0, 442), (6, 71, 145, 0, 853), (6, 72, 56, 0, 450), (6, 76, 146, 0, 857), (6, 77, 58, 0, 458), (6, 80, 149, 0, 869), (6, 81, 61, 0, 470), (6, 84, 152, 0, 881), (6, 85, 63, 0, 478), (6, 88, 153, 0, 885), (6, 89, 65, 0, 486), (6, 92, 155, 0, 893), (6, 93, 66, 0, 490), (6, 96, 157, 0, 901), (6, 97, 67, 0, 495), (6, 100, 158, 0, 905), (6, 101, 68, 0, 499), (6, 104, 159, 0, 909), (6, 105, 70, 0, 507), (6, 108, 160, 0, 913), (6, 109, 71, 0, 511), (6, 112, 161, 0, 917), (6, 113, 79, 0, 538), (6, 116, 169, 0, 949), (6, 117, 86, 0, 567), (6, 120, 172, 0, 961), (6, 121, 88, 0, 575), (6, 125, 173, 0, 965)]
/-- constants: owner, entry, number, 0 / 1 negative / 2 long, place -/
def sn_cnl : List (Nat × Nat × Nat × Nat × Nat) := [(8, 265, 1431655765, 0, 315), (8, 266, 858993459, 0, 316), (8, 267, 252645135, 0, 317), (0, 194, 368, 2, 579), (0, 216, 31, 2, 584), (5, 228, 368, 2, 969), (5, 230, 31, 2, 970)]
/-- class links: owner, entry, class, place -/
def sn_kl : List (Nat × Nat × Nat × Nat) := [(0, 9, 1, 82), (0, 19, 2, 143), (0, 26, 3, 163), (0, 33, 4, 203), (2, 9, 1, 149), (6, 7, 0, 74), (6, 10, 5, 601)]
/-- links of arraycopy: owner, entry, place -/
def sn_al : List (Nat × Nat × Nat) := [(1, 55, 246)]
def sn_ac : Nat × Nat × Nat := (247, 248, 71)
/-- links of Object.<init>: owner, entry, place -/
def sn_ol : List (Nat × Nat × Nat) := [(0, 3, 79), (1, 3, 87), (2, 3, 148), (3, 3, 168), (4, 3, 208), (5, 1, 606)]
/-- links of Math.min: owner, entry, place -/
def sn_nl : List (Nat × Nat × Nat) := [(2, 29, 249), (1, 78, 342), (3, 76, 372)]
def sn_nc : Nat × Nat × Nat := (250, 72, 251)
def sn_oc : Nat × Nat := (80, 81)
/-- places of instantiable and initialized of each class -/
def sn_ki : List (Nat × Nat) := [(75, 65), (83, 66), (144, 67), (164, 68), (204, 69), (602, 70)]
def sn_ar : Nat × Nat × Nat := (142, 217, 150)
