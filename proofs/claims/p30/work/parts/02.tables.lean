/-! ===== THE TABLES: classes, methods, code, links; printed by wip/gen/tables.py ===== -/
def sn_nth {α : Type} : List α → Nat → Option α
  | [], _ => none
  | a :: _, 0 => some a
  | _ :: l, n + 1 => sn_nth l n
def sn_oNl : List String := ["SnapshotRings", "SnapshotRings$State", "SnapshotRings$History", "SnapshotRings$Graph", "SnapshotRings$Schedule", "SnapshotRingsLaw", "java/lang/Object", "java/lang/Integer", "java/lang/Math"]
def sn_oN (o : Nat) : String := (sn_nth sn_oNl o).getD ""
def sn_T0 : u_T := fun k => match k with
  | 0 => ("SnapshotRings", "state", "LSnapshotRings$State;", true)
  | 1 => ("SnapshotRings", "forecast", "LSnapshotRings$State;", true)
  | 2 => ("SnapshotRings", "history", "LSnapshotRings$History;", true)
  | 3 => ("SnapshotRings", "graph", "LSnapshotRings$Graph;", true)
  | _ => ("SnapshotRings", "schedule", "LSnapshotRings$Schedule;", true)
def sn_ty0 : Nat → FieldType := fun k => match k with
  | 0 => .object "SnapshotRings$State"
  | 1 => .object "SnapshotRings$State"
  | 2 => .object "SnapshotRings$History"
  | 3 => .object "SnapshotRings$Graph"
  | _ => .object "SnapshotRings$Schedule"
def sn_T1 : u_T := fun k => match k with
  | 0 => ("SnapshotRings$State", "policy", "I", false)
  | 1 => ("SnapshotRings$State", "commits", "I", false)
  | 2 => ("SnapshotRings$State", "aborts", "I", false)
  | 3 => ("SnapshotRings$State", "openSlots", "I", false)
  | 4 => ("SnapshotRings$State", "refusals", "[I", true)
  | 5 => ("SnapshotRings$State", "summedKeys", "[I", true)
  | 6 => ("SnapshotRings$State", "leastSums", "[I", true)
  | 7 => ("SnapshotRings$State", "values", "[I", true)
  | 8 => ("SnapshotRings$State", "versions", "[I", true)
  | 9 => ("SnapshotRings$State", "snapshots", "[I", true)
  | 10 => ("SnapshotRings$State", "readKeys", "[I", true)
  | 11 => ("SnapshotRings$State", "writtenKeys", "[I", true)
  | 12 => ("SnapshotRings$State", "seenVersions", "[I", true)
  | _ => ("SnapshotRings$State", "seenValues", "[I", true)
def sn_ty1 : Nat → FieldType := fun k => match k with
  | 0 => .int
  | 1 => .int
  | 2 => .int
  | 3 => .int
  | 4 => .array .int
  | 5 => .array .int
  | 6 => .array .int
  | 7 => .array .int
  | 8 => .array .int
  | 9 => .array .int
  | 10 => .array .int
  | 11 => .array .int
  | 12 => .array .int
  | _ => .array .int
def sn_T2 : u_T := fun k => match k with
  | 0 => ("SnapshotRings$History", "states", "[LSnapshotRings$State;", true)
  | 1 => ("SnapshotRings$History", "saved", "I", false)
  | _ => ("SnapshotRings$History", "next", "I", false)
def sn_ty2 : Nat → FieldType := fun k => match k with
  | 0 => .array (.object "SnapshotRings$State")
  | 1 => .int
  | _ => .int
def sn_T3 : u_T := fun k => match k with
  | 0 => ("SnapshotRings$Graph", "nodes", "I", false)
  | 1 => ("SnapshotRings$Graph", "rows", "[I", true)
  | 2 => ("SnapshotRings$Graph", "numbers", "[I", true)
  | 3 => ("SnapshotRings$Graph", "sums", "[I", true)
  | 4 => ("SnapshotRings$Graph", "behind", "[I", true)
  | 5 => ("SnapshotRings$Graph", "overwriters", "[I", true)
  | 6 => ("SnapshotRings$Graph", "reached", "[I", true)
  | 7 => ("SnapshotRings$Graph", "steps", "[I", true)
  | 8 => ("SnapshotRings$Graph", "toldNumbers", "[I", true)
  | _ => ("SnapshotRings$Graph", "told", "I", false)
def sn_ty3 : Nat → FieldType := fun k => match k with
  | 0 => .int
  | 1 => .array .int
  | 2 => .array .int
  | 3 => .array .int
  | 4 => .array .int
  | 5 => .array .int
  | 6 => .array .int
  | 7 => .array .int
  | 8 => .array .int
  | _ => .int
def sn_T4 : u_T := fun k => match k with
  | 0 => ("SnapshotRings$Schedule", "signs", "[C", true)
  | _ => ("SnapshotRings$Schedule", "length", "I", false)
def sn_ty4 : Nat → FieldType := fun k => match k with
  | 0 => .array .char
  | _ => .int
def sn_cl : List vw_C := [("SnapshotRings", sn_T0, 5), ("SnapshotRings$State", sn_T1, 14), ("SnapshotRings$History", sn_T2, 3), ("SnapshotRings$Graph", sn_T3, 10), ("SnapshotRings$Schedule", sn_T4, 2)]
def sn_fN (ci : Nat) : Nat := (sn_nth [5, 14, 3, 10, 2] ci).getD 0
def sn_fRl : List (List Bool) := [[true, true, true, true, true], [false, false, false, false, true, true, true, true, true, true, true, true, true, true], [true, false, false], [false, true, true, true, true, true, true, true, true, false], [true, false]]
/-- is the field a reference? -/
def sn_fR (ci k : Nat) : Bool := (((sn_nth sn_fRl ci).getD []).getD k false)
def sn_ffl : List (List Bool) := [[true, true, true, true, true], [false, false, false, false, true, true, true, true, true, true, true, true, true, true], [true, false, false], [false, true, true, true, true, true, true, true, true, false], [true, false]]
/-- is the field final? -/
def sn_ff (ci k : Nat) : Bool := (((sn_nth sn_ffl ci).getD []).getD k false)
def sn_lyl : List (List Nat) := [[166, 168, 170, 172, 174], [61, 63, 65, 67, 69, 71, 73, 75, 77, 79, 81, 83, 85, 87], [103, 105, 107], [127, 129, 131, 133, 135, 137, 139, 141, 143, 145], [155, 157]]
abbrev sn_E : Type := Instr × Nat × Nat
def sn_NM : Nat := 81
def sn_mYl : List MethodName := [⟨"SnapshotRings", "<init>", "()V"⟩,
  ⟨"SnapshotRings$State", "<init>", "()V"⟩,
  ⟨"SnapshotRings$History", "<init>", "()V"⟩,
  ⟨"SnapshotRings$Graph", "<init>", "()V"⟩,
  ⟨"SnapshotRings$Schedule", "<init>", "()V"⟩,
  ⟨"SnapshotRings", "setPolicy", "(I)I"⟩,
  ⟨"SnapshotRings$History", "push", "(LSnapshotRings$State;)V"⟩,
  ⟨"SnapshotRings$State", "copyFrom", "(LSnapshotRings$State;)V"⟩,
  ⟨"SnapshotRings", "setConstraint", "(III)I"⟩,
  ⟨"SnapshotRings", "isConstraint", "(I)Z"⟩,
  ⟨"SnapshotRings", "begin", "(I)I"⟩,
  ⟨"SnapshotRings", "errorOfBegin", "(I)I"⟩,
  ⟨"SnapshotRings", "isSlot", "(I)Z"⟩,
  ⟨"SnapshotRings$State", "isOpen", "(I)Z"⟩,
  ⟨"SnapshotRings", "hasBit", "(II)Z"⟩,
  ⟨"SnapshotRings$State", "start", "(I)I"⟩,
  ⟨"SnapshotRings", "read", "(II)I"⟩,
  ⟨"SnapshotRings", "errorOfRead", "(II)I"⟩,
  ⟨"SnapshotRings", "isKey", "(I)Z"⟩,
  ⟨"SnapshotRings", "errorOfSlot", "(I)I"⟩,
  ⟨"SnapshotRings$State", "readKey", "(II)I"⟩,
  ⟨"SnapshotRings", "write", "(III)I"⟩,
  ⟨"SnapshotRings", "errorOfWrite", "(III)I"⟩,
  ⟨"SnapshotRings$State", "writeKey", "(III)I"⟩,
  ⟨"java/lang/Integer", "bitCount", "(I)I"⟩,
  ⟨"SnapshotRings", "commit", "(I)I"⟩,
  ⟨"SnapshotRings", "finish", "(LSnapshotRings$State;I)I"⟩,
  ⟨"SnapshotRings", "reasonToRefuse", "(LSnapshotRings$State;II)I"⟩,
  ⟨"SnapshotRings$State", "overwritesNewer", "(I)Z"⟩,
  ⟨"SnapshotRings$Graph", "load", "(LSnapshotRings$State;)V"⟩,
  ⟨"SnapshotRings$State", "keptCommits", "()I"⟩,
  ⟨"SnapshotRings$State", "rowOfCommit", "(I)I"⟩,
  ⟨"SnapshotRings$Graph", "setNode", "(III)V"⟩,
  ⟨"SnapshotRings$Graph", "link", "(LSnapshotRings$State;II)V"⟩,
  ⟨"SnapshotRings$State", "dependencySum", "(IIII)I"⟩,
  ⟨"SnapshotRings$Graph", "join", "(LSnapshotRings$State;I)V"⟩,
  ⟨"SnapshotRings$Graph", "findRing", "()V"⟩,
  ⟨"SnapshotRings$Graph", "countSteps", "(I)V"⟩,
  ⟨"SnapshotRings$Graph", "lowestBehind", "(II)I"⟩,
  ⟨"SnapshotRings$Graph", "tell", "(I)V"⟩,
  ⟨"SnapshotRings$Graph", "hasPivot", "()Z"⟩,
  ⟨"SnapshotRings$State", "refuse", "(II)V"⟩,
  ⟨"SnapshotRings$State", "free", "(I)V"⟩,
  ⟨"SnapshotRings$State", "keepCommit", "(I)I"⟩,
  ⟨"SnapshotRings", "abort", "(I)I"⟩,
  ⟨"SnapshotRings$State", "giveUp", "(I)I"⟩,
  ⟨"SnapshotRings", "ifAllCommitted", "()I"⟩,
  ⟨"SnapshotRings$State", "constraintIsMet", "([III)Z"⟩,
  ⟨"SnapshotRingsLaw", "cell", "([II)I"⟩,
  ⟨"SnapshotRingsLaw", "low", "(II)I"⟩,
  ⟨"SnapshotRingsLaw", "commit", "(I[I[I[I[I)I"⟩,
  ⟨"SnapshotRingsLaw", "reason", "(II[I[I[I)I"⟩,
  ⟨"SnapshotRingsLaw", "version", "(II[I)I"⟩,
  ⟨"SnapshotRingsLaw", "behind", "(II[I[I[I)[I"⟩,
  ⟨"SnapshotRingsLaw", "depends", "(III[I[I[I)I"⟩,
  ⟨"SnapshotRingsLaw", "part", "(III[I[I[I)I"⟩,
  ⟨"SnapshotRingsLaw", "steps", "(I[I)[I"⟩,
  ⟨"SnapshotRingsLaw", "value", "(II[I[I)I"⟩,
  ⟨"SnapshotRingsLaw", "holds", "(II[I[I[I[I)I"⟩,
  ⟨"SnapshotRingsLaw", "same", "(LSnapshotRings;[I[I[I[I)Z"⟩,
  ⟨"SnapshotRings", "version", "(I)I"⟩,
  ⟨"SnapshotRings", "value", "(I)I"⟩,
  ⟨"SnapshotRings", "of", "(II)I"⟩,
  ⟨"SnapshotRings$State", "partOfRow", "(II)I"⟩,
  ⟨"SnapshotRings", "refusedBy", "(I)I"⟩,
  ⟨"SnapshotRings", "holdsFor", "(II)I"⟩,
  ⟨"SnapshotRings", "ringOf", "(II)I"⟩,
  ⟨"SnapshotRings$Graph", "toldAt", "(I)I"⟩,
  ⟨"SnapshotRings", "ofCommit", "(II)I"⟩,
  ⟨"SnapshotRings$State", "isKept", "(I)Z"⟩,
  ⟨"SnapshotRings", "dependency", "(II)I"⟩,
  ⟨"SnapshotRings", "orderAt", "(I)I"⟩,
  ⟨"SnapshotRings$Graph", "findOrder", "()V"⟩,
  ⟨"SnapshotRings$Graph", "lowestPossible", "(I)I"⟩,
  ⟨"SnapshotRings", "holds", "(I)I"⟩,
  ⟨"SnapshotRings", "count", "(I)I"⟩,
  ⟨"SnapshotRings", "inRings", "()I"⟩,
  ⟨"SnapshotRings$Graph", "countNodesInRings", "()I"⟩,
  ⟨"SnapshotRings", "skews", "()I"⟩,
  ⟨"SnapshotRings$Graph", "countSkewPairs", "()I"⟩,
  ⟨"SnapshotRingsLaw", "law", "([I)Z"⟩]
def sn_mY (m : Nat) : MethodName := (sn_nth sn_mYl m).getD ⟨"", "", ""⟩
def sn_mBl : List ByteArray := [prog_1_method_1_code, prog_5_method_1_code, prog_3_method_1_code, prog_2_method_1_code, prog_4_method_1_code, prog_1_method_2_code, prog_3_method_2_code, prog_5_method_2_code, prog_1_method_3_code, prog_1_method_31_code, prog_1_method_4_code, prog_1_method_34_code, prog_1_method_30_code, prog_5_method_3_code, prog_1_method_32_code, prog_5_method_4_code, prog_1_method_5_code, prog_1_method_36_code, prog_1_method_29_code, prog_1_method_35_code, prog_5_method_5_code, prog_1_method_6_code, prog_1_method_37_code, prog_5_method_6_code, prog_8_method_49_code, prog_1_method_7_code, prog_1_method_39_code, prog_1_method_38_code, prog_5_method_15_code, prog_2_method_2_code, prog_5_method_11_code, prog_5_method_13_code, prog_2_method_4_code, prog_2_method_5_code, prog_5_method_17_code, prog_2_method_3_code, prog_2_method_8_code, prog_2_method_9_code, prog_2_method_10_code, prog_2_method_7_code, prog_2_method_11_code, prog_5_method_8_code, prog_5_method_10_code, prog_5_method_9_code, prog_1_method_8_code, prog_5_method_7_code, prog_1_method_21_code, prog_5_method_16_code, method_2_code, method_3_code, method_10_code, method_9_code, method_4_code, method_7_code, method_6_code, method_5_code, method_8_code, method_11_code, method_12_code, method_13_code, prog_1_method_11_code, prog_1_method_10_code, prog_1_method_12_code, prog_5_method_14_code, prog_1_method_22_code, prog_1_method_20_code, prog_1_method_15_code, prog_2_method_6_code, prog_1_method_13_code, prog_5_method_12_code, prog_1_method_14_code, prog_1_method_17_code, prog_2_method_13_code, prog_2_method_14_code, prog_1_method_19_code, prog_1_method_9_code, prog_1_method_16_code, prog_2_method_12_code, prog_1_method_18_code, prog_2_method_15_code, code]
def sn_mB (m : Nat) : ByteArray := (sn_nth sn_mBl m).getD ⟨#[]⟩
def sn_mRl : List (Option FieldType) := [none, none, none, none, none, some .int, none, none, some .int, some .boolean, some .int, some .int, some .boolean, some .boolean, some .boolean, some .int, some .int, some .int, some .boolean, some .int, some .int, some .int, some .int, some .int, some .int, some .int, some .int, some .int, some .boolean, none, some .int, some .int, none, none, some .int, none, none, none, some .int, none, some .boolean, none, none, some .int, some .int, some .int, some .int, some .boolean, some .int, some .int, some .int, some .int, some .int, some (.array .int), some .int, some .int, some (.array .int), some .int, some .int, some .boolean, some .int, some .int, some .int, some .int, some .int, some .int, some .int, some .int, some .int, some .boolean, some .int, some .int, none, some .int, some .int, some .int, some .int, some .int, some .int, some .int, some .boolean]
def sn_mR (m : Nat) : Option FieldType := (sn_nth sn_mRl m).getD none
def sn_mOl : List Nat := [0, 1, 2, 3, 4, 0, 2, 1, 0, 0, 0, 0, 0, 1, 0, 1, 0, 0, 0, 0, 1, 0, 0, 1, 7, 0, 0, 0, 1, 3, 1, 1, 3, 3, 1, 3, 3, 3, 3, 3, 3, 1, 1, 1, 0, 1, 0, 1, 5, 5, 5, 5, 5, 5, 5, 5, 5, 5, 5, 5, 0, 0, 0, 1, 0, 0, 0, 3, 0, 1, 0, 0, 3, 3, 0, 0, 0, 3, 0, 3, 5]
def sn_mO (m : Nat) : Nat := (sn_nth sn_mOl m).getD 0
def sn_mLl : List Nat := [1, 1, 2, 1, 1, 3, 2, 2, 5, 1, 3, 2, 1, 2, 2, 2, 4, 3, 1, 2, 3, 5, 5, 4, 1, 3, 4, 4, 3, 5, 1, 2, 4, 5, 10, 5, 5, 6, 4, 2, 6, 3, 2, 4, 3, 2, 3, 6, 2, 2, 7, 9, 5, 9, 12, 6, 7, 5, 8, 16, 2, 2, 4, 3, 4, 4, 4, 2, 3, 2, 3, 2, 4, 4, 2, 2, 1, 3, 1, 4, 18]
def sn_mL (m : Nat) : Nat := (sn_nth sn_mLl m).getD 0
def sn_NAl : List Nat := [1, 1, 1, 1, 1, 2, 2, 2, 4, 1, 2, 2, 1, 2, 2, 2, 3, 3, 1, 2, 3, 4, 4, 4, 1, 2, 3, 4, 2, 2, 1, 2, 4, 4, 5, 3, 1, 2, 3, 2, 1, 3, 2, 2, 2, 2, 1, 4, 2, 2, 5, 5, 3, 5, 6, 6, 2, 4, 6, 5, 2, 2, 3, 3, 2, 3, 3, 2, 3, 2, 3, 2, 1, 2, 2, 2, 1, 1, 1, 1, 1]
def sn_NA (m : Nat) : Nat := (sn_nth sn_NAl m).getD 0
def sn_frl : List Nat := [3, 1, 2, 1, 1, 3, 2, 1, 3, 0, 3, 2, 0, 1, 0, 1, 4, 3, 0, 2, 1, 5, 4, 1, 0, 5, 4, 3, 1, 2, 1, 0, 0, 1, 0, 2, 2, 0, 1, 0, 1, 1, 0, 1, 3, 1, 5, 1, 0, 0, 4, 3, 0, 2, 1, 0, 0, 1, 2, 5, 1, 1, 4, 0, 4, 3, 3, 0, 1, 0, 1, 3, 2, 1, 2, 2, 3, 1, 3, 1, 6]
def sn_fr (m : Nat) : Nat := (sn_nth sn_frl m).getD 0
def sn_lol : List Nat := [61, 20, 40, 20, 20, 68, 47, 26, 68, 0, 68, 42, 0, 21, 0, 26, 85, 63, 0, 42, 21, 109, 85, 20, 0, 123, 100, 77, 21, 53, 21, 0, 0, 29, 0, 53, 44, 0, 21, 0, 21, 21, 0, 26, 68, 21, 123, 21, 0, 0, 112, 84, 0, 56, 25, 0, 0, 24, 48, 123, 20, 20, 100, 0, 100, 63, 77, 0, 22, 0, 29, 77, 44, 21, 46, 41, 77, 21, 77, 21, 158]
def sn_lo (m : Nat) : Nat := (sn_nth sn_lol m).getD 0
def sn_mcl : List Nat := [101, 10, 67, 8, 1, 0, 0, 0, 0, 0, 0, 0, 0, 0, 0, 0, 0, 0, 0, 0, 0, 0, 0, 0, 0, 0, 0, 0, 0, 0, 0, 0, 0, 0, 0, 0, 0, 0, 0, 0, 0, 0, 0, 0, 0, 0, 0, 0, 0, 0, 3, 3, 0, 1, 0, 0, 1, 0, 0, 80, 0, 0, 0, 0, 0, 0, 0, 0, 0, 0, 0, 0, 0, 0, 0, 0, 0, 0, 0, 0, 600000]
def sn_mc (m : Nat) : Nat := (sn_nth sn_mcl m).getD 0
def sn_msl : List Nat := [4541, 490, 3030, 408, 80, 0, 0, 0, 0, 0, 0, 0, 0, 0, 0, 0, 0, 0, 0, 0, 0, 0, 0, 0, 0, 0, 0, 0, 0, 0, 0, 0, 0, 0, 0, 0, 0, 0, 0, 0, 0, 0, 0, 0, 0, 0, 0, 0, 0, 0, 54, 54, 0, 18, 0, 0, 18, 0, 0, 1500, 0, 0, 0, 0, 0, 0, 0, 0, 0, 0, 0, 0, 0, 0, 0, 0, 0, 0, 0, 0, 7302250]
def sn_ms (m : Nat) : Nat := (sn_nth sn_msl m).getD 0
def sn_stl : List Bool := [false, false, false, false, false, false, false, false, false, true, false, false, true, false, true, false, false, false, true, false, false, false, false, false, true, false, false, false, false, false, false, false, false, false, false, false, false, false, false, false, false, false, false, false, false, false, false, false, true, true, true, true, true, true, true, true, true, true, true, true, false, false, false, false, false, false, false, false, false, false, false, false, false, false, false, false, false, false, false, false, true]
def sn_st (m : Nat) : Bool := (sn_nth sn_stl m).getD false
def sn_icl : List Nat := [26, 34, 95, 114, 152, 180, 184, 188, 198, 201, 205, 209, 212, 216, 219, 223, 227, 231, 234, 238, 242, 246, 250, 254, 257, 264, 268, 272, 276, 280, 284, 289, 293, 297, 301, 305, 309, 313, 319, 323, 327, 331, 335, 339, 344, 348, 352, 357, 360, 365, 369, 372, 375, 378, 381, 384, 387, 390, 393, 396, 400, 404, 408, 412, 416, 420, 424, 428, 432, 436, 441, 446, 450, 454, 458, 462, 468, 472, 476, 480, 0]
def sn_ic (m : Nat) : Nat := (sn_nth sn_icl m).getD 0
def sn_iil : List Nat := [25, 33, 94, 113, 151, 178, 182, 186, 196, 200, 203, 208, 211, 214, 218, 221, 225, 230, 233, 237, 240, 244, 249, 252, 256, 262, 267, 271, 274, 278, 282, 287, 292, 296, 299, 303, 307, 312, 318, 322, 325, 329, 334, 337, 342, 346, 350, 355, 359, 364, 368, 371, 374, 377, 380, 383, 386, 389, 392, 395, 398, 402, 406, 410, 414, 418, 422, 426, 430, 434, 439, 444, 448, 453, 456, 460, 466, 470, 474, 478, 0]
def sn_ii (m : Nat) : Nat := (sn_nth sn_iil m).getD 0
def sn_isl : List Nat := [0, 0, 0, 0, 0, 179, 183, 187, 197, 0, 204, 0, 0, 215, 0, 222, 226, 1, 0, 2, 241, 245, 3, 253, 0, 263, 4, 5, 275, 279, 283, 288, 6, 7, 300, 304, 308, 8, 9, 10, 326, 330, 11, 338, 343, 347, 351, 356, 0, 0, 0, 0, 0, 0, 0, 0, 0, 0, 0, 0, 399, 403, 407, 411, 415, 419, 423, 427, 431, 435, 440, 445, 449, 12, 457, 461, 467, 471, 475, 479, 0]
def sn_is (m : Nat) : Nat := (sn_nth sn_isl m).getD 0
def sn_inl : List Nat := [14, 15, 16, 17, 18, 14, 16, 15, 14, 14, 14, 14, 14, 15, 14, 15, 14, 14, 14, 14, 15, 14, 14, 15, 21, 14, 14, 14, 15, 17, 15, 15, 17, 17, 15, 17, 17, 17, 17, 17, 17, 15, 15, 15, 14, 15, 14, 15, 13, 13, 13, 13, 13, 13, 13, 13, 13, 13, 13, 13, 14, 14, 14, 15, 14, 14, 14, 17, 14, 15, 14, 14, 17, 17, 14, 14, 14, 17, 14, 17, 0]
def sn_in (m : Nat) : Nat := (sn_nth sn_inl m).getD 0
/-- SnapshotRings.<init>()V -/
def sn_c0 : List (List (Nat × sn_E)) := [[(0, .aload_n 0, 0, 0), (1, .invokespecial 3, 9998, 0), (4, .aload_n 0, 0, 0), (5, .new 9, 1, 0)],
  [(8, .dup, 0, 0), (9, .invokespecial 11, 1, 1), (12, .putfield 12, 0, 0), (15, .aload_n 0, 0, 0)],
  [(16, .new 9, 1, 0), (19, .dup, 0, 0), (20, .invokespecial 11, 1, 1), (23, .putfield 16, 0, 1)],
  [(26, .aload_n 0, 0, 0), (27, .new 19, 2, 0), (30, .dup, 0, 0), (31, .invokespecial 21, 2, 0)],
  [(34, .putfield 22, 0, 2), (37, .aload_n 0, 0, 0), (38, .new 26, 3, 0)],
  [(41, .dup, 0, 0), (42, .invokespecial 28, 3, 1), (45, .putfield 29, 0, 3)],
  [(48, .aload_n 0, 0, 0), (49, .new 33, 4, 0), (52, .dup, 0, 0), (53, .invokespecial 35, 4, 1)],
  [(56, .putfield 36, 0, 4), (59, .return_, 0, 0)]]
/-- SnapshotRings$State.<init>()V -/
def sn_c1 : List (List (Nat × sn_E)) := [[(0, .aload_n 0, 0, 0), (1, .invokespecial 3, 9998, 0), (4, .aload_n 0, 0, 0), (5, .iconst (4), 4, 0), (6, .newarray .int, 1, 0)],
  [(8, .putfield 9, 1, 4), (11, .aload_n 0, 0, 0), (12, .iconst (3), 3, 0), (13, .newarray .int, 1, 0), (15, .putfield 15, 1, 5)],
  [(18, .aload_n 0, 0, 0), (19, .iconst (3), 3, 0), (20, .newarray .int, 1, 0), (22, .putfield 18, 1, 6)],
  [(25, .aload_n 0, 0, 0), (26, .bipush (12), 12, 0), (28, .newarray .int, 1, 0), (30, .putfield 21, 1, 7)],
  [(33, .aload_n 0, 0, 0), (34, .bipush (12), 12, 0), (36, .newarray .int, 1, 0), (38, .putfield 24, 1, 8)],
  [(41, .aload_n 0, 0, 0), (42, .bipush (24), 24, 0), (44, .newarray .int, 1, 0), (46, .putfield 27, 1, 9)],
  [(49, .aload_n 0, 0, 0), (50, .bipush (24), 24, 0), (52, .newarray .int, 1, 0), (54, .putfield 30, 1, 10)],
  [(57, .aload_n 0, 0, 0), (58, .bipush (24), 24, 0), (60, .newarray .int, 1, 0), (62, .putfield 33, 1, 11)],
  [(65, .aload_n 0, 0, 0), (66, .sipush (288), 288, 0), (69, .newarray .int, 1, 0), (71, .putfield 36, 1, 12)],
  [(74, .aload_n 0, 0, 0), (75, .bipush (96), 96, 0), (77, .newarray .int, 1, 0), (79, .putfield 39, 1, 13)],
  [(82, .return_, 0, 0)]]
/-- SnapshotRings$History.<init>()V -/
def sn_c2 : List (List (Nat × sn_E)) := [[(0, .aload_n 0, 0, 0), (1, .invokespecial 3, 9998, 0), (4, .aload_n 0, 0, 0), (5, .bipush (6), 6, 0), (7, .anewarray 9, 1, 0)],
  [(10, .putfield 11, 2, 0), (13, .iconst (0), 0, 0), (14, .istore_n 1, 0, 0), (15, .iload_n 1, 0, 0)],
  [(16, .bipush (6), 6, 0), (18, .if_icmp .ge (22), 40, 0), (21, .aload_n 0, 0, 0), (22, .getfield 11, 2, 0)],
  [(25, .iload_n 1, 0, 0), (26, .new 9, 1, 0), (29, .dup, 0, 0), (30, .invokespecial 17, 1, 1)],
  [(33, .aastore, 0, 0), (34, .iinc 1 (1), 1, 0), (37, .goto (-22), 15, 0)],
  [(40, .return_, 0, 0)]]
/-- SnapshotRings$Graph.<init>()V -/
def sn_c3 : List (List (Nat × sn_E)) := [[(0, .aload_n 0, 0, 0), (1, .invokespecial 3, 9998, 0), (4, .aload_n 0, 0, 0), (5, .bipush (17), 17, 0), (7, .newarray .int, 1, 0)],
  [(9, .putfield 9, 3, 1), (12, .aload_n 0, 0, 0), (13, .bipush (17), 17, 0), (15, .newarray .int, 1, 0)],
  [(17, .putfield 15, 3, 2), (20, .aload_n 0, 0, 0), (21, .sipush (289), 289, 0)],
  [(24, .newarray .int, 1, 0), (26, .putfield 18, 3, 3), (29, .aload_n 0, 0, 0), (30, .bipush (17), 17, 0)],
  [(32, .newarray .int, 1, 0), (34, .putfield 21, 3, 4), (37, .aload_n 0, 0, 0), (38, .bipush (17), 17, 0)],
  [(40, .newarray .int, 1, 0), (42, .putfield 24, 3, 5), (45, .aload_n 0, 0, 0), (46, .bipush (17), 17, 0)],
  [(48, .newarray .int, 1, 0), (50, .putfield 27, 3, 6), (53, .aload_n 0, 0, 0), (54, .bipush (17), 17, 0)],
  [(56, .newarray .int, 1, 0), (58, .putfield 30, 3, 7), (61, .aload_n 0, 0, 0), (62, .bipush (17), 17, 0)],
  [(64, .newarray .int, 1, 0), (66, .putfield 33, 3, 8), (69, .return_, 0, 0)]]
/-- SnapshotRings$Schedule.<init>()V -/
def sn_c4 : List (List (Nat × sn_E)) := [[(0, .aload_n 0, 0, 0), (1, .invokespecial 3, 9998, 0), (4, .aload_n 0, 0, 0), (5, .bipush (80), 80, 0), (7, .newarray .char, 2, 0)],
  [(9, .putfield 9, 4, 0), (12, .return_, 0, 0)]]
/-- SnapshotRings.setPolicy(I)I -/
def sn_c5 : List (List (Nat × sn_E)) := [[(0, .iload_n 1, 0, 0), (1, .ifCond .lt (8), 9, 0), (4, .iload_n 1, 0, 0), (5, .iconst (2), 2, 0), (6, .if_icmp .le (7), 13, 0)],
  [(9, .sipush (-20002), 20002, 1), (12, .ireturn, 0, 0), (13, .aload_n 0, 0, 0), (14, .getfield 22, 0, 2)],
  [(17, .aload_n 0, 0, 0), (18, .getfield 12, 0, 0), (21, .invokevirtual 40, 6, 0)],
  [(24, .aload_n 0, 0, 0), (25, .getfield 12, 0, 0), (28, .getfield 44, 1, 0), (31, .istore_n 2, 0, 0)],
  [(32, .aload_n 0, 0, 0), (33, .getfield 12, 0, 0), (36, .iload_n 1, 0, 0), (37, .putfield 44, 1, 0)],
  [(40, .iload_n 2, 0, 0), (41, .ireturn, 0, 0)]]
/-- SnapshotRings$History.push(LSnapshotRings$State;)V -/
def sn_c6 : List (List (Nat × sn_E)) := [[(0, .aload_n 0, 0, 0), (1, .getfield 11, 2, 0), (4, .aload_n 0, 0, 0), (5, .getfield 18, 2, 2)],
  [(8, .aaload, 0, 0), (9, .aload_n 1, 0, 0), (10, .invokevirtual 22, 7, 0), (13, .aload_n 0, 0, 0), (14, .aload_n 0, 0, 0), (15, .getfield 18, 2, 2)],
  [(18, .iconst (1), 1, 0), (19, .iadd, 0, 0), (20, .bipush (6), 6, 0), (22, .irem, 0, 0), (23, .putfield 18, 2, 2)],
  [(26, .aload_n 0, 0, 0), (27, .aload_n 0, 0, 0), (28, .getfield 26, 2, 1), (31, .iconst (1), 1, 0)],
  [(32, .iadd, 0, 0), (33, .bipush (6), 6, 0), (35, .invokestatic 29, 9997, 0), (38, .putfield 26, 2, 1)],
  [(41, .return_, 0, 0)]]
/-- SnapshotRings$State.copyFrom(LSnapshotRings$State;)V -/
def sn_c7 : List (List (Nat × sn_E)) := [[(0, .aload_n 0, 0, 0), (1, .aload_n 1, 0, 0), (2, .getfield 42, 1, 0), (5, .putfield 42, 1, 0)],
  [(8, .aload_n 0, 0, 0), (9, .aload_n 1, 0, 0), (10, .getfield 46, 1, 1), (13, .putfield 46, 1, 1)],
  [(16, .aload_n 0, 0, 0), (17, .aload_n 1, 0, 0), (18, .getfield 49, 1, 2), (21, .putfield 49, 1, 2)],
  [(24, .aload_n 0, 0, 0), (25, .aload_n 1, 0, 0), (26, .getfield 52, 1, 3), (29, .putfield 52, 1, 3)],
  [(32, .aload_n 1, 0, 0), (33, .getfield 9, 1, 4), (36, .iconst (0), 0, 0), (37, .aload_n 0, 0, 0), (38, .getfield 9, 1, 4)],
  [(41, .iconst (0), 0, 0), (42, .iconst (4), 4, 0), (43, .invokestatic 55, 9999, 0), (46, .aload_n 1, 0, 0), (47, .getfield 15, 1, 5)],
  [(50, .iconst (0), 0, 0), (51, .aload_n 0, 0, 0), (52, .getfield 15, 1, 5), (55, .iconst (0), 0, 0)],
  [(56, .iconst (3), 3, 0), (57, .invokestatic 55, 9999, 0), (60, .aload_n 1, 0, 0), (61, .getfield 18, 1, 6)],
  [(64, .iconst (0), 0, 0), (65, .aload_n 0, 0, 0), (66, .getfield 18, 1, 6), (69, .iconst (0), 0, 0), (70, .iconst (3), 3, 0), (71, .invokestatic 55, 9999, 0)],
  [(74, .aload_n 1, 0, 0), (75, .getfield 21, 1, 7), (78, .iconst (0), 0, 0), (79, .aload_n 0, 0, 0)],
  [(80, .getfield 21, 1, 7), (83, .iconst (0), 0, 0), (84, .bipush (12), 12, 0), (86, .invokestatic 55, 9999, 0)],
  [(89, .aload_n 1, 0, 0), (90, .getfield 24, 1, 8), (93, .iconst (0), 0, 0), (94, .aload_n 0, 0, 0), (95, .getfield 24, 1, 8)],
  [(98, .iconst (0), 0, 0), (99, .bipush (12), 12, 0), (101, .invokestatic 55, 9999, 0)],
  [(104, .aload_n 1, 0, 0), (105, .getfield 27, 1, 9), (108, .iconst (0), 0, 0), (109, .aload_n 0, 0, 0), (110, .getfield 27, 1, 9)],
  [(113, .iconst (0), 0, 0), (114, .bipush (24), 24, 0), (116, .invokestatic 55, 9999, 0), (119, .aload_n 1, 0, 0)],
  [(120, .getfield 30, 1, 10), (123, .iconst (0), 0, 0), (124, .aload_n 0, 0, 0), (125, .getfield 30, 1, 10)],
  [(128, .iconst (0), 0, 0), (129, .bipush (24), 24, 0), (131, .invokestatic 55, 9999, 0), (134, .aload_n 1, 0, 0), (135, .getfield 33, 1, 11)],
  [(138, .iconst (0), 0, 0), (139, .aload_n 0, 0, 0), (140, .getfield 33, 1, 11), (143, .iconst (0), 0, 0)],
  [(144, .bipush (24), 24, 0), (146, .invokestatic 55, 9999, 0), (149, .aload_n 1, 0, 0), (150, .getfield 36, 1, 12)],
  [(153, .iconst (0), 0, 0), (154, .aload_n 0, 0, 0), (155, .getfield 36, 1, 12), (158, .iconst (0), 0, 0), (159, .sipush (288), 288, 0)],
  [(162, .invokestatic 55, 9999, 0), (165, .aload_n 1, 0, 0), (166, .getfield 39, 1, 13)],
  [(169, .iconst (0), 0, 0), (170, .aload_n 0, 0, 0), (171, .getfield 39, 1, 13), (174, .iconst (0), 0, 0), (175, .bipush (96), 96, 0)],
  [(177, .invokestatic 55, 9999, 0), (180, .return_, 0, 0)]]
/-- SnapshotRings.setConstraint(III)I -/
def sn_c8 : List (List (Nat × sn_E)) := [[(0, .iload_n 1, 0, 0), (1, .invokestatic 48, 9, 0), (4, .ifCond .ne (7), 11, 0), (7, .sipush (-20001), 20001, 1)],
  [(10, .ireturn, 0, 0), (11, .iload_n 2, 0, 0), (12, .ifCond .lt (24), 36, 0), (15, .iload_n 2, 0, 0)],
  [(16, .sipush (4095), 4095, 0), (19, .if_icmp .gt (17), 36, 0), (22, .iload_n 3, 0, 0), (23, .sipush (-9999), 9999, 1)],
  [(26, .if_icmp .lt (10), 36, 0), (29, .iload_n 3, 0, 0), (30, .sipush (9999), 9999, 0)],
  [(33, .if_icmp .le (7), 40, 0), (36, .sipush (-20002), 20002, 1), (39, .ireturn, 0, 0)],
  [(40, .aload_n 0, 0, 0), (41, .getfield 22, 0, 2), (44, .aload_n 0, 0, 0), (45, .getfield 12, 0, 0)],
  [(48, .invokevirtual 40, 6, 0), (51, .aload_n 0, 0, 0), (52, .getfield 12, 0, 0), (55, .getfield 52, 1, 6)],
  [(58, .iload_n 1, 0, 0), (59, .iaload, 0, 0), (60, .istore 4, 4, 0), (62, .aload_n 0, 0, 0), (63, .getfield 12, 0, 0)],
  [(66, .getfield 56, 1, 5), (69, .iload_n 1, 0, 0), (70, .iload_n 2, 0, 0), (71, .iastore, 0, 0)],
  [(72, .aload_n 0, 0, 0), (73, .getfield 12, 0, 0), (76, .getfield 52, 1, 6), (79, .iload_n 1, 0, 0)],
  [(80, .iload_n 3, 0, 0), (81, .iastore, 0, 0), (82, .iload 4, 4, 0), (84, .ireturn, 0, 0)]]
/-- SnapshotRings.isConstraint(I)Z -/
def sn_c9 : List (List (Nat × sn_E)) := [[(0, .iload_n 0, 0, 0), (1, .ifCond .lt (12), 13, 0), (4, .iload_n 0, 0, 0), (5, .iconst (3), 3, 0), (6, .if_icmp .ge (7), 13, 0)],
  [(9, .iconst (1), 1, 0), (10, .goto (4), 14, 0), (13, .iconst (0), 0, 0), (14, .ireturn, 0, 0)]]
/-- SnapshotRings.begin(I)I -/
def sn_c10 : List (List (Nat × sn_E)) := [[(0, .aload_n 0, 0, 0), (1, .iload_n 1, 0, 0), (2, .invokevirtual 59, 11, 0), (5, .istore_n 2, 0, 0), (6, .iload_n 2, 0, 0), (7, .ifCond .eq (5), 12, 0)],
  [(10, .iload_n 2, 0, 0), (11, .ireturn, 0, 0), (12, .aload_n 0, 0, 0), (13, .getfield 22, 0, 2)],
  [(16, .aload_n 0, 0, 0), (17, .getfield 12, 0, 0), (20, .invokevirtual 40, 6, 0), (23, .aload_n 0, 0, 0)],
  [(24, .getfield 12, 0, 0), (27, .iload_n 1, 0, 0), (28, .invokevirtual 63, 15, 0), (31, .ireturn, 0, 0)]]
/-- SnapshotRings.errorOfBegin(I)I -/
def sn_c11 : List (List (Nat × sn_E)) := [[(0, .iload_n 1, 0, 0), (1, .invokestatic 218, 12, 0), (4, .ifCond .ne (7), 11, 0), (7, .sipush (-20001), 20001, 1)],
  [(10, .ireturn, 0, 0), (11, .aload_n 0, 0, 0), (12, .getfield 12, 0, 0), (15, .iload_n 1, 0, 0)],
  [(16, .invokevirtual 169, 13, 0), (19, .ifCond .eq (9), 28, 0), (22, .sipush (-20003), 20003, 1)],
  [(25, .goto (4), 29, 0), (28, .iconst (0), 0, 0), (29, .ireturn, 0, 0)]]
/-- SnapshotRings.isSlot(I)Z -/
def sn_c12 : List (List (Nat × sn_E)) := [[(0, .iload_n 0, 0, 0), (1, .ifCond .lt (13), 14, 0), (4, .iload_n 0, 0, 0), (5, .bipush (8), 8, 0), (7, .if_icmp .ge (7), 14, 0)],
  [(10, .iconst (1), 1, 0), (11, .goto (4), 15, 0), (14, .iconst (0), 0, 0), (15, .ireturn, 0, 0)]]
/-- SnapshotRings$State.isOpen(I)Z -/
def sn_c13 : List (List (Nat × sn_E)) := [[(0, .aload_n 0, 0, 0), (1, .getfield 52, 1, 3), (4, .iload_n 1, 0, 0), (5, .invokestatic 61, 14, 1)],
  [(8, .ireturn, 0, 0)]]
/-- SnapshotRings.hasBit(II)Z -/
def sn_c14 : List (List (Nat × sn_E)) := [[(0, .iload_n 0, 0, 0), (1, .iload_n 1, 0, 0), (2, .ishr, 0, 0), (3, .iconst (1), 1, 0), (4, .iand, 0, 0), (5, .iconst (1), 1, 0), (6, .if_icmp .ne (7), 13, 0)],
  [(9, .iconst (1), 1, 0), (10, .goto (4), 14, 0), (13, .iconst (0), 0, 0), (14, .ireturn, 0, 0)]]
/-- SnapshotRings$State.start(I)I -/
def sn_c15 : List (List (Nat × sn_E)) := [[(0, .aload_n 0, 0, 0), (1, .dup, 0, 0), (2, .getfield 52, 1, 3), (5, .iconst (1), 1, 0), (6, .iload_n 1, 0, 0), (7, .ishl, 0, 0)],
  [(8, .ior, 0, 0), (9, .putfield 52, 1, 3), (12, .aload_n 0, 0, 0), (13, .getfield 27, 1, 9)],
  [(16, .iload_n 1, 0, 0), (17, .aload_n 0, 0, 0), (18, .getfield 46, 1, 1), (21, .iastore, 0, 0), (22, .aload_n 0, 0, 0), (23, .getfield 30, 1, 10)],
  [(26, .iload_n 1, 0, 0), (27, .iconst (0), 0, 0), (28, .iastore, 0, 0), (29, .aload_n 0, 0, 0), (30, .getfield 33, 1, 11)],
  [(33, .iload_n 1, 0, 0), (34, .iconst (0), 0, 0), (35, .iastore, 0, 0), (36, .aload_n 0, 0, 0), (37, .getfield 24, 1, 8)],
  [(40, .iconst (0), 0, 0), (41, .aload_n 0, 0, 0), (42, .getfield 36, 1, 12), (45, .iload_n 1, 0, 0), (46, .bipush (12), 12, 0)],
  [(48, .imul, 0, 0), (49, .bipush (12), 12, 0), (51, .invokestatic 55, 9999, 0), (54, .aload_n 0, 0, 0), (55, .getfield 21, 1, 7)],
  [(58, .iconst (0), 0, 0), (59, .aload_n 0, 0, 0), (60, .getfield 39, 1, 13), (63, .iload_n 1, 0, 0)],
  [(64, .bipush (12), 12, 0), (66, .imul, 0, 0), (67, .bipush (12), 12, 0), (69, .invokestatic 55, 9999, 0)],
  [(72, .aload_n 0, 0, 0), (73, .getfield 46, 1, 1), (76, .ireturn, 0, 0)]]
/-- SnapshotRings.read(II)I -/
def sn_c16 : List (List (Nat × sn_E)) := [[(0, .aload_n 0, 0, 0), (1, .iload_n 1, 0, 0), (2, .iload_n 2, 0, 0), (3, .invokevirtual 66, 17, 0), (6, .istore_n 3, 0, 0), (7, .iload_n 3, 0, 0)],
  [(8, .ifCond .eq (5), 13, 0), (11, .iload_n 3, 0, 0), (12, .ireturn, 0, 0), (13, .aload_n 0, 0, 0), (14, .getfield 22, 0, 2)],
  [(17, .aload_n 0, 0, 0), (18, .getfield 12, 0, 0), (21, .invokevirtual 40, 6, 0)],
  [(24, .aload_n 0, 0, 0), (25, .getfield 12, 0, 0), (28, .iload_n 1, 0, 0), (29, .iload_n 2, 0, 0), (30, .invokevirtual 70, 20, 0)],
  [(33, .ireturn, 0, 0)]]
/-- SnapshotRings.errorOfRead(II)I -/
def sn_c17 : List (List (Nat × sn_E)) := [[(0, .iload_n 2, 0, 0), (1, .invokestatic 111, 18, 0), (4, .ifCond .eq (11), 15, 0), (7, .aload_n 0, 0, 0)],
  [(8, .iload_n 1, 0, 0), (9, .invokevirtual 80, 19, 0), (12, .goto (6), 18, 0), (15, .sipush (-20001), 20001, 1)],
  [(18, .ireturn, 0, 0)]]
/-- SnapshotRings.isKey(I)Z -/
def sn_c18 : List (List (Nat × sn_E)) := [[(0, .iload_n 0, 0, 0), (1, .ifCond .lt (13), 14, 0), (4, .iload_n 0, 0, 0), (5, .bipush (12), 12, 0), (7, .if_icmp .ge (7), 14, 0)],
  [(10, .iconst (1), 1, 0), (11, .goto (4), 15, 0), (14, .iconst (0), 0, 0), (15, .ireturn, 0, 0)]]
/-- SnapshotRings.errorOfSlot(I)I -/
def sn_c19 : List (List (Nat × sn_E)) := [[(0, .iload_n 1, 0, 0), (1, .invokestatic 218, 12, 0), (4, .ifCond .eq (18), 22, 0), (7, .aload_n 0, 0, 0)],
  [(8, .getfield 12, 0, 0), (11, .iload_n 1, 0, 0), (12, .invokevirtual 169, 13, 0), (15, .ifCond .eq (7), 22, 0)],
  [(18, .iconst (0), 0, 0), (19, .goto (6), 25, 0), (22, .sipush (-20001), 20001, 1)],
  [(25, .ireturn, 0, 0)]]
/-- SnapshotRings$State.readKey(II)I -/
def sn_c20 : List (List (Nat × sn_E)) := [[(0, .aload_n 0, 0, 0), (1, .getfield 33, 1, 11), (4, .iload_n 1, 0, 0), (5, .iaload, 0, 0), (6, .iload_n 2, 0, 0), (7, .invokestatic 61, 14, 1)],
  [(10, .ifCond .ne (15), 25, 0), (13, .aload_n 0, 0, 0), (14, .getfield 30, 1, 10)],
  [(17, .iload_n 1, 0, 0), (18, .dup2, 0, 0), (19, .iaload, 0, 0), (20, .iconst (1), 1, 0), (21, .iload_n 2, 0, 0), (22, .ishl, 0, 0), (23, .ior, 0, 0)],
  [(24, .iastore, 0, 0), (25, .aload_n 0, 0, 0), (26, .getfield 39, 1, 13), (29, .iload_n 1, 0, 0), (30, .bipush (12), 12, 0)],
  [(32, .imul, 0, 0), (33, .iload_n 2, 0, 0), (34, .iadd, 0, 0), (35, .iaload, 0, 0), (36, .ireturn, 0, 0)]]
/-- SnapshotRings.write(III)I -/
def sn_c21 : List (List (Nat × sn_E)) := [[(0, .aload_n 0, 0, 0), (1, .iload_n 1, 0, 0), (2, .iload_n 2, 0, 0), (3, .iload_n 3, 0, 0), (4, .invokevirtual 73, 22, 0), (7, .istore 4, 4, 0)],
  [(9, .iload 4, 4, 0), (11, .ifCond .eq (6), 17, 0), (14, .iload 4, 4, 0)],
  [(16, .ireturn, 0, 0), (17, .aload_n 0, 0, 0), (18, .getfield 22, 0, 2), (21, .aload_n 0, 0, 0), (22, .getfield 12, 0, 0)],
  [(25, .invokevirtual 40, 6, 0), (28, .aload_n 0, 0, 0), (29, .getfield 12, 0, 0)],
  [(32, .iload_n 1, 0, 0), (33, .iload_n 2, 0, 0), (34, .iload_n 3, 0, 0), (35, .invokevirtual 77, 23, 0), (38, .ireturn, 0, 0)]]
/-- SnapshotRings.errorOfWrite(III)I -/
def sn_c22 : List (List (Nat × sn_E)) := [[(0, .aload_n 0, 0, 0), (1, .iload_n 1, 0, 0), (2, .iload_n 2, 0, 0), (3, .invokevirtual 66, 17, 0), (6, .istore 4, 4, 0)],
  [(8, .iload 4, 4, 0), (10, .ifCond .eq (6), 16, 0), (13, .iload 4, 4, 0), (15, .ireturn, 0, 0)],
  [(16, .iload_n 3, 0, 0), (17, .sipush (-999), 999, 1), (20, .if_icmp .lt (10), 30, 0), (23, .iload_n 3, 0, 0)],
  [(24, .sipush (999), 999, 0), (27, .if_icmp .le (9), 36, 0), (30, .sipush (-20002), 20002, 1)],
  [(33, .goto (4), 37, 0), (36, .iconst (0), 0, 0), (37, .ireturn, 0, 0)]]
/-- SnapshotRings$State.writeKey(III)I -/
def sn_c23 : List (List (Nat × sn_E)) := [[(0, .aload_n 0, 0, 0), (1, .getfield 33, 1, 11), (4, .iload_n 1, 0, 0), (5, .dup2, 0, 0), (6, .iaload, 0, 0), (7, .iconst (1), 1, 0)],
  [(8, .iload_n 2, 0, 0), (9, .ishl, 0, 0), (10, .ior, 0, 0), (11, .iastore, 0, 0), (12, .aload_n 0, 0, 0), (13, .getfield 39, 1, 13)],
  [(16, .iload_n 1, 0, 0), (17, .bipush (12), 12, 0), (19, .imul, 0, 0), (20, .iload_n 2, 0, 0), (21, .iadd, 0, 0), (22, .iload_n 3, 0, 0), (23, .iastore, 0, 0)],
  [(24, .aload_n 0, 0, 0), (25, .getfield 33, 1, 11), (28, .iload_n 1, 0, 0), (29, .iaload, 0, 0), (30, .invokestatic 65, 24, 0)],
  [(33, .ireturn, 0, 0)]]
/-- java/lang/Integer.bitCount(I)I -/
def sn_c24 : List (List (Nat × sn_E)) := [[(0, .iload_n 0, 0, 0), (1, .iload_n 0, 0, 0), (2, .iconst (1), 1, 0), (3, .iushr, 0, 0), (4, .ldc_w 265, 1431655765, 0), (7, .iand, 0, 0)],
  [(8, .isub, 0, 0), (9, .istore_n 0, 0, 0), (10, .iload_n 0, 0, 0), (11, .ldc_w 266, 858993459, 0), (14, .iand, 0, 0), (15, .iload_n 0, 0, 0)],
  [(16, .iconst (2), 2, 0), (17, .iushr, 0, 0), (18, .ldc_w 266, 858993459, 0), (21, .iand, 0, 0), (22, .iadd, 0, 0), (23, .istore_n 0, 0, 0)],
  [(24, .iload_n 0, 0, 0), (25, .iload_n 0, 0, 0), (26, .iconst (4), 4, 0), (27, .iushr, 0, 0), (28, .iadd, 0, 0), (29, .ldc_w 267, 252645135, 0)],
  [(32, .iand, 0, 0), (33, .istore_n 0, 0, 0), (34, .iload_n 0, 0, 0), (35, .iload_n 0, 0, 0), (36, .bipush (8), 8, 0), (38, .iushr, 0, 0), (39, .iadd, 0, 0)],
  [(40, .istore_n 0, 0, 0), (41, .iload_n 0, 0, 0), (42, .iload_n 0, 0, 0), (43, .bipush (16), 16, 0), (45, .iushr, 0, 0), (46, .iadd, 0, 0), (47, .istore_n 0, 0, 0)],
  [(48, .iload_n 0, 0, 0), (49, .bipush (63), 63, 0), (51, .iand, 0, 0), (52, .ireturn, 0, 0)]]
/-- SnapshotRings.commit(I)I -/
def sn_c25 : List (List (Nat × sn_E)) := [[(0, .aload_n 0, 0, 0), (1, .iload_n 1, 0, 0), (2, .invokevirtual 80, 19, 0), (5, .istore_n 2, 0, 0), (6, .iload_n 2, 0, 0), (7, .ifCond .eq (5), 12, 0)],
  [(10, .iload_n 2, 0, 0), (11, .ireturn, 0, 0), (12, .aload_n 0, 0, 0), (13, .getfield 22, 0, 2)],
  [(16, .aload_n 0, 0, 0), (17, .getfield 12, 0, 0), (20, .invokevirtual 40, 6, 0), (23, .aload_n 0, 0, 0)],
  [(24, .aload_n 0, 0, 0), (25, .getfield 12, 0, 0), (28, .iload_n 1, 0, 0), (29, .invokevirtual 83, 26, 0)],
  [(32, .ireturn, 0, 0)]]
/-- SnapshotRings.finish(LSnapshotRings$State;I)I -/
def sn_c26 : List (List (Nat × sn_E)) := [[(0, .aload_n 0, 0, 0), (1, .aload_n 1, 0, 0), (2, .iload_n 2, 0, 0), (3, .aload_n 1, 0, 0), (4, .getfield 44, 1, 0), (7, .invokevirtual 120, 27, 0)],
  [(10, .istore_n 3, 0, 0), (11, .iload_n 3, 0, 0), (12, .ifCond .eq (12), 24, 0), (15, .aload_n 1, 0, 0)],
  [(16, .iload_n 2, 0, 0), (17, .iload_n 3, 0, 0), (18, .invokevirtual 231, 41, 0), (21, .iload_n 3, 0, 0), (22, .ineg, 0, 0), (23, .ireturn, 0, 0)],
  [(24, .aload_n 1, 0, 0), (25, .iload_n 2, 0, 0), (26, .invokevirtual 235, 43, 0), (29, .ireturn, 0, 0)]]
/-- SnapshotRings.reasonToRefuse(LSnapshotRings$State;II)I -/
def sn_c27 : List (List (Nat × sn_E)) := [[(0, .aload_n 1, 0, 0), (1, .iload_n 2, 0, 0), (2, .invokevirtual 221, 28, 0), (5, .ifCond .eq (5), 10, 0)],
  [(8, .iconst (1), 1, 0), (9, .ireturn, 0, 0), (10, .iload_n 3, 0, 0), (11, .iconst (1), 1, 0), (12, .if_icmp .ge (5), 17, 0), (15, .iconst (0), 0, 0)],
  [(16, .ireturn, 0, 0), (17, .aload_n 0, 0, 0), (18, .getfield 29, 0, 3), (21, .aload_n 1, 0, 0), (22, .invokevirtual 137, 29, 0)],
  [(25, .aload_n 0, 0, 0), (26, .getfield 29, 0, 3), (29, .aload_n 1, 0, 0), (30, .iload_n 2, 0, 0), (31, .invokevirtual 140, 35, 0)],
  [(34, .aload_n 0, 0, 0), (35, .getfield 29, 0, 3), (38, .invokevirtual 144, 36, 0)],
  [(41, .aload_n 0, 0, 0), (42, .getfield 29, 0, 3), (45, .getfield 224, 3, 9)],
  [(48, .ifCond .le (5), 53, 0), (51, .iconst (2), 2, 0), (52, .ireturn, 0, 0), (53, .iload_n 3, 0, 0), (54, .iconst (2), 2, 0), (55, .if_icmp .ge (5), 60, 0)],
  [(58, .iconst (0), 0, 0), (59, .ireturn, 0, 0), (60, .aload_n 0, 0, 0), (61, .getfield 29, 0, 3)],
  [(64, .invokevirtual 227, 40, 0), (67, .ifCond .eq (7), 74, 0), (70, .iconst (3), 3, 0), (71, .goto (4), 75, 0)],
  [(74, .iconst (0), 0, 0), (75, .ireturn, 0, 0)]]
/-- SnapshotRings$State.overwritesNewer(I)Z -/
def sn_c28 : List (List (Nat × sn_E)) := [[(0, .iconst (0), 0, 0), (1, .istore_n 2, 0, 0), (2, .iload_n 2, 0, 0), (3, .bipush (12), 12, 0), (5, .if_icmp .ge (39), 44, 0)],
  [(8, .aload_n 0, 0, 0), (9, .getfield 33, 1, 11), (12, .iload_n 1, 0, 0), (13, .iaload, 0, 0), (14, .iload_n 2, 0, 0), (15, .invokestatic 61, 14, 1)],
  [(18, .ifCond .eq (20), 38, 0), (21, .aload_n 0, 0, 0), (22, .getfield 24, 1, 8)],
  [(25, .iload_n 2, 0, 0), (26, .iaload, 0, 0), (27, .aload_n 0, 0, 0), (28, .getfield 27, 1, 9), (31, .iload_n 1, 0, 0)],
  [(32, .iaload, 0, 0), (33, .if_icmp .le (5), 38, 0), (36, .iconst (1), 1, 0), (37, .ireturn, 0, 0), (38, .iinc 2 (1), 1, 0)],
  [(41, .goto (-39), 2, 0), (44, .iconst (0), 0, 0), (45, .ireturn, 0, 0)]]
/-- SnapshotRings$Graph.load(LSnapshotRings$State;)V -/
def sn_c29 : List (List (Nat × sn_E)) := [[(0, .aload_n 0, 0, 0), (1, .aload_n 1, 0, 0), (2, .invokevirtual 36, 30, 0), (5, .putfield 42, 3, 0)],
  [(8, .aload_n 1, 0, 0), (9, .getfield 46, 1, 1), (12, .aload_n 0, 0, 0), (13, .getfield 42, 3, 0)],
  [(16, .isub, 0, 0), (17, .iconst (1), 1, 0), (18, .iadd, 0, 0), (19, .istore_n 2, 0, 0), (20, .iconst (0), 0, 0), (21, .istore_n 3, 0, 0), (22, .iload_n 3, 0, 0), (23, .aload_n 0, 0, 0)],
  [(24, .getfield 42, 3, 0), (27, .if_icmp .ge (24), 51, 0), (30, .aload_n 0, 0, 0), (31, .iload_n 3, 0, 0)],
  [(32, .aload_n 1, 0, 0), (33, .iload_n 2, 0, 0), (34, .iload_n 3, 0, 0), (35, .iadd, 0, 0), (36, .invokevirtual 49, 31, 0), (39, .iload_n 2, 0, 0)],
  [(40, .iload_n 3, 0, 0), (41, .iadd, 0, 0), (42, .invokevirtual 53, 32, 0), (45, .iinc 3 (1), 1, 0)],
  [(48, .goto (-26), 22, 0), (51, .iconst (0), 0, 0), (52, .istore_n 3, 0, 0), (53, .iload_n 3, 0, 0), (54, .aload_n 0, 0, 0), (55, .getfield 42, 3, 0)],
  [(58, .if_icmp .ge (41), 99, 0), (61, .iconst (0), 0, 0), (62, .istore 4, 4, 0)],
  [(64, .iload 4, 4, 0), (66, .aload_n 0, 0, 0), (67, .getfield 42, 3, 0), (70, .if_icmp .ge (23), 93, 0)],
  [(73, .iload_n 3, 0, 0), (74, .iload 4, 4, 0), (76, .if_icmp .eq (11), 87, 0), (79, .aload_n 0, 0, 0)],
  [(80, .aload_n 1, 0, 0), (81, .iload_n 3, 0, 0), (82, .iload 4, 4, 0), (84, .invokevirtual 57, 33, 0), (87, .iinc 4 (1), 1, 0)],
  [(90, .goto (-26), 64, 0), (93, .iinc 3 (1), 1, 0)],
  [(96, .goto (-43), 53, 0), (99, .return_, 0, 0)]]
/-- SnapshotRings$State.keptCommits()I -/
def sn_c30 : List (List (Nat × sn_E)) := [[(0, .aload_n 0, 0, 0), (1, .getfield 46, 1, 1), (4, .bipush (16), 16, 0), (6, .invokestatic 78, 9997, 0)],
  [(9, .ireturn, 0, 0)]]
/-- SnapshotRings$State.rowOfCommit(I)I -/
def sn_c31 : List (List (Nat × sn_E)) := [[(0, .bipush (8), 8, 0), (2, .iload_n 1, 0, 0), (3, .iconst (1), 1, 0), (4, .isub, 0, 0), (5, .bipush (15), 15, 0), (7, .iand, 0, 0)],
  [(8, .iadd, 0, 0), (9, .ireturn, 0, 0)]]
/-- SnapshotRings$Graph.setNode(III)V -/
def sn_c32 : List (List (Nat × sn_E)) := [[(0, .aload_n 0, 0, 0), (1, .getfield 9, 3, 1), (4, .iload_n 1, 0, 0), (5, .iload_n 2, 0, 0), (6, .iastore, 0, 0), (7, .aload_n 0, 0, 0)],
  [(8, .getfield 15, 3, 2), (11, .iload_n 1, 0, 0), (12, .iload_n 3, 0, 0), (13, .iastore, 0, 0), (14, .aload_n 0, 0, 0), (15, .getfield 21, 3, 4)],
  [(18, .iload_n 1, 0, 0), (19, .iconst (0), 0, 0), (20, .iastore, 0, 0), (21, .aload_n 0, 0, 0), (22, .getfield 24, 3, 5)],
  [(25, .iload_n 1, 0, 0), (26, .iconst (0), 0, 0), (27, .iastore, 0, 0), (28, .return_, 0, 0)]]
/-- SnapshotRings$Graph.link(LSnapshotRings$State;II)V -/
def sn_c33 : List (List (Nat × sn_E)) := [[(0, .aload_n 1, 0, 0), (1, .aload_n 0, 0, 0), (2, .getfield 9, 3, 1), (5, .iload_n 2, 0, 0), (6, .iaload, 0, 0), (7, .aload_n 0, 0, 0)],
  [(8, .getfield 15, 3, 2), (11, .iload_n 2, 0, 0), (12, .iaload, 0, 0), (13, .aload_n 0, 0, 0), (14, .getfield 9, 3, 1)],
  [(17, .iload_n 3, 0, 0), (18, .iaload, 0, 0), (19, .aload_n 0, 0, 0), (20, .getfield 15, 3, 2), (23, .iload_n 3, 0, 0)],
  [(24, .iaload, 0, 0), (25, .invokevirtual 61, 34, 0), (28, .istore 4, 4, 0), (30, .aload_n 0, 0, 0), (31, .getfield 18, 3, 3)],
  [(34, .iload_n 2, 0, 0), (35, .bipush (17), 17, 0), (37, .imul, 0, 0), (38, .iload_n 3, 0, 0), (39, .iadd, 0, 0)],
  [(40, .iload 4, 4, 0), (42, .iastore, 0, 0), (43, .iload 4, 4, 0), (45, .ifCond .eq (15), 60, 0)],
  [(48, .aload_n 0, 0, 0), (49, .getfield 21, 3, 4), (52, .iload_n 2, 0, 0), (53, .dup2, 0, 0), (54, .iaload, 0, 0), (55, .iconst (1), 1, 0)],
  [(56, .iload_n 3, 0, 0), (57, .ishl, 0, 0), (58, .ior, 0, 0), (59, .iastore, 0, 0), (60, .iload 4, 4, 0), (62, .iconst (4), 4, 0), (63, .iand, 0, 0)],
  [(64, .ifCond .eq (15), 79, 0), (67, .aload_n 0, 0, 0), (68, .getfield 24, 3, 5), (71, .iload_n 2, 0, 0)],
  [(72, .dup2, 0, 0), (73, .iaload, 0, 0), (74, .iconst (1), 1, 0), (75, .iload_n 3, 0, 0), (76, .ishl, 0, 0), (77, .ior, 0, 0), (78, .iastore, 0, 0), (79, .return_, 0, 0)]]
/-- SnapshotRings$State.dependencySum(IIII)I -/
def sn_c34 : List (List (Nat × sn_E)) := [[(0, .iload_n 2, 0, 0), (1, .iload 4, 4, 0), (3, .if_icmp .ge (23), 26, 0), (6, .aload_n 0, 0, 0), (7, .getfield 33, 1, 11)],
  [(10, .iload_n 1, 0, 0), (11, .iaload, 0, 0), (12, .aload_n 0, 0, 0), (13, .getfield 33, 1, 11)],
  [(16, .iload_n 3, 0, 0), (17, .iaload, 0, 0), (18, .iand, 0, 0), (19, .ifCond .eq (7), 26, 0), (22, .iconst (1), 1, 0), (23, .goto (4), 27, 0)],
  [(26, .iconst (0), 0, 0), (27, .istore 5, 5, 0), (29, .aload_n 0, 0, 0), (30, .getfield 33, 1, 11)],
  [(33, .iload_n 1, 0, 0), (34, .iaload, 0, 0), (35, .aload_n 0, 0, 0), (36, .getfield 30, 1, 10), (39, .iload_n 3, 0, 0)],
  [(40, .iaload, 0, 0), (41, .iand, 0, 0), (42, .istore 6, 6, 0), (44, .aload_n 0, 0, 0), (45, .getfield 30, 1, 10)],
  [(48, .iload_n 1, 0, 0), (49, .iaload, 0, 0), (50, .aload_n 0, 0, 0), (51, .getfield 33, 1, 11), (54, .iload_n 3, 0, 0), (55, .iaload, 0, 0)],
  [(56, .iand, 0, 0), (57, .istore 7, 7, 0), (59, .iload 6, 6, 0), (61, .iload 7, 7, 0), (63, .ior, 0, 0)],
  [(64, .ifCond .ne (6), 70, 0), (67, .iload 5, 5, 0), (69, .ireturn, 0, 0), (70, .iconst (0), 0, 0), (71, .istore 8, 8, 0)],
  [(73, .iload 8, 8, 0), (75, .bipush (12), 12, 0), (77, .if_icmp .ge (76), 153, 0)],
  [(80, .iconst (1), 1, 0), (81, .iload 8, 8, 0), (83, .ishl, 0, 0), (84, .istore 9, 9, 0), (86, .iload 6, 6, 0)],
  [(88, .iload 9, 9, 0), (90, .iand, 0, 0), (91, .ifCond .eq (25), 116, 0), (94, .aload_n 0, 0, 0), (95, .getfield 36, 1, 12)],
  [(98, .iload_n 3, 0, 0), (99, .bipush (12), 12, 0), (101, .imul, 0, 0), (102, .iload 8, 8, 0)],
  [(104, .iadd, 0, 0), (105, .iaload, 0, 0), (106, .iload_n 2, 0, 0), (107, .if_icmp .ne (9), 116, 0), (110, .iload 5, 5, 0)],
  [(112, .iconst (2), 2, 0), (113, .ior, 0, 0), (114, .istore 5, 5, 0), (116, .iload 7, 7, 0), (118, .iload 9, 9, 0)],
  [(120, .iand, 0, 0), (121, .ifCond .eq (26), 147, 0), (124, .aload_n 0, 0, 0), (125, .getfield 36, 1, 12)],
  [(128, .iload_n 1, 0, 0), (129, .bipush (12), 12, 0), (131, .imul, 0, 0), (132, .iload 8, 8, 0), (134, .iadd, 0, 0), (135, .iaload, 0, 0)],
  [(136, .iload 4, 4, 0), (138, .if_icmp .ge (9), 147, 0), (141, .iload 5, 5, 0), (143, .iconst (4), 4, 0)],
  [(144, .ior, 0, 0), (145, .istore 5, 5, 0), (147, .iinc 8 (1), 1, 0), (150, .goto (-77), 73, 0)],
  [(153, .iload 5, 5, 0), (155, .ireturn, 0, 0)]]
/-- SnapshotRings$Graph.join(LSnapshotRings$State;I)V -/
def sn_c35 : List (List (Nat × sn_E)) := [[(0, .aload_n 0, 0, 0), (1, .getfield 42, 3, 0), (4, .bipush (17), 17, 0), (6, .if_icmp .lt (4), 10, 0)],
  [(9, .return_, 0, 0), (10, .aload_n 0, 0, 0), (11, .getfield 42, 3, 0), (14, .istore_n 3, 0, 0), (15, .aload_n 0, 0, 0)],
  [(16, .dup, 0, 0), (17, .getfield 42, 3, 0), (20, .iconst (1), 1, 0), (21, .iadd, 0, 0), (22, .putfield 42, 3, 0)],
  [(25, .aload_n 0, 0, 0), (26, .iload_n 3, 0, 0), (27, .iload_n 2, 0, 0), (28, .aload_n 1, 0, 0), (29, .getfield 46, 1, 1)],
  [(32, .iconst (1), 1, 0), (33, .iadd, 0, 0), (34, .invokevirtual 53, 32, 0), (37, .iconst (0), 0, 0), (38, .istore 4, 4, 0)],
  [(40, .iload 4, 4, 0), (42, .iload_n 3, 0, 0), (43, .if_icmp .ge (25), 68, 0), (46, .aload_n 0, 0, 0), (47, .aload_n 1, 0, 0)],
  [(48, .iload 4, 4, 0), (50, .iload_n 3, 0, 0), (51, .invokevirtual 57, 33, 0), (54, .aload_n 0, 0, 0), (55, .aload_n 1, 0, 0)],
  [(56, .iload_n 3, 0, 0), (57, .iload 4, 4, 0), (59, .invokevirtual 57, 33, 0), (62, .iinc 4 (1), 1, 0)],
  [(65, .goto (-25), 40, 0), (68, .return_, 0, 0)]]
/-- SnapshotRings$Graph.findRing()V -/
def sn_c36 : List (List (Nat × sn_E)) := [[(0, .aload_n 0, 0, 0), (1, .iconst (0), 0, 0), (2, .putfield 65, 3, 9), (5, .aload_n 0, 0, 0), (6, .getfield 42, 3, 0)],
  [(9, .iconst (1), 1, 0), (10, .isub, 0, 0), (11, .istore_n 1, 0, 0), (12, .iload_n 1, 0, 0), (13, .ifCond .ge (4), 17, 0)],
  [(16, .return_, 0, 0), (17, .aload_n 0, 0, 0), (18, .iload_n 1, 0, 0), (19, .invokevirtual 68, 37, 0), (22, .bipush (17), 17, 0)],
  [(24, .istore_n 2, 0, 0), (25, .iconst (0), 0, 0), (26, .istore_n 3, 0, 0), (27, .iload_n 3, 0, 0), (28, .iload_n 1, 0, 0), (29, .if_icmp .ge (33), 62, 0)],
  [(32, .aload_n 0, 0, 0), (33, .getfield 21, 3, 4), (36, .iload_n 1, 0, 0), (37, .iaload, 0, 0), (38, .iload_n 3, 0, 0), (39, .invokestatic 72, 14, 1)],
  [(42, .ifCond .eq (14), 56, 0), (45, .iload_n 2, 0, 0), (46, .aload_n 0, 0, 0), (47, .getfield 30, 3, 7)],
  [(50, .iload_n 3, 0, 0), (51, .iaload, 0, 0), (52, .invokestatic 76, 9997, 0), (55, .istore_n 2, 0, 0)],
  [(56, .iinc 3 (1), 1, 0), (59, .goto (-32), 27, 0), (62, .iload_n 2, 0, 0), (63, .bipush (17), 17, 0)],
  [(65, .if_icmp .ne (4), 69, 0), (68, .return_, 0, 0), (69, .iload_n 1, 0, 0), (70, .istore_n 3, 0, 0), (71, .iload_n 2, 0, 0)],
  [(72, .istore 4, 4, 0), (74, .iload 4, 4, 0), (76, .ifCond .le (22), 98, 0), (79, .aload_n 0, 0, 0)],
  [(80, .iload_n 3, 0, 0), (81, .iload 4, 4, 0), (83, .invokevirtual 82, 38, 0), (86, .istore_n 3, 0, 0), (87, .aload_n 0, 0, 0)],
  [(88, .iload_n 3, 0, 0), (89, .invokevirtual 85, 39, 0), (92, .iinc 4 (-1), 1, 1), (95, .goto (-21), 74, 0)],
  [(98, .return_, 0, 0)]]
/-- SnapshotRings$Graph.countSteps(I)V -/
def sn_c37 : List (List (Nat × sn_E)) := [[(0, .iconst (0), 0, 0), (1, .istore_n 2, 0, 0), (2, .iload_n 2, 0, 0), (3, .aload_n 0, 0, 0), (4, .getfield 42, 3, 0), (7, .if_icmp .ge (17), 24, 0)],
  [(10, .aload_n 0, 0, 0), (11, .getfield 30, 3, 7), (14, .iload_n 2, 0, 0), (15, .bipush (17), 17, 0)],
  [(17, .iastore, 0, 0), (18, .iinc 2 (1), 1, 0), (21, .goto (-19), 2, 0)],
  [(24, .aload_n 0, 0, 0), (25, .getfield 30, 3, 7), (28, .iload_n 1, 0, 0), (29, .iconst (0), 0, 0), (30, .iastore, 0, 0), (31, .iconst (1), 1, 0)],
  [(32, .iload_n 1, 0, 0), (33, .ishl, 0, 0), (34, .istore_n 2, 0, 0), (35, .iconst (1), 1, 0), (36, .istore_n 3, 0, 0), (37, .iload_n 3, 0, 0), (38, .aload_n 0, 0, 0), (39, .getfield 42, 3, 0)],
  [(42, .if_icmp .ge (74), 116, 0), (45, .iconst (0), 0, 0), (46, .istore 4, 4, 0)],
  [(48, .iconst (0), 0, 0), (49, .istore 5, 5, 0), (51, .iload 5, 5, 0), (53, .aload_n 0, 0, 0), (54, .getfield 42, 3, 0)],
  [(57, .if_icmp .ge (50), 107, 0), (60, .aload_n 0, 0, 0), (61, .getfield 30, 3, 7)],
  [(64, .iload 5, 5, 0), (66, .iaload, 0, 0), (67, .bipush (17), 17, 0), (69, .if_icmp .ne (32), 101, 0)],
  [(72, .aload_n 0, 0, 0), (73, .getfield 21, 3, 4), (76, .iload 5, 5, 0), (78, .iaload, 0, 0), (79, .iload_n 2, 0, 0)],
  [(80, .iand, 0, 0), (81, .ifCond .eq (20), 101, 0), (84, .aload_n 0, 0, 0), (85, .getfield 30, 3, 7)],
  [(88, .iload 5, 5, 0), (90, .iload_n 3, 0, 0), (91, .iastore, 0, 0), (92, .iload 4, 4, 0), (94, .iconst (1), 1, 0), (95, .iload 5, 5, 0)],
  [(97, .ishl, 0, 0), (98, .ior, 0, 0), (99, .istore 4, 4, 0), (101, .iinc 5 (1), 1, 0)],
  [(104, .goto (-53), 51, 0), (107, .iload 4, 4, 0), (109, .istore_n 2, 0, 0), (110, .iinc 3 (1), 1, 0)],
  [(113, .goto (-76), 37, 0), (116, .return_, 0, 0)]]
/-- SnapshotRings$Graph.lowestBehind(II)I -/
def sn_c38 : List (List (Nat × sn_E)) := [[(0, .iconst (0), 0, 0), (1, .istore_n 3, 0, 0), (2, .iload_n 3, 0, 0), (3, .aload_n 0, 0, 0), (4, .getfield 42, 3, 0), (7, .if_icmp .ge (34), 41, 0)],
  [(10, .aload_n 0, 0, 0), (11, .getfield 21, 3, 4), (14, .iload_n 1, 0, 0), (15, .iaload, 0, 0)],
  [(16, .iload_n 3, 0, 0), (17, .invokestatic 72, 14, 1), (20, .ifCond .eq (15), 35, 0), (23, .aload_n 0, 0, 0)],
  [(24, .getfield 30, 3, 7), (27, .iload_n 3, 0, 0), (28, .iaload, 0, 0), (29, .iload_n 2, 0, 0), (30, .if_icmp .ne (5), 35, 0)],
  [(33, .iload_n 3, 0, 0), (34, .ireturn, 0, 0), (35, .iinc 3 (1), 1, 0), (38, .goto (-36), 2, 0)],
  [(41, .iload_n 1, 0, 0), (42, .ireturn, 0, 0)]]
/-- SnapshotRings$Graph.tell(I)V -/
def sn_c39 : List (List (Nat × sn_E)) := [[(0, .aload_n 0, 0, 0), (1, .getfield 33, 3, 8), (4, .aload_n 0, 0, 0), (5, .getfield 65, 3, 9)],
  [(8, .aload_n 0, 0, 0), (9, .getfield 15, 3, 2), (12, .iload_n 1, 0, 0), (13, .iaload, 0, 0), (14, .iastore, 0, 0), (15, .aload_n 0, 0, 0)],
  [(16, .dup, 0, 0), (17, .getfield 65, 3, 9), (20, .iconst (1), 1, 0), (21, .iadd, 0, 0), (22, .putfield 65, 3, 9)],
  [(25, .return_, 0, 0)]]
/-- SnapshotRings$Graph.hasPivot()Z -/
def sn_c40 : List (List (Nat × sn_E)) := [[(0, .aload_n 0, 0, 0), (1, .getfield 42, 3, 0), (4, .iconst (1), 1, 0), (5, .isub, 0, 0), (6, .istore_n 1, 0, 0), (7, .iload_n 1, 0, 0)],
  [(8, .ifCond .ge (5), 13, 0), (11, .iconst (0), 0, 0), (12, .ireturn, 0, 0), (13, .iconst (0), 0, 0), (14, .istore_n 2, 0, 0), (15, .iconst (0), 0, 0)],
  [(16, .istore_n 3, 0, 0), (17, .iconst (0), 0, 0), (18, .istore 4, 4, 0), (20, .iload 4, 4, 0), (22, .aload_n 0, 0, 0), (23, .getfield 42, 3, 0)],
  [(26, .if_icmp .ge (36), 62, 0), (29, .iload_n 2, 0, 0), (30, .aload_n 0, 0, 0), (31, .getfield 24, 3, 5)],
  [(34, .iload 4, 4, 0), (36, .iaload, 0, 0), (37, .ior, 0, 0), (38, .istore_n 2, 0, 0), (39, .aload_n 0, 0, 0)],
  [(40, .getfield 24, 3, 5), (43, .iload 4, 4, 0), (45, .iaload, 0, 0), (46, .ifCond .eq (10), 56, 0)],
  [(49, .iload_n 3, 0, 0), (50, .iconst (1), 1, 0), (51, .iload 4, 4, 0), (53, .ishl, 0, 0), (54, .ior, 0, 0), (55, .istore_n 3, 0, 0)],
  [(56, .iinc 4 (1), 1, 0), (59, .goto (-39), 20, 0), (62, .iload_n 2, 0, 0), (63, .iload_n 3, 0, 0)],
  [(64, .iand, 0, 0), (65, .istore 4, 4, 0), (67, .iload 4, 4, 0), (69, .iload_n 1, 0, 0), (70, .invokestatic 72, 14, 1)],
  [(73, .ifCond .ne (15), 88, 0), (76, .aload_n 0, 0, 0), (77, .getfield 24, 3, 5)],
  [(80, .iload_n 1, 0, 0), (81, .iaload, 0, 0), (82, .iload 4, 4, 0), (84, .iand, 0, 0), (85, .ifCond .eq (5), 90, 0)],
  [(88, .iconst (1), 1, 0), (89, .ireturn, 0, 0), (90, .iconst (0), 0, 0), (91, .istore 5, 5, 0), (93, .iload 5, 5, 0), (95, .iload_n 1, 0, 0)],
  [(96, .if_icmp .ge (35), 131, 0), (99, .iload 4, 4, 0), (101, .iload 5, 5, 0), (103, .invokestatic 72, 14, 1)],
  [(106, .ifCond .eq (19), 125, 0), (109, .aload_n 0, 0, 0), (110, .getfield 24, 3, 5)],
  [(113, .iload 5, 5, 0), (115, .iaload, 0, 0), (116, .iload_n 1, 0, 0), (117, .invokestatic 72, 14, 1)],
  [(120, .ifCond .eq (5), 125, 0), (123, .iconst (1), 1, 0), (124, .ireturn, 0, 0), (125, .iinc 5 (1), 1, 0)],
  [(128, .goto (-35), 93, 0), (131, .iconst (0), 0, 0), (132, .ireturn, 0, 0)]]
/-- SnapshotRings$State.refuse(II)V -/
def sn_c41 : List (List (Nat × sn_E)) := [[(0, .aload_n 0, 0, 0), (1, .iload_n 1, 0, 0), (2, .invokevirtual 71, 42, 0), (5, .aload_n 0, 0, 0), (6, .getfield 9, 1, 4)],
  [(9, .iload_n 2, 0, 0), (10, .dup2, 0, 0), (11, .iaload, 0, 0), (12, .iconst (1), 1, 0), (13, .iadd, 0, 0), (14, .iastore, 0, 0), (15, .return_, 0, 0)]]
/-- SnapshotRings$State.free(I)V -/
def sn_c42 : List (List (Nat × sn_E)) := [[(0, .aload_n 0, 0, 0), (1, .dup, 0, 0), (2, .getfield 52, 1, 3), (5, .iconst (1), 1, 0), (6, .iload_n 1, 0, 0), (7, .ishl, 0, 0)],
  [(8, .iconst (-1), 1, 1), (9, .ixor, 0, 0), (10, .iand, 0, 0), (11, .putfield 52, 1, 3), (14, .return_, 0, 0)]]
/-- SnapshotRings$State.keepCommit(I)I -/
def sn_c43 : List (List (Nat × sn_E)) := [[(0, .aload_n 0, 0, 0), (1, .iload_n 1, 0, 0), (2, .invokevirtual 71, 42, 0), (5, .aload_n 0, 0, 0), (6, .dup, 0, 0), (7, .getfield 46, 1, 1)],
  [(10, .iconst (1), 1, 0), (11, .iadd, 0, 0), (12, .putfield 46, 1, 1), (15, .aload_n 0, 0, 0)],
  [(16, .aload_n 0, 0, 0), (17, .getfield 46, 1, 1), (20, .invokevirtual 75, 31, 0), (23, .istore_n 2, 0, 0)],
  [(24, .aload_n 0, 0, 0), (25, .getfield 27, 1, 9), (28, .iload_n 2, 0, 0), (29, .aload_n 0, 0, 0), (30, .getfield 27, 1, 9)],
  [(33, .iload_n 1, 0, 0), (34, .iaload, 0, 0), (35, .iastore, 0, 0), (36, .aload_n 0, 0, 0), (37, .getfield 30, 1, 10)],
  [(40, .iload_n 2, 0, 0), (41, .aload_n 0, 0, 0), (42, .getfield 30, 1, 10), (45, .iload_n 1, 0, 0), (46, .iaload, 0, 0), (47, .iastore, 0, 0)],
  [(48, .aload_n 0, 0, 0), (49, .getfield 33, 1, 11), (52, .iload_n 2, 0, 0), (53, .aload_n 0, 0, 0), (54, .getfield 33, 1, 11)],
  [(57, .iload_n 1, 0, 0), (58, .iaload, 0, 0), (59, .iastore, 0, 0), (60, .aload_n 0, 0, 0), (61, .getfield 36, 1, 12)],
  [(64, .iload_n 1, 0, 0), (65, .bipush (12), 12, 0), (67, .imul, 0, 0), (68, .aload_n 0, 0, 0), (69, .getfield 36, 1, 12)],
  [(72, .iload_n 2, 0, 0), (73, .bipush (12), 12, 0), (75, .imul, 0, 0), (76, .bipush (12), 12, 0), (78, .invokestatic 55, 9999, 0)],
  [(81, .iconst (0), 0, 0), (82, .istore_n 3, 0, 0), (83, .iload_n 3, 0, 0), (84, .bipush (12), 12, 0), (86, .if_icmp .ge (49), 135, 0)],
  [(89, .aload_n 0, 0, 0), (90, .getfield 33, 1, 11), (93, .iload_n 1, 0, 0), (94, .iaload, 0, 0), (95, .iload_n 3, 0, 0)],
  [(96, .invokestatic 61, 14, 1), (99, .ifCond .eq (30), 129, 0), (102, .aload_n 0, 0, 0), (103, .getfield 21, 1, 7)],
  [(106, .iload_n 3, 0, 0), (107, .aload_n 0, 0, 0), (108, .getfield 39, 1, 13), (111, .iload_n 1, 0, 0)],
  [(112, .bipush (12), 12, 0), (114, .imul, 0, 0), (115, .iload_n 3, 0, 0), (116, .iadd, 0, 0), (117, .iaload, 0, 0), (118, .iastore, 0, 0), (119, .aload_n 0, 0, 0)],
  [(120, .getfield 24, 1, 8), (123, .iload_n 3, 0, 0), (124, .aload_n 0, 0, 0), (125, .getfield 46, 1, 1)],
  [(128, .iastore, 0, 0), (129, .iinc 3 (1), 1, 0), (132, .goto (-49), 83, 0), (135, .aload_n 0, 0, 0)],
  [(136, .getfield 46, 1, 1), (139, .ireturn, 0, 0)]]
/-- SnapshotRings.abort(I)I -/
def sn_c44 : List (List (Nat × sn_E)) := [[(0, .aload_n 0, 0, 0), (1, .iload_n 1, 0, 0), (2, .invokevirtual 80, 19, 0), (5, .istore_n 2, 0, 0), (6, .iload_n 2, 0, 0), (7, .ifCond .eq (5), 12, 0)],
  [(10, .iload_n 2, 0, 0), (11, .ireturn, 0, 0), (12, .aload_n 0, 0, 0), (13, .getfield 22, 0, 2)],
  [(16, .aload_n 0, 0, 0), (17, .getfield 12, 0, 0), (20, .invokevirtual 40, 6, 0), (23, .aload_n 0, 0, 0)],
  [(24, .getfield 12, 0, 0), (27, .iload_n 1, 0, 0), (28, .invokevirtual 87, 45, 0), (31, .ireturn, 0, 0)]]
/-- SnapshotRings$State.giveUp(I)I -/
def sn_c45 : List (List (Nat × sn_E)) := [[(0, .aload_n 0, 0, 0), (1, .iload_n 1, 0, 0), (2, .invokevirtual 71, 42, 0), (5, .aload_n 0, 0, 0), (6, .dup, 0, 0), (7, .getfield 49, 1, 2)],
  [(10, .iconst (1), 1, 0), (11, .iadd, 0, 0), (12, .putfield 49, 1, 2), (15, .aload_n 0, 0, 0)],
  [(16, .getfield 33, 1, 11), (19, .iload_n 1, 0, 0), (20, .iaload, 0, 0), (21, .invokestatic 65, 24, 0)],
  [(24, .ireturn, 0, 0)]]
/-- SnapshotRings.ifAllCommitted()I -/
def sn_c46 : List (List (Nat × sn_E)) := [[(0, .aload_n 0, 0, 0), (1, .getfield 16, 0, 1), (4, .aload_n 0, 0, 0), (5, .getfield 12, 0, 0)],
  [(8, .invokevirtual 166, 7, 0), (11, .iconst (0), 0, 0), (12, .istore_n 1, 0, 0), (13, .iload_n 1, 0, 0), (14, .bipush (8), 8, 0)],
  [(16, .if_icmp .ge (30), 46, 0), (19, .aload_n 0, 0, 0), (20, .getfield 16, 0, 1), (23, .iload_n 1, 0, 0)],
  [(24, .invokevirtual 169, 13, 0), (27, .ifCond .eq (13), 40, 0), (30, .aload_n 0, 0, 0), (31, .aload_n 0, 0, 0)],
  [(32, .getfield 16, 0, 1), (35, .iload_n 1, 0, 0), (36, .invokevirtual 83, 26, 0), (39, .pop, 0, 0)],
  [(40, .iinc 1 (1), 1, 0), (43, .goto (-30), 13, 0), (46, .iconst (0), 0, 0), (47, .istore_n 1, 0, 0)],
  [(48, .iconst (0), 0, 0), (49, .istore_n 2, 0, 0), (50, .iload_n 2, 0, 0), (51, .iconst (3), 3, 0), (52, .if_icmp .ge (31), 83, 0), (55, .aload_n 0, 0, 0)],
  [(56, .getfield 16, 0, 1), (59, .aload_n 0, 0, 0), (60, .getfield 16, 0, 1), (63, .getfield 114, 1, 7)],
  [(66, .iconst (0), 0, 0), (67, .iload_n 2, 0, 0), (68, .invokevirtual 159, 47, 0), (71, .ifCond .eq (6), 77, 0)],
  [(74, .iinc 1 (1), 1, 0), (77, .iinc 2 (1), 1, 0)],
  [(80, .goto (-30), 50, 0), (83, .iload_n 1, 0, 0), (84, .ireturn, 0, 0)]]
/-- SnapshotRings$State.constraintIsMet([III)Z -/
def sn_c47 : List (List (Nat × sn_E)) := [[(0, .iconst (0), 0, 0), (1, .istore 4, 4, 0), (3, .iconst (0), 0, 0), (4, .istore 5, 5, 0), (6, .iload 5, 5, 0)],
  [(8, .bipush (12), 12, 0), (10, .if_icmp .ge (34), 44, 0), (13, .aload_n 0, 0, 0), (14, .getfield 15, 1, 5)],
  [(17, .iload_n 3, 0, 0), (18, .iaload, 0, 0), (19, .iload 5, 5, 0), (21, .invokestatic 61, 14, 1)],
  [(24, .ifCond .eq (14), 38, 0), (27, .iload 4, 4, 0), (29, .aload_n 1, 0, 0), (30, .iload_n 2, 0, 0), (31, .iload 5, 5, 0)],
  [(33, .iadd, 0, 0), (34, .iaload, 0, 0), (35, .iadd, 0, 0), (36, .istore 4, 4, 0), (38, .iinc 5 (1), 1, 0)],
  [(41, .goto (-35), 6, 0), (44, .iload 4, 4, 0), (46, .aload_n 0, 0, 0), (47, .getfield 18, 1, 6)],
  [(50, .iload_n 3, 0, 0), (51, .iaload, 0, 0), (52, .if_icmp .lt (7), 59, 0), (55, .iconst (1), 1, 0)],
  [(56, .goto (4), 60, 0), (59, .iconst (0), 0, 0), (60, .ireturn, 0, 0)]]
/-- SnapshotRingsLaw.cell([II)I -/
def sn_c48 : List (List (Nat × sn_E)) := [[(0, .iload_n 1, 0, 0), (1, .aload_n 0, 0, 0), (2, .arraylength, 0, 0), (3, .if_icmp .ge (9), 12, 0), (6, .aload_n 0, 0, 0), (7, .iload_n 1, 0, 0)],
  [(8, .iaload, 0, 0), (9, .goto (12), 21, 0), (12, .ldc 7, 1033861969, 0), (14, .iload_n 1, 0, 0), (15, .iconst (1), 1, 0)],
  [(16, .iadd, 0, 0), (17, .imul, 0, 0), (18, .ldc 8, 684254375, 0), (20, .iadd, 0, 0), (21, .ireturn, 0, 0)]]
/-- SnapshotRingsLaw.low(II)I -/
def sn_c49 : List (List (Nat × sn_E)) := [[(0, .iload_n 0, 0, 0), (1, .ldc 9, 2147483647, 0), (3, .iand, 0, 0), (4, .iload_n 1, 0, 0), (5, .irem, 0, 0), (6, .ireturn, 0, 0)]]
/-- SnapshotRingsLaw.commit(I[I[I[I[I)I -/
def sn_c50 : List (List (Nat × sn_E)) := [[(0, .iload_n 0, 0, 0), (1, .aload_n 1, 0, 0), (2, .iconst (1), 1, 0), (3, .iaload, 0, 0), (4, .aload_n 1, 0, 0), (5, .aload_n 2, 0, 0), (6, .aload 4, 4, 0)],
  [(8, .invokestatic 31, 51, 0), (11, .istore 5, 5, 0), (13, .iload 5, 5, 0), (15, .ifCond .le (16), 31, 0)],
  [(18, .aload_n 1, 0, 0), (19, .iconst (1), 1, 0), (20, .iload 5, 5, 0), (22, .iadd, 0, 0), (23, .dup2, 0, 0)],
  [(24, .iaload, 0, 0), (25, .iconst (1), 1, 0), (26, .iadd, 0, 0), (27, .iastore, 0, 0), (28, .goto (82), 110, 0), (31, .aload_n 1, 0, 0)],
  [(32, .iconst (0), 0, 0), (33, .dup2, 0, 0), (34, .iaload, 0, 0), (35, .iconst (1), 1, 0), (36, .iadd, 0, 0), (37, .iastore, 0, 0), (38, .iconst (0), 0, 0), (39, .istore 6, 6, 0)],
  [(41, .iload 6, 6, 0), (43, .iconst (3), 3, 0), (44, .if_icmp .ge (29), 73, 0), (47, .aload_n 2, 0, 0)],
  [(48, .bipush (16), 16, 0), (50, .iload 6, 6, 0), (52, .imul, 0, 0), (53, .aload_n 1, 0, 0), (54, .iconst (0), 0, 0), (55, .iaload, 0, 0)],
  [(56, .iadd, 0, 0), (57, .aload 4, 4, 0), (59, .iconst (3), 3, 0), (60, .iload_n 0, 0, 0), (61, .imul, 0, 0), (62, .iload 6, 6, 0)],
  [(64, .iadd, 0, 0), (65, .iaload, 0, 0), (66, .iastore, 0, 0), (67, .iinc 6 (1), 1, 0), (70, .goto (-29), 41, 0)],
  [(73, .iconst (0), 0, 0), (74, .istore 6, 6, 0), (76, .iload 6, 6, 0), (78, .iconst (4), 4, 0), (79, .if_icmp .ge (31), 110, 0)],
  [(82, .aload_n 3, 0, 0), (83, .iconst (4), 4, 0), (84, .aload_n 1, 0, 0), (85, .iconst (0), 0, 0), (86, .iaload, 0, 0), (87, .imul, 0, 0)],
  [(88, .iload 6, 6, 0), (90, .iadd, 0, 0), (91, .aload 4, 4, 0), (93, .bipush (12), 12, 0), (95, .iconst (4), 4, 0)],
  [(96, .iload_n 0, 0, 0), (97, .imul, 0, 0), (98, .iadd, 0, 0), (99, .iload 6, 6, 0), (101, .iadd, 0, 0), (102, .iaload, 0, 0), (103, .iastore, 0, 0)],
  [(104, .iinc 6 (1), 1, 0), (107, .goto (-31), 76, 0), (110, .aload 4, 4, 0)],
  [(112, .iconst (3), 3, 0), (113, .iload_n 0, 0, 0), (114, .imul, 0, 0), (115, .iconst (-1), 1, 1), (116, .iastore, 0, 0), (117, .iload 5, 5, 0), (119, .ifCond .le (9), 128, 0)],
  [(122, .iload 5, 5, 0), (124, .ineg, 0, 0), (125, .goto (6), 131, 0)],
  [(128, .aload_n 1, 0, 0), (129, .iconst (0), 0, 0), (130, .iaload, 0, 0), (131, .ireturn, 0, 0)]]
/-- SnapshotRingsLaw.reason(II[I[I[I)I -/
def sn_c51 : List (List (Nat × sn_E)) := [[(0, .iconst (0), 0, 0), (1, .istore 5, 5, 0), (3, .iload 5, 5, 0), (5, .iconst (4), 4, 0), (6, .if_icmp .ge (46), 52, 0)],
  [(9, .aload 4, 4, 0), (11, .iconst (3), 3, 0), (12, .iload_n 0, 0, 0), (13, .imul, 0, 0), (14, .iconst (2), 2, 0), (15, .iadd, 0, 0)],
  [(16, .iaload, 0, 0), (17, .iload 5, 5, 0), (19, .ishr, 0, 0), (20, .iconst (1), 1, 0), (21, .iand, 0, 0), (22, .iconst (1), 1, 0), (23, .if_icmp .ne (23), 46, 0)],
  [(26, .iload 5, 5, 0), (28, .aload_n 2, 0, 0), (29, .iconst (0), 0, 0), (30, .iaload, 0, 0), (31, .aload_n 3, 0, 0)],
  [(32, .invokestatic 16, 52, 0), (35, .aload 4, 4, 0), (37, .iconst (3), 3, 0), (38, .iload_n 0, 0, 0), (39, .imul, 0, 0)],
  [(40, .iaload, 0, 0), (41, .if_icmp .le (5), 46, 0), (44, .iconst (1), 1, 0), (45, .ireturn, 0, 0), (46, .iinc 5 (1), 1, 0)],
  [(49, .goto (-46), 3, 0), (52, .aload_n 2, 0, 0), (53, .iconst (0), 0, 0), (54, .iaload, 0, 0), (55, .iconst (1), 1, 0)],
  [(56, .iadd, 0, 0), (57, .istore 5, 5, 0), (59, .iload_n 1, 0, 0), (60, .ifCond .le (28), 88, 0), (63, .iload 5, 5, 0)],
  [(65, .iload_n 0, 0, 0), (66, .bipush (7), 7, 0), (68, .aload_n 2, 0, 0), (69, .aload_n 3, 0, 0), (70, .aload 4, 4, 0)],
  [(72, .invokestatic 23, 53, 0), (75, .invokestatic 27, 56, 0), (78, .iload 5, 5, 0)],
  [(80, .iaload, 0, 0), (81, .bipush (99), 99, 0), (83, .if_icmp .ge (5), 88, 0), (86, .iconst (2), 2, 0), (87, .ireturn, 0, 0)],
  [(88, .iload_n 1, 0, 0), (89, .iconst (2), 2, 0), (90, .if_icmp .ge (5), 95, 0), (93, .iconst (0), 0, 0), (94, .ireturn, 0, 0), (95, .iload_n 0, 0, 0)],
  [(96, .iconst (4), 4, 0), (97, .aload_n 2, 0, 0), (98, .aload_n 3, 0, 0), (99, .aload 4, 4, 0), (101, .invokestatic 23, 53, 0)],
  [(104, .astore 6, 6, 0), (106, .iconst (1), 1, 0), (107, .istore 7, 7, 0), (109, .iload 7, 7, 0), (111, .iload 5, 5, 0)],
  [(113, .if_icmp .gt (79), 192, 0), (116, .iconst (1), 1, 0), (117, .istore 8, 8, 0), (119, .iload 8, 8, 0)],
  [(121, .iload 5, 5, 0), (123, .if_icmp .gt (63), 186, 0), (126, .aload 6, 6, 0)],
  [(128, .iload 8, 8, 0), (130, .iaload, 0, 0), (131, .iload 7, 7, 0), (133, .ishr, 0, 0), (134, .iconst (1), 1, 0), (135, .iand, 0, 0)],
  [(136, .ifCond .eq (44), 180, 0), (139, .aload 6, 6, 0), (141, .iload 7, 7, 0), (143, .iaload, 0, 0)],
  [(144, .ifCond .ne (6), 150, 0), (147, .goto (33), 180, 0), (150, .iload 8, 8, 0)],
  [(152, .iload 5, 5, 0), (154, .if_icmp .eq (24), 178, 0), (157, .iload 7, 7, 0), (159, .iload 5, 5, 0)],
  [(161, .if_icmp .eq (17), 178, 0), (164, .aload 6, 6, 0), (166, .iload 7, 7, 0)],
  [(168, .iaload, 0, 0), (169, .iload 5, 5, 0), (171, .ishr, 0, 0), (172, .iconst (1), 1, 0), (173, .iand, 0, 0), (174, .iconst (1), 1, 0), (175, .if_icmp .ne (5), 180, 0)],
  [(178, .iconst (3), 3, 0), (179, .ireturn, 0, 0), (180, .iinc 8 (1), 1, 0), (183, .goto (-64), 119, 0)],
  [(186, .iinc 7 (1), 1, 0), (189, .goto (-80), 109, 0)],
  [(192, .iconst (0), 0, 0), (193, .ireturn, 0, 0)]]
/-- SnapshotRingsLaw.version(II[I)I -/
def sn_c52 : List (List (Nat × sn_E)) := [[(0, .iconst (0), 0, 0), (1, .istore_n 3, 0, 0), (2, .iconst (1), 1, 0), (3, .istore 4, 4, 0), (5, .iload 4, 4, 0), (7, .iload_n 1, 0, 0)],
  [(8, .if_icmp .gt (31), 39, 0), (11, .aload_n 2, 0, 0), (12, .bipush (32), 32, 0), (14, .iload 4, 4, 0)],
  [(16, .iadd, 0, 0), (17, .iaload, 0, 0), (18, .iload_n 0, 0, 0), (19, .ishr, 0, 0), (20, .iconst (1), 1, 0), (21, .iand, 0, 0), (22, .iconst (1), 1, 0), (23, .if_icmp .ne (8), 31, 0)],
  [(26, .iload 4, 4, 0), (28, .goto (4), 32, 0), (31, .iload_n 3, 0, 0)],
  [(32, .istore_n 3, 0, 0), (33, .iinc 4 (1), 1, 0), (36, .goto (-31), 5, 0), (39, .iload_n 3, 0, 0)],
  [(40, .ireturn, 0, 0)]]
/-- SnapshotRingsLaw.behind(II[I[I[I)[I -/
def sn_c53 : List (List (Nat × sn_E)) := [[(0, .bipush (18), 18, 0), (2, .newarray .int, 1, 0), (4, .astore 5, 5, 0), (6, .aload_n 2, 0, 0), (7, .iconst (0), 0, 0)],
  [(8, .iaload, 0, 0), (9, .iload_n 0, 0, 0), (10, .ifCond .ge (7), 17, 0), (13, .iconst (0), 0, 0), (14, .goto (4), 18, 0)],
  [(17, .iconst (1), 1, 0), (18, .iadd, 0, 0), (19, .istore 6, 6, 0), (21, .iconst (1), 1, 0), (22, .istore 7, 7, 0)],
  [(24, .iload 7, 7, 0), (26, .iload 6, 6, 0), (28, .if_icmp .gt (61), 89, 0), (31, .iconst (1), 1, 0)],
  [(32, .istore 8, 8, 0), (34, .iload 8, 8, 0), (36, .iload 6, 6, 0), (38, .if_icmp .gt (45), 83, 0)],
  [(41, .iload 7, 7, 0), (43, .iload 8, 8, 0), (45, .if_icmp .eq (32), 77, 0)],
  [(48, .iload 7, 7, 0), (50, .iload 8, 8, 0), (52, .iload_n 0, 0, 0), (53, .aload_n 2, 0, 0), (54, .aload_n 3, 0, 0), (55, .aload 4, 4, 0)],
  [(57, .invokestatic 20, 54, 0), (60, .iload_n 1, 0, 0), (61, .iand, 0, 0), (62, .ifCond .eq (15), 77, 0)],
  [(65, .aload 5, 5, 0), (67, .iload 7, 7, 0), (69, .dup2, 0, 0), (70, .iaload, 0, 0), (71, .iconst (1), 1, 0)],
  [(72, .iload 8, 8, 0), (74, .ishl, 0, 0), (75, .ior, 0, 0), (76, .iastore, 0, 0), (77, .iinc 8 (1), 1, 0)],
  [(80, .goto (-46), 34, 0), (83, .iinc 7 (1), 1, 0), (86, .goto (-62), 24, 0)],
  [(89, .aload 5, 5, 0), (91, .areturn, 0, 0)]]
/-- SnapshotRingsLaw.depends(III[I[I[I)I -/
def sn_c54 : List (List (Nat × sn_E)) := [[(0, .iconst (0), 0, 0), (1, .istore 6, 6, 0), (3, .iload_n 0, 0, 0), (4, .iload_n 1, 0, 0), (5, .if_icmp .ge (35), 40, 0)],
  [(8, .iload_n 0, 0, 0), (9, .iload_n 2, 0, 0), (10, .iconst (2), 2, 0), (11, .aload_n 3, 0, 0), (12, .aload 4, 4, 0), (14, .aload 5, 5, 0)],
  [(16, .invokestatic 10, 55, 0), (19, .iload_n 1, 0, 0), (20, .iload_n 2, 0, 0), (21, .iconst (2), 2, 0), (22, .aload_n 3, 0, 0), (23, .aload 4, 4, 0)],
  [(25, .aload 5, 5, 0), (27, .invokestatic 10, 55, 0), (30, .iand, 0, 0), (31, .ifCond .eq (9), 40, 0)],
  [(34, .iload 6, 6, 0), (36, .iconst (1), 1, 0), (37, .ior, 0, 0), (38, .istore 6, 6, 0)],
  [(40, .iconst (0), 0, 0), (41, .istore 7, 7, 0), (43, .iload 7, 7, 0), (45, .iconst (4), 4, 0), (46, .if_icmp .ge (193), 239, 0)],
  [(49, .iload_n 0, 0, 0), (50, .iload_n 2, 0, 0), (51, .iconst (1), 1, 0), (52, .aload_n 3, 0, 0), (53, .aload 4, 4, 0), (55, .aload 5, 5, 0)],
  [(57, .invokestatic 10, 55, 0), (60, .iload 7, 7, 0), (62, .ishr, 0, 0), (63, .iconst (1), 1, 0)],
  [(64, .iand, 0, 0), (65, .iconst (1), 1, 0), (66, .if_icmp .ne (7), 73, 0), (69, .iconst (1), 1, 0), (70, .goto (4), 74, 0)],
  [(73, .iconst (0), 0, 0), (74, .istore 8, 8, 0), (76, .iload_n 1, 0, 0), (77, .iload_n 2, 0, 0), (78, .iconst (1), 1, 0), (79, .aload_n 3, 0, 0)],
  [(80, .aload 4, 4, 0), (82, .aload 5, 5, 0), (84, .invokestatic 10, 55, 0), (87, .iload 7, 7, 0)],
  [(89, .ishr, 0, 0), (90, .iconst (1), 1, 0), (91, .iand, 0, 0), (92, .iconst (1), 1, 0), (93, .if_icmp .ne (7), 100, 0)],
  [(96, .iconst (1), 1, 0), (97, .goto (4), 101, 0), (100, .iconst (0), 0, 0), (101, .istore 9, 9, 0), (103, .iload_n 0, 0, 0)],
  [(104, .iload_n 2, 0, 0), (105, .iconst (2), 2, 0), (106, .aload_n 3, 0, 0), (107, .aload 4, 4, 0), (109, .aload 5, 5, 0), (111, .invokestatic 10, 55, 0)],
  [(114, .iload 7, 7, 0), (116, .ishr, 0, 0), (117, .iconst (1), 1, 0), (118, .iand, 0, 0), (119, .iconst (1), 1, 0)],
  [(120, .if_icmp .ne (7), 127, 0), (123, .iconst (1), 1, 0), (124, .goto (4), 128, 0), (127, .iconst (0), 0, 0)],
  [(128, .istore 10, 10, 0), (130, .iload_n 1, 0, 0), (131, .iload_n 2, 0, 0), (132, .iconst (2), 2, 0), (133, .aload_n 3, 0, 0), (134, .aload 4, 4, 0)],
  [(136, .aload 5, 5, 0), (138, .invokestatic 10, 55, 0), (141, .iload 7, 7, 0), (143, .ishr, 0, 0)],
  [(144, .iconst (1), 1, 0), (145, .iand, 0, 0), (146, .iconst (1), 1, 0), (147, .if_icmp .ne (7), 154, 0), (150, .iconst (1), 1, 0), (151, .goto (4), 155, 0)],
  [(154, .iconst (0), 0, 0), (155, .istore 11, 11, 0), (157, .iload 10, 10, 0), (159, .ifCond .eq (36), 195, 0)],
  [(162, .iload 9, 9, 0), (164, .ifCond .eq (31), 195, 0), (167, .iload 7, 7, 0)],
  [(169, .iload_n 1, 0, 0), (170, .iload_n 2, 0, 0), (171, .iconst (0), 0, 0), (172, .aload_n 3, 0, 0), (173, .aload 4, 4, 0), (175, .aload 5, 5, 0)],
  [(177, .invokestatic 10, 55, 0), (180, .aload 4, 4, 0), (182, .invokestatic 16, 52, 0)],
  [(185, .iload_n 0, 0, 0), (186, .if_icmp .ne (9), 195, 0), (189, .iload 6, 6, 0), (191, .iconst (2), 2, 0)],
  [(192, .ior, 0, 0), (193, .istore 6, 6, 0), (195, .iload 8, 8, 0), (197, .ifCond .eq (36), 233, 0)],
  [(200, .iload 11, 11, 0), (202, .ifCond .eq (31), 233, 0), (205, .iload 7, 7, 0), (207, .iload_n 0, 0, 0)],
  [(208, .iload_n 2, 0, 0), (209, .iconst (0), 0, 0), (210, .aload_n 3, 0, 0), (211, .aload 4, 4, 0), (213, .aload 5, 5, 0), (215, .invokestatic 10, 55, 0)],
  [(218, .aload 4, 4, 0), (220, .invokestatic 16, 52, 0), (223, .iload_n 1, 0, 0)],
  [(224, .if_icmp .ge (9), 233, 0), (227, .iload 6, 6, 0), (229, .iconst (4), 4, 0), (230, .ior, 0, 0), (231, .istore 6, 6, 0)],
  [(233, .iinc 7 (1), 1, 0), (236, .goto (-193), 43, 0), (239, .iload 6, 6, 0)],
  [(241, .ireturn, 0, 0)]]
/-- SnapshotRingsLaw.part(III[I[I[I)I -/
def sn_c55 : List (List (Nat × sn_E)) := [[(0, .iload_n 0, 0, 0), (1, .aload_n 3, 0, 0), (2, .iconst (0), 0, 0), (3, .iaload, 0, 0), (4, .if_icmp .le (14), 18, 0), (7, .aload 5, 5, 0)],
  [(9, .iconst (3), 3, 0), (10, .iload_n 1, 0, 0), (11, .imul, 0, 0), (12, .iload_n 2, 0, 0), (13, .iadd, 0, 0), (14, .iaload, 0, 0), (15, .goto (12), 27, 0)],
  [(18, .aload 4, 4, 0), (20, .bipush (16), 16, 0), (22, .iload_n 2, 0, 0), (23, .imul, 0, 0)],
  [(24, .iload_n 0, 0, 0), (25, .iadd, 0, 0), (26, .iaload, 0, 0), (27, .ireturn, 0, 0)]]
/-- SnapshotRingsLaw.steps(I[I)[I -/
def sn_c56 : List (List (Nat × sn_E)) := [[(0, .bipush (18), 18, 0), (2, .newarray .int, 1, 0), (4, .astore_n 2, 0, 0), (5, .iconst (0), 0, 0), (6, .istore_n 3, 0, 0), (7, .iload_n 3, 0, 0)],
  [(8, .bipush (18), 18, 0), (10, .if_icmp .ge (14), 24, 0), (13, .aload_n 2, 0, 0), (14, .iload_n 3, 0, 0), (15, .bipush (99), 99, 0)],
  [(17, .iastore, 0, 0), (18, .iinc 3 (1), 1, 0), (21, .goto (-14), 7, 0)],
  [(24, .iconst (0), 0, 0), (25, .istore_n 3, 0, 0), (26, .iload_n 3, 0, 0), (27, .bipush (18), 18, 0), (29, .if_icmp .ge (96), 125, 0)],
  [(32, .iconst (1), 1, 0), (33, .istore 4, 4, 0), (35, .iload 4, 4, 0), (37, .bipush (18), 18, 0), (39, .if_icmp .ge (80), 119, 0)],
  [(42, .iconst (1), 1, 0), (43, .istore 5, 5, 0), (45, .iload 5, 5, 0), (47, .bipush (18), 18, 0)],
  [(49, .if_icmp .ge (64), 113, 0), (52, .aload_n 1, 0, 0), (53, .iload 4, 4, 0), (55, .iaload, 0, 0)],
  [(56, .iload 5, 5, 0), (58, .ishr, 0, 0), (59, .iconst (1), 1, 0), (60, .iand, 0, 0), (61, .ifCond .ne (6), 67, 0)],
  [(64, .goto (43), 107, 0), (67, .iload 5, 5, 0), (69, .iload_n 0, 0, 0), (70, .if_icmp .ne (7), 77, 0)],
  [(73, .iconst (1), 1, 0), (74, .goto (9), 83, 0), (77, .aload_n 2, 0, 0), (78, .iload 5, 5, 0)],
  [(80, .iaload, 0, 0), (81, .iconst (1), 1, 0), (82, .iadd, 0, 0), (83, .istore 6, 6, 0), (85, .aload_n 2, 0, 0), (86, .iload 4, 4, 0)],
  [(88, .iload 6, 6, 0), (90, .aload_n 2, 0, 0), (91, .iload 4, 4, 0), (93, .iaload, 0, 0), (94, .if_icmp .ge (8), 102, 0)],
  [(97, .iload 6, 6, 0), (99, .goto (7), 106, 0), (102, .aload_n 2, 0, 0), (103, .iload 4, 4, 0)],
  [(105, .iaload, 0, 0), (106, .iastore, 0, 0), (107, .iinc 5 (1), 1, 0), (110, .goto (-65), 45, 0)],
  [(113, .iinc 4 (1), 1, 0), (116, .goto (-81), 35, 0), (119, .iinc 3 (1), 1, 0)],
  [(122, .goto (-96), 26, 0), (125, .aload_n 2, 0, 0), (126, .areturn, 0, 0)]]
/-- SnapshotRingsLaw.value(II[I[I)I -/
def sn_c57 : List (List (Nat × sn_E)) := [[(0, .iload_n 0, 0, 0), (1, .iload_n 1, 0, 0), (2, .aload_n 2, 0, 0), (3, .invokestatic 16, 52, 0), (6, .istore 4, 4, 0)],
  [(8, .iload 4, 4, 0), (10, .ifCond .ne (7), 17, 0), (13, .iconst (0), 0, 0), (14, .goto (11), 25, 0)],
  [(17, .aload_n 3, 0, 0), (18, .iconst (4), 4, 0), (19, .iload 4, 4, 0), (21, .imul, 0, 0), (22, .iload_n 0, 0, 0), (23, .iadd, 0, 0)],
  [(24, .iaload, 0, 0), (25, .ireturn, 0, 0)]]
/-- SnapshotRingsLaw.holds(II[I[I[I[I)I -/
def sn_c58 : List (List (Nat × sn_E)) := [[(0, .iconst (0), 0, 0), (1, .istore 6, 6, 0), (3, .iconst (0), 0, 0), (4, .istore 7, 7, 0), (6, .iload 7, 7, 0)],
  [(8, .iconst (4), 4, 0), (9, .if_icmp .ge (97), 106, 0), (12, .aload_n 2, 0, 0), (13, .bipush (6), 6, 0), (15, .iconst (2), 2, 0)],
  [(16, .iload_n 0, 0, 0), (17, .imul, 0, 0), (18, .iadd, 0, 0), (19, .iaload, 0, 0), (20, .iload 7, 7, 0), (22, .ishr, 0, 0), (23, .iconst (1), 1, 0)],
  [(24, .iand, 0, 0), (25, .ifCond .ne (6), 31, 0), (28, .goto (72), 100, 0), (31, .iload 6, 6, 0)],
  [(33, .iload_n 1, 0, 0), (34, .ifCond .ge (17), 51, 0), (37, .iload 7, 7, 0), (39, .aload_n 2, 0, 0)],
  [(40, .iconst (0), 0, 0), (41, .iaload, 0, 0), (42, .aload_n 3, 0, 0), (43, .aload 4, 4, 0), (45, .invokestatic 35, 57, 0)],
  [(48, .goto (49), 97, 0), (51, .aload 5, 5, 0), (53, .iconst (3), 3, 0), (54, .iload_n 1, 0, 0), (55, .imul, 0, 0)],
  [(56, .iconst (2), 2, 0), (57, .iadd, 0, 0), (58, .iaload, 0, 0), (59, .iload 7, 7, 0), (61, .ishr, 0, 0), (62, .iconst (1), 1, 0), (63, .iand, 0, 0)],
  [(64, .iconst (1), 1, 0), (65, .if_icmp .ne (18), 83, 0), (68, .aload 5, 5, 0), (70, .bipush (12), 12, 0)],
  [(72, .iconst (4), 4, 0), (73, .iload_n 1, 0, 0), (74, .imul, 0, 0), (75, .iadd, 0, 0), (76, .iload 7, 7, 0), (78, .iadd, 0, 0), (79, .iaload, 0, 0)],
  [(80, .goto (17), 97, 0), (83, .iload 7, 7, 0), (85, .aload 5, 5, 0), (87, .iconst (3), 3, 0)],
  [(88, .iload_n 1, 0, 0), (89, .imul, 0, 0), (90, .iaload, 0, 0), (91, .aload_n 3, 0, 0), (92, .aload 4, 4, 0), (94, .invokestatic 35, 57, 0)],
  [(97, .iadd, 0, 0), (98, .istore 6, 6, 0), (100, .iinc 7 (1), 1, 0), (103, .goto (-97), 6, 0)],
  [(106, .iload 6, 6, 0), (108, .aload_n 2, 0, 0), (109, .bipush (7), 7, 0), (111, .iconst (2), 2, 0)],
  [(112, .iload_n 0, 0, 0), (113, .imul, 0, 0), (114, .iadd, 0, 0), (115, .iaload, 0, 0), (116, .if_icmp .lt (7), 123, 0), (119, .iconst (1), 1, 0)],
  [(120, .goto (4), 124, 0), (123, .iconst (0), 0, 0), (124, .ireturn, 0, 0)]]
/-- SnapshotRingsLaw.same(LSnapshotRings;[I[I[I[I)Z -/
def sn_c59 : List (List (Nat × sn_E)) := [[(0, .iconst (0), 0, 0), (1, .istore 5, 5, 0), (3, .iconst (0), 0, 0), (4, .istore 6, 6, 0), (6, .iload 6, 6, 0)],
  [(8, .iconst (4), 4, 0), (9, .if_icmp .ge (48), 57, 0), (12, .aload_n 0, 0, 0), (13, .iload 6, 6, 0), (15, .invokevirtual 39, 60, 0)],
  [(18, .iload 6, 6, 0), (20, .aload_n 1, 0, 0), (21, .iconst (0), 0, 0), (22, .iaload, 0, 0), (23, .aload_n 2, 0, 0)],
  [(24, .invokestatic 16, 52, 0), (27, .if_icmp .ne (22), 49, 0), (30, .aload_n 0, 0, 0), (31, .iload 6, 6, 0)],
  [(33, .invokevirtual 44, 61, 0), (36, .iload 6, 6, 0), (38, .aload_n 1, 0, 0), (39, .iconst (0), 0, 0)],
  [(40, .iaload, 0, 0), (41, .aload_n 2, 0, 0), (42, .aload_n 3, 0, 0), (43, .invokestatic 35, 57, 0), (46, .if_icmp .eq (5), 51, 0)],
  [(49, .iconst (0), 0, 0), (50, .ireturn, 0, 0), (51, .iinc 6 (1), 1, 0), (54, .goto (-48), 6, 0)],
  [(57, .iconst (0), 0, 0), (58, .istore 6, 6, 0), (60, .iload 6, 6, 0), (62, .iconst (4), 4, 0), (63, .if_icmp .ge (385), 448, 0)],
  [(66, .aload 4, 4, 0), (68, .iconst (3), 3, 0), (69, .iload 6, 6, 0), (71, .imul, 0, 0)],
  [(72, .iaload, 0, 0), (73, .ifCond .ge (18), 91, 0), (76, .aload_n 0, 0, 0), (77, .iload 6, 6, 0), (79, .iconst (0), 0, 0)],
  [(80, .invokevirtual 46, 62, 0), (83, .sipush (-20001), 20001, 1), (86, .if_icmp .eq (356), 442, 0)],
  [(89, .iconst (0), 0, 0), (90, .ireturn, 0, 0), (91, .iinc 5 (1), 1, 0), (94, .sipush (-20006), 20006, 1)],
  [(97, .istore 7, 7, 0), (99, .iconst (2), 2, 0), (100, .istore 8, 8, 0), (102, .iload 8, 8, 0)],
  [(104, .ifCond .lt (32), 136, 0), (107, .iload 6, 6, 0), (109, .iload 8, 8, 0), (111, .aload_n 1, 0, 0)],
  [(112, .aload_n 2, 0, 0), (113, .aload 4, 4, 0), (115, .invokestatic 31, 51, 0), (118, .ifCond .le (8), 126, 0)],
  [(121, .iload 8, 8, 0), (123, .goto (5), 128, 0), (126, .iload 7, 7, 0)],
  [(128, .istore 7, 7, 0), (130, .iinc 8 (-1), 1, 1), (133, .goto (-31), 102, 0)],
  [(136, .aload_n 0, 0, 0), (137, .iload 6, 6, 0), (139, .iconst (0), 0, 0), (140, .invokevirtual 46, 62, 0), (143, .aload 4, 4, 0)],
  [(145, .iconst (3), 3, 0), (146, .iload 6, 6, 0), (148, .imul, 0, 0), (149, .iaload, 0, 0), (150, .if_icmp .ne (74), 224, 0)],
  [(153, .aload_n 0, 0, 0), (154, .iload 6, 6, 0), (156, .iconst (1), 1, 0), (157, .invokevirtual 46, 62, 0)],
  [(160, .aload 4, 4, 0), (162, .iconst (3), 3, 0), (163, .iload 6, 6, 0), (165, .imul, 0, 0), (166, .iconst (1), 1, 0), (167, .iadd, 0, 0)],
  [(168, .iaload, 0, 0), (169, .if_icmp .ne (55), 224, 0), (172, .aload_n 0, 0, 0), (173, .iload 6, 6, 0), (175, .iconst (2), 2, 0)],
  [(176, .invokevirtual 46, 62, 0), (179, .aload 4, 4, 0), (181, .iconst (3), 3, 0), (182, .iload 6, 6, 0)],
  [(184, .imul, 0, 0), (185, .iconst (2), 2, 0), (186, .iadd, 0, 0), (187, .iaload, 0, 0), (188, .if_icmp .ne (36), 224, 0), (191, .aload_n 0, 0, 0)],
  [(192, .iload 6, 6, 0), (194, .iconst (3), 3, 0), (195, .invokevirtual 46, 62, 0), (198, .iload 6, 6, 0)],
  [(200, .aload_n 1, 0, 0), (201, .iconst (1), 1, 0), (202, .iaload, 0, 0), (203, .aload_n 1, 0, 0), (204, .aload_n 2, 0, 0), (205, .aload 4, 4, 0), (207, .invokestatic 31, 51, 0)],
  [(210, .if_icmp .ne (14), 224, 0), (213, .aload_n 0, 0, 0), (214, .iload 6, 6, 0)],
  [(216, .invokevirtual 50, 64, 0), (219, .iload 7, 7, 0), (221, .if_icmp .eq (5), 226, 0)],
  [(224, .iconst (0), 0, 0), (225, .ireturn, 0, 0), (226, .iconst (0), 0, 0), (227, .istore 8, 8, 0), (229, .iload 8, 8, 0), (231, .iconst (3), 3, 0)],
  [(232, .if_icmp .ge (34), 266, 0), (235, .aload_n 0, 0, 0), (236, .iload 6, 6, 0), (238, .iload 8, 8, 0)],
  [(240, .invokevirtual 53, 65, 0), (243, .iload 8, 8, 0), (245, .iload 6, 6, 0), (247, .aload_n 1, 0, 0)],
  [(248, .aload_n 2, 0, 0), (249, .aload_n 3, 0, 0), (250, .aload 4, 4, 0), (252, .invokestatic 56, 58, 0), (255, .if_icmp .eq (5), 260, 0)],
  [(258, .iconst (0), 0, 0), (259, .ireturn, 0, 0), (260, .iinc 8 (1), 1, 0), (263, .goto (-34), 229, 0)],
  [(266, .aload_n 1, 0, 0), (267, .iconst (0), 0, 0), (268, .iaload, 0, 0), (269, .iconst (1), 1, 0), (270, .iadd, 0, 0), (271, .istore 8, 8, 0)],
  [(273, .iload 6, 6, 0), (275, .bipush (7), 7, 0), (277, .aload_n 1, 0, 0), (278, .aload_n 2, 0, 0), (279, .aload 4, 4, 0)],
  [(281, .invokestatic 23, 53, 0), (284, .astore 9, 9, 0), (286, .iload 8, 8, 0)],
  [(288, .aload 9, 9, 0), (290, .invokestatic 27, 56, 0), (293, .astore 10, 10, 0), (295, .iload 8, 8, 0)],
  [(297, .istore 11, 11, 0), (299, .aload 10, 10, 0), (301, .iload 8, 8, 0), (303, .iaload, 0, 0)],
  [(304, .istore 12, 12, 0), (306, .iconst (1), 1, 0), (307, .istore 13, 13, 0), (309, .iload 12, 12, 0), (311, .bipush (99), 99, 0)],
  [(313, .if_icmp .ge (96), 409, 0), (316, .iload 12, 12, 0), (318, .iconst (1), 1, 0), (319, .if_icmp .le (90), 409, 0)],
  [(322, .iconst (0), 0, 0), (323, .istore 14, 14, 0), (325, .aload_n 1, 0, 0), (326, .iconst (0), 0, 0), (327, .iaload, 0, 0)],
  [(328, .istore 15, 15, 0), (330, .iload 15, 15, 0), (332, .ifCond .le (44), 376, 0), (335, .aload 9, 9, 0)],
  [(337, .iload 11, 11, 0), (339, .iaload, 0, 0), (340, .iload 15, 15, 0), (342, .ishr, 0, 0), (343, .iconst (1), 1, 0)],
  [(344, .iand, 0, 0), (345, .iconst (1), 1, 0), (346, .if_icmp .ne (20), 366, 0), (349, .aload 10, 10, 0), (351, .iload 15, 15, 0)],
  [(353, .iaload, 0, 0), (354, .iload 12, 12, 0), (356, .iconst (1), 1, 0), (357, .isub, 0, 0), (358, .if_icmp .ne (8), 366, 0)],
  [(361, .iload 15, 15, 0), (363, .goto (5), 368, 0), (366, .iload 14, 14, 0)],
  [(368, .istore 14, 14, 0), (370, .iinc 15 (-1), 1, 1), (373, .goto (-43), 330, 0)],
  [(376, .iload 14, 14, 0), (378, .ifCond .eq (16), 394, 0), (381, .aload_n 0, 0, 0), (382, .iload 6, 6, 0)],
  [(384, .iload 13, 13, 0), (386, .invokevirtual 60, 66, 0), (389, .iload 14, 14, 0), (391, .if_icmp .eq (5), 396, 0)],
  [(394, .iconst (0), 0, 0), (395, .ireturn, 0, 0), (396, .iload 14, 14, 0), (398, .istore 11, 11, 0)],
  [(400, .iinc 12 (-1), 1, 1), (403, .iinc 13 (1), 1, 0), (406, .goto (-97), 309, 0)],
  [(409, .aload_n 0, 0, 0), (410, .iload 6, 6, 0), (412, .aload 10, 10, 0), (414, .iload 8, 8, 0)],
  [(416, .iaload, 0, 0), (417, .bipush (99), 99, 0), (419, .if_icmp .ge (11), 430, 0), (422, .aload 10, 10, 0)],
  [(424, .iload 8, 8, 0), (426, .iaload, 0, 0), (427, .goto (4), 431, 0), (430, .iconst (1), 1, 0), (431, .invokevirtual 60, 66, 0)],
  [(434, .sipush (-20006), 20006, 1), (437, .if_icmp .eq (5), 442, 0)],
  [(440, .iconst (0), 0, 0), (441, .ireturn, 0, 0), (442, .iinc 6 (1), 1, 0), (445, .goto (-385), 60, 0)],
  [(448, .iconst (0), 0, 0), (449, .istore 6, 6, 0), (451, .iconst (0), 0, 0), (452, .istore 7, 7, 0), (454, .iconst (-1), 1, 1), (455, .bipush (7), 7, 0)],
  [(457, .aload_n 1, 0, 0), (458, .aload_n 2, 0, 0), (459, .aload 4, 4, 0), (461, .invokestatic 23, 53, 0)],
  [(464, .astore 8, 8, 0), (466, .iconst (1), 1, 0), (467, .istore 9, 9, 0), (469, .iload 9, 9, 0), (471, .aload_n 1, 0, 0)],
  [(472, .iconst (0), 0, 0), (473, .iaload, 0, 0), (474, .if_icmp .gt (183), 657, 0), (477, .aload_n 0, 0, 0), (478, .iload 9, 9, 0)],
  [(480, .iconst (0), 0, 0), (481, .invokevirtual 63, 68, 0), (484, .aload_n 2, 0, 0), (485, .iload 9, 9, 0), (487, .iaload, 0, 0)],
  [(488, .if_icmp .ne (37), 525, 0), (491, .aload_n 0, 0, 0), (492, .iload 9, 9, 0), (494, .iconst (1), 1, 0), (495, .invokevirtual 63, 68, 0)],
  [(498, .aload_n 2, 0, 0), (499, .bipush (16), 16, 0), (501, .iload 9, 9, 0), (503, .iadd, 0, 0)],
  [(504, .iaload, 0, 0), (505, .if_icmp .ne (20), 525, 0), (508, .aload_n 0, 0, 0), (509, .iload 9, 9, 0), (511, .iconst (2), 2, 0)],
  [(512, .invokevirtual 63, 68, 0), (515, .aload_n 2, 0, 0), (516, .bipush (32), 32, 0), (518, .iload 9, 9, 0)],
  [(520, .iadd, 0, 0), (521, .iaload, 0, 0), (522, .if_icmp .eq (5), 527, 0), (525, .iconst (0), 0, 0), (526, .ireturn, 0, 0), (527, .iload 6, 6, 0)],
  [(529, .iload 9, 9, 0), (531, .aload 8, 8, 0), (533, .invokestatic 27, 56, 0)],
  [(536, .iload 9, 9, 0), (538, .iaload, 0, 0), (539, .bipush (99), 99, 0), (541, .if_icmp .ge (7), 548, 0)],
  [(544, .iconst (1), 1, 0), (545, .goto (4), 549, 0), (548, .iconst (0), 0, 0), (549, .iadd, 0, 0), (550, .istore 6, 6, 0)],
  [(552, .iconst (1), 1, 0), (553, .istore 10, 10, 0), (555, .iload 10, 10, 0), (557, .aload_n 1, 0, 0), (558, .iconst (0), 0, 0), (559, .iaload, 0, 0)],
  [(560, .if_icmp .gt (91), 651, 0), (563, .iload 9, 9, 0), (565, .iload 10, 10, 0), (567, .if_icmp .ne (6), 573, 0)],
  [(570, .goto (75), 645, 0), (573, .aload_n 0, 0, 0), (574, .iload 9, 9, 0)],
  [(576, .iload 10, 10, 0), (578, .invokevirtual 66, 70, 0), (581, .iload 9, 9, 0), (583, .iload 10, 10, 0)],
  [(585, .iconst (-1), 1, 1), (586, .aload_n 1, 0, 0), (587, .aload_n 2, 0, 0), (588, .aload 4, 4, 0), (590, .invokestatic 20, 54, 0)],
  [(593, .if_icmp .eq (5), 598, 0), (596, .iconst (0), 0, 0), (597, .ireturn, 0, 0), (598, .iload 7, 7, 0)],
  [(600, .iload 9, 9, 0), (602, .iload 10, 10, 0), (604, .if_icmp .ge (37), 641, 0), (607, .iload 9, 9, 0)],
  [(609, .iload 10, 10, 0), (611, .iconst (-1), 1, 1), (612, .aload_n 1, 0, 0), (613, .aload_n 2, 0, 0), (614, .aload 4, 4, 0)],
  [(616, .invokestatic 20, 54, 0), (619, .iload 10, 10, 0), (621, .iload 9, 9, 0), (623, .iconst (-1), 1, 1)],
  [(624, .aload_n 1, 0, 0), (625, .aload_n 2, 0, 0), (626, .aload 4, 4, 0), (628, .invokestatic 20, 54, 0), (631, .iand, 0, 0)],
  [(632, .iconst (4), 4, 0), (633, .iand, 0, 0), (634, .ifCond .eq (7), 641, 0), (637, .iconst (1), 1, 0), (638, .goto (4), 642, 0)],
  [(641, .iconst (0), 0, 0), (642, .iadd, 0, 0), (643, .istore 7, 7, 0), (645, .iinc 10 (1), 1, 0)],
  [(648, .goto (-93), 555, 0), (651, .iinc 9 (1), 1, 0), (654, .goto (-185), 469, 0)],
  [(657, .iconst (0), 0, 0), (658, .istore 9, 9, 0), (660, .iconst (0), 0, 0), (661, .istore 10, 10, 0), (663, .iload 10, 10, 0)],
  [(665, .aload_n 1, 0, 0), (666, .iconst (0), 0, 0), (667, .iaload, 0, 0), (668, .if_icmp .gt (150), 818, 0), (671, .iconst (0), 0, 0)],
  [(672, .istore 11, 11, 0), (674, .aload_n 1, 0, 0), (675, .iconst (0), 0, 0), (676, .iaload, 0, 0), (677, .istore 12, 12, 0), (679, .iload 12, 12, 0)],
  [(681, .ifCond .le (93), 774, 0), (684, .iload 9, 9, 0), (686, .iload 12, 12, 0)],
  [(688, .ishr, 0, 0), (689, .iconst (1), 1, 0), (690, .iand, 0, 0), (691, .ifCond .ne (7), 698, 0), (694, .iconst (1), 1, 0), (695, .goto (4), 699, 0)],
  [(698, .iconst (0), 0, 0), (699, .istore 13, 13, 0), (701, .iconst (1), 1, 0), (702, .istore 14, 14, 0)],
  [(704, .iload 14, 14, 0), (706, .aload_n 1, 0, 0), (707, .iconst (0), 0, 0), (708, .iaload, 0, 0), (709, .if_icmp .gt (45), 754, 0)],
  [(712, .iload 13, 13, 0), (714, .ifCond .eq (31), 745, 0), (717, .iload 9, 9, 0), (719, .iload 14, 14, 0)],
  [(721, .ishr, 0, 0), (722, .iconst (1), 1, 0), (723, .iand, 0, 0), (724, .iconst (1), 1, 0), (725, .if_icmp .eq (16), 741, 0)],
  [(728, .aload 8, 8, 0), (730, .iload 14, 14, 0), (732, .iaload, 0, 0), (733, .iload 12, 12, 0), (735, .ishr, 0, 0)],
  [(736, .iconst (1), 1, 0), (737, .iand, 0, 0), (738, .ifCond .ne (7), 745, 0), (741, .iconst (1), 1, 0), (742, .goto (4), 746, 0)],
  [(745, .iconst (0), 0, 0), (746, .istore 13, 13, 0), (748, .iinc 14 (1), 1, 0), (751, .goto (-47), 704, 0)],
  [(754, .iload 13, 13, 0), (756, .ifCond .eq (8), 764, 0), (759, .iload 12, 12, 0)],
  [(761, .goto (5), 766, 0), (764, .iload 11, 11, 0), (766, .istore 11, 11, 0)],
  [(768, .iinc 12 (-1), 1, 1), (771, .goto (-92), 679, 0), (774, .aload_n 0, 0, 0), (775, .iload 10, 10, 0)],
  [(777, .invokevirtual 69, 71, 0), (780, .iload 6, 6, 0), (782, .ifCond .gt (8), 790, 0)],
  [(785, .iload 11, 11, 0), (787, .ifCond .ne (9), 796, 0), (790, .sipush (-20006), 20006, 1)],
  [(793, .goto (5), 798, 0), (796, .iload 11, 11, 0), (798, .if_icmp .eq (5), 803, 0)],
  [(801, .iconst (0), 0, 0), (802, .ireturn, 0, 0), (803, .iload 9, 9, 0), (805, .iconst (1), 1, 0), (806, .iload 11, 11, 0)],
  [(808, .ishl, 0, 0), (809, .ior, 0, 0), (810, .istore 9, 9, 0), (812, .iinc 10 (1), 1, 0), (815, .goto (-152), 663, 0)],
  [(818, .iconst (0), 0, 0), (819, .istore 10, 10, 0), (821, .iload 10, 10, 0), (823, .iconst (3), 3, 0)],
  [(824, .if_icmp .ge (31), 855, 0), (827, .aload_n 0, 0, 0), (828, .iload 10, 10, 0), (830, .invokevirtual 72, 74, 0)],
  [(833, .iload 10, 10, 0), (835, .iconst (-1), 1, 1), (836, .aload_n 1, 0, 0), (837, .aload_n 2, 0, 0), (838, .aload_n 3, 0, 0), (839, .aload 4, 4, 0)],
  [(841, .invokestatic 56, 58, 0), (844, .if_icmp .eq (5), 849, 0), (847, .iconst (0), 0, 0)],
  [(848, .ireturn, 0, 0), (849, .iinc 10 (1), 1, 0), (852, .goto (-31), 821, 0), (855, .aload_n 0, 0, 0)],
  [(856, .iconst (0), 0, 0), (857, .invokevirtual 74, 75, 0), (860, .aload_n 1, 0, 0), (861, .iconst (0), 0, 0), (862, .iaload, 0, 0), (863, .if_icmp .ne (119), 982, 0)],
  [(866, .aload_n 0, 0, 0), (867, .iconst (1), 1, 0), (868, .invokevirtual 74, 75, 0), (871, .iload 5, 5, 0)],
  [(873, .if_icmp .ne (109), 982, 0), (876, .aload_n 0, 0, 0), (877, .iconst (2), 2, 0), (878, .invokevirtual 74, 75, 0)],
  [(881, .aload_n 1, 0, 0), (882, .iconst (1), 1, 0), (883, .iaload, 0, 0), (884, .if_icmp .ne (98), 982, 0), (887, .aload_n 0, 0, 0)],
  [(888, .iconst (3), 3, 0), (889, .invokevirtual 74, 75, 0), (892, .aload_n 1, 0, 0), (893, .iconst (0), 0, 0), (894, .iaload, 0, 0), (895, .if_icmp .ne (87), 982, 0)],
  [(898, .aload_n 0, 0, 0), (899, .iconst (4), 4, 0), (900, .invokevirtual 74, 75, 0), (903, .aload_n 1, 0, 0)],
  [(904, .iconst (2), 2, 0), (905, .iaload, 0, 0), (906, .if_icmp .ne (76), 982, 0), (909, .aload_n 0, 0, 0), (910, .iconst (5), 5, 0), (911, .invokevirtual 74, 75, 0)],
  [(914, .aload_n 1, 0, 0), (915, .iconst (3), 3, 0), (916, .iaload, 0, 0), (917, .if_icmp .ne (65), 982, 0)],
  [(920, .aload_n 0, 0, 0), (921, .bipush (6), 6, 0), (923, .invokevirtual 74, 75, 0), (926, .aload_n 1, 0, 0), (927, .iconst (4), 4, 0)],
  [(928, .iaload, 0, 0), (929, .if_icmp .ne (53), 982, 0), (932, .aload_n 0, 0, 0), (933, .bipush (7), 7, 0), (935, .invokevirtual 74, 75, 0)],
  [(938, .aload_n 1, 0, 0), (939, .iconst (5), 5, 0), (940, .iaload, 0, 0), (941, .if_icmp .ne (41), 982, 0)],
  [(944, .aload_n 0, 0, 0), (945, .invokevirtual 77, 76, 0), (948, .iload 6, 6, 0), (950, .if_icmp .ne (32), 982, 0)],
  [(953, .aload_n 0, 0, 0), (954, .invokevirtual 81, 78, 0), (957, .iload 7, 7, 0), (959, .if_icmp .ne (23), 982, 0)],
  [(962, .aload_n 0, 0, 0), (963, .aload_n 1, 0, 0), (964, .iconst (0), 0, 0), (965, .iaload, 0, 0), (966, .iconst (1), 1, 0), (967, .iadd, 0, 0)],
  [(968, .iconst (0), 0, 0), (969, .invokevirtual 63, 68, 0), (972, .sipush (-20001), 20001, 1), (975, .if_icmp .ne (7), 982, 0)],
  [(978, .iconst (1), 1, 0), (979, .goto (4), 983, 0), (982, .iconst (0), 0, 0), (983, .ireturn, 0, 0)]]
/-- SnapshotRings.version(I)I -/
def sn_c60 : List (List (Nat × sn_E)) := [[(0, .iload_n 1, 0, 0), (1, .invokestatic 111, 18, 0), (4, .ifCond .eq (15), 19, 0), (7, .aload_n 0, 0, 0)],
  [(8, .getfield 12, 0, 0), (11, .getfield 117, 1, 8), (14, .iload_n 1, 0, 0), (15, .iaload, 0, 0)],
  [(16, .goto (6), 22, 0), (19, .sipush (-20001), 20001, 1), (22, .ireturn, 0, 0)]]
/-- SnapshotRings.value(I)I -/
def sn_c61 : List (List (Nat × sn_E)) := [[(0, .iload_n 1, 0, 0), (1, .invokestatic 111, 18, 0), (4, .ifCond .eq (15), 19, 0), (7, .aload_n 0, 0, 0)],
  [(8, .getfield 12, 0, 0), (11, .getfield 114, 1, 7), (14, .iload_n 1, 0, 0), (15, .iaload, 0, 0)],
  [(16, .goto (6), 22, 0), (19, .sipush (-20001), 20001, 1), (22, .ireturn, 0, 0)]]
/-- SnapshotRings.of(II)I -/
def sn_c62 : List (List (Nat × sn_E)) := [[(0, .aload_n 0, 0, 0), (1, .iload_n 1, 0, 0), (2, .invokevirtual 80, 19, 0), (5, .istore_n 3, 0, 0), (6, .iload_n 3, 0, 0), (7, .ifCond .eq (5), 12, 0)],
  [(10, .iload_n 3, 0, 0), (11, .ireturn, 0, 0), (12, .iload_n 2, 0, 0), (13, .iconst (3), 3, 0), (14, .if_icmp .ne (20), 34, 0)],
  [(17, .aload_n 0, 0, 0), (18, .aload_n 0, 0, 0), (19, .getfield 12, 0, 0), (22, .iload_n 1, 0, 0), (23, .aload_n 0, 0, 0)],
  [(24, .getfield 12, 0, 0), (27, .getfield 44, 1, 0), (30, .invokevirtual 120, 27, 0)],
  [(33, .ireturn, 0, 0), (34, .aload_n 0, 0, 0), (35, .getfield 12, 0, 0), (38, .iload_n 1, 0, 0), (39, .iload_n 2, 0, 0)],
  [(40, .invokevirtual 124, 63, 0), (43, .ireturn, 0, 0)]]
/-- SnapshotRings$State.partOfRow(II)I -/
def sn_c63 : List (List (Nat × sn_E)) := [[(0, .iload_n 2, 0, 0), (1, .tableswitch (48) (0) (2) #[27, 34, 41], 0, 0)],
  [],
  [],
  [(28, .aload_n 0, 0, 0), (29, .getfield 27, 1, 9)],
  [(32, .iload_n 1, 0, 0), (33, .iaload, 0, 0), (34, .ireturn, 0, 0), (35, .aload_n 0, 0, 0), (36, .getfield 30, 1, 10), (39, .iload_n 1, 0, 0)],
  [(40, .iaload, 0, 0), (41, .ireturn, 0, 0), (42, .aload_n 0, 0, 0), (43, .getfield 33, 1, 11), (46, .iload_n 1, 0, 0), (47, .iaload, 0, 0)],
  [(48, .ireturn, 0, 0), (49, .sipush (-20002), 20002, 1), (52, .ireturn, 0, 0)]]
/-- SnapshotRings.refusedBy(I)I -/
def sn_c64 : List (List (Nat × sn_E)) := [[(0, .aload_n 0, 0, 0), (1, .iload_n 1, 0, 0), (2, .invokevirtual 80, 19, 0), (5, .istore_n 2, 0, 0), (6, .iload_n 2, 0, 0), (7, .ifCond .eq (5), 12, 0)],
  [(10, .iload_n 2, 0, 0), (11, .ireturn, 0, 0), (12, .iconst (0), 0, 0), (13, .istore_n 3, 0, 0), (14, .iload_n 3, 0, 0), (15, .iconst (2), 2, 0)],
  [(16, .if_icmp .gt (24), 40, 0), (19, .aload_n 0, 0, 0), (20, .aload_n 0, 0, 0), (21, .getfield 12, 0, 0)],
  [(24, .iload_n 1, 0, 0), (25, .iload_n 3, 0, 0), (26, .invokevirtual 120, 27, 0), (29, .ifCond .eq (5), 34, 0)],
  [(32, .iload_n 3, 0, 0), (33, .ireturn, 0, 0), (34, .iinc 3 (1), 1, 0), (37, .goto (-23), 14, 0)],
  [(40, .sipush (-20006), 20006, 1), (43, .ireturn, 0, 0)]]
/-- SnapshotRings.holdsFor(II)I -/
def sn_c65 : List (List (Nat × sn_E)) := [[(0, .aload_n 0, 0, 0), (1, .iload_n 1, 0, 0), (2, .invokevirtual 80, 19, 0), (5, .istore_n 3, 0, 0), (6, .iload_n 3, 0, 0), (7, .ifCond .eq (5), 12, 0)],
  [(10, .iload_n 3, 0, 0), (11, .ireturn, 0, 0), (12, .iload_n 2, 0, 0), (13, .invokestatic 48, 9, 0)],
  [(16, .ifCond .ne (7), 23, 0), (19, .sipush (-20001), 20001, 1), (22, .ireturn, 0, 0), (23, .aload_n 0, 0, 0)],
  [(24, .getfield 12, 0, 0), (27, .aload_n 0, 0, 0), (28, .getfield 12, 0, 0), (31, .getfield 163, 1, 13)],
  [(34, .iload_n 1, 0, 0), (35, .bipush (12), 12, 0), (37, .imul, 0, 0), (38, .iload_n 2, 0, 0), (39, .invokevirtual 159, 47, 0)],
  [(42, .ifCond .eq (7), 49, 0), (45, .iconst (1), 1, 0), (46, .goto (4), 50, 0)],
  [(49, .iconst (0), 0, 0), (50, .ireturn, 0, 0)]]
/-- SnapshotRings.ringOf(II)I -/
def sn_c66 : List (List (Nat × sn_E)) := [[(0, .aload_n 0, 0, 0), (1, .iload_n 1, 0, 0), (2, .invokevirtual 80, 19, 0), (5, .istore_n 3, 0, 0), (6, .iload_n 3, 0, 0), (7, .ifCond .eq (5), 12, 0)],
  [(10, .iload_n 3, 0, 0), (11, .ireturn, 0, 0), (12, .iload_n 2, 0, 0), (13, .iconst (1), 1, 0), (14, .if_icmp .ge (7), 21, 0)],
  [(17, .sipush (-20002), 20002, 1), (20, .ireturn, 0, 0), (21, .aload_n 0, 0, 0), (22, .getfield 29, 0, 3)],
  [(25, .aload_n 0, 0, 0), (26, .getfield 12, 0, 0), (29, .invokevirtual 137, 29, 0)],
  [(32, .aload_n 0, 0, 0), (33, .getfield 29, 0, 3), (36, .aload_n 0, 0, 0), (37, .getfield 12, 0, 0)],
  [(40, .iload_n 1, 0, 0), (41, .invokevirtual 140, 35, 0), (44, .aload_n 0, 0, 0), (45, .getfield 29, 0, 3)],
  [(48, .invokevirtual 144, 36, 0), (51, .aload_n 0, 0, 0), (52, .getfield 29, 0, 3), (55, .iload_n 2, 0, 0)],
  [(56, .iconst (1), 1, 0), (57, .isub, 0, 0), (58, .invokevirtual 147, 67, 0), (61, .ireturn, 0, 0)]]
/-- SnapshotRings$Graph.toldAt(I)I -/
def sn_c67 : List (List (Nat × sn_E)) := [[(0, .iload_n 1, 0, 0), (1, .ifCond .lt (20), 21, 0), (4, .iload_n 1, 0, 0), (5, .aload_n 0, 0, 0), (6, .getfield 65, 3, 9)],
  [(9, .if_icmp .ge (12), 21, 0), (12, .aload_n 0, 0, 0), (13, .getfield 33, 3, 8)],
  [(16, .iload_n 1, 0, 0), (17, .iaload, 0, 0), (18, .goto (6), 24, 0), (21, .sipush (-20006), 20006, 1)],
  [(24, .ireturn, 0, 0)]]
/-- SnapshotRings.ofCommit(II)I -/
def sn_c68 : List (List (Nat × sn_E)) := [[(0, .aload_n 0, 0, 0), (1, .getfield 12, 0, 0), (4, .iload_n 1, 0, 0), (5, .invokevirtual 127, 69, 0)],
  [(8, .ifCond .ne (7), 15, 0), (11, .sipush (-20001), 20001, 1), (14, .ireturn, 0, 0), (15, .aload_n 0, 0, 0)],
  [(16, .getfield 12, 0, 0), (19, .aload_n 0, 0, 0), (20, .getfield 12, 0, 0), (23, .iload_n 1, 0, 0)],
  [(24, .invokevirtual 130, 31, 0), (27, .iload_n 2, 0, 0), (28, .invokevirtual 124, 63, 0), (31, .ireturn, 0, 0)]]
/-- SnapshotRings$State.isKept(I)Z -/
def sn_c69 : List (List (Nat × sn_E)) := [[(0, .iload_n 1, 0, 0), (1, .iconst (1), 1, 0), (2, .if_icmp .lt (26), 28, 0), (5, .iload_n 1, 0, 0), (6, .aload_n 0, 0, 0), (7, .getfield 46, 1, 1)],
  [(10, .if_icmp .gt (18), 28, 0), (13, .iload_n 1, 0, 0), (14, .aload_n 0, 0, 0), (15, .getfield 46, 1, 1)],
  [(18, .bipush (16), 16, 0), (20, .isub, 0, 0), (21, .if_icmp .le (7), 28, 0)],
  [(24, .iconst (1), 1, 0), (25, .goto (4), 29, 0), (28, .iconst (0), 0, 0), (29, .ireturn, 0, 0)]]
/-- SnapshotRings.dependency(II)I -/
def sn_c70 : List (List (Nat × sn_E)) := [[(0, .aload_n 0, 0, 0), (1, .getfield 12, 0, 0), (4, .iload_n 1, 0, 0), (5, .invokevirtual 127, 69, 0)],
  [(8, .ifCond .eq (14), 22, 0), (11, .aload_n 0, 0, 0), (12, .getfield 12, 0, 0), (15, .iload_n 2, 0, 0)],
  [(16, .invokevirtual 127, 69, 0), (19, .ifCond .ne (7), 26, 0), (22, .sipush (-20001), 20001, 1)],
  [(25, .ireturn, 0, 0), (26, .iload_n 1, 0, 0), (27, .iload_n 2, 0, 0), (28, .if_icmp .ne (7), 35, 0), (31, .sipush (-20002), 20002, 1)],
  [(34, .ireturn, 0, 0), (35, .aload_n 0, 0, 0), (36, .getfield 12, 0, 0), (39, .aload_n 0, 0, 0)],
  [(40, .getfield 12, 0, 0), (43, .iload_n 1, 0, 0), (44, .invokevirtual 130, 31, 0), (47, .iload_n 1, 0, 0)],
  [(48, .aload_n 0, 0, 0), (49, .getfield 12, 0, 0), (52, .iload_n 2, 0, 0), (53, .invokevirtual 130, 31, 0)],
  [(56, .iload_n 2, 0, 0), (57, .invokevirtual 133, 34, 0), (60, .ireturn, 0, 0)]]
/-- SnapshotRings.orderAt(I)I -/
def sn_c71 : List (List (Nat × sn_E)) := [[(0, .iload_n 1, 0, 0), (1, .ifCond .ge (7), 8, 0), (4, .sipush (-20002), 20002, 1), (7, .ireturn, 0, 0)],
  [(8, .aload_n 0, 0, 0), (9, .getfield 29, 0, 3), (12, .aload_n 0, 0, 0), (13, .getfield 12, 0, 0)],
  [(16, .invokevirtual 137, 29, 0), (19, .aload_n 0, 0, 0), (20, .getfield 29, 0, 3), (23, .invokevirtual 153, 72, 0)],
  [(26, .aload_n 0, 0, 0), (27, .getfield 29, 0, 3), (30, .iload_n 1, 0, 0), (31, .invokevirtual 147, 67, 0)],
  [(34, .ireturn, 0, 0)]]
/-- SnapshotRings$Graph.findOrder()V -/
def sn_c72 : List (List (Nat × sn_E)) := [[(0, .aload_n 0, 0, 0), (1, .iconst (0), 0, 0), (2, .putfield 65, 3, 9), (5, .iconst (0), 0, 0), (6, .istore_n 1, 0, 0), (7, .iconst (0), 0, 0)],
  [(8, .istore_n 2, 0, 0), (9, .iload_n 2, 0, 0), (10, .aload_n 0, 0, 0), (11, .getfield 42, 3, 0), (14, .if_icmp .ge (36), 50, 0)],
  [(17, .aload_n 0, 0, 0), (18, .iload_n 1, 0, 0), (19, .invokevirtual 88, 73, 0), (22, .istore_n 3, 0, 0), (23, .iload_n 3, 0, 0)],
  [(24, .ifCond .ge (9), 33, 0), (27, .aload_n 0, 0, 0), (28, .iconst (0), 0, 0), (29, .putfield 65, 3, 9)],
  [(32, .return_, 0, 0), (33, .aload_n 0, 0, 0), (34, .iload_n 3, 0, 0), (35, .invokevirtual 85, 39, 0), (38, .iload_n 1, 0, 0), (39, .iconst (1), 1, 0)],
  [(40, .iload_n 3, 0, 0), (41, .ishl, 0, 0), (42, .ior, 0, 0), (43, .istore_n 1, 0, 0), (44, .iinc 2 (1), 1, 0), (47, .goto (-38), 9, 0)],
  [(50, .return_, 0, 0)]]
/-- SnapshotRings$Graph.lowestPossible(I)I -/
def sn_c73 : List (List (Nat × sn_E)) := [[(0, .iload_n 1, 0, 0), (1, .istore_n 2, 0, 0), (2, .iconst (0), 0, 0), (3, .istore_n 3, 0, 0), (4, .iload_n 3, 0, 0), (5, .aload_n 0, 0, 0), (6, .getfield 42, 3, 0)],
  [(9, .if_icmp .ge (26), 35, 0), (12, .iload_n 1, 0, 0), (13, .iload_n 3, 0, 0), (14, .invokestatic 72, 14, 1)],
  [(17, .ifCond .ne (12), 29, 0), (20, .iload_n 2, 0, 0), (21, .aload_n 0, 0, 0), (22, .getfield 21, 3, 4)],
  [(25, .iload_n 3, 0, 0), (26, .iaload, 0, 0), (27, .ior, 0, 0), (28, .istore_n 2, 0, 0), (29, .iinc 3 (1), 1, 0)],
  [(32, .goto (-28), 4, 0), (35, .iconst (0), 0, 0), (36, .istore_n 3, 0, 0), (37, .iload_n 3, 0, 0), (38, .aload_n 0, 0, 0), (39, .getfield 42, 3, 0)],
  [(42, .if_icmp .ge (19), 61, 0), (45, .iload_n 2, 0, 0), (46, .iload_n 3, 0, 0), (47, .invokestatic 72, 14, 1)],
  [(50, .ifCond .ne (5), 55, 0), (53, .iload_n 3, 0, 0), (54, .ireturn, 0, 0), (55, .iinc 3 (1), 1, 0)],
  [(58, .goto (-21), 37, 0), (61, .iconst (-1), 1, 1), (62, .ireturn, 0, 0)]]
/-- SnapshotRings.holds(I)I -/
def sn_c74 : List (List (Nat × sn_E)) := [[(0, .iload_n 1, 0, 0), (1, .invokestatic 48, 9, 0), (4, .ifCond .ne (7), 11, 0), (7, .sipush (-20001), 20001, 1)],
  [(10, .ireturn, 0, 0), (11, .aload_n 0, 0, 0), (12, .getfield 12, 0, 0), (15, .aload_n 0, 0, 0)],
  [(16, .getfield 12, 0, 0), (19, .getfield 114, 1, 7), (22, .iconst (0), 0, 0), (23, .iload_n 1, 0, 0)],
  [(24, .invokevirtual 159, 47, 0), (27, .ifCond .eq (7), 34, 0), (30, .iconst (1), 1, 0), (31, .goto (4), 35, 0)],
  [(34, .iconst (0), 0, 0), (35, .ireturn, 0, 0)]]
/-- SnapshotRings.count(I)I -/
def sn_c75 : List (List (Nat × sn_E)) := [[(0, .iload_n 1, 0, 0), (1, .tableswitch (120) (0) (7) #[47, 55, 66, 74, 82, 92, 102, 112], 0, 0)],
  [],
  [],
  [],
  [],
  [],
  [(48, .aload_n 0, 0, 0), (49, .getfield 12, 0, 0), (52, .getfield 90, 1, 1), (55, .ireturn, 0, 0)],
  [(56, .aload_n 0, 0, 0), (57, .getfield 12, 0, 0), (60, .getfield 93, 1, 3), (63, .invokestatic 96, 24, 0)],
  [(66, .ireturn, 0, 0), (67, .aload_n 0, 0, 0), (68, .getfield 12, 0, 0), (71, .getfield 44, 1, 0)],
  [(74, .ireturn, 0, 0), (75, .aload_n 0, 0, 0), (76, .getfield 12, 0, 0), (79, .invokevirtual 101, 30, 0)],
  [(82, .ireturn, 0, 0), (83, .aload_n 0, 0, 0), (84, .getfield 12, 0, 0), (87, .getfield 105, 1, 4)],
  [(90, .iconst (1), 1, 0), (91, .iaload, 0, 0), (92, .ireturn, 0, 0), (93, .aload_n 0, 0, 0), (94, .getfield 12, 0, 0)],
  [(97, .getfield 105, 1, 4), (100, .iconst (2), 2, 0), (101, .iaload, 0, 0), (102, .ireturn, 0, 0), (103, .aload_n 0, 0, 0)],
  [(104, .getfield 12, 0, 0), (107, .getfield 105, 1, 4), (110, .iconst (3), 3, 0), (111, .iaload, 0, 0)],
  [(112, .ireturn, 0, 0), (113, .aload_n 0, 0, 0), (114, .getfield 12, 0, 0), (117, .getfield 108, 1, 2)],
  [(120, .ireturn, 0, 0), (121, .sipush (-20002), 20002, 1), (124, .ireturn, 0, 0)]]
/-- SnapshotRings.inRings()I -/
def sn_c76 : List (List (Nat × sn_E)) := [[(0, .aload_n 0, 0, 0), (1, .getfield 29, 0, 3), (4, .aload_n 0, 0, 0), (5, .getfield 12, 0, 0)],
  [(8, .invokevirtual 137, 29, 0), (11, .aload_n 0, 0, 0), (12, .getfield 29, 0, 3), (15, .invokevirtual 150, 77, 0)],
  [(18, .ireturn, 0, 0)]]
/-- SnapshotRings$Graph.countNodesInRings()I -/
def sn_c77 : List (List (Nat × sn_E)) := [[(0, .iconst (0), 0, 0), (1, .istore_n 1, 0, 0), (2, .iload_n 1, 0, 0), (3, .aload_n 0, 0, 0), (4, .getfield 42, 3, 0), (7, .if_icmp .ge (21), 28, 0)],
  [(10, .aload_n 0, 0, 0), (11, .getfield 27, 3, 6), (14, .iload_n 1, 0, 0), (15, .aload_n 0, 0, 0)],
  [(16, .getfield 21, 3, 4), (19, .iload_n 1, 0, 0), (20, .iaload, 0, 0), (21, .iastore, 0, 0), (22, .iinc 1 (1), 1, 0)],
  [(25, .goto (-23), 2, 0), (28, .iconst (0), 0, 0), (29, .istore_n 1, 0, 0), (30, .iload_n 1, 0, 0), (31, .aload_n 0, 0, 0)],
  [(32, .getfield 42, 3, 0), (35, .if_icmp .ge (53), 88, 0), (38, .iconst (0), 0, 0), (39, .istore_n 2, 0, 0)],
  [(40, .iload_n 2, 0, 0), (41, .aload_n 0, 0, 0), (42, .getfield 42, 3, 0), (45, .if_icmp .ge (37), 82, 0)],
  [(48, .aload_n 0, 0, 0), (49, .getfield 27, 3, 6), (52, .iload_n 2, 0, 0), (53, .iaload, 0, 0), (54, .iload_n 1, 0, 0), (55, .invokestatic 72, 14, 1)],
  [(58, .ifCond .eq (18), 76, 0), (61, .aload_n 0, 0, 0), (62, .getfield 27, 3, 6)],
  [(65, .iload_n 2, 0, 0), (66, .dup2, 0, 0), (67, .iaload, 0, 0), (68, .aload_n 0, 0, 0), (69, .getfield 27, 3, 6)],
  [(72, .iload_n 1, 0, 0), (73, .iaload, 0, 0), (74, .ior, 0, 0), (75, .iastore, 0, 0), (76, .iinc 2 (1), 1, 0), (79, .goto (-39), 40, 0)],
  [(82, .iinc 1 (1), 1, 0), (85, .goto (-55), 30, 0)],
  [(88, .iconst (0), 0, 0), (89, .istore_n 1, 0, 0), (90, .iconst (0), 0, 0), (91, .istore_n 2, 0, 0), (92, .iload_n 2, 0, 0), (93, .aload_n 0, 0, 0), (94, .getfield 42, 3, 0)],
  [(97, .if_icmp .ge (25), 122, 0), (100, .aload_n 0, 0, 0), (101, .getfield 27, 3, 6)],
  [(104, .iload_n 2, 0, 0), (105, .iaload, 0, 0), (106, .iload_n 2, 0, 0), (107, .invokestatic 72, 14, 1), (110, .ifCond .eq (6), 116, 0)],
  [(113, .iinc 1 (1), 1, 0), (116, .iinc 2 (1), 1, 0), (119, .goto (-27), 92, 0)],
  [(122, .iload_n 1, 0, 0), (123, .ireturn, 0, 0)]]
/-- SnapshotRings.skews()I -/
def sn_c78 : List (List (Nat × sn_E)) := [[(0, .aload_n 0, 0, 0), (1, .getfield 29, 0, 3), (4, .aload_n 0, 0, 0), (5, .getfield 12, 0, 0)],
  [(8, .invokevirtual 137, 29, 0), (11, .aload_n 0, 0, 0), (12, .getfield 29, 0, 3), (15, .invokevirtual 156, 79, 0)],
  [(18, .ireturn, 0, 0)]]
/-- SnapshotRings$Graph.countSkewPairs()I -/
def sn_c79 : List (List (Nat × sn_E)) := [[(0, .iconst (0), 0, 0), (1, .istore_n 1, 0, 0), (2, .iconst (0), 0, 0), (3, .istore_n 2, 0, 0), (4, .iload_n 2, 0, 0), (5, .aload_n 0, 0, 0), (6, .getfield 42, 3, 0)],
  [(9, .if_icmp .ge (56), 65, 0), (12, .iload_n 2, 0, 0), (13, .iconst (1), 1, 0), (14, .iadd, 0, 0), (15, .istore_n 3, 0, 0)],
  [(16, .iload_n 3, 0, 0), (17, .aload_n 0, 0, 0), (18, .getfield 42, 3, 0), (21, .if_icmp .ge (38), 59, 0)],
  [(24, .aload_n 0, 0, 0), (25, .getfield 24, 3, 5), (28, .iload_n 2, 0, 0), (29, .iaload, 0, 0), (30, .iload_n 3, 0, 0), (31, .invokestatic 72, 14, 1)],
  [(34, .ifCond .eq (19), 53, 0), (37, .aload_n 0, 0, 0), (38, .getfield 24, 3, 5)],
  [(41, .iload_n 3, 0, 0), (42, .iaload, 0, 0), (43, .iload_n 2, 0, 0), (44, .invokestatic 72, 14, 1), (47, .ifCond .eq (6), 53, 0)],
  [(50, .iinc 1 (1), 1, 0), (53, .iinc 3 (1), 1, 0)],
  [(56, .goto (-40), 16, 0), (59, .iinc 2 (1), 1, 0), (62, .goto (-58), 4, 0)],
  [(65, .iload_n 1, 0, 0), (66, .ireturn, 0, 0)]]
/-- SnapshotRingsLaw.law([I)Z -/
def sn_c80 : List (List (Nat × sn_E)) := [[(0, .new 40, 0, 0), (3, .dup, 0, 0), (4, .invokespecial 84, 0, 0), (7, .astore_n 1, 0, 0)],
  [(8, .bipush (12), 12, 0), (10, .newarray .int, 1, 0), (12, .astore_n 2, 0, 0), (13, .bipush (48), 48, 0), (15, .newarray .int, 1, 0)],
  [(17, .astore_n 3, 0, 0), (18, .bipush (64), 64, 0), (20, .newarray .int, 1, 0), (22, .astore 4, 4, 0)],
  [(24, .bipush (28), 28, 0), (26, .newarray .int, 1, 0), (28, .astore 5, 5, 0), (30, .iconst (0), 0, 0), (31, .istore 6, 6, 0)],
  [(33, .iload 6, 6, 0), (35, .iconst (4), 4, 0), (36, .if_icmp .ge (17), 53, 0), (39, .aload 5, 5, 0)],
  [(41, .iconst (3), 3, 0), (42, .iload 6, 6, 0), (44, .imul, 0, 0), (45, .iconst (-1), 1, 1), (46, .iastore, 0, 0), (47, .iinc 6 (1), 1, 0)],
  [(50, .goto (-17), 33, 0), (53, .iconst (0), 0, 0), (54, .istore 6, 6, 0)],
  [(56, .iload 6, 6, 0), (58, .bipush (44), 44, 0), (60, .if_icmp .ge (931), 991, 0), (63, .aload_n 0, 0, 0)],
  [(64, .iconst (2), 2, 0), (65, .iload 6, 6, 0), (67, .imul, 0, 0), (68, .invokestatic 85, 48, 0), (71, .istore 7, 7, 0)],
  [(73, .aload_n 0, 0, 0), (74, .iconst (2), 2, 0), (75, .iload 6, 6, 0), (77, .imul, 0, 0), (78, .iconst (1), 1, 0), (79, .iadd, 0, 0)],
  [(80, .invokestatic 85, 48, 0), (83, .istore 8, 8, 0), (85, .iload 6, 6, 0), (87, .iconst (3), 3, 0)],
  [(88, .if_icmp .ge (7), 95, 0), (91, .iconst (0), 0, 0), (92, .goto (10), 102, 0), (95, .iload 7, 7, 0)],
  [(97, .bipush (17), 17, 0), (99, .invokestatic 89, 49, 0), (102, .istore 9, 9, 0)],
  [(104, .iload 6, 6, 0), (106, .iconst (3), 3, 0), (107, .if_icmp .ge (8), 115, 0), (110, .iload 6, 6, 0)],
  [(112, .goto (9), 121, 0), (115, .iload 8, 8, 0), (117, .iconst (4), 4, 0), (118, .invokestatic 89, 49, 0)],
  [(121, .istore 10, 10, 0), (123, .iload 8, 8, 0), (125, .iconst (3), 3, 0), (126, .ishr, 0, 0), (127, .iload 7, 7, 0)],
  [(129, .iconst (5), 5, 0), (130, .ishr, 0, 0), (131, .iconst (3), 3, 0), (132, .invokestatic 89, 49, 0), (135, .ifCond .ne (7), 142, 0)],
  [(138, .iconst (4), 4, 0), (139, .goto (4), 143, 0), (142, .iconst (2), 2, 0), (143, .invokestatic 89, 49, 0)],
  [(146, .istore 11, 11, 0), (148, .aload 5, 5, 0), (150, .iconst (3), 3, 0), (151, .iload 10, 10, 0)],
  [(153, .imul, 0, 0), (154, .iaload, 0, 0), (155, .ifCond .lt (7), 162, 0), (158, .iconst (1), 1, 0), (159, .goto (4), 163, 0)],
  [(162, .iconst (0), 0, 0), (163, .istore 12, 12, 0), (165, .iload 9, 9, 0), (167, .iconst (4), 4, 0)],
  [(168, .if_icmp .ge (69), 237, 0), (171, .aload_n 1, 0, 0), (172, .iload 10, 10, 0), (174, .invokevirtual 92, 10, 0)],
  [(177, .iload 12, 12, 0), (179, .ifCond .eq (9), 188, 0), (182, .sipush (-20003), 20003, 1)],
  [(185, .goto (6), 191, 0), (188, .aload_n 2, 0, 0), (189, .iconst (0), 0, 0), (190, .iaload, 0, 0), (191, .if_icmp .eq (5), 196, 0)],
  [(194, .iconst (0), 0, 0), (195, .ireturn, 0, 0), (196, .iload 12, 12, 0), (198, .ifCond .eq (6), 204, 0)],
  [(201, .goto (784), 985, 0), (204, .aload 5, 5, 0), (206, .iconst (3), 3, 0), (207, .iload 10, 10, 0)],
  [(209, .imul, 0, 0), (210, .aload_n 2, 0, 0), (211, .iconst (0), 0, 0), (212, .iaload, 0, 0), (213, .iastore, 0, 0), (214, .aload 5, 5, 0)],
  [(216, .iconst (3), 3, 0), (217, .iload 10, 10, 0), (219, .imul, 0, 0), (220, .iconst (1), 1, 0), (221, .iadd, 0, 0), (222, .iconst (0), 0, 0), (223, .iastore, 0, 0)],
  [(224, .aload 5, 5, 0), (226, .iconst (3), 3, 0), (227, .iload 10, 10, 0), (229, .imul, 0, 0), (230, .iconst (2), 2, 0), (231, .iadd, 0, 0)],
  [(232, .iconst (0), 0, 0), (233, .iastore, 0, 0), (234, .goto (525), 759, 0), (237, .iload 9, 9, 0), (239, .bipush (8), 8, 0)],
  [(241, .if_icmp .ge (122), 363, 0), (244, .iload 12, 12, 0), (246, .ifCond .eq (25), 271, 0)],
  [(249, .aload 5, 5, 0), (251, .iconst (3), 3, 0), (252, .iload 10, 10, 0), (254, .imul, 0, 0), (255, .iconst (2), 2, 0)],
  [(256, .iadd, 0, 0), (257, .iaload, 0, 0), (258, .iload 11, 11, 0), (260, .ishr, 0, 0), (261, .iconst (1), 1, 0), (262, .iand, 0, 0), (263, .iconst (1), 1, 0)],
  [(264, .if_icmp .ne (7), 271, 0), (267, .iconst (1), 1, 0), (268, .goto (4), 272, 0), (271, .iconst (0), 0, 0)],
  [(272, .istore 13, 13, 0), (274, .aload_n 1, 0, 0), (275, .iload 10, 10, 0), (277, .iload 11, 11, 0), (279, .invokevirtual 95, 16, 0)],
  [(282, .iload 12, 12, 0), (284, .ifCond .ne (9), 293, 0), (287, .sipush (-20001), 20001, 1)],
  [(290, .goto (39), 329, 0), (293, .iload 13, 13, 0), (295, .ifCond .eq (19), 314, 0)],
  [(298, .aload 5, 5, 0), (300, .bipush (12), 12, 0), (302, .iconst (4), 4, 0), (303, .iload 10, 10, 0)],
  [(305, .imul, 0, 0), (306, .iadd, 0, 0), (307, .iload 11, 11, 0), (309, .iadd, 0, 0), (310, .iaload, 0, 0), (311, .goto (18), 329, 0)],
  [(314, .iload 11, 11, 0), (316, .aload 5, 5, 0), (318, .iconst (3), 3, 0), (319, .iload 10, 10, 0)],
  [(321, .imul, 0, 0), (322, .iaload, 0, 0), (323, .aload_n 3, 0, 0), (324, .aload 4, 4, 0), (326, .invokestatic 35, 57, 0)],
  [(329, .if_icmp .eq (5), 334, 0), (332, .iconst (0), 0, 0), (333, .ireturn, 0, 0), (334, .iload 12, 12, 0)],
  [(336, .ifCond .eq (24), 360, 0), (339, .iload 13, 13, 0), (341, .ifCond .ne (19), 360, 0)],
  [(344, .aload 5, 5, 0), (346, .iconst (3), 3, 0), (347, .iload 10, 10, 0), (349, .imul, 0, 0), (350, .iconst (1), 1, 0), (351, .iadd, 0, 0)],
  [(352, .dup2, 0, 0), (353, .iaload, 0, 0), (354, .iconst (1), 1, 0), (355, .iload 11, 11, 0), (357, .ishl, 0, 0), (358, .ior, 0, 0), (359, .iastore, 0, 0)],
  [(360, .goto (399), 759, 0), (363, .iload 9, 9, 0), (365, .bipush (12), 12, 0), (367, .if_icmp .ge (124), 491, 0)],
  [(370, .iload 8, 8, 0), (372, .bipush (6), 6, 0), (374, .ishr, 0, 0), (375, .sipush (1999), 1999, 0)],
  [(378, .invokestatic 89, 49, 0), (381, .sipush (999), 999, 0)],
  [(384, .isub, 0, 0), (385, .istore 13, 13, 0), (387, .iconst (0), 0, 0), (388, .istore 14, 14, 0), (390, .iload 12, 12, 0)],
  [(392, .ifCond .eq (68), 460, 0), (395, .aload 5, 5, 0), (397, .iconst (3), 3, 0), (398, .iload 10, 10, 0)],
  [(400, .imul, 0, 0), (401, .iconst (2), 2, 0), (402, .iadd, 0, 0), (403, .dup2, 0, 0), (404, .iaload, 0, 0), (405, .iconst (1), 1, 0), (406, .iload 11, 11, 0)],
  [(408, .ishl, 0, 0), (409, .ior, 0, 0), (410, .iastore, 0, 0), (411, .aload 5, 5, 0), (413, .bipush (12), 12, 0), (415, .iconst (4), 4, 0)],
  [(416, .iload 10, 10, 0), (418, .imul, 0, 0), (419, .iadd, 0, 0), (420, .iload 11, 11, 0), (422, .iadd, 0, 0), (423, .iload 13, 13, 0)],
  [(425, .iastore, 0, 0), (426, .iconst (0), 0, 0), (427, .istore 15, 15, 0), (429, .iload 15, 15, 0), (431, .iconst (4), 4, 0)],
  [(432, .if_icmp .ge (28), 460, 0), (435, .iload 14, 14, 0), (437, .aload 5, 5, 0), (439, .iconst (3), 3, 0)],
  [(440, .iload 10, 10, 0), (442, .imul, 0, 0), (443, .iconst (2), 2, 0), (444, .iadd, 0, 0), (445, .iaload, 0, 0), (446, .iload 15, 15, 0)],
  [(448, .ishr, 0, 0), (449, .iconst (1), 1, 0), (450, .iand, 0, 0), (451, .iadd, 0, 0), (452, .istore 14, 14, 0), (454, .iinc 15 (1), 1, 0)],
  [(457, .goto (-28), 429, 0), (460, .aload_n 1, 0, 0), (461, .iload 10, 10, 0), (463, .iload 11, 11, 0)],
  [(465, .iload 13, 13, 0), (467, .invokevirtual 98, 21, 0), (470, .iload 12, 12, 0)],
  [(472, .ifCond .eq (8), 480, 0), (475, .iload 14, 14, 0), (477, .goto (6), 483, 0)],
  [(480, .sipush (-20001), 20001, 1), (483, .if_icmp .eq (5), 488, 0), (486, .iconst (0), 0, 0), (487, .ireturn, 0, 0)],
  [(488, .goto (271), 759, 0), (491, .iload 9, 9, 0), (493, .bipush (15), 15, 0), (495, .if_icmp .ge (54), 549, 0)],
  [(498, .aload_n 2, 0, 0), (499, .iconst (0), 0, 0), (500, .iaload, 0, 0), (501, .bipush (15), 15, 0), (503, .if_icmp .ne (6), 509, 0)],
  [(506, .goto (479), 985, 0), (509, .iload 12, 12, 0), (511, .ifCond .eq (17), 528, 0)],
  [(514, .iload 10, 10, 0), (516, .aload_n 2, 0, 0), (517, .aload_n 3, 0, 0), (518, .aload 4, 4, 0)],
  [(520, .aload 5, 5, 0), (522, .invokestatic 102, 50, 0), (525, .goto (6), 531, 0)],
  [(528, .sipush (-20001), 20001, 1), (531, .istore 13, 13, 0), (533, .aload_n 1, 0, 0), (534, .iload 10, 10, 0)],
  [(536, .invokevirtual 106, 25, 0), (539, .iload 13, 13, 0), (541, .if_icmp .eq (5), 546, 0)],
  [(544, .iconst (0), 0, 0), (545, .ireturn, 0, 0), (546, .goto (213), 759, 0), (549, .iload 9, 9, 0), (551, .bipush (15), 15, 0)],
  [(553, .if_icmp .ne (116), 669, 0), (556, .iload 8, 8, 0), (558, .iconst (5), 5, 0), (559, .ishr, 0, 0)],
  [(560, .iconst (3), 3, 0), (561, .invokestatic 89, 49, 0), (564, .istore 13, 13, 0), (566, .iload 7, 7, 0)],
  [(568, .bipush (7), 7, 0), (570, .ishr, 0, 0), (571, .iconst (3), 3, 0), (572, .invokestatic 89, 49, 0), (575, .istore 14, 14, 0)],
  [(577, .iload 8, 8, 0), (579, .bipush (16), 16, 0), (581, .invokestatic 89, 49, 0)],
  [(584, .istore 15, 15, 0), (586, .iload 7, 7, 0), (588, .bipush (9), 9, 0), (590, .ishr, 0, 0), (591, .sipush (401), 401, 0)],
  [(594, .invokestatic 89, 49, 0), (597, .sipush (200), 200, 0)],
  [(600, .isub, 0, 0), (601, .istore 16, 16, 0), (603, .aload_n 1, 0, 0), (604, .iload 13, 13, 0), (606, .invokevirtual 108, 5, 0)],
  [(609, .aload_n 2, 0, 0), (610, .iconst (1), 1, 0), (611, .iaload, 0, 0), (612, .if_icmp .ne (25), 637, 0), (615, .aload_n 1, 0, 0)],
  [(616, .iload 14, 14, 0), (618, .iload 15, 15, 0), (620, .iload 16, 16, 0), (622, .invokevirtual 111, 8, 0)],
  [(625, .aload_n 2, 0, 0), (626, .bipush (7), 7, 0), (628, .iconst (2), 2, 0), (629, .iload 14, 14, 0), (631, .imul, 0, 0)],
  [(632, .iadd, 0, 0), (633, .iaload, 0, 0), (634, .if_icmp .eq (5), 639, 0), (637, .iconst (0), 0, 0), (638, .ireturn, 0, 0), (639, .aload_n 2, 0, 0)],
  [(640, .iconst (1), 1, 0), (641, .iload 13, 13, 0), (643, .iastore, 0, 0), (644, .aload_n 2, 0, 0), (645, .bipush (6), 6, 0), (647, .iconst (2), 2, 0)],
  [(648, .iload 14, 14, 0), (650, .imul, 0, 0), (651, .iadd, 0, 0), (652, .iload 15, 15, 0), (654, .iastore, 0, 0), (655, .aload_n 2, 0, 0)],
  [(656, .bipush (7), 7, 0), (658, .iconst (2), 2, 0), (659, .iload 14, 14, 0), (661, .imul, 0, 0), (662, .iadd, 0, 0), (663, .iload 16, 16, 0)],
  [(665, .iastore, 0, 0), (666, .goto (93), 759, 0), (669, .iconst (0), 0, 0), (670, .istore 13, 13, 0)],
  [(672, .iconst (0), 0, 0), (673, .istore 14, 14, 0), (675, .iload 14, 14, 0), (677, .iconst (4), 4, 0), (678, .if_icmp .ge (33), 711, 0)],
  [(681, .iload 12, 12, 0), (683, .ifCond .eq (28), 711, 0), (686, .iload 13, 13, 0)],
  [(688, .aload 5, 5, 0), (690, .iconst (3), 3, 0), (691, .iload 10, 10, 0), (693, .imul, 0, 0), (694, .iconst (2), 2, 0), (695, .iadd, 0, 0)],
  [(696, .iaload, 0, 0), (697, .iload 14, 14, 0), (699, .ishr, 0, 0), (700, .iconst (1), 1, 0), (701, .iand, 0, 0), (702, .iadd, 0, 0), (703, .istore 13, 13, 0)],
  [(705, .iinc 14 (1), 1, 0), (708, .goto (-33), 675, 0), (711, .aload_n 1, 0, 0)],
  [(712, .iload 10, 10, 0), (714, .invokevirtual 114, 44, 0), (717, .iload 12, 12, 0), (719, .ifCond .eq (8), 727, 0)],
  [(722, .iload 13, 13, 0), (724, .goto (6), 730, 0), (727, .sipush (-20001), 20001, 1)],
  [(730, .if_icmp .eq (5), 735, 0), (733, .iconst (0), 0, 0), (734, .ireturn, 0, 0), (735, .aload 5, 5, 0)],
  [(737, .iconst (3), 3, 0), (738, .iload 10, 10, 0), (740, .imul, 0, 0), (741, .iconst (-1), 1, 1), (742, .iastore, 0, 0), (743, .aload_n 2, 0, 0)],
  [(744, .iconst (5), 5, 0), (745, .dup2, 0, 0), (746, .iaload, 0, 0), (747, .iload 12, 12, 0), (749, .ifCond .eq (7), 756, 0)],
  [(752, .iconst (1), 1, 0), (753, .goto (4), 757, 0), (756, .iconst (0), 0, 0), (757, .iadd, 0, 0), (758, .iastore, 0, 0), (759, .aload_n 1, 0, 0)],
  [(760, .aload_n 2, 0, 0), (761, .aload_n 3, 0, 0), (762, .aload 4, 4, 0), (764, .aload 5, 5, 0), (766, .invokestatic 117, 59, 0)],
  [(769, .ifCond .ne (5), 774, 0), (772, .iconst (0), 0, 0), (773, .ireturn, 0, 0), (774, .aload_n 2, 0, 0), (775, .iconst (0), 0, 0)],
  [(776, .iaload, 0, 0), (777, .bipush (11), 11, 0), (779, .if_icmp .gt (206), 985, 0), (782, .iload 8, 8, 0)],
  [(784, .bipush (9), 9, 0), (786, .ishr, 0, 0), (787, .iconst (4), 4, 0), (788, .invokestatic 89, 49, 0), (791, .ifCond .le (6), 797, 0)],
  [(794, .goto (191), 985, 0), (797, .bipush (12), 12, 0), (799, .newarray .int, 1, 0)],
  [(801, .astore 13, 13, 0), (803, .bipush (48), 48, 0), (805, .newarray .int, 1, 0), (807, .astore 14, 14, 0)],
  [(809, .bipush (64), 64, 0), (811, .newarray .int, 1, 0), (813, .astore 15, 15, 0), (815, .bipush (28), 28, 0)],
  [(817, .newarray .int, 1, 0), (819, .astore 16, 16, 0), (821, .iconst (0), 0, 0), (822, .istore 17, 17, 0)],
  [(824, .iload 17, 17, 0), (826, .bipush (64), 64, 0), (828, .if_icmp .ge (68), 896, 0), (831, .aload 15, 15, 0)],
  [(833, .iload 17, 17, 0), (835, .aload 4, 4, 0), (837, .iload 17, 17, 0), (839, .iaload, 0, 0)],
  [(840, .iastore, 0, 0), (841, .iload 17, 17, 0), (843, .bipush (48), 48, 0), (845, .if_icmp .ge (12), 857, 0)],
  [(848, .aload 14, 14, 0), (850, .iload 17, 17, 0), (852, .aload_n 3, 0, 0), (853, .iload 17, 17, 0), (855, .iaload, 0, 0)],
  [(856, .iastore, 0, 0), (857, .iload 17, 17, 0), (859, .bipush (28), 28, 0), (861, .if_icmp .ge (13), 874, 0)],
  [(864, .aload 16, 16, 0), (866, .iload 17, 17, 0), (868, .aload 5, 5, 0), (870, .iload 17, 17, 0)],
  [(872, .iaload, 0, 0), (873, .iastore, 0, 0), (874, .iload 17, 17, 0), (876, .bipush (12), 12, 0), (878, .if_icmp .ge (12), 890, 0)],
  [(881, .aload 13, 13, 0), (883, .iload 17, 17, 0), (885, .aload_n 2, 0, 0), (886, .iload 17, 17, 0)],
  [(888, .iaload, 0, 0), (889, .iastore, 0, 0), (890, .iinc 17 (1), 1, 0), (893, .goto (-69), 824, 0)],
  [(896, .iconst (0), 0, 0), (897, .istore 17, 17, 0), (899, .iload 17, 17, 0), (901, .iconst (4), 4, 0), (902, .if_icmp .ge (33), 935, 0)],
  [(905, .aload 16, 16, 0), (907, .iconst (3), 3, 0), (908, .iload 17, 17, 0), (910, .imul, 0, 0), (911, .iaload, 0, 0)],
  [(912, .ifCond .lt (17), 929, 0), (915, .iload 17, 17, 0), (917, .aload 13, 13, 0), (919, .aload 14, 14, 0)],
  [(921, .aload 15, 15, 0), (923, .aload 16, 16, 0), (925, .invokestatic 102, 50, 0)],
  [(928, .pop, 0, 0), (929, .iinc 17 (1), 1, 0), (932, .goto (-33), 899, 0), (935, .aload_n 1, 0, 0)],
  [(936, .invokevirtual 121, 46, 0), (939, .iconst (0), 0, 0), (940, .iconst (-1), 1, 1), (941, .aload 13, 13, 0), (943, .aload 14, 14, 0)],
  [(945, .aload 15, 15, 0), (947, .aload 16, 16, 0), (949, .invokestatic 56, 58, 0)],
  [(952, .iconst (1), 1, 0), (953, .iconst (-1), 1, 1), (954, .aload 13, 13, 0), (956, .aload 14, 14, 0), (958, .aload 15, 15, 0)],
  [(960, .aload 16, 16, 0), (962, .invokestatic 56, 58, 0), (965, .iadd, 0, 0), (966, .iconst (2), 2, 0), (967, .iconst (-1), 1, 1)],
  [(968, .aload 13, 13, 0), (970, .aload 14, 14, 0), (972, .aload 15, 15, 0), (974, .aload 16, 16, 0)],
  [(976, .invokestatic 56, 58, 0), (979, .iadd, 0, 0), (980, .if_icmp .eq (5), 985, 0), (983, .iconst (0), 0, 0)],
  [(984, .ireturn, 0, 0), (985, .iinc 6 (1), 1, 0), (988, .goto (-932), 56, 0), (991, .iconst (1), 1, 0)],
  [(992, .ireturn, 0, 0)]]
def sn_chs : List (List (List (Nat × sn_E))) := [sn_c0, sn_c1, sn_c2, sn_c3, sn_c4, sn_c5, sn_c6, sn_c7, sn_c8, sn_c9, sn_c10, sn_c11, sn_c12, sn_c13, sn_c14, sn_c15, sn_c16, sn_c17, sn_c18, sn_c19, sn_c20, sn_c21, sn_c22, sn_c23, sn_c24, sn_c25, sn_c26, sn_c27, sn_c28, sn_c29, sn_c30, sn_c31, sn_c32, sn_c33, sn_c34, sn_c35, sn_c36, sn_c37, sn_c38, sn_c39, sn_c40, sn_c41, sn_c42, sn_c43, sn_c44, sn_c45, sn_c46, sn_c47, sn_c48, sn_c49, sn_c50, sn_c51, sn_c52, sn_c53, sn_c54, sn_c55, sn_c56, sn_c57, sn_c58, sn_c59, sn_c60, sn_c61, sn_c62, sn_c63, sn_c64, sn_c65, sn_c66, sn_c67, sn_c68, sn_c69, sn_c70, sn_c71, sn_c72, sn_c73, sn_c74, sn_c75, sn_c76, sn_c77, sn_c78, sn_c79, sn_c80]
def sn_find (pc : Nat) : List (Nat × sn_E) → Option sn_E
  | [] => none
  | q :: l => bif Nat.beq q.1 pc then some q.2 else sn_find pc l
def sn_ch (m : Nat) : List (List (Nat × sn_E)) := (sn_nth sn_chs m).getD []
/-- the instruction of a method at a place -/
def sn_cd (m pc : Nat) : Option sn_E := sn_find pc ((sn_nth (sn_ch m) (pc / 8)).getD [])
/-- field links: owner, entry, class, field, place among the words -/
def sn_fl : List (Nat × Nat × Nat × Nat × Nat) := [(0, 12, 0, 0, 161), (0, 16, 0, 1, 162), (0, 22, 0, 2, 163), (0, 29, 0, 3, 164), (0, 36, 0, 4, 165), (1, 9, 1, 4, 45), (1, 15, 1, 5, 47), (1, 18, 1, 6, 49), (1, 21, 1, 7, 51), (1, 24, 1, 8, 53), (1, 27, 1, 9, 55), (1, 30, 1, 10, 56), (1, 33, 1, 11, 57), (1, 36, 1, 12, 58), (1, 39, 1, 13, 59), (2, 11, 2, 0, 100), (3, 9, 3, 1, 117), (3, 15, 3, 2, 118), (3, 18, 3, 3, 119), (3, 21, 3, 4, 120), (3, 24, 3, 5, 121), (3, 27, 3, 6, 122), (3, 30, 3, 7, 123), (3, 33, 3, 8, 124), (4, 9, 4, 0, 154), (0, 44, 1, 0, 37), (2, 18, 2, 2, 102), (2, 26, 2, 1, 101), (1, 42, 1, 0, 36), (1, 46, 1, 1, 39), (1, 49, 1, 2, 41), (1, 52, 1, 3, 43), (0, 52, 1, 6, 50), (0, 56, 1, 5, 48), (0, 224, 3, 9, 126), (3, 42, 3, 0, 116), (3, 46, 1, 1, 38), (3, 65, 3, 9, 125), (0, 114, 1, 7, 52), (0, 117, 1, 8, 54), (0, 163, 1, 13, 60), (0, 90, 1, 1, 40), (0, 93, 1, 3, 44), (0, 105, 1, 4, 46), (0, 108, 1, 2, 42)]
/-- method links: owner, entry, method, nest mate or not, place -/
def sn_lk : List (Nat × Nat × Nat × Nat × Nat) := [(0, 11, 1, 1, 32), (0, 21, 2, 0, 93), (0, 28, 3, 1, 112), (0, 35, 4, 1, 150), (2, 17, 1, 1, 99), (0, 40, 6, 0, 181), (2, 22, 7, 0, 185), (0, 48, 9, 0, 199), (0, 59, 11, 0, 206), (0, 63, 15, 0, 220), (0, 218, 12, 0, 210), (0, 169, 13, 0, 213), (1, 61, 14, 1, 217), (0, 66, 17, 0, 228), (0, 70, 20, 0, 239), (0, 111, 18, 0, 232), (0, 80, 19, 0, 235), (0, 73, 22, 0, 247), (0, 77, 23, 0, 251), (1, 65, 24, 0, 255), (0, 83, 26, 0, 265), (0, 120, 27, 0, 269), (0, 231, 41, 0, 328), (0, 235, 43, 0, 336), (0, 221, 28, 0, 273), (0, 137, 29, 0, 277), (0, 140, 35, 0, 302), (0, 144, 36, 0, 306), (0, 227, 40, 0, 324), (3, 36, 30, 0, 281), (3, 49, 31, 0, 286), (3, 53, 32, 0, 290), (3, 57, 33, 0, 294), (3, 61, 34, 0, 298), (3, 68, 37, 0, 310), (3, 72, 14, 1, 314), (3, 82, 38, 0, 316), (3, 85, 39, 0, 320), (1, 71, 42, 0, 332), (1, 75, 31, 0, 340), (0, 87, 45, 0, 345), (0, 166, 7, 0, 353), (0, 159, 47, 0, 354), (5, 31, 51, 0, 370), (5, 16, 52, 0, 373), (5, 23, 53, 0, 376), (5, 27, 56, 0, 385), (5, 20, 54, 0, 379), (5, 10, 55, 0, 382), (5, 35, 57, 0, 388), (5, 39, 60, 0, 397), (5, 44, 61, 0, 401), (5, 46, 62, 0, 405), (5, 50, 64, 0, 413), (5, 53, 65, 0, 417), (5, 56, 58, 0, 391), (5, 60, 66, 0, 421), (5, 63, 68, 0, 429), (5, 66, 70, 0, 438), (5, 69, 71, 0, 443), (5, 72, 74, 0, 455), (5, 74, 75, 0, 459), (5, 77, 76, 0, 465), (5, 81, 78, 0, 473), (0, 124, 63, 0, 409), (0, 147, 67, 0, 425), (0, 127, 69, 0, 433), (0, 130, 31, 0, 437), (0, 133, 34, 0, 442), (0, 153, 72, 0, 447), (3, 88, 73, 0, 451), (0, 96, 24, 0, 463), (0, 101, 30, 0, 464), (0, 150, 77, 0, 469), (0, 156, 79, 0, 477), (5, 84, 0, 0, 24), (5, 85, 48, 0, 358), (5, 89, 49, 0, 363), (5, 92, 10, 0, 202), (5, 95, 16, 0, 224), (5, 98, 21, 0, 243), (5, 102, 50, 0, 367), (5, 106, 25, 0, 261), (5, 108, 5, 0, 177), (5, 111, 8, 0, 195), (5, 114, 44, 0, 341), (5, 117, 59, 0, 394), (5, 121, 46, 0, 349)]
/-- constants: owner, entry, number, 0 / 1 negative / 2 long, place -/
def sn_cnl : List (Nat × Nat × Nat × Nat × Nat) := [(7, 265, 1431655765, 0, 258), (7, 266, 858993459, 0, 259), (7, 267, 252645135, 0, 260), (5, 7, 1033861969, 0, 361), (5, 8, 684254375, 0, 362), (5, 9, 2147483647, 0, 366)]
/-- class links: owner, entry, class, place -/
def sn_kl : List (Nat × Nat × Nat × Nat) := [(0, 9, 1, 30), (0, 19, 2, 91), (0, 26, 3, 110), (0, 33, 4, 148), (2, 9, 1, 97), (5, 40, 0, 22)]
/-- links of arraycopy: owner, entry, place -/
def sn_al : List (Nat × Nat × Nat) := [(1, 55, 189)]
def sn_ac : Nat × Nat × Nat := (190, 191, 19)
/-- links of Object.<init>: owner, entry, place -/
def sn_ol : List (Nat × Nat × Nat) := [(0, 3, 27), (1, 3, 35), (2, 3, 96), (3, 3, 115), (4, 3, 153)]
/-- links of Math.min: owner, entry, place -/
def sn_nl : List (Nat × Nat × Nat) := [(2, 29, 192), (1, 78, 285), (3, 76, 315)]
def sn_nc : Nat × Nat × Nat := (193, 20, 194)
def sn_oc : Nat × Nat := (28, 29)
/-- places of instantiable and initialized of each class -/
def sn_ki : List (Nat × Nat) := [(23, 14), (31, 15), (92, 16), (111, 17), (149, 18)]
def sn_ar : Nat × Nat × Nat := (90, 160, 98)
