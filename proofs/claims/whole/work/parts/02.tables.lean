/-! tables: printed by gen2.py -/
def pb_T0 : u_T := fun k => match k with
  | 0 => ("PassiveBuses", "buses", "[LPassiveBuses$Bus;", true)
  | 1 => ("PassiveBuses", "calls", "[LPassiveBuses$Call;", true)
  | 2 => ("PassiveBuses", "callCount", "I", false)
  | 3 => ("PassiveBuses", "latestNumber", "I", false)
  | _ => ("PassiveBuses", "ticks", "I", false)
def pb_t0 : Nat → FieldType := fun k => match k with
  | 0 => .array (.object "PassiveBuses$Bus")
  | 1 => .array (.object "PassiveBuses$Call")
  | 2 => .int
  | 3 => .int
  | _ => .int
def pb_T1 : u_T := fun k => match k with
  | 0 => ("PassiveBuses$Bus", "terminals", "[LPassiveBuses$Terminal;", true)
  | 1 => ("PassiveBuses$Bus", "lines", "[LPassiveBuses$Line;", true)
  | 2 => ("PassiveBuses$Bus", "row", "LPassiveBuses$Row;", true)
  | 3 => ("PassiveBuses$Bus", "spoilUp", "I", false)
  | _ => ("PassiveBuses$Bus", "spoilDown", "I", false)
def pb_t1 : Nat → FieldType := fun k => match k with
  | 0 => .array (.object "PassiveBuses$Terminal")
  | 1 => .array (.object "PassiveBuses$Line")
  | 2 => .object "PassiveBuses$Row"
  | 3 => .int
  | _ => .int
def pb_T2 : u_T := fun k => match k with
  | 0 => ("PassiveBuses$Row", "frames", "[LPassiveBuses$Frame;", true)
  | _ => ("PassiveBuses$Row", "size", "I", false)
def pb_t2 : Nat → FieldType := fun k => match k with
  | 0 => .array (.object "PassiveBuses$Frame")
  | _ => .int
def pb_T3 : u_T := fun k => match k with
  | 0 => ("PassiveBuses$Frame", "kind", "I", false)
  | 1 => ("PassiveBuses$Frame", "address", "I", false)
  | 2 => ("PassiveBuses$Frame", "reference", "I", false)
  | 3 => ("PassiveBuses$Frame", "value", "I", false)
  | _ => ("PassiveBuses$Frame", "failures", "I", false)
def pb_t3 : Nat → FieldType := fun k => match k with
  | 0 => .int
  | 1 => .int
  | 2 => .int
  | 3 => .int
  | _ => .int
def pb_T4 : u_T := fun k => match k with
  | 0 => ("PassiveBuses$Terminal", "row", "LPassiveBuses$Row;", true)
  | 1 => ("PassiveBuses$Terminal", "plugged", "Z", false)
  | 2 => ("PassiveBuses$Terminal", "mild", "Z", false)
  | 3 => ("PassiveBuses$Terminal", "sending", "Z", false)
  | 4 => ("PassiveBuses$Terminal", "address", "I", false)
  | 5 => ("PassiveBuses$Terminal", "draw", "I", false)
  | 6 => ("PassiveBuses$Terminal", "clock", "I", false)
  | 7 => ("PassiveBuses$Terminal", "state", "I", false)
  | 8 => ("PassiveBuses$Terminal", "reference", "I", false)
  | 9 => ("PassiveBuses$Terminal", "channel", "I", false)
  | 10 => ("PassiveBuses$Terminal", "cause", "I", false)
  | 11 => ("PassiveBuses$Terminal", "mouth", "I", false)
  | 12 => ("PassiveBuses$Terminal", "ear", "I", false)
  | 13 => ("PassiveBuses$Terminal", "dials", "I", false)
  | 14 => ("PassiveBuses$Terminal", "sendBit", "I", false)
  | _ => ("PassiveBuses$Terminal", "receiveBit", "I", false)
def pb_t4 : Nat → FieldType := fun k => match k with
  | 0 => .object "PassiveBuses$Row"
  | 1 => .boolean
  | 2 => .boolean
  | 3 => .boolean
  | 4 => .int
  | 5 => .int
  | 6 => .int
  | 7 => .int
  | 8 => .int
  | 9 => .int
  | 10 => .int
  | 11 => .int
  | 12 => .int
  | 13 => .int
  | 14 => .int
  | _ => .int
def pb_T5 : u_T := fun k => match k with
  | 0 => ("PassiveBuses$Line", "given", "Z", false)
  | 1 => ("PassiveBuses$Line", "sendBit", "I", false)
  | 2 => ("PassiveBuses$Line", "receiveBit", "I", false)
  | 3 => ("PassiveBuses$Line", "audited", "Z", false)
  | 4 => ("PassiveBuses$Line", "auditClock", "I", false)
  | _ => ("PassiveBuses$Line", "replies", "I", false)
def pb_t5 : Nat → FieldType := fun k => match k with
  | 0 => .boolean
  | 1 => .int
  | 2 => .int
  | 3 => .boolean
  | 4 => .int
  | _ => .int
def pb_T6 : u_T := fun k => match k with
  | 0 => ("PassiveBuses$Call", "legs", "[I", true)
  | 1 => ("PassiveBuses$Call", "number", "I", false)
  | 2 => ("PassiveBuses$Call", "phase", "I", false)
  | 3 => ("PassiveBuses$Call", "clock", "I", false)
  | 4 => ("PassiveBuses$Call", "offeredTwice", "Z", false)
  | 5 => ("PassiveBuses$Call", "callerBus", "I", false)
  | 6 => ("PassiveBuses$Call", "callerAddress", "I", false)
  | 7 => ("PassiveBuses$Call", "callerReference", "I", false)
  | 8 => ("PassiveBuses$Call", "callerChannel", "I", false)
  | 9 => ("PassiveBuses$Call", "callerLeg", "I", false)
  | 10 => ("PassiveBuses$Call", "calledBus", "I", false)
  | 11 => ("PassiveBuses$Call", "calledChannel", "I", false)
  | _ => ("PassiveBuses$Call", "winner", "I", false)
def pb_t6 : Nat → FieldType := fun k => match k with
  | 0 => .array (.int)
  | 1 => .int
  | 2 => .int
  | 3 => .int
  | 4 => .boolean
  | 5 => .int
  | 6 => .int
  | 7 => .int
  | 8 => .int
  | 9 => .int
  | 10 => .int
  | 11 => .int
  | _ => .int
def pb_T7 : u_T := fun k => match k with
  | 0 => ("PassiveBusesModel", "there", "[Z", true)
  | 1 => ("PassiveBusesModel", "address", "[I", true)
  | 2 => ("PassiveBusesModel", "draw", "[I", true)
  | 3 => ("PassiveBusesModel", "mild", "[Z", true)
  | 4 => ("PassiveBusesModel", "state", "[I", true)
  | 5 => ("PassiveBusesModel", "own", "[I", true)
  | 6 => ("PassiveBusesModel", "channel", "[I", true)
  | 7 => ("PassiveBusesModel", "mouth", "[I", true)
  | 8 => ("PassiveBusesModel", "ear", "[I", true)
  | 9 => ("PassiveBusesModel", "kept", "[I", true)
  | 10 => ("PassiveBusesModel", "dials", "[I", true)
  | 11 => ("PassiveBusesModel", "patience", "[I", true)
  | 12 => ("PassiveBusesModel", "sends", "[I", true)
  | 13 => ("PassiveBusesModel", "takes", "[I", true)
  | 14 => ("PassiveBusesModel", "contends", "[Z", true)
  | 15 => ("PassiveBusesModel", "length", "[I", true)
  | 16 => ("PassiveBusesModel", "kind", "[I", true)
  | 17 => ("PassiveBusesModel", "reference", "[I", true)
  | 18 => ("PassiveBusesModel", "value", "[I", true)
  | 19 => ("PassiveBusesModel", "failed", "[I", true)
  | 20 => ("PassiveBusesModel", "rows", "[I", true)
  | 21 => ("PassiveBusesModel", "downKind", "[I", true)
  | 22 => ("PassiveBusesModel", "downTo", "[I", true)
  | 23 => ("PassiveBusesModel", "downReference", "[I", true)
  | 24 => ("PassiveBusesModel", "downValue", "[I", true)
  | 25 => ("PassiveBusesModel", "downFailed", "[I", true)
  | 26 => ("PassiveBusesModel", "given", "[Z", true)
  | 27 => ("PassiveBusesModel", "exchangeSends", "[I", true)
  | 28 => ("PassiveBusesModel", "exchangeTakes", "[I", true)
  | 29 => ("PassiveBusesModel", "auditClock", "[I", true)
  | 30 => ("PassiveBusesModel", "auditCount", "[I", true)
  | 31 => ("PassiveBusesModel", "spoilUp", "[I", true)
  | 32 => ("PassiveBusesModel", "spoilDown", "[I", true)
  | 33 => ("PassiveBusesModel", "number", "[I", true)
  | 34 => ("PassiveBusesModel", "caller", "[I", true)
  | 35 => ("PassiveBusesModel", "callerBus", "[I", true)
  | 36 => ("PassiveBusesModel", "callerAddress", "[I", true)
  | 37 => ("PassiveBusesModel", "callerReference", "[I", true)
  | 38 => ("PassiveBusesModel", "callerChannel", "[I", true)
  | 39 => ("PassiveBusesModel", "calledBus", "[I", true)
  | 40 => ("PassiveBusesModel", "calledChannel", "[I", true)
  | 41 => ("PassiveBusesModel", "phase", "[I", true)
  | 42 => ("PassiveBusesModel", "clock", "[I", true)
  | 43 => ("PassiveBusesModel", "again", "[Z", true)
  | 44 => ("PassiveBusesModel", "winner", "[I", true)
  | 45 => ("PassiveBusesModel", "leg", "[I", true)
  | 46 => ("PassiveBusesModel", "numbers", "I", false)
  | 47 => ("PassiveBusesModel", "speech", "[I", true)
  | 48 => ("PassiveBusesModel", "ticks", "I", false)
  | _ => ("PassiveBusesModel", "sent", "I", false)
def pb_t7 : Nat → FieldType := fun k => match k with
  | 0 => .array (.boolean)
  | 1 => .array (.int)
  | 2 => .array (.int)
  | 3 => .array (.boolean)
  | 4 => .array (.int)
  | 5 => .array (.int)
  | 6 => .array (.int)
  | 7 => .array (.int)
  | 8 => .array (.int)
  | 9 => .array (.int)
  | 10 => .array (.int)
  | 11 => .array (.int)
  | 12 => .array (.int)
  | 13 => .array (.int)
  | 14 => .array (.boolean)
  | 15 => .array (.int)
  | 16 => .array (.int)
  | 17 => .array (.int)
  | 18 => .array (.int)
  | 19 => .array (.int)
  | 20 => .array (.int)
  | 21 => .array (.int)
  | 22 => .array (.int)
  | 23 => .array (.int)
  | 24 => .array (.int)
  | 25 => .array (.int)
  | 26 => .array (.boolean)
  | 27 => .array (.int)
  | 28 => .array (.int)
  | 29 => .array (.int)
  | 30 => .array (.int)
  | 31 => .array (.int)
  | 32 => .array (.int)
  | 33 => .array (.int)
  | 34 => .array (.int)
  | 35 => .array (.int)
  | 36 => .array (.int)
  | 37 => .array (.int)
  | 38 => .array (.int)
  | 39 => .array (.int)
  | 40 => .array (.int)
  | 41 => .array (.int)
  | 42 => .array (.int)
  | 43 => .array (.boolean)
  | 44 => .array (.int)
  | 45 => .array (.int)
  | 46 => .int
  | 47 => .array (.int)
  | 48 => .int
  | _ => .int
def pb_cl : List vw_C := [("PassiveBuses", pb_T0, 5), ("PassiveBuses$Bus", pb_T1, 5), ("PassiveBuses$Row", pb_T2, 2), ("PassiveBuses$Frame", pb_T3, 5), ("PassiveBuses$Terminal", pb_T4, 16), ("PassiveBuses$Line", pb_T5, 6), ("PassiveBuses$Call", pb_T6, 13), ("PassiveBusesModel", pb_T7, 50)]
def pb_N (ci : Nat) : Nat := [5, 5, 2, 5, 16, 6, 13, 50].getD ci 0
def pb_ftl : List (List Nat) := [[2, 2, 0, 0, 0], [2, 2, 2, 0, 0], [2, 0], [0, 0, 0, 0, 0], [2, 1, 1, 1, 0, 0, 0, 0, 0, 0, 0, 0, 0, 0, 0, 0], [1, 0, 0, 1, 0, 0], [2, 0, 0, 0, 1, 0, 0, 0, 0, 0, 0, 0, 0], [2, 2, 2, 2, 2, 2, 2, 2, 2, 2, 2, 2, 2, 2, 2, 2, 2, 2, 2, 2, 2, 2, 2, 2, 2, 2, 2, 2, 2, 2, 2, 2, 2, 2, 2, 2, 2, 2, 2, 2, 2, 2, 2, 2, 2, 2, 0, 2, 0, 0]]
def pb_ft (ci k : Nat) : Nat := (pb_ftl.getD ci []).getD k 0
def pb_df (f : Nat) : Int := if pb_ft ((f - 1) / 100) ((f - 1) % 100) = 2 then -1 else 0
def pb_tys (dA : Nat → ClassId) : List (ClassId × FieldType) := [(dA 0, .int), (dA 1, .boolean), (dA 2, .object "PassiveBuses$Bus"), (dA 3, .object "PassiveBuses$Call"), (dA 4, .object "PassiveBuses$Terminal"), (dA 5, .object "PassiveBuses$Line"), (dA 6, .object "PassiveBuses$Frame")]
def pb_lay : List (Nat × Nat) := [(0, 0), (102, 2), (103, 4), (1, 0), (104, 4), (105, 4), (2, 0), (106, 24), (3, 0), (3, 0), (3, 0), (3, 0), (3, 0), (3, 0), (3, 0), (3, 0), (3, 0), (3, 0), (3, 0), (3, 0), (3, 0), (3, 0), (3, 0), (3, 0), (3, 0), (3, 0), (3, 0), (3, 0), (3, 0), (3, 0), (3, 0), (3, 0), (4, 0), (2, 0), (106, 8), (3, 0), (3, 0), (3, 0), (3, 0), (3, 0), (3, 0), (3, 0), (3, 0), (4, 0), (2, 0), (106, 8), (3, 0), (3, 0), (3, 0), (3, 0), (3, 0), (3, 0), (3, 0), (3, 0), (4, 0), (2, 0), (106, 8), (3, 0), (3, 0), (3, 0), (3, 0), (3, 0), (3, 0), (3, 0), (3, 0), (4, 0), (2, 0), (106, 8), (3, 0), (3, 0), (3, 0), (3, 0), (3, 0), (3, 0), (3, 0), (3, 0), (5, 0), (5, 0), (5, 0), (5, 0), (1, 0), (104, 4), (105, 4), (2, 0), (106, 24), (3, 0), (3, 0), (3, 0), (3, 0), (3, 0), (3, 0), (3, 0), (3, 0), (3, 0), (3, 0), (3, 0), (3, 0), (3, 0), (3, 0), (3, 0), (3, 0), (3, 0), (3, 0), (3, 0), (3, 0), (3, 0), (3, 0), (3, 0), (3, 0), (4, 0), (2, 0), (106, 8), (3, 0), (3, 0), (3, 0), (3, 0), (3, 0), (3, 0), (3, 0), (3, 0), (4, 0), (2, 0), (106, 8), (3, 0), (3, 0), (3, 0), (3, 0), (3, 0), (3, 0), (3, 0), (3, 0), (4, 0), (2, 0), (106, 8), (3, 0), (3, 0), (3, 0), (3, 0), (3, 0), (3, 0), (3, 0), (3, 0), (4, 0), (2, 0), (106, 8), (3, 0), (3, 0), (3, 0), (3, 0), (3, 0), (3, 0), (3, 0), (3, 0), (5, 0), (5, 0), (5, 0), (5, 0), (6, 0), (100, 4), (6, 0), (100, 4), (6, 0), (100, 4), (6, 0), (100, 4), (7, 0), (101, 8), (100, 8), (100, 8), (101, 8), (100, 8), (100, 8), (100, 8), (100, 8), (100, 8), (100, 8), (100, 8), (100, 8), (100, 8), (100, 8), (101, 8), (100, 8), (100, 64), (100, 64), (100, 64), (100, 64), (100, 2), (100, 48), (100, 48), (100, 48), (100, 48), (100, 48), (101, 8), (100, 8), (100, 8), (100, 8), (100, 8), (100, 2), (100, 2), (100, 4), (100, 4), (100, 4), (100, 4), (100, 4), (100, 4), (100, 4), (100, 4), (100, 4), (100, 4), (101, 4), (100, 4), (100, 16), (100, 4)]
def pb_kd (p : Int) : Nat := (pb_lay.getD p.toNat (999, 0)).1
def pb_ln (p : Int) : Int := (pb_lay.getD p.toNat (999, 0)).2
def pb_nest : List (String × Nat × MethodName × String) := [("PassiveBuses$Row", 19, ⟨"PassiveBuses$Frame", "<init>", "()V"⟩, "PassiveBuses"), ("PassiveBuses$Bus", 39, ⟨"PassiveBuses$Terminal", "<init>", "()V"⟩, "PassiveBuses"), ("PassiveBuses$Bus", 40, ⟨"PassiveBuses$Line", "<init>", "()V"⟩, "PassiveBuses"), ("PassiveBuses", 32, ⟨"PassiveBuses$Call", "<init>", "()V"⟩, "PassiveBuses")]
def pb_aos : List String := ["PassiveBuses$Bus", "PassiveBuses$Call", "PassiveBuses$Terminal", "PassiveBuses$Line", "PassiveBuses$Frame"]
def pb_ALL : List Cond := lw_tbl.filter goodWord
def pb_M : List (MethodName × ByteArray × Nat × Option FieldType × Nat × Nat × Nat) := [
  (⟨"java/lang/Integer", "compare", "(II)I"⟩, prog_10_method_40_code, 2, some .int, 0, 0, 0),
  (⟨"PassiveBuses", "<init>", "()V"⟩, prog_1_method_1_code, 2, none, 4, 164, 103),
  (⟨"PassiveBuses", "plug", "(III)Z"⟩, prog_1_method_2_code, 5, some .boolean, 3, 0, 67),
  (⟨"PassiveBuses", "unplug", "(II)Z"⟩, prog_1_method_3_code, 4, some .boolean, 3, 0, 64),
  (⟨"PassiveBuses", "dial", "(III)Z"⟩, prog_1_method_4_code, 5, some .boolean, 3, 0, 64),
  (⟨"PassiveBuses", "answer", "(II)Z"⟩, prog_1_method_5_code, 4, some .boolean, 3, 0, 64),
  (⟨"PassiveBuses", "hang", "(II)Z"⟩, prog_1_method_6_code, 4, some .boolean, 3, 0, 64),
  (⟨"PassiveBuses", "say", "(III)Z"⟩, prog_1_method_7_code, 5, some .boolean, 3, 0, 64),
  (⟨"PassiveBuses", "spoil", "(IZI)Z"⟩, prog_1_method_8_code, 4, some .boolean, 1, 0, 20),
  (⟨"PassiveBuses", "audit", "(II)Z"⟩, prog_1_method_9_code, 4, some .boolean, 1, 0, 25),
  (⟨"PassiveBuses", "run", "(I)I"⟩, prog_1_method_10_code, 5, some .int, 7, 0, 166),
  (⟨"PassiveBuses", "time", "()I"⟩, prog_1_method_11_code, 1, some .int, 0, 0, 0),
  (⟨"PassiveBuses", "state", "(II)I"⟩, prog_1_method_12_code, 4, some .int, 3, 0, 64),
  (⟨"PassiveBuses", "address", "(II)I"⟩, prog_1_method_13_code, 4, some .int, 3, 0, 64),
  (⟨"PassiveBuses", "reference", "(II)I"⟩, prog_1_method_14_code, 4, some .int, 3, 0, 64),
  (⟨"PassiveBuses", "channel", "(II)I"⟩, prog_1_method_15_code, 4, some .int, 3, 0, 64),
  (⟨"PassiveBuses", "cause", "(II)I"⟩, prog_1_method_16_code, 4, some .int, 3, 0, 64),
  (⟨"PassiveBuses", "ear", "(II)I"⟩, prog_1_method_17_code, 4, some .int, 3, 0, 64),
  (⟨"PassiveBuses", "waiting", "(IZ)I"⟩, prog_1_method_18_code, 3, some .int, 1, 0, 25),
  (⟨"PassiveBuses", "given", "(I)I"⟩, prog_1_method_19_code, 4, some .int, 1, 0, 20),
  (⟨"PassiveBuses", "holder", "(II)I"⟩, prog_1_method_20_code, 3, some .int, 3, 0, 67),
  (⟨"PassiveBuses", "phase", "(I)I"⟩, prog_1_method_21_code, 3, some .int, 0, 0, 0),
  (⟨"PassiveBuses", "isBus", "(I)Z"⟩, prog_1_method_22_code, 1, some .boolean, 0, 0, 0),
  (⟨"PassiveBuses", "isSocket", "(II)Z"⟩, prog_1_method_23_code, 2, some .boolean, 1, 0, 20),
  (⟨"PassiveBuses", "terminalAt", "(II)LPassiveBuses$Terminal;"⟩, prog_1_method_24_code, 4, some (.object "PassiveBuses$Terminal"), 2, 0, 41),
  (⟨"PassiveBuses", "stepUp", "(I)I"⟩, prog_1_method_25_code, 7, some .int, 6, 0, 140),
  (⟨"PassiveBuses", "stepDown", "(I)I"⟩, prog_1_method_26_code, 7, some .int, 5, 0, 112),
  (⟨"PassiveBuses", "receiveUp", "(ILPassiveBuses$Frame;I)V"⟩, prog_1_method_27_code, 5, none, 5, 0, 116),
  (⟨"PassiveBuses", "onSetup", "(ILPassiveBuses$Frame;)V"⟩, prog_1_method_28_code, 7, none, 4, 0, 90),
  (⟨"PassiveBuses", "onAlert", "(ILPassiveBuses$Frame;)V"⟩, prog_1_method_29_code, 4, none, 2, 0, 48),
  (⟨"PassiveBuses", "onConnect", "(ILPassiveBuses$Frame;)V"⟩, prog_1_method_30_code, 5, none, 3, 0, 67),
  (⟨"PassiveBuses", "refuse", "(ILPassiveBuses$Frame;I)V"⟩, prog_1_method_31_code, 4, none, 1, 0, 25),
  (⟨"PassiveBuses", "answerableCall", "(II)LPassiveBuses$Call;"⟩, prog_1_method_32_code, 5, some (.object "PassiveBuses$Call"), 1, 0, 20),
  (⟨"PassiveBuses", "hasLeg", "(ILPassiveBuses$Frame;)Z"⟩, prog_1_method_33_code, 4, some .boolean, 2, 0, 44),
  (⟨"PassiveBuses", "leaveLeg", "(ILPassiveBuses$Frame;)V"⟩, prog_1_method_34_code, 6, none, 3, 0, 72),
  (⟨"PassiveBuses", "callerGone", "(LPassiveBuses$Call;)V"⟩, prog_1_method_35_code, 2, none, 2, 0, 49),
  (⟨"PassiveBuses", "calledGone", "(LPassiveBuses$Call;I)V"⟩, prog_1_method_36_code, 4, none, 2, 0, 49),
  (⟨"PassiveBuses", "endCall", "(LPassiveBuses$Call;I)V"⟩, prog_1_method_37_code, 5, none, 1, 0, 25),
  (⟨"PassiveBuses", "forgetFinishedCalls", "()V"⟩, prog_1_method_38_code, 4, none, 1, 0, 24),
  (⟨"PassiveBuses", "dropAddress", "(II)V"⟩, prog_1_method_39_code, 6, none, 3, 0, 72),
  (⟨"PassiveBuses", "freeChannel", "(II)I"⟩, prog_1_method_40_code, 4, some .int, 3, 0, 67),
  (⟨"PassiveBuses", "numberHolding", "(II)I"⟩, prog_1_method_41_code, 4, some .int, 2, 0, 44),
  (⟨"PassiveBuses", "runClocks", "()V"⟩, prog_1_method_42_code, 6, none, 5, 0, 120),
  (⟨"PassiveBuses", "runAuditClock", "(II)V"⟩, prog_1_method_43_code, 4, none, 4, 0, 97),
  (⟨"PassiveBuses", "runCallClock", "(LPassiveBuses$Call;)V"⟩, prog_1_method_44_code, 2, none, 2, 0, 49),
  (⟨"PassiveBuses", "carrySpeech", "()V"⟩, prog_1_method_45_code, 6, none, 2, 0, 50),
  (⟨"PassiveBuses", "goesDown", "(II)I"⟩, prog_1_method_46_code, 5, some .int, 1, 0, 26),
  (⟨"PassiveBuses$Bus", "<init>", "()V"⟩, prog_2_method_1_code, 2, none, 3, 76, 82),
  (⟨"PassiveBuses$Bus", "lineOf", "(I)LPassiveBuses$Line;"⟩, prog_2_method_2_code, 3, some (.object "PassiveBuses$Line"), 0, 0, 0),
  (⟨"PassiveBuses$Bus", "countTerminalFrames", "()I"⟩, prog_2_method_3_code, 6, some .int, 0, 0, 0),
  (⟨"PassiveBuses$Bus", "hasEagerContender", "()Z"⟩, prog_2_method_4_code, 5, some .boolean, 1, 0, 21),
  (⟨"PassiveBuses$Bus", "contend", "()LPassiveBuses$Terminal;"⟩, prog_2_method_5_code, 7, some (.object "PassiveBuses$Terminal"), 3, 0, 67),
  (⟨"PassiveBuses$Bus", "settleSenders", "(Z)V"⟩, prog_2_method_6_code, 6, none, 4, 0, 87),
  (⟨"PassiveBuses$Bus", "exchangeListens", "(LPassiveBuses$Frame;)Z"⟩, prog_2_method_7_code, 3, some .boolean, 1, 0, 22),
  (⟨"PassiveBuses$Bus", "sendToAll", "(LPassiveBuses$Frame;)V"⟩, prog_2_method_8_code, 6, none, 4, 0, 87),
  (⟨"PassiveBuses$Bus", "sendToAddress", "(LPassiveBuses$Frame;I)Z"⟩, prog_2_method_9_code, 8, some .boolean, 3, 0, 64),
  (⟨"PassiveBuses$Bus", "giveAddress", "(I)V"⟩, prog_2_method_10_code, 4, none, 1, 0, 25),
  (⟨"PassiveBuses$Bus", "comesUp", "(I)I"⟩, prog_2_method_11_code, 7, some .int, 0, 0, 0),
  (⟨"PassiveBuses$Row", "<init>", "(I)V"⟩, prog_6_method_1_code, 3, none, 1, 9, 40),
  (⟨"PassiveBuses$Row", "<init>", "(I)V"⟩, prog_6_method_1_code, 3, none, 1, 25, 40),
  (⟨"PassiveBuses$Row", "put", "(IIII)V"⟩, prog_6_method_2_code, 6, none, 0, 0, 0),
  (⟨"PassiveBuses$Row", "first", "()LPassiveBuses$Frame;"⟩, prog_6_method_3_code, 1, some (.object "PassiveBuses$Frame"), 0, 0, 0),
  (⟨"PassiveBuses$Row", "removeFirst", "()V"⟩, prog_6_method_4_code, 3, none, 0, 0, 0),
  (⟨"PassiveBuses$Row", "removeNumbered", "(I)V"⟩, prog_6_method_5_code, 5, none, 1, 0, 20),
  (⟨"PassiveBuses$Row", "removeAll", "()V"⟩, prog_6_method_6_code, 1, none, 0, 0, 0),
  (⟨"PassiveBuses$Frame", "<init>", "()V"⟩, prog_4_method_1_code, 1, none, 0, 0, 20),
  (⟨"PassiveBuses$Frame", "isNumbered", "()Z"⟩, prog_4_method_2_code, 1, some .boolean, 0, 0, 0),
  (⟨"PassiveBuses$Frame", "failsForGood", "()Z"⟩, prog_4_method_3_code, 1, some .boolean, 0, 0, 0),
  (⟨"PassiveBuses$Frame", "compareNumbered", "(ILPassiveBuses$Frame;I)I"⟩, prog_4_method_4_code, 4, some .int, 1, 0, 21),
  (⟨"PassiveBuses$Frame", "compareLoose", "(LPassiveBuses$Frame;)I"⟩, prog_4_method_5_code, 2, some .int, 1, 0, 21),
  (⟨"PassiveBuses$Terminal", "<init>", "()V"⟩, prog_7_method_1_code, 1, none, 2, 10, 62),
  (⟨"PassiveBuses$Terminal", "plugIn", "(I)V"⟩, prog_7_method_2_code, 2, none, 2, 0, 46),
  (⟨"PassiveBuses$Terminal", "pullOut", "()V"⟩, prog_7_method_3_code, 1, none, 1, 0, 20),
  (⟨"PassiveBuses$Terminal", "startOver", "(I)V"⟩, prog_7_method_4_code, 2, none, 1, 0, 25),
  (⟨"PassiveBuses$Terminal", "startOverWithNextDraw", "()V"⟩, prog_7_method_5_code, 1, none, 2, 0, 46),
  (⟨"PassiveBuses$Terminal", "becomeNull", "()V"⟩, prog_7_method_6_code, 1, none, 0, 0, 0),
  (⟨"PassiveBuses$Terminal", "startCall", "(I)V"⟩, prog_7_method_7_code, 2, none, 1, 0, 25),
  (⟨"PassiveBuses$Terminal", "runClock", "()V"⟩, prog_7_method_8_code, 1, none, 3, 0, 66),
  (⟨"PassiveBuses$Terminal", "contends", "(Z)Z"⟩, prog_7_method_9_code, 2, some .boolean, 0, 0, 0),
  (⟨"PassiveBuses$Terminal", "compareFirst", "(LPassiveBuses$Terminal;)I"⟩, prog_7_method_10_code, 4, some .int, 2, 0, 44),
  (⟨"PassiveBuses$Terminal", "settle", "(Z)V"⟩, prog_7_method_11_code, 2, none, 3, 0, 66),
  (⟨"PassiveBuses$Terminal", "hear", "(LPassiveBuses$Frame;)V"⟩, prog_7_method_12_code, 2, none, 3, 0, 66),
  (⟨"PassiveBuses$Terminal", "receive", "(LPassiveBuses$Frame;I)V"⟩, prog_7_method_13_code, 4, none, 2, 0, 41),
  (⟨"PassiveBuses$Terminal", "follow", "(LPassiveBuses$Frame;)V"⟩, prog_7_method_14_code, 2, none, 1, 0, 20),
  (⟨"PassiveBuses$Line", "<init>", "()V"⟩, prog_5_method_1_code, 1, none, 0, 0, 20),
  (⟨"PassiveBuses$Call", "<init>", "()V"⟩, prog_3_method_1_code, 1, none, 0, 1, 20),
  (⟨"PassiveBuses$Call", "begin", "(III)V"⟩, prog_3_method_2_code, 5, none, 0, 0, 0),
  (⟨"PassiveBuses$Call", "setCaller", "(IIII)V"⟩, prog_3_method_3_code, 5, none, 0, 0, 0),
  (⟨"PassiveBuses$Call", "calledReference", "()I"⟩, prog_3_method_4_code, 1, some .int, 0, 0, 0),
  (⟨"PassiveBuses$Call", "isUnanswered", "()Z"⟩, prog_3_method_5_code, 1, some .boolean, 0, 0, 0),
  (⟨"PassiveBuses$Call", "legOf", "(I)I"⟩, prog_3_method_6_code, 3, some .int, 0, 0, 0),
  (⟨"PassiveBuses$Call", "setLeg", "(II)V"⟩, prog_3_method_7_code, 4, none, 0, 0, 0),
  (⟨"PassiveBuses$Call", "isRinging", "()Z"⟩, prog_3_method_8_code, 5, some .boolean, 0, 0, 0),
  (⟨"PassiveBuses$Call", "hasAnyLeg", "()Z"⟩, prog_3_method_9_code, 5, some .boolean, 0, 0, 0),
  (⟨"PassiveBuses$Call", "isCaller", "(ILPassiveBuses$Frame;)Z"⟩, prog_3_method_10_code, 3, some .boolean, 0, 0, 0),
  (⟨"PassiveBuses$Call", "isCalled", "(ILPassiveBuses$Frame;)Z"⟩, prog_3_method_11_code, 3, some .boolean, 1, 0, 22),
  (⟨"PassiveBuses$Call", "holds", "(II)Z"⟩, prog_3_method_12_code, 3, some .boolean, 1, 0, 22),
  (⟨"PassiveBusesModel", "<init>", "()V"⟩, prog_9_method_1_code, 1, none, 0, 47, 20),
  (⟨"PassiveBusesModel", "isBus", "(I)Z"⟩, prog_9_method_2_code, 1, some .boolean, 0, 0, 0),
  (⟨"PassiveBusesModel", "at", "(II)I"⟩, prog_9_method_3_code, 3, some .int, 1, 0, 20),
  (⟨"PassiveBusesModel", "up", "(IIII)V"⟩, prog_9_method_4_code, 6, none, 0, 0, 0),
  (⟨"PassiveBusesModel", "upGone", "(II)V"⟩, prog_9_method_5_code, 4, none, 0, 0, 0),
  (⟨"PassiveBusesModel", "down", "(IIIII)V"⟩, prog_9_method_6_code, 7, none, 0, 0, 0),
  (⟨"PassiveBusesModel", "downGone", "(II)V"⟩, prog_9_method_7_code, 4, none, 0, 0, 0),
  (⟨"PassiveBusesModel", "plug", "(III)Z"⟩, prog_9_method_8_code, 5, some .boolean, 2, 0, 46),
  (⟨"PassiveBusesModel", "nothing", "(I)V"⟩, prog_9_method_9_code, 2, none, 1, 0, 25),
  (⟨"PassiveBusesModel", "lose", "(I)V"⟩, prog_9_method_10_code, 2, none, 2, 0, 46),
  (⟨"PassiveBusesModel", "unplug", "(II)Z"⟩, prog_9_method_11_code, 4, some .boolean, 2, 0, 42),
  (⟨"PassiveBusesModel", "dial", "(III)Z"⟩, prog_9_method_12_code, 5, some .boolean, 2, 0, 42),
  (⟨"PassiveBusesModel", "answer", "(II)Z"⟩, prog_9_method_13_code, 4, some .boolean, 2, 0, 42),
  (⟨"PassiveBusesModel", "hang", "(II)Z"⟩, prog_9_method_14_code, 4, some .boolean, 2, 0, 42),
  (⟨"PassiveBusesModel", "say", "(III)Z"⟩, prog_9_method_15_code, 5, some .boolean, 2, 0, 42),
  (⟨"PassiveBusesModel", "spoil", "(IZI)Z"⟩, prog_9_method_16_code, 4, some .boolean, 1, 0, 20),
  (⟨"PassiveBusesModel", "audit", "(II)Z"⟩, prog_9_method_17_code, 3, some .boolean, 1, 0, 26),
  (⟨"PassiveBusesModel", "order", "(II)I"⟩, prog_9_method_18_code, 2, some .int, 0, 0, 0),
  (⟨"PassiveBusesModel", "compared", "(II)I"⟩, prog_9_method_19_code, 11, some .int, 1, 0, 21),
  (⟨"PassiveBusesModel", "contention", "(I)I"⟩, prog_9_method_20_code, 5, some .int, 2, 0, 51),
  (⟨"PassiveBusesModel", "upStep", "(I)V"⟩, prog_9_method_21_code, 10, none, 6, 0, 153),
  (⟨"PassiveBusesModel", "left", "(IIZ)V"⟩, prog_9_method_22_code, 4, none, 3, 0, 67),
  (⟨"PassiveBusesModel", "requested", "(II)V"⟩, prog_9_method_23_code, 5, none, 1, 0, 26),
  (⟨"PassiveBusesModel", "downStep", "(I)V"⟩, prog_9_method_24_code, 10, none, 5, 0, 121),
  (⟨"PassiveBusesModel", "hears", "(IIIII)V"⟩, prog_9_method_25_code, 6, none, 3, 0, 67),
  (⟨"PassiveBusesModel", "told", "(IIII)V"⟩, prog_9_method_26_code, 7, none, 1, 0, 25),
  (⟨"PassiveBusesModel", "after", "(I)I"⟩, prog_9_method_27_code, 4, some .int, 0, 0, 0),
  (⟨"PassiveBusesModel", "callOf", "(I)I"⟩, prog_9_method_28_code, 3, some .int, 0, 0, 0),
  (⟨"PassiveBusesModel", "open", "(I)Z"⟩, prog_9_method_29_code, 2, some .boolean, 0, 0, 0),
  (⟨"PassiveBusesModel", "holder", "(II)I"⟩, prog_9_method_30_code, 6, some .int, 1, 0, 21),
  (⟨"PassiveBusesModel", "freeChannel", "(III)I"⟩, prog_9_method_31_code, 5, some .int, 2, 0, 46),
  (⟨"PassiveBusesModel", "ends", "(II)V"⟩, prog_9_method_32_code, 4, none, 2, 0, 49),
  (⟨"PassiveBusesModel", "leave", "(III)V"⟩, prog_9_method_33_code, 4, none, 1, 0, 26),
  (⟨"PassiveBusesModel", "ringing", "(I)I"⟩, prog_9_method_34_code, 4, some .int, 0, 0, 0),
  (⟨"PassiveBusesModel", "gone", "(II)V"⟩, prog_9_method_35_code, 6, none, 3, 0, 72),
  (⟨"PassiveBusesModel", "isCaller", "(III)Z"⟩, prog_9_method_36_code, 4, some .boolean, 0, 0, 0),
  (⟨"PassiveBusesModel", "isCalled", "(III)Z"⟩, prog_9_method_37_code, 4, some .boolean, 0, 0, 0),
  (⟨"PassiveBusesModel", "drop", "(II)V"⟩, prog_9_method_38_code, 5, none, 4, 0, 97),
  (⟨"PassiveBusesModel", "does", "(IIIII)V"⟩, prog_9_method_39_code, 8, none, 5, 0, 126),
  (⟨"PassiveBusesModel", "callsWith", "(III)Z"⟩, prog_9_method_40_code, 6, some .boolean, 1, 0, 23),
  (⟨"PassiveBusesModel", "ended", "(IIII)V"⟩, prog_9_method_41_code, 10, none, 4, 0, 97),
  (⟨"PassiveBusesModel", "setup", "(IIII)V"⟩, prog_9_method_42_code, 10, none, 3, 0, 70),
  (⟨"PassiveBusesModel", "alerts", "(II)V"⟩, prog_9_method_43_code, 3, none, 1, 0, 26),
  (⟨"PassiveBusesModel", "connects", "(III)V"⟩, prog_9_method_44_code, 5, none, 2, 0, 49),
  (⟨"PassiveBusesModel", "clocks", "()V"⟩, prog_9_method_45_code, 3, none, 6, 0, 144),
  (⟨"PassiveBusesModel", "retry", "(I)V"⟩, prog_9_method_46_code, 3, none, 1, 0, 25),
  (⟨"PassiveBusesModel", "audited", "(III)V"⟩, prog_9_method_47_code, 4, none, 5, 0, 121),
  (⟨"PassiveBusesModel", "late", "(I)V"⟩, prog_9_method_48_code, 2, none, 3, 0, 72),
  (⟨"PassiveBusesModel", "comes", "(II)I"⟩, prog_9_method_49_code, 5, some .int, 0, 0, 0),
  (⟨"PassiveBusesModel", "speak", "()V"⟩, prog_9_method_50_code, 3, none, 1, 0, 24),
  (⟨"PassiveBusesModel", "run", "(I)I"⟩, prog_9_method_51_code, 4, some .int, 7, 0, 182),
  (⟨"PassiveBusesModel", "time", "()I"⟩, prog_9_method_52_code, 1, some .int, 0, 0, 0),
  (⟨"PassiveBusesModel", "state", "(II)I"⟩, prog_9_method_53_code, 4, some .int, 2, 0, 42),
  (⟨"PassiveBusesModel", "address", "(II)I"⟩, prog_9_method_54_code, 4, some .int, 2, 0, 42),
  (⟨"PassiveBusesModel", "reference", "(II)I"⟩, prog_9_method_55_code, 4, some .int, 2, 0, 42),
  (⟨"PassiveBusesModel", "channel", "(II)I"⟩, prog_9_method_56_code, 4, some .int, 2, 0, 42),
  (⟨"PassiveBusesModel", "cause", "(II)I"⟩, prog_9_method_57_code, 4, some .int, 2, 0, 42),
  (⟨"PassiveBusesModel", "ear", "(II)I"⟩, prog_9_method_58_code, 4, some .int, 2, 0, 42),
  (⟨"PassiveBusesModel", "waiting", "(IZ)I"⟩, prog_9_method_59_code, 5, some .int, 1, 0, 20),
  (⟨"PassiveBusesModel", "given", "(I)I"⟩, prog_9_method_60_code, 4, some .int, 1, 0, 20),
  (⟨"PassiveBusesModel", "phase", "(I)I"⟩, prog_9_method_61_code, 3, some .int, 1, 0, 22),
  (⟨"PassiveBusesLaw", "law", "([I)Z"⟩, code, 4, some .boolean, 8, 213, 205)]
def pb_M0 : MethodName × ByteArray × Nat × Option FieldType × Nat × Nat × Nat := (⟨"", "", ""⟩, ⟨#[]⟩, 0, none, 0, 0, 0)
abbrev i_J_compare : Nat := 0
abbrev i_P_init : Nat := 1
abbrev i_P_plug : Nat := 2
abbrev i_P_unplug : Nat := 3
abbrev i_P_dial : Nat := 4
abbrev i_P_answer : Nat := 5
abbrev i_P_hang : Nat := 6
abbrev i_P_say : Nat := 7
abbrev i_P_spoil : Nat := 8
abbrev i_P_audit : Nat := 9
abbrev i_P_run : Nat := 10
abbrev i_P_time : Nat := 11
abbrev i_P_state : Nat := 12
abbrev i_P_address : Nat := 13
abbrev i_P_reference : Nat := 14
abbrev i_P_channel : Nat := 15
abbrev i_P_cause : Nat := 16
abbrev i_P_ear : Nat := 17
abbrev i_P_waiting : Nat := 18
abbrev i_P_given : Nat := 19
abbrev i_P_holder : Nat := 20
abbrev i_P_phase : Nat := 21
abbrev i_P_isBus : Nat := 22
abbrev i_P_isSocket : Nat := 23
abbrev i_P_terminalAt : Nat := 24
abbrev i_P_stepUp : Nat := 25
abbrev i_P_stepDown : Nat := 26
abbrev i_P_receiveUp : Nat := 27
abbrev i_P_onSetup : Nat := 28
abbrev i_P_onAlert : Nat := 29
abbrev i_P_onConnect : Nat := 30
abbrev i_P_refuse : Nat := 31
abbrev i_P_answerableCall : Nat := 32
abbrev i_P_hasLeg : Nat := 33
abbrev i_P_leaveLeg : Nat := 34
abbrev i_P_callerGone : Nat := 35
abbrev i_P_calledGone : Nat := 36
abbrev i_P_endCall : Nat := 37
abbrev i_P_forgetFinishedCalls : Nat := 38
abbrev i_P_dropAddress : Nat := 39
abbrev i_P_freeChannel : Nat := 40
abbrev i_P_numberHolding : Nat := 41
abbrev i_P_runClocks : Nat := 42
abbrev i_P_runAuditClock : Nat := 43
abbrev i_P_runCallClock : Nat := 44
abbrev i_P_carrySpeech : Nat := 45
abbrev i_P_goesDown : Nat := 46
abbrev i_B_init : Nat := 47
abbrev i_B_lineOf : Nat := 48
abbrev i_B_countTerminalFrames : Nat := 49
abbrev i_B_hasEagerContender : Nat := 50
abbrev i_B_contend : Nat := 51
abbrev i_B_settleSenders : Nat := 52
abbrev i_B_exchangeListens : Nat := 53
abbrev i_B_sendToAll : Nat := 54
abbrev i_B_sendToAddress : Nat := 55
abbrev i_B_giveAddress : Nat := 56
abbrev i_B_comesUp : Nat := 57
abbrev i_R_init8 : Nat := 58
abbrev i_R_init24 : Nat := 59
abbrev i_R_put : Nat := 60
abbrev i_R_first : Nat := 61
abbrev i_R_removeFirst : Nat := 62
abbrev i_R_removeNumbered : Nat := 63
abbrev i_R_removeAll : Nat := 64
abbrev i_F_init : Nat := 65
abbrev i_F_isNumbered : Nat := 66
abbrev i_F_failsForGood : Nat := 67
abbrev i_F_compareNumbered : Nat := 68
abbrev i_F_compareLoose : Nat := 69
abbrev i_T_init : Nat := 70
abbrev i_T_plugIn : Nat := 71
abbrev i_T_pullOut : Nat := 72
abbrev i_T_startOver : Nat := 73
abbrev i_T_startOverWithNextDraw : Nat := 74
abbrev i_T_becomeNull : Nat := 75
abbrev i_T_startCall : Nat := 76
abbrev i_T_runClock : Nat := 77
abbrev i_T_contends : Nat := 78
abbrev i_T_compareFirst : Nat := 79
abbrev i_T_settle : Nat := 80
abbrev i_T_hear : Nat := 81
abbrev i_T_receive : Nat := 82
abbrev i_T_follow : Nat := 83
abbrev i_L_init : Nat := 84
abbrev i_C_init : Nat := 85
abbrev i_C_begin : Nat := 86
abbrev i_C_setCaller : Nat := 87
abbrev i_C_calledReference : Nat := 88
abbrev i_C_isUnanswered : Nat := 89
abbrev i_C_legOf : Nat := 90
abbrev i_C_setLeg : Nat := 91
abbrev i_C_isRinging : Nat := 92
abbrev i_C_hasAnyLeg : Nat := 93
abbrev i_C_isCaller : Nat := 94
abbrev i_C_isCalled : Nat := 95
abbrev i_C_holds : Nat := 96
abbrev i_M_init : Nat := 97
abbrev i_M_isBus : Nat := 98
abbrev i_M_at : Nat := 99
abbrev i_M_up : Nat := 100
abbrev i_M_upGone : Nat := 101
abbrev i_M_down : Nat := 102
abbrev i_M_downGone : Nat := 103
abbrev i_M_plug : Nat := 104
abbrev i_M_nothing : Nat := 105
abbrev i_M_lose : Nat := 106
abbrev i_M_unplug : Nat := 107
abbrev i_M_dial : Nat := 108
abbrev i_M_answer : Nat := 109
abbrev i_M_hang : Nat := 110
abbrev i_M_say : Nat := 111
abbrev i_M_spoil : Nat := 112
abbrev i_M_audit : Nat := 113
abbrev i_M_order : Nat := 114
abbrev i_M_compared : Nat := 115
abbrev i_M_contention : Nat := 116
abbrev i_M_upStep : Nat := 117
abbrev i_M_left : Nat := 118
abbrev i_M_requested : Nat := 119
abbrev i_M_downStep : Nat := 120
abbrev i_M_hears : Nat := 121
abbrev i_M_told : Nat := 122
abbrev i_M_after : Nat := 123
abbrev i_M_callOf : Nat := 124
abbrev i_M_open : Nat := 125
abbrev i_M_holder : Nat := 126
abbrev i_M_freeChannel : Nat := 127
abbrev i_M_ends : Nat := 128
abbrev i_M_leave : Nat := 129
abbrev i_M_ringing : Nat := 130
abbrev i_M_gone : Nat := 131
abbrev i_M_isCaller : Nat := 132
abbrev i_M_isCalled : Nat := 133
abbrev i_M_drop : Nat := 134
abbrev i_M_does : Nat := 135
abbrev i_M_callsWith : Nat := 136
abbrev i_M_ended : Nat := 137
abbrev i_M_setup : Nat := 138
abbrev i_M_alerts : Nat := 139
abbrev i_M_connects : Nat := 140
abbrev i_M_clocks : Nat := 141
abbrev i_M_retry : Nat := 142
abbrev i_M_audited : Nat := 143
abbrev i_M_late : Nat := 144
abbrev i_M_comes : Nat := 145
abbrev i_M_speak : Nat := 146
abbrev i_M_run : Nat := 147
abbrev i_M_time : Nat := 148
abbrev i_M_state : Nat := 149
abbrev i_M_address : Nat := 150
abbrev i_M_reference : Nat := 151
abbrev i_M_channel : Nat := 152
abbrev i_M_cause : Nat := 153
abbrev i_M_ear : Nat := 154
abbrev i_M_waiting : Nat := 155
abbrev i_M_given : Nat := 156
abbrev i_M_phase : Nat := 157
abbrev i_W_law : Nat := 158
